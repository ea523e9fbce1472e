/-! publish, and set, on both sides -/
theorem g_rd {V W : Nat → Nat} (E : ∀ j, j < 209 → W j = V j) {p i : Nat} (hi : i < 40) : rd W p i = rd V p i := by unfold rd; rw [E _ (by omega)]
theorem g_trt {V W : Nat → Nat} (E : ∀ j, j < 209 → W j = V j) {p i : Nat} (hi : i < 40) : trt W p i = trt V p i := by unfold trt; rw [E _ (by omega)]
theorem g_lok {V W : Nat → Nat} (E : ∀ j, j < 209 → W j = V j) {i : Nat} (hi : i < 40) : lok W i = lok V i := by unfold lok; rw [E _ (by omega)]
theorem g_own {V W : Nat → Nat} (E : ∀ j, j < 209 → W j = V j) {p i : Nat} (hi : i < 40) : own W p i = own V p i := by unfold own; rw [g_rd E hi, g_trt E hi, g_lok E hi]
theorem g_bk {V W : Nat → Nat} (E : ∀ j, j < 209 → W j = V j) {m : Nat} : ∀ {k : Nat}, k ≤ 40 → bk W m k = bk V m k
  | 0, _ => rfl
  | k + 1, h => by unfold bk; rw [E _ (by omega), g_bk E (by omega)]
theorem g_fw {V W : Nat → Nat} (E : ∀ j, j < 209 → W j = V j) {m : Nat} : ∀ {f k : Nat}, k + f ≤ 40 → fw W m k f = fw V m k f
  | 0, _, _ => rfl
  | f + 1, k, h => by unfold fw; rw [E _ (by omega), g_fw E (by omega)]
theorem g_dn {V W : Nat → Nat} (E : ∀ j, j < 209 → W j = V j) {i : Nat} (hi : i < 40) : dn W i = dn V i := by unfold dn; rw [E _ (by omega), g_bk E (by omega)]
theorem g_up {V W : Nat → Nat} (E : ∀ j, j < 209 → W j = V j) {i : Nat} (h40 : V 0 ≤ 40) (hi : i < V 0) : up W i = up V i := by unfold up; rw [E _ (by omega), E 0 (by omega), g_fw E (by omega)]
theorem g_lkD {V W : Nat → Nat} (E : ∀ j, j < 209 → W j = V j) {p i : Nat} (hi : i < 40) : lkD W p i = lkD V p i := by
  unfold lkD
  rw [g_dn E hi]
  cases h : dn V i with
  | none => rfl
  | some j =>
    have hj := (bk_some h).1
    dsimp only
    rw [E _ (by omega), E _ (by omega), g_rd E hi, g_rd E (by omega)]
theorem g_lkU {V W : Nat → Nat} (E : ∀ j, j < 209 → W j = V j) {p i : Nat} (h40 : V 0 ≤ 40) (hi : i < V 0) : lkU W p i = lkU V p i := by
  unfold lkU
  rw [g_up E h40 hi]
  cases h : up V i with
  | none => rfl
  | some j =>
    obtain ⟨g1, g2, -⟩ := fw_some h
    dsimp only
    rw [E _ (by omega), E _ (by omega), g_rd E (by omega), g_rd E (by omega)]
theorem g_D {V W : Nat → Nat} (E : ∀ j, j < 209 → W j = V j) {p : Nat} : ∀ (f : Nat) {i : Nat}, i < 40 → fst' W p f i = fst' V p f i ∧ cntD' W p f i = cntD' V p f i ∧ dmD' W p f i = dmD' V p f i
  | 0, i, hi => ⟨rfl, rfl, g_own E hi⟩
  | f + 1, i, hi => by
    unfold fst' cntD' dmD'
    rw [g_lkD E hi, g_own E hi]
    cases h : lkD V p i with
    | none => exact ⟨rfl, rfl, rfl⟩
    | some j =>
      have hj := lkD_lt h
      obtain ⟨a, b, c⟩ := g_D E (p := p) f (i := j) (by omega)
      dsimp only
      rw [a, b, c]
      exact ⟨rfl, rfl, rfl⟩
theorem g_U {V W : Nat → Nat} (E : ∀ j, j < 209 → W j = V j) {p : Nat} (h40 : V 0 ≤ 40) : ∀ (f : Nat) {i : Nat}, i < V 0 → lst' W p f i = lst' V p f i
  | 0, i, hi => rfl
  | f + 1, i, hi => by
    unfold lst'
    rw [g_lkU E h40 hi]
    cases h : lkU V p i with
    | none => rfl
    | some j => exact g_U E h40 f (lkU_lt h).2
theorem g_lst {V W : Nat → Nat} (E : ∀ j, j < 209 → W j = V j) {p i : Nat} (h40 : V 0 ≤ 40) (hi : i < V 0) : lst W p i = lst V p i := by
  unfold lst
  rw [E 0 (by omega)]
  exact g_U E h40 _ hi
theorem g_rl {V W : Nat → Nat} (E : ∀ j, j < 209 → W j = V j) {p i : Nat} (h40 : V 0 ≤ 40) (hi : i < V 0) : rl W p i = rl V p i := by
  have := lst_ge (p := p) i hi
  unfold rl cntD
  rw [g_lst E h40 hi]
  exact (g_D E _ (by omega)).2.1
theorem g_rm {V W : Nat → Nat} (E : ∀ j, j < 209 → W j = V j) {p i : Nat} (h40 : V 0 ≤ 40) (hi : i < V 0) : rm W p i = rm V p i := by
  have := lst_ge (p := p) i hi
  unfold rm dmD
  rw [g_lst E h40 hi]
  exact (g_D E _ (by omega)).2.2
theorem g_dirt {V W : Nat → Nat} (E : ∀ j, j < 209 → W j = V j) {L p i : Nat} (h40 : V 0 ≤ 40) (hi : i < V 0) : dirt W L p i = dirt V L p i := by
  unfold dirt
  rw [g_rd E (by omega), g_rl E h40 hi, g_rm E h40 hi]
theorem g_clr {V W : Nat → Nat} (E : ∀ j, j < 209 → W j = V j) {L p i : Nat} (h40 : V 0 ≤ 40) (hi : i < V 0) : clr W L p i = clr V L p i := by
  unfold clr
  rw [g_rd E (by omega), g_trt E (by omega), g_lok E (by omega), g_dirt E h40 hi]
theorem g_mk {V W : Nat → Nat} (E : ∀ j, j < 209 → W j = V j) {L p i : Nat} (h40 : V 0 ≤ 40) (hi : i < V 0) : mk W L p i = mk V L p i := by
  unfold mk
  rw [g_clr E h40 hi, g_lok E (by omega), E 3 (by omega), E 4 (by omega)]
theorem g_oc {V W : Nat → Nat} (E : ∀ j, j < 209 → W j = V j) {L c i : Nat} (h40 : V 0 ≤ 40) (hi : i < V 0) : oc W L c i = oc V L c i := by
  unfold oc
  rw [g_mk E h40 hi, g_mk E h40 hi, g_mk E h40 hi]
theorem g_pkd {V W : Nat → Nat} (E : ∀ j, j < 209 → W j = V j) {L i : Nat} (h40 : V 0 ≤ 40) (hi : i < V 0) : pkd W L i = pkd V L i := by
  unfold pkd
  rw [g_oc E h40 hi, g_oc E h40 hi, g_oc E h40 hi, g_oc E h40 hi]
/-- V with the outcomes of n cards in version v, f telling them -/
def pbV (T : Nat → Nat) (v n : Nat) (f : Nat → Nat) : Nat → Nat := fun j => if 209 + 41 * v + 1 ≤ j ∧ j < 209 + 41 * v + 1 + n then f (j - (209 + 41 * v + 1)) else T j
theorem pbV_n {T : Nat → Nat} {v n j : Nat} {f : Nat → Nat} (h : ¬ (209 + 41 * v + 1 ≤ j ∧ j < 209 + 41 * v + 1 + n)) : pbV T v n f j = T j := if_neg h
theorem BK.put_vo {h : Hp} {b a0 : Nat} {T : Nat → Nat} {f : Nat → Nat} (B : BK h b T) {v n : Nat} (hv : v < 6) (h0 : 0 < n) (hn : n ≤ 40) (src : ∀ i, i < n → gI h a0 0 (nI i) = some (nI (f i))) : ∃ h', cpI h a0 (nI 0) (b + 9) (nI (v * 40)) (nI n) = some h' ∧ (∀ q, q ≠ b + 9 → h' q = h q) ∧ BK h' b (pbV T v n f) := by
  have s1 := src (n - 1) (by omega)
  have d1 := B.vo hv (i := n - 1) (by omega)
  obtain ⟨h', e, oo, g⟩ := cpI_w (a0 := a0) (a := b + 9) (sp := 0) (dp := v * 40) (n := n) h0 (by omega) (by omega) (by rw [Nat.zero_add]; exact s1) (by rw [show v * 40 + n - 1 = v * 40 + (n - 1) by omega]; exact d1)
  obtain ⟨b0, b1, b2, b3, b4, b5, b6, b7, b8, b9, b10, b11, b12⟩ := B
  refine ⟨h', e, oo, isO_c (oo _ (by omega)) b0, ?_, ?_, fun k hk => ?_, fun j hj => ?_, fun j hj => ?_, fun j hj => ?_, fun j hj => ?_, fun j hj => ?_, fun j hj => ?_, fun j hj => ?_, fun j hj => ?_, fun u hu j hj => ?_⟩
  · rw [gF_c (oo _ (by omega)), pbV_n (by omega)]; exact b1
  · rw [gF_c (oo _ (by omega)), pbV_n (by omega)]; exact b2
  · rw [gF_c (oo _ (by omega))]; exact b3 k hk
  · rw [gI_c (oo _ (by omega)), pbV_n (by omega)]; exact b4 j hj
  · rw [gI_c (oo _ (by omega)), pbV_n (by omega)]; exact b5 j hj
  · rw [gI_c (oo _ (by omega)), pbV_n (by omega)]; exact b6 j hj
  · rw [gL_c (oo _ (by omega)), pbV_n (by omega)]; exact b7 j hj
  · rw [gL_c (oo _ (by omega)), pbV_n (by omega)]; exact b8 j hj
  · rw [gI_c (oo _ (by omega)), pbV_n (by omega)]; exact b9 j hj
  · rw [gI_c (oo _ (by omega)), pbV_n (by omega)]; exact b10 j hj
  · rw [gI_c (oo _ (by omega)), pbV_n (by omega)]; exact b11 j hj
  · rw [g (u * 40 + j) (by omega)]
    by_cases z : u = v ∧ j < n
    · obtain ⟨rfl, z⟩ := z
      rw [if_pos (by omega), Nat.zero_add, show u * 40 + j - u * 40 = j by omega, src j z]
      unfold pbV
      rw [if_pos (by omega), show 209 + 41 * u + 1 + j - (209 + 41 * u + 1) = j by omega]
    · rw [if_neg (by omega), pbV_n (by omega)]
      exact b12 u hu j hj
/-- all of a publication -/
def puV (V : Nat → Nat) : Nat → Nat := u1 (u1 (pbV V (V 1) (V 0) (pkd V (V 2))) (209 + 41 * V 1) (V 0)) 1 (V 1 + 1)
section AC3
variable {N : Nat} {V : Nat → Nat}
theorem puV_ok (k : OK N V) (h6 : V 1 < 6) : OK (N + 1) (puV V) := by
  obtain ⟨⟨a0, a1, a2, a3, a4, a5⟩, b, c, e, f⟩ := k
  have lo : ∀ j, j ≠ 1 → j < 209 → puV V j = V j := fun j h1 h2 => by
    unfold puV
    rw [u1_n h1, u1_n (by omega), pbV_n (by omega)]
  have p1 : puV V 1 = V 1 + 1 := u1_s _ _ _
  have pc : ∀ u, puV V (209 + 41 * u) = if u = V 1 then V 0 else V (209 + 41 * u) := fun u => by
    unfold puV
    rw [u1_n (by omega)]
    by_cases z : u = V 1
    · rw [if_pos z, z, u1_s]
    · rw [if_neg z, u1_n (by omega), pbV_n (by omega)]
  have po : ∀ u i, i < 40 → puV V (209 + 41 * u + 1 + i) < 4096 ∨ puV V (209 + 41 * u + 1 + i) = V (209 + 41 * u + 1 + i) := fun u i hi => by
    unfold puV
    rw [u1_n (by omega), u1_n (by omega)]
    unfold pbV
    split
    · exact Or.inl (pkd_lt _ _ _)
    · exact Or.inr rfl
  refine ⟨⟨?_, ?_, ?_, ?_, ?_, ?_⟩, fun i hi => ?_, fun j hj => ?_, fun v hv => ⟨?_, fun i hi => ?_⟩, fun u hu => ?_⟩
  · rw [lo _ (by omega) (by omega)]; exact a0
  · rw [p1]; omega
  · rw [lo _ (by omega) (by omega)]; exact a2
  · rw [lo _ (by omega) (by omega)]; exact a3
  · rw [lo _ (by omega) (by omega)]; exact a4
  · rw [lo _ (by omega) (by omega)]; exact a5
  · rw [lo _ (by omega) (by omega), lo _ (by omega) (by omega), lo _ (by omega) (by omega), lo _ (by omega) (by omega), lo _ (by omega) (by omega)]
    obtain ⟨b1, b2, b3, b4, b5⟩ := b i hi
    exact ⟨b1, b2, by omega, b4, b5⟩
  · rw [lo _ (by omega) (by omega)]; have := c j hj; omega
  · rw [pc]
    split
    · exact a0
    · exact (e v hv).1
  · rcases po v i hi with q | q
    · exact q
    · rw [q]; exact (e v hv).2 i hi
  · rw [p1] at hu
    rw [pc, lo 0 (by omega) (by omega)]
    split
    · exact Nat.le_refl _
    · exact f u (by omega)
theorem act_publish (k : OK N V) (hN : N < 2 ^ 29) : Act N V (fun z => wp_X1_publishVersion (z + 1)) (fun M => wp_X9_publishes M) := by
  have o := k.c
  have d := k.d (by omega)
  have ee := k.e
  have h40 := o.1
  have h6 := o.2.1
  have h2 := o.2.2.1
  obtain ⟨-, -, -, -, -, h20⟩ := id o
  have cu := cnt_le (fun i => decide (chs V i ≠ 0 ∧ ¬ (1 = 1 ∧ lok V i = true))) (V 0)
  have cc := cnt_le (fun i => decide (chs V i ≠ 0 ∧ ¬ (0 = 1 ∧ lok V i = true))) (V 0)
  by_cases e0 : V 0 = 0
  · exact ⟨-2, V, Or.inl ⟨m2_lt.1, m2_lt.2, rfl⟩, fun h z F K C hk => ⟨_, C.2.1, C.S.o C.w, c_workOut C.S C.w o d ee (fun h1 F1 w1 W1 => ⟨_, (C.sight w1).2.2.1, _, (C.sight w1).B.cards, b_eq (b := 0) (by omega) (by omega) (fun _ => hk h1 F1 (fun q hq => w1.1 q (by omega)) (C.sight w1)) (fun q => absurd e0 q)⟩)⟩, fun h M K R P hk => ⟨_, R.2.1, _, R.at 0 rfl (by omega), l_eq (b := 0) (by omega) (by omega) (fun _ => hk h (fun _ _ _ => rfl) R P) (fun q => absurd e0 q)⟩⟩
  · by_cases e1 : cnt (fun i => decide (chs V i ≠ 0 ∧ ¬ (1 = 1 ∧ lok V i = true))) (V 0) ≤ V 5
    · by_cases e2 : V 1 = 6
      · refine ⟨-3, V, Or.inl ⟨m3_lt.1, m3_lt.2, rfl⟩, fun h z F K C hk => ⟨_, C.2.1, C.S.o C.w, c_workOut C.S C.w o d ee (fun h1 F1 w1 W1 => ?_)⟩, fun h M K R P hk => ?_⟩
        · have C1 := C.sight w1
          have n3 : gI h1 (z + 2 + 1 + 7) 0 (nI 3) = some (nI (V 5)) := C1.B.n (i := 3) (by omega)
          exact ⟨_, C1.2.2.1, _, C1.B.cards, b_eq (b := 0) (by omega) (by omega) (fun q => absurd q e0) (fun _ => ⟨_, C1.2.1, C1.S.o C1.w, c_unseenChanging C1.S C1.w o d W1 ⟨_, C1.2.2.1, _, C1.B.fn, _, n3, b_le (by omega) (by omega) (fun _ => ⟨_, C1.2.2.1, _, C1.B.vers, b_lt (by omega) (by omega) (fun q => by omega) (fun _ => hk h1 F1 (fun q hq => w1.1 q (by omega)) C1)⟩) (fun q => by omega)⟩⟩)⟩
        · refine ⟨_, R.2.1, _, R.at 0 rfl (by omega), l_eq (b := 0) (by omega) (by omega) (fun q => absurd q e0) (fun _ => ⟨R.1, e_changing R o d ee (u := 1) (by omega) ⟨_, R.2.1, _, R.at 5 rfl (by omega), ?_⟩⟩)⟩
          rw [nI_l (by omega)]
          exact l_le (by omega) (by omega) (fun _ => ⟨_, R.2.1, _, R.at 1 rfl (by omega), l_ne (by omega) (by omega) (fun q => absurd e2 q) (fun _ => hk h (fun _ _ _ => rfl) R P)⟩) (fun q => by omega)
      · have e3 : V 1 < 6 := by omega
        refine ⟨nI (cnt (fun i => decide (chs V i ≠ 0 ∧ ¬ (0 = 1 ∧ lok V i = true))) (V 0)), puV V, Or.inr ⟨by rw [nI_toInt (by omega)]; omega, puV_ok k e3, fun i hi => by unfold puV; rw [u1_n (by omega), u1_n (by omega), pbV_n (by omega)]⟩, fun h z F K C hk => ⟨_, C.2.1, C.S.o C.w, c_workOut C.S C.w o d ee (fun h1 F1 w1 W1 => ?_)⟩, fun h M K R P hk => ?_⟩
        · have C1 := C.sight w1
          have n3 : gI h1 (z + 2 + 1 + 7) 0 (nI 3) = some (nI (V 5)) := C1.B.n (i := 3) (by omega)
          obtain ⟨h2', e2', o2, B2⟩ := C1.B.put_vo (a0 := z + 2 + 11 + 10) (f := pkd V (V 2)) (v := V 1) (n := V 0) e3 (by omega) h40 (fun i hi => C1.w.gv (k := 10) (by omega) (by omega) (by show _ < 40; omega) (W1.2.2.1 i hi).2.1)
          have C2 := C1.books (fun q hq => o2 q (by omega)) B2
          have b0 := B2.cards
          rw [pbV_n (by omega)] at b0
          have bv := B2.vers
          rw [pbV_n (by omega)] at bv
          obtain ⟨h3, e3', o3, B3⟩ := B2.put_v e3 (V 0)
          have C3 := C2.books (fun q hq => o3 q (by omega)) B3
          have bv3 := B3.vers
          rw [u1_n (by omega), pbV_n (by omega)] at bv3
          obtain ⟨h4, e4, o4, B4⟩ := B3.put_f1 (V 1 + 1)
          have C4 : CK h4 z (puV V) F1 := C3.books (fun q hq => o4 q (by omega)) B4
          refine ⟨_, C1.2.2.1, _, C1.B.cards, b_eq (b := 0) (by omega) (by omega) (fun q => absurd q e0) (fun _ => ⟨_, C1.2.1, C1.S.o C1.w, c_unseenChanging C1.S C1.w o d W1 ⟨_, C1.2.2.1, _, C1.B.fn, _, n3, b_le (by omega) (by omega) (fun _ => ⟨_, C1.2.2.1, _, C1.B.vers, b_lt (by omega) (by omega) (fun _ => ⟨_, C1.2.1, C1.S.o C1.w, c_cardsChanging C1.S C1.w o W1 ⟨_, C1.2.2.1, _, C1.2.1, _, C1.S.f C1.w (k := 10) (by omega), C1.B.o, _, C1.B.vers, b_le (by omega) (by omega) (fun q => by omega) (fun _ => ⟨_, C1.w.2.2, _, C1.B.cards, b_le (by omega) (by omega) (fun _ => ⟨_, C1.B.fo, _, C1.B.vers, _, C1.B.cards, h2', (by rw [nI_mul]; exact e2'), _, B2.fv, _, bv, _, b0, h3, e3', _, bv3, h4, (by rw [nI_add]; exact e4), hk h4 F1 (fun q hq => ?_) C4⟩) (fun q => by omega)⟩)⟩⟩) (fun q => by omega)⟩) (fun q => by omega)⟩⟩)⟩
          rw [o4 q (by omega), o3 q (by omega), o2 q (by omega), w1.1 q (by omega)]
        · refine ⟨_, R.2.1, _, R.at 0 rfl (by omega), l_eq (b := 0) (by omega) (by omega) (fun q => absurd q e0) (fun _ => ⟨R.1, e_changing R o d ee (u := 1) (by omega) ⟨_, R.2.1, _, R.at 5 rfl (by omega), ?_⟩⟩)⟩
          rw [nI_l (by omega)]
          refine l_le (by omega) (by omega) (fun _ => ⟨_, R.2.1, _, R.at 1 rfl (by omega), l_ne (by omega) (by omega) (fun _ => ⟨R.1, e_changing R o d ee (u := 0) (by omega) ⟨_, R.2.1, _, R.at 1 rfl (by omega), fun y ey => ?_⟩⟩) (fun q => absurd q e2)⟩) (fun q => by omega)
          rw [lN_i] at ey
          subst ey
          obtain ⟨h1, e1', o1, R1⟩ := R.put (i := 209 + 41 * V 1 + 0) (by omega) (V 0)
          refine ⟨_, R.2.1, e_v ⟨_, R.2.1, _, R.at 0 rfl (by omega), h1, e1', ?_⟩⟩
          refine for_us (fun n i (g : Hp) => wp_X9_publishes_78 K M (nI (cnt (fun i => decide (chs V i ≠ 0 ∧ ¬ (0 = 1 ∧ lok V i = true))) (V 0))) (nI (V 1)) n (nI i) g) (fun i g => (∀ q, q ≠ M + 1 → g q = h q) ∧ RM g M (u1 (pbV V (V 1) i (pkd V (V 2))) (209 + 41 * V 1) (V 0))) (V 0) 0 h1 (by omega) ⟨o1, R1.ext (fun i hi => ?_)⟩ (fun n g I => ?_) (fun n i g _ hi I ih => ?_)
          · unfold u1
            split
            · rw [if_pos (by omega)]
            · rw [if_neg (by omega)]
              exact pbV_n (by omega)
          · have c0 := I.2.at 0 rfl (by omega)
            rw [u1_n (by omega), pbV_n (by omega)] at c0
            have c1 := I.2.at 1 rfl (by omega)
            rw [u1_n (by omega), pbV_n (by omega)] at c1
            obtain ⟨h5, e5, o5, R5⟩ := I.2.put (i := 1) (by omega) (V 1 + 1)
            exact ⟨_, I.2.2.1, _, c0, ll_le (by omega) (by omega) (fun _ => ⟨_, I.2.2.1, _, c1, h5, (by rw [lN_add]; exact e5), hk h5 (fun q q1 q2 => (o5 q q1).trans (I.1 q q1)) R5 (P.fr (fun q hq => (o5 q (by omega)).trans (I.1 q (by omega))))⟩) (fun q => by omega)⟩
          · obtain ⟨fr, G⟩ := I
            have Ex : ∀ j, j < 209 → (u1 (pbV V (V 1) i (pkd V (V 2))) (209 + 41 * V 1) (V 0)) j = V j := fun j hj => by rw [u1_n (by omega), pbV_n (by omega)]
            have c0 := G.at 0 rfl (by omega)
            rw [Ex 0 (by omega)] at c0
            have kk : OK (N + 1) (u1 (pbV V (V 1) i (pkd V (V 2))) (209 + 41 * V 1) (V 0)) := by
              have kp := puV_ok k e3
              obtain ⟨⟨a0, a1, a2, a3, a4, a5⟩, b, c, e, f⟩ := k
              refine ⟨⟨?_, ?_, ?_, ?_, ?_, ?_⟩, fun j hj => ?_, fun j hj => ?_, fun v hv => ⟨?_, fun j hj => ?_⟩, fun u hu => ?_⟩
              · rw [Ex _ (by omega)]; exact a0
              · rw [Ex _ (by omega)]; exact a1
              · rw [Ex _ (by omega)]; exact a2
              · rw [Ex _ (by omega)]; exact a3
              · rw [Ex _ (by omega)]; exact a4
              · rw [Ex _ (by omega)]; exact a5
              · rw [Ex _ (by omega), Ex _ (by omega), Ex _ (by omega), Ex _ (by omega), Ex _ (by omega)]
                obtain ⟨b1, b2, b3, b4, b5⟩ := b j hj
                exact ⟨b1, b2, by omega, b4, b5⟩
              · rw [Ex _ (by omega)]; have := c j hj; omega
              · by_cases z : v = V 1
                · rw [z, u1_s]; exact a0
                · rw [u1_n (by omega), pbV_n (by omega)]; exact (e v hv).1
              · rw [u1_n (by omega)]
                unfold pbV
                split
                · exact pkd_lt _ _ _
                · exact (e v hv).2 j hj
              · rw [Ex 1 (by omega)] at hu
                rw [Ex 0 (by omega), u1_n (by omega), pbV_n (by omega)]
                exact f u hu
            obtain ⟨h5, e5, o5, R5⟩ := G.put (i := 209 + 41 * V 1 + (1 + i)) (by omega) (pkd V (V 2) i)
            refine ⟨_, G.2.1, _, c0, ll_le (by omega) (by omega) (fun q => by omega) (fun _ => ⟨_, G.2.1, ?_⟩)⟩
            rw [nI_add]
            refine e_v ⟨G.1, e_length G ⟨G.1, e_outcomes G kk.c (kk.d (by omega)) (by rw [Ex 0 (by omega)]; exact hi) (by rw [Ex 2 (by omega)]; omega) ⟨h5, ?_, fun y ey => ?_⟩⟩⟩
            · rw [Ex 2 (by omega), g_pkd Ex h40 hi]
              exact e5
            · subst ey
              rw [nI_add]
              refine ih h5 ⟨fun q hq => (o5 q hq).trans (fr q hq), R5.ext (fun j hj => ?_)⟩
              unfold u1 pbV
              repeat' split
              all_goals first | rfl | omega | (congr 1; omega)
    · refine ⟨-2, V, Or.inl ⟨m2_lt.1, m2_lt.2, rfl⟩, fun h z F K C hk => ⟨_, C.2.1, C.S.o C.w, c_workOut C.S C.w o d ee (fun h1 F1 w1 W1 => ?_)⟩, fun h M K R P hk => ?_⟩
      · have C1 := C.sight w1
        have n3 : gI h1 (z + 2 + 1 + 7) 0 (nI 3) = some (nI (V 5)) := C1.B.n (i := 3) (by omega)
        exact ⟨_, C1.2.2.1, _, C1.B.cards, b_eq (b := 0) (by omega) (by omega) (fun q => absurd q e0) (fun _ => ⟨_, C1.2.1, C1.S.o C1.w, c_unseenChanging C1.S C1.w o d W1 ⟨_, C1.2.2.1, _, C1.B.fn, _, n3, b_le (by omega) (by omega) (fun q => by omega) (fun _ => hk h1 F1 (fun q hq => w1.1 q (by omega)) C1)⟩⟩)⟩
      · refine ⟨_, R.2.1, _, R.at 0 rfl (by omega), l_eq (b := 0) (by omega) (by omega) (fun q => absurd q e0) (fun _ => ⟨R.1, e_changing R o d ee (u := 1) (by omega) ⟨_, R.2.1, _, R.at 5 rfl (by omega), ?_⟩⟩)⟩
        rw [nI_l (by omega)]
        exact l_le (by omega) (by omega) (fun q => by omega) (fun _ => hk h (fun _ _ _ => rfl) R P)
end AC3
