/-! set, take, restore, undo, the text, failure -/
def slo (k : Nat) : Nat := if k = 0 then 2 else if k = 3 then 0 else 1
def shi (k : Nat) : Nat := if k = 3 then 20 else 9
theorem sT_at : ∀ k, k < 4 → sT 0 (nI k) = some (nI (slo k)) ∧ sT 1 (nI k) = some (nI (shi k)) := by decide +kernel
theorem slo_lt (k : Nat) : slo k < 2 ^ 31 ∧ shi k < 2 ^ 31 := by
  unfold slo shi
  constructor
  · split
    · omega
    · split <;> omega
  · split <;> omega
theorem e_isSetting {K : Int32 → Hp → Prop} {h : Hp} {k : Nat} {y : Int32} (hk4 : k < 4) (hk : K (bI ((slo k : Int) ≤ y.toInt ∧ y.toInt ≤ (shi k : Int))) h) : wp_X9_isSetting (nI k) y K h := by
  rcases (show k = 0 ∨ k = 1 ∨ k = 2 ∨ k = 3 by omega) with rfl | rfl | rfl | rfl
  · exact tk rfl (e_inN (by omega) (by omega) ⟨bI_01 _, hk⟩)
  · exact sk (by decide) (tk rfl (e_inN (by omega) (by omega) ⟨bI_01 _, hk⟩))
  · exact sk (by decide) (sk (by decide) (tk rfl (e_inN (by omega) (by omega) ⟨bI_01 _, hk⟩)))
  · exact sk (by decide) (sk (by decide) (sk (by decide) (tk rfl (e_inN (by omega) (by omega) ⟨bI_01 _, hk⟩))))
theorem set_ok {N k v : Nat} {V : Nat → Nat} (o : OK N V) (hk : k < 4) (h1 : slo k ≤ v) (h2 : v ≤ shi k) : OK N (u1 V (2 + k) v) := by
  obtain ⟨⟨a0, a1, a2, a3, a4, a5⟩, b, c, e, f⟩ := o
  have c5 : okC (u1 V (2 + k) v) := by
    unfold slo at h1
    unfold shi at h2
    refine ⟨by rw [u1_n (by omega)]; exact a0, by rw [u1_n (by omega)]; exact a1, ?_, ?_, ?_, ?_⟩ <;> (unfold u1; split) <;> (repeat' split at h1) <;> (repeat' split at h2) <;> omega
  refine ⟨c5, fun i hi => ?_, fun m hm => ?_, fun w hw => ⟨?_, fun i hi => ?_⟩, fun u hu => ?_⟩
  · rw [u1_n (by omega), u1_n (by omega), u1_n (by omega), u1_n (by omega), u1_n (by omega)]; exact b i hi
  · rw [u1_n (by omega)]; exact c m hm
  · rw [u1_n (by omega)]; exact (e w hw).1
  · rw [u1_n (by omega)]; exact (e w hw).2 i hi
  · rw [u1_n (by omega)] at hu
    rw [u1_n (by omega), u1_n (by omega)]
    exact f u hu
theorem CK.books2 {h h' : Hp} {z : Nat} {V V' : Nat → Nat} {F : Nat → Nat → Int32} (C : CK h z V F) (e : ∀ q, z + 1 ≤ q → q < z + 27 → (q < z + 3 ∨ z + 13 ≤ q) → h' q = h q) (B : BK h' (z + 2 + 1) V') : CK h' z V' F := by
  refine ⟨isO_c (e _ (by omega) (by omega) (by omega)) C.1, ?_, ?_, ⟨isO_c (e _ (by omega) (by omega) (by omega)) C.S.1, ?_, fun k hk => ?_, B⟩, C.w.mv (fun q h1 h2 => e q (by omega) (by omega) (by omega))⟩
  · rw [gF_c (e _ (by omega) (by omega) (by omega))]; exact C.2.1
  · rw [gF_c (e _ (by omega) (by omega) (by omega))]; exact C.2.2.1
  · rw [gF_c (e _ (by omega) (by omega) (by omega))]; exact C.S.2.1
  · rw [gF_c (e _ (by omega) (by omega) (by omega))]; exact C.S.2.2.1 k hk
theorem nI_T {n : Nat} (h : n < 2 ^ 31) : 0 ≤ (nI n).toInt := by rw [nI_toInt h]; omega
section SS
variable {N : Nat} {h : Hp} {z : Nat}
theorem step_set (I : Inv N h z) (x y : Int32) : Step N h z (fun z => wp_X8_set z x y) (fun M => wp_X9_set M x y) := by
  obtain ⟨V, F, n, Q, p, X, tn, fl, W, P, e, C, R, pr⟩ := I
  have noC : ∀ h1, (∀ q, (q < z + 50 ∨ z + 256 ≤ q) → h1 q = h q) → CR h1 z V F n (qp Q n V) p X tn fl → ∀ K : Int32 → Hp → Prop, K (-1) h1 → wp_X8_recordIfDone z (-1) K h1 := fun h1 _ _ K hk => rec_no m1_lt.2 hk
  have bad : (∀ (h1 : Hp) (K : Int32 → Hp → Prop), RM h1 (z + 259) V → K (-1) h1 → wp_X9_set (z + 259) x y K h1) → (∀ (h1 : Hp) (K : Int32 → Hp → Prop), CK h1 z V F → K (-1) h1 → wp_X1_setNumber (z + 1) x y K h1) → Step N h z (fun z => wp_X8_set z x y) (fun M => wp_X9_set M x y) := by
    intro bR bC
    refine ⟨-1, fun K hk => ⟨_, C.1.2.2.2.2.2.1, _, C.1.2.2.2.1, _, C.1.2.2.2.2.1, C.2.2.2.1.1.1, c_prep C pr.1 (fun h1 fr1 C1 => ⟨_, C1.1.2.1, C1.2.1.1, bC h1 _ C1.2.1 ⟨C1.1.1, rec_no m1_lt.2 ?_⟩⟩)⟩⟩
    have R1 := R.fr (h' := h1) (fun q q1 q2 => fr1 q (by omega))
    exact hk h1 R1.1.1 (fun K' hk' => bR h1 K' R1.1 (hk' h1 ⟨V, F, n, qp Q n V, p, X, tn, fl, W, P, e, C1, R1, pr_prep pr (Nat.le_refl _)⟩))
  by_cases hx : ((0 : Nat) : Int) ≤ x.toInt ∧ x.toInt ≤ ((3 : Nat) : Int)
  · obtain ⟨k, hk31, rfl, ek⟩ := of_toI (x := x) (by omega)
    have hk4 : k < 4 := by omega
    have sl := slo_lt k
    by_cases hy : (slo k : Int) ≤ y.toInt ∧ y.toInt ≤ (shi k : Int)
    · obtain ⟨v, hv31, rfl, ev⟩ := of_toI (x := y) (by omega)
      have o' := set_ok pr.2.1.1 hk4 (show slo k ≤ v by omega) (by omega)
      have v0 : V (2 + k) < 2 ^ 31 := by
        obtain ⟨⟨a0, a1, a2, a3, a4, a5⟩, -⟩ := pr.2.1.1
        rcases (show k = 0 ∨ k = 1 ∨ k = 2 ∨ k = 3 by omega) with rfl | rfl | rfl | rfl
        · show V 2 < _; omega
        · show V 3 < _; omega
        · show V 4 < _; omega
        · show V 5 < _; omega
      refine ⟨nI (V (2 + k)), fun K hk => ⟨_, C.1.2.2.2.2.2.1, _, C.1.2.2.2.1, _, C.1.2.2.2.2.1, C.2.2.2.1.1.1, c_prep C pr.1 (fun h1 fr1 C1 => ?_)⟩⟩
      obtain ⟨h2, e2, o2, B2⟩ := C1.2.1.B.put_n hk4 v
      have G2 := C1.2.1.books (fun q hq => o2 q (by omega)) B2
      have T2 : CT h2 z := C1.1.fr (o2 _ (by omega))
      have st := sT_at k hk4
      have H2 : HI h2 (z + 50) n (qp Q n V) p := C1.2.2.2.1.fr (fun q h1 h2 => o2 q (by omega))
      refine ⟨_, C1.1.2.1, C1.2.1.1, c_within (by omega) (by omega) (b1 hx ⟨_, st.1, _, st.2, c_within sl.1 sl.2 (n1 hy ⟨_, C1.2.1.2.2.1, _, C1.2.1.B.fn, _, C1.2.1.B.n hk4, _, C1.2.1.2.2.1, _, C1.2.1.B.fn, h2, e2, T2.1, rec_yes T2 H2 pr.1 (nI_T v0) (fun h3 p3 fr3 H3 => ?_)⟩)⟩)⟩
      have C3 : CR h3 z (u1 V (2 + k) v) F (psN n) (qs (qp Q n V) n) p3 X tn fl := ⟨T2.fr (fr3 _ (by omega)), G2.fr (fun q h1 h2 => fr3 q (by omega)), ((C1.2.2.1.fr (fun q h1 h2 => o2 q (by omega))).ext2 (fun i hi => u1_n (by omega))).fr (fun q h1 h2 => fr3 q (by omega)), H3, (C1.2.2.2.2.fr (fun q hq => o2 q (by omega))).fr (fun q hq => fr3 q (by omega))⟩
      have R3 := R.fr (h' := h3) (fun q q1 q2 => (fr3 q (by omega)).trans ((o2 q (by omega)).trans (fr1 q (by omega))))
      refine hk h3 R3.1.1 (fun K' hk' => e_isSetting hk4 (n1 hy ⟨R3.1.1, e_keeps R3.1 R3.2.1 (fun h4 fr4 R4 B4 => ?_)⟩))
      obtain ⟨h5, e5, o5, R5⟩ := R4.put (i := 2 + k) (by omega) v
      refine ⟨_, R4.2.1, lN (V (2 + k)), (by rw [nI_add]; exact R4.at (2 + k) rfl (by omega)), fun u eu => ?_⟩
      rw [lN_i] at eu
      subst eu
      refine ⟨_, R4.2.1, h5, (by rw [nI_add, nI_l hv31]; exact e5), R5.1, e_actEnd (show RR h5 (z + 259) (u1 V (2 + k) v) V P n X tn e from ⟨R5, B4.fr (fun q hq => o5 q (by omega)), R3.2.2.1.fr (fun q hq => (o5 q (by omega)).trans (fr4 q (by omega))), R3.2.2.2.1.fr (fun q hq => (o5 q (by omega)).trans (fr4 q (by omega))), R3.2.2.2.2.fr (fun q hq => (o5 q (by omega)).trans (fr4 q (by omega)))⟩) pr.1 (nI_T v0) (fun h6 fr6 R6 => hk' h6 ⟨u1 V (2 + k) v, F, psN n, qs (qp Q n V) n, p3, X, tn, fl, V, psP P n V, e, ?_, R6, pr_push pr (Nat.le_refl _) (pr.2.1.next o' (Nat.le_refl _) (fun i hi => u1_n (by omega)))⟩)⟩
      exact C3.fr (fun q q1 q2 => (fr6 q (by omega)).trans ((o5 q (by omega)).trans (fr4 q (by omega))))
    · refine bad (fun h1 K R1 hk => e_isSetting hk4 (n0 hy hk)) (fun h1 K C1 hk => ?_)
      have st := sT_at k hk4
      exact c_within (by omega) (by omega) (b1 hx ⟨_, st.1, _, st.2, c_within sl.1 sl.2 (n0 hy hk)⟩)
  · refine bad (fun h1 K R1 hk => ?_) (fun h1 K C1 hk => c_within (by omega) (by omega) (b0 hx hk))
    have ne : ∀ k : Nat, k < 4 → ¬ x = nI k := fun k hk q => hx (by rw [q, nI_toInt (by omega)]; omega)
    exact sk (ne 0 (by omega)) (sk (ne 1 (by omega)) (sk (ne 2 (by omega)) (sk (ne 3 (by omega)) (tkn rfl hk))))
theorem slot_i (k : Nat) : nI 455 + nI 456 * nI k = nI (455 + 456 * k) := by rw [nI_mul, nI_add]
theorem tkV_oa {k : Nat} {V : Nat → Nat} (o : OA N V) (hk : k < 2) : OA N (tkV V k) := by
  have lo : ∀ i, i < 455 → tkV V k i = V i := fun i hi => by unfold tkV; rw [if_neg (by omega), if_neg (by omega)]
  refine ⟨o.1.ext lo, fun j hj q => ?_⟩
  by_cases y : j = k
  · subst y
    refine o.1.ext (fun i hi => ?_)
    unfold tkV
    rw [if_neg (by omega), if_pos (by omega)]
    congr 1
    omega
  · have e1 : tkV V k (455 + 456 * j) = V (455 + 456 * j) := by unfold tkV; rw [if_neg (by omega), if_neg (by omega)]
    rw [e1] at q
    refine (o.2 j hj q).ext (fun i hi => ?_)
    unfold tkV
    rw [if_neg (by omega), if_neg (by omega)]
theorem step_take (I : Inv N h z) (x : Int32) : Step N h z (fun z => wp_X8_take z x) (fun M => wp_X9_take M x) := by
  by_cases hx : ((0 : Nat) : Int) ≤ x.toInt ∧ x.toInt ≤ ((1 : Nat) : Int)
  · obtain ⟨V, F, n, Q, p, X, tn, fl, W, P, e, C, R, pr⟩ := I
    obtain ⟨k, hk31, rfl, ek⟩ := of_toI (x := x) (by omega)
    have hk2 : k < 2 := by omega
    have h40 := pr.2.1.1.c.1
    have lo : ∀ i, i < 455 → tkV V k i = V i := fun i hi => by unfold tkV; rw [if_neg (by omega), if_neg (by omega)]
    refine ⟨nI (V 0), fun K hk => c_within (by omega) (by omega) (n1 hx ⟨_, C.1.2.2.2.2.2.1, _, C.1.2.2.2.1, _, C.1.2.2.2.2.1, C.2.2.2.1.1.1, c_prep C pr.1 (fun h1 fr1 C1 => ⟨_, C1.1.2.2.2.2.1, _, C1.1.2.2.2.1, C1.2.2.1.1.1, c_slotKeep C1.2.2.1 C1.2.1.B hk2 (by omega) (fun h2 fr2 S2 => ?_)⟩)⟩)⟩
    have T2 : CT h2 z := C1.1.fr (fr2 _ (by omega))
    have G2 : CK h2 z V F := C1.2.1.fr (fun q h1 h2 => fr2 q (by omega))
    have H2 : HI h2 (z + 50) n (qp Q n V) p := C1.2.2.2.1.fr (fun q h1 h2 => fr2 q (by omega))
    refine ⟨_, T2.2.2.2.1, _, G2.B.cards, T2.1, rec_yes T2 H2 pr.1 (nI_T (by omega)) (fun h3 p3 fr3 H3 => ?_)⟩
    have C3 : CR h3 z (tkV V k) F (psN n) (qs (qp Q n V) n) p3 X tn fl := ⟨T2.fr (fr3 _ (by omega)), (G2.ext lo).fr (fun q h1 h2 => fr3 q (by omega)), S2.fr (fun q h1 h2 => fr3 q (by omega)), H3, (C1.2.2.2.2.fr (fun q hq => fr2 q (by omega))).fr (fun q hq => fr3 q (by omega))⟩
    have R3 := R.fr (h' := h3) (fun q q1 q2 => (fr3 q (by omega)).trans ((fr2 q (by omega)).trans (fr1 q (by omega))))
    refine hk h3 R3.1.1 (fun K' hk' => e_inN (by omega) (by omega) (n1 hx ⟨R3.1.1, e_keeps R3.1 R3.2.1 (fun h4 fr4 R4 B4 => ?_)⟩))
    obtain ⟨h5, e5, o5, R5⟩ := R4.put (i := 455 + 456 * k) (by omega) 1
    refine ⟨_, R4.2.1, h5, (by rw [slot_i]; exact e5), ?_⟩
    refine for_us (fun m t (g : Hp) => wp_X9_take_28 K' (z + 259) (nI k) m (nI t) g) (fun t g => (∀ q, q ≠ z + 259 + 1 → g q = h4 q) ∧ RM g (z + 259) (fun i => if i = 455 + 456 * k then 1 else if 456 + 456 * k ≤ i ∧ i < 456 + 456 * k + t then V (i - (456 + 456 * k)) else V i)) 455 0 h5 (by omega) ⟨o5, R5.ext (fun i hi => ?_)⟩ (fun m g J => ?_) (fun m t g _ ht J ih => ?_)
    · unfold u1
      try dsimp only
      split
      · rfl
      · rw [if_neg (by omega)]
    · obtain ⟨fr6, R6⟩ := J
      have c0 := R6.at 0 rfl (by omega)
      try dsimp only
      rw [if_neg (by omega), if_neg (by omega)] at c0
      have R7 : RM g (z + 259) (tkV V k) := R6.ext (fun i hi => by
        unfold tkV
        try dsimp only
        split
        · rfl
        · by_cases q : 456 + 456 * k ≤ i ∧ i < 911 + 456 * k
          · rw [if_pos q, if_pos (by omega)]
          · rw [if_neg q, if_neg (by omega)])
      refine b_le (by omega) (by omega) (fun _ => ⟨_, R6.2.1, _, c0, R6.1, ?_⟩) (fun q => by omega)
      rw [lN_i]
      refine e_actEnd (show RR g (z + 259) (tkV V k) V P n X tn e from ⟨R7, B4.fr (fun q hq => fr6 q (by omega)), R3.2.2.1.fr (fun q hq => (fr6 q (by omega)).trans (fr4 q (by omega))), R3.2.2.2.1.fr (fun q hq => (fr6 q (by omega)).trans (fr4 q (by omega))), R3.2.2.2.2.fr (fun q hq => (fr6 q (by omega)).trans (fr4 q (by omega)))⟩) pr.1 (nI_T (by omega)) (fun h6 fr7 R8 => hk' h6 ⟨tkV V k, F, psN n, qs (qp Q n V) n, p3, X, tn, fl, V, psP P n V, e, ?_, R8, pr_push pr (Nat.le_refl _) (tkV_oa pr.2.1 hk2)⟩)
      exact C3.fr (fun q q1 q2 => (fr7 q (by omega)).trans ((fr6 q (by omega)).trans (fr4 q (by omega))))
    · obtain ⟨fr6, R6⟩ := J
      have ct := R6.at t rfl (by omega)
      try dsimp only
      rw [if_neg (by omega), if_neg (by omega)] at ct
      obtain ⟨h7, e7, o7, R7⟩ := R6.put (i := 455 + 456 * k + 1 + t) (by omega) (V t)
      refine b_le (by omega) (by omega) (fun q => by omega) (fun _ => ⟨_, R6.2.1, _, R6.2.1, _, ct, h7, (by rw [slot_i, nI_add, nI_add]; exact e7), fun y ey => ?_⟩)
      subst ey
      rw [nI_add]
      refine ih h7 ⟨fun q hq => (o7 q hq).trans (fr6 q hq), R7.ext (fun i hi => ?_)⟩
      unfold u1
      try dsimp only
      by_cases a : i = 455 + 456 * k
      · rw [if_pos a, if_neg (by omega), if_pos a]
      · rw [if_neg a]
        by_cases c : i = 455 + 456 * k + 1 + t
        · rw [if_pos c, if_pos (by omega)]
          congr 1
          omega
        · rw [if_neg c, if_neg a]
          by_cases d : 456 + 456 * k ≤ i ∧ i < 456 + 456 * k + t
          · rw [if_pos d, if_pos (by omega)]
          · rw [if_neg d, if_neg (by omega)]
  · obtain ⟨V, F, n, Q, p, X, tn, fl, W, P, e, C, R, pr⟩ := I
    exact ⟨-1, fun K hk => c_within (by omega) (by omega) (n0 hx (hk h R.1.1 (fun K' hk' => e_inN (by omega) (by omega) (n0 hx (hk' h ⟨V, F, n, Q, p, X, tn, fl, W, P, e, C, R, pr⟩)))))⟩
theorem step_restore (I : Inv N h z) (x : Int32) : Step N h z (fun z => wp_X8_restore z x) (fun M => wp_X9_restore M x) := by
  by_cases hx : ((0 : Nat) : Int) ≤ x.toInt ∧ x.toInt ≤ ((1 : Nat) : Int)
  · obtain ⟨V, F, n, Q, p, X, tn, fl, W, P, e, C, R, pr⟩ := I
    obtain ⟨k, hk31, rfl, ek⟩ := of_toI (x := x) (by omega)
    have hk2 : k < 2 := by omega
    have kf := (C.2.2.1.2 k hk2).1
    by_cases hf : V (455 + 456 * k) ≠ 0
    · have ok := pr.2.1.2 k hk2 hf
      have lo : ∀ i, i < 455 → rsV V k i = V (456 + 456 * k + i) := fun i hi => if_pos hi
      have hi5 : ∀ i, 455 ≤ i → rsV V k i = V i := fun i hi => if_neg (by omega)
      have o' : OK N (rsV V k) := ok.ext lo
      have h40 : rsV V k 0 ≤ 40 := o'.c.1
      refine ⟨nI (rsV V k 0), fun K hk => c_within (by omega) (by omega) (n1 hx ⟨_, C.1.2.2.2.2.1, C.2.2.1.1.1, c_isFull C.2.2.1 hk2 (n1 hf ⟨_, C.1.2.2.2.2.2.1, _, C.1.2.2.2.1, _, C.1.2.2.2.2.1, C.2.2.2.1.1.1, c_prep C pr.1 (fun h1 fr1 C1 => ⟨_, C1.1.2.2.2.2.1, _, C1.1.2.2.2.1, C1.2.2.1.1.1, c_slotGive C1.2.2.1 C1.2.1.B hk2 hf (by omega) (fun h2 fr2 B2 => ?_)⟩)⟩)⟩)⟩
      have T2 : CT h2 z := C1.1.fr (fr2 _ (by omega))
      have G2 : CK h2 z (rsV V k) F := C1.2.1.books2 (fun q q1 q2 q3 => fr2 q (by omega)) B2
      have H2 : HI h2 (z + 50) n (qp Q n V) p := C1.2.2.2.1.fr (fun q h1 h2 => fr2 q (by omega))
      refine ⟨_, T2.2.2.2.1, _, G2.B.cards, T2.1, rec_yes T2 H2 pr.1 (nI_T (by omega)) (fun h3 p3 fr3 H3 => ?_)⟩
      have C3 : CR h3 z (rsV V k) F (psN n) (qs (qp Q n V) n) p3 X tn fl := ⟨T2.fr (fr3 _ (by omega)), G2.fr (fun q h1 h2 => fr3 q (by omega)), ((C1.2.2.1.fr (fun q h1 h2 => fr2 q (by omega))).ext2 hi5).fr (fun q h1 h2 => fr3 q (by omega)), H3, (C1.2.2.2.2.fr (fun q hq => fr2 q (by omega))).fr (fun q hq => fr3 q (by omega))⟩
      have R3 := R.fr (h' := h3) (fun q q1 q2 => (fr3 q (by omega)).trans ((fr2 q (by omega)).trans (fr1 q (by omega))))
      refine hk h3 R3.1.1 (fun K' hk' => e_inN (by omega) (by omega) (n1 hx ⟨_, R3.1.2.1, lN (V (455 + 456 * k)), (by rw [slot_i]; exact R3.1.at _ rfl (by omega)), l_ne (by omega) (by omega) (fun _ => ⟨R3.1.1, e_keeps R3.1 R3.2.1 (fun h4 fr4 R4 B4 => ?_)⟩) (fun q => absurd q hf)⟩))
      refine for_us (fun m t (g : Hp) => wp_X9_restore_35 K' (z + 259) (nI k) m (nI t) g) (fun t g => (∀ q, q ≠ z + 259 + 1 → g q = h4 q) ∧ RM g (z + 259) (fun i => if i < t then V (456 + 456 * k + i) else V i)) 455 0 h4 (by omega) ⟨fun _ _ => rfl, R4.ext (fun i hi => if_neg (by omega))⟩ (fun m g J => ?_) (fun m t g _ ht J ih => ?_)
      · obtain ⟨fr6, R6⟩ := J
        have c0 := R6.at 0 rfl (by omega)
        have R7 : RM g (z + 259) (rsV V k) := R6
        refine b_le (by omega) (by omega) (fun _ => ⟨_, R6.2.1, _, c0, R6.1, ?_⟩) (fun q => by omega)
        rw [lN_i]
        refine e_actEnd (show RR g (z + 259) (rsV V k) V P n X tn e from ⟨R7, B4.fr (fun q hq => fr6 q (by omega)), R3.2.2.1.fr (fun q hq => (fr6 q (by omega)).trans (fr4 q (by omega))), R3.2.2.2.1.fr (fun q hq => (fr6 q (by omega)).trans (fr4 q (by omega))), R3.2.2.2.2.fr (fun q hq => (fr6 q (by omega)).trans (fr4 q (by omega)))⟩) pr.1 (nI_T (by show rsV V k 0 < _; omega)) (fun h6 fr7 R8 => hk' h6 ⟨rsV V k, F, psN n, qs (qp Q n V) n, p3, X, tn, fl, V, psP P n V, e, ?_, R8, pr_push pr (Nat.le_refl _) (pr.2.1.next o' (Nat.le_refl _) hi5)⟩)
        exact C3.fr (fun q q1 q2 => (fr7 q (by omega)).trans ((fr6 q (by omega)).trans (fr4 q (by omega))))
      · obtain ⟨fr6, R6⟩ := J
        have ct := R6.at (455 + 456 * k + 1 + t) rfl (by omega)
        try dsimp only
        rw [if_neg (by omega)] at ct
        obtain ⟨h7, e7, o7, R7⟩ := R6.put (i := t) (by omega) (V (455 + 456 * k + 1 + t))
        refine b_le (by omega) (by omega) (fun q => by omega) (fun _ => ⟨_, R6.2.1, _, R6.2.1, _, (by rw [slot_i, nI_add, nI_add]; exact ct), h7, e7, fun y ey => ?_⟩)
        subst ey
        rw [nI_add]
        refine ih h7 ⟨fun q hq => (o7 q hq).trans (fr6 q hq), R7.ext (fun i hi => ?_)⟩
        unfold u1
        try dsimp only
        by_cases a : i = t
        · rw [if_pos a, if_pos (by omega), a]
          congr 1
          omega
        · rw [if_neg a]
          by_cases c : i < t
          · rw [if_pos c, if_pos (by omega)]
          · rw [if_neg c, if_neg (by omega)]
    · exact ⟨-2, fun K hk => c_within (by omega) (by omega) (n1 hx ⟨_, C.1.2.2.2.2.1, C.2.2.1.1.1, c_isFull C.2.2.1 hk2 (n0 hf (hk h R.1.1 (fun K' hk' => e_inN (by omega) (by omega) (n1 hx ⟨_, R.1.2.1, lN (V (455 + 456 * k)), (by rw [slot_i]; exact R.1.at _ rfl (by omega)), l_ne (by omega) (by omega) (fun q => absurd q hf) (fun _ => hk' h ⟨V, F, n, Q, p, X, tn, fl, W, P, e, C, R, pr⟩)⟩))))⟩)⟩
  · obtain ⟨V, F, n, Q, p, X, tn, fl, W, P, e, C, R, pr⟩ := I
    exact ⟨-1, fun K hk => c_within (by omega) (by omega) (n0 hx (hk h R.1.1 (fun K' hk' => e_inN (by omega) (by omega) (n0 hx (hk' h ⟨V, F, n, Q, p, X, tn, fl, W, P, e, C, R, pr⟩)))))⟩
theorem step_undo (I : Inv N h z) : Step N h z (fun z => wp_X8_undo z) (fun M => wp_X9_undo M) := by
  obtain ⟨V, F, n, Q, p, X, tn, fl, W, P, e, C, R, pr⟩ := I
  by_cases hn : n = 0
  · exact ⟨-2, fun K hk => ⟨_, C.1.2.2.2.2.2.1, _, C.2.2.2.1.1.2.1, tkn (by rw [hn]) (hk h R.1.1 (fun K' hk' => ⟨_, R.2.2.1.2.1, tkn (by rw [hn]) (hk' h ⟨V, F, n, Q, p, X, tn, fl, W, P, e, C, R, pr⟩)⟩))⟩⟩
  · have hn5 := pr.1
    have hne : ¬ nI n = nI 0 := fun q => hn ((nI_eq (by omega) (by omega)).mp q)
    refine ⟨nI (n - 1), fun K hk => ⟨_, C.1.2.2.2.2.2.1, _, C.2.2.2.1.1.2.1, skn hne ⟨_, C.1.2.2.2.2.2.1, _, C.1.2.2.2.1, _, C.1.2.2.2.2.1, C.2.2.2.1.1.1, c_goBack C.2.2.2.1 (by omega) hn5 C.2.1.B C.2.2.1 (by omega) (by omega) (by omega) (fun h1 fr1 H1 B1 L1 => ?_)⟩⟩⟩
    have T1 : CT h1 z := C.1.fr (fr1 _ (by omega) (by omega) (by omega))
    have C1 : CR h1 z (Q (n - 1)) F (n - 1) Q p X tn fl := ⟨T1, C.2.1.books2 (fun q q1 q2 q3 => fr1 q (by omega) (by omega) (by omega)) B1, L1, H1, C.2.2.2.2.fr (fun q hq => fr1 q (by omega) (by omega) (by omega))⟩
    have R1 := R.fr (h' := h1) (fun q q1 q2 => fr1 q (by omega) (by omega) (by omega))
    refine ⟨_, T1.2.2.2.2.2.1, _, H1.1.2.1, hk h1 R1.1.1 (fun K' hk' => ?_)⟩
    obtain ⟨h2, e2, o2, g2, i2⟩ := pF_w R1.2.2.1.2.1 (.int (nI n - nI 1))
    have S2 : RP h2 (z + 259) P (n - 1) := by
      refine ⟨?_, ?_, fun i hi => ?_⟩
      · rw [g2 2, if_neg (by omega)]; exact R1.2.2.1.1
      · rw [g2 3, if_pos rfl, pk_sub (by omega)]
      · rw [gL_c (o2 _ (by omega))]; exact R1.2.2.1.2.2 i hi
    refine ⟨_, R1.2.2.1.2.1, skn hne ⟨_, R1.2.2.1.2.1, h2, e2, ?_⟩⟩
    refine for_us (fun m t (g : Hp) => wp_X9_undo_22 K' (z + 259) m (nI t) g) (fun t g => (∀ q, q ≠ z + 259 + 1 → g q = h2 q) ∧ RM g (z + 259) (fun i => if i < t then P (1367 * (n - 1) + i) else V i)) 1367 0 h2 (by omega) ⟨fun _ _ => rfl, (R1.1.fw (by omega) o2 g2 i2).ext (fun i hi => if_neg (by omega))⟩ (fun m g J => ?_) (fun m t g _ ht J ih => ?_)
    · obtain ⟨fr3, R3⟩ := J
      have S3 := S2.fr (h' := g) (fun q hq => fr3 q (by omega))
      have R4 : RM g (z + 259) (Q (n - 1)) := R3.ext (fun i hi => by
        try dsimp only
        rw [if_pos hi]
        exact pr.2.2.2.1 (n - 1) (by omega) i hi)
      refine b_le (by omega) (by omega) (fun _ => ⟨_, S3.2.1, hk' g ⟨Q (n - 1), F, n - 1, Q, p, X, tn, fl, W, P, e, ?_, ?_, ?_⟩⟩) (fun q => by omega)
      · exact C1.fr (fun q q1 q2 => (fr3 q (by omega)).trans (o2 q (by omega)))
      · exact ⟨R4, (R1.2.1.fw (by omega) o2 g2).fr (fun q hq => fr3 q (by omega)), S3, (R1.2.2.2.1.fw (by omega) o2 g2).fr (fun q hq => fr3 q (by omega)), (R1.2.2.2.2.fw (by omega) o2 g2).fr (fun q hq => fr3 q (by omega))⟩
      · obtain ⟨p1, p2, p3, p4, p5⟩ := pr
        exact ⟨by omega, p3 (n - 1) (by omega), fun j hj => p3 j (by omega), fun j hj => p4 j (by omega), p5⟩
    · obtain ⟨fr3, R3⟩ := J
      have S3 := S2.fr (h' := g) (fun q hq => fr3 q (by omega))
      obtain ⟨h7, e7, o7, R7⟩ := R3.put (i := t) (by omega) (P (1367 * (n - 1) + t))
      refine b_le (by omega) (by omega) (fun q => by omega) (fun _ => ⟨_, R3.2.1, _, S3.1, _, S3.2.1, _, (by rw [nI_mul, nI_add]; exact S3.2.2 (1367 * (n - 1) + t) (by omega)), h7, e7, fun y ey => ?_⟩)
      subst ey
      rw [nI_add]
      refine ih h7 ⟨fun q hq => (o7 q hq).trans (fr3 q hq), R7.ext (fun i hi => ?_)⟩
      unfold u1
      try dsimp only
      by_cases a : i = t
      · rw [if_pos a, if_pos (by omega), a]
      · rw [if_neg a]
        by_cases c : i < t
        · rw [if_pos c, if_pos (by omega)]
        · rw [if_neg c, if_neg (by omega)]
end SS
