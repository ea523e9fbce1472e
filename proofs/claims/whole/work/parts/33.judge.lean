/-! the class's Sight: dirt, marks, outcomes, changes -/
def pkL (V : Nat → Nat) (L i : Nat) : Nat → Nat
  | 0 => 0
  | c + 1 => pkL V L i c + oc V L c i * 2 ^ (3 * c)
theorem pkL_lt (V : Nat → Nat) (L i : Nat) : ∀ c, pkL V L i c < 2 ^ (3 * c)
  | 0 => Nat.one_pos
  | c + 1 => by
    have h1 := pkL_lt V L i c
    have h2 := oc_le V L c i
    unfold pkL
    rw [Nat.mul_add, Nat.pow_add]
    have h3 : oc V L c i * 2 ^ (3 * c) ≤ 5 * 2 ^ (3 * c) := Nat.mul_le_mul_right _ h2
    omega
theorem pkL_4 (V : Nat → Nat) (L i : Nat) : pkL V L i 4 = pkd V L i := by
  simp only [pkL, pkd]
  omega
def dbL (V : Nat → Nat) (L i : Nat) : Nat → Nat
  | 0 => 0
  | k + 1 => dbL V L i k + (if oc V L k i = 5 then 1 * 2 ^ k else 0)
theorem dbL_lt (V : Nat → Nat) (L i : Nat) : ∀ k, dbL V L i k < 2 ^ k
  | 0 => Nat.one_pos
  | k + 1 => by
    have := dbL_lt V L i k
    unfold dbL
    rw [Nat.pow_succ]
    split <;> omega
theorem dbL_b (V : Nat → Nat) (i : Nat) : ∀ k, dbL V (V 2) i k = dbb V i k
  | 0 => rfl
  | k + 1 => by unfold dbL dbb; rw [dbL_b V i k]
theorem o_sh3 : ∀ c, c < 4 → ∀ o, o < 8 → (nI o <<< ((nI 3 * nI c) &&& 31)) = nI (o * 2 ^ (3 * c)) := by decide +kernel
def lk01 (T : Nat → Nat) (i : Nat) : Nat := if lok T i = true then 1 else 0
def JP (T : Nat → Nat) (L : Nat) (F : Nat → Nat → Int32) (i p : Nat) : Prop := F 7 (i * 12 + p) = nI (dirt T L p i) ∧ F 8 (i * 12 + p) = nI (clr T L p i) ∧ F 9 (i * 12 + p) = nI (mk T L p i)
def JD (T : Nat → Nat) (L : Nat) (F : Nat → Nat → Int32) (i : Nat) : Prop := (∀ p, p < 12 → JP T L F i p) ∧ F 10 i = nI (pkd T L i) ∧ F 11 i = nI (dbL T L i 4)
theorem JP.cong {T : Nat → Nat} {L i p : Nat} {F F' : Nat → Nat → Int32} (g : JP T L F i p) (e : ∀ k, k < 10 → F' k (i * 12 + p) = F k (i * 12 + p)) : JP T L F' i p := ⟨(e 7 (by omega)).trans g.1, (e 8 (by omega)).trans g.2.1, (e 9 (by omega)).trans g.2.2⟩
section S3
variable {h0 h : Hp} {s : Nat} {T : Nat → Nat} {F : Nat → Nat → Int32}
theorem c_markOf {K : Int32 → Hp → Prop} (S : SO h0 s T) (w : SR h0 h s F) (o : okC T) {L p i : Nat} (hk : K (nI (mk T L p i)) h) : wp_X4_markOf s (nI (clr T L p i)) (nI (lk01 T i)) K h := by
  have hc := clr_lt T L p i
  obtain ⟨-, -, -, o3, o4, -⟩ := id o
  have hl : lk01 T i ≤ 1 := if01 _
  have n1 : gI h (s + 1 + 7) 0 (nI 1) = some (nI (T 3)) := (S.B w).n (i := 1) (by omega)
  have n2 : gI h (s + 1 + 7) 0 (nI 2) = some (nI (T 4)) := (S.B w).n (i := 2) (by omega)
  refine ⟨_, S.b w, _, (S.B w).fn, _, n1, b_lt (by omega) (by omega) (fun q => b_ne (b := 0) (by omega) (by omega) (fun z => ?_) (fun z => ⟨_, S.b w, _, (S.B w).fn, _, n2, b_lt (by omega) (by omega) (fun y => ?_) (fun y => ?_)⟩)) (fun q => ?_)⟩
  · have hl : lok T i = true := Classical.byContradiction fun y => z (if_neg y)
    unfold mk at hk
    rw [if_neg (by omega), if_neg (by simp [hl])] at hk
    exact hk
  · unfold mk at hk
    rw [if_neg (by omega), if_neg (by omega)] at hk
    exact hk
  · have hl : lok T i = false := by
      cases e : lok T i with
      | false => rfl
      | true => unfold lk01 at z; rw [if_pos e] at z; cases z
    unfold mk at hk
    rw [if_neg (by omega), if_pos ⟨hl, y⟩] at hk
    exact hk
  · unfold mk at hk
    rw [if_pos q] at hk
    exact hk
theorem c_judgePlace {Post : Hp → Prop} {k2 k35 : Int32 → Hp → Prop} (S : SO h0 s T) (w : SR h0 h s F) (o : okC T) (g : DG T F (T 0)) {L i p : Nat} (hi : i < T 0) (hp : p < 12) (hk : ∀ h' F', SR h0 h' s F' → JP T L F' i p → (∀ k j, (j ≠ i * 12 + p ∨ k < 7 ∨ 9 < k) → F' k j = F k j) → k35 (nI (p + 1)) h') : wp_X4_judgeWith_79 Post k2 k35 s (nI L) (nI i) (nI (lk01 T i)) (nI p) (nI (i * 12 + p)) (s + 11 + 7) (nI (i * 12 + p)) (nI (dirt T L p i)) h := by
  have h40 := o.1
  have r1 := rd_lt T p i
  have r2 := trt_lt T p i
  have hd := dirt_le T L p i hi
  have hl01 : lk01 T i ≤ 1 := if01 _
  obtain ⟨h1, e1, w1⟩ := w.put (k := 7) (i := i * 12 + p) (by omega) (by omega) (by show _ < 480; omega) (nI (dirt T L p i))
  obtain ⟨h2, e2, w2⟩ := w1.put (k := 8) (i := i * 12 + p) (by omega) (by omega) (by show _ < 480; omega) (nI (clr T L p i))
  obtain ⟨h3, e3, w3⟩ := w2.put (k := 9) (i := i * 12 + p) (by omega) (by omega) (by show _ < 480; omega) (nI (mk T L p i))
  have c1 := w1.g (k := 1) (i := i * 12 + p) (by omega) (by omega) (by show _ < 480; omega)
  rw [up2_o (by omega), ((g i hi).2 p hp).1] at c1
  have c2 := w1.g (k := 2) (i := i * 12 + p) (by omega) (by omega) (by show _ < 480; omega)
  rw [up2_o (by omega), ((g i hi).2 p hp).2] at c2
  have c7 := w1.g (k := 7) (i := i * 12 + p) (by omega) (by omega) (by show _ < 480; omega)
  rw [up2_s] at c7
  have c8 := w2.g (k := 8) (i := i * 12 + p) (by omega) (by omega) (by show _ < 480; omega)
  rw [up2_s] at c8
  have fin : ∀ x : Int32, x = nI (clr T L p i) → wp_X4_judgeWith_115 Post k2 k35 s (nI L) (nI i) (nI (lk01 T i)) (nI p) (nI (i * 12 + p)) (s + 11 + 8) (nI (i * 12 + p)) x h1 := by
    intro x hx
    subst hx
    refine ⟨h2, e2, _, S.f w2 (k := 9) (by omega), _, S.f w2 (k := 8) (by omega), _, c8, S.o w2, c_markOf S w2 o ⟨h3, e3, fun y ey => ?_⟩⟩
    subst ey
    rw [nI_add]
    refine hk h3 _ w3 ⟨?_, ?_, ?_⟩ (fun k j hkj => ?_)
    · rw [up2_o (by omega), up2_o (by omega), up2_s]
    · rw [up2_o (by omega), up2_s]
    · rw [up2_s]
    · rw [up2_o (by omega), up2_o (by omega), up2_o (by omega)]
  refine ⟨h1, e1, _, S.f w1 (k := 8) (by omega), b_eq (b := 0) (by omega) (by omega) (fun z => ⟨_, S.f w1 (k := 1) (by omega), _, c1, _, S.f w1 (k := 7) (by omega), _, c7, fin _ ?_⟩) (fun z => ⟨_, S.f w1 (k := 2) (by omega), _, c2, fin _ ?_⟩)⟩
  · have hl : ¬ lok T i = true := fun e => by unfold lk01 at z; rw [if_pos e] at z; cases z
    rw [pk_sub hd]
    unfold clr
    rw [if_neg hl]
  · have hl : lok T i = true := Classical.byContradiction fun y => z (if_neg y)
    unfold clr
    rw [if_pos hl]
theorem c_jo_step {K : Int32 → Hp → Prop} (S : SO h0 s T) (w : SR h0 h s F) (o : okC T) {L i c k : Nat} (hi : i < T 0) (hc : c < 4) (hk3 : k < 3) (g : JP T L F i (3 * c + k)) {n m db ch : Nat} (hn : wp_X4_judgedOutcome_11 K s (nI i) (nI c) n (nI (m + if mk T L (3 * c + k) i = 2 then 1 else 0)) (nI (db + if mk T L (3 * c + k) i = 1 then 1 else 0)) (nI (if mk T L (3 * c + k) i = 2 then k else ch)) (nI (k + 1)) h) : wp_X4_judgedOutcome_11 K s (nI i) (nI c) (n + 1) (nI m) (nI db) (nI ch) (nI k) h := by
  have h40 := o.1
  have hm := mk_le T L (3 * c + k) i
  have c9 := w.g (k := 9) (i := i * 12 + (3 * c + k)) (by omega) (by omega) (by show _ < 480; omega)
  rw [g.2.2] at c9
  refine b_le (by omega) (by omega) (fun q => by omega) (fun _ => ⟨_, S.f w (k := 9) (by omega), nI (mk T L (3 * c + k) i), ?_, ?_⟩)
  · rw [nI_mul, nI_mul, nI_add, nI_add, show i * 12 + c * 3 + k = i * 12 + (3 * c + k) by omega]
    exact c9
  · generalize mk T L (3 * c + k) i = v at hn hm
    refine b_ne (by omega) (by omega) (fun q => b_ne (by omega) (by omega) (fun z y ey => ?_) (fun z y ey x ex => ?_)) (fun q y ey x ex => ?_)
    · subst ey
      rw [if_neg q, if_neg z, if_neg q] at hn
      rw [nI_add]
      exact hn
    · subst ey; subst ex
      rw [if_neg q, if_pos z, if_neg q] at hn
      rw [nI_add, nI_add]
      exact hn
    · subst ey; subst ex
      rw [if_pos q, if_neg (by omega), if_pos q] at hn
      rw [nI_add, nI_add]
      exact hn
theorem c_judgedOutcome {K : Int32 → Hp → Prop} (S : SO h0 s T) (w : SR h0 h s F) (o : okC T) {L i c : Nat} (hi : i < T 0) (hc : c < 4) (g : ∀ p, p < 12 → JP T L F i p) (hk : K (nI (oc T L c i)) h) : wp_X4_judgedOutcome s (nI i) (nI c) K h := by
  refine ⟨4, c_jo_step S w o hi hc (L := L) (m := 0) (db := 0) (ch := 3) (k := 0) (by omega) (g _ (by omega)) (c_jo_step S w o hi hc (L := L) (k := 1) (by omega) (g _ (by omega)) (c_jo_step S w o hi hc (L := L) (k := 2) (by omega) (g _ (by omega)) ?_))⟩
  unfold oc ocr at hk
  generalize mk T L (3 * c + 0) i = a at hk ⊢
  generalize mk T L (3 * c + 1) i = b at hk ⊢
  generalize mk T L (3 * c + 2) i = e at hk ⊢
  have hm : ocm a b e ≤ 3 := by unfold ocm; split <;> split <;> split <;> omega
  have hd : (0 + (if a = 1 then 1 else 0) + (if b = 1 then 1 else 0) + (if e = 1 then 1 else 0) ≤ 0) ↔ ocd a b e = 0 := by
    unfold ocd
    by_cases ha : a = 1 <;> by_cases hb : b = 1 <;> by_cases he : e = 1 <;> simp [ha, hb, he]
  have hd3 : 0 + (if a = 1 then 1 else 0) + (if b = 1 then 1 else 0) + (if e = 1 then 1 else 0) ≤ 3 := by split <;> split <;> split <;> omega
  refine ⟨fun _ => b_le (a := ocm a b e) (by omega) (by omega) (fun q => b_le (b := 0) (by omega) (by omega) (fun z => ?_) (fun z => ?_)) (fun q => ?_), fun q => absurd (nI_le (Nat.le_refl 3) (by omega)) q⟩
  · rw [if_pos q, if_pos (hd.mp z)] at hk
    exact hk
  · rw [if_pos q, if_neg (fun y => by have := hd.mpr y; omega)] at hk
    exact hk
  · rw [if_neg (by omega)] at hk
    exact hk
theorem c_judgeContests {Post : Hp → Prop} {k2 : Int32 → Hp → Prop} (S : SO h0 s T) (w : SR h0 h s F) (o : okC T) {L i : Nat} (hi : i < T 0) (g : ∀ p, p < 12 → JP T L F i p) (f10 : F 10 i = nI 0) (f11 : F 11 i = nI 0) (hk : ∀ h' F', SR h0 h' s F' → JD T L F' i → (∀ k j, (k < 10 ∨ 11 < k ∨ j ≠ i) → F' k j = F k j) → k2 (nI (i + 1)) h') : ∃ n, wp_X4_judgeWith_158 Post k2 s (nI L) (nI i) n (nI 0) h := by
  have h40 := o.1
  refine for_us (fun n c (q : Hp × (Nat → Nat → Int32)) => wp_X4_judgeWith_158 Post k2 s (nI L) (nI i) n (nI c) q.1) (fun c q => SR h0 q.1 s q.2 ∧ (q.2 10 i = nI (pkL T L i c) ∧ q.2 11 i = nI (dbL T L i c)) ∧ (∀ k j, (k < 10 ∨ 11 < k ∨ j ≠ i) → q.2 k j = F k j)) 4 0 (h, F) (by omega) ⟨w, ⟨f10, f11⟩, fun _ _ _ => rfl⟩ (fun n q I => ?_) (fun n c q _ hc I ih => ?_)
  · refine b_le (by omega) (by omega) (fun _ y ey => ?_) (fun z => by omega)
    subst ey
    rw [nI_add]
    refine hk _ _ I.1 ⟨fun p hp => (g p hp).cong (fun k hk => I.2.2 _ _ (by omega)), ?_, I.2.1.2⟩ I.2.2
    rw [← pkL_4]
    exact I.2.1.1
  · obtain ⟨W, G, fr⟩ := I
    have ho := oc_le T L c i
    obtain ⟨h1, e1, w1⟩ := W.put (k := 10) (i := i) (by omega) (by omega) (by show _ < 40; omega) (nI (pkL T L i (c + 1)))
    obtain ⟨h2, e2, w2⟩ := w1.put (k := 11) (i := i) (by omega) (by omega) (by show _ < 40; omega) (nI (dbL T L i (c + 1)))
    have c11 := w1.g (k := 11) (i := i) (by omega) (by omega) (by show _ < 40; omega)
    rw [up2_o (by omega), G.2] at c11
    have c10 := W.g (k := 10) (i := i) (by omega) (by omega) (by show _ < 40; omega)
    rw [G.1] at c10
    have ih' : ∀ y : Int32, y = nI c + nI 1 → wp_X4_judgeWith_158 Post k2 s (nI L) (nI i) n y h2 := by
      intro y ey
      subst ey
      rw [nI_add]
      refine ih (h2, up2 (up2 q.2 10 i (nI (pkL T L i (c + 1)))) 11 i (nI (dbL T L i (c + 1)))) ⟨w2, ⟨?_, ?_⟩, fun k j hkj => ?_⟩
      · dsimp only; rw [up2_o (by omega), up2_s]
      · dsimp only; rw [up2_s]
      · dsimp only
        rw [up2_o (by omega), up2_o (by omega), fr k j hkj]
    refine b_le (by omega) (by omega) (fun z => by omega) (fun _ => ⟨S.o W, c_judgedOutcome S W o hi hc (fun p hp => (g p hp).cong (fun k hk => fr _ _ (by omega))) ⟨_, S.f W (k := 10) (by omega), _, c10, h1, ?_, _, S.f w1 (k := 11) (by omega), _, c11, b_ne (by omega) (by omega) (fun z => ⟨h2, ?_, ih'⟩) (fun z => ⟨h2, ?_, ih'⟩)⟩⟩)
    · rw [o_sh3 c hc _ (by omega), o_sum _ (pkL_lt T L i c)]
      exact e1
    · rw [o_0]
      have e : dbL T L i (c + 1) = dbL T L i c := by
        show dbL T L i c + (if oc T L c i = 5 then 1 * 2 ^ c else 0) = _
        rw [if_neg z]; rfl
      rw [e] at e2
      exact e2
    · rw [o_bit c (by omega), o_sum 1 (dbL_lt T L i c)]
      have e : dbL T L i (c + 1) = dbL T L i c + 1 * 2 ^ c := by
        show dbL T L i c + (if oc T L c i = 5 then 1 * 2 ^ c else 0) = _
        rw [if_pos z]
      rw [e] at e2
      exact e2
theorem c_judgeCard {Post : Hp → Prop} {k2 : Int32 → Hp → Prop} (S : SO h0 s T) (w : SR h0 h s F) (o : okC T) (g : DG T F (T 0)) (rn : ∀ p, p < 12 → ∀ j, j < T 0 → RN T p F j) {L i : Nat} (hL : 0 < L) (hL2 : L < 2 ^ 31) (hi : i < T 0) (hk : ∀ h' F', SR h0 h' s F' → JD T L F' i → (∀ k j, (k < 7 ∨ 11 < k ∨ (k < 10 ∧ j / 12 ≠ i) ∨ (9 < k ∧ j ≠ i)) → F' k j = F k j) → k2 (nI (i + 1)) h') : ∃ n, wp_X4_judgeWith_35 Post k2 s (nI L) (nI i) (nI (lk01 T i)) n (nI 0) h := by
  have h40 := o.1
  refine for_us (fun n p (q : Hp × (Nat → Nat → Int32)) => wp_X4_judgeWith_35 Post k2 s (nI L) (nI i) (nI (lk01 T i)) n (nI p) q.1) (fun p q => SR h0 q.1 s q.2 ∧ (∀ p', p' < p → JP T L q.2 i p') ∧ (∀ k j, (k < 7 ∨ 9 < k ∨ j / 12 ≠ i) → q.2 k j = F k j)) 12 0 (h, F) (by omega) ⟨w, fun p hp => by omega, fun _ _ _ => rfl⟩ (fun n q I => ?_) (fun n p q _ hp I ih => ?_)
  · obtain ⟨W, G, fr⟩ := I
    refine b_le (by omega) (by omega) (fun _ => ?_) (fun z => by omega)
    obtain ⟨h1, e1, w1⟩ := W.put (k := 10) (i := i) (by omega) (by omega) (by show _ < 40; omega) (nI 0)
    obtain ⟨h2, e2, w2⟩ := w1.put (k := 11) (i := i) (by omega) (by omega) (by show _ < 40; omega) (nI 0)
    refine ⟨_, S.f W (k := 10) (by omega), h1, e1, _, S.f w1 (k := 11) (by omega), h2, e2, c_judgeContests S w2 o hi (fun p hp => (G p hp).cong (fun k hk => by rw [up2_o (by omega), up2_o (by omega)])) (by rw [up2_o (by omega), up2_s]) (by rw [up2_s]) (fun h' F' w' a fr' => hk h' F' w' a (fun k j hkj => ?_))⟩
    rw [fr' k j (by omega), up2_o (by omega), up2_o (by omega), fr k j (by omega)]
  · obtain ⟨W, G, fr⟩ := I
    have g2 : DG T q.2 (T 0) := g.cong (fun k j hk => fr k j (by omega))
    refine b_le (by omega) (by omega) (fun z => by omega) (fun _ y ey => ?_)
    rw [nI_mul, nI_add] at ey
    subst ey
    have R := rn p hp i hi
    have c5 := W.g (k := 5) (i := i * 12 + p) (by omega) (by omega) (by show _ < 480; omega)
    rw [fr _ _ (by omega), R.2.2.1] at c5
    have c6 := W.g (k := 6) (i := i * 12 + p) (by omega) (by omega) (by show _ < 480; omega)
    rw [fr _ _ (by omega), R.2.2.2] at c6
    have go : ∀ x : Int32, x = nI (dirt T L p i) → wp_X4_judgeWith_79 Post k2 (fun z0 h => wp_X4_judgeWith_35 Post k2 s (nI L) (nI i) (nI (lk01 T i)) n z0 h) s (nI L) (nI i) (nI (lk01 T i)) (nI p) (nI (i * 12 + p)) (s + 11 + 7) (nI (i * 12 + p)) x q.1 := by
      intro x hx
      subst hx
      refine c_judgePlace S W o g2 hi hp (fun h' F' w' a fr' => ih (h', F') ⟨w', fun p' hp' => ?_, fun k j hkj => ?_⟩)
      · by_cases z : p' = p
        · subst z; exact a
        · exact (G p' (by omega)).cong (fun k _ => fr' _ _ (by omega))
      · dsimp only
        rw [fr' k j (by omega), fr k j hkj]
    have hrl : rlz T p i < 2 ^ 31 := by
      have := run_lst (p := p) i hi
      have h1 := cntU_le (V := T) (p := p) _ (fst T p i) (by have := fst_le (V := T) (p := p) i; omega) rfl
      have h2 := rl_fst (p := p) i hi
      unfold rlz
      split
      · omega
      · omega
    refine ⟨_, S.f W (k := 7) (by omega), _, S.f W (k := 5) (by omega), _, c5, b_lt hrl hL2 (fun z => go _ ?_) (fun z => ⟨_, S.f W (k := 6) (by omega), _, c6, go _ ?_⟩)⟩
    · unfold rlz at z
      unfold dirt
      split at z
      · rename_i q; rw [if_pos q]
      · rename_i q; rw [if_neg q, if_pos z]
    · unfold rlz at z
      unfold dirt
      split at z
      · omega
      · rename_i q; rw [if_neg q, if_neg (by omega)]
theorem c_judgeWith {K : Hp → Prop} (S : SO h0 s T) (w : SR h0 h s F) (o : okC T) (d : okD T) (g : DG T F (T 0)) (rn : ∀ p, p < 12 → ∀ j, j < T 0 → RN T p F j) {L : Nat} (hL : 0 < L) (hL2 : L < 2 ^ 31) (hk : ∀ h' F', SR h0 h' s F' → (∀ i, i < T 0 → JD T L F' i) → (∀ k j, (k < 7 ∨ 11 < k) → F' k j = F k j) → K h') : wp_X4_judgeWith s (nI L) K h := by
  have h40 := o.1
  refine for_us (fun n i (q : Hp × (Nat → Nat → Int32)) => wp_X4_judgeWith_2 K s (nI L) n (nI i) q.1) (fun i q => SR h0 q.1 s q.2 ∧ (∀ j, j < i → JD T L q.2 j) ∧ (∀ k j, (k < 7 ∨ 11 < k) → q.2 k j = F k j)) (T 0) 0 (h, F) (by omega) ⟨w, fun p hp => by omega, fun _ _ _ => rfl⟩ (fun n q I => ?_) (fun n i q _ hi I ih => ?_)
  · exact ⟨_, S.b I.1, _, (S.B I.1).cards, b_le (by omega) (by omega) (fun _ => hk _ _ I.1 I.2.1 I.2.2) (fun z => by omega)⟩
  · obtain ⟨W, G, fr⟩ := I
    have hs := (d i (by omega)).2.2.2.1
    have g2 : DG T q.2 (T 0) := g.cong (fun k j hk => fr k j (by omega))
    have rn2 : ∀ p, p < 12 → ∀ j, j < T 0 → RN T p q.2 j := fun p hp j hj => by
      obtain ⟨a1, a2, a3, a4⟩ := rn p hp j hj
      exact ⟨by rw [fr _ _ (by omega)]; exact a1, by rw [fr _ _ (by omega)]; exact a2, by rw [fr _ _ (by omega)]; exact a3, by rw [fr _ _ (by omega)]; exact a4⟩
    have go := c_judgeCard (Post := K) (k2 := fun z0 h => wp_X4_judgeWith_2 K s (nI L) n z0 h) S W o g2 rn2 hL hL2 hi (fun h' F' w' a fr' => ih (h', F') ⟨w', fun j hj => ?_, fun k j hkj => ?_⟩)
    · refine ⟨_, S.b W, _, (S.B W).cards, b_le (by omega) (by omega) (fun z => by omega) (fun _ => ⟨_, S.b W, _, (S.B W).fs, _, (S.B W).s (by omega), b_ne (by omega) (by omega) (fun z => ?_) (fun z => ?_)⟩)⟩
      · have hl : ¬ lok T i = true := by simpa [lok] using z
        rw [show nI 0 = nI (lk01 T i) by unfold lk01; rw [if_neg hl]] at go ⊢
        exact go
      · have hl : lok T i = true := by simpa [lok] using z
        rw [show nI 1 = nI (lk01 T i) by unfold lk01; rw [if_pos hl]]
        exact go
    · by_cases z : j = i
      · subst z; exact a
      · have b := G j (by omega)
        exact ⟨fun p hp => (b.1 p hp).cong (fun k hk => fr' _ _ (by omega)), (fr' _ _ (by omega)).trans b.2.1, (fr' _ _ (by omega)).trans b.2.2⟩
    · dsimp only
      rw [fr' k j (by omega), fr k j hkj]
end S3
