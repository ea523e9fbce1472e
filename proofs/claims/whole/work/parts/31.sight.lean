/-! the class's Sight: digits and runs -/
theorem m1_sub (x : Int32) : x - nI 1 = x + (-1) := by
  have e : -(nI 1) = (-1 : Int32) := by decide
  rw [Int32.sub_eq_add_neg, e]
theorem for_ds {σ : Type} (W : Nat → Nat → σ → Prop) (I : Nat → σ → Prop) (e : Nat) (s : σ) (h0 : I e s) (hx : ∀ n s, I 0 s → W (n + 1) 0 s) (hs : ∀ n i s, i < e → I (i + 1) s → (∀ s', I i s' → W n i s') → W (n + 1) (i + 1) s) : ∃ n, W n e s := by
  have key : ∀ d s, d ≤ e → I d s → W (d + 1) d s := by
    intro d
    induction d with
    | zero => intro s _ h; exact hx 0 s h
    | succ d ih => intro s h hI; exact hs _ d s (by omega) hI (fun s' h' => ih s' (by omega) h')
  exact ⟨e + 1, key e s (Nat.le_refl _) h0⟩
/-- the card below of the same machine, with no cleaning between -/
def clf (T : Nat → Nat) (i : Nat) (o : Option Nat) : Option Nat := match o with
  | some j => if T (9 + 5 * j + 2) = T (9 + 5 * i + 2) then some j else none
  | none => none
def plD (T : Nat → Nat) (i : Nat) : Option Nat := clf T i (dn T i)
theorem plD_lt {T : Nat → Nat} {i j : Nat} (h : plD T i = some j) : j < i := by
  unfold plD clf at h
  split at h
  · rename_i q e
    split at h
    · cases h; exact (bk_some e).1
    · cases h
  · cases h
theorem plD_lk {T : Nat → Nat} {p i j : Nat} (h : plD T i = some j) : lkD T p i = if 0 < rd T p j ∧ 0 < rd T p i then some j else none := by
  unfold plD clf at h
  unfold lkD
  split at h
  · rename_i q e
    split at h
    · rename_i c
      cases h
      rw [e]
      by_cases z : 0 < rd T p j ∧ 0 < rd T p i
      · rw [if_pos z]; exact if_pos ⟨c.symm, z.2, z.1⟩
      · rw [if_neg z]; exact if_neg (fun y => z ⟨y.2.2, y.2.1⟩)
    · cases h
  · cases h
theorem plD_nk {T : Nat → Nat} {p i : Nat} (h : plD T i = none) : lkD T p i = none := by
  unfold plD clf at h
  unfold lkD
  cases e : dn T i with
  | none => rfl
  | some q =>
    rw [e] at h
    dsimp only at h ⊢
    split at h
    · cases h
    · rename_i c
      exact if_neg (fun y => c y.1.symm)
section S1
variable {h0 h : Hp} {s : Nat} {T : Nat → Nat} {F : Nat → Nat → Int32}
theorem c_previousOf {K : Int32 → Hp → Prop} (S : SO h0 s T) (w : SR h0 h s F) (o : okC T) (d : okD T) {i : Nat} (hi : i < T 0) (hk : K (vI (plD T i)) h) : wp_X4_previousOf s (nI i) K h := by
  have h40 := o.1
  intro y ey
  subst ey
  rw [m1_sub]
  unfold plD dn at hk
  have key : ∀ k, k ≤ i → K (vI (clf T i (bk T (T (9 + 5 * i)) k))) h → ∃ n, wp_X4_previousOf_4 K s (nI i) n (nI k + (-1)) h := by
    intro k
    induction k with
    | zero =>
      intro _ hk
      exact ⟨1, fun _ => hk, fun q => absurd (by decide) q⟩
    | succ k ih =>
      intro hki hk
      rw [pk_m1]
      have hlt := nI_pos (n := k) (by omega)
      have m1 := (d k (by omega)).1
      have m2 := (d i (by omega)).1
      have c1 := (d k (by omega)).2.2.1
      have c2 := (d i (by omega)).2.2.1
      by_cases e : T (9 + 5 * k) = T (9 + 5 * i)
      · refine ⟨1, fun q => absurd q (by rw [nI_0]; exact hlt), fun _ => ⟨_, S.b w, _, (S.B w).fm, _, (S.B w).m (by omega), _, S.b w, _, (S.B w).fm, _, (S.B w).m (by omega), b_ne (by omega) (by omega) (fun q => absurd e q) (fun _ => ⟨_, S.b w, _, (S.B w).fc, _, (S.B w).c (by omega), _, S.b w, _, (S.B w).fc, _, (S.B w).c (by omega), b_ne (by omega) (by omega) (fun q => ?_) (fun q => ?_)⟩)⟩⟩
        · unfold bk at hk
          rw [if_pos e] at hk
          unfold clf at hk
          dsimp only at hk
          rw [if_neg q] at hk
          exact hk
        · unfold bk at hk
          rw [if_pos e] at hk
          unfold clf at hk
          dsimp only at hk
          rw [if_pos q] at hk
          exact hk
      · unfold bk at hk
        rw [if_neg e] at hk
        obtain ⟨n, hn⟩ := ih (by omega) hk
        exact ⟨n + 1, fun q => absurd q (by rw [nI_0]; exact hlt), fun _ => ⟨_, S.b w, _, (S.B w).fm, _, (S.B w).m (by omega), _, S.b w, _, (S.B w).fm, _, (S.B w).m (by omega), b_ne (by omega) (by omega) (fun _ y ey => by subst ey; exact hn) (fun q => absurd q e)⟩⟩
  exact key i (Nat.le_refl _) hk
theorem sW_at : ∀ p, p < 12 → sW (nI p) = some (lN (10 ^ (11 - p))) ∧ ¬ lN (10 ^ (11 - p)) = 0 := by decide +kernel
theorem ten_le (p : Nat) : 10 ^ (11 - p) ≤ 100000000000 := Nat.pow_le_pow_right (show 0 < 10 by omega) (show 11 - p ≤ 11 by omega)
theorem dg_L {r p : Nat} (hr : r < 1000000000000) : Int64.toInt32 ((lN r / lN (10 ^ (11 - p))) - (lN r / lN (10 ^ (11 - p))) / (lN 10) * (lN 10)) = nI (dg r p) := by
  have h1 : 0 < 10 ^ (11 - p) := Nat.pow_pos (by omega)
  have h2 := ten_le p
  have h3 : r / 10 ^ (11 - p) ≤ r := Nat.div_le_self _ _
  rw [pk_lDiv (by omega) h1 (by omega), pk_lRem (by omega) (by omega) (by omega), lN_i]
  rfl
theorem c_readDigits {K : Hp → Prop} (S : SO h0 s T) (w : SR h0 h s F) (o : okC T) (d : okD T) {i : Nat} (hi : i < T 0) (hk : ∀ h' F', SR h0 h' s F' → (∀ p, p < 12 → F' 1 (i * 12 + p) = nI (rd T p i) ∧ F' 2 (i * 12 + p) = nI (trt T p i)) → (∀ k j, ¬ ((k = 1 ∨ k = 2) ∧ i * 12 ≤ j) → F' k j = F k j) → (∀ k j, j < i * 12 → F' k j = F k j) → K h') : wp_X4_readDigits s (nI i) K h := by
  have h40 := o.1
  have r1 := (d i (by omega)).2.1
  have r2 := (d i (by omega)).2.2.2.2
  refine for_us (fun n p (g : Hp × (Nat → Nat → Int32)) => wp_X4_readDigits_2 K s (nI i) n (nI p) g.1) (fun p g => SR h0 g.1 s g.2 ∧ (∀ q, q < p → g.2 1 (i * 12 + q) = nI (rd T q i) ∧ g.2 2 (i * 12 + q) = nI (trt T q i)) ∧ (∀ k j, ¬ ((k = 1 ∨ k = 2) ∧ i * 12 ≤ j) → g.2 k j = F k j)) 12 0 (h, F) (by omega) ⟨w, fun q hq => by omega, fun _ _ _ => rfl⟩ (fun n g I => ?_) (fun n p g _ hp I ih => ?_)
  · exact b_le (by omega) (by omega) (fun _ => hk _ _ I.1 I.2.1 I.2.2 (fun k j hj => I.2.2 k j (fun q => by omega))) (fun q => by omega)
  · obtain ⟨W, G, fr⟩ := I
    refine b_le (by omega) (by omega) (fun q => by omega) (fun _ y ey => ?_)
    rw [nI_mul, nI_add] at ey
    subst ey
    have t := sW_at p hp
    obtain ⟨h1, e1, w1⟩ := W.put (k := 1) (i := i * 12 + p) (by omega) (by omega) (by show _ < 480; omega) (nI (rd T p i))
    obtain ⟨h2, e2, w2⟩ := w1.put (k := 2) (i := i * 12 + p) (by omega) (by omega) (by show _ < 480; omega) (nI (trt T p i))
    refine ⟨_, S.f W (k := 1) (by omega), _, S.b W, _, (S.B W).fr', _, (S.B W).r (by omega), _, t.1, t.2, h1, ?_, _, S.f w1 (k := 2) (by omega), _, S.b w1, _, (S.B w1).ft, _, (S.B w1).t (by omega), _, t.1, t.2, h2, ?_, fun z ez => ?_⟩
    · rw [dg_L r1]; exact e1
    · rw [dg_L r2]; exact e2
    · rw [nI_add] at ez
      subst ez
      refine ih (h2, up2 (up2 g.2 1 (i * 12 + p) (nI (rd T p i))) 2 (i * 12 + p) (nI (trt T p i))) ⟨w2, fun q hq => ?_, fun k j hkj => ?_⟩
      · by_cases z : q = p
        · subst z
          dsimp only
          exact ⟨by rw [up2_k (by omega), up2_s], by rw [up2_s]⟩
        · dsimp only
          rw [up2_i (by omega), up2_i (by omega), up2_i (by omega), up2_i (by omega)]
          exact G q (by omega)
      · dsimp only
        unfold up2
        rw [if_neg (fun z => hkj ⟨Or.inr z.1, by omega⟩), if_neg (fun z => hkj ⟨Or.inl z.1, by omega⟩)]
        exact fr k j hkj
/-- what rows 0, 1, 2 hold up to card c -/
def DG (T : Nat → Nat) (F : Nat → Nat → Int32) (c : Nat) : Prop := ∀ i, i < c → F 0 i = vI (plD T i) ∧ ∀ p, p < 12 → F 1 (i * 12 + p) = nI (rd T p i) ∧ F 2 (i * 12 + p) = nI (trt T p i)
theorem DG.cong {F F' : Nat → Nat → Int32} {c : Nat} (g : DG T F c) (e : ∀ k j, k < 3 → F' k j = F k j) : DG T F' c := by
  intro i hi
  obtain ⟨g1, g2⟩ := g i hi
  refine ⟨by rw [e 0 _ (by omega)]; exact g1, fun p hp => ?_⟩
  rw [e 1 _ (by omega), e 2 _ (by omega)]
  exact g2 p hp
theorem c_ownDirt {K : Int32 → Hp → Prop} (S : SO h0 s T) (w : SR h0 h s F) (o : okC T) (d : okD T) (g : DG T F (T 0)) {i p : Nat} (hi : i < T 0) (hp : p < 12) (hk : K (nI (own T p i)) h) : wp_X4_ownDirt s (nI i) (nI (i * 12 + p)) K h := by
  have h40 := o.1
  have hs := (d i (by omega)).2.2.2.1
  have g1 := ((g i hi).2 p hp).1
  have g2 := ((g i hi).2 p hp).2
  have r1 := rd_lt T p i
  have r2 := trt_lt T p i
  refine ⟨_, S.b w, _, (S.B w).fs, _, (S.B w).s (by omega), b_eq (by omega) (by omega) (fun q => ?_) (fun q => ?_)⟩
  · have hl : lok T i = true := by simpa [lok] using q
    unfold own at hk
    rw [if_pos hl] at hk
    refine ⟨_, S.f w (k := 1) (by omega), _, w.g (k := 1) (by omega) (by omega) (by show _ < 480; omega), _, S.f w (k := 2) (by omega), _, w.g (k := 2) (by omega) (by omega) (by show _ < 480; omega), ?_⟩
    rw [g1, g2]
    by_cases z : trt T p i ≤ rd T p i
    · rw [pk_sub z]
      by_cases y : rd T p i - trt T p i = 0
      · rw [y, if_neg (fun q => by rw [Int32.lt_iff_toInt_lt] at q; omega)]
        rw [y] at hk
        exact hk
      · rw [if_pos ((nI_ltI (by omega) (by omega)).mpr (by omega))]
        exact hk
    · rw [if_neg]
      · rw [show rd T p i - trt T p i = 0 by omega] at hk
        exact hk
      · have key : ∀ a, a < 10 → ∀ b, b < 10 → a < b → ¬ nI 0 < nI a - nI b := by decide +kernel
        exact key _ r1 _ r2 (by omega)
  · have hl : ¬ lok T i = true := by simpa [lok] using q
    unfold own at hk
    rw [if_neg hl] at hk
    refine ⟨_, S.f w (k := 1) (by omega), _, w.g (k := 1) (by omega) (by omega) (by show _ < 480; omega), ?_⟩
    rw [g1]
    exact hk
theorem up2_o {F : Nat → Nat → Int32} {k i k' i' : Nat} {x : Int32} (n : ¬ (k' = k ∧ i' = i)) : up2 F k i x k' i' = F k' i' := if_neg n
def lz (T : Nat → Nat) (p i : Nat) : Nat := if rd T p i = 0 then 0 else cntD T p i
def rlz (T : Nat → Nat) (p i : Nat) : Nat := if rd T p i = 0 then 0 else rl T p i
theorem imin {a b : Nat} (ha : a < 2 ^ 31) (hb : b < 2 ^ 31) : (if nI b < nI a then nI b else nI a) = nI (min a b) := by
  by_cases z : b < a
  · rw [if_pos ((nI_ltI hb ha).mpr z), Nat.min_eq_right (by omega)]
  · rw [if_neg (fun q => z ((nI_ltI hb ha).mp q)), Nat.min_eq_left (by omega)]
/-- the step of a card, its digits and its first numbers in place -/
theorem c_grow {k2 : Int32 → Hp → Prop} {Post : Hp → Prop} (S : SO h0 s T) (w : SR h0 h s F) (o : okC T) (d : okD T) (g : DG T F (T 0)) {i p : Nat} (hi : i < T 0) (hp : p < 12) (hb : ∀ j, j < i → F 3 (j * 12 + p) = nI (fst T p j) ∧ F 5 (j * 12 + p) = nI (lz T p j) ∧ F 6 (j * 12 + p) = nI (dmD T p j)) (f3 : F 3 (i * 12 + p) = nI i) (f4 : F 4 (i * 12 + p) = nI i)
    (hk : ∀ h' F', SR h0 h' s F' → F' 3 (i * 12 + p) = nI (fst T p i) ∧ F' 4 (i * 12 + p) = nI i ∧ F' 5 (i * 12 + p) = nI (lz T p i) ∧ F' 6 (i * 12 + p) = nI (dmD T p i) → (∀ k j, (j ≠ i * 12 + p ∨ k < 3 ∨ 6 < k) → F' k j = F k j) → k2 (nI (i + 1)) h') : wp_X4_growRuns_53 Post k2 s (nI p) (nI i) (nI (i * 12 + p)) (s + 11 + 5) (nI (i * 12 + p)) (nI (if 0 < rd T p i then 1 else 0)) h := by
  have h40 := o.1
  have r1 := rd_lt T p i
  have ho := own_lt T p i
  obtain ⟨h1, e1, w1⟩ := w.put (k := 5) (i := i * 12 + p) (by omega) (by omega) (by show _ < 480; omega) (nI (if 0 < rd T p i then 1 else 0))
  have g1 : DG T (up2 F 5 (i * 12 + p) (nI (if 0 < rd T p i then 1 else 0))) (T 0) := g.cong (fun k j hk => up2_k (by omega))
  obtain ⟨h2, e2, w2⟩ := w1.put (k := 6) (i := i * 12 + p) (by omega) (by omega) (by show _ < 480; omega) (nI (own T p i))
  have gi := g i hi
  have fr2 : ∀ k j, k < 5 → (up2 (up2 F 5 (i * 12 + p) (nI (if 0 < rd T p i then 1 else 0))) 6 (i * 12 + p) (nI (own T p i))) k j = F k j := fun k j hk => by rw [up2_k (by omega), up2_k (by omega)]
  have fr3 : ∀ k j, j ≠ i * 12 + p → (up2 (up2 F 5 (i * 12 + p) (nI (if 0 < rd T p i then 1 else 0))) 6 (i * 12 + p) (nI (own T p i))) k j = F k j := fun k j hk => by rw [up2_i hk, up2_i hk]
  have v5 : (up2 (up2 F 5 (i * 12 + p) (nI (if 0 < rd T p i then 1 else 0))) 6 (i * 12 + p) (nI (own T p i))) 5 (i * 12 + p) = nI (if 0 < rd T p i then 1 else 0) := by rw [up2_k (by omega), up2_s]
  have v6 : (up2 (up2 F 5 (i * 12 + p) (nI (if 0 < rd T p i then 1 else 0))) 6 (i * 12 + p) (nI (own T p i))) 6 (i * 12 + p) = nI (own T p i) := up2_s _ _ _ _
  generalize hF : (up2 (up2 F 5 (i * 12 + p) (nI (if 0 < rd T p i then 1 else 0))) 6 (i * 12 + p) (nI (own T p i))) = F2 at w2 fr2 fr3 v5 v6
  have g2 : DG T F2 (T 0) := g.cong (fun k j hk => fr2 k j (by omega))
  have fin : lkD T p i = none → ∀ y : Int32, y = nI i + nI 1 → k2 y h2 := by
    intro hn y ey
    subst ey
    rw [nI_add]
    obtain ⟨a1, a2, a3⟩ := D_none hn
    refine hk h2 F2 w2 ⟨by rw [fr2 _ _ (by omega), f3, a1], by rw [fr2 _ _ (by omega), f4], ?_, by rw [v6, a3]⟩ (fun k j hkj => ?_)
    · rw [v5]
      unfold lz
      rw [a2]
      by_cases z : rd T p i = 0
      · rw [if_pos z, if_neg (by omega)]
      · rw [if_neg z, if_pos (by omega)]
    · by_cases z : j = i * 12 + p
      · rw [← hF, up2_k (by omega), up2_k (by omega)]
      · exact fr3 k j z
  refine ⟨h1, e1, _, S.f w1 (k := 6) (by omega), S.o w1, c_ownDirt S w1 o d g1 hi hp ⟨h2, e2, _, S.f w2 (k := 0) (by omega), _, w2.g (k := 0) (by omega) (by omega) (by show _ < 40; omega), ?_⟩⟩
  intro y ey
  refine ⟨_, S.f w2 (k := 0) (by omega), _, w2.g (k := 0) (by omega) (by omega) (by show _ < 40; omega), ?_⟩
  rw [fr2 _ _ (by omega), gi.1] at ey ⊢
  cases hl : plD T i with
  | none =>
    refine ⟨fun _ => fin (plD_nk hl), fun q => absurd (by decide) q⟩
  | some b =>
    have hbi := plD_lt hl
    have rb := rd_lt T p b
    have hbb := hb b hbi
    have hlk := plD_lk (p := p) hl
    rw [hl] at ey
    replace ey : y = nI b * nI 12 + nI p := ey
    rw [nI_mul, nI_add] at ey
    subst ey
    refine ⟨fun q => absurd q (by rw [nI_0]; exact nI_pos (by omega)), fun _ => ⟨_, S.f w2 (k := 1) (by omega), _, w2.g (k := 1) (by omega) (by omega) (by show _ < 480; omega), ?_⟩⟩
    rw [((g2 b (by omega)).2 p hp).1]
    refine b_le (by omega) (by omega) (fun q => fin (by rw [hlk, if_neg (by omega)])) (fun q => ⟨_, S.f w2 (k := 1) (by omega), _, w2.g (k := 1) (by omega) (by omega) (by show _ < 480; omega), ?_⟩)
    rw [((g2 i (by omega)).2 p hp).1]
    refine b_le (by omega) (by omega) (fun q => fin (by rw [hlk, if_neg (by omega)])) (fun q2 => ?_)
    rw [if_pos ⟨q, q2⟩] at hlk
    obtain ⟨a1, a2, a3⟩ := D_some hlk
    have dl : dmD T p b < 10 := Nat.lt_of_le_of_lt (dmD_le b) (own_lt T p b)
    obtain ⟨h3, e3, w3⟩ := w2.put (k := 3) (i := i * 12 + p) (by omega) (by omega) (by show _ < 480; omega) (F2 3 (b * 12 + p))
    obtain ⟨h4, e4, w4⟩ := w3.put (k := 5) (i := i * 12 + p) (by omega) (by omega) (by show _ < 480; omega) (F2 5 (b * 12 + p) + nI 1)
    obtain ⟨h5, e5, w5⟩ := w4.put (k := 6) (i := i * 12 + p) (by omega) (by omega) (by show _ < 480; omega) (if F2 6 (i * 12 + p) < F2 6 (b * 12 + p) then F2 6 (i * 12 + p) else F2 6 (b * 12 + p))
    have c5 := w3.g (k := 5) (i := b * 12 + p) (by omega) (by omega) (by show _ < 480; omega)
    rw [up2_k (by omega)] at c5
    have c6 := w4.g (k := 6) (i := b * 12 + p) (by omega) (by omega) (by show _ < 480; omega)
    rw [up2_k (by omega), up2_k (by omega)] at c6
    have c7 := w4.g (k := 6) (i := i * 12 + p) (by omega) (by omega) (by show _ < 480; omega)
    rw [up2_k (by omega), up2_k (by omega)] at c7
    refine ⟨_, S.f w2 (k := 3) (by omega), _, S.f w2 (k := 3) (by omega), _, w2.g (k := 3) (by omega) (by omega) (by show _ < 480; omega), h3, e3, _, S.f w3 (k := 5) (by omega), _, S.f w3 (k := 5) (by omega), _, c5, h4, e4, _, S.f w4 (k := 6) (by omega), _, S.f w4 (k := 6) (by omega), _, c6, _, S.f w4 (k := 6) (by omega), _, c7, h5, e5, fun z ez => ?_⟩
    subst ez
    rw [nI_add]
    refine hk h5 _ w5 ⟨?_, ?_, ?_, ?_⟩ (fun k j hkj => ?_)
    · rw [up2_k (by omega), up2_k (by omega), up2_s, fr3 _ _ (by omega), hbb.1, a1]
    · rw [up2_k (by omega), up2_k (by omega), up2_k (by omega), fr2 _ _ (by omega), f4]
    · rw [up2_k (by omega), up2_s, fr3 _ _ (by omega), hbb.2.1, nI_add]
      unfold lz
      rw [if_neg (by omega), if_neg (by omega), a2]
    · rw [up2_s, fr3 _ (b * 12 + p) (by omega), hbb.2.2, v6, imin (by omega) (by omega), a3]
    · rw [up2_o (by omega), up2_o (by omega), up2_o (by omega)]
      by_cases z : j = i * 12 + p
      · rw [← hF, up2_o (by omega), up2_o (by omega)]
      · exact fr3 k j z
end S1
