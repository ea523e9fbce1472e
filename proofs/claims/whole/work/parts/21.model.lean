/-! the reference's reads: the vector V of its 1367 numbers -/
def RM (h : Hp) (M : Nat) (V : Nat → Nat) : Prop := isO h M 9 ∧ gF h M 9 0 = some (.ref (M + 1)) ∧ ∀ i : Nat, i < 1367 → gL h (M + 1) (nI i) = some (lN (V i))
def okC (V : Nat → Nat) : Prop := V 0 ≤ 40 ∧ V 1 ≤ 6 ∧ (2 ≤ V 2 ∧ V 2 ≤ 9) ∧ (1 ≤ V 3 ∧ V 3 ≤ 9) ∧ (1 ≤ V 4 ∧ V 4 ≤ 9) ∧ V 5 ≤ 20
def okD (V : Nat → Nat) : Prop := ∀ i, i < 40 → V (9 + 5 * i) < 3 ∧ V (9 + 5 * i + 1) < 1000000000000 ∧ V (9 + 5 * i + 2) < 2 ^ 30 ∧ V (9 + 5 * i + 3) ≤ 2 ∧ V (9 + 5 * i + 4) < 1000000000000
theorem RM.at {h : Hp} {M : Nat} {V : Nat → Nat} (R : RM h M V) {x : Int32} (i : Nat) (hx : x = nI i) (hi : i < 1367) : gL h (M + 1) x = some (lN (V i)) := by rw [hx]; exact R.2.2 i hi
theorem e_c {K : Int32 → Hp → Prop} {h : Hp} {i w : Nat} (hk : K (nI (9 + 5 * i + w)) h) : wp_X9_c (nI i) (nI w) K h := by
  show K ((nI 9 + nI 5 * nI i) + nI w) h
  rw [nI_mul, nI_add, nI_add]
  exact hk
theorem e_v {K : Int32 → Hp → Prop} {h : Hp} {i w : Nat} (hk : K (nI (209 + 41 * i + w)) h) : wp_X9_v (nI i) (nI w) K h := by
  show K ((nI 209 + nI 41 * nI i) + nI w) h
  rw [nI_mul, nI_add, nI_add]
  exact hk
theorem e_in {K : Int32 → Hp → Prop} {h : Hp} {x lo hi : Int64} (hk : K (bI (lo ≤ x ∧ x ≤ hi)) h) : wp_X9_in x lo hi K h := by
  refine ⟨fun q => ?_, fun q => ⟨fun r => ?_, fun r => ?_⟩⟩
  · rw [← bI_f (p := lo ≤ x ∧ x ≤ hi) (fun z => by rw [lt64] at q; have := z.1; rw [le64] at this; omega)]; exact hk
  · rw [← bI_f (p := lo ≤ x ∧ x ≤ hi) (fun z => by rw [lt64] at r; have := z.2; rw [le64] at this; omega)]; exact hk
  · rw [← bI_t (p := lo ≤ x ∧ x ≤ hi) (by rw [lt64] at q r; rw [le64, le64]; omega)]; exact hk
theorem e_isCard {K : Int32 → Hp → Prop} {h : Hp} {M : Nat} {V : Nat → Nat} (R : RM h M V) (h0 : V 0 ≤ 40) {x : Int32} (hk : K (bI (0 ≤ x.toInt ∧ x.toInt < (V 0 : Int))) h) : wp_X9_isCard M x K h := by
  refine ⟨_, R.2.1, _, R.at 0 rfl (by omega), e_in ?_⟩
  refine ⟨bI_01 _, ?_⟩
  rw [bI_c (q := 0 ≤ x.toInt ∧ x.toInt < (V 0 : Int))]
  · exact hk
  · rw [le64, le64, toI64]
    have e : (lN (V 0) - lN 1).toInt = (V 0 : Int) - 1 := by
      by_cases z : V 0 = 0
      · rw [z]; decide
      · rw [lN_sub (by omega), lNT (by omega)]; omega
    rw [e, lNT (by omega)]
    omega
theorem e_isRow {K : Int32 → Hp → Prop} {h : Hp} {x : Int64} (hk : K (bI (0 ≤ x.toInt ∧ x.toInt ≤ 999999999999)) h) : wp_X9_isRow x K h := by
  refine e_in ⟨bI_01 _, ?_⟩
  rw [bI_c (q := 0 ≤ x.toInt ∧ x.toInt ≤ 999999999999)]
  · exact hk
  · rw [le64, le64, lNT (by omega), lNT (by omega)]; omega
theorem e_digit {K : Int32 → Hp → Prop} {h : Hp} {r p : Nat} (hr : r < 1000000000000) (hp : p < 12) (hk : K (nI (dg r p)) h) : wp_X9_digit (lN r) (nI p) K h := by
  have key := for_up (fun n i => wp_X9_digit_5 K n (lN (r / 10 ^ (i - p))) (nI i) h) 11 p (by omega) (fun n => ?_) (fun n i h0 h1 ih => ?_)
  · obtain ⟨n, hn⟩ := key
    refine ⟨n, ?_⟩
    simpa using hn
  · have hd : r / 10 ^ (11 - p) < 2 ^ 63 := Nat.lt_of_le_of_lt (Nat.div_le_self _ _) (by omega)
    refine ⟨fun _ => ?_, fun q => absurd ((nI_leI (by omega) (by omega)).mpr (Nat.le_refl 11)) q⟩
    rw [pk_lRem hd (by omega) (by omega), lN_i]
    exact hk
  · have hd : r / 10 ^ (i - p) < 2 ^ 63 := Nat.lt_of_le_of_lt (Nat.div_le_self _ _) (by omega)
    refine ⟨fun q => absurd ((nI_leI (by omega) (by omega)).mp q) (by omega), fun _ y1 e1 y2 e2 => ?_⟩
    subst e1; subst e2
    rw [pk_lDiv hd (by omega) (by omega), Nat.div_div_eq_div_mul, nI_add]
    have e : 10 ^ (i - p) * 10 = 10 ^ (i + 1 - p) := by rw [← Nat.pow_succ]; congr 1; omega
    rw [e]
    exact ih
theorem e_read {K : Int32 → Hp → Prop} {h : Hp} {M : Nat} {V : Nat → Nat} (R : RM h M V) {i p : Nat} (hi : i < 40) (hp : p < 12) (hr : V (9 + 5 * i + 1) < 1000000000000) (hk : K (nI (dg (V (9 + 5 * i + 1)) p)) h) : wp_X9_read M (nI i) (nI p) K h :=
  ⟨_, R.2.1, e_c ⟨_, R.at (9 + 5 * i + 1) rfl (by omega), e_digit hr hp hk⟩⟩
theorem e_isLooked {K : Int32 → Hp → Prop} {h : Hp} {M : Nat} {V : Nat → Nat} (R : RM h M V) {i : Nat} (hi : i < 40) (hs : V (9 + 5 * i + 3) ≤ 2) (hk : K (bI (V (9 + 5 * i + 3) = 2)) h) : wp_X9_isLooked M (nI i) K h := by
  refine ⟨_, R.2.1, e_c ⟨_, R.at (9 + 5 * i + 3) rfl (by omega), fun q => ?_, fun q => ?_⟩⟩
  · rw [← bI_f (p := V (9 + 5 * i + 3) = 2) (fun z => q (by rw [z]))]; exact hk
  · rw [← bI_t (p := V (9 + 5 * i + 3) = 2) ((pk_lEQ (by omega) (by omega)).mp q)]; exact hk
theorem e_inState {K : Int32 → Hp → Prop} {h : Hp} {M : Nat} {V : Nat → Nat} (R : RM h M V) (h0 : V 0 ≤ 40) {m : Nat} (hm : m < 2 ^ 31) (hs : ∀ i, i < 40 → V (9 + 5 * i + 3) ≤ 2) (hk : K (nI (cnt (fun i => decide (V (9 + 5 * i + 3) = m)) (V 0))) h) : wp_X9_inState M (nI m) K h := by
  have e0 : nI 0 = nI (cnt (fun i => decide (V (9 + 5 * i + 3) = m)) 0) := rfl
  refine for_up (fun n i => wp_X9_inState_4 K M (nI m) n (nI (cnt (fun i => decide (V (9 + 5 * i + 3) = m)) i)) (nI i) h) (V 0) 0 (Nat.zero_le _) (fun n => ?_) (fun n i _ h1 ih => ?_)
  · refine ⟨_, R.2.1, _, R.at 0 rfl (by omega), fun _ => hk, fun q => absurd ?_ q⟩
    rw [nI_l (by omega)]
    exact (pk_lLE (by omega) (by omega)).mpr (Nat.le_refl _)
  · refine ⟨_, R.2.1, _, R.at 0 rfl (by omega), fun q => ?_, fun _ => ⟨_, R.2.1, e_c ⟨_, R.at (9 + 5 * i + 3) rfl (by omega), fun q => ?_, fun q => ?_⟩⟩⟩
    · rw [nI_l (by omega)] at q
      have := (pk_lLE (by omega) (by omega)).mp q
      omega
    · intro y1 e1 y2 e2
      subst e1; subst e2
      rw [nI_add, nI_add, Nat.add_zero]
      rw [nI_l hm] at q
      have hq : ¬ V (9 + 5 * i + 3) = m := fun z => q (by rw [z])
      rw [cnt_f (by simpa using hq)] at ih
      exact ih
    · intro y1 e1 y2 e2
      subst e1; subst e2
      rw [nI_add, nI_add]
      rw [nI_l hm] at q
      have hq : V (9 + 5 * i + 3) = m := (pk_lEQ (by have := hs i (by omega); omega) (by omega)).mp q
      rw [cnt_t (by simpa using hq)] at ih
      exact ih
