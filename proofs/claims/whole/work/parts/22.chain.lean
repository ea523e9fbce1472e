/-! runs, over the vector of the cards: card i has machine V (9+5i), row +1, cleanings +2, stage +3, truth +4; V 0 cards -/
def rd (V : Nat → Nat) (p i : Nat) : Nat := dg (V (9 + 5 * i + 1)) p
def trt (V : Nat → Nat) (p i : Nat) : Nat := dg (V (9 + 5 * i + 4)) p
def lok (V : Nat → Nat) (i : Nat) : Bool := V (9 + 5 * i + 3) == 2
def own (V : Nat → Nat) (p i : Nat) : Nat := if lok V i = true then rd V p i - trt V p i else rd V p i
/-- the last card of machine m below k -/
def bk (V : Nat → Nat) (m : Nat) : Nat → Option Nat
  | 0 => none
  | k + 1 => if V (9 + 5 * k) = m then some k else bk V m k
/-- the first card of machine m from k on, f places -/
def fw (V : Nat → Nat) (m : Nat) : Nat → Nat → Option Nat
  | _, 0 => none
  | k, f + 1 => if V (9 + 5 * k) = m then some k else fw V m (k + 1) f
def dn (V : Nat → Nat) (i : Nat) : Option Nat := bk V (V (9 + 5 * i)) i
def up (V : Nat → Nat) (i : Nat) : Option Nat := fw V (V (9 + 5 * i)) (i + 1) (V 0 - (i + 1))
theorem bk_some {V : Nat → Nat} {m : Nat} : ∀ {k j : Nat}, bk V m k = some j → j < k ∧ V (9 + 5 * j) = m ∧ ∀ q, j < q → q < k → V (9 + 5 * q) ≠ m
  | 0, j, h => by cases h
  | k + 1, j, h => by
    unfold bk at h
    split at h
    · rename_i e
      cases h
      exact ⟨by omega, e, fun q h1 h2 => by omega⟩
    · rename_i e
      obtain ⟨h1, h2, h3⟩ := bk_some h
      refine ⟨by omega, h2, fun q h4 h5 => ?_⟩
      by_cases z : q = k
      · rw [z]; exact e
      · exact h3 q h4 (by omega)
theorem bk_none {V : Nat → Nat} {m : Nat} : ∀ {k : Nat}, bk V m k = none → ∀ q, q < k → V (9 + 5 * q) ≠ m
  | 0, _, q, hq => by omega
  | k + 1, h, q, hq => by
    unfold bk at h
    split at h
    · cases h
    · rename_i e
      by_cases z : q = k
      · rw [z]; exact e
      · exact bk_none h q (by omega)
theorem fw_some {V : Nat → Nat} {m : Nat} : ∀ {f k j : Nat}, fw V m k f = some j → k ≤ j ∧ j < k + f ∧ V (9 + 5 * j) = m ∧ ∀ q, k ≤ q → q < j → V (9 + 5 * q) ≠ m
  | 0, k, j, h => by cases h
  | f + 1, k, j, h => by
    unfold fw at h
    split at h
    · rename_i e
      cases h
      exact ⟨Nat.le_refl _, by omega, e, fun q h1 h2 => by omega⟩
    · rename_i e
      obtain ⟨h1, h2, h3, h4⟩ := fw_some h
      refine ⟨by omega, by omega, h3, fun q h5 h6 => ?_⟩
      by_cases z : q = k
      · rw [z]; exact e
      · exact h4 q (by omega) h6
theorem fw_none {V : Nat → Nat} {m : Nat} : ∀ {f k : Nat}, fw V m k f = none → ∀ q, k ≤ q → q < k + f → V (9 + 5 * q) ≠ m
  | 0, k, _, q, h1, h2 => by omega
  | f + 1, k, h, q, h1, h2 => by
    unfold fw at h
    split at h
    · cases h
    · rename_i e
      by_cases z : q = k
      · rw [z]; exact e
      · exact fw_none h q (by omega) (by omega)
theorem dn_up {V : Nat → Nat} {i j : Nat} (hi : i < V 0) : dn V i = some j ↔ (j < i ∧ up V j = some i) := by
  constructor
  · intro h
    obtain ⟨h1, h2, h3⟩ := bk_some h
    refine ⟨h1, ?_⟩
    cases hu : up V j with
    | none =>
      have := fw_none hu i (by omega) (by omega)
      rw [h2] at this
      exact absurd rfl this
    | some q =>
      obtain ⟨g1, g2, g3, g4⟩ := fw_some hu
      rw [h2] at g3 g4
      by_cases z : q = i
      · rw [z]
      · exfalso
        rcases Nat.lt_or_ge q i with y | y
        · exact h3 q (by omega) y g3
        · exact g4 i (by omega) (by omega) rfl
  · rintro ⟨h1, hu⟩
    obtain ⟨g1, g2, g3, g4⟩ := fw_some hu
    cases hd : dn V i with
    | none => exact absurd g3.symm (bk_none hd j h1)
    | some q =>
      obtain ⟨e1, e2, e3⟩ := bk_some hd
      by_cases z : q = j
      · rw [z]
      · exfalso
        rcases Nat.lt_or_ge q j with y | y
        · exact e3 j y h1 g3.symm
        · exact g4 q (by omega) e1 (by rw [e2, g3])
/-- the links of a run: down, up -/
def lkD (V : Nat → Nat) (p i : Nat) : Option Nat := match dn V i with
  | some j => if V (9 + 5 * i + 2) = V (9 + 5 * j + 2) ∧ 0 < rd V p i ∧ 0 < rd V p j then some j else none
  | none => none
def lkU (V : Nat → Nat) (p i : Nat) : Option Nat := match up V i with
  | some j => if V (9 + 5 * i + 2) = V (9 + 5 * j + 2) ∧ 0 < rd V p i ∧ 0 < rd V p j then some j else none
  | none => none
theorem lkD_some {V : Nat → Nat} {p i j : Nat} : lkD V p i = some j ↔ dn V i = some j ∧ V (9 + 5 * i + 2) = V (9 + 5 * j + 2) ∧ 0 < rd V p i ∧ 0 < rd V p j := by
  unfold lkD
  cases h : dn V i with
  | none => simp
  | some q =>
    constructor
    · intro e
      dsimp only at e
      split at e
      · rename_i c
        cases e
        exact ⟨rfl, c⟩
      · cases e
    · rintro ⟨e, c⟩
      cases e
      exact if_pos c
theorem lkU_some {V : Nat → Nat} {p i j : Nat} : lkU V p i = some j ↔ up V i = some j ∧ V (9 + 5 * i + 2) = V (9 + 5 * j + 2) ∧ 0 < rd V p i ∧ 0 < rd V p j := by
  unfold lkU
  cases h : up V i with
  | none => simp
  | some q =>
    constructor
    · intro e
      dsimp only at e
      split at e
      · rename_i c
        cases e
        exact ⟨rfl, c⟩
      · cases e
    · rintro ⟨e, c⟩
      cases e
      exact if_pos c
theorem lkD_lt {V : Nat → Nat} {p i j : Nat} (h : lkD V p i = some j) : j < i := (bk_some (lkD_some.mp h).1).1
theorem lkU_lt {V : Nat → Nat} {p i j : Nat} (h : lkU V p i = some j) : i < j ∧ j < V 0 := by
  obtain ⟨g1, g2, -⟩ := fw_some (lkU_some.mp h).1
  omega
theorem lk_DU {V : Nat → Nat} {p i j : Nat} (hi : i < V 0) : lkD V p i = some j ↔ lkU V p j = some i := by
  rw [lkD_some, lkU_some, dn_up hi]
  constructor
  · rintro ⟨⟨h1, h2⟩, h3, h4, h5⟩
    exact ⟨h2, h3.symm, h5, h4⟩
  · rintro ⟨h2, h3, h4, h5⟩
    obtain ⟨g1, g2, -⟩ := fw_some h2
    exact ⟨⟨by omega, h2⟩, h3.symm, h5, h4⟩
/-- first card of the run, how many cards down to it, the least of what they tell -/
def fst' (V : Nat → Nat) (p : Nat) : Nat → Nat → Nat
  | 0, i => i
  | f + 1, i => match lkD V p i with
    | some j => fst' V p f j
    | none => i
def cntD' (V : Nat → Nat) (p : Nat) : Nat → Nat → Nat
  | 0, _ => 1
  | f + 1, i => match lkD V p i with
    | some j => cntD' V p f j + 1
    | none => 1
def dmD' (V : Nat → Nat) (p : Nat) : Nat → Nat → Nat
  | 0, i => own V p i
  | f + 1, i => match lkD V p i with
    | some j => min (dmD' V p f j) (own V p i)
    | none => own V p i
def lst' (V : Nat → Nat) (p : Nat) : Nat → Nat → Nat
  | 0, i => i
  | f + 1, i => match lkU V p i with
    | some j => lst' V p f j
    | none => i
def cntU' (V : Nat → Nat) (p : Nat) : Nat → Nat → Nat
  | 0, _ => 1
  | f + 1, i => match lkU V p i with
    | some j => cntU' V p f j + 1
    | none => 1
def dmU' (V : Nat → Nat) (p : Nat) : Nat → Nat → Nat
  | 0, i => own V p i
  | f + 1, i => match lkU V p i with
    | some j => min (own V p i) (dmU' V p f j)
    | none => own V p i
def fst (V : Nat → Nat) (p i : Nat) : Nat := fst' V p i i
def cntD (V : Nat → Nat) (p i : Nat) : Nat := cntD' V p i i
def dmD (V : Nat → Nat) (p i : Nat) : Nat := dmD' V p i i
def lst (V : Nat → Nat) (p i : Nat) : Nat := lst' V p (V 0 - i) i
def cntU (V : Nat → Nat) (p i : Nat) : Nat := cntU' V p (V 0 - i) i
def dmU (V : Nat → Nat) (p i : Nat) : Nat := dmU' V p (V 0 - i) i
theorem D_fuel (V : Nat → Nat) (p : Nat) : ∀ (f g i : Nat), i ≤ f → i ≤ g → fst' V p f i = fst' V p g i ∧ cntD' V p f i = cntD' V p g i ∧ dmD' V p f i = dmD' V p g i := by
  intro f
  induction f with
  | zero =>
    intro g i h1 h2
    have : i = 0 := by omega
    subst this
    cases g with
    | zero => exact ⟨rfl, rfl, rfl⟩
    | succ g =>
      have h0 : lkD V p 0 = none := by
        cases h : lkD V p 0 with
        | none => rfl
        | some j => have := lkD_lt h; omega
      simp [fst', cntD', dmD', h0]
  | succ f ih =>
    intro g i h1 h2
    cases g with
    | zero =>
      have : i = 0 := by omega
      subst this
      have h0 : lkD V p 0 = none := by
        cases h : lkD V p 0 with
        | none => rfl
        | some j => have := lkD_lt h; omega
      simp [fst', cntD', dmD', h0]
    | succ g =>
      cases h : lkD V p i with
      | none => simp [fst', cntD', dmD', h]
      | some j =>
        have hj := lkD_lt h
        obtain ⟨e1, e2, e3⟩ := ih g j (by omega) (by omega)
        simp [fst', cntD', dmD', h, e1, e2, e3]
theorem U_fuel (V : Nat → Nat) (p : Nat) : ∀ (f g i : Nat), V 0 - i ≤ f → V 0 - i ≤ g → lst' V p f i = lst' V p g i ∧ cntU' V p f i = cntU' V p g i ∧ dmU' V p f i = dmU' V p g i := by
  intro f
  induction f with
  | zero =>
    intro g i h1 h2
    cases g with
    | zero => exact ⟨rfl, rfl, rfl⟩
    | succ g =>
      have h0 : lkU V p i = none := by
        cases h : lkU V p i with
        | none => rfl
        | some j => have := lkU_lt h; omega
      simp [lst', cntU', dmU', h0]
  | succ f ih =>
    intro g i h1 h2
    cases g with
    | zero =>
      have h0 : lkU V p i = none := by
        cases h : lkU V p i with
        | none => rfl
        | some j => have := lkU_lt h; omega
      simp [lst', cntU', dmU', h0]
    | succ g =>
      cases h : lkU V p i with
      | none => simp [lst', cntU', dmU', h]
      | some j =>
        have hj := lkU_lt h
        obtain ⟨e1, e2, e3⟩ := ih g j (by omega) (by omega)
        simp [lst', cntU', dmU', h, e1, e2, e3]
theorem D_some {V : Nat → Nat} {p i j : Nat} (h : lkD V p i = some j) : fst V p i = fst V p j ∧ cntD V p i = cntD V p j + 1 ∧ dmD V p i = min (dmD V p j) (own V p i) := by
  have hj := lkD_lt h
  obtain ⟨f, rfl⟩ : ∃ f, i = f + 1 := ⟨i - 1, by omega⟩
  obtain ⟨e1, e2, e3⟩ := D_fuel V p f j j (by omega) (Nat.le_refl _)
  unfold fst cntD dmD
  simp only [fst', cntD', dmD', h, e1, e2, e3, and_self]
theorem D_none {V : Nat → Nat} {p i : Nat} (h : lkD V p i = none) : fst V p i = i ∧ cntD V p i = 1 ∧ dmD V p i = own V p i := by
  unfold fst cntD dmD
  cases i with
  | zero => exact ⟨rfl, rfl, rfl⟩
  | succ i => simp only [fst', cntD', dmD', h, and_self]
theorem U_some {V : Nat → Nat} {p i j : Nat} (h : lkU V p i = some j) : lst V p i = lst V p j ∧ cntU V p i = cntU V p j + 1 ∧ dmU V p i = min (own V p i) (dmU V p j) := by
  have hj := lkU_lt h
  obtain ⟨f, hf⟩ : ∃ f, V 0 - i = f + 1 := ⟨V 0 - i - 1, by omega⟩
  obtain ⟨e1, e2, e3⟩ := U_fuel V p f (V 0 - j) j (by omega) (Nat.le_refl _)
  unfold lst cntU dmU
  rw [hf]
  simp only [lst', cntU', dmU', h, e1, e2, e3, and_self]
theorem U_none {V : Nat → Nat} {p i : Nat} (h : lkU V p i = none) : lst V p i = i ∧ cntU V p i = 1 ∧ dmU V p i = own V p i := by
  unfold lst cntU dmU
  cases V 0 - i with
  | zero => exact ⟨rfl, rfl, rfl⟩
  | succ f => simp only [lst', cntU', dmU', h, and_self]
theorem own_le (V : Nat → Nat) (p i : Nat) : own V p i ≤ rd V p i := by unfold own; split <;> omega
theorem dmD_le {V : Nat → Nat} {p : Nat} (i : Nat) : dmD V p i ≤ own V p i := by
  cases h : lkD V p i with
  | none => rw [(D_none h).2.2]; exact Nat.le_refl _
  | some j => rw [(D_some h).2.2]; exact Nat.min_le_right _ _
theorem dmU_le {V : Nat → Nat} {p : Nat} (i : Nat) : dmU V p i ≤ own V p i := by
  cases h : lkU V p i with
  | none => rw [(U_none h).2.2]; exact Nat.le_refl _
  | some j => rw [(U_some h).2.2]; exact Nat.min_le_left _ _
theorem fst_le {V : Nat → Nat} {p : Nat} (i : Nat) : fst V p i ≤ i := by
  induction i using Nat.strongRecOn with
  | _ i ih =>
    cases h : lkD V p i with
    | none => rw [(D_none h).1]; exact Nat.le_refl _
    | some j => rw [(D_some h).1]; have := lkD_lt h; have := ih j this; omega
theorem lst_ge {V : Nat → Nat} {p : Nat} (i : Nat) (hi : i < V 0) : i ≤ lst V p i ∧ lst V p i < V 0 := by
  have key : ∀ d i, i < V 0 → V 0 - i = d → i ≤ lst V p i ∧ lst V p i < V 0 := by
    intro d
    induction d using Nat.strongRecOn with
    | _ d ih =>
      intro i hi hd
      cases h : lkU V p i with
      | none => rw [(U_none h).1]; omega
      | some j => rw [(U_some h).1]; have h1 := lkU_lt h; have := ih (V 0 - j) (by omega) j h1.2 rfl; omega
  exact key _ i hi rfl
/-- along a run: the same first and last one, the same number, the same least -/
theorem run_same {V : Nat → Nat} {p i j : Nat} (hi : i < V 0) (h : lkD V p i = some j) : lst V p j = lst V p i ∧ cntD V p j + cntU V p j = cntD V p i + cntU V p i ∧ min (dmD V p j) (dmU V p j) = min (dmD V p i) (dmU V p i) := by
  have hu := (lk_DU hi).mp h
  obtain ⟨a1, a2, a3⟩ := D_some h
  obtain ⟨b1, b2, b3⟩ := U_some hu
  refine ⟨b1, by omega, ?_⟩
  rw [a3, b3]
  have c1 := dmD_le (V := V) (p := p) j
  have c2 := dmU_le (V := V) (p := p) i
  omega
theorem run_fst {V : Nat → Nat} {p : Nat} (i : Nat) (hi : i < V 0) : lst V p (fst V p i) = lst V p i ∧ cntU V p (fst V p i) + 1 = cntD V p i + cntU V p i ∧ dmU V p (fst V p i) = min (dmD V p i) (dmU V p i) ∧ lkD V p (fst V p i) = none := by
  induction i using Nat.strongRecOn with
  | _ i ih =>
    cases h : lkD V p i with
    | none =>
      obtain ⟨a1, a2, a3⟩ := D_none h
      rw [a1, a2, a3]
      refine ⟨rfl, by omega, ?_, h⟩
      have := dmU_le (V := V) (p := p) i
      omega
    | some j =>
      have hj := lkD_lt h
      obtain ⟨a1, -⟩ := D_some h
      obtain ⟨b1, b2, b3⟩ := run_same hi h
      obtain ⟨c1, c2, c3, c4⟩ := ih j hj (by omega)
      rw [a1]
      exact ⟨c1.trans b1, by omega, by rw [c3, b3], c4⟩
theorem run_lst {V : Nat → Nat} {p : Nat} (i : Nat) (hi : i < V 0) : cntD V p (lst V p i) + 1 = cntD V p i + cntU V p i ∧ dmD V p (lst V p i) = min (dmD V p i) (dmU V p i) ∧ fst V p (lst V p i) = fst V p i := by
  have key : ∀ d i, i < V 0 → V 0 - i = d → cntD V p (lst V p i) + 1 = cntD V p i + cntU V p i ∧ dmD V p (lst V p i) = min (dmD V p i) (dmU V p i) ∧ fst V p (lst V p i) = fst V p i := by
    intro d
    induction d using Nat.strongRecOn with
    | _ d ih =>
      intro i hi hd
      cases h : lkU V p i with
      | none =>
        obtain ⟨a1, a2, a3⟩ := U_none h
        rw [a1, a2, a3]
        refine ⟨rfl, ?_, rfl⟩
        have := dmD_le (V := V) (p := p) i
        omega
      | some j =>
        have hj := lkU_lt h
        have hd' := (lk_DU hj.2).mpr h
        obtain ⟨a1, -⟩ := U_some h
        obtain ⟨b1, b2, b3⟩ := run_same hj.2 hd'
        obtain ⟨c1, c2, c3⟩ := ih (V 0 - j) (by omega) j hj.2 rfl
        rw [a1]
        refine ⟨by omega, by rw [c2, b3], ?_⟩
        rw [c3, (D_some hd').1]
  exact key _ i hi rfl
/-- how many cards a run has, the least of what they tell; both by any of its cards -/
def rl (V : Nat → Nat) (p i : Nat) : Nat := cntD V p (lst V p i)
def rm (V : Nat → Nat) (p i : Nat) : Nat := dmD V p (lst V p i)
theorem rl_fst {V : Nat → Nat} {p : Nat} (i : Nat) (hi : i < V 0) : cntU V p (fst V p i) = rl V p i := by
  have h1 := (run_fst (p := p) i hi).2.1
  have h2 := (run_lst (p := p) i hi).1
  unfold rl
  omega
theorem rm_fst {V : Nat → Nat} {p : Nat} (i : Nat) (hi : i < V 0) : dmU V p (fst V p i) = rm V p i := by
  rw [(run_fst (p := p) i hi).2.2.1]
  exact ((run_lst (p := p) i hi).2.1).symm
