/-! numbers -/
theorem z0 : (0 : Int32) = nI 0 := nI_0.symm
theorem nI_inj {a b : Nat} (ha : a < 2 ^ 31) (hb : b < 2 ^ 31) : nI a = nI b ↔ a = b := nI_eq ha hb
theorem nI_mul (a b : Nat) : nI a * nI b = nI (a * b) := pk_mul a b
theorem toI_nI {n : Nat} (h : n < 2 ^ 31) : (nI n).toInt = (n : Int) := nI_toInt h
theorem of_toI {x : Int32} (h : 0 ≤ x.toInt) : ∃ j : Nat, j < 2 ^ 31 ∧ x = nI j ∧ x.toInt = (j : Int) := by
  have h1 : ¬ x < 0 := by rw [Int32.lt_iff_toInt_lt, Int32.toInt_zero]; omega
  obtain ⟨j, hj, e⟩ := nI_of h1
  exact ⟨j, hj, e, by rw [e, nI_toInt hj]⟩
theorem toI64 (x : Int32) : x.toInt64.toInt = x.toInt := Int32.toInt_toInt64 x
theorem lt64 (a b : Int64) : a < b ↔ a.toInt < b.toInt := Int64.lt_iff_toInt_lt
theorem le64 (a b : Int64) : a ≤ b ↔ a.toInt ≤ b.toInt := Int64.le_iff_toInt_le
theorem lt32 (a b : Int32) : a < b ↔ a.toInt < b.toInt := Int32.lt_iff_toInt_lt
theorem le32 (a b : Int32) : a ≤ b ↔ a.toInt ≤ b.toInt := Int32.le_iff_toInt_le
theorem lNT {n : Nat} (h : n < 2 ^ 63) : (lN n).toInt = (n : Int) := pk_lT h
theorem m1T : (-1 : Int32).toInt = -1 := by decide
theorem m9T : (-9 : Int32).toInt = -9 := by decide
/-- an answer that is a truth value -/
def bI (p : Prop) [Decidable p] : Int32 := if p then nI 1 else nI 0
theorem bI_0 (p : Prop) [Decidable p] : bI p = nI 0 ↔ ¬ p := by
  unfold bI
  by_cases h : p
  · simp only [if_pos h, not_true, iff_false, h]; decide
  · simp [if_neg h, h]
theorem bI_01 (p : Prop) [Decidable p] : bI p = 0 ∨ bI p = 1 := by
  unfold bI
  by_cases h : p
  · rw [if_pos h]; right; decide
  · rw [if_neg h]; left; decide
theorem bI_t {p : Prop} [Decidable p] (h : p) : bI p = nI 1 := if_pos h
theorem bI_f {p : Prop} [Decidable p] (h : ¬ p) : bI p = nI 0 := if_neg h
theorem bI_c {p q : Prop} [Decidable p] [Decidable q] (h : p ↔ q) : bI p = bI q := by
  unfold bI
  by_cases hp : p
  · rw [if_pos hp, if_pos (h.mp hp)]
  · rw [if_neg hp, if_neg (fun z => hp (h.mpr z))]
/-- a loop that counts up: W n i, n the fuel -/
theorem for_up (W : Nat → Nat → Prop) (e i0 : Nat) (hi : i0 ≤ e) (hx : ∀ n, W (n + 1) e) (hs : ∀ n i, i0 ≤ i → i < e → W n (i + 1) → W (n + 1) i) : ∃ n, W n i0 := by
  have key : ∀ d i, i0 ≤ i → i + d = e → W (d + 1) i := by
    intro d
    induction d with
    | zero => intro i h0 h; have : i = e := by omega
              subst this; exact hx 0
    | succ d ih => intro i h0 h; exact hs _ i h0 (by omega) (ih (i + 1) (by omega) (by omega))
  exact ⟨e - i0 + 1, key (e - i0) i0 (Nat.le_refl _) (by omega)⟩
theorem for_dn (W : Nat → Nat → Prop) (e : Nat) (hx : ∀ n, W (n + 1) 0) (hs : ∀ n i, i < e → W n i → W (n + 1) (i + 1)) : ∃ n, W n e := by
  have key : ∀ d, d ≤ e → W (d + 1) d := by
    intro d
    induction d with
    | zero => intro _; exact hx 0
    | succ d ih => intro h; exact hs _ d (by omega) (ih (by omega))
  exact ⟨e + 1, key e (Nat.le_refl _)⟩
/-- with a state beside the counter -/
theorem for_us {σ : Type} (W : Nat → Nat → σ → Prop) (I : Nat → σ → Prop) (e i0 : Nat) (s : σ) (hi : i0 ≤ e) (h0 : I i0 s) (hx : ∀ n s, I e s → W (n + 1) e s) (hs : ∀ n i s, i0 ≤ i → i < e → I i s → (∀ s', I (i + 1) s' → W n (i + 1) s') → W (n + 1) i s) : ∃ n, W n i0 s := by
  have key : ∀ d i s, i0 ≤ i → i + d = e → I i s → W (d + 1) i s := by
    intro d
    induction d with
    | zero => intro i s h0 h hI; have : i = e := by omega
              subst this; exact hx 0 s hI
    | succ d ih => intro i s h0 h hI; exact hs _ i s h0 (by omega) hI (fun s' h' => ih (i + 1) s' (by omega) (by omega) h')
  exact ⟨e - i0 + 1, key (e - i0) i0 s (Nat.le_refl _) (by omega) h0⟩
def cnt (p : Nat → Bool) : Nat → Nat
  | 0 => 0
  | n + 1 => cnt p n + (if p n = true then 1 else 0)
theorem cnt_le (p : Nat → Bool) : ∀ n, cnt p n ≤ n
  | 0 => Nat.le_refl _
  | n + 1 => by have h := cnt_le p n; unfold cnt; split <;> omega
theorem cnt_cong {p q : Nat → Bool} : ∀ {n : Nat}, (∀ i, i < n → p i = q i) → cnt p n = cnt q n
  | 0, _ => rfl
  | n + 1, h => by unfold cnt; rw [cnt_cong (fun i hi => h i (by omega)), h n (by omega)]
theorem cnt_t {p : Nat → Bool} {n : Nat} (h : p n = true) : cnt p (n + 1) = cnt p n + 1 := by rw [cnt, if_pos h]
theorem cnt_f {p : Nat → Bool} {n : Nat} (h : ¬ p n = true) : cnt p (n + 1) = cnt p n := by rw [cnt, if_neg h]; rfl
/-! digits -/
def dg (r p : Nat) : Nat := r / 10 ^ (11 - p) % 10
theorem dg_lt (r p : Nat) : dg r p < 10 := Nat.mod_lt _ (by omega)
/-! branches -/
theorem br_b {p : Prop} [Decidable p] {A B : Prop} (hA : ¬ p → A) (hB : p → B) : (bI p = nI 0 → A) ∧ (¬ bI p = nI 0 → B) :=
  ⟨fun q => hA ((bI_0 p).mp q), fun q => hB (Classical.byContradiction fun z => q ((bI_0 p).mpr z))⟩
theorem br_n {p : Prop} [Decidable p] {A B : Prop} (hB : p → B) (hA : ¬ p → A) : (¬ bI p = nI 0 → B) ∧ (bI p = nI 0 → A) := ⟨(br_b hA hB).2, (br_b hA hB).1⟩
theorem b_le {a b : Nat} {A B : Prop} (ha : a < 2 ^ 31) (hb : b < 2 ^ 31) (f : a ≤ b → A) (g : b < a → B) : (nI a ≤ nI b → A) ∧ (¬ nI a ≤ nI b → B) :=
  ⟨fun q => f ((nI_leI ha hb).mp q), fun q => g (Nat.lt_of_not_le fun z => q ((nI_leI ha hb).mpr z))⟩
theorem b_lt {a b : Nat} {A B : Prop} (ha : a < 2 ^ 31) (hb : b < 2 ^ 31) (f : a < b → A) (g : b ≤ a → B) : (nI a < nI b → A) ∧ (¬ nI a < nI b → B) :=
  ⟨fun q => f ((nI_ltI ha hb).mp q), fun q => g (Nat.le_of_not_lt fun z => q ((nI_ltI ha hb).mpr z))⟩
theorem b_eq {a b : Nat} {A B : Prop} (ha : a < 2 ^ 31) (hb : b < 2 ^ 31) (f : a = b → A) (g : a ≠ b → B) : (nI a = nI b → A) ∧ (¬ nI a = nI b → B) :=
  ⟨fun q => f ((nI_eq ha hb).mp q), fun q => g (fun z => q (by rw [z]))⟩
theorem b_ne {a b : Nat} {A B : Prop} (ha : a < 2 ^ 31) (hb : b < 2 ^ 31) (g : a ≠ b → B) (f : a = b → A) : (¬ nI a = nI b → B) ∧ (nI a = nI b → A) := ⟨(b_eq ha hb f g).2, (b_eq ha hb f g).1⟩
theorem l_le {a b : Nat} {A B : Prop} (ha : a < 2 ^ 63) (hb : b < 2 ^ 63) (f : a ≤ b → A) (g : b < a → B) : (lN a ≤ lN b → A) ∧ (¬ lN a ≤ lN b → B) :=
  ⟨fun q => f ((pk_lLE ha hb).mp q), fun q => g (Nat.lt_of_not_le fun z => q ((pk_lLE ha hb).mpr z))⟩
theorem l_lt {a b : Nat} {A B : Prop} (ha : a < 2 ^ 63) (hb : b < 2 ^ 63) (f : a < b → A) (g : b ≤ a → B) : (lN a < lN b → A) ∧ (¬ lN a < lN b → B) :=
  ⟨fun q => f ((pk_lLT ha hb).mp q), fun q => g (Nat.le_of_not_lt fun z => q ((pk_lLT ha hb).mpr z))⟩
theorem l_eq {a b : Nat} {A B : Prop} (ha : a < 2 ^ 63) (hb : b < 2 ^ 63) (f : a = b → A) (g : a ≠ b → B) : (lN a = lN b → A) ∧ (¬ lN a = lN b → B) :=
  ⟨fun q => f ((pk_lEQ ha hb).mp q), fun q => g (fun z => q (by rw [z]))⟩
theorem l_ne {a b : Nat} {A B : Prop} (ha : a < 2 ^ 63) (hb : b < 2 ^ 63) (g : a ≠ b → B) (f : a = b → A) : (¬ lN a = lN b → B) ∧ (lN a = lN b → A) := ⟨(l_eq ha hb f g).2, (l_eq ha hb f g).1⟩
theorem ll_le {a b : Nat} {A B : Prop} (ha : a < 2 ^ 63) (hb : b < 2 ^ 31) (f : a ≤ b → A) (g : b < a → B) : (lN a ≤ (nI b).toInt64 → A) ∧ (¬ lN a ≤ (nI b).toInt64 → B) := by
  rw [nI_l hb]; exact l_le ha (by omega) f g
theorem ll_ne {a b : Nat} {A B : Prop} (ha : a < 2 ^ 63) (hb : b < 2 ^ 31) (g : a ≠ b → B) (f : a = b → A) : (¬ lN a = (nI b).toInt64 → B) ∧ (lN a = (nI b).toInt64 → A) := by
  rw [nI_l hb]; exact l_ne ha (by omega) g f
theorem ll_lt {a b : Nat} {A B : Prop} (ha : a < 2 ^ 31) (hb : b < 2 ^ 63) (f : a < b → A) (g : b ≤ a → B) : ((nI a).toInt64 < lN b → A) ∧ (¬ (nI a).toInt64 < lN b → B) := by
  rw [nI_l ha]; exact l_lt (by omega) hb f g
def enc (o : Option Nat) : Int32 := match o with
  | some k => nI k
  | none => -9
