/-! The abstract heap: a partial map from addresses to objects (a class by its place in vwCl, fields) and arrays (a kind: 0 int, 1 long, 2 boolean, 3 Books, 4 State; a length; contents). -/
abbrev AE : Type := (Nat × vp_A) ⊕ (Nat × List Value)
abbrev Hp : Type := Nat → Option AE
abbrev Gt : Type := va_G × (Nat → ClassId) × (Nat → Nat)
def tyn : Nat → FieldType := fun t => match t with
  | 0 => .int
  | 1 => .long
  | 2 => .boolean
  | 3 => .object RX0
  | _ => .object RX6
def tysg (g : Gt) : List (ClassId × FieldType) := [(g.2.1 0, tyn 0), (g.2.1 1, tyn 1), (g.2.1 2, tyn 2), (g.2.1 3, tyn 3), (g.2.1 4, tyn 4)]
theorem tysg_at (g : Gt) {t : Nat} (h : t < 5) : (tysg g)[t]? = some (g.2.1 t, tyn t) := by
  match t, h with
  | 0, _ => rfl
  | 1, _ => rfl
  | 2, _ => rfl
  | 3, _ => rfl
  | 4, _ => rfl
  | t + 5, h => exact absurd h (by omega)
def cv (g : Gt) (e : AE) : va_E := match e with
  | .inl (t, x) => .inl (g.2.1 t, x)
  | .inr o => .inr o
def hpw (g : Gt) (h : Hp) (w : va_W) : Prop := (∀ (a : Nat) (e : AE), h a = some e → ∃ k : Nat, w[k]? = some (a, cv g e)) ∧ ∀ (k : Nat) (q : Nat × va_E), w[k]? = some q → (h q.1).isSome = true
def dm (h : Hp) : Nat → Prop := fun q => (h q).isSome = true
def hset (h : Hp) (a : Nat) (e : AE) : Hp := fun b => if b = a then some e else h b
theorem hset_s (h : Hp) (a : Nat) (e : AE) : hset h a e a = some e := by simp [hset]
theorem hset_n {h : Hp} {a b : Nat} {e : AE} (n : b ≠ a) : hset h a e b = h b := by simp [hset, n]
theorem hpw_set {g : Gt} {h : Hp} {w : va_W} {q0 a : Nat} {E0 : va_E} (hw : hpw g h w) (hq : w[q0]? = some (a, E0)) (e : AE) : hpw g (hset h a e) (w.set q0 (a, cv g e)) := by
  have hl := (List.getElem?_eq_some_iff.mp hq).1
  refine ⟨fun b x hb => ?_, fun k q hk => ?_⟩
  · by_cases n : b = a
    · subst n
      rw [hset_s] at hb
      cases hb
      exact ⟨q0, List.getElem?_set_self hl⟩
    · rw [hset_n n] at hb
      obtain ⟨k, hk⟩ := hw.1 b x hb
      refine ⟨k, ?_⟩
      rw [List.getElem?_set_ne]
      · exact hk
      · intro z
        subst z
        rw [hq] at hk
        cases hk
        exact n rfl
  · by_cases n : q.1 = a
    · rw [n, hset_s]; rfl
    · rw [hset_n n]
      have hne : q0 ≠ k := by
        intro z
        subst z
        rw [List.getElem?_set_self hl] at hk
        cases hk
        exact n rfl
      rw [List.getElem?_set_ne hne] at hk
      exact hw.2 k q hk
/-! what a read or a write of the abstract heap answers -/
def gF (h : Hp) (a ci k : Nat) : Option Value := match h a with
  | some (.inr (c, fs)) => if c = ci then fs[k]? else none
  | _ => none
def pF (h : Hp) (a ci k : Nat) (v : Value) : Option Hp := match h a with
  | some (.inr (c, fs)) => if c = ci ∧ k < fs.length then some (hset h a (.inr (ci, fs.set k v))) else none
  | _ => none
def gI (h : Hp) (a t : Nat) (i : Int32) : Option Int32 := match h a with
  | some (.inl (t', n, .inl f)) => if t' = t ∧ ¬ (i < 0 ∨ n ≤ i.toNatClampNeg) then some (f i.toNatClampNeg) else none
  | _ => none
def gL (h : Hp) (a : Nat) (i : Int32) : Option Int64 := match h a with
  | some (.inl (t', n, .inr (.inl f))) => if t' = 1 ∧ ¬ (i < 0 ∨ n ≤ i.toNatClampNeg) then some (f i.toNatClampNeg) else none
  | _ => none
def gQ (h : Hp) (a t : Nat) (i : Int32) : Option Nat := match h a with
  | some (.inl (t', n, .inr (.inr (.inr (.inr f))))) => if t' = t ∧ ¬ (i < 0 ∨ n ≤ i.toNatClampNeg) then f i.toNatClampNeg else none
  | _ => none
def gN (h : Hp) (a : Nat) : Option Int32 := match h a with
  | some (.inl (t, n, _)) => if t < 5 then some (Int32.ofNat n) else none
  | _ => none
def sI (h : Hp) (a : Nat) (i x : Int32) : Option Hp := match h a with
  | some (.inl (t', n, .inl f)) => if t' = 0 ∧ ¬ (i < 0 ∨ n ≤ i.toNatClampNeg) then some (hset h a (.inl (0, n, .inl (upd f i.toNatClampNeg x)))) else none
  | _ => none
def sZ (h : Hp) (a : Nat) (i x : Int32) : Option Hp := match h a with
  | some (.inl (t', n, .inl f)) => if t' = 2 ∧ (x = 0 ∨ x = 1) ∧ ¬ (i < 0 ∨ n ≤ i.toNatClampNeg) then some (hset h a (.inl (2, n, .inl (upd f i.toNatClampNeg x)))) else none
  | _ => none
def sL (h : Hp) (a : Nat) (i : Int32) (x : Int64) : Option Hp := match h a with
  | some (.inl (t', n, .inr (.inl f))) => if t' = 1 ∧ ¬ (i < 0 ∨ n ≤ i.toNatClampNeg) then some (hset h a (.inl (1, n, .inr (.inl (vp_updL f i.toNatClampNeg x))))) else none
  | _ => none
def isO (h : Hp) (a ci : Nat) : Prop := ∃ fs : List Value, h a = some (.inr (ci, fs))
def sQ (h : Hp) (a t : Nat) (i : Int32) (v : Nat) : Option Hp := match h a with
  | some (.inl (t', n, .inr (.inr (.inr (.inr f))))) => if t' = t ∧ ¬ (i < 0 ∨ n ≤ i.toNatClampNeg) then some (hset h a (.inl (t, n, .inr (.inr (.inr (.inr (va_up f i.toNatClampNeg (some v)))))))) else none
  | _ => none
def cpI (h : Hp) (a0 : Nat) (sp : Int32) (a : Nat) (dp n : Int32) : Option Hp := match h a0, h a with
  | some (.inl (t0, n0, .inl f)), some (.inl (t1, n1, .inl q)) => if t0 = 0 ∧ t1 = 0 ∧ ¬ sp < 0 ∧ ¬ dp < 0 ∧ ¬ n < 0 ∧ sp.toNatClampNeg + n.toNatClampNeg ≤ n0 ∧ dp.toNatClampNeg + n.toNatClampNeg ≤ n1 then some (hset h a (.inl (0, n1, .inl (va_cpy f q sp.toNatClampNeg dp.toNatClampNeg n.toNatClampNeg)))) else none
  | _, _ => none
def cpL (h : Hp) (a0 : Nat) (sp : Int32) (a : Nat) (dp n : Int32) : Option Hp := match h a0, h a with
  | some (.inl (t0, n0, .inr (.inl f))), some (.inl (t1, n1, .inr (.inl q))) => if t0 = 1 ∧ t1 = 1 ∧ ¬ sp < 0 ∧ ¬ dp < 0 ∧ ¬ n < 0 ∧ sp.toNatClampNeg + n.toNatClampNeg ≤ n0 ∧ dp.toNatClampNeg + n.toNatClampNeg ≤ n1 then some (hset h a (.inl (1, n1, .inr (.inl (va_cpy f q sp.toNatClampNeg dp.toNatClampNeg n.toNatClampNeg))))) else none
  | _, _ => none
/-! the three static tables -/
def tbN : Nat → Nat := fun i => match i with
  | 2 => 12
  | _ => 4
def tbI : Nat → Nat → Int32 := fun i j => match i, j with
  | 0, 0 => 2
  | 0, 1 => 1
  | 0, 2 => 1
  | 0, _ => 0
  | _, 0 => 9
  | _, 1 => 9
  | _, 2 => 9
  | _, _ => 20
def tbL : Nat → Int64 := fun j => match j with
  | 0 => 100000000000
  | 1 => 10000000000
  | 2 => 1000000000
  | 3 => 100000000
  | 4 => 10000000
  | 5 => 1000000
  | 6 => 100000
  | 7 => 10000
  | 8 => 1000
  | 9 => 100
  | 10 => 10
  | _ => 1
def sT (i : Nat) (x : Int32) : Option Int32 := if ¬ (x < 0 ∨ 4 ≤ x.toNatClampNeg) then some (tbI i x.toNatClampNeg) else none
def sW (x : Int32) : Option Int64 := if ¬ (x < 0 ∨ 12 ≤ x.toNatClampNeg) then some (tbL x.toNatClampNeg) else none
/-! the five String constants of the class Program, by place -/
def sTx : Nat → List Nat := fun i => match i with
  | 0 => [115, 99, 97, 110]
  | 1 => [99, 108, 101, 97, 110]
  | 2 => [100, 114, 97, 119]
  | 3 => [108, 111, 111, 107]
  | _ => [112, 117, 98, 108, 105, 115, 104]
def sLn (i : Nat) : Nat := (sTx i).length
def sCh (i : Nat) (x : Int32) : Option Int32 := if ¬ (x < 0 ∨ sLn i ≤ x.toNatClampNeg) then some (nI ((sTx i).getD x.toNatClampNeg 0)) else none
def scr (xs : Nat → Int32) (L : Nat) (i : Int32) : Option Int32 := if ¬ (i < 0 ∨ L ≤ i.toNatClampNeg) then some (xs i.toNatClampNeg) else none
theorem gF_of {h : Hp} {a ci k : Nat} {v : Value} (e : gF h a ci k = some v) : ∃ fs : List Value, h a = some (.inr (ci, fs)) ∧ fs[k]? = some v := by
  unfold gF at e
  split at e
  · rename_i c fs q
    split at e
    · rename_i z
      subst z
      exact ⟨fs, q, e⟩
    · cases e
  · cases e
theorem pF_of {h h' : Hp} {a ci k : Nat} {v : Value} (e : pF h a ci k v = some h') : ∃ fs : List Value, h a = some (.inr (ci, fs)) ∧ k < fs.length ∧ h' = hset h a (.inr (ci, fs.set k v)) := by
  unfold pF at e
  split at e
  · rename_i c fs q
    split at e
    · rename_i z
      obtain ⟨rfl, z⟩ := z
      exact ⟨fs, q, z, (Option.some.inj e).symm⟩
    · cases e
  · cases e
theorem gI_of {h : Hp} {a t : Nat} {i v : Int32} (e : gI h a t i = some v) : ∃ (n : Nat) (f : Nat → Int32), h a = some (.inl (t, n, .inl f)) ∧ vp_in i n ∧ v = f i.toNatClampNeg := by
  unfold gI at e
  split at e
  · rename_i t' n f q
    split at e
    · rename_i z
      obtain ⟨rfl, z⟩ := z
      exact ⟨n, f, q, z, (Option.some.inj e).symm⟩
    · cases e
  · cases e
theorem gL_of {h : Hp} {a : Nat} {i : Int32} {v : Int64} (e : gL h a i = some v) : ∃ (n : Nat) (f : Nat → Int64), h a = some (.inl (1, n, .inr (.inl f))) ∧ vp_in i n ∧ v = f i.toNatClampNeg := by
  unfold gL at e
  split at e
  · rename_i t' n f q
    split at e
    · rename_i z
      obtain ⟨rfl, z⟩ := z
      exact ⟨n, f, q, z, (Option.some.inj e).symm⟩
    · cases e
  · cases e
theorem gQ_of {h : Hp} {a t : Nat} {i : Int32} {v : Nat} (e : gQ h a t i = some v) : ∃ (n : Nat) (f : Nat → Option Nat), h a = some (.inl (t, n, .inr (.inr (.inr (.inr f))))) ∧ vp_in i n ∧ f i.toNatClampNeg = some v := by
  unfold gQ at e
  split at e
  · rename_i t' n f q
    split at e
    · rename_i z
      obtain ⟨rfl, z⟩ := z
      exact ⟨n, f, q, z, e⟩
    · cases e
  · cases e
theorem gN_of {h : Hp} {a : Nat} {v : Int32} (e : gN h a = some v) : ∃ (t : Nat) (x : vp_A), h a = some (.inl (t, x)) ∧ t < 5 ∧ Int32.ofNat x.1 = v := by
  unfold gN at e
  split at e
  · rename_i t n f q
    split at e
    · rename_i z
      exact ⟨t, (n, f), q, z, Option.some.inj e⟩
    · cases e
  · cases e
theorem sI_of {h h' : Hp} {a : Nat} {i x : Int32} (e : sI h a i x = some h') : ∃ (n : Nat) (f : Nat → Int32), h a = some (.inl (0, n, .inl f)) ∧ vp_in i n ∧ h' = hset h a (.inl (0, n, .inl (upd f i.toNatClampNeg x))) := by
  unfold sI at e
  split at e
  · rename_i t' n f q
    split at e
    · rename_i z
      obtain ⟨rfl, z⟩ := z
      exact ⟨n, f, q, z, (Option.some.inj e).symm⟩
    · cases e
  · cases e
theorem sZ_of {h h' : Hp} {a : Nat} {i x : Int32} (e : sZ h a i x = some h') : ∃ (n : Nat) (f : Nat → Int32), h a = some (.inl (2, n, .inl f)) ∧ (x = 0 ∨ x = 1) ∧ vp_in i n ∧ h' = hset h a (.inl (2, n, .inl (upd f i.toNatClampNeg x))) := by
  unfold sZ at e
  split at e
  · rename_i t' n f q
    split at e
    · rename_i z
      obtain ⟨rfl, y, z⟩ := z
      exact ⟨n, f, q, y, z, (Option.some.inj e).symm⟩
    · cases e
  · cases e
theorem sL_of {h h' : Hp} {a : Nat} {i : Int32} {x : Int64} (e : sL h a i x = some h') : ∃ (n : Nat) (f : Nat → Int64), h a = some (.inl (1, n, .inr (.inl f))) ∧ vp_in i n ∧ h' = hset h a (.inl (1, n, .inr (.inl (vp_updL f i.toNatClampNeg x)))) := by
  unfold sL at e
  split at e
  · rename_i t' n f q
    split at e
    · rename_i z
      obtain ⟨rfl, z⟩ := z
      exact ⟨n, f, q, z, (Option.some.inj e).symm⟩
    · cases e
  · cases e
theorem sQ_of {h h' : Hp} {a t : Nat} {i : Int32} {v : Nat} (e : sQ h a t i v = some h') : ∃ (n : Nat) (f : Nat → Option Nat), h a = some (.inl (t, n, .inr (.inr (.inr (.inr f))))) ∧ vp_in i n ∧ h' = hset h a (.inl (t, n, .inr (.inr (.inr (.inr (va_up f i.toNatClampNeg (some v))))))) := by
  unfold sQ at e
  split at e
  · rename_i t' n f q
    split at e
    · rename_i z
      obtain ⟨rfl, z⟩ := z
      exact ⟨n, f, q, z, (Option.some.inj e).symm⟩
    · cases e
  · cases e
theorem cpI_of {h h' : Hp} {a0 a : Nat} {sp dp n : Int32} (e : cpI h a0 sp a dp n = some h') : ∃ (n0 n1 : Nat) (f q : Nat → Int32), h a0 = some (.inl (0, n0, .inl f)) ∧ h a = some (.inl (0, n1, .inl q)) ∧ ¬ sp < 0 ∧ ¬ dp < 0 ∧ ¬ n < 0 ∧ sp.toNatClampNeg + n.toNatClampNeg ≤ n0 ∧ dp.toNatClampNeg + n.toNatClampNeg ≤ n1 ∧ h' = hset h a (.inl (0, n1, .inl (va_cpy f q sp.toNatClampNeg dp.toNatClampNeg n.toNatClampNeg))) := by
  unfold cpI at e
  split at e
  · rename_i t0 n0 f t1 n1 q h0 h1
    split at e
    · rename_i z
      obtain ⟨rfl, rfl, z1, z2, z3, z4, z5⟩ := z
      exact ⟨n0, n1, f, q, h0, h1, z1, z2, z3, z4, z5, (Option.some.inj e).symm⟩
    · cases e
  · cases e
theorem cpL_of {h h' : Hp} {a0 a : Nat} {sp dp n : Int32} (e : cpL h a0 sp a dp n = some h') : ∃ (n0 n1 : Nat) (f q : Nat → Int64), h a0 = some (.inl (1, n0, .inr (.inl f))) ∧ h a = some (.inl (1, n1, .inr (.inl q))) ∧ ¬ sp < 0 ∧ ¬ dp < 0 ∧ ¬ n < 0 ∧ sp.toNatClampNeg + n.toNatClampNeg ≤ n0 ∧ dp.toNatClampNeg + n.toNatClampNeg ≤ n1 ∧ h' = hset h a (.inl (1, n1, .inr (.inl (va_cpy f q sp.toNatClampNeg dp.toNatClampNeg n.toNatClampNeg)))) := by
  unfold cpL at e
  split at e
  · rename_i t0 n0 f t1 n1 q h0 h1
    split at e
    · rename_i z
      obtain ⟨rfl, rfl, z1, z2, z3, z4, z5⟩ := z
      exact ⟨n0, n1, f, q, h0, h1, z1, z2, z3, z4, z5, (Option.some.inj e).symm⟩
    · cases e
  · cases e
theorem sT_of {i : Nat} {x v : Int32} (e : sT i x = some v) : vp_in x 4 ∧ v = tbI i x.toNatClampNeg := by
  unfold sT at e
  split at e
  · rename_i z
    exact ⟨z, (Option.some.inj e).symm⟩
  · cases e
theorem sW_of {x : Int32} {v : Int64} (e : sW x = some v) : vp_in x 12 ∧ v = tbL x.toNatClampNeg := by
  unfold sW at e
  split at e
  · rename_i z
    exact ⟨z, (Option.some.inj e).symm⟩
  · cases e
/-! comparisons of longs -/
theorem lc_lt (x y : Int64) : lg_cmp x y < 0 ↔ x < y := by
  unfold lg_cmp
  rw [Int64.lt_iff_toInt_lt] at *
  by_cases h1 : y.toInt < x.toInt
  · simp [Int64.lt_iff_toInt_lt, h1]; omega
  · by_cases h2 : x = y
    · subst h2; simp [Int64.lt_iff_toInt_lt]
    · have : x.toInt ≠ y.toInt := fun q => h2 (Int64.toInt_inj.mp q)
      simp [Int64.lt_iff_toInt_lt, h1, h2]; omega
theorem lc_gt (x y : Int64) : 0 < lg_cmp x y ↔ y < x := by
  unfold lg_cmp
  by_cases h1 : y < x
  · simp [h1]
  · by_cases h2 : x = y
    · subst h2; simp
    · simp [h1, h2]
theorem lc_eq (x y : Int64) : lg_cmp x y = 0 ↔ x = y := by
  unfold lg_cmp
  by_cases h1 : y < x
  · have : x ≠ y := by intro q; subst q; rw [Int64.lt_iff_toInt_lt] at h1; omega
    simp [h1, this]
  · by_cases h2 : x = y
    · subst h2; simp
    · simp [h1, h2]
theorem lc_le (x y : Int64) : lg_cmp x y ≤ 0 ↔ x ≤ y := by
  have h := lc_gt x y
  rw [Int32.lt_iff_toInt_lt, Int64.lt_iff_toInt_lt] at h
  rw [Int32.le_iff_toInt_le, Int64.le_iff_toInt_le]
  omega
theorem lc_ge (x y : Int64) : 0 ≤ lg_cmp x y ↔ y ≤ x := by
  have h := lc_lt x y
  rw [Int32.lt_iff_toInt_lt, Int64.lt_iff_toInt_lt] at h
  rw [Int32.le_iff_toInt_le, Int64.le_iff_toInt_le]
  omega
