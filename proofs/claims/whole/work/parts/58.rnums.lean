/-! the reference on a command's numbers and its sign -/
def rfF (X : Nat → Nat) (tn w b f : Nat) : Prop := ∀ (h : Hp) (M n : Nat) (V W P : Nat → Nat) (e : Nat → Value) (K : Int64 → Hp → Prop), RR h M V W P n X tn e → e 11 = .int (nI b) → e 13 = .int (nI 0) → (∀ h' e', (∀ q, q ≠ M → h' q = h q) → RR h' M V W P n X tn e' → e' 12 = .int (nI f) → e' 13 = .int (nI 1) → e' 14 = e 14 → (∀ j, 7 ≤ j → j < 11 → e' j = e j) → (∃ a : Int32, e' 11 = .int a) → (∃ a : Int64, e' 15 = .long a) → (∃ a : Int64, e' 16 = .long a) → K (lN (wcode w)) h') → rdR M w K h
def rfO (X : Nat → Nat) (tn w b v1 v2 p : Nat) : Prop := ∀ (h : Hp) (M n : Nat) (V W P : Nat → Nat) (e : Nat → Value) (K : Int64 → Hp → Prop), RR h M V W P n X tn e → e 11 = .int (nI b) → e 13 = .int (nI 0) → (∀ h' e', (∀ q, q ≠ M → h' q = h q) → RR h' M V W P n X tn e' → e' 11 = .int (nI p) → (∃ a : Int32, e' 12 = .int a) → e' 13 = .int (nI 0) → e' 14 = e 14 → (∀ j, 7 ≤ j → j < 11 → e' j = e j) → e' 15 = .long (lN (if w = 4 then 0 else v1)) → e' 16 = .long (lN (if w = 4 ∨ w = 1 then 0 else v2)) → K (lN (wcode w)) h') → rdR M w K h
theorem wc_ne : ∀ w, w < 5 → ∀ w', w' < 5 → w ≠ w' → ¬ lN (wcode w) = lN (wcode w') := by decide +kernel
section RN
variable {tn : Nat} {X : Nat → Nat}
theorem rf4 {b s k b' : Nat} (ht : tn ≤ 140) (hX : ∀ i, i < tn → 1 ≤ X i ∧ X i ≤ 255) (Q : TK X tn b s k b') : (¬ (k = 3 ∧ X s = 59) → rfF X tn 4 b s) ∧ ((k = 3 ∧ X s = 59) → rfO X tn 4 b 0 0 (s + 1)) := by
  constructor
  · intro no h M n V W P e K R ea ew hk
    obtain ⟨h1, p1, o1, R1⟩ := R.fset (k := 15) (by omega) (by omega) (.long (lN 0))
    refine tkn rfl ⟨h1, p1, tk rfl (e_sem ht hX R1 Q ((ue_n (by omega)).trans ea) ((ue_n (by omega)).trans ew) (fun h2 e2 fr2 R2 x11 x12 x13 x16 xo => hk h2 e2 (fun q hq => (fr2 q hq).trans (o1 q hq)) R2 x12 (by rw [x13, bI_t no]) ((xo 14 (by omega) (by omega) (by omega) (by omega)).trans (ue_n (by omega))) (fun j j1 j2 => (xo j (by omega) (by omega) (by omega) (by omega)).trans (ue_n (by omega))) ⟨_, x11⟩ ⟨_, (xo 15 (by omega) (by omega) (by omega) (by omega)).trans (ue_s _ _ _)⟩ ⟨_, x16⟩))⟩
  · intro yes h M n V W P e K R ea ew hk
    obtain ⟨h1, p1, o1, R1⟩ := R.fset (k := 15) (by omega) (by omega) (.long (lN 0))
    refine tkn rfl ⟨h1, p1, tk rfl (e_sem ht hX R1 Q ((ue_n (by omega)).trans ea) ((ue_n (by omega)).trans ew) (fun h2 e2 fr2 R2 x11 x12 x13 x16 xo => hk h2 e2 (fun q hq => (fr2 q hq).trans (o1 q hq)) R2 x11 ⟨_, x12⟩ (by rw [x13, bI_f (fun y => y yes)]) ((xo 14 (by omega) (by omega) (by omega) (by omega)).trans (ue_n (by omega))) (fun j j1 j2 => (xo j (by omega) (by omega) (by omega) (by omega)).trans (ue_n (by omega))) ((xo 15 (by omega) (by omega) (by omega) (by omega)).trans (ue_s _ _ _)) x16))⟩
/-- the first number wrong -/
theorem rfF1 {w b s k b' : Nat} (ht : tn ≤ 140) (hX : ∀ i, i < tn → 1 ≤ X i ∧ X i ≤ 255) (hw : w < 4) (Q : TK X tn b s k b') (no : ¬ isN X k s b') : rfF X tn w b s := by
  intro h M n V W P e K R ea ew hk
  have np : ¬ lN (wcode w) = lN 17887012456 := wc_ne w (by omega) 4 (by omega) (by omega)
  have bad : badN X 0 s (if k = 2 then b' else s) := Classical.byContradiction fun y => no (Q.bad.mp y)
  refine skn np ⟨R.1.1, e_numberNext (f := 0) R (by omega) ht hX Q.1 (Q.ru (Or.inr rfl)) ea ew (fun h1 e1 fr1 R1 x11 x12 x13 xo => ?_)⟩
  rw [bI_t bad] at x13
  obtain ⟨h2, p2, o2, R2⟩ := R1.fset (k := 15) (by omega) (by omega) (.long (lN (nval X s (min ((if k = 2 then b' else s) - s) 12))))
  have y13 := (ue_n (e := e1) (v := .long (lN (nval X s (min ((if k = 2 then b' else s) - s) 12)))) (show (13 : Nat) ≠ 15 by omega)).trans x13
  have fin : ∀ v : Int64, wp_X9_readsCommand_121 K M (lN (wcode w)) M v h2 := fun v => e_semW R2 y13 (fun h3 e3 fr3 R3 z16 zo => hk h3 e3 (fun q hq => (fr3 q hq).trans ((o2 q hq).trans (fr1 q hq))) R3 ((zo 12 (by omega)).trans ((ue_n (by omega)).trans x12)) ((zo 13 (by omega)).trans y13) ((zo 14 (by omega)).trans ((ue_n (by omega)).trans (xo 14 (by omega) (by omega) (by omega)))) (fun j j1 j2 => (zo j (by omega)).trans ((ue_n (by omega)).trans (xo j (by omega) (by omega) (by omega)))) ⟨_, (zo 11 (by omega)).trans ((ue_n (by omega)).trans x11)⟩ ⟨_, (zo 15 (by omega)).trans (ue_s _ _ _)⟩ ⟨_, z16⟩)
  refine ⟨h2, p2, sk np ?_⟩
  by_cases w1 : lN (wcode w) = lN 3544110
  · exact tkn w1 (fin _)
  · refine skn w1 ?_
    by_cases w2 : lN (wcode w) = lN 149559
    · exact tk w2 ⟨R2.1.1, e_numW R2 y13 (fin _)⟩
    · exact sk w2 ⟨R2.1.1, e_numW R2 y13 (fin _)⟩
theorem rf1 {b s1 k1 b1' s k b' : Nat} (ht : tn ≤ 140) (hX : ∀ i, i < tn → 1 ≤ X i ∧ X i ≤ 255) (Q1 : TK X tn b s1 k1 b1') (y1 : isN X k1 s1 b1') (Q : TK X tn b1' s k b') : (¬ (k = 3 ∧ X s = 59) → rfF X tn 1 b s) ∧ ((k = 3 ∧ X s = 59) → rfO X tn 1 b (nval X s1 (b1' - s1)) 0 (s + 1)) := by
  have good : ¬ badN X 0 s1 (if k1 = 2 then b1' else s1) := Q1.bad.mpr y1
  have U := Q1.ru (c := 2) (Or.inr rfl)
  rw [if_pos y1.1] at good U
  have np : ¬ lN (wcode 1) = lN 17887012456 := by decide +kernel
  have mn : min (b1' - s1) 12 = b1' - s1 := by have := y1.2.1; omega
  constructor
  · intro no h M n V W P e K R ea ew hk
    refine skn np ⟨R.1.1, e_numberNext (f := 0) R (by omega) ht hX Q1.1 U ea ew (fun h1 e1 fr1 R1 x11 x12 x13 xo => ?_)⟩
    rw [bI_f good] at x13
    rw [mn]
    obtain ⟨h2, p2, o2, R2⟩ := R1.fset (k := 15) (by omega) (by omega) (.long (lN (nval X s1 (b1' - s1))))
    refine ⟨h2, p2, sk np (tkn rfl (e_sem ht hX R2 Q ((ue_n (by omega)).trans x11) ((ue_n (by omega)).trans x13) (fun h3 e3 fr3 R3 z11 z12 z13 z16 zo => hk h3 e3 (fun q hq => (fr3 q hq).trans ((o2 q hq).trans (fr1 q hq))) R3 z12 (by rw [z13, bI_t no]) ((zo 14 (by omega) (by omega) (by omega) (by omega)).trans ((ue_n (by omega)).trans (xo 14 (by omega) (by omega) (by omega)))) (fun j j1 j2 => (zo j (by omega) (by omega) (by omega) (by omega)).trans ((ue_n (by omega)).trans (xo j (by omega) (by omega) (by omega)))) ⟨_, z11⟩ ⟨_, (zo 15 (by omega) (by omega) (by omega) (by omega)).trans (ue_s _ _ _)⟩ ⟨_, z16⟩)))⟩
  · intro yes h M n V W P e K R ea ew hk
    refine skn np ⟨R.1.1, e_numberNext (f := 0) R (by omega) ht hX Q1.1 U ea ew (fun h1 e1 fr1 R1 x11 x12 x13 xo => ?_)⟩
    rw [bI_f good] at x13
    rw [mn]
    obtain ⟨h2, p2, o2, R2⟩ := R1.fset (k := 15) (by omega) (by omega) (.long (lN (nval X s1 (b1' - s1))))
    refine ⟨h2, p2, sk np (tkn rfl (e_sem ht hX R2 Q ((ue_n (by omega)).trans x11) ((ue_n (by omega)).trans x13) (fun h3 e3 fr3 R3 z11 z12 z13 z16 zo => hk h3 e3 (fun q hq => (fr3 q hq).trans ((o2 q hq).trans (fr1 q hq))) R3 z11 ⟨_, z12⟩ (by rw [z13, bI_f (fun y => y yes)]) ((zo 14 (by omega) (by omega) (by omega) (by omega)).trans ((ue_n (by omega)).trans (xo 14 (by omega) (by omega) (by omega)))) (fun j j1 j2 => (zo j (by omega) (by omega) (by omega) (by omega)).trans ((ue_n (by omega)).trans (xo j (by omega) (by omega) (by omega)))) ((zo 15 (by omega) (by omega) (by omega) (by omega)).trans (ue_s _ _ _)) z16)))⟩
end RN
