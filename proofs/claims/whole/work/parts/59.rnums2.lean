/-! the reference on a command of two numbers -/
section RN2
variable {tn : Nat} {X : Nat → Nat}
theorem rf3go {w b s1 k1 b1' s2 k2 b2' : Nat} (ht : tn ≤ 140) (hX : ∀ i, i < tn → 1 ≤ X i ∧ X i ≤ 255) (hw : w < 4) (hw1 : w ≠ 1) (Q1 : TK X tn b s1 k1 b1') (y1 : isN X k1 s1 b1') (Q2 : TK X tn b1' s2 k2 b2') (h : Hp) (M n : Nat) (V W P : Nat → Nat) (e : Nat → Value) (K : Int64 → Hp → Prop) (R : RR h M V W P n X tn e) (ea : e 11 = .int (nI b)) (ew : e 13 = .int (nI 0))
    (hk : ∀ h' e', (∀ q, q ≠ M → h' q = h q) → RR h' M V W P n X tn e' → e' 11 = .int (nI (if k2 = 2 then b2' else s2)) → e' 12 = .int (nI s2) → e' 13 = .int (bI (¬ g2 X w k2 s2 b2')) → e' 14 = e 14 → (∀ j, 7 ≤ j → j < 11 → e' j = e j) → e' 15 = .long (lN (nval X s1 (b1' - s1))) → wp_X9_readsCommand_121 K M (lN (wcode w)) M (lN (nval X s2 (min ((if k2 = 2 then b2' else s2) - s2) 12))) h') : rdR M w K h := by
  have good : ¬ badN X 0 s1 (if k1 = 2 then b1' else s1) := Q1.bad.mpr y1
  have U := Q1.ru (c := 2) (Or.inr rfl)
  rw [if_pos y1.1] at good U
  have np : ¬ lN (wcode w) = lN 17887012456 := wc_ne w (by omega) 4 (by omega) (by omega)
  have nc : ¬ lN (wcode w) = lN 3544110 := wc_ne w (by omega) 1 (by omega) hw1
  have mn : min (b1' - s1) 12 = b1' - s1 := by have := y1.2.1; omega
  refine skn np ⟨R.1.1, e_numberNext (f := 0) R (by omega) ht hX Q1.1 U ea ew (fun h1 e1 fr1 R1 x11 x12 x13 xo => ?_)⟩
  rw [bI_f good] at x13
  rw [mn]
  obtain ⟨h2, p2, o2, R2⟩ := R1.fset (k := 15) (by omega) (by omega) (.long (lN (nval X s1 (b1' - s1))))
  refine ⟨h2, p2, sk np (skn nc ?_)⟩
  have ru2 := Q2.ru (c := 2) (Or.inr rfl)
  by_cases w2 : w = 2
  · have eg : bI (badN X 0 s2 (if k2 = 2 then b2' else s2)) = bI (¬ g2 X w k2 s2 b2') := bI_c (by
      have := Q2.bad
      constructor
      · intro q u
        rcases u with u | u
        · exact this.mpr u.2 q
        · exact u.1 w2
      · intro q
        exact Classical.byContradiction fun y => q (Or.inl ⟨w2, this.mp y⟩))
    refine tk (by rw [w2]; rfl) ⟨R2.1.1, e_numberNext (f := 0) R2 (by omega) ht hX Q2.1 ru2 ((ue_n (by omega)).trans x11) ((ue_n (by omega)).trans x13) (fun h3 e3 fr3 R3 z11 z12 z13 zo => hk h3 e3 (fun q hq => (fr3 q hq).trans ((o2 q hq).trans (fr1 q hq))) R3 z11 z12 (by rw [z13, eg]) ((zo 14 (by omega) (by omega) (by omega)).trans ((ue_n (by omega)).trans (xo 14 (by omega) (by omega) (by omega)))) (fun j j1 j2 => (zo j (by omega) (by omega) (by omega)).trans ((ue_n (by omega)).trans (xo j (by omega) (by omega) (by omega)))) ((zo 15 (by omega) (by omega) (by omega)).trans (ue_s _ _ _)))⟩
  · have nd : ¬ lN (wcode w) = lN 149559 := wc_ne w (by omega) 2 (by omega) w2
    have eg : bI (badN X 1 s2 (if k2 = 2 then b2' else s2)) = bI (¬ g2 X w k2 s2 b2') := bI_c (by
      have := Q2.badR
      constructor
      · intro q u
        rcases u with u | u
        · exact w2 u.1
        · exact this.mpr u.2 q
      · intro q
        exact Classical.byContradiction fun y => q (Or.inr ⟨w2, this.mp y⟩))
    refine sk nd ⟨R2.1.1, e_numberNext (f := 1) R2 (by omega) ht hX Q2.1 ru2 ((ue_n (by omega)).trans x11) ((ue_n (by omega)).trans x13) (fun h3 e3 fr3 R3 z11 z12 z13 zo => hk h3 e3 (fun q hq => (fr3 q hq).trans ((o2 q hq).trans (fr1 q hq))) R3 z11 z12 (by rw [z13, eg]) ((zo 14 (by omega) (by omega) (by omega)).trans ((ue_n (by omega)).trans (xo 14 (by omega) (by omega) (by omega)))) (fun j j1 j2 => (zo j (by omega) (by omega) (by omega)).trans ((ue_n (by omega)).trans (xo j (by omega) (by omega) (by omega)))) ((zo 15 (by omega) (by omega) (by omega)).trans (ue_s _ _ _)))⟩
theorem rf3F {w b s1 k1 b1' s2 k2 b2' : Nat} (ht : tn ≤ 140) (hX : ∀ i, i < tn → 1 ≤ X i ∧ X i ≤ 255) (hw : w < 4) (hw1 : w ≠ 1) (Q1 : TK X tn b s1 k1 b1') (y1 : isN X k1 s1 b1') (Q2 : TK X tn b1' s2 k2 b2') (no : ¬ g2 X w k2 s2 b2') : rfF X tn w b s2 := by
  intro h M n V W P e K R ea ew hk
  refine rf3go ht hX hw hw1 Q1 y1 Q2 h M n V W P e K R ea ew (fun h1 e1 fr1 R1 x11 x12 x13 x14 xo x15 => ?_)
  rw [bI_t no] at x13
  exact e_semW R1 x13 (fun h2 e2 fr2 R2 z16 zo => hk h2 e2 (fun q hq => (fr2 q hq).trans (fr1 q hq)) R2 ((zo 12 (by omega)).trans x12) ((zo 13 (by omega)).trans x13) ((zo 14 (by omega)).trans x14) (fun j j1 j2 => (zo j (by omega)).trans (xo j j1 j2)) ⟨_, (zo 11 (by omega)).trans x11⟩ ⟨_, (zo 15 (by omega)).trans x15⟩ ⟨_, z16⟩)
theorem g2_len {w k s b : Nat} (y : g2 X w k s b) : k = 2 ∧ b - s ≤ 12 ∧ (w = 2 → b - s ≤ 5) := by
  rcases y with ⟨a, c, d, e⟩ | ⟨a, c, d⟩
  · exact ⟨c, by omega, fun _ => d⟩
  · exact ⟨c, by omega, fun q => absurd q a⟩
theorem rf3S {w b s1 k1 b1' s2 k2 b2' s k b' : Nat} (ht : tn ≤ 140) (hX : ∀ i, i < tn → 1 ≤ X i ∧ X i ≤ 255) (hw : w < 4) (hw1 : w ≠ 1) (Q1 : TK X tn b s1 k1 b1') (y1 : isN X k1 s1 b1') (Q2 : TK X tn b1' s2 k2 b2') (y2 : g2 X w k2 s2 b2') (Q : TK X tn b2' s k b') : (¬ (k = 3 ∧ X s = 59) → rfF X tn w b s) ∧ ((k = 3 ∧ X s = 59) → rfO X tn w b (nval X s1 (b1' - s1)) (nval X s2 (b2' - s2)) (s + 1)) := by
  obtain ⟨l1, l2, -⟩ := g2_len y2
  have mn : min (b2' - s2) 12 = b2' - s2 := by omega
  constructor
  · intro no h M n V W P e K R ea ew hk
    refine rf3go ht hX hw hw1 Q1 y1 Q2 h M n V W P e K R ea ew (fun h1 e1 fr1 R1 x11 x12 x13 x14 xo x15 => ?_)
    rw [bI_f (show ¬ ¬ g2 X w k2 s2 b2' from fun y => y y2)] at x13
    rw [if_pos l1] at x11 ⊢
    rw [mn]
    exact e_sem ht hX R1 Q x11 x13 (fun h3 e3 fr3 R3 z11 z12 z13 z16 zo => hk h3 e3 (fun q hq => (fr3 q hq).trans (fr1 q hq)) R3 z12 (by rw [z13, bI_t no]) ((zo 14 (by omega) (by omega) (by omega) (by omega)).trans x14) (fun j j1 j2 => (zo j (by omega) (by omega) (by omega) (by omega)).trans (xo j j1 j2)) ⟨_, z11⟩ ⟨_, (zo 15 (by omega) (by omega) (by omega) (by omega)).trans x15⟩ ⟨_, z16⟩)
  · intro yes h M n V W P e K R ea ew hk
    refine rf3go ht hX hw hw1 Q1 y1 Q2 h M n V W P e K R ea ew (fun h1 e1 fr1 R1 x11 x12 x13 x14 xo x15 => ?_)
    rw [bI_f (show ¬ ¬ g2 X w k2 s2 b2' from fun y => y y2)] at x13
    rw [if_pos l1] at x11 ⊢
    rw [mn]
    rw [if_neg (show ¬ w = 4 by omega), if_neg (show ¬ (w = 4 ∨ w = 1) by omega)] at hk
    exact e_sem ht hX R1 Q x11 x13 (fun h3 e3 fr3 R3 z11 z12 z13 z16 zo => hk h3 e3 (fun q hq => (fr3 q hq).trans (fr1 q hq)) R3 z11 ⟨_, z12⟩ (by rw [z13, bI_f (fun y => y yes)]) ((zo 14 (by omega) (by omega) (by omega) (by omega)).trans x14) (fun j j1 j2 => (zo j (by omega) (by omega) (by omega) (by omega)).trans (xo j j1 j2)) ((zo 15 (by omega) (by omega) (by omega) (by omega)).trans x15) z16)
/-- a command behind its word: both sides fail at one place, or both read the same -/
theorem cmd_two {w b : Nat} (ht : tn ≤ 140) (hX : ∀ i, i < tn → 1 ≤ X i ∧ X i ≤ 255) (hw : w < 5) (hb : b ≤ tn) : (∃ f, f ≤ tn ∧ clF X tn w b f ∧ rfF X tn w b f) ∨ (∃ v1 v2 p, b < p ∧ p ≤ tn ∧ v1 < 100000 ∧ v2 < 1000000000000 ∧ (w = 2 → v2 < 100000) ∧ clO X tn w b v1 v2 p ∧ rfO X tn w b v1 v2 p) := by
  have pos : ∀ {a s k b' : Nat}, TK X tn a s k b' → (k = 3 ∧ X s = 59) → b' = s + 1 := fun Q y => by
    rcases Q.2 with ⟨-, h, -⟩ | ⟨-, h, ⟨-, h2⟩ | ⟨h2, -⟩⟩
    · omega
    · exact h2
    · exact absurd y.1 h2
  by_cases w4' : w = 4
  · subst w4'
    obtain ⟨s, k, b', Q⟩ := tk_ex X tn b hb
    have sb := Q.sb
    by_cases y : k = 3 ∧ X s = 59
    · refine Or.inr ⟨0, 0, b', by have := Q.lt (by omega); omega, sb.2.2.1, by omega, by omega, fun _ => by omega, cl4O ht hX Q y, ?_⟩
      rw [pos Q y]
      exact (rf4 ht hX Q).2 y
    · exact Or.inl ⟨s, by omega, cl4F ht hX Q y, (rf4 ht hX Q).1 y⟩
  · have hw4 : w < 4 := by omega
    obtain ⟨s1, k1, b1', Q1⟩ := tk_ex X tn b hb
    have sb1 := Q1.sb
    by_cases y1 : isN X k1 s1 b1'
    · have vb1 : nval X s1 (b1' - s1) < 100000 := by
        have h1 := nval_lt (X := X) (s := s1) (m := b1' - s1) (fun i hi => (Q1.dig y1.1 (s1 + i) (by omega) (by omega)).2)
        have h2 : 10 ^ (b1' - s1) ≤ 10 ^ 5 := Nat.pow_le_pow_right (show 0 < 10 by omega) y1.2.1
        omega
      by_cases hw1 : w = 1
      · subst hw1
        obtain ⟨s, k, b', Q⟩ := tk_ex X tn b1' (by omega)
        have sb := Q.sb
        by_cases y : k = 3 ∧ X s = 59
        · refine Or.inr ⟨_, 0, b', by have := Q.lt (by omega); omega, sb.2.2.1, vb1, by omega, fun _ => by omega, (cl1 ht hX Q1 y1 Q).2 y, ?_⟩
          rw [pos Q y]
          exact (rf1 ht hX Q1 y1 Q).2 y
        · exact Or.inl ⟨s, by omega, (cl1 ht hX Q1 y1 Q).1 y, (rf1 ht hX Q1 y1 Q).1 y⟩
      · obtain ⟨s2, k2, b2', Q2⟩ := tk_ex X tn b1' (by omega)
        have sb2 := Q2.sb
        by_cases y2 : g2 X w k2 s2 b2'
        · obtain ⟨l1, l2, l3⟩ := g2_len y2
          have nl := nval_lt (X := X) (s := s2) (m := b2' - s2) (fun i hi => (Q2.dig l1 (s2 + i) (by omega) (by omega)).2)
          have vb2 : nval X s2 (b2' - s2) < 1000000000000 := by
            have h2 : 10 ^ (b2' - s2) ≤ 10 ^ 12 := Nat.pow_le_pow_right (show 0 < 10 by omega) l2
            omega
          have vb3 : w = 2 → nval X s2 (b2' - s2) < 100000 := fun e => by
            have h2 : 10 ^ (b2' - s2) ≤ 10 ^ 5 := Nat.pow_le_pow_right (show 0 < 10 by omega) (l3 e)
            omega
          obtain ⟨s, k, b', Q⟩ := tk_ex X tn b2' (by omega)
          have sb := Q.sb
          by_cases y : k = 3 ∧ X s = 59
          · refine Or.inr ⟨_, _, b', by have := Q.lt (by omega); omega, sb.2.2.1, vb1, vb2, vb3, (cl3S ht hX hw4 hw1 Q1 y1 Q2 y2 Q).2 y, ?_⟩
            rw [pos Q y]
            exact (rf3S ht hX hw4 hw1 Q1 y1 Q2 y2 Q).2 y
          · exact Or.inl ⟨s, by omega, (cl3S ht hX hw4 hw1 Q1 y1 Q2 y2 Q).1 y, (rf3S ht hX hw4 hw1 Q1 y1 Q2 y2 Q).1 y⟩
        · exact Or.inl ⟨s2, by omega, cl3F ht hX hw4 hw1 Q1 y1 Q2 y2, rf3F ht hX hw4 hw1 Q1 y1 Q2 y2⟩
    · exact Or.inl ⟨s1, by omega, clF1 ht hX hw4 Q1 y1, rfF1 ht hX hw4 Q1 y1⟩
end RN2
