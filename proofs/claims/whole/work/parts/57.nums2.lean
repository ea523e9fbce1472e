/-! the class on a command of two numbers -/
abbrev g2 (X : Nat → Nat) (w k s b : Nat) : Prop := (w = 2 ∧ isN X k s b) ∨ (w ≠ 2 ∧ k = 2 ∧ b - s = 12)
section ND
variable {tn : Nat} {X : Nat → Nat}
theorem cl3go {w b s1 k1 b1' s2 k2 b2' : Nat} (ht : tn ≤ 140) (hX : ∀ i, i < tn → 1 ≤ X i ∧ X i ≤ 255) (hw : w < 4) (hw1 : w ≠ 1) (Q1 : TK X tn b s1 k1 b1') (y1 : isN X k1 s1 b1') (Q2 : TK X tn b1' s2 k2 b2') (h : Hp) (z : Nat) (fl : Nat → Int32) (f5 f6 : Int64) (kv sv : Int32) (Fl Ob : Hp → Prop) (P : PN h z X tn fl f5 f6 kv sv b) (hB : ¬ g2 X w k2 s2 b2' → ∀ h', (∀ q, q ≠ z + 256 → q ≠ z + 257 → h' q = h q) → PN h' z X tn fl (lN (nval X s1 (b1' - s1))) f6 (nI k2) (nI s2) b2' → Fl h') (hG : g2 X w k2 s2 b2' → ∀ h', (∀ q, q ≠ z + 256 → q ≠ z + 257 → h' q = h q) → PN h' z X tn fl (lN (nval X s1 (b1' - s1))) (lN (nval X s2 (b2' - s2))) (nI k2) (nI s2) b2' → ((nI 1 = nI 0 → Fl h') ∧ (¬ nI 1 = nI 0 → (isO h' (z + 256) 3 ∧ wp_X3_readSemicolon (z + 256) (fun r65 h65 => (((¬ r65 = nI 0 → Ob h65) ∧ (r65 = nI 0 → Fl h65)))) h')))) : rdC z w Fl Ob h := by
  refine skn (w4 hw) ⟨_, P.2.1, P.2.2.2.2.2.1, c_tok ht hX P.2.2.2.2.2 Q1 (fun h1 fr1 T1 => ?_)⟩
  have P1 := P.text fr1 T1
  refine ⟨_, P1.2.1, T1.1, c_isNumber T1 ht hX Q1.k3 Q1.sb.2.1 Q1.sb.2.2.1 (fun e => Q1.sb.2.2.2 (Q1.lt (by omega))) (n1 y1 ⟨_, P1.2.1, T1.1, c_value T1 ht Q1.sb.2.1 Q1.sb.2.2.1 (Q1.dig y1.1) ?_⟩)⟩
  obtain ⟨h2, e2, o2, P2⟩ := P1.p5 (lN (nval X s1 (b1' - s1)))
  have n1w : ¬ nI w = nI 1 := fun q => hw1 ((nI_eq (by omega) (by omega)).mp q)
  refine ⟨h2, e2, skn n1w ⟨_, P2.2.1, P2.2.2.2.2.2.1, c_tok ht hX P2.2.2.2.2.2 Q2 (fun h3 fr3 T3 => ?_)⟩⟩
  have P3 := P2.text fr3 T3
  have fr : ∀ q, q ≠ z + 256 → q ≠ z + 257 → h3 q = h q := fun q q1 q2 => (fr3 q q2).trans ((o2 q q1).trans (fr1 q q2))
  obtain ⟨h4, e4, o4, P4⟩ := P3.p6 (lN (nval X s2 (b2' - s2)))
  have fr4 : ∀ q, q ≠ z + 256 → q ≠ z + 257 → h4 q = h q := fun q q1 q2 => (o4 q q1).trans (fr q q1 q2)
  by_cases w2 : w = 2
  · refine tkn (by rw [w2]) ⟨_, P3.2.1, T3.1, c_isNumber T3 ht hX Q2.k3 Q2.sb.2.1 Q2.sb.2.2.1 (fun e => Q2.sb.2.2.2 (Q2.lt (by omega))) (br_n (fun y2 => ⟨_, P3.2.1, T3.1, c_value T3 ht Q2.sb.2.1 Q2.sb.2.2.1 (Q2.dig y2.1) ⟨h4, e4, hG (Or.inl ⟨w2, y2⟩) h4 fr4 P4⟩⟩) (fun y2 => tk rfl (hB (fun u => by
      rcases u with u | u
      · exact y2 u.2
      · exact u.1 w2) h3 fr P3)))⟩
  · have n2w : ¬ nI w = nI 2 := fun q => w2 ((nI_eq (by omega) (by omega)).mp q)
    refine skn n2w ⟨_, P3.2.1, T3.1, c_isWholeRow T3 ht Q2.k3 Q2.sb.2.1 Q2.sb.2.2.1 (br_n (fun y2 => ⟨_, P3.2.1, T3.1, c_value T3 ht Q2.sb.2.1 Q2.sb.2.2.1 (Q2.dig y2.1) ⟨h4, e4, hG (Or.inr ⟨w2, y2⟩) h4 fr4 P4⟩⟩) (fun y2 => tk rfl (hB (fun u => by
      rcases u with u | u
      · exact w2 u.1
      · exact y2 u.2) h3 fr P3)))⟩
theorem cl3F {w b s1 k1 b1' s2 k2 b2' : Nat} (ht : tn ≤ 140) (hX : ∀ i, i < tn → 1 ≤ X i ∧ X i ≤ 255) (hw : w < 4) (hw1 : w ≠ 1) (Q1 : TK X tn b s1 k1 b1') (y1 : isN X k1 s1 b1') (Q2 : TK X tn b1' s2 k2 b2') (no : ¬ g2 X w k2 s2 b2') : clF X tn w b s2 :=
  fun h z fl f5 f6 kv sv Fl Ob P hk => cl3go ht hX hw hw1 Q1 y1 Q2 h z fl f5 f6 kv sv Fl Ob P (fun _ h' fr P' => hk h' _ _ _ _ fr P') (fun y => absurd y no)
theorem cl3S {w b s1 k1 b1' s2 k2 b2' s k b' : Nat} (ht : tn ≤ 140) (hX : ∀ i, i < tn → 1 ≤ X i ∧ X i ≤ 255) (hw : w < 4) (hw1 : w ≠ 1) (Q1 : TK X tn b s1 k1 b1') (y1 : isN X k1 s1 b1') (Q2 : TK X tn b1' s2 k2 b2') (y2 : g2 X w k2 s2 b2') (Q : TK X tn b2' s k b') : (¬ (k = 3 ∧ X s = 59) → clF X tn w b s) ∧ ((k = 3 ∧ X s = 59) → clO X tn w b (nval X s1 (b1' - s1)) (nval X s2 (b2' - s2)) b') :=
  ⟨fun no h z fl f5 f6 kv sv Fl Ob P hk => cl3go ht hX hw hw1 Q1 y1 Q2 h z fl f5 f6 kv sv Fl Ob P (fun y => absurd y2 y) (fun _ h' fr P' => csem ht hX P' Q (fun y => absurd y no) (fun _ h2 fr2 P2 => hk h2 _ _ _ _ (fun q q1 q2 => (fr2 q q2).trans (fr q q1 q2)) P2)),
   fun yes h z fl f5 f6 kv sv Fl Ob P hk => cl3go ht hX hw hw1 Q1 y1 Q2 h z fl f5 f6 kv sv Fl Ob P (fun y => absurd y2 y) (fun _ h' fr P' => csem ht hX P' Q (fun _ h2 fr2 P2 => hk h2 _ _ _ _ (fun q q1 q2 => (fr2 q q2).trans (fr q q1 q2)) P2 (fun _ => rfl) (fun _ _ => rfl)) (fun y => absurd yes y))⟩
end ND
