/-! a command's numbers and its sign, on both sides -/
def rdC (z w : Nat) (Fl Ob : Hp → Prop) (h : Hp) : Prop := wp_X3_readNumbers (z + 256) (nI w) (fun r58 h58 => (((r58 = nI 0 → Fl h58) ∧ (¬ r58 = nI 0 → (isO h58 (z + 256) 3 ∧ wp_X3_readSemicolon (z + 256) (fun r65 h65 => (((¬ r65 = nI 0 → Ob h65) ∧ (r65 = nI 0 → Fl h65)))) h58))))) h
def rdR (M w : Nat) (K : Int64 → Hp → Prop) (h : Hp) : Prop := (((¬ lN (wcode w) = (lN 17887012456) → (isO h M 9 ∧ wp_X9_numberNext M (nI 0) (fun r77 h77 => (wp_X9_readsCommand_80 K M (lN (wcode w)) M r77 h77)) h)) ∧ (lN (wcode w) = (lN 17887012456) → (wp_X9_readsCommand_80 K M (lN (wcode w)) M (lN 0) h))))
/-- the class fails at f; the class goes on at p with v1, v2 -/
def clF (X : Nat → Nat) (tn w b f : Nat) : Prop := ∀ (h : Hp) (z : Nat) (fl : Nat → Int32) (f5 f6 : Int64) (kv sv : Int32) (Fl Ob : Hp → Prop), PN h z X tn fl f5 f6 kv sv b → (∀ h' f5 f6 kv en, (∀ q, q ≠ z + 256 → q ≠ z + 257 → h' q = h q) → PN h' z X tn fl f5 f6 kv (nI f) en → Fl h') → rdC z w Fl Ob h
def clO (X : Nat → Nat) (tn w b v1 v2 p : Nat) : Prop := ∀ (h : Hp) (z : Nat) (fl : Nat → Int32) (f5 f6 : Int64) (kv sv : Int32) (Fl Ob : Hp → Prop), PN h z X tn fl f5 f6 kv sv b → (∀ h' f5 f6 kv sv, (∀ q, q ≠ z + 256 → q ≠ z + 257 → h' q = h q) → PN h' z X tn fl f5 f6 kv sv p → (w ≠ 4 → f5 = lN v1) → (w ≠ 4 → w ≠ 1 → f6 = lN v2) → Ob h') → rdC z w Fl Ob h
section NM
variable {h : Hp} {z tn : Nat} {X : Nat → Nat} {fl : Nat → Int32} {f5 f6 : Int64} {kv sv : Int32} {Fl Ob : Hp → Prop}
theorem csem {a s k b : Nat} (ht : tn ≤ 140) (hX : ∀ i, i < tn → 1 ≤ X i ∧ X i ≤ 255) (P : PN h z X tn fl f5 f6 kv sv a) (Q : TK X tn a s k b) (hO : (k = 3 ∧ X s = 59) → ∀ h', (∀ q, q ≠ z + 257 → h' q = h q) → PN h' z X tn fl f5 f6 (nI k) (nI s) b → Ob h') (hF : ¬ (k = 3 ∧ X s = 59) → ∀ h', (∀ q, q ≠ z + 257 → h' q = h q) → PN h' z X tn fl f5 f6 (nI k) (nI s) b → Fl h') : ((nI 1 = nI 0 → Fl h) ∧ (¬ nI 1 = nI 0 → (isO h (z + 256) 3 ∧ wp_X3_readSemicolon (z + 256) (fun r65 h65 => (((¬ r65 = nI 0 → Ob h65) ∧ (r65 = nI 0 → Fl h65)))) h))) :=
  sk (by decide) ⟨P.1, c_readSemicolon ht hX P Q (fun h' fr P' => br_n (fun q => hO q h' fr P') (fun q => hF q h' fr P'))⟩
end NM
section NC
variable {tn : Nat} {X : Nat → Nat}
/-- the class on a command without numbers -/
theorem cl4F {b s k b' : Nat} (ht : tn ≤ 140) (hX : ∀ i, i < tn → 1 ≤ X i ∧ X i ≤ 255) (Q : TK X tn b s k b') (no : ¬ (k = 3 ∧ X s = 59)) : clF X tn 4 b s := fun h z fl f5 f6 kv sv Fl Ob P hk =>
  tkn rfl (csem ht hX P Q (fun y => absurd y no) (fun _ h' fr P' => hk h' _ _ _ _ (fun q q1 q2 => fr q q2) P'))
theorem cl4O {b s k b' : Nat} (ht : tn ≤ 140) (hX : ∀ i, i < tn → 1 ≤ X i ∧ X i ≤ 255) (Q : TK X tn b s k b') (yes : k = 3 ∧ X s = 59) : clO X tn 4 b 0 0 b' := fun h z fl f5 f6 kv sv Fl Ob P hk =>
  tkn rfl (csem ht hX P Q (fun _ h' fr P' => hk h' _ _ _ _ (fun q q1 q2 => fr q q2) P' (fun e => absurd rfl e) (fun e => absurd rfl e)) (fun y => absurd yes y))
theorem w4 {w : Nat} (hw : w < 4) : ¬ nI w = nI 4 := fun q => by have := (nI_eq (by omega) (by omega)).mp q; omega
/-- the class on a command whose first number is wrong -/
theorem clF1 {w b s k b' : Nat} (ht : tn ≤ 140) (hX : ∀ i, i < tn → 1 ≤ X i ∧ X i ≤ 255) (hw : w < 4) (Q : TK X tn b s k b') (no : ¬ isN X k s b') : clF X tn w b s := by
  intro h z fl f5 f6 kv sv Fl Ob P hk
  refine skn (w4 hw) ⟨_, P.2.1, P.2.2.2.2.2.1, c_tok ht hX P.2.2.2.2.2 Q (fun h1 fr1 T1 => ?_)⟩
  have P1 := P.text fr1 T1
  exact ⟨_, P1.2.1, T1.1, c_isNumber T1 ht hX Q.k3 Q.sb.2.1 Q.sb.2.2.1 (fun e => Q.sb.2.2.2 (Q.lt (by omega))) (br_n (fun q => absurd q no) (fun q => tk rfl (hk h1 _ _ _ _ (fun q q1 q2 => fr1 q q2) P1)))⟩
/-- clean: one number, then the sign -/
theorem cl1 {b s1 k1 b1' s k b' : Nat} (ht : tn ≤ 140) (hX : ∀ i, i < tn → 1 ≤ X i ∧ X i ≤ 255) (Q1 : TK X tn b s1 k1 b1') (y1 : isN X k1 s1 b1') (Q : TK X tn b1' s k b') : (¬ (k = 3 ∧ X s = 59) → clF X tn 1 b s) ∧ ((k = 3 ∧ X s = 59) → clO X tn 1 b (nval X s1 (b1' - s1)) 0 b') := by
  have go : ∀ (h : Hp) (z : Nat) (fl : Nat → Int32) (f5 f6 : Int64) (kv sv : Int32) (Fl Ob : Hp → Prop), PN h z X tn fl f5 f6 kv sv b → ((k = 3 ∧ X s = 59) → ∀ h', (∀ q, q ≠ z + 256 → q ≠ z + 257 → h' q = h q) → PN h' z X tn fl (lN (nval X s1 (b1' - s1))) f6 (nI k) (nI s) b' → Ob h') → (¬ (k = 3 ∧ X s = 59) → ∀ h', (∀ q, q ≠ z + 256 → q ≠ z + 257 → h' q = h q) → PN h' z X tn fl (lN (nval X s1 (b1' - s1))) f6 (nI k) (nI s) b' → Fl h') → rdC z 1 Fl Ob h := by
    intro h z fl f5 f6 kv sv Fl Ob P hO hF
    refine skn (w4 (by omega)) ⟨_, P.2.1, P.2.2.2.2.2.1, c_tok ht hX P.2.2.2.2.2 Q1 (fun h1 fr1 T1 => ?_)⟩
    have P1 := P.text fr1 T1
    refine ⟨_, P1.2.1, T1.1, c_isNumber T1 ht hX Q1.k3 Q1.sb.2.1 Q1.sb.2.2.1 (fun e => Q1.sb.2.2.2 (Q1.lt (by omega))) (n1 y1 ⟨_, P1.2.1, T1.1, c_value T1 ht Q1.sb.2.1 Q1.sb.2.2.1 (Q1.dig y1.1) ?_⟩)⟩
    obtain ⟨h2, e2, o2, P2⟩ := P1.p5 (lN (nval X s1 (b1' - s1)))
    refine ⟨h2, e2, tkn rfl (csem ht hX P2 Q (fun y h' fr P' => hO y h' (fun q q1 q2 => (fr q q2).trans ((o2 q q1).trans (fr1 q q2))) P') (fun y h' fr P' => hF y h' (fun q q1 q2 => (fr q q2).trans ((o2 q q1).trans (fr1 q q2))) P'))⟩
  exact ⟨fun no h z fl f5 f6 kv sv Fl Ob P hk => go h z fl f5 f6 kv sv Fl Ob P (fun y => absurd y no) (fun _ h' fr P' => hk h' _ _ _ _ fr P'), fun yes h z fl f5 f6 kv sv Fl Ob P hk => go h z fl f5 f6 kv sv Fl Ob P (fun _ h' fr P' => hk h' _ _ _ _ fr P' (fun _ => rfl) (fun _ e => absurd rfl e)) (fun y => absurd yes y)⟩
end NC
