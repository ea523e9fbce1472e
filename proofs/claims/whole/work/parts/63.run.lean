/-! a run, the class -/
def rcD (X : Nat → Nat) (tn : Nat) (V : Nat → Nat) (a c : Nat) (V' : Nat → Nat) (c' : Nat) : Prop := ∀ (h : Hp) (z : Nat) (F : Nat → Nat → Int32) (fl : Nat → Int32) (f5 f6 : Int64) (kv sv : Int32) (K : Int32 → Hp → Prop), CK h z V F → PN h z X tn fl f5 f6 kv sv a → (∀ h' F' f5 f6 kv sv en, (∀ q, (q < z + 3 ∨ z + 27 ≤ q) → q ≠ z + 256 → q ≠ z + 257 → h' q = h q) → CK h' z V' F' → PN h' z X tn fl f5 f6 kv sv en → K (nI c') h') → ∀ m, tn < a + m → wp_X3_runWith_9 K (z + 256) (z + 1) m (nI c) h
def rcF (X : Nat → Nat) (tn : Nat) (V : Nat → Nat) (a c : Nat) (k1 k2 k3 k4 : Int32) : Prop := ∀ (h : Hp) (z : Nat) (F : Nat → Nat → Int32) (fl : Nat → Int32) (f5 f6 : Int64) (kv sv : Int32) (K : Int32 → Hp → Prop), CK h z V F → PN h z X tn fl f5 f6 kv sv a → (∀ h' V2 F' f5 f6 kv sv en, (∀ q, (q < z + 3 ∨ z + 27 ≤ q) → q ≠ z + 256 → q ≠ z + 257 → h' q = h q) → CK h' z V2 F' → PN h' z X tn (fl4 k1 k2 k3 k4) f5 f6 kv sv en → K (-9) h') → ∀ m, tn < a + m → wp_X3_runWith_9 K (z + 256) (z + 1) m (nI c) h
section RUN
variable {tn : Nat} {X : Nat → Nat} {V : Nat → Nat}
/-- nothing more in the text -/
theorem rc_end {a c s k b : Nat} (ht : tn ≤ 140) (hX : ∀ i, i < tn → 1 ≤ X i ∧ X i ≤ 255) (hc : c ≤ 140) (Q : TK X tn a s k b) (h0 : k = 0) : rcD X tn V a c V c := by
  intro h z F fl f5 f6 kv sv K C P hk
  subst h0
  intro m hm
  have sb := Q.sb
  obtain ⟨m, rfl⟩ : ∃ m', m = m' + 1 := ⟨m - 1, by omega⟩
  refine b_lt (by omega) (by omega) (fun q => by omega) (fun _ => ⟨_, P.2.1, P.2.2.2.2.2.1, c_tok ht hX P.2.2.2.2.2 Q (fun h1 fr1 T1 => ?_)⟩)
  have P1 := P.text fr1 T1
  exact ⟨_, P1.2.1, _, T1.2.2.1, tkn rfl (hk h1 F _ _ _ _ _ (fun q q1 q2 q3 => fr1 q q3) (C.fr (fun q q1 q2 => fr1 q (by omega))) P1)⟩
/-- no word -/
theorem rc_noword {a c s k b : Nat} (ht : tn ≤ 140) (hX : ∀ i, i < tn → 1 ≤ X i ∧ X i ≤ 255) (hc : c ≤ 140) (Q : TK X tn a s k b) (h0 : 0 < k) (hw : wd X k s b = none) : rcF X tn V a c (nI 1) (nI s) (nI c) (-9) := by
  intro h z F fl f5 f6 kv sv K C P hk
  have k3 := Q.k3
  intro m hm
  have sb := Q.sb
  obtain ⟨m, rfl⟩ : ∃ m', m = m' + 1 := ⟨m - 1, by omega⟩
  refine b_lt (by omega) (by omega) (fun q => by omega) (fun _ => ⟨_, P.2.1, P.2.2.2.2.2.1, c_tok ht hX P.2.2.2.2.2 Q (fun h1 fr1 T1 => ?_)⟩)
  have P1 := P.text fr1 T1
  have kn : ¬ nI k = nI 0 := fun q => by have := (nI_eq (by omega) (by omega)).mp q; omega
  refine ⟨_, P1.2.1, _, T1.2.2.1, skn kn ⟨_, P1.2.1, _, T1.2.2.2.1, P1.1, c_wordHere ht hX P1 k3 Q.sb.2.1 Q.sb.2.2.1 ?_⟩⟩
  rw [hw]
  exact tk rfl ⟨_, P1.2.1, _, T1.2.2.2.1, P1.1, c_fail P1 _ _ _ _ (fun h2 fr2 P2 => hk h2 V F _ _ _ _ _ (fun q q1 q2 q3 => (fr2 q q2).trans (fr1 q q3)) (C.fr (fun q q1 q2 => (fr2 q (by omega)).trans (fr1 q (by omega)))) P2)⟩
/-- a command's numbers or sign wrong -/
theorem rc_wrong {a c s k b w f : Nat} (ht : tn ≤ 140) (hX : ∀ i, i < tn → 1 ≤ X i ∧ X i ≤ 255) (hc : c ≤ 140) (Q : TK X tn a s k b) (hw : wd X k s b = some w) (hf : clF X tn w b f) : rcF X tn V a c (nI 1) (nI f) (nI c) (-9) := by
  intro h z F fl f5 f6 kv sv K C P hk
  have k3 := Q.k3
  obtain ⟨w5, k1, -⟩ := wd_some hw
  intro m hm
  have sb := Q.sb
  obtain ⟨m, rfl⟩ : ∃ m', m = m' + 1 := ⟨m - 1, by omega⟩
  refine b_lt (by omega) (by omega) (fun q => by omega) (fun _ => ⟨_, P.2.1, P.2.2.2.2.2.1, c_tok ht hX P.2.2.2.2.2 Q (fun h1 fr1 T1 => ?_)⟩)
  have P1 := P.text fr1 T1
  have kn : ¬ nI k = nI 0 := fun q => by have := (nI_eq (by omega) (by omega)).mp q; omega
  refine ⟨_, P1.2.1, _, T1.2.2.1, skn kn ⟨_, P1.2.1, _, T1.2.2.2.1, P1.1, c_wordHere ht hX P1 k3 Q.sb.2.1 Q.sb.2.2.1 ?_⟩⟩
  rw [hw]
  refine sk (ne_m1 (by omega)) ⟨P1.1, hf h1 z fl f5 f6 _ _ _ _ P1 (fun h2 f5' f6' kv' en' fr2 P2 => ⟨_, P2.2.1, _, P2.2.2.2.2.2.2.2.2.1, P2.1, c_fail P2 _ _ _ _ (fun h3 fr3 P3 => hk h3 V F _ _ _ _ _ (fun q q1 q2 q3 => (fr3 q q2).trans ((fr2 q q2 q3).trans (fr1 q q3))) (C.fr (fun q q1 q2 => (fr3 q (by omega)).trans ((fr2 q (by omega) (by omega)).trans (fr1 q (by omega))))) P3)⟩)⟩
/-- a command is read and done: what its answer says -/
theorem rc_go {a c s k b w v1 v2 p : Nat} {r : Int32} {V' : Nat → Nat} (ht : tn ≤ 140) (hX : ∀ i, i < tn → 1 ≤ X i ∧ X i ≤ 255) (hc : c ≤ 140) (Q : TK X tn a s k b) (hw : wd X k s b = some w) (hf : clO X tn w b v1 v2 p)
    (ac : ∀ (h : Hp) (z : Nat) (F : Nat → Nat → Int32) (K : Int32 → Hp → Prop) (f5 f6 : Int64), (w ≠ 4 → f5 = lN v1) → (w ≠ 4 → w ≠ 1 → f6 = lN v2) → CK h z V F → (∀ h' F', (∀ q, (q < z + 3 ∨ z + 27 ≤ q) → h' q = h q) → CK h' z V' F' → K r h') → wp_X1_obey (z + 1) (nI w) f5 f6 K h)
    (h : Hp) (z : Nat) (F : Nat → Nat → Int32) (fl : Nat → Int32) (f5 f6 : Int64) (kv sv : Int32) (K : Int32 → Hp → Prop) (C : CK h z V F) (P : PN h z X tn fl f5 f6 kv sv a) (m : Nat) (hk : ∀ h' F' f5 f6 kv sv, (∀ q, (q < z + 3 ∨ z + 27 ≤ q) → q ≠ z + 256 → q ≠ z + 257 → h' q = h q) → CK h' z V' F' → PN h' z X tn fl f5 f6 kv sv p → ((nI 0 ≤ r → wp_X3_runWith_9 K (z + 256) (z + 1) m (nI (c + 1)) h') ∧ (¬ nI 0 ≤ r → wp_X3_fail (z + 256) (nI 2) (nI s) (nI c) r K h'))) : wp_X3_runWith_9 K (z + 256) (z + 1) (m + 1) (nI c) h := by
  have k3 := Q.k3
  obtain ⟨w5, k1, -⟩ := wd_some hw
  refine b_lt (by omega) (by omega) (fun q => by omega) (fun _ => ⟨_, P.2.1, P.2.2.2.2.2.1, c_tok ht hX P.2.2.2.2.2 Q (fun h1 fr1 T1 => ?_)⟩)
  have P1 := P.text fr1 T1
  have kn : ¬ nI k = nI 0 := fun q => by have := (nI_eq (by omega) (by omega)).mp q; omega
  refine ⟨_, P1.2.1, _, T1.2.2.1, skn kn ⟨_, P1.2.1, _, T1.2.2.2.1, P1.1, c_wordHere ht hX P1 k3 Q.sb.2.1 Q.sb.2.2.1 ?_⟩⟩
  rw [hw]
  refine sk (ne_m1 (by omega)) ⟨P1.1, hf h1 z fl f5 f6 _ _ _ _ P1 (fun h2 f5' f6' kv' sv' fr2 P2 e5 e6 => ?_)⟩
  have fr : ∀ q, q ≠ z + 256 → q ≠ z + 257 → h2 q = h q := fun q q1 q2 => (fr2 q q1 q2).trans (fr1 q q2)
  have C2 := C.fr (fun q q1 q2 => fr q (by omega) (by omega))
  refine ⟨_, P2.2.2.2.1, _, P2.2.2.2.2.1, C2.1, ac h2 z F _ f5' f6' e5 e6 C2 (fun h3 F3 fr3 C3 => ?_)⟩
  have P3 := P2.fr (h' := h3) (fun q hq => fr3 q (by omega))
  have f := hk h3 F3 _ _ _ _ (fun q q1 q2 q3 => (fr3 q q1).trans (fr q q2 q3)) C3 P3
  refine ⟨fun q y ey => ?_, fun q => ⟨P3.1, f.2 q⟩⟩
  subst ey
  rw [nI_add]
  exact f.1 q
end RUN
