/-! a run, the reference -/
def TY (e : Nat → Value) : Prop := (∃ a : Int32, e 11 = .int a) ∧ (∃ a : Int32, e 12 = .int a) ∧ (∃ a : Int32, e 13 = .int a) ∧ (∃ a : Int32, e 14 = .int a) ∧ (∃ a : Int64, e 15 = .long a) ∧ ∃ a : Int64, e 16 = .long a
def rrD (X : Nat → Nat) (tn : Nat) (V : Nat → Nat) (s c : Nat) (V' : Nat → Nat) (c' : Nat) : Prop := ∀ (h : Hp) (M n : Nat) (W P : Nat → Nat) (e : Nat → Value) (K : Int32 → Hp → Prop), RR h M V W P n X tn e → TY e → e 11 = .int (nI s) → (∀ h' e', (∀ q, q ≠ M → q ≠ M + 1 → q ≠ M + 4 → h' q = h q) → RR h' M V' W P n X tn e' → TY e' → (∀ j, 7 ≤ j → j < 11 → e' j = e j) → (∃ h98, pF h' M 9 6 (.int (nI 0)) = some h98 ∧ (isO h98 M 9 ∧ wp_X9_acted M (nI c') (fun r103 h103 => (K r103 h103)) h98))) → ∀ m, tn < s + m → wp_X9_run_15 K M m (nI c) h
def rrF (X : Nat → Nat) (tn : Nat) (V : Nat → Nat) (s c : Nat) (k1 k2 k3 k4 : Int32) : Prop := ∀ (h : Hp) (M n : Nat) (W P : Nat → Nat) (e : Nat → Value) (K : Int32 → Hp → Prop), RR h M V W P n X tn e → TY e → e 11 = .int (nI s) → (∀ h' e', (∀ q, q ≠ M → q ≠ M + 1 → q ≠ M + 4 → h' q = h q) → RR h' M W W P n X tn e' → TY e' → (∀ k, k < 4 → e' (7 + k) = .int (fl4 k1 k2 k3 k4 k)) → K ((-1000 : Int32) - k2) h') → ∀ m, tn < s + m → wp_X9_run_15 K M m (nI c) h
section RR3
variable {tn : Nat} {X : Nat → Nat} {V : Nat → Nat}
theorem rr_end {c s : Nat} (ht : tn ≤ 140) (hs : s = tn) : rrD X tn V s c V c := by
  intro h M n W P e K R ty ea hk m hm
  obtain ⟨m, rfl⟩ : ∃ m', m = m' + 1 := ⟨m - 1, by omega⟩
  exact ⟨_, R.fg (by omega) (by omega) ea, _, R.2.2.2.2.2.1, b_le (by omega) (by omega) (fun _ => hk h e (fun _ _ _ _ => rfl) R ty (fun _ _ _ => rfl)) (fun q => by omega)⟩
theorem rr_noword {a c s k b : Nat} (ht : tn ≤ 140) (hX : ∀ i, i < tn → 1 ≤ X i ∧ X i ≤ 255) (Q : TK X tn a s k b) (h0 : 0 < k) (hw : wd X k s b = none) : rrF X tn V s c (nI 1) (nI s) (nI c) (-9) := by
  intro h M n W P e K R ty ea hk m hm
  have sl := Q.lt h0
  obtain ⟨m, rfl⟩ : ∃ m', m = m' + 1 := ⟨m - 1, by have := Q.sb; omega⟩
  have Q2 : TK X tn s s k b := ⟨Q.1.self, Q.2⟩
  refine ⟨_, R.fg (by omega) (by omega) ea, _, R.2.2.2.2.2.1, b_le (by omega) (by omega) (fun q => by omega) (fun _ => ⟨R.1.1, e_rcN R ht hX Q2 ea hw (fun v h1 e1 fr1 R1 x12 x13 x14 xo x11 x15 x16 => ?_)⟩)⟩
  refine ⟨_, R1.fg (by omega) (by omega) x13, sk (by decide) ⟨_, R1.fg (by omega) (by omega) x12, R1.1.1, e_fails R1 _ _ _ _ (fun h2 e2 fr2 R2 y1 y2 => hk h2 e2 (fun q q1 q2 q3 => (fr2 q q1 q2).trans (fr1 q q1)) R2 ⟨?_, ?_, ?_, ?_, ?_, ?_⟩ y1)⟩⟩
  · rw [y2 11 (by omega)]; exact x11
  · rw [y2 12 (by omega)]; exact ⟨_, x12⟩
  · rw [y2 13 (by omega)]; exact ⟨_, x13⟩
  · rw [y2 14 (by omega)]; exact ⟨_, x14⟩
  · rw [y2 15 (by omega)]; exact x15
  · rw [y2 16 (by omega)]; exact x16
theorem rr_wrong {a c s k b w f : Nat} (ht : tn ≤ 140) (hX : ∀ i, i < tn → 1 ≤ X i ∧ X i ≤ 255) (Q : TK X tn a s k b) (hw : wd X k s b = some w) (hf : rfF X tn w b f) : rrF X tn V s c (nI 1) (nI f) (nI c) (-9) := by
  intro h M n W P e K R ty ea hk m hm
  obtain ⟨w5, k1, -⟩ := wd_some hw
  have sl := Q.lt (by omega)
  obtain ⟨m, rfl⟩ : ∃ m', m = m' + 1 := ⟨m - 1, by have := Q.sb; omega⟩
  have Q2 : TK X tn s s k b := ⟨Q.1.self, Q.2⟩
  refine ⟨_, R.fg (by omega) (by omega) ea, _, R.2.2.2.2.2.1, b_le (by omega) (by omega) (fun q => by omega) (fun _ => ⟨R.1.1, e_rcW R ht hX Q2 ea hw (fun h0 e0 fr0 R0 z11 z13 z14 zo => hf h0 M n V W P e0 _ R0 z11 z13 (fun h1 e1 fr1 R1 x12 x13 x14 xo x11 x15 x16 => ?_))⟩)⟩
  refine ⟨_, R1.fg (by omega) (by omega) x13, sk (by decide) ⟨_, R1.fg (by omega) (by omega) x12, R1.1.1, e_fails R1 _ _ _ _ (fun h2 e2 fr2 R2 y1 y2 => hk h2 e2 (fun q q1 q2 q3 => (fr2 q q1 q2).trans ((fr1 q q1).trans (fr0 q q1))) R2 ⟨?_, ?_, ?_, ?_, ?_, ?_⟩ y1)⟩⟩
  · rw [y2 11 (by omega)]; exact x11
  · rw [y2 12 (by omega)]; exact ⟨_, x12⟩
  · rw [y2 13 (by omega)]; exact ⟨_, x13⟩
  · rw [y2 14 (by omega), x14]; exact ⟨_, z14⟩
  · rw [y2 15 (by omega)]; exact x15
  · rw [y2 16 (by omega)]; exact x16
end RR3
