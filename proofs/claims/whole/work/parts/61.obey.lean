/-! a command done, on both sides -/
def ActC (N : Nat) (V : Nat → Nat) (w v1 v2 : Nat) : Prop := ∃ (r : Int32) (V' : Nat → Nat),
  ((-3 ≤ r.toInt ∧ r.toInt < 0 ∧ V' = V) ∨ (0 ≤ r.toInt ∧ OK (N + 1) V' ∧ ∀ i, 455 ≤ i → V' i = V i)) ∧
  (∀ (h : Hp) (z : Nat) (F : Nat → Nat → Int32) (K : Int32 → Hp → Prop) (f5 f6 : Int64), (w ≠ 4 → f5 = lN v1) → (w ≠ 4 → w ≠ 1 → f6 = lN v2) → CK h z V F → (∀ h' F', (∀ q, (q < z + 3 ∨ z + 27 ≤ q) → h' q = h q) → CK h' z V' F' → K r h') → wp_X1_obey (z + 1) (nI w) f5 f6 K h) ∧
  (∀ (h : Hp) (M : Nat) (K : Int32 → Hp → Prop), gF h M 9 15 = some (.long (lN (if w = 4 then 0 else v1))) → gF h M 9 16 = some (.long (lN (if w = 4 ∨ w = 1 then 0 else v2))) → RM h M V → PL h M → (∀ h', (∀ q, q ≠ M + 1 → q ≠ M + 4 → h' q = h q) → RM h' M V' → PL h' M → K r h') → wp_X9_does M (lN (wcode w)) K h)
theorem act_cmd {N : Nat} {V : Nat → Nat} (k : OK N V) (hN : N < 2 ^ 29) {w v1 v2 : Nat} (hw : w < 5) (h1 : v1 < 100000) (h2 : w = 2 → v2 < 100000) : ActC N V w v1 v2 := by
  have wn : ∀ a b : Nat, a < 5 → b < 5 → a ≠ b → ¬ nI a = nI b := fun a b ha hb hab q => hab ((nI_eq (by omega) (by omega)).mp q)
  rcases (show w = 0 ∨ w = 1 ∨ w = 2 ∨ w = 3 ∨ w = 4 by omega) with rfl | rfl | rfl | rfl | rfl
  · obtain ⟨r, V', c, a, b⟩ := act_scan k hN (nI v1) (lN v2)
    refine ⟨r, V', c, fun h z F K f5 f6 e5 e6 C hk => tk rfl ⟨C.1, ?_⟩, fun h M K g5 g6 R P hk => tkn rfl ⟨_, g5, _, g6, R.1, ?_⟩⟩
    · rw [e5 (by omega), e6 (by omega) (by omega), lN_i]
      exact a h z F K C hk
    · have := b h M K R P hk
      rw [nI_l (by omega)] at this
      exact this
  · obtain ⟨r, V', c, a, b⟩ := act_clean k hN (nI v1)
    refine ⟨r, V', c, fun h z F K f5 f6 e5 e6 C hk => sk (wn 1 0 (by omega) (by omega) (by omega)) (tk rfl ⟨C.1, ?_⟩), fun h M K g5 g6 R P hk => skn (wc_ne 1 (by omega) 0 (by omega) (by omega)) (tkn rfl ⟨_, g5, R.1, ?_⟩)⟩
    · rw [e5 (by omega), lN_i]
      exact a h z F K C hk
    · have := b h M K R P hk
      rw [nI_l (by omega)] at this
      exact this
  · have hv2 := h2 rfl
    obtain ⟨r, V', c, a, b⟩ := act_draw k hN (nI v1) (nI v2)
    refine ⟨r, V', c, fun h z F K f5 f6 e5 e6 C hk => sk (wn 2 0 (by omega) (by omega) (by omega)) (sk (wn 2 1 (by omega) (by omega) (by omega)) (tk rfl ⟨C.1, ?_⟩)), fun h M K g5 g6 R P hk => skn (wc_ne 2 (by omega) 0 (by omega) (by omega)) (skn (wc_ne 2 (by omega) 1 (by omega) (by omega)) (tkn rfl ⟨_, g5, _, g6, R.1, ?_⟩))⟩
    · rw [e5 (by omega), e6 (by omega) (by omega), lN_i, lN_i]
      exact a h z F K C hk
    · have := b h M K R P hk
      rw [nI_l (by omega), nI_l (by omega)] at this
      exact this
  · obtain ⟨r, V', c, a, b⟩ := act_look k hN (nI v1) (lN v2)
    refine ⟨r, V', c, fun h z F K f5 f6 e5 e6 C hk => sk (wn 3 0 (by omega) (by omega) (by omega)) (sk (wn 3 1 (by omega) (by omega) (by omega)) (sk (wn 3 2 (by omega) (by omega) (by omega)) (tk rfl ⟨C.1, ?_⟩))), fun h M K g5 g6 R P hk => skn (wc_ne 3 (by omega) 0 (by omega) (by omega)) (skn (wc_ne 3 (by omega) 1 (by omega) (by omega)) (skn (wc_ne 3 (by omega) 2 (by omega) (by omega)) (tkn rfl ⟨_, g5, _, g6, R.1, ?_⟩)))⟩
    · rw [e5 (by omega), e6 (by omega) (by omega), lN_i]
      exact a h z F K C hk
    · have := b h M K R P hk
      rw [nI_l (by omega)] at this
      exact this
  · obtain ⟨r, V', c, a, b⟩ := act_publish k hN
    exact ⟨r, V', c, fun h z F K f5 f6 e5 e6 C hk => sk (wn 4 0 (by omega) (by omega) (by omega)) (sk (wn 4 1 (by omega) (by omega) (by omega)) (sk (wn 4 2 (by omega) (by omega) (by omega)) (sk (wn 4 3 (by omega) (by omega) (by omega)) ⟨C.1, a h z F K C hk⟩))), fun h M K g5 g6 R P hk => skn (wc_ne 4 (by omega) 0 (by omega) (by omega)) (skn (wc_ne 4 (by omega) 1 (by omega) (by omega)) (skn (wc_ne 4 (by omega) 2 (by omega) (by omega)) (skn (wc_ne 4 (by omega) 3 (by omega) (by omega)) ⟨R.1, b h M K R P hk⟩)))⟩
