/-! a run, the reference -/
def TY (e : Nat → Value) : Prop := (∃ a : Int32, e 11 = .int a) ∧ (∃ a : Int32, e 12 = .int a) ∧ (∃ a : Int32, e 13 = .int a) ∧ (∃ a : Int32, e 14 = .int a) ∧ (∃ a : Int64, e 15 = .long a) ∧ ∃ a : Int64, e 16 = .long a
def rrD (X : Nat → Nat) (tn : Nat) (V : Nat → Nat) (s c : Nat) (V' : Nat → Nat) (c' : Nat) : Prop := ∀ (h : Hp) (M n : Nat) (W P : Nat → Nat) (e : Nat → Value) (K : Int32 → Hp → Prop), RR h M V W P n X tn e → TY e → e 11 = .int (nI s) → (∀ h' e', (∀ q, q ≠ M → q ≠ M + 1 → q ≠ M + 4 → h' q = h q) → RR h' M V' W P n X tn e' → TY e' → (∀ j, 7 ≤ j → j < 11 → e' j = e j) → (∃ h98, pF h' M 9 6 (.int (nI 0)) = some h98 ∧ (isO h98 M 9 ∧ wp_X9_acted M (nI c') (fun r103 h103 => (K r103 h103)) h98))) → ∀ m, tn < s + m → wp_X9_run_15 K M m (nI c) h
def rrF (X : Nat → Nat) (tn : Nat) (V : Nat → Nat) (s c : Nat) (k1 k2 k3 k4 : Int32) : Prop := ∀ (h : Hp) (M n : Nat) (W P : Nat → Nat) (e : Nat → Value) (K : Int32 → Hp → Prop), RR h M V W P n X tn e → TY e → e 11 = .int (nI s) → (∀ h' e', (∀ q, q ≠ M → q ≠ M + 1 → q ≠ M + 4 → h' q = h q) → RR h' M W W P n X tn e' → TY e' → (∀ k, k < 4 → e' (7 + k) = .int (fl4 k1 k2 k3 k4 k)) → K ((-1000 : Int32) - k2) h') → ∀ m, tn < s + m → wp_X9_run_15 K M m (nI c) h
section RR3
variable {tn : Nat} {X : Nat → Nat} {V : Nat → Nat}
theorem rr_end {c s : Nat} (ht : tn ≤ 140) (hs : s = tn) : rrD X tn V s c V c := by
  intro h M n W P e K R ty ea hk m hm
  obtain ⟨m, rfl⟩ : ∃ m', m = m' + 1 := ⟨m - 1, by omega⟩
  exact ⟨_, R.fg (by omega) (by omega) ea, _, R.2.2.2.2.2.1, b_le (by omega) (by omega) (fun _ => hk h e (fun _ _ _ _ => rfl) R ty (fun _ _ _ => rfl)) (fun q => by omega)⟩
theorem rr_noword {a c s k b : Nat} (ht : tn ≤ 140) (hX : ∀ i, i < tn → 1 ≤ X i ∧ X i ≤ 255) (Q : TK X tn a s k b) (h0 : 0 < k) (hw : wd X k s b = none) : rrF X tn V s c (nI 1) (nI s) (nI c) (-9) := by
  intro h M n W P e K R ty ea hk m hm
  have sl := Q.lt h0
  obtain ⟨m, rfl⟩ : ∃ m', m = m' + 1 := ⟨m - 1, by have := Q.sb; omega⟩
  have Q2 : TK X tn s s k b := ⟨Q.1.self, Q.2⟩
  refine ⟨_, R.fg (by omega) (by omega) ea, _, R.2.2.2.2.2.1, b_le (by omega) (by omega) (fun q => by omega) (fun _ => ⟨R.1.1, e_rcN R ht hX Q2 ea hw (fun v h1 e1 fr1 R1 x12 x13 x14 xo x11 x15 x16 => ?_)⟩)⟩
  refine ⟨_, R1.fg (by omega) (by omega) x13, sk (by decide) ⟨_, R1.fg (by omega) (by omega) x12, R1.1.1, e_fails R1 _ _ _ _ (fun h2 e2 fr2 R2 y1 y2 => hk h2 e2 (fun q q1 q2 q3 => (fr2 q q1 q2).trans (fr1 q q1)) R2 ⟨?_, ?_, ?_, ?_, ?_, ?_⟩ y1)⟩⟩
  · rw [y2 11 (by omega)]; exact x11
  · rw [y2 12 (by omega)]; exact ⟨_, x12⟩
  · rw [y2 13 (by omega)]; exact ⟨_, x13⟩
  · rw [y2 14 (by omega)]; exact ⟨_, x14⟩
  · rw [y2 15 (by omega)]; exact x15
  · rw [y2 16 (by omega)]; exact x16
theorem rr_wrong {a c s k b w f : Nat} (ht : tn ≤ 140) (hX : ∀ i, i < tn → 1 ≤ X i ∧ X i ≤ 255) (Q : TK X tn a s k b) (hw : wd X k s b = some w) (hf : rfF X tn w b f) : rrF X tn V s c (nI 1) (nI f) (nI c) (-9) := by
  intro h M n W P e K R ty ea hk m hm
  obtain ⟨w5, k1, -⟩ := wd_some hw
  have sl := Q.lt (by omega)
  obtain ⟨m, rfl⟩ : ∃ m', m = m' + 1 := ⟨m - 1, by have := Q.sb; omega⟩
  have Q2 : TK X tn s s k b := ⟨Q.1.self, Q.2⟩
  refine ⟨_, R.fg (by omega) (by omega) ea, _, R.2.2.2.2.2.1, b_le (by omega) (by omega) (fun q => by omega) (fun _ => ⟨R.1.1, e_rcW R ht hX Q2 ea hw (fun h0 e0 fr0 R0 z11 z13 z14 zo => hf h0 M n V W P e0 _ R0 z11 z13 (fun h1 e1 fr1 R1 x12 x13 x14 xo x11 x15 x16 => ?_))⟩)⟩
  refine ⟨_, R1.fg (by omega) (by omega) x13, sk (by decide) ⟨_, R1.fg (by omega) (by omega) x12, R1.1.1, e_fails R1 _ _ _ _ (fun h2 e2 fr2 R2 y1 y2 => hk h2 e2 (fun q q1 q2 q3 => (fr2 q q1 q2).trans ((fr1 q q1).trans (fr0 q q1))) R2 ⟨?_, ?_, ?_, ?_, ?_, ?_⟩ y1)⟩⟩
  · rw [y2 11 (by omega)]; exact x11
  · rw [y2 12 (by omega)]; exact ⟨_, x12⟩
  · rw [y2 13 (by omega)]; exact ⟨_, x13⟩
  · rw [y2 14 (by omega), x14]; exact ⟨_, z14⟩
  · rw [y2 15 (by omega)]; exact x15
  · rw [y2 16 (by omega)]; exact x16
theorem rr_go {a c s k b w v1 v2 p s' k' b' : Nat} {r : Int32} {V' : Nat → Nat} (ht : tn ≤ 140) (hX : ∀ i, i < tn → 1 ≤ X i ∧ X i ≤ 255) (Q : TK X tn a s k b) (hw : wd X k s b = some w) (hf : rfO X tn w b v1 v2 p) (Qp : TK X tn p s' k' b')
    (ac : ∀ (h : Hp) (M : Nat) (K : Int32 → Hp → Prop), gF h M 9 15 = some (.long (lN (if w = 4 then 0 else v1))) → gF h M 9 16 = some (.long (lN (if w = 4 ∨ w = 1 then 0 else v2))) → RM h M V → PL h M → (∀ h', (∀ q, q ≠ M + 1 → q ≠ M + 4 → h' q = h q) → RM h' M V' → PL h' M → K r h') → wp_X9_does M (lN (wcode w)) K h)
    (h : Hp) (M n : Nat) (W P : Nat → Nat) (e : Nat → Value) (K : Int32 → Hp → Prop) (R : RR h M V W P n X tn e) (ea : e 11 = .int (nI s)) (m : Nat)
    (hk0 : (-3 ≤ r.toInt ∧ r.toInt < 0) → ∀ h' e', (∀ q, q ≠ M → q ≠ M + 1 → q ≠ M + 4 → h' q = h q) → RR h' M V' W P n X tn e' → TY e' → wp_X9_fails M (nI 2) (nI s) (nI c) r K h')
    (hk1 : 0 ≤ r.toInt → ∀ h' e', (∀ q, q ≠ M → q ≠ M + 1 → q ≠ M + 4 → h' q = h q) → RR h' M V' W P n X tn e' → TY e' → (∀ j, 7 ≤ j → j < 11 → e' j = e j) → e' 11 = .int (nI s') → wp_X9_run_15 K M m (nI (c + 1)) h')
    (hr : -3 ≤ r.toInt) : wp_X9_run_15 K M (m + 1) (nI c) h := by
  obtain ⟨w5, k1, -⟩ := wd_some hw
  have sl := Q.lt (by omega)
  have Q2 : TK X tn s s k b := ⟨Q.1.self, Q.2⟩
  refine ⟨_, R.fg (by omega) (by omega) ea, _, R.2.2.2.2.2.1, b_le (by omega) (by omega) (fun q => by omega) (fun _ => ⟨R.1.1, e_rcW R ht hX Q2 ea hw (fun h0 e0 fr0 R0 z11 z13 z14 zo => hf h0 M n V W P e0 _ R0 z11 z13 (fun h1 e1 fr1 R1 x11 x12 x13 x14 xo x15 x16 => ?_))⟩)⟩
  refine ⟨_, R1.fg (by omega) (by omega) x13, tk rfl ⟨R1.1.1, ac h1 M _ (R1.fg (by omega) (by omega) x15) (R1.fg (by omega) (by omega) x16) R1.1 R1.2.2.2.1 (fun h2 fr2 V2 P2 => ?_)⟩⟩
  have R2 : RR h2 M V' W P n X tn e1 := ⟨V2, R1.2.1.fr (fun q hq => fr2 q (by omega) (by omega)), R1.2.2.1.fr (fun q hq => fr2 q (by omega) (by omega)), P2, R1.2.2.2.2.fr (fun q hq => fr2 q (by omega) (by omega))⟩
  have fr : ∀ q, q ≠ M → q ≠ M + 1 → q ≠ M + 4 → h2 q = h q := fun q q1 q2 q3 => (fr2 q q2 q3).trans ((fr1 q q1).trans (fr0 q q1))
  have ty : TY e1 := ⟨⟨_, x11⟩, x12, ⟨_, x13⟩, ⟨_, x14.trans z14⟩, ⟨_, x15⟩, ⟨_, x16⟩⟩
  have g1 : (-3 : Int64).toInt = -3 := by decide
  have g2 : (-1 : Int64).toInt = -1 := by decide
  by_cases q : r.toInt < 0
  · refine e_in (b1 (by rw [le64, le64, toI64, g1, g2]; omega) ⟨_, R2.fg (by omega) (by omega) (x14.trans z14), R2.1.1, hk0 ⟨hr, q⟩ h2 e1 fr R2 ty⟩)
  · refine e_in (b0 (by rw [le64, le64, toI64, g1, g2]; omega) (fun y ey => ⟨R2.1.1, e_begins R2 ht hX Qp.1 x11 (fun h3 e3 fr3 R3 u11 u12 uo => ?_)⟩))
    subst ey
    rw [nI_add]
    refine hk1 (by omega) h3 e3 (fun q q1 q2 q3 => (fr3 q q1).trans (fr q q1 q2 q3)) R3 ⟨⟨_, u11⟩, ⟨_, u12⟩, ?_, ?_, ?_, ?_⟩ (fun j j1 j2 => (uo j (by omega) (by omega)).trans ((xo j j1 j2).trans (zo j j1 j2))) u11
    · rw [uo 13 (by omega) (by omega)]; exact ty.2.2.1
    · rw [uo 14 (by omega) (by omega)]; exact ty.2.2.2.1
    · rw [uo 15 (by omega) (by omega)]; exact ty.2.2.2.2.1
    · rw [uo 16 (by omega) (by omega)]; exact ty.2.2.2.2.2
end RR3
