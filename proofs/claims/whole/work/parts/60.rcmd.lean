/-! the reference reads a command -/
theorem wval_lt {X : Nat → Nat} {s : Nat} : ∀ {m : Nat}, (∀ i, i < m → X (s + i) ≤ 122) → wval X s m < 32 ^ m
  | 0, _ => Nat.one_pos
  | m + 1, hd => by
    have h1 := wval_lt (s := s) (m := m) (fun i hi => hd i (by omega))
    have h2 := hd m (by omega)
    unfold wval
    rw [Nat.pow_succ]
    omega
theorem wv_lt {X : Nat → Nat} {tn s b : Nat} (R : RU X tn 1 s b) : wv X s b < 2 ^ 36 := by
  unfold wv
  split
  · have h1 := wval_lt (X := X) (s := s) (m := b - s) (fun i hi => (kd_1.mp (R.2.2.1 (s + i) (by omega) (by omega))).2)
    have h2 : 32 ^ (b - s) ≤ 32 ^ 7 := Nat.pow_le_pow_right (show 0 < 32 by omega) (by omega)
    omega
  · omega
theorem wcode_lt : ∀ w, w < 5 → wcode w < 2 ^ 36 := by decide +kernel
section RC
variable {h : Hp} {M n tn : Nat} {V W P X : Nat → Nat} {e : Nat → Value}
theorem e_rcW {K : Int64 → Hp → Prop} {a s k b w : Nat} (R : RR h M V W P n X tn e) (ht : tn ≤ 140) (hX : ∀ i, i < tn → 1 ≤ X i ∧ X i ≤ 255) (Q : TK X tn a s k b) (ea : e 11 = .int (nI a)) (hw : wd X k s b = some w) (hk : ∀ h' e', (∀ q, q ≠ M → h' q = h q) → RR h' M V W P n X tn e' → e' 11 = .int (nI b) → e' 13 = .int (nI 0) → e' 14 = .int (nI s) → (∀ j, 7 ≤ j → j < 11 → e' j = e j) → rdR M w K h') : wp_X9_readsCommand M K h := by
  obtain ⟨w5, k1, -⟩ := wd_some hw
  have ev := (wd_wv Q w5).mpr hw
  have U := Q.ru (c := 1) (Or.inl rfl)
  refine ⟨R.1.1, e_wordNext R ht hX Q.1 U ea (fun h1 e1 fr1 R1 x11 x12 xo => ?_)⟩
  rw [ev]
  rw [if_pos k1] at x11
  obtain ⟨h2, p2, o2, R2⟩ := R1.fset (k := 14) (by omega) (by omega) (.int (nI s))
  obtain ⟨h3, p3, o3, R3⟩ := R2.fset (k := 13) (by omega) (by omega) (.int (nI 0))
  have fin : rdR M w K h3 := hk h3 _ (fun q hq => (o3 q hq).trans ((o2 q hq).trans (fr1 q hq))) R3 ((ue_n (by omega)).trans ((ue_n (by omega)).trans x11)) (ue_s _ _ _) ((ue_n (by omega)).trans (ue_s _ _ _)) (fun j j1 j2 => (ue_n (by omega)).trans ((ue_n (by omega)).trans (xo j (by omega) (by omega))))
  refine ⟨_, R1.fg (by omega) (by omega) x12, h2, p2, ?_⟩
  rcases (show w = 0 ∨ w = 1 ∨ w = 2 ∨ w = 3 ∨ w = 4 by omega) with rfl | rfl | rfl | rfl | rfl
  · exact tk rfl ⟨h3, p3, fin⟩
  · exact sk (wc_ne 1 (by omega) 0 (by omega) (by omega)) (tk rfl ⟨h3, p3, fin⟩)
  · exact sk (wc_ne 2 (by omega) 0 (by omega) (by omega)) (sk (wc_ne 2 (by omega) 1 (by omega) (by omega)) (tk rfl ⟨h3, p3, fin⟩))
  · exact sk (wc_ne 3 (by omega) 0 (by omega) (by omega)) (sk (wc_ne 3 (by omega) 1 (by omega) (by omega)) (sk (wc_ne 3 (by omega) 2 (by omega) (by omega)) (tk rfl ⟨h3, p3, fin⟩)))
  · exact sk (wc_ne 4 (by omega) 0 (by omega) (by omega)) (sk (wc_ne 4 (by omega) 1 (by omega) (by omega)) (sk (wc_ne 4 (by omega) 2 (by omega) (by omega)) (sk (wc_ne 4 (by omega) 3 (by omega) (by omega)) (tk rfl ⟨h3, p3, fin⟩))))
theorem e_rcN {K : Int64 → Hp → Prop} {a s k b : Nat} (R : RR h M V W P n X tn e) (ht : tn ≤ 140) (hX : ∀ i, i < tn → 1 ≤ X i ∧ X i ≤ 255) (Q : TK X tn a s k b) (ea : e 11 = .int (nI a)) (hw : wd X k s b = none) (hk : ∀ (v : Int64) h' e', (∀ q, q ≠ M → h' q = h q) → RR h' M V W P n X tn e' → e' 12 = .int (nI s) → e' 13 = .int (nI 1) → e' 14 = .int (nI s) → (∀ j, 7 ≤ j → j < 11 → e' j = e j) → (∃ a : Int32, e' 11 = .int a) → (∃ a : Int64, e' 15 = .long a) → (∃ a : Int64, e' 16 = .long a) → K v h') : wp_X9_readsCommand M K h := by
  have U := Q.ru (c := 1) (Or.inl rfl)
  have vl := wv_lt U
  have ne : ∀ w, w < 5 → ¬ lN (wv X s (if k = 1 then b else s)) = lN (wcode w) := fun w w5 q => by
    have := wcode_lt w w5
    have := (wd_wv Q w5).mp ((pk_lEQ (by omega) (by omega)).mp q)
    rw [hw] at this
    cases this
  refine ⟨R.1.1, e_wordNext R ht hX Q.1 U ea (fun h1 e1 fr1 R1 x11 x12 xo => ?_)⟩
  generalize lN (wv X s (if k = 1 then b else s)) = r1 at ne ⊢
  have n0 : ¬ r1 = lN 625710 := ne 0 (by omega)
  have n1 : ¬ r1 = lN 3544110 := ne 1 (by omega)
  have n2 : ¬ r1 = lN 149559 := ne 2 (by omega)
  have n3 : ¬ r1 = lN 409067 := ne 3 (by omega)
  have n4 : ¬ r1 = lN 17887012456 := ne 4 (by omega)
  obtain ⟨h2, p2, o2, R2⟩ := R1.fset (k := 14) (by omega) (by omega) (.int (nI s))
  obtain ⟨h3, p3, o3, R3⟩ := R2.fset (k := 13) (by omega) (by omega) (.int (nI 1))
  obtain ⟨h4, p4, o4, R4⟩ := R3.fset (k := 15) (by omega) (by omega) (.long (lN 0))
  have y13 : ue (ue (ue e1 14 (.int (nI s))) 13 (.int (nI 1))) 15 (.long (lN 0)) 13 = .int (nI 1) := (ue_n (by omega)).trans (ue_s _ _ _)
  exact ⟨_, R1.fg (by omega) (by omega) x12, h2, p2, sk n0 (sk n1 (sk n2 (sk n3 (sk n4 ⟨h3, p3, skn n4 ⟨R3.1.1, e_numW R3 (ue_s _ _ _) ⟨h4, p4, sk n4 (skn n1 (sk n2 ⟨R4.1.1, e_numW R4 y13 (e_semW R4 y13 (fun h5 e5 fr5 R5 z16 zo => hk r1 h5 e5 (fun q hq => (fr5 q hq).trans ((o4 q hq).trans ((o3 q hq).trans ((o2 q hq).trans (fr1 q hq))))) R5 ((zo 12 (by omega)).trans ((ue_n (by omega)).trans ((ue_n (by omega)).trans ((ue_n (by omega)).trans x12)))) ((zo 13 (by omega)).trans y13) ((zo 14 (by omega)).trans ((ue_n (by omega)).trans ((ue_n (by omega)).trans (ue_s _ _ _)))) (fun j j1 j2 => (zo j (by omega)).trans ((ue_n (by omega)).trans ((ue_n (by omega)).trans ((ue_n (by omega)).trans (xo j (by omega) (by omega)))))) ⟨_, (zo 11 (by omega)).trans ((ue_n (by omega)).trans ((ue_n (by omega)).trans ((ue_n (by omega)).trans x11)))⟩ ⟨_, (zo 15 (by omega)).trans (ue_s _ _ _)⟩ ⟨_, z16⟩))⟩))⟩⟩⟩))))⟩
end RC
