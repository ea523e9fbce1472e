/-! writes of one number, on both sides -/
def u1 (V : Nat → Nat) (i x : Nat) : Nat → Nat := fun j => if j = i then x else V j
theorem u1_s (V : Nat → Nat) (i x : Nat) : u1 V i x i = x := if_pos rfl
theorem u1_n {V : Nat → Nat} {i j x : Nat} (h : j ≠ i) : u1 V i x j = V j := if_neg h
theorem RM.put {h : Hp} {M : Nat} {V : Nat → Nat} (R : RM h M V) {i : Nat} (hi : i < 1367) (x : Nat) : ∃ h', sL h (M + 1) (nI i) (lN x) = some h' ∧ (∀ q, q ≠ M + 1 → h' q = h q) ∧ RM h' M (u1 V i x) := by
  obtain ⟨h', e, oo, g⟩ := sL_w (by omega) (R.2.2 i hi) (lN x)
  refine ⟨h', e, oo, isO_c (oo _ (by omega)) R.1, ?_, fun j hj => ?_⟩
  · rw [gF_c (oo _ (by omega))]; exact R.2.1
  · rw [g j (by omega)]
    by_cases z : j = i
    · subst z; rw [if_pos rfl, u1_s]
    · rw [if_neg z, u1_n z]; exact R.2.2 j hj
theorem RM.ext {h : Hp} {M : Nat} {V V' : Nat → Nat} (R : RM h M V) (e : ∀ i, i < 1367 → V' i = V i) : RM h M V' := ⟨R.1, R.2.1, fun i hi => by rw [e i hi]; exact R.2.2 i hi⟩
theorem PL.fr {h h' : Hp} {M : Nat} (P : PL h M) (e : ∀ q, (q = M ∨ q = M + 4) → h' q = h q) : PL h' M := by
  refine ⟨?_, fun j hj => ?_⟩
  · rw [gF_c (e _ (Or.inl rfl))]; exact P.1
  · rw [gI_c (e _ (Or.inr rfl))]; exact P.2 j hj
theorem of_toL {x : Int64} (h : 0 ≤ x.toInt) : ∃ j : Nat, j < 2 ^ 63 ∧ x = lN j ∧ x.toInt = (j : Int) := by
  obtain ⟨j, hj⟩ := Int.eq_ofNat_of_zero_le h
  have hlt : x.toInt < 2 ^ 63 := Int64.toInt_lt x
  refine ⟨j, by omega, Int64.toInt_inj.mp ?_, hj⟩
  rw [hj, lNT (by omega)]
theorem c_isRow {K : Int32 → Hp → Prop} {h : Hp} {x : Int64} (hk : K (bI (0 ≤ x.toInt ∧ x.toInt ≤ 999999999999)) h) : wp_X8_isRow x K h := by
  have e1 : (lN 0).toInt = 0 := by decide
  have e2 : (lN 999999999999).toInt = 999999999999 := by decide
  refine ⟨fun q => ?_, fun q => ⟨fun z => ?_, fun z => ?_⟩⟩
  · rw [lt64, e1] at q
    rw [bI_f (by omega)] at hk
    exact hk
  · rw [lt64, e2] at z
    rw [bI_f (by omega)] at hk
    exact hk
  · rw [lt64, e1] at q
    rw [lt64, e2] at z
    rw [bI_t (by omega)] at hk
    exact hk
theorem back_i {n : Nat} (hn : n < 2 ^ 31) : Int64.toInt32 (Int32.toInt64 (nI n)) = nI n := by rw [nI_l hn, lN_i]
section PUT
variable {h : Hp} {b : Nat} {T : Nat → Nat}
theorem BK.put_m (B : BK h b T) {i : Nat} (hi : i < 40) (x : Nat) : ∃ h', sI h (b + 1) (nI i) (nI x) = some h' ∧ (∀ q, q ≠ b + 1 → h' q = h q) ∧ BK h' b (u1 T (9 + 5 * i) x) := by
  obtain ⟨h', e, oo, g, -⟩ := sI_w (by omega) (B.m hi) (nI x)
  obtain ⟨b0, b1, b2, b3, b4, b5, b6, b7, b8, b9, b10, b11, b12⟩ := B
  refine ⟨h', e, oo, isO_c (oo _ (by omega)) b0, ?_, ?_, fun k hk => ?_, fun j hj => ?_, fun j hj => ?_, fun j hj => ?_, fun j hj => ?_, fun j hj => ?_, fun j hj => ?_, fun j hj => ?_, fun j hj => ?_, fun v hv j hj => ?_⟩
  · rw [gF_c (oo _ (by omega)), u1_n (by omega)]; exact b1
  · rw [gF_c (oo _ (by omega)), u1_n (by omega)]; exact b2
  · rw [gF_c (oo _ (by omega))]; exact b3 k hk
  · rw [g j (by omega)]
    by_cases z : j = i
    · subst z; rw [if_pos rfl, u1_s]
    · rw [if_neg z, u1_n (by omega)]; exact b4 j hj
  · rw [gI_c (oo _ (by omega)), u1_n (by omega)]; exact b5 j hj
  · rw [gI_c (oo _ (by omega)), u1_n (by omega)]; exact b6 j hj
  · rw [gL_c (oo _ (by omega)), u1_n (by omega)]; exact b7 j hj
  · rw [gL_c (oo _ (by omega)), u1_n (by omega)]; exact b8 j hj
  · rw [gI_c (oo _ (by omega)), u1_n (by omega)]; exact b9 j hj
  · rw [gI_c (oo _ (by omega)), u1_n (by omega)]; exact b10 j hj
  · rw [gI_c (oo _ (by omega)), u1_n (by omega)]; exact b11 j hj
  · rw [gI_c (oo _ (by omega)), u1_n (by omega)]; exact b12 v hv j hj
theorem BK.put_c (B : BK h b T) {i : Nat} (hi : i < 40) (x : Nat) : ∃ h', sI h (b + 2) (nI i) (nI x) = some h' ∧ (∀ q, q ≠ b + 2 → h' q = h q) ∧ BK h' b (u1 T (9 + 5 * i + 2) x) := by
  obtain ⟨h', e, oo, g, -⟩ := sI_w (by omega) (B.c hi) (nI x)
  obtain ⟨b0, b1, b2, b3, b4, b5, b6, b7, b8, b9, b10, b11, b12⟩ := B
  refine ⟨h', e, oo, isO_c (oo _ (by omega)) b0, ?_, ?_, fun k hk => ?_, fun j hj => ?_, fun j hj => ?_, fun j hj => ?_, fun j hj => ?_, fun j hj => ?_, fun j hj => ?_, fun j hj => ?_, fun j hj => ?_, fun v hv j hj => ?_⟩
  · rw [gF_c (oo _ (by omega)), u1_n (by omega)]; exact b1
  · rw [gF_c (oo _ (by omega)), u1_n (by omega)]; exact b2
  · rw [gF_c (oo _ (by omega))]; exact b3 k hk
  · rw [gI_c (oo _ (by omega)), u1_n (by omega)]; exact b4 j hj
  · rw [g j (by omega)]
    by_cases z : j = i
    · subst z; rw [if_pos rfl, u1_s]
    · rw [if_neg z, u1_n (by omega)]; exact b5 j hj
  · rw [gI_c (oo _ (by omega)), u1_n (by omega)]; exact b6 j hj
  · rw [gL_c (oo _ (by omega)), u1_n (by omega)]; exact b7 j hj
  · rw [gL_c (oo _ (by omega)), u1_n (by omega)]; exact b8 j hj
  · rw [gI_c (oo _ (by omega)), u1_n (by omega)]; exact b9 j hj
  · rw [gI_c (oo _ (by omega)), u1_n (by omega)]; exact b10 j hj
  · rw [gI_c (oo _ (by omega)), u1_n (by omega)]; exact b11 j hj
  · rw [gI_c (oo _ (by omega)), u1_n (by omega)]; exact b12 v hv j hj
theorem BK.put_s (B : BK h b T) {i : Nat} (hi : i < 40) (x : Nat) : ∃ h', sI h (b + 3) (nI i) (nI x) = some h' ∧ (∀ q, q ≠ b + 3 → h' q = h q) ∧ BK h' b (u1 T (9 + 5 * i + 3) x) := by
  obtain ⟨h', e, oo, g, -⟩ := sI_w (by omega) (B.s hi) (nI x)
  obtain ⟨b0, b1, b2, b3, b4, b5, b6, b7, b8, b9, b10, b11, b12⟩ := B
  refine ⟨h', e, oo, isO_c (oo _ (by omega)) b0, ?_, ?_, fun k hk => ?_, fun j hj => ?_, fun j hj => ?_, fun j hj => ?_, fun j hj => ?_, fun j hj => ?_, fun j hj => ?_, fun j hj => ?_, fun j hj => ?_, fun v hv j hj => ?_⟩
  · rw [gF_c (oo _ (by omega)), u1_n (by omega)]; exact b1
  · rw [gF_c (oo _ (by omega)), u1_n (by omega)]; exact b2
  · rw [gF_c (oo _ (by omega))]; exact b3 k hk
  · rw [gI_c (oo _ (by omega)), u1_n (by omega)]; exact b4 j hj
  · rw [gI_c (oo _ (by omega)), u1_n (by omega)]; exact b5 j hj
  · rw [g j (by omega)]
    by_cases z : j = i
    · subst z; rw [if_pos rfl, u1_s]
    · rw [if_neg z, u1_n (by omega)]; exact b6 j hj
  · rw [gL_c (oo _ (by omega)), u1_n (by omega)]; exact b7 j hj
  · rw [gL_c (oo _ (by omega)), u1_n (by omega)]; exact b8 j hj
  · rw [gI_c (oo _ (by omega)), u1_n (by omega)]; exact b9 j hj
  · rw [gI_c (oo _ (by omega)), u1_n (by omega)]; exact b10 j hj
  · rw [gI_c (oo _ (by omega)), u1_n (by omega)]; exact b11 j hj
  · rw [gI_c (oo _ (by omega)), u1_n (by omega)]; exact b12 v hv j hj
theorem BK.put_r (B : BK h b T) {i : Nat} (hi : i < 40) (x : Nat) : ∃ h', sL h (b + 4) (nI i) (lN x) = some h' ∧ (∀ q, q ≠ b + 4 → h' q = h q) ∧ BK h' b (u1 T (9 + 5 * i + 1) x) := by
  obtain ⟨h', e, oo, g⟩ := sL_w (by omega) (B.r hi) (lN x)
  obtain ⟨b0, b1, b2, b3, b4, b5, b6, b7, b8, b9, b10, b11, b12⟩ := B
  refine ⟨h', e, oo, isO_c (oo _ (by omega)) b0, ?_, ?_, fun k hk => ?_, fun j hj => ?_, fun j hj => ?_, fun j hj => ?_, fun j hj => ?_, fun j hj => ?_, fun j hj => ?_, fun j hj => ?_, fun j hj => ?_, fun v hv j hj => ?_⟩
  · rw [gF_c (oo _ (by omega)), u1_n (by omega)]; exact b1
  · rw [gF_c (oo _ (by omega)), u1_n (by omega)]; exact b2
  · rw [gF_c (oo _ (by omega))]; exact b3 k hk
  · rw [gI_c (oo _ (by omega)), u1_n (by omega)]; exact b4 j hj
  · rw [gI_c (oo _ (by omega)), u1_n (by omega)]; exact b5 j hj
  · rw [gI_c (oo _ (by omega)), u1_n (by omega)]; exact b6 j hj
  · rw [g j (by omega)]
    by_cases z : j = i
    · subst z; rw [if_pos rfl, u1_s]
    · rw [if_neg z, u1_n (by omega)]; exact b7 j hj
  · rw [gL_c (oo _ (by omega)), u1_n (by omega)]; exact b8 j hj
  · rw [gI_c (oo _ (by omega)), u1_n (by omega)]; exact b9 j hj
  · rw [gI_c (oo _ (by omega)), u1_n (by omega)]; exact b10 j hj
  · rw [gI_c (oo _ (by omega)), u1_n (by omega)]; exact b11 j hj
  · rw [gI_c (oo _ (by omega)), u1_n (by omega)]; exact b12 v hv j hj
theorem BK.put_t (B : BK h b T) {i : Nat} (hi : i < 40) (x : Nat) : ∃ h', sL h (b + 5) (nI i) (lN x) = some h' ∧ (∀ q, q ≠ b + 5 → h' q = h q) ∧ BK h' b (u1 T (9 + 5 * i + 4) x) := by
  obtain ⟨h', e, oo, g⟩ := sL_w (by omega) (B.t hi) (lN x)
  obtain ⟨b0, b1, b2, b3, b4, b5, b6, b7, b8, b9, b10, b11, b12⟩ := B
  refine ⟨h', e, oo, isO_c (oo _ (by omega)) b0, ?_, ?_, fun k hk => ?_, fun j hj => ?_, fun j hj => ?_, fun j hj => ?_, fun j hj => ?_, fun j hj => ?_, fun j hj => ?_, fun j hj => ?_, fun j hj => ?_, fun v hv j hj => ?_⟩
  · rw [gF_c (oo _ (by omega)), u1_n (by omega)]; exact b1
  · rw [gF_c (oo _ (by omega)), u1_n (by omega)]; exact b2
  · rw [gF_c (oo _ (by omega))]; exact b3 k hk
  · rw [gI_c (oo _ (by omega)), u1_n (by omega)]; exact b4 j hj
  · rw [gI_c (oo _ (by omega)), u1_n (by omega)]; exact b5 j hj
  · rw [gI_c (oo _ (by omega)), u1_n (by omega)]; exact b6 j hj
  · rw [gL_c (oo _ (by omega)), u1_n (by omega)]; exact b7 j hj
  · rw [g j (by omega)]
    by_cases z : j = i
    · subst z; rw [if_pos rfl, u1_s]
    · rw [if_neg z, u1_n (by omega)]; exact b8 j hj
  · rw [gI_c (oo _ (by omega)), u1_n (by omega)]; exact b9 j hj
  · rw [gI_c (oo _ (by omega)), u1_n (by omega)]; exact b10 j hj
  · rw [gI_c (oo _ (by omega)), u1_n (by omega)]; exact b11 j hj
  · rw [gI_c (oo _ (by omega)), u1_n (by omega)]; exact b12 v hv j hj
theorem BK.put_cl (B : BK h b T) {i : Nat} (hi : i < 3) (x : Nat) : ∃ h', sI h (b + 6) (nI i) (nI x) = some h' ∧ (∀ q, q ≠ b + 6 → h' q = h q) ∧ BK h' b (u1 T (6 + i) x) := by
  obtain ⟨h', e, oo, g, -⟩ := sI_w (by omega) (B.cl hi) (nI x)
  obtain ⟨b0, b1, b2, b3, b4, b5, b6, b7, b8, b9, b10, b11, b12⟩ := B
  refine ⟨h', e, oo, isO_c (oo _ (by omega)) b0, ?_, ?_, fun k hk => ?_, fun j hj => ?_, fun j hj => ?_, fun j hj => ?_, fun j hj => ?_, fun j hj => ?_, fun j hj => ?_, fun j hj => ?_, fun j hj => ?_, fun v hv j hj => ?_⟩
  · rw [gF_c (oo _ (by omega)), u1_n (by omega)]; exact b1
  · rw [gF_c (oo _ (by omega)), u1_n (by omega)]; exact b2
  · rw [gF_c (oo _ (by omega))]; exact b3 k hk
  · rw [gI_c (oo _ (by omega)), u1_n (by omega)]; exact b4 j hj
  · rw [gI_c (oo _ (by omega)), u1_n (by omega)]; exact b5 j hj
  · rw [gI_c (oo _ (by omega)), u1_n (by omega)]; exact b6 j hj
  · rw [gL_c (oo _ (by omega)), u1_n (by omega)]; exact b7 j hj
  · rw [gL_c (oo _ (by omega)), u1_n (by omega)]; exact b8 j hj
  · rw [g j (by omega)]
    by_cases z : j = i
    · subst z; rw [if_pos rfl, u1_s]
    · rw [if_neg z, u1_n (by omega)]; exact b9 j hj
  · rw [gI_c (oo _ (by omega)), u1_n (by omega)]; exact b10 j hj
  · rw [gI_c (oo _ (by omega)), u1_n (by omega)]; exact b11 j hj
  · rw [gI_c (oo _ (by omega)), u1_n (by omega)]; exact b12 v hv j hj
theorem BK.put_n (B : BK h b T) {i : Nat} (hi : i < 4) (x : Nat) : ∃ h', sI h (b + 7) (nI i) (nI x) = some h' ∧ (∀ q, q ≠ b + 7 → h' q = h q) ∧ BK h' b (u1 T (2 + i) x) := by
  obtain ⟨h', e, oo, g, -⟩ := sI_w (by omega) (B.n hi) (nI x)
  obtain ⟨b0, b1, b2, b3, b4, b5, b6, b7, b8, b9, b10, b11, b12⟩ := B
  refine ⟨h', e, oo, isO_c (oo _ (by omega)) b0, ?_, ?_, fun k hk => ?_, fun j hj => ?_, fun j hj => ?_, fun j hj => ?_, fun j hj => ?_, fun j hj => ?_, fun j hj => ?_, fun j hj => ?_, fun j hj => ?_, fun v hv j hj => ?_⟩
  · rw [gF_c (oo _ (by omega)), u1_n (by omega)]; exact b1
  · rw [gF_c (oo _ (by omega)), u1_n (by omega)]; exact b2
  · rw [gF_c (oo _ (by omega))]; exact b3 k hk
  · rw [gI_c (oo _ (by omega)), u1_n (by omega)]; exact b4 j hj
  · rw [gI_c (oo _ (by omega)), u1_n (by omega)]; exact b5 j hj
  · rw [gI_c (oo _ (by omega)), u1_n (by omega)]; exact b6 j hj
  · rw [gL_c (oo _ (by omega)), u1_n (by omega)]; exact b7 j hj
  · rw [gL_c (oo _ (by omega)), u1_n (by omega)]; exact b8 j hj
  · rw [gI_c (oo _ (by omega)), u1_n (by omega)]; exact b9 j hj
  · rw [g j (by omega)]
    by_cases z : j = i
    · subst z; rw [if_pos rfl, u1_s]
    · rw [if_neg z, u1_n (by omega)]; exact b10 j hj
  · rw [gI_c (oo _ (by omega)), u1_n (by omega)]; exact b11 j hj
  · rw [gI_c (oo _ (by omega)), u1_n (by omega)]; exact b12 v hv j hj
theorem BK.put_v (B : BK h b T) {i : Nat} (hi : i < 6) (x : Nat) : ∃ h', sI h (b + 8) (nI i) (nI x) = some h' ∧ (∀ q, q ≠ b + 8 → h' q = h q) ∧ BK h' b (u1 T (209 + 41 * i) x) := by
  obtain ⟨h', e, oo, g, -⟩ := sI_w (by omega) (B.v hi) (nI x)
  obtain ⟨b0, b1, b2, b3, b4, b5, b6, b7, b8, b9, b10, b11, b12⟩ := B
  refine ⟨h', e, oo, isO_c (oo _ (by omega)) b0, ?_, ?_, fun k hk => ?_, fun j hj => ?_, fun j hj => ?_, fun j hj => ?_, fun j hj => ?_, fun j hj => ?_, fun j hj => ?_, fun j hj => ?_, fun j hj => ?_, fun v hv j hj => ?_⟩
  · rw [gF_c (oo _ (by omega)), u1_n (by omega)]; exact b1
  · rw [gF_c (oo _ (by omega)), u1_n (by omega)]; exact b2
  · rw [gF_c (oo _ (by omega))]; exact b3 k hk
  · rw [gI_c (oo _ (by omega)), u1_n (by omega)]; exact b4 j hj
  · rw [gI_c (oo _ (by omega)), u1_n (by omega)]; exact b5 j hj
  · rw [gI_c (oo _ (by omega)), u1_n (by omega)]; exact b6 j hj
  · rw [gL_c (oo _ (by omega)), u1_n (by omega)]; exact b7 j hj
  · rw [gL_c (oo _ (by omega)), u1_n (by omega)]; exact b8 j hj
  · rw [gI_c (oo _ (by omega)), u1_n (by omega)]; exact b9 j hj
  · rw [gI_c (oo _ (by omega)), u1_n (by omega)]; exact b10 j hj
  · rw [g j (by omega)]
    by_cases z : j = i
    · subst z; rw [if_pos rfl, u1_s]
    · rw [if_neg z, u1_n (by omega)]; exact b11 j hj
  · rw [gI_c (oo _ (by omega)), u1_n (by omega)]; exact b12 v hv j hj
theorem BK.put_f0 (B : BK h b T) (x : Nat) : ∃ h', pF h b 0 0 (.int (nI x)) = some h' ∧ (∀ q, q ≠ b → h' q = h q) ∧ BK h' b (u1 T 0 x) := by
  obtain ⟨h', e, oo, g, io⟩ := pF_w B.cards (.int (nI x))
  obtain ⟨b0, b1, b2, b3, b4, b5, b6, b7, b8, b9, b10, b11, b12⟩ := B
  refine ⟨h', e, oo, io, ?_, ?_, fun k hk => ?_, fun j hj => ?_, fun j hj => ?_, fun j hj => ?_, fun j hj => ?_, fun j hj => ?_, fun j hj => ?_, fun j hj => ?_, fun j hj => ?_, fun v hv j hj => ?_⟩
  · rw [g 0, if_pos rfl, u1_s]
  · rw [g 1, if_neg (by omega), u1_n (by omega)]; exact b2
  · rw [g (k + 2), if_neg (by omega)]; exact b3 k hk
  · rw [gI_c (oo _ (by omega)), u1_n (by omega)]; exact b4 j hj
  · rw [gI_c (oo _ (by omega)), u1_n (by omega)]; exact b5 j hj
  · rw [gI_c (oo _ (by omega)), u1_n (by omega)]; exact b6 j hj
  · rw [gL_c (oo _ (by omega)), u1_n (by omega)]; exact b7 j hj
  · rw [gL_c (oo _ (by omega)), u1_n (by omega)]; exact b8 j hj
  · rw [gI_c (oo _ (by omega)), u1_n (by omega)]; exact b9 j hj
  · rw [gI_c (oo _ (by omega)), u1_n (by omega)]; exact b10 j hj
  · rw [gI_c (oo _ (by omega)), u1_n (by omega)]; exact b11 j hj
  · rw [gI_c (oo _ (by omega)), u1_n (by omega)]; exact b12 v hv j hj
theorem BK.put_f1 (B : BK h b T) (x : Nat) : ∃ h', pF h b 0 1 (.int (nI x)) = some h' ∧ (∀ q, q ≠ b → h' q = h q) ∧ BK h' b (u1 T 1 x) := by
  obtain ⟨h', e, oo, g, io⟩ := pF_w B.vers (.int (nI x))
  obtain ⟨b0, b1, b2, b3, b4, b5, b6, b7, b8, b9, b10, b11, b12⟩ := B
  refine ⟨h', e, oo, io, ?_, ?_, fun k hk => ?_, fun j hj => ?_, fun j hj => ?_, fun j hj => ?_, fun j hj => ?_, fun j hj => ?_, fun j hj => ?_, fun j hj => ?_, fun j hj => ?_, fun v hv j hj => ?_⟩
  · rw [g 0, if_neg (by omega), u1_n (by omega)]; exact b1
  · rw [g 1, if_pos rfl, u1_s]
  · rw [g (k + 2), if_neg (by omega)]; exact b3 k hk
  · rw [gI_c (oo _ (by omega)), u1_n (by omega)]; exact b4 j hj
  · rw [gI_c (oo _ (by omega)), u1_n (by omega)]; exact b5 j hj
  · rw [gI_c (oo _ (by omega)), u1_n (by omega)]; exact b6 j hj
  · rw [gL_c (oo _ (by omega)), u1_n (by omega)]; exact b7 j hj
  · rw [gL_c (oo _ (by omega)), u1_n (by omega)]; exact b8 j hj
  · rw [gI_c (oo _ (by omega)), u1_n (by omega)]; exact b9 j hj
  · rw [gI_c (oo _ (by omega)), u1_n (by omega)]; exact b10 j hj
  · rw [gI_c (oo _ (by omega)), u1_n (by omega)]; exact b11 j hj
  · rw [gI_c (oo _ (by omega)), u1_n (by omega)]; exact b12 v hv j hj
end PUT
/-- the bounds that every state keeps: N bounds the cleanings -/
def OK (N : Nat) (V : Nat → Nat) : Prop := okC V ∧ (∀ i, i < 40 → V (9 + 5 * i) < 3 ∧ V (9 + 5 * i + 1) < 1000000000000 ∧ V (9 + 5 * i + 2) ≤ N ∧ V (9 + 5 * i + 3) ≤ 2 ∧ V (9 + 5 * i + 4) < 1000000000000) ∧ (∀ m, m < 3 → V (6 + m) ≤ N) ∧ okE V ∧ (∀ u, u < V 1 → V (209 + 41 * u) ≤ V 0)
theorem OK.c {N : Nat} {V : Nat → Nat} (k : OK N V) : okC V := k.1
theorem OK.d {N : Nat} {V : Nat → Nat} (k : OK N V) (hN : N < 2 ^ 30) : okD V := fun i hi => by
  obtain ⟨a, b, c, d, e⟩ := k.2.1 i hi
  exact ⟨a, b, by omega, d, e⟩
theorem OK.e {N : Nat} {V : Nat → Nat} (k : OK N V) : okE V := k.2.2.2.1
theorem OK.mono {N N' : Nat} {V : Nat → Nat} (k : OK N V) (h : N ≤ N') : OK N' V := by
  obtain ⟨a, b, c, d, e⟩ := k
  refine ⟨a, fun i hi => ?_, fun m hm => Nat.le_trans (c m hm) h, d, e⟩
  obtain ⟨b1, b2, b3, b4, b5⟩ := b i hi
  exact ⟨b1, b2, by omega, b4, b5⟩
theorem OK.ext {N : Nat} {V V' : Nat → Nat} (k : OK N V) (x : ∀ i, i < 455 → V' i = V i) : OK N V' := by
  obtain ⟨⟨a0, a1, a2, a3, a4, a5⟩, b, c, d, e⟩ := k
  refine ⟨⟨?_, ?_, ?_, ?_, ?_, ?_⟩, fun i hi => ?_, fun m hm => ?_, fun v hv => ⟨?_, fun i hi => ?_⟩, fun u hu => ?_⟩
  · rw [x _ (by omega)]; exact a0
  · rw [x _ (by omega)]; exact a1
  · rw [x _ (by omega)]; exact a2
  · rw [x _ (by omega)]; exact a3
  · rw [x _ (by omega)]; exact a4
  · rw [x _ (by omega)]; exact a5
  · rw [x _ (by omega), x _ (by omega), x _ (by omega), x _ (by omega), x _ (by omega)]; exact b i hi
  · rw [x _ (by omega)]; exact c m hm
  · rw [x _ (by omega)]; exact (d v hv).1
  · rw [x _ (by omega)]; exact (d v hv).2 i hi
  · rw [x _ (by omega)] at hu
    rw [x _ (by omega), x _ (by omega)]
    exact e u hu
/-- the Clerk at z + 1, Sight and Books behind it -/
def CK (h : Hp) (z : Nat) (V : Nat → Nat) (F : Nat → Nat → Int32) : Prop := isO h (z + 1) 1 ∧ gF h (z + 1) 1 0 = some (.ref (z + 2)) ∧ gF h (z + 1) 1 1 = some (.ref (z + 2 + 1)) ∧ SO h (z + 2) V ∧ SR h h (z + 2) F
theorem SR.self {h0 h : Hp} {s : Nat} {F : Nat → Nat → Int32} (w : SR h0 h s F) : SR h h s F := ⟨fun _ _ => rfl, w.2.1, w.2.2⟩
theorem SR.mv {h0 h h' : Hp} {s : Nat} {F : Nat → Nat → Int32} (w : SR h0 h s F) (e : ∀ q, s + 11 ≤ q → q < s + 25 → h' q = h q) : SR h' h' s F := by
  refine ⟨fun _ _ => rfl, fun k hk i hi => ?_, ?_⟩
  · rw [gI_c (e _ (by omega) (by omega))]; exact w.2.1 k hk i hi
  · rw [gN_c (e _ (by omega) (by omega))]; exact w.2.2
section CKs
variable {h h' : Hp} {z : Nat} {V V' : Nat → Nat} {F F' : Nat → Nat → Int32}
theorem CK.S (C : CK h z V F) : SO h (z + 2) V := C.2.2.2.1
theorem CK.w (C : CK h z V F) : SR h h (z + 2) F := C.2.2.2.2
theorem CK.B (C : CK h z V F) : BK h (z + 2 + 1) V := C.S.B C.w
theorem CK.ext (C : CK h z V F) (e : ∀ i, i < 455 → V' i = V i) : CK h z V' F := ⟨C.1, C.2.1, C.2.2.1, ⟨C.S.1, C.S.2.1, C.S.2.2.1, C.S.2.2.2.ext e⟩, C.w⟩
/-- Sight worked anew -/
theorem CK.sight (C : CK h z V F) (w : SR h h' (z + 2) F') : CK h' z V F' := by
  refine ⟨isO_c (w.1 _ (Or.inl (by omega))) C.1, ?_, ?_, ⟨C.S.o w, C.S.b w, fun k hk => C.S.f w hk, C.S.B w⟩, w.self⟩
  · rw [gF_c (w.1 _ (Or.inl (by omega)))]; exact C.2.1
  · rw [gF_c (w.1 _ (Or.inl (by omega)))]; exact C.2.2.1
/-- Books written -/
theorem CK.books (C : CK h z V F) (e : ∀ q, (q < z + 3 ∨ z + 13 ≤ q) → h' q = h q) (B : BK h' (z + 2 + 1) V') : CK h' z V' F := by
  refine ⟨isO_c (e _ (by omega)) C.1, ?_, ?_, ⟨isO_c (e _ (by omega)) C.S.1, ?_, fun k hk => ?_, B⟩, C.w.mv (fun q h1 h2 => e q (by omega))⟩
  · rw [gF_c (e _ (by omega))]; exact C.2.1
  · rw [gF_c (e _ (by omega))]; exact C.2.2.1
  · rw [gF_c (e _ (by omega))]; exact C.S.2.1
  · rw [gF_c (e _ (by omega))]; exact C.S.2.2.1 k hk
end CKs
/-- an act of the Clerk and of the reference: the same answer, the same numbers behind it -/
def Act (N : Nat) (V : Nat → Nat) (A : Nat → (Int32 → Hp → Prop) → Hp → Prop) (B : Nat → (Int32 → Hp → Prop) → Hp → Prop) : Prop := ∃ (r : Int32) (V' : Nat → Nat),
  ((-3 ≤ r.toInt ∧ r.toInt < 0 ∧ V' = V) ∨ (0 ≤ r.toInt ∧ OK (N + 1) V' ∧ ∀ i, 455 ≤ i → V' i = V i)) ∧
  (∀ (h : Hp) (z : Nat) (F : Nat → Nat → Int32) (K : Int32 → Hp → Prop), CK h z V F → (∀ h' F', (∀ q, (q < z + 3 ∨ z + 27 ≤ q) → h' q = h q) → CK h' z V' F' → K r h') → A z K h) ∧
  (∀ (h : Hp) (M : Nat) (K : Int32 → Hp → Prop), RM h M V → PL h M → (∀ h', (∀ q, q ≠ M + 1 → q ≠ M + 4 → h' q = h q) → RM h' M V' → PL h' M → K r h') → B M K h)
theorem m1_lt : (-3 : Int) ≤ (-1 : Int32).toInt ∧ (-1 : Int32).toInt < 0 := by decide
theorem m2_lt : (-3 : Int) ≤ (-2 : Int32).toInt ∧ (-2 : Int32).toInt < 0 := by decide
theorem m3_lt : (-3 : Int) ≤ (-3 : Int32).toInt ∧ (-3 : Int32).toInt < 0 := by decide
section ACT
variable {N : Nat} {V : Nat → Nat}
theorem act_clean (k : OK N V) (hN : N < 2 ^ 29) (x : Int32) : Act N V (fun z => wp_X1_cleanMachine (z + 1) x) (fun M => wp_X9_cleans M (Int32.toInt64 x)) := by
  have o := k.c
  have d := k.d (by omega)
  have h40 := o.1
  by_cases hx : ((0 : Nat) : Int) ≤ x.toInt ∧ x.toInt ≤ ((2 : Nat) : Int)
  · obtain ⟨m, hm31, rfl, em⟩ := of_toI (x := x) (by omega)
    have hm : m < 3 := by omega
    have hcl := k.2.2.1 m hm
    have ho := cnt_le (fun i => decide (V (9 + 5 * i) = m)) (V 0)
    have ec : cnt (fun i => decide (u1 V (6 + m) (V (6 + m) + 1) (9 + 5 * i) = m)) (u1 V (6 + m) (V (6 + m) + 1) 0) = cnt (fun i => decide (V (9 + 5 * i) = m)) (V 0) := by
      rw [u1_n (by omega)]
      exact cnt_cong (fun i hi => by rw [u1_n (by omega)])
    have k' : OK (N + 1) (u1 V (6 + m) (V (6 + m) + 1)) := by
      obtain ⟨⟨a0, a1, a2, a3, a4, a5⟩, b, c, e, f⟩ := k
      refine ⟨⟨?_, ?_, ?_, ?_, ?_, ?_⟩, fun i hi => ?_, fun j hj => ?_, fun v hv => ⟨?_, fun i hi => ?_⟩, fun u hu => ?_⟩
      · rw [u1_n (by omega)]; exact a0
      · rw [u1_n (by omega)]; exact a1
      · rw [u1_n (by omega)]; exact a2
      · rw [u1_n (by omega)]; exact a3
      · rw [u1_n (by omega)]; exact a4
      · rw [u1_n (by omega)]; exact a5
      · rw [u1_n (by omega), u1_n (by omega), u1_n (by omega), u1_n (by omega), u1_n (by omega)]
        obtain ⟨b1, b2, b3, b4, b5⟩ := b i hi
        exact ⟨b1, b2, by omega, b4, b5⟩
      · by_cases z : j = m
        · subst z; rw [u1_s]; omega
        · rw [u1_n (by omega)]; have := c j hj; omega
      · rw [u1_n (by omega)]; exact (e v hv).1
      · rw [u1_n (by omega)]; exact (e v hv).2 i hi
      · rw [u1_n (by omega)] at hu
        rw [u1_n (by omega), u1_n (by omega)]
        exact f u hu
    have o' := k'.c
    have d' := k'.d (by omega)
    refine ⟨nI (cnt (fun i => decide (V (9 + 5 * i) = m)) (V 0)), u1 V (6 + m) (V (6 + m) + 1), Or.inr ⟨by rw [nI_toInt (by omega)]; omega, k', fun i hi => u1_n (by omega)⟩, fun h z F K C hk => ?_, fun h M K R P hk => ?_⟩
    · obtain ⟨h1, e1, o1, B1⟩ := C.B.put_cl hm (V (6 + m) + 1)
      have C1 : CK h1 z (u1 V (6 + m) (V (6 + m) + 1)) F := C.books (fun q hq => o1 q (by omega)) B1
      refine c_within (by omega) (by omega) (n1 hx ⟨_, C.2.2.1, _, C.B.fcl, _, C.B.cl hm, h1, (by rw [nI_add]; exact e1), _, C1.2.2.1, _, C1.2.2.1, _, B1.cards, B1.o, c_cardsOf B1 o' d' (by omega) (Nat.le_refl _) ?_⟩)
      rw [ec]
      exact hk h1 F (fun q hq => o1 q (by omega)) C1
    · obtain ⟨h1, e1, o1, R1⟩ := R.put (i := 6 + m) (by omega) (V (6 + m) + 1)
      refine e_inN (by omega) (by omega) (n1 hx ⟨_, R.2.1, lN (V (6 + m)), ?_, h1, ?_, R1.1, ?_⟩)
      · rw [back_i hm31, nI_add]; exact R.at (6 + m) rfl (by omega)
      · rw [back_i hm31, nI_add, lN_add]; exact e1
      · rw [back_i hm31]
        refine e_ofMachine R1 o' d' (by omega) ?_
        rw [ec]
        exact hk h1 (fun q h1 h2 => o1 q h1) R1 (P.fr (fun q hq => o1 q (by omega)))
  · exact ⟨-1, V, Or.inl ⟨m1_lt.1, m1_lt.2, rfl⟩, fun h z F K C hk => c_within (by omega) (by omega) (n0 hx (hk h F (fun _ _ => rfl) C)), fun h M K R P hk => e_inN (by omega) (by omega) (n0 hx (hk h (fun _ _ _ => rfl) R P))⟩
end ACT
