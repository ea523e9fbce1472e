/-! the whole state on both sides -/
def RB (h : Hp) (M : Nat) (W : Nat → Nat) : Prop := gF h M 9 1 = some (.ref (M + 2)) ∧ ∀ i, i < 1367 → gL h (M + 2) (nI i) = some (lN (W i))
def RP (h : Hp) (M : Nat) (P : Nat → Nat) (n : Nat) : Prop := gF h M 9 2 = some (.ref (M + 3)) ∧ gF h M 9 3 = some (.int (nI n)) ∧ ∀ i, i < 6835 → gL h (M + 3) (nI i) = some (lN (P i))
def RT (h : Hp) (M : Nat) (X : Nat → Nat) (tn : Nat) (e : Nat → Value) : Prop := gF h M 9 5 = some (.ref (M + 5)) ∧ gF h M 9 6 = some (.int (nI tn)) ∧ (∀ i, i < 140 → gI h (M + 5) 0 (nI i) = some (nI (X i))) ∧ ∀ k, 7 ≤ k → k < 17 → gF h M 9 k = some (e k)
theorem RB.fr {h h' : Hp} {M : Nat} {W : Nat → Nat} (R : RB h M W) (e : ∀ q, (q = M ∨ q = M + 2) → h' q = h q) : RB h' M W := by
  refine ⟨?_, fun i hi => ?_⟩
  · rw [gF_c (e _ (Or.inl rfl))]; exact R.1
  · rw [gL_c (e _ (Or.inr rfl))]; exact R.2 i hi
theorem RP.fr {h h' : Hp} {M n : Nat} {P : Nat → Nat} (R : RP h M P n) (e : ∀ q, (q = M ∨ q = M + 3) → h' q = h q) : RP h' M P n := by
  refine ⟨?_, ?_, fun i hi => ?_⟩
  · rw [gF_c (e _ (Or.inl rfl))]; exact R.1
  · rw [gF_c (e _ (Or.inl rfl))]; exact R.2.1
  · rw [gL_c (e _ (Or.inr rfl))]; exact R.2.2 i hi
theorem RT.fr {h h' : Hp} {M tn : Nat} {X : Nat → Nat} {ev : Nat → Value} (R : RT h M X tn ev) (e : ∀ q, (q = M ∨ q = M + 5) → h' q = h q) : RT h' M X tn ev := by
  refine ⟨?_, ?_, fun i hi => ?_, fun k h1 h2 => ?_⟩
  · rw [gF_c (e _ (Or.inl rfl))]; exact R.1
  · rw [gF_c (e _ (Or.inl rfl))]; exact R.2.1
  · rw [gI_c (e _ (Or.inr rfl))]; exact R.2.2.1 i hi
  · rw [gF_c (e _ (Or.inl rfl))]; exact R.2.2.2 k h1 h2
/-- the reference, one field of its object written -/
theorem RM.fw {h h' : Hp} {M k : Nat} {V : Nat → Nat} {v : Value} (R : RM h M V) (hk : k ≠ 0) (oo : ∀ q, q ≠ M → h' q = h q) (g : ∀ j, gF h' M 9 j = if j = k then some v else gF h M 9 j) (io : isO h' M 9) : RM h' M V := by
  refine ⟨io, ?_, fun i hi => ?_⟩
  · rw [g 0, if_neg (by omega)]; exact R.2.1
  · rw [gL_c (oo _ (by omega))]; exact R.2.2 i hi
theorem RB.fw {h h' : Hp} {M k : Nat} {W : Nat → Nat} {v : Value} (R : RB h M W) (hk : k ≠ 1) (oo : ∀ q, q ≠ M → h' q = h q) (g : ∀ j, gF h' M 9 j = if j = k then some v else gF h M 9 j) : RB h' M W := by
  refine ⟨?_, fun i hi => ?_⟩
  · rw [g 1, if_neg (by omega)]; exact R.1
  · rw [gL_c (oo _ (by omega))]; exact R.2 i hi
theorem RP.fw {h h' : Hp} {M k n : Nat} {P : Nat → Nat} {v : Value} (R : RP h M P n) (hk : 3 < k) (oo : ∀ q, q ≠ M → h' q = h q) (g : ∀ j, gF h' M 9 j = if j = k then some v else gF h M 9 j) : RP h' M P n := by
  refine ⟨?_, ?_, fun i hi => ?_⟩
  · rw [g 2, if_neg (by omega)]; exact R.1
  · rw [g 3, if_neg (by omega)]; exact R.2.1
  · rw [gL_c (oo _ (by omega))]; exact R.2.2 i hi
theorem PL.fw {h h' : Hp} {M k : Nat} {v : Value} (R : PL h M) (hk : k ≠ 4) (oo : ∀ q, q ≠ M → h' q = h q) (g : ∀ j, gF h' M 9 j = if j = k then some v else gF h M 9 j) : PL h' M := by
  refine ⟨?_, fun i hi => ?_⟩
  · rw [g 4, if_neg (by omega)]; exact R.1
  · rw [gI_c (oo _ (by omega))]; exact R.2 i hi
theorem RT.fw {h h' : Hp} {M k tn : Nat} {X : Nat → Nat} {e : Nat → Value} {v : Value} (R : RT h M X tn e) (hk : k < 5) (oo : ∀ q, q ≠ M → h' q = h q) (g : ∀ j, gF h' M 9 j = if j = k then some v else gF h M 9 j) : RT h' M X tn e := by
  refine ⟨?_, ?_, fun i hi => ?_, fun j h1 h2 => ?_⟩
  · rw [g 5, if_neg (by omega)]; exact R.1
  · rw [g 6, if_neg (by omega)]; exact R.2.1
  · rw [gI_c (oo _ (by omega))]; exact R.2.2.1 i hi
  · rw [g j, if_neg (by omega)]; exact R.2.2.2 j h1 h2
theorem e_keeps {K : Hp → Prop} {h : Hp} {M : Nat} {V W : Nat → Nat} (R : RM h M V) (B : RB h M W) (hk : ∀ h', (∀ q, q ≠ M + 2 → h' q = h q) → RM h' M V → RB h' M V → K h') : wp_X9_keeps M K h := by
  refine for_us (fun n k (g : Hp) => wp_X9_keeps_2 K M n (nI k) g) (fun k g => (∀ q, q ≠ M + 2 → g q = h q) ∧ ∀ i, i < 1367 → gL g (M + 2) (nI i) = some (lN (if i < k then V i else W i))) 1367 0 h (by omega) ⟨fun _ _ => rfl, fun i hi => by rw [if_neg (by omega)]; exact B.2 i hi⟩ (fun n g I => ?_) (fun n k g _ hk2 I ih => ?_)
  · refine b_le (by omega) (by omega) (fun _ => hk g I.1 (R.fr (fun q hq => I.1 q (by omega))) ⟨?_, fun i hi => ?_⟩) (fun q => by omega)
    · rw [gF_c (I.1 _ (by omega))]; exact B.1
    · rw [I.2 i hi, if_pos hi]
  · obtain ⟨fr, G⟩ := I
    have R2 := R.fr (fun q hq => fr q (by omega))
    obtain ⟨h', e, oo, g'⟩ := sL_w (by omega) (G k hk2) (lN (V k))
    refine b_le (by omega) (by omega) (fun q => by omega) (fun _ => ⟨_, (by rw [gF_c (fr _ (by omega))]; exact B.1), _, R2.2.1, _, R2.2.2 k hk2, h', e, fun y ey => ?_⟩)
    subst ey
    rw [nI_add]
    refine ih h' ⟨fun q hq => (oo q hq).trans (fr q hq), fun i hi => ?_⟩
    rw [g' i (by omega)]
    by_cases z : i = k
    · rw [if_pos z, z, if_pos (by omega)]
    · rw [if_neg z, G i hi]
      by_cases y : i < k
      · rw [if_pos y, if_pos (by omega)]
      · rw [if_neg y, if_neg (by omega)]
/-- a state pushed -/
def psP (P : Nat → Nat) (n : Nat) (W : Nat → Nat) : Nat → Nat := fun i => if n = 5 then (if i < 5468 then P (i + 1367) else W (i - 5468)) else if 1367 * n ≤ i ∧ i < 1367 * n + 1367 then W (i - 1367 * n) else P i
def psN (n : Nat) : Nat := if n = 5 then 5 else n + 1
theorem e_actedPut {K : Int32 → Hp → Prop} {h : Hp} {M n : Nat} {r : Int32} {P W : Nat → Nat} (B : RB h M W) (S : RP h M P n) (hn : n < 5) (hk : ∀ h', (∀ q, q ≠ M → q ≠ M + 3 → h' q = h q) → (∀ j, j ≠ 3 → gF h' M 9 j = gF h M 9 j) → isO h' M 9 → RP h' M (fun i => if 1367 * n ≤ i ∧ i < 1367 * n + 1367 then W (i - 1367 * n) else P i) (n + 1) → K r h') : ∃ m, wp_X9_acted_67 K M r m (nI 0) h := by
  refine for_us (fun m k (g : Hp) => wp_X9_acted_67 K M r m (nI k) g) (fun k g => (∀ q, q ≠ M + 3 → g q = h q) ∧ ∀ i, i < 6835 → gL g (M + 3) (nI i) = some (lN (if 1367 * n ≤ i ∧ i < 1367 * n + k then W (i - 1367 * n) else P i))) 1367 0 h (by omega) ⟨fun _ _ => rfl, fun i hi => by rw [if_neg (by omega)]; exact S.2.2 i hi⟩ (fun m g I => ?_) (fun m k g _ hk2 I ih => ?_)
  · have c3 : gF g M 9 3 = some (.int (nI n)) := by rw [gF_c (I.1 _ (by omega))]; exact S.2.1
    obtain ⟨h', e, oo, g', io⟩ := pF_w c3 (.int (nI n + nI 1))
    refine b_le (by omega) (by omega) (fun _ => ⟨_, c3, h', e, hk h' (fun q q1 q2 => (oo q q1).trans (I.1 q q2)) (fun j hj => ?_) io ⟨?_, ?_, fun i hi => ?_⟩⟩) (fun q => by omega)
    · rw [g' j, if_neg hj, gF_c (I.1 _ (by omega))]
    · rw [g' 2, if_neg (by omega), gF_c (I.1 _ (by omega))]; exact S.1
    · rw [g' 3, if_pos rfl, nI_add]
    · rw [gL_c (oo _ (by omega))]; exact I.2 i hi
  · obtain ⟨fr, G⟩ := I
    obtain ⟨h', e, oo, g'⟩ := sL_w (i := 1367 * n + k) (by omega) (G (1367 * n + k) (by omega)) (lN (W k))
    refine b_le (by omega) (by omega) (fun q => by omega) (fun _ => ⟨_, (by rw [gF_c (fr _ (by omega))]; exact S.1), _, (by rw [gF_c (fr _ (by omega))]; exact S.2.1), _, (by rw [gF_c (fr _ (by omega))]; exact B.1), _, (by rw [gL_c (fr _ (by omega))]; exact B.2 k hk2), h', (by rw [nI_mul, nI_add]; exact e), fun y ey => ?_⟩)
    subst ey
    rw [nI_add]
    refine ih h' ⟨fun q hq => (oo q hq).trans (fr q hq), fun i hi => ?_⟩
    rw [g' i (by omega)]
    by_cases z : i = 1367 * n + k
    · rw [if_pos z, z, if_pos (by omega), show 1367 * n + k - 1367 * n = k by omega]
    · rw [if_neg z, G i hi]
      by_cases y : 1367 * n ≤ i ∧ i < 1367 * n + k
      · rw [if_pos y, if_pos (by omega)]
      · rw [if_neg y, if_neg (by omega)]
theorem e_actedNo {K : Int32 → Hp → Prop} {h : Hp} {M : Nat} {r : Int32} (h1 : -3 ≤ r.toInt) (h2 : r.toInt < 0) (hk : K r h) : wp_X9_acted M r K h := by
  refine e_in (b1 ?_ hk)
  rw [le64, le64, toI64]
  have e1 : (-3 : Int64).toInt = -3 := by decide
  have e2 : (-1 : Int64).toInt = -1 := by decide
  rw [e1, e2]
  omega
theorem e_acted {K : Int32 → Hp → Prop} {h : Hp} {M n : Nat} {r : Int32} {P W : Nat → Nat} (B : RB h M W) (S : RP h M P n) (hn : n ≤ 5) (hr : 0 ≤ r.toInt) (hk : ∀ h', (∀ q, q ≠ M → q ≠ M + 3 → h' q = h q) → (∀ j, j ≠ 3 → gF h' M 9 j = gF h M 9 j) → isO h' M 9 → RP h' M (psP P n W) (psN n) → K r h') : wp_X9_acted M r K h := by
  refine e_in (b0 ?_ ⟨_, S.2.1, b_ne (by omega) (by omega) (fun q => ?_) (fun q => ?_)⟩)
  · rw [le64, le64, toI64]
    have e1 : (-3 : Int64).toInt = -3 := by decide
    have e2 : (-1 : Int64).toInt = -1 := by decide
    rw [e1, e2]
    omega
  · refine e_actedPut B S (by omega) (fun h' a b c d => hk h' a b c ?_)
    have e1 : psN n = n + 1 := if_neg q
    have e2 : psP P n W = (fun i => if 1367 * n ≤ i ∧ i < 1367 * n + 1367 then W (i - 1367 * n) else P i) := by
      funext i
      unfold psP
      rw [if_neg q]
    rw [e1, e2]
    exact d
  · refine for_us (fun m k (g : Hp) => wp_X9_acted_26 K M r m (nI k) g) (fun k g => (∀ q, q ≠ M + 3 → g q = h q) ∧ ∀ i, i < 6835 → gL g (M + 3) (nI i) = some (lN (if i < k then P (i + 1367) else P i))) 5468 0 h (by omega) ⟨fun _ _ => rfl, fun i hi => by rw [if_neg (by omega)]; exact S.2.2 i hi⟩ (fun m g I => ?_) (fun m k g _ hk2 I ih => ?_)
    · have c3 : gF g M 9 3 = some (.int (nI n)) := by rw [gF_c (I.1 _ (by omega))]; exact S.2.1
      obtain ⟨h', e, oo, g', io⟩ := pF_w c3 (.int (nI n - nI 1))
      have S' : RP h' M (fun i => if i < 5468 then P (i + 1367) else P i) 4 := by
        refine ⟨?_, ?_, fun i hi => ?_⟩
        · rw [g' 2, if_neg (by omega), gF_c (I.1 _ (by omega))]; exact S.1
        · rw [g' 3, if_pos rfl, pk_sub (by omega), q]
        · rw [gL_c (oo _ (by omega))]; exact I.2 i hi
      have B' : RB h' M W := by
        refine ⟨?_, fun i hi => ?_⟩
        · rw [g' 1, if_neg (by omega), gF_c (I.1 _ (by omega))]; exact B.1
        · rw [gL_c (oo _ (by omega)), gL_c (I.1 _ (by omega))]; exact B.2 i hi
      refine b_le (by omega) (by omega) (fun _ => ⟨_, c3, h', e, e_actedPut B' S' (by omega) (fun h2 a b c d => hk h2 (fun q q1 q2 => (a q q1 q2).trans ((oo q q1).trans (I.1 q q2))) (fun j hj => ?_) c ?_)⟩) (fun q => by omega)
      · rw [b j hj, g' j, if_neg hj, gF_c (I.1 _ (by omega))]
      · have e1 : psN n = 4 + 1 := by unfold psN; rw [if_pos q]
        rw [e1]
        refine ⟨d.1, d.2.1, fun i hi => ?_⟩
        rw [d.2.2 i hi]
        unfold psP
        rw [if_pos q]
        by_cases y : i < 5468
        · rw [if_pos y]
          dsimp only
          rw [if_neg (by omega), if_pos y]
        · rw [if_neg y]
          dsimp only
          rw [if_pos (by omega)]
    · obtain ⟨fr, G⟩ := I
      have v := G (k + 1367) (by omega)
      rw [if_neg (by omega)] at v
      obtain ⟨h', e, oo, g'⟩ := sL_w (i := k) (by omega) (G k (by omega)) (lN (P (k + 1367)))
      have c2 : gF g M 9 2 = some (.ref (M + 3)) := by rw [gF_c (fr _ (by omega))]; exact S.1
      refine b_le (by omega) (by omega) (fun q => by omega) (fun _ => ⟨_, c2, _, c2, _, (by rw [nI_add]; exact v), h', e, fun y ey => ?_⟩)
      subst ey
      rw [nI_add]
      refine ih h' ⟨fun q hq => (oo q hq).trans (fr q hq), fun i hi => ?_⟩
      rw [g' i (by omega)]
      by_cases z : i = k
      · rw [if_pos z, z, if_pos (by omega)]
      · rw [if_neg z, G i hi]
        by_cases y : i < k
        · rw [if_pos y, if_pos (by omega)]
        · rw [if_neg y, if_neg (by omega)]
/-! the class's object and its Program -/
def CT (h : Hp) (z : Nat) : Prop := isO h z 8 ∧ gF h z 8 0 = some (.ref (z + 1)) ∧ gF h z 8 1 = some (.ref (z + 2)) ∧ gF h z 8 2 = some (.ref (z + 2 + 1)) ∧ gF h z 8 3 = some (.ref (z + 27)) ∧ gF h z 8 4 = some (.ref (z + 50)) ∧ gF h z 8 5 = some (.ref (z + 256))
theorem CT.fr {h h' : Hp} {z : Nat} (C : CT h z) (e : h' z = h z) : CT h' z := by
  obtain ⟨a, b, c, d, f, g, i⟩ := C
  refine ⟨isO_c e a, ?_, ?_, ?_, ?_, ?_, ?_⟩ <;> (rw [gF_c e]; assumption)
def PG (h : Hp) (z : Nat) (X : Nat → Nat) (tn : Nat) (fl : Nat → Int32) : Prop :=
  isO h (z + 256) 3 ∧ gF h (z + 256) 3 0 = some (.ref (z + 257)) ∧ (∀ k, k < 4 → gF h (z + 256) 3 (k + 1) = some (.int (fl k))) ∧ (∃ a b : Int64, gF h (z + 256) 3 5 = some (.long a) ∧ gF h (z + 256) 3 6 = some (.long b)) ∧
  isO h (z + 257) 7 ∧ gF h (z + 257) 7 0 = some (.int (nI tn)) ∧ (∃ a b c : Int32, gF h (z + 257) 7 1 = some (.int a) ∧ gF h (z + 257) 7 2 = some (.int b) ∧ gF h (z + 257) 7 3 = some (.int c)) ∧ gF h (z + 257) 7 4 = some (.ref (z + 258)) ∧ ∀ i, i < 140 → gI h (z + 258) 0 (nI i) = some (nI (X i))
theorem PG.fr {h h' : Hp} {z tn : Nat} {X : Nat → Nat} {fl : Nat → Int32} (C : PG h z X tn fl) (e : ∀ q, (q = z + 256 ∨ q = z + 257 ∨ q = z + 258) → h' q = h q) : PG h' z X tn fl := by
  obtain ⟨a, b, c, ⟨d1, d2, d3, d4⟩, f, g, ⟨i1, i2, i3, i4, i5, i6⟩, j, k⟩ := C
  refine ⟨isO_c (e _ (by omega)) a, ?_, fun k hk => ?_, ⟨d1, d2, ?_, ?_⟩, isO_c (e _ (by omega)) f, ?_, ⟨i1, i2, i3, ?_, ?_, ?_⟩, ?_, fun i hi => ?_⟩
  · rw [gF_c (e _ (by omega))]; exact b
  · rw [gF_c (e _ (by omega))]; exact c k hk
  · rw [gF_c (e _ (by omega))]; exact d3
  · rw [gF_c (e _ (by omega))]; exact d4
  · rw [gF_c (e _ (by omega))]; exact g
  · rw [gF_c (e _ (by omega))]; exact i4
  · rw [gF_c (e _ (by omega))]; exact i5
  · rw [gF_c (e _ (by omega))]; exact i6
  · rw [gF_c (e _ (by omega))]; exact j
  · rw [gI_c (e _ (by omega))]; exact k i hi
theorem CK.fr {h h' : Hp} {z : Nat} {V : Nat → Nat} {F : Nat → Nat → Int32} (C : CK h z V F) (e : ∀ q, z + 1 ≤ q → q < z + 27 → h' q = h q) : CK h' z V F := by
  refine ⟨isO_c (e _ (by omega) (by omega)) C.1, ?_, ?_, ⟨isO_c (e _ (by omega) (by omega)) C.S.1, ?_, fun k hk => ?_, C.B.fr (fun q h1 h2 => e q (by omega) (by omega))⟩, C.w.mv (fun q h1 h2 => e q (by omega) (by omega))⟩
  · rw [gF_c (e _ (by omega) (by omega))]; exact C.2.1
  · rw [gF_c (e _ (by omega) (by omega))]; exact C.2.2.1
  · rw [gF_c (e _ (by omega) (by omega))]; exact C.S.2.1
  · rw [gF_c (e _ (by omega) (by omega))]; exact C.S.2.2.1 k hk
/-- the bounds, slots too -/
def OA (N : Nat) (V : Nat → Nat) : Prop := OK N V ∧ ∀ k, k < 2 → (V (455 + 456 * k) ≠ 0 → OK N (fun i => V (456 + 456 * k + i)))
theorem OA.mono {N N' : Nat} {V : Nat → Nat} (k : OA N V) (h : N ≤ N') : OA N' V := ⟨k.1.mono h, fun j hj q => (k.2 j hj q).mono h⟩
/-- class and reference in one state -/
def CR (h : Hp) (z : Nat) (V : Nat → Nat) (F : Nat → Nat → Int32) (n : Nat) (Q : Nat → Nat → Nat) (p : Nat → Nat) (X : Nat → Nat) (tn : Nat) (fl : Nat → Int32) : Prop := CT h z ∧ CK h z V F ∧ SL h (z + 27) V ∧ HI h (z + 50) n Q p ∧ PG h z X tn fl
def RR (h : Hp) (M : Nat) (V W P : Nat → Nat) (n : Nat) (X : Nat → Nat) (tn : Nat) (e : Nat → Value) : Prop := RM h M V ∧ RB h M W ∧ RP h M P n ∧ PL h M ∧ RT h M X tn e
def PR (N : Nat) (V : Nat → Nat) (n : Nat) (Q : Nat → Nat → Nat) (P X : Nat → Nat) (tn : Nat) (fl : Nat → Int32) (e : Nat → Value) : Prop :=
  n ≤ 5 ∧ OA N V ∧ (∀ j, j < n → OA N (Q j)) ∧ (∀ j, j < n → ∀ i, i < 1367 → Q j i = P (1367 * j + i)) ∧ tn ≤ 140 ∧ (∀ i, i < tn → 1 ≤ X i ∧ X i ≤ 255) ∧ (∀ k, k < 4 → e (7 + k) = .int (fl k)) ∧ ((∃ a : Int32, e 11 = .int a) ∧ (∃ a : Int32, e 12 = .int a) ∧ (∃ a : Int32, e 13 = .int a) ∧ (∃ a : Int32, e 14 = .int a) ∧ (∃ a : Int64, e 15 = .long a) ∧ ∃ a : Int64, e 16 = .long a)
def Inv (N : Nat) (h : Hp) (z : Nat) : Prop := ∃ V F n Q p X tn fl W P e, CR h z V F n Q p X tn fl ∧ RR h (z + 259) V W P n X tn e ∧ PR N V n Q P X tn fl e
theorem CR.fr {h h' : Hp} {z n tn : Nat} {V : Nat → Nat} {F : Nat → Nat → Int32} {Q : Nat → Nat → Nat} {p X : Nat → Nat} {fl : Nat → Int32} (C : CR h z V F n Q p X tn fl) (e : ∀ q, z ≤ q → q < z + 259 → h' q = h q) : CR h' z V F n Q p X tn fl :=
  ⟨C.1.fr (e _ (by omega) (by omega)), C.2.1.fr (fun q h1 h2 => e q (by omega) (by omega)), C.2.2.1.fr (fun q h1 h2 => e q (by omega) (by omega)), C.2.2.2.1.fr (fun q h1 h2 => e q (by omega) (by omega)), C.2.2.2.2.fr (fun q hq => e q (by omega) (by omega))⟩
theorem RR.fr {h h' : Hp} {M n tn : Nat} {V W P X : Nat → Nat} {ev : Nat → Value} (R : RR h M V W P n X tn ev) (e : ∀ q, M ≤ q → q < M + 6 → h' q = h q) : RR h' M V W P n X tn ev :=
  ⟨R.1.fr (fun q hq => e q (by omega) (by omega)), R.2.1.fr (fun q hq => e q (by omega) (by omega)), R.2.2.1.fr (fun q hq => e q (by omega) (by omega)), R.2.2.2.1.fr (fun q hq => e q (by omega) (by omega)), R.2.2.2.2.fr (fun q hq => e q (by omega) (by omega))⟩
/-- a call: the same answer, one state behind it -/
def Step (N' : Nat) (h : Hp) (z : Nat) (A B : Nat → (Int32 → Hp → Prop) → Hp → Prop) : Prop := ∃ r : Int32, ∀ K : Int32 → Hp → Prop, (∀ h1, isO h1 (z + 259) 9 → (∀ K' : Int32 → Hp → Prop, (∀ h2, Inv N' h2 z → K' r h2) → B (z + 259) K' h1) → K r h1) → A z K h
theorem CR.cq {h : Hp} {z n tn : Nat} {V : Nat → Nat} {F : Nat → Nat → Int32} {Q : Nat → Nat → Nat} {p X : Nat → Nat} {fl : Nat → Int32} (C : CR h z V F n Q p X tn fl) : CQ h z V F := ⟨C.1.2.2.1, C.1.2.2.2.1, C.2.1.S, C.2.1.w⟩
theorem step_two {N : Nat} {h : Hp} {z : Nat} {A B : Nat → (Int32 → Hp → Prop) → Hp → Prop} (I : Inv N h z) (hN : N < 2 ^ 29) (tw : ∀ V, OK N V → Two V A B) : Step N h z A B := by
  obtain ⟨V, F, n, Q, p, X, tn, fl, W, P, e, C, R, pr⟩ := I
  obtain ⟨r, t1, t2⟩ := tw V pr.2.1.1
  refine ⟨r, fun K hk => t1 h z F K C.cq (fun h1 F1 w1 => ?_)⟩
  have C1 : CR h1 z V F1 n Q p X tn fl := ⟨C.1.fr (w1.1 _ (by omega)), C.2.1.sight w1, C.2.2.1.fr (fun q h1 h2 => w1.1 q (by omega)), C.2.2.2.1.fr (fun q h1 h2 => w1.1 q (by omega)), C.2.2.2.2.fr (fun q hq => w1.1 q (by omega))⟩
  have R1 := R.fr (fun q h1 h2 => w1.1 q (by omega))
  refine hk h1 R1.1.1 (fun K' hk' => t2 h1 (z + 259) K' R1.1 R1.2.2.2.1 (fun h2 fr2 P2 => hk' h2 ⟨V, F1, n, Q, p, X, tn, fl, W, P, e, C1.fr (fun q h1 h2 => fr2 q (by omega)), ⟨R1.1.fr (fun q hq => fr2 q (by omega)), R1.2.1.fr (fun q hq => fr2 q (by omega)), R1.2.2.1.fr (fun q hq => fr2 q (by omega)), P2, R1.2.2.2.2.fr (fun q hq => fr2 q (by omega))⟩, pr⟩))
