/-! the text, failure, count -/
theorem PG.len {h h' : Hp} {z tn m : Nat} {X : Nat → Nat} {fl : Nat → Int32} (G : PG h z X tn fl) (oo : ∀ q, q ≠ z + 257 → h' q = h q) (g : ∀ j, gF h' (z + 257) 7 j = if j = 0 then some (.int (nI m)) else gF h (z + 257) 7 j) (io : isO h' (z + 257) 7) : PG h' z X m fl := by
  obtain ⟨a, b, c, ⟨d1, d2, d3, d4⟩, f, t0, ⟨i1, i2, i3, i4, i5, i6⟩, j, k⟩ := G
  refine ⟨isO_c (oo _ (by omega)) a, ?_, fun k hk => ?_, ⟨d1, d2, ?_, ?_⟩, io, ?_, ⟨i1, i2, i3, ?_, ?_, ?_⟩, ?_, fun i hi => ?_⟩
  · rw [gF_c (oo _ (by omega))]; exact b
  · rw [gF_c (oo _ (by omega))]; exact c k hk
  · rw [gF_c (oo _ (by omega))]; exact d3
  · rw [gF_c (oo _ (by omega))]; exact d4
  · rw [g 0, if_pos rfl]
  · rw [g 1, if_neg (by omega)]; exact i4
  · rw [g 2, if_neg (by omega)]; exact i5
  · rw [g 3, if_neg (by omega)]; exact i6
  · rw [g 4, if_neg (by omega)]; exact j
  · rw [gI_c (oo _ (by omega))]; exact k i hi
theorem PG.sign {h h' : Hp} {z tn i x : Nat} {X : Nat → Nat} {fl : Nat → Int32} (G : PG h z X tn fl) (oo : ∀ q, q ≠ z + 258 → h' q = h q) (g : ∀ j, j < 2 ^ 31 → gI h' (z + 258) 0 (nI j) = if j = i then some (nI x) else gI h (z + 258) 0 (nI j)) : PG h' z (u1 X i x) tn fl := by
  obtain ⟨a, b, c, ⟨d1, d2, d3, d4⟩, f, t0, ⟨i1, i2, i3, i4, i5, i6⟩, j, k⟩ := G
  refine ⟨isO_c (oo _ (by omega)) a, ?_, fun k hk => ?_, ⟨d1, d2, ?_, ?_⟩, isO_c (oo _ (by omega)) f, ?_, ⟨i1, i2, i3, ?_, ?_, ?_⟩, ?_, fun l hl => ?_⟩
  · rw [gF_c (oo _ (by omega))]; exact b
  · rw [gF_c (oo _ (by omega))]; exact c k hk
  · rw [gF_c (oo _ (by omega))]; exact d3
  · rw [gF_c (oo _ (by omega))]; exact d4
  · rw [gF_c (oo _ (by omega))]; exact t0
  · rw [gF_c (oo _ (by omega))]; exact i4
  · rw [gF_c (oo _ (by omega))]; exact i5
  · rw [gF_c (oo _ (by omega))]; exact i6
  · rw [gF_c (oo _ (by omega))]; exact j
  · rw [g l (by omega)]
    by_cases y : l = i
    · rw [if_pos y, y, u1_s]
    · rw [if_neg y, u1_n y]; exact k l hl
theorem RT.len {h h' : Hp} {M tn m : Nat} {X : Nat → Nat} {e : Nat → Value} (R : RT h M X tn e) (oo : ∀ q, q ≠ M → h' q = h q) (g : ∀ j, gF h' M 9 j = if j = 6 then some (.int (nI m)) else gF h M 9 j) : RT h' M X m e := by
  refine ⟨?_, ?_, fun i hi => ?_, fun j h1 h2 => ?_⟩
  · rw [g 5, if_neg (by omega)]; exact R.1
  · rw [g 6, if_pos rfl]
  · rw [gI_c (oo _ (by omega))]; exact R.2.2.1 i hi
  · rw [g j, if_neg (by omega)]; exact R.2.2.2 j h1 h2
theorem RR.len {h h' : Hp} {M n tn m : Nat} {V W P X : Nat → Nat} {e : Nat → Value} (R : RR h M V W P n X tn e) (oo : ∀ q, q ≠ M → h' q = h q) (g : ∀ j, gF h' M 9 j = if j = 6 then some (.int (nI m)) else gF h M 9 j) (io : isO h' M 9) : RR h' M V W P n X m e :=
  ⟨R.1.fw (by omega) oo g io, R.2.1.fw (by omega) oo g, R.2.2.1.fw (by omega) oo g, R.2.2.2.1.fw (by omega) oo g, R.2.2.2.2.len oo g⟩
section S3
variable {N : Nat} {h : Hp} {z : Nat}
theorem step_append (I : Inv N h z) (x : Int32) : Step N h z (fun z => wp_X8_append z x) (fun M => wp_X9_append M x) := by
  obtain ⟨V, F, n, Q, p, X, tn, fl, W, P, e, C, R, pr⟩ := I
  have PGd := C.2.2.2.2
  have t140 := pr.2.2.2.2.1
  by_cases hx : ((1 : Nat) : Int) ≤ x.toInt ∧ x.toInt ≤ ((255 : Nat) : Int)
  · obtain ⟨v, hv31, rfl, ev⟩ := of_toI (x := x) (by omega)
    by_cases hf : tn = 140
    · exact ⟨-3, fun K hk => c_within (by omega) (by omega) (n1 hx ⟨_, C.1.2.2.2.2.2.2, _, PGd.2.1, PGd.2.2.2.2.1, _, PGd.2.2.2.2.2.1, b_lt (by omega) (by omega) (fun q => by omega) (fun _ => hk h R.1.1 (fun K' hk' => e_inN (by omega) (by omega) (n1 hx ⟨_, R.2.2.2.2.2.1, b_ne (by omega) (by omega) (fun q => absurd hf q) (fun _ => hk' h ⟨V, F, n, Q, p, X, tn, fl, W, P, e, C, R, pr⟩)⟩)))⟩)⟩
    · refine ⟨nI (tn + 1), fun K hk => c_within (by omega) (by omega) (n1 hx ⟨_, C.1.2.2.2.2.2.2, _, PGd.2.1, PGd.2.2.2.2.1, ?_⟩)⟩
      obtain ⟨h1, e1, o1, g1, -⟩ := sI_w (i := tn) (by omega) (PGd.2.2.2.2.2.2.2.2 tn (by omega)) (nI v)
      have G1 := PGd.sign o1 g1
      obtain ⟨h2, e2, o2, g2, i2⟩ := pF_w G1.2.2.2.2.2.1 (.int (nI (tn + 1)))
      have G2 : PG h2 z (u1 X tn v) (tn + 1) fl := G1.len o2 g2 i2
      have C2 : CR h2 z V F n Q p (u1 X tn v) (tn + 1) fl := ⟨C.1.fr ((o2 _ (by omega)).trans (o1 _ (by omega))), C.2.1.fr (fun q q1 q2 => (o2 q (by omega)).trans (o1 q (by omega))), C.2.2.1.fr (fun q q1 q2 => (o2 q (by omega)).trans (o1 q (by omega))), C.2.2.2.1.fr (fun q q1 q2 => (o2 q (by omega)).trans (o1 q (by omega))), G2⟩
      have R2 := R.fr (h' := h2) (fun q q1 q2 => (o2 q (by omega)).trans (o1 q (by omega)))
      refine ⟨_, PGd.2.2.2.2.2.1, b_lt (by omega) (by omega) (fun _ => ⟨_, PGd.2.2.2.2.2.2.2.1, _, PGd.2.2.2.2.2.1, h1, e1, _, G1.2.2.2.2.2.1, h2, (by rw [nI_add]; exact e2), _, G2.2.2.2.2.2.1, hk h2 R2.1.1 (fun K' hk' => ?_)⟩) (fun q => by omega)⟩
      obtain ⟨h3, e3, o3, g3, -⟩ := sI_w (i := tn) (by omega) (R2.2.2.2.2.2.2.1 tn (by omega)) (nI v)
      have T3 : RT h3 (z + 259) (u1 X tn v) tn e := by
        refine ⟨?_, ?_, fun i hi => ?_, fun k q1 q2 => ?_⟩
        · rw [gF_c (o3 _ (by omega))]; exact R2.2.2.2.2.1
        · rw [gF_c (o3 _ (by omega))]; exact R2.2.2.2.2.2.1
        · rw [g3 i (by omega)]
          by_cases y : i = tn
          · rw [if_pos y, y, u1_s]
          · rw [if_neg y, u1_n y]; exact R2.2.2.2.2.2.2.1 i hi
        · rw [gF_c (o3 _ (by omega))]; exact R2.2.2.2.2.2.2.2 k q1 q2
      have R3 : RR h3 (z + 259) V W P n (u1 X tn v) tn e := ⟨R2.1.fr (fun q hq => o3 q (by omega)), R2.2.1.fr (fun q hq => o3 q (by omega)), R2.2.2.1.fr (fun q hq => o3 q (by omega)), R2.2.2.2.1.fr (fun q hq => o3 q (by omega)), T3⟩
      obtain ⟨h4, e4, o4, g4, i4⟩ := pF_w R3.2.2.2.2.2.1 (.int (nI (tn + 1)))
      have R4 : RR h4 (z + 259) V W P n (u1 X tn v) (tn + 1) e := R3.len o4 g4 i4
      refine e_inN (by omega) (by omega) (n1 hx ⟨_, R2.2.2.2.2.2.1, b_ne (by omega) (by omega) (fun _ => ⟨_, R2.2.2.2.2.1, _, R2.2.2.2.2.2.1, h3, e3, _, R3.2.2.2.2.2.1, h4, (by rw [nI_add]; exact e4), _, R4.2.2.2.2.2.1, hk' h4 ⟨V, F, n, Q, p, u1 X tn v, tn + 1, fl, W, P, e, C2.fr (fun q q1 q2 => (o4 q (by omega)).trans (o3 q (by omega))), R4, ?_⟩⟩) (fun q => absurd q hf)⟩)
      obtain ⟨p1, p2, p3, p4, p5, p6, p7⟩ := pr
      refine ⟨p1, p2, p3, p4, by omega, fun i hi => ?_, p7⟩
      by_cases y : i = tn
      · rw [y, u1_s]; omega
      · rw [u1_n y]; exact p6 i (by omega)
  · exact ⟨-1, fun K hk => c_within (by omega) (by omega) (n0 hx (hk h R.1.1 (fun K' hk' => e_inN (by omega) (by omega) (n0 hx (hk' h ⟨V, F, n, Q, p, X, tn, fl, W, P, e, C, R, pr⟩)))))⟩
theorem step_clearText (I : Inv N h z) : Step N h z (fun z => wp_X8_clearText z) (fun M => wp_X9_clearText M) := by
  obtain ⟨V, F, n, Q, p, X, tn, fl, W, P, e, C, R, pr⟩ := I
  have PGd := C.2.2.2.2
  obtain ⟨h2, e2, o2, g2, i2⟩ := pF_w PGd.2.2.2.2.2.1 (.int (nI 0))
  have G2 : PG h2 z X 0 fl := PGd.len o2 g2 i2
  have C2 : CR h2 z V F n Q p X 0 fl := ⟨C.1.fr (o2 _ (by omega)), C.2.1.fr (fun q q1 q2 => o2 q (by omega)), C.2.2.1.fr (fun q q1 q2 => o2 q (by omega)), C.2.2.2.1.fr (fun q q1 q2 => o2 q (by omega)), G2⟩
  have R2 := R.fr (h' := h2) (fun q q1 q2 => o2 q (by omega))
  refine ⟨nI tn, fun K hk => ⟨_, C.1.2.2.2.2.2.2, _, PGd.2.1, PGd.2.2.2.2.1, _, PGd.2.2.2.2.2.1, h2, e2, hk h2 R2.1.1 (fun K' hk' => ?_)⟩⟩
  obtain ⟨h4, e4, o4, g4, i4⟩ := pF_w R2.2.2.2.2.2.1 (.int (nI 0))
  have R4 : RR h4 (z + 259) V W P n X 0 e := R2.len o4 g4 i4
  refine ⟨_, R2.2.2.2.2.2.1, h4, e4, hk' h4 ⟨V, F, n, Q, p, X, 0, fl, W, P, e, C2.fr (fun q q1 q2 => o4 q (by omega)), R4, ?_⟩⟩
  obtain ⟨p1, p2, p3, p4, p5, p6, p7⟩ := pr
  exact ⟨p1, p2, p3, p4, by omega, fun i hi => by omega, p7⟩
theorem step_failure (I : Inv N h z) (x : Int32) : Step N h z (fun z => wp_X8_failure z x) (fun M => wp_X9_failure M x) := by
  obtain ⟨V, F, n, Q, p, X, tn, fl, W, P, e, C, R, pr⟩ := I
  have c3 := C.2.2.2.2.2.2.1
  have ek := pr.2.2.2.2.2.2.1
  have r3 : ∀ k, k < 4 → gF h (z + 259) 9 (7 + k) = some (.int (fl k)) := fun k hk => by rw [R.2.2.2.2.2.2.2 (7 + k) (by omega) (by omega), ek k hk]
  have fin : ∀ K' : Int32 → Hp → Prop, ∀ r, (∀ h2, Inv N h2 z → K' r h2) → K' r h := fun K' r hk' => hk' h ⟨V, F, n, Q, p, X, tn, fl, W, P, e, C, R, pr⟩
  by_cases hx : ((0 : Nat) : Int) ≤ x.toInt ∧ x.toInt ≤ ((3 : Nat) : Int)
  · obtain ⟨k, hk31, rfl, ek2⟩ := of_toI (x := x) (by omega)
    by_cases h0 : fl 0 = nI 0
    · exact ⟨-9, fun K hk => c_within (by omega) (by omega) (n1 hx ⟨_, C.1.2.2.2.2.2.2, _, c3 0 (by omega), tkn h0 (hk h R.1.1 (fun K' hk' => e_inN (by omega) (by omega) (n1 hx ⟨_, r3 0 (by omega), tkn h0 (fin K' _ hk')⟩)))⟩)⟩
    · by_cases k0 : k = 0
      · exact ⟨fl 0, fun K hk => c_within (by omega) (by omega) (n1 hx ⟨_, C.1.2.2.2.2.2.2, _, c3 0 (by omega), skn h0 (b_eq (by omega) (by omega) (fun _ => ⟨_, C.1.2.2.2.2.2.2, _, c3 0 (by omega), hk h R.1.1 (fun K' hk' => e_inN (by omega) (by omega) (n1 hx ⟨_, r3 0 (by omega), skn h0 (b_ne (b := 0) (by omega) (by omega) (fun q => absurd k0 q) (fun _ => ⟨_, r3 0 (by omega), fin K' _ hk'⟩))⟩))⟩) (fun q => absurd k0 q))⟩)⟩
      · by_cases k1 : k = 1
        · exact ⟨fl 1, fun K hk => c_within (by omega) (by omega) (n1 hx ⟨_, C.1.2.2.2.2.2.2, _, c3 0 (by omega), skn h0 (b_eq (by omega) (by omega) (fun q => absurd q k0) (fun _ => b_eq (by omega) (by omega) (fun _ => ⟨_, C.1.2.2.2.2.2.2, _, c3 1 (by omega), hk h R.1.1 (fun K' hk' => e_inN (by omega) (by omega) (n1 hx ⟨_, r3 0 (by omega), skn h0 (b_ne (b := 0) (by omega) (by omega) (fun _ => b_ne (by omega) (by omega) (fun q => absurd k1 q) (fun _ => ⟨_, r3 1 (by omega), fin K' _ hk'⟩)) (fun q => absurd q k0))⟩))⟩) (fun q => absurd k1 q)))⟩)⟩
        · by_cases k2 : k = 2
          · exact ⟨fl 2, fun K hk => c_within (by omega) (by omega) (n1 hx ⟨_, C.1.2.2.2.2.2.2, _, c3 0 (by omega), skn h0 (b_eq (by omega) (by omega) (fun q => absurd q k0) (fun _ => b_eq (by omega) (by omega) (fun q => absurd q k1) (fun _ => b_eq (by omega) (by omega) (fun _ => ⟨_, C.1.2.2.2.2.2.2, _, c3 2 (by omega), hk h R.1.1 (fun K' hk' => e_inN (by omega) (by omega) (n1 hx ⟨_, r3 0 (by omega), skn h0 (b_ne (b := 0) (by omega) (by omega) (fun _ => b_ne (by omega) (by omega) (fun _ => b_ne (by omega) (by omega) (fun q => absurd k2 q) (fun _ => ⟨_, r3 2 (by omega), fin K' _ hk'⟩)) (fun q => absurd q k1)) (fun q => absurd q k0))⟩))⟩) (fun q => absurd k2 q))))⟩)⟩
          · exact ⟨fl 3, fun K hk => c_within (by omega) (by omega) (n1 hx ⟨_, C.1.2.2.2.2.2.2, _, c3 0 (by omega), skn h0 (b_eq (by omega) (by omega) (fun q => absurd q k0) (fun _ => b_eq (by omega) (by omega) (fun q => absurd q k1) (fun _ => b_eq (by omega) (by omega) (fun q => absurd q k2) (fun _ => ⟨_, C.1.2.2.2.2.2.2, _, c3 3 (by omega), hk h R.1.1 (fun K' hk' => e_inN (by omega) (by omega) (n1 hx ⟨_, r3 0 (by omega), skn h0 (b_ne (b := 0) (by omega) (by omega) (fun _ => b_ne (by omega) (by omega) (fun _ => b_ne (by omega) (by omega) (fun _ => ⟨_, r3 3 (by omega), fin K' _ hk'⟩) (fun q => absurd q k2)) (fun q => absurd q k1)) (fun q => absurd q k0))⟩))⟩))))⟩)⟩
  · exact ⟨-1, fun K hk => c_within (by omega) (by omega) (n0 hx (hk h R.1.1 (fun K' hk' => e_inN (by omega) (by omega) (n0 hx (fin K' _ hk')))))⟩
end S3
