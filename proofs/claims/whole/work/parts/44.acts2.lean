/-! scan, publish, look on both sides -/
def scV (V : Nat → Nat) (m r : Nat) : Nat → Nat := fun i =>
  if i = 0 then V 0 + 1 else if i = 9 + 5 * V 0 then m else if i = 9 + 5 * V 0 + 1 then r else if i = 9 + 5 * V 0 + 2 then V (6 + m) else if i = 9 + 5 * V 0 + 3 then 0 else if i = 9 + 5 * V 0 + 4 then 0 else V i
theorem sc_ref (V : Nat → Nat) (m r : Nat) : u1 (u1 (u1 (u1 (u1 (u1 V (9 + 5 * V 0 + 0) m) (9 + 5 * V 0 + 1) r) (9 + 5 * V 0 + 2) (V (6 + m))) (9 + 5 * V 0 + 3) 0) (9 + 5 * V 0 + 4) 0) 0 (V 0 + 1) = scV V m r := by
  funext i
  simp only [u1, scV]
  repeat' split
  all_goals first | rfl | omega
theorem sc_cls (V : Nat → Nat) (m r : Nat) : u1 (u1 (u1 (u1 (u1 (u1 V (9 + 5 * V 0) m) (9 + 5 * V 0 + 1) r) (9 + 5 * V 0 + 4) 0) (9 + 5 * V 0 + 3) 0) (9 + 5 * V 0 + 2) (V (6 + m))) 0 (V 0 + 1) = scV V m r := by
  funext i
  simp only [u1, scV]
  repeat' split
  all_goals first | rfl | omega
theorem scV_ok {N : Nat} {V : Nat → Nat} {m r : Nat} (k : OK N V) (h40 : V 0 < 40) (hm : m < 3) (hr : r < 1000000000000) : OK (N + 1) (scV V m r) := by
  obtain ⟨⟨a0, a1, a2, a3, a4, a5⟩, b, c, e, f⟩ := k
  have far : ∀ i, i ≠ 0 → (i < 9 ∨ 209 ≤ i) → scV V m r i = V i := fun i h1 h2 => by
    unfold scV
    rw [if_neg h1, if_neg (by omega), if_neg (by omega), if_neg (by omega), if_neg (by omega), if_neg (by omega)]
  have z0 : scV V m r 0 = V 0 + 1 := if_pos rfl
  refine ⟨⟨?_, ?_, ?_, ?_, ?_, ?_⟩, fun i hi => ?_, fun j hj => ?_, fun v hv => ⟨?_, fun i hi => ?_⟩, fun u hu => ?_⟩
  · rw [z0]; omega
  · rw [far _ (by omega) (by omega)]; exact a1
  · rw [far _ (by omega) (by omega)]; exact a2
  · rw [far _ (by omega) (by omega)]; exact a3
  · rw [far _ (by omega) (by omega)]; exact a4
  · rw [far _ (by omega) (by omega)]; exact a5
  · obtain ⟨b1, b2, b3, b4, b5⟩ := b i hi
    have cm := c m hm
    refine ⟨?_, ?_, ?_, ?_, ?_⟩ <;> (unfold scV; repeat' split) <;> omega
  · rw [far _ (by omega) (by omega)]; have := c j hj; omega
  · rw [far _ (by omega) (by omega)]; exact (e v hv).1
  · rw [far _ (by omega) (by omega)]; exact (e v hv).2 i hi
  · rw [far _ (by omega) (by omega)] at hu
    rw [far _ (by omega) (by omega), z0]
    have := f u hu
    omega
section AC2
variable {N : Nat} {V : Nat → Nat}
theorem act_scan (k : OK N V) (hN : N < 2 ^ 29) (x : Int32) (y : Int64) : Act N V (fun z => wp_X1_addCard (z + 1) x y) (fun M => wp_X9_scans M (Int32.toInt64 x) y) := by
  have o := k.c
  have h40 := o.1
  by_cases hx : ((0 : Nat) : Int) ≤ x.toInt ∧ x.toInt ≤ ((2 : Nat) : Int)
  · by_cases hy : 0 ≤ y.toInt ∧ y.toInt ≤ 999999999999
    · obtain ⟨m, hm31, rfl, em⟩ := of_toI (x := x) (by omega)
      obtain ⟨r, hr63, rfl, er⟩ := of_toL hy.1
      have hm : m < 3 := by omega
      have hr : r < 1000000000000 := by omega
      by_cases hf : V 0 = 40
      · exact ⟨-3, V, Or.inl ⟨m3_lt.1, m3_lt.2, rfl⟩, fun h z F K C hk => c_within (by omega) (by omega) (b1 hx (c_isRow (n1 hy ⟨_, C.2.2.1, _, C.B.cards, b_lt (by omega) (by omega) (fun q => by omega) (fun _ => hk h F (fun _ _ => rfl) C)⟩))), fun h M K R P hk => e_inN (by omega) (by omega) (b1 hx (e_isRow (n1 hy ⟨_, R.2.1, _, R.at 0 rfl (by omega), l_ne (by omega) (by omega) (fun q => absurd hf q) (fun _ => hk h (fun _ _ _ => rfl) R P)⟩)))⟩
      · have hlt : V 0 < 40 := by omega
        refine ⟨nI (V 0), scV V m r, Or.inr ⟨by rw [nI_toInt (by omega)]; omega, scV_ok k hlt hm hr, fun i hi => ?_⟩, fun h z F K C hk => ?_, fun h M K R P hk => ?_⟩
        · unfold scV
          rw [if_neg (by omega), if_neg (by omega), if_neg (by omega), if_neg (by omega), if_neg (by omega), if_neg (by omega)]
        · obtain ⟨h1, e1, o1, B1⟩ := C.B.put_m hlt m
          have C1 := C.books (fun q hq => o1 q (by omega)) B1
          obtain ⟨h2, e2, o2, B2⟩ := B1.put_r hlt r
          have C2 := C1.books (fun q hq => o2 q (by omega)) B2
          obtain ⟨h3, e3, o3, B3⟩ := B2.put_t hlt 0
          have C3 := C2.books (fun q hq => o3 q (by omega)) B3
          obtain ⟨h4, e4, o4, B4⟩ := B3.put_s hlt 0
          have C4 := C3.books (fun q hq => o4 q (by omega)) B4
          obtain ⟨h5, e5, o5, B5⟩ := B4.put_c hlt (V (6 + m))
          have C5 := C4.books (fun q hq => o5 q (by omega)) B5
          obtain ⟨h6, e6, o6, B6⟩ := B5.put_f0 (V 0 + 1)
          have C6 := C5.books (fun q hq => o6 q (by omega)) B6
          rw [sc_cls] at C6
          have cl := B4.cl hm
          rw [u1_n (by omega), u1_n (by omega), u1_n (by omega), u1_n (by omega)] at cl
          refine c_within (by omega) (by omega) (b1 hx (c_isRow (n1 hy ⟨_, C.2.2.1, _, C.B.cards, b_lt (by omega) (by omega) (fun _ => ⟨_, C.2.2.1, _, C.B.fm, h1, e1, _, C1.2.2.1, _, C1.B.fr', h2, e2, _, C2.2.2.1, _, C2.B.ft, h3, e3, _, C3.2.2.1, _, C3.B.fs, h4, e4, _, C4.2.2.1, _, C4.B.fc, _, C4.2.2.1, _, C4.B.fcl, _, cl, h5, e5, _, C5.2.2.1, h6, (by rw [nI_add]; exact e6), hk h6 F (fun q hq => ?_) C6⟩) (fun q => by omega)⟩)))
          rw [o6 q (by omega), o5 q (by omega), o4 q (by omega), o3 q (by omega), o2 q (by omega), o1 q (by omega)]
        · obtain ⟨h1, e1, o1, R1⟩ := R.put (i := 9 + 5 * V 0 + 0) (by omega) m
          obtain ⟨h2, e2, o2, R2⟩ := R1.put (i := 9 + 5 * V 0 + 1) (by omega) r
          obtain ⟨h3, e3, o3, R3⟩ := R2.put (i := 9 + 5 * V 0 + 2) (by omega) (V (6 + m))
          obtain ⟨h4, e4, o4, R4⟩ := R3.put (i := 9 + 5 * V 0 + 3) (by omega) 0
          obtain ⟨h5, e5, o5, R5⟩ := R4.put (i := 9 + 5 * V 0 + 4) (by omega) 0
          obtain ⟨h6, e6, o6, R6⟩ := R5.put (i := 0) (by omega) (V 0 + 1)
          rw [sc_ref] at R6
          have cl := R2.at (6 + m) rfl (by omega)
          rw [u1_n (by omega), u1_n (by omega)] at cl
          have c0 := R5.at 0 rfl (by omega)
          rw [u1_n (by omega), u1_n (by omega), u1_n (by omega), u1_n (by omega), u1_n (by omega)] at c0
          refine e_inN (by omega) (by omega) (b1 hx (e_isRow (n1 hy ⟨_, R.2.1, _, R.at 0 rfl (by omega), l_ne (by omega) (by omega) (fun _ => ⟨_, R.2.1, _, R.at 0 rfl (by omega), fun y ey => ?_⟩) (fun q => absurd q hf)⟩)))
          rw [lN_i] at ey
          subst ey
          refine ⟨_, R.2.1, e_c ⟨h1, (by rw [nI_l hm31]; exact e1), _, R1.2.1, e_c ⟨h2, e2, _, R2.2.1, e_c ⟨_, R2.2.1, lN (V (6 + m)), (by rw [back_i hm31, nI_add]; exact cl), h3, e3, _, R3.2.1, e_c ⟨h4, e4, _, R4.2.1, e_c ⟨h5, e5, _, R5.2.1, _, c0, h6, (by rw [lN_add]; exact e6), hk h6 (fun q q1 q2 => ?_) R6 (P.fr (fun q hq => ?_))⟩⟩⟩⟩⟩⟩
          · rw [o6 q q1, o5 q q1, o4 q q1, o3 q q1, o2 q q1, o1 q q1]
          · have q1 : q ≠ M + 1 := by omega
            rw [o6 q q1, o5 q q1, o4 q q1, o3 q q1, o2 q q1, o1 q q1]
    · exact ⟨-1, V, Or.inl ⟨m1_lt.1, m1_lt.2, rfl⟩, fun h z F K C hk => c_within (by omega) (by omega) (b1 hx (c_isRow (n0 hy (hk h F (fun _ _ => rfl) C)))), fun h M K R P hk => e_inN (by omega) (by omega) (b1 hx (e_isRow (n0 hy (hk h (fun _ _ _ => rfl) R P))))⟩
  · exact ⟨-1, V, Or.inl ⟨m1_lt.1, m1_lt.2, rfl⟩, fun h z F K C hk => c_within (by omega) (by omega) (b0 hx (hk h F (fun _ _ => rfl) C)), fun h M K R P hk => e_inN (by omega) (by omega) (b0 hx (hk h (fun _ _ _ => rfl) R P))⟩
def lkV (V : Nat → Nat) (i r : Nat) : Nat → Nat := u1 (u1 V (9 + 5 * i + 3) 2) (9 + 5 * i + 4) r
theorem lkV_ok {i r : Nat} (k : OK N V) (hi : i < 40) (hr : r < 1000000000000) : OK (N + 1) (lkV V i r) := by
  obtain ⟨⟨a0, a1, a2, a3, a4, a5⟩, b, c, e, f⟩ := k
  have far : ∀ j, j ≠ 9 + 5 * i + 3 → j ≠ 9 + 5 * i + 4 → lkV V i r j = V j := fun j h1 h2 => by
    unfold lkV
    rw [u1_n h2, u1_n h1]
  refine ⟨⟨?_, ?_, ?_, ?_, ?_, ?_⟩, fun j hj => ?_, fun j hj => ?_, fun v hv => ⟨?_, fun j hj => ?_⟩, fun u hu => ?_⟩
  · rw [far _ (by omega) (by omega)]; exact a0
  · rw [far _ (by omega) (by omega)]; exact a1
  · rw [far _ (by omega) (by omega)]; exact a2
  · rw [far _ (by omega) (by omega)]; exact a3
  · rw [far _ (by omega) (by omega)]; exact a4
  · rw [far _ (by omega) (by omega)]; exact a5
  · obtain ⟨b1, b2, b3, b4, b5⟩ := b j hj
    refine ⟨?_, ?_, ?_, ?_, ?_⟩ <;> (unfold lkV u1; repeat' split) <;> omega
  · rw [far _ (by omega) (by omega)]; have := c j hj; omega
  · rw [far _ (by omega) (by omega)]; exact (e v hv).1
  · rw [far _ (by omega) (by omega)]; exact (e v hv).2 j hj
  · rw [far _ (by omega) (by omega)] at hu
    rw [far _ (by omega) (by omega), far _ (by omega) (by omega)]
    exact f u hu
theorem act_look (k : OK N V) (hN : N < 2 ^ 29) (x : Int32) (y : Int64) : Act N V (fun z => wp_X1_lookAt (z + 1) x y) (fun M => wp_X9_looks M (Int32.toInt64 x) y) := by
  have o := k.c
  have d := k.d (by omega)
  have ee := k.e
  have h40 := o.1
  have eR : ∀ {h : Hp} {M : Nat} {K : Int32 → Hp → Prop}, RM h M V → K (bI (0 ≤ x.toInt ∧ x.toInt < (V 0 : Int))) h → wp_X9_in (Int32.toInt64 x) (lN 0) (lN (V 0) - lN 1) K h := by
    intro h M K R hk
    refine e_in ?_
    rw [bI_c (q := 0 ≤ x.toInt ∧ x.toInt < (V 0 : Int))]
    · exact hk
    · rw [le64, le64, toI64]
      have e : (lN (V 0) - lN 1).toInt = (V 0 : Int) - 1 := by
        by_cases z : V 0 = 0
        · rw [z]; decide
        · rw [lN_sub (by omega), lNT (by omega)]; omega
      rw [e, lNT (by omega)]
      omega
  by_cases hx : 0 ≤ x.toInt ∧ x.toInt < (V 0 : Int)
  · by_cases hy : 0 ≤ y.toInt ∧ y.toInt ≤ 999999999999
    · obtain ⟨i, hi31, rfl, ei⟩ := of_toI hx.1
      obtain ⟨r, hr63, rfl, er⟩ := of_toL hy.1
      have hi : i < V 0 := by omega
      have hi40 : i < 40 := by omega
      have hr : r < 1000000000000 := by omega
      have hs := (d i hi40).2.2.2.1
      have h2 := o.2.2.1
      by_cases hf : V (9 + 5 * i + 3) = 1
      · have k' := lkV_ok k hi40 hr
        have o' := k'.c
        have d' := k'.d (by omega)
        have ee' := k'.e
        have v0 : lkV V i r 0 = V 0 := by unfold lkV; rw [u1_n (by omega), u1_n (by omega)]
        have v2 : lkV V i r 2 = V 2 := by unfold lkV; rw [u1_n (by omega), u1_n (by omega)]
        have hi' : i < lkV V i r 0 := by rw [v0]; exact hi
        have hd := df_lt (pkd V (V 2) i) (pkd (lkV V i r) (V 2) i)
        refine ⟨nI (df (pkd V (V 2) i) (pkd (lkV V i r) (V 2) i)), lkV V i r, Or.inr ⟨by rw [nI_toInt (by omega)]; omega, k', fun j hj => by unfold lkV; rw [u1_n (by omega), u1_n (by omega)]⟩, fun h z F K C hk => ⟨_, C.2.2.1, C.B.o, c_hasCard C.B h40 (b1 hx (c_isRow (n1 hy ⟨_, C.2.2.1, _, C.B.fs, _, C.B.s hi40, b_eq (by omega) (by omega) (fun _ => ⟨_, C.2.1, C.S.o C.w, c_workOut C.S C.w o d ee (fun h1 F1 w1 W1 => ?_)⟩) (fun q => absurd hf q)⟩)))⟩, fun h M K R P hk => ⟨_, R.2.1, _, R.at 0 rfl (by omega), eR R (b1 hx (e_isRow (n1 hy (fun y ey => ?_))))⟩⟩
        · have C1 := C.sight w1
          obtain ⟨h3, e3, o3, B3⟩ := C1.B.put_s hi40 2
          have C3 := C1.books (fun q hq => o3 q (by omega)) B3
          obtain ⟨h4, e4, o4, B4⟩ := B3.put_t hi40 r
          have C4 : CK h4 z (lkV V i r) F1 := C3.books (fun q hq => o4 q (by omega)) B4
          refine ⟨_, C1.2.1, _, C1.S.f C1.w (k := 10) (by omega), _, C1.w.gv (k := 10) (by omega) (by omega) (by show _ < 40; omega) (W1.2.2.1 i hi).2.1, _, C1.2.2.1, _, C1.B.fs, h3, e3, _, C3.2.2.1, _, C3.B.ft, h4, e4, _, C4.2.1, C4.S.o C4.w, c_workOut C4.S C4.w o' d' ee' (fun h5 F5 w5 W5 => ?_)⟩
          have C5 := C4.sight w5
          have p5 := (W5.2.2.1 i hi').2.1
          rw [v2] at p5
          refine ⟨_, C5.2.1, _, C5.S.f C5.w (k := 10) (by omega), _, C5.w.gv (k := 10) (by omega) (by omega) (by show _ < 40; omega) p5, c_differing (pkd_lt _ _ _) (pkd_lt _ _ _) (hk h5 F5 (fun q hq => ?_) C5)⟩
          rw [w5.1 q (by omega), o4 q (by omega), o3 q (by omega), w1.1 q (by omega)]
        · rw [back_i hi31] at ey
          subst ey
          obtain ⟨h3, e3, o3, R3⟩ := R.put (i := 9 + 5 * i + 3) (by omega) 2
          obtain ⟨h4, e4, o4, R4⟩ := R3.put (i := 9 + 5 * i + 4) (by omega) r
          replace R4 : RM h4 M (lkV V i r) := R4
          refine ⟨_, R.2.1, e_c ⟨_, R.at (9 + 5 * i + 3) rfl (by omega), l_eq (by omega) (by omega) (fun _ => ⟨R.1, e_length R ⟨R.1, e_outcomes R o d hi (by omega) ⟨_, R.2.1, e_c ⟨h3, e3, _, R3.2.1, e_c ⟨h4, e4, R4.1, e_length R4 ⟨R4.1, e_outcomes R4 o' d' hi' (by rw [v2]; omega) (e_differences (pkd_lt _ _ _) (pkd_lt _ _ _) ?_)⟩⟩⟩⟩⟩⟩) (fun q => absurd hf q)⟩⟩
          rw [v2]
          exact hk h4 (fun q q1 q2 => (o4 q q1).trans (o3 q q1)) R4 (P.fr (fun q hq => (o4 q (by omega)).trans (o3 q (by omega))))
      · exact ⟨-2, V, Or.inl ⟨m2_lt.1, m2_lt.2, rfl⟩, fun h z F K C hk => ⟨_, C.2.2.1, C.B.o, c_hasCard C.B h40 (b1 hx (c_isRow (n1 hy ⟨_, C.2.2.1, _, C.B.fs, _, C.B.s hi40, b_eq (by omega) (by omega) (fun q => absurd q hf) (fun _ => hk h F (fun _ _ => rfl) C)⟩)))⟩, fun h M K R P hk => ⟨_, R.2.1, _, R.at 0 rfl (by omega), eR R (b1 hx (e_isRow (n1 hy (fun y ey => by
          rw [back_i hi31] at ey
          subst ey
          exact ⟨_, R.2.1, e_c ⟨_, R.at (9 + 5 * i + 3) rfl (by omega), l_eq (by omega) (by omega) (fun q => absurd q hf) (fun _ => hk h (fun _ _ _ => rfl) R P)⟩⟩))))⟩⟩
    · exact ⟨-1, V, Or.inl ⟨m1_lt.1, m1_lt.2, rfl⟩, fun h z F K C hk => ⟨_, C.2.2.1, C.B.o, c_hasCard C.B h40 (b1 hx (c_isRow (n0 hy (hk h F (fun _ _ => rfl) C))))⟩, fun h M K R P hk => ⟨_, R.2.1, _, R.at 0 rfl (by omega), eR R (b1 hx (e_isRow (n0 hy (hk h (fun _ _ _ => rfl) R P))))⟩⟩
  · exact ⟨-1, V, Or.inl ⟨m1_lt.1, m1_lt.2, rfl⟩, fun h z F K C hk => ⟨_, C.2.2.1, C.B.o, c_hasCard C.B h40 (b0 hx (hk h F (fun _ _ => rfl) C))⟩, fun h M K R P hk => ⟨_, R.2.1, _, R.at 0 rfl (by omega), eR R (b0 hx (hk h (fun _ _ _ => rfl) R P))⟩⟩
end AC2
