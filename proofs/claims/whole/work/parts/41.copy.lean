/-! the class: copies of books, slots, states -/
theorem BK.ext {h : Hp} {b : Nat} {T T' : Nat → Nat} (B : BK h b T) (e : ∀ i, i < 455 → T' i = T i) : BK h b T' := by
  obtain ⟨b0, b1, b2, b3, b4, b5, b6, b7, b8, b9, b10, b11, b12⟩ := B
  refine ⟨b0, ?_, ?_, b3, fun i hi => ?_, fun i hi => ?_, fun i hi => ?_, fun i hi => ?_, fun i hi => ?_, fun i hi => ?_, fun i hi => ?_, fun i hi => ?_, fun v hv i hi => ?_⟩
  · rw [e _ (by omega)]; exact b1
  · rw [e _ (by omega)]; exact b2
  · rw [e _ (by omega)]; exact b4 i hi
  · rw [e _ (by omega)]; exact b5 i hi
  · rw [e _ (by omega)]; exact b6 i hi
  · rw [e _ (by omega)]; exact b7 i hi
  · rw [e _ (by omega)]; exact b8 i hi
  · rw [e _ (by omega)]; exact b9 i hi
  · rw [e _ (by omega)]; exact b10 i hi
  · rw [e _ (by omega)]; exact b11 i hi
  · rw [e _ (by omega)]; exact b12 v hv i hi
theorem c_copyFrom {K : Hp → Prop} {h : Hp} {a b : Nat} {T T' : Nat → Nat} (A : BK h a T) (B : BK h b T') (dis : a + 10 ≤ b ∨ b + 10 ≤ a) (hk : ∀ h', (∀ q, (q < b ∨ b + 10 ≤ q) → h' q = h q) → BK h' b T → K h') : wp_X0_copyFrom b a K h := by
  obtain ⟨x0, e0, p0, q0, i0⟩ := pF_w B.cards (.int (nI (T 0)))
  have c1 : gF x0 b 0 1 = some (.int (nI (T' 1))) := by rw [q0 1, if_neg (by omega)]; exact B.vers
  obtain ⟨y0, e1, p1, q1, i1⟩ := pF_w c1 (.int (nI (T 1)))
  have ff : ∀ j, 2 ≤ j → gF y0 b 0 j = gF h b 0 j := fun j hj => by rw [q1 j, if_neg (by omega), q0 j, if_neg (by omega)]
  have fr0 : ∀ q, (q < b ∨ b + 0 < q) → y0 q = h q := fun q hq => (p1 q (by omega)).trans (p0 q (by omega))
  have Ax : BK x0 a T := A.fr (fun q h1 h2 => p0 q (by omega))
  have A0 : BK y0 a T := A.fr (fun q h1 h2 => fr0 q (by omega))
  have d0 : gI y0 (b + 1) 0 (nI 39) = some (nI (T' (9 + 5 * 39))) := by rw [gI_c (fr0 _ (by omega))]; exact (B.m (i := 39) (by omega))
  obtain ⟨y1, ee0, oo0, gg0⟩ := cpI_w (a0 := a + 1) (a := b + 1) (sp := 0) (dp := 0) (n := 40) (by omega) (by omega) (by omega) (A0.m (i := 39) (by omega)) d0
  have fr1 : ∀ q, (q < b ∨ b + 1 < q) → y1 q = h q := fun q hq => (oo0 q (by omega)).trans (fr0 q (by omega))
  have A1 : BK y1 a T := A.fr (fun q h1 h2 => fr1 q (by omega))
  have d1 : gI y1 (b + 2) 0 (nI 39) = some (nI (T' (9 + 5 * 39 + 2))) := by rw [gI_c (fr1 _ (by omega))]; exact (B.c (i := 39) (by omega))
  obtain ⟨y2, ee1, oo1, gg1⟩ := cpI_w (a0 := a + 2) (a := b + 2) (sp := 0) (dp := 0) (n := 40) (by omega) (by omega) (by omega) (A1.c (i := 39) (by omega)) d1
  have fr2 : ∀ q, (q < b ∨ b + 2 < q) → y2 q = h q := fun q hq => (oo1 q (by omega)).trans (fr1 q (by omega))
  have A2 : BK y2 a T := A.fr (fun q h1 h2 => fr2 q (by omega))
  have d2 : gI y2 (b + 3) 0 (nI 39) = some (nI (T' (9 + 5 * 39 + 3))) := by rw [gI_c (fr2 _ (by omega))]; exact (B.s (i := 39) (by omega))
  obtain ⟨y3, ee2, oo2, gg2⟩ := cpI_w (a0 := a + 3) (a := b + 3) (sp := 0) (dp := 0) (n := 40) (by omega) (by omega) (by omega) (A2.s (i := 39) (by omega)) d2
  have fr3 : ∀ q, (q < b ∨ b + 3 < q) → y3 q = h q := fun q hq => (oo2 q (by omega)).trans (fr2 q (by omega))
  have A3 : BK y3 a T := A.fr (fun q h1 h2 => fr3 q (by omega))
  have d3 : gL y3 (b + 4) (nI 39) = some (lN (T' (9 + 5 * 39 + 1))) := by rw [gL_c (fr3 _ (by omega))]; exact (B.r (i := 39) (by omega))
  obtain ⟨y4, ee3, oo3, gg3⟩ := cpL_w (a0 := a + 4) (a := b + 4) (sp := 0) (dp := 0) (n := 40) (by omega) (by omega) (by omega) (A3.r (i := 39) (by omega)) d3
  have fr4 : ∀ q, (q < b ∨ b + 4 < q) → y4 q = h q := fun q hq => (oo3 q (by omega)).trans (fr3 q (by omega))
  have A4 : BK y4 a T := A.fr (fun q h1 h2 => fr4 q (by omega))
  have d4 : gL y4 (b + 5) (nI 39) = some (lN (T' (9 + 5 * 39 + 4))) := by rw [gL_c (fr4 _ (by omega))]; exact (B.t (i := 39) (by omega))
  obtain ⟨y5, ee4, oo4, gg4⟩ := cpL_w (a0 := a + 5) (a := b + 5) (sp := 0) (dp := 0) (n := 40) (by omega) (by omega) (by omega) (A4.t (i := 39) (by omega)) d4
  have fr5 : ∀ q, (q < b ∨ b + 5 < q) → y5 q = h q := fun q hq => (oo4 q (by omega)).trans (fr4 q (by omega))
  have A5 : BK y5 a T := A.fr (fun q h1 h2 => fr5 q (by omega))
  have d5 : gI y5 (b + 6) 0 (nI 2) = some (nI (T' (6 + 2))) := by rw [gI_c (fr5 _ (by omega))]; exact (B.cl (i := 2) (by omega))
  obtain ⟨y6, ee5, oo5, gg5⟩ := cpI_w (a0 := a + 6) (a := b + 6) (sp := 0) (dp := 0) (n := 3) (by omega) (by omega) (by omega) (A5.cl (i := 2) (by omega)) d5
  have fr6 : ∀ q, (q < b ∨ b + 6 < q) → y6 q = h q := fun q hq => (oo5 q (by omega)).trans (fr5 q (by omega))
  have A6 : BK y6 a T := A.fr (fun q h1 h2 => fr6 q (by omega))
  have d6 : gI y6 (b + 7) 0 (nI 3) = some (nI (T' (2 + 3))) := by rw [gI_c (fr6 _ (by omega))]; exact (B.n (i := 3) (by omega))
  obtain ⟨y7, ee6, oo6, gg6⟩ := cpI_w (a0 := a + 7) (a := b + 7) (sp := 0) (dp := 0) (n := 4) (by omega) (by omega) (by omega) (A6.n (i := 3) (by omega)) d6
  have fr7 : ∀ q, (q < b ∨ b + 7 < q) → y7 q = h q := fun q hq => (oo6 q (by omega)).trans (fr6 q (by omega))
  have A7 : BK y7 a T := A.fr (fun q h1 h2 => fr7 q (by omega))
  have d7 : gI y7 (b + 8) 0 (nI 5) = some (nI (T' (209 + 41 * 5))) := by rw [gI_c (fr7 _ (by omega))]; exact (B.v (i := 5) (by omega))
  obtain ⟨y8, ee7, oo7, gg7⟩ := cpI_w (a0 := a + 8) (a := b + 8) (sp := 0) (dp := 0) (n := 6) (by omega) (by omega) (by omega) (A7.v (i := 5) (by omega)) d7
  have fr8 : ∀ q, (q < b ∨ b + 8 < q) → y8 q = h q := fun q hq => (oo7 q (by omega)).trans (fr7 q (by omega))
  have A8 : BK y8 a T := A.fr (fun q h1 h2 => fr8 q (by omega))
  have d8 : gI y8 (b + 9) 0 (nI 239) = some (nI (T' (209 + 41 * 5 + 1 + 39))) := by rw [gI_c (fr8 _ (by omega))]; exact (B.vo (v := 5) (i := 39) (by omega) (by omega))
  obtain ⟨y9, ee8, oo8, gg8⟩ := cpI_w (a0 := a + 9) (a := b + 9) (sp := 0) (dp := 0) (n := 240) (by omega) (by omega) (by omega) (A8.vo (v := 5) (i := 39) (by omega) (by omega)) d8
  have fr9 : ∀ q, (q < b ∨ b + 9 < q) → y9 q = h q := fun q hq => (oo8 q (by omega)).trans (fr8 q (by omega))
  have A9 : BK y9 a T := A.fr (fun q h1 h2 => fr9 q (by omega))
  have bb0 : y0 b = y0 b := rfl
  have bb1 : y1 b = y0 b := by rw [oo0 _ (by omega)]
  have bb2 : y2 b = y0 b := by rw [oo1 _ (by omega), oo0 _ (by omega)]
  have bb3 : y3 b = y0 b := by rw [oo2 _ (by omega), oo1 _ (by omega), oo0 _ (by omega)]
  have bb4 : y4 b = y0 b := by rw [oo3 _ (by omega), oo2 _ (by omega), oo1 _ (by omega), oo0 _ (by omega)]
  have bb5 : y5 b = y0 b := by rw [oo4 _ (by omega), oo3 _ (by omega), oo2 _ (by omega), oo1 _ (by omega), oo0 _ (by omega)]
  have bb6 : y6 b = y0 b := by rw [oo5 _ (by omega), oo4 _ (by omega), oo3 _ (by omega), oo2 _ (by omega), oo1 _ (by omega), oo0 _ (by omega)]
  have bb7 : y7 b = y0 b := by rw [oo6 _ (by omega), oo5 _ (by omega), oo4 _ (by omega), oo3 _ (by omega), oo2 _ (by omega), oo1 _ (by omega), oo0 _ (by omega)]
  have bb8 : y8 b = y0 b := by rw [oo7 _ (by omega), oo6 _ (by omega), oo5 _ (by omega), oo4 _ (by omega), oo3 _ (by omega), oo2 _ (by omega), oo1 _ (by omega), oo0 _ (by omega)]
  have bb9 : y9 b = y0 b := by rw [oo8 _ (by omega), oo7 _ (by omega), oo6 _ (by omega), oo5 _ (by omega), oo4 _ (by omega), oo3 _ (by omega), oo2 _ (by omega), oo1 _ (by omega), oo0 _ (by omega)]
  refine ⟨_, A.cards, x0, e0, _, Ax.vers, y0, e1, _, A0.fm, _, (by rw [gF_c bb0, ff _ (by omega)]; exact B.fm), y1, ee0, _, A1.fc, _, (by rw [gF_c bb1, ff _ (by omega)]; exact B.fc), y2, ee1, _, A2.fs, _, (by rw [gF_c bb2, ff _ (by omega)]; exact B.fs), y3, ee2, _, A3.fr', _, (by rw [gF_c bb3, ff _ (by omega)]; exact B.fr'), y4, ee3, _, A4.ft, _, (by rw [gF_c bb4, ff _ (by omega)]; exact B.ft), y5, ee4, _, A5.fcl, _, (by rw [gF_c bb5, ff _ (by omega)]; exact B.fcl), y6, ee5, _, A6.fn, _, (by rw [gF_c bb6, ff _ (by omega)]; exact B.fn), y7, ee6, _, A7.fv, _, (by rw [gF_c bb7, ff _ (by omega)]; exact B.fv), y8, ee7, _, A8.fo, _, (by rw [gF_c bb8, ff _ (by omega)]; exact B.fo), y9, ee8, hk y9 (fun q hq => fr9 q (by omega)) ⟨isO_c bb9 i1, ?_, ?_, fun k hk => ?_, fun i hi => ?_, fun i hi => ?_, fun i hi => ?_, fun i hi => ?_, fun i hi => ?_, fun i hi => ?_, fun i hi => ?_, fun i hi => ?_, fun v hv i hi => ?_⟩⟩
  · rw [gF_c bb9, q1 0, if_neg (by omega), q0 0, if_pos rfl]
  · rw [gF_c bb9, q1 1, if_pos rfl]
  · rw [gF_c bb9, ff _ (by omega)]; exact B.2.2.2.1 k hk
  · rw [gI_c (oo8 _ (by omega)), gI_c (oo7 _ (by omega)), gI_c (oo6 _ (by omega)), gI_c (oo5 _ (by omega)), gI_c (oo4 _ (by omega)), gI_c (oo3 _ (by omega)), gI_c (oo2 _ (by omega)), gI_c (oo1 _ (by omega)), gg0 i (by omega), if_pos (by omega), Nat.sub_zero, Nat.zero_add]; exact A0.m hi
  · rw [gI_c (oo8 _ (by omega)), gI_c (oo7 _ (by omega)), gI_c (oo6 _ (by omega)), gI_c (oo5 _ (by omega)), gI_c (oo4 _ (by omega)), gI_c (oo3 _ (by omega)), gI_c (oo2 _ (by omega)), gg1 i (by omega), if_pos (by omega), Nat.sub_zero, Nat.zero_add]; exact A1.c hi
  · rw [gI_c (oo8 _ (by omega)), gI_c (oo7 _ (by omega)), gI_c (oo6 _ (by omega)), gI_c (oo5 _ (by omega)), gI_c (oo4 _ (by omega)), gI_c (oo3 _ (by omega)), gg2 i (by omega), if_pos (by omega), Nat.sub_zero, Nat.zero_add]; exact A2.s hi
  · rw [gL_c (oo8 _ (by omega)), gL_c (oo7 _ (by omega)), gL_c (oo6 _ (by omega)), gL_c (oo5 _ (by omega)), gL_c (oo4 _ (by omega)), gg3 i (by omega), if_pos (by omega), Nat.sub_zero, Nat.zero_add]; exact A3.r hi
  · rw [gL_c (oo8 _ (by omega)), gL_c (oo7 _ (by omega)), gL_c (oo6 _ (by omega)), gL_c (oo5 _ (by omega)), gg4 i (by omega), if_pos (by omega), Nat.sub_zero, Nat.zero_add]; exact A4.t hi
  · rw [gI_c (oo8 _ (by omega)), gI_c (oo7 _ (by omega)), gI_c (oo6 _ (by omega)), gg5 i (by omega), if_pos (by omega), Nat.sub_zero, Nat.zero_add]; exact A5.cl hi
  · rw [gI_c (oo8 _ (by omega)), gI_c (oo7 _ (by omega)), gg6 i (by omega), if_pos (by omega), Nat.sub_zero, Nat.zero_add]; exact A6.n hi
  · rw [gI_c (oo8 _ (by omega)), gg7 i (by omega), if_pos (by omega), Nat.sub_zero, Nat.zero_add]; exact A7.v hi
  · rw [gg8 (v * 40 + i) (by omega), if_pos (by omega), Nat.sub_zero, Nat.zero_add]; exact A8.vo hv hi
/-- Slots at a hold the flags and the copies of U -/
def SLH (h : Hp) (a : Nat) : Prop := isO h a 5 ∧ gF h a 5 0 = some (.ref (a + 1)) ∧ gF h a 5 1 = some (.ref (a + 22)) ∧ ∀ k, k < 2 → gQ h (a + 1) 3 (nI k) = some (a + 2 + 10 * k)
def SLk (h : Hp) (a : Nat) (U : Nat → Nat) (k : Nat) : Prop := U (455 + 456 * k) ≤ 1 ∧ gI h (a + 22) 2 (nI k) = some (nI (U (455 + 456 * k))) ∧ ∃ T', BK h (a + 2 + 10 * k) T' ∧ (U (455 + 456 * k) ≠ 0 → ∀ i, i < 455 → T' i = U (456 + 456 * k + i))
def SL (h : Hp) (a : Nat) (U : Nat → Nat) : Prop := SLH h a ∧ ∀ k, k < 2 → SLk h a U k
theorem SLH.fr {h h' : Hp} {a : Nat} (S : SLH h a) (e : ∀ q, (q = a ∨ q = a + 1) → h' q = h q) : SLH h' a := by
  obtain ⟨s0, s1, s2, s3⟩ := S
  refine ⟨isO_c (e a (by omega)) s0, ?_, ?_, fun k hk => ?_⟩
  · rw [gF_c (e a (by omega))]; exact s1
  · rw [gF_c (e a (by omega))]; exact s2
  · rw [gQ_c (e _ (by omega))]; exact s3 k hk
theorem SLk.fr {h h' : Hp} {a k : Nat} {U : Nat → Nat} (S : SLk h a U k) (e : ∀ q, (a + 2 + 10 * k ≤ q ∧ q < a + 12 + 10 * k) → h' q = h q) (e2 : gI h' (a + 22) 2 (nI k) = gI h (a + 22) 2 (nI k)) : SLk h' a U k := by
  obtain ⟨s1, s2, T', B, f⟩ := S
  exact ⟨s1, e2.trans s2, T', B.fr (fun q h1 h2 => e q (by omega)), f⟩
theorem SL.fr {h h' : Hp} {a : Nat} {U : Nat → Nat} (S : SL h a U) (e : ∀ q, a ≤ q → q < a + 23 → h' q = h q) : SL h' a U :=
  ⟨S.1.fr (fun q hq => e q (by omega) (by omega)), fun k hk => (S.2 k hk).fr (fun q hq => e q (by omega) (by omega)) (gI_c (e _ (by omega) (by omega)) _ _)⟩
theorem SL.ext {h : Hp} {a : Nat} {U U' : Nat → Nat} (S : SL h a U) (e : ∀ i, i < 1367 → U' i = U i) : SL h a U' := by
  refine ⟨S.1, fun k hk => ?_⟩
  obtain ⟨s1, s2, T', B, f⟩ := S.2 k hk
  have ek := e (455 + 456 * k) (by omega)
  refine ⟨by rw [ek]; exact s1, by rw [ek]; exact s2, T', B, fun q i hi => ?_⟩
  rw [ek] at q
  rw [e _ (by omega)]
  exact f q i hi
theorem c_slotsCopy {K : Hp → Prop} {h : Hp} {a b : Nat} {U U' : Nat → Nat} (A : SL h a U) (B : SL h b U') (dis : a + 23 ≤ b ∨ b + 23 ≤ a) (hk : ∀ h', (∀ q, (q < b ∨ b + 23 ≤ q) → h' q = h q) → SL h' b U → K h') : wp_X5_copyFrom b a K h := by
  refine for_us (fun n k (g : Hp) => wp_X5_copyFrom_2 K b a n (nI k) g) (fun k g => (∀ q, (q < b ∨ b + 23 ≤ q) → g q = h q) ∧ SLH g b ∧ (∀ j, j < k → SLk g b U j) ∧ (∀ j, k ≤ j → j < 2 → SLk g b U' j)) 2 0 h (by omega) ⟨fun _ _ => rfl, B.1, fun j hj => by omega, fun j _ hj => B.2 j hj⟩ (fun n g I => ?_) (fun n k g _ hk2 I ih => ?_)
  · exact b_le (by omega) (by omega) (fun _ => hk g I.1 ⟨I.2.1, I.2.2.1⟩) (fun q => by omega)
  · obtain ⟨fr, H, S1, S2⟩ := I
    obtain ⟨AH, AK⟩ := A.fr (fun q h1 h2 => fr q (by omega))
    obtain ⟨ak1, ak2, Ta, Ba, fa⟩ := AK k hk2
    obtain ⟨bk1, bk2, Tb, Bb, fb⟩ := S2 k (Nat.le_refl _) hk2
    have hx : nI (U (455 + 456 * k)) = 0 ∨ nI (U (455 + 456 * k)) = 1 := by
      rcases (show U (455 + 456 * k) = 0 ∨ U (455 + 456 * k) = 1 by omega) with e | e <;> rw [e] <;> decide
    obtain ⟨h1, e1, o1, g1⟩ := sZ_w (i := k) (by omega) bk2 hx
    have r1 := g1 k (by omega)
    rw [if_pos rfl] at r1
    have H1 : SLH h1 b := H.fr (fun q hq => o1 q (by omega))
    have fr1 : ∀ q, (q < b ∨ b + 23 ≤ q) → h1 q = h q := fun q hq => (o1 q (by omega)).trans (fr q hq)
    have oth : ∀ j, j < 2 → j ≠ k → gI h1 (b + 22) 2 (nI j) = gI g (b + 22) 2 (nI j) := fun j hj hjk => by rw [g1 j (by omega), if_neg hjk]
    have S11 : ∀ j, j < k → SLk h1 b U j := fun j hj => (S1 j hj).fr (fun q hq => o1 q (by omega)) (oth j (by omega) (by omega))
    have S21 : ∀ j, k + 1 ≤ j → j < 2 → SLk h1 b U' j := fun j hj hj2 => (S2 j (by omega) hj2).fr (fun q hq => o1 q (by omega)) (oth j (by omega) (by omega))
    refine b_le (by omega) (by omega) (fun q => by omega) (fun _ => ⟨_, H.2.2.1, _, AH.2.2.1, _, ak2, h1, e1, _, H1.2.2.1, _, r1, b_eq (b := 0) (by omega) (by omega) (fun q y ey => ?_) (fun q => ?_)⟩)
    · subst ey
      rw [nI_add]
      refine ih h1 ⟨fr1, H1, fun j hj => ?_, S21⟩
      by_cases z : j = k
      · subst z
        exact ⟨ak1, r1, Tb, Bb.fr (fun q h2 h3 => o1 q (by omega)), fun u => absurd q u⟩
      · exact S11 j (by omega)
    · have Bb1 : BK h1 (b + 2 + 10 * k) Tb := Bb.fr (fun q h2 h3 => o1 q (by omega))
      have Ba1 : BK h1 (a + 2 + 10 * k) Ta := Ba.fr (fun q h2 h3 => o1 q (by omega))
      have AH1 : SLH h1 a := AH.fr (fun q hq => o1 q (by omega))
      refine ⟨_, H1.2.1, _, H1.2.2.2 k hk2, _, AH1.2.1, _, AH1.2.2.2 k hk2, Bb1.o, c_copyFrom Ba1 Bb1 (by omega) (fun h2 fr2 B2 y ey => ?_)⟩
      subst ey
      rw [nI_add]
      refine ih h2 ⟨fun q hq => (fr2 q (by omega)).trans (fr1 q hq), H1.fr (fun q hq => fr2 q (by omega)), fun j hj => ?_, fun j hj hj2 => (S21 j hj hj2).fr (fun q hq => fr2 q (by omega)) (gI_c (fr2 _ (by omega)) _ _)⟩
      by_cases z : j = k
      · subst z
        exact ⟨ak1, (gI_c (fr2 _ (by omega)) _ _).trans r1, Ta, B2, fa⟩
      · exact (S11 j (by omega)).fr (fun q hq => fr2 q (by omega)) (gI_c (fr2 _ (by omega)) _ _)
/-- a State at t -/
def ST (h : Hp) (t : Nat) (U : Nat → Nat) : Prop := isO h t 6 ∧ gF h t 6 0 = some (.ref (t + 1)) ∧ gF h t 6 1 = some (.ref (t + 11)) ∧ BK h (t + 1) U ∧ SL h (t + 11) U
theorem ST.fr {h h' : Hp} {t : Nat} {U : Nat → Nat} (S : ST h t U) (e : ∀ q, t ≤ q → q < t + 34 → h' q = h q) : ST h' t U := by
  obtain ⟨s0, s1, s2, s3, s4⟩ := S
  refine ⟨isO_c (e t (by omega) (by omega)) s0, ?_, ?_, s3.fr (fun q h1 h2 => e q (by omega) (by omega)), s4.fr (fun q h1 h2 => e q (by omega) (by omega))⟩
  · rw [gF_c (e t (by omega) (by omega))]; exact s1
  · rw [gF_c (e t (by omega) (by omega))]; exact s2
theorem ST.ext {h : Hp} {t : Nat} {U U' : Nat → Nat} (S : ST h t U) (e : ∀ i, i < 1367 → U' i = U i) : ST h t U' := by
  obtain ⟨s0, s1, s2, s3, s4⟩ := S
  exact ⟨s0, s1, s2, s3.ext (fun i hi => e i (by omega)), s4.ext e⟩
theorem c_stateKeep {K : Hp → Prop} {h : Hp} {t b sl : Nat} {U V : Nat → Nat} (S : ST h t U) (B : BK h b V) (L : SL h sl V) (d1 : b + 10 ≤ t ∨ t + 34 ≤ b) (d2 : sl + 23 ≤ t ∨ t + 34 ≤ sl) (hk : ∀ h', (∀ q, (q < t ∨ t + 34 ≤ q) → h' q = h q) → ST h' t V → K h') : wp_X6_keep t b sl K h := by
  obtain ⟨s0, s1, s2, s3, s4⟩ := S
  refine ⟨_, s1, s3.o, c_copyFrom B s3 (by omega) (fun h1 fr1 B1 => ⟨_, (by rw [gF_c (fr1 _ (by omega))]; exact s2), isO_c (fr1 _ (by omega)) s4.1.1, c_slotsCopy (L.fr (fun q h2 h3 => fr1 q (by omega))) (s4.fr (fun q h2 h3 => fr1 q (by omega))) (by omega) (fun h2 fr2 L2 => hk h2 (fun q hq => (fr2 q (by omega)).trans (fr1 q (by omega))) ⟨isO_c (fr2 _ (by omega)) (isO_c (fr1 _ (by omega)) s0), ?_, ?_, B1.fr (fun q h3 h4 => fr2 q (by omega)), L2⟩)⟩)⟩
  · rw [gF_c (fr2 _ (by omega)), gF_c (fr1 _ (by omega))]; exact s1
  · rw [gF_c (fr2 _ (by omega)), gF_c (fr1 _ (by omega))]; exact s2
theorem c_stateGive {K : Hp → Prop} {h : Hp} {t b sl : Nat} {U V W : Nat → Nat} (S : ST h t U) (B : BK h b V) (L : SL h sl W) (d1 : b + 10 ≤ t ∨ t + 34 ≤ b) (d2 : sl + 23 ≤ t ∨ t + 34 ≤ sl) (d3 : b + 10 ≤ sl ∨ sl + 23 ≤ b) (hk : ∀ h', (∀ q, (q < b ∨ b + 10 ≤ q) → (q < sl ∨ sl + 23 ≤ q) → h' q = h q) → BK h' b U → SL h' sl U → K h') : wp_X6_giveBack t b sl K h := by
  obtain ⟨s0, s1, s2, s3, s4⟩ := S
  refine ⟨_, s1, B.o, c_copyFrom s3 B (by omega) (fun h1 fr1 B1 => ⟨_, (by rw [gF_c (fr1 _ (by omega))]; exact s2), isO_c (fr1 _ (by omega)) L.1.1, c_slotsCopy (s4.fr (fun q h2 h3 => fr1 q (by omega))) (L.fr (fun q h2 h3 => fr1 q (by omega))) (by omega) (fun h2 fr2 L2 => hk h2 (fun q hq hq2 => (fr2 q (by omega)).trans (fr1 q (by omega))) (B1.fr (fun q h3 h4 => fr2 q (by omega))) L2)⟩)⟩
/-- the History at y: n states, Q their vectors, p which State stands where -/
def HI (h : Hp) (y n : Nat) (Q : Nat → Nat → Nat) (p : Nat → Nat) : Prop :=
  (isO h y 2 ∧ gF h y 2 0 = some (.int (nI n)) ∧ gF h y 2 1 = some (.ref (y + 1)) ∧ gN h (y + 1) = some (nI 6)) ∧ (∀ j, j < 6 → gQ h (y + 1) 4 (nI j) = some (y + 2 + 34 * p j)) ∧ (∀ j, j < 6 → p j < 6) ∧ (∀ i j, i < 6 → j < 6 → p i = p j → i = j) ∧ (∀ j, j < 6 → ST h (y + 2 + 34 * p j) (Q j))
theorem HI.fr {h h' : Hp} {y n : Nat} {Q : Nat → Nat → Nat} {p : Nat → Nat} (S : HI h y n Q p) (e : ∀ q, y ≤ q → q < y + 206 → h' q = h q) : HI h' y n Q p := by
  obtain ⟨⟨s0, s1, s2, s3⟩, s4, s5, s6, s7⟩ := S
  refine ⟨⟨isO_c (e _ (by omega) (by omega)) s0, ?_, ?_, ?_⟩, fun j hj => ?_, s5, s6, fun j hj => (s7 j hj).fr (fun q h1 h2 => e q (by omega) (by have := s5 j hj; omega))⟩
  · rw [gF_c (e _ (by omega) (by omega))]; exact s1
  · rw [gF_c (e _ (by omega) (by omega))]; exact s2
  · rw [gN_c (e _ (by omega) (by omega))]; exact s3
  · rw [gQ_c (e _ (by omega) (by omega))]; exact s4 j hj
theorem c_prepare {K : Hp → Prop} {h : Hp} {y n b sl : Nat} {Q : Nat → Nat → Nat} {p : Nat → Nat} {V : Nat → Nat} (H : HI h y n Q p) (hn : n ≤ 5) (B : BK h b V) (L : SL h sl V) (d1 : b + 10 ≤ y ∨ y + 206 ≤ b) (d2 : sl + 23 ≤ y ∨ y + 206 ≤ sl) (hk : ∀ h', (∀ q, (q < y ∨ y + 206 ≤ q) → h' q = h q) → HI h' y n (fun j => if j = n then V else Q j) p → K h') : wp_X2_prepare y b sl K h := by
  obtain ⟨⟨s0, s1, s2, s3⟩, s4, s5, s6, s7⟩ := id H
  have sn := s7 n (by omega)
  have pn := s5 n (by omega)
  refine ⟨_, s1, _, s2, _, s3, b_le (by omega) (by omega) (fun q => by omega) (fun _ => ⟨_, s2, _, s1, _, s4 n (by omega), sn.1, c_stateKeep sn B L (by omega) (by omega) (fun h1 fr1 S1 => hk h1 (fun q hq => fr1 q (by omega)) ⟨⟨isO_c (fr1 _ (by omega)) s0, ?_, ?_, ?_⟩, fun j hj => ?_, s5, s6, fun j hj => ?_⟩)⟩)⟩
  · rw [gF_c (fr1 _ (by omega))]; exact s1
  · rw [gF_c (fr1 _ (by omega))]; exact s2
  · rw [gN_c (fr1 _ (by omega))]; exact s3
  · rw [gQ_c (fr1 _ (by omega))]; exact s4 j hj
  · by_cases z : j = n
    · subst z
      dsimp only
      rw [if_pos rfl]
      exact S1
    · dsimp only
      rw [if_neg z]
      have : p j ≠ p n := fun e => z (s6 j n hj (by omega) e)
      exact (s7 j hj).fr (fun q h2 h3 => fr1 q (by omega))

