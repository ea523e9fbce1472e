/-! calls that change the state -/
theorem SL.ext2 {h : Hp} {a : Nat} {U U' : Nat → Nat} (S : SL h a U) (e : ∀ i, 455 ≤ i → U' i = U i) : SL h a U' := by
  refine ⟨S.1, fun k hk => ?_⟩
  obtain ⟨s1, s2, T', B, f⟩ := S.2 k hk
  have ek := e (455 + 456 * k) (by omega)
  refine ⟨by rw [ek]; exact s1, by rw [ek]; exact s2, T', B, fun q i hi => ?_⟩
  rw [ek] at q
  rw [e _ (by omega)]
  exact f q i hi
def qp (Q : Nat → Nat → Nat) (n : Nat) (V : Nat → Nat) : Nat → Nat → Nat := fun j => if j = n then V else Q j
def qs (Q : Nat → Nat → Nat) (n : Nat) : Nat → Nat → Nat := fun j => if n = 5 then (if j < 5 then Q (j + 1) else Q 0) else Q j
theorem pr_push {N n tn : Nat} {V P X V' : Nat → Nat} {Q : Nat → Nat → Nat} {fl : Nat → Int32} {e : Nat → Value} (pr : PR N V n Q P X tn fl e) {N' : Nat} (hN : N ≤ N') (k' : OA N' V') : PR N' V' (psN n) (qs (qp Q n V) n) (psP P n V) X tn fl e := by
  obtain ⟨p1, p2, p3, p4, p5⟩ := pr
  have hn : psN n ≤ 5 := by unfold psN; split <;> omega
  refine ⟨hn, k', fun j hj => ?_, fun j hj i hi => ?_, p5⟩
  · unfold qs qp
    by_cases z : n = 5
    · rw [if_pos z]
      have hj5 : j < 5 := by omega
      rw [if_pos hj5]
      by_cases y : j + 1 = n
      · rw [if_pos y]; exact p2.mono hN
      · rw [if_neg y]; exact (p3 _ (by omega)).mono hN
    · rw [if_neg z]
      unfold psN at hj
      rw [if_neg z] at hj
      by_cases y : j = n
      · rw [if_pos y]; exact p2.mono hN
      · rw [if_neg y]; exact (p3 _ (by omega)).mono hN
  · unfold qs qp psP
    by_cases z : n = 5
    · rw [if_pos z, if_pos z]
      have hj5 : j < 5 := by omega
      rw [if_pos hj5]
      by_cases y : j + 1 = n
      · rw [if_pos y, if_neg (by omega), show 1367 * j + i - 5468 = i by omega]
      · rw [if_neg y, if_pos (by omega), p4 _ (by omega) i hi]
        congr 1
        omega
    · rw [if_neg z, if_neg z]
      unfold psN at hj
      rw [if_neg z] at hj
      by_cases y : j = n
      · rw [if_pos y, if_pos (by omega), y]
        congr 1
        omega
      · rw [if_neg y, if_neg (by omega), p4 _ (by omega) i hi]
theorem pr_prep {N n tn : Nat} {V P X V' : Nat → Nat} {Q : Nat → Nat → Nat} {fl : Nat → Int32} {e : Nat → Value} (pr : PR N V n Q P X tn fl e) {N' : Nat} (hN : N ≤ N') : PR N' V n (qp Q n V') P X tn fl e := by
  obtain ⟨p1, p2, p3, p4, p5⟩ := pr
  refine ⟨p1, p2.mono hN, fun j hj => ?_, fun j hj i hi => ?_, p5⟩
  · unfold qp
    rw [if_neg (by omega)]
    exact (p3 j hj).mono hN
  · unfold qp
    rw [if_neg (by omega)]
    exact p4 j hj i hi
theorem rec_no {K : Int32 → Hp → Prop} {h : Hp} {z : Nat} {r : Int32} (hr : r.toInt < 0) (hk : K r h) : wp_X8_recordIfDone z r K h :=
  ⟨fun _ => hk, fun q => absurd (by rw [lt32]; have e : (nI 0).toInt = 0 := by decide
                                    rw [e]; exact hr) q⟩
theorem rec_yes {K : Int32 → Hp → Prop} {h : Hp} {z n : Nat} {r : Int32} {Q : Nat → Nat → Nat} {p : Nat → Nat} (C : CT h z) (H : HI h (z + 50) n Q p) (hn : n ≤ 5) (hr : 0 ≤ r.toInt) (hk : ∀ h' p', (∀ q, (q < z + 50 ∨ z + 256 ≤ q) → h' q = h q) → HI h' (z + 50) (psN n) (qs Q n) p' → K r h') : wp_X8_recordIfDone z r K h := by
  refine ⟨fun q => ?_, fun _ => ⟨_, C.2.2.2.2.2.1, H.1.1, c_record H hn (fun h' p' fr H' => hk h' p' (fun q hq => fr q (by omega)) H')⟩⟩
  rw [lt32] at q
  have e : (nI 0).toInt = 0 := by decide
  rw [e] at q
  omega
/-- the class's prepare, out of a state -/
theorem c_prep {K : Hp → Prop} {h : Hp} {z n tn : Nat} {V : Nat → Nat} {F : Nat → Nat → Int32} {Q : Nat → Nat → Nat} {p X : Nat → Nat} {fl : Nat → Int32} (C : CR h z V F n Q p X tn fl) (hn : n ≤ 5) (hk : ∀ h', (∀ q, (q < z + 50 ∨ z + 256 ≤ q) → h' q = h q) → CR h' z V F n (qp Q n V) p X tn fl → K h') : wp_X2_prepare (z + 50) (z + 2 + 1) (z + 27) K h :=
  c_prepare C.2.2.2.1 hn C.2.1.B C.2.2.1 (by omega) (by omega) (fun h' fr H' => hk h' (fun q hq => fr q (by omega)) ⟨C.1.fr (fr _ (by omega)), C.2.1.fr (fun q h1 h2 => fr q (by omega)), C.2.2.1.fr (fun q h1 h2 => fr q (by omega)), H', C.2.2.2.2.fr (fun q hq => fr q (by omega))⟩)
def preA (A1 : Nat → (Int32 → Hp → Prop) → Hp → Prop) (x0 : Nat) (Post : Int32 → Hp → Prop) (h : Hp) : Prop := ∃ v1 : Nat, gF h x0 8 4 = some (.ref v1) ∧ (∃ v5 : Nat, gF h x0 8 2 = some (.ref v5) ∧ (∃ v9 : Nat, gF h x0 8 3 = some (.ref v9) ∧ (isO h v1 2 ∧ wp_X2_prepare v1 v5 v9 (fun h12 => (∃ v17 : Nat, gF h12 x0 8 0 = some (.ref v17) ∧ (isO h12 v17 1 ∧ A1 v17 (fun r22 h22 => (isO h22 x0 8 ∧ wp_X8_recordIfDone x0 r22 (fun r25 h25 => (Post r25 h25)) h22)) h12))) h)))
def preB (B1 : Nat → (Int32 → Hp → Prop) → Hp → Prop) (x0 : Nat) (Post : Int32 → Hp → Prop) (h : Hp) : Prop := isO h x0 9 ∧ wp_X9_keeps x0 (fun h1 => (isO h1 x0 9 ∧ B1 x0 (fun r9 h9 => (isO h9 x0 9 ∧ wp_X9_acted x0 r9 (fun r12 h12 => (Post r12 h12)) h9)) h1)) h
/-- what the reference does behind an act that is done -/
theorem e_actEnd {K : Int32 → Hp → Prop} {h : Hp} {M n tn : Nat} {V W P X : Nat → Nat} {e : Nat → Value} {r : Int32} (R : RR h M V W P n X tn e) (hn : n ≤ 5) (hr : 0 ≤ r.toInt) (hk : ∀ h', (∀ q, (q < M ∨ M + 6 ≤ q) → h' q = h q) → RR h' M V W (psP P n W) (psN n) X tn e → K r h') : wp_X9_acted M r K h := by
  refine e_acted R.2.1 R.2.2.1 hn hr (fun h' a b c d => hk h' (fun q hq => a q (by omega) (by omega)) ⟨⟨c, ?_, fun i hi => ?_⟩, ⟨?_, fun i hi => ?_⟩, d, ⟨?_, fun j hj => ?_⟩, ⟨?_, ?_, fun i hi => ?_, fun k h1 h2 => ?_⟩⟩)
  · rw [b 0 (by omega)]; exact R.1.2.1
  · rw [gL_c (a _ (by omega) (by omega))]; exact R.1.2.2 i hi
  · rw [b 1 (by omega)]; exact R.2.1.1
  · rw [gL_c (a _ (by omega) (by omega))]; exact R.2.1.2 i hi
  · rw [b 4 (by omega)]; exact R.2.2.2.1.1
  · rw [gI_c (a _ (by omega) (by omega))]; exact R.2.2.2.1.2 j hj
  · rw [b 5 (by omega)]; exact R.2.2.2.2.1
  · rw [b 6 (by omega)]; exact R.2.2.2.2.2.1
  · rw [gI_c (a _ (by omega) (by omega))]; exact R.2.2.2.2.2.2.1 i hi
  · rw [b k (by omega)]; exact R.2.2.2.2.2.2.2 k h1 h2
theorem OA.next {N N' : Nat} {V V' : Nat → Nat} (k : OA N V) (k' : OK N' V') (hN : N ≤ N') (e : ∀ i, 455 ≤ i → V' i = V i) : OA N' V' := by
  refine ⟨k', fun j hj q => ?_⟩
  rw [e _ (by omega)] at q
  have := (k.2 j hj q).mono hN
  have e2 : (fun i => V' (456 + 456 * j + i)) = fun i => V (456 + 456 * j + i) := by
    funext i
    exact e _ (by omega)
  rw [e2]
  exact this
theorem step_act {N : Nat} {h : Hp} {z : Nat} {A1 B1 : Nat → (Int32 → Hp → Prop) → Hp → Prop} (I : Inv N h z) (ac : ∀ V, OK N V → Act N V (fun z => A1 (z + 1)) B1) : Step (N + 1) h z (preA A1) (preB B1) := by
  obtain ⟨V, F, n, Q, p, X, tn, fl, W, P, e, C, R, pr⟩ := I
  obtain ⟨r, V', hc, t1, t2⟩ := ac V pr.2.1.1
  refine ⟨r, fun K hk => ⟨_, C.1.2.2.2.2.2.1, _, C.1.2.2.2.1, _, C.1.2.2.2.2.1, C.2.2.2.1.1.1, c_prep C pr.1 (fun h1 fr1 C1 => ⟨_, C1.1.2.1, C1.2.1.1, t1 h1 z F _ C1.2.1 (fun h2 F2 fr2 G2 => ?_)⟩)⟩⟩
  have T2 : CT h2 z := C1.1.fr (fr2 _ (by omega))
  have H2 : HI h2 (z + 50) n (qp Q n V) p := C1.2.2.2.1.fr (fun q h1 h2 => fr2 q (by omega))
  have P2 : PG h2 z X tn fl := C1.2.2.2.2.fr (fun q hq => fr2 q (by omega))
  have S2 : SL h2 (z + 27) V := C1.2.2.1.fr (fun q h1 h2 => fr2 q (by omega))
  have R2 : RR h2 (z + 259) V W P n X tn e := R.fr (fun q q1 q2 => (fr2 q (by omega)).trans (fr1 q (by omega)))
  refine ⟨T2.1, ?_⟩
  rcases hc with ⟨c1, c2, rfl⟩ | ⟨c1, c2, c3⟩
  · refine rec_no c2 (hk h2 R2.1.1 (fun K' hk' => ⟨R2.1.1, e_keeps R2.1 R2.2.1 (fun h3 fr3 R3 B3 => ⟨R3.1, t2 h3 (z + 259) _ R3 (R2.2.2.2.1.fr (fun q hq => fr3 q (by omega))) (fun h4 fr4 R4 P4 => ⟨R4.1, e_actedNo c1 c2 (hk' h4 ⟨V', F2, n, qp Q n V', p, X, tn, fl, V', P, e, ?_, ?_, pr_prep pr (by omega)⟩)⟩)⟩)⟩))
    · exact CR.fr (show CR h2 z V' F2 n (qp Q n V') p X tn fl from ⟨T2, G2, S2, H2, P2⟩) (fun q q1 q2 => (fr4 q (by omega) (by omega)).trans (fr3 q (by omega)))
    · exact ⟨R4, B3.fr (fun q hq => fr4 q (by omega) (by omega)), R2.2.2.1.fr (fun q hq => (fr4 q (by omega) (by omega)).trans (fr3 q (by omega))), P4, R2.2.2.2.2.fr (fun q hq => (fr4 q (by omega) (by omega)).trans (fr3 q (by omega)))⟩
  · refine rec_yes T2 H2 pr.1 c1 (fun h3 p3 fr3 H3 => ?_)
    have C3 : CR h3 z V' F2 (psN n) (qs (qp Q n V) n) p3 X tn fl := ⟨T2.fr (fr3 _ (by omega)), G2.fr (fun q h1 h2 => fr3 q (by omega)), (S2.ext2 c3).fr (fun q h1 h2 => fr3 q (by omega)), H3, P2.fr (fun q hq => fr3 q (by omega))⟩
    have R3 := R2.fr (h' := h3) (fun q q1 q2 => fr3 q (by omega))
    refine hk h3 R3.1.1 (fun K' hk' => ⟨R3.1.1, e_keeps R3.1 R3.2.1 (fun h4 fr4 R4 B4 => ⟨R4.1, t2 h4 (z + 259) _ R4 (R3.2.2.2.1.fr (fun q hq => fr4 q (by omega))) (fun h5 fr5 R5 P5 => ⟨R5.1, e_actEnd (⟨R5, B4.fr (fun q hq => fr5 q (by omega) (by omega)), R3.2.2.1.fr (fun q hq => (fr5 q (by omega) (by omega)).trans (fr4 q (by omega))), P5, R3.2.2.2.2.fr (fun q hq => (fr5 q (by omega) (by omega)).trans (fr4 q (by omega)))⟩ : RR h5 (z + 259) V' V P n X tn e) pr.1 c1 (fun h6 fr6 R6 => hk' h6 ⟨V', F2, psN n, qs (qp Q n V) n, p3, X, tn, fl, V, psP P n V, e, ?_, R6, pr_push pr (by omega) (pr.2.1.next c2 (by omega) c3)⟩)⟩)⟩)⟩)
    exact C3.fr (fun q q1 q2 => (fr6 q (by omega)).trans ((fr5 q (by omega) (by omega)).trans (fr4 q (by omega))))
section ST
variable {N : Nat} {h : Hp} {z : Nat}
theorem step_scan (I : Inv N h z) (hN : N < 2 ^ 29) (x : Int32) (y : Int64) : Step (N + 1) h z (fun z => wp_X8_scan z x y) (fun M => wp_X9_scan M x y) :=
  step_act (A1 := fun c => wp_X1_addCard c x y) (B1 := fun M => wp_X9_scans M (Int32.toInt64 x) y) I (fun V k => act_scan k hN x y)
theorem step_clean (I : Inv N h z) (hN : N < 2 ^ 29) (x : Int32) : Step (N + 1) h z (fun z => wp_X8_clean z x) (fun M => wp_X9_clean M x) :=
  step_act (A1 := fun c => wp_X1_cleanMachine c x) (B1 := fun M => wp_X9_cleans M (Int32.toInt64 x)) I (fun V k => act_clean k hN x)
theorem step_publish (I : Inv N h z) (hN : N < 2 ^ 29) : Step (N + 1) h z (fun z => wp_X8_publish z) (fun M => wp_X9_publish M) :=
  step_act (A1 := fun c => wp_X1_publishVersion c) (B1 := fun M => wp_X9_publishes M) I (fun V k => act_publish k hN)
theorem step_draw (I : Inv N h z) (hN : N < 2 ^ 29) (x y : Int32) : Step (N + 1) h z (fun z => wp_X8_draw z x y) (fun M => wp_X9_draw M x y) :=
  step_act (A1 := fun c => wp_X1_drawCards c x y) (B1 := fun M => wp_X9_draws M (Int32.toInt64 x) (Int32.toInt64 y)) I (fun V k => act_draw k hN x y)
theorem step_look (I : Inv N h z) (hN : N < 2 ^ 29) (x : Int32) (y : Int64) : Step (N + 1) h z (fun z => wp_X8_look z x y) (fun M => wp_X9_look M x y) :=
  step_act (A1 := fun c => wp_X1_lookAt c x y) (B1 := fun M => wp_X9_looks M (Int32.toInt64 x) y) I (fun V k => act_look k hN x y)
end ST
