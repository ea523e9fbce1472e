/-! run as a step -/
theorem PN.pg {h : Hp} {z tn en : Nat} {X : Nat → Nat} {fl : Nat → Int32} {f5 f6 : Int64} {kv sv : Int32} (P : PN h z X tn fl f5 f6 kv sv en) : PG h z X tn fl := by
  obtain ⟨a, b, c, d, f, t0, t1, t2, t3, t4, t5, t6⟩ := P
  exact ⟨a, b, c, ⟨_, _, d, f⟩, t0, t1, ⟨_, _, _, t2, t3, t4⟩, t5, t6⟩
theorem PG.rewind {h : Hp} {z tn : Nat} {X : Nat → Nat} {fl : Nat → Int32} (G : PG h z X tn fl) : ∃ h' f5 f6 kv sv, pF h (z + 257) 7 3 (.int (nI 0)) = some h' ∧ (∀ q, q ≠ z + 257 → h' q = h q) ∧ PN h' z X tn fl f5 f6 kv sv 0 := by
  obtain ⟨a, b, c, ⟨f5, f6, d3, d4⟩, t0, t1, ⟨kv, sv, i3, t2, t3, t4⟩, t5, t6⟩ := G
  obtain ⟨h', e, oo, g, io⟩ := pF_w t4 (.int (nI 0))
  refine ⟨h', f5, f6, kv, sv, e, oo, isO_c (oo _ (by omega)) a, ?_, fun k hk => ?_, ?_, ?_, io, ?_, ?_, ?_, ?_, ?_, fun i hi => ?_⟩
  · rw [gF_c (oo _ (by omega))]; exact b
  · rw [gF_c (oo _ (by omega))]; exact c k hk
  · rw [gF_c (oo _ (by omega))]; exact d3
  · rw [gF_c (oo _ (by omega))]; exact d4
  · rw [g 0, if_neg (by omega)]; exact t1
  · rw [g 1, if_neg (by omega)]; exact t2
  · rw [g 2, if_neg (by omega)]; exact t3
  · rw [g 3, if_pos rfl]
  · rw [g 4, if_neg (by omega)]; exact t5
  · rw [gI_c (oo _ (by omega))]; exact t6 i hi
theorem pr_tx {N n tn tn' : Nat} {V P X : Nat → Nat} {Q : Nat → Nat → Nat} {fl fl' : Nat → Int32} {e e' : Nat → Value} (pr : PR N V n Q P X tn fl e) (ht : tn' ≤ tn) (h7 : ∀ k, k < 4 → e' (7 + k) = .int (fl' k)) (ty : TY e') : PR N V n Q P X tn' fl' e' := by
  obtain ⟨p1, p2, p3, p4, p5, p6, p7, p8⟩ := pr
  exact ⟨p1, p2, p3, p4, by omega, fun i hi => p6 i (by omega), h7, ty⟩
section SR
variable {N : Nat} {h : Hp} {z : Nat}
theorem step_run (I : Inv N h z) (hN : N + 141 < 2 ^ 29) : Step (N + 141) h z (fun z => wp_X8_run z) (fun M => wp_X9_run M) := by
  obtain ⟨V, F, n, Q, p, X, tn, fl, W, P, e, C, R, pr⟩ := I
  have ok := pr.2.1.1
  have ht := pr.2.2.2.2.1
  have hX := pr.2.2.2.2.2.1
  have h7 := pr.2.2.2.2.2.2.1
  have ty0 : TY e := pr.2.2.2.2.2.2.2
  obtain ⟨s, k, b, T⟩ := tk_ex X tn 0 (by omega)
  have cl : ∀ (r : Int32) (K : Int32 → Hp → Prop), (∀ h1 h2 f5 f6 kv sv, (∀ q, (q < z + 50 ∨ z + 256 ≤ q) → q ≠ z + 257 → h2 q = h q) → CR h1 z V F n (qp Q n V) p X tn fl → (∀ q, q ≠ z + 257 → h2 q = h1 q) → CT h2 z → CK h2 z V F → PN h2 z X tn fl f5 f6 kv sv 0 → wp_X3_runWith_9 (fun r23 h23 => (((nI 0 ≤ r23 → (∃ v59 : Nat, gF h23 z 8 5 = some (.ref v59) ∧ (∃ v62 : Nat, gF h23 v59 3 0 = some (.ref v62) ∧ (isO h23 v62 7 ∧ wp_X7_empty v62 (fun r65 h65 => (isO h65 z 8 ∧ wp_X8_recordIfDone z r23 (fun r71 h71 => (K r71 h71)) h65)) h23)))) ∧ (¬ nI 0 ≤ r23 → (∃ v32 : Nat, gF h23 z 8 4 = some (.ref v32) ∧ (∃ v36 : Nat, gF h23 z 8 2 = some (.ref v36) ∧ (∃ v40 : Nat, gF h23 z 8 3 = some (.ref v40) ∧ (isO h23 v32 2 ∧ wp_X2_giveBackPrepared v32 v36 v40 (fun h43 => (∃ v50 : Nat, gF h43 z 8 5 = some (.ref v50) ∧ (∃ v53 : Int32, gF h43 v50 3 2 = some (.int v53) ∧ (K ((-1000 : Int32) - v53) h43)))) h23)))))))) (z + 256) (z + 1) 142 (nI 0) h2) → wp_X8_run z K h := by
    intro r K hk
    refine ⟨_, C.1.2.2.2.2.2.1, _, C.1.2.2.2.1, _, C.1.2.2.2.2.1, C.2.2.2.1.1.1, c_prep C pr.1 (fun h1 fr1 C1 => ?_)⟩
    obtain ⟨h2, f5, f6, kv, sv, e2, o2, P2⟩ := C1.2.2.2.2.rewind
    exact ⟨_, C1.1.2.2.2.2.2.2, _, C1.1.2.1, C1.2.2.2.2.1, _, C1.2.2.2.2.2.1, C1.2.2.2.2.2.2.2.2.1, h2, e2, 142, hk h1 h2 f5 f6 kv sv (fun q q1 q2 => (o2 q q2).trans (fr1 q q1)) C1 o2 (C1.1.fr (o2 _ (by omega))) (C1.2.1.fr (fun q q1 q2 => o2 q (by omega))) P2⟩
  have rf : ∀ (h5 : Hp) (K' : Int32 → Hp → Prop), RR h5 (z + 259) V W P n X tn e → (∀ h8 e8, (∀ q, (q < z + 259 ∨ z + 265 ≤ q) → h8 q = h5 q) → RR h8 (z + 259) V V P n X tn e8 → TY e8 → (∀ j, 7 ≤ j → j < 11 → e8 j = e j) → e8 11 = .int (nI s) → wp_X9_run_15 K' (z + 259) 142 (nI 0) h8) → wp_X9_run (z + 259) K' h5 := by
    intro h5 K' R5 hk
    refine ⟨R5.1.1, e_keeps R5.1 R5.2.1 (fun h6 fr6 R6 B6 => ?_)⟩
    have RR6 : RR h6 (z + 259) V V P n X tn e := ⟨R6, B6, R5.2.2.1.fr (fun q hq => fr6 q (by omega)), R5.2.2.2.1.fr (fun q hq => fr6 q (by omega)), R5.2.2.2.2.fr (fun q hq => fr6 q (by omega))⟩
    obtain ⟨h7', e7, o7, R7⟩ := RR6.fset (k := 11) (by omega) (by omega) (.int (nI 0))
    refine ⟨h7', e7, R7.1.1, e_begins R7 ht hX T.1 (ue_s _ _ _) (fun h8 e8 fr8 R8 x11 x12 xo => ⟨142, hk h8 e8 (fun q hq => (fr8 q (by omega)).trans ((o7 q (by omega)).trans (fr6 q (by omega)))) R8 ⟨⟨_, x11⟩, ⟨_, x12⟩, ?_, ?_, ?_, ?_⟩ (fun j j1 j2 => (xo j (by omega) (by omega)).trans (ue_n (by omega))) x11⟩)⟩
    · rw [xo 13 (by omega) (by omega), ue_n (by omega)]; exact ty0.2.2.1
    · rw [xo 14 (by omega) (by omega), ue_n (by omega)]; exact ty0.2.2.2.1
    · rw [xo 15 (by omega) (by omega), ue_n (by omega)]; exact ty0.2.2.2.2.1
    · rw [xo 16 (by omega) (by omega), ue_n (by omega)]; exact ty0.2.2.2.2.2
  rcases run_two ht hX tn 0 (by omega) N V 0 s k b ok (by omega) (by omega) T with ⟨V', c', a1, a2, a3, a4, a5⟩ | ⟨k1, k2, k3, k4, a4, a5⟩
  · refine ⟨nI c', fun K hk => cl (nI c') K (fun h1 h2 f5 f6 kv sv fr2 C1 o2 T2 K2 P2 => a4 h2 z F fl f5 f6 kv sv _ K2 P2 (fun h3 F3 f5 f6 kv sv en fr3 C3 P3 => b_le (by omega) (by omega) (fun _ => ?_) (fun q => by omega)) 142 (by omega))⟩
    have T3 : CT h3 z := T2.fr (fr3 _ (by omega) (by omega) (by omega))
    have S3 : SL h3 (z + 27) V := C1.2.2.1.fr (fun q q1 q2 => (fr3 q (by omega) (by omega) (by omega)).trans (o2 q (by omega)))
    have H3 : HI h3 (z + 50) n (qp Q n V) p := C1.2.2.2.1.fr (fun q q1 q2 => (fr3 q (by omega) (by omega) (by omega)).trans (o2 q (by omega)))
    have G3 := P3.pg
    obtain ⟨h4, e4, o4, g4, i4⟩ := pF_w G3.2.2.2.2.2.1 (.int (nI 0))
    have G4 : PG h4 z X 0 fl := G3.len o4 g4 i4
    refine ⟨_, T3.2.2.2.2.2.2, _, P3.2.1, P3.2.2.2.2.2.1, _, G3.2.2.2.2.2.1, h4, e4, (T3.fr (o4 _ (by omega))).1, rec_yes (T3.fr (o4 _ (by omega))) (H3.fr (fun q q1 q2 => o4 q (by omega))) pr.1 (nI_T (by omega)) (fun h5 p5 fr5 H5 => ?_)⟩
    have C5 : CR h5 z V' F3 (psN n) (qs (qp Q n V) n) p5 X 0 fl := ⟨T3.fr ((fr5 _ (by omega)).trans (o4 _ (by omega))), C3.fr (fun q q1 q2 => (fr5 q (by omega)).trans (o4 q (by omega))), (S3.ext2 a2).fr (fun q q1 q2 => (fr5 q (by omega)).trans (o4 q (by omega))), H5, G4.fr (fun q hq => fr5 q (by omega))⟩
    have R5 := R.fr (h' := h5) (fun q q1 q2 => (fr5 q (by omega)).trans ((o4 q (by omega)).trans ((fr3 q (by omega) (by omega) (by omega)).trans (fr2 q (by omega) (by omega)))))
    refine hk h5 R5.1.1 (fun K' hk' => rf h5 K' R5 (fun h8 e8 fr8 R8 ty8 x8 x11 => a5 h8 (z + 259) n V P e8 K' R8 ty8 x11 (fun h9 e9 fr9 R9 ty9 x9 => ?_) 142 (by omega)))
    obtain ⟨h10, e10, o10, g10, i10⟩ := pF_w R9.2.2.2.2.2.1 (.int (nI 0))
    have R10 : RR h10 (z + 259) V' V P n X 0 e9 := R9.len o10 g10 i10
    refine ⟨h10, e10, R10.1.1, e_actEnd R10 pr.1 (nI_T (by omega)) (fun h11 fr11 R11 => hk' h11 ⟨V', F3, psN n, qs (qp Q n V) n, p5, X, 0, fl, V, psP P n V, e9, ?_, R11, ?_⟩)⟩
    · exact C5.fr (fun q q1 q2 => (fr11 q (by omega)).trans ((o10 q (by omega)).trans ((fr9 q (by omega) (by omega) (by omega)).trans (fr8 q (by omega)))))
    · refine pr_tx (pr_push pr (show N ≤ N + 141 by omega) (pr.2.1.next (a1.mono (by omega)) (by omega) a2)) (by omega) (fun k hk => ?_) ty9
      rw [x9 (7 + k) (by omega) (by omega), x8 (7 + k) (by omega) (by omega)]
      exact h7 k hk
  · refine ⟨(-1000 : Int32) - k2, fun K hk => cl k2 K (fun h1 h2 f5 f6 kv sv fr2 C1 o2 T2 K2 P2 => a4 h2 z F fl f5 f6 kv sv _ K2 P2 (fun h3 V3 F3 f5 f6 kv sv en fr3 C3 P3 => ⟨fun q => absurd q (by decide), fun _ => ?_⟩) 142 (by omega))⟩
    have T3 : CT h3 z := T2.fr (fr3 _ (by omega) (by omega) (by omega))
    have S3 : SL h3 (z + 27) V := C1.2.2.1.fr (fun q q1 q2 => (fr3 q (by omega) (by omega) (by omega)).trans (o2 q (by omega)))
    have H3 : HI h3 (z + 50) n (qp Q n V) p := C1.2.2.2.1.fr (fun q q1 q2 => (fr3 q (by omega) (by omega) (by omega)).trans (o2 q (by omega)))
    refine ⟨_, T3.2.2.2.2.2.1, _, T3.2.2.2.1, _, T3.2.2.2.2.1, H3.1.1, c_givePrepared H3 pr.1 C3.B S3 (by omega) (by omega) (by omega) (fun h4 fr4 H4 B4 S4 => ?_)⟩
    have eq : qp Q n V n = V := if_pos rfl
    rw [eq] at B4 S4
    have T4 : CT h4 z := T3.fr (fr4 _ (by omega) (by omega))
    have P4 := P3.fr (h' := h4) (fun q hq => fr4 q (by omega) (by omega))
    have C4 : CR h4 z V F3 n (qp Q n V) p X tn (fl4 k1 k2 k3 k4) := ⟨T4, C3.books2 (fun q q1 q2 q3 => fr4 q (by omega) (by omega)) B4, S4, H4, P4.pg⟩
    have R4 := R.fr (h' := h4) (fun q q1 q2 => (fr4 q (by omega) (by omega)).trans ((fr3 q (by omega) (by omega) (by omega)).trans (fr2 q (by omega) (by omega))))
    refine ⟨_, T4.2.2.2.2.2.2, _, P4.2.2.1 1 (by omega), hk h4 R4.1.1 (fun K' hk' => rf h4 K' R4 (fun h8 e8 fr8 R8 ty8 x8 x11 => a5 h8 (z + 259) n V P e8 K' R8 ty8 x11 (fun h9 e9 fr9 R9 ty9 x9 => hk' h9 ⟨V, F3, n, qp Q n V, p, X, tn, fl4 k1 k2 k3 k4, V, P, e9, ?_, R9, ?_⟩) 142 (by omega)))⟩
    · exact C4.fr (fun q q1 q2 => (fr9 q (by omega) (by omega) (by omega)).trans (fr8 q (by omega)))
    · exact pr_tx (pr_prep pr (show N ≤ N + 141 by omega)) (Nat.le_refl _) x9 ty9
end SR
