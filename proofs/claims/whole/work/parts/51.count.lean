/-! count on both sides -/
section CT
variable {N : Nat} {h : Hp} {z : Nat}
theorem step_count (I : Inv N h z) (hN : N < 2 ^ 29) (x : Int32) : Step N h z (fun z => wp_X8_count z x) (fun M => wp_X9_count M x) := by
  obtain ⟨V, F, n, Q, p, X, tn, fl, W, P, e, C, R, pr⟩ := I
  have k := pr.2.1.1
  have o := k.c
  have d := k.d (by omega)
  have ee := k.e
  have h40 := o.1
  have h6 := o.2.1
  have n5 := pr.1
  have t140 := pr.2.2.2.2.1
  by_cases hx : ((11 : Nat) : Int) ≤ x.toInt ∧ x.toInt ≤ ((14 : Nat) : Int)
  · obtain ⟨i, hi31, rfl, ei⟩ := of_toI (x := x) (by omega)
    have ne : ∀ j : Nat, j < 11 → ¬ nI i = nI j := fun j hj q => by have := (nI_eq hi31 (by omega)).mp q; omega
    have v0 : V (2 + (i - 11)) < 2 ^ 31 := by
      obtain ⟨a0, a1, a2, a3, a4, a5⟩ := o
      rcases (show i = 11 ∨ i = 12 ∨ i = 13 ∨ i = 14 by omega) with rfl | rfl | rfl | rfl
      · show V 2 < _; omega
      · show V 3 < _; omega
      · show V 4 < _; omega
      · show V 5 < _; omega
    refine ⟨nI (V (2 + (i - 11))), fun K hk => b_lt (by omega) (by omega) (fun q => by omega) (fun _ => b_le (by omega) (by omega) (fun q => by omega) (fun _ => ⟨_, C.1.2.2.2.1, _, C.2.1.B.fn, nI (V (2 + (i - 11))), ?_, hk h R.1.1 (fun K' hk' => ?_)⟩))⟩
    · rw [pk_sub (by omega)]
      exact C.2.1.B.n (by omega)
    · refine sk (ne 0 (by omega)) (sk (ne 1 (by omega)) (sk (ne 2 (by omega)) (sk (ne 3 (by omega)) (sk (ne 4 (by omega)) (sk (ne 5 (by omega)) (sk (ne 6 (by omega)) (sk (ne 7 (by omega)) (sk (ne 8 (by omega)) (sk (ne 9 (by omega)) (sk (ne 10 (by omega)) (e_inN (by omega) (by omega) (b1 hx ⟨_, R.1.2.1, lN (V (2 + (i - 11))), ?_, ?_⟩))))))))))))
      · rw [nI_add, pk_sub (by omega)]
        exact R.1.at _ (by congr 1; omega) (by omega)
      · rw [lN_i]
        exact hk' h ⟨V, F, n, Q, p, X, tn, fl, W, P, e, C, R, pr⟩
  · have cl : ∀ K : Int32 → Hp → Prop, wp_X8_count_25 K z x h → wp_X8_count z x K h := fun K a => by
      refine ⟨fun _ => a, fun q => ⟨fun _ => a, fun q2 => ?_⟩⟩
      rw [lt32, nI_toInt (by omega)] at q
      rw [le32, nI_toInt (by omega)] at q2
      omega
    by_cases y0 : x = nI 0
    · refine ⟨nI (V 0), fun K hk => cl K ⟨_, C.1.2.2.1, C.2.1.S.o C.2.1.w, c_workOut C.2.1.S C.2.1.w o d ee (fun h1 F1 w1 W1 => ?_)⟩⟩
      have C1 : CR h1 z V F1 n Q p X tn fl := ⟨C.1.fr (w1.1 _ (by omega)), C.2.1.sight w1, C.2.2.1.fr (fun q h1 h2 => w1.1 q (by omega)), C.2.2.2.1.fr (fun q h1 h2 => w1.1 q (by omega)), C.2.2.2.2.fr (fun q hq => w1.1 q (by omega))⟩
      have R1 := R.fr (h' := h1) (fun q h1 h2 => w1.1 q (by omega))
      exact tk y0 (⟨_, C1.1.2.2.2.1, _, C1.2.1.B.cards, (hk h1 R1.1.1 (fun K' hk' => tk y0 (⟨_, R1.1.2.1, _, R1.1.at 0 rfl (by omega), (by rw [lN_i]; exact (hk' h1 ⟨V, F1, n, Q, p, X, tn, fl, W, P, e, C1, R1, pr⟩))⟩)))⟩)
    by_cases y1 : x = nI 1
    · refine ⟨nI (cnt (fun i => decide (V (9 + 5 * i + 3) = 2)) (V 0)), fun K hk => cl K ⟨_, C.1.2.2.1, C.2.1.S.o C.2.1.w, c_workOut C.2.1.S C.2.1.w o d ee (fun h1 F1 w1 W1 => ?_)⟩⟩
      have C1 : CR h1 z V F1 n Q p X tn fl := ⟨C.1.fr (w1.1 _ (by omega)), C.2.1.sight w1, C.2.2.1.fr (fun q h1 h2 => w1.1 q (by omega)), C.2.2.2.1.fr (fun q h1 h2 => w1.1 q (by omega)), C.2.2.2.2.fr (fun q hq => w1.1 q (by omega))⟩
      have R1 := R.fr (h' := h1) (fun q h1 h2 => w1.1 q (by omega))
      exact sk y0 (tk y1 (⟨_, C1.1.2.2.2.1, C1.2.1.B.o, c_cardsInStage (m := 2) C1.2.1.B o d (by omega) (hk h1 R1.1.1 (fun K' hk' => sk y0 (tk y1 (⟨R1.1.1, e_inState (m := 2) R1.1 h40 (by omega) (fun i hi => (d i hi).2.2.2.1) (hk' h1 ⟨V, F1, n, Q, p, X, tn, fl, W, P, e, C1, R1, pr⟩)⟩))))⟩))
    by_cases y2 : x = nI 2
    · refine ⟨nI (cnt (fun i => decide (V (9 + 5 * i + 3) = 1)) (V 0)), fun K hk => cl K ⟨_, C.1.2.2.1, C.2.1.S.o C.2.1.w, c_workOut C.2.1.S C.2.1.w o d ee (fun h1 F1 w1 W1 => ?_)⟩⟩
      have C1 : CR h1 z V F1 n Q p X tn fl := ⟨C.1.fr (w1.1 _ (by omega)), C.2.1.sight w1, C.2.2.1.fr (fun q h1 h2 => w1.1 q (by omega)), C.2.2.2.1.fr (fun q h1 h2 => w1.1 q (by omega)), C.2.2.2.2.fr (fun q hq => w1.1 q (by omega))⟩
      have R1 := R.fr (h' := h1) (fun q h1 h2 => w1.1 q (by omega))
      exact sk y0 (sk y1 (tk y2 (⟨_, C1.1.2.2.2.1, C1.2.1.B.o, c_cardsInStage (m := 1) C1.2.1.B o d (by omega) (hk h1 R1.1.1 (fun K' hk' => sk y0 (sk y1 (tk y2 (⟨R1.1.1, e_inState (m := 1) R1.1 h40 (by omega) (fun i hi => (d i hi).2.2.2.1) (hk' h1 ⟨V, F1, n, Q, p, X, tn, fl, W, P, e, C1, R1, pr⟩)⟩)))))⟩)))
    by_cases y3 : x = nI 3
    · refine ⟨nI (cnt (inP V) (V 0)), fun K hk => cl K ⟨_, C.1.2.2.1, C.2.1.S.o C.2.1.w, c_workOut C.2.1.S C.2.1.w o d ee (fun h1 F1 w1 W1 => ?_)⟩⟩
      have C1 : CR h1 z V F1 n Q p X tn fl := ⟨C.1.fr (w1.1 _ (by omega)), C.2.1.sight w1, C.2.2.1.fr (fun q h1 h2 => w1.1 q (by omega)), C.2.2.2.1.fr (fun q h1 h2 => w1.1 q (by omega)), C.2.2.2.2.fr (fun q hq => w1.1 q (by omega))⟩
      have R1 := R.fr (h' := h1) (fun q h1 h2 => w1.1 q (by omega))
      exact sk y0 (sk y1 (sk y2 (tk y3 (⟨_, C1.1.2.2.1, C1.2.1.S.o C1.2.1.w, c_poolSize C1.2.1.S C1.2.1.w o d W1 (hk h1 R1.1.1 (fun K' hk' => sk y0 (sk y1 (sk y2 (tk y3 (⟨R1.1.1, e_laysPool R1.1 R1.2.2.2.1 o d ee (fun h2 fr2 P2 _ => hk' h2 ⟨V, F1, n, Q, p, X, tn, fl, W, P, e, C1.fr (fun q q1 q2 => fr2 q (by omega)), ⟨R1.1.fr (fun q hq => fr2 q (by omega)), R1.2.1.fr (fun q hq => fr2 q (by omega)), R1.2.2.1.fr (fun q hq => fr2 q (by omega)), P2, R1.2.2.2.2.fr (fun q hq => fr2 q (by omega))⟩, pr⟩)⟩))))))⟩))))
    by_cases y4 : x = nI 4
    · refine ⟨nI (V 1), fun K hk => cl K ⟨_, C.1.2.2.1, C.2.1.S.o C.2.1.w, c_workOut C.2.1.S C.2.1.w o d ee (fun h1 F1 w1 W1 => ?_)⟩⟩
      have C1 : CR h1 z V F1 n Q p X tn fl := ⟨C.1.fr (w1.1 _ (by omega)), C.2.1.sight w1, C.2.2.1.fr (fun q h1 h2 => w1.1 q (by omega)), C.2.2.2.1.fr (fun q h1 h2 => w1.1 q (by omega)), C.2.2.2.2.fr (fun q hq => w1.1 q (by omega))⟩
      have R1 := R.fr (h' := h1) (fun q h1 h2 => w1.1 q (by omega))
      exact sk y0 (sk y1 (sk y2 (sk y3 (tk y4 (⟨_, C1.1.2.2.2.1, _, C1.2.1.B.vers, (hk h1 R1.1.1 (fun K' hk' => sk y0 (sk y1 (sk y2 (sk y3 (tk y4 (⟨_, R1.1.2.1, _, R1.1.at 1 rfl (by omega), (by rw [lN_i]; exact (hk' h1 ⟨V, F1, n, Q, p, X, tn, fl, W, P, e, C1, R1, pr⟩))⟩)))))))⟩)))))
    by_cases y5 : x = nI 5
    · refine ⟨nI (cnt (fun i => decide (chs V i ≠ 0 ∧ ¬ (0 = 1 ∧ lok V i = true))) (V 0)), fun K hk => cl K ⟨_, C.1.2.2.1, C.2.1.S.o C.2.1.w, c_workOut C.2.1.S C.2.1.w o d ee (fun h1 F1 w1 W1 => ?_)⟩⟩
      have C1 : CR h1 z V F1 n Q p X tn fl := ⟨C.1.fr (w1.1 _ (by omega)), C.2.1.sight w1, C.2.2.1.fr (fun q h1 h2 => w1.1 q (by omega)), C.2.2.2.1.fr (fun q h1 h2 => w1.1 q (by omega)), C.2.2.2.2.fr (fun q hq => w1.1 q (by omega))⟩
      have R1 := R.fr (h' := h1) (fun q h1 h2 => w1.1 q (by omega))
      exact sk y0 (sk y1 (sk y2 (sk y3 (sk y4 (tk y5 (⟨_, C1.1.2.2.1, C1.2.1.S.o C1.2.1.w, c_cardsChanging C1.2.1.S C1.2.1.w o W1 (hk h1 R1.1.1 (fun K' hk' => sk y0 (sk y1 (sk y2 (sk y3 (sk y4 (tk y5 (⟨R1.1.1, e_changing (u := 0) R1.1 o d ee (by omega) (hk' h1 ⟨V, F1, n, Q, p, X, tn, fl, W, P, e, C1, R1, pr⟩)⟩))))))))⟩))))))
    by_cases y6 : x = nI 6
    · refine ⟨nI (cnt (fun i => decide (chs V i ≠ 0 ∧ ¬ (1 = 1 ∧ lok V i = true))) (V 0)), fun K hk => cl K ⟨_, C.1.2.2.1, C.2.1.S.o C.2.1.w, c_workOut C.2.1.S C.2.1.w o d ee (fun h1 F1 w1 W1 => ?_)⟩⟩
      have C1 : CR h1 z V F1 n Q p X tn fl := ⟨C.1.fr (w1.1 _ (by omega)), C.2.1.sight w1, C.2.2.1.fr (fun q h1 h2 => w1.1 q (by omega)), C.2.2.2.1.fr (fun q h1 h2 => w1.1 q (by omega)), C.2.2.2.2.fr (fun q hq => w1.1 q (by omega))⟩
      have R1 := R.fr (h' := h1) (fun q h1 h2 => w1.1 q (by omega))
      exact sk y0 (sk y1 (sk y2 (sk y3 (sk y4 (sk y5 (tk y6 (⟨_, C1.1.2.2.1, C1.2.1.S.o C1.2.1.w, c_unseenChanging C1.2.1.S C1.2.1.w o d W1 (hk h1 R1.1.1 (fun K' hk' => sk y0 (sk y1 (sk y2 (sk y3 (sk y4 (sk y5 (tk y6 (⟨R1.1.1, e_changing (u := 1) R1.1 o d ee (by omega) (hk' h1 ⟨V, F1, n, Q, p, X, tn, fl, W, P, e, C1, R1, pr⟩)⟩)))))))))⟩)))))))
    by_cases y7 : x = nI 7
    · refine ⟨nI (cnt (stk V) (12 * V 0)), fun K hk => cl K ⟨_, C.1.2.2.1, C.2.1.S.o C.2.1.w, c_workOut C.2.1.S C.2.1.w o d ee (fun h1 F1 w1 W1 => ?_)⟩⟩
      have C1 : CR h1 z V F1 n Q p X tn fl := ⟨C.1.fr (w1.1 _ (by omega)), C.2.1.sight w1, C.2.2.1.fr (fun q h1 h2 => w1.1 q (by omega)), C.2.2.2.1.fr (fun q h1 h2 => w1.1 q (by omega)), C.2.2.2.2.fr (fun q hq => w1.1 q (by omega))⟩
      have R1 := R.fr (h' := h1) (fun q h1 h2 => w1.1 q (by omega))
      exact sk y0 (sk y1 (sk y2 (sk y3 (sk y4 (sk y5 (sk y6 (tk y7 (⟨_, C1.1.2.2.1, C1.2.1.S.o C1.2.1.w, c_streaks C1.2.1.S C1.2.1.w o W1 (hk h1 R1.1.1 (fun K' hk' => sk y0 (sk y1 (sk y2 (sk y3 (sk y4 (sk y5 (sk y6 (tk y7 (⟨R1.1.1, e_streaks R1.1 o d (hk' h1 ⟨V, F1, n, Q, p, X, tn, fl, W, P, e, C1, R1, pr⟩)⟩))))))))))⟩))))))))
    by_cases y8 : x = nI 8
    · refine ⟨nI (V 455 + V 911), fun K hk => cl K ⟨_, C.1.2.2.1, C.2.1.S.o C.2.1.w, c_workOut C.2.1.S C.2.1.w o d ee (fun h1 F1 w1 W1 => ?_)⟩⟩
      have C1 : CR h1 z V F1 n Q p X tn fl := ⟨C.1.fr (w1.1 _ (by omega)), C.2.1.sight w1, C.2.2.1.fr (fun q h1 h2 => w1.1 q (by omega)), C.2.2.2.1.fr (fun q h1 h2 => w1.1 q (by omega)), C.2.2.2.2.fr (fun q hq => w1.1 q (by omega))⟩
      have R1 := R.fr (h' := h1) (fun q h1 h2 => w1.1 q (by omega))
      exact sk y0 (sk y1 (sk y2 (sk y3 (sk y4 (sk y5 (sk y6 (sk y7 (tk y8 (⟨_, C1.1.2.2.2.2.1, C1.2.2.1.1.1, c_snapshots C1.2.2.1 (hk h1 R1.1.1 (fun K' hk' => sk y0 (sk y1 (sk y2 (sk y3 (sk y4 (sk y5 (sk y6 (sk y7 (tk y8 (⟨_, R1.1.2.1, lN (V 455), (by rw [nI_mul, nI_add]; exact R1.1.at 455 rfl (by omega)), _, R1.1.2.1, lN (V 911), (by rw [nI_mul, nI_add]; exact R1.1.at 911 rfl (by omega)), (by rw [lN_add, lN_i]; exact (hk' h1 ⟨V, F1, n, Q, p, X, tn, fl, W, P, e, C1, R1, pr⟩))⟩)))))))))))⟩)))))))))
    by_cases y9 : x = nI 9
    · refine ⟨nI n, fun K hk => cl K ⟨_, C.1.2.2.1, C.2.1.S.o C.2.1.w, c_workOut C.2.1.S C.2.1.w o d ee (fun h1 F1 w1 W1 => ?_)⟩⟩
      have C1 : CR h1 z V F1 n Q p X tn fl := ⟨C.1.fr (w1.1 _ (by omega)), C.2.1.sight w1, C.2.2.1.fr (fun q h1 h2 => w1.1 q (by omega)), C.2.2.2.1.fr (fun q h1 h2 => w1.1 q (by omega)), C.2.2.2.2.fr (fun q hq => w1.1 q (by omega))⟩
      have R1 := R.fr (h' := h1) (fun q h1 h2 => w1.1 q (by omega))
      exact sk y0 (sk y1 (sk y2 (sk y3 (sk y4 (sk y5 (sk y6 (sk y7 (sk y8 (tk y9 (⟨_, C1.1.2.2.2.2.2.1, _, C1.2.2.2.1.1.2.1, (hk h1 R1.1.1 (fun K' hk' => sk y0 (sk y1 (sk y2 (sk y3 (sk y4 (sk y5 (sk y6 (sk y7 (sk y8 (tk y9 (⟨_, R1.2.2.1.2.1, (hk' h1 ⟨V, F1, n, Q, p, X, tn, fl, W, P, e, C1, R1, pr⟩)⟩))))))))))))⟩))))))))))
    by_cases y10 : x = nI 10
    · refine ⟨nI tn, fun K hk => cl K ⟨_, C.1.2.2.1, C.2.1.S.o C.2.1.w, c_workOut C.2.1.S C.2.1.w o d ee (fun h1 F1 w1 W1 => ?_)⟩⟩
      have C1 : CR h1 z V F1 n Q p X tn fl := ⟨C.1.fr (w1.1 _ (by omega)), C.2.1.sight w1, C.2.2.1.fr (fun q h1 h2 => w1.1 q (by omega)), C.2.2.2.1.fr (fun q h1 h2 => w1.1 q (by omega)), C.2.2.2.2.fr (fun q hq => w1.1 q (by omega))⟩
      have R1 := R.fr (h' := h1) (fun q h1 h2 => w1.1 q (by omega))
      exact sk y0 (sk y1 (sk y2 (sk y3 (sk y4 (sk y5 (sk y6 (sk y7 (sk y8 (sk y9 (tk y10 (⟨_, C1.1.2.2.2.2.2.2, _, C1.2.2.2.2.2.1, _, C1.2.2.2.2.2.2.2.2.2.1, (hk h1 R1.1.1 (fun K' hk' => sk y0 (sk y1 (sk y2 (sk y3 (sk y4 (sk y5 (sk y6 (sk y7 (sk y8 (sk y9 (tk y10 (⟨_, R1.2.2.2.2.2.1, (hk' h1 ⟨V, F1, n, Q, p, X, tn, fl, W, P, e, C1, R1, pr⟩)⟩)))))))))))))⟩)))))))))))
    · refine ⟨-1, fun K hk => cl K ⟨_, C.1.2.2.1, C.2.1.S.o C.2.1.w, c_workOut C.2.1.S C.2.1.w o d ee (fun h1 F1 w1 W1 => ?_)⟩⟩
      have C1 : CR h1 z V F1 n Q p X tn fl := ⟨C.1.fr (w1.1 _ (by omega)), C.2.1.sight w1, C.2.2.1.fr (fun q h1 h2 => w1.1 q (by omega)), C.2.2.2.1.fr (fun q h1 h2 => w1.1 q (by omega)), C.2.2.2.2.fr (fun q hq => w1.1 q (by omega))⟩
      have R1 := R.fr (h' := h1) (fun q h1 h2 => w1.1 q (by omega))
      exact sk y0 (sk y1 (sk y2 (sk y3 (sk y4 (sk y5 (sk y6 (sk y7 (sk y8 (sk y9 (sk y10 ((hk h1 R1.1.1 (fun K' hk' => sk y0 (sk y1 (sk y2 (sk y3 (sk y4 (sk y5 (sk y6 (sk y7 (sk y8 (sk y9 (sk y10 (e_inN (by omega) (by omega) (b0 hx (hk' h1 ⟨V, F1, n, Q, p, X, tn, fl, W, P, e, C1, R1, pr⟩))))))))))))))))))))))))))
end CT
