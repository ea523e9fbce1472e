/-! the law's loop, and the law -/
theorem Inv.mono {N N' : Nat} {h : Hp} {z : Nat} (I : Inv N h z) (hN : N ≤ N') : Inv N' h z := by
  obtain ⟨V, F, n, Q, p, X, tn, fl, W, P, e, C, R, p1, p2, p3, p4⟩ := I
  exact ⟨V, F, n, Q, p, X, tn, fl, W, P, e, C, R, p1, p2.mono hN, fun j hj => (p3 j hj).mono hN, p4⟩
theorem Inv.o {N : Nat} {h : Hp} {z : Nat} (I : Inv N h z) : isO h z 8 := by
  obtain ⟨V, F, n, Q, p, X, tn, fl, W, P, e, C, R, -⟩ := I
  exact C.1.1
theorem lw_lt5 {L i : Nat} (hL : L ≤ 2560) (hi : i ≤ 2560) : nI L - nI 5 < nI i ↔ L < i + 5 := by
  rw [lt32, nI_toInt (show i < 2 ^ 31 by omega)]
  by_cases z : 5 ≤ L
  · rw [pk_sub z, nI_toInt (by omega)]
    omega
  · have e : (nI L - nI 5).toInt = (L : Int) - 5 := by
      rcases (show L = 0 ∨ L = 1 ∨ L = 2 ∨ L = 3 ∨ L = 4 by omega) with rfl | rfl | rfl | rfl | rfl <;> decide
    rw [e]
    omega
theorem scr_at {xs : Nat → Int32} {L i : Nat} (hL : L ≤ 2560) (hi : i < L) : scr xs L (nI i) = some (xs i) := by
  unfold scr
  rw [if_pos ((in_iff (by omega)).mpr hi), nI_clamp (by omega)]
theorem law_call {xs : Nat → Int32} {L z d j : Nat} {h : Hp} (hL : L ≤ 2560) (hj : 5 * j + 5 ≤ L) (I : Inv (141 * j) h z) (go : ∀ h2, Inv (141 * (j + 1)) h2 z → ∀ y : Int32, y = nI (5 * j) + nI 5 → wp_L_law_18 xs L (fun v _ => v = nI 1) z (z + 259) d y h2) : wp_L_law_18 xs L (fun v _ => v = nI 1) z (z + 259) (d + 1) (nI (5 * j)) h := by
  have hN : 141 * j < 2 ^ 29 := by omega
  have o := I.o
  have s1 : scr xs L (nI (5 * j) + nI 1) = some (xs (5 * j + 1)) := by rw [nI_add]; exact scr_at hL (by omega)
  have s2 : scr xs L (nI (5 * j) + nI 2) = some (xs (5 * j + 2)) := by rw [nI_add]; exact scr_at hL (by omega)
  have s3 : scr xs L (nI (5 * j) + nI 3) = some (xs (5 * j + 3)) := by rw [nI_add]; exact scr_at hL (by omega)
  have s4 : scr xs L (nI (5 * j) + nI 4) = some (xs (5 * j + 4)) := by rw [nI_add]; exact scr_at hL (by omega)
  refine ⟨fun q => absurd ((lw_lt5 hL (by omega)).mp q) (by omega), fun _ => ⟨_, scr_at hL (by omega), ?_⟩⟩
  refine ⟨fun _ => ?_, fun _ => ?_⟩
  · obtain ⟨r, S⟩ := step_scan I hN (xs (5 * j + 1)) (((Int32.toInt64 (xs (5 * j + 2))) <<< (Int32.toInt64 (nI 32) &&& 63)) ||| ((Int32.toInt64 (xs (5 * j + 3))) &&& (lN 4294967295)))
    exact ⟨_, s1, _, s2, _, s3, o, S _ (fun h1 o1 g => ⟨_, s1, _, s2, _, s3, o1, g _ (fun h2 J => ⟨fun _ => go h2 (J.mono (by omega)), fun q => absurd rfl q⟩)⟩)⟩
  refine ⟨fun _ => ?_, fun _ => ?_⟩
  · obtain ⟨r, S⟩ := step_clean I hN (xs (5 * j + 1))
    exact ⟨_, s1, o, S _ (fun h1 o1 g => ⟨_, s1, o1, g _ (fun h2 J => ⟨fun _ => go h2 (J.mono (by omega)), fun q => absurd rfl q⟩)⟩)⟩
  refine ⟨fun _ => ?_, fun _ => ?_⟩
  · obtain ⟨r, S⟩ := step_set I (xs (5 * j + 1)) (xs (5 * j + 2))
    exact ⟨_, s1, _, s2, o, S _ (fun h1 o1 g => ⟨_, s1, _, s2, o1, g _ (fun h2 J => ⟨fun _ => go h2 (J.mono (by omega)), fun q => absurd rfl q⟩)⟩)⟩
  refine ⟨fun _ => ?_, fun _ => ?_⟩
  · obtain ⟨r, S⟩ := step_publish I hN
    exact ⟨o, S _ (fun h1 o1 g => ⟨o1, g _ (fun h2 J => ⟨fun _ => go h2 (J.mono (by omega)), fun q => absurd rfl q⟩)⟩)⟩
  refine ⟨fun _ => ?_, fun _ => ?_⟩
  · obtain ⟨r, S⟩ := step_draw I hN (xs (5 * j + 1)) (xs (5 * j + 2))
    exact ⟨_, s1, _, s2, o, S _ (fun h1 o1 g => ⟨_, s1, _, s2, o1, g _ (fun h2 J => ⟨fun _ => go h2 (J.mono (by omega)), fun q => absurd rfl q⟩)⟩)⟩
  refine ⟨fun _ => ?_, fun _ => ?_⟩
  · obtain ⟨r, S⟩ := step_look I hN (xs (5 * j + 1)) (((Int32.toInt64 (xs (5 * j + 2))) <<< (Int32.toInt64 (nI 32) &&& 63)) ||| ((Int32.toInt64 (xs (5 * j + 3))) &&& (lN 4294967295)))
    exact ⟨_, s1, _, s2, _, s3, o, S _ (fun h1 o1 g => ⟨_, s1, _, s2, _, s3, o1, g _ (fun h2 J => ⟨fun _ => go h2 (J.mono (by omega)), fun q => absurd rfl q⟩)⟩)⟩
  refine ⟨fun _ => ?_, fun _ => ?_⟩
  · obtain ⟨r, S⟩ := step_take I (xs (5 * j + 1))
    exact ⟨_, s1, o, S _ (fun h1 o1 g => ⟨_, s1, o1, g _ (fun h2 J => ⟨fun _ => go h2 (J.mono (by omega)), fun q => absurd rfl q⟩)⟩)⟩
  refine ⟨fun _ => ?_, fun _ => ?_⟩
  · obtain ⟨r, S⟩ := step_restore I (xs (5 * j + 1))
    exact ⟨_, s1, o, S _ (fun h1 o1 g => ⟨_, s1, o1, g _ (fun h2 J => ⟨fun _ => go h2 (J.mono (by omega)), fun q => absurd rfl q⟩)⟩)⟩
  refine ⟨fun _ => ?_, fun _ => ?_⟩
  · obtain ⟨r, S⟩ := step_undo I
    exact ⟨o, S _ (fun h1 o1 g => ⟨o1, g _ (fun h2 J => ⟨fun _ => go h2 (J.mono (by omega)), fun q => absurd rfl q⟩)⟩)⟩
  refine ⟨fun _ => ?_, fun _ => ?_⟩
  · obtain ⟨r, S⟩ := step_append I (xs (5 * j + 1))
    exact ⟨_, s1, o, S _ (fun h1 o1 g => ⟨_, s1, o1, g _ (fun h2 J => ⟨fun _ => go h2 (J.mono (by omega)), fun q => absurd rfl q⟩)⟩)⟩
  refine ⟨fun _ => ?_, fun _ => ?_⟩
  · obtain ⟨r, S⟩ := step_clearText I
    exact ⟨o, S _ (fun h1 o1 g => ⟨o1, g _ (fun h2 J => ⟨fun _ => go h2 (J.mono (by omega)), fun q => absurd rfl q⟩)⟩)⟩
  refine ⟨fun _ => ?_, fun _ => ?_⟩
  · obtain ⟨r, S⟩ := step_run I (by omega)
    exact ⟨o, S _ (fun h1 o1 g => ⟨o1, g _ (fun h2 J => ⟨fun _ => go h2 (J.mono (by omega)), fun q => absurd rfl q⟩)⟩)⟩
  refine ⟨fun _ => ?_, fun _ => ?_⟩
  · obtain ⟨r, S⟩ := step_failure I (xs (5 * j + 1))
    exact ⟨_, s1, o, S _ (fun h1 o1 g => ⟨_, s1, o1, g _ (fun h2 J => ⟨fun _ => go h2 (J.mono (by omega)), fun q => absurd rfl q⟩)⟩)⟩
  refine ⟨fun _ => ?_, fun _ => ?_⟩
  · obtain ⟨r, S⟩ := step_count I hN (xs (5 * j + 1))
    exact ⟨_, s1, o, S _ (fun h1 o1 g => ⟨_, s1, o1, g _ (fun h2 J => ⟨fun _ => go h2 (J.mono (by omega)), fun q => absurd rfl q⟩)⟩)⟩
  refine ⟨fun _ => ?_, fun _ => ?_⟩
  · obtain ⟨r, S⟩ := step_two (A := fun z => wp_X8_card z (xs (5 * j + 1)) (xs (5 * j + 2))) (B := fun M => wp_X9_card M (xs (5 * j + 1)) (xs (5 * j + 2))) I hN (fun V k => two_card k.c (k.d (by omega)) k.e _ _)
    exact ⟨_, s1, _, s2, o, S _ (fun h1 o1 g => ⟨_, s1, _, s2, o1, g _ (fun h2 J => ⟨fun _ => go h2 (J.mono (by omega)), fun q => absurd rfl q⟩)⟩)⟩
  refine ⟨fun _ => ?_, fun _ => ?_⟩
  · obtain ⟨r, S⟩ := step_two (A := fun z => wp_X8_place z (xs (5 * j + 1)) (xs (5 * j + 2)) (xs (5 * j + 3))) (B := fun M => wp_X9_place M (xs (5 * j + 1)) (xs (5 * j + 2)) (xs (5 * j + 3))) I hN (fun V k => two_place k.c (k.d (by omega)) k.e _ _ _)
    exact ⟨_, s1, _, s2, _, s3, o, S _ (fun h1 o1 g => ⟨_, s1, _, s2, _, s3, o1, g _ (fun h2 J => ⟨fun _ => go h2 (J.mono (by omega)), fun q => absurd rfl q⟩)⟩)⟩
  refine ⟨fun _ => ?_, fun _ => ?_⟩
  · obtain ⟨r, S⟩ := step_two (A := fun z => wp_X8_runAt z (xs (5 * j + 1)) (xs (5 * j + 2)) (xs (5 * j + 3))) (B := fun M => wp_X9_runAt M (xs (5 * j + 1)) (xs (5 * j + 2)) (xs (5 * j + 3))) I hN (fun V k => two_runAt k.c (k.d (by omega)) k.e _ _ _)
    exact ⟨_, s1, _, s2, _, s3, o, S _ (fun h1 o1 g => ⟨_, s1, _, s2, _, s3, o1, g _ (fun h2 J => ⟨fun _ => go h2 (J.mono (by omega)), fun q => absurd rfl q⟩)⟩)⟩
  refine ⟨fun _ => ?_, fun _ => ?_⟩
  · obtain ⟨r, S⟩ := step_two (A := fun z => wp_X8_outcome z (xs (5 * j + 1)) (xs (5 * j + 2)) (xs (5 * j + 3))) (B := fun M => wp_X9_outcome M (xs (5 * j + 1)) (xs (5 * j + 2)) (xs (5 * j + 3))) I hN (fun V k => two_outcome k.c (k.d (by omega)) k.e _ _ _)
    exact ⟨_, s1, _, s2, _, s3, o, S _ (fun h1 o1 g => ⟨_, s1, _, s2, _, s3, o1, g _ (fun h2 J => ⟨fun _ => go h2 (J.mono (by omega)), fun q => absurd rfl q⟩)⟩)⟩
  refine ⟨fun _ => ?_, fun _ => ?_⟩
  · obtain ⟨r, S⟩ := step_two (A := fun z => wp_X8_tally z (xs (5 * j + 1)) (xs (5 * j + 2)) (xs (5 * j + 3)) (xs (5 * j + 4))) (B := fun M => wp_X9_tally M (xs (5 * j + 1)) (xs (5 * j + 2)) (xs (5 * j + 3)) (xs (5 * j + 4))) I hN (fun V k => two_tally k.c (k.d (by omega)) k.e _ _ _ _)
    exact ⟨_, s1, _, s2, _, s3, _, s4, o, S _ (fun h1 o1 g => ⟨_, s1, _, s2, _, s3, _, s4, o1, g _ (fun h2 J => ⟨fun _ => go h2 (J.mono (by omega)), fun q => absurd rfl q⟩)⟩)⟩
  refine ⟨fun _ => ?_, fun _ => ?_⟩
  · obtain ⟨r, S⟩ := step_two (A := fun z => wp_X8_changed z (xs (5 * j + 1)) (xs (5 * j + 2)) (xs (5 * j + 3))) (B := fun M => wp_X9_changed M (xs (5 * j + 1)) (xs (5 * j + 2)) (xs (5 * j + 3))) I hN (fun V k => two_changed k.c (k.d (by omega)) k.e k.2.2.2.2 _ _ _)
    exact ⟨_, s1, _, s2, _, s3, o, S _ (fun h1 o1 g => ⟨_, s1, _, s2, _, s3, o1, g _ (fun h2 J => ⟨fun _ => go h2 (J.mono (by omega)), fun q => absurd rfl q⟩)⟩)⟩
  refine ⟨fun _ => ?_, fun _ => ?_⟩
  · obtain ⟨r, S⟩ := step_two (A := fun z => wp_X8_leader z (xs (5 * j + 1)) (xs (5 * j + 2))) (B := fun M => wp_X9_leader M (xs (5 * j + 1)) (xs (5 * j + 2))) I hN (fun V k => two_leader k.c (k.d (by omega)) k.e _ _)
    exact ⟨_, s1, _, s2, o, S _ (fun h1 o1 g => ⟨_, s1, _, s2, o1, g _ (fun h2 J => ⟨fun _ => go h2 (J.mono (by omega)), fun q => absurd rfl q⟩)⟩)⟩
  refine ⟨fun _ => ?_, fun _ => ?_⟩
  · obtain ⟨r, S⟩ := step_two (A := fun z => wp_X8_error z (xs (5 * j + 1)) (xs (5 * j + 2))) (B := fun M => wp_X9_error M (xs (5 * j + 1)) (xs (5 * j + 2))) I hN (fun V k => two_error k.c (k.d (by omega)) k.e _ _)
    exact ⟨_, s1, _, s2, o, S _ (fun h1 o1 g => ⟨_, s1, _, s2, o1, g _ (fun h2 J => ⟨fun _ => go h2 (J.mono (by omega)), fun q => absurd rfl q⟩)⟩)⟩
  refine ⟨fun _ => ?_, fun _ => ?_⟩
  · obtain ⟨r, S⟩ := step_two (A := fun z => wp_X8_byLength z (xs (5 * j + 1))) (B := fun M => wp_X9_byLength M (xs (5 * j + 1))) I hN (fun V k => two_byLength k.c (k.d (by omega)) k.e _)
    exact ⟨_, s1, o, S _ (fun h1 o1 g => ⟨_, s1, o1, g _ (fun h2 J => ⟨fun _ => go h2 (J.mono (by omega)), fun q => absurd rfl q⟩)⟩)⟩
  refine ⟨fun _ => ?_, fun _ => ?_⟩
  · obtain ⟨r, S⟩ := step_two (A := fun z => wp_X8_drawn z (xs (5 * j + 1))) (B := fun M => wp_X9_drawn M (xs (5 * j + 1))) I hN (fun V k => two_drawn k.c (k.d (by omega)) k.e _)
    exact ⟨_, s1, o, S _ (fun h1 o1 g => ⟨_, s1, o1, g _ (fun h2 J => ⟨fun _ => go h2 (J.mono (by omega)), fun q => absurd rfl q⟩)⟩)⟩
  refine ⟨fun _ => ?_, fun _ => ?_⟩
  · obtain ⟨r, S⟩ := step_two (A := fun z => wp_X8_seedFor z (xs (5 * j + 1))) (B := fun M => wp_X9_seedFor M (xs (5 * j + 1))) I hN (fun V k => two_seedFor k.c (k.d (by omega)) k.e _)
    exact ⟨_, s1, o, S _ (fun h1 o1 g => ⟨_, s1, o1, g _ (fun h2 J => ⟨fun _ => go h2 (J.mono (by omega)), fun q => absurd rfl q⟩)⟩)⟩
  exact go h (I.mono (by omega))
theorem law_loop {xs : Nat → Int32} {L z : Nat} (hL : L ≤ 2560) : ∀ d j h, j ≤ 512 → L ≤ 5 * (j + d) + 4 → Inv (141 * j) h z → wp_L_law_18 xs L (fun v _ => v = nI 1) z (z + 259) (d + 1) (nI (5 * j)) h := by
  intro d
  induction d with
  | zero =>
    intro j h hj hd I
    exact ⟨fun _ => rfl, fun q => absurd ((lw_lt5 hL (by omega)).mpr (by omega)) q⟩
  | succ d ih =>
    intro j h hj hd I
    by_cases y : L < 5 * j + 5
    · exact ⟨fun _ => rfl, fun q => absurd ((lw_lt5 hL (by omega)).mpr y) q⟩
    · refine law_call hL (by omega) I (fun h2 J y ey => ?_)
      subst ey
      rw [nI_add, show 5 * j + 5 = 5 * (j + 1) by omega]
      exact ih (j + 1) h2 (by omega) (by omega) J
theorem law_holds (xs : Nat → Int32) (L z : Nat) (hL : L ≤ 2560) : wp_law xs L z := by
  refine i_X8 (by omega) (hset_s _ _ _) (fun h2 C => i_X9 (by omega) (hset_s _ _ _) (fun h4 fr R => ⟨L + 1, law_loop hL L 0 h4 (by omega) (by omega) (inv_0 (C.fr (fun q q1 q2 => (fr q (by omega)).trans (hset_n (by omega)))) R)⟩))
