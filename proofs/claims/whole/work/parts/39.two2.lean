/-! the questions on both sides, the rest -/
theorem sp {i p : Nat} {A : Int32 → Prop} (a : A (nI (i * 12 + p))) : ∀ y : Int32, y = ((nI i * nI 12) + nI p) → A y := by
  intro y ey
  rw [nI_mul, nI_add] at ey
  subst ey
  exact a
theorem SR.gv {h0 h : Hp} {s : Nat} {F : Nat → Nat → Int32} (w : SR h0 h s F) {k i : Nat} {v : Int32} (hk : k < 14) (h12 : k ≠ 12) (hi : i < sln k) (e : F k i = v) : gI h (s + 11 + k) 0 (nI i) = some v := by
  rw [← e]
  exact w.g hk h12 hi
theorem c_nextLot {K : Int32 → Hp → Prop} {h : Hp} {s : Nat} (hs : s < 65537) (hk : K (nI (lot s)) h) : wp_X8_nextLot (nI s) K h := by
  unfold wp_X8_nextLot
  rw [lot_i hs]
  exact hk
theorem e_inM {K : Int32 → Hp → Prop} {h : Hp} {x : Int32} (hk : K (bI ((-1 : Int) ≤ x.toInt ∧ x.toInt ≤ 2)) h) : wp_X9_in (Int32.toInt64 x) (-1) (lN 2) K h := by
  refine e_in ?_
  rw [bI_c (q := (-1 : Int) ≤ x.toInt ∧ x.toInt ≤ 2) (by rw [le64, le64, toI64, lNT (by omega)]; exact Iff.rfl)]
  exact hk
theorem ne_m1 {j : Nat} (hj : j < 2 ^ 31) : ¬ nI j = (-1 : Int32) := fun q => by
  have := congrArg Int32.toInt q
  rw [nI_toInt hj, m1T] at this
  omega
theorem lN_ne0 {n : Nat} (h0 : 0 < n) (hn : n < 2 ^ 31) : ¬ Int32.toInt64 (nI n) = 0 := fun q => by
  have := congrArg Int64.toInt q
  rw [toI64, nI_toInt hn] at this
  have z : (0 : Int64).toInt = 0 := by decide
  rw [z] at this
  omega
theorem nI_nz {n : Nat} (h0 : 0 < n) (hn : n < 2 ^ 31) : ¬ nI n = 0 := fun q => by
  rw [z0] at q
  have := (nI_eq hn (by omega)).mp q
  omega
section TX
variable {V : Nat → Nat}
theorem two_place (o : okC V) (d : okD V) (ee : okE V) (x y u : Int32) : Two V (fun z => wp_X8_place z x y u) (fun M => wp_X9_place M x y u) := by
  have h40 := o.1
  by_cases hx : 0 ≤ x.toInt ∧ x.toInt < (V 0 : Int)
  · by_cases hy : ((0 : Nat) : Int) ≤ y.toInt ∧ y.toInt ≤ ((11 : Nat) : Int)
    · obtain ⟨i, hi31, rfl, ei⟩ := of_toI hx.1
      obtain ⟨p, hp31, rfl, ep⟩ := of_toI hy.1
      have hi : i < V 0 := by omega
      have hp : p < 12 := by omega
      have di := d i (by omega)
      have h2 := o.2.2.1
      by_cases y0 : u = nI 0
      · exact ⟨nI (rd V p i), fun h z F K C hk => ⟨_, C.2.1, C.B.o, c_hasCard C.B h40 (b1 hx (c_within (by omega) (by omega) (n1 hy ⟨_, C.1, C.S.o C.w, c_workOut C.S C.w o d ee (fun h' F' w' W => sp (tk y0 ⟨_, C.g1 w', _, C.S.f w' (k := 1) (by omega), _, w'.gv (k := 1) (by omega) (by omega) (by show _ < 480; omega) ((W.1 i hi).2 p hp).1, hk h' F' w'⟩))⟩)))⟩, fun h M K R P hk => ⟨R.1, e_isCard R h40 (b1 hx (e_isPlace (n1 hy (tk y0 ⟨R.1, e_read R (by omega) hp di.2.1 (hk h (fun _ _ => rfl) P)⟩))))⟩⟩
      by_cases y1 : u = nI 1
      · exact ⟨nI (dirt V (V 2) p i), fun h z F K C hk => ⟨_, C.2.1, C.B.o, c_hasCard C.B h40 (b1 hx (c_within (by omega) (by omega) (n1 hy ⟨_, C.1, C.S.o C.w, c_workOut C.S C.w o d ee (fun h' F' w' W => sp (sk y0 (tk y1 ⟨_, C.g1 w', _, C.S.f w' (k := 7) (by omega), _, w'.gv (k := 7) (by omega) (by omega) (by show _ < 480; omega) ((W.2.2.1 i hi).1 p hp).1, hk h' F' w'⟩)))⟩)))⟩, fun h M K R P hk => ⟨R.1, e_isCard R h40 (b1 hx (e_isPlace (n1 hy (sk y0 (tk y1 ⟨R.1, e_length R ⟨R.1, e_dirt R o d hi hp (by omega) (hk h (fun _ _ => rfl) P)⟩⟩)))))⟩⟩
      by_cases y2 : u = nI 2
      · by_cases hl : V (9 + 5 * i + 3) = 2
        · exact ⟨nI (trt V p i), fun h z F K C hk => ⟨_, C.2.1, C.B.o, c_hasCard C.B h40 (b1 hx (c_within (by omega) (by omega) (n1 hy ⟨_, C.1, C.S.o C.w, c_workOut C.S C.w o d ee (fun h' F' w' W => sp (sk y0 (sk y1 (tk y2 ⟨_, C.g2 w', _, (C.S.B w').fs, _, (C.S.B w').s (by omega), b_ne (by omega) (by omega) (fun q => absurd hl q) (fun _ => ⟨_, C.g1 w', _, C.S.f w' (k := 2) (by omega), _, w'.gv (k := 2) (by omega) (by omega) (by show _ < 480; omega) ((W.1 i hi).2 p hp).2, hk h' F' w'⟩)⟩))))⟩)))⟩, fun h M K R P hk => ⟨R.1, e_isCard R h40 (b1 hx (e_isPlace (n1 hy (sk y0 (sk y1 (tk y2 ⟨R.1, e_isLooked R (by omega) di.2.2.2.1 (b1 hl ⟨_, R.2.1, e_c ⟨_, R.at (9 + 5 * i + 4) rfl (by omega), e_digit di.2.2.2.2 hp (hk h (fun _ _ => rfl) P)⟩⟩)⟩))))))⟩⟩
        · exact ⟨-9, fun h z F K C hk => ⟨_, C.2.1, C.B.o, c_hasCard C.B h40 (b1 hx (c_within (by omega) (by omega) (n1 hy ⟨_, C.1, C.S.o C.w, c_workOut C.S C.w o d ee (fun h' F' w' W => sp (sk y0 (sk y1 (tk y2 ⟨_, C.g2 w', _, (C.S.B w').fs, _, (C.S.B w').s (by omega), b_ne (by omega) (by omega) (fun q => hk h' F' w') (fun q => absurd q hl)⟩))))⟩)))⟩, fun h M K R P hk => ⟨R.1, e_isCard R h40 (b1 hx (e_isPlace (n1 hy (sk y0 (sk y1 (tk y2 ⟨R.1, e_isLooked R (by omega) di.2.2.2.1 (b0 hl (hk h (fun _ _ => rfl) P))⟩))))))⟩⟩
      by_cases y3 : u = nI 3
      · exact ⟨nI (clr V (V 2) p i), fun h z F K C hk => ⟨_, C.2.1, C.B.o, c_hasCard C.B h40 (b1 hx (c_within (by omega) (by omega) (n1 hy ⟨_, C.1, C.S.o C.w, c_workOut C.S C.w o d ee (fun h' F' w' W => sp (sk y0 (sk y1 (sk y2 (tk y3 ⟨_, C.g1 w', _, C.S.f w' (k := 8) (by omega), _, w'.gv (k := 8) (by omega) (by omega) (by show _ < 480; omega) ((W.2.2.1 i hi).1 p hp).2.1, hk h' F' w'⟩)))))⟩)))⟩, fun h M K R P hk => ⟨R.1, e_isCard R h40 (b1 hx (e_isPlace (n1 hy (sk y0 (sk y1 (sk y2 (tk y3 ⟨R.1, e_length R ⟨R.1, e_clear R o d hi hp (by omega) (hk h (fun _ _ => rfl) P)⟩⟩)))))))⟩⟩
      by_cases y4 : u = nI 4
      · exact ⟨nI (mk V (V 2) p i), fun h z F K C hk => ⟨_, C.2.1, C.B.o, c_hasCard C.B h40 (b1 hx (c_within (by omega) (by omega) (n1 hy ⟨_, C.1, C.S.o C.w, c_workOut C.S C.w o d ee (fun h' F' w' W => sp (sk y0 (sk y1 (sk y2 (sk y3 (tk y4 ⟨_, C.g1 w', _, C.S.f w' (k := 9) (by omega), _, w'.gv (k := 9) (by omega) (by omega) (by show _ < 480; omega) ((W.2.2.1 i hi).1 p hp).2.2, hk h' F' w'⟩))))))⟩)))⟩, fun h M K R P hk => ⟨R.1, e_isCard R h40 (b1 hx (e_isPlace (n1 hy (sk y0 (sk y1 (sk y2 (sk y3 (tk y4 ⟨R.1, e_length R ⟨R.1, e_mark R o d hi hp (by omega) (hk h (fun _ _ => rfl) P)⟩⟩))))))))⟩⟩
      · exact ⟨-1, fun h z F K C hk => ⟨_, C.2.1, C.B.o, c_hasCard C.B h40 (b1 hx (c_within (by omega) (by omega) (n1 hy ⟨_, C.1, C.S.o C.w, c_workOut C.S C.w o d ee (fun h' F' w' W => sp (sk y0 (sk y1 (sk y2 (sk y3 (sk y4 (hk h' F' w')))))))⟩)))⟩, fun h M K R P hk => ⟨R.1, e_isCard R h40 (b1 hx (e_isPlace (n1 hy (sk y0 (sk y1 (sk y2 (sk y3 (sk y4 (hk h (fun _ _ => rfl) P)))))))))⟩⟩
    · exact ⟨-1, fun h z F K C hk => ⟨_, C.2.1, C.B.o, c_hasCard C.B h40 (b1 hx (c_within (by omega) (by omega) (n0 hy (hk h F C.w))))⟩, fun h M K R P hk => ⟨R.1, e_isCard R h40 (b1 hx (e_isPlace (n0 hy (hk h (fun _ _ => rfl) P))))⟩⟩
  · exact ⟨-1, fun h z F K C hk => ⟨_, C.2.1, C.B.o, c_hasCard C.B h40 (b0 hx (hk h F C.w))⟩, fun h M K R P hk => ⟨R.1, e_isCard R h40 (b0 hx (hk h (fun _ _ => rfl) P))⟩⟩
theorem cntD_pos (V : Nat → Nat) (p i : Nat) : 0 < cntD V p i := by
  cases h : lkD V p i with
  | none => rw [(D_none h).2.1]; omega
  | some j => rw [(D_some h).2.1]; omega
theorem two_runAt (o : okC V) (d : okD V) (ee : okE V) (x y u : Int32) : Two V (fun z => wp_X8_runAt z x y u) (fun M => wp_X9_runAt M x y u) := by
  have h40 := o.1
  by_cases hx : 0 ≤ x.toInt ∧ x.toInt < (V 0 : Int)
  · by_cases hy : ((0 : Nat) : Int) ≤ y.toInt ∧ y.toInt ≤ ((11 : Nat) : Int)
    · by_cases hu : ((0 : Nat) : Int) ≤ u.toInt ∧ u.toInt ≤ ((2 : Nat) : Int)
      · obtain ⟨i, hi31, rfl, ei⟩ := of_toI hx.1
        obtain ⟨p, hp31, rfl, ep⟩ := of_toI hy.1
        obtain ⟨k, hk31, rfl, ek⟩ := of_toI hu.1
        have hi : i < V 0 := by omega
        have hp : p < 12 := by omega
        have di := d i (by omega)
        have hrl := run_len (p := p) hi h40
        have r1 := rd_lt V p i
        have hf := fst_le (V := V) (p := p) i
        by_cases z0 : rd V p i = 0
        · have hz : rlz V p i = 0 := if_pos z0
          exact ⟨-9, fun h z F K C hk => ⟨_, C.2.1, C.B.o, c_hasCard C.B h40 (b1 hx (c_within (by omega) (by omega) (b1 hy (c_within (by omega) (by omega) (n1 hu ⟨_, C.1, C.S.o C.w, c_workOut C.S C.w o d ee (fun h' F' w' W => sp (⟨_, C.g1 w', _, C.S.f w' (k := 5) (by omega), _, w'.gv (k := 5) (by omega) (by omega) (by show _ < 480; omega) (W.2.1 p hp i hi).2.2.1, b_ne (b := 0) (by omega) (by omega) (fun q => absurd hz q) (fun _ => hk h' F' w')⟩))⟩)))))⟩, fun h M K R P hk => ⟨R.1, e_isCard R h40 (b1 hx (e_isPlace (b1 hy (e_inN (by omega) (by omega) (n1 hu ⟨R.1, e_read R (by omega) hp di.2.1 (b_ne (b := 0) (by unfold rd at r1; omega) (by omega) (fun q => absurd z0 q) (fun _ => (hk h (fun _ _ => rfl) P)))⟩)))))⟩⟩
        · have hz : rlz V p i = rl V p i := if_neg z0
          have hpos : 0 < rl V p i := cntD_pos _ _ _
          by_cases k0 : k = 0
          · exact ⟨nI (fst V p i), fun h z F K C hk => ⟨_, C.2.1, C.B.o, c_hasCard C.B h40 (b1 hx (c_within (by omega) (by omega) (b1 hy (c_within (by omega) (by omega) (n1 hu ⟨_, C.1, C.S.o C.w, c_workOut C.S C.w o d ee (fun h' F' w' W => sp (⟨_, C.g1 w', _, C.S.f w' (k := 5) (by omega), _, w'.gv (k := 5) (by omega) (by omega) (by show _ < 480; omega) (W.2.1 p hp i hi).2.2.1, b_ne (b := 0) (by omega) (by omega) (fun _ => b_eq (by omega) (by omega) (fun _ => ⟨_, C.g1 w', _, C.S.f w' (k := 3) (by omega), _, w'.gv (k := 3) (by omega) (by omega) (by show _ < 480; omega) (W.2.1 p hp i hi).1, hk h' F' w'⟩) (fun q => absurd k0 q)) (fun q => by omega)⟩))⟩)))))⟩, fun h M K R P hk => ⟨R.1, e_isCard R h40 (b1 hx (e_isPlace (b1 hy (e_inN (by omega) (by omega) (n1 hu ⟨R.1, e_read R (by omega) hp di.2.1 (b_ne (b := 0) (by unfold rd at r1; omega) (by omega) (fun _ => ⟨R.1, e_endD R o d hi hp (b_ne (b := 0) (by omega) (by omega) (fun q => absurd k0 q) (fun _ => (hk h (fun _ _ => rfl) P)))⟩) (fun q => absurd q z0))⟩)))))⟩⟩
          · by_cases k1 : k = 1
            · exact ⟨nI (lst V p i), fun h z F K C hk => ⟨_, C.2.1, C.B.o, c_hasCard C.B h40 (b1 hx (c_within (by omega) (by omega) (b1 hy (c_within (by omega) (by omega) (n1 hu ⟨_, C.1, C.S.o C.w, c_workOut C.S C.w o d ee (fun h' F' w' W => sp (⟨_, C.g1 w', _, C.S.f w' (k := 5) (by omega), _, w'.gv (k := 5) (by omega) (by omega) (by show _ < 480; omega) (W.2.1 p hp i hi).2.2.1, b_ne (b := 0) (by omega) (by omega) (fun _ => b_eq (by omega) (by omega) (fun q => absurd q k0) (fun _ => b_eq (by omega) (by omega) (fun _ => ⟨_, C.g1 w', _, C.S.f w' (k := 4) (by omega), _, w'.gv (k := 4) (by omega) (by omega) (by show _ < 480; omega) (W.2.1 p hp i hi).2.1, hk h' F' w'⟩) (fun q => absurd k1 q))) (fun q => by omega)⟩))⟩)))))⟩, fun h M K R P hk => ⟨R.1, e_isCard R h40 (b1 hx (e_isPlace (b1 hy (e_inN (by omega) (by omega) (n1 hu ⟨R.1, e_read R (by omega) hp di.2.1 (b_ne (b := 0) (by unfold rd at r1; omega) (by omega) (fun _ => ⟨R.1, e_endD R o d hi hp (b_ne (b := 0) (by omega) (by omega) (fun _ => b_ne (by omega) (by omega) (fun q => absurd k1 q) (fun _ => ⟨R.1, e_endU R o d hi hp (hk h (fun _ _ => rfl) P)⟩)) (fun q => absurd q k0))⟩) (fun q => absurd q z0))⟩)))))⟩⟩
            · refine ⟨nI (rl V p i), fun h z F K C hk => ⟨_, C.2.1, C.B.o, c_hasCard C.B h40 (b1 hx (c_within (by omega) (by omega) (b1 hy (c_within (by omega) (by omega) (n1 hu ⟨_, C.1, C.S.o C.w, c_workOut C.S C.w o d ee (fun h' F' w' W => sp (⟨_, C.g1 w', _, C.S.f w' (k := 5) (by omega), _, w'.gv (k := 5) (by omega) (by omega) (by show _ < 480; omega) (W.2.1 p hp i hi).2.2.1, b_ne (b := 0) (by omega) (by omega) (fun _ => b_eq (by omega) (by omega) (fun q => absurd q k0) (fun _ => b_eq (by omega) (by omega) (fun q => absurd q k1) (fun _ => ⟨_, C.g1 w', _, C.S.f w' (k := 5) (by omega), _, w'.gv (k := 5) (by omega) (by omega) (by show _ < 480; omega) ((W.2.1 p hp i hi).2.2.1.trans (by rw [hz])), hk h' F' w'⟩))) (fun q => by omega)⟩))⟩)))))⟩, fun h M K R P hk => ⟨R.1, e_isCard R h40 (b1 hx (e_isPlace (b1 hy (e_inN (by omega) (by omega) (n1 hu ⟨R.1, e_read R (by omega) hp di.2.1 (b_ne (b := 0) (by unfold rd at r1; omega) (by omega) (fun _ => ⟨R.1, e_endD R o d hi hp (b_ne (b := 0) (by omega) (by omega) (fun _ => b_ne (by omega) (by omega) (fun _ => ⟨R.1, e_runFrom R o d (by omega) hp (by rw [rl_fst i hi]; exact (hk h (fun _ _ => rfl) P))⟩) (fun q => absurd q k1)) (fun q => absurd q k0))⟩) (fun q => absurd q z0))⟩)))))⟩⟩
      · exact ⟨-1, fun h z F K C hk => ⟨_, C.2.1, C.B.o, c_hasCard C.B h40 (b1 hx (c_within (by omega) (by omega) (b1 hy (c_within (by omega) (by omega) (n0 hu (hk h F C.w))))))⟩, fun h M K R P hk => ⟨R.1, e_isCard R h40 (b1 hx (e_isPlace (b1 hy (e_inN (by omega) (by omega) (n0 hu (hk h (fun _ _ => rfl) P))))))⟩⟩
    · exact ⟨-1, fun h z F K C hk => ⟨_, C.2.1, C.B.o, c_hasCard C.B h40 (b1 hx (c_within (by omega) (by omega) (b0 hy (hk h F C.w))))⟩, fun h M K R P hk => ⟨R.1, e_isCard R h40 (b1 hx (e_isPlace (b0 hy (hk h (fun _ _ => rfl) P))))⟩⟩
  · exact ⟨-1, fun h z F K C hk => ⟨_, C.2.1, C.B.o, c_hasCard C.B h40 (b0 hx (hk h F C.w))⟩, fun h M K R P hk => ⟨R.1, e_isCard R h40 (b0 hx (hk h (fun _ _ => rfl) P))⟩⟩
theorem two_outcome (o : okC V) (d : okD V) (ee : okE V) (x y u : Int32) : Two V (fun z => wp_X8_outcome z x y u) (fun M => wp_X9_outcome M x y u) := by
  have h40 := o.1
  have h6 := o.2.1
  by_cases hx : 0 ≤ x.toInt ∧ x.toInt < (V 0 : Int)
  · by_cases hy : ((0 : Nat) : Int) ≤ y.toInt ∧ y.toInt ≤ ((3 : Nat) : Int)
    · cases hv : vOf V u with
      | none =>
        have hn : ¬ u = -1 := fun q => by unfold vOf at hv; rw [if_pos q] at hv; cases hv
        have hm : ¬ (0 ≤ u.toInt ∧ u.toInt < (V 1 : Int)) := fun q => by unfold vOf at hv; rw [if_neg hn, if_pos q] at hv; cases hv
        exact ⟨-1, fun h z F K C hk => ⟨_, C.2.1, C.B.o, c_hasCard C.B h40 (b1 hx (c_within (by omega) (by omega) (n1 hy (sk hn ⟨_, C.2.1, C.B.o, c_hasVersion C.B h6 (n0 hm (hk h F C.w))⟩))))⟩, fun h M K R P hk => ⟨R.1, e_isCard R h40 (b1 hx ⟨R.1, e_isAsked R h6 (b0 (fun q => by rw [hv] at q; cases q.2) (hk h (fun _ _ => rfl) P))⟩)⟩⟩
      | some v =>
        obtain ⟨rfl, hw⟩ := vOf_some hv
        obtain ⟨i, hi31, rfl, ei⟩ := of_toI hx.1
        obtain ⟨c, hc31, rfl, ec⟩ := of_toI hy.1
        have hi : i < V 0 := by omega
        have hc : c < 4 := by omega
        have hvc : vcs V v ≤ 40 := by
          cases v with
          | none => exact h40
          | some w => have := hw w rfl; exact (ee w (by omega)).1
        have go : ∀ (h : Hp) (z : Nat) (F : Nat → Nat → Int32) (K : Int32 → Hp → Prop), CQ h z V F → wp_X8_outcome_40 K z (nI i) (nI c) (vI v) h → wp_X8_outcome z (nI i) (nI c) (vI v) K h := by
          intro h z F K C hk
          refine ⟨_, C.2.1, C.B.o, c_hasCard C.B h40 (b1 hx (c_within (by omega) (by omega) (n1 hy ?_)))⟩
          cases v with
          | none => exact tk rfl hk
          | some w =>
            have := hw w rfl
            exact sk (ne_m1 (by omega)) ⟨_, C.2.1, C.B.o, c_hasV C.B h6 (by omega) (n1 (hw w rfl) hk)⟩
        have back : ∀ (h : Hp) (M : Nat) (K : Int32 → Hp → Prop), RM h M V → K (enc (ocv V c v i)) h → wp_X9_outcome M (nI i) (nI c) (vI v) K h := fun h M K R hk => ⟨R.1, e_isCard R h40 (b1 hx ⟨R.1, e_isAsked R h6 (b1 ⟨hy, by rw [hv]; rfl⟩ ⟨R.1, e_outcomeOf R o d ee hi hc (fun w e => by have := hw w e; omega) hk⟩)⟩)⟩
        rw [ocv_pkv hc hi] at back
        by_cases q : i < vcs V v
        · rw [if_pos q] at back
          exact ⟨nI (ou (pkv V v i) c), fun h z F K C hk => go h z F K C ⟨_, C.2.1, C.B.o, c_cardsIn C.B o hw (b_lt (by omega) (by omega) (fun _ => ⟨_, C.1, C.S.o C.w, c_workOut C.S C.w o d ee (fun h' F' w' W => ⟨_, C.g1 w', C.S.o w', c_outcomesIn C.S w' o W hw hi (c_outcomeOf (pkv_lt ee o hw (by omega)) hc (hk h' F' w'))⟩)⟩) (fun y => by omega))⟩, fun h M K R P hk => back h M K R (hk h (fun _ _ => rfl) P)⟩
        · rw [if_neg q] at back
          exact ⟨-9, fun h z F K C hk => go h z F K C ⟨_, C.2.1, C.B.o, c_cardsIn C.B o hw (b_lt (by omega) (by omega) (fun y => by omega) (fun _ => hk h F C.w))⟩, fun h M K R P hk => back h M K R (hk h (fun _ _ => rfl) P)⟩
    · exact ⟨-1, fun h z F K C hk => ⟨_, C.2.1, C.B.o, c_hasCard C.B h40 (b1 hx (c_within (by omega) (by omega) (n0 hy (hk h F C.w))))⟩, fun h M K R P hk => ⟨R.1, e_isCard R h40 (b1 hx ⟨R.1, e_isAsked R h6 (b0 (fun q => hy q.1) (hk h (fun _ _ => rfl) P))⟩)⟩⟩
  · exact ⟨-1, fun h z F K C hk => ⟨_, C.2.1, C.B.o, c_hasCard C.B h40 (b0 hx (hk h F C.w))⟩, fun h M K R P hk => ⟨R.1, e_isCard R h40 (b0 hx (hk h (fun _ _ => rfl) P))⟩⟩
end TX
