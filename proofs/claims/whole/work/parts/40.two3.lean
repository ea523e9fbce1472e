/-! the questions on both sides, tallies to seeds -/
theorem ab3 : ∀ a, a < 10 → ∀ b, b < 10 → (nI 0 ≤ nI a - nI b → nI a - nI b = nI ((a - b) + (b - a))) ∧ (¬ nI 0 ≤ nI a - nI b → -(nI a - nI b) = nI ((a - b) + (b - a))) := by decide +kernel
theorem ab4 : ∀ t, t < 10 → ∀ r, r < 10 → ∀ d, d < 10 → d ≤ r → nI t - nI r + nI d = nI t - nI (r - d) := by decide +kernel
theorem e_size {K : Int32 → Hp → Prop} {h : Hp} {a b : Nat} (ha : a < 10) (hb : b < 10) (hk : K (nI ((a - b) + (b - a))) h) : wp_X9_size (nI a - nI b) K h := by
  have := ab3 a ha b hb
  refine ⟨fun q => ?_, fun q => ?_⟩
  · rw [this.1 q]; exact hk
  · rw [this.2 q]; exact hk
def ers (V : Nat → Nat) (m w k : Nat) : Nat := if V (9 + 5 * (k / 12)) = m ∧ lok V (k / 12) = true then er V w (k / 12) (k % 12) else 0
theorem ers_card {V : Nat → Nat} {m w i : Nat} (hm : V (9 + 5 * i) = m) (hl : lok V i = true) : sm (ers V m w) (12 * (i + 1)) = sm (ers V m w) (12 * i) + sm (er V w i) 12 := by
  rw [show 12 * (i + 1) = 12 * i + 12 by omega, sm_add]
  congr 1
  refine sm_cong (fun p hp => ?_)
  unfold ers
  rw [show (12 * i + p) / 12 = i by omega, show (12 * i + p) % 12 = p by omega, if_pos ⟨hm, hl⟩]
theorem ers_skip {V : Nat → Nat} {m w i : Nat} (hn : ¬ (V (9 + 5 * i) = m ∧ lok V i = true)) : sm (ers V m w) (12 * (i + 1)) = sm (ers V m w) (12 * i) := by
  rw [show 12 * (i + 1) = 12 * i + 12 by omega, sm_add]
  have : sm (fun k => ers V m w (12 * i + k)) 12 = sm (fun _ => 0) 12 := sm_cong (fun p hp => by
    unfold ers
    rw [show (12 * i + p) / 12 = i by omega, if_neg hn])
  rw [this, sm_0]
  rfl
section TY
variable {V : Nat → Nat}
theorem two_tally (o : okC V) (d : okD V) (ee : okE V) (x y u t : Int32) : Two V (fun z => wp_X8_tally z x y u t) (fun M => wp_X9_tally M x y u t) := by
  have h40 := o.1
  have h6 := o.2.1
  by_cases hx : ((0 : Nat) : Int) ≤ x.toInt ∧ x.toInt ≤ ((3 : Nat) : Int)
  · by_cases hy : ((0 : Nat) : Int) ≤ y.toInt ∧ y.toInt ≤ ((5 : Nat) : Int)
    · cases hv : vOf V u with
      | none =>
        have hn : ¬ u = -1 := fun q => by unfold vOf at hv; rw [if_pos q] at hv; cases hv
        have hm : ¬ (0 ≤ u.toInt ∧ u.toInt < (V 1 : Int)) := fun q => by unfold vOf at hv; rw [if_neg hn, if_pos q] at hv; cases hv
        exact ⟨-1, fun h z F K C hk => c_within (by omega) (by omega) (b1 hx (c_within (by omega) (by omega) (n1 hy (sk hn ⟨_, C.2.1, C.B.o, c_hasVersion C.B h6 (n0 hm (hk h F C.w))⟩)))), fun h M K R P hk => ⟨R.1, e_isAsked R h6 (b0 (fun q => by rw [hv] at q; cases q.2) (tk rfl (hk h (fun _ _ => rfl) P)))⟩⟩
      | some v =>
        obtain ⟨rfl, hw⟩ := vOf_some hv
        obtain ⟨c, hc31, rfl, ec⟩ := of_toI hx.1
        obtain ⟨k, hk31, rfl, ek⟩ := of_toI hy.1
        have hc : c < 4 := by omega
        have go : ∀ (h : Hp) (z : Nat) (F : Nat → Nat → Int32) (K : Int32 → Hp → Prop), CQ h z V F → wp_X8_tally_38 K z (nI c) (nI k) (vI v) t h → wp_X8_tally z (nI c) (nI k) (vI v) t K h := by
          intro h z F K C hk
          refine c_within (by omega) (by omega) (b1 hx (c_within (by omega) (by omega) (n1 hy ?_)))
          cases v with
          | none => exact tk rfl hk
          | some w =>
            have := hw w rfl
            exact sk (ne_m1 (by omega)) ⟨_, C.2.1, C.B.o, c_hasV C.B h6 (by omega) (n1 (hw w rfl) hk)⟩
        have hw6 : ∀ w, v = some w → w < 6 := fun w e => by have := hw w e; omega
        by_cases ht : (-1 : Int) ≤ t.toInt ∧ t.toInt ≤ 2
        · have back : ∀ (h : Hp) (M : Nat) (K : Int32 → Hp → Prop), RM h M V → wp_X9_tallied M (nI c) (nI k) (vI v) t K h → wp_X9_tally M (nI c) (nI k) (vI v) t K h := fun h M K R hk => ⟨R.1, e_isAsked R h6 (b1 ⟨hx, by rw [hv]; rfl⟩ (e_inN (by omega) (by omega) (b1 hy (e_inM (b1 ht (sk (by decide) ⟨R.1, hk⟩))))))⟩
          by_cases t1 : t = -1
          · subst t1
            exact ⟨nI (cnt (tlp V c k v none) (V 0)), fun h z F K C hk => go h z F K C (tk rfl ⟨_, C.1, C.S.o C.w, c_workOut C.S C.w o d ee (fun h' F' w' W => ⟨_, C.g1 w', C.S.o w', c_cardsWith (m := none) C.S w' o d ee W hc (by omega) hw (fun _ e => by cases e) (hk h' F' w')⟩)⟩), fun h M K R P hk => back h M K R (e_tallied (m := none) R o d ee hc (by omega) hw6 (fun _ e => by cases e) (hk h (fun _ _ => rfl) P))⟩
          · have ht0 : 0 ≤ t.toInt := by
              apply Classical.byContradiction
              intro q
              exact t1 (Int32.toInt_inj.mp (by rw [m1T]; omega))
            obtain ⟨m, hm31, rfl, em⟩ := of_toI ht0
            exact ⟨nI (cnt (tlp V c k v (some m)) (V 0)), fun h z F K C hk => go h z F K C (sk t1 (c_within (by omega) (by omega) (n1 (by omega) ⟨_, C.1, C.S.o C.w, c_workOut C.S C.w o d ee (fun h' F' w' W => ⟨_, C.g1 w', C.S.o w', c_cardsWith (m := some m) C.S w' o d ee W hc (by omega) hw (fun _ e => by cases e; omega) (hk h' F' w')⟩)⟩))), fun h M K R P hk => back h M K R (e_tallied (m := some m) R o d ee hc (by omega) hw6 (fun _ e => by cases e; omega) (hk h (fun _ _ => rfl) P))⟩
        · have t1 : ¬ t = -1 := fun q => ht (by rw [q, m1T]; omega)
          exact ⟨-1, fun h z F K C hk => go h z F K C (sk t1 (c_within (by omega) (by omega) (n0 (by omega) (hk h F C.w)))), fun h M K R P hk => ⟨R.1, e_isAsked R h6 (b1 ⟨hx, by rw [hv]; rfl⟩ (e_inN (by omega) (by omega) (b1 hy (e_inM (b0 ht (tk rfl (hk h (fun _ _ => rfl) P)))))))⟩⟩
    · refine ⟨-1, fun h z F K C hk => c_within (by omega) (by omega) (b1 hx (c_within (by omega) (by omega) (n0 hy (hk h F C.w)))), fun h M K R P hk => ⟨R.1, e_isAsked R h6 (br_b (fun _ => tk rfl (hk h (fun _ _ => rfl) P)) (fun _ => e_inN (by omega) (by omega) (b0 hy (tk rfl (hk h (fun _ _ => rfl) P)))))⟩⟩
  · exact ⟨-1, fun h z F K C hk => c_within (by omega) (by omega) (b0 hx (hk h F C.w)), fun h M K R P hk => ⟨R.1, e_isAsked R h6 (b0 (fun q => hx q.1) (tk rfl (hk h (fun _ _ => rfl) P)))⟩⟩
theorem two_changed (o : okC V) (d : okD V) (ee : okE V) (om : ∀ u, u < V 1 → V (209 + 41 * u) ≤ V 0) (x y u : Int32) : Two V (fun z => wp_X8_changed z x y u) (fun M => wp_X9_changed M x y u) := by
  have h40 := o.1
  have h6 := o.2.1
  by_cases hx : 0 ≤ x.toInt ∧ x.toInt < (V 1 : Int)
  · by_cases hy : 0 ≤ y.toInt
    · by_cases hu : ((0 : Nat) : Int) ≤ u.toInt ∧ u.toInt ≤ ((1 : Nat) : Int)
      · obtain ⟨v, hv31, rfl, ev⟩ := of_toI hx.1
        obtain ⟨j, hj31, rfl, ej⟩ := of_toI hy
        obtain ⟨w, hw31, rfl, ew⟩ := of_toI hu.1
        have hv : v < V 1 := by omega
        have hy0 : ¬ nI j < nI 0 := by rw [nI_0]; exact nI_pos hj31
        refine ⟨(match sel (fun i => decide (chg V v i ≠ 0)) j 0 (V 0) with | some i => (if w = 0 then nI i else nI (chg V v i)) | none => -9), fun h z F K C hk => ⟨_, C.2.1, C.B.o, c_hasV C.B h6 hv31 (b1 hv (sk hy0 (c_within (by omega) (by omega) (n1 hu ⟨_, C.2.1, C.B.o, c_changedCard C.B o ee hv hj31 ?_⟩))))⟩, fun h M K R P hk => ⟨R.1, e_isVersion R h6 (b1 hx (sk hy0 (e_inN (by omega) (by omega) (n1 hu (e_changedLoop R o ee hv hj31 (by omega) om (hk h (fun _ _ => rfl) P))))))⟩⟩
        have hk := hk h F C.w
        cases hs : sel (fun i => decide (chg V v i ≠ 0)) j 0 (V 0) with
        | none =>
          rw [hs] at hk
          exact ⟨fun q => absurd q (by decide), fun _ => hk⟩
        | some i =>
          rw [hs] at hk
          obtain ⟨s1, s2, -⟩ := sel_some hs
          dsimp only at hk
          refine tk (nI_le (Nat.zero_le i) (by omega)) (b_ne (b := 0) (by omega) (by omega) (fun q => ?_) (fun q => ?_))
          · rw [if_neg q] at hk
            exact ⟨_, C.2.1, C.B.o, c_changesIn C.B o ee hv (by omega) hk⟩
          · rw [if_pos q] at hk
            exact hk
      · have e2 : ∀ {A B : Prop}, A → ((y < nI 0 → B) ∧ (¬ y < nI 0 → A)) := fun a => ⟨fun q => by rw [lt32, nI_toInt (by omega)] at q; omega, fun _ => a⟩
        exact ⟨-1, fun h z F K C hk => ⟨_, C.2.1, C.B.o, c_hasVersion C.B h6 (b1 hx (e2 (c_within (by omega) (by omega) (n0 hu (hk h F C.w)))))⟩, fun h M K R P hk => ⟨R.1, e_isVersion R h6 (b1 hx (e2 (e_inN (by omega) (by omega) (n0 hu (hk h (fun _ _ => rfl) P)))))⟩⟩
    · have e2 : ∀ {A B : Prop}, B → ((y < nI 0 → B) ∧ (¬ y < nI 0 → A)) := fun a => ⟨fun _ => a, fun q => by rw [lt32, nI_toInt (by omega)] at q; omega⟩
      exact ⟨-1, fun h z F K C hk => ⟨_, C.2.1, C.B.o, c_hasVersion C.B h6 (b1 hx (e2 (hk h F C.w)))⟩, fun h M K R P hk => ⟨R.1, e_isVersion R h6 (b1 hx (e2 (hk h (fun _ _ => rfl) P)))⟩⟩
  · exact ⟨-1, fun h z F K C hk => ⟨_, C.2.1, C.B.o, c_hasVersion C.B h6 (b0 hx (hk h F C.w))⟩, fun h M K R P hk => ⟨R.1, e_isVersion R h6 (b0 hx (hk h (fun _ _ => rfl) P))⟩⟩
theorem two_leader (o : okC V) (d : okD V) (ee : okE V) (x y : Int32) : Two V (fun z => wp_X8_leader z x y) (fun M => wp_X9_leader M x y) := by
  have h40 := o.1
  by_cases hx : ((0 : Nat) : Int) ≤ x.toInt ∧ x.toInt ≤ ((3 : Nat) : Int)
  · by_cases hy : ((0 : Nat) : Int) ≤ y.toInt ∧ y.toInt ≤ ((3 : Nat) : Int)
    · obtain ⟨c, hc31, rfl, ec⟩ := of_toI hx.1
      obtain ⟨w, hw31, rfl, ew⟩ := of_toI hy.1
      have hc : c < 4 := by omega
      refine ⟨(if w = 0 then nI (ldc V c) else if w = 1 then nI (tl V c (ldc V c)) - nI (scd V c (ldc V c) 3) else if w = 2 then nI (tl V c 5) else if nI (tl V c (ldc V c)) - nI (scd V c (ldc V c) 3) ≤ nI (tl V c 5) then nI 0 else nI 1), fun h z F K C hk => c_within (by omega) (by omega) (b1 hx (c_within (by omega) (by omega) (n1 hy ⟨_, C.1, C.S.o C.w, c_workOut C.S C.w o d ee (fun h' F' w' W => ⟨_, C.g1 w', C.S.o w', c_leadingChoice C.S w' o d ee W hc ⟨_, C.g1 w', C.S.o w', c_leadOf C.S w' o d ee W hc (ldc_lt V c) ⟨_, C.g1 w', C.S.o w', c_tl (t := 5) C.S w' o d ee W hc (by omega) ?_⟩⟩⟩)⟩))), fun h M K R P hk => e_inN (by omega) (by omega) (b1 hx (e_inN (by omega) (by omega) (n1 hy (e_leaderLoop R o d ee hc (by omega) (hk h (fun _ _ => rfl) P)))))⟩
      have hk := hk h' F' w'
      refine b_eq (by omega) (by omega) (fun q => ?_) (fun q => b_eq (by omega) (by omega) (fun q1 => ?_) (fun q1 => b_eq (by omega) (by omega) (fun q2 => ?_) (fun q2 => ⟨fun q3 => ?_, fun q3 => ?_⟩)))
      · rw [if_pos q] at hk; exact hk
      · rw [if_neg q, if_pos q1] at hk; exact hk
      · rw [if_neg q, if_neg q1, if_pos q2] at hk; exact hk
      · rw [if_neg q, if_neg q1, if_neg q2, if_pos q3] at hk; exact hk
      · rw [if_neg q, if_neg q1, if_neg q2, if_neg q3] at hk; exact hk
    · exact ⟨-1, fun h z F K C hk => c_within (by omega) (by omega) (b1 hx (c_within (by omega) (by omega) (n0 hy (hk h F C.w)))), fun h M K R P hk => e_inN (by omega) (by omega) (b1 hx (e_inN (by omega) (by omega) (n0 hy (hk h (fun _ _ => rfl) P))))⟩
  · exact ⟨-1, fun h z F K C hk => c_within (by omega) (by omega) (b0 hx (hk h F C.w)), fun h M K R P hk => e_inN (by omega) (by omega) (b0 hx (hk h (fun _ _ => rfl) P))⟩
theorem two_error (o : okC V) (d : okD V) (ee : okE V) (x y : Int32) : Two V (fun z => wp_X8_error z x y) (fun M => wp_X9_error M x y) := by
  have h40 := o.1
  have h2 := o.2.2.1
  by_cases hx : ((0 : Nat) : Int) ≤ x.toInt ∧ x.toInt ≤ ((2 : Nat) : Int)
  · by_cases hy : ((0 : Nat) : Int) ≤ y.toInt ∧ y.toInt ≤ ((2 : Nat) : Int)
    · obtain ⟨m, hm31, rfl, ec⟩ := of_toI hx.1
      obtain ⟨w, hw31, rfl, ew⟩ := of_toI hy.1
      refine ⟨nI (sm (ers V m w) (12 * V 0)), fun h z F K C hk => c_within (by omega) (by omega) (b1 hx (c_within (by omega) (by omega) (n1 hy ⟨_, C.1, C.S.o C.w, c_workOut C.S C.w o d ee (fun h' F' w' W => ?_)⟩))), fun h M K R P hk => e_inN (by omega) (by omega) (b1 hx (e_inN (by omega) (by omega) (n1 hy ?_)))⟩
      · have hk := hk h' F' w'
        refine for_up (fun n i => wp_X8_error_32 K z (nI m) (nI w) n (nI (sm (ers V m w) (12 * i))) (nI i) h') (V 0) 0 (Nat.zero_le _) (fun n => ?_) (fun n i _ hi ih => ?_)
        · exact ⟨_, C.g2 w', _, (C.S.B w').cards, b_le (by omega) (by omega) (fun _ => hk) (fun q => by omega)⟩
        · have di := d i (by omega)
          have no : ¬ (V (9 + 5 * i) = m ∧ lok V i = true) → ∀ y : Int32, y = nI i + nI 1 → wp_X8_error_32 K z (nI m) (nI w) n (nI (sm (ers V m w) (12 * i))) y h' := by
            intro q y ey
            subst ey
            rw [ers_skip q] at ih
            rw [nI_add]
            exact ih
          refine ⟨_, C.g2 w', _, (C.S.B w').cards, b_le (by omega) (by omega) (fun q => by omega) (fun _ => ⟨_, C.g2 w', _, (C.S.B w').fm, _, (C.S.B w').m (by omega), b_ne (by omega) hm31 (fun q => no (fun u => q u.1)) (fun q => ⟨_, C.g2 w', _, (C.S.B w').fs, _, (C.S.B w').s (by omega), b_ne (by omega) (by omega) (fun q2 => no (fun u => q2 (by simpa [lok] using u.2))) (fun q2 => ⟨_, C.g1 w', C.S.o w', c_errorOf C.S w' o W hi (by omega) (fun y ey t et => ?_)⟩)⟩)⟩)⟩
          subst ey; subst et
          rw [ers_card q (by simpa [lok] using q2)] at ih
          rw [nI_add, nI_add]
          exact ih
      · have hk := (hk h (fun _ _ => rfl) P)
        refine for_up (fun n k => wp_X9_error_31 K M (nI m) (nI w) n (nI (sm (ers V m w) k)) (nI k) h) (12 * V 0) 0 (Nat.zero_le _) (fun n => ?_) (fun n k _ hi ih => ?_)
        · refine ⟨_, R.2.1, _, R.at 0 rfl (by omega), ?_⟩
          rw [lN_mul]
          exact ll_le (by omega) (by omega) (fun _ => hk) (fun q => by omega)
        · have hk40 : k / 12 < V 0 := by omega
          have di := d (k / 12) (by omega)
          have r1 := rd_lt V (k % 12) (k / 12)
          have r2 := trt_lt V (k % 12) (k / 12)
          have hd := dirt_le V (V 2) (k % 12) (k / 12) hk40
          have no : ¬ (V (9 + 5 * (k / 12)) = m ∧ lok V (k / 12) = true) → ∀ y : Int32, y = nI k + nI 1 → wp_X9_error_31 K M (nI m) (nI w) n (nI (sm (ers V m w) k)) y h := by
            intro q y ey
            subst ey
            unfold sm at ih
            rw [show ers V m w k = 0 from if_neg q, Nat.add_zero] at ih
            rw [nI_add]
            exact ih
          refine ⟨_, R.2.1, _, R.at 0 rfl (by omega), ?_⟩
          rw [lN_mul]
          refine ll_le (by omega) (by omega) (fun q => by omega) (fun _ y ey t et => ?_)
          rw [pk_div (by omega) (by omega) (by omega)] at ey
          rw [r_mod (by omega) (by omega) (by omega)] at et
          subst ey; subst et
          refine ⟨_, R.2.1, e_c ⟨_, R.at (9 + 5 * (k / 12) + 0) rfl (by omega), ll_ne (okD_m0 d (by omega)) hm31 (fun q => no (fun u => q u.1)) (fun q => ⟨R.1, e_isLooked R (by omega) di.2.2.2.1 (br_b (fun q2 => no (fun u => q2 (by simpa [lok] using u.2))) (fun q2 => ⟨_, R.2.1, e_c ⟨_, R.at (9 + 5 * (k / 12) + 4) rfl (by omega), e_digit di.2.2.2.2 (by omega) ⟨R.1, e_read R (by omega) (by omega) di.2.1 (fun y ey => ⟨R.1, e_length R ⟨R.1, e_dirt R o d hk40 (by omega) (by omega) (fun t et => ?_)⟩⟩)⟩⟩⟩))⟩)⟩⟩
          subst ey; subst et
          have hl : lok V (k / 12) = true := by simpa [lok] using q2
          have fin : ∀ v : Nat, v = er V w (k / 12) (k % 12) → ∀ y : Int32, y = nI (sm (ers V m w) k) + nI v → ∀ t : Int32, t = nI k + nI 1 → wp_X9_error_31 K M (nI m) (nI w) n y t h := by
            intro v ev y ey t et
            subst ey; subst et
            unfold sm at ih
            rw [show ers V m w k = v by rw [ev]; exact if_pos ⟨q, hl⟩] at ih
            rw [nI_add, nI_add]
            exact ih
          refine b_ne (b := 0) (by omega) (by omega) (fun w0 => b_ne (by omega) (by omega) (fun w1 => ?_) (fun w1 => ?_)) (fun w0 => ?_)
          · show wp_X9_size (nI (trt V (k % 12) (k / 12)) - nI (rd V (k % 12) (k / 12)) + nI (dirt V (V 2) (k % 12) (k / 12))) _ h
            rw [ab4 _ r2 _ r1 _ (by omega) hd]
            refine e_size r2 (by omega) (fin _ ?_)
            unfold er
            rw [if_neg w0, if_neg w1, Nat.add_comm]
          · show wp_X9_size (nI (trt V (k % 12) (k / 12)) - nI (rd V (k % 12) (k / 12))) _ h
            refine e_size r2 r1 (fin _ ?_)
            unfold er
            rw [if_neg w0, if_pos w1, Nat.add_comm]
          · show wp_X9_size (nI (trt V (k % 12) (k / 12)) - nI (rd V (k % 12) (k / 12))) _ h
            refine e_size r2 r1 ⟨R.1, e_least (by omega) (by omega) (fin _ ?_)⟩
            unfold er
            rw [if_pos w0, Nat.add_comm (trt V (k % 12) (k / 12) - rd V (k % 12) (k / 12))]
    · exact ⟨-1, fun h z F K C hk => c_within (by omega) (by omega) (b1 hx (c_within (by omega) (by omega) (n0 hy (hk h F C.w)))), fun h M K R P hk => e_inN (by omega) (by omega) (b1 hx (e_inN (by omega) (by omega) (n0 hy (hk h (fun _ _ => rfl) P))))⟩
  · exact ⟨-1, fun h z F K C hk => c_within (by omega) (by omega) (b0 hx (hk h F C.w)), fun h M K R P hk => e_inN (by omega) (by omega) (b0 hx (hk h (fun _ _ => rfl) P))⟩
theorem two_byLength (o : okC V) (d : okD V) (ee : okE V) (x : Int32) : Two V (fun z => wp_X8_byLength z x) (fun M => wp_X9_byLength M x) := by
  have h40 := o.1
  have s0 : sT 0 (nI 0) = some (nI 2) := by decide +kernel
  have s1 : sT 1 (nI 0) = some (nI 9) := by decide +kernel
  by_cases hx : ((2 : Nat) : Int) ≤ x.toInt ∧ x.toInt ≤ ((9 : Nat) : Int)
  · obtain ⟨L, hL31, rfl, eL⟩ := of_toI (x := x) (by omega)
    exact ⟨nI (cnt (fun i => decide (pkd V L i ≠ pkd V (V 2) i)) (V 0)), fun h z F K C hk => ⟨_, s0, _, s1, c_within (by omega) (by omega) (n1 hx ⟨_, C.1, C.S.o C.w, c_workOut C.S C.w o d ee (fun h' F' w' W => ⟨_, C.g1 w', C.S.o w', c_otherWith C.S w' o d W (by omega) (by omega) (fun h2 F2 w2 => hk h2 F2 w2)⟩)⟩)⟩, fun h M K R P hk => e_inN (by omega) (by omega) (n1 hx (e_byLengthLoop R o d (by omega) (hk h (fun _ _ => rfl) P)))⟩
  · exact ⟨-1, fun h z F K C hk => ⟨_, s0, _, s1, c_within (by omega) (by omega) (n0 hx (hk h F C.w))⟩, fun h M K R P hk => e_inN (by omega) (by omega) (n0 hx (hk h (fun _ _ => rfl) P))⟩
theorem two_drawn (o : okC V) (d : okD V) (ee : okE V) (x : Int32) : Two V (fun z => wp_X8_drawn z x) (fun M => wp_X9_drawn M x) := by
  have h40 := o.1
  by_cases hx : ((0 : Nat) : Int) ≤ x.toInt ∧ x.toInt ≤ ((65536 : Nat) : Int)
  · obtain ⟨s, hs31, rfl, es⟩ := of_toI (x := x) (by omega)
    have hn := cnt_le (inP V) (V 0)
    by_cases q : cnt (inP V) (V 0) = 0
    · exact ⟨-9, fun h z F K C hk => c_within (by omega) (by omega) (n1 hx ⟨_, C.1, C.S.o C.w, c_workOut C.S C.w o d ee (fun h' F' w' W => ⟨_, C.g1 w', C.S.o w', c_poolSize C.S w' o d W (b_ne (b := 0) (by omega) (by omega) (fun y => absurd q y) (fun _ => hk h' F' w'))⟩)⟩), fun h M K R P hk => e_inN (by omega) (by omega) (n1 hx ⟨R.1, e_laysPool R P o d ee (fun h' fr P' G => b_ne (b := 0) (by omega) (by omega) (fun y => absurd q y) (fun _ => hk h' fr P'))⟩)⟩
    · have hlt : lot s % cnt (inP V) (V 0) < cnt (inP V) (V 0) := Nat.mod_lt _ (by omega)
      have hll := lot_lt s
      refine ⟨enc (sel (inP V) (lot s % cnt (inP V) (V 0)) 0 (V 0)), fun h z F K C hk => c_within (by omega) (by omega) (n1 hx ⟨_, C.1, C.S.o C.w, c_workOut C.S C.w o d ee (fun h' F' w' W => ⟨_, C.g1 w', C.S.o w', c_poolSize C.S w' o d W (b_ne (b := 0) (by omega) (by omega) (fun y => ⟨_, C.g1 w', c_nextLot (by omega) ⟨nI_nz (by omega) (by omega), C.S.o w', ?_⟩⟩) (fun y => absurd y q))⟩)⟩), fun h M K R P hk => e_inN (by omega) (by omega) (n1 hx ⟨R.1, e_laysPool R P o d ee (fun h' fr P' G => b_ne (b := 0) (by omega) (by omega) (fun _ => ⟨_, P'.1, lN_ne0 (by omega) (by omega), enc (sel (inP V) (lot s % cnt (inP V) (V 0)) 0 (V 0)), ?_, hk h' fr P'⟩) (fun y => absurd y q))⟩)⟩
      · rw [r_mod (by omega) (by omega) (by omega)]
        exact c_poolCard C.S w' o d W (by omega) (hk h' F' w')
      · rw [lot_L (by omega) (by omega) (by omega)]
        exact G _ hlt
  · exact ⟨-1, fun h z F K C hk => c_within (by omega) (by omega) (n0 hx (hk h F C.w)), fun h M K R P hk => e_inN (by omega) (by omega) (n0 hx (hk h (fun _ _ => rfl) P))⟩
theorem two_seedFor (o : okC V) (d : okD V) (ee : okE V) (x : Int32) : Two V (fun z => wp_X8_seedFor z x) (fun M => wp_X9_seedFor M x) := by
  have h40 := o.1
  by_cases hx : 0 ≤ x.toInt ∧ x.toInt < (V 0 : Int)
  · obtain ⟨i, hi31, rfl, ei⟩ := of_toI hx.1
    have hi : i < V 0 := by omega
    have hn := cnt_le (inP V) (V 0)
    by_cases q : inP V i = true
    · have hpos : cnt (inP V) i < cnt (inP V) (V 0) := cnt_lt q hi
      obtain ⟨s0, a, b, c⟩ := seed_ex (by omega) hpos
      have ssel : ∀ s, sel (inP V) (lot s % cnt (inP V) (V 0)) 0 (V 0) = some i ↔ lot s % cnt (inP V) (V 0) = cnt (inP V) i := fun s => ⟨fun u => (sel_some u).2.2.2.symm, fun u => by rw [u]; exact sel_at q (Nat.zero_le _) (by omega)⟩
      refine ⟨nI s0, fun h z F K C hk => ⟨_, C.2.1, C.B.o, c_hasCard C.B h40 (n1 hx ⟨_, C.1, C.S.o C.w, c_workOut C.S C.w o d ee (fun h' F' w' W => ⟨_, C.g1 w', C.S.o w', c_poolSize C.S w' o d W (b_eq (b := 0) (by omega) (by omega) (fun y => by omega) (fun _ => ⟨_, C.g1 w', C.S.o w', c_inPool C.S w' o d W hi (n1 q ⟨_, C.g1 w', C.S.o w', c_placeInPool C.S w' o d W (by omega) ?_⟩)⟩))⟩)⟩)⟩, fun h M K R P hk => ⟨R.1, e_isCard R h40 (n1 hx ⟨R.1, e_laysPool R P o d ee (fun h' fr P' G => ⟨isO_c (fr M (by omega)) R.1, e_isInPool (R.fr (fun u hu => fr u (by omega))) o d ee hi (n1 q ?_)⟩)⟩)⟩⟩
      · refine for_up (fun n s => wp_X8_seedFor_58 K (nI (cnt (inP V) (V 0))) (nI (cnt (inP V) i)) n (nI s) h') s0 0 (Nat.zero_le _) (fun n => ?_) (fun n s _ hs ih => ?_)
        · have hlt : lot s0 % cnt (inP V) (V 0) < cnt (inP V) (V 0) := Nat.mod_lt _ (by omega)
          have hll := lot_lt s0
          refine b_le (by omega) (by omega) (fun u => by omega) (fun _ => c_nextLot a ⟨nI_nz (by omega) (by omega), ?_⟩)
          rw [r_mod (by omega) (by omega) (by omega)]
          exact b_ne (by omega) (by omega) (fun u => absurd b u) (fun _ => hk h' F' w')
        · have hlt : lot s % cnt (inP V) (V 0) < cnt (inP V) (V 0) := Nat.mod_lt _ (by omega)
          have hll := lot_lt s
          refine b_le (by omega) (by omega) (fun u => by omega) (fun _ => c_nextLot (by omega) ⟨nI_nz (by omega) (by omega), ?_⟩)
          rw [r_mod (by omega) (by omega) (by omega)]
          refine b_ne (by omega) (by omega) (fun u y ey => ?_) (fun u => absurd u (c s hs))
          subst ey
          rw [nI_add]
          exact ih
      · refine for_up (fun n s => wp_X9_seedFor_28 K M (nI i) (nI (cnt (inP V) (V 0))) n (nI s) h') s0 0 (Nat.zero_le _) (fun n => ?_) (fun n s _ hs ih => ?_)
        · have hlt : lot s0 % cnt (inP V) (V 0) < cnt (inP V) (V 0) := Nat.mod_lt _ (by omega)
          refine ⟨_, P'.1, lN_ne0 (by omega) (by omega), enc (sel (inP V) (lot s0 % cnt (inP V) (V 0)) 0 (V 0)), ?_, ?_⟩
          · rw [lot_L (by omega) (by omega) (by omega)]
            exact G _ hlt
          · rw [(ssel s0).mpr b]
            exact tk rfl (hk h' fr P')
        · have hlt : lot s % cnt (inP V) (V 0) < cnt (inP V) (V 0) := Nat.mod_lt _ (by omega)
          refine ⟨_, P'.1, lN_ne0 (by omega) (by omega), enc (sel (inP V) (lot s % cnt (inP V) (V 0)) 0 (V 0)), ?_, ?_⟩
          · rw [lot_L (by omega) (by omega) (by omega)]
            exact G _ hlt
          · refine sk ?_ (fun y ey => ?_)
            · intro u
              cases hse : sel (inP V) (lot s % cnt (inP V) (V 0)) 0 (V 0) with
              | none => rw [hse] at u; exact nI_m9 hi31 u.symm
              | some k =>
                rw [hse] at u
                have := sel_some hse
                have e : k = i := (nI_eq (by omega) hi31).mp u
                exact c s hs ((ssel s).mp (by rw [hse, e]))
            · subst ey
              rw [nI_add]
              exact ih
    · exact ⟨-9, fun h z F K C hk => ⟨_, C.2.1, C.B.o, c_hasCard C.B h40 (n1 hx ⟨_, C.1, C.S.o C.w, c_workOut C.S C.w o d ee (fun h' F' w' W => ⟨_, C.g1 w', C.S.o w', c_poolSize C.S w' o d W (b_eq (b := 0) (by omega) (by omega) (fun _ => hk h' F' w') (fun _ => ⟨_, C.g1 w', C.S.o w', c_inPool C.S w' o d W hi (n0 q (hk h' F' w'))⟩))⟩)⟩)⟩, fun h M K R P hk => ⟨R.1, e_isCard R h40 (n1 hx ⟨R.1, e_laysPool R P o d ee (fun h' fr P' G => ⟨isO_c (fr M (by omega)) R.1, e_isInPool (R.fr (fun u hu => fr u (by omega))) o d ee hi (n0 q (hk h' fr P'))⟩)⟩)⟩⟩
  · exact ⟨-1, fun h z F K C hk => ⟨_, C.2.1, C.B.o, c_hasCard C.B h40 (n0 hx (hk h F C.w))⟩, fun h M K R P hk => ⟨R.1, e_isCard R h40 (n0 hx (hk h (fun _ _ => rfl) P))⟩⟩
end TY
