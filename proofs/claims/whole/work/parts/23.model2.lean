/-! the reference: the cards beside, runs, dirt -/
theorem okD_m0 {V : Nat → Nat} (d : okD V) {i : Nat} (hi : i < 40) : V (9 + 5 * i + 0) < 2 ^ 63 := by
  have := (d i hi).1
  rw [Nat.add_zero]
  omega
section M2
variable {h : Hp} {M : Nat} {V : Nat → Nat}
theorem e_besideD {K : Int32 → Hp → Prop} (R : RM h M V) (o : okC V) (d : okD V) {i : Nat} (hi : i < V 0) (hk : K (enc (dn V i)) h) : wp_X9_beside M (nI i) (-1) K h := by
  have h0 := o.1
  intro y ey
  subst ey
  unfold dn at hk
  have key : ∀ k, k ≤ i → K (enc (bk V (V (9 + 5 * i)) k)) h → ∃ n, wp_X9_beside_4 K M (nI i) (-1) n (nI k + (-1)) h := by
    intro k
    induction k with
    | zero =>
      intro _ hk
      refine ⟨1, fun _ => hk, fun q => absurd (by decide) q⟩
    | succ k ih =>
      intro hki hk
      rw [pk_m1]
      have hlt := nI_pos (n := k) (by omega)
      by_cases e : V (9 + 5 * k) = V (9 + 5 * i)
      · refine ⟨1, fun q => absurd q (by rw [nI_0]; exact hlt), fun _ => ⟨_, R.2.1, _, R.at 0 rfl (by omega), ll_le (by omega) (by omega) (fun q => by omega) (fun _ => ⟨_, R.2.1, e_c ⟨_, R.at (9 + 5 * k + 0) rfl (by omega), _, R.2.1, e_c ⟨_, R.at (9 + 5 * i + 0) rfl (by omega), fun q => absurd (by rw [Nat.add_zero, Nat.add_zero, e]) q, fun _ => ?_⟩⟩⟩)⟩⟩
        unfold bk at hk
        rw [if_pos e] at hk
        exact hk
      · unfold bk at hk
        rw [if_neg e] at hk
        obtain ⟨n, hn⟩ := ih (by omega) hk
        refine ⟨n + 1, fun q => absurd q (by rw [nI_0]; exact hlt), fun _ => ⟨_, R.2.1, _, R.at 0 rfl (by omega), ll_le (by omega) (by omega) (fun q => by omega) (fun _ => ⟨_, R.2.1, e_c ⟨_, R.at (9 + 5 * k + 0) rfl (by omega), _, R.2.1, e_c ⟨_, R.at (9 + 5 * i + 0) rfl (by omega), fun _ y ey => by subst ey; exact hn, fun q => absurd ((pk_lEQ (okD_m0 d (by omega)) (okD_m0 d (by omega))).mp q) e⟩⟩⟩)⟩⟩
  exact key i (Nat.le_refl _) hk
theorem e_besideU {K : Int32 → Hp → Prop} (R : RM h M V) (o : okC V) (d : okD V) {i : Nat} (hi : i < V 0) (hk : K (enc (up V i)) h) : wp_X9_beside M (nI i) (nI 1) K h := by
  have h0 := o.1
  intro y ey
  subst ey
  rw [nI_add]
  unfold up at hk
  have key : ∀ f k, k + f = V 0 → K (enc (fw V (V (9 + 5 * i)) k f)) h → ∃ n, wp_X9_beside_4 K M (nI i) (nI 1) n (nI k) h := by
    intro f
    induction f with
    | zero =>
      intro k hkf hk
      have hlt := nI_pos (n := k) (by omega)
      exact ⟨1, fun q => absurd q (by rw [nI_0]; exact hlt), fun _ => ⟨_, R.2.1, _, R.at 0 rfl (by omega), ll_le (by omega) (by omega) (fun _ => hk) (fun q => by omega)⟩⟩
    | succ f ih =>
      intro k hkf hk
      have hlt := nI_pos (n := k) (by omega)
      by_cases e : V (9 + 5 * k) = V (9 + 5 * i)
      · refine ⟨1, fun q => absurd q (by rw [nI_0]; exact hlt), fun _ => ⟨_, R.2.1, _, R.at 0 rfl (by omega), ll_le (by omega) (by omega) (fun q => by omega) (fun _ => ⟨_, R.2.1, e_c ⟨_, R.at (9 + 5 * k + 0) rfl (by omega), _, R.2.1, e_c ⟨_, R.at (9 + 5 * i + 0) rfl (by omega), fun q => absurd (by rw [Nat.add_zero, Nat.add_zero, e]) q, fun _ => ?_⟩⟩⟩)⟩⟩
        unfold fw at hk
        rw [if_pos e] at hk
        exact hk
      · unfold fw at hk
        rw [if_neg e] at hk
        obtain ⟨n, hn⟩ := ih (k + 1) (by omega) hk
        refine ⟨n + 1, fun q => absurd q (by rw [nI_0]; exact hlt), fun _ => ⟨_, R.2.1, _, R.at 0 rfl (by omega), ll_le (by omega) (by omega) (fun q => by omega) (fun _ => ⟨_, R.2.1, e_c ⟨_, R.at (9 + 5 * k + 0) rfl (by omega), _, R.2.1, e_c ⟨_, R.at (9 + 5 * i + 0) rfl (by omega), fun _ y ey => by subst ey; rw [nI_add]; exact hn, fun q => absurd ((pk_lEQ (okD_m0 d (by omega)) (okD_m0 d (by omega))).mp q) e⟩⟩⟩)⟩⟩
  exact key (V 0 - (i + 1)) (i + 1) (by omega) hk
theorem e_goesOn {K : Int32 → Hp → Prop} (R : RM h M V) (d : okD V) {i j p : Nat} (hi : i < 40) (hj : j < 40) (hp : p < 12) (hk : K (bI (V (9 + 5 * i + 2) = V (9 + 5 * j + 2) ∧ 0 < rd V p i ∧ 0 < rd V p j)) h) : wp_X9_goesOn M (nI i) (nI j) (nI p) K h := by
  have di := d i hi
  have dj := d j hj
  have g1 : rd V p i < 10 := dg_lt _ _
  have g2 : rd V p j < 10 := dg_lt _ _
  refine ⟨_, R.2.1, e_c ⟨_, R.at (9 + 5 * i + 2) rfl (by omega), _, R.2.1, e_c ⟨_, R.at (9 + 5 * j + 2) rfl (by omega), l_ne (by omega) (by omega) (fun q => ?_) (fun q => ⟨R.1, e_read R hi hp di.2.1 (b_le (b := 0) (by exact Nat.lt_trans g1 (by omega)) (by omega) (fun z => ?_) (fun z => ⟨R.1, e_read R hj hp dj.2.1 (b_le (b := 0) (by exact Nat.lt_trans g2 (by omega)) (by omega) (fun z => ?_) (fun z2 => ?_))⟩))⟩)⟩⟩⟩
  · rw [← bI_f (fun z : V (9 + 5 * i + 2) = V (9 + 5 * j + 2) ∧ 0 < rd V p i ∧ 0 < rd V p j => q z.1)]; exact hk
  · rw [← bI_f (fun y : V (9 + 5 * i + 2) = V (9 + 5 * j + 2) ∧ 0 < rd V p i ∧ 0 < rd V p j => by have := y.2.1; unfold rd at this; omega)]; exact hk
  · rw [← bI_f (fun y : V (9 + 5 * i + 2) = V (9 + 5 * j + 2) ∧ 0 < rd V p i ∧ 0 < rd V p j => by have := y.2.2; unfold rd at this; omega)]; exact hk
  · rw [← bI_t (p := V (9 + 5 * i + 2) = V (9 + 5 * j + 2) ∧ 0 < rd V p i ∧ 0 < rd V p j) ⟨q, z, z2⟩]; exact hk
theorem nI_m9 {j : Nat} (hj : j < 2 ^ 31) : ¬ nI j = (-9 : Int32) := fun q => by
  have := congrArg Int32.toInt q
  rw [nI_toInt hj, m9T] at this
  omega
theorem e_endD {K : Int32 → Hp → Prop} (R : RM h M V) (o : okC V) (d : okD V) {i p : Nat} (hi : i < V 0) (hp : p < 12) (hk : K (nI (fst V p i)) h) : wp_X9_end M (nI i) (nI p) (-1) K h := by
  have h0 := o.1
  refine ⟨R.1, e_besideD R o d hi ?_⟩
  have key : ∀ i, i < V 0 → K (nI (fst V p i)) h → ∃ n, wp_X9_end_12 K M (nI p) (-1) n (nI i) (enc (dn V i)) h := by
    intro i
    induction i using Nat.strongRecOn with
    | _ i ih =>
      intro hi hk
      cases hd : dn V i with
      | none =>
        refine ⟨1, fun _ => ?_, fun q => absurd rfl q⟩
        rw [(D_none (p := p) (by unfold lkD; rw [hd])).1] at hk
        exact hk
      | some j =>
        obtain ⟨hj, -⟩ := bk_some hd
        by_cases c : V (9 + 5 * i + 2) = V (9 + 5 * j + 2) ∧ 0 < rd V p i ∧ 0 < rd V p j
        · have hlk : lkD V p i = some j := lkD_some.mpr ⟨hd, c⟩
          rw [(D_some hlk).1] at hk
          obtain ⟨n, hn⟩ := ih j hj (by omega) hk
          exact ⟨n + 1, fun q => absurd q (nI_m9 (by omega)), fun _ => ⟨R.1, e_goesOn R d (by omega) (by omega) hp (br_b (fun q => absurd c q) (fun _ => ⟨R.1, e_besideD R o d (by omega) hn⟩))⟩⟩
        · have hlk : lkD V p i = none := by unfold lkD; rw [hd]; exact if_neg c
          rw [(D_none hlk).1] at hk
          exact ⟨1, fun q => absurd q (nI_m9 (by omega)), fun _ => ⟨R.1, e_goesOn R d (by omega) (by omega) hp (br_b (fun _ => hk) (fun q => absurd q c))⟩⟩
  exact key i hi hk
theorem e_endU {K : Int32 → Hp → Prop} (R : RM h M V) (o : okC V) (d : okD V) {i p : Nat} (hi : i < V 0) (hp : p < 12) (hk : K (nI (lst V p i)) h) : wp_X9_end M (nI i) (nI p) (nI 1) K h := by
  have h0 := o.1
  refine ⟨R.1, e_besideU R o d hi ?_⟩
  have key : ∀ t i, i < V 0 → V 0 - i = t → K (nI (lst V p i)) h → ∃ n, wp_X9_end_12 K M (nI p) (nI 1) n (nI i) (enc (up V i)) h := by
    intro t
    induction t using Nat.strongRecOn with
    | _ t ih =>
      intro i hi ht hk
      cases hd : up V i with
      | none =>
        refine ⟨1, fun _ => ?_, fun q => absurd rfl q⟩
        rw [(U_none (p := p) (by unfold lkU; rw [hd])).1] at hk
        exact hk
      | some j =>
        obtain ⟨hj, hj2, -⟩ := fw_some hd
        by_cases c : V (9 + 5 * i + 2) = V (9 + 5 * j + 2) ∧ 0 < rd V p i ∧ 0 < rd V p j
        · have hlk : lkU V p i = some j := lkU_some.mpr ⟨hd, c⟩
          rw [(U_some hlk).1] at hk
          obtain ⟨n, hn⟩ := ih (V 0 - j) (by omega) j (by omega) rfl hk
          exact ⟨n + 1, fun q => absurd q (nI_m9 (by omega)), fun _ => ⟨R.1, e_goesOn R d (by omega) (by omega) hp (br_b (fun q => absurd c q) (fun _ => ⟨R.1, e_besideU R o d (by omega) hn⟩))⟩⟩
        · have hlk : lkU V p i = none := by unfold lkU; rw [hd]; exact if_neg c
          rw [(U_none hlk).1] at hk
          exact ⟨1, fun q => absurd q (nI_m9 (by omega)), fun _ => ⟨R.1, e_goesOn R d (by omega) (by omega) hp (br_b (fun _ => hk) (fun q => absurd q c))⟩⟩
  exact key _ i hi rfl hk
theorem cntU_pos {V : Nat → Nat} {p : Nat} (i : Nat) : 0 < cntU V p i := by
  cases h : lkU V p i with
  | none => rw [(U_none h).2.1]; omega
  | some j => rw [(U_some h).2.1]; omega
theorem cntU_le {V : Nat → Nat} {p : Nat} : ∀ t i, i < V 0 → V 0 - i = t → cntU V p i ≤ t := by
  intro t
  induction t using Nat.strongRecOn with
  | _ t ih =>
    intro i hi ht
    cases h : lkU V p i with
    | none => rw [(U_none h).2.1]; omega
    | some j =>
      have hj := lkU_lt h
      rw [(U_some h).2.1]
      have := ih (V 0 - j) (by omega) j hj.2 rfl
      omega
theorem e_runFrom {K : Int32 → Hp → Prop} (R : RM h M V) (o : okC V) (d : okD V) {i p : Nat} (hi : i < V 0) (hp : p < 12) (hk : K (nI (cntU V p i)) h) : wp_X9_runFrom M (nI i) (nI p) K h := by
  have h0 := o.1
  refine ⟨R.1, e_endU R o d hi hp ?_⟩
  have hl := lst_ge (p := p) i hi
  have key : ∀ t j c, j < V 0 → V 0 - j = t → lst V p j = lst V p i → c + t < 1000 → K (nI (c + cntU V p j)) h → ∃ n, wp_X9_runFrom_14 K M (nI (lst V p i)) n (nI (c + 1)) (nI j) h := by
    intro t
    induction t using Nat.strongRecOn with
    | _ t ih =>
      intro j c hj ht hjl hct hk
      cases hu : lkU V p j with
      | none =>
        obtain ⟨a1, a2, -⟩ := U_none hu
        rw [a2] at hk
        refine ⟨1, fun _ => hk, fun q => absurd ?_ q⟩
        rw [← hjl, a1]
      | some k =>
        obtain ⟨hk1, hk2⟩ := lkU_lt hu
        obtain ⟨a1, a2, -⟩ := U_some hu
        obtain ⟨n, hn⟩ := ih (V 0 - k) (by omega) k (c + 1) hk2 rfl (by rw [← a1, hjl]) (by omega) (by rw [a2] at hk; rw [show c + 1 + cntU V p k = c + (cntU V p k + 1) by omega]; exact hk)
        have hne : j ≠ lst V p i := by
          rw [← hjl, a1]
          have := (lst_ge (p := p) k hk2).1
          omega
        refine ⟨n + 1, b_eq (by omega) (by omega) (fun q => absurd q hne) (fun _ y ey => ⟨R.1, e_besideU R o d hj ?_⟩)⟩
        subst ey
        rw [(lkU_some.mp hu).1, nI_add]
        exact hn
  have := key _ i 0 hi rfl rfl (by omega) (by rw [Nat.zero_add]; exact hk)
  exact this
theorem e_least {K : Int32 → Hp → Prop} {a b : Nat} (ha : a < 2 ^ 31) (hb : b < 2 ^ 31) (hk : K (nI (min a b)) h) : wp_X9_least M (nI a) (nI b) K h := by
  refine b_le hb ha (fun q => ?_) (fun q => ?_)
  · rw [Nat.min_eq_right q] at hk; exact hk
  · rw [Nat.min_eq_left (by omega)] at hk; exact hk
theorem e_dirtBy {K : Int32 → Hp → Prop} (R : RM h M V) (d : okD V) {i p : Nat} (hi : i < 40) (hp : p < 12) (hk : K (nI (own V p i)) h) : wp_X9_dirtBy M (nI i) (nI p) K h := by
  have di := d i hi
  have g1 : rd V p i < 10 := dg_lt _ _
  have g2 : trt V p i < 10 := dg_lt _ _
  refine ⟨R.1, e_read R hi hp di.2.1 ⟨R.1, e_isLooked R hi di.2.2.2.1 (br_n (fun q => ⟨_, R.2.1, e_c ⟨_, R.at (9 + 5 * i + 4) rfl (by omega), e_digit di.2.2.2.2 hp ?_⟩⟩) (fun q => ?_))⟩⟩
  · intro y ey
    have hl : lok V i = true := by simpa [lok] using q
    unfold own at hk
    rw [if_pos hl] at hk
    have hey : y.toInt = (rd V p i : Int) - trt V p i := by rw [ey]; exact pk_sub_toInt (by unfold rd at g1; exact Nat.lt_trans g1 (by omega)) (by unfold trt at g2; exact Nat.lt_trans g2 (by omega))
    refine ⟨fun z => ?_, fun z => ?_⟩
    · rw [le32, hey, nI_toInt (by omega)] at z
      rw [show rd V p i - trt V p i = 0 by omega] at hk
      exact hk
    · rw [le32, hey, nI_toInt (by omega)] at z
      rw [ey]
      unfold rd trt at z hk
      rw [pk_sub (by omega)]
      exact hk
  · have hl : ¬ lok V i = true := by simpa [lok] using q
    unfold own at hk
    rw [if_neg hl] at hk
    exact hk
/-- the dirt at a place of a card, with a least length -/
def dirt (V : Nat → Nat) (L p i : Nat) : Nat := if rd V p i = 0 then 0 else if rl V p i < L then 0 else rm V p i
theorem rd_lt (V : Nat → Nat) (p i : Nat) : rd V p i < 10 := dg_lt _ _
theorem trt_lt (V : Nat → Nat) (p i : Nat) : trt V p i < 10 := dg_lt _ _
theorem own_lt (V : Nat → Nat) (p i : Nat) : own V p i < 10 := Nat.lt_of_le_of_lt (own_le V p i) (rd_lt V p i)
theorem e_dirt {K : Int32 → Hp → Prop} (R : RM h M V) (o : okC V) (d : okD V) {i p L : Nat} (hi : i < V 0) (hp : p < 12) (hL : L < 2 ^ 31) (hk : K (nI (dirt V L p i)) h) : wp_X9_dirt M (nI i) (nI p) (nI L) K h := by
  have h0 := o.1
  have g1 := rd_lt V p i
  have hf := fst_le (V := V) (p := p) i
  have hl := lst_ge (p := p) i hi
  have hrl : rl V p i < 100 := by
    rw [← rl_fst i hi]
    have := cntU_le (V := V) (p := p) _ (fst V p i) (by omega) rfl
    omega
  refine ⟨R.1, e_read R (by omega) hp (d i (by omega)).2.1 (b_ne (b := 0) (Nat.lt_trans g1 (by omega)) (by omega) (fun q => ⟨R.1, e_endD R o d hi hp ⟨R.1, e_runFrom R o d (by omega) hp ?_⟩⟩) (fun q => ?_))⟩
  · rw [rl_fst i hi]
    have hrd : ¬ rd V p i = 0 := q
    unfold dirt at hk
    rw [if_neg hrd] at hk
    refine b_le hL (by omega) (fun c => ?_) (fun c => ?_)
    · rw [if_neg (by omega)] at hk
      have gl := rd_lt V p (lst V p i)
      have gw := own_lt V p (lst V p i)
      refine ⟨R.1, e_endU R o d hi hp ⟨R.1, e_read R (by omega) hp (d _ (by omega)).2.1 ⟨R.1, e_dirtBy R d (by omega) hp ⟨R.1, e_least (Nat.lt_trans gl (by omega)) (by omega) ?_⟩⟩⟩⟩
      have hmin : min (dg (V (9 + 5 * lst V p i + 1)) p) (own V p (lst V p i)) = own V p (lst V p i) := by
        have := own_le V p (lst V p i)
        unfold rd at this
        omega
      rw [hmin]
      have key : ∀ t j a, j < V 0 → V 0 - j = t → lst V p j = lst V p i → a ≤ own V p (lst V p i) → K (nI (min a (dmU V p j))) h → ∃ n, wp_X9_dirt_66 K M (nI p) (nI (lst V p i)) n (nI a) (nI j) h := by
        intro t
        induction t using Nat.strongRecOn with
        | _ t ih =>
          intro j a hj ht hjl ha hk
          cases hu : lkU V p j with
          | none =>
            obtain ⟨a1, -, a3⟩ := U_none hu
            rw [a1] at hjl
            rw [a3, hjl, Nat.min_eq_left ha] at hk
            exact ⟨1, fun _ => hk, fun q => absurd (by rw [hjl]) q⟩
          | some k =>
            obtain ⟨hk1, hk2⟩ := lkU_lt hu
            obtain ⟨a1, -, a3⟩ := U_some hu
            have gj := rd_lt V p j
            have go := own_le V p j
            have hlow : min (min a (rd V p j)) (own V p j) = min a (own V p j) := by omega
            obtain ⟨n, hn⟩ := ih (V 0 - k) (by omega) k (min a (own V p j)) hk2 rfl (by rw [← a1, hjl]) (by omega) (by rw [a3] at hk; rw [show min (min a (own V p j)) (dmU V p k) = min a (min (own V p j) (dmU V p k)) by omega]; exact hk)
            have hne : j ≠ lst V p i := by
              rw [← hjl, a1]
              have := (lst_ge (p := p) k hk2).1
              omega
            refine ⟨n + 1, b_eq (by omega) (by omega) (fun q => absurd q hne) (fun _ => ⟨R.1, e_read R (by omega) hp (d j (by omega)).2.1 ⟨R.1, e_least (by omega) (Nat.lt_trans gj (by omega)) ⟨R.1, e_dirtBy R d (by omega) hp ⟨R.1, e_least (by omega) (by omega) ⟨R.1, e_besideU R o d hj ?_⟩⟩⟩⟩⟩)⟩
            rw [(lkU_some.mp hu).1]
            show wp_X9_dirt_66 K M (nI p) (nI (lst V p i)) n (nI (min (min a (rd V p j)) (own V p j))) (nI k) h
            rw [hlow]
            exact hn
      refine key _ (fst V p i) _ (by omega) rfl (run_fst i hi).1 (Nat.le_refl _) ?_
      rw [rm_fst i hi]
      have : rm V p i ≤ own V p (lst V p i) := dmD_le _
      rw [Nat.min_eq_right this]
      exact hk
    · rw [if_pos (by omega)] at hk
      exact hk
  · have hrd : rd V p i = 0 := q
    unfold dirt at hk
    rw [if_pos hrd] at hk
    exact hk
end M2
