/-! the reference: packed outcomes, changes, doubt, the pool, counts -/
def pkd (V : Nat → Nat) (L i : Nat) : Nat := 8 * (8 * (8 * (8 * 0 + oc V L 3 i) + oc V L 2 i) + oc V L 1 i) + oc V L 0 i
theorem pkd_lt (V : Nat → Nat) (L i : Nat) : pkd V L i < 4096 := by
  have h0 := oc_le V L 0 i
  have h1 := oc_le V L 1 i
  have h2 := oc_le V L 2 i
  have h3 := oc_le V L 3 i
  unfold pkd
  omega
theorem ou_pk (V : Nat → Nat) (L i : Nat) : ∀ c, c < 4 → ou (pkd V L i) c = oc V L c i := by
  have h0 := oc_le V L 0 i
  have h1 := oc_le V L 1 i
  have h2 := oc_le V L 2 i
  have h3 := oc_le V L 3 i
  intro c hc
  unfold ou pkd
  rcases (show c = 0 ∨ c = 1 ∨ c = 2 ∨ c = 3 by omega) with rfl | rfl | rfl | rfl <;> omega
def okE (V : Nat → Nat) : Prop := ∀ v, v < 6 → V (209 + 41 * v) ≤ 40 ∧ ∀ i, i < 40 → V (209 + 41 * v + 1 + i) < 4096
/-- the contests in which a card has another outcome than in the last version -/
def chs (V : Nat → Nat) (i : Nat) : Nat := if V 1 = 0 then 0 else if i < V (209 + 41 * (V 1 - 1)) then df (pkd V (V 2) i) (V (209 + 41 * (V 1 - 1) + 1 + i)) else 0
def dbb (V : Nat → Nat) (i : Nat) : Nat → Nat
  | 0 => 0
  | k + 1 => dbb V i k + (if oc V (V 2) k i = 5 then 1 * 2 ^ k else 0)
def dbs (V : Nat → Nat) (i : Nat) : Nat := dbb V i 4
theorem dbb_lt (V : Nat → Nat) (i : Nat) : ∀ k, dbb V i k < 2 ^ k
  | 0 => Nat.one_pos
  | k + 1 => by
    have := dbb_lt V i k
    unfold dbb
    rw [Nat.pow_succ]
    split <;> omega
theorem dbs_lt (V : Nat → Nat) (i : Nat) : dbs V i < 16 := dbb_lt V i 4
theorem chs_lt (V : Nat → Nat) (i : Nat) : chs V i < 16 := by
  unfold chs
  split
  · omega
  · split
    · exact df_lt _ _
    · omega
def inP (V : Nat → Nat) (i : Nat) : Bool := decide (V (9 + 5 * i + 3) = 0 ∧ (dbs V i ≠ 0 ∨ chs V i ≠ 0))
section M5
variable {h : Hp} {M : Nat} {V : Nat → Nat}
theorem e_length {K : Int32 → Hp → Prop} (R : RM h M V) (hk : K (nI (V 2)) h) : wp_X9_length M K h :=
  ⟨_, R.2.1, _, R.at 2 rfl (by omega), by rw [lN_i]; exact hk⟩
theorem e_out_step {K : Int64 → Hp → Prop} (R : RM h M V) (o : okC V) (d : okD V) {i L : Nat} (hi : i < V 0) (hL : L < 2 ^ 31) {n k x : Nat} (hk : k < 4) (hn : wp_X9_outcomes_5 K M (nI i) (nI L) n (lN (8 * x + oc V L k i)) (nI k + (-1)) h) : wp_X9_outcomes_5 K M (nI i) (nI L) (n + 1) (lN x) (nI k) h := by
  have := oc_le V L k i
  refine ⟨fun q => absurd q (by rw [nI_0]; exact nI_pos (by omega)), fun _ => ⟨R.1, e_outcomeBy R o d hi hk hL ?_⟩⟩
  intro y ey z ez
  subst ey; subst ez
  rw [nI_l (by omega), lN_mul, lN_add]
  exact hn
theorem e_outcomes {K : Int64 → Hp → Prop} (R : RM h M V) (o : okC V) (d : okD V) {i L : Nat} (hi : i < V 0) (hL : L < 2 ^ 31) (hk : K (lN (pkd V L i)) h) : wp_X9_outcomes M (nI i) (nI L) K h := by
  have e3 : nI 3 + (-1) = nI 2 := by decide
  have e2 : nI 2 + (-1) = nI 1 := by decide
  have e1 : nI 1 + (-1) = nI 0 := by decide
  refine ⟨5, e_out_step R o d hi hL (k := 3) (x := 0) (by omega) ?_⟩
  rw [e3]
  refine e_out_step R o d hi hL (k := 2) (by omega) ?_
  rw [e2]
  refine e_out_step R o d hi hL (k := 1) (by omega) ?_
  rw [e1]
  refine e_out_step R o d hi hL (k := 0) (by omega) ?_
  exact ⟨fun _ => hk, fun q => absurd (by decide) q⟩
theorem e_changes {K : Int32 → Hp → Prop} (R : RM h M V) (o : okC V) (d : okD V) (ee : okE V) {i : Nat} (hi : i < V 0) (hk : K (nI (chs V i)) h) : wp_X9_changes M (nI i) K h := by
  have h0 := o.1
  have h1 := o.2.1
  have h2 := o.2.2.1
  refine ⟨_, R.2.1, _, R.at 1 rfl (by omega), fun y ey => ?_⟩
  rw [lN_i] at ey
  by_cases z : V 1 = 0
  · have : y = (-1 : Int32) := by rw [ey, z]; decide
    subst this
    unfold chs at hk
    rw [if_pos z] at hk
    exact ⟨fun _ => hk, fun q => absurd (by decide) q⟩
  · rw [pk_sub (by omega)] at ey
    subst ey
    have hv := ee (V 1 - 1) (by omega)
    unfold chs at hk
    rw [if_neg z] at hk
    refine ⟨fun q => absurd q (by rw [nI_0]; exact nI_pos (by omega)), fun _ => ⟨_, R.2.1, e_v ⟨_, R.at (209 + 41 * (V 1 - 1) + 0) rfl (by omega), ll_lt (by omega) (by have := hv.1; rw [Nat.add_zero]; omega) (fun q => ?_) (fun q => ?_)⟩⟩⟩
    · rw [Nat.add_zero] at q
      rw [if_pos q] at hk
      refine ⟨R.1, e_length R ⟨R.1, e_outcomes R o d hi (by omega) ⟨_, R.2.1, ?_⟩⟩⟩
      rw [nI_add]
      refine e_v ⟨_, R.at (209 + 41 * (V 1 - 1) + (1 + i)) rfl (by omega), ?_⟩
      rw [show 209 + 41 * (V 1 - 1) + (1 + i) = 209 + 41 * (V 1 - 1) + 1 + i by omega]
      exact e_differences (pkd_lt _ _ _) (hv.2 i (by omega)) hk
    · rw [Nat.add_zero] at q
      rw [if_neg (by omega)] at hk
      exact hk
theorem e_doubtful {K : Int32 → Hp → Prop} (R : RM h M V) (o : okC V) (d : okD V) {i : Nat} (hi : i < V 0) (hk : K (nI (dbs V i)) h) : wp_X9_doubtful M (nI i) K h := by
  have h2 := o.2.2.1
  refine for_up (fun n k => wp_X9_doubtful_4 K M (nI i) n (nI (dbb V i k)) (nI k) h) 4 0 (by omega) (fun n => ?_) (fun n k _ h1 ih => ?_)
  · exact b_le (by omega) (by omega) (fun _ => hk) (fun q => by omega)
  · have := oc_le V (V 2) k i
    refine b_le (by omega) (by omega) (fun q => by omega) (fun _ => ⟨R.1, e_length R ⟨R.1, e_outcomeBy R o d hi h1 (by omega) (b_ne (by omega) (by omega) (fun q y ey z ez => ?_) (fun q y ey z ez => ?_))⟩⟩)
    · subst ey; subst ez
      rw [o_0, nI_add]
      simp only [dbb, if_neg q, Nat.add_zero] at ih
      exact ih
    · subst ey; subst ez
      rw [o_bit k (by omega), o_sum 1 (dbb_lt V i k), nI_add]
      simp only [dbb, if_pos q] at ih
      exact ih
theorem e_isInPool {K : Int32 → Hp → Prop} (R : RM h M V) (o : okC V) (d : okD V) (ee : okE V) {i : Nat} (hi : i < V 0) (hk : K (bI (inP V i = true)) h) : wp_X9_isInPool M (nI i) K h := by
  have h0 := o.1
  have ds := (d i (by omega)).2.2.2.1
  have g1 := dbs_lt V i
  have g2 := chs_lt V i
  have ht : inP V i = true → K (nI 1) h := fun q => by rw [bI_t q] at hk; exact hk
  have hf : ¬ inP V i = true → K (nI 0) h := fun q => by rw [bI_f q] at hk; exact hk
  have hiff : inP V i = true ↔ (V (9 + 5 * i + 3) = 0 ∧ (dbs V i ≠ 0 ∨ chs V i ≠ 0)) := by simp [inP]
  refine ⟨_, R.2.1, e_c ⟨_, R.at (9 + 5 * i + 3) rfl (by omega), l_ne (by omega) (by omega) (fun q => hf (fun z => q (hiff.mp z).1)) (fun q => ⟨R.1, e_doubtful R o d hi (b_ne (by omega) (by omega) (fun z => ht (hiff.mpr ⟨q, Or.inl z⟩)) (fun z => ⟨R.1, e_changes R o d ee hi (b_eq (by omega) (by omega) (fun y => hf (fun x => (hiff.mp x).2.elim (fun x => x z) (fun x => x y))) (fun y => ht (hiff.mpr ⟨q, Or.inr y⟩)))⟩))⟩)⟩⟩
theorem e_ofMachine {K : Int32 → Hp → Prop} (R : RM h M V) (o : okC V) (d : okD V) {m : Nat} (hm : m < 2 ^ 31) (hk : K (nI (cnt (fun i => decide (V (9 + 5 * i) = m)) (V 0))) h) : wp_X9_ofMachine M (nI m) K h := by
  have h0 := o.1
  refine for_up (fun n i => wp_X9_ofMachine_4 K M (nI m) n (nI (cnt (fun i => decide (V (9 + 5 * i) = m)) i)) (nI i) h) (V 0) 0 (Nat.zero_le _) (fun n => ?_) (fun n i _ h1 ih => ?_)
  · exact ⟨_, R.2.1, _, R.at 0 rfl (by omega), ll_le (by omega) (by omega) (fun _ => hk) (fun q => by omega)⟩
  · refine ⟨_, R.2.1, _, R.at 0 rfl (by omega), ll_le (by omega) (by omega) (fun q => by omega) (fun _ => ⟨_, R.2.1, e_c ⟨_, R.at (9 + 5 * i + 0) rfl (by omega), ll_ne (okD_m0 d (by omega)) hm (fun q y ey z ez => ?_) (fun q y ey z ez => ?_)⟩⟩)⟩
    · subst ey; subst ez
      rw [Nat.add_zero] at q
      rw [nI_add, nI_add, Nat.add_zero]
      rw [cnt_f (fun z => q (of_decide_eq_true z))] at ih
      exact ih
    · subst ey; subst ez
      rw [Nat.add_zero] at q
      rw [nI_add, nI_add]
      rw [cnt_t (decide_eq_true q)] at ih
      exact ih
theorem e_placeOf {K : Int32 → Hp → Prop} (R : RM h M V) (o : okC V) (d : okD V) {i : Nat} (hi : i < V 0) (hk : K (nI (cnt (fun k => decide (V (9 + 5 * k) = V (9 + 5 * i))) i)) h) : wp_X9_placeOf M (nI i) K h := by
  have h0 := o.1
  refine for_up (fun n k => wp_X9_placeOf_4 K M (nI i) n (nI (cnt (fun k => decide (V (9 + 5 * k) = V (9 + 5 * i))) k)) (nI k) h) i 0 (Nat.zero_le _) (fun n => ?_) (fun n k _ h1 ih => ?_)
  · exact b_le (by omega) (by omega) (fun _ => hk) (fun q => by omega)
  · refine b_le (by omega) (by omega) (fun q => by omega) (fun _ => ⟨_, R.2.1, e_c ⟨_, R.at (9 + 5 * k + 0) rfl (by omega), _, R.2.1, e_c ⟨_, R.at (9 + 5 * i + 0) rfl (by omega), l_ne (okD_m0 d (by omega)) (okD_m0 d (by omega)) (fun q y ey z ez => ?_) (fun q y ey z ez => ?_)⟩⟩⟩)
    · subst ey; subst ez
      rw [Nat.add_zero, Nat.add_zero] at q
      rw [nI_add, nI_add, Nat.add_zero]
      rw [cnt_f (fun z => q (of_decide_eq_true z))] at ih
      exact ih
    · subst ey; subst ez
      rw [Nat.add_zero, Nat.add_zero] at q
      rw [nI_add, nI_add]
      rw [cnt_t (decide_eq_true q)] at ih
      exact ih
theorem e_changing {K : Int32 → Hp → Prop} (R : RM h M V) (o : okC V) (d : okD V) (ee : okE V) {u : Nat} (hu : u < 2) (hk : K (nI (cnt (fun i => decide (chs V i ≠ 0 ∧ ¬ (u = 1 ∧ lok V i = true))) (V 0))) h) : wp_X9_changing M (nI u) K h := by
  have h0 := o.1
  refine for_up (fun n i => wp_X9_changing_4 K M (nI u) n (nI (cnt (fun i => decide (chs V i ≠ 0 ∧ ¬ (u = 1 ∧ lok V i = true))) i)) (nI i) h) (V 0) 0 (Nat.zero_le _) (fun n => ?_) (fun n i _ h1 ih => ?_)
  · exact ⟨_, R.2.1, _, R.at 0 rfl (by omega), ll_le (by omega) (by omega) (fun _ => hk) (fun q => by omega)⟩
  · have gc := chs_lt V i
    have no : ¬ (chs V i ≠ 0 ∧ ¬ (u = 1 ∧ lok V i = true)) → ∀ y : Int32, y = nI (cnt (fun i => decide (chs V i ≠ 0 ∧ ¬ (u = 1 ∧ lok V i = true))) i) + nI 0 → ∀ z : Int32, z = nI i + nI 1 → wp_X9_changing_4 K M (nI u) n y z h := by
      intro q y ey z ez
      subst ey; subst ez
      rw [nI_add, nI_add, Nat.add_zero]
      rw [cnt_f (fun z => q (of_decide_eq_true z))] at ih
      exact ih
    have yes : (chs V i ≠ 0 ∧ ¬ (u = 1 ∧ lok V i = true)) → ∀ y : Int32, y = nI (cnt (fun i => decide (chs V i ≠ 0 ∧ ¬ (u = 1 ∧ lok V i = true))) i) + nI 1 → ∀ z : Int32, z = nI i + nI 1 → wp_X9_changing_4 K M (nI u) n y z h := by
      intro q y ey z ez
      subst ey; subst ez
      rw [nI_add, nI_add]
      rw [cnt_t (decide_eq_true q)] at ih
      exact ih
    refine ⟨_, R.2.1, _, R.at 0 rfl (by omega), ll_le (by omega) (by omega) (fun q => by omega) (fun _ => ⟨R.1, e_changes R o d ee h1 (b_eq (by omega) (by omega) (fun q => no (fun z => z.1 q)) (fun q => b_eq (by omega) (by omega) (fun z => yes ⟨q, fun y => by omega⟩) (fun z => ⟨R.1, e_isLooked R (by omega) (d i (by omega)).2.2.2.1 (br_n (fun y => no (fun x => x.2 ⟨by omega, by simpa [lok] using y⟩)) (fun y => yes ⟨q, fun x => y (by simpa [lok] using x.2)⟩))⟩)))⟩)⟩
def stk (V : Nat → Nat) (k : Nat) : Bool := decide (0 < rd V (k % 12) (k / 12) ∧ fst V (k % 12) (k / 12) = k / 12 ∧ V 2 ≤ rl V (k % 12) (k / 12))
theorem e_streaks {K : Int32 → Hp → Prop} (R : RM h M V) (o : okC V) (d : okD V) (hk : K (nI (cnt (stk V) (12 * V 0))) h) : wp_X9_streaks M K h := by
  have h0 := o.1
  have h2 := o.2.2.1
  refine for_up (fun n k => wp_X9_streaks_4 K M n (nI (cnt (stk V) k)) (nI k) h) (12 * V 0) 0 (Nat.zero_le _) (fun n => ?_) (fun n k _ h1 ih => ?_)
  · refine ⟨_, R.2.1, _, R.at 0 rfl (by omega), ?_⟩
    rw [lN_mul]
    exact ll_le (by omega) (by omega) (fun _ => hk) (fun q => by omega)
  · have gr := rd_lt V (k % 12) (k / 12)
    have gf := fst_le (V := V) (p := k % 12) (k / 12)
    have no : ¬ stk V k = true → ∀ y : Int32, y = nI (cnt (stk V) k) + nI 0 → ∀ z : Int32, z = nI k + nI 1 → wp_X9_streaks_4 K M n y z h := by
      intro q y ey z ez
      subst ey; subst ez
      rw [nI_add, nI_add, Nat.add_zero]
      rw [cnt_f q] at ih
      exact ih
    have yes : stk V k = true → ∀ y : Int32, y = nI (cnt (stk V) k) + nI 1 → ∀ z : Int32, z = nI k + nI 1 → wp_X9_streaks_4 K M n y z h := by
      intro q y ey z ez
      subst ey; subst ez
      rw [nI_add, nI_add]
      rw [cnt_t q] at ih
      exact ih
    have hs : stk V k = true ↔ (0 < rd V (k % 12) (k / 12) ∧ fst V (k % 12) (k / 12) = k / 12 ∧ V 2 ≤ rl V (k % 12) (k / 12)) := by simp [stk]
    have w0 : (¬ (0 < rd V (k % 12) (k / 12) ∧ fst V (k % 12) (k / 12) = k / 12)) → wp_X9_streaks_58 K (fun z0 z1 h => wp_X9_streaks_4 K M n z0 z1 h) M (nI (cnt (stk V) k)) (nI k) (nI (k / 12)) (nI (k % 12)) (nI 0) h := fun q =>
      ⟨fun _ => no (fun z => q ⟨(hs.mp z).1, (hs.mp z).2.1⟩), fun z => absurd rfl z⟩
    have w1 : (0 < rd V (k % 12) (k / 12) ∧ fst V (k % 12) (k / 12) = k / 12) → wp_X9_streaks_58 K (fun z0 z1 h => wp_X9_streaks_4 K M n z0 z1 h) M (nI (cnt (stk V) k)) (nI k) (nI (k / 12)) (nI (k % 12)) (nI 1) h := by
      intro q
      have hc := cntU_le (V := V) (p := k % 12) _ (k / 12) (by omega) rfl
      have hcr : cntU V (k % 12) (k / 12) = rl V (k % 12) (k / 12) := by
        have := rl_fst (V := V) (p := k % 12) (k / 12) (by omega)
        rw [q.2] at this
        exact this
      refine ⟨fun z => absurd z (by decide), fun _ => ⟨R.1, e_runFrom R o d (by omega) (by omega) ⟨R.1, e_length R (b_lt (by omega) (by omega) (fun z => no (fun y => ?_)) (fun z => yes (hs.mpr ⟨q.1, q.2, ?_⟩)))⟩⟩⟩
      · have := (hs.mp y).2.2
        omega
      · omega
    refine ⟨_, R.2.1, _, R.at 0 rfl (by omega), ?_⟩
    rw [lN_mul]
    refine ll_le (by omega) (by omega) (fun q => by omega) (fun _ y ey z ez => ?_)
    subst ey; subst ez
    rw [pk_div (by omega) (by omega) (by omega), nI_mul, pk_sub (by omega), show k - k / 12 * 12 = k % 12 by omega]
    refine ⟨R.1, e_read R (by omega) (by omega) (d _ (by omega)).2.1 (b_le (b := 0) (Nat.lt_trans gr (by omega)) (by omega) (fun q => w0 (fun z => ?_)) (fun q => ⟨R.1, e_endD R o d (by omega) (by omega) (b_ne (by omega) (by omega) (fun z => w0 (fun y => z y.2)) (fun z => w1 ⟨q, z⟩))⟩))⟩
    have := z.1
    unfold rd at this
    omega
/-- a version: none is now; its Int32 -/
def vI (v : Option Nat) : Int32 := match v with
  | some v => nI v
  | none => -1
def ocv (V : Nat → Nat) (c : Nat) (v : Option Nat) (i : Nat) : Option Nat := match v with
  | none => some (oc V (V 2) c i)
  | some v => if i < V (209 + 41 * v) then some (ou (V (209 + 41 * v + 1 + i)) c) else none
theorem e_outcomeOf {K : Int32 → Hp → Prop} (R : RM h M V) (o : okC V) (d : okD V) (ee : okE V) {i c : Nat} (hi : i < V 0) (hc : c < 4) {v : Option Nat} (hv : ∀ w, v = some w → w < 6) (hk : K (enc (ocv V c v i)) h) : wp_X9_outcomeOf M (nI i) (nI c) (vI v) K h := by
  have h0 := o.1
  have h2 := o.2.2.1
  cases v with
  | none => exact ⟨fun q => absurd q (by decide), fun _ => ⟨R.1, e_length R ⟨R.1, e_outcomeBy R o d hi hc (by omega) hk⟩⟩⟩
  | some v =>
    have hv := hv v rfl
    have he := ee v hv
    have key : ∃ v18 : Nat, gF h M 9 0 = some (.ref v18) ∧ (wp_X9_v (nI v) (nI 0) (fun r23 h23 => (∃ v26 : Int64, gL h23 v18 r23 = some v26 ∧ (((v26 ≤ (Int32.toInt64 (nI i)) → (K (-9 : Int32) h23)) ∧ (¬ v26 ≤ (Int32.toInt64 (nI i)) → (∃ v32 : Nat, gF h23 M 9 0 = some (.ref v32) ∧ (wp_X9_v (nI v) ((nI 1) + nI i) (fun r39 h39 => (∃ v42 : Int64, gL h39 v32 r39 = some v42 ∧ (wp_X9_outcomeIn v42 (nI c) (fun r44 h44 => (K r44 h44)) h39))) h23))))))) h) := by
      refine ⟨_, R.2.1, e_v ⟨_, R.at (209 + 41 * v + 0) rfl (by omega), ?_⟩⟩
      rw [Nat.add_zero]
      refine ll_le (by have := he.1; omega) (by omega) (fun q => ?_) (fun q => ⟨_, R.2.1, ?_⟩)
      · rw [ocv, if_neg (by omega)] at hk
        exact hk
      · rw [nI_add]
        refine e_v ⟨_, R.at (209 + 41 * v + (1 + i)) rfl (by omega), ?_⟩
        rw [show 209 + 41 * v + (1 + i) = 209 + 41 * v + 1 + i by omega]
        rw [ocv, if_pos q] at hk
        exact e_outcomeIn (he.2 i (by omega)) hc hk
    exact ⟨fun _ => key, fun q => absurd (nI_pos' (n := v) (by omega)) (by rw [nI_0] at q; exact q)⟩
/-- how many cards have an outcome, in a version, of a machine (none: of all) -/
def tlp (V : Nat → Nat) (c t : Nat) (v m : Option Nat) (i : Nat) : Bool := decide ((∀ x, m = some x → V (9 + 5 * i) = x) ∧ ocv V c v i = some t)
theorem ocv_le {V : Nat → Nat} {c i t : Nat} {v : Option Nat} (h : ocv V c v i = some t) : t < 8 := by
  cases v with
  | none =>
    have := oc_le V (V 2) c i
    unfold ocv at h
    cases h
    omega
  | some v =>
    unfold ocv at h
    dsimp only at h
    split at h
    · cases h; exact ou_lt _ _
    · cases h
theorem e_tallied {K : Int32 → Hp → Prop} (R : RM h M V) (o : okC V) (d : okD V) (ee : okE V) {c t : Nat} (hc : c < 4) (ht : t < 2 ^ 31) {v m : Option Nat} (hv : ∀ w, v = some w → w < 6) (hm : ∀ x, m = some x → x < 2 ^ 31) (hk : K (nI (cnt (tlp V c t v m) (V 0))) h) : wp_X9_tallied M (nI c) (nI t) (vI v) (vI m) K h := by
  have h0 := o.1
  refine for_up (fun n i => wp_X9_tallied_6 K M (nI c) (nI t) (vI v) (vI m) n (nI (cnt (tlp V c t v m) i)) (nI i) h) (V 0) 0 (Nat.zero_le _) (fun n => ?_) (fun n i _ h1 ih => ?_)
  · exact ⟨_, R.2.1, _, R.at 0 rfl (by omega), ll_le (by omega) (by omega) (fun _ => hk) (fun q => by omega)⟩
  · have no : ¬ tlp V c t v m i = true → ∀ y : Int32, y = nI (cnt (tlp V c t v m) i) + nI 0 → ∀ z : Int32, z = nI i + nI 1 → wp_X9_tallied_6 K M (nI c) (nI t) (vI v) (vI m) n y z h := by
      intro q y ey z ez
      subst ey; subst ez
      rw [nI_add, nI_add, Nat.add_zero]
      rw [cnt_f q] at ih
      exact ih
    have yes : tlp V c t v m i = true → ∀ y : Int32, y = nI (cnt (tlp V c t v m) i) + nI 1 → ∀ z : Int32, z = nI i + nI 1 → wp_X9_tallied_6 K M (nI c) (nI t) (vI v) (vI m) n y z h := by
      intro q y ey z ez
      subst ey; subst ez
      rw [nI_add, nI_add]
      rw [cnt_t q] at ih
      exact ih
    have hs : tlp V c t v m i = true ↔ ((∀ x, m = some x → V (9 + 5 * i) = x) ∧ ocv V c v i = some t) := by simp [tlp]
    have w1 : (∀ x, m = some x → V (9 + 5 * i) = x) → wp_X9_tallied_48 K (fun z0 z1 h => wp_X9_tallied_6 K M (nI c) (nI t) (vI v) (vI m) n z0 z1 h) M (nI c) (nI t) (vI v) (vI m) (nI (cnt (tlp V c t v m) i)) (nI i) (nI 1) h := by
      intro q
      refine ⟨fun z => absurd z (by decide), fun _ => ⟨R.1, e_outcomeOf R o d ee h1 hc hv ⟨fun z => no (fun y => ?_), fun z => yes (hs.mpr ⟨q, ?_⟩)⟩⟩⟩
      · exact z (by rw [(hs.mp y).2]; rfl)
      · cases ho : ocv V c v i with
        | none =>
          rw [ho] at z
          exact absurd z.symm (nI_m9 ht)
        | some w =>
          rw [ho] at z
          have hw := ocv_le ho
          rw [(nI_eq (by omega) ht).mp z]
    have w0 : (¬ (∀ x, m = some x → V (9 + 5 * i) = x)) → wp_X9_tallied_48 K (fun z0 z1 h => wp_X9_tallied_6 K M (nI c) (nI t) (vI v) (vI m) n z0 z1 h) M (nI c) (nI t) (vI v) (vI m) (nI (cnt (tlp V c t v m) i)) (nI i) (nI 0) h := fun q =>
      ⟨fun _ => no (fun z => q (hs.mp z).1), fun z => absurd rfl z⟩
    refine ⟨_, R.2.1, _, R.at 0 rfl (by omega), ll_le (by omega) (by omega) (fun q => by omega) (fun _ => ?_)⟩
    cases m with
    | none => exact ⟨fun _ => w1 (fun x hx => by cases hx), fun q => absurd rfl q⟩
    | some x =>
      have hx := hm x rfl
      refine ⟨fun q => ?_, fun _ => ⟨_, R.2.1, e_c ⟨_, R.at (9 + 5 * i + 0) rfl (by omega), ll_ne (okD_m0 d (by omega)) hx (fun q => w0 (fun z => q (by rw [Nat.add_zero]; exact z x rfl))) (fun q => w1 (fun y hy => by cases hy; rw [Nat.add_zero] at q; exact q))⟩⟩⟩
      have q2 := congrArg Int32.toInt q
      rw [show vI (some x) = nI x from rfl, nI_toInt hx, m1T] at q2
      omega
end M5
