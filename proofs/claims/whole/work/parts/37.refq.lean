/-! the reference: the pool, changes, leads, errors, other lengths, seeds -/
def PL (h : Hp) (M : Nat) : Prop := gF h M 9 4 = some (.ref (M + 4)) ∧ ∀ j, j < 40 → ∃ v : Int32, gI h (M + 4) 0 (nI j) = some v
theorem RM.fr {h h' : Hp} {M : Nat} {V : Nat → Nat} (R : RM h M V) (e : ∀ q, (q = M ∨ q = M + 1) → h' q = h q) : RM h' M V := by
  refine ⟨isO_c (e M (Or.inl rfl)) R.1, ?_, fun i hi => ?_⟩
  · rw [gF_c (e M (Or.inl rfl))]; exact R.2.1
  · rw [gL_c (e _ (Or.inr rfl))]; exact R.2.2 i hi
theorem sel_some {p : Nat → Bool} {j : Nat} : ∀ {f i k : Nat}, sel p j i f = some k → i ≤ k ∧ k < i + f ∧ p k = true ∧ cnt p k = j
  | 0, i, k, h => by cases h
  | f + 1, i, k, h => by
    unfold sel at h
    split at h
    · rename_i z
      cases h
      exact ⟨Nat.le_refl _, by omega, z.1, z.2⟩
    · obtain ⟨a, b, c, d⟩ := sel_some h
      exact ⟨by omega, by omega, c, d⟩
theorem cnt_mono {p : Nat → Bool} {a b : Nat} (h : a ≤ b) : cnt p a ≤ cnt p b := by
  induction h with
  | refl => exact Nat.le_refl _
  | step _ ih => exact Nat.le_trans ih (Nat.le_add_right _ _)
theorem cnt_lt {p : Nat → Bool} {a b : Nat} (ha : p a = true) (h : a < b) : cnt p a < cnt p b := by
  have h1 : cnt p (a + 1) ≤ cnt p b := cnt_mono (p := p) h
  have e := cnt_t ha
  omega
theorem sel_at {p : Nat → Bool} {i : Nat} (hi : p i = true) : ∀ {f k : Nat}, k ≤ i → i < k + f → sel p (cnt p i) k f = some i
  | 0, k, h1, h2 => by omega
  | f + 1, k, h1, h2 => by
    unfold sel
    by_cases z : k = i
    · rw [z, if_pos ⟨hi, rfl⟩]
    · rw [if_neg (fun q => by have := cnt_lt q.1 (show k < i by omega); omega)]
      exact sel_at hi (by omega) (by omega)
theorem sel_none {p : Nat → Bool} {j : Nat} : ∀ {f i : Nat}, (∀ k, i ≤ k → k < i + f → p k = false) → sel p j i f = none
  | 0, i, _ => rfl
  | f + 1, i, h => by
    unfold sel
    rw [if_neg (fun q => by rw [h i (by omega) (by omega)] at q; cases q.1)]
    exact sel_none (fun k h1 h2 => h k (by omega) (by omega))
theorem sel_stop {p : Nat → Bool} {j g : Nat} : ∀ {f i : Nat}, (∀ k, i + f ≤ k → k < i + (f + g) → p k = false) → sel p j i (f + g) = sel p j i f
  | 0, i, h => by rw [Nat.zero_add]; exact sel_none (fun k h1 h2 => h k (by omega) (by omega))
  | f + 1, i, h => by
    rw [show f + 1 + g = (f + g) + 1 by omega]
    unfold sel
    split
    · rfl
    · exact sel_stop (fun k h1 h2 => h k (by omega) (by omega))
theorem sel_in {p : Nat → Bool} {j : Nat} : ∀ {n : Nat}, j < cnt p n → ∃ k, k < n ∧ p k = true ∧ cnt p k = j
  | 0, h => by unfold cnt at h; omega
  | n + 1, h => by
    by_cases z : j < cnt p n
    · obtain ⟨k, a, b⟩ := sel_in z
      exact ⟨k, by omega, b⟩
    · by_cases y : p n = true
      · rw [cnt_t y] at h
        exact ⟨n, by omega, y, by omega⟩
      · rw [cnt_f y] at h
        exact absurd h z
theorem least_of {P : Nat → Prop} : ∀ {n : Nat}, P n → ∃ m, m ≤ n ∧ P m ∧ ∀ k, k < m → ¬ P k := by
  intro n
  induction n using Nat.strongRecOn with
  | _ n ih =>
    intro hn
    by_cases z : ∃ k, k < n ∧ P k
    · obtain ⟨k, hk, pk⟩ := z
      obtain ⟨m, a, b, c⟩ := ih k hk pk
      exact ⟨m, by omega, b, c⟩
    · exact ⟨n, Nat.le_refl _, hn, fun k hk pk => z ⟨k, hk, pk⟩⟩
def lot (s : Nat) : Nat := (75 * s + 74) % 65537
theorem lot_lt (s : Nat) : lot s < 65537 := Nat.mod_lt _ (by omega)
theorem lot_to : ∀ w, w < 41 → lot ((w + 65537 - 74) * 45439 % 65537) = w := by decide +kernel
theorem seed_ex {n w : Nat} (hn : n ≤ 40) (hw : w < n) : ∃ s, s < 65537 ∧ lot s % n = w ∧ ∀ k, k < s → lot k % n ≠ w := by
  have h0 : lot ((w + 65537 - 74) * 45439 % 65537) % n = w := by rw [lot_to w (by omega), Nat.mod_eq_of_lt hw]
  obtain ⟨m, a, b, c⟩ := least_of (P := fun s => lot s % n = w) h0
  have : (w + 65537 - 74) * 45439 % 65537 < 65537 := Nat.mod_lt _ (by omega)
  exact ⟨m, by omega, b, c⟩
theorem r_mod {a b : Nat} (ha : a < 2 ^ 31) (h0 : 0 < b) (hb : b < 2 ^ 31) : nI a - nI a / nI b * nI b = nI (a % b) := by
  have h1 : a / b * b ≤ a := Nat.div_mul_le_self a b
  rw [pk_div ha h0 hb, nI_mul, pk_sub h1]
  congr 1
  have := Nat.div_add_mod a b
  rw [Nat.mul_comm] at this
  omega
theorem lot_i {s : Nat} (hs : s < 65537) : (((nI 75) * nI s) + (nI 74)) - (((nI 75) * nI s) + (nI 74)) / (nI 65537) * (nI 65537) = nI (lot s) := by
  rw [nI_mul, nI_add, r_mod (by omega) (by omega) (by omega)]
  rfl
theorem lot_L {s n : Nat} (hs : s < 65537) (h0 : 0 < n) (hn : n ≤ 40) : Int64.toInt32 (((((lN 75) * (Int32.toInt64 (nI s))) + (lN 74)) - (((lN 75) * (Int32.toInt64 (nI s))) + (lN 74)) / (lN 65537) * (lN 65537)) - ((((lN 75) * (Int32.toInt64 (nI s))) + (lN 74)) - (((lN 75) * (Int32.toInt64 (nI s))) + (lN 74)) / (lN 65537) * (lN 65537)) / (Int32.toInt64 (nI n)) * (Int32.toInt64 (nI n))) = nI (lot s % n) := by
  have hl := lot_lt s
  unfold lot at hl
  rw [nI_l (by omega), nI_l (by omega), lN_mul, lN_add, pk_lRem (by omega) (by omega) (by omega), pk_lRem (by omega) (by omega) (by omega), lN_i]
  rfl
section M6
variable {h : Hp} {M : Nat} {V : Nat → Nat}
theorem e_laysPool {K : Int32 → Hp → Prop} (R : RM h M V) (P : PL h M) (o : okC V) (d : okD V) (ee : okE V) (hk : ∀ h', (∀ q, q ≠ M + 4 → h' q = h q) → PL h' M → (∀ j, j < cnt (inP V) (V 0) → gI h' (M + 4) 0 (nI j) = some (enc (sel (inP V) j 0 (V 0)))) → K (nI (cnt (inP V) (V 0))) h') : wp_X9_laysPool M K h := by
  have h0 := o.1
  refine for_us (fun n i (g : Hp) => wp_X9_laysPool_4 K M n (nI (cnt (inP V) i)) (nI i) g) (fun i g => (∀ q, q ≠ M + 4 → g q = h q) ∧ PL g M ∧ (∀ j, j < cnt (inP V) i → gI g (M + 4) 0 (nI j) = some (enc (sel (inP V) j 0 (V 0))))) (V 0) 0 h (Nat.zero_le _) ⟨fun _ _ => rfl, P, fun j hj => by unfold cnt at hj; omega⟩ (fun n g I => ?_) (fun n i g _ hi I ih => ?_)
  · have R2 := R.fr (fun q hq => I.1 q (by omega))
    exact ⟨_, R2.2.1, _, R2.at 0 rfl (by omega), ll_le (by omega) (by omega) (fun _ => hk g I.1 I.2.1 I.2.2) (fun q => by omega)⟩
  · obtain ⟨fr, P2, G⟩ := I
    have R2 := R.fr (fun q hq => fr q (by omega))
    have hc := cnt_le (inP V) i
    refine ⟨_, R2.2.1, _, R2.at 0 rfl (by omega), ll_le (by omega) (by omega) (fun q => by omega) (fun _ => ⟨R2.1, e_isInPool R2 o d ee hi (br_b (fun q y ey => ?_) (fun q => ?_))⟩)⟩
    · subst ey
      rw [nI_add]
      have e := cnt_f q
      rw [← e]
      exact ih g ⟨fr, P2, fun j hj => G j (by omega)⟩
    · have e := cnt_t q
      obtain ⟨v, hv⟩ := P2.2 (cnt (inP V) i) (by omega)
      obtain ⟨h', e1, oo, g', -⟩ := sI_w (by omega) hv (nI i)
      refine ⟨_, P2.1, h', e1, fun y ey z ez => ?_⟩
      subst ey; subst ez
      rw [nI_add, nI_add, ← e]
      refine ih h' ⟨fun q hq => (oo q hq).trans (fr q hq), ⟨?_, fun j hj => ?_⟩, fun j hj => ?_⟩
      · rw [gF_c (oo _ (by omega))]; exact P2.1
      · rw [g' j (by omega)]
        by_cases z : j = cnt (inP V) i
        · rw [if_pos z]; exact ⟨_, rfl⟩
        · rw [if_neg z]; exact P2.2 j hj
      · rw [g' j (by omega)]
        by_cases z : j = cnt (inP V) i
        · rw [if_pos z, z, sel_at q (Nat.zero_le _) (by omega)]; rfl
        · rw [if_neg z]; exact G j (by omega)
theorem e_changedLoop {K : Int32 → Hp → Prop} (R : RM h M V) (o : okC V) (ee : okE V) {v j w : Nat} (hv : v < V 1) (hj : j < 2 ^ 31) (hw : w < 2) (hm : ∀ u, u < V 1 → V (209 + 41 * u) ≤ V 0) (hk : K (match sel (fun i => decide (chg V v i ≠ 0)) j 0 (V 0) with | some i => (if w = 0 then nI i else nI (chg V v i)) | none => -9) h) : ∃ n, wp_X9_changed_30 K M (nI v) (nI j) (nI w) n (nI 0) (nI 0) h := by
  have h0 := o.1
  have h1 := o.2.1
  by_cases z : v = 0
  · refine ⟨1, b_le (by omega) (by omega) (fun _ => ?_) (fun q => by omega)⟩
    rw [sel_none (fun k _ _ => by unfold chg; rw [if_pos z]; rfl)] at hk
    exact hk
  · have hmv := hm (v - 1) (by omega)
    have e1 := ee (v - 1) (by omega)
    have e2 := ee v (by omega)
    have es : sel (fun i => decide (chg V v i ≠ 0)) j 0 (V 0) = sel (fun i => decide (chg V v i ≠ 0)) j 0 (V (209 + 41 * (v - 1))) := by
      have := sel_stop (p := fun i => decide (chg V v i ≠ 0)) (j := j) (g := V 0 - V (209 + 41 * (v - 1))) (f := V (209 + 41 * (v - 1))) (i := 0) (fun k h1 h2 => by unfold chg; rw [if_neg z, if_neg (by omega)]; rfl)
      rw [show V (209 + 41 * (v - 1)) + (V 0 - V (209 + 41 * (v - 1))) = V 0 by omega] at this
      exact this
    rw [es] at hk
    have key : ∀ f i, i + f = V (209 + 41 * (v - 1)) → K (match sel (fun i => decide (chg V v i ≠ 0)) j i f with | some i => (if w = 0 then nI i else nI (chg V v i)) | none => -9) h → ∃ n, wp_X9_changed_30 K M (nI v) (nI j) (nI w) n (nI (cnt (fun i => decide (chg V v i ≠ 0)) i)) (nI i) h := by
      intro f
      induction f with
      | zero =>
        intro i hif hk
        refine ⟨1, b_le (by omega) (by omega) (fun q => by omega) (fun _ => ⟨_, R.2.1, ?_⟩)⟩
        rw [pk_sub (by omega)]
        refine e_v ⟨_, R.at (209 + 41 * (v - 1) + 0) rfl (by omega), ll_le (by have := e1.1; rw [Nat.add_zero]; omega) (by omega) (fun _ => hk) (fun q => by rw [Nat.add_zero] at q; omega)⟩
      | succ f ih =>
        intro i hif hk
        have hc := cnt_le (fun i => decide (chg V v i ≠ 0)) i
        have ed : chg V v i = df (V (209 + 41 * (v - 1) + (1 + i))) (V (209 + 41 * v + (1 + i))) := by
          unfold chg
          rw [if_neg z, if_pos (by omega), Nat.add_assoc, Nat.add_assoc (209 + 41 * v)]
        have dl := chg_lt V v i
        have a1 := e1.2 i (by omega)
        have a2 := e2.2 i (by omega)
        rw [Nat.add_assoc] at a1 a2
        unfold sel at hk
        have lay : ∀ n, (chg V v i = 0 → wp_X9_changed_109 K (fun z0 z1 h => wp_X9_changed_30 K M (nI v) (nI j) (nI w) n z0 z1 h) M (nI v) (nI j) (nI w) (nI (cnt (fun i => decide (chg V v i ≠ 0)) i)) (nI i) (nI (chg V v i)) h) → (chg V v i ≠ 0 → (((¬ nI (cnt (fun i => decide (chg V v i ≠ 0)) i) = nI j → (wp_X9_changed_109 K (fun z0 z1 h => wp_X9_changed_30 K M (nI v) (nI j) (nI w) n z0 z1 h) M (nI v) (nI j) (nI w) (nI (cnt (fun i => decide (chg V v i ≠ 0)) i)) (nI i) (nI (chg V v i)) h)) ∧ (nI (cnt (fun i => decide (chg V v i ≠ 0)) i) = nI j → (((¬ nI w = nI 0 → (K (nI (chg V v i)) h)) ∧ (nI w = nI 0 → (K (nI i) h)))))))) → wp_X9_changed_30 K M (nI v) (nI j) (nI w) (n + 1) (nI (cnt (fun i => decide (chg V v i ≠ 0)) i)) (nI i) h := by
          intro n A B
          refine b_le (by omega) (by omega) (fun q => by omega) (fun _ => ⟨_, R.2.1, ?_⟩)
          rw [pk_sub (by omega)]
          refine e_v ⟨_, R.at (209 + 41 * (v - 1) + 0) rfl (by omega), ll_le (by have := e1.1; rw [Nat.add_zero]; omega) (by omega) (fun q => by rw [Nat.add_zero] at q; omega) (fun _ => ⟨_, R.2.1, ?_⟩)⟩
          rw [nI_add]
          refine e_v ⟨_, R.at (209 + 41 * (v - 1) + (1 + i)) rfl (by omega), _, R.2.1, e_v ⟨_, R.at (209 + 41 * v + (1 + i)) rfl (by omega), e_differences a1 a2 ?_⟩⟩
          rw [← ed]
          exact b_eq (b := 0) (by omega) (by omega) A B
        by_cases y : decide (chg V v i ≠ 0) = true ∧ cnt (fun i => decide (chg V v i ≠ 0)) i = j
        · rw [if_pos y] at hk
          dsimp only at hk
          refine ⟨1, lay 0 (fun q => absurd q (of_decide_eq_true y.1)) (fun _ => b_ne (by omega) (by omega) (fun q => absurd y.2 q) (fun _ => b_ne (b := 0) (by omega) (by omega) (fun q => ?_) (fun q => ?_)))⟩
          · rw [if_neg q] at hk; exact hk
          · rw [if_pos q] at hk; exact hk
        · rw [if_neg y] at hk
          obtain ⟨n, hn⟩ := ih (i + 1) (by omega) hk
          refine ⟨n + 1, lay n (fun q => ?_) (fun q => b_ne (by omega) (by omega) (fun u => ?_) (fun u => absurd ⟨decide_eq_true q, u⟩ y))⟩
          · refine b_eq (b := 0) (by omega) (by omega) (fun _ x ex t et => ?_) (fun u => absurd q u)
            subst ex; subst et
            rw [cnt_f (by simp [q])] at hn
            rw [nI_add, nI_add, Nat.add_zero]
            exact hn
          · refine b_eq (b := 0) (by omega) (by omega) (fun u => absurd u q) (fun _ x ex t et => ?_)
            subst ex; subst et
            rw [cnt_t (decide_eq_true q)] at hn
            rw [nI_add, nI_add]
            exact hn
    exact key _ 0 (by omega) hk
theorem e_tl {K : Int32 → Hp → Prop} (R : RM h M V) (o : okC V) (d : okD V) (ee : okE V) {c t : Nat} (hc : c < 4) (ht : t < 2 ^ 31) (hk : K (nI (tl V c t)) h) : wp_X9_tallied M (nI c) (nI t) (-1) (-1) K h :=
  e_tallied (v := none) (m := none) R o d ee hc ht (fun _ e => by cases e) (fun _ e => by cases e) hk
theorem e_leaderLoop {K : Int32 → Hp → Prop} (R : RM h M V) (o : okC V) (d : okD V) (ee : okE V) {c w : Nat} (hc : c < 4) (hw : w < 4) (hk : K (if w = 0 then nI (ldc V c) else if w = 1 then nI (tl V c (ldc V c)) - nI (scd V c (ldc V c) 3) else if w = 2 then nI (tl V c 5) else if nI (tl V c (ldc V c)) - nI (scd V c (ldc V c) 3) ≤ nI (tl V c 5) then nI 0 else nI 1) h) : ∃ n, wp_X9_leader_31 K M (nI c) (nI w) n (nI 0) (nI 1) h := by
  have h40 := o.1
  have step : ∀ (n b k : Nat), b < 3 → k < 3 → wp_X9_leader_31 K M (nI c) (nI w) n (nI (if tl V c k ≤ tl V c b then b else k)) (nI (k + 1)) h → wp_X9_leader_31 K M (nI c) (nI w) (n + 1) (nI b) (nI k) h := by
    intro n b k hb hk3 hn
    have u1 := tl_le V c k
    have u2 := tl_le V c b
    refine b_le (by omega) (by omega) (fun q => by omega) (fun _ => ⟨R.1, e_tl R o d ee hc (by omega) ⟨R.1, e_tl R o d ee hc (by omega) (b_le (by omega) (by omega) (fun q y ey => ?_) (fun q y ey => ?_))⟩⟩)
    · subst ey
      rw [if_pos q] at hn
      rw [nI_add]
      exact hn
    · subst ey
      rw [if_neg (by omega)] at hn
      rw [nI_add]
      exact hn
  have hb := ldc_lt V c
  generalize hbe : ldc V c = b at hk hb
  refine ⟨3, step 2 0 1 (by omega) (by omega) (step 1 (ld2 V c) 2 (by have := ld2_lt V c; omega) (by omega) (b_le (by omega) (by omega) (fun _ => ?_) (fun q => by omega)))⟩
  show ∃ n, wp_X9_leader_76 K M (nI c) (nI w) (nI (ldc V c)) n (nI 0) (nI 0) h
  rw [hbe]
  refine for_up (fun n k => wp_X9_leader_76 K M (nI c) (nI w) (nI b) n (nI (scd V c b k)) (nI k) h) 3 0 (by omega) (fun n => ?_) (fun n k _ hk3 ih => ?_)
  · refine b_le (by omega) (by omega) (fun _ => ⟨R.1, e_tl R o d ee hc (by omega) (fun y ey => ⟨R.1, e_tl (t := 5) R o d ee hc (by omega) ?_⟩)⟩) (fun q => by omega)
    subst ey
    refine b_ne (b := 0) (by omega) (by omega) (fun q => b_ne (by omega) (by omega) (fun q1 => b_ne (by omega) (by omega) (fun q2 => ⟨fun q3 => ?_, fun q3 => ?_⟩) (fun q2 => ?_)) (fun q1 => ?_)) (fun q => ?_)
    · rw [if_neg q, if_neg q1, if_neg q2, if_pos q3] at hk; exact hk
    · rw [if_neg q, if_neg q1, if_neg q2, if_neg q3] at hk; exact hk
    · rw [if_neg q, if_neg q1, if_pos q2] at hk; exact hk
    · rw [if_neg q, if_pos q1] at hk; exact hk
    · rw [if_pos q] at hk; exact hk
  · have u1 := tl_le V c k
    have u2 := scd_le V c b k
    refine b_le (by omega) (by omega) (fun q => by omega) (fun _ => b_ne (by omega) (by omega) (fun q => ⟨R.1, e_tl R o d ee hc (by omega) (b_le (by omega) (by omega) (fun z y ey => ?_) (fun z y ey => ?_))⟩) (fun q => b_le (a := 0) (by omega) (by omega) (fun z y ey => ?_) (fun z => by omega)))
    · subst ey
      unfold scd at ih
      rw [if_neg q, if_neg (by omega)] at ih
      rw [nI_add]
      exact ih
    · subst ey
      unfold scd at ih
      rw [if_neg q, if_pos z] at ih
      rw [nI_add]
      exact ih
    · subst ey
      unfold scd at ih
      rw [if_pos q] at ih
      rw [nI_add]
      exact ih
theorem e_byLengthLoop {K : Int32 → Hp → Prop} (R : RM h M V) (o : okC V) (d : okD V) {L : Nat} (hL2 : L < 2 ^ 31) (hk : K (nI (cnt (fun i => decide (pkd V L i ≠ pkd V (V 2) i)) (V 0))) h) : ∃ n, wp_X9_byLength_20 K M (nI L) n (nI 0) (nI 0) h := by
  have h0 := o.1
  have h2 := o.2.2.1
  refine for_up (fun n i => wp_X9_byLength_20 K M (nI L) n (nI (cnt (fun i => decide (pkd V L i ≠ pkd V (V 2) i)) i)) (nI i) h) (V 0) 0 (Nat.zero_le _) (fun n => ?_) (fun n i _ hi ih => ?_)
  · exact ⟨_, R.2.1, _, R.at 0 rfl (by omega), ll_le (by omega) (by omega) (fun _ => hk) (fun q => by omega)⟩
  · have p1 := pkd_lt V L i
    have p2 := pkd_lt V (V 2) i
    refine ⟨_, R.2.1, _, R.at 0 rfl (by omega), ll_le (by omega) (by omega) (fun q => by omega) (fun _ => ⟨R.1, e_outcomes R o d hi hL2 ⟨R.1, e_length R ⟨R.1, e_outcomes R o d hi (by omega) (l_eq (by omega) (by omega) (fun q y ey x ex => ?_) (fun q y ey x ex => ?_))⟩⟩⟩)⟩
    · subst ey; subst ex
      rw [cnt_f (by simp [q])] at ih
      rw [nI_add, nI_add, Nat.add_zero]
      exact ih
    · subst ey; subst ex
      rw [cnt_t (decide_eq_true q)] at ih
      rw [nI_add, nI_add]
      exact ih
end M6
