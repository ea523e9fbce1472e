/-! the class: Books' reads, the whole of Sight's work -/
theorem br_01 {p : Prop} [Decidable p] {A B : Prop} (hA : ¬ p → A) (hB : p → B) : (bI p = nI 0 → A) ∧ (¬ bI p = nI 0 → B) := br_b hA hB
section B1
variable {h : Hp} {b : Nat} {T : Nat → Nat}
theorem c_hasVersion {K : Int32 → Hp → Prop} (B : BK h b T) (o : T 1 ≤ 6) {x : Int32} (hk : K (bI (0 ≤ x.toInt ∧ x.toInt < (T 1 : Int))) h) : wp_X0_hasVersion b x K h := by
  have hT : (nI (T 1)).toInt = (T 1 : Int) := nI_toInt (by omega)
  have hz : (nI 0).toInt = 0 := by decide
  refine ⟨fun q => ?_, fun q => ⟨_, B.vers, fun z => ?_, fun z => ?_⟩⟩
  · rw [lt32, hz] at q
    rw [bI_f (by omega)] at hk
    exact hk
  · rw [le32, hT] at z
    rw [bI_f (by omega)] at hk
    exact hk
  · rw [le32, hT] at z
    rw [lt32, hz] at q
    rw [bI_t (by omega)] at hk
    exact hk
theorem c_hasCard {K : Int32 → Hp → Prop} (B : BK h b T) (o : T 0 ≤ 40) {x : Int32} (hk : K (bI (0 ≤ x.toInt ∧ x.toInt < (T 0 : Int))) h) : wp_X0_hasCard b x K h := by
  have hT : (nI (T 0)).toInt = (T 0 : Int) := nI_toInt (by omega)
  have hz : (nI 0).toInt = 0 := by decide
  refine ⟨fun q => ?_, fun q => ⟨_, B.cards, fun z => ?_, fun z => ?_⟩⟩
  · rw [lt32, hz] at q
    rw [bI_f (by omega)] at hk
    exact hk
  · rw [le32, hT] at z
    rw [bI_f (by omega)] at hk
    exact hk
  · rw [le32, hT] at z
    rw [lt32, hz] at q
    rw [bI_t (by omega)] at hk
    exact hk
theorem c_hasV {K : Int32 → Hp → Prop} (B : BK h b T) (o : T 1 ≤ 6) {v : Nat} (hv : v < 2 ^ 31) (hk : K (bI (v < T 1)) h) : wp_X0_hasVersion b (nI v) K h := by
  refine c_hasVersion B o ?_
  rw [bI_c (q := v < T 1) (by rw [nI_toInt hv]; omega)]
  exact hk
theorem c_hasC {K : Int32 → Hp → Prop} (B : BK h b T) (o : T 0 ≤ 40) {v : Nat} (hv : v < 2 ^ 31) (hk : K (bI (v < T 0)) h) : wp_X0_hasCard b (nI v) K h := by
  refine c_hasCard B o ?_
  rw [bI_c (q := v < T 0) (by rw [nI_toInt hv]; omega)]
  exact hk
theorem c_hasN {K : Int32 → Hp → Prop} (B : BK h b T) (o : T 1 ≤ 6) (hk : K (nI 0) h) : wp_X0_hasVersion b (-1) K h := by
  refine c_hasVersion B o ?_
  rw [bI_f (by rw [m1T]; omega)]
  exact hk
theorem c_outcomesInB {K : Int32 → Hp → Prop} (B : BK h b T) (o : okC T) {v i : Nat} (hv : v < T 1) (hi : i < T 0) (hk : K (nI (T (209 + 41 * v + 1 + i))) h) : wp_X0_outcomesIn b (nI v) (nI i) K h := by
  have h0 := o.1
  have h1 := o.2.1
  refine ⟨B.o, c_hasV B h1 (by omega) (br_b (fun q => absurd hv q) (fun _ => ⟨B.o, c_hasC B h0 (by omega) (br_b (fun q => absurd hi q) (fun _ => ⟨_, B.fo, _, ?_, hk⟩))⟩))⟩
  rw [nI_mul, nI_add]
  exact B.vo (by omega) (by omega)
/-- how many cards a version has -/
def vcs (T : Nat → Nat) (v : Option Nat) : Nat := match v with
  | none => T 0
  | some v => T (209 + 41 * v)
theorem c_cardsIn {K : Int32 → Hp → Prop} (B : BK h b T) (o : okC T) {v : Option Nat} (hv : ∀ w, v = some w → w < T 1) (hk : K (nI (vcs T v)) h) : wp_X0_cardsIn b (vI v) K h := by
  have h1 := o.2.1
  cases v with
  | none => exact ⟨B.o, c_hasN B h1 ⟨fun _ => ⟨_, B.cards, hk⟩, fun q => absurd rfl q⟩⟩
  | some v =>
    have hv := hv v rfl
    exact ⟨B.o, c_hasV B h1 (by omega) (br_b (fun q => absurd hv q) (fun _ => ⟨_, B.fv, _, B.v (by omega), hk⟩))⟩
end B1
section S4
variable {h0 h : Hp} {s : Nat} {T : Nat → Nat} {F : Nat → Nat → Int32}
def vl (T : Nat → Nat) : Nat := T 1 - 1
def kn (T : Nat → Nat) : Nat := if T 1 = 0 then 0 else T (209 + 41 * vl T)
theorem chs_iff {T : Nat → Nat} (ee : okE T) (o : okC T) {i : Nat} (hi : i < T 0) : chs T i ≠ 0 ↔ i < kn T ∧ pkd T (T 2) i ≠ T (209 + 41 * vl T + 1 + i) := by
  have h0 := o.1
  have h1 := o.2.1
  unfold chs kn vl
  by_cases z : T 1 = 0
  · rw [if_pos z, if_pos z]; simp
  · rw [if_neg z, if_neg z]
    by_cases y : i < T (209 + 41 * (T 1 - 1))
    · rw [if_pos y]
      have := df_0 (pkd_lt T (T 2) i) ((ee (T 1 - 1) (by omega)).2 i (by omega))
      exact ⟨fun q => ⟨y, fun e => q (this.mpr e)⟩, fun q e => q.2 (this.mp e)⟩
    · rw [if_neg y]
      exact ⟨fun q => absurd rfl q, fun q => absurd q.1 y⟩
theorem c_compareLoop {K : Hp → Prop} (S : SO h0 s T) (w : SR h0 h s F) (o : okC T) (ee : okE T) (jd : ∀ i, i < T 0 → F 10 i = nI (pkd T (T 2) i)) {x : Int32} (hx : T 1 ≠ 0 → x = nI (vl T)) (hk : ∀ h' F', SR h0 h' s F' → (∀ i, i < T 0 → F' 12 i = bI (chs T i ≠ 0)) → (∀ k j, k ≠ 12 → F' k j = F k j) → K h') : ∃ n, wp_X4_compareWithLast_37 K s x (nI (kn T)) n (nI 0) h := by
  have h40 := o.1
  have h1 := o.2.1
  have hkn : kn T ≤ 40 := by
    unfold kn vl
    split
    · omega
    · exact (ee (T 1 - 1) (by omega)).1
  refine for_us (fun n i (q : Hp × (Nat → Nat → Int32)) => wp_X4_compareWithLast_37 K s x (nI (kn T)) n (nI i) q.1) (fun i q => SR h0 q.1 s q.2 ∧ (∀ j, j < i → q.2 12 j = bI (chs T j ≠ 0)) ∧ (∀ k j, k ≠ 12 → q.2 k j = F k j)) (T 0) 0 (h, F) (by omega) ⟨w, fun p hp => by omega, fun _ _ _ => rfl⟩ (fun n q I => ?_) (fun n i q _ hi I ih => ?_)
  · exact ⟨_, S.b I.1, _, (S.B I.1).cards, b_le (by omega) (by omega) (fun _ => hk _ _ I.1 I.2.1 I.2.2) (fun z => by omega)⟩
  · obtain ⟨W, G, fr⟩ := I
    have hc := chs_iff ee o hi
    have c10 := W.g (k := 10) (i := i) (by omega) (by omega) (by show _ < 40; omega)
    rw [fr _ _ (by omega), jd i hi] at c10
    have go : ∀ v : Int32, v = bI (chs T i ≠ 0) → ∃ h86, sZ q.1 (s + 11 + 12) (nI i) v = some h86 ∧ (∀ y87 : Int32, y87 = nI i + (nI 1) → (wp_X4_compareWithLast_37 K s x (nI (kn T)) n y87 h86)) := by
      intro v ev
      subst ev
      obtain ⟨h2, e2, w2⟩ := W.putz (i := i) (by omega) (bI_01 (chs T i ≠ 0))
      refine ⟨h2, e2, fun y ey => ?_⟩
      subst ey
      rw [nI_add]
      refine ih (h2, _) ⟨w2, fun j hj => ?_, fun k j hkj => ?_⟩
      · by_cases z : j = i
        · subst z; exact up2_s _ _ _ _
        · exact (up2_i z).trans (G j (by omega))
      · exact (up2_k hkj).trans (fr k j hkj)
    refine ⟨_, S.b W, _, (S.B W).cards, b_le (by omega) (by omega) (fun z => by omega) (fun _ => ⟨_, S.f W (k := 12) (by omega), b_le (by omega) (by omega) (fun z => go _ ?_) (fun z => ?_)⟩)⟩
    · rw [bI_f (fun y => by have := (hc.mp y).1; omega)]
    · have hT1 : T 1 ≠ 0 := fun y => by unfold kn at z; rw [if_pos y] at z; omega
      have hv := ee (vl T) (by unfold vl; omega)
      have hp := pkd_lt T (T 2) i
      have hv2 := hv.2 i (by omega)
      refine ⟨_, S.f W (k := 10) (by omega), _, c10, _, S.b W, _, (S.B W).fo, nI (T (209 + 41 * vl T + 1 + i)), ?_, b_eq (by omega) (by omega) (fun y => go _ ?_) (fun y => go _ ?_)⟩
      · rw [hx hT1, nI_mul, nI_add]
        exact (S.B W).vo (by unfold vl; omega) (by omega)
      · rw [bI_f (fun q => (hc.mp q).2 y)]
      · rw [bI_t (hc.mpr ⟨z, y⟩)]
theorem c_compareWithLast {K : Hp → Prop} (S : SO h0 s T) (w : SR h0 h s F) (o : okC T) (ee : okE T) (jd : ∀ i, i < T 0 → F 10 i = nI (pkd T (T 2) i)) (hk : ∀ h' F', SR h0 h' s F' → (∀ i, i < T 0 → F' 12 i = bI (chs T i ≠ 0)) → (∀ k j, k ≠ 12 → F' k j = F k j) → K h') : wp_X4_compareWithLast s K h := by
  have h1 := o.2.1
  refine ⟨_, S.b w, _, (S.B w).vers, fun y ey => ?_⟩
  by_cases z : T 1 = 0
  · have : y = (-1 : Int32) := by rw [ey, z]; decide
    subst this
    refine ⟨_, S.b w, (S.B w).o, c_hasN (S.B w) h1 ⟨fun _ => ?_, fun q => absurd rfl q⟩⟩
    have := c_compareLoop S w o ee jd (x := (-1 : Int32)) (fun q => absurd z q) hk
    rw [show kn T = 0 from if_pos z] at this
    exact this
  · rw [pk_sub (by omega)] at ey
    subst ey
    refine ⟨_, S.b w, (S.B w).o, c_hasV (S.B w) h1 (by omega) (br_b (fun q => absurd (by omega) q) (fun _ => ⟨_, S.b w, _, (S.B w).fv, _, (S.B w).v (by omega), ?_⟩))⟩
    have := c_compareLoop S w o ee jd (x := nI (T 1 - 1)) (fun q => rfl) hk
    rw [show kn T = T (209 + 41 * (T 1 - 1)) from if_neg z] at this
    exact this
/-- what Sight holds once it is worked out -/
def WK (T : Nat → Nat) (F : Nat → Nat → Int32) : Prop := DG T F (T 0) ∧ (∀ p, p < 12 → ∀ j, j < T 0 → RN T p F j) ∧ (∀ i, i < T 0 → JD T (T 2) F i) ∧ ∀ i, i < T 0 → F 12 i = bI (chs T i ≠ 0)
theorem c_workOut {K : Hp → Prop} (S : SO h0 s T) (w : SR h0 h s F) (o : okC T) (d : okD T) (ee : okE T) (hk : ∀ h' F', SR h0 h' s F' → WK T F' → K h') : wp_X4_workOut s K h := by
  have h40 := o.1
  have h2 := o.2.2.1
  refine for_us (fun n i (q : Hp × (Nat → Nat → Int32)) => wp_X4_workOut_2 K s n (nI i) q.1) (fun i q => SR h0 q.1 s q.2 ∧ DG T q.2 i) (T 0) 0 (h, F) (by omega) ⟨w, fun p hp => by omega⟩ (fun n q I => ?_) (fun n i q _ hi I ih => ?_)
  · obtain ⟨W, G⟩ := I
    refine ⟨_, S.b W, _, (S.B W).cards, b_le (by omega) (by omega) (fun _ => ?_) (fun z => by omega)⟩
    refine for_us (fun n p (r : Hp × (Nat → Nat → Int32)) => wp_X4_workOut_37 K s n (nI p) r.1) (fun p r => SR h0 r.1 s r.2 ∧ DG T r.2 (T 0) ∧ ∀ p', p' < p → ∀ j, j < T 0 → RN T p' r.2 j) 12 0 q (by omega) ⟨W, G, fun p hp => by omega⟩ (fun n r I => ?_) (fun n p r _ hp I ih => ?_)
    · obtain ⟨W, G, R⟩ := I
      have n0 : gI r.1 (s + 1 + 7) 0 (nI 0) = some (nI (T 2)) := (S.B W).n (i := 0) (by omega)
      refine b_le (by omega) (by omega) (fun _ => ⟨_, S.b W, _, (S.B W).fn, _, n0, S.o W, c_judgeWith S W o d G R (by omega) (by omega) (fun h' F' w' jd fr => ⟨S.o w', c_compareWithLast S w' o ee (fun i hi => (jd i hi).2.1) (fun h2 F2 w2 c2 fr2 => hk h2 F2 w2 ⟨?_, ?_, ?_, c2⟩)⟩)⟩) (fun z => by omega)
      · exact G.cong (fun k j hk => by rw [fr2 k j (by omega), fr k j (by omega)])
      · exact fun p hp j hj => by
          obtain ⟨a1, a2, a3, a4⟩ := R p hp j hj
          exact ⟨by rw [fr2 _ _ (by omega), fr _ _ (by omega)]; exact a1, by rw [fr2 _ _ (by omega), fr _ _ (by omega)]; exact a2, by rw [fr2 _ _ (by omega), fr _ _ (by omega)]; exact a3, by rw [fr2 _ _ (by omega), fr _ _ (by omega)]; exact a4⟩
      · exact fun i hi => ⟨fun p hp => ((jd i hi).1 p hp).cong (fun k hk => fr2 _ _ (by omega)), (fr2 _ _ (by omega)).trans (jd i hi).2.1, (fr2 _ _ (by omega)).trans (jd i hi).2.2⟩
    · obtain ⟨W, G, R⟩ := I
      refine b_le (by omega) (by omega) (fun z => by omega) (fun _ => ⟨S.o W, c_growRuns S W o d G hp (fun h1 F1 w1 gr fr1 => ?_)⟩)
      have g1 : DG T F1 (T 0) := G.cong (fun k j hk => fr1 k j (by omega))
      refine ⟨S.o w1, c_closeRuns S w1 o d g1 hp gr (fun h2 F2 w2 rn fr2 y ey => ?_)⟩
      subst ey
      rw [nI_add]
      refine ih (h2, F2) ⟨w2, g1.cong (fun k j hk => fr2 k j (by omega)), fun p' hp' j hj => ?_⟩
      by_cases z : p' = p
      · subst z; exact rn j hj
      · exact (R p' (by omega) j hj).cong (fun k => by dsimp only; rw [fr2 _ _ (by omega), fr1 _ _ (by omega)])
  · obtain ⟨W, G⟩ := I
    refine ⟨_, S.b W, _, (S.B W).cards, b_le (by omega) (by omega) (fun z => by omega) (fun _ => ⟨_, S.f W (k := 0) (by omega), S.o W, c_previousOf S W o d hi ?_⟩)⟩
    obtain ⟨h1, e1, w1⟩ := W.put (k := 0) (i := i) (by omega) (by omega) (by show _ < 40; omega) (vI (plD T i))
    refine ⟨h1, e1, S.o w1, c_readDigits S w1 o d hi (fun h2 F2 w2 dg fr1 fr2 y ey => ?_)⟩
    subst ey
    rw [nI_add]
    refine ih (h2, F2) ⟨w2, fun j hj => ?_⟩
    by_cases z : j = i
    · subst z
      exact ⟨by dsimp only; rw [fr1 _ _ (by omega), up2_s], dg⟩
    · have g := G j (by omega)
      refine ⟨?_, fun p hp => ⟨?_, ?_⟩⟩
      · dsimp only; rw [fr1 _ _ (by omega), up2_i z]; exact g.1
      · dsimp only; rw [fr2 _ _ (by omega), up2_o (by omega)]; exact (g.2 p hp).1
      · dsimp only; rw [fr2 _ _ (by omega), up2_o (by omega)]; exact (g.2 p hp).2
end S4
