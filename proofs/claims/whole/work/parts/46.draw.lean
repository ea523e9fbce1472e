/-! draw on both sides -/
def pq (V W : Nat → Nat) (i : Nat) : Bool := decide (W (9 + 5 * i + 3) = 0 ∧ (dbs V i ≠ 0 ∨ chs V i ≠ 0))
theorem pq_in (V : Nat → Nat) : pq V V = inP V := rfl
def dcard (V W : Nat → Nat) (x c : Nat) : Nat := (sel (pq V W) (lot x % c) 0 (V 0)).getD 0
def drT (V : Nat → Nat) (n seed : Nat) : Nat → Nat × (Nat → Nat)
  | 0 => (seed, V)
  | t + 1 => (lot (drT V n seed t).1, u1 (drT V n seed t).2 (9 + 5 * dcard V (drT V n seed t).2 (drT V n seed t).1 (n - t) + 3) 1)
theorem cnt_del {P P' : Nat → Bool} {a : Nat} (ha : P a = true) (h : ∀ i, P' i = true ↔ (P i = true ∧ i ≠ a)) : ∀ k, cnt P' k = if k ≤ a then cnt P k else cnt P k - 1
  | 0 => by rw [if_pos (Nat.zero_le _)]; rfl
  | k + 1 => by
    have ih := cnt_del ha h k
    by_cases z : k = a
    · subst z
      rw [if_pos (Nat.le_refl _)] at ih
      rw [if_neg (by omega), cnt_t ha, cnt_f (fun q => ((h k).mp q).2 rfl), ih]
      omega
    · by_cases y : P k = true
      · rw [cnt_t y, cnt_t ((h k).mpr ⟨y, z⟩), ih]
        by_cases u : k ≤ a
        · rw [if_pos u, if_pos (by omega)]
        · have := cnt_lt ha (show a < k by omega)
          rw [if_neg u, if_neg (by omega)]
          omega
      · rw [cnt_f y, cnt_f (fun q => y ((h k).mp q).1), ih]
        by_cases u : k ≤ a
        · rw [if_pos u, if_pos (by omega)]
        · rw [if_neg u, if_neg (by omega)]
theorem sel_del {P P' : Nat → Bool} {a n j : Nat} (ha : P a = true) (han : a < n) (h : ∀ i, P' i = true ↔ (P i = true ∧ i ≠ a)) (hj : j + 1 < cnt P n) : sel P' j 0 n = sel P (if cnt P a ≤ j then j + 1 else j) 0 n := by
  by_cases z : cnt P a ≤ j
  · rw [if_pos z]
    obtain ⟨k, h1, h2, h3⟩ := sel_in hj
    have hka : a < k := Nat.lt_of_not_le fun u => by have := cnt_mono (p := P) u; omega
    have e1 := sel_at h2 (Nat.zero_le k) (show k < 0 + n by omega)
    have e2 := sel_at ((h k).mpr ⟨h2, by omega⟩) (Nat.zero_le k) (show k < 0 + n by omega)
    rw [cnt_del ha h, if_neg (by omega), h3] at e2
    rw [h3] at e1
    rw [e1]
    exact e2
  · rw [if_neg z]
    obtain ⟨k, h1, h2, h3⟩ := sel_in (show j < cnt P n by omega)
    have hka : k < a := Nat.lt_of_not_le fun u => by have := cnt_mono (p := P) u; omega
    have e1 := sel_at h2 (Nat.zero_le k) (show k < 0 + n by omega)
    have e2 := sel_at ((h k).mpr ⟨h2, by omega⟩) (Nat.zero_le k) (show k < 0 + n by omega)
    rw [cnt_del ha h, if_pos (by omega), h3] at e2
    rw [h3] at e1
    rw [e1]
    exact e2
/-- what holds after some draws -/
def DI (N : Nat) (V W : Nat → Nat) (x c : Nat) : Prop := (∀ j, (∀ i, i < 40 → j ≠ 9 + 5 * i + 3) → W j = V j) ∧ OK N W ∧ cnt (pq V W) (V 0) = c ∧ x < 65537
theorem DI.card {N : Nat} {V W : Nat → Nat} {x c : Nat} (D : DI N V W x c) (hc : 0 < c) : ∃ a, sel (pq V W) (lot x % c) 0 (V 0) = some a ∧ dcard V W x c = a ∧ a < V 0 ∧ pq V W a = true ∧ cnt (pq V W) a = lot x % c := by
  have hm : lot x % c < cnt (pq V W) (V 0) := by rw [D.2.2.1]; exact Nat.mod_lt _ hc
  obtain ⟨a, h1, h2, h3⟩ := sel_in hm
  have e := sel_at h2 (Nat.zero_le a) (show a < 0 + V 0 by omega)
  rw [h3] at e
  exact ⟨a, e, by unfold dcard; rw [e]; rfl, h1, h2, h3⟩
theorem pq_del {V W : Nat → Nat} (a i : Nat) : pq V (u1 W (9 + 5 * a + 3) 1) i = true ↔ (pq V W i = true ∧ i ≠ a) := by
  unfold pq
  by_cases z : i = a
  · subst z
    rw [u1_s]
    constructor
    · intro q; have := (of_decide_eq_true q).1; omega
    · intro q; exact absurd rfl q.2
  · rw [u1_n (by omega)]
    exact ⟨fun q => ⟨q, z⟩, fun q => q.1⟩
theorem DI.next {N : Nat} {V W : Nat → Nat} {x c : Nat} (D : DI N V W x (c + 1)) (h40 : V 0 ≤ 40) : DI N V (u1 W (9 + 5 * dcard V W x (c + 1) + 3) 1) (lot x) c := by
  obtain ⟨a, -, e, h1, h2, h3⟩ := D.card (Nat.succ_pos c)
  rw [e]
  obtain ⟨d1, ⟨⟨a0, a1, a2, a3, a4, a5⟩, b, cl, ee, f⟩, d3, d4⟩ := D
  refine ⟨fun j hj => ?_, ⟨⟨?_, ?_, ?_, ?_, ?_, ?_⟩, fun i hi => ?_, fun j hj => ?_, fun v hv => ⟨?_, fun i hi => ?_⟩, fun u hu => ?_⟩, ?_, lot_lt x⟩
  · rw [u1_n (hj a (by omega))]; exact d1 j hj
  · rw [u1_n (by omega)]; exact a0
  · rw [u1_n (by omega)]; exact a1
  · rw [u1_n (by omega)]; exact a2
  · rw [u1_n (by omega)]; exact a3
  · rw [u1_n (by omega)]; exact a4
  · rw [u1_n (by omega)]; exact a5
  · rw [u1_n (by omega), u1_n (by omega), u1_n (by omega), u1_n (i := 9 + 5 * a + 3) (j := 9 + 5 * i + 4) (by omega)]
    obtain ⟨b1, b2, b3, b4, b5⟩ := b i hi
    refine ⟨b1, b2, b3, ?_, b5⟩
    unfold u1
    split <;> omega
  · rw [u1_n (by omega)]; exact cl j hj
  · rw [u1_n (by omega)]; exact (ee v hv).1
  · rw [u1_n (by omega)]; exact (ee v hv).2 i hi
  · rw [u1_n (by omega)] at hu
    rw [u1_n (by omega), u1_n (by omega)]
    exact f u hu
  · rw [cnt_del h2 (pq_del a), if_neg (by omega), d3]
    omega
theorem DI.at {N : Nat} {V : Nat → Nat} {n seed : Nat} (k : OK N V) (hn : cnt (inP V) (V 0) = n) (hs : seed < 65537) : ∀ t, t ≤ n → DI N V (drT V n seed t).2 (drT V n seed t).1 (n - t)
  | 0, _ => ⟨fun _ _ => rfl, k, hn, hs⟩
  | t + 1, h => by
    have ih := DI.at k hn hs t (by omega)
    rw [show n - t = (n - (t + 1)) + 1 by omega] at ih
    have nx := ih.next k.c.1
    rw [show (n - (t + 1)) + 1 = n - t by omega] at nx
    exact nx
section S7
variable {h0 h : Hp} {s : Nat} {V W : Nat → Nat} {F : Nat → Nat → Int32}
theorem c_inPool' {K : Int32 → Hp → Prop} (S : SO h0 s W) (w : SR h0 h s F) (h40 : V 0 ≤ 40) (hW : W 0 = V 0) (WK0 : WK V F) {i : Nat} (hs : W (9 + 5 * i + 3) ≤ 2) (hi : i < V 0) (hk : K (bI (pq V W i = true)) h) : wp_X4_inPool s (nI i) K h := by
  have c12 := w.gz (i := i) (by omega)
  rw [WK0.2.2.2 i hi] at c12
  have c11 := w.g (k := 11) (i := i) (by omega) (by omega) (by show _ < 40; omega)
  rw [(WK0.2.2.1 i hi).2.2, dbL_b] at c11
  have g1 := dbb_lt V i 4
  have cw := (S.B w).cards
  rw [hW] at cw
  have ht : pq V W i = true → K (nI 1) h := fun q => by rw [bI_t q] at hk; exact hk
  have hf : ¬ pq V W i = true → K (nI 0) h := fun q => by rw [bI_f q] at hk; exact hk
  have hiff : pq V W i = true ↔ (W (9 + 5 * i + 3) = 0 ∧ (dbb V i 4 ≠ 0 ∨ chs V i ≠ 0)) := ⟨fun q => of_decide_eq_true q, fun q => decide_eq_true q⟩
  refine ⟨fun q => absurd q (by rw [nI_0]; exact nI_pos (by omega)), fun _ => ⟨_, S.b w, _, cw, b_le (by omega) (by omega) (fun q => by omega) (fun _ => ⟨_, S.b w, _, (S.B w).fs, _, (S.B w).s (by omega), b_eq (b := 0) (by omega) (by omega) (fun q => ⟨_, S.f w (k := 11) (by omega), _, c11, b_ne (b := 0) (by omega) (by omega) (fun z => ht (hiff.mpr ⟨q, Or.inl z⟩)) (fun z => ⟨_, S.f w (k := 12) (by omega), _, c12, br_b (fun y => hf (fun u => ?_)) (fun y => ht (hiff.mpr ⟨q, Or.inr y⟩))⟩)⟩) (fun q => hf (fun u => q (hiff.mp u).1))⟩)⟩⟩
  rcases (hiff.mp u).2 with v | v
  · exact v z
  · exact y v
theorem c_poolCard' {K : Int32 → Hp → Prop} (S : SO h0 s W) (w : SR h0 h s F) (h40 : V 0 ≤ 40) (hW : W 0 = V 0) (WK0 : WK V F) (hs : ∀ i, i < 40 → W (9 + 5 * i + 3) ≤ 2) {j : Nat} (hj : j < 2 ^ 31) (hk : K (enc (sel (pq V W) j 0 (V 0))) h) : wp_X4_poolCard s (nI j) K h := by
  have cw := (S.B w).cards
  rw [hW] at cw
  have key : ∀ f i, i + f = V 0 → K (enc (sel (pq V W) j i f)) h → ∃ n, wp_X4_poolCard_4 K s (nI j) n (nI (cnt (pq V W) i)) (nI i) h := by
    intro f
    induction f with
    | zero =>
      intro i hif hk
      exact ⟨1, _, S.b w, _, cw, b_le (by omega) (by omega) (fun _ => hk) (fun q => by omega)⟩
    | succ f ih =>
      intro i hif hk
      have hc := cnt_le (pq V W) i
      unfold sel at hk
      by_cases z : pq V W i = true ∧ cnt (pq V W) i = j
      · rw [if_pos z] at hk
        exact ⟨1, _, S.b w, _, cw, b_le (by omega) (by omega) (fun q => by omega) (fun _ => ⟨S.o w, c_inPool' S w h40 hW WK0 (hs i (by omega)) (by omega) (br_n (fun q => b_ne (by omega) (by omega) (fun y => absurd z.2 y) (fun _ => hk)) (fun q => absurd z.1 q))⟩)⟩
      · rw [if_neg z] at hk
        obtain ⟨n, hn⟩ := ih (i + 1) (by omega) hk
        refine ⟨n + 1, _, S.b w, _, cw, b_le (by omega) (by omega) (fun q => by omega) (fun _ => ⟨S.o w, c_inPool' S w h40 hW WK0 (hs i (by omega)) (by omega) (br_n (fun q => b_ne (by omega) (by omega) (fun y x ex u eu => ?_) (fun y => absurd ⟨q, y⟩ z)) (fun q x ex => ?_))⟩)⟩
        · subst ex; subst eu
          rw [cnt_t q] at hn
          rw [nI_add, nI_add]
          exact hn
        · subst ex
          rw [cnt_f q] at hn
          rw [nI_add]
          exact hn
  exact key (V 0) 0 (by omega) hk
end S7
theorem lot_l {x : Nat} (hx : x < 65537) : (((lN 75) * lN x) + (lN 74)) - (((lN 75) * lN x) + (lN 74)) / (lN 65537) * (lN 65537) = lN (lot x) := by
  rw [lN_mul, lN_add, pk_lRem (by omega) (by omega) (by omega)]
  rfl
section AC4
variable {N : Nat} {V : Nat → Nat}
theorem act_draw (k : OK N V) (hN : N < 2 ^ 29) (x y : Int32) : Act N V (fun z => wp_X1_drawCards (z + 1) x y) (fun M => wp_X9_draws M (Int32.toInt64 x) (Int32.toInt64 y)) := by
  have o := k.c
  have d := k.d (by omega)
  have ee := k.e
  have h40 := o.1
  by_cases hx : ((0 : Nat) : Int) ≤ x.toInt ∧ x.toInt ≤ ((65536 : Nat) : Int)
  · by_cases hy : ((1 : Nat) : Int) ≤ y.toInt ∧ y.toInt ≤ ((40 : Nat) : Int)
    · obtain ⟨seed, hs31, rfl, es⟩ := of_toI (x := x) (by omega)
      obtain ⟨many, hm31, rfl, em⟩ := of_toI (x := y) (by omega)
      have hn := cnt_le (inP V) (V 0)
      by_cases hc : many ≤ cnt (inP V) (V 0)
      · generalize hne : cnt (inP V) (V 0) = n at hc hn
        have DA := fun t (ht : t ≤ n) => DI.at k hne (show seed < 65537 by omega) t ht
        have DM := DA many hc
        have W0 : ∀ t, t ≤ n → (drT V n seed t).2 0 = V 0 := fun t ht => (DA t ht).1 0 (fun i hi => by omega)
        have cw := cnt_le (fun i => decide ((drT V n seed many).2 (9 + 5 * i + 3) = 1)) ((drT V n seed many).2 0)
        have w0 := W0 many hc
        refine ⟨nI (cnt (fun i => decide ((drT V n seed many).2 (9 + 5 * i + 3) = 1)) ((drT V n seed many).2 0)), (drT V n seed many).2, Or.inr ⟨by rw [nI_toInt (by omega)]; omega, DM.2.1.mono (by omega), fun i hi => DM.1 i (fun j hj => by omega)⟩, fun h z F K C hk => ?_, fun h M K R P hk => ?_⟩
        · refine c_within (by omega) (by omega) (b1 hx (c_within (by omega) (by omega) (n1 hy ⟨_, C.2.1, C.S.o C.w, c_workOut C.S C.w o d ee (fun h1 F1 w1 W1 => ?_)⟩)))
          have C1 := C.sight w1
          refine ⟨_, C1.2.1, C1.S.o C1.w, c_poolSize C1.S C1.w o d W1 ?_⟩
          rw [hne]
          refine b_le (by omega) (by omega) (fun _ => ?_) (fun q => by omega)
          refine for_us (fun m t (g : Hp) => wp_X1_drawCards_51 K (z + 1) (nI many) (nI n) m (nI (drT V n seed t).1) (nI (n - t)) g) (fun t g => (∀ q, (q < z + 3 ∨ z + 27 ≤ q) → g q = h q) ∧ CK g z (drT V n seed t).2 F1) many 0 h1 (Nat.zero_le _) ⟨fun q hq => w1.1 q (by omega), C1⟩ (fun m g I => ?_) (fun m t g _ ht I ih => ?_)
          · have fin : ∃ v115 : Nat, gF g (z + 1) 1 1 = some (.ref v115) ∧ (isO g v115 0 ∧ wp_X0_cardsInStage v115 (nI 1) (fun r119 h119 => (K r119 h119)) g) := ⟨_, I.2.2.2.1, I.2.B.o, c_cardsInStage I.2.B DM.2.1.c (DM.2.1.d (by omega)) (by omega) (hk g F1 I.1 I.2)⟩
            refine b_le (b := 0) (by omega) (by omega) (fun _ => fin) (fun _ => ?_)
            rw [pk_sub hc]
            exact b_le (by omega) (by omega) (fun _ => fin) (fun q => by omega)
          · obtain ⟨fr, G⟩ := I
            have D := DA t (by omega)
            obtain ⟨a, s1, s2, s3, s4, s5⟩ := D.card (show 0 < n - t by omega)
            have hll := lot_lt (drT V n seed t).1
            have hlm : lot (drT V n seed t).1 % (n - t) < n - t := Nat.mod_lt _ (by omega)
            have hst : ∀ i, i < 40 → (drT V n seed t).2 (9 + 5 * i + 3) ≤ 2 := fun i hi => (D.2.1.2.1 i hi).2.2.2.1
            refine b_le (b := 0) (by omega) (by omega) (fun q => by omega) (fun _ => ?_)
            rw [pk_sub hc]
            refine b_le (by omega) (by omega) (fun q => by omega) (fun _ => c_nextLot D.2.2.2 ⟨_, G.2.1, nI_nz (by omega) (by omega), G.S.o G.w, ?_⟩)
            rw [r_mod (by omega) (by omega) (by omega)]
            refine c_poolCard' G.S G.w h40 (W0 t (by omega)) W1 hst (by omega) ?_
            rw [s1]
            obtain ⟨h2, e2, o2, B2⟩ := G.B.put_s (i := a) (by omega) 1
            have G2 := G.books (fun q hq => o2 q (by omega)) B2
            refine ⟨_, G.2.2.1, G.B.o, c_hasC G.B (by rw [W0 t (by omega)]; exact h40) (show a < 2 ^ 31 by omega) (b1 (by rw [W0 t (by omega)]; exact s3) ⟨_, G.2.2.1, _, G.B.fs, h2, e2, fun y ey => ?_⟩)⟩
            rw [show n - t = (n - (t + 1)) + 1 by omega, pk_m1] at ey
            subst ey
            refine ih h2 ⟨fun q hq => (o2 q (by omega)).trans (fr q hq), ?_⟩
            show CK h2 z (u1 (drT V n seed t).2 (9 + 5 * dcard V (drT V n seed t).2 (drT V n seed t).1 (n - t) + 3) 1) F1
            rw [s2]
            exact G2
        · refine e_inN (by omega) (by omega) (b1 hx (e_inN (by omega) (by omega) (n1 hy ⟨R.1, e_laysPool R P o d ee (fun h1 fr1 P1 G1 => ?_)⟩)))
          rw [hne] at G1 ⊢
          rw [nI_l hm31, nI_l (show seed < 2 ^ 31 by omega), nI_l (show n < 2 ^ 31 by omega)]
          refine l_le (by omega) (by omega) (fun _ => ?_) (fun q => by omega)
          refine for_us (fun m t (g : Hp) => wp_X9_draws_47 K M (lN many) m (nI (n - t)) (lN (drT V n seed t).1) (nI t) g) (fun t g => (∀ q, q ≠ M + 1 → q ≠ M + 4 → g q = h q) ∧ RM g M (drT V n seed t).2 ∧ PL g M ∧ ∀ j, j < n - t → gI g (M + 4) 0 (nI j) = some (enc (sel (pq V (drT V n seed t).2) j 0 (V 0)))) many 0 h1 (Nat.zero_le _) ⟨fun q q1 q2 => fr1 q q2, R.fr (fun q hq => fr1 q (by omega)), P1, G1⟩ (fun m g I => ?_) (fun m t g _ ht I ih => ?_)
          · obtain ⟨fr, R2, P2, -⟩ := I
            rw [show wp_X9_draws_47 K M (lN many) (m + 1) (nI (n - many)) (lN (drT V n seed many).1) (nI many) g = _ from rfl]
            refine ⟨fun _ => ⟨R2.1, e_inState R2 (by rw [w0]; exact h40) (by omega) (fun i hi => (DM.2.1.2.1 i hi).2.2.2.1) (hk g fr R2 P2)⟩, fun q => absurd ?_ q⟩
            rw [nI_l hm31]
            exact (pk_lLE (by omega) (by omega)).mpr (Nat.le_refl _)
          · obtain ⟨fr, R2, P2, G⟩ := I
            have D := DA t (by omega)
            obtain ⟨a, s1, s2, s3, s4, s5⟩ := D.card (show 0 < n - t by omega)
            have hll := lot_lt (drT V n seed t).1
            have hlm : lot (drT V n seed t).1 % (n - t) < n - t := Nat.mod_lt _ (by omega)
            refine ll_le (by omega) (by omega) (fun q => by omega) (fun _ y ey => ?_)
            rw [lot_l D.2.2.2] at ey
            subst ey
            refine ⟨lN_ne0 (by omega) (by omega), fun y ey => ?_⟩
            rw [nI_l (show n - t < 2 ^ 31 by omega), pk_lRem (by omega) (by omega) (by omega), lN_i] at ey
            subst ey
            have gv := G _ hlm
            rw [s1] at gv
            obtain ⟨h2, e2, o2, R3⟩ := R2.put (i := 9 + 5 * a + 3) (by omega) 1
            have P3 : PL h2 M := P2.fr (fun q hq => o2 q (by omega))
            refine ⟨_, R2.2.1, _, P2.1, _, gv, e_c ⟨h2, e2, fun y ey => ?_⟩⟩
            rw [show n - t = (n - (t + 1)) + 1 by omega, pk_m1] at ey
            subst ey
            have dn1 : drT V n seed (t + 1) = (lot (drT V n seed t).1, u1 (drT V n seed t).2 (9 + 5 * a + 3) 1) := by
              show (_, u1 (drT V n seed t).2 (9 + 5 * dcard V (drT V n seed t).2 (drT V n seed t).1 (n - t) + 3) 1) = _
              rw [s2]
            have pc : cnt (pq V (drT V n seed t).2) a ≤ n - (t + 1) := by rw [s5]; omega
            rw [← s5]
            refine for_us (fun m' p (g : Hp) => wp_X9_draws_104 K (fun z0 z1 z2 h => wp_X9_draws_47 K M (lN many) m z0 z1 z2 h) M (lN many) (nI (n - (t + 1))) (lN (lot (drT V n seed t).1)) (nI t) m' (nI p) g) (fun p g => (∀ q, q ≠ M + 4 → g q = h2 q) ∧ PL g M ∧ ∀ j, j < n - t → gI g (M + 4) 0 (nI j) = some (enc (sel (pq V (drT V n seed t).2) (if cnt (pq V (drT V n seed t).2) a ≤ j ∧ j < p then j + 1 else j) 0 (V 0)))) (n - (t + 1)) (cnt (pq V (drT V n seed t).2) a) h2 pc ⟨fun _ _ => rfl, P3, fun j hj => ?_⟩ (fun m' g2 J => ?_) (fun m' p g2 hp0 hp J ih2 => ?_)
            · rw [if_neg (by omega), gI_c (o2 _ (by omega))]
              exact G j hj
            · refine b_le (by omega) (by omega) (fun _ y ey => ?_) (fun q => by omega)
              subst ey
              rw [nI_add]
              have r := ih g2 ⟨fun q q1 q2 => (J.1 q q2).trans ((o2 q q1).trans (fr q q1 q2)), ?_, J.2.1, fun j hj => ?_⟩
              · rw [dn1] at r
                exact r
              · rw [dn1]
                exact R3.fr (fun q hq => J.1 q (by omega))
              · rw [dn1]
                have hcn : cnt (pq V (drT V n seed t).2) (V 0) = n - t := D.2.2.1
                rw [sel_del s4 s3 (pq_del a) (by rw [hcn]; omega)]
                have v := J.2.2 j (by omega)
                by_cases u : cnt (pq V (drT V n seed t).2) a ≤ j
                · rw [if_pos ⟨u, by omega⟩] at v
                  rw [if_pos u]
                  exact v
                · rw [if_neg (by omega)] at v
                  rw [if_neg u]
                  exact v
            · have v := J.2.2 (p + 1) (by omega)
              rw [if_neg (by omega)] at v
              have v0 := J.2.2 p (by omega)
              obtain ⟨h3, e3, o3, g3, -⟩ := sI_w (i := p) (by omega) v0 (enc (sel (pq V (drT V n seed t).2) (p + 1) 0 (V 0)))
              refine b_le (by omega) (by omega) (fun q => by omega) (fun _ => ⟨_, J.2.1.1, _, J.2.1.1, enc (sel (pq V (drT V n seed t).2) (p + 1) 0 (V 0)), (by rw [nI_add]; exact v), h3, e3, fun y ey => ?_⟩)
              subst ey
              rw [nI_add]
              refine ih2 h3 ⟨fun q hq => (o3 q hq).trans (J.1 q hq), ⟨?_, fun j hj => ?_⟩, fun j hj => ?_⟩
              · rw [gF_c (o3 _ (by omega))]; exact J.2.1.1
              · rw [g3 j (by omega)]
                by_cases u : j = p
                · rw [if_pos u]; exact ⟨_, rfl⟩
                · rw [if_neg u]; exact J.2.1.2 j hj
              · rw [g3 j (by omega)]
                by_cases u : j = p
                · rw [if_pos u, u, if_pos ⟨hp0, by omega⟩]
                · rw [if_neg u, J.2.2 j hj]
                  by_cases u2 : cnt (pq V (drT V n seed t).2) a ≤ j ∧ j < p
                  · rw [if_pos u2, if_pos (by omega)]
                  · rw [if_neg u2, if_neg (by omega)]
      · refine ⟨-2, V, Or.inl ⟨m2_lt.1, m2_lt.2, rfl⟩, fun h z F K C hk => c_within (by omega) (by omega) (b1 hx (c_within (by omega) (by omega) (n1 hy ⟨_, C.2.1, C.S.o C.w, c_workOut C.S C.w o d ee (fun h1 F1 w1 W1 => ?_)⟩))), fun h M K R P hk => e_inN (by omega) (by omega) (b1 hx (e_inN (by omega) (by omega) (n1 hy ⟨R.1, e_laysPool R P o d ee (fun h1 fr1 P1 G1 => ?_)⟩)))⟩
        · have C1 := C.sight w1
          exact ⟨_, C1.2.1, C1.S.o C1.w, c_poolSize C1.S C1.w o d W1 (b_le (by omega) (by omega) (fun q => by omega) (fun _ => hk h1 F1 (fun q hq => w1.1 q (by omega)) C1))⟩
        · rw [nI_l hm31, nI_l (show cnt (inP V) (V 0) < 2 ^ 31 by omega)]
          exact l_le (by omega) (by omega) (fun q => by omega) (fun _ => hk h1 (fun q q1 q2 => fr1 q q2) (R.fr (fun q hq => fr1 q (by omega))) P1)
    · exact ⟨-1, V, Or.inl ⟨m1_lt.1, m1_lt.2, rfl⟩, fun h z F K C hk => c_within (by omega) (by omega) (b1 hx (c_within (by omega) (by omega) (n0 hy (hk h F (fun _ _ => rfl) C)))), fun h M K R P hk => e_inN (by omega) (by omega) (b1 hx (e_inN (by omega) (by omega) (n0 hy (hk h (fun _ _ _ => rfl) R P))))⟩
  · exact ⟨-1, V, Or.inl ⟨m1_lt.1, m1_lt.2, rfl⟩, fun h z F K C hk => c_within (by omega) (by omega) (b0 hx (hk h F (fun _ _ => rfl) C)), fun h M K R P hk => e_inN (by omega) (by omega) (b0 hx (hk h (fun _ _ _ => rfl) R P))⟩
end AC4
