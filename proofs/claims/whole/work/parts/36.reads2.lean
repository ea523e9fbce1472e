/-! the class: leads, errors, other lengths, Books' counts and changes -/
def tl (T : Nat → Nat) (c k : Nat) : Nat := cnt (tlp T c k none none) (T 0)
theorem tl_le (T : Nat → Nat) (c k : Nat) : tl T c k ≤ T 0 := cnt_le _ _
def ld2 (T : Nat → Nat) (c : Nat) : Nat := if tl T c 1 ≤ tl T c 0 then 0 else 1
def ldc (T : Nat → Nat) (c : Nat) : Nat := if tl T c 2 ≤ tl T c (ld2 T c) then ld2 T c else 2
theorem ld2_lt (T : Nat → Nat) (c : Nat) : ld2 T c < 2 := by unfold ld2; split <;> omega
theorem ldc_lt (T : Nat → Nat) (c : Nat) : ldc T c < 3 := by have := ld2_lt T c; unfold ldc; split <;> omega
/-- the most of the other choices, below choice n -/
def scd (T : Nat → Nat) (c b : Nat) : Nat → Nat
  | 0 => 0
  | k + 1 => if k = b then scd T c b k else if scd T c b k < tl T c k then tl T c k else scd T c b k
theorem scd_le (T : Nat → Nat) (c b : Nat) : ∀ k, scd T c b k ≤ T 0
  | 0 => Nat.zero_le _
  | k + 1 => by
    have := scd_le T c b k
    have := tl_le T c k
    unfold scd
    split
    · omega
    · split <;> omega
def sm (f : Nat → Nat) : Nat → Nat
  | 0 => 0
  | n + 1 => sm f n + f n
theorem sm_add (f : Nat → Nat) (a : Nat) : ∀ b, sm f (a + b) = sm f a + sm (fun k => f (a + k)) b
  | 0 => rfl
  | b + 1 => by
    show sm f (a + b) + f (a + b) = sm f a + (sm (fun k => f (a + k)) b + f (a + b))
    rw [sm_add f a b]
    omega
theorem sm_cong {f g : Nat → Nat} : ∀ {n : Nat}, (∀ i, i < n → f i = g i) → sm f n = sm g n
  | 0, _ => rfl
  | n + 1, h => by unfold sm; rw [sm_cong (fun i hi => h i (by omega)), h n (by omega)]
theorem sm_0 : ∀ n, sm (fun _ => 0) n = 0
  | 0 => rfl
  | n + 1 => by unfold sm; rw [sm_0 n]
def er (T : Nat → Nat) (w i p : Nat) : Nat :=
  if w = 0 then min 1 ((rd T p i - trt T p i) + (trt T p i - rd T p i))
  else if w = 1 then (rd T p i - trt T p i) + (trt T p i - rd T p i)
  else (rd T p i - dirt T (T 2) p i - trt T p i) + (trt T p i - (rd T p i - dirt T (T 2) p i))
theorem ab2 : ∀ a, a < 10 → ∀ b, b < 10 → (if 0 ≤ nI a - nI b then nI a - nI b else 0 - (nI a - nI b)) = nI ((a - b) + (b - a)) := by decide +kernel
section S6
variable {h0 h : Hp} {s : Nat} {T : Nat → Nat} {F : Nat → Nat → Int32}
theorem c_tl {K : Int32 → Hp → Prop} (S : SO h0 s T) (w : SR h0 h s F) (o : okC T) (d : okD T) (ee : okE T) (W : WK T F) {c t : Nat} (hc : c < 4) (ht : t < 2 ^ 31) (hk : K (nI (tl T c t)) h) : wp_X4_cardsWith s (nI c) (nI t) (-1) (-1) K h :=
  c_cardsWith (v := none) (m := none) S w o d ee W hc ht (fun _ e => by cases e) (fun _ e => by cases e) hk
theorem c_leadingChoice {K : Int32 → Hp → Prop} (S : SO h0 s T) (w : SR h0 h s F) (o : okC T) (d : okD T) (ee : okE T) (W : WK T F) {c : Nat} (hc : c < 4) (hk : K (nI (ldc T c)) h) : wp_X4_leadingChoice s (nI c) K h := by
  have h40 := o.1
  have t0 := tl_le T c 0
  have t1 := tl_le T c 1
  have t2 := tl_le T c 2
  have tb := tl_le T c (ld2 T c)
  have step : ∀ (n b k : Nat), b < 3 → k < 3 → wp_X4_leadingChoice_7 K s (nI c) n (nI (if tl T c k ≤ tl T c b then b else k)) (nI (tl T c (if tl T c k ≤ tl T c b then b else k))) (nI (k + 1)) h → wp_X4_leadingChoice_7 K s (nI c) (n + 1) (nI b) (nI (tl T c b)) (nI k) h := by
    intro n b k hb hk3 hn
    have u1 := tl_le T c k
    have u2 := tl_le T c b
    refine b_le (by omega) (by omega) (fun q => by omega) (fun _ => ⟨S.o w, c_tl S w o d ee W hc (by omega) (b_le (by omega) (by omega) (fun q y ey => ?_) (fun q y ey => ?_))⟩)
    · subst ey
      rw [if_pos q] at hn
      rw [nI_add]
      exact hn
    · subst ey
      rw [if_neg (by omega)] at hn
      rw [nI_add]
      exact hn
  refine ⟨4, b_le (by omega) (by omega) (fun q => by omega) (fun _ => ⟨S.o w, c_tl (t := 0) S w o d ee W hc (by omega) ⟨fun q => ?_, fun _ y ey => ?_⟩⟩)⟩
  · rw [le32, m1T, nI_toInt (by omega)] at q
    omega
  · subst ey
    rw [nI_add]
    refine step 2 0 1 (by omega) (by omega) (step 1 (ld2 T c) 2 (by have := ld2_lt T c; omega) (by omega) ?_)
    exact b_le (by omega) (by omega) (fun _ => hk) (fun q => by omega)
theorem c_leadOf {K : Int32 → Hp → Prop} (S : SO h0 s T) (w : SR h0 h s F) (o : okC T) (d : okD T) (ee : okE T) (W : WK T F) {c b : Nat} (hc : c < 4) (hb : b < 3) (hk : K (nI (tl T c b) - nI (scd T c b 3)) h) : wp_X4_leadOf s (nI c) (nI b) K h := by
  have h40 := o.1
  refine for_up (fun n k => wp_X4_leadOf_5 K s (nI c) (nI b) n (nI (scd T c b k)) (nI k) h) 3 0 (by omega) (fun n => ?_) (fun n k _ hk3 ih => ?_)
  · exact b_le (by omega) (by omega) (fun _ => ⟨S.o w, c_tl S w o d ee W hc (by omega) hk⟩) (fun q => by omega)
  · have u1 := tl_le T c k
    have u2 := scd_le T c b k
    refine b_le (by omega) (by omega) (fun q => by omega) (fun _ => b_eq (by omega) (by omega) (fun q y ey => ?_) (fun q => ⟨S.o w, c_tl S w o d ee W hc (by omega) (fun y ey x ex => ?_)⟩))
    · subst ey
      unfold scd at ih
      rw [if_pos q] at ih
      rw [nI_add]
      exact ih
    · subst ex
      unfold scd at ih
      rw [if_neg q] at ih
      rw [nI_add]
      by_cases z : scd T c b k < tl T c k
      · rw [if_pos z] at ih
        rw [if_pos ((nI_ltI (by omega) (by omega)).mpr z)] at ey
        subst ey
        exact ih
      · rw [if_neg z] at ih
        rw [if_neg (fun u => z ((nI_ltI (by omega) (by omega)).mp u))] at ey
        subst ey
        exact ih
theorem c_errorOf {K : Int32 → Hp → Prop} (S : SO h0 s T) (w : SR h0 h s F) (o : okC T) (W : WK T F) {i x : Nat} (hi : i < T 0) (hx : x < 3) (hk : K (nI (sm (er T x i) 12)) h) : wp_X4_errorOf s (nI i) (nI x) K h := by
  have h40 := o.1
  refine ⟨_, S.b w, (S.B w).o, c_hasC (S.B w) h40 (by omega) (br_n (fun _ => ?_) (fun q => absurd hi q))⟩
  refine for_up (fun n p => wp_X4_errorOf_18 K s (nI i) (nI x) n (nI (sm (er T x i) p)) (nI p) h) 12 0 (by omega) (fun n => ?_) (fun n p _ hp ih => ?_)
  · exact b_le (by omega) (by omega) (fun _ => hk) (fun q => by omega)
  · have g := (W.1 i hi).2 p hp
    have j := (W.2.2.1 i hi).1 p hp
    have c1 := w.g (k := 1) (i := i * 12 + p) (by omega) (by omega) (by show _ < 480; omega)
    rw [g.1] at c1
    have c2 := w.g (k := 2) (i := i * 12 + p) (by omega) (by omega) (by show _ < 480; omega)
    rw [g.2] at c2
    have c7 := w.g (k := 7) (i := i * 12 + p) (by omega) (by omega) (by show _ < 480; omega)
    rw [j.1] at c7
    have r1 := rd_lt T p i
    have r2 := trt_lt T p i
    have hd := dirt_le T (T 2) p i hi
    have fin : ∀ y : Int32, y = nI (er T x i p) → ∀ y2 : Int32, y2 = nI (sm (er T x i) p) + y → ∀ z : Int32, z = nI p + nI 1 → wp_X4_errorOf_18 K s (nI i) (nI x) n y2 z h := by
      intro y ey y2 ey2 z ez
      subst ey; subst ey2; subst ez
      rw [nI_add, nI_add]
      exact ih
    refine b_le (by omega) (by omega) (fun q => by omega) (fun _ y ey => ?_)
    rw [nI_mul, nI_add] at ey
    subst ey
    refine ⟨_, S.f w (k := 1) (by omega), _, c1, _, S.f w (k := 2) (by omega), _, c2, fun y ey => ?_⟩
    rw [ab2 _ r1 _ r2] at ey
    refine b_ne (b := 0) (by omega) (by omega) (fun q => b_ne (by omega) (by omega) (fun q1 => ⟨_, S.f w (k := 1) (by omega), _, c1, _, S.f w (k := 7) (by omega), _, c7, _, S.f w (k := 2) (by omega), _, c2, ?_⟩) (fun q1 => fin y ?_)) (fun q => ?_)
    · rw [pk_sub hd, ab2 _ (by omega) _ r2]
      exact fin _ (by unfold er; rw [if_neg q, if_neg q1])
    · rw [ey]; unfold er; rw [if_neg q, if_pos q1]
    · subst ey
      have e : er T x i p = min 1 ((rd T p i - trt T p i) + (trt T p i - rd T p i)) := if_pos q
      exact b_ne (b := 0) (by omega) (by omega) (fun z => fin _ (by rw [e, Nat.min_eq_left (by omega)])) (fun z => fin _ (by rw [e, Nat.min_eq_right (by omega), z]))
theorem c_copyRow {F : Nat → Nat → Int32} (w : SR h0 h s F) : ∃ h', cpI h (s + 11 + 10) (nI 0) (s + 11 + 13) (nI 0) (nI 40) = some h' ∧ SR h0 h' s (fun k j => if k = 13 then F 10 j else F k j) := by
  have a0 := w.g (k := 10) (i := 39) (by omega) (by omega) (by show _ < 40; omega)
  have a1 := w.g (k := 13) (i := 39) (by omega) (by omega) (by show _ < 40; omega)
  obtain ⟨h', e, oo, g⟩ := cpI_w (a0 := s + 11 + 10) (a := s + 11 + 13) (sp := 0) (dp := 0) (n := 40) (by omega) (by omega) (by omega) a0 a1
  refine ⟨h', e, fun q hq => (oo q (by omega)).trans (w.1 q hq), fun k hk i hi => ?_, ?_⟩
  · by_cases z : k = 13
    · subst z
      have hi' : i < 40 := hi
      show gI h' (s + 11 + 13) 0 (nI i) = some (F 10 i)
      rw [g i (by omega), if_pos (by omega), Nat.sub_zero, Nat.zero_add]
      exact w.g (k := 10) (by omega) (by omega) hi'
    · dsimp only
      rw [gI_c (oo _ (by omega)), if_neg z]
      exact w.2.1 k hk i hi
  · rw [gN_c (oo _ (by omega))]; exact w.2.2
theorem c_otherWith {K : Int32 → Hp → Prop} (S : SO h0 s T) (w : SR h0 h s F) (o : okC T) (d : okD T) (W : WK T F) {L : Nat} (hL : 0 < L) (hL2 : L < 2 ^ 31) (hk : ∀ h' F', SR h0 h' s F' → K (nI (cnt (fun i => decide (pkd T L i ≠ pkd T (T 2) i)) (T 0))) h') : wp_X4_otherWith s (nI L) K h := by
  have h40 := o.1
  obtain ⟨h1, e1, w1⟩ := c_copyRow w
  refine ⟨_, S.f w (k := 10) (by omega), _, S.f w (k := 13) (by omega), h1, e1, S.o w1, c_judgeWith S w1 o d (W.1.cong (fun k j hk => if_neg (by omega))) (fun p hp j hj => (W.2.1 p hp j hj)) hL hL2 (fun h2 F2 w2 jd fr => ?_)⟩
  refine for_up (fun n i => wp_X4_otherWith_24 K s n (nI (cnt (fun i => decide (pkd T L i ≠ pkd T (T 2) i)) i)) (nI i) h2) (T 0) 0 (Nat.zero_le _) (fun n => ?_) (fun n i _ hi ih => ?_)
  · exact ⟨_, S.b w2, _, (S.B w2).cards, b_le (by omega) (by omega) (fun _ => hk _ _ w2) (fun q => by omega)⟩
  · have c10 := w2.g (k := 10) (i := i) (by omega) (by omega) (by show _ < 40; omega)
    rw [(jd i hi).2.1] at c10
    have c13 := w2.g (k := 13) (i := i) (by omega) (by omega) (by show _ < 40; omega)
    rw [fr 13 i (by omega)] at c13
    replace c13 : gI h2 (s + 11 + 13) 0 (nI i) = some (F 10 i) := c13
    rw [(W.2.2.1 i hi).2.1] at c13
    have p1 := pkd_lt T L i
    have p2 := pkd_lt T (T 2) i
    refine ⟨_, S.b w2, _, (S.B w2).cards, b_le (by omega) (by omega) (fun q => by omega) (fun _ => ⟨_, S.f w2 (k := 10) (by omega), _, c10, _, S.f w2 (k := 13) (by omega), _, c13, b_eq (by omega) (by omega) (fun q y ey => ?_) (fun q y ey x ex => ?_)⟩)⟩
    · subst ey
      rw [cnt_f (by simp [q])] at ih
      rw [nI_add]
      exact ih
    · subst ey; subst ex
      rw [cnt_t (decide_eq_true q)] at ih
      rw [nI_add, nI_add]
      exact ih
end S6
section B2
variable {h : Hp} {b : Nat} {T : Nat → Nat}
theorem c_cardsInStage {K : Int32 → Hp → Prop} (B : BK h b T) (o : okC T) (d : okD T) {m : Nat} (hm : m < 2 ^ 31) (hk : K (nI (cnt (fun i => decide (T (9 + 5 * i + 3) = m)) (T 0))) h) : wp_X0_cardsInStage b (nI m) K h := by
  have h40 := o.1
  refine for_up (fun n i => wp_X0_cardsInStage_4 K b (nI m) n (nI (cnt (fun i => decide (T (9 + 5 * i + 3) = m)) i)) (nI i) h) (T 0) 0 (Nat.zero_le _) (fun n => ?_) (fun n i _ hi ih => ?_)
  · exact ⟨_, B.cards, b_le (by omega) (by omega) (fun _ => hk) (fun q => by omega)⟩
  · have hs := (d i (by omega)).2.2.2.1
    refine ⟨_, B.cards, b_le (by omega) (by omega) (fun q => by omega) (fun _ => ⟨_, B.fs, _, B.s (by omega), b_ne (by omega) hm (fun q y ey => ?_) (fun q y ey x ex => ?_)⟩)⟩
    · subst ey
      rw [cnt_f (fun z => q (of_decide_eq_true z))] at ih
      rw [nI_add]
      exact ih
    · subst ey; subst ex
      rw [cnt_t (decide_eq_true q)] at ih
      rw [nI_add, nI_add]
      exact ih
theorem c_cardsOf {K : Int32 → Hp → Prop} (B : BK h b T) (o : okC T) (d : okD T) {m e : Nat} (hm : m < 2 ^ 31) (he : e ≤ T 0) (hk : K (nI (cnt (fun i => decide (T (9 + 5 * i) = m)) e)) h) : wp_X0_cardsOf b (nI m) (nI e) K h := by
  have h40 := o.1
  refine for_up (fun n i => wp_X0_cardsOf_5 K b (nI m) (nI e) n (nI (cnt (fun i => decide (T (9 + 5 * i) = m)) i)) (nI i) h) e 0 (Nat.zero_le _) (fun n => ?_) (fun n i _ hi ih => ?_)
  · exact b_le (by omega) (by omega) (fun _ => hk) (fun q => by omega)
  · have hs := (d i (by omega)).1
    refine b_le (by omega) (by omega) (fun q => by omega) (fun _ => ⟨_, B.cards, b_le (by omega) (by omega) (fun q => by omega) (fun _ => ⟨_, B.fm, _, B.m (by omega), b_ne (by omega) hm (fun q y ey => ?_) (fun q y ey x ex => ?_)⟩)⟩)
    · subst ey
      rw [cnt_f (fun z => q (of_decide_eq_true z))] at ih
      rw [nI_add]
      exact ih
    · subst ey; subst ex
      rw [cnt_t (decide_eq_true q)] at ih
      rw [nI_add, nI_add]
      exact ih
/-- the contests in which a card changed in a version -/
def chg (T : Nat → Nat) (v i : Nat) : Nat := if v = 0 then 0 else if i < T (209 + 41 * (v - 1)) then df (T (209 + 41 * (v - 1) + 1 + i)) (T (209 + 41 * v + 1 + i)) else 0
theorem chg_lt (T : Nat → Nat) (v i : Nat) : chg T v i < 16 := by
  unfold chg
  split
  · omega
  · split
    · exact df_lt _ _
    · omega
theorem c_differing {K : Int32 → Hp → Prop} {x y : Nat} (hx : x < 4096) (hy : y < 4096) (hk : K (nI (df x y)) h) : wp_X8_differingContests (nI x) (nI y) K h := by
  refine for_up (fun n k => wp_X8_differingContests_4 K (nI x) (nI y) n (nI (dfb x y k)) (nI k) h) 4 0 (by omega) (fun n => ?_) (fun n k _ h1 ih => ?_)
  · exact b_le (by omega) (by omega) (fun _ => hk) (fun q => by omega)
  · refine b_le (by omega) (by omega) (fun q => by omega) (fun _ => c_outcomeOf hx h1 (c_outcomeOf hy h1 (b_eq (Nat.lt_trans (ou_lt _ _) (by omega)) (Nat.lt_trans (ou_lt _ _) (by omega)) (fun q z ez => ?_) (fun q y ey z ez => ?_))))
    · subst ez
      rw [nI_add]
      simp only [dfb, if_pos q, Nat.add_zero] at ih
      exact ih
    · subst ey; subst ez
      rw [o_bit k (by omega), o_sum 1 (dfb_lt x _ k), nI_add]
      simp only [dfb, if_neg q] at ih
      exact ih
theorem c_changesIn {K : Int32 → Hp → Prop} (B : BK h b T) (o : okC T) (ee : okE T) {v i : Nat} (hv : v < T 1) (hi : i < T 0) (hk : K (nI (chg T v i)) h) : wp_X0_changesIn b (nI v) (nI i) K h := by
  have h40 := o.1
  have h1 := o.2.1
  refine b_lt (by omega) (by omega) (fun q => ?_) (fun q => ?_)
  · unfold chg at hk
    rw [if_pos (by omega)] at hk
    exact hk
  · unfold chg at hk
    rw [if_neg (by omega)] at hk
    have e1 := ee (v - 1) (by omega)
    have e2 := ee v (by omega)
    rw [pk_sub q]
    refine ⟨B.o, c_cardsIn (v := some (v - 1)) B o (fun x e => by cases e; omega) (b_lt (by omega) (by show T (209 + 41 * (v - 1)) < _; omega) (fun z => ?_) (fun z => ?_))⟩
    · replace z : i < T (209 + 41 * (v - 1)) := z
      rw [if_pos z] at hk
      exact ⟨B.o, c_outcomesInB B o (by omega) hi ⟨B.o, c_outcomesInB B o hv hi (c_differing (e1.2 i (by omega)) (e2.2 i (by omega)) hk)⟩⟩
    · replace z : T (209 + 41 * (v - 1)) ≤ i := z
      rw [if_neg (by omega)] at hk
      exact hk
theorem c_changedCard {K : Int32 → Hp → Prop} (B : BK h b T) (o : okC T) (ee : okE T) {v j : Nat} (hv : v < T 1) (hj : j < 2 ^ 31) (hk : K (enc (sel (fun i => decide (chg T v i ≠ 0)) j 0 (T 0))) h) : wp_X0_changedCard b (nI v) (nI j) K h := by
  have h40 := o.1
  have key : ∀ f i, i + f = T 0 → K (enc (sel (fun i => decide (chg T v i ≠ 0)) j i f)) h → ∃ n, wp_X0_changedCard_5 K b (nI v) (nI j) n (nI (cnt (fun i => decide (chg T v i ≠ 0)) i)) (nI i) h := by
    intro f
    induction f with
    | zero =>
      intro i hif hk
      exact ⟨1, _, B.cards, b_le (by omega) (by omega) (fun _ => hk) (fun q => by omega)⟩
    | succ f ih =>
      intro i hif hk
      have hc := cnt_le (fun i => decide (chg T v i ≠ 0)) i
      have hg := chg_lt T v i
      unfold sel at hk
      by_cases z : decide (chg T v i ≠ 0) = true ∧ cnt (fun i => decide (chg T v i ≠ 0)) i = j
      · rw [if_pos z] at hk
        exact ⟨1, _, B.cards, b_le (by omega) (by omega) (fun q => by omega) (fun _ => ⟨B.o, c_changesIn B o ee hv (by omega) (b_ne (b := 0) (by omega) (by omega) (fun q => b_ne (by omega) (by omega) (fun y => absurd z.2 y) (fun _ => hk)) (fun q => absurd q (of_decide_eq_true z.1)))⟩)⟩
      · rw [if_neg z] at hk
        obtain ⟨n, hn⟩ := ih (i + 1) (by omega) hk
        refine ⟨n + 1, _, B.cards, b_le (by omega) (by omega) (fun q => by omega) (fun _ => ⟨B.o, c_changesIn B o ee hv (by omega) (b_ne (b := 0) (by omega) (by omega) (fun q => b_ne (by omega) (by omega) (fun y x ex u eu => ?_) (fun y => absurd ⟨decide_eq_true q, y⟩ z)) (fun q x ex => ?_))⟩)⟩
        · subst ex; subst eu
          rw [cnt_t (decide_eq_true q)] at hn
          rw [nI_add, nI_add]
          exact hn
        · subst ex
          rw [cnt_f (by simp [q])] at hn
          rw [nI_add]
          exact hn
  exact key (T 0) 0 (by omega) hk
end B2
