/-! words and numbers, on both sides -/
theorem RU.uniq {X : Nat → Nat} {tn k a b b' : Nat} (R : RU X tn k a b) (R' : RU X tn k a b') : b = b' := by
  obtain ⟨h1, h2, h3, h4⟩ := R
  obtain ⟨g1, g2, g3, g4⟩ := R'
  rcases Nat.lt_trichotomy b b' with z | z | z
  · exact absurd (g3 b h1 z) (h4 (by omega))
  · exact z
  · exact absurd (h3 b' g1 z) (g4 (by omega))
theorem RU.back {X : Nat → Nat} {tn k a b : Nat} (R : RU X tn k (a + 1) b) (h : kd (X a) = k) : RU X tn k a b := by
  obtain ⟨h1, h2, h3, h4⟩ := R
  refine ⟨by omega, h2, fun j q1 q2 => ?_, h4⟩
  by_cases z : j = a
  · rw [z]; exact h
  · exact h3 j (by omega) q2
theorem RU.stop {X : Nat → Nat} {tn k a : Nat} (ha : a ≤ tn) (h : a < tn → kd (X a) ≠ k) : RU X tn k a a := ⟨Nat.le_refl _, ha, fun j q1 q2 => by omega, h⟩
def wval (X : Nat → Nat) (s : Nat) : Nat → Nat
  | 0 => 0
  | m + 1 => 32 * wval X s m + (X (s + m) - 96)
def nval (X : Nat → Nat) (s : Nat) : Nat → Nat
  | 0 => 0
  | m + 1 => 10 * nval X s m + (X (s + m) - 48)
theorem kd_1 {c : Nat} : kd c = 1 ↔ 97 ≤ c ∧ c ≤ 122 := by unfold kd; split <;> (try split) <;> omega
theorem kd_2 {c : Nat} : kd c = 2 ↔ 48 ≤ c ∧ c ≤ 57 := by unfold kd; split <;> (try split) <;> omega
theorem wval_inj {X Y : Nat → Nat} {s : Nat} : ∀ {m m' : Nat}, (∀ i, i < m → 97 ≤ X (s + i) ∧ X (s + i) ≤ 122) → (∀ i, i < m' → 97 ≤ Y (0 + i) ∧ Y (0 + i) ≤ 122) → wval X s m = wval Y 0 m' → m = m' ∧ ∀ i, i < m → X (s + i) = Y (0 + i)
  | 0, 0, _, _, _ => ⟨rfl, fun i hi => by omega⟩
  | 0, m' + 1, _, hY, e => by
    have := hY m' (by omega)
    unfold wval at e
    omega
  | m + 1, 0, hX, _, e => by
    have := hX m (by omega)
    unfold wval at e
    omega
  | m + 1, m' + 1, hX, hY, e => by
    have x := hX m (by omega)
    have y := hY m' (by omega)
    have e1 : wval X s m = wval Y 0 m' ∧ X (s + m) = Y (0 + m') := by
      rw [show wval X s (m + 1) = 32 * wval X s m + (X (s + m) - 96) from rfl, show wval Y 0 (m' + 1) = 32 * wval Y 0 m' + (Y (0 + m') - 96) from rfl] at e
      omega
    obtain ⟨a, b⟩ := wval_inj (fun i hi => hX i (by omega)) (fun i hi => hY i (by omega)) e1.1
    subst a
    refine ⟨rfl, fun i hi => ?_⟩
    by_cases z : i = m
    · rw [z]; exact e1.2
    · exact b i (by omega)
theorem wval_cong {X Y : Nat → Nat} {s : Nat} : ∀ {m : Nat}, (∀ i, i < m → X (s + i) = Y (0 + i)) → wval X s m = wval Y 0 m
  | 0, _ => rfl
  | m + 1, h => by
    show 32 * wval X s m + (X (s + m) - 96) = 32 * wval Y 0 m + (Y (0 + m) - 96)
    rw [wval_cong (fun i hi => h i (by omega)), h m (by omega)]
/-- the letters of word w, its number -/
def wl (w i : Nat) : Nat := (sTx w).getD i 0
def wcode : Nat → Nat := fun w => match w with
  | 0 => 625710
  | 1 => 3544110
  | 2 => 149559
  | 3 => 409067
  | _ => 17887012456
theorem wl_ok : ∀ w, w < 5 → ((0 < sLn w ∧ sLn w < 8) ∧ (∀ i, i < sLn w → 97 ≤ wl w (0 + i) ∧ wl w (0 + i) ≤ 122) ∧ wval (wl w) 0 (sLn w) = wcode w) := by decide +kernel
/-- whether the letters from s to b are word w -/
abbrev isw (X : Nat → Nat) (s b w : Nat) : Prop := b - s = sLn w ∧ ∀ i, i < sLn w → X (s + i) = wl w (0 + i)
def wv (X : Nat → Nat) (s b : Nat) : Nat := if b - s < 8 then wval X s (b - s) else 0
theorem wv_iff {X : Nat → Nat} {tn s b w : Nat} (R : RU X tn 1 s b) (hw : w < 5) : wv X s b = wcode w ↔ isw X s b w := by
  obtain ⟨⟨l0, l8⟩, l1, l2⟩ := wl_ok w hw
  have hX : ∀ i, i < b - s → 97 ≤ X (s + i) ∧ X (s + i) ≤ 122 := fun i hi => kd_1.mp (R.2.2.1 (s + i) (by omega) (by omega))
  have c0 : wcode w ≠ 0 := by
    unfold wcode
    split <;> omega
  unfold wv
  constructor
  · intro e
    by_cases z : b - s < 8
    · rw [if_pos z, ← l2] at e
      obtain ⟨a, c⟩ := wval_inj hX l1 e
      exact ⟨a, fun i hi => c i (by omega)⟩
    · rw [if_neg z] at e
      exact absurd e.symm c0
  · rintro ⟨a, c⟩
    rw [if_pos (by omega), a, ← l2]
    exact wval_cong c
theorem isw_one {X : Nat → Nat} {s b w w' : Nat} (hw : w < 5) (hw' : w' < 5) (h : isw X s b w) (h' : isw X s b w') : w = w' := by
  have key : ∀ w, w < 5 → ∀ w', w' < 5 → sLn w = sLn w' → wl w 0 = wl w' 0 → wl w 1 = wl w' 1 → w = w' := by decide +kernel
  have l := (wl_ok w hw).1
  have l4 : ∀ w, w < 5 → 2 ≤ sLn w := by decide +kernel
  have a := l4 w hw
  refine key w hw w' hw' (h.1.symm.trans h'.1) ?_ ?_
  · exact (h.2 0 (by omega)).symm.trans (h'.2 0 (by have := h.1; have := h'.1; omega))
  · exact (h.2 1 (by omega)).symm.trans (h'.2 1 (by have := h.1; have := h'.1; omega))
section WD
variable {h : Hp} {t tn : Nat} {X : Nat → Nat}
theorem sCh_at {w i : Nat} (hi : i < sLn w) (h31 : i < 2 ^ 31) : sCh w (nI i) = some (nI (wl w (0 + i))) := by
  unfold sCh
  rw [if_pos ((in_iff h31).mpr hi), nI_clamp h31, Nat.zero_add]
  rfl
theorem c_isWord {K : Int32 → Hp → Prop} {k s b w : Nat} (T : TX h t X tn (nI k) (nI s) b) (ht : tn ≤ 140) (hX : ∀ i, i < tn → 1 ≤ X i ∧ X i ≤ 255) (hk3 : k ≤ 3) (hsb : s ≤ b) (hb : b ≤ tn) (hw : w < 5) (hk : K (bI (k = 1 ∧ isw X s b w)) h) : wp_X7_isWord t w K h := by
  obtain ⟨⟨l0, l8⟩, l1, l2⟩ := wl_ok w hw
  obtain ⟨t0, t1, t2, t3, t4, t5, t6⟩ := id T
  refine ⟨_, t2, b_ne (by omega) (by omega) (fun q => ?_) (fun q => ⟨_, t4, _, t3, hw, ?_⟩)⟩
  · rw [bI_f (fun z => q z.1)] at hk; exact hk
  · rw [pk_sub hsb]
    refine b_eq (by omega) (by omega) (fun e => ⟨_, t3, ?_⟩) (fun e => ?_)
    · have key : ∀ d i, i + d = sLn w → (∀ j, j < i → X (s + j) = wl w (0 + j)) → ∃ n, wp_X7_isWord_31 K t w n (nI (s + i)) h := by
        intro d
        induction d with
        | zero =>
          intro i hi hj
          refine ⟨1, _, t4, b_le (by omega) (by omega) (fun _ => ?_) (fun z => by omega)⟩
          rw [bI_t ⟨q, e, fun j hj' => hj j (by omega)⟩] at hk
          exact hk
        | succ d ih =>
          intro i hi hj
          have hx := hX (s + i) (by omega)
          have hl := l1 i (by omega)
          by_cases z : X (s + i) = wl w (0 + i)
          · obtain ⟨n, hn⟩ := ih (i + 1) (by omega) (fun j hj' => by
              by_cases y : j = i
              · rw [y]; exact z
              · exact hj j (by omega))
            refine ⟨n + 1, _, t4, b_le (by omega) (by omega) (fun y => by omega) (fun _ => ⟨_, t5, _, t6 (s + i) (by omega), _, t3, hw, _, (by rw [pk_sub (by omega), show s + i - s = i by omega]; exact sCh_at (by omega) (by omega)), b_eq (by omega) (by omega) (fun _ y ey => ?_) (fun y => absurd z y)⟩)⟩
            subst ey
            rw [nI_add, Nat.add_assoc]
            exact hn
          · refine ⟨1, _, t4, b_le (by omega) (by omega) (fun y => by omega) (fun _ => ⟨_, t5, _, t6 (s + i) (by omega), _, t3, hw, _, (by rw [pk_sub (by omega), show s + i - s = i by omega]; exact sCh_at (by omega) (by omega)), b_eq (by omega) (by omega) (fun y => absurd y z) (fun _ => ?_)⟩)⟩
            rw [bI_f (fun u => z (u.2.2 i (by omega)))] at hk
            exact hk
      exact key (sLn w) 0 (by omega) (fun j hj => by omega)
    · rw [bI_f (fun u => e u.2.1)] at hk; exact hk
/-- whether a token is a number, a row -/
abbrev isN (X : Nat → Nat) (k s b : Nat) : Prop := k = 2 ∧ b - s ≤ 5 ∧ (b - s = 1 ∨ X s ≠ 48)
theorem c_isNumber {K : Int32 → Hp → Prop} {k s b : Nat} (T : TX h t X tn (nI k) (nI s) b) (ht : tn ≤ 140) (hX : ∀ i, i < tn → 1 ≤ X i ∧ X i ≤ 255) (hk3 : k ≤ 3) (hsb : s ≤ b) (hb : b ≤ tn) (hs : k = 2 → s < b) (hk : K (bI (isN X k s b)) h) : wp_X7_isNumber t K h := by
  obtain ⟨t0, t1, t2, t3, t4, t5, t6⟩ := id T
  refine ⟨_, t2, b_ne (by omega) (by omega) (fun q => ?_) (fun q => ⟨_, t4, _, t3, ?_⟩)⟩
  · rw [bI_f (fun z => q z.1)] at hk; exact hk
  · rw [pk_sub hsb]
    have hsb2 := hs q
    have hx := hX s (by omega)
    refine b_le (by omega) (by omega) (fun e => ⟨_, t4, _, t3, ?_⟩) (fun e => ?_)
    · rw [pk_sub hsb]
      refine b_eq (by omega) (by omega) (fun e1 => ?_) (fun e1 => ⟨_, t5, _, t3, _, t6 s (by omega), b_eq (by omega) (by omega) (fun e2 => ?_) (fun e2 => ?_)⟩)
      · rw [bI_t ⟨q, e, Or.inl e1⟩] at hk; exact hk
      · rw [bI_f (fun z => z.2.2.elim e1 (fun u => u e2))] at hk; exact hk
      · rw [bI_t ⟨q, e, Or.inr e2⟩] at hk; exact hk
    · rw [bI_f (fun z => by have := z.2.1; omega)] at hk; exact hk
theorem c_isWholeRow {K : Int32 → Hp → Prop} {k s b : Nat} (T : TX h t X tn (nI k) (nI s) b) (ht : tn ≤ 140) (hk3 : k ≤ 3) (hsb : s ≤ b) (hb : b ≤ tn) (hk : K (bI (k = 2 ∧ b - s = 12)) h) : wp_X7_isWholeRow t K h := by
  obtain ⟨t0, t1, t2, t3, t4, t5, t6⟩ := id T
  refine ⟨_, t2, b_ne (by omega) (by omega) (fun q => ?_) (fun q => ⟨_, t4, _, t3, ?_⟩)⟩
  · rw [bI_f (fun z => q z.1)] at hk; exact hk
  · rw [pk_sub hsb]
    refine b_ne (by omega) (by omega) (fun e => ?_) (fun e => ?_)
    · rw [bI_f (fun z => e z.2)] at hk; exact hk
    · rw [bI_t ⟨q, e⟩] at hk; exact hk
theorem c_isSemicolon {K : Int32 → Hp → Prop} {k s b : Nat} (T : TX h t X tn (nI k) (nI s) b) (ht : tn ≤ 140) (hX : ∀ i, i < tn → 1 ≤ X i ∧ X i ≤ 255) (hk3 : k ≤ 3) (hs : k = 3 → s < tn) (hk : K (bI (k = 3 ∧ X s = 59)) h) : wp_X7_isSemicolon t K h := by
  obtain ⟨t0, t1, t2, t3, t4, t5, t6⟩ := id T
  refine ⟨_, t2, b_ne (by omega) (by omega) (fun q => ?_) (fun q => ?_)⟩
  · rw [bI_f (fun z => q z.1)] at hk; exact hk
  · have hx := hX s (hs q)
    have := hs q
    refine ⟨_, t5, _, t3, _, t6 s (by omega), b_ne (by omega) (by omega) (fun e => ?_) (fun e => ?_)⟩
    · rw [bI_f (fun z => e z.2)] at hk; exact hk
    · rw [bI_t ⟨q, e⟩] at hk; exact hk
theorem c_value {K : Int64 → Hp → Prop} {kv : Int32} {s b : Nat} (T : TX h t X tn kv (nI s) b) (ht : tn ≤ 140) (hsb : s ≤ b) (hb : b ≤ tn) (hd : ∀ j, s ≤ j → j < b → 48 ≤ X j ∧ X j ≤ 57) (hk : K (lN (nval X s (b - s))) h) : wp_X7_value t K h := by
  obtain ⟨t0, t1, t2, t3, t4, t5, t6⟩ := id T
  refine ⟨_, t3, ?_⟩
  refine for_up (fun n j => wp_X7_value_7 K t n (lN (nval X s (j - s))) (nI j) h) b s hsb (fun n => ?_) (fun n j h1 h2 ih => ?_) |>.elim (fun n hn => ⟨n, by rw [Nat.sub_self] at hn; exact hn⟩)
  · exact ⟨_, t4, b_le (by omega) (by omega) (fun _ => hk) (fun q => by omega)⟩
  · have hx := hd j h1 h2
    refine ⟨_, t4, b_le (by omega) (by omega) (fun q => by omega) (fun _ => ⟨_, t5, _, t6 j (by omega), fun y ey z ez => ?_⟩)⟩
    subst ey; subst ez
    rw [nI_l (by omega), lN_mul, lN_add, lN_sub (by omega), nI_add]
    rw [show j + 1 - s = (j - s) + 1 by omega] at ih
    unfold nval at ih
    rw [show s + (j - s) = j by omega] at ih
    rw [show 10 * nval X s (j - s) + X j - 48 = 10 * nval X s (j - s) + (X j - 48) by omega]
    exact ih
end WD
section WR
variable {h : Hp} {M n tn : Nat} {V W P X : Nat → Nat} {e : Nat → Value}
theorem e_isLetter {K : Int32 → Hp → Prop} {x : Int32} (hk : K (bI (((97 : Nat) : Int) ≤ x.toInt ∧ x.toInt ≤ ((122 : Nat) : Int))) h) : wp_X9_isLetter x K h := e_inN (by omega) (by omega) ⟨bI_01 _, hk⟩
theorem e_isDigit {K : Int32 → Hp → Prop} {x : Int32} (hk : K (bI (((48 : Nat) : Int) ≤ x.toInt ∧ x.toInt ≤ ((57 : Nat) : Int))) h) : wp_X9_isDigit x K h := e_inN (by omega) (by omega) ⟨bI_01 _, hk⟩
theorem e_wordNext {K : Int64 → Hp → Prop} (R : RR h M V W P n X tn e) {a s b : Nat} (ht : tn ≤ 140) (hX : ∀ i, i < tn → 1 ≤ X i ∧ X i ≤ 255) (S : SK X tn a s) (U : RU X tn 1 s b) (ea : e 11 = .int (nI a)) (hk : ∀ h' e', (∀ q, q ≠ M → h' q = h q) → RR h' M V W P n X tn e' → e' 11 = .int (nI b) → e' 12 = .int (nI s) → (∀ j, j ≠ 11 → j ≠ 12 → e' j = e j) → K (lN (wv X s b)) h') : wp_X9_wordNext M K h := by
  refine ⟨R.1.1, e_begins R ht hX S ea (fun h1 e1 fr1 R1 x1 x2 x3 => ?_)⟩
  have ub := U.2.1
  have key : ∀ d j g e2, j + d = b → s ≤ j → (∀ q, q ≠ M → g q = h q) → RR g M V W P n X tn e2 → e2 11 = .int (nI j) → e2 12 = .int (nI s) → (∀ i, i ≠ 11 → i ≠ 12 → e2 i = e i) → ∃ m, wp_X9_wordNext_6 K M m (lN (if j - s ≤ 8 then wval X s (j - s) else 0)) g := by
    intro d
    induction d with
    | zero =>
      intro j g e2 hj hsj fr R2 y1 y2 y3
      have : j = b := by omega
      subst this
      have fin : ∃ v64 : Int32, gF g M 9 11 = some (.int v64) ∧ (∃ v68 : Int32, gF g M 9 12 = some (.int v68) ∧ ((((nI 8) ≤ (v64 - v68) → (K (lN 0) g)) ∧ (¬ (nI 8) ≤ (v64 - v68) → (K (lN (if j - s ≤ 8 then wval X s (j - s) else 0)) g))))) := by
        refine ⟨_, R2.fg (by omega) (by omega) y1, _, R2.fg (by omega) (by omega) y2, ?_⟩
        rw [pk_sub hsj]
        have f := hk g e2 fr R2 y1 y2 y3
        unfold wv at f
        refine b_le (by omega) (by omega) (fun q => ?_) (fun q => ?_)
        · rw [if_neg (by omega)] at f; exact f
        · rw [if_pos q] at f
          rw [if_pos (by omega)]
          exact f
      refine ⟨1, R2.1.1, e_next R2 ht ub y1 (fun _ => e_isLetter (b0 (by rw [m9T]; omega) fin)) (fun q => e_isLetter (b0 ?_ fin))⟩
      have hx := hX j q
      rw [nI_toInt (by omega)]
      intro z
      exact U.2.2.2 q (kd_1.mpr (by omega))
    | succ d ih =>
      intro j g e2 hj hsj fr R2 y1 y2 y3
      have hx := kd_1.mp (U.2.2.1 j hsj (by omega))
      obtain ⟨h2, p2, o2, R3⟩ := R2.fset (k := 11) (by omega) (by omega) (.int (nI (j + 1)))
      obtain ⟨m, hm⟩ := ih (j + 1) h2 _ (by omega) (by omega) (fun q hq => (o2 q hq).trans (fr q hq)) R3 (ue_s _ _ _) ((ue_n (by omega)).trans y2) (fun i i1 i2 => (ue_n i1).trans (y3 i i1 i2))
      refine ⟨m + 1, R2.1.1, e_next R2 ht (by omega) y1 (fun q => by omega) (fun q => e_isLetter (b1 (by rw [nI_toInt (by omega)]; omega) ⟨_, R2.fg (by omega) (by omega) y1, _, R2.fg (by omega) (by omega) y2, ?_⟩))⟩
      rw [pk_sub hsj]
      refine b_le (by omega) (by omega) (fun z => ⟨_, R2.fg (by omega) (by omega) y1, h2, (by rw [nI_add]; exact p2), ?_⟩) (fun z => ⟨R2.1.1, e_next R2 ht (by omega) y1 (fun q => by omega) (fun _ y ey => ⟨_, R2.fg (by omega) (by omega) y1, h2, (by rw [nI_add]; exact p2), ?_⟩)⟩)
      · rw [if_neg (by omega)] at hm
        exact hm
      · subst ey
        rw [if_pos (by omega), nI_l (by omega), lN_mul, lN_add, lN_sub (by omega)]
        rw [if_pos (by omega), show j + 1 - s = (j - s) + 1 by omega] at hm
        unfold wval at hm
        rw [show s + (j - s) = j by omega] at hm
        rw [show 32 * wval X s (j - s) + X j - 96 = 32 * wval X s (j - s) + (X j - 96) by omega]
        exact hm
  have r := key (b - s) s h1 e1 (by have := U.1; omega) (Nat.le_refl _) fr1 R1 x1 x2 x3
  rw [Nat.sub_self] at r
  exact r
/-- what is wrong with a number's digits from s to b -/
abbrev badN (X : Nat → Nat) (f s b : Nat) : Prop := (f = 0 ∧ (b - s < 1 ∨ 5 < b - s ∨ (1 < b - s ∧ X s = 48))) ∨ (f ≠ 0 ∧ b - s ≠ 12)
theorem e_numberNext {K : Int64 → Hp → Prop} (R : RR h M V W P n X tn e) {f a s b : Nat} (hf : f < 2) (ht : tn ≤ 140) (hX : ∀ i, i < tn → 1 ≤ X i ∧ X i ≤ 255) (S : SK X tn a s) (U : RU X tn 2 s b) (ea : e 11 = .int (nI a)) (ew : e 13 = .int (nI 0)) (hk : ∀ h' e', (∀ q, q ≠ M → h' q = h q) → RR h' M V W P n X tn e' → e' 11 = .int (nI b) → e' 12 = .int (nI s) → e' 13 = .int (bI (badN X f s b)) → (∀ j, j ≠ 11 → j ≠ 12 → j ≠ 13 → e' j = e j) → K (lN (nval X s (min (b - s) 12))) h') : wp_X9_numberNext M (nI f) K h := by
  refine ⟨_, R.fg (by omega) (by omega) ew, tk rfl ⟨R.1.1, e_begins R ht hX S ea (fun h1 e1 fr1 R1 x1 x2 x3 => ?_)⟩⟩
  have ub := U.2.1
  have key : ∀ d j g e2, j + d = b → s ≤ j → (∀ q, q ≠ M → g q = h q) → RR g M V W P n X tn e2 → e2 11 = .int (nI j) → e2 12 = .int (nI s) → (∀ i, i ≠ 11 → i ≠ 12 → e2 i = e i) → ∃ m, wp_X9_numberNext_15 K M (nI f) m (lN (nval X s (min (j - s) 12))) g := by
    intro d
    induction d with
    | zero =>
      intro j g e2 hj hsj fr R2 y1 y2 y3
      have : j = b := by omega
      subst this
      have put : ∀ v : Int32, v = bI (badN X f s j) → ∃ h140, pF g M 9 13 (.int v) = some h140 ∧ K (lN (nval X s (min (j - s) 12))) h140 := by
        intro v ev
        subst ev
        obtain ⟨h2, p2, o2, R3⟩ := R2.fset (k := 13) (by omega) (by omega) (.int (bI (badN X f s j)))
        exact ⟨h2, p2, hk h2 _ (fun q hq => (o2 q hq).trans (fr q hq)) R3 ((ue_n (by omega)).trans y1) ((ue_n (by omega)).trans y2) (ue_s _ _ _) (fun i i1 i2 i3 => (ue_n i3).trans (y3 i i1 i2))⟩
      have pt : badN X f s j → ∃ h140, pF g M 9 13 (.int (nI 1)) = some h140 ∧ K (lN (nval X s (min (j - s) 12))) h140 := fun q => put _ (bI_t q).symm
      have pf : ¬ badN X f s j → ∃ h140, pF g M 9 13 (.int (nI 0)) = some h140 ∧ K (lN (nval X s (min (j - s) 12))) h140 := fun q => put _ (bI_f q).symm
      have fin : ∃ v73 : Int32, gF g M 9 11 = some (.int v73) ∧ (∃ v77 : Int32, gF g M 9 12 = some (.int v77) ∧ (∀ y81 : Int32, y81 = (v73 - v77) → (((nI f = nI 0 → (((y81 < (nI 1) → (∃ h140, pF g M 9 13 (.int (nI 1)) = some h140 ∧ (K (lN (nval X s (min (j - s) 12))) h140))) ∧ (¬ y81 < (nI 1) → ((((nI 5) < y81 → (∃ h140, pF g M 9 13 (.int (nI 1)) = some h140 ∧ (K (lN (nval X s (min (j - s) 12))) h140))) ∧ (¬ (nI 5) < y81 → (((y81 ≤ (nI 1) → (∃ h140, pF g M 9 13 (.int (nI 0)) = some h140 ∧ (K (lN (nval X s (min (j - s) 12))) h140))) ∧ (¬ y81 ≤ (nI 1) → (∃ v122 : Nat, gF g M 9 5 = some (.ref v122) ∧ (∃ v126 : Int32, gF g M 9 12 = some (.int v126) ∧ (∃ v129 : Int32, gI g v122 0 v126 = some v129 ∧ (((¬ v129 = (nI 48) → (∃ h140, pF g M 9 13 (.int (nI 0)) = some h140 ∧ (K (lN (nval X s (min (j - s) 12))) h140))) ∧ (v129 = (nI 48) → (∃ h140, pF g M 9 13 (.int (nI 1)) = some h140 ∧ (K (lN (nval X s (min (j - s) 12))) h140)))))))))))))))))) ∧ (¬ nI f = nI 0 → (((y81 = (nI 12) → (∃ h140, pF g M 9 13 (.int (nI 0)) = some h140 ∧ (K (lN (nval X s (min (j - s) 12))) h140))) ∧ (¬ y81 = (nI 12) → (∃ h140, pF g M 9 13 (.int (nI 1)) = some h140 ∧ (K (lN (nval X s (min (j - s) 12))) h140)))))))))) := by
        refine ⟨_, R2.fg (by omega) (by omega) y1, _, R2.fg (by omega) (by omega) y2, fun y ey => ?_⟩
        rw [pk_sub hsj] at ey
        subst ey
        refine b_eq (b := 0) (by omega) (by omega) (fun q => ?_) (fun q => ?_)
        · refine b_lt (by omega) (by omega) (fun z => pt (Or.inl ⟨q, Or.inl z⟩)) (fun z => b_lt (by omega) (by omega) (fun y => pt (Or.inl ⟨q, Or.inr (Or.inl y)⟩)) (fun y => b_le (by omega) (by omega) (fun u => pf (by omega)) (fun u => ?_)))
          have hx := hX s (by omega)
          exact ⟨_, R2.2.2.2.2.1, _, R2.fg (by omega) (by omega) y2, _, R2.2.2.2.2.2.2.1 s (by omega), b_ne (by omega) (by omega) (fun v => pf (by omega)) (fun v => pt (Or.inl ⟨q, Or.inr (Or.inr ⟨u, v⟩)⟩))⟩
        · exact b_eq (by omega) (by omega) (fun z => pf (by omega)) (fun z => pt (Or.inr ⟨q, z⟩))
      refine ⟨1, R2.1.1, e_next R2 ht ub y1 (fun _ => e_isDigit (b0 (by rw [m9T]; omega) fin)) (fun q => e_isDigit (b0 ?_ fin))⟩
      have hx := hX j q
      rw [nI_toInt (by omega)]
      intro z
      exact U.2.2.2 q (kd_2.mpr (by omega))
    | succ d ih =>
      intro j g e2 hj hsj fr R2 y1 y2 y3
      have hx := kd_2.mp (U.2.2.1 j hsj (by omega))
      obtain ⟨h2, p2, o2, R3⟩ := R2.fset (k := 11) (by omega) (by omega) (.int (nI (j + 1)))
      obtain ⟨m, hm⟩ := ih (j + 1) h2 _ (by omega) (by omega) (fun q hq => (o2 q hq).trans (fr q hq)) R3 (ue_s _ _ _) ((ue_n (by omega)).trans y2) (fun i i1 i2 => (ue_n i1).trans (y3 i i1 i2))
      refine ⟨m + 1, R2.1.1, e_next R2 ht (by omega) y1 (fun q => by omega) (fun q => e_isDigit (b1 (by rw [nI_toInt (by omega)]; omega) ⟨_, R2.fg (by omega) (by omega) y1, _, R2.fg (by omega) (by omega) y2, ?_⟩))⟩
      rw [pk_sub hsj]
      refine b_le (by omega) (by omega) (fun z => ⟨_, R2.fg (by omega) (by omega) y1, h2, (by rw [nI_add]; exact p2), ?_⟩) (fun z => ⟨R2.1.1, e_next R2 ht (by omega) y1 (fun q => by omega) (fun _ y ey => ⟨_, R2.fg (by omega) (by omega) y1, h2, (by rw [nI_add]; exact p2), ?_⟩)⟩)
      · rw [show min (j + 1 - s) 12 = min (j - s) 12 by omega] at hm
        exact hm
      · subst ey
        rw [nI_l (by omega), lN_mul, lN_add, lN_sub (by omega), show min (j - s) 12 = j - s by omega]
        rw [show min (j + 1 - s) 12 = (j - s) + 1 by omega] at hm
        unfold nval at hm
        rw [show s + (j - s) = j by omega] at hm
        rw [show 10 * nval X s (j - s) + X j - 48 = 10 * nval X s (j - s) + (X j - 48) by omega]
        exact hm
  have r := key (b - s) s h1 e1 (by have := U.1; omega) (Nat.le_refl _) fr1 R1 x1 x2 x3
  rw [Nat.sub_self] at r
  exact r
end WR
