/-! the text's tokens, on both sides -/
def kd (c : Nat) : Nat := if 97 ≤ c ∧ c ≤ 122 then 1 else if 48 ≤ c ∧ c ≤ 57 then 2 else 3
theorem kd_le (c : Nat) : 1 ≤ kd c ∧ kd c ≤ 3 := by unfold kd; split <;> (try split) <;> omega
def SK (X : Nat → Nat) (tn a s : Nat) : Prop := a ≤ s ∧ s ≤ tn ∧ (∀ j, a ≤ j → j < s → X j = 32) ∧ (s < tn → X s ≠ 32)
def RU (X : Nat → Nat) (tn k a b : Nat) : Prop := a ≤ b ∧ b ≤ tn ∧ (∀ j, a ≤ j → j < b → kd (X j) = k) ∧ (b < tn → kd (X b) ≠ k)
theorem sk_ex (X : Nat → Nat) (tn : Nat) : ∀ d a, a + d = tn → ∃ s, SK X tn a s
  | 0, a, h => ⟨a, by omega, by omega, fun j h1 h2 => by omega, fun h => by omega⟩
  | d + 1, a, h => by
    by_cases z : X a = 32
    · obtain ⟨s, h1, h2, h3, h4⟩ := sk_ex X tn d (a + 1) (by omega)
      refine ⟨s, by omega, h2, fun j q1 q2 => ?_, h4⟩
      by_cases y : j = a
      · rw [y]; exact z
      · exact h3 j (by omega) q2
    · exact ⟨a, by omega, by omega, fun j h1 h2 => by omega, fun _ => z⟩
theorem ru_ex (X : Nat → Nat) (tn k : Nat) : ∀ d a, a + d = tn → ∃ b, RU X tn k a b
  | 0, a, h => ⟨a, by omega, by omega, fun j h1 h2 => by omega, fun h => by omega⟩
  | d + 1, a, h => by
    by_cases z : kd (X a) = k
    · obtain ⟨s, h1, h2, h3, h4⟩ := ru_ex X tn k d (a + 1) (by omega)
      refine ⟨s, by omega, h2, fun j q1 q2 => ?_, h4⟩
      by_cases y : j = a
      · rw [y]; exact z
      · exact h3 j (by omega) q2
    · exact ⟨a, by omega, by omega, fun j h1 h2 => by omega, fun _ => z⟩
theorem SK.step {X : Nat → Nat} {tn a s : Nat} (S : SK X tn a s) (h : a < s) : SK X tn (a + 1) s := ⟨by omega, S.2.1, fun j h1 h2 => S.2.2.1 j (by omega) h2, S.2.2.2⟩
theorem RU.step {X : Nat → Nat} {tn k a s : Nat} (S : RU X tn k a s) (h : a < s) : RU X tn k (a + 1) s := ⟨by omega, S.2.1, fun j h1 h2 => S.2.2.1 j (by omega) h2, S.2.2.2⟩
theorem SK.self {X : Nat → Nat} {tn a s : Nat} (S : SK X tn a s) : SK X tn s s := ⟨Nat.le_refl _, S.2.1, fun j h1 h2 => by omega, S.2.2.2⟩
/-! the class's Text at t -/
def TX (h : Hp) (t : Nat) (X : Nat → Nat) (tn : Nat) (kv sv : Int32) (en : Nat) : Prop := isO h t 7 ∧ gF h t 7 0 = some (.int (nI tn)) ∧ gF h t 7 1 = some (.int kv) ∧ gF h t 7 2 = some (.int sv) ∧ gF h t 7 3 = some (.int (nI en)) ∧ gF h t 7 4 = some (.ref (t + 1)) ∧ ∀ i, i < 140 → gI h (t + 1) 0 (nI i) = some (nI (X i))
section TXs
variable {h : Hp} {t tn en : Nat} {X : Nat → Nat} {kv sv : Int32}
theorem TX.fr {h' : Hp} (T : TX h t X tn kv sv en) (e : ∀ q, (q = t ∨ q = t + 1) → h' q = h q) : TX h' t X tn kv sv en := by
  obtain ⟨a, b, c, d, f, g, i⟩ := T
  refine ⟨isO_c (e _ (Or.inl rfl)) a, ?_, ?_, ?_, ?_, ?_, fun j hj => ?_⟩
  · rw [gF_c (e _ (Or.inl rfl))]; exact b
  · rw [gF_c (e _ (Or.inl rfl))]; exact c
  · rw [gF_c (e _ (Or.inl rfl))]; exact d
  · rw [gF_c (e _ (Or.inl rfl))]; exact f
  · rw [gF_c (e _ (Or.inl rfl))]; exact g
  · rw [gI_c (e _ (Or.inr rfl))]; exact i j hj
theorem TX.end (T : TX h t X tn kv sv en) (e' : Nat) : ∃ h', pF h t 7 3 (.int (nI e')) = some h' ∧ (∀ q, q ≠ t → h' q = h q) ∧ TX h' t X tn kv sv e' := by
  obtain ⟨a, b, c, d, f, g, i⟩ := T
  obtain ⟨h', e, oo, g', io⟩ := pF_w f (.int (nI e'))
  refine ⟨h', e, oo, io, ?_, ?_, ?_, ?_, ?_, fun j hj => ?_⟩
  · rw [g' 0, if_neg (by omega)]; exact b
  · rw [g' 1, if_neg (by omega)]; exact c
  · rw [g' 2, if_neg (by omega)]; exact d
  · rw [g' 3, if_pos rfl]
  · rw [g' 4, if_neg (by omega)]; exact g
  · rw [gI_c (oo _ (by omega))]; exact i j hj
theorem TX.kind (T : TX h t X tn kv sv en) (k' : Int32) : ∃ h', pF h t 7 1 (.int k') = some h' ∧ (∀ q, q ≠ t → h' q = h q) ∧ TX h' t X tn k' sv en := by
  obtain ⟨a, b, c, d, f, g, i⟩ := T
  obtain ⟨h', e, oo, g', io⟩ := pF_w c (.int k')
  refine ⟨h', e, oo, io, ?_, ?_, ?_, ?_, ?_, fun j hj => ?_⟩
  · rw [g' 0, if_neg (by omega)]; exact b
  · rw [g' 1, if_pos rfl]
  · rw [g' 2, if_neg (by omega)]; exact d
  · rw [g' 3, if_neg (by omega)]; exact f
  · rw [g' 4, if_neg (by omega)]; exact g
  · rw [gI_c (oo _ (by omega))]; exact i j hj
theorem TX.start (T : TX h t X tn kv sv en) (k' : Int32) : ∃ h', pF h t 7 2 (.int k') = some h' ∧ (∀ q, q ≠ t → h' q = h q) ∧ TX h' t X tn kv k' en := by
  obtain ⟨a, b, c, d, f, g, i⟩ := T
  obtain ⟨h', e, oo, g', io⟩ := pF_w d (.int k')
  refine ⟨h', e, oo, io, ?_, ?_, ?_, ?_, ?_, fun j hj => ?_⟩
  · rw [g' 0, if_neg (by omega)]; exact b
  · rw [g' 1, if_neg (by omega)]; exact c
  · rw [g' 2, if_pos rfl]
  · rw [g' 3, if_neg (by omega)]; exact f
  · rw [g' 4, if_neg (by omega)]; exact g
  · rw [gI_c (oo _ (by omega))]; exact i j hj
end TXs
theorem c_kindOf {K : Int32 → Hp → Prop} {h : Hp} {c : Nat} (hc : c < 2 ^ 31) (hk : K (nI (kd c)) h) : wp_X7_kindOf (nI c) K h := by
  unfold kd at hk
  have low : ¬ (97 ≤ c ∧ c ≤ 122) → ((nI c < (nI 48) → (K (nI 3) h)) ∧ (¬ nI c < (nI 48) → ((((nI 57) < nI c → (K (nI 3) h)) ∧ (¬ (nI 57) < nI c → (K (nI 2) h)))))) := by
    intro z
    rw [if_neg z] at hk
    refine b_lt hc (by omega) (fun q => ?_) (fun q => b_lt (by omega) hc (fun y => ?_) (fun y => ?_))
    · rw [if_neg (by omega)] at hk; exact hk
    · rw [if_neg (by omega)] at hk; exact hk
    · rw [if_pos (by omega)] at hk; exact hk
  refine b_lt hc (by omega) (fun q => low (by omega)) (fun q => b_lt (by omega) hc (fun y => low (by omega)) (fun y => ?_))
  rw [if_pos (by omega)] at hk
  exact hk
section RT1
variable {h : Hp} {t tn : Nat} {X : Nat → Nat}
theorem c_token89 {K : Hp → Prop} {k b : Nat} {sv : Int32} (ht : tn ≤ 140) (hX : ∀ i, i < tn → 1 ≤ X i ∧ X i ≤ 255) (hk3 : k < 3) (hk : ∀ h', (∀ q, q ≠ t → h' q = h q) → TX h' t X tn (nI k) sv b → K h') : ∀ d a g, a + d = b → RU X tn k a b → (∀ q, q ≠ t → g q = h q) → TX g t X tn (nI k) sv a → ∃ n, wp_X7_readToken_89 K t n g := by
  intro d
  induction d with
  | zero =>
    intro a g had R fr T
    have : a = b := by omega
    subst this
    obtain ⟨t0, t1, t2, t3, t4, t5, t6⟩ := id T
    refine ⟨1, _, t2, b_eq (by omega) (by omega) (fun q => by omega) (fun _ => ⟨_, t4, _, t1, b_le (by omega) (by have := R.2.1; omega) (fun _ => hk g fr T) (fun q => ⟨_, t5, _, t4, _, t6 a (by omega), ?_⟩)⟩)⟩
    have hc := hX a q
    refine c_kindOf (by omega) ⟨_, t2, b_ne (by have := (kd_le (X a)).2; omega) (by omega) (fun _ => hk g fr T) (fun y => absurd y (R.2.2.2 q))⟩
  | succ d ih =>
    intro a g had R fr T
    obtain ⟨t0, t1, t2, t3, t4, t5, t6⟩ := id T
    have hab : a < tn := by have := R.2.1; omega
    have hc := hX a hab
    obtain ⟨h2, e2, o2, T2⟩ := T.end (a + 1)
    obtain ⟨n, hn⟩ := ih (a + 1) h2 (by omega) (R.step (by omega)) (fun q hq => (o2 q hq).trans (fr q hq)) T2
    refine ⟨n + 1, _, t2, b_eq (by omega) (by omega) (fun q => by omega) (fun _ => ⟨_, t4, _, t1, b_le (by omega) (by omega) (fun q => by omega) (fun q => ⟨_, t5, _, t4, _, t6 a (by omega), ?_⟩)⟩)⟩
    refine c_kindOf (by omega) ⟨_, t2, b_ne (by have := (kd_le (X a)).2; omega) (by omega) (fun y => absurd (R.2.2.1 a (Nat.le_refl _) (by omega)) y) (fun _ => ⟨_, t4, h2, (by rw [nI_add]; exact e2), hn⟩)⟩
theorem c_token38 {K : Hp → Prop} {s : Nat} {kv sv : Int32} (ht : tn ≤ 140) (hX : ∀ i, i < tn → 1 ≤ X i ∧ X i ≤ 255) (hs : s ≤ tn) (T : TX h t X tn kv sv s) (hk0 : s = tn → ∀ h', (∀ q, q ≠ t → h' q = h q) → TX h' t X tn (nI 0) (nI s) s → K h') (hk1 : s < tn → ∀ h' b, (∀ q, q ≠ t → h' q = h q) → TX h' t X tn (nI (kd (X s))) (nI s) b → ((kd (X s) = 3 ∧ b = s + 1) ∨ (kd (X s) ≠ 3 ∧ RU X tn (kd (X s)) (s + 1) b)) → K h') : wp_X7_readToken_38 K t h := by
  obtain ⟨h1, e1, o1, T1⟩ := T.start (nI s)
  refine ⟨_, T.2.2.2.2.1, h1, e1, _, T1.2.2.2.2.1, _, T1.2.1, b_lt (by omega) (by omega) (fun q => ?_) (fun q => ?_)⟩
  · have hc := hX s q
    have kl := kd_le (X s)
    obtain ⟨h2, e2, o2, T2⟩ := T1.kind (nI (kd (X s)))
    obtain ⟨h3, e3, o3, T3⟩ := T2.end (s + 1)
    have fr3 : ∀ q, q ≠ t → h3 q = h q := fun q hq => (o3 q hq).trans ((o2 q hq).trans (o1 q hq))
    refine ⟨_, T1.2.2.2.2.2.1, _, T1.2.2.2.2.1, _, T1.2.2.2.2.2.2 s (by omega), c_kindOf (by omega) ⟨h2, e2, _, T2.2.2.2.2.1, h3, (by rw [nI_add]; exact e3), ?_⟩⟩
    by_cases z : kd (X s) = 3
    · exact ⟨1, _, T3.2.2.1, b_eq (by omega) (by omega) (fun _ => hk1 q h3 (s + 1) fr3 T3 (Or.inl ⟨z, rfl⟩)) (fun y => absurd z y)⟩
    · obtain ⟨b, R⟩ := ru_ex X tn (kd (X s)) (tn - (s + 1)) (s + 1) (by omega)
      exact c_token89 ht hX (by omega) (fun h' fr T' => hk1 q h' b (fun u hu => (fr u hu).trans (fr3 u hu)) T' (Or.inr ⟨z, R⟩)) (b - (s + 1)) (s + 1) h3 (by have := R.1; omega) R (fun _ _ => rfl) T3
  · obtain ⟨h2, e2, o2, T2⟩ := T1.kind (nI 0)
    exact ⟨h2, e2, hk0 (by omega) h2 (fun q hq => (o2 q hq).trans (o1 q hq)) T2⟩
theorem c_readToken {K : Hp → Prop} {a s : Nat} {kv sv : Int32} (ht : tn ≤ 140) (hX : ∀ i, i < tn → 1 ≤ X i ∧ X i ≤ 255) (S : SK X tn a s) (T : TX h t X tn kv sv a) (hk0 : s = tn → ∀ h', (∀ q, q ≠ t → h' q = h q) → TX h' t X tn (nI 0) (nI s) s → K h') (hk1 : s < tn → ∀ h' b, (∀ q, q ≠ t → h' q = h q) → TX h' t X tn (nI (kd (X s))) (nI s) b → ((kd (X s) = 3 ∧ b = s + 1) ∨ (kd (X s) ≠ 3 ∧ RU X tn (kd (X s)) (s + 1) b)) → K h') : wp_X7_readToken t K h := by
  have key : ∀ d a g, a + d = s → SK X tn a s → (∀ q, q ≠ t → g q = h q) → TX g t X tn kv sv a → ∃ n, wp_X7_readToken_0 K t n g := by
    intro d
    induction d with
    | zero =>
      intro a g had S fr T
      have : a = s := by omega
      subst this
      have hs := S.2.1
      have fin : wp_X7_readToken_38 K t g := c_token38 ht hX hs T (fun e h' fr' T' => hk0 e h' (fun q hq => (fr' q hq).trans (fr q hq)) T') (fun e h' b fr' T' r => hk1 e h' b (fun q hq => (fr' q hq).trans (fr q hq)) T' r)
      refine ⟨1, _, T.2.2.2.2.1, _, T.2.1, b_le (by omega) (by omega) (fun _ => fin) (fun q => ⟨_, T.2.2.2.2.2.1, _, T.2.2.2.2.1, _, T.2.2.2.2.2.2 a (by omega), b_ne (by have := hX a q; omega) (by omega) (fun _ => fin) (fun y => absurd y (S.2.2.2 q))⟩)⟩
    | succ d ih =>
      intro a g had S fr T
      have hs := S.2.1
      have hx := S.2.2.1 a (Nat.le_refl _) (by omega)
      obtain ⟨h2, e2, o2, T2⟩ := T.end (a + 1)
      obtain ⟨n, hn⟩ := ih (a + 1) h2 (by omega) (S.step (by omega)) (fun q hq => (o2 q hq).trans (fr q hq)) T2
      refine ⟨n + 1, _, T.2.2.2.2.1, _, T.2.1, b_le (by omega) (by omega) (fun q => by omega) (fun q => ⟨_, T.2.2.2.2.2.1, _, T.2.2.2.2.1, _, T.2.2.2.2.2.2 a (by omega), b_ne (by omega) (by omega) (fun y => absurd hx y) (fun _ => ⟨_, T.2.2.2.2.1, h2, (by rw [nI_add]; exact e2), hn⟩)⟩)⟩
  have hs := S.2.1
  have ha := S.1
  by_cases z : a = s
  · subst z
    have fin : wp_X7_readToken_38 K t h := c_token38 ht hX hs T hk0 hk1
    exact ⟨_, T.2.2.2.2.1, _, T.2.1, b_le (by omega) (by omega) (fun _ => fin) (fun q => ⟨_, T.2.2.2.2.2.1, _, T.2.2.2.2.1, _, T.2.2.2.2.2.2 a (by omega), b_ne (by have := hX a q; omega) (by omega) (fun _ => fin) (fun y => absurd y (S.2.2.2 q))⟩)⟩
  · have hx := S.2.2.1 a (Nat.le_refl _) (by omega)
    obtain ⟨h2, e2, o2, T2⟩ := T.end (a + 1)
    obtain ⟨n, hn⟩ := key (s - (a + 1)) (a + 1) h2 (by omega) (S.step (by omega)) o2 T2
    exact ⟨_, T.2.2.2.2.1, _, T.2.1, b_le (by omega) (by omega) (fun q => by omega) (fun q => ⟨_, T.2.2.2.2.2.1, _, T.2.2.2.2.1, _, T.2.2.2.2.2.2 a (by omega), b_ne (by omega) (by omega) (fun y => absurd hx y) (fun _ => ⟨_, T.2.2.2.2.1, h2, (by rw [nI_add]; exact e2), n, hn⟩)⟩)⟩
end RT1
/-! the reference -/
def ue (e : Nat → Value) (k : Nat) (v : Value) : Nat → Value := fun j => if j = k then v else e j
theorem ue_s (e : Nat → Value) (k : Nat) (v : Value) : ue e k v k = v := if_pos rfl
theorem ue_n {e : Nat → Value} {k j : Nat} {v : Value} (h : j ≠ k) : ue e k v j = e j := if_neg h
section RF
variable {h : Hp} {M n tn : Nat} {V W P X : Nat → Nat} {e : Nat → Value}
theorem RR.fset (R : RR h M V W P n X tn e) {k : Nat} (h7 : 7 ≤ k) (h17 : k < 17) (v : Value) : ∃ h', pF h M 9 k v = some h' ∧ (∀ q, q ≠ M → h' q = h q) ∧ RR h' M V W P n X tn (ue e k v) := by
  obtain ⟨h', e', oo, g, io⟩ := pF_w (R.2.2.2.2.2.2.2 k h7 h17) v
  refine ⟨h', e', oo, R.1.fw (by omega) oo g io, R.2.1.fw (by omega) oo g, R.2.2.1.fw (by omega) oo g, R.2.2.2.1.fw (by omega) oo g, ?_, ?_, fun i hi => ?_, fun j h1 h2 => ?_⟩
  · rw [g 5, if_neg (by omega)]; exact R.2.2.2.2.1
  · rw [g 6, if_neg (by omega)]; exact R.2.2.2.2.2.1
  · rw [gI_c (oo _ (by omega))]; exact R.2.2.2.2.2.2.1 i hi
  · rw [g j]
    by_cases z : j = k
    · rw [if_pos z, z, ue_s]
    · rw [if_neg z, ue_n z]; exact R.2.2.2.2.2.2.2 j h1 h2
theorem RR.fg (R : RR h M V W P n X tn e) {k : Nat} (h7 : 7 ≤ k) (h17 : k < 17) {v : Value} (ev : e k = v) : gF h M 9 k = some v := by rw [← ev]; exact R.2.2.2.2.2.2.2 k h7 h17
theorem e_next {K : Int32 → Hp → Prop} (R : RR h M V W P n X tn e) {a : Nat} (ht : tn ≤ 140) (ha : a ≤ tn) (ea : e 11 = .int (nI a)) (hk0 : a = tn → K (-9) h) (hk1 : a < tn → K (nI (X a)) h) : wp_X9_next M K h :=
  ⟨_, R.fg (by omega) (by omega) ea, _, R.2.2.2.2.2.1, b_le (by omega) (by omega) (fun q => hk0 (by omega)) (fun q => ⟨_, R.2.2.2.2.1, _, R.fg (by omega) (by omega) ea, _, R.2.2.2.2.2.2.1 a (by omega), hk1 q⟩)⟩
theorem e_begins {K : Hp → Prop} (R : RR h M V W P n X tn e) {a s : Nat} (ht : tn ≤ 140) (hX : ∀ i, i < tn → 1 ≤ X i ∧ X i ≤ 255) (S : SK X tn a s) (ea : e 11 = .int (nI a)) (hk : ∀ h' e', (∀ q, q ≠ M → h' q = h q) → RR h' M V W P n X tn e' → e' 11 = .int (nI s) → e' 12 = .int (nI s) → (∀ j, j ≠ 11 → j ≠ 12 → e' j = e j) → K h') : wp_X9_begins M K h := by
  have stop : ∀ g e1, (∀ q, q ≠ M → g q = h q) → RR g M V W P n X tn e1 → e1 11 = .int (nI s) → (∀ j, j ≠ 11 → j ≠ 12 → e1 j = e j) → ∃ v24 : Int32, gF g M 9 11 = some (.int v24) ∧ (∃ h27, pF g M 9 12 (.int v24) = some h27 ∧ (K h27)) := by
    intro g e1 fr R1 x1 x2
    obtain ⟨h2, p2, o2, R2⟩ := R1.fset (k := 12) (by omega) (by omega) (.int (nI s))
    exact ⟨_, R1.fg (by omega) (by omega) x1, h2, p2, hk h2 _ (fun q hq => (o2 q hq).trans (fr q hq)) R2 ((ue_n (by omega)).trans x1) (ue_s _ _ _) (fun j j1 j2 => (ue_n j2).trans (x2 j j1 j2))⟩
  have key : ∀ d a g e1, a + d = s → SK X tn a s → (∀ q, q ≠ M → g q = h q) → RR g M V W P n X tn e1 → e1 11 = .int (nI a) → (∀ j, j ≠ 11 → j ≠ 12 → e1 j = e j) → ∃ m, wp_X9_begins_0 K M m g := by
    intro d
    induction d with
    | zero =>
      intro a g e1 had S fr R1 x1 x2
      have : a = s := by omega
      subst this
      have hs := S.2.1
      refine ⟨1, R1.1.1, e_next R1 ht hs x1 (fun _ => skn (by decide) (stop g e1 fr R1 x1 x2)) (fun q => b_ne (by have := hX a q; omega) (by omega) (fun _ => stop g e1 fr R1 x1 x2) (fun y => absurd y (S.2.2.2 q)))⟩
    | succ d ih =>
      intro a g e1 had S fr R1 x1 x2
      have hs := S.2.1
      have hx := S.2.2.1 a (Nat.le_refl _) (by omega)
      obtain ⟨h2, p2, o2, R2⟩ := R1.fset (k := 11) (by omega) (by omega) (.int (nI (a + 1)))
      obtain ⟨m, hm⟩ := ih (a + 1) h2 _ (by omega) (S.step (by omega)) (fun q hq => (o2 q hq).trans (fr q hq)) R2 (ue_s _ _ _) (fun j j1 j2 => (ue_n j1).trans (x2 j j1 j2))
      refine ⟨m + 1, R1.1.1, e_next R1 ht (by omega) x1 (fun q => by omega) (fun q => b_ne (by omega) (by omega) (fun y => absurd hx y) (fun _ => ⟨_, R1.fg (by omega) (by omega) x1, h2, (by rw [nI_add]; exact p2), hm⟩))⟩
  have hs := S.2.1
  have ha := S.1
  by_cases z : a = s
  · subst z
    have fin := stop h e (fun _ _ => rfl) R ea (fun _ _ _ => rfl)
    exact ⟨R.1.1, e_next R ht hs ea (fun _ => skn (by decide) fin) (fun q => b_ne (by have := hX a q; omega) (by omega) (fun _ => fin) (fun y => absurd y (S.2.2.2 q)))⟩
  · have hx := S.2.2.1 a (Nat.le_refl _) (by omega)
    obtain ⟨h2, p2, o2, R2⟩ := R.fset (k := 11) (by omega) (by omega) (.int (nI (a + 1)))
    obtain ⟨m, hm⟩ := key (s - (a + 1)) (a + 1) h2 _ (by omega) (S.step (by omega)) o2 R2 (ue_s _ _ _) (fun j j1 j2 => ue_n j1)
    exact ⟨R.1.1, e_next R ht (by omega) ea (fun q => by omega) (fun q => b_ne (by omega) (by omega) (fun y => absurd hx y) (fun _ => ⟨_, R.fg (by omega) (by omega) ea, h2, (by rw [nI_add]; exact p2), m, hm⟩))⟩
end RF
