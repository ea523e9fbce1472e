/-! the class: what is read of Sight once it is worked out -/
theorem s3 : ∀ c, c < 4 → (((nI 3 * nI c) &&& 31 : Int32).toBitVec.smod 32).toNat = 3 * c := by decide +kernel
theorem o_shr {a d : Nat} {D : Int32} (hD : (D.toBitVec.smod 32).toNat = d) (h : a < 2 ^ 30) : nI a >>> D = nI (a / 2 ^ d) := by
  have hd : a / 2 ^ d ≤ a := Nat.div_le_self _ _
  apply Int32.toInt_inj.mp
  have e : (nI a >>> D).toInt = (nI a).toInt >>> d := by
    rw [← hD]
    exact BitVec.toInt_sshiftRight ..
  rw [e, Int.shiftRight_eq_div_pow, nI_toInt (by omega), nI_toInt (by omega)]
  rfl
theorem o_and (a b : Nat) : nI a &&& nI b = nI (a &&& b) := by
  apply Int32.toBitVec_inj.1
  show BitVec.ofNat 32 a &&& BitVec.ofNat 32 b = BitVec.ofNat 32 (a &&& b)
  apply BitVec.eq_of_getLsbD_eq
  intro i hi
  simp [hi]
theorem c_outcomeOf {K : Int32 → Hp → Prop} {h : Hp} {a c : Nat} (ha : a < 4096) (hc : c < 4) (hk : K (nI (ou a c)) h) : wp_X8_outcomeOf (nI a) (nI c) K h := by
  show K ((nI a >>> (((nI 3) * nI c) &&& 31)) &&& (nI 7)) h
  rw [o_shr (s3 c hc) (by omega), o_and, show 7 = 2 ^ 3 - 1 from rfl, Nat.and_two_pow_sub_one_eq_mod, p8]
  exact hk
theorem cnt_stop {p : Nat → Bool} {e : Nat} : ∀ {n : Nat}, e ≤ n → (∀ i, e ≤ i → i < n → p i = false) → cnt p n = cnt p e
  | 0, h, _ => by rw [show e = 0 by omega]
  | n + 1, h, hf => by
    by_cases z : e = n + 1
    · rw [z]
    · rw [cnt_f (by rw [hf n (by omega) (by omega)]; decide)]
      exact cnt_stop (by omega) (fun i h1 h2 => hf i h1 (by omega))
theorem run_len {T : Nat → Nat} {p i : Nat} (hi : i < T 0) (h40 : T 0 ≤ 40) : rl T p i ≤ 40 := by
  have hf := fst_le (V := T) (p := p) i
  have h1 := cntU_le (V := T) (p := p) _ (fst T p i) (by omega) rfl
  rw [rl_fst (p := p) i hi] at h1
  omega
/-- the j-th one of those that p holds of, from i on -/
def sel (p : Nat → Bool) (j : Nat) : Nat → Nat → Option Nat
  | _, 0 => none
  | i, f + 1 => if p i = true ∧ cnt p i = j then some i else sel p j (i + 1) f
section S5
variable {h0 h : Hp} {s : Nat} {T : Nat → Nat} {F : Nat → Nat → Int32}
theorem c_cardsChanging {K : Int32 → Hp → Prop} (S : SO h0 s T) (w : SR h0 h s F) (o : okC T) (W : WK T F) (hk : K (nI (cnt (fun i => decide (chs T i ≠ 0 ∧ ¬ (0 = 1 ∧ lok T i = true))) (T 0))) h) : wp_X4_cardsChanging s K h := by
  have h40 := o.1
  refine for_up (fun n i => wp_X4_cardsChanging_4 K s n (nI (cnt (fun i => decide (chs T i ≠ 0 ∧ ¬ (0 = 1 ∧ lok T i = true))) i)) (nI i) h) (T 0) 0 (Nat.zero_le _) (fun n => ?_) (fun n i _ hi ih => ?_)
  · exact ⟨_, S.b w, _, (S.B w).cards, b_le (by omega) (by omega) (fun _ => hk) (fun q => by omega)⟩
  · have c12 := w.gz (i := i) (by omega)
    rw [W.2.2.2 i hi] at c12
    refine ⟨_, S.b w, _, (S.B w).cards, b_le (by omega) (by omega) (fun q => by omega) (fun _ => ⟨_, S.f w (k := 12) (by omega), _, c12, br_b (fun q y ey => ?_) (fun q y ey x ex => ?_)⟩)⟩
    · subst ey
      rw [cnt_f (fun z => q (of_decide_eq_true z).1)] at ih
      rw [nI_add]
      exact ih
    · subst ey; subst ex
      rw [cnt_t (decide_eq_true ⟨q, fun z => by omega⟩)] at ih
      rw [nI_add, nI_add]
      exact ih
theorem c_unseenChanging {K : Int32 → Hp → Prop} (S : SO h0 s T) (w : SR h0 h s F) (o : okC T) (d : okD T) (W : WK T F) (hk : K (nI (cnt (fun i => decide (chs T i ≠ 0 ∧ ¬ (1 = 1 ∧ lok T i = true))) (T 0))) h) : wp_X4_unseenChanging s K h := by
  have h40 := o.1
  refine for_up (fun n i => wp_X4_unseenChanging_4 K s n (nI (cnt (fun i => decide (chs T i ≠ 0 ∧ ¬ (1 = 1 ∧ lok T i = true))) i)) (nI i) h) (T 0) 0 (Nat.zero_le _) (fun n => ?_) (fun n i _ hi ih => ?_)
  · exact ⟨_, S.b w, _, (S.B w).cards, b_le (by omega) (by omega) (fun _ => hk) (fun q => by omega)⟩
  · have c12 := w.gz (i := i) (by omega)
    rw [W.2.2.2 i hi] at c12
    have hs := (d i (by omega)).2.2.2.1
    have no : ¬ (chs T i ≠ 0 ∧ ¬ (1 = 1 ∧ lok T i = true)) → ∀ y : Int32, y = nI i + nI 1 → wp_X4_unseenChanging_4 K s n (nI (cnt (fun i => decide (chs T i ≠ 0 ∧ ¬ (1 = 1 ∧ lok T i = true))) i)) y h := by
      intro q y ey
      subst ey
      rw [cnt_f (fun z => q (of_decide_eq_true z))] at ih
      rw [nI_add]
      exact ih
    refine ⟨_, S.b w, _, (S.B w).cards, b_le (by omega) (by omega) (fun q => by omega) (fun _ => ⟨_, S.f w (k := 12) (by omega), _, c12, br_b (fun q => no (fun z => q z.1)) (fun q => ⟨_, S.b w, _, (S.B w).fs, _, (S.B w).s (by omega), b_eq (by omega) (by omega) (fun z => no (fun y => y.2 ⟨rfl, by simpa [lok] using z⟩)) (fun z y ey x ex => ?_)⟩)⟩)⟩
    subst ey; subst ex
    rw [cnt_t (decide_eq_true ⟨q, fun y => z (by simpa [lok] using y.2)⟩)] at ih
    rw [nI_add, nI_add]
    exact ih
theorem c_inPool {K : Int32 → Hp → Prop} (S : SO h0 s T) (w : SR h0 h s F) (o : okC T) (d : okD T) (W : WK T F) {i : Nat} (hi : i < T 0) (hk : K (bI (inP T i = true)) h) : wp_X4_inPool s (nI i) K h := by
  have h40 := o.1
  have hs := (d i (by omega)).2.2.2.1
  have c12 := w.gz (i := i) (by omega)
  rw [W.2.2.2 i hi] at c12
  have c11 := w.g (k := 11) (i := i) (by omega) (by omega) (by show _ < 40; omega)
  rw [(W.2.2.1 i hi).2.2, dbL_b] at c11
  have g1 := dbb_lt T i 4
  have ht : inP T i = true → K (nI 1) h := fun q => by rw [bI_t q] at hk; exact hk
  have hf : ¬ inP T i = true → K (nI 0) h := fun q => by rw [bI_f q] at hk; exact hk
  have hiff : inP T i = true ↔ (T (9 + 5 * i + 3) = 0 ∧ (dbb T i 4 ≠ 0 ∨ chs T i ≠ 0)) := ⟨fun q => of_decide_eq_true q, fun q => decide_eq_true q⟩
  refine ⟨fun q => absurd q (by rw [nI_0]; exact nI_pos (by omega)), fun _ => ⟨_, S.b w, _, (S.B w).cards, b_le (by omega) (by omega) (fun q => by omega) (fun _ => ⟨_, S.b w, _, (S.B w).fs, _, (S.B w).s (by omega), b_eq (b := 0) (by omega) (by omega) (fun q => ⟨_, S.f w (k := 11) (by omega), _, c11, b_ne (b := 0) (by omega) (by omega) (fun z => ht (hiff.mpr ⟨q, Or.inl z⟩)) (fun z => ⟨_, S.f w (k := 12) (by omega), _, c12, br_b (fun y => hf (fun u => ?_)) (fun y => ht (hiff.mpr ⟨q, Or.inr y⟩))⟩)⟩) (fun q => hf (fun u => q (hiff.mp u).1))⟩)⟩⟩
  rcases (hiff.mp u).2 with v | v
  · exact v z
  · exact y v
theorem c_placeInPool {K : Int32 → Hp → Prop} (S : SO h0 s T) (w : SR h0 h s F) (o : okC T) (d : okD T) (W : WK T F) {e : Nat} (he : e ≤ T 0) (hk : K (nI (cnt (inP T) e)) h) : wp_X4_placeInPool s (nI e) K h := by
  have h40 := o.1
  refine for_up (fun n i => wp_X4_placeInPool_4 K s (nI e) n (nI (cnt (inP T) i)) (nI i) h) e 0 (Nat.zero_le _) (fun n => ?_) (fun n i _ hi ih => ?_)
  · exact b_le (by omega) (by omega) (fun _ => hk) (fun q => by omega)
  · refine b_le (by omega) (by omega) (fun q => by omega) (fun _ => ⟨_, S.b w, _, (S.B w).cards, b_le (by omega) (by omega) (fun q => by omega) (fun _ => ⟨S.o w, c_inPool S w o d W (by omega) (br_b (fun q y ey => ?_) (fun q y ey x ex => ?_))⟩)⟩)
    · subst ey
      rw [cnt_f q] at ih
      rw [nI_add]
      exact ih
    · subst ey; subst ex
      rw [cnt_t q] at ih
      rw [nI_add, nI_add]
      exact ih
theorem c_poolSize {K : Int32 → Hp → Prop} (S : SO h0 s T) (w : SR h0 h s F) (o : okC T) (d : okD T) (W : WK T F) (hk : K (nI (cnt (inP T) (T 0))) h) : wp_X4_poolSize s K h :=
  ⟨_, S.b w, _, (S.B w).cards, S.o w, c_placeInPool S w o d W (Nat.le_refl _) hk⟩
theorem c_poolCard {K : Int32 → Hp → Prop} (S : SO h0 s T) (w : SR h0 h s F) (o : okC T) (d : okD T) (W : WK T F) {j : Nat} (hj : j < 2 ^ 31) (hk : K (enc (sel (inP T) j 0 (T 0))) h) : wp_X4_poolCard s (nI j) K h := by
  have h40 := o.1
  have key : ∀ f i, i + f = T 0 → K (enc (sel (inP T) j i f)) h → ∃ n, wp_X4_poolCard_4 K s (nI j) n (nI (cnt (inP T) i)) (nI i) h := by
    intro f
    induction f with
    | zero =>
      intro i hif hk
      exact ⟨1, _, S.b w, _, (S.B w).cards, b_le (by omega) (by omega) (fun _ => hk) (fun q => by omega)⟩
    | succ f ih =>
      intro i hif hk
      have hc := cnt_le (inP T) i
      unfold sel at hk
      by_cases z : inP T i = true ∧ cnt (inP T) i = j
      · rw [if_pos z] at hk
        exact ⟨1, _, S.b w, _, (S.B w).cards, b_le (by omega) (by omega) (fun q => by omega) (fun _ => ⟨S.o w, c_inPool S w o d W (by omega) (br_n (fun q => b_ne (by omega) (by omega) (fun y => absurd z.2 y) (fun _ => hk)) (fun q => absurd z.1 q))⟩)⟩
      · rw [if_neg z] at hk
        obtain ⟨n, hn⟩ := ih (i + 1) (by omega) hk
        refine ⟨n + 1, _, S.b w, _, (S.B w).cards, b_le (by omega) (by omega) (fun q => by omega) (fun _ => ⟨S.o w, c_inPool S w o d W (by omega) (br_n (fun q => b_ne (by omega) (by omega) (fun y x ex u eu => ?_) (fun y => absurd ⟨q, y⟩ z)) (fun q x ex => ?_))⟩)⟩
        · subst ex; subst eu
          rw [cnt_t q] at hn
          rw [nI_add, nI_add]
          exact hn
        · subst ex
          rw [cnt_f q] at hn
          rw [nI_add]
          exact hn
  exact key (T 0) 0 (by omega) hk
theorem c_streaks {K : Int32 → Hp → Prop} (S : SO h0 s T) (w : SR h0 h s F) (o : okC T) (W : WK T F) (hk : K (nI (cnt (stk T) (12 * T 0))) h) : wp_X4_streaks s K h := by
  have h40 := o.1
  have h2 := o.2.2.1
  have n0 : gI h (s + 1 + 7) 0 (nI 0) = some (nI (T 2)) := (S.B w).n (i := 0) (by omega)
  refine for_up (fun n i => wp_X4_streaks_4 K s n (nI (cnt (stk T) (12 * i))) (nI i) h) (T 0) 0 (Nat.zero_le _) (fun n => ?_) (fun n i _ hi ih => ?_)
  · exact ⟨_, S.b w, _, (S.B w).cards, b_le (by omega) (by omega) (fun _ => hk) (fun q => by omega)⟩
  · refine ⟨_, S.b w, _, (S.B w).cards, b_le (by omega) (by omega) (fun q => by omega) (fun _ => ?_)⟩
    refine for_up (fun m p => wp_X4_streaks_17 K (fun z0 z1 h => wp_X4_streaks_4 K s n z0 z1 h) s (nI i) m (nI (cnt (stk T) (12 * i + p))) (nI p) h) 12 0 (by omega) (fun m => ?_) (fun m p _ hp ih2 => ?_)
    · refine b_le (by omega) (by omega) (fun _ y ey => ?_) (fun q => by omega)
      subst ey
      rw [nI_add]
      exact ih
    · have R := W.2.1 p hp i hi
      have c3 := w.g (k := 3) (i := i * 12 + p) (by omega) (by omega) (by show _ < 480; omega)
      rw [R.1] at c3
      have c5 := w.g (k := 5) (i := i * 12 + p) (by omega) (by omega) (by show _ < 480; omega)
      rw [R.2.2.1] at c5
      have hf := fst_le (V := T) (p := p) i
      have hrl := run_len (p := p) hi h40
      have hrz : rlz T p i ≤ 40 := by unfold rlz; split <;> omega
      have e1 : (12 * i + p) % 12 = p := by omega
      have e2 : (12 * i + p) / 12 = i := by omega
      have hs : stk T (12 * i + p) = true ↔ (fst T p i = i ∧ T 2 ≤ rlz T p i) := by
        unfold stk rlz
        rw [e1, e2]
        constructor
        · intro q
          obtain ⟨q1, q2, q3⟩ := of_decide_eq_true q
          exact ⟨q2, by rw [if_neg (by omega)]; exact q3⟩
        · rintro ⟨q1, q2⟩
          by_cases z : rd T p i = 0
          · rw [if_pos z] at q2; omega
          · rw [if_neg z] at q2; exact decide_eq_true ⟨by omega, q1, q2⟩
      have no : ¬ stk T (12 * i + p) = true → ∀ y : Int32, y = nI p + nI 1 → wp_X4_streaks_17 K (fun z0 z1 h => wp_X4_streaks_4 K s n z0 z1 h) s (nI i) m (nI (cnt (stk T) (12 * i + p))) y h := by
        intro q y ey
        subst ey
        rw [← Nat.add_assoc, cnt_f q] at ih2
        rw [nI_add]
        exact ih2
      refine b_le (by omega) (by omega) (fun q => by omega) (fun _ y ey => ?_)
      rw [nI_mul, nI_add] at ey
      subst ey
      refine ⟨_, S.f w (k := 3) (by omega), _, c3, b_ne (by omega) (by omega) (fun q => no (fun z => q (hs.mp z).1)) (fun q => ⟨_, S.f w (k := 5) (by omega), _, c5, _, S.b w, _, (S.B w).fn, _, n0, b_lt (by omega) (by omega) (fun z => no (fun y => by have := (hs.mp y).2; omega)) (fun z y ey x ex => ?_)⟩)⟩
      subst ey; subst ex
      rw [← Nat.add_assoc, cnt_t (hs.mpr ⟨q, z⟩)] at ih2
      rw [nI_add, nI_add]
      exact ih2
/-- a card's outcomes, now or in a version -/
def pkv (T : Nat → Nat) (v : Option Nat) (i : Nat) : Nat := match v with
  | none => pkd T (T 2) i
  | some v => T (209 + 41 * v + 1 + i)
theorem c_outcomesIn {K : Int32 → Hp → Prop} (S : SO h0 s T) (w : SR h0 h s F) (o : okC T) (W : WK T F) {v : Option Nat} (hv : ∀ x, v = some x → x < T 1) {i : Nat} (hi : i < T 0) (hk : K (nI (pkv T v i)) h) : wp_X4_outcomesIn s (vI v) (nI i) K h := by
  have h40 := o.1
  have h1 := o.2.1
  have c10 := w.g (k := 10) (i := i) (by omega) (by omega) (by show _ < 40; omega)
  rw [(W.2.2.1 i hi).2.1] at c10
  refine ⟨_, S.b w, (S.B w).o, c_hasC (S.B w) h40 (by omega) (br_n (fun _ => ?_) (fun q => absurd hi q))⟩
  cases v with
  | none => exact ⟨fun q => absurd rfl q, fun _ => ⟨_, S.f w (k := 10) (by omega), _, c10, hk⟩⟩
  | some v =>
    have hv := hv v rfl
    refine ⟨fun _ => ⟨_, S.b w, (S.B w).o, c_outcomesInB (S.B w) o hv hi hk⟩, fun q => ?_⟩
    have q2 := congrArg Int32.toInt q
    rw [show vI (some v) = nI v from rfl, nI_toInt (by omega), m1T] at q2
    omega
theorem pkv_lt (ee : okE T) (o : okC T) {v : Option Nat} (hv : ∀ x, v = some x → x < T 1) {i : Nat} (hi : i < 40) : pkv T v i < 4096 := by
  have h1 := o.2.1
  cases v with
  | none => exact pkd_lt _ _ _
  | some v => have := hv v rfl; exact (ee v (by omega)).2 i hi
theorem ocv_pkv {c : Nat} (hc : c < 4) {v : Option Nat} {i : Nat} (hi : i < T 0) : ocv T c v i = if i < vcs T v then some (ou (pkv T v i) c) else none := by
  cases v with
  | none =>
    unfold ocv vcs pkv
    dsimp only
    rw [if_pos hi, ou_pk _ _ _ c hc]
  | some v => rfl
theorem c_cardsWith {K : Int32 → Hp → Prop} (S : SO h0 s T) (w : SR h0 h s F) (o : okC T) (d : okD T) (ee : okE T) (W : WK T F) {c t : Nat} (hc : c < 4) (ht : t < 2 ^ 31) {v m : Option Nat} (hv : ∀ x, v = some x → x < T 1) (hm : ∀ x, m = some x → x < 2 ^ 31) (hk : K (nI (cnt (tlp T c t v m) (T 0))) h) : wp_X4_cardsWith s (nI c) (nI t) (vI v) (vI m) K h := by
  have h40 := o.1
  have h1 := o.2.1
  have hvc : vcs T v ≤ 40 := by
    cases v with
    | none => exact h40
    | some v => have := hv v rfl; exact (ee v (by omega)).1
  have hst : ∀ e, e ≤ T 0 → vcs T v ≤ e → nI (cnt (tlp T c t v m) e) = nI (cnt (tlp T c t v m) (T 0)) := fun e he hve => by
    rw [cnt_stop he (fun i h2 h3 => ?_)]
    unfold tlp
    rw [ocv_pkv hc h3, if_neg (by omega)]
    simp
  refine ⟨min (T 0) (vcs T v) + 1, ?_⟩
  have key : ∀ k i, i + k = min (T 0) (vcs T v) → wp_X4_cardsWith_6 K s (nI c) (nI t) (vI v) (vI m) (k + 1) (nI (cnt (tlp T c t v m) i)) (nI i) h := by
    intro k
    induction k with
    | zero =>
      intro i hik
      refine ⟨_, S.b w, _, (S.B w).cards, b_le (by omega) (by omega) (fun q => ?_) (fun q => ⟨_, S.b w, (S.B w).o, c_cardsIn (S.B w) o hv (b_le (by omega) (by omega) (fun z => ?_) (fun z => by omega))⟩)⟩
      · rw [show i = T 0 by omega]; exact hk
      · rw [hst i (by omega) (by omega)]; exact hk
    | succ k ih =>
      intro i hik
      have hi : i < T 0 := by omega
      have ih := ih (i + 1) (by omega)
      have hm3 := (d i (by omega)).1
      have hp := pkv_lt ee o hv (i := i) (by omega)
      have hs : tlp T c t v m i = true ↔ ((∀ x, m = some x → T (9 + 5 * i) = x) ∧ ou (pkv T v i) c = t) := by
        unfold tlp
        rw [ocv_pkv hc hi, if_pos (by omega)]
        constructor
        · intro q
          obtain ⟨q1, q2⟩ := of_decide_eq_true q
          exact ⟨q1, Option.some.inj q2⟩
        · rintro ⟨q1, q2⟩
          exact decide_eq_true ⟨q1, by rw [q2]⟩
      have no : ¬ tlp T c t v m i = true → ∀ y : Int32, y = nI i + nI 1 → wp_X4_cardsWith_6 K s (nI c) (nI t) (vI v) (vI m) (k + 1) (nI (cnt (tlp T c t v m) i)) y h := by
        intro q y ey
        subst ey
        rw [cnt_f q] at ih
        rw [nI_add]
        exact ih
      have w0 : (¬ ∀ x, m = some x → T (9 + 5 * i) = x) → wp_X4_cardsWith_57 K (fun z0 z1 h => wp_X4_cardsWith_6 K s (nI c) (nI t) (vI v) (vI m) (k + 1) z0 z1 h) s (nI c) (nI t) (vI v) (vI m) (nI (cnt (tlp T c t v m) i)) (nI i) (nI 0) h := fun q =>
        ⟨fun _ => no (fun z => q (hs.mp z).1), fun q => absurd rfl q⟩
      have w1 : (∀ x, m = some x → T (9 + 5 * i) = x) → wp_X4_cardsWith_57 K (fun z0 z1 h => wp_X4_cardsWith_6 K s (nI c) (nI t) (vI v) (vI m) (k + 1) z0 z1 h) s (nI c) (nI t) (vI v) (vI m) (nI (cnt (tlp T c t v m) i)) (nI i) (nI 1) h := fun q =>
        ⟨fun z => absurd z (by decide), fun _ => ⟨S.o w, c_outcomesIn S w o W hv hi (c_outcomeOf hp hc (b_ne (Nat.lt_trans (ou_lt _ _) (by omega)) ht (fun z => no (fun y => z (hs.mp y).2)) (fun z y ey x ex => by
          subst ey; subst ex
          rw [cnt_t (hs.mpr ⟨q, z⟩)] at ih
          rw [nI_add, nI_add]
          exact ih)))⟩⟩
      refine ⟨_, S.b w, _, (S.B w).cards, b_le (by omega) (by omega) (fun q => by omega) (fun _ => ⟨_, S.b w, (S.B w).o, c_cardsIn (S.B w) o hv (b_le (by omega) (by omega) (fun z => by omega) (fun _ => ?_))⟩)⟩
      cases m with
      | none => exact ⟨fun _ => w1 (fun x hx => by cases hx), fun q => absurd rfl q⟩
      | some x =>
        have hx := hm x rfl
        refine ⟨fun q => ?_, fun _ => ⟨_, S.b w, _, (S.B w).fm, _, (S.B w).m (by omega), b_ne (by omega) hx (fun z => w0 (fun y => z (y x rfl))) (fun z => w1 (fun y hy => by cases hy; exact z))⟩⟩
        have q2 := congrArg Int32.toInt q
        rw [show vI (some x) = nI x from rfl, nI_toInt hx, m1T] at q2
        omega
  exact key _ 0 (by omega)
end S5
