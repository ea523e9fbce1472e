/-! the reference: marks, outcomes, changes, the pool -/
theorem o_or (a b : Nat) : nI a ||| nI b = nI (a ||| b) := by
  apply Int32.toBitVec_inj.1
  show BitVec.ofNat 32 a ||| BitVec.ofNat 32 b = BitVec.ofNat 32 (a ||| b)
  apply BitVec.eq_of_getLsbD_eq
  intro i hi
  simp [hi]
theorem o_sum {a k : Nat} (b : Nat) (h : a < 2 ^ k) : nI a ||| nI (b * 2 ^ k) = nI (a + b * 2 ^ k) := by
  rw [o_or, Nat.or_comm, Nat.mul_comm, ← Nat.two_pow_add_eq_or_of_lt h, Nat.add_comm]
theorem o_0 (a : Nat) : nI a ||| nI 0 = nI a := by rw [o_or, Nat.or_zero]
theorem o_bit : ∀ k, k < 8 → (nI 1 <<< (nI k &&& 31)) = nI (1 * 2 ^ k) := by decide +kernel
theorem o_andL (a b : Nat) : lN a &&& lN b = lN (a &&& b) := by
  apply Int64.toBitVec_inj.1
  show BitVec.ofNat 64 a &&& BitVec.ofNat 64 b = BitVec.ofNat 64 (a &&& b)
  apply BitVec.eq_of_getLsbD_eq
  intro i hi
  simp [hi]
theorem o_shrL {a d : Nat} {D : Int64} (hD : (D.toBitVec.smod 64).toNat = d) (h : a < 2 ^ 62) : lN a >>> D = lN (a / 2 ^ d) := by
  have hd : a / 2 ^ d ≤ a := Nat.div_le_self _ _
  apply Int64.toInt_inj.mp
  have e : (lN a >>> D).toInt = (lN a).toInt >>> d := by
    rw [← hD]
    exact BitVec.toInt_sshiftRight ..
  rw [e, Int.shiftRight_eq_div_pow, lNT (by omega), lNT (by omega)]
  rfl
/-- the outcome in a contest, out of the packed ones -/
def ou (a c : Nat) : Nat := a / 8 ^ c % 8
theorem ou_lt (a c : Nat) : ou a c < 8 := Nat.mod_lt _ (by omega)
theorem s8 : ∀ c, c < 4 → (((Int32.toInt64 (nI 3 * nI c) &&& 63) : Int64).toBitVec.smod 64).toNat = 3 * c := by decide +kernel
theorem p8 (c : Nat) : 2 ^ (3 * c) = 8 ^ c := by rw [Nat.pow_mul]
theorem e_outcomeIn {K : Int32 → Hp → Prop} {h : Hp} {a c : Nat} (ha : a < 4096) (hc : c < 4) (hk : K (nI (ou a c)) h) : wp_X9_outcomeIn (lN a) (nI c) K h := by
  show K (Int64.toInt32 ((lN a >>> (Int32.toInt64 ((nI 3) * nI c) &&& 63)) &&& (lN 7))) h
  rw [o_shrL (s8 c hc) (by omega), o_andL, show 7 = 2 ^ 3 - 1 from rfl, Nat.and_two_pow_sub_one_eq_mod, lN_i, p8]
  exact hk
/-- the set of contests with another outcome -/
def dfb (a b : Nat) : Nat → Nat
  | 0 => 0
  | k + 1 => dfb a b k + (if ou a k = ou b k then 0 else 1 * 2 ^ k)
def df (a b : Nat) : Nat := dfb a b 4
theorem dfb_lt (a b : Nat) : ∀ k, dfb a b k < 2 ^ k
  | 0 => Nat.one_pos
  | k + 1 => by
    have := dfb_lt a b k
    unfold dfb
    rw [Nat.pow_succ]
    split <;> omega
theorem df_lt (a b : Nat) : df a b < 16 := dfb_lt a b 4
theorem df_0 {a b : Nat} (ha : a < 4096) (hb : b < 4096) : df a b = 0 ↔ a = b := by
  constructor
  · intro h
    unfold df at h
    simp only [dfb] at h
    have e : ou a 0 = ou b 0 ∧ ou a 1 = ou b 1 ∧ ou a 2 = ou b 2 ∧ ou a 3 = ou b 3 := by
      refine ⟨?_, ?_, ?_, ?_⟩ <;> (apply Classical.byContradiction; intro z; simp only [if_neg z] at h; omega)
    unfold ou at e
    omega
  · rintro rfl
    simp [df, dfb]
theorem e_differences {K : Int32 → Hp → Prop} {h : Hp} {a b : Nat} (ha : a < 4096) (hb : b < 4096) (hk : K (nI (df a b)) h) : wp_X9_differences (lN a) (lN b) K h := by
  refine for_up (fun n k => wp_X9_differences_6 K (lN a) (lN b) n (nI (dfb a b k)) (nI k) h) 4 0 (by omega) (fun n => ?_) (fun n k _ h1 ih => ?_)
  · exact b_le (by omega) (by omega) (fun _ => hk) (fun q => by omega)
  · refine b_le (by omega) (by omega) (fun q => by omega) (fun _ => e_outcomeIn ha h1 (e_outcomeIn hb h1 (b_eq (Nat.lt_trans (ou_lt _ _) (by omega)) (Nat.lt_trans (ou_lt _ _) (by omega)) (fun q y ey z ez => ?_) (fun q y ey z ez => ?_))))
    · subst ey; subst ez
      rw [o_0, nI_add]
      simp only [dfb, if_pos q, Nat.add_zero] at ih
      exact ih
    · subst ey; subst ez
      rw [o_bit k (by omega), o_sum 1 (dfb_lt a b k), nI_add]
      simp only [dfb, if_neg q] at ih
      exact ih
theorem dirt_le (V : Nat → Nat) (L p i : Nat) (hi : i < V 0) : dirt V L p i ≤ rd V p i := by
  unfold dirt
  split
  · omega
  · split
    · omega
    · have key : ∀ t j, j < V 0 → V 0 - j = t → dmD V p (lst V p j) ≤ own V p j := by
        intro t
        induction t using Nat.strongRecOn with
        | _ t ih =>
          intro j hj ht
          rw [(run_lst j hj).2.1]
          have := dmD_le (V := V) (p := p) j
          omega
      have h1 := key _ i hi rfl
      have h2 := own_le V p i
      unfold rm
      omega
/-- clear value, mark (2: marked, 1: doubted), with a least length -/
def clr (V : Nat → Nat) (L p i : Nat) : Nat := if lok V i = true then trt V p i else rd V p i - dirt V L p i
def mk (V : Nat → Nat) (L p i : Nat) : Nat := if V 3 ≤ clr V L p i then 2 else if lok V i = false ∧ V 4 ≤ clr V L p i then 1 else 0
theorem clr_lt (V : Nat → Nat) (L p i : Nat) : clr V L p i < 10 := by
  have := rd_lt V p i
  have := trt_lt V p i
  unfold clr
  split <;> omega
theorem mk_le (V : Nat → Nat) (L p i : Nat) : mk V L p i ≤ 2 := by unfold mk; split <;> (try split) <;> omega
section M3
variable {h : Hp} {M : Nat} {V : Nat → Nat}
theorem e_clear {K : Int32 → Hp → Prop} (R : RM h M V) (o : okC V) (d : okD V) {i p L : Nat} (hi : i < V 0) (hp : p < 12) (hL : L < 2 ^ 31) (hk : K (nI (clr V L p i)) h) : wp_X9_clear M (nI i) (nI p) (nI L) K h := by
  have h0 := o.1
  have di := d i (by omega)
  refine ⟨R.1, e_isLooked R (by omega) di.2.2.2.1 (br_b (fun q => ⟨R.1, e_read R (by omega) hp di.2.1 ⟨R.1, e_dirt R o d hi hp hL ?_⟩⟩) (fun q => ⟨_, R.2.1, e_c ⟨_, R.at (9 + 5 * i + 4) rfl (by omega), e_digit di.2.2.2.2 hp ?_⟩⟩))⟩
  · have hl : ¬ lok V i = true := by simpa [lok] using q
    have := dirt_le V L p i hi
    rw [pk_sub (by unfold rd at this; exact this)]
    unfold clr at hk
    rw [if_neg hl] at hk
    exact hk
  · have hl : lok V i = true := by simpa [lok] using q
    unfold clr at hk
    rw [if_pos hl] at hk
    exact hk
theorem e_mark {K : Int32 → Hp → Prop} (R : RM h M V) (o : okC V) (d : okD V) {i p L : Nat} (hi : i < V 0) (hp : p < 12) (hL : L < 2 ^ 31) (hk : K (nI (mk V L p i)) h) : wp_X9_mark M (nI i) (nI p) (nI L) K h := by
  have h0 := o.1
  have di := d i (by omega)
  have hc := clr_lt V L p i
  obtain ⟨-, -, -, o3, o4, -⟩ := id o
  refine ⟨R.1, e_clear R o d hi hp hL ⟨_, R.2.1, _, R.at 3 rfl (by omega), ll_lt (by omega) (by omega) (fun q => ⟨R.1, e_isLooked R (by omega) di.2.2.2.1 (br_n (fun z => ?_) (fun z => ⟨_, R.2.1, _, R.at 4 rfl (by omega), ll_lt (by omega) (by omega) (fun y => ?_) (fun y => ?_)⟩))⟩) (fun q => ?_)⟩⟩
  · have hl : lok V i = true := by simpa [lok] using z
    unfold mk at hk
    rw [if_neg (by omega), if_neg (by simp [hl])] at hk
    exact hk
  · unfold mk at hk
    rw [if_neg (by omega), if_neg (by omega)] at hk
    exact hk
  · have hl : lok V i = false := by simpa [lok] using z
    unfold mk at hk
    rw [if_neg (by omega), if_pos ⟨hl, y⟩] at hk
    exact hk
  · unfold mk at hk
    rw [if_pos q] at hk
    exact hk
end M3
theorem if01 (p : Prop) [Decidable p] : (if p then 1 else 0 : Nat) ≤ 1 := by split <;> omega
/-- the outcome out of three marks -/
def ocm (a b d : Nat) : Nat := 0 + (if a = 2 then 1 else 0) + (if b = 2 then 1 else 0) + (if d = 2 then 1 else 0)
def oco (a b d : Nat) : Nat := if d = 2 then 2 else if b = 2 then 1 else if a = 2 then 0 else 3
def ocd (a b d : Nat) : Nat := if (if (if 0 = 1 ∨ a = 1 then 1 else 0) = 1 ∨ b = 1 then 1 else 0) = 1 ∨ d = 1 then 1 else 0
def ocr (a b d : Nat) : Nat := if ocm a b d ≤ 1 then (if ocd a b d = 0 then oco a b d else 5) else 4
def oc (V : Nat → Nat) (L c i : Nat) : Nat := ocr (mk V L (3 * c + 0) i) (mk V L (3 * c + 1) i) (mk V L (3 * c + 2) i)
theorem ocr_le (a b d : Nat) : ocr a b d ≤ 5 := by
  unfold ocr oco
  repeat (first | omega | split)
theorem oc_le (V : Nat → Nat) (L c i : Nat) : oc V L c i ≤ 5 := ocr_le _ _ _
section M4
variable {h : Hp} {M : Nat} {V : Nat → Nat}
theorem e_oc_step {K : Int32 → Hp → Prop} (R : RM h M V) (o : okC V) (d : okD V) {i c L : Nat} (hi : i < V 0) (hc : c < 4) (hL : L < 2 ^ 31) {n m ch db k : Nat} (hk : k < 3) (hdb : db ≤ 1) (hn : wp_X9_outcomeBy_12 K M (nI i) (nI c) (nI L) n (nI (m + if mk V L (3 * c + k) i = 2 then 1 else 0)) (nI (if mk V L (3 * c + k) i = 2 then k else ch)) (nI (if db = 1 ∨ mk V L (3 * c + k) i = 1 then 1 else 0)) (nI (k + 1)) h) : wp_X9_outcomeBy_12 K M (nI i) (nI c) (nI L) (n + 1) (nI m) (nI ch) (nI db) (nI k) h := by
  refine b_le (by omega) (by omega) (fun q => by omega) (fun _ => ⟨R.1, ?_⟩)
  rw [nI_mul, nI_add]
  refine e_mark R o d hi (by omega) hL ?_
  generalize hv : mk V L (3 * c + k) i = v at hn ⊢
  have hv2 : v ≤ 2 := by rw [← hv]; exact mk_le _ _ _ _
  have fin : ∀ (x5 x6 : Nat) (s1 : Nat), x5 = ch → s1 = (if v = 2 then 1 else 0) → x6 = (if db = 1 ∨ v = 1 then 1 else 0) → wp_X9_outcomeBy_63 K (fun z0 z1 z2 z3 h => wp_X9_outcomeBy_12 K M (nI i) (nI c) (nI L) n z0 z1 z2 z3 h) M (nI i) (nI c) (nI L) (nI x5) (nI x6) (nI k) (nI v) (nI m) (nI s1) h := by
    rintro x5 x6 s1 rfl rfl rfl
    intro y ey
    subst ey
    rw [nI_add]
    refine b_ne (by omega) (by omega) (fun q z ez => ?_) (fun q z ez => ?_)
    · subst ez
      rw [nI_add]
      rw [if_neg q] at hn ⊢
      rw [if_neg q] at hn
      exact hn
    · subst ez
      rw [nI_add]
      rw [if_pos q] at hn ⊢
      rw [if_pos q] at hn
      exact hn
  refine b_ne (b := 0) (by omega) (by omega) (fun q => b_ne (by omega) (by omega) (fun z => fin _ _ _ rfl (by rw [if_neg z]) (by rw [if_pos (Or.inl (by omega))])) (fun z => fin _ _ _ rfl (by rw [if_pos z]) (by rw [if_pos (Or.inl (by omega))]))) (fun q => b_ne (by omega) (by omega) (fun z => b_ne (by omega) (by omega) (fun y => fin _ _ _ rfl (by rw [if_neg y]) (by rw [if_neg (by omega)])) (fun y => fin _ _ _ rfl (by rw [if_pos y]) (by rw [if_neg (by omega)]))) (fun z => b_ne (by omega) (by omega) (fun y => fin _ _ _ rfl (by rw [if_neg y]) (by rw [if_pos (Or.inr z)])) (fun y => by omega)))
theorem e_outcomeBy {K : Int32 → Hp → Prop} (R : RM h M V) (o : okC V) (d : okD V) {i c L : Nat} (hi : i < V 0) (hc : c < 4) (hL : L < 2 ^ 31) (hk : K (nI (oc V L c i)) h) : wp_X9_outcomeBy M (nI i) (nI c) (nI L) K h := by
  refine ⟨4, e_oc_step R o d hi hc hL (m := 0) (ch := 3) (db := 0) (k := 0) (by omega) (by omega) (e_oc_step R o d hi hc hL (k := 1) (by omega) (if01 _) (e_oc_step R o d hi hc hL (k := 2) (by omega) (if01 _) ?_))⟩
  unfold oc ocr at hk
  generalize mk V L (3 * c + 0) i = a at hk ⊢
  generalize mk V L (3 * c + 1) i = b at hk ⊢
  generalize mk V L (3 * c + 2) i = e at hk ⊢
  have hm : ocm a b e ≤ 3 := by unfold ocm; split <;> split <;> split <;> omega
  have hd : ocd a b e ≤ 1 := if01 _
  show (((nI 3) ≤ nI 3 → (((nI (ocm a b e) ≤ (nI 1) → (((nI (ocd a b e) = nI 0 → (K (nI (oco a b e)) h)) ∧ (¬ nI (ocd a b e) = nI 0 → (K (nI 5) h))))) ∧ (¬ nI (ocm a b e) ≤ (nI 1) → (K (nI 4) h))))) ∧ _)
  refine ⟨fun _ => b_le (by omega) (by omega) (fun q => ?_) (fun q => ?_), fun q => absurd (nI_le (Nat.le_refl 3) (by omega)) q⟩
  · rw [if_pos q] at hk
    refine b_eq (by omega) (by omega) (fun z => ?_) (fun z => ?_)
    · rw [if_pos z] at hk; exact hk
    · rw [if_neg z] at hk; exact hk
  · rw [if_neg (by omega)] at hk; exact hk
end M4
