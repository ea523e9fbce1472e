/-! the questions, on both sides -/
theorem tk {p A B : Prop} (y : p) (a : A) : (p → A) ∧ (¬ p → B) := ⟨fun _ => a, fun q => absurd y q⟩
theorem sk {p A B : Prop} (n : ¬ p) (b : B) : (p → A) ∧ (¬ p → B) := ⟨fun q => absurd q n, fun _ => b⟩
theorem tkn {p A B : Prop} (y : p) (b : B) : (¬ p → A) ∧ (p → B) := ⟨fun q => absurd y q, fun _ => b⟩
theorem skn {p A B : Prop} (n : ¬ p) (a : A) : (¬ p → A) ∧ (p → B) := ⟨fun _ => a, fun q => absurd q n⟩
theorem b0 {p A B : Prop} [Decidable p] (n : ¬ p) (a : A) : (bI p = nI 0 → A) ∧ (¬ bI p = nI 0 → B) := br_b (fun _ => a) (fun q => absurd q n)
theorem b1 {p A B : Prop} [Decidable p] (y : p) (b : B) : (bI p = nI 0 → A) ∧ (¬ bI p = nI 0 → B) := br_b (fun q => absurd y q) (fun _ => b)
theorem n0 {p A B : Prop} [Decidable p] (n : ¬ p) (b : B) : (¬ bI p = nI 0 → A) ∧ (bI p = nI 0 → B) := br_n (fun q => absurd q n) (fun _ => b)
theorem n1 {p A B : Prop} [Decidable p] (y : p) (a : A) : (¬ bI p = nI 0 → A) ∧ (bI p = nI 0 → B) := br_n (fun _ => a) (fun q => absurd y q)
theorem bI_post {p : Prop} [Decidable p] {K : Int32 → Hp → Prop} {h : Hp} (hk : K (bI p) h) : (bI p = nI 0 → K (nI 0) h) ∧ (¬ bI p = nI 0 → K (nI 1) h) :=
  br_b (fun q => by rw [bI_f q] at hk; exact hk) (fun q => by rw [bI_t q] at hk; exact hk)
theorem c_within {K : Int32 → Hp → Prop} {h : Hp} {x : Int32} {a b : Nat} (ha : a < 2 ^ 31) (hb : b < 2 ^ 31) (hk : K (bI ((a : Int) ≤ x.toInt ∧ x.toInt ≤ (b : Int))) h) : wp_X8_within x (nI a) (nI b) K h := by
  have e1 := nI_toInt ha
  have e2 := nI_toInt hb
  refine ⟨fun q => ?_, fun q => ⟨fun z => ?_, fun z => ?_⟩⟩
  · rw [lt32, e1] at q
    rw [bI_f (by omega)] at hk
    exact hk
  · rw [lt32, e2] at z
    rw [bI_f (by omega)] at hk
    exact hk
  · rw [lt32] at q z
    rw [bI_t (by omega)] at hk
    exact hk
theorem e_inN {K : Int32 → Hp → Prop} {h : Hp} {x : Int32} {a b : Nat} (ha : a < 2 ^ 31) (hb : b < 2 ^ 31) (hk : K (bI ((a : Int) ≤ x.toInt ∧ x.toInt ≤ (b : Int))) h) : wp_X9_in (Int32.toInt64 x) (lN a) (lN b) K h := by
  refine e_in ?_
  rw [bI_c (q := (a : Int) ≤ x.toInt ∧ x.toInt ≤ (b : Int)) (by rw [le64, le64, toI64, lNT (by omega), lNT (by omega)])]
  exact hk
theorem e_isPlace {K : Int32 → Hp → Prop} {h : Hp} {x : Int32} (hk : K (bI (((0 : Nat) : Int) ≤ x.toInt ∧ x.toInt ≤ ((11 : Nat) : Int))) h) : wp_X9_isPlace x K h :=
  e_inN (by omega) (by omega) ⟨bI_01 _, hk⟩
theorem e_isVersion {K : Int32 → Hp → Prop} {h : Hp} {M : Nat} {V : Nat → Nat} (R : RM h M V) (h1 : V 1 ≤ 6) {x : Int32} (hk : K (bI (0 ≤ x.toInt ∧ x.toInt < (V 1 : Int))) h) : wp_X9_isVersion M x K h := by
  refine ⟨_, R.2.1, _, R.at 1 rfl (by omega), e_in ?_⟩
  refine ⟨bI_01 _, ?_⟩
  rw [bI_c (q := 0 ≤ x.toInt ∧ x.toInt < (V 1 : Int))]
  · exact hk
  · rw [le64, le64, toI64]
    have e : (lN (V 1) - lN 1).toInt = (V 1 : Int) - 1 := by
      by_cases z : V 1 = 0
      · rw [z]; decide
      · rw [lN_sub (by omega), lNT (by omega)]; omega
    rw [e, lNT (by omega)]
    omega
/-- a version that may be asked for: now, or one there is -/
def vOf (V : Nat → Nat) (x : Int32) : Option (Option Nat) := if x = -1 then some none else if 0 ≤ x.toInt ∧ x.toInt < (V 1 : Int) then some (some x.toInt.toNat) else none
theorem vOf_some {V : Nat → Nat} {x : Int32} {v : Option Nat} (e : vOf V x = some v) : x = vI v ∧ ∀ w, v = some w → w < V 1 := by
  unfold vOf at e
  split at e
  · rename_i q
    cases e
    exact ⟨q, fun w hw => by cases hw⟩
  · split at e
    · rename_i q
      cases e
      obtain ⟨j, h1, rfl, h3⟩ := of_toI q.1
      rw [h3]
      refine ⟨rfl, fun w hw => ?_⟩
      cases hw
      omega
    · cases e
theorem e_isAsked {K : Int32 → Hp → Prop} {h : Hp} {M : Nat} {V : Nat → Nat} (R : RM h M V) (h1 : V 1 ≤ 6) {c x : Int32} (hk : K (bI ((((0 : Nat) : Int) ≤ c.toInt ∧ c.toInt ≤ ((3 : Nat) : Int)) ∧ (vOf V x).isSome = true)) h) : wp_X9_isAsked M c x K h := by
  refine e_inN (by omega) (by omega) (br_b (fun q => ?_) (fun q => ⟨fun z => ?_, fun z => ⟨R.1, e_isVersion R h1 (br_b (fun y => ?_) (fun y => ?_))⟩⟩))
  · rw [bI_f (fun y => q y.1)] at hk; exact hk
  · rw [bI_t ⟨q, by unfold vOf; rw [if_pos z]; rfl⟩] at hk; exact hk
  · rw [bI_f (fun u => by have u := u.2; unfold vOf at u; rw [if_neg z, if_neg y] at u; cases u)] at hk; exact hk
  · rw [bI_t ⟨q, by unfold vOf; rw [if_neg z, if_pos y]; rfl⟩] at hk; exact hk
def CQ (h : Hp) (z : Nat) (V : Nat → Nat) (F : Nat → Nat → Int32) : Prop := gF h z 8 1 = some (.ref (z + 2)) ∧ gF h z 8 2 = some (.ref (z + 2 + 1)) ∧ SO h (z + 2) V ∧ SR h h (z + 2) F
section CQs
variable {h h' : Hp} {z : Nat} {V : Nat → Nat} {F F' : Nat → Nat → Int32}
theorem CQ.g1 (C : CQ h z V F) (w : SR h h' (z + 2) F') : gF h' z 8 1 = some (.ref (z + 2)) := by rw [gF_c (w.1 z (Or.inl (by omega)))]; exact C.1
theorem CQ.g2 (C : CQ h z V F) (w : SR h h' (z + 2) F') : gF h' z 8 2 = some (.ref (z + 2 + 1)) := by rw [gF_c (w.1 z (Or.inl (by omega)))]; exact C.2.1
theorem CQ.S (C : CQ h z V F) : SO h (z + 2) V := C.2.2.1
theorem CQ.w (C : CQ h z V F) : SR h h (z + 2) F := C.2.2.2
theorem CQ.B (C : CQ h z V F) : BK h (z + 2 + 1) V := C.S.B C.w
end CQs
def Two (V : Nat → Nat) (A B : Nat → (Int32 → Hp → Prop) → Hp → Prop) : Prop := ∃ r : Int32,
  (∀ (h : Hp) (z : Nat) (F : Nat → Nat → Int32) (K : Int32 → Hp → Prop), CQ h z V F → (∀ h' F', SR h h' (z + 2) F' → K r h') → A z K h) ∧
  (∀ (h : Hp) (M : Nat) (K : Int32 → Hp → Prop), RM h M V → PL h M → (∀ h', (∀ q, q ≠ M + 4 → h' q = h q) → PL h' M → K r h') → B M K h)
section TW
variable {V : Nat → Nat}
theorem two_card (o : okC V) (d : okD V) (ee : okE V) (x y : Int32) : Two V (fun z => wp_X8_card z x y) (fun M => wp_X9_card M x y) := by
  have h40 := o.1
  by_cases hx : 0 ≤ x.toInt ∧ x.toInt < (V 0 : Int)
  · obtain ⟨i, hi31, rfl, ei⟩ := of_toI hx.1
    have hi : i < V 0 := by omega
    have di := d i (by omega)
    by_cases y0 : y = nI 0
    · refine ⟨nI (V (9 + 5 * i)), fun h z F K C hk => ⟨_, C.2.1, C.B.o, c_hasCard C.B h40 (n1 hx ⟨_, C.1, C.S.o C.w, c_workOut C.S C.w o d ee (fun h' F' w' W => tk y0 ⟨_, C.g2 w', _, (C.S.B w').fm, _, (C.S.B w').m (by omega), hk h' F' w'⟩)⟩)⟩, fun h M K R P hk => ⟨R.1, e_isCard R h40 (n1 hx (tk y0 ⟨_, R.2.1, e_c ⟨_, R.at (9 + 5 * i + 0) rfl (by omega), ?_⟩⟩))⟩⟩
      rw [lN_i]
      exact hk h (fun _ _ => rfl) P
    by_cases y1 : y = nI 1
    · refine ⟨nI (cnt (fun k => decide (V (9 + 5 * k) = V (9 + 5 * i))) i), fun h z F K C hk => ⟨_, C.2.1, C.B.o, c_hasCard C.B h40 (n1 hx ⟨_, C.1, C.S.o C.w, c_workOut C.S C.w o d ee (fun h' F' w' W => sk y0 (tk y1 ⟨_, C.g2 w', _, C.g2 w', _, (C.S.B w').fm, _, (C.S.B w').m (by omega), (C.S.B w').o, c_cardsOf (C.S.B w') o d (by omega) (by omega) (hk h' F' w')⟩))⟩)⟩, fun h M K R P hk => ⟨R.1, e_isCard R h40 (n1 hx (sk y0 (tk y1 ⟨R.1, e_placeOf R o d hi (hk h (fun _ _ => rfl) P)⟩)))⟩⟩
    by_cases y2 : y = nI 2
    · refine ⟨nI (V (9 + 5 * i + 2)), fun h z F K C hk => ⟨_, C.2.1, C.B.o, c_hasCard C.B h40 (n1 hx ⟨_, C.1, C.S.o C.w, c_workOut C.S C.w o d ee (fun h' F' w' W => sk y0 (sk y1 (tk y2 ⟨_, C.g2 w', _, (C.S.B w').fc, _, (C.S.B w').c (by omega), hk h' F' w'⟩)))⟩)⟩, fun h M K R P hk => ⟨R.1, e_isCard R h40 (n1 hx (sk y0 (sk y1 (tk y2 ⟨_, R.2.1, e_c ⟨_, R.at (9 + 5 * i + 2) rfl (by omega), ?_⟩⟩))))⟩⟩
      rw [lN_i]
      exact hk h (fun _ _ => rfl) P
    by_cases y3 : y = nI 3
    · refine ⟨nI (V (9 + 5 * i + 3)), fun h z F K C hk => ⟨_, C.2.1, C.B.o, c_hasCard C.B h40 (n1 hx ⟨_, C.1, C.S.o C.w, c_workOut C.S C.w o d ee (fun h' F' w' W => sk y0 (sk y1 (sk y2 (tk y3 ⟨_, C.g2 w', _, (C.S.B w').fs, _, (C.S.B w').s (by omega), hk h' F' w'⟩))))⟩)⟩, fun h M K R P hk => ⟨R.1, e_isCard R h40 (n1 hx (sk y0 (sk y1 (sk y2 (tk y3 ⟨_, R.2.1, e_c ⟨_, R.at (9 + 5 * i + 3) rfl (by omega), ?_⟩⟩)))))⟩⟩
      rw [lN_i]
      exact hk h (fun _ _ => rfl) P
    by_cases y4 : y = nI 4
    · refine ⟨nI (dbs V i), fun h z F K C hk => ⟨_, C.2.1, C.B.o, c_hasCard C.B h40 (n1 hx ⟨_, C.1, C.S.o C.w, c_workOut C.S C.w o d ee (fun h' F' w' W => sk y0 (sk y1 (sk y2 (sk y3 (tk y4 ⟨_, C.g1 w', _, C.S.f w' (k := 11) (by omega), nI (dbs V i), ?_, hk h' F' w'⟩)))))⟩)⟩, fun h M K R P hk => ⟨R.1, e_isCard R h40 (n1 hx (sk y0 (sk y1 (sk y2 (sk y3 (tk y4 ⟨R.1, e_doubtful R o d hi (hk h (fun _ _ => rfl) P)⟩))))))⟩⟩
      have c11 := w'.g (k := 11) (i := i) (by omega) (by omega) (by show _ < 40; omega)
      rw [(W.2.2.1 i hi).2.2, dbL_b] at c11
      exact c11
    by_cases y5 : y = nI 5
    · exact ⟨bI (inP V i = true), fun h z F K C hk => ⟨_, C.2.1, C.B.o, c_hasCard C.B h40 (n1 hx ⟨_, C.1, C.S.o C.w, c_workOut C.S C.w o d ee (fun h' F' w' W => sk y0 (sk y1 (sk y2 (sk y3 (sk y4 (tk y5 ⟨_, C.g1 w', C.S.o w', c_inPool C.S w' o d W hi (bI_post (hk h' F' w'))⟩))))))⟩)⟩, fun h M K R P hk => ⟨R.1, e_isCard R h40 (n1 hx (sk y0 (sk y1 (sk y2 (sk y3 (sk y4 (tk y5 ⟨R.1, e_isInPool R o d ee hi (bI_post (hk h (fun _ _ => rfl) P))⟩)))))))⟩⟩
    · exact ⟨-1, fun h z F K C hk => ⟨_, C.2.1, C.B.o, c_hasCard C.B h40 (n1 hx ⟨_, C.1, C.S.o C.w, c_workOut C.S C.w o d ee (fun h' F' w' W => sk y0 (sk y1 (sk y2 (sk y3 (sk y4 (sk y5 (hk h' F' w')))))))⟩)⟩, fun h M K R P hk => ⟨R.1, e_isCard R h40 (n1 hx (sk y0 (sk y1 (sk y2 (sk y3 (sk y4 (sk y5 (hk h (fun _ _ => rfl) P))))))))⟩⟩
  · exact ⟨-1, fun h z F K C hk => ⟨_, C.2.1, C.B.o, c_hasCard C.B h40 (n0 hx (hk h F C.w))⟩, fun h M K R P hk => ⟨R.1, e_isCard R h40 (n0 hx (hk h (fun _ _ => rfl) P))⟩⟩
end TW
