/-! the class: the History and the Slots -/
theorem sQ_w {h : Hp} {a t i v : Nat} (hi : i < 2 ^ 31) (e : gQ h a t (nI i) = some v) (x : Nat) : ∃ h', sQ h a t (nI i) x = some h' ∧ (∀ q, q ≠ a → h' q = h q) ∧ (∀ j, j < 2 ^ 31 → gQ h' a t (nI j) = if j = i then some x else gQ h a t (nI j)) ∧ gN h' a = gN h a := by
  obtain ⟨n, f, hf, hin, -⟩ := gQ_of e
  have hlt : i < n := (in_iff hi).mp hin
  refine ⟨hset h a (.inl (t, n, .inr (.inr (.inr (.inr (va_up f i (some x))))))), ?_, fun q hq => hset_n hq, fun j hj => ?_, ?_⟩
  · unfold sQ
    rw [hf]
    dsimp only
    rw [if_pos ⟨rfl, hin⟩, nI_clamp hi]
  · rw [gQ_at (hset_s _ _ _) hj, gQ_at hf hj]
    by_cases z : j = i
    · subst z
      rw [if_pos rfl, if_pos hlt]
      simp [va_up]
    · rw [if_neg z]
      simp [va_up, z]
  · unfold gN
    rw [hset_s, hf]
theorem c_record {K : Hp → Prop} {h : Hp} {y n : Nat} {Q : Nat → Nat → Nat} {p : Nat → Nat} (H : HI h y n Q p) (hn : n ≤ 5) (hk : ∀ h' p', (∀ q, (q < y ∨ y + 206 ≤ q) → h' q = h q) → HI h' y (if n = 5 then 5 else n + 1) (fun j => if n = 5 then (if j < 5 then Q (j + 1) else Q 0) else Q j) p' → K h') : wp_X2_record y K h := by
  obtain ⟨⟨s0, s1, s2, s3⟩, s4, s5, s6, s7⟩ := id H
  refine ⟨_, s1, b_le (by omega) (by omega) (fun q => ⟨_, s2, _, s4 0 (by omega), ?_⟩) (fun q => ?_)⟩
  · have h5 : n = 5 := by omega
    refine for_us (fun m i (g : Hp) => wp_X2_record_28 K y (y + 2 + 34 * p 0) m (nI i) g) (fun i g => (∀ q, q ≠ y + 1 → g q = h q) ∧ gN g (y + 1) = some (nI 6) ∧ ∀ j, j < 6 → gQ g (y + 1) 4 (nI j) = some (y + 2 + 34 * (if j < i then p (j + 1) else p j))) 5 0 h (by omega) ⟨fun _ _ => rfl, s3, fun j hj => by rw [if_neg (by omega)]; exact s4 j hj⟩ (fun m g I => ?_) (fun m i g _ hi I ih => ?_)
    · obtain ⟨fr, gn, gq⟩ := I
      obtain ⟨h1, e1, o1, g1, n1⟩ := sQ_w (i := 5) (by omega) (gq 5 (by omega)) (y + 2 + 34 * p 0)
      refine b_le (by omega) (by omega) (fun _ => ⟨_, (by rw [gF_c (fr _ (by omega))]; exact s2), isO_c (fr _ (by omega)) (s7 0 (by omega)).1, h1, e1, hk h1 (fun j => if j < 5 then p (j + 1) else p 0) (fun q hq => (o1 q (by omega)).trans (fr q (by omega))) ⟨⟨isO_c (o1 _ (by omega)) (isO_c (fr _ (by omega)) s0), ?_, ?_, n1.trans gn⟩, fun j hj => ?_, fun j hj => ?_, fun a b ha hb e => ?_, fun j hj => ?_⟩⟩) (fun q => by omega)
      · rw [gF_c (o1 _ (by omega)), gF_c (fr _ (by omega)), if_pos h5, s1, h5]
      · rw [gF_c (o1 _ (by omega)), gF_c (fr _ (by omega))]; exact s2
      · rw [g1 j (by omega)]
        dsimp only
        by_cases z : j = 5
        · rw [if_pos z, if_neg (by omega)]
        · rw [if_neg z, if_pos (by omega), gq j hj, if_pos (by omega)]
      · dsimp only
        split
        · exact s5 _ (by omega)
        · exact s5 _ (by omega)
      · dsimp only at e
        split at e <;> split at e
        · have := s6 _ _ (by omega) (by omega) e; omega
        · have := s6 _ _ (by omega) (by omega) e; omega
        · have := s6 _ _ (by omega) (by omega) e; omega
        · omega
      · dsimp only
        rw [if_pos h5]
        by_cases z : j < 5
        · rw [if_pos z, if_pos z]
          exact (s7 (j + 1) (by omega)).fr (fun q h1 h2 => (o1 q (by omega)).trans (fr q (by omega)))
        · rw [if_neg z, if_neg z]
          exact (s7 0 (by omega)).fr (fun q h1 h2 => (o1 q (by omega)).trans (fr q (by omega)))
    · obtain ⟨fr, gn, gq⟩ := I
      have v1 := gq (i + 1) (by omega)
      rw [if_neg (by omega)] at v1
      have v0 := gq i (by omega)
      obtain ⟨h1, e1, o1, g1, n1⟩ := sQ_w (i := i) (by omega) v0 (y + 2 + 34 * p (i + 1))
      refine b_le (by omega) (by omega) (fun q => by omega) (fun _ => ⟨_, (by rw [gF_c (fr _ (by omega))]; exact s2), _, (by rw [gF_c (fr _ (by omega))]; exact s2), y + 2 + 34 * p (i + 1), (by rw [nI_add]; exact v1), isO_c (fr _ (by omega)) (s7 (i + 1) (by omega)).1, h1, e1, fun z ez => ?_⟩)
      subst ez
      rw [nI_add]
      refine ih h1 ⟨fun q hq => (o1 q hq).trans (fr q hq), n1.trans gn, fun j hj => ?_⟩
      rw [g1 j (by omega)]
      by_cases z : j = i
      · rw [if_pos z, z, if_pos (by omega)]
      · rw [if_neg z, gq j hj]
        by_cases w : j < i
        · rw [if_pos w, if_pos (by omega)]
        · rw [if_neg w, if_neg (by omega)]
  · obtain ⟨h1, e1, o1, g1, i1⟩ := pF_w s1 (.int (nI n + nI 1))
    refine ⟨_, s1, h1, e1, hk h1 p (fun q hq => o1 q (by omega)) ⟨⟨i1, ?_, ?_, ?_⟩, fun j hj => ?_, s5, s6, fun j hj => ?_⟩⟩
    · rw [g1 0, if_pos rfl, nI_add, if_neg (by omega)]
    · rw [g1 1, if_neg (by omega)]; exact s2
    · rw [gN_c (o1 _ (by omega))]; exact s3
    · rw [gQ_c (o1 _ (by omega))]; exact s4 j hj
    · dsimp only
      rw [if_neg (by omega)]
      exact (s7 j hj).fr (fun q h1 h2 => o1 q (by omega))
theorem c_goBack {K : Hp → Prop} {h : Hp} {y n b sl : Nat} {Q : Nat → Nat → Nat} {p : Nat → Nat} {V W : Nat → Nat} (H : HI h y n Q p) (hn0 : 0 < n) (hn : n ≤ 5) (B : BK h b V) (L : SL h sl W) (d1 : b + 10 ≤ y ∨ y + 206 ≤ b) (d2 : sl + 23 ≤ y ∨ y + 206 ≤ sl) (d3 : b + 10 ≤ sl ∨ sl + 23 ≤ b) (hk : ∀ h', (∀ q, (q < y ∨ y + 206 ≤ q) → (q < b ∨ b + 10 ≤ q) → (q < sl ∨ sl + 23 ≤ q) → h' q = h q) → HI h' y (n - 1) Q p → BK h' b (Q (n - 1)) → SL h' sl (Q (n - 1)) → K h') : wp_X2_goBack y b sl K h := by
  obtain ⟨⟨s0, s1, s2, s3⟩, s4, s5, s6, s7⟩ := id H
  have pn := s5 (n - 1) (by omega)
  obtain ⟨h1, e1, o1, g1, i1⟩ := pF_w s1 (.int (nI n - nI 1))
  have v0 : gF h1 y 2 0 = some (.int (nI (n - 1))) := by rw [g1 0, if_pos rfl, pk_sub (by omega)]
  have v1 : gF h1 y 2 1 = some (.ref (y + 1)) := by rw [g1 1, if_neg (by omega)]; exact s2
  have H1 : HI h1 y (n - 1) Q p := ⟨⟨i1, v0, v1, by rw [gN_c (o1 _ (by omega))]; exact s3⟩, fun j hj => by rw [gQ_c (o1 _ (by omega))]; exact s4 j hj, s5, s6, fun j hj => (s7 j hj).fr (fun q h1 h2 => o1 q (by omega))⟩
  have sn := H1.2.2.2.2 (n - 1) (by omega)
  refine ⟨_, s1, b_le (b := 0) (by omega) (by omega) (fun q => by omega) (fun _ => ⟨_, s1, h1, e1, _, v1, _, v0, _, H1.2.1 (n - 1) (by omega), sn.1, c_stateGive sn (B.fr (fun q h2 h3 => o1 q (by omega))) (L.fr (fun q h2 h3 => o1 q (by omega))) (by omega) (by omega) d3 (fun h2 fr2 B2 L2 => hk h2 (fun q q1 q2 q3 => (fr2 q q2 q3).trans (o1 q (by omega))) (H1.fr (fun q h3 h4 => fr2 q (by omega) (by omega))) B2 L2)⟩)⟩
theorem c_givePrepared {K : Hp → Prop} {h : Hp} {y n b sl : Nat} {Q : Nat → Nat → Nat} {p : Nat → Nat} {V W : Nat → Nat} (H : HI h y n Q p) (hn : n ≤ 5) (B : BK h b V) (L : SL h sl W) (d1 : b + 10 ≤ y ∨ y + 206 ≤ b) (d2 : sl + 23 ≤ y ∨ y + 206 ≤ sl) (d3 : b + 10 ≤ sl ∨ sl + 23 ≤ b) (hk : ∀ h', (∀ q, (q < b ∨ b + 10 ≤ q) → (q < sl ∨ sl + 23 ≤ q) → h' q = h q) → HI h' y n Q p → BK h' b (Q n) → SL h' sl (Q n) → K h') : wp_X2_giveBackPrepared y b sl K h := by
  obtain ⟨⟨s0, s1, s2, s3⟩, s4, s5, s6, s7⟩ := id H
  have pn := s5 n (by omega)
  have sn := s7 n (by omega)
  refine ⟨_, s1, _, s2, _, s3, b_le (by omega) (by omega) (fun q => by omega) (fun _ => ⟨_, s2, _, s1, _, s4 n (by omega), sn.1, c_stateGive sn B L (by omega) (by omega) d3 (fun h2 fr2 B2 L2 => hk h2 fr2 (H.fr (fun q h3 h4 => fr2 q (by omega) (by omega))) B2 L2)⟩)⟩
/-- a slot filled, a slot given back -/
def tkV (V : Nat → Nat) (k : Nat) : Nat → Nat := fun i => if i = 455 + 456 * k then 1 else if 456 + 456 * k ≤ i ∧ i < 911 + 456 * k then V (i - (456 + 456 * k)) else V i
def rsV (V : Nat → Nat) (k : Nat) : Nat → Nat := fun i => if i < 455 then V (456 + 456 * k + i) else V i
theorem kw {k : Nat} (hk : k < 2) {K : Int32 → Hp → Prop} {h : Hp} (f : K (nI 1) h) : wp_X8_within (nI k) (nI 0) (nI 1) K h := by
  refine c_within (by omega) (by omega) ?_
  rw [bI_t (by rw [nI_toInt (by omega)]; omega)]
  exact f
theorem c_slotKeep {K : Hp → Prop} {h : Hp} {b sl k : Nat} {V : Nat → Nat} (L : SL h sl V) (B : BK h b V) (hk2 : k < 2) (d : b + 10 ≤ sl ∨ sl + 23 ≤ b) (hk : ∀ h', (∀ q, (q < sl ∨ sl + 23 ≤ q) → h' q = h q) → SL h' sl (tkV V k) → K h') : wp_X5_keep sl (nI k) b K h := by
  obtain ⟨H, S⟩ := L
  obtain ⟨k1, k2, T', Bk, f⟩ := S k hk2
  refine kw hk2 (sk (by decide) ⟨_, H.2.1, _, H.2.2.2 k hk2, Bk.o, c_copyFrom B Bk (by omega) (fun h1 fr1 B1 => ?_)⟩)
  have H1 : SLH h1 sl := H.fr (fun q hq => fr1 q (by omega))
  have k3 : gI h1 (sl + 22) 2 (nI k) = some (nI (V (455 + 456 * k))) := by rw [gI_c (fr1 _ (by omega))]; exact k2
  obtain ⟨h2, e2, o2, g2⟩ := sZ_w (i := k) (x := nI 1) (by omega) k3 (Or.inr (by decide))
  refine ⟨_, H1.2.2.1, h2, e2, hk h2 (fun q hq => (o2 q (by omega)).trans (fr1 q (by omega))) ⟨H1.fr (fun q hq => o2 q (by omega)), fun j hj => ?_⟩⟩
  by_cases z : j = k
  · subst z
    have e1 : tkV V j (455 + 456 * j) = 1 := if_pos rfl
    refine ⟨by rw [e1]; omega, ?_, V, B1.fr (fun q h3 h4 => o2 q (by omega)), fun _ i hi => ?_⟩
    · rw [g2 j (by omega), if_pos rfl, e1]
    · unfold tkV
      rw [if_neg (by omega), if_pos (by omega)]
      congr 1
      omega
  · obtain ⟨j1, j2, T2, Bj, fj⟩ := S j hj
    have e1 : tkV V k (455 + 456 * j) = V (455 + 456 * j) := by unfold tkV; rw [if_neg (by omega), if_neg (by omega)]
    refine ⟨by rw [e1]; exact j1, ?_, T2, Bj.fr (fun q h3 h4 => (o2 q (by omega)).trans (fr1 q (by omega))), fun u i hi => ?_⟩
    · rw [g2 j (by omega), if_neg z, gI_c (fr1 _ (by omega)), e1]
      exact j2
    · rw [e1] at u
      unfold tkV
      rw [if_neg (by omega), if_neg (by omega)]
      exact fj u i hi
theorem c_isFull {K : Int32 → Hp → Prop} {h : Hp} {sl k : Nat} {V : Nat → Nat} (L : SL h sl V) (hk2 : k < 2) (hk : K (bI (V (455 + 456 * k) ≠ 0)) h) : wp_X5_isFull sl (nI k) K h := by
  obtain ⟨H, S⟩ := L
  obtain ⟨k1, k2, -⟩ := S k hk2
  refine kw hk2 (sk (by decide) ⟨_, H.2.2.1, _, k2, b_eq (b := 0) (by omega) (by omega) (fun q => ?_) (fun q => ?_)⟩)
  · rw [bI_f (fun z => z q)] at hk; exact hk
  · rw [bI_t q] at hk; exact hk
theorem c_slotGive {K : Hp → Prop} {h : Hp} {b sl k : Nat} {V : Nat → Nat} (L : SL h sl V) (B : BK h b V) (hk2 : k < 2) (hf : V (455 + 456 * k) ≠ 0) (d : b + 10 ≤ sl ∨ sl + 23 ≤ b) (hk : ∀ h', (∀ q, (q < b ∨ b + 10 ≤ q) → h' q = h q) → BK h' b (rsV V k) → K h') : wp_X5_giveBack sl (nI k) b K h := by
  obtain ⟨k1, k2, T', Bk, f⟩ := L.2 k hk2
  refine ⟨L.1.1, c_isFull L hk2 (b1 hf ⟨_, L.1.2.1, _, L.1.2.2.2 k hk2, B.o, c_copyFrom Bk B (by omega) (fun h1 fr1 B1 => hk h1 fr1 (B1.ext (fun i hi => ?_)))⟩)⟩
  unfold rsV
  rw [if_pos hi]
  exact (f hf i hi).symm
theorem c_snapshots {K : Int32 → Hp → Prop} {h : Hp} {sl : Nat} {V : Nat → Nat} (L : SL h sl V) (hk : K (nI (V 455 + V 911)) h) : wp_X5_snapshots sl K h := by
  obtain ⟨H, S⟩ := L
  obtain ⟨a1, a2, -⟩ := S 0 (by omega)
  obtain ⟨c1, c2, -⟩ := S 1 (by omega)
  refine ⟨3, b_le (by omega) (by omega) (fun q => by omega) (fun _ => ⟨_, H.2.2.1, _, a2, ?_⟩)⟩
  have last : ∀ x : Nat, x = V 455 → ∀ y : Int32, y = nI 0 + nI 1 → wp_X5_snapshots_4 K sl 2 (nI x) y h := by
    intro x hx y ey
    subst ey; subst hx
    rw [nI_add]
    refine b_le (by omega) (by omega) (fun q => by omega) (fun _ => ⟨_, H.2.2.1, _, c2, b_eq (b := 0) (by omega) (by omega) (fun q y ey => ?_) (fun q y ey z ez => ?_)⟩)
    · subst ey
      rw [nI_add]
      refine b_le (by omega) (by omega) (fun _ => ?_) (fun q => by omega)
      have q' : V 911 = 0 := q
      rw [q', Nat.add_zero] at hk
      exact hk
    · subst ey; subst ez
      rw [nI_add, nI_add]
      refine b_le (by omega) (by omega) (fun _ => ?_) (fun q => by omega)
      have q' : V 911 = 1 := by
        have h1 : V 911 ≤ 1 := c1
        have h2 : V 911 ≠ 0 := q
        omega
      rw [q'] at hk
      exact hk
  refine b_eq (b := 0) (by omega) (by omega) (fun q => last 0 q.symm) (fun q y ey z ez => ?_)
  subst ey
  rw [nI_add]
  exact last 1 (by have h1 : V 455 ≤ 1 := a1; have h2 : V 455 ≠ 0 := q; omega) z ez
