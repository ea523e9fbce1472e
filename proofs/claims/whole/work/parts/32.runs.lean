/-! the class's Sight: runs -/
/-- rows 3 to 6 of place p, cards below c, as the growing leaves them -/
def GR (T : Nat → Nat) (p : Nat) (F : Nat → Nat → Int32) (j : Nat) : Prop := F 3 (j * 12 + p) = nI (fst T p j) ∧ F 4 (j * 12 + p) = nI j ∧ F 5 (j * 12 + p) = nI (lz T p j) ∧ F 6 (j * 12 + p) = nI (dmD T p j)
def RN (T : Nat → Nat) (p : Nat) (F : Nat → Nat → Int32) (j : Nat) : Prop := F 3 (j * 12 + p) = nI (fst T p j) ∧ F 4 (j * 12 + p) = nI (lst T p j) ∧ F 5 (j * 12 + p) = nI (rlz T p j) ∧ F 6 (j * 12 + p) = nI (rm T p j)
/-- nothing but rows 3 to 6 at place p has changed -/
def FRp (p : Nat) (F F' : Nat → Nat → Int32) : Prop := ∀ k j, (j % 12 ≠ p ∨ k < 3 ∨ 6 < k) → F' k j = F k j
theorem GR.cong {T : Nat → Nat} {p j : Nat} {F F' : Nat → Nat → Int32} (g : GR T p F j) (e : ∀ k, F' k (j * 12 + p) = F k (j * 12 + p)) : GR T p F' j := by
  obtain ⟨a, b, c, d⟩ := g
  exact ⟨(e 3).trans a, (e 4).trans b, (e 5).trans c, (e 6).trans d⟩
theorem RN.cong {T : Nat → Nat} {p j : Nat} {F F' : Nat → Nat → Int32} (g : RN T p F j) (e : ∀ k, F' k (j * 12 + p) = F k (j * 12 + p)) : RN T p F' j := by
  obtain ⟨a, b, c, d⟩ := g
  exact ⟨(e 3).trans a, (e 4).trans b, (e 5).trans c, (e 6).trans d⟩
theorem RN_end {T : Nat → Nat} {p j : Nat} (h : lkU T p j = none) : lst T p j = j ∧ rlz T p j = lz T p j ∧ rm T p j = dmD T p j := by
  have e := (U_none h).1
  unfold rlz lz rl rm
  rw [e]
  exact ⟨rfl, rfl, rfl⟩
theorem RN_link {T : Nat → Nat} {p i j : Nat} (h : lkU T p j = some i) : lst T p j = lst T p i ∧ rlz T p j = rlz T p i ∧ rm T p j = rm T p i := by
  have e := (U_some h).1
  obtain ⟨-, -, l1, l2⟩ := lkU_some.mp h
  unfold rlz rl rm
  rw [e, if_neg (by omega), if_neg (by omega)]
  exact ⟨rfl, rfl, rfl⟩
section S2
variable {h0 h : Hp} {s : Nat} {T : Nat → Nat} {F : Nat → Nat → Int32}
theorem c_growRuns {K : Hp → Prop} (S : SO h0 s T) (w : SR h0 h s F) (o : okC T) (d : okD T) (g : DG T F (T 0)) {p : Nat} (hp : p < 12) (hk : ∀ h' F', SR h0 h' s F' → (∀ j, j < T 0 → GR T p F' j) → FRp p F F' → K h') : wp_X4_growRuns s (nI p) K h := by
  have h40 := o.1
  refine for_us (fun n i (q : Hp × (Nat → Nat → Int32)) => wp_X4_growRuns_2 K s (nI p) n (nI i) q.1) (fun i q => SR h0 q.1 s q.2 ∧ (∀ j, j < i → GR T p q.2 j) ∧ FRp p F q.2) (T 0) 0 (h, F) (by omega) ⟨w, fun q hq => by omega, fun _ _ _ => rfl⟩ (fun n q I => ?_) (fun n i q _ hi I ih => ?_)
  · exact ⟨_, S.b I.1, _, (S.B I.1).cards, b_le (by omega) (by omega) (fun _ => hk _ _ I.1 I.2.1 I.2.2) (fun z => by omega)⟩
  · obtain ⟨W, G, fr⟩ := I
    have r1 := rd_lt T p i
    refine ⟨_, S.b W, _, (S.B W).cards, b_le (by omega) (by omega) (fun z => by omega) (fun _ y ey => ?_)⟩
    rw [nI_mul, nI_add] at ey
    subst ey
    obtain ⟨h1, e1, w1⟩ := W.put (k := 3) (i := i * 12 + p) (by omega) (by omega) (by show _ < 480; omega) (nI i)
    obtain ⟨h2, e2, w2⟩ := w1.put (k := 4) (i := i * 12 + p) (by omega) (by omega) (by show _ < 480; omega) (nI i)
    have fr2 : ∀ k j, (j ≠ i * 12 + p ∨ k < 3 ∨ 4 < k) → (up2 (up2 q.2 3 (i * 12 + p) (nI i)) 4 (i * 12 + p) (nI i)) k j = q.2 k j := fun k j hk => by rw [up2_o (by omega), up2_o (by omega)]
    have v3 : (up2 (up2 q.2 3 (i * 12 + p) (nI i)) 4 (i * 12 + p) (nI i)) 3 (i * 12 + p) = nI i := by rw [up2_o (by omega), up2_s]
    have v4 : (up2 (up2 q.2 3 (i * 12 + p) (nI i)) 4 (i * 12 + p) (nI i)) 4 (i * 12 + p) = nI i := by rw [up2_s]
    generalize (up2 (up2 q.2 3 (i * 12 + p) (nI i)) 4 (i * 12 + p) (nI i)) = F2 at w2 fr2 v3 v4
    have g2 : DG T F2 (T 0) := g.cong (fun k j hk => by rw [fr2 k j (by omega), fr k j (by omega)])
    refine ⟨_, S.f W (k := 3) (by omega), h1, e1, _, S.f w1 (k := 4) (by omega), h2, e2, _, S.f w2 (k := 5) (by omega), _, S.f w2 (k := 1) (by omega), _, w2.g (k := 1) (by omega) (by omega) (by show _ < 480; omega), ?_⟩
    rw [((g2 i hi).2 p hp).1]
    have go : ∀ x : Nat, x = (if 0 < rd T p i then 1 else 0) → wp_X4_growRuns_53 K (fun z0 h => wp_X4_growRuns_2 K s (nI p) n z0 h) s (nI p) (nI i) (nI (i * 12 + p)) (s + 11 + 5) (nI (i * 12 + p)) (nI x) h2 := by
      intro x hx
      subst hx
      refine c_grow S w2 o d g2 hi hp (fun j hj => ?_) v3 v4 (fun h' F' w' a fr' => ih (h', F') ⟨w', fun j hj => ?_, fun k j hkj => ?_⟩)
      · have := G j hj
        exact ⟨by rw [fr2 _ _ (by omega)]; exact this.1, by rw [fr2 _ _ (by omega)]; exact this.2.2.1, by rw [fr2 _ _ (by omega)]; exact this.2.2.2⟩
      · by_cases z : j = i
        · subst z; exact a
        · exact (G j (by omega)).cong (fun k => by dsimp only; rw [fr' _ _ (by omega), fr2 _ _ (by omega)])
      · dsimp only
        rw [fr' k j (by omega), fr2 k j (by omega), fr k j hkj]
    exact b_le (by omega) (by omega) (fun z => go 0 (by rw [if_neg (by omega)])) (fun z => go 1 (by rw [if_pos z]))
theorem c_closeRuns {K : Hp → Prop} (S : SO h0 s T) (w : SR h0 h s F) (o : okC T) (d : okD T) (g : DG T F (T 0)) {p : Nat} (hp : p < 12) (gr : ∀ j, j < T 0 → GR T p F j) (hk : ∀ h' F', SR h0 h' s F' → (∀ j, j < T 0 → RN T p F' j) → FRp p F F' → K h') : wp_X4_closeRuns s (nI p) K h := by
  have h40 := o.1
  refine ⟨_, S.b w, _, (S.B w).cards, fun y ey => ?_⟩
  rw [m1_sub] at ey
  subst ey
  refine for_ds (fun n i (q : Hp × (Nat → Nat → Int32)) => wp_X4_closeRuns_10 K s (nI p) n (nI i + (-1)) q.1) (fun i q => SR h0 q.1 s q.2 ∧ (∀ j, j < T 0 → (∃ u, lkU T p j = some u ∧ u < i) → GR T p q.2 j) ∧ (∀ j, j < T 0 → (∀ u, lkU T p j = some u → i ≤ u) → RN T p q.2 j) ∧ FRp p F q.2) (T 0) (h, F) ⟨w, fun j hj _ => gr j hj, fun j hj hu => ?_, fun _ _ _ => rfl⟩ (fun n q I => ?_) (fun n i q hi I ih => ?_)
  · have hn : lkU T p j = none := by
      cases e : lkU T p j with
      | none => rfl
      | some u => have := lkU_lt e; have := hu u e; omega
    obtain ⟨a, b, c⟩ := RN_end hn
    have := gr j hj
    exact ⟨this.1, by rw [a]; exact this.2.1, by rw [b]; exact this.2.2.1, by rw [c]; exact this.2.2.2⟩
  · exact ⟨fun _ => hk _ _ I.1 (fun j hj => I.2.2.1 j hj (fun _ _ => Nat.zero_le _)) I.2.2.2, fun z => absurd (by decide) z⟩
  · obtain ⟨W, G1, G2, fr⟩ := I
    have r1 := rd_lt T p i
    rw [pk_m1]
    have g2 : DG T q.2 (T 0) := g.cong (fun k j hk => fr k j (by omega))
    refine ⟨fun z => absurd z (by rw [nI_0]; exact nI_pos (by omega)), fun _ y ey => ?_⟩
    rw [nI_mul, nI_add] at ey
    subst ey
    refine ⟨_, S.f W (k := 0) (by omega), _, W.g (k := 0) (by omega) (by omega) (by show _ < 40; omega), fun y ey => ⟨_, S.f W (k := 0) (by omega), _, W.g (k := 0) (by omega) (by omega) (by show _ < 40; omega), ?_⟩⟩
    rw [(g2 i hi).1] at ey ⊢
    have fin : lkD T p i = none → ∀ y : Int32, y = nI i + (-1) → wp_X4_closeRuns_10 K s (nI p) n y q.1 := by
      intro hn y ey
      subst ey
      have nol : ∀ j, lkU T p j ≠ some i := fun j e => by
        rw [← lk_DU hi, hn] at e
        cases e
      refine ih q ⟨W, fun j hj hu => ?_, fun j hj hu => ?_, fr⟩
      · obtain ⟨u, e, lt⟩ := hu
        exact G1 j hj ⟨u, e, by omega⟩
      · refine G2 j hj (fun u e => ?_)
        have := hu u e
        have : u ≠ i := fun z => nol j (by rw [← z]; exact e)
        omega
    cases hl : plD T i with
    | none => exact ⟨fun _ => fin (plD_nk hl), fun z => absurd (by decide) z⟩
    | some b =>
      have hbi := plD_lt hl
      have rb := rd_lt T p b
      have hlk := plD_lk (p := p) hl
      rw [hl] at ey
      replace ey : y = nI b * nI 12 + nI p := ey
      rw [nI_mul, nI_add] at ey
      subst ey
      refine ⟨fun z => absurd z (by rw [nI_0]; exact nI_pos (by omega)), fun _ => ⟨_, S.f W (k := 1) (by omega), _, W.g (k := 1) (by omega) (by omega) (by show _ < 480; omega), ?_⟩⟩
      rw [((g2 b (by omega)).2 p hp).1]
      refine b_le (by omega) (by omega) (fun z => fin (by rw [hlk, if_neg (by omega)])) (fun z => ⟨_, S.f W (k := 1) (by omega), _, W.g (k := 1) (by omega) (by omega) (by show _ < 480; omega), ?_⟩)
      rw [((g2 i (by omega)).2 p hp).1]
      refine b_le (by omega) (by omega) (fun q => fin (by rw [hlk, if_neg (by omega)])) (fun z2 => ?_)
      rw [if_pos ⟨z, z2⟩] at hlk
      have hup := (lk_DU hi).mp hlk
      have Ri := G2 i hi (fun u e => by have := lkU_lt e; omega)
      obtain ⟨h3, e3, w3⟩ := W.put (k := 4) (i := b * 12 + p) (by omega) (by omega) (by show _ < 480; omega) (q.2 4 (i * 12 + p))
      obtain ⟨h4, e4, w4⟩ := w3.put (k := 5) (i := b * 12 + p) (by omega) (by omega) (by show _ < 480; omega) (q.2 5 (i * 12 + p))
      obtain ⟨h5, e5, w5⟩ := w4.put (k := 6) (i := b * 12 + p) (by omega) (by omega) (by show _ < 480; omega) (q.2 6 (i * 12 + p))
      have c5 := w3.g (k := 5) (i := i * 12 + p) (by omega) (by omega) (by show _ < 480; omega)
      rw [up2_o (by omega)] at c5
      have c6 := w4.g (k := 6) (i := i * 12 + p) (by omega) (by omega) (by show _ < 480; omega)
      rw [up2_o (by omega), up2_o (by omega)] at c6
      refine ⟨_, S.f W (k := 4) (by omega), _, S.f W (k := 4) (by omega), _, W.g (k := 4) (by omega) (by omega) (by show _ < 480; omega), h3, e3, _, S.f w3 (k := 5) (by omega), _, S.f w3 (k := 5) (by omega), _, c5, h4, e4, _, S.f w4 (k := 6) (by omega), _, S.f w4 (k := 6) (by omega), _, c6, h5, e5, fun z ez => ?_⟩
      subst ez
      have Gb := G1 b (by omega) ⟨i, hup, by omega⟩
      have fr3 : ∀ k j, (j ≠ b * 12 + p ∨ k < 4 ∨ 6 < k) → up2 (up2 (up2 q.2 4 (b * 12 + p) (q.2 4 (i * 12 + p))) 5 (b * 12 + p) (q.2 5 (i * 12 + p))) 6 (b * 12 + p) (q.2 6 (i * 12 + p)) k j = q.2 k j := fun k j hk => by rw [up2_o (by omega), up2_o (by omega), up2_o (by omega)]
      refine ih (h5, up2 (up2 (up2 q.2 4 (b * 12 + p) (q.2 4 (i * 12 + p))) 5 (b * 12 + p) (q.2 5 (i * 12 + p))) 6 (b * 12 + p) (q.2 6 (i * 12 + p))) ⟨w5, fun j hj hu => ?_, fun j hj hu => ?_, fun k j hkj => ?_⟩
      · obtain ⟨u, e, lt⟩ := hu
        have : j ≠ b := fun z => by rw [z, hup] at e; cases e; omega
        exact (G1 j hj ⟨u, e, by omega⟩).cong (fun k => fr3 _ _ (by omega))
      · by_cases z : j = b
        · subst z
          obtain ⟨l1, l2, l3⟩ := RN_link hup
          dsimp only
          refine ⟨?_, ?_, ?_, ?_⟩
          · rw [fr3 _ _ (by omega)]; exact Gb.1
          · rw [up2_o (by omega), up2_o (by omega), up2_s, Ri.2.1, l1]
          · rw [up2_o (by omega), up2_s, Ri.2.2.1, l2]
          · rw [up2_s, Ri.2.2.2, l3]
        · refine (G2 j hj (fun u e => ?_)).cong (fun k => fr3 _ _ (by omega))
          have := hu u e
          have : u ≠ i := fun y => by
            rw [y] at e
            rw [← lk_DU hi, hlk] at e
            cases e
            exact z rfl
          omega
      · dsimp only
        rw [fr3 k j (by omega), fr k j hkj]
end S2
