/-! a failure noted, on both sides -/
def uf (fl : Nat → Int32) (k : Nat) (v : Int32) : Nat → Int32 := fun j => if j = k then v else fl j
theorem PN.pf {h : Hp} {z tn en : Nat} {X : Nat → Nat} {fl : Nat → Int32} {f5 f6 : Int64} {kv sv : Int32} (P : PN h z X tn fl f5 f6 kv sv en) {k : Nat} (hk : k < 4) (v : Int32) : ∃ h', pF h (z + 256) 3 (k + 1) (.int v) = some h' ∧ (∀ q, q ≠ z + 256 → h' q = h q) ∧ PN h' z X tn (uf fl k v) f5 f6 kv sv en := by
  obtain ⟨a, b, c, d, f, T⟩ := P
  obtain ⟨h', e, oo, g, io⟩ := pF_w (c k hk) (.int v)
  refine ⟨h', e, oo, io, ?_, fun j hj => ?_, ?_, ?_, T.fr (fun q hq => oo q (by omega))⟩
  · rw [g 0, if_neg (by omega)]; exact b
  · rw [g (j + 1)]
    unfold uf
    by_cases y : j = k
    · rw [if_pos (by omega), if_pos y]
    · rw [if_neg (by omega), if_neg y]; exact c j hj
  · rw [g 5, if_neg (by omega)]; exact d
  · rw [g 6, if_neg (by omega)]; exact f
def fl4 (a b c d : Int32) : Nat → Int32 := fun j => match j with
  | 0 => a
  | 1 => b
  | 2 => c
  | _ => d
theorem PN.flx {h : Hp} {z tn en : Nat} {X : Nat → Nat} {fl fl' : Nat → Int32} {f5 f6 : Int64} {kv sv : Int32} (P : PN h z X tn fl f5 f6 kv sv en) (e : ∀ k, k < 4 → fl' k = fl k) : PN h z X tn fl' f5 f6 kv sv en :=
  ⟨P.1, P.2.1, fun k hk => by rw [e k hk]; exact P.2.2.1 k hk, P.2.2.2⟩
theorem c_fail {K : Int32 → Hp → Prop} {h : Hp} {z tn en : Nat} {X : Nat → Nat} {fl : Nat → Int32} {f5 f6 : Int64} {kv sv : Int32} (P : PN h z X tn fl f5 f6 kv sv en) (a b c d : Int32) (hk : ∀ h', (∀ q, q ≠ z + 256 → h' q = h q) → PN h' z X tn (fl4 a b c d) f5 f6 kv sv en → K (-9) h') : wp_X3_fail (z + 256) a b c d K h := by
  obtain ⟨h1, e1, o1, P1⟩ := P.pf (k := 0) (by omega) a
  obtain ⟨h2, e2, o2, P2⟩ := P1.pf (k := 1) (by omega) b
  obtain ⟨h3, e3, o3, P3⟩ := P2.pf (k := 2) (by omega) c
  obtain ⟨h4, e4, o4, P4⟩ := P3.pf (k := 3) (by omega) d
  refine ⟨h1, e1, h2, e2, h3, e3, h4, e4, hk h4 (fun q hq => (o4 q hq).trans ((o3 q hq).trans ((o2 q hq).trans (o1 q hq)))) (P4.flx (fun k hk => ?_))⟩
  rcases (show k = 0 ∨ k = 1 ∨ k = 2 ∨ k = 3 by omega) with rfl | rfl | rfl | rfl <;> simp [uf, fl4]
theorem e_fails {K : Int32 → Hp → Prop} {h : Hp} {M n tn : Nat} {V W P X : Nat → Nat} {e : Nat → Value} (R : RR h M V W P n X tn e) (a b c d : Int32) (hk : ∀ h' e', (∀ q, q ≠ M → q ≠ M + 1 → h' q = h q) → RR h' M W W P n X tn e' → (∀ k, k < 4 → e' (7 + k) = .int (fl4 a b c d k)) → (∀ j, 11 ≤ j → e' j = e j) → K ((-1000 : Int32) - b) h') : wp_X9_fails M a b c d K h := by
  obtain ⟨h1, e1, o1, R1⟩ := R.fset (k := 7) (by omega) (by omega) (.int a)
  obtain ⟨h2, e2, o2, R2⟩ := R1.fset (k := 8) (by omega) (by omega) (.int b)
  obtain ⟨h3, e3, o3, R3⟩ := R2.fset (k := 9) (by omega) (by omega) (.int c)
  obtain ⟨h4, e4, o4, R4⟩ := R3.fset (k := 10) (by omega) (by omega) (.int d)
  refine ⟨h1, e1, h2, e2, h3, e3, h4, e4, ?_⟩
  refine for_us (fun m t (g : Hp) => wp_X9_fails_24 K M b m (nI t) g) (fun t g => (∀ q, q ≠ M + 1 → g q = h4 q) ∧ RM g M (fun i => if i < t then W i else V i)) 1367 0 h4 (by omega) ⟨fun _ _ => rfl, R4.1.ext (fun i hi => if_neg (by omega))⟩ (fun m g J => ?_) (fun m t g _ ht J ih => ?_)
  · obtain ⟨fr, R5⟩ := J
    refine b_le (by omega) (by omega) (fun _ => hk g _ (fun q q1 q2 => (fr q q2).trans ((o4 q q1).trans ((o3 q q1).trans ((o2 q q1).trans (o1 q q1))))) ⟨R5.ext (fun i hi => (if_pos hi).symm), R4.2.1.fr (fun q hq => fr q (by omega)), R4.2.2.1.fr (fun q hq => fr q (by omega)), R4.2.2.2.1.fr (fun q hq => fr q (by omega)), R4.2.2.2.2.fr (fun q hq => fr q (by omega))⟩ (fun k hk => ?_) (fun j hj => ?_)) (fun q => by omega)
    · rcases (show k = 0 ∨ k = 1 ∨ k = 2 ∨ k = 3 by omega) with rfl | rfl | rfl | rfl <;> simp [ue, fl4]
    · rw [ue_n (by omega), ue_n (by omega), ue_n (by omega), ue_n (by omega)]
  · obtain ⟨fr, R5⟩ := J
    have B5 : RB g M W := R4.2.1.fr (fun q hq => fr q (by omega))
    obtain ⟨h7, e7, o7, R7⟩ := R5.put (i := t) (by omega) (W t)
    refine b_le (by omega) (by omega) (fun q => by omega) (fun _ => ⟨_, R5.2.1, _, B5.1, _, B5.2 t ht, h7, e7, fun y ey => ?_⟩)
    subst ey
    rw [nI_add]
    refine ih h7 ⟨fun q hq => (o7 q hq).trans (fr q hq), R7.ext (fun i hi => ?_)⟩
    unfold u1
    try dsimp only
    by_cases y : i = t
    · rw [if_pos y, if_pos (by omega), y]
    · rw [if_neg y]
      by_cases u : i < t
      · rw [if_pos u, if_pos (by omega)]
      · rw [if_neg u, if_neg (by omega)]
