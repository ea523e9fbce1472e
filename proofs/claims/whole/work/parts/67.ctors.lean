/-! the two constructors, from fresh objects -/
theorem n_k {h : Hp} {a : Nat} {E : AE} {R : Hp → Prop} (r : ∀ h', h' a = some E → (∀ q, q ≠ a → h' q = h q) → R h') : ∀ hn : Hp, hn = hset h a E → R hn := by
  intro hn e
  subst e
  exact r _ (hset_s _ _ _) (fun q hq => hset_n hq)
theorem pF_k {h : Hp} {a ci k : Nat} {fs : List Value} {v : Value} {R : Hp → Prop} (e : h a = some (.inr (ci, fs))) (hk : Nat.ble (k + 1) fs.length = true) (r : ∀ h', h' a = some (.inr (ci, fs.set k v)) → (∀ q, q ≠ a → h' q = h q) → R h') : ∃ h', pF h a ci k v = some h' ∧ R h' := by
  refine ⟨hset h a (.inr (ci, fs.set k v)), ?_, r _ (hset_s _ _ _) (fun q hq => hset_n hq)⟩
  unfold pF
  rw [e]
  dsimp only
  rw [if_pos ⟨rfl, Nat.le_of_ble_eq_true hk⟩]
theorem gF_o {h : Hp} {a ci k : Nat} {fs : List Value} {v : Value} (e : h a = some (.inr (ci, fs))) (hv : fs[k]? = some v) : gF h a ci k = some v := by
  unfold gF
  rw [e]
  dsimp only
  rw [if_pos rfl]
  exact hv
theorem sI_k {h : Hp} {a n i : Nat} {f : Nat → Int32} {x : Int32} {R : Hp → Prop} (e : h a = some (.inl (0, n, .inl f))) (hi : i < n) (h31 : i < 2 ^ 31) (r : ∀ h', h' a = some (.inl (0, n, .inl (upd f i x))) → (∀ q, q ≠ a → h' q = h q) → R h') : ∃ h', sI h a (nI i) x = some h' ∧ R h' := by
  refine ⟨hset h a (.inl (0, n, .inl (upd f i x))), ?_, r _ (hset_s _ _ _) (fun q hq => hset_n hq)⟩
  unfold sI
  rw [e]
  dsimp only
  rw [if_pos ⟨rfl, (in_iff h31).mpr hi⟩, nI_clamp h31]
theorem sQ_k {h : Hp} {a t n i v : Nat} {f : Nat → Option Nat} {R : Hp → Prop} (e : h a = some (.inl (t, n, .inr (.inr (.inr (.inr f)))))) (hi : i < n) (h31 : i < 2 ^ 31) (r : ∀ h', h' a = some (.inl (t, n, .inr (.inr (.inr (.inr (va_up f i (some v))))))) → (∀ q, q ≠ a → h' q = h q) → R h') : ∃ h', sQ h a t (nI i) v = some h' ∧ R h' := by
  refine ⟨hset h a (.inl (t, n, .inr (.inr (.inr (.inr (va_up f i (some v))))))), ?_, r _ (hset_s _ _ _) (fun q hq => hset_n hq)⟩
  unfold sQ
  rw [e]
  dsimp only
  rw [if_pos ⟨rfl, (in_iff h31).mpr hi⟩, nI_clamp h31]
/-- an object and the arrays behind it that its constructor has made so far -/
def NW (h0 h : Hp) (x : Nat) (o : AE) (A : Nat → AE) (z n : Nat) : Prop := h x = some o ∧ (∀ k, k < n → h (z + k) = some (A k)) ∧ ∀ q, q ≠ x → (q < z ∨ z + n ≤ q) → h q = h0 q
theorem nw_2 {h0 h g : Hp} {x ci k z n a : Nat} {fs : List Value} {A : Nat → AE} {R : Hp → Prop} (w : NW h0 h x (.inr (ci, fs)) A z n) (hx : x < z) (ha : a = z + n) (hk : Nat.ble (k + 1) fs.length = true) (e1 : g a = some (A n)) (fr1 : ∀ q, q ≠ a → g q = h q) (r : ∀ h', NW h0 h' x (.inr (ci, fs.set k (.ref a))) A z (n + 1) → R h') : ∃ h', pF g x ci k (.ref a) = some h' ∧ R h' := by
  subst ha
  refine pF_k (fs := fs) ((fr1 _ (by omega)).trans w.1) hk (fun h2 e2 fr2 => r h2 ⟨e2, fun j hj => ?_, fun q q1 q2 => ?_⟩)
  · rw [fr2 _ (by omega)]
    by_cases y : j = n
    · rw [y]; exact e1
    · rw [fr1 _ (by omega)]; exact w.2.1 j (by omega)
  · rw [fr2 q q1, fr1 q (by omega)]
    exact w.2.2 q q1 (by omega)
theorem nw_1 {h0 h : Hp} {x ci k z n a : Nat} {fs : List Value} {A : Nat → AE} {E : AE} {R : Hp → Prop} (w : NW h0 h x (.inr (ci, fs)) A z n) (hx : x < z) (ha : a = z + n) (hE : A n = E) (hk : Nat.ble (k + 1) fs.length = true) (r : ∀ h', NW h0 h' x (.inr (ci, fs.set k (.ref a))) A z (n + 1) → R h') : ∀ hn : Hp, hn = hset h a E → ∃ h', pF hn x ci k (.ref a) = some h' ∧ R h' :=
  n_k (fun _ e1 fr1 => nw_2 w hx ha hk (e1.trans (by rw [hE])) fr1 r)
def V0 : Nat → Nat := fun i => if i = 2 then 4 else if i = 3 then 6 else if i = 4 then 4 else if i = 5 then 5 else 0
theorem V0_z {i : Nat} (h : 6 ≤ i) : V0 i = 0 := by
  unfold V0
  rw [if_neg (by omega), if_neg (by omega), if_neg (by omega), if_neg (by omega)]
def arI0 (n : Nat) : AE := .inl (0, n, .inl (fun _ => 0))
def arL0 (n : Nat) : AE := .inl (1, n, .inr (.inl (fun _ => 0)))
theorem ar_i {h : Hp} {a n i v : Nat} (e : h a = some (arI0 n)) (hi : i < n) (h31 : i < 2 ^ 31) (hv : v = 0) : gI h a 0 (nI i) = some (nI v) := by
  subst hv
  rw [gI_at (f := fun _ => 0) e h31, if_pos hi]
  rfl
theorem ar_l {h : Hp} {a n i v : Nat} (e : h a = some (arL0 n)) (hi : i < n) (h31 : i < 2 ^ 31) (hv : v = 0) : gL h a (nI i) = some (lN v) := by
  subst hv
  rw [gL_at (f := fun _ => 0) e h31, if_pos hi]
  rfl
def bkA : Nat → AE := fun k => match k with
  | 0 => arI0 40
  | 1 => arI0 40
  | 2 => arI0 40
  | 3 => arL0 40
  | 4 => arL0 40
  | 5 => arI0 3
  | 6 => .inl (0, 4, .inl (upd (upd (upd (upd (fun _ => 0) 0 (nI 4)) 1 (nI 6)) 2 (nI 4)) 3 (nI 5)))
  | 7 => arI0 6
  | _ => arI0 240
theorem i_X0 {K : Hp → Prop} {h : Hp} {b z : Nat} (hz : z = b + 1) (ho : h b = some (.inr (0, [.int 0, .int 0, .null, .null, .null, .null, .null, .null, .null, .null, .null]))) (hk : ∀ h', (∀ q, (q < b ∨ b + 10 ≤ q) → h' q = h q) → BK h' b V0 → K h') : wp_X0_init b K h z := by
  subst hz
  have w0 : NW h h b (.inr (0, [.int 0, .int 0, .null, .null, .null, .null, .null, .null, .null, .null, .null])) bkA (b + 1) 0 := ⟨ho, fun k hk => by omega, fun _ _ _ => rfl⟩
  refine nw_1 w0 (by omega) (by omega) rfl rfl (fun h1 w1 => ?_)
  refine nw_1 w1 (by omega) (by omega) rfl rfl (fun h2 w2 => ?_)
  refine nw_1 w2 (by omega) (by omega) rfl rfl (fun h3 w3 => ?_)
  refine nw_1 w3 (by omega) (by omega) rfl rfl (fun h4 w4 => ?_)
  refine nw_1 w4 (by omega) (by omega) rfl rfl (fun h5 w5 => ?_)
  refine nw_1 w5 (by omega) (by omega) rfl rfl (fun h6 w6 => ?_)
  refine n_k (fun g0 e0 f0 => sI_k e0 (by omega) (by omega) (fun g1 e1 f1 => sI_k e1 (by omega) (by omega) (fun g2 e2 f2 => sI_k e2 (by omega) (by omega) (fun g3 e3 f3 => sI_k e3 (by omega) (by omega) (fun g4 e4 f4 => nw_2 w6 (by omega) (by omega) rfl e4 (fun q hq => (f4 q hq).trans ((f3 q hq).trans ((f2 q hq).trans ((f1 q hq).trans (f0 q hq))))) (fun h7 w7 => ?_))))))
  refine nw_1 w7 (by omega) (by omega) rfl rfl (fun h8 w8 => ?_)
  refine nw_1 w8 (by omega) (by omega) rfl rfl (fun h9 w9 => ?_)
  obtain ⟨wo, wa, wf⟩ := w9
  refine hk h9 (fun q hq => wf q (by omega) (by omega)) ⟨⟨_, wo⟩, gF_o wo rfl, gF_o wo rfl, fun k hk => ?_, fun i hi => ar_i (wa 0 (by omega)) hi (by omega) (V0_z (by omega)), fun i hi => ar_i (wa 1 (by omega)) hi (by omega) (V0_z (by omega)), fun i hi => ar_i (wa 2 (by omega)) hi (by omega) (V0_z (by omega)), fun i hi => ar_l (wa 3 (by omega)) hi (by omega) (V0_z (by omega)), fun i hi => ar_l (wa 4 (by omega)) hi (by omega) (V0_z (by omega)), fun i hi => ar_i (wa 5 (by omega)) hi (by omega) (V0_z (by omega)), fun i hi => ?_, fun i hi => ar_i (wa 7 (by omega)) hi (by omega) (V0_z (by omega)), fun v hv i hi => ar_i (wa 8 (by omega)) (by omega) (by omega) (V0_z (by omega))⟩
  · rcases (show k = 0 ∨ k = 1 ∨ k = 2 ∨ k = 3 ∨ k = 4 ∨ k = 5 ∨ k = 6 ∨ k = 7 ∨ k = 8 by omega) with rfl | rfl | rfl | rfl | rfl | rfl | rfl | rfl | rfl <;> exact gF_o wo rfl
  · have w := wa 6 (by omega)
    have r : gI h9 (b + 7) 0 (nI i) = some (upd (upd (upd (upd (fun _ => 0) 0 (nI 4)) 1 (nI 6)) 2 (nI 4)) 3 (nI 5) i) := by
      rw [gI_at (show h9 (b + 7) = some (.inl (0, 4, .inl (upd (upd (upd (upd (fun _ => 0) 0 (nI 4)) 1 (nI 6)) 2 (nI 4)) 3 (nI 5)))) from w) (by omega), if_pos hi]
    rw [r]
    rcases (show i = 0 ∨ i = 1 ∨ i = 2 ∨ i = 3 by omega) with rfl | rfl | rfl | rfl <;> rfl
theorem i_X5 {K : Hp → Prop} {h : Hp} {a z : Nat} (hz : z = a + 1) (ho : h a = some (.inr (5, [.null, .null]))) (hk : ∀ h', (∀ q, (q < a ∨ a + 23 ≤ q) → h' q = h q) → SL h' a V0 → K h') : wp_X5_init a K h z := by
  subst hz
  refine n_k (fun g0 e0 f0 => n_k (fun g1 e1 f1 => i_X0 (by omega) e1 (fun g2 f2 B2 => ⟨B2.o, sQ_k ((f2 _ (by omega)).trans ((f1 _ (by omega)).trans e0)) (by omega) (by omega) (fun g3 e3 f3 => n_k (fun g4 e4 f4 => i_X0 (by omega) e4 (fun g5 f5 B5 => ⟨B5.o, sQ_k ((f5 _ (by omega)).trans ((f4 _ (by omega)).trans e3)) (by omega) (by omega) (fun g6 e6 f6 => ?_)⟩)))⟩)))
  have fa : g6 a = h a := (f6 _ (by omega)).trans ((f5 _ (by omega)).trans ((f4 _ (by omega)).trans ((f3 _ (by omega)).trans ((f2 _ (by omega)).trans ((f1 _ (by omega)).trans (f0 _ (by omega)))))))
  refine pF_k (fa.trans ho) rfl (fun g7 e7 f7 => n_k (fun g8 e8 f8 => pF_k ((f8 _ (by omega)).trans e7) rfl (fun g9 e9 f9 => ?_)))
  have f96 : ∀ q, q ≠ a → q ≠ a + 22 → g9 q = g6 q := fun q q1 q2 => (f9 q q1).trans ((f8 q (by omega)).trans (f7 q q1))
  have ef : g9 (a + 22) = some (.inl (2, 2, .inl (fun _ => 0))) := (f9 _ (by omega)).trans e8
  have B2' : BK g9 (a + 2) V0 := B2.fr (fun q q1 q2 => (f96 q (by omega) (by omega)).trans ((f6 q (by omega)).trans ((f5 q (by omega)).trans ((f4 q (by omega)).trans (f3 q (by omega))))))
  have B5' : BK g9 (a + 12) V0 := B5.fr (fun q q1 q2 => (f96 q (by omega) (by omega)).trans (f6 q (by omega)))
  refine hk g9 (fun q hq => (f96 q (by omega) (by omega)).trans ((f6 q (by omega)).trans ((f5 q (by omega)).trans ((f4 q (by omega)).trans ((f3 q (by omega)).trans ((f2 q (by omega)).trans ((f1 q (by omega)).trans (f0 q (by omega))))))))) ⟨⟨⟨_, e9⟩, gF_o e9 rfl, gF_o e9 rfl, fun k hk => ?_⟩, fun k hk => ?_⟩
  · rw [gQ_at ((f96 (a + 1) (by omega) (by omega)).trans e6) (by omega), if_pos hk]
    rcases (show k = 0 ∨ k = 1 by omega) with rfl | rfl
    · rw [va_up_ne _ _ (by omega), va_up_self]
    · rw [va_up_self]
  · refine ⟨by rw [V0_z (by omega)]; omega, ?_, V0, ?_, fun q => absurd (V0_z (by omega)) q⟩
    · rw [gI_at ef (by omega), if_pos hk, V0_z (by omega)]
      rfl
    · rcases (show k = 0 ∨ k = 1 by omega) with rfl | rfl
      · exact B2'
      · exact B5'
theorem i_X6 {K : Hp → Prop} {h : Hp} {t z : Nat} (hz : z = t + 1) (ho : h t = some (.inr (6, [.null, .null]))) (hk : ∀ h', (∀ q, (q < t ∨ t + 34 ≤ q) → h' q = h q) → ST h' t V0 → K h') : wp_X6_init t K h z := by
  subst hz
  refine n_k (fun g0 e0 f0 => i_X0 (by omega) e0 (fun g1 f1 B1 => pF_k (((f1 _ (by omega)).trans (f0 _ (by omega))).trans ho) rfl (fun g2 e2 f2 => n_k (fun g3 e3 f3 => i_X5 (by omega) e3 (fun g4 f4 S4 => pF_k (((f4 _ (by omega)).trans (f3 _ (by omega))).trans e2) rfl (fun g5 e5 f5 => ?_))))))
  refine hk g5 (fun q hq => (f5 q (by omega)).trans ((f4 q (by omega)).trans ((f3 q (by omega)).trans ((f2 q (by omega)).trans ((f1 q (by omega)).trans (f0 q (by omega))))))) ⟨⟨_, e5⟩, gF_o e5 rfl, gF_o e5 rfl, B1.fr (fun q q1 q2 => (f5 q (by omega)).trans ((f4 q (by omega)).trans ((f3 q (by omega)).trans (f2 q (by omega))))), S4.fr (fun q q1 q2 => f5 q (by omega))⟩
def HS (h0 h : Hp) (y j : Nat) (o : AE) : Prop := h y = some o ∧ (∃ f : Nat → Option Nat, h (y + 1) = some (.inl (4, 6, .inr (.inr (.inr (.inr f))))) ∧ ∀ i, i < j → f i = some (y + 2 + 34 * i)) ∧ (∀ i, i < j → ST h (y + 2 + 34 * i) V0) ∧ ∀ q, (q < y ∨ y + 2 + 34 * j ≤ q) → h q = h0 q
theorem hs_1 {h0 h : Hp} {y j a z x : Nat} {o : AE} {R : Hp → Prop} (w : HS h0 h y j o) (ha : a = y + 2 + 34 * j) (hz : z = a + 1) (hx : x = y + 1) (hj : j < 6) (r : ∀ h', HS h0 h' y (j + 1) o → R h') : ∀ hn : Hp, hn = hset h a (.inr (6, [.null, .null])) → wp_X6_init a (fun hc => isO hc a 6 ∧ ∃ h', sQ hc x 4 (nI j) a = some h' ∧ R h') hn z := by
  subst ha
  subst hx
  obtain ⟨wo, ⟨f, ef, wf⟩, ws, wr⟩ := w
  refine n_k (fun g0 e0 f0 => i_X6 hz e0 (fun g1 f1 S1 => ⟨S1.1, sQ_k (((f1 _ (by omega)).trans (f0 _ (by omega))).trans ef) hj (by omega) (fun g2 e2 f2 => r g2 ⟨?_, ⟨_, e2, fun i hi => ?_⟩, fun i hi => ?_, fun q hq => ?_⟩)⟩))
  · rw [f2 _ (by omega), f1 _ (by omega), f0 _ (by omega)]; exact wo
  · by_cases y2 : i = j
    · rw [y2, va_up_self]
    · rw [va_up_ne _ _ y2]; exact wf i (by omega)
  · by_cases y2 : i = j
    · rw [y2]; exact S1.fr (fun q q1 q2 => f2 q (by omega))
    · exact (ws i (by omega)).fr (fun q q1 q2 => (f2 q (by omega)).trans ((f1 q (by omega)).trans (f0 q (by omega))))
  · rw [f2 q (by omega), f1 q (by omega), f0 q (by omega)]; exact wr q (by omega)
theorem i_X2 {K : Hp → Prop} {h : Hp} {y z : Nat} (hz : z = y + 1) (ho : h y = some (.inr (2, [.int 0, .null]))) (hk : ∀ h', (∀ q, (q < y ∨ y + 206 ≤ q) → h' q = h q) → HI h' y 0 (fun _ => V0) (fun j => j) → K h') : wp_X2_init y K h z := by
  subst hz
  refine n_k (fun g0 e0 f0 => ?_)
  have w0 : HS g0 g0 y 0 (.inr (2, [.int 0, .null])) := ⟨(f0 _ (by omega)).trans ho, ⟨_, e0, fun i hi => by omega⟩, fun i hi => by omega, fun _ _ => rfl⟩
  refine hs_1 w0 (by omega) (by omega) rfl (by omega) (fun g1 w1 => ?_)
  refine hs_1 w1 (by omega) (by omega) rfl (by omega) (fun g2 w2 => ?_)
  refine hs_1 w2 (by omega) (by omega) rfl (by omega) (fun g3 w3 => ?_)
  refine hs_1 w3 (by omega) (by omega) rfl (by omega) (fun g4 w4 => ?_)
  refine hs_1 w4 (by omega) (by omega) rfl (by omega) (fun g5 w5 => ?_)
  refine hs_1 w5 (by omega) (by omega) rfl (by omega) (fun g6 w6 => ?_)
  obtain ⟨wo, ⟨f, ef, wf⟩, ws, wr⟩ := w6
  refine pF_k wo rfl (fun g7 e7 f7 => hk g7 (fun q hq => ?_) ⟨⟨⟨_, e7⟩, gF_o e7 rfl, gF_o e7 rfl, ?_⟩, fun j hj => ?_, fun j hj => hj, fun i j _ _ q => q, fun j hj => (ws j hj).fr (fun q q1 q2 => f7 q (by omega))⟩)
  · rw [f7 q (by omega), wr q (by omega), f0 q (by omega)]
  · unfold gN
    rw [f7 _ (by omega), ef]
    rfl
  · rw [gQ_at ((f7 _ (by omega)).trans ef) (by omega), if_pos hj]
    exact wf j hj
theorem i_X3 {K : Hp → Prop} {h : Hp} {z0 x z : Nat} (hx : x = z0 + 256) (hz : z = z0 + 257) (ho : h x = some (.inr (3, [.null, .int 0, .int 0, .int 0, .int 0, .long 0, .long 0]))) (hk : ∀ h', (∀ q, (q < z0 + 256 ∨ z0 + 259 ≤ q) → h' q = h q) → PG h' z0 (fun _ => 0) 0 (fun _ => nI 0) → K h') : wp_X3_init x K h z := by
  subst hx
  subst hz
  refine n_k (fun g0 e0 f0 => n_k (fun g1 e1 f1 => pF_k ((f1 _ (by omega)).trans e0) rfl (fun g2 e2 f2 => pF_k (((f2 _ (by omega)).trans ((f1 _ (by omega)).trans (f0 _ (by omega)))).trans ho) rfl (fun g3 e3 f3 => pF_k e3 rfl (fun g4 e4 f4 => ?_)))))
  have et : g4 (z0 + 257) = _ := (f4 _ (by omega)).trans ((f3 _ (by omega)).trans e2)
  have ea : g4 (z0 + 258) = some (arI0 140) := (f4 _ (by omega)).trans ((f3 _ (by omega)).trans ((f2 _ (by omega)).trans e1))
  refine hk g4 (fun q hq => (f4 q (by omega)).trans ((f3 q (by omega)).trans ((f2 q (by omega)).trans ((f1 q (by omega)).trans (f0 q (by omega)))))) ⟨⟨_, e4⟩, gF_o e4 rfl, fun k hk => ?_, ⟨0, 0, gF_o e4 rfl, gF_o e4 rfl⟩, ⟨_, et⟩, gF_o et rfl, ⟨0, 0, 0, gF_o et rfl, gF_o et rfl, gF_o et rfl⟩, gF_o et rfl, fun i hi => ar_i ea hi (by omega) rfl⟩
  rcases (show k = 0 ∨ k = 1 ∨ k = 2 ∨ k = 3 by omega) with rfl | rfl | rfl | rfl <;> exact gF_o e4 rfl
def sgA : Nat → AE := fun k => .inl (skd k, sln k, .inl (fun _ => 0))
/-- Sight and its rows made so far -/
def NS (h0 h : Hp) (s n : Nat) : Prop := isO h s 4 ∧ gF h s 4 0 = some (.ref (s + 1)) ∧ (∀ k, k < 14 → gF h s 4 (k + 1) = some (if k < n then .ref (s + 11 + k) else .null)) ∧ (∀ k, k < n → h (s + 11 + k) = some (sgA k)) ∧ ∀ q, q ≠ s → (q < s + 11 ∨ s + 11 + n ≤ q) → h q = h0 q
theorem ns_1 {h0 h : Hp} {s k n a : Nat} {E : AE} {R : Hp → Prop} (w : NS h0 h s n) (hn : n < 14) (ha : a = s + 11 + n) (hk : k = n + 1) (hE : sgA n = E) (r : ∀ h', NS h0 h' s (n + 1) → R h') : ∀ hn : Hp, hn = hset h a E → ∃ h', pF hn s 4 k (.ref a) = some h' ∧ R h' := by
  subst ha
  subst hk
  obtain ⟨w1, w2, w3, w4, w5⟩ := w
  refine n_k (fun g e1 f1 => ?_)
  have c := f1 s (by omega)
  obtain ⟨h', e', o', g', io⟩ := pF_w (k := n + 1) ((gF_c c _ _).trans (w3 n hn)) (.ref (s + 11 + n))
  refine ⟨h', e', r h' ⟨io, ?_, fun k hk => ?_, fun k hk => ?_, fun q q1 q2 => ?_⟩⟩
  · rw [g' 0, if_neg (by omega), gF_c c]; exact w2
  · rw [g' (k + 1)]
    by_cases y : k = n
    · rw [if_pos (by omega), if_pos (by omega), y]
    · rw [if_neg (by omega), gF_c c, w3 k hk]
      by_cases u : k < n
      · rw [if_pos u, if_pos (by omega)]
      · rw [if_neg u, if_neg (by omega)]
  · rw [o' _ (by omega)]
    by_cases y : k = n
    · rw [y, hE]; exact e1
    · rw [f1 _ (by omega)]; exact w4 k (by omega)
  · rw [o' q q1, f1 q (by omega)]
    exact w5 q q1 (by omega)
theorem i_X4 {K : Hp → Prop} {h : Hp} {s z : Nat} (hz : z = s + 1) (ho : h s = some (.inr (4, [.null, .null, .null, .null, .null, .null, .null, .null, .null, .null, .null, .null, .null, .null, .null]))) (hk : ∀ h', (∀ q, (q < s ∨ s + 25 ≤ q) → h' q = h q) → SO h' s V0 → SR h' h' s (fun _ _ => 0) → K h') : wp_X4_init s K h z := by
  subst hz
  refine n_k (fun g0 e0 f0 => i_X0 (by omega) e0 (fun g1 f1 B1 => pF_k (((f1 _ (by omega)).trans (f0 _ (by omega))).trans ho) rfl (fun g2 e2 f2 => ?_)))
  have w0 : NS g2 g2 s 0 := by
    refine ⟨⟨_, e2⟩, gF_o e2 rfl, fun k hk => ?_, fun k hk => by omega, fun _ _ _ => rfl⟩
    rw [if_neg (by omega)]
    rcases (show k = 0 ∨ k = 1 ∨ k = 2 ∨ k = 3 ∨ k = 4 ∨ k = 5 ∨ k = 6 ∨ k = 7 ∨ k = 8 ∨ k = 9 ∨ k = 10 ∨ k = 11 ∨ k = 12 ∨ k = 13 by omega) with rfl | rfl | rfl | rfl | rfl | rfl | rfl | rfl | rfl | rfl | rfl | rfl | rfl | rfl <;> exact gF_o e2 rfl
  refine ns_1 w0 (by omega) (by omega) rfl rfl (fun h1 w1 => ?_)
  refine ns_1 w1 (by omega) (by omega) rfl rfl (fun h2 w2 => ?_)
  refine ns_1 w2 (by omega) (by omega) rfl rfl (fun h3 w3 => ?_)
  refine ns_1 w3 (by omega) (by omega) rfl rfl (fun h4 w4 => ?_)
  refine ns_1 w4 (by omega) (by omega) rfl rfl (fun h5 w5 => ?_)
  refine ns_1 w5 (by omega) (by omega) rfl rfl (fun h6 w6 => ?_)
  refine ns_1 w6 (by omega) (by omega) rfl rfl (fun h7 w7 => ?_)
  refine ns_1 w7 (by omega) (by omega) rfl rfl (fun h8 w8 => ?_)
  refine ns_1 w8 (by omega) (by omega) rfl rfl (fun h9 w9 => ?_)
  refine ns_1 w9 (by omega) (by omega) rfl rfl (fun h10 w10 => ?_)
  refine ns_1 w10 (by omega) (by omega) rfl rfl (fun h11 w11 => ?_)
  refine ns_1 w11 (by omega) (by omega) rfl rfl (fun h12 w12 => ?_)
  refine ns_1 w12 (by omega) (by omega) rfl rfl (fun h13 w13 => ?_)
  refine ns_1 w13 (by omega) (by omega) rfl rfl (fun h14 w14 => ?_)
  obtain ⟨wi, wo, wg, wa, wf⟩ := w14
  refine hk h14 (fun q hq => ?_) ⟨wi, wo, fun k hk => ?_, B1.fr (fun q q1 q2 => ?_)⟩ ⟨fun _ _ => rfl, fun k hk i hi => ?_, ?_⟩
  · rw [wf q (by omega) (by omega), f2 q (by omega), f1 q (by omega), f0 q (by omega)]
  · rw [wg k hk, if_pos (by omega)]
  · rw [wf q (by omega) (by omega), f2 q (by omega)]
  · have hl : sln k ≤ 480 := by unfold sln; split <;> omega
    rw [gI_at (wa k (by omega)) (by omega), if_pos hi]
  · unfold gN
    rw [show h14 (s + 21) = some (sgA 10) from wa 10 (by omega)]
    rfl
theorem i_X1 {K : Hp → Prop} {h : Hp} {z0 c z : Nat} (hc : c = z0 + 1) (hz : z = z0 + 2) (ho : h c = some (.inr (1, [.null, .null]))) (hk : ∀ h', (∀ q, (q < z0 + 1 ∨ z0 + 27 ≤ q) → h' q = h q) → CK h' z0 V0 (fun _ _ => 0) → K h') : wp_X1_init c K h z := by
  subst hc
  subst hz
  refine n_k (fun g0 e0 f0 => i_X4 (by omega) e0 (fun g1 f1 S1 w1 => pF_k (((f1 _ (by omega)).trans (f0 _ (by omega))).trans ho) rfl (fun g2 e2 f2 => ⟨_, gF_o e2 rfl, _, (by rw [gF_c (f2 _ (by omega))]; exact S1.2.1), pF_k e2 rfl (fun g3 e3 f3 => ?_)⟩)))
  have fr : ∀ q, q ≠ z0 + 1 → g3 q = g1 q := fun q hq => (f3 q hq).trans (f2 q hq)
  refine hk g3 (fun q hq => (fr q (by omega)).trans ((f1 q (by omega)).trans (f0 q (by omega)))) ⟨⟨_, e3⟩, gF_o e3 rfl, gF_o e3 rfl, ⟨isO_c (fr _ (by omega)) S1.1, ?_, fun k hk => ?_, S1.2.2.2.fr (fun q q1 q2 => fr q (by omega))⟩, w1.mv (fun q q1 q2 => fr q (by omega))⟩
  · rw [gF_c (fr _ (by omega))]; exact S1.2.1
  · rw [gF_c (fr _ (by omega))]; exact S1.2.2.1 k hk
theorem i_X8 {K : Hp → Prop} {h : Hp} {z0 z : Nat} (hz : z = z0 + 1) (ho : h z0 = some (.inr (8, [.null, .null, .null, .null, .null, .null]))) (hk : ∀ h', CR h' z0 V0 (fun _ _ => 0) 0 (fun _ => V0) (fun j => j) (fun _ => 0) 0 (fun _ => nI 0) → K h') : wp_X8_init z0 K h z := by
  subst hz
  refine n_k (fun g0 e0 f0 => i_X1 (z0 := z0) (by omega) (by omega) e0 (fun g1 f1 C1 => pF_k (((f1 _ (by omega)).trans (f0 _ (by omega))).trans ho) rfl (fun g2 e2 f2 => ⟨_, gF_o e2 rfl, _, (by rw [gF_c (f2 _ (by omega))]; exact C1.2.1), pF_k e2 rfl (fun g3 e3 f3 => ?_)⟩)))
  have C3 : CK g3 z0 V0 (fun _ _ => 0) := C1.fr (fun q q1 q2 => (f3 q (by omega)).trans (f2 q (by omega)))
  refine ⟨_, gF_o e3 rfl, _, C3.2.1, _, C3.S.2.1, pF_k e3 rfl (fun g4 e4 f4 => n_k (fun g5 e5 f5 => i_X5 (by omega) e5 (fun g6 f6 S6 => pF_k (((f6 _ (by omega)).trans (f5 _ (by omega))).trans e4) rfl (fun g7 e7 f7 => n_k (fun g8 e8 f8 => i_X2 (by omega) e8 (fun g9 f9 H9 => pF_k (((f9 _ (by omega)).trans (f8 _ (by omega))).trans e7) rfl (fun g10 e10 f10 => n_k (fun g11 e11 f11 => i_X3 (z0 := z0) (by omega) (by omega) e11 (fun g12 f12 P12 => pF_k (((f12 _ (by omega)).trans (f11 _ (by omega))).trans e10) rfl (fun g13 e13 f13 => ?_))))))))))⟩
  refine hk g13 ⟨⟨⟨_, e13⟩, gF_o e13 rfl, gF_o e13 rfl, gF_o e13 rfl, gF_o e13 rfl, gF_o e13 rfl, gF_o e13 rfl⟩, C3.fr (fun q q1 q2 => ?_), S6.fr (fun q q1 q2 => ?_), H9.fr (fun q q1 q2 => ?_), P12.fr (fun q q1 => f13 q (by omega))⟩
  · rw [f13 q (by omega), f12 q (by omega), f11 q (by omega), f10 q (by omega), f9 q (by omega), f8 q (by omega), f7 q (by omega), f6 q (by omega), f5 q (by omega), f4 q (by omega)]
  · rw [f13 q (by omega), f12 q (by omega), f11 q (by omega), f10 q (by omega), f9 q (by omega), f8 q (by omega), f7 q (by omega)]
  · rw [f13 q (by omega), f12 q (by omega), f11 q (by omega), f10 q (by omega)]
def rfA : Nat → AE := fun k => match k with
  | 0 => arL0 1367
  | 1 => arL0 1367
  | 2 => arL0 6835
  | 3 => arI0 40
  | _ => arI0 140
def rfE0 : Nat → Value := fun k => if k < 15 then .int 0 else .long 0
theorem i_X9 {K : Hp → Prop} {h : Hp} {M z : Nat} (hz : z = M + 1) (ho : h M = some (.inr (9, [.null, .null, .null, .int 0, .null, .null, .int 0, .int 0, .int 0, .int 0, .int 0, .int 0, .int 0, .int 0, .int 0, .long 0, .long 0]))) (hk : ∀ h', (∀ q, (q < M ∨ M + 6 ≤ q) → h' q = h q) → RR h' M V0 (fun _ => 0) (fun _ => 0) 0 (fun _ => 0) 0 rfE0 → K h') : wp_X9_init M K h z := by
  subst hz
  have w0 : NW h h M _ rfA (M + 1) 0 := ⟨ho, fun k hk => by omega, fun _ _ _ => rfl⟩
  refine nw_1 w0 (by omega) (by omega) rfl rfl (fun h1 w1 => ?_)
  refine nw_1 w1 (by omega) (by omega) rfl rfl (fun h2 w2 => ?_)
  refine nw_1 w2 (by omega) (by omega) rfl rfl (fun h3 w3 => ?_)
  refine nw_1 w3 (by omega) (by omega) rfl rfl (fun h4 w4 => ?_)
  refine nw_1 w4 (by omega) (by omega) rfl rfl (fun h5 w5 => ?_)
  obtain ⟨wo, wa, wf⟩ := w5
  have R0 : ∀ i, i < 1367 → gL h5 (M + 1) (nI i) = some (lN 0) := fun i hi => ar_l (wa 0 (by omega)) hi (by omega) rfl
  obtain ⟨g1, e1, o1, r1⟩ := sL_w (i := 2) (by omega) (R0 2 (by omega)) (lN 4)
  obtain ⟨g2, e2, o2, r2⟩ := sL_w (i := 3) (by omega) ((r1 3 (by omega)).trans ((if_neg (by omega)).trans (R0 3 (by omega)))) (lN 6)
  obtain ⟨g3, e3, o3, r3⟩ := sL_w (i := 4) (by omega) ((r2 4 (by omega)).trans ((if_neg (by omega)).trans ((r1 4 (by omega)).trans ((if_neg (by omega)).trans (R0 4 (by omega)))))) (lN 4)
  obtain ⟨g4, e4, o4, r4⟩ := sL_w (i := 5) (by omega) ((r3 5 (by omega)).trans ((if_neg (by omega)).trans ((r2 5 (by omega)).trans ((if_neg (by omega)).trans ((r1 5 (by omega)).trans ((if_neg (by omega)).trans (R0 5 (by omega)))))))) (lN 5)
  have c1 : g1 M = h5 M := o1 _ (by omega)
  have c2 : g2 M = h5 M := (o2 _ (by omega)).trans c1
  have c3 : g3 M = h5 M := (o3 _ (by omega)).trans c2
  have c4 : g4 M = h5 M := (o4 _ (by omega)).trans c3
  have fr : ∀ q, q ≠ M + 1 → g4 q = h5 q := fun q hq => (o4 q hq).trans ((o3 q hq).trans ((o2 q hq).trans (o1 q hq)))
  have w4 := c4.trans wo
  refine ⟨_, gF_o wo rfl, g1, e1, _, gF_o (c1.trans wo) rfl, g2, e2, _, gF_o (c2.trans wo) rfl, g3, e3, _, gF_o (c3.trans wo) rfl, g4, e4, hk g4 (fun q hq => (fr q (by omega)).trans (wf q (by omega) (by omega))) ⟨⟨⟨_, w4⟩, gF_o w4 rfl, fun i hi => ?_⟩, ⟨gF_o w4 rfl, fun i hi => ar_l ((fr _ (by omega)).trans (wa 1 (by omega))) hi (by omega) rfl⟩, ⟨gF_o w4 rfl, gF_o w4 rfl, fun i hi => ar_l ((fr _ (by omega)).trans (wa 2 (by omega))) hi (by omega) rfl⟩, ⟨gF_o w4 rfl, fun j hj => ⟨_, ar_i ((fr _ (by omega)).trans (wa 3 (by omega))) hj (by omega) rfl⟩⟩, gF_o w4 rfl, gF_o w4 rfl, fun i hi => ar_i ((fr _ (by omega)).trans (wa 4 (by omega))) hi (by omega) rfl, fun k h7 h17 => ?_⟩⟩
  · rw [r4 i (by omega)]
    unfold V0
    by_cases y5 : i = 5
    · subst y5; rfl
    rw [if_neg y5, r3 i (by omega)]
    by_cases y4 : i = 4
    · subst y4; rfl
    rw [if_neg y4, r2 i (by omega)]
    by_cases y3 : i = 3
    · subst y3; rfl
    rw [if_neg y3, r1 i (by omega)]
    by_cases y2 : i = 2
    · subst y2; rfl
    rw [if_neg y2, R0 i hi, if_neg y2, if_neg y3, if_neg y4, if_neg y5]
  · rcases (show k = 7 ∨ k = 8 ∨ k = 9 ∨ k = 10 ∨ k = 11 ∨ k = 12 ∨ k = 13 ∨ k = 14 ∨ k = 15 ∨ k = 16 by omega) with rfl | rfl | rfl | rfl | rfl | rfl | rfl | rfl | rfl | rfl <;> exact gF_o w4 rfl
theorem ok_0 : OK 0 V0 := by
  refine ⟨⟨by decide, by decide, by decide, by decide, by decide, by decide⟩, fun i hi => ?_, fun m hm => ?_, fun v hv => ⟨?_, fun i hi => ?_⟩, fun u hu => absurd hu (by decide +revert)⟩
  · rw [V0_z (by omega), V0_z (by omega), V0_z (by omega), V0_z (by omega), V0_z (by omega)]; omega
  · rw [V0_z (by omega)]; omega
  · rw [V0_z (by omega)]; omega
  · rw [V0_z (by omega)]; omega
theorem inv_0 {h : Hp} {z : Nat} (C : CR h z V0 (fun _ _ => 0) 0 (fun _ => V0) (fun j => j) (fun _ => 0) 0 (fun _ => nI 0)) (R : RR h (z + 259) V0 (fun _ => 0) (fun _ => 0) 0 (fun _ => 0) 0 rfE0) : Inv 0 h z := by
  refine ⟨_, _, _, _, _, _, _, _, _, _, _, C, R, by omega, ⟨ok_0, fun k hk q => absurd (V0_z (by omega)) q⟩, fun j hj => by omega, fun j hj => by omega, by omega, fun i hi => by omega, fun k hk => ?_, ⟨_, rfl⟩, ⟨_, rfl⟩, ⟨_, rfl⟩, ⟨_, rfl⟩, ⟨_, rfl⟩, ⟨_, rfl⟩⟩
  rcases (show k = 0 ∨ k = 1 ∨ k = 2 ∨ k = 3 by omega) with rfl | rfl | rfl | rfl <;> rfl
