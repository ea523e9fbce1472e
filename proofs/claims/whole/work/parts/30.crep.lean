/-! the class: its objects by what is read of them -/
theorem gF_c {h h' : Hp} {a : Nat} (e : h' a = h a) (ci k : Nat) : gF h' a ci k = gF h a ci k := by unfold gF; rw [e]
theorem gI_c {h h' : Hp} {a : Nat} (e : h' a = h a) (t : Nat) (i : Int32) : gI h' a t i = gI h a t i := by unfold gI; rw [e]
theorem gL_c {h h' : Hp} {a : Nat} (e : h' a = h a) (i : Int32) : gL h' a i = gL h a i := by unfold gL; rw [e]
theorem gQ_c {h h' : Hp} {a : Nat} (e : h' a = h a) (t : Nat) (i : Int32) : gQ h' a t i = gQ h a t i := by unfold gQ; rw [e]
theorem gN_c {h h' : Hp} {a : Nat} (e : h' a = h a) : gN h' a = gN h a := by unfold gN; rw [e]
theorem isO_c {h h' : Hp} {a : Nat} (e : h' a = h a) {ci : Nat} (i : isO h a ci) : isO h' a ci := by unfold isO; rw [e]; exact i
theorem in_iff {j n : Nat} (hj : j < 2 ^ 31) : ¬ (nI j < 0 ∨ n ≤ (nI j).toNatClampNeg) ↔ j < n := by
  rw [nI_clamp hj]
  constructor
  · intro q
    exact Nat.lt_of_not_le fun z => q (Or.inr z)
  · rintro q (z | z)
    · exact nI_pos hj z
    · omega
theorem gI_at {h : Hp} {a t n : Nat} {f : Nat → Int32} (e : h a = some (.inl (t, n, .inl f))) {j : Nat} (hj : j < 2 ^ 31) : gI h a t (nI j) = if j < n then some (f j) else none := by
  unfold gI
  rw [e]
  dsimp only
  by_cases z : j < n
  · rw [if_pos ⟨rfl, (in_iff hj).mpr z⟩, if_pos z, nI_clamp hj]
  · rw [if_neg (fun q => z ((in_iff hj).mp q.2)), if_neg z]
theorem gL_at {h : Hp} {a n : Nat} {f : Nat → Int64} (e : h a = some (.inl (1, n, .inr (.inl f)))) {j : Nat} (hj : j < 2 ^ 31) : gL h a (nI j) = if j < n then some (f j) else none := by
  unfold gL
  rw [e]
  dsimp only
  by_cases z : j < n
  · rw [if_pos ⟨rfl, (in_iff hj).mpr z⟩, if_pos z, nI_clamp hj]
  · rw [if_neg (fun q => z ((in_iff hj).mp q.2)), if_neg z]
theorem gQ_at {h : Hp} {a t n : Nat} {f : Nat → Option Nat} (e : h a = some (.inl (t, n, .inr (.inr (.inr (.inr f)))))) {j : Nat} (hj : j < 2 ^ 31) : gQ h a t (nI j) = if j < n then f j else none := by
  unfold gQ
  rw [e]
  dsimp only
  by_cases z : j < n
  · rw [if_pos ⟨rfl, (in_iff hj).mpr z⟩, if_pos z, nI_clamp hj]
  · rw [if_neg (fun q => z ((in_iff hj).mp q.2)), if_neg z]
/-- a write where a read answers -/
theorem sI_w {h : Hp} {a i : Nat} {v : Int32} (hi : i < 2 ^ 31) (e : gI h a 0 (nI i) = some v) (x : Int32) : ∃ h', sI h a (nI i) x = some h' ∧ (∀ q, q ≠ a → h' q = h q) ∧ (∀ j, j < 2 ^ 31 → gI h' a 0 (nI j) = if j = i then some x else gI h a 0 (nI j)) ∧ gN h' a = gN h a := by
  obtain ⟨n, f, hf, hin, -⟩ := gI_of e
  have hlt : i < n := (in_iff hi).mp hin
  refine ⟨hset h a (.inl (0, n, .inl (upd f i x))), ?_, fun q hq => hset_n hq, fun j hj => ?_, ?_⟩
  · unfold sI
    rw [hf]
    dsimp only
    rw [if_pos ⟨rfl, hin⟩, nI_clamp hi]
  · rw [gI_at (hset_s _ _ _) hj, gI_at hf hj]
    by_cases z : j = i
    · subst z
      rw [if_pos rfl, if_pos hlt, pk_us]
    · rw [if_neg z, pk_un z]
  · unfold gN
    rw [hset_s, hf]
theorem sZ_w {h : Hp} {a i : Nat} {v : Int32} (hi : i < 2 ^ 31) (e : gI h a 2 (nI i) = some v) {x : Int32} (hx : x = 0 ∨ x = 1) : ∃ h', sZ h a (nI i) x = some h' ∧ (∀ q, q ≠ a → h' q = h q) ∧ (∀ j, j < 2 ^ 31 → gI h' a 2 (nI j) = if j = i then some x else gI h a 2 (nI j)) := by
  obtain ⟨n, f, hf, hin, -⟩ := gI_of e
  have hlt : i < n := (in_iff hi).mp hin
  refine ⟨hset h a (.inl (2, n, .inl (upd f i x))), ?_, fun q hq => hset_n hq, fun j hj => ?_⟩
  · unfold sZ
    rw [hf]
    dsimp only
    rw [if_pos ⟨rfl, hx, hin⟩, nI_clamp hi]
  · rw [gI_at (hset_s _ _ _) hj, gI_at hf hj]
    by_cases z : j = i
    · subst z
      rw [if_pos rfl, if_pos hlt, pk_us]
    · rw [if_neg z, pk_un z]
theorem sL_w {h : Hp} {a i : Nat} {v : Int64} (hi : i < 2 ^ 31) (e : gL h a (nI i) = some v) (x : Int64) : ∃ h', sL h a (nI i) x = some h' ∧ (∀ q, q ≠ a → h' q = h q) ∧ (∀ j, j < 2 ^ 31 → gL h' a (nI j) = if j = i then some x else gL h a (nI j)) := by
  obtain ⟨n, f, hf, hin, -⟩ := gL_of e
  have hlt : i < n := (in_iff hi).mp hin
  refine ⟨hset h a (.inl (1, n, .inr (.inl (vp_updL f i x)))), ?_, fun q hq => hset_n hq, fun j hj => ?_⟩
  · unfold sL
    rw [hf]
    dsimp only
    rw [if_pos ⟨rfl, hin⟩, nI_clamp hi]
  · rw [gL_at (hset_s _ _ _) hj, gL_at hf hj]
    by_cases z : j = i
    · subst z
      rw [if_pos rfl, if_pos hlt, pk_uLs]
    · rw [if_neg z, pk_uLn z]
theorem pF_w {h : Hp} {a ci k : Nat} {v0 : Value} (e : gF h a ci k = some v0) (v : Value) : ∃ h', pF h a ci k v = some h' ∧ (∀ q, q ≠ a → h' q = h q) ∧ (∀ j, gF h' a ci j = if j = k then some v else gF h a ci j) ∧ isO h' a ci := by
  obtain ⟨fs, hf, hk⟩ := gF_of e
  have hlt : k < fs.length := (List.getElem?_eq_some_iff.mp hk).1
  refine ⟨hset h a (.inr (ci, fs.set k v)), ?_, fun q hq => hset_n hq, fun j => ?_, ⟨_, hset_s _ _ _⟩⟩
  · unfold pF
    rw [hf]
    dsimp only
    rw [if_pos ⟨rfl, hlt⟩]
  · unfold gF
    rw [hset_s, hf]
    dsimp only
    rw [if_pos rfl, if_pos rfl]
    by_cases z : j = k
    · subst z
      rw [if_pos rfl, List.getElem?_set_self hlt]
    · rw [if_neg z, List.getElem?_set_ne (Ne.symm z)]
/-- a copy of a stretch where reads answer -/
theorem cpI_w {h : Hp} {a0 a sp dp n : Nat} {v0 v1 : Int32} (hn : 0 < n) (hs : sp + n < 2 ^ 31) (hd : dp + n < 2 ^ 31) (e0 : gI h a0 0 (nI (sp + n - 1)) = some v0) (e1 : gI h a 0 (nI (dp + n - 1)) = some v1) : ∃ h', cpI h a0 (nI sp) a (nI dp) (nI n) = some h' ∧ (∀ q, q ≠ a → h' q = h q) ∧ ∀ j, j < 2 ^ 31 → gI h' a 0 (nI j) = if dp ≤ j ∧ j < dp + n then gI h a0 0 (nI (sp + (j - dp))) else gI h a 0 (nI j) := by
  obtain ⟨n0, f, hf, i0, -⟩ := gI_of e0
  obtain ⟨n1, q, hq, i1, -⟩ := gI_of e1
  have l0 := (in_iff (by omega)).mp i0
  have l1 := (in_iff (by omega)).mp i1
  refine ⟨hset h a (.inl (0, n1, .inl (va_cpy f q sp dp n))), ?_, fun q hq => hset_n hq, fun j hj => ?_⟩
  · unfold cpI
    rw [hf, hq]
    dsimp only
    rw [nI_clamp (by omega), nI_clamp (by omega), nI_clamp (by omega), if_pos ⟨rfl, rfl, nI_pos (by omega), nI_pos (by omega), nI_pos (by omega), by omega, by omega⟩]
  · rw [gI_at (hset_s _ _ _) hj, gI_at hq hj]
    by_cases z : dp ≤ j ∧ j < dp + n
    · rw [if_pos z, if_pos (by omega), gI_at hf (by omega), if_pos (by omega), pk_cpy_in z.1 z.2]
    · rw [if_neg z, pk_cpy_out (by omega)]
theorem cpL_w {h : Hp} {a0 a sp dp n : Nat} {v0 v1 : Int64} (hn : 0 < n) (hs : sp + n < 2 ^ 31) (hd : dp + n < 2 ^ 31) (e0 : gL h a0 (nI (sp + n - 1)) = some v0) (e1 : gL h a (nI (dp + n - 1)) = some v1) : ∃ h', cpL h a0 (nI sp) a (nI dp) (nI n) = some h' ∧ (∀ q, q ≠ a → h' q = h q) ∧ ∀ j, j < 2 ^ 31 → gL h' a (nI j) = if dp ≤ j ∧ j < dp + n then gL h a0 (nI (sp + (j - dp))) else gL h a (nI j) := by
  obtain ⟨n0, f, hf, i0, -⟩ := gL_of e0
  obtain ⟨n1, q, hq, i1, -⟩ := gL_of e1
  have l0 := (in_iff (by omega)).mp i0
  have l1 := (in_iff (by omega)).mp i1
  refine ⟨hset h a (.inl (1, n1, .inr (.inl (va_cpy f q sp dp n)))), ?_, fun q hq => hset_n hq, fun j hj => ?_⟩
  · unfold cpL
    rw [hf, hq]
    dsimp only
    rw [nI_clamp (by omega), nI_clamp (by omega), nI_clamp (by omega), if_pos ⟨rfl, rfl, nI_pos (by omega), nI_pos (by omega), nI_pos (by omega), by omega, by omega⟩]
  · rw [gL_at (hset_s _ _ _) hj, gL_at hq hj]
    by_cases z : dp ≤ j ∧ j < dp + n
    · rw [if_pos z, if_pos (by omega), gL_at hf (by omega), if_pos (by omega), pk_cpy_in z.1 z.2]
    · rw [if_neg z, pk_cpy_out (by omega)]
/-- Books at b hold the vector T -/
def BK (h : Hp) (b : Nat) (T : Nat → Nat) : Prop :=
  isO h b 0 ∧ gF h b 0 0 = some (.int (nI (T 0))) ∧ gF h b 0 1 = some (.int (nI (T 1))) ∧ (∀ k, k < 9 → gF h b 0 (k + 2) = some (.ref (b + 1 + k))) ∧
  (∀ i, i < 40 → gI h (b + 1) 0 (nI i) = some (nI (T (9 + 5 * i)))) ∧ (∀ i, i < 40 → gI h (b + 2) 0 (nI i) = some (nI (T (9 + 5 * i + 2)))) ∧ (∀ i, i < 40 → gI h (b + 3) 0 (nI i) = some (nI (T (9 + 5 * i + 3)))) ∧
  (∀ i, i < 40 → gL h (b + 4) (nI i) = some (lN (T (9 + 5 * i + 1)))) ∧ (∀ i, i < 40 → gL h (b + 5) (nI i) = some (lN (T (9 + 5 * i + 4)))) ∧
  (∀ i, i < 3 → gI h (b + 6) 0 (nI i) = some (nI (T (6 + i)))) ∧ (∀ i, i < 4 → gI h (b + 7) 0 (nI i) = some (nI (T (2 + i)))) ∧
  (∀ v, v < 6 → gI h (b + 8) 0 (nI v) = some (nI (T (209 + 41 * v)))) ∧ (∀ v, v < 6 → ∀ i, i < 40 → gI h (b + 9) 0 (nI (v * 40 + i)) = some (nI (T (209 + 41 * v + 1 + i))))
theorem BK.fr {h h' : Hp} {b : Nat} {T : Nat → Nat} (B : BK h b T) (e : ∀ q, b ≤ q → q < b + 10 → h' q = h q) : BK h' b T := by
  obtain ⟨b0, b1, b2, b3, b4, b5, b6, b7, b8, b9, b10, b11, b12⟩ := B
  refine ⟨isO_c (e b (by omega) (by omega)) b0, ?_, ?_, fun k hk => ?_, fun i hi => ?_, fun i hi => ?_, fun i hi => ?_, fun i hi => ?_, fun i hi => ?_, fun i hi => ?_, fun i hi => ?_, fun i hi => ?_, fun v hv i hi => ?_⟩
  · rw [gF_c (e b (by omega) (by omega))]; exact b1
  · rw [gF_c (e b (by omega) (by omega))]; exact b2
  · rw [gF_c (e b (by omega) (by omega))]; exact b3 k hk
  · rw [gI_c (e _ (by omega) (by omega))]; exact b4 i hi
  · rw [gI_c (e _ (by omega) (by omega))]; exact b5 i hi
  · rw [gI_c (e _ (by omega) (by omega))]; exact b6 i hi
  · rw [gL_c (e _ (by omega) (by omega))]; exact b7 i hi
  · rw [gL_c (e _ (by omega) (by omega))]; exact b8 i hi
  · rw [gI_c (e _ (by omega) (by omega))]; exact b9 i hi
  · rw [gI_c (e _ (by omega) (by omega))]; exact b10 i hi
  · rw [gI_c (e _ (by omega) (by omega))]; exact b11 i hi
  · rw [gI_c (e _ (by omega) (by omega))]; exact b12 v hv i hi
section BKr
variable {h : Hp} {b : Nat} {T : Nat → Nat}
theorem BK.o (B : BK h b T) : isO h b 0 := B.1
theorem BK.cards (B : BK h b T) : gF h b 0 0 = some (.int (nI (T 0))) := B.2.1
theorem BK.vers (B : BK h b T) : gF h b 0 1 = some (.int (nI (T 1))) := B.2.2.1
theorem BK.fm (B : BK h b T) : gF h b 0 2 = some (.ref (b + 1)) := B.2.2.2.1 0 (by omega)
theorem BK.fc (B : BK h b T) : gF h b 0 3 = some (.ref (b + 2)) := B.2.2.2.1 1 (by omega)
theorem BK.fs (B : BK h b T) : gF h b 0 4 = some (.ref (b + 3)) := B.2.2.2.1 2 (by omega)
theorem BK.fr' (B : BK h b T) : gF h b 0 5 = some (.ref (b + 4)) := B.2.2.2.1 3 (by omega)
theorem BK.ft (B : BK h b T) : gF h b 0 6 = some (.ref (b + 5)) := B.2.2.2.1 4 (by omega)
theorem BK.fcl (B : BK h b T) : gF h b 0 7 = some (.ref (b + 6)) := B.2.2.2.1 5 (by omega)
theorem BK.fn (B : BK h b T) : gF h b 0 8 = some (.ref (b + 7)) := B.2.2.2.1 6 (by omega)
theorem BK.fv (B : BK h b T) : gF h b 0 9 = some (.ref (b + 8)) := B.2.2.2.1 7 (by omega)
theorem BK.fo (B : BK h b T) : gF h b 0 10 = some (.ref (b + 9)) := B.2.2.2.1 8 (by omega)
theorem BK.m (B : BK h b T) {i : Nat} (hi : i < 40) : gI h (b + 1) 0 (nI i) = some (nI (T (9 + 5 * i))) := B.2.2.2.2.1 i hi
theorem BK.c (B : BK h b T) {i : Nat} (hi : i < 40) : gI h (b + 2) 0 (nI i) = some (nI (T (9 + 5 * i + 2))) := B.2.2.2.2.2.1 i hi
theorem BK.s (B : BK h b T) {i : Nat} (hi : i < 40) : gI h (b + 3) 0 (nI i) = some (nI (T (9 + 5 * i + 3))) := B.2.2.2.2.2.2.1 i hi
theorem BK.r (B : BK h b T) {i : Nat} (hi : i < 40) : gL h (b + 4) (nI i) = some (lN (T (9 + 5 * i + 1))) := B.2.2.2.2.2.2.2.1 i hi
theorem BK.t (B : BK h b T) {i : Nat} (hi : i < 40) : gL h (b + 5) (nI i) = some (lN (T (9 + 5 * i + 4))) := B.2.2.2.2.2.2.2.2.1 i hi
theorem BK.cl (B : BK h b T) {i : Nat} (hi : i < 3) : gI h (b + 6) 0 (nI i) = some (nI (T (6 + i))) := B.2.2.2.2.2.2.2.2.2.1 i hi
theorem BK.n (B : BK h b T) {i : Nat} (hi : i < 4) : gI h (b + 7) 0 (nI i) = some (nI (T (2 + i))) := B.2.2.2.2.2.2.2.2.2.2.1 i hi
theorem BK.v (B : BK h b T) {i : Nat} (hi : i < 6) : gI h (b + 8) 0 (nI i) = some (nI (T (209 + 41 * i))) := B.2.2.2.2.2.2.2.2.2.2.2.1 i hi
theorem BK.vo (B : BK h b T) {v i : Nat} (hv : v < 6) (hi : i < 40) : gI h (b + 9) 0 (nI (v * 40 + i)) = some (nI (T (209 + 41 * v + 1 + i))) := B.2.2.2.2.2.2.2.2.2.2.2.2 v hv i hi
end BKr
/-- the rows of Sight at s: F k i is what row k holds at i -/
def sln (k : Nat) : Nat := if 1 ≤ k ∧ k ≤ 9 then 480 else 40
def skd (k : Nat) : Nat := if k = 12 then 2 else 0
def SO (h : Hp) (s : Nat) (T : Nat → Nat) : Prop := isO h s 4 ∧ gF h s 4 0 = some (.ref (s + 1)) ∧ (∀ k, k < 14 → gF h s 4 (k + 1) = some (.ref (s + 11 + k))) ∧ BK h (s + 1) T
def SR (h0 h : Hp) (s : Nat) (F : Nat → Nat → Int32) : Prop := (∀ q, (q < s + 11 ∨ s + 25 ≤ q) → h q = h0 q) ∧ (∀ k, k < 14 → ∀ i, i < sln k → gI h (s + 11 + k) (skd k) (nI i) = some (F k i)) ∧ gN h (s + 21) = some (nI 40)
def up2 (F : Nat → Nat → Int32) (k i : Nat) (x : Int32) : Nat → Nat → Int32 := fun k' i' => if k' = k ∧ i' = i then x else F k' i'
theorem up2_s (F : Nat → Nat → Int32) (k i : Nat) (x : Int32) : up2 F k i x k i = x := if_pos ⟨rfl, rfl⟩
theorem up2_k {F : Nat → Nat → Int32} {k i k' i' : Nat} {x : Int32} (n : k' ≠ k) : up2 F k i x k' i' = F k' i' := if_neg (fun q => n q.1)
theorem up2_i {F : Nat → Nat → Int32} {k i k' i' : Nat} {x : Int32} (n : i' ≠ i) : up2 F k i x k' i' = F k' i' := if_neg (fun q => n q.2)
section SRs
variable {h0 h : Hp} {s : Nat} {T : Nat → Nat} {F : Nat → Nat → Int32}
theorem SO.o (S : SO h0 s T) (w : SR h0 h s F) : isO h s 4 := isO_c (w.1 s (Or.inl (by omega))) S.1
theorem SO.b (S : SO h0 s T) (w : SR h0 h s F) : gF h s 4 0 = some (.ref (s + 1)) := by rw [gF_c (w.1 s (Or.inl (by omega)))]; exact S.2.1
theorem SO.f (S : SO h0 s T) (w : SR h0 h s F) {k : Nat} (hk : k < 14) : gF h s 4 (k + 1) = some (.ref (s + 11 + k)) := by rw [gF_c (w.1 s (Or.inl (by omega)))]; exact S.2.2.1 k hk
theorem SO.B (S : SO h0 s T) (w : SR h0 h s F) : BK h (s + 1) T := S.2.2.2.fr (fun q h1 h2 => w.1 q (Or.inl (by omega)))
theorem SR.g (w : SR h0 h s F) {k i : Nat} (hk : k < 14) (h12 : k ≠ 12) (hi : i < sln k) : gI h (s + 11 + k) 0 (nI i) = some (F k i) := by
  have := w.2.1 k hk i hi
  rw [show skd k = 0 from if_neg h12] at this
  exact this
theorem SR.gz (w : SR h0 h s F) {i : Nat} (hi : i < 40) : gI h (s + 23) 2 (nI i) = some (F 12 i) := w.2.1 12 (by omega) i hi
theorem SR.put (w : SR h0 h s F) {k i : Nat} (hk : k < 14) (h12 : k ≠ 12) (hi : i < sln k) (x : Int32) : ∃ h', sI h (s + 11 + k) (nI i) x = some h' ∧ SR h0 h' s (up2 F k i x) := by
  have hl : sln k ≤ 480 := by unfold sln; split <;> omega
  obtain ⟨h', e, o, g, gn⟩ := sI_w (by omega) (w.g hk h12 hi) x
  refine ⟨h', e, fun q hq => (o q (by omega)).trans (w.1 q hq), fun k' hk' i' hi' => ?_, ?_⟩
  · have hl' : sln k' ≤ 480 := by unfold sln; split <;> omega
    by_cases z : k' = k
    · subst z
      rw [show skd k' = 0 from if_neg h12, g i' (by omega)]
      by_cases y : i' = i
      · subst y; rw [if_pos rfl, up2_s]
      · rw [if_neg y, up2_i y]
        exact w.g hk h12 hi'
    · rw [gI_c (o _ (by omega)), up2_k z]
      exact w.2.1 k' hk' i' hi'
  · by_cases z : s + 11 + k = s + 21
    · rw [← z, gn, z]; exact w.2.2
    · rw [gN_c (o _ (Ne.symm z))]; exact w.2.2
theorem SR.putz (w : SR h0 h s F) {i : Nat} (hi : i < 40) {x : Int32} (hx : x = 0 ∨ x = 1) : ∃ h', sZ h (s + 23) (nI i) x = some h' ∧ SR h0 h' s (up2 F 12 i x) := by
  obtain ⟨h', e, o, g⟩ := sZ_w (by omega) (w.gz hi) hx
  refine ⟨h', e, fun q hq => (o q (by omega)).trans (w.1 q hq), fun k' hk' i' hi' => ?_, ?_⟩
  · have hl' : sln k' ≤ 480 := by unfold sln; split <;> omega
    by_cases z : k' = 12
    · subst z
      rw [show skd 12 = 2 from rfl]
      show gI h' (s + 23) 2 (nI i') = _
      rw [g i' (by omega)]
      by_cases y : i' = i
      · subst y; rw [if_pos rfl, up2_s]
      · rw [if_neg y, up2_i y]
        exact w.gz (by exact hi')
    · rw [gI_c (o _ (by omega)), up2_k z]
      exact w.2.1 k' hk' i' hi'
  · rw [gN_c (o _ (by omega))]; exact w.2.2
end SRs
