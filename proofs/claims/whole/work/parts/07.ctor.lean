/-! constructors: they make cells; the heap's size is known to the cell -/
def Stz (g : Gt) (A : Nat → Prop) (s : State) (h : Hp) (z : Nat) (H : Heap) (locs : List Loc) (cells : Nat) : Prop := z = s.heap.size + cells ∧ z ≤ H.size ∧ St g A s h H locs
def dmz (h : Hp) (z : Nat) : Nat → Prop := fun q => dm h q ∨ z ≤ q
def PBz (g : Gt) (h : Hp) (z : Nat) (U : State) : Prop := U.heap.size = z ∧ GP g U ∧ SP g (dmz h z) U U.heap ∧ ∃ w : va_W, va_P g.1 vwCl w U.heap ∧ va_D (dmz h z) w ∧ hpw g h w
def QBz (g : Gt) (h : Hp) (z mc : Nat) (h' : Hp) (t : State) : Prop := z + mc ≤ t.heap.size ∧ ∃ w : va_W, va_P g.1 vwCl w t.heap ∧ va_D (dmz h z) w ∧ hpw g h' w
abbrev Pgz (g : Gt) (h : Hp) (z : Nat) (av : List Value) : Array Value → State → Prop := va_Pc av (PBz g h z)
abbrev Qvz (g : Gt) (h : Hp) (z mc : Nat) (Post : Hp → Prop) : Array Value → State → Outcome → State → Prop := va_Qv (S := Hp) Post (QBz g h z mc) (dmz h z)
theorem Pgz.blind (g : Gt) (h : Hp) (z : Nat) (av : List Value) : FrameBlind (Pgz g h z av) := fun a U f mk q => ⟨q.1, q.2.1, GP.same (U := U.calling f mk a) rfl q.2.2.1, SP.moved (U := U.calling f mk a) (Vm.Alike.refl U.vm) q.2.2.2.1, q.2.2.2.2⟩
theorem hpw_push {g : Gt} {h : Hp} {w : va_W} (hw : hpw g h w) (a : Nat) (e : AE) : hpw g (hset h a e) (w ++ [(a, cv g e)]) := by
  refine ⟨fun b x hb => ?_, fun k q hk => ?_⟩
  · by_cases n : b = a
    · subst n
      rw [hset_s] at hb
      cases hb
      exact ⟨w.length, by rw [List.getElem?_append_right (Nat.le_refl _), Nat.sub_self]; rfl⟩
    · rw [hset_n n] at hb
      obtain ⟨k, hk⟩ := hw.1 b x hb
      exact ⟨k, by rw [List.getElem?_append_left (List.getElem?_eq_some_iff.mp hk).1]; exact hk⟩
  · by_cases n : q.1 = a
    · rw [n, hset_s]; rfl
    · rw [hset_n n]
      by_cases hl : k < w.length
      · rw [List.getElem?_append_left hl] at hk
        exact hw.2 k q hk
      · rw [List.getElem?_append_right (by omega)] at hk
        have hz : k - w.length < 1 := (List.getElem?_eq_some_iff.mp hk).1
        rw [show k - w.length = 0 by omega] at hk
        cases hk
        exact absurd rfl n
section CT
variable {p : Program} {l : Launch} {e : Env} {R : Room} {s : State} {m : MethodId} {args : Array Value} {below : List Frame} {meth : Method} {c : Code} {H : Heap} {locs : List Loc} {cells slots : Nat} {Q : State → Prop}
variable {cc : ByteArray} {pc : Nat} {ls : Array Slot} {rest : List Value} {g : Gt} {A : Nat → Prop} {h : Hp} {a z : Nat} {own : String} {nL : Nat}
theorem W_sz (Z : Stz g A s h z H locs cells) {f : JFrame} (k : H.size = z → W p l e R s m args below meth c H locs cells slots Q f) : W p l e R s m args below meth c H locs cells slots Q f := fun T hT X => k (by
  have h0 := X.heapSize
  rw [hT] at h0
  obtain ⟨h1, h2, -⟩ := Z
  omega) T hT X
/-- a store keeps the size: seen from the heap just before it -/
theorem Stz.here (Z : Stz g A s h z H locs cells) : va_S A H H locs := ⟨Nat.le_refl _, fun _ _ _ => rfl, Z.2.2.1.2.2⟩
theorem Stz.then (Z : Stz g A s h z H locs cells) {H1 : Heap} {locs1 : List Loc} (S : va_S A H H1 locs1) {h' : Hp} {w : va_W} (hP : va_P g.1 vwCl w H1) (hD : va_D A w) (hw : hpw g h' w) : Stz g A s h' z H1 locs1 cells := by
  obtain ⟨h1, h2, hS, -⟩ := Z
  refine ⟨h1, Nat.le_trans h2 S.1, ⟨Nat.le_trans hS.1 S.1, fun q h3 h4 => ?_, S.2.2⟩, w, hP, hD, hw⟩
  rw [S.2.1 q (Nat.lt_of_lt_of_le h3 hS.1) h4]
  exact hS.2.1 q h3 h4
theorem rz_put (C : Cx g A own cc nL p s m args meth c) (Z : Stz g A s h z H locs cells) {ci k idx : Nat} {CN : String} {T : u_T} {N : Nat} {v : Value} {h' : Hp} (hv : pF h a ci k v = some h') (hin : ∀ w ∈ u_ws CN T N, w ∈ gtb) {ty0 : Nat → FieldType} (hty : ∀ k, k < N → parseFieldDescriptor (T k).2.2.1 = some (ty0 k)) (hnm : ∀ a, a < N → ∀ b, b < N → a ≠ b → (T a).2.1 ≠ (T b).2.1) (hc : vwCl[ci]? = some (CN, T, N)) (hk : k < N) (hlink : Cond.fieldLink own idx (T k).1 (T k).2.1 (T k).2.2.1 ∈ gtb) (hfin : (T k).2.2.2 = false) (hn : narrow (ty0 k) v = v) (hfit : fits (ty0 k) v = true) (hdg : decode cc pc = .ok (.putfield idx, 3))
    (kk : ∀ (H1 : Heap) (locs1 : List Loc), Stz g A s h' z H1 locs1 cells → W p l e R s m args below meth c H1 locs1 cells slots Q (F0 m (pc + 3) ls rest)) : W p l e R s m args below meth c H locs cells slots Q (F0 m pc ls (v :: .ref a :: rest)) := by
  obtain ⟨⟨hx, hb, hml, hown, hts⟩, -, hG, -⟩ := C
  obtain ⟨-, w, hP, hD, hw⟩ := Z.2.2
  obtain ⟨fs, hfs, hkl, rfl⟩ := pF_of hv
  obtain ⟨q0, hq⟩ := hw.1 a _ hfs
  exact va_put hx hb hts hin ty0 hty hnm hown hG.1 hP hD Z.here q0 hq hc k hk (hts _ hlink) (fun x hx => hx) hfin (hty k hk) hn hfit hkl hdg (fun H1 locs1 hP1 hD1 hS1 => kk H1 locs1 (Z.then hS1 hP1 hD1 (hpw_set hw hq (.inr (ci, fs.set k v)))))
theorem rz_putF (C : Cx g A own cc nL p s m args meth c) (Z : Stz g A s h z H locs cells) {ci k idx : Nat} {CN : String} {T : u_T} {N : Nat} {v : Value} {h' : Hp} (hv : pF h a ci k v = some h') (hin : ∀ w ∈ u_ws CN T N, w ∈ gtb) {ty0 : Nat → FieldType} (hty : ∀ k, k < N → parseFieldDescriptor (T k).2.2.1 = some (ty0 k)) (hnm : ∀ a, a < N → ∀ b, b < N → a ≠ b → (T a).2.1 ≠ (T b).2.1) (hc : vwCl[ci]? = some (CN, T, N)) (hk : k < N) (hlink : Cond.fieldLink own idx (T k).1 (T k).2.1 (T k).2.2.1 ∈ gtb) (hfin : (T k).2.2.2 = true) (hin2 : meth.name = "<init>") (hdecl : (T k).1 = own) (hn : narrow (ty0 k) v = v) (hfit : fits (ty0 k) v = true) (hdg : decode cc pc = .ok (.putfield idx, 3))
    (kk : ∀ (H1 : Heap) (locs1 : List Loc), Stz g A s h' z H1 locs1 cells → W p l e R s m args below meth c H1 locs1 cells slots Q (F0 m (pc + 3) ls rest)) : W p l e R s m args below meth c H locs cells slots Q (F0 m pc ls (v :: .ref a :: rest)) := by
  obtain ⟨⟨hx, hb, hml, hown, hts⟩, -, hG, -⟩ := C
  obtain ⟨-, w, hP, hD, hw⟩ := Z.2.2
  obtain ⟨fs, hfs, hkl, rfl⟩ := pF_of hv
  obtain ⟨q0, hq⟩ := hw.1 a _ hfs
  exact va_putF hx hb hts hin ty0 hty hnm hown hG.1 hP hD Z.here q0 hq hc k hk (hts _ hlink) (fun x hx => hx) hfin hin2 hdecl (hty k hk) hn hfit hkl hdg (fun H1 locs1 hP1 hD1 hS1 => kk H1 locs1 (Z.then hS1 hP1 hD1 (hpw_set hw hq (.inr (ci, fs.set k v)))))
theorem rz_iast (C : Cx g A own cc nL p s m args meth c) (Z : Stz g A s h z H locs cells) {i x : Int32} {h' : Hp} (hv : sI h a i x = some h') (hdg : decode cc pc = .ok (.iastore, 1))
    (kk : ∀ (H1 : Heap) (locs1 : List Loc), Stz g A s h' z H1 locs1 cells → W p l e R s m args below meth c H1 locs1 cells slots Q (F0 m (pc + 1) ls rest)) : W p l e R s m args below meth c H locs cells slots Q (F0 m pc ls (.int x :: .int i :: .ref a :: rest)) := by
  obtain ⟨⟨hx, hb, hml, hown, hts⟩, -, hG, -⟩ := C
  obtain ⟨-, w, hP, hD, hw⟩ := Z.2.2
  obtain ⟨n, f, hf, hi, rfl⟩ := sI_of hv
  obtain ⟨q0, hq⟩ := hw.1 a _ hf
  exact va_iast hx hb hG.1 hP hD Z.here q0 0 hq (tysg_at g (by omega)) hi hdg (fun H1 locs1 hP1 hD1 hS1 => kk H1 locs1 (Z.then hS1 hP1 hD1 (hpw_set hw hq (.inl (0, n, .inl (upd f i.toNatClampNeg x))))))
theorem rz_last (C : Cx g A own cc nL p s m args meth c) (Z : Stz g A s h z H locs cells) {i : Int32} {x : Int64} {h' : Hp} (hv : sL h a i x = some h') (hdg : decode cc pc = .ok (.lastore, 1))
    (kk : ∀ (H1 : Heap) (locs1 : List Loc), Stz g A s h' z H1 locs1 cells → W p l e R s m args below meth c H1 locs1 cells slots Q (F0 m (pc + 1) ls rest)) : W p l e R s m args below meth c H locs cells slots Q (F0 m pc ls (.long x :: .int i :: .ref a :: rest)) := by
  obtain ⟨⟨hx, hb, hml, hown, hts⟩, -, hG, -⟩ := C
  obtain ⟨-, w, hP, hD, hw⟩ := Z.2.2
  obtain ⟨n, f, hf, hi, rfl⟩ := sL_of hv
  obtain ⟨q0, hq⟩ := hw.1 a _ hf
  exact va_last hx hb hG.1 hP hD Z.here q0 1 hq (tysg_at g (by omega)) hi hdg (fun H1 locs1 hP1 hD1 hS1 => kk H1 locs1 (Z.then hS1 hP1 hD1 (hpw_set hw hq (.inl (1, n, .inr (.inl (vp_updL f i.toNatClampNeg x)))))))
theorem rz_aast3 (C : Cx g A own cc nL p s m args meth c) (Z : Stz g A s h z H locs cells) {i : Int32} {v : Nat} {h' : Hp} (ho : isO h v 0) (hv : sQ h a 3 i v = some h') (hdg : decode cc pc = .ok (.aastore, 1))
    (kk : ∀ (H1 : Heap) (locs1 : List Loc), Stz g A s h' z H1 locs1 cells → W p l e R s m args below meth c H1 locs1 cells slots Q (F0 m (pc + 1) ls rest)) : W p l e R s m args below meth c H locs cells slots Q (F0 m pc ls (.ref v :: .int i :: .ref a :: rest)) := by
  obtain ⟨⟨hx, hb, hml, hown, hts⟩, -, hG, -⟩ := C
  obtain ⟨-, w, hP, hD, hw⟩ := Z.2.2
  obtain ⟨n, f, hf, hi, rfl⟩ := sQ_of hv
  obtain ⟨q0, hq⟩ := hw.1 a _ hf
  obtain ⟨fs, ho⟩ := ho
  obtain ⟨q1, hq1⟩ := hw.1 v _ ho
  exact va_astq hx hb hG.1 hP hD Z.here q0 3 q1 0 (r := (RX0, TX0, 11)) hq (tysg_at g (by omega)) hq1 rfl hi hdg (fun H1 locs1 hP1 hD1 hS1 => kk H1 locs1 (Z.then hS1 hP1 hD1 (hpw_set hw hq (.inl (3, n, .inr (.inr (.inr (.inr (va_up f i.toNatClampNeg (some v))))))))))
theorem rz_aast4 (C : Cx g A own cc nL p s m args meth c) (Z : Stz g A s h z H locs cells) {i : Int32} {v : Nat} {h' : Hp} (ho : isO h v 6) (hv : sQ h a 4 i v = some h') (hdg : decode cc pc = .ok (.aastore, 1))
    (kk : ∀ (H1 : Heap) (locs1 : List Loc), Stz g A s h' z H1 locs1 cells → W p l e R s m args below meth c H1 locs1 cells slots Q (F0 m (pc + 1) ls rest)) : W p l e R s m args below meth c H locs cells slots Q (F0 m pc ls (.ref v :: .int i :: .ref a :: rest)) := by
  obtain ⟨⟨hx, hb, hml, hown, hts⟩, -, hG, -⟩ := C
  obtain ⟨-, w, hP, hD, hw⟩ := Z.2.2
  obtain ⟨n, f, hf, hi, rfl⟩ := sQ_of hv
  obtain ⟨q0, hq⟩ := hw.1 a _ hf
  obtain ⟨fs, ho⟩ := ho
  obtain ⟨q1, hq1⟩ := hw.1 v _ ho
  exact va_astq hx hb hG.1 hP hD Z.here q0 4 q1 6 (r := (RX6, TX6, 2)) hq (tysg_at g (by omega)) hq1 rfl hi hdg (fun H1 locs1 hP1 hD1 hS1 => kk H1 locs1 (Z.then hS1 hP1 hD1 (hpw_set hw hq (.inl (4, n, .inr (.inr (.inr (.inr (va_up f i.toNatClampNeg (some v))))))))))
/-- a new cell at the heap's end -/
theorem Stz.push (Z : Stz g A s h z H locs cells) (hA : ∀ q, s.heap.size ≤ q → A q) (ez : H.size = z) {H1 : Heap} {x : AE} (z1 : H1.size = z + 1) (o1 : ∀ q, q < z → H1[q]? = H[q]?) (hx : va_at g.1 vwCl (z, cv g x) H1) : Stz g A s (hset h z x) (z + 1) H1 locs (cells + 1) := by
  obtain ⟨h1, h2, hS, w, hP, hD, hw⟩ := Z
  subst ez
  refine ⟨by omega, by omega, ⟨by have := hS.1; omega, fun q h3 h4 => (o1 q (Nat.lt_of_lt_of_le h3 hS.1)).trans (hS.2.1 q h3 h4), hS.2.2⟩, w ++ [(H.size, cv g x)], (hP.kept (fun k q hq => o1 q.1 (hP k q hq).lt)).app (fun k q hq => ?_), hD.push hP rfl (hA _ hS.1), hpw_push hw H.size x⟩
  have hz : k < 1 := (List.getElem?_eq_some_iff.mp hq).1
  rw [show k = 0 by omega] at hq
  cases hq
  exact hx
theorem rz_new (C : Cx g A own cc nL p s m args meth c) (Z : Stz g A s h z H locs cells) (hA : ∀ q, s.heap.size ≤ q → A q) {ci N idx : Nat} {CN : String} {T : u_T} {fs : List Value} (hc : vwCl[ci]? = some (CN, T, N)) (hin : ∀ w ∈ u_ws CN T N, w ∈ gtb) {ty : Nat → FieldType} (hty : ∀ k, k < N → parseFieldDescriptor (T k).2.2.1 = some (ty k)) (hcl : Cond.classLink own idx CN ∈ gtb) (hinst : Cond.instantiable CN N ∈ gtb) (hini : Cond.initialized CN ∈ gtb) (hfs : ∀ j, j < N → defaultValue (ty j) = vp_V fs j) (hcells : cells + 1 ≤ R.cells) (hslots : slots + N ≤ R.slots) (hdg : decode cc pc = .ok (.new idx, 3))
    (kk : ∀ H1 : Heap, Stz g A s (hset h z (.inr (ci, fs))) (z + 1) H1 locs (cells + 1) → W p l e R s m args below meth c H1 locs (cells + 1) (slots + N) Q (F0 m (pc + 3) ls (.ref z :: rest))) : W p l e R s m args below meth c H locs cells slots Q (F0 m pc ls rest) := by
  refine W_sz Z fun ez => ?_
  obtain ⟨⟨hx, hb, hml, hown, hts⟩, -, hG, -⟩ := C
  have hKn := hG.1.1 ci _ hc
  refine W.newcK hx hb hown (hts _ hcl) (hts _ hinst) (hts _ hini) rfl hdg hcells hslots hKn.2.1 ez fun H1 kC hkC e1 z1 o1 => ?_
  exact kk H1 (Z.push hA ez z1 o1 ⟨_, hc, (u_born ty hts hin hKn hkC e1 hty).to hfs⟩)
theorem rz_newa (C : Cx g A own cc nL p s m args meth c) (Z : Stz g A s h z H locs cells) (hA : ∀ q, s.heap.size ≤ q → A q) {atype : ArrayType} {t : Nat} (ht : t < 3) (hty : newarray.typeOf atype = tyn t) (harr : Cond.arrayClass (newarray.typeOf atype) ∈ gtb) {n : Int32} {N : Nat} {x : (Nat → Int32) ⊕ (Nat → Int64) ⊕ (Nat → UInt32) ⊕ (Nat → UInt64) ⊕ (Nat → Option Nat)} (hxx : ∀ cA : ClassId, vp_cell cA (N, x) = arrV cA N (fun _ => defaultValue (newarray.typeOf atype))) (hn : ¬ n < 0) (hN : n.toNatClampNeg = N) (hbytes : N * componentBytes (newarray.typeOf atype) ≤ 536870912) (hcells : cells + 1 ≤ R.cells) (hslots : slots + N ≤ R.slots) (hdg : decode cc pc = .ok (.newarray atype, 2))
    (kk : ∀ H1 : Heap, Stz g A s (hset h z (.inl (t, N, x))) (z + 1) H1 locs (cells + 1) → W p l e R s m args below meth c H1 locs (cells + 1) (slots + N) Q (F0 m (pc + 2) ls (.ref z :: rest))) : W p l e R s m args below meth c H locs cells slots Q (F0 m pc ls (.int n :: rest)) := by
  refine W_sz Z fun ez => ?_
  obtain ⟨⟨hx, hb, hml, hown, hts⟩, -, hG, -⟩ := C
  refine va_newaK hx hb (hts _ harr) rfl hdg rfl hn hN hbytes hcells hslots ez fun H1 cA e1 z1 o1 hAr hNm => ?_
  refine kk H1 (Z.push hA ez z1 o1 ?_)
  have hr := (hG.1.2 t _ (tysg_at g (by omega))).2
  have hcA : g.2.1 t = cA := by
    rw [hty] at hNm
    match t, ht with
    | 0, _ => exact Option.some.inj (hr.symm.trans hNm)
    | 1, _ => exact Option.some.inj (hr.symm.trans hNm)
    | 2, _ => exact Option.some.inj (hr.symm.trans hNm)
  show H1[z]? = some (vp_cell (g.2.1 t) (N, x))
  rw [hcA, hxx]
  exact e1
theorem rz_anew (C : Cx g A own cc nL p s m args meth c) (Z : Stz g A s h z H locs cells) (hA : ∀ q, s.heap.size ≤ q → A q) {CN : String} {t idx : Nat} (ht : t = 3 ∨ t = 4) (hty : tyn t = .object CN) (hcl : Cond.classLink own idx CN ∈ gtb) (hao : va_AO CN s) {n : Int32} {N : Nat} (hn : ¬ n < 0) (hN : n.toNatClampNeg = N) (hbytes : N * 4 ≤ 536870912) (hcells : cells + 1 ≤ R.cells) (hslots : slots + N ≤ R.slots) (hdg : decode cc pc = .ok (.anewarray idx, 3))
    (kk : ∀ H1 : Heap, Stz g A s (hset h z (.inl (t, N, .inr (.inr (.inr (.inr (fun _ => none))))))) (z + 1) H1 locs (cells + 1) → W p l e R s m args below meth c H1 locs (cells + 1) (slots + N) Q (F0 m (pc + 3) ls (.ref z :: rest))) : W p l e R s m args below meth c H locs cells slots Q (F0 m pc ls (.int n :: rest)) := by
  refine W_sz Z fun ez => ?_
  obtain ⟨⟨hx, hb, hml, hown, hts⟩, -, hG, -⟩ := C
  subst hN
  refine W.anew hx hb hown (hts _ hcl) (va_AO.use hao) rfl hdg rfl hn hbytes hcells hslots fun cA kA comp f1 f2 f3 f4 => ?_
  generalize hH1 : H.push ({ cls := cA, slots := Array.replicate n.toNatClampNeg .null, vm := .none } : Cell) = H1
  have z1 : H1.size = z + 1 := by rw [← hH1, Array.size_push, ez]
  have e1 : H1[z]? = some (arrV cA n.toNatClampNeg (fun _ => .null)) := by rw [← hH1, ← ez, Array.getElem?_push_size, ← arrV_new]
  have o1 : ∀ q : Nat, q < z → H1[q]? = H[q]? := fun q hq => by rw [← hH1, Array.getElem?_push, if_neg (by omega)]
  rw [ez]
  refine kk H1 (Z.push hA ez z1 o1 ?_)
  have hr := (hG.1.2 t _ (tysg_at g (by omega))).2
  rw [hty] at hr
  obtain ⟨kA', comp', g1, g2, g3, g4⟩ := hr
  have hcA : g.2.1 t = cA := Option.some.inj (g4.symm.trans f1)
  show H1[z]? = some (vp_cell (g.2.1 t) _)
  rw [hcA, e1]
  rfl
/-- a call of a nest mate's constructor -/
theorem rz_init (C : Cx g A own cc nL p s m args meth c) (Z : Stz g A s h z H locs cells) (hA : ∀ q, s.heap.size ≤ q → A q) {y : MethodName} {wsy : List Cond} {rm : Room} {bytes : ByteArray} {maxL idx mc ms : Nat} {Post : Hp → Prop} (hM : Met l y wsy rm (Pgz g h z [.ref a]) (Qvz g h z mc Post) mc ms (dmz h z)) (cw : va_CN R s args own idx y "SmudgeTally" bytes maxL none wsy rm mc ms 0 ∧ y.name = "<init>" ∧ (Cond.instanceMethod y).before args s = true) (hsize : ls.size = nL) (hW : (rest.map fun v => v.category).sum ≤ 8) (hdg : decode cc pc = .ok (.invokespecial idx, 3)) (hf : cells + mc ≤ R.cells ∧ slots + ms ≤ R.slots)
    (kk : ∀ (h' : Hp) (H1 : Heap) (locs1 : List Loc), Post h' → Stz g A s h' (z + mc) H1 locs1 (cells + mc) → W p l e R s m args below meth c H1 locs1 (cells + mc) (slots + ms) Q (F0 m (pc + 3) ls rest)) : W p l e R s m args below meth c H locs cells slots Q (F0 m pc ls (.ref a :: rest)) := by
  refine W_sz Z fun ez => ?_
  obtain ⟨h1, h2, Z2⟩ := id Z
  have hsub : ∀ q, dmz h z q → A q := fun q hq => hq.elim (Z2.sub q) (fun hq => hA q (by omega))
  obtain ⟨hS, w, hP, hD, hw⟩ := id Z2
  refine va_callv (va_runIN (As := []) C.1 hM cw ⟨Pgz.blind g h z _, fun U hU hW => ⟨rfl, by rw [hU]; exact ez, GP.moved hW C.2.2.1, ?_, w, by rw [hU]; exact hP, ⟨hD.1, fun k q hk => Or.inl (hw.2 k q hk)⟩, hw⟩⟩ rfl rfl hsize rfl (lv_room hW) hdg hf) hS (fun q _ hq => hsub q hq) hsub (fun u t H1 locs1 ht _ hp hB hz1 hk1 hS1 => kk u H1 locs1 hp ?_)
  · rw [hU]
    exact SP.moved hW.alike (SP.narrow (SP.kept C.2.2.2 (fun q h1 h2 => hS.2.1 q h1 h2)) hsub)
  · obtain ⟨hz, w1, hP1, hD1, hw1⟩ := hB
    rw [ht] at hz hP1
    exact ⟨by omega, hz, hS1, w1, hP1, hD1.weaken (fun k q _ hq => hsub _ hq), hw1⟩
theorem rz_vret {mc : Nat} (hmc : cells = mc) (C : Cx g (dmz h z) own cc nL p s m args meth c) {h' : Hp} {z' : Nat} (hz0 : s.heap.size = z) (Z : Stz g (dmz h z) s h' z' H locs cells) {Post : Hp → Prop} (hr : meth.sig.returnType = none) (hp : Post h') (hdg : decode cc pc = .ok (.return_, 1)) : W p l e R s m args below meth c H locs cells slots (MQ below (Qvz g h z mc Post) args s cells slots (dmz h z)) (F0 m pc ls []) := by
  obtain ⟨h1, h2, hS, w, hP, hD, hw⟩ := Z
  exact W.vret C.1.1 C.1.2.1 hr (fun t ht hW => ⟨⟨h', rfl, hp, by rw [ht]; omega, w, by rw [ht]; exact hP, hD, hw⟩, hS.F ht⟩) hS.2.2 hdg C.2.1
end CT
theorem Met_ofz {l : Launch} {y : MethodName} {rm : Room} {mc ms : Nat} {Post : Hp → Prop} {cc : ByteArray} {maxL : Nat} {ret : Option FieldType} {g : Gt} {h : Hp} {z : Nat} {av : List Value} (hy : plainName y.cls = true) (hav : (lg_sl av).length ≤ maxL)
    (body : ∀ p e s m below meth c ls, Cx g (dmz h z) y.cls cc maxL p s m av.toArray meth c → meth.sig.returnType = ret → meth.name = y.name → lv_has ls maxL (lv_args 0 av) → s.heap.size = z → Stz g (dmz h z) s h z s.heap [] 0 →
      W p l e rm s m av.toArray below meth c s.heap [] 0 0 (MQ below (Qvz g h z mc Post) av.toArray s mc ms (dmz h z)) (F0 m 0 ls [])) : Met l y (WS y cc maxL ret) rm (Pgz g h z av) (Qvz g h z mc Post) mc ms (dmz h z) := by
  refine Met.ofW (cc := cc) (maxL := maxL) (ret := ret) hy rfl ?_
  intro p e s m args below meth c s₁ B hml hv
  obtain ⟨rfl, hz, hG, hSP, w, hP, hD, hwp⟩ := hv
  have hl := lv_entry av (n := maxL) hav
  rw [lg_entry_eq]
  exact body p e s m below meth c _ ⟨⟨B.exec, B.bytes, hml, findClass_of_methodNamed B.named, fun w hw => atoms_spec (ws := WS y cc maxL ret) B.pre w (List.mem_cons_of_mem _ hw)⟩, B.notSynchronized, hG, hSP⟩ B.returns (name_of_methodNamed B.named B.method).1 hl hz ⟨by omega, by omega, va_S.rf, w, hP, hD, hwp⟩
