/-! what holds of the machine's tables all along: the classes, the array classes, links of nest mates; the static tables, which nobody writes -/
def nsM : List (String × Nat × MethodName) := [(⟨"SmudgeTally", 11, ⟨"SmudgeTally$Clerk", "<init>", "()V"⟩⟩ : String × Nat × MethodName), (⟨"SmudgeTally$Clerk", 11, ⟨"SmudgeTally$Sight", "<init>", "()V"⟩⟩ : String × Nat × MethodName), (⟨"SmudgeTally$Sight", 11, ⟨"SmudgeTally$Books", "<init>", "()V"⟩⟩ : String × Nat × MethodName), (⟨"SmudgeTally", 30, ⟨"SmudgeTally$Slots", "<init>", "()V"⟩⟩ : String × Nat × MethodName), (⟨"SmudgeTally$Slots", 11, ⟨"SmudgeTally$Books", "<init>", "()V"⟩⟩ : String × Nat × MethodName), (⟨"SmudgeTally", 37, ⟨"SmudgeTally$History", "<init>", "()V"⟩⟩ : String × Nat × MethodName), (⟨"SmudgeTally$History", 11, ⟨"SmudgeTally$State", "<init>", "()V"⟩⟩ : String × Nat × MethodName), (⟨"SmudgeTally$State", 9, ⟨"SmudgeTally$Books", "<init>", "()V"⟩⟩ : String × Nat × MethodName), (⟨"SmudgeTally$State", 18, ⟨"SmudgeTally$Slots", "<init>", "()V"⟩⟩ : String × Nat × MethodName), (⟨"SmudgeTally", 44, ⟨"SmudgeTally$Program", "<init>", "()V"⟩⟩ : String × Nat × MethodName), (⟨"SmudgeTally$Program", 11, ⟨"SmudgeTally$Text", "<init>", "()V"⟩⟩ : String × Nat × MethodName), (⟨"SmudgeTally$Clerk", 42, ⟨"SmudgeTally", "within", "(III)Z"⟩⟩ : String × Nat × MethodName), (⟨"SmudgeTally$Clerk", 46, ⟨"SmudgeTally", "isRow", "(J)Z"⟩⟩ : String × Nat × MethodName), (⟨"SmudgeTally$Clerk", 111, ⟨"SmudgeTally", "nextLot", "(I)I"⟩⟩ : String × Nat × MethodName), (⟨"SmudgeTally$Clerk", 124, ⟨"SmudgeTally", "differingContests", "(II)I"⟩⟩ : String × Nat × MethodName), (⟨"SmudgeTally$Slots", 26, ⟨"SmudgeTally", "within", "(III)Z"⟩⟩ : String × Nat × MethodName), (⟨"SmudgeTally$Sight", 152, ⟨"SmudgeTally", "outcomeOf", "(II)I"⟩⟩ : String × Nat × MethodName), (⟨"SmudgeTally$Books", 68, ⟨"SmudgeTally", "differingContests", "(II)I"⟩⟩ : String × Nat × MethodName)]
def nsF : List (String × Nat × String × String × String) := [(⟨"SmudgeTally$Clerk", 79, "SmudgeTally", "SMALLEST", "[I"⟩ : String × Nat × String × String × String), (⟨"SmudgeTally$Clerk", 82, "SmudgeTally", "GREATEST", "[I"⟩ : String × Nat × String × String × String), (⟨"SmudgeTally$Sight", 99, "SmudgeTally", "WORTH", "[J"⟩ : String × Nat × String × String × String)]
def sKx : Nat → Nat := fun i => match i with
  | 0 => 63
  | 1 => 69
  | 2 => 71
  | 3 => 73
  | _ => 75
def sTt : Nat → String := fun i => match i with
  | 0 => "scan"
  | 1 => "clean"
  | 2 => "draw"
  | 3 => "look"
  | _ => "publish"
def sLens : List Nat := [4, 5, 4, 4, 7]
def sByts : List (List Int32) := [[115, 99, 97, 110], [99, 108, 101, 97, 110], [100, 114, 97, 119], [108, 111, 111, 107], [112, 117, 98, 108, 105, 115, 104]]
def GP (g : Gt) (U : State) : Prop := va_K g.1 vwCl (tysg g) U ∧ (∀ q ∈ nsM, va_Nw (.methodLinkNest q.1 q.2.1 q.2.2 "SmudgeTally") U) ∧ (∀ q ∈ nsF, va_Nw (.fieldLinkNest q.1 q.2.1 q.2.2.1 q.2.2.2.1 q.2.2.2.2 "SmudgeTally") U) ∧ (∀ i : Nat, i < 5 → vk_R RX3 (sKx i) (sTt i) (g.2.2 (3 + i)) U) ∧ va_AO RX0 U ∧ va_AO RX6 U
theorem GP.moved {g : Gt} {s U : State} (hW : s.WarmedH U.vm) (h : GP g s) : GP g U := ⟨va_K.moved hW.alike h.1, fun q hq => va_Nw.warmM hW (h.2.1 q hq), fun q hq => va_Nw.warmF hW (h.2.2.1 q hq), fun i hi => vk_R.warm hW (h.2.2.2.1 i hi), va_AO.moved hW.alike h.2.2.2.2.1, va_AO.moved hW.alike h.2.2.2.2.2⟩
theorem GP.same {g : Gt} {s U : State} (hv : s.vm = U.vm) (h : GP g s) : GP g U := ⟨va_K.moved (by rw [hv]; exact Vm.Alike.refl U.vm) h.1, fun q hq => va_Nw.same rfl hv (h.2.1 q hq), fun q hq => va_Nw.same rfl hv (h.2.2.1 q hq), fun i hi => vk_R.same hv.symm (h.2.2.2.1 i hi), va_AO.moved (by rw [hv]; exact Vm.Alike.refl U.vm) h.2.2.2.2.1, va_AO.moved (by rw [hv]; exact Vm.Alike.refl U.vm) h.2.2.2.2.2⟩
def SP (g : Gt) (A : Nat → Prop) (U : State) (H : Heap) : Prop :=
  (va_Z "SmudgeTally" "SMALLEST" "[I" (.ref (g.2.2 0)) A U H ∧ va_T .int (g.2.2 0) 4 (fun j => .int (tbI 0 j)) A U H) ∧
  (va_Z "SmudgeTally" "GREATEST" "[I" (.ref (g.2.2 1)) A U H ∧ va_T .int (g.2.2 1) 4 (fun j => .int (tbI 1 j)) A U H) ∧
  (va_Z "SmudgeTally" "WORTH" "[J" (.ref (g.2.2 2)) A U H ∧ va_T .long (g.2.2 2) 12 (fun j => .long (tbL j)) A U H) ∧
  va_Z "java/lang/String" "COMPACT_STRINGS" "Z" (.int 1) A U H ∧ va_Zq "jdk/internal/util/Preconditions" "SIOOBE_FORMATTER" "Ljava/util/function/BiFunction;" A U H ∧
  vk_S 5 sLens sByts (fun i => g.2.2 (3 + i)) (fun i => g.2.2 (8 + i)) A U H
theorem SP.moved {g : Gt} {A : Nat → Prop} {s U : State} {H : Heap} (hvm : s.vm.Alike U.vm) (h : SP g A s H) : SP g A U H :=
  ⟨⟨va_Z.moved hvm h.1.1, va_T.moved hvm h.1.2⟩, ⟨va_Z.moved hvm h.2.1.1, va_T.moved hvm h.2.1.2⟩, ⟨va_Z.moved hvm h.2.2.1.1, va_T.moved hvm h.2.2.1.2⟩, va_Z.moved hvm h.2.2.2.1, va_Zq.moved hvm h.2.2.2.2.1, vk_S.moved hvm h.2.2.2.2.2⟩
theorem SP.kept {g : Gt} {A : Nat → Prop} {U : State} {H H1 : Heap} (h : SP g A U H) (hq : ∀ a : Nat, a < H.size → ¬ A a → H1[a]? = H[a]?) : SP g A U H1 :=
  ⟨⟨va_Z.kept h.1.1 hq, va_T.kept h.1.2 hq⟩, ⟨va_Z.kept h.2.1.1 hq, va_T.kept h.2.1.2 hq⟩, ⟨va_Z.kept h.2.2.1.1 hq, va_T.kept h.2.2.1.2 hq⟩, va_Z.kept h.2.2.2.1 hq, va_Zq.kept h.2.2.2.2.1 hq, vk_S.kept h.2.2.2.2.2 hq⟩
theorem SP.narrow {g : Gt} {A B : Nat → Prop} {U : State} {H : Heap} (h : SP g A U H) (hAB : ∀ q, B q → A q) : SP g B U H :=
  ⟨⟨va_Z.narrow h.1.1 hAB, va_T.narrow h.1.2 hAB⟩, ⟨va_Z.narrow h.2.1.1 hAB, va_T.narrow h.2.1.2 hAB⟩, ⟨va_Z.narrow h.2.2.1.1 hAB, va_T.narrow h.2.2.1.2 hAB⟩, va_Z.narrow h.2.2.2.1 hAB, va_Zq.narrow h.2.2.2.2.1 hAB, vk_S.narrow h.2.2.2.2.2 hAB⟩
/-- a method's machine: exec, bytes, its class, its words, no lock, the tables -/
def Cx (g : Gt) (A : Nat → Prop) (own : String) (cc : ByteArray) (nL : Nat) (p : Program) (s : State) (m : MethodId) (args : Array Value) (meth : Method) (c : Code) : Prop :=
  CallFix p m c cc nL s args gtb own ∧ meth.locks = false ∧ GP g s ∧ SP g A s s.heap
/-- the heap holds h, in A -/
def St (g : Gt) (A : Nat → Prop) (s : State) (h : Hp) (H : Heap) (locs : List Loc) : Prop := va_S A s.heap H locs ∧ ∃ w : va_W, va_P g.1 vwCl w H ∧ va_D A w ∧ hpw g h w
theorem St.sub {g : Gt} {A : Nat → Prop} {s : State} {h : Hp} {H : Heap} {locs : List Loc} (Z : St g A s h H locs) : ∀ q, dm h q → A q := by
  obtain ⟨-, w, -, hD, hw⟩ := Z
  intro q hq
  obtain ⟨e, he⟩ := Option.isSome_iff_exists.mp hq
  obtain ⟨k, hk⟩ := hw.1 q e he
  exact hD.2 k _ hk
/-- a contract's start: the arguments, the world h -/
def PB (g : Gt) (h : Hp) (U : State) : Prop := GP g U ∧ SP g (dm h) U U.heap ∧ ∃ w : va_W, va_P g.1 vwCl w U.heap ∧ va_D (dm h) w ∧ hpw g h w
def QB (g : Gt) (h h' : Hp) (t : State) : Prop := ∃ w : va_W, va_P g.1 vwCl w t.heap ∧ va_D (dm h) w ∧ hpw g h' w
abbrev Pg (g : Gt) (h : Hp) (av : List Value) : Array Value → State → Prop := va_Pc av (PB g h)
abbrev Qi (g : Gt) (h : Hp) (Post : Int32 → Hp → Prop) : Array Value → State → Outcome → State → Prop := va_Qi (S := Hp) Post (QB g h) (dm h)
abbrev Ql (g : Gt) (h : Hp) (Post : Int64 → Hp → Prop) : Array Value → State → Outcome → State → Prop := va_Ql (S := Hp) Post (QB g h) (dm h)
abbrev Qv (g : Gt) (h : Hp) (Post : Hp → Prop) : Array Value → State → Outcome → State → Prop := va_Qv (S := Hp) Post (QB g h) (dm h)
theorem Pg.blind (g : Gt) (h : Hp) (av : List Value) : FrameBlind (Pg g h av) := fun a U f mk q => ⟨q.1, GP.same (U := U.calling f mk a) rfl q.2.1, SP.moved (U := U.calling f mk a) (Vm.Alike.refl U.vm) q.2.2.1, q.2.2.2⟩
theorem nz01 {x : Int32} (hx : x = 0 ∨ x = 1) : narrow .boolean (.int x) = .int x := by
  rcases hx with rfl | rfl <;> decide +kernel
theorem fz01 {x : Int32} (hx : x = 0 ∨ x = 1) : fits .boolean (.int x) = true := by
  rcases hx with rfl | rfl <;> decide +kernel
theorem ne_toI {x v : Int32} {k : Int} (h : ¬ x = v) (hv : v.toInt = k) : x.toInt ≠ k := fun q => h (Int32.toInt_inj.mp (q.trans hv.symm))
section RW
variable {p : Program} {l : Launch} {e : Env} {R : Room} {s : State} {m : MethodId} {args : Array Value} {below : List Frame} {meth : Method} {c : Code} {H : Heap} {locs : List Loc} {cells slots : Nat} {Q : State → Prop}
variable {cc : ByteArray} {pc : Nat} {ls : Array Slot} {rest : List Value} {g : Gt} {A : Nat → Prop} {h : Hp} {a : Nat} {own : String} {nL : Nat}
theorem Pg.of (C : Cx g A own cc nL p s m args meth c) (Z : St g A s h H locs) {av : List Value} : ∀ U : State, U.heap = H → s.WarmedH U.vm → Pg g h av av.toArray U := by
  intro U hU hW
  obtain ⟨hS, w, hP, hD, hw⟩ := id Z
  refine ⟨rfl, GP.moved hW C.2.2.1, ?_, w, by rw [hU]; exact hP, ⟨hD.1, fun k q hk => hw.2 k q hk⟩, hw⟩
  rw [hU]
  exact SP.moved hW.alike (SP.narrow (SP.kept C.2.2.2 (fun q h1 h2 => hS.2.1 q h1 h2)) Z.sub)
theorem r_get (C : Cx g A own cc nL p s m args meth c) (Z : St g A s h H locs) {ci k idx : Nat} {CN : String} {T : u_T} {N : Nat} {v : Value} (hv : gF h a ci k = some v) (hin : ∀ w ∈ u_ws CN T N, w ∈ gtb) (hc : vwCl[ci]? = some (CN, T, N)) (hk : k < N) (hlink : Cond.fieldLink own idx (T k).1 (T k).2.1 (T k).2.2.1 ∈ gtb) (hdg : decode cc pc = .ok (.getfield idx, 3))
    (kk : W p l e R s m args below meth c H locs cells slots Q (F0 m (pc + 3) ls (v :: rest))) : W p l e R s m args below meth c H locs cells slots Q (F0 m pc ls (.ref a :: rest)) := by
  obtain ⟨⟨hx, hb, hml, hown, hts⟩, -, hG, -⟩ := C
  obtain ⟨-, w, hP, hD, hw⟩ := Z
  obtain ⟨fs, hfs, hkv⟩ := gF_of hv
  obtain ⟨q0, hq⟩ := hw.1 a _ hfs
  exact va_get hx hb hts hin hown hG.1 hP q0 hq hc k hk (hts _ hlink) (fun x hx => hx) hkv hdg kk
theorem r_put (C : Cx g A own cc nL p s m args meth c) (Z : St g A s h H locs) {ci k idx : Nat} {CN : String} {T : u_T} {N : Nat} {v : Value} {h' : Hp} (hv : pF h a ci k v = some h') (hin : ∀ w ∈ u_ws CN T N, w ∈ gtb) {ty0 : Nat → FieldType} (hty : ∀ k, k < N → parseFieldDescriptor (T k).2.2.1 = some (ty0 k)) (hnm : ∀ a, a < N → ∀ b, b < N → a ≠ b → (T a).2.1 ≠ (T b).2.1) (hc : vwCl[ci]? = some (CN, T, N)) (hk : k < N) (hlink : Cond.fieldLink own idx (T k).1 (T k).2.1 (T k).2.2.1 ∈ gtb) (hfin : (T k).2.2.2 = false) (hn : narrow (ty0 k) v = v) (hfit : fits (ty0 k) v = true) (hdg : decode cc pc = .ok (.putfield idx, 3))
    (kk : ∀ (H1 : Heap) (locs1 : List Loc), St g A s h' H1 locs1 → W p l e R s m args below meth c H1 locs1 cells slots Q (F0 m (pc + 3) ls rest)) : W p l e R s m args below meth c H locs cells slots Q (F0 m pc ls (v :: .ref a :: rest)) := by
  obtain ⟨⟨hx, hb, hml, hown, hts⟩, -, hG, -⟩ := C
  obtain ⟨hS, w, hP, hD, hw⟩ := Z
  obtain ⟨fs, hfs, hkl, rfl⟩ := pF_of hv
  obtain ⟨q0, hq⟩ := hw.1 a _ hfs
  exact va_put hx hb hts hin ty0 hty hnm hown hG.1 hP hD hS q0 hq hc k hk (hts _ hlink) (fun x hx => hx) hfin (hty k hk) hn hfit hkl hdg (fun H1 locs1 hP1 hD1 hS1 => kk H1 locs1 ⟨hS1, _, hP1, hD1, hpw_set hw hq (.inr (ci, fs.set k v))⟩)
theorem r_putF (C : Cx g A own cc nL p s m args meth c) (Z : St g A s h H locs) {ci k idx : Nat} {CN : String} {T : u_T} {N : Nat} {v : Value} {h' : Hp} (hv : pF h a ci k v = some h') (hin : ∀ w ∈ u_ws CN T N, w ∈ gtb) {ty0 : Nat → FieldType} (hty : ∀ k, k < N → parseFieldDescriptor (T k).2.2.1 = some (ty0 k)) (hnm : ∀ a, a < N → ∀ b, b < N → a ≠ b → (T a).2.1 ≠ (T b).2.1) (hc : vwCl[ci]? = some (CN, T, N)) (hk : k < N) (hlink : Cond.fieldLink own idx (T k).1 (T k).2.1 (T k).2.2.1 ∈ gtb) (hfin : (T k).2.2.2 = true) (hin2 : meth.name = "<init>") (hdecl : (T k).1 = own) (hn : narrow (ty0 k) v = v) (hfit : fits (ty0 k) v = true) (hdg : decode cc pc = .ok (.putfield idx, 3))
    (kk : ∀ (H1 : Heap) (locs1 : List Loc), St g A s h' H1 locs1 → W p l e R s m args below meth c H1 locs1 cells slots Q (F0 m (pc + 3) ls rest)) : W p l e R s m args below meth c H locs cells slots Q (F0 m pc ls (v :: .ref a :: rest)) := by
  obtain ⟨⟨hx, hb, hml, hown, hts⟩, -, hG, -⟩ := C
  obtain ⟨hS, w, hP, hD, hw⟩ := Z
  obtain ⟨fs, hfs, hkl, rfl⟩ := pF_of hv
  obtain ⟨q0, hq⟩ := hw.1 a _ hfs
  exact va_putF hx hb hts hin ty0 hty hnm hown hG.1 hP hD hS q0 hq hc k hk (hts _ hlink) (fun x hx => hx) hfin hin2 hdecl (hty k hk) hn hfit hkl hdg (fun H1 locs1 hP1 hD1 hS1 => kk H1 locs1 ⟨hS1, _, hP1, hD1, hpw_set hw hq (.inr (ci, fs.set k v))⟩)
theorem r_iald (C : Cx g A own cc nL p s m args meth c) (Z : St g A s h H locs) {i v : Int32} (hv : gI h a 0 i = some v) (hdg : decode cc pc = .ok (.iaload, 1))
    (kk : W p l e R s m args below meth c H locs cells slots Q (F0 m (pc + 1) ls (.int v :: rest))) : W p l e R s m args below meth c H locs cells slots Q (F0 m pc ls (.int i :: .ref a :: rest)) := by
  obtain ⟨⟨hx, hb, hml, hown, hts⟩, -, hG, -⟩ := C
  obtain ⟨-, w, hP, hD, hw⟩ := Z
  obtain ⟨n, f, hf, hi, rfl⟩ := gI_of hv
  obtain ⟨q0, hq⟩ := hw.1 a _ hf
  exact va_iald hx hb hG.1 hP q0 0 hq (tysg_at g (by omega)) hi hdg kk
theorem r_zald (C : Cx g A own cc nL p s m args meth c) (Z : St g A s h H locs) {i v : Int32} (hv : gI h a 2 i = some v) (hdg : decode cc pc = .ok (.baload, 1))
    (kk : W p l e R s m args below meth c H locs cells slots Q (F0 m (pc + 1) ls (.int v :: rest))) : W p l e R s m args below meth c H locs cells slots Q (F0 m pc ls (.int i :: .ref a :: rest)) := by
  obtain ⟨⟨hx, hb, hml, hown, hts⟩, -, hG, -⟩ := C
  obtain ⟨-, w, hP, hD, hw⟩ := Z
  obtain ⟨n, f, hf, hi, rfl⟩ := gI_of hv
  obtain ⟨q0, hq⟩ := hw.1 a _ hf
  exact va_zald hx hb hG.1 hP q0 2 hq (tysg_at g (by omega)) hi hdg kk
theorem r_lald (C : Cx g A own cc nL p s m args meth c) (Z : St g A s h H locs) {i : Int32} {v : Int64} (hv : gL h a i = some v) (hdg : decode cc pc = .ok (.laload, 1))
    (kk : W p l e R s m args below meth c H locs cells slots Q (F0 m (pc + 1) ls (.long v :: rest))) : W p l e R s m args below meth c H locs cells slots Q (F0 m pc ls (.int i :: .ref a :: rest)) := by
  obtain ⟨⟨hx, hb, hml, hown, hts⟩, -, hG, -⟩ := C
  obtain ⟨-, w, hP, hD, hw⟩ := Z
  obtain ⟨n, f, hf, hi, rfl⟩ := gL_of hv
  obtain ⟨q0, hq⟩ := hw.1 a _ hf
  exact va_lald hx hb hG.1 hP q0 1 hq (tysg_at g (by omega)) hi hdg kk
theorem r_aald3 (C : Cx g A own cc nL p s m args meth c) (Z : St g A s h H locs) {i : Int32} {v : Nat} (hv : gQ h a 3 i = some v) (hdg : decode cc pc = .ok (.aaload, 1))
    (kk : W p l e R s m args below meth c H locs cells slots Q (F0 m (pc + 1) ls (.ref v :: rest))) : W p l e R s m args below meth c H locs cells slots Q (F0 m pc ls (.int i :: .ref a :: rest)) := by
  obtain ⟨⟨hx, hb, hml, hown, hts⟩, -, hG, -⟩ := C
  obtain ⟨-, w, hP, hD, hw⟩ := Z
  obtain ⟨n, f, hf, hi, hv⟩ := gQ_of hv
  obtain ⟨q0, hq⟩ := hw.1 a _ hf
  exact va_aldq (C := RX0) hx hb hG.1 hP q0 3 hq (tysg_at g (by omega)) hi hdg (by rw [hv]; exact kk)
theorem r_aald4 (C : Cx g A own cc nL p s m args meth c) (Z : St g A s h H locs) {i : Int32} {v : Nat} (hv : gQ h a 4 i = some v) (hdg : decode cc pc = .ok (.aaload, 1))
    (kk : W p l e R s m args below meth c H locs cells slots Q (F0 m (pc + 1) ls (.ref v :: rest))) : W p l e R s m args below meth c H locs cells slots Q (F0 m pc ls (.int i :: .ref a :: rest)) := by
  obtain ⟨⟨hx, hb, hml, hown, hts⟩, -, hG, -⟩ := C
  obtain ⟨-, w, hP, hD, hw⟩ := Z
  obtain ⟨n, f, hf, hi, hv⟩ := gQ_of hv
  obtain ⟨q0, hq⟩ := hw.1 a _ hf
  exact va_aldq (C := RX6) hx hb hG.1 hP q0 4 hq (tysg_at g (by omega)) hi hdg (by rw [hv]; exact kk)
theorem r_alen (C : Cx g A own cc nL p s m args meth c) (Z : St g A s h H locs) {v : Int32} (hv : gN h a = some v) (hdg : decode cc pc = .ok (.arraylength, 1))
    (kk : W p l e R s m args below meth c H locs cells slots Q (F0 m (pc + 1) ls (.int v :: rest))) : W p l e R s m args below meth c H locs cells slots Q (F0 m pc ls (.ref a :: rest)) := by
  obtain ⟨⟨hx, hb, hml, hown, hts⟩, -, hG, -⟩ := C
  obtain ⟨-, w, hP, hD, hw⟩ := Z
  obtain ⟨t, x, hf, ht, hv⟩ := gN_of hv
  obtain ⟨q0, hq⟩ := hw.1 a _ hf
  exact va_alen hx hb hG.1 hP q0 t hq (tysg_at g ht) hv hdg kk
theorem r_iast (C : Cx g A own cc nL p s m args meth c) (Z : St g A s h H locs) {i x : Int32} {h' : Hp} (hv : sI h a i x = some h') (hdg : decode cc pc = .ok (.iastore, 1))
    (kk : ∀ (H1 : Heap) (locs1 : List Loc), St g A s h' H1 locs1 → W p l e R s m args below meth c H1 locs1 cells slots Q (F0 m (pc + 1) ls rest)) : W p l e R s m args below meth c H locs cells slots Q (F0 m pc ls (.int x :: .int i :: .ref a :: rest)) := by
  obtain ⟨⟨hx, hb, hml, hown, hts⟩, -, hG, -⟩ := C
  obtain ⟨hS, w, hP, hD, hw⟩ := Z
  obtain ⟨n, f, hf, hi, rfl⟩ := sI_of hv
  obtain ⟨q0, hq⟩ := hw.1 a _ hf
  exact va_iast hx hb hG.1 hP hD hS q0 0 hq (tysg_at g (by omega)) hi hdg (fun H1 locs1 hP1 hD1 hS1 => kk H1 locs1 ⟨hS1, _, hP1, hD1, hpw_set hw hq (.inl (0, n, .inl (upd f i.toNatClampNeg x)))⟩)
theorem vnz {x : Int32} (hx : x = 0 ∨ x = 1) : vp_nar .boolean x = x := by
  rcases hx with rfl | rfl <;> decide +kernel
theorem r_zast (C : Cx g A own cc nL p s m args meth c) (Z : St g A s h H locs) {i x : Int32} {h' : Hp} (hv : sZ h a i x = some h') (hdg : decode cc pc = .ok (.bastore, 1))
    (kk : ∀ (H1 : Heap) (locs1 : List Loc), St g A s h' H1 locs1 → W p l e R s m args below meth c H1 locs1 cells slots Q (F0 m (pc + 1) ls rest)) : W p l e R s m args below meth c H locs cells slots Q (F0 m pc ls (.int x :: .int i :: .ref a :: rest)) := by
  obtain ⟨⟨hx, hb, hml, hown, hts⟩, -, hG, -⟩ := C
  obtain ⟨hS, w, hP, hD, hw⟩ := Z
  obtain ⟨n, f, hf, h01, hi, rfl⟩ := sZ_of hv
  obtain ⟨q0, hq⟩ := hw.1 a _ hf
  refine va_zast hx hb hG.1 hP hD hS q0 2 hq (tysg_at g (by omega)) hi hdg (fun H1 locs1 hP1 hD1 hS1 => kk H1 locs1 ⟨hS1, _, hP1, hD1, ?_⟩)
  rw [vnz h01]
  exact hpw_set hw hq (.inl (2, n, .inl (upd f i.toNatClampNeg x)))
theorem r_last (C : Cx g A own cc nL p s m args meth c) (Z : St g A s h H locs) {i : Int32} {x : Int64} {h' : Hp} (hv : sL h a i x = some h') (hdg : decode cc pc = .ok (.lastore, 1))
    (kk : ∀ (H1 : Heap) (locs1 : List Loc), St g A s h' H1 locs1 → W p l e R s m args below meth c H1 locs1 cells slots Q (F0 m (pc + 1) ls rest)) : W p l e R s m args below meth c H locs cells slots Q (F0 m pc ls (.long x :: .int i :: .ref a :: rest)) := by
  obtain ⟨⟨hx, hb, hml, hown, hts⟩, -, hG, -⟩ := C
  obtain ⟨hS, w, hP, hD, hw⟩ := Z
  obtain ⟨n, f, hf, hi, rfl⟩ := sL_of hv
  obtain ⟨q0, hq⟩ := hw.1 a _ hf
  exact va_last hx hb hG.1 hP hD hS q0 1 hq (tysg_at g (by omega)) hi hdg (fun H1 locs1 hP1 hD1 hS1 => kk H1 locs1 ⟨hS1, _, hP1, hD1, hpw_set hw hq (.inl (1, n, .inr (.inl (vp_updL f i.toNatClampNeg x))))⟩)
theorem r_aast3 (C : Cx g A own cc nL p s m args meth c) (Z : St g A s h H locs) {i : Int32} {v : Nat} {h' : Hp} (ho : isO h v 0) (hv : sQ h a 3 i v = some h') (hdg : decode cc pc = .ok (.aastore, 1))
    (kk : ∀ (H1 : Heap) (locs1 : List Loc), St g A s h' H1 locs1 → W p l e R s m args below meth c H1 locs1 cells slots Q (F0 m (pc + 1) ls rest)) : W p l e R s m args below meth c H locs cells slots Q (F0 m pc ls (.ref v :: .int i :: .ref a :: rest)) := by
  obtain ⟨⟨hx, hb, hml, hown, hts⟩, -, hG, -⟩ := C
  obtain ⟨hS, w, hP, hD, hw⟩ := Z
  obtain ⟨n, f, hf, hi, rfl⟩ := sQ_of hv
  obtain ⟨q0, hq⟩ := hw.1 a _ hf
  obtain ⟨fs, ho⟩ := ho
  obtain ⟨q1, hq1⟩ := hw.1 v _ ho
  exact va_astq hx hb hG.1 hP hD hS q0 3 q1 0 (r := (RX0, TX0, 11)) hq (tysg_at g (by omega)) hq1 rfl hi hdg (fun H1 locs1 hP1 hD1 hS1 => kk H1 locs1 ⟨hS1, _, hP1, hD1, hpw_set hw hq (.inl (3, n, .inr (.inr (.inr (.inr (va_up f i.toNatClampNeg (some v)))))))⟩)
theorem r_aast4 (C : Cx g A own cc nL p s m args meth c) (Z : St g A s h H locs) {i : Int32} {v : Nat} {h' : Hp} (ho : isO h v 6) (hv : sQ h a 4 i v = some h') (hdg : decode cc pc = .ok (.aastore, 1))
    (kk : ∀ (H1 : Heap) (locs1 : List Loc), St g A s h' H1 locs1 → W p l e R s m args below meth c H1 locs1 cells slots Q (F0 m (pc + 1) ls rest)) : W p l e R s m args below meth c H locs cells slots Q (F0 m pc ls (.ref v :: .int i :: .ref a :: rest)) := by
  obtain ⟨⟨hx, hb, hml, hown, hts⟩, -, hG, -⟩ := C
  obtain ⟨hS, w, hP, hD, hw⟩ := Z
  obtain ⟨n, f, hf, hi, rfl⟩ := sQ_of hv
  obtain ⟨q0, hq⟩ := hw.1 a _ hf
  obtain ⟨fs, ho⟩ := ho
  obtain ⟨q1, hq1⟩ := hw.1 v _ ho
  exact va_astq hx hb hG.1 hP hD hS q0 4 q1 6 (r := (RX6, TX6, 2)) hq (tysg_at g (by omega)) hq1 rfl hi hdg (fun H1 locs1 hP1 hD1 hS1 => kk H1 locs1 ⟨hS1, _, hP1, hD1, hpw_set hw hq (.inl (4, n, .inr (.inr (.inr (.inr (va_up f i.toNatClampNeg (some v)))))))⟩)
theorem r_copyI (C : Cx g A own cc nL p s m args meth c) (Z : St g A s h H locs) {a0 : Nat} {sp dp n : Int32} {h' : Hp} (hv : cpI h a0 sp a dp n = some h') {index : Nat} (hml : c.maxLocals = ls.size) (hlink : (Cond.methodLink own index arraycopyName).before args s = true) (hnat : (Cond.native arraycopyName).before args s = true) (hstat : (Cond.static arraycopyName).before args s = true) (hini : (Cond.initialized "java/lang/System").before args s = true) (hframes : 1 ≤ R.frames) (hlocals : (rest.map fun v => v.category).sum + (nativeFrameWords "java/lang/System" "arraycopy" 5 + 11) ≤ R.locals) (hdg : decode cc pc = .ok (.invokestatic index, 3))
    (kk : ∀ (H1 : Heap) (locs1 : List Loc), St g A s h' H1 locs1 → W p l e R s m args below meth c H1 locs1 cells slots Q (F0 m (pc + 3) ls rest)) : W p l e R s m args below meth c H locs cells slots Q (F0 m pc ls (.int n :: .int dp :: .ref a :: .int sp :: .ref a0 :: rest)) := by
  obtain ⟨⟨hx, hb, hmm, hown, hts⟩, -, hG, -⟩ := C
  obtain ⟨hS, w, hP, hD, hw⟩ := Z
  obtain ⟨n0, n1, f, q, hf, hq, z1, z2, z3, z4, z5, rfl⟩ := cpI_of hv
  obtain ⟨k0, hk0⟩ := hw.1 a0 _ hf
  obtain ⟨k1, hk1⟩ := hw.1 a _ hq
  exact va_copyi (ty := .int) hx hb hml hown hlink hnat hstat hini hG.1 hP hD hS k0 k1 0 0 hk0 hk1 (tysg_at g (by omega)) (tysg_at g (by omega)) rfl z1 z2 z3 z4 z5 (fun i _ => rfl) hframes hlocals hdg (fun H1 locs1 hP1 hD1 hS1 => kk H1 locs1 ⟨hS1, _, hP1, hD1, hpw_set hw hk1 (.inl (0, n1, .inl (va_cpy f q sp.toNatClampNeg dp.toNatClampNeg n.toNatClampNeg)))⟩)
theorem r_copyL (C : Cx g A own cc nL p s m args meth c) (Z : St g A s h H locs) {a0 : Nat} {sp dp n : Int32} {h' : Hp} (hv : cpL h a0 sp a dp n = some h') {index : Nat} (hml : c.maxLocals = ls.size) (hlink : (Cond.methodLink own index arraycopyName).before args s = true) (hnat : (Cond.native arraycopyName).before args s = true) (hstat : (Cond.static arraycopyName).before args s = true) (hini : (Cond.initialized "java/lang/System").before args s = true) (hframes : 1 ≤ R.frames) (hlocals : (rest.map fun v => v.category).sum + (nativeFrameWords "java/lang/System" "arraycopy" 5 + 11) ≤ R.locals) (hdg : decode cc pc = .ok (.invokestatic index, 3))
    (kk : ∀ (H1 : Heap) (locs1 : List Loc), St g A s h' H1 locs1 → W p l e R s m args below meth c H1 locs1 cells slots Q (F0 m (pc + 3) ls rest)) : W p l e R s m args below meth c H locs cells slots Q (F0 m pc ls (.int n :: .int dp :: .ref a :: .int sp :: .ref a0 :: rest)) := by
  obtain ⟨⟨hx, hb, hmm, hown, hts⟩, -, hG, -⟩ := C
  obtain ⟨hS, w, hP, hD, hw⟩ := Z
  obtain ⟨n0, n1, f, q, hf, hq, z1, z2, z3, z4, z5, rfl⟩ := cpL_of hv
  obtain ⟨k0, hk0⟩ := hw.1 a0 _ hf
  obtain ⟨k1, hk1⟩ := hw.1 a _ hq
  exact va_copyl (ty := .long) hx hb hml hown hlink hnat hstat hini hG.1 hP hD hS k0 k1 1 1 hk0 hk1 (tysg_at g (by omega)) (tysg_at g (by omega)) rfl z1 z2 z3 z4 z5 (fun i _ => rfl) hframes hlocals hdg (fun H1 locs1 hP1 hD1 hS1 => kk H1 locs1 ⟨hS1, _, hP1, hD1, hpw_set hw hk1 (.inl (1, n1, .inr (.inl (va_cpy f q sp.toNatClampNeg dp.toNatClampNeg n.toNatClampNeg))))⟩)
/-! the static tables -/
theorem r_sti (C : Cx g A own cc nL p s m args meth c) (Z : St g A s h H locs) {i : Nat} (hi : i < 2) {x v : Int32} (hv : sT i x = some v) (hdg : decode cc pc = .ok (.iaload, 1))
    (kk : W p l e R s m args below meth c H locs cells slots Q (F0 m (pc + 1) ls (.int v :: rest))) : W p l e R s m args below meth c H locs cells slots Q (F0 m pc ls (.int x :: .ref (g.2.2 i) :: rest)) := by
  obtain ⟨⟨hx, hb, hml, hown, hts⟩, -, hG, hSP⟩ := C
  obtain ⟨hin, rfl⟩ := sT_of hv
  match i, hi with
  | 0, _ => exact va_ti hx hb hSP.1.2 Z.1 hin rfl hdg kk
  | 1, _ => exact va_ti hx hb hSP.2.1.2 Z.1 hin rfl hdg kk
theorem r_stl (C : Cx g A own cc nL p s m args meth c) (Z : St g A s h H locs) {x : Int32} {v : Int64} (hv : sW x = some v) (hdg : decode cc pc = .ok (.laload, 1))
    (kk : W p l e R s m args below meth c H locs cells slots Q (F0 m (pc + 1) ls (.long v :: rest))) : W p l e R s m args below meth c H locs cells slots Q (F0 m pc ls (.int x :: .ref (g.2.2 2) :: rest)) := by
  obtain ⟨⟨hx, hb, hml, hown, hts⟩, -, hG, hSP⟩ := C
  obtain ⟨hin, rfl⟩ := sW_of hv
  exact va_tl hx hb hSP.2.2.1.2 Z.1 hin rfl hdg kk
theorem r_ldcS (C : Cx g A RX3 cc nL p s m args meth c) (Z : St g A s h H locs) {i : Nat} (hi : i < 5) (hdg : decode cc pc = .ok (.ldc (sKx i), 2))
    (kk : W p l e R s m args below meth c H locs cells slots Q (F0 m (pc + 2) ls (.ref (g.2.2 (3 + i)) :: rest))) : W p l e R s m args below meth c H locs cells slots Q (F0 m pc ls rest) :=
  va_ldcS C.1.1 C.1.2.1 C.1.2.2.2.1 (C.2.2.1.2.2.2.1 i hi) hdg kk
/-! calls: receiver, arguments; behind them the world is the callee's -/
theorem r_recv (C : Cx g A own cc nL p s m args meth c) (Z : St g A s h H locs) {ci : Nat} {r : vw_C} (ho : isO h a ci) (hc : vwCl[ci]? = some r) : ∃ cell : Cell, H[a]? = some cell ∧ cell.vm.isStatics = false ∧ s.vm.findClass r.1 = some cell.cls := by
  obtain ⟨fs, ho⟩ := ho
  obtain ⟨-, w, hP, hD, hw⟩ := Z
  obtain ⟨q0, hq⟩ := hw.1 a _ ho
  exact va_recv C.2.2.1.1 hP hc hq
theorem r_back (Z : St g A s h H locs) {h' : Hp} {t : State} {H1 : Heap} {locs1 : List Loc} (ht : t.heap = H1) (hB : QB g h h' t) (hS : va_S A s.heap H1 locs1) : St g A s h' H1 locs1 := by
  obtain ⟨w, hP, hD, hw⟩ := hB
  rw [ht] at hP
  exact ⟨hS, w, hP, hD.weaken (fun k q _ hq => Z.sub _ hq), hw⟩
theorem r_calli (Z : St g A s h H locs) {Post : Int32 → Hp → Prop} {st0 : List Value} {av : Array Value} (hr : va_Run p l e R s m args below meth c H locs cells slots 0 0 (F0 m pc ls st0) rest (Qi g h Post av) (dm h))
    (kk : ∀ (r : Int32) (h' : Hp) (H1 : Heap) (locs1 : List Loc), Post r h' → St g A s h' H1 locs1 → W p l e R s m args below meth c H1 locs1 cells slots Q (F0 m (pc + 3) ls (.int r :: rest))) : W p l e R s m args below meth c H locs cells slots Q (F0 m pc ls st0) :=
  va_calli hr Z.1 (fun q _ hq => Z.sub q hq) Z.sub (fun r u t H1 locs1 ht _ hp hB _ _ hS => kk r u H1 locs1 hp (r_back Z ht hB hS))
theorem r_calll (Z : St g A s h H locs) {Post : Int64 → Hp → Prop} {st0 : List Value} {av : Array Value} (hr : va_Run p l e R s m args below meth c H locs cells slots 0 0 (F0 m pc ls st0) rest (Ql g h Post av) (dm h))
    (kk : ∀ (r : Int64) (h' : Hp) (H1 : Heap) (locs1 : List Loc), Post r h' → St g A s h' H1 locs1 → W p l e R s m args below meth c H1 locs1 cells slots Q (F0 m (pc + 3) ls (.long r :: rest))) : W p l e R s m args below meth c H locs cells slots Q (F0 m pc ls st0) :=
  va_calll hr Z.1 (fun q _ hq => Z.sub q hq) Z.sub (fun r u t H1 locs1 ht _ hp hB _ _ hS => kk r u H1 locs1 hp (r_back Z ht hB hS))
theorem r_callv (Z : St g A s h H locs) {Post : Hp → Prop} {st0 : List Value} {av : Array Value} (hr : va_Run p l e R s m args below meth c H locs cells slots 0 0 (F0 m pc ls st0) rest (Qv g h Post av) (dm h))
    (kk : ∀ (h' : Hp) (H1 : Heap) (locs1 : List Loc), Post h' → St g A s h' H1 locs1 → W p l e R s m args below meth c H1 locs1 cells slots Q (F0 m (pc + 3) ls rest)) : W p l e R s m args below meth c H locs cells slots Q (F0 m pc ls st0) :=
  va_callv hr Z.1 (fun q _ hq => Z.sub q hq) Z.sub (fun u t H1 locs1 ht _ hp hB _ _ hS => kk u H1 locs1 hp (r_back Z ht hB hS))
/-- a call of an instance's method -/
theorem r_runV (C : Cx g A own cc nL p s m args meth c) (Z : St g A s h H locs) {y : MethodName} {wsy : List Cond} {rm : Room} {Qc : Array Value → State → Outcome → State → Prop} {bytes : ByteArray} {maxL n idx ci : Nat} {ret : Option FieldType} {r : vw_C} {As : List Value} (hM : Met l y wsy rm (Pg g h (.ref a :: As)) Qc 0 0 (dm h)) (ho : isO h a ci) (hc : vwCl[ci]? = some r) (cw : CallW R s args own r.1 idx y bytes maxL ret wsy rm 0 0 n) {st0 : List Value} (hn : As.length = n) (hsize : ls.size = nL) (hst : st0 = As.reverse ++ .ref a :: rest) (hW : (rest.map fun v => v.category).sum ≤ 8) (hdg : decode cc pc = .ok (.invokevirtual idx, 3)) (hf : cells ≤ R.cells ∧ slots ≤ R.slots) :
    va_Run p l e R s m args below meth c H locs cells slots 0 0 (F0 m pc ls st0) rest (Qc (Value.ref a :: As).toArray) (dm h) :=
  va_runV C.1 hM cw ⟨Pg.blind g h _, r_recv C Z ho hc, Pg.of C Z⟩ rfl hn hsize hst (lv_room hW) hdg hf
theorem r_runS (C : Cx g A own cc nL p s m args meth c) (Z : St g A s h H locs) {y : MethodName} {wsy : List Cond} {rm : Room} {Qc : Array Value → State → Outcome → State → Prop} {bytes : ByteArray} {maxL n idx : Nat} {ret : Option FieldType} {As : List Value} (hM : Met l y wsy rm (Pg g h As) Qc 0 0 (dm h)) (cw : CallB R s args own idx y bytes maxL ret wsy rm 0 0 n ∧ (Cond.static y).before args s = true) {st0 : List Value} (hn : As.length = n) (hsize : ls.size = nL) (hst : st0 = As.reverse ++ rest) (hW : (rest.map fun v => v.category).sum ≤ 8) (hdg : decode cc pc = .ok (.invokestatic idx, 3)) (hf : cells ≤ R.cells ∧ slots ≤ R.slots) :
    va_Run p l e R s m args below meth c H locs cells slots 0 0 (F0 m pc ls st0) rest (Qc As.toArray) (dm h) :=
  va_runS C.1 hM cw ⟨Pg.blind g h _, Pg.of C Z⟩ rfl hn hsize hst (lv_room hW) hdg hf
theorem r_runSN (C : Cx g A own cc nL p s m args meth c) (Z : St g A s h H locs) {y : MethodName} {wsy : List Cond} {rm : Room} {Qc : Array Value → State → Outcome → State → Prop} {bytes : ByteArray} {maxL n idx : Nat} {ret : Option FieldType} {As : List Value} (hM : Met l y wsy rm (Pg g h As) Qc 0 0 (dm h)) (cw : va_CN R s args own idx y "SmudgeTally" bytes maxL ret wsy rm 0 0 n ∧ (Cond.static y).before args s = true ∧ True) {st0 : List Value} (hn : As.length = n) (hsize : ls.size = nL) (hst : st0 = As.reverse ++ rest) (hW : (rest.map fun v => v.category).sum ≤ 8) (hdg : decode cc pc = .ok (.invokestatic idx, 3)) (hf : cells ≤ R.cells ∧ slots ≤ R.slots) :
    va_Run p l e R s m args below meth c H locs cells slots 0 0 (F0 m pc ls st0) rest (Qc As.toArray) (dm h) :=
  va_runSN C.1 hM cw ⟨Pg.blind g h _, Pg.of C Z⟩ rfl hn hsize hst (lv_room hW) hdg hf
/-! the ends -/
theorem r_qb (C : Cx g (dm h) own cc nL p s m args meth c) {h' : Hp} (Z : St g (dm h) s h' H locs) {t : State} (ht : t.heap = H) : QB g h h' t := by
  obtain ⟨-, w, hP, hD, hw⟩ := Z
  exact ⟨w, by rw [ht]; exact hP, hD, hw⟩
theorem r_iret (C : Cx g (dm h) own cc nL p s m args meth c) {h' : Hp} (Z : St g (dm h) s h' H locs) {Post : Int32 → Hp → Prop} {v : Int32} (hr : meth.sig.returnType = some .int) (hp : Post v h') (hdg : decode cc pc = .ok (.ireturn, 1)) : W p l e R s m args below meth c H locs cells slots (MQ below (Qi g h Post) args s cells slots (dm h)) (F0 m pc ls [.int v]) :=
  W.iret C.1.1 C.1.2.1 hr (fun t ht hW => ⟨⟨v, h', rfl, hp, r_qb C Z ht⟩, Z.1.F ht⟩) Z.1.2.2 hdg C.2.1
theorem r_zret (C : Cx g (dm h) own cc nL p s m args meth c) {h' : Hp} (Z : St g (dm h) s h' H locs) {Post : Int32 → Hp → Prop} {v : Int32} (hr : meth.sig.returnType = some .boolean) (h01 : v = 0 ∨ v = 1) (hp : Post v h') (hdg : decode cc pc = .ok (.ireturn, 1)) : W p l e R s m args below meth c H locs cells slots (MQ below (Qi g h Post) args s cells slots (dm h)) (F0 m pc ls [.int v]) :=
  W.zret C.1.1 C.1.2.1 hr (by rcases h01 with rfl | rfl <;> decide +kernel) (fun t ht hW => ⟨⟨v, h', rfl, hp, r_qb C Z ht⟩, Z.1.F ht⟩) Z.1.2.2 hdg C.2.1
theorem r_lret (C : Cx g (dm h) own cc nL p s m args meth c) {h' : Hp} (Z : St g (dm h) s h' H locs) {Post : Int64 → Hp → Prop} {v : Int64} (hr : meth.sig.returnType = some .long) (hp : Post v h') (hdg : decode cc pc = .ok (.lreturn, 1)) : W p l e R s m args below meth c H locs cells slots (MQ below (Ql g h Post) args s cells slots (dm h)) (F0 m pc ls [.long v]) :=
  W.lret C.1.1 C.1.2.1 hr (fun t ht hW => ⟨⟨v, h', rfl, hp, r_qb C Z ht⟩, Z.1.F ht⟩) Z.1.2.2 hdg C.2.1
theorem r_vret (C : Cx g (dm h) own cc nL p s m args meth c) {h' : Hp} (Z : St g (dm h) s h' H locs) {Post : Hp → Prop} (hr : meth.sig.returnType = none) (hp : Post h') (hdg : decode cc pc = .ok (.return_, 1)) : W p l e R s m args below meth c H locs cells slots (MQ below (Qv g h Post) args s cells slots (dm h)) (F0 m pc ls []) :=
  W.vret C.1.1 C.1.2.1 hr (fun t ht hW => ⟨⟨h', rfl, hp, r_qb C Z ht⟩, Z.1.F ht⟩) Z.1.2.2 hdg C.2.1
end RW
/-- a method's contract out of the walk of its body -/
theorem Met_of {l : Launch} {y : MethodName} {rm : Room} {Qc : Array Value → State → Outcome → State → Prop} {cc : ByteArray} {maxL : Nat} {ret : Option FieldType} {g : Gt} {h : Hp} {av : List Value} (hy : plainName y.cls = true) (hav : (lg_sl av).length ≤ maxL)
    (body : ∀ p e s m below meth c ls, Cx g (dm h) y.cls cc maxL p s m av.toArray meth c → meth.sig.returnType = ret → meth.name = y.name → lv_has ls maxL (lv_args 0 av) → St g (dm h) s h s.heap [] →
      W p l e rm s m av.toArray below meth c s.heap [] 0 0 (MQ below Qc av.toArray s 0 0 (dm h)) (F0 m 0 ls [])) : Met l y (WS y cc maxL ret) rm (Pg g h av) Qc 0 0 (dm h) := by
  refine Met.ofW (cc := cc) (maxL := maxL) (ret := ret) hy rfl ?_
  intro p e s m args below meth c s₁ B hml hv
  obtain ⟨rfl, hG, hSP, w, hP, hD, hwp⟩ := hv
  have hl := lv_entry av (n := maxL) hav
  rw [lg_entry_eq]
  exact body p e s m below meth c _ ⟨⟨B.exec, B.bytes, hml, findClass_of_methodNamed B.named, fun w hw => atoms_spec (ws := WS y cc maxL ret) B.pre w (List.mem_cons_of_mem _ hw)⟩, B.notSynchronized, hG, hSP⟩ B.returns (name_of_methodNamed B.named B.method).1 hl ⟨va_S.rf, w, hP, hD, hwp⟩
