/-! THE CLAIM OUT OF ONE WALK OF THE LAW'S BODY. Your part is whole_start (and what it stands on); all else here is the same for every law, but numbers. -/
def R_law : String := "SmudgeTallyLaw"
def lw_P (b : Addr) (xs : List Int32) (args : Array Value) (s : State) : Prop := args = #[.ref b] ∧ s.IntsAt b xs ∧ xs.length ≤ 2560 ∧ (Jvm.Cond.and given_1 narrow_1).before args s = true
def lw_Q (_ : Array Value) (s : State) (o : Outcome) (t : State) : Prop := o = .returned (some (.int 1)) ∧ Framed s o t [] 265 24267
def lw_Z (below : List Frame) (a : Array Value) (s : State) : State → Prop := fun t => ∃ o, t.status = .running ∧ Ended t below o ∧ lw_Q a s o t
/-- the law's own end, with 1 on the stack, nothing written that was there before, its room as the claim has it -/
theorem lw_ret {p : Program} {l : Launch} {e : Env} {s : State} {m : MethodId} {below : List Frame} {meth : Method} {c : Code} {b : Nat} (hx : p.tables.exec = Jvm.exec) (hb : c.code = code) (hr : meth.sig.returnType = ret) (hlocks : meth.locks = false) {pc : Nat} {H : Heap} {ls : Array Slot} (hdg : decode code pc = .ok (.ireturn, 1)) : W p l e room_1 s m #[Value.ref b] below meth c H [] 265 24267 (lw_Z below #[Value.ref b] s) (F0 m pc ls [.int 1]) := by
  intro T hT X
  obtain ⟨fs, hret, hrun, hended, hW, hframe⟩ := X.leave (v := some (.int 1)) (hlocks := hlocks) (fun h => by rw [hr] at h; cases h)
  have hmeth' : T.vm.method? m = some meth := X.method'
  refine ⟨T.setFrames fs, ?_, .returned (some (.int 1)), hrun, hended, rfl, ⟨_, rfl⟩, hW, hframe⟩
  jvm_step X.here [X.here.top, hx, hb, hdg, hmeth', hr, ret, narrow_b1]
  (try refine ⟨rfl, ?_⟩); (try refine ⟨rfl, ?_⟩)
  first | (intro acts; rw [hret _ acts rfl rfl rfl]) | rw [hret _ _ rfl rfl rfl]
  exact Steps.refl _
/-- what holds at the law's entry: the machine, the code, the tables' words (any of lw_tbl by 'hts w (by decide +kernel)'), the script of L ints xs at the cell b, what the Statement gives of the start (any of its parts by flat_of_before) -/
def lw_At (p : Program) (s : State) (m : MethodId) (meth : Method) (c : Code) (b L : Nat) (xs : Nat → Int32) : Prop :=
  p.tables.exec = Jvm.exec ∧ c.code = code ∧ meth.sig.returnType = ret ∧ c.maxLocals = 4 ∧ s.vm.findClass R_law = some m.cls ∧ (∀ w ∈ lw_tbl, w.before #[Value.ref b] s = true) ∧ va_X b L xs s s.heap ∧ b < s.heap.size ∧ meth.locks = false ∧ (Jvm.Cond.and given_1 narrow_1).before #[Value.ref b] s = true
/-! the law's script, and its end -/
section LAWR
variable {p : Program} {l : Launch} {e : Env} {s : State} {m : MethodId} {below : List Frame} {meth : Method} {c : Code} {H : Heap} {locs : List Loc} {Q : State → Prop}
variable {pc : Nat} {ls : Array Slot} {rest : List Value} {g : Gt} {h : Hp} {b L : Nat} {xs : Nat → Int32} {R : Room} {cells slots : Nat} {args : Array Value}
theorem scr_of {xs : Nat → Int32} {L : Nat} {i v : Int32} (e : scr xs L i = some v) : vp_in i L ∧ v = xs i.toNatClampNeg := by
  unfold scr at e
  split at e
  · rename_i z
    exact ⟨z, (Option.some.inj e).symm⟩
  · cases e
theorem r_scr (C : Cx g (fun q : Nat => s.heap.size ≤ q) RL cL_law 4 p s m args meth c) (hX : va_X b L xs s s.heap) (hbl : b < s.heap.size) (Z : St g (fun q : Nat => s.heap.size ≤ q) s h H locs) {i v : Int32} (hv : scr xs L i = some v) (hdg : decode cL_law pc = .ok (.iaload, 1))
    (kk : W p l e R s m args below meth c H locs cells slots Q (F0 m (pc + 1) ls (.int v :: rest))) : W p l e R s m args below meth c H locs cells slots Q (F0 m pc ls (.int i :: .ref b :: rest)) := by
  obtain ⟨hin, rfl⟩ := scr_of hv
  exact va_sld C.1.1 C.1.2.1 hX hbl (Nat.not_le.mpr hbl) Z.1 hin hdg kk
theorem r_lend (C : Cx g (fun q : Nat => s.heap.size ≤ q) RL cL_law 4 p s m #[Value.ref b] meth c) (hr : meth.sig.returnType = ret) (Z : St g (fun q : Nat => s.heap.size ≤ q) s h H locs) {v : Int32} (hv : v = nI 1) (hdg : decode cL_law pc = .ok (.ireturn, 1)) : W p l e room_1 s m #[Value.ref b] below meth c H locs 265 24267 (lw_Z below #[Value.ref b] s) (F0 m pc ls [.int v]) := by
  have h1 : v = 1 := hv.trans (by decide +kernel)
  subst h1
  exact va_forget Z.1.2.2 (lw_ret C.1.1 C.1.2.1 hr C.2.1 hdg)
end LAWR
set_option maxRecDepth 100000 in
set_option maxHeartbeats 40000000 in
theorem w_L_law_18 {p : Program} {l : Launch} {e : Env} {s : State} {m : MethodId} {below : List Frame} {meth : Method} {c : Code} {g : Gt} {b L : Nat} {xs : Nat → Int32} (C : Cx g (fun q : Nat => s.heap.size ≤ q) RL cL_law 4 p s m #[Value.ref b] meth c) (hr : meth.sig.returnType = ret) (hX : va_X b L xs s s.heap) (hbl : b < s.heap.size) {Post : Int32 → Hp → Prop} (hPost : ∀ v h, Post v h → v = nI 1) (x1 : Nat) (x2 : Nat) : ∀ (n : Nat) (x3 : Int32) (h : Hp) (H : Heap) (locs : List Loc) (ls : Array Slot), lv_has ls 4 [(0, .ref b), (1, .ref x1), (2, .ref x2), (3, .int x3)] → St g (fun q : Nat => s.heap.size ≤ q) s h H locs → wp_L_law_18 xs L Post x1 x2 n x3 h → W p l e room_1 s m #[Value.ref b] below meth c H locs 265 24267 (lw_Z below #[Value.ref b] s) (F0 m 18 ls []) := by
  have hx := C.1.1
  have hb := C.1.2.1
  have hml := C.1.2.2.1
  have hown := C.1.2.2.2.1
  have hts := C.1.2.2.2.2
  intro n
  induction n with
  | zero => intro x3 h H locs ls hl Z hk; exact (show False from hk).elim
  | succ n ih =>
    intro x3 h H locs ls hl Z hk
    unfold wp_L_law_18 at hk
    refine lv_iload_n hx hb dL_law_18 rfl (lv_at hl 3 rfl) ?_
    refine lv_aload_n hx hb dL_law_19 rfl (lv_at hl 0 rfl) ?_
    refine va_slen hx hb hX hbl (Nat.not_le.mpr hbl) Z.1 dL_law_20 ?_
    refine lv_iconst (v := (nI 5)) hx hb dL_law_21 (by decide) ?_
    refine lv_isub hx hb dL_law_22 ?_
    refine lv_icmp_gt (tgt := 929) hx hb dL_law_23 (by decide) (fun q => ?_) (fun q => ?_)
    · have hk := hk.1 q
      refine lv_iconst (v := (nI 1)) hx hb dL_law_929 (by decide) ?_
      exact r_lend C hr Z (hPost _ _ hk) dL_law_930
    · have hk := hk.2 q
      refine lv_aload_n hx hb dL_law_26 rfl (lv_at hl 0 rfl) ?_
      refine lv_iload_n hx hb dL_law_27 rfl (lv_at hl 3 rfl) ?_
      obtain ⟨v28, hv, hk⟩ := hk
      refine r_scr C hX hbl Z hv dL_law_28 ?_
      refine lv_bipush (v := (nI 31)) hx hb dL_law_29 (by decide) ?_
      refine lv_iand hx hb dL_law_31 ?_
      rcases Classical.em ((v28 &&& (nI 31)) = (nI 0)) with q | q0
      · have hk := hk.1 q
        refine lv_tableIn (tgt := 148) hx hb dL_law_32 (by rw [q]; decide) (by rw [q]; decide) (by rw [q]; rfl) (by decide) ?_
        refine lv_aload_n hx hb dL_law_148 rfl (lv_at hl 1 rfl) ?_
        refine lv_aload_n hx hb dL_law_149 rfl (lv_at hl 0 rfl) ?_
        refine lv_iload_n hx hb dL_law_150 rfl (lv_at hl 3 rfl) ?_
        refine lv_iconst (v := (nI 1)) hx hb dL_law_151 (by decide) ?_
        refine lv_iadd hx hb dL_law_152 ?_
        obtain ⟨v153, hv, hk⟩ := hk
        refine r_scr C hX hbl Z hv dL_law_153 ?_
        refine lv_aload_n hx hb dL_law_154 rfl (lv_at hl 0 rfl) ?_
        refine lv_iload_n hx hb dL_law_155 rfl (lv_at hl 3 rfl) ?_
        refine lv_iconst (v := (nI 2)) hx hb dL_law_156 (by decide) ?_
        refine lv_iadd hx hb dL_law_157 ?_
        obtain ⟨v158, hv, hk⟩ := hk
        refine r_scr C hX hbl Z hv dL_law_158 ?_
        refine lv_i2l (v := (Int32.toInt64 v158)) hx hb dL_law_159 rfl ?_
        refine lv_bipush (v := (nI 32)) hx hb dL_law_160 (by decide) ?_
        refine lv_lshl (v := ((Int32.toInt64 v158) <<< (Int32.toInt64 (nI 32) &&& 63))) hx hb dL_law_162 rfl ?_
        refine lv_aload_n hx hb dL_law_163 rfl (lv_at hl 0 rfl) ?_
        refine lv_iload_n hx hb dL_law_164 rfl (lv_at hl 3 rfl) ?_
        refine lv_iconst (v := (nI 3)) hx hb dL_law_165 (by decide) ?_
        refine lv_iadd hx hb dL_law_166 ?_
        obtain ⟨v167, hv, hk⟩ := hk
        refine r_scr C hX hbl Z hv dL_law_167 ?_
        refine lv_i2l (v := (Int32.toInt64 v167)) hx hb dL_law_168 rfl ?_
        refine lv_ldc2 (v := (lN 4294967295)) hx hb hown (hts _ tw_1246) dL_law_169 ?_
        refine lv_land hx hb dL_law_172 ?_
        refine lv_lor hx hb dL_law_173 ?_
        obtain ⟨ho, hk⟩ := hk
        refine r_calli Z (r_runV (As := [.int v153, .long (((Int32.toInt64 v158) <<< (Int32.toInt64 (nI 32) &&& 63)) ||| ((Int32.toInt64 v167) &&& (lN 4294967295)))]) (rest := []) C Z (m_X8_scan l g h x1 v153 (((Int32.toInt64 v158) <<< (Int32.toInt64 (nI 32) &&& 63)) ||| ((Int32.toInt64 v167) &&& (lN 4294967295))) _ hk) ho rfl (cwV 2 C.1.2.2.2.2 (gV tw_352 tw_353 tw_354 tw_57 tw_355) rfl rfl rfl (by decide +kernel) ⟨Nat.le_of_ble_eq_true rfl, Nat.le_of_ble_eq_true rfl⟩) rfl hl.1 rfl (Nat.le_of_ble_eq_true rfl) dL_law_174 ⟨Nat.le_of_ble_eq_true rfl, Nat.le_of_ble_eq_true rfl⟩) (fun r174 h174 H locs hk Z => ?_)
        refine lv_aload_n hx hb dL_law_177 rfl (lv_at hl 2 rfl) ?_
        refine lv_aload_n hx hb dL_law_178 rfl (lv_at hl 0 rfl) ?_
        refine lv_iload_n hx hb dL_law_179 rfl (lv_at hl 3 rfl) ?_
        refine lv_iconst (v := (nI 1)) hx hb dL_law_180 (by decide) ?_
        refine lv_iadd hx hb dL_law_181 ?_
        obtain ⟨v182, hv, hk⟩ := hk
        refine r_scr C hX hbl Z hv dL_law_182 ?_
        refine lv_aload_n hx hb dL_law_183 rfl (lv_at hl 0 rfl) ?_
        refine lv_iload_n hx hb dL_law_184 rfl (lv_at hl 3 rfl) ?_
        refine lv_iconst (v := (nI 2)) hx hb dL_law_185 (by decide) ?_
        refine lv_iadd hx hb dL_law_186 ?_
        obtain ⟨v187, hv, hk⟩ := hk
        refine r_scr C hX hbl Z hv dL_law_187 ?_
        refine lv_i2l (v := (Int32.toInt64 v187)) hx hb dL_law_188 rfl ?_
        refine lv_bipush (v := (nI 32)) hx hb dL_law_189 (by decide) ?_
        refine lv_lshl (v := ((Int32.toInt64 v187) <<< (Int32.toInt64 (nI 32) &&& 63))) hx hb dL_law_191 rfl ?_
        refine lv_aload_n hx hb dL_law_192 rfl (lv_at hl 0 rfl) ?_
        refine lv_iload_n hx hb dL_law_193 rfl (lv_at hl 3 rfl) ?_
        refine lv_iconst (v := (nI 3)) hx hb dL_law_194 (by decide) ?_
        refine lv_iadd hx hb dL_law_195 ?_
        obtain ⟨v196, hv, hk⟩ := hk
        refine r_scr C hX hbl Z hv dL_law_196 ?_
        refine lv_i2l (v := (Int32.toInt64 v196)) hx hb dL_law_197 rfl ?_
        refine lv_ldc2 (v := (lN 4294967295)) hx hb hown (hts _ tw_1246) dL_law_198 ?_
        refine lv_land hx hb dL_law_201 ?_
        refine lv_lor hx hb dL_law_202 ?_
        obtain ⟨ho, hk⟩ := hk
        refine r_calli Z (r_runV (As := [.int v182, .long (((Int32.toInt64 v187) <<< (Int32.toInt64 (nI 32) &&& 63)) ||| ((Int32.toInt64 v196) &&& (lN 4294967295)))]) (rest := [.int r174]) C Z (m_X9_scan l g h174 x2 v182 (((Int32.toInt64 v187) <<< (Int32.toInt64 (nI 32) &&& 63)) ||| ((Int32.toInt64 v196) &&& (lN 4294967295))) _ hk) ho rfl (cwV 2 C.1.2.2.2.2 (gV tw_909 tw_910 tw_911 tw_66 tw_912) rfl rfl rfl (by decide +kernel) ⟨Nat.le_of_ble_eq_true rfl, Nat.le_of_ble_eq_true rfl⟩) rfl hl.1 rfl (Nat.le_of_ble_eq_true rfl) dL_law_203 ⟨Nat.le_of_ble_eq_true rfl, Nat.le_of_ble_eq_true rfl⟩) (fun r203 h203 H locs hk Z => ?_)
        refine lv_icmp_eq (tgt := 923) hx hb dL_law_206 (by decide) (fun q => ?_) (fun q => ?_)
        · have hk := hk.1 q
          obtain ⟨y923, ey923⟩ : ∃ y : Int32, y = x3 + (nI 5) := ⟨_, rfl⟩
          have hk := hk y923 ey923
          refine lv_iinc (v := y923) (lv' := [(3, .int y923), (0, .ref b), (1, .ref x1), (2, .ref x2)]) hx hb dL_law_923 hl (k := 3) rfl (by rw [ey923]; rfl) (by decide) rfl (fun ls hl => ?_)
          refine lv_goto (tgt := 18) hx hb dL_law_926 (by decide) ?_
          exact ih y923 h203 _ _ _ (lv_sub hl [1, 2, 3, 0] rfl) Z hk
        · have hk := hk.2 q
          refine lv_iconst (v := (nI 0)) hx hb dL_law_209 (by decide) ?_
          exact r_lend C hr Z (hPost _ _ hk) dL_law_210
      · have hk := hk.2 q0
        rcases Classical.em ((v28 &&& (nI 31)) = (nI 1)) with q | q1
        · have hk := hk.1 q
          refine lv_tableIn (tgt := 211) hx hb dL_law_32 (by rw [q]; decide) (by rw [q]; decide) (by rw [q]; rfl) (by decide) ?_
          refine lv_aload_n hx hb dL_law_211 rfl (lv_at hl 1 rfl) ?_
          refine lv_aload_n hx hb dL_law_212 rfl (lv_at hl 0 rfl) ?_
          refine lv_iload_n hx hb dL_law_213 rfl (lv_at hl 3 rfl) ?_
          refine lv_iconst (v := (nI 1)) hx hb dL_law_214 (by decide) ?_
          refine lv_iadd hx hb dL_law_215 ?_
          obtain ⟨v216, hv, hk⟩ := hk
          refine r_scr C hX hbl Z hv dL_law_216 ?_
          obtain ⟨ho, hk⟩ := hk
          refine r_calli Z (r_runV (As := [.int v216]) (rest := []) C Z (m_X8_clean l g h x1 v216 _ hk) ho rfl (cwV 1 C.1.2.2.2.2 (gV tw_395 tw_396 tw_397 tw_57 tw_398) rfl rfl rfl (by decide +kernel) ⟨Nat.le_of_ble_eq_true rfl, Nat.le_of_ble_eq_true rfl⟩) rfl hl.1 rfl (Nat.le_of_ble_eq_true rfl) dL_law_217 ⟨Nat.le_of_ble_eq_true rfl, Nat.le_of_ble_eq_true rfl⟩) (fun r217 h217 H locs hk Z => ?_)
          refine lv_aload_n hx hb dL_law_220 rfl (lv_at hl 2 rfl) ?_
          refine lv_aload_n hx hb dL_law_221 rfl (lv_at hl 0 rfl) ?_
          refine lv_iload_n hx hb dL_law_222 rfl (lv_at hl 3 rfl) ?_
          refine lv_iconst (v := (nI 1)) hx hb dL_law_223 (by decide) ?_
          refine lv_iadd hx hb dL_law_224 ?_
          obtain ⟨v225, hv, hk⟩ := hk
          refine r_scr C hX hbl Z hv dL_law_225 ?_
          obtain ⟨ho, hk⟩ := hk
          refine r_calli Z (r_runV (As := [.int v225]) (rest := [.int r217]) C Z (m_X9_clean l g h217 x2 v225 _ hk) ho rfl (cwV 1 C.1.2.2.2.2 (gV tw_939 tw_940 tw_941 tw_66 tw_942) rfl rfl rfl (by decide +kernel) ⟨Nat.le_of_ble_eq_true rfl, Nat.le_of_ble_eq_true rfl⟩) rfl hl.1 rfl (Nat.le_of_ble_eq_true rfl) dL_law_226 ⟨Nat.le_of_ble_eq_true rfl, Nat.le_of_ble_eq_true rfl⟩) (fun r226 h226 H locs hk Z => ?_)
          refine lv_icmp_eq (tgt := 923) hx hb dL_law_229 (by decide) (fun q => ?_) (fun q => ?_)
          · have hk := hk.1 q
            obtain ⟨y923, ey923⟩ : ∃ y : Int32, y = x3 + (nI 5) := ⟨_, rfl⟩
            have hk := hk y923 ey923
            refine lv_iinc (v := y923) (lv' := [(3, .int y923), (0, .ref b), (1, .ref x1), (2, .ref x2)]) hx hb dL_law_923 hl (k := 3) rfl (by rw [ey923]; rfl) (by decide) rfl (fun ls hl => ?_)
            refine lv_goto (tgt := 18) hx hb dL_law_926 (by decide) ?_
            exact ih y923 h226 _ _ _ (lv_sub hl [1, 2, 3, 0] rfl) Z hk
          · have hk := hk.2 q
            refine lv_iconst (v := (nI 0)) hx hb dL_law_232 (by decide) ?_
            exact r_lend C hr Z (hPost _ _ hk) dL_law_233
        · have hk := hk.2 q1
          rcases Classical.em ((v28 &&& (nI 31)) = (nI 2)) with q | q2
          · have hk := hk.1 q
            refine lv_tableIn (tgt := 234) hx hb dL_law_32 (by rw [q]; decide) (by rw [q]; decide) (by rw [q]; rfl) (by decide) ?_
            refine lv_aload_n hx hb dL_law_234 rfl (lv_at hl 1 rfl) ?_
            refine lv_aload_n hx hb dL_law_235 rfl (lv_at hl 0 rfl) ?_
            refine lv_iload_n hx hb dL_law_236 rfl (lv_at hl 3 rfl) ?_
            refine lv_iconst (v := (nI 1)) hx hb dL_law_237 (by decide) ?_
            refine lv_iadd hx hb dL_law_238 ?_
            obtain ⟨v239, hv, hk⟩ := hk
            refine r_scr C hX hbl Z hv dL_law_239 ?_
            refine lv_aload_n hx hb dL_law_240 rfl (lv_at hl 0 rfl) ?_
            refine lv_iload_n hx hb dL_law_241 rfl (lv_at hl 3 rfl) ?_
            refine lv_iconst (v := (nI 2)) hx hb dL_law_242 (by decide) ?_
            refine lv_iadd hx hb dL_law_243 ?_
            obtain ⟨v244, hv, hk⟩ := hk
            refine r_scr C hX hbl Z hv dL_law_244 ?_
            obtain ⟨ho, hk⟩ := hk
            refine r_calli Z (r_runV (As := [.int v239, .int v244]) (rest := []) C Z (m_X8_set l g h x1 v239 v244 _ hk) ho rfl (cwV 2 C.1.2.2.2.2 (gV tw_407 tw_408 tw_409 tw_57 tw_410) rfl rfl rfl (by decide +kernel) ⟨Nat.le_of_ble_eq_true rfl, Nat.le_of_ble_eq_true rfl⟩) rfl hl.1 rfl (Nat.le_of_ble_eq_true rfl) dL_law_245 ⟨Nat.le_of_ble_eq_true rfl, Nat.le_of_ble_eq_true rfl⟩) (fun r245 h245 H locs hk Z => ?_)
            refine lv_aload_n hx hb dL_law_248 rfl (lv_at hl 2 rfl) ?_
            refine lv_aload_n hx hb dL_law_249 rfl (lv_at hl 0 rfl) ?_
            refine lv_iload_n hx hb dL_law_250 rfl (lv_at hl 3 rfl) ?_
            refine lv_iconst (v := (nI 1)) hx hb dL_law_251 (by decide) ?_
            refine lv_iadd hx hb dL_law_252 ?_
            obtain ⟨v253, hv, hk⟩ := hk
            refine r_scr C hX hbl Z hv dL_law_253 ?_
            refine lv_aload_n hx hb dL_law_254 rfl (lv_at hl 0 rfl) ?_
            refine lv_iload_n hx hb dL_law_255 rfl (lv_at hl 3 rfl) ?_
            refine lv_iconst (v := (nI 2)) hx hb dL_law_256 (by decide) ?_
            refine lv_iadd hx hb dL_law_257 ?_
            obtain ⟨v258, hv, hk⟩ := hk
            refine r_scr C hX hbl Z hv dL_law_258 ?_
            obtain ⟨ho, hk⟩ := hk
            refine r_calli Z (r_runV (As := [.int v253, .int v258]) (rest := [.int r245]) C Z (m_X9_set l g h245 x2 v253 v258 _ hk) ho rfl (cwV 2 C.1.2.2.2.2 (gV tw_951 tw_952 tw_953 tw_66 tw_954) rfl rfl rfl (by decide +kernel) ⟨Nat.le_of_ble_eq_true rfl, Nat.le_of_ble_eq_true rfl⟩) rfl hl.1 rfl (Nat.le_of_ble_eq_true rfl) dL_law_259 ⟨Nat.le_of_ble_eq_true rfl, Nat.le_of_ble_eq_true rfl⟩) (fun r259 h259 H locs hk Z => ?_)
            refine lv_icmp_eq (tgt := 923) hx hb dL_law_262 (by decide) (fun q => ?_) (fun q => ?_)
            · have hk := hk.1 q
              obtain ⟨y923, ey923⟩ : ∃ y : Int32, y = x3 + (nI 5) := ⟨_, rfl⟩
              have hk := hk y923 ey923
              refine lv_iinc (v := y923) (lv' := [(3, .int y923), (0, .ref b), (1, .ref x1), (2, .ref x2)]) hx hb dL_law_923 hl (k := 3) rfl (by rw [ey923]; rfl) (by decide) rfl (fun ls hl => ?_)
              refine lv_goto (tgt := 18) hx hb dL_law_926 (by decide) ?_
              exact ih y923 h259 _ _ _ (lv_sub hl [1, 2, 3, 0] rfl) Z hk
            · have hk := hk.2 q
              refine lv_iconst (v := (nI 0)) hx hb dL_law_265 (by decide) ?_
              exact r_lend C hr Z (hPost _ _ hk) dL_law_266
          · have hk := hk.2 q2
            rcases Classical.em ((v28 &&& (nI 31)) = (nI 3)) with q | q3
            · have hk := hk.1 q
              refine lv_tableIn (tgt := 267) hx hb dL_law_32 (by rw [q]; decide) (by rw [q]; decide) (by rw [q]; rfl) (by decide) ?_
              refine lv_aload_n hx hb dL_law_267 rfl (lv_at hl 1 rfl) ?_
              obtain ⟨ho, hk⟩ := hk
              refine r_calli Z (r_runV (As := []) (rest := []) C Z (m_X8_publish l g h x1 _ hk) ho rfl (cwV 0 C.1.2.2.2.2 (gV tw_419 tw_420 tw_421 tw_57 tw_422) rfl rfl rfl (by decide +kernel) ⟨Nat.le_of_ble_eq_true rfl, Nat.le_of_ble_eq_true rfl⟩) rfl hl.1 rfl (Nat.le_of_ble_eq_true rfl) dL_law_268 ⟨Nat.le_of_ble_eq_true rfl, Nat.le_of_ble_eq_true rfl⟩) (fun r268 h268 H locs hk Z => ?_)
              refine lv_aload_n hx hb dL_law_271 rfl (lv_at hl 2 rfl) ?_
              obtain ⟨ho, hk⟩ := hk
              refine r_calli Z (r_runV (As := []) (rest := [.int r268]) C Z (m_X9_publish l g h268 x2 _ hk) ho rfl (cwV 0 C.1.2.2.2.2 (gV tw_960 tw_961 tw_962 tw_66 tw_963) rfl rfl rfl (by decide +kernel) ⟨Nat.le_of_ble_eq_true rfl, Nat.le_of_ble_eq_true rfl⟩) rfl hl.1 rfl (Nat.le_of_ble_eq_true rfl) dL_law_272 ⟨Nat.le_of_ble_eq_true rfl, Nat.le_of_ble_eq_true rfl⟩) (fun r272 h272 H locs hk Z => ?_)
              refine lv_icmp_eq (tgt := 923) hx hb dL_law_275 (by decide) (fun q => ?_) (fun q => ?_)
              · have hk := hk.1 q
                obtain ⟨y923, ey923⟩ : ∃ y : Int32, y = x3 + (nI 5) := ⟨_, rfl⟩
                have hk := hk y923 ey923
                refine lv_iinc (v := y923) (lv' := [(3, .int y923), (0, .ref b), (1, .ref x1), (2, .ref x2)]) hx hb dL_law_923 hl (k := 3) rfl (by rw [ey923]; rfl) (by decide) rfl (fun ls hl => ?_)
                refine lv_goto (tgt := 18) hx hb dL_law_926 (by decide) ?_
                exact ih y923 h272 _ _ _ (lv_sub hl [1, 2, 3, 0] rfl) Z hk
              · have hk := hk.2 q
                refine lv_iconst (v := (nI 0)) hx hb dL_law_278 (by decide) ?_
                exact r_lend C hr Z (hPost _ _ hk) dL_law_279
            · have hk := hk.2 q3
              rcases Classical.em ((v28 &&& (nI 31)) = (nI 4)) with q | q4
              · have hk := hk.1 q
                refine lv_tableIn (tgt := 280) hx hb dL_law_32 (by rw [q]; decide) (by rw [q]; decide) (by rw [q]; rfl) (by decide) ?_
                refine lv_aload_n hx hb dL_law_280 rfl (lv_at hl 1 rfl) ?_
                refine lv_aload_n hx hb dL_law_281 rfl (lv_at hl 0 rfl) ?_
                refine lv_iload_n hx hb dL_law_282 rfl (lv_at hl 3 rfl) ?_
                refine lv_iconst (v := (nI 1)) hx hb dL_law_283 (by decide) ?_
                refine lv_iadd hx hb dL_law_284 ?_
                obtain ⟨v285, hv, hk⟩ := hk
                refine r_scr C hX hbl Z hv dL_law_285 ?_
                refine lv_aload_n hx hb dL_law_286 rfl (lv_at hl 0 rfl) ?_
                refine lv_iload_n hx hb dL_law_287 rfl (lv_at hl 3 rfl) ?_
                refine lv_iconst (v := (nI 2)) hx hb dL_law_288 (by decide) ?_
                refine lv_iadd hx hb dL_law_289 ?_
                obtain ⟨v290, hv, hk⟩ := hk
                refine r_scr C hX hbl Z hv dL_law_290 ?_
                obtain ⟨ho, hk⟩ := hk
                refine r_calli Z (r_runV (As := [.int v285, .int v290]) (rest := []) C Z (m_X8_draw l g h x1 v285 v290 _ hk) ho rfl (cwV 2 C.1.2.2.2.2 (gV tw_492 tw_493 tw_494 tw_57 tw_495) rfl rfl rfl (by decide +kernel) ⟨Nat.le_of_ble_eq_true rfl, Nat.le_of_ble_eq_true rfl⟩) rfl hl.1 rfl (Nat.le_of_ble_eq_true rfl) dL_law_291 ⟨Nat.le_of_ble_eq_true rfl, Nat.le_of_ble_eq_true rfl⟩) (fun r291 h291 H locs hk Z => ?_)
                refine lv_aload_n hx hb dL_law_294 rfl (lv_at hl 2 rfl) ?_
                refine lv_aload_n hx hb dL_law_295 rfl (lv_at hl 0 rfl) ?_
                refine lv_iload_n hx hb dL_law_296 rfl (lv_at hl 3 rfl) ?_
                refine lv_iconst (v := (nI 1)) hx hb dL_law_297 (by decide) ?_
                refine lv_iadd hx hb dL_law_298 ?_
                obtain ⟨v299, hv, hk⟩ := hk
                refine r_scr C hX hbl Z hv dL_law_299 ?_
                refine lv_aload_n hx hb dL_law_300 rfl (lv_at hl 0 rfl) ?_
                refine lv_iload_n hx hb dL_law_301 rfl (lv_at hl 3 rfl) ?_
                refine lv_iconst (v := (nI 2)) hx hb dL_law_302 (by decide) ?_
                refine lv_iadd hx hb dL_law_303 ?_
                obtain ⟨v304, hv, hk⟩ := hk
                refine r_scr C hX hbl Z hv dL_law_304 ?_
                obtain ⟨ho, hk⟩ := hk
                refine r_calli Z (r_runV (As := [.int v299, .int v304]) (rest := [.int r291]) C Z (m_X9_draw l g h291 x2 v299 v304 _ hk) ho rfl (cwV 2 C.1.2.2.2.2 (gV tw_1047 tw_1048 tw_1049 tw_66 tw_1050) rfl rfl rfl (by decide +kernel) ⟨Nat.le_of_ble_eq_true rfl, Nat.le_of_ble_eq_true rfl⟩) rfl hl.1 rfl (Nat.le_of_ble_eq_true rfl) dL_law_305 ⟨Nat.le_of_ble_eq_true rfl, Nat.le_of_ble_eq_true rfl⟩) (fun r305 h305 H locs hk Z => ?_)
                refine lv_icmp_eq (tgt := 923) hx hb dL_law_308 (by decide) (fun q => ?_) (fun q => ?_)
                · have hk := hk.1 q
                  obtain ⟨y923, ey923⟩ : ∃ y : Int32, y = x3 + (nI 5) := ⟨_, rfl⟩
                  have hk := hk y923 ey923
                  refine lv_iinc (v := y923) (lv' := [(3, .int y923), (0, .ref b), (1, .ref x1), (2, .ref x2)]) hx hb dL_law_923 hl (k := 3) rfl (by rw [ey923]; rfl) (by decide) rfl (fun ls hl => ?_)
                  refine lv_goto (tgt := 18) hx hb dL_law_926 (by decide) ?_
                  exact ih y923 h305 _ _ _ (lv_sub hl [1, 2, 3, 0] rfl) Z hk
                · have hk := hk.2 q
                  refine lv_iconst (v := (nI 0)) hx hb dL_law_311 (by decide) ?_
                  exact r_lend C hr Z (hPost _ _ hk) dL_law_312
              · have hk := hk.2 q4
                rcases Classical.em ((v28 &&& (nI 31)) = (nI 5)) with q | q5
                · have hk := hk.1 q
                  refine lv_tableIn (tgt := 313) hx hb dL_law_32 (by rw [q]; decide) (by rw [q]; decide) (by rw [q]; rfl) (by decide) ?_
                  refine lv_aload_n hx hb dL_law_313 rfl (lv_at hl 1 rfl) ?_
                  refine lv_aload_n hx hb dL_law_314 rfl (lv_at hl 0 rfl) ?_
                  refine lv_iload_n hx hb dL_law_315 rfl (lv_at hl 3 rfl) ?_
                  refine lv_iconst (v := (nI 1)) hx hb dL_law_316 (by decide) ?_
                  refine lv_iadd hx hb dL_law_317 ?_
                  obtain ⟨v318, hv, hk⟩ := hk
                  refine r_scr C hX hbl Z hv dL_law_318 ?_
                  refine lv_aload_n hx hb dL_law_319 rfl (lv_at hl 0 rfl) ?_
                  refine lv_iload_n hx hb dL_law_320 rfl (lv_at hl 3 rfl) ?_
                  refine lv_iconst (v := (nI 2)) hx hb dL_law_321 (by decide) ?_
                  refine lv_iadd hx hb dL_law_322 ?_
                  obtain ⟨v323, hv, hk⟩ := hk
                  refine r_scr C hX hbl Z hv dL_law_323 ?_
                  refine lv_i2l (v := (Int32.toInt64 v323)) hx hb dL_law_324 rfl ?_
                  refine lv_bipush (v := (nI 32)) hx hb dL_law_325 (by decide) ?_
                  refine lv_lshl (v := ((Int32.toInt64 v323) <<< (Int32.toInt64 (nI 32) &&& 63))) hx hb dL_law_327 rfl ?_
                  refine lv_aload_n hx hb dL_law_328 rfl (lv_at hl 0 rfl) ?_
                  refine lv_iload_n hx hb dL_law_329 rfl (lv_at hl 3 rfl) ?_
                  refine lv_iconst (v := (nI 3)) hx hb dL_law_330 (by decide) ?_
                  refine lv_iadd hx hb dL_law_331 ?_
                  obtain ⟨v332, hv, hk⟩ := hk
                  refine r_scr C hX hbl Z hv dL_law_332 ?_
                  refine lv_i2l (v := (Int32.toInt64 v332)) hx hb dL_law_333 rfl ?_
                  refine lv_ldc2 (v := (lN 4294967295)) hx hb hown (hts _ tw_1246) dL_law_334 ?_
                  refine lv_land hx hb dL_law_337 ?_
                  refine lv_lor hx hb dL_law_338 ?_
                  obtain ⟨ho, hk⟩ := hk
                  refine r_calli Z (r_runV (As := [.int v318, .long (((Int32.toInt64 v323) <<< (Int32.toInt64 (nI 32) &&& 63)) ||| ((Int32.toInt64 v332) &&& (lN 4294967295)))]) (rest := []) C Z (m_X8_look l g h x1 v318 (((Int32.toInt64 v323) <<< (Int32.toInt64 (nI 32) &&& 63)) ||| ((Int32.toInt64 v332) &&& (lN 4294967295))) _ hk) ho rfl (cwV 2 C.1.2.2.2.2 (gV tw_529 tw_530 tw_531 tw_57 tw_532) rfl rfl rfl (by decide +kernel) ⟨Nat.le_of_ble_eq_true rfl, Nat.le_of_ble_eq_true rfl⟩) rfl hl.1 rfl (Nat.le_of_ble_eq_true rfl) dL_law_339 ⟨Nat.le_of_ble_eq_true rfl, Nat.le_of_ble_eq_true rfl⟩) (fun r339 h339 H locs hk Z => ?_)
                  refine lv_aload_n hx hb dL_law_342 rfl (lv_at hl 2 rfl) ?_
                  refine lv_aload_n hx hb dL_law_343 rfl (lv_at hl 0 rfl) ?_
                  refine lv_iload_n hx hb dL_law_344 rfl (lv_at hl 3 rfl) ?_
                  refine lv_iconst (v := (nI 1)) hx hb dL_law_345 (by decide) ?_
                  refine lv_iadd hx hb dL_law_346 ?_
                  obtain ⟨v347, hv, hk⟩ := hk
                  refine r_scr C hX hbl Z hv dL_law_347 ?_
                  refine lv_aload_n hx hb dL_law_348 rfl (lv_at hl 0 rfl) ?_
                  refine lv_iload_n hx hb dL_law_349 rfl (lv_at hl 3 rfl) ?_
                  refine lv_iconst (v := (nI 2)) hx hb dL_law_350 (by decide) ?_
                  refine lv_iadd hx hb dL_law_351 ?_
                  obtain ⟨v352, hv, hk⟩ := hk
                  refine r_scr C hX hbl Z hv dL_law_352 ?_
                  refine lv_i2l (v := (Int32.toInt64 v352)) hx hb dL_law_353 rfl ?_
                  refine lv_bipush (v := (nI 32)) hx hb dL_law_354 (by decide) ?_
                  refine lv_lshl (v := ((Int32.toInt64 v352) <<< (Int32.toInt64 (nI 32) &&& 63))) hx hb dL_law_356 rfl ?_
                  refine lv_aload_n hx hb dL_law_357 rfl (lv_at hl 0 rfl) ?_
                  refine lv_iload_n hx hb dL_law_358 rfl (lv_at hl 3 rfl) ?_
                  refine lv_iconst (v := (nI 3)) hx hb dL_law_359 (by decide) ?_
                  refine lv_iadd hx hb dL_law_360 ?_
                  obtain ⟨v361, hv, hk⟩ := hk
                  refine r_scr C hX hbl Z hv dL_law_361 ?_
                  refine lv_i2l (v := (Int32.toInt64 v361)) hx hb dL_law_362 rfl ?_
                  refine lv_ldc2 (v := (lN 4294967295)) hx hb hown (hts _ tw_1246) dL_law_363 ?_
                  refine lv_land hx hb dL_law_366 ?_
                  refine lv_lor hx hb dL_law_367 ?_
                  obtain ⟨ho, hk⟩ := hk
                  refine r_calli Z (r_runV (As := [.int v347, .long (((Int32.toInt64 v352) <<< (Int32.toInt64 (nI 32) &&& 63)) ||| ((Int32.toInt64 v361) &&& (lN 4294967295)))]) (rest := [.int r339]) C Z (m_X9_look l g h339 x2 v347 (((Int32.toInt64 v352) <<< (Int32.toInt64 (nI 32) &&& 63)) ||| ((Int32.toInt64 v361) &&& (lN 4294967295))) _ hk) ho rfl (cwV 2 C.1.2.2.2.2 (gV tw_1075 tw_1076 tw_1077 tw_66 tw_1078) rfl rfl rfl (by decide +kernel) ⟨Nat.le_of_ble_eq_true rfl, Nat.le_of_ble_eq_true rfl⟩) rfl hl.1 rfl (Nat.le_of_ble_eq_true rfl) dL_law_368 ⟨Nat.le_of_ble_eq_true rfl, Nat.le_of_ble_eq_true rfl⟩) (fun r368 h368 H locs hk Z => ?_)
                  refine lv_icmp_eq (tgt := 923) hx hb dL_law_371 (by decide) (fun q => ?_) (fun q => ?_)
                  · have hk := hk.1 q
                    obtain ⟨y923, ey923⟩ : ∃ y : Int32, y = x3 + (nI 5) := ⟨_, rfl⟩
                    have hk := hk y923 ey923
                    refine lv_iinc (v := y923) (lv' := [(3, .int y923), (0, .ref b), (1, .ref x1), (2, .ref x2)]) hx hb dL_law_923 hl (k := 3) rfl (by rw [ey923]; rfl) (by decide) rfl (fun ls hl => ?_)
                    refine lv_goto (tgt := 18) hx hb dL_law_926 (by decide) ?_
                    exact ih y923 h368 _ _ _ (lv_sub hl [1, 2, 3, 0] rfl) Z hk
                  · have hk := hk.2 q
                    refine lv_iconst (v := (nI 0)) hx hb dL_law_374 (by decide) ?_
                    exact r_lend C hr Z (hPost _ _ hk) dL_law_375
                · have hk := hk.2 q5
                  rcases Classical.em ((v28 &&& (nI 31)) = (nI 6)) with q | q6
                  · have hk := hk.1 q
                    refine lv_tableIn (tgt := 376) hx hb dL_law_32 (by rw [q]; decide) (by rw [q]; decide) (by rw [q]; rfl) (by decide) ?_
                    refine lv_aload_n hx hb dL_law_376 rfl (lv_at hl 1 rfl) ?_
                    refine lv_aload_n hx hb dL_law_377 rfl (lv_at hl 0 rfl) ?_
                    refine lv_iload_n hx hb dL_law_378 rfl (lv_at hl 3 rfl) ?_
                    refine lv_iconst (v := (nI 1)) hx hb dL_law_379 (by decide) ?_
                    refine lv_iadd hx hb dL_law_380 ?_
                    obtain ⟨v381, hv, hk⟩ := hk
                    refine r_scr C hX hbl Z hv dL_law_381 ?_
                    obtain ⟨ho, hk⟩ := hk
                    refine r_calli Z (r_runV (As := [.int v381]) (rest := []) C Z (m_X8_take l g h x1 v381 _ hk) ho rfl (cwV 1 C.1.2.2.2.2 (gV tw_543 tw_544 tw_545 tw_57 tw_546) rfl rfl rfl (by decide +kernel) ⟨Nat.le_of_ble_eq_true rfl, Nat.le_of_ble_eq_true rfl⟩) rfl hl.1 rfl (Nat.le_of_ble_eq_true rfl) dL_law_382 ⟨Nat.le_of_ble_eq_true rfl, Nat.le_of_ble_eq_true rfl⟩) (fun r382 h382 H locs hk Z => ?_)
                    refine lv_aload_n hx hb dL_law_385 rfl (lv_at hl 2 rfl) ?_
                    refine lv_aload_n hx hb dL_law_386 rfl (lv_at hl 0 rfl) ?_
                    refine lv_iload_n hx hb dL_law_387 rfl (lv_at hl 3 rfl) ?_
                    refine lv_iconst (v := (nI 1)) hx hb dL_law_388 (by decide) ?_
                    refine lv_iadd hx hb dL_law_389 ?_
                    obtain ⟨v390, hv, hk⟩ := hk
                    refine r_scr C hX hbl Z hv dL_law_390 ?_
                    obtain ⟨ho, hk⟩ := hk
                    refine r_calli Z (r_runV (As := [.int v390]) (rest := [.int r382]) C Z (m_X9_take l g h382 x2 v390 _ hk) ho rfl (cwV 1 C.1.2.2.2.2 (gV tw_1083 tw_1084 tw_1085 tw_66 tw_1086) rfl rfl rfl (by decide +kernel) ⟨Nat.le_of_ble_eq_true rfl, Nat.le_of_ble_eq_true rfl⟩) rfl hl.1 rfl (Nat.le_of_ble_eq_true rfl) dL_law_391 ⟨Nat.le_of_ble_eq_true rfl, Nat.le_of_ble_eq_true rfl⟩) (fun r391 h391 H locs hk Z => ?_)
                    refine lv_icmp_eq (tgt := 923) hx hb dL_law_394 (by decide) (fun q => ?_) (fun q => ?_)
                    · have hk := hk.1 q
                      obtain ⟨y923, ey923⟩ : ∃ y : Int32, y = x3 + (nI 5) := ⟨_, rfl⟩
                      have hk := hk y923 ey923
                      refine lv_iinc (v := y923) (lv' := [(3, .int y923), (0, .ref b), (1, .ref x1), (2, .ref x2)]) hx hb dL_law_923 hl (k := 3) rfl (by rw [ey923]; rfl) (by decide) rfl (fun ls hl => ?_)
                      refine lv_goto (tgt := 18) hx hb dL_law_926 (by decide) ?_
                      exact ih y923 h391 _ _ _ (lv_sub hl [1, 2, 3, 0] rfl) Z hk
                    · have hk := hk.2 q
                      refine lv_iconst (v := (nI 0)) hx hb dL_law_397 (by decide) ?_
                      exact r_lend C hr Z (hPost _ _ hk) dL_law_398
                  · have hk := hk.2 q6
                    rcases Classical.em ((v28 &&& (nI 31)) = (nI 7)) with q | q7
                    · have hk := hk.1 q
                      refine lv_tableIn (tgt := 399) hx hb dL_law_32 (by rw [q]; decide) (by rw [q]; decide) (by rw [q]; rfl) (by decide) ?_
                      refine lv_aload_n hx hb dL_law_399 rfl (lv_at hl 1 rfl) ?_
                      refine lv_aload_n hx hb dL_law_400 rfl (lv_at hl 0 rfl) ?_
                      refine lv_iload_n hx hb dL_law_401 rfl (lv_at hl 3 rfl) ?_
                      refine lv_iconst (v := (nI 1)) hx hb dL_law_402 (by decide) ?_
                      refine lv_iadd hx hb dL_law_403 ?_
                      obtain ⟨v404, hv, hk⟩ := hk
                      refine r_scr C hX hbl Z hv dL_law_404 ?_
                      obtain ⟨ho, hk⟩ := hk
                      refine r_calli Z (r_runV (As := [.int v404]) (rest := []) C Z (m_X8_restore l g h x1 v404 _ hk) ho rfl (cwV 1 C.1.2.2.2.2 (gV tw_553 tw_554 tw_555 tw_57 tw_556) rfl rfl rfl (by decide +kernel) ⟨Nat.le_of_ble_eq_true rfl, Nat.le_of_ble_eq_true rfl⟩) rfl hl.1 rfl (Nat.le_of_ble_eq_true rfl) dL_law_405 ⟨Nat.le_of_ble_eq_true rfl, Nat.le_of_ble_eq_true rfl⟩) (fun r405 h405 H locs hk Z => ?_)
                      refine lv_aload_n hx hb dL_law_408 rfl (lv_at hl 2 rfl) ?_
                      refine lv_aload_n hx hb dL_law_409 rfl (lv_at hl 0 rfl) ?_
                      refine lv_iload_n hx hb dL_law_410 rfl (lv_at hl 3 rfl) ?_
                      refine lv_iconst (v := (nI 1)) hx hb dL_law_411 (by decide) ?_
                      refine lv_iadd hx hb dL_law_412 ?_
                      obtain ⟨v413, hv, hk⟩ := hk
                      refine r_scr C hX hbl Z hv dL_law_413 ?_
                      obtain ⟨ho, hk⟩ := hk
                      refine r_calli Z (r_runV (As := [.int v413]) (rest := [.int r405]) C Z (m_X9_restore l g h405 x2 v413 _ hk) ho rfl (cwV 1 C.1.2.2.2.2 (gV tw_1090 tw_1091 tw_1092 tw_66 tw_1093) rfl rfl rfl (by decide +kernel) ⟨Nat.le_of_ble_eq_true rfl, Nat.le_of_ble_eq_true rfl⟩) rfl hl.1 rfl (Nat.le_of_ble_eq_true rfl) dL_law_414 ⟨Nat.le_of_ble_eq_true rfl, Nat.le_of_ble_eq_true rfl⟩) (fun r414 h414 H locs hk Z => ?_)
                      refine lv_icmp_eq (tgt := 923) hx hb dL_law_417 (by decide) (fun q => ?_) (fun q => ?_)
                      · have hk := hk.1 q
                        obtain ⟨y923, ey923⟩ : ∃ y : Int32, y = x3 + (nI 5) := ⟨_, rfl⟩
                        have hk := hk y923 ey923
                        refine lv_iinc (v := y923) (lv' := [(3, .int y923), (0, .ref b), (1, .ref x1), (2, .ref x2)]) hx hb dL_law_923 hl (k := 3) rfl (by rw [ey923]; rfl) (by decide) rfl (fun ls hl => ?_)
                        refine lv_goto (tgt := 18) hx hb dL_law_926 (by decide) ?_
                        exact ih y923 h414 _ _ _ (lv_sub hl [1, 2, 3, 0] rfl) Z hk
                      · have hk := hk.2 q
                        refine lv_iconst (v := (nI 0)) hx hb dL_law_420 (by decide) ?_
                        exact r_lend C hr Z (hPost _ _ hk) dL_law_421
                    · have hk := hk.2 q7
                      rcases Classical.em ((v28 &&& (nI 31)) = (nI 8)) with q | q8
                      · have hk := hk.1 q
                        refine lv_tableIn (tgt := 422) hx hb dL_law_32 (by rw [q]; decide) (by rw [q]; decide) (by rw [q]; rfl) (by decide) ?_
                        refine lv_aload_n hx hb dL_law_422 rfl (lv_at hl 1 rfl) ?_
                        obtain ⟨ho, hk⟩ := hk
                        refine r_calli Z (r_runV (As := []) (rest := []) C Z (m_X8_undo l g h x1 _ hk) ho rfl (cwV 0 C.1.2.2.2.2 (gV tw_566 tw_567 tw_568 tw_57 tw_569) rfl rfl rfl (by decide +kernel) ⟨Nat.le_of_ble_eq_true rfl, Nat.le_of_ble_eq_true rfl⟩) rfl hl.1 rfl (Nat.le_of_ble_eq_true rfl) dL_law_423 ⟨Nat.le_of_ble_eq_true rfl, Nat.le_of_ble_eq_true rfl⟩) (fun r423 h423 H locs hk Z => ?_)
                        refine lv_aload_n hx hb dL_law_426 rfl (lv_at hl 2 rfl) ?_
                        obtain ⟨ho, hk⟩ := hk
                        refine r_calli Z (r_runV (As := []) (rest := [.int r423]) C Z (m_X9_undo l g h423 x2 _ hk) ho rfl (cwV 0 C.1.2.2.2.2 (gV tw_1094 tw_1095 tw_1096 tw_66 tw_1097) rfl rfl rfl (by decide +kernel) ⟨Nat.le_of_ble_eq_true rfl, Nat.le_of_ble_eq_true rfl⟩) rfl hl.1 rfl (Nat.le_of_ble_eq_true rfl) dL_law_427 ⟨Nat.le_of_ble_eq_true rfl, Nat.le_of_ble_eq_true rfl⟩) (fun r427 h427 H locs hk Z => ?_)
                        refine lv_icmp_eq (tgt := 923) hx hb dL_law_430 (by decide) (fun q => ?_) (fun q => ?_)
                        · have hk := hk.1 q
                          obtain ⟨y923, ey923⟩ : ∃ y : Int32, y = x3 + (nI 5) := ⟨_, rfl⟩
                          have hk := hk y923 ey923
                          refine lv_iinc (v := y923) (lv' := [(3, .int y923), (0, .ref b), (1, .ref x1), (2, .ref x2)]) hx hb dL_law_923 hl (k := 3) rfl (by rw [ey923]; rfl) (by decide) rfl (fun ls hl => ?_)
                          refine lv_goto (tgt := 18) hx hb dL_law_926 (by decide) ?_
                          exact ih y923 h427 _ _ _ (lv_sub hl [1, 2, 3, 0] rfl) Z hk
                        · have hk := hk.2 q
                          refine lv_iconst (v := (nI 0)) hx hb dL_law_433 (by decide) ?_
                          exact r_lend C hr Z (hPost _ _ hk) dL_law_434
                      · have hk := hk.2 q8
                        rcases Classical.em ((v28 &&& (nI 31)) = (nI 9)) with q | q9
                        · have hk := hk.1 q
                          refine lv_tableIn (tgt := 435) hx hb dL_law_32 (by rw [q]; decide) (by rw [q]; decide) (by rw [q]; rfl) (by decide) ?_
                          refine lv_aload_n hx hb dL_law_435 rfl (lv_at hl 1 rfl) ?_
                          refine lv_aload_n hx hb dL_law_436 rfl (lv_at hl 0 rfl) ?_
                          refine lv_iload_n hx hb dL_law_437 rfl (lv_at hl 3 rfl) ?_
                          refine lv_iconst (v := (nI 1)) hx hb dL_law_438 (by decide) ?_
                          refine lv_iadd hx hb dL_law_439 ?_
                          obtain ⟨v440, hv, hk⟩ := hk
                          refine r_scr C hX hbl Z hv dL_law_440 ?_
                          obtain ⟨ho, hk⟩ := hk
                          refine r_calli Z (r_runV (As := [.int v440]) (rest := []) C Z (m_X8_append l g h x1 v440 _ hk) ho rfl (cwV 1 C.1.2.2.2.2 (gV tw_578 tw_579 tw_580 tw_57 tw_581) rfl rfl rfl (by decide +kernel) ⟨Nat.le_of_ble_eq_true rfl, Nat.le_of_ble_eq_true rfl⟩) rfl hl.1 rfl (Nat.le_of_ble_eq_true rfl) dL_law_441 ⟨Nat.le_of_ble_eq_true rfl, Nat.le_of_ble_eq_true rfl⟩) (fun r441 h441 H locs hk Z => ?_)
                          refine lv_aload_n hx hb dL_law_444 rfl (lv_at hl 2 rfl) ?_
                          refine lv_aload_n hx hb dL_law_445 rfl (lv_at hl 0 rfl) ?_
                          refine lv_iload_n hx hb dL_law_446 rfl (lv_at hl 3 rfl) ?_
                          refine lv_iconst (v := (nI 1)) hx hb dL_law_447 (by decide) ?_
                          refine lv_iadd hx hb dL_law_448 ?_
                          obtain ⟨v449, hv, hk⟩ := hk
                          refine r_scr C hX hbl Z hv dL_law_449 ?_
                          obtain ⟨ho, hk⟩ := hk
                          refine r_calli Z (r_runV (As := [.int v449]) (rest := [.int r441]) C Z (m_X9_append l g h441 x2 v449 _ hk) ho rfl (cwV 1 C.1.2.2.2.2 (gV tw_1098 tw_1099 tw_1100 tw_66 tw_1101) rfl rfl rfl (by decide +kernel) ⟨Nat.le_of_ble_eq_true rfl, Nat.le_of_ble_eq_true rfl⟩) rfl hl.1 rfl (Nat.le_of_ble_eq_true rfl) dL_law_450 ⟨Nat.le_of_ble_eq_true rfl, Nat.le_of_ble_eq_true rfl⟩) (fun r450 h450 H locs hk Z => ?_)
                          refine lv_icmp_eq (tgt := 923) hx hb dL_law_453 (by decide) (fun q => ?_) (fun q => ?_)
                          · have hk := hk.1 q
                            obtain ⟨y923, ey923⟩ : ∃ y : Int32, y = x3 + (nI 5) := ⟨_, rfl⟩
                            have hk := hk y923 ey923
                            refine lv_iinc (v := y923) (lv' := [(3, .int y923), (0, .ref b), (1, .ref x1), (2, .ref x2)]) hx hb dL_law_923 hl (k := 3) rfl (by rw [ey923]; rfl) (by decide) rfl (fun ls hl => ?_)
                            refine lv_goto (tgt := 18) hx hb dL_law_926 (by decide) ?_
                            exact ih y923 h450 _ _ _ (lv_sub hl [1, 2, 3, 0] rfl) Z hk
                          · have hk := hk.2 q
                            refine lv_iconst (v := (nI 0)) hx hb dL_law_456 (by decide) ?_
                            exact r_lend C hr Z (hPost _ _ hk) dL_law_457
                        · have hk := hk.2 q9
                          rcases Classical.em ((v28 &&& (nI 31)) = (nI 10)) with q | q10
                          · have hk := hk.1 q
                            refine lv_tableIn (tgt := 458) hx hb dL_law_32 (by rw [q]; decide) (by rw [q]; decide) (by rw [q]; rfl) (by decide) ?_
                            refine lv_aload_n hx hb dL_law_458 rfl (lv_at hl 1 rfl) ?_
                            obtain ⟨ho, hk⟩ := hk
                            refine r_calli Z (r_runV (As := []) (rest := []) C Z (m_X8_clearText l g h x1 _ hk) ho rfl (cwV 0 C.1.2.2.2.2 (gV tw_586 tw_587 tw_588 tw_57 tw_589) rfl rfl rfl (by decide +kernel) ⟨Nat.le_of_ble_eq_true rfl, Nat.le_of_ble_eq_true rfl⟩) rfl hl.1 rfl (Nat.le_of_ble_eq_true rfl) dL_law_459 ⟨Nat.le_of_ble_eq_true rfl, Nat.le_of_ble_eq_true rfl⟩) (fun r459 h459 H locs hk Z => ?_)
                            refine lv_aload_n hx hb dL_law_462 rfl (lv_at hl 2 rfl) ?_
                            obtain ⟨ho, hk⟩ := hk
                            refine r_calli Z (r_runV (As := []) (rest := [.int r459]) C Z (m_X9_clearText l g h459 x2 _ hk) ho rfl (cwV 0 C.1.2.2.2.2 (gV tw_1103 tw_1104 tw_1105 tw_66 tw_1106) rfl rfl rfl (by decide +kernel) ⟨Nat.le_of_ble_eq_true rfl, Nat.le_of_ble_eq_true rfl⟩) rfl hl.1 rfl (Nat.le_of_ble_eq_true rfl) dL_law_463 ⟨Nat.le_of_ble_eq_true rfl, Nat.le_of_ble_eq_true rfl⟩) (fun r463 h463 H locs hk Z => ?_)
                            refine lv_icmp_eq (tgt := 923) hx hb dL_law_466 (by decide) (fun q => ?_) (fun q => ?_)
                            · have hk := hk.1 q
                              obtain ⟨y923, ey923⟩ : ∃ y : Int32, y = x3 + (nI 5) := ⟨_, rfl⟩
                              have hk := hk y923 ey923
                              refine lv_iinc (v := y923) (lv' := [(3, .int y923), (0, .ref b), (1, .ref x1), (2, .ref x2)]) hx hb dL_law_923 hl (k := 3) rfl (by rw [ey923]; rfl) (by decide) rfl (fun ls hl => ?_)
                              refine lv_goto (tgt := 18) hx hb dL_law_926 (by decide) ?_
                              exact ih y923 h463 _ _ _ (lv_sub hl [1, 2, 3, 0] rfl) Z hk
                            · have hk := hk.2 q
                              refine lv_iconst (v := (nI 0)) hx hb dL_law_469 (by decide) ?_
                              exact r_lend C hr Z (hPost _ _ hk) dL_law_470
                          · have hk := hk.2 q10
                            rcases Classical.em ((v28 &&& (nI 31)) = (nI 11)) with q | q11
                            · have hk := hk.1 q
                              refine lv_tableIn (tgt := 471) hx hb dL_law_32 (by rw [q]; decide) (by rw [q]; decide) (by rw [q]; rfl) (by decide) ?_
                              refine lv_aload_n hx hb dL_law_471 rfl (lv_at hl 1 rfl) ?_
                              obtain ⟨ho, hk⟩ := hk
                              refine r_calli Z (r_runV (As := []) (rest := []) C Z (m_X8_run l g h x1 _ hk) ho rfl (cwV 0 C.1.2.2.2.2 (gV tw_594 tw_595 tw_596 tw_57 tw_597) rfl rfl rfl (by decide +kernel) ⟨Nat.le_of_ble_eq_true rfl, Nat.le_of_ble_eq_true rfl⟩) rfl hl.1 rfl (Nat.le_of_ble_eq_true rfl) dL_law_472 ⟨Nat.le_of_ble_eq_true rfl, Nat.le_of_ble_eq_true rfl⟩) (fun r472 h472 H locs hk Z => ?_)
                              refine lv_aload_n hx hb dL_law_475 rfl (lv_at hl 2 rfl) ?_
                              obtain ⟨ho, hk⟩ := hk
                              refine r_calli Z (r_runV (As := []) (rest := [.int r472]) C Z (m_X9_run l g h472 x2 _ hk) ho rfl (cwV 0 C.1.2.2.2.2 (gV tw_1107 tw_1108 tw_1109 tw_66 tw_1110) rfl rfl rfl (by decide +kernel) ⟨Nat.le_of_ble_eq_true rfl, Nat.le_of_ble_eq_true rfl⟩) rfl hl.1 rfl (Nat.le_of_ble_eq_true rfl) dL_law_476 ⟨Nat.le_of_ble_eq_true rfl, Nat.le_of_ble_eq_true rfl⟩) (fun r476 h476 H locs hk Z => ?_)
                              refine lv_icmp_eq (tgt := 923) hx hb dL_law_479 (by decide) (fun q => ?_) (fun q => ?_)
                              · have hk := hk.1 q
                                obtain ⟨y923, ey923⟩ : ∃ y : Int32, y = x3 + (nI 5) := ⟨_, rfl⟩
                                have hk := hk y923 ey923
                                refine lv_iinc (v := y923) (lv' := [(3, .int y923), (0, .ref b), (1, .ref x1), (2, .ref x2)]) hx hb dL_law_923 hl (k := 3) rfl (by rw [ey923]; rfl) (by decide) rfl (fun ls hl => ?_)
                                refine lv_goto (tgt := 18) hx hb dL_law_926 (by decide) ?_
                                exact ih y923 h476 _ _ _ (lv_sub hl [1, 2, 3, 0] rfl) Z hk
                              · have hk := hk.2 q
                                refine lv_iconst (v := (nI 0)) hx hb dL_law_482 (by decide) ?_
                                exact r_lend C hr Z (hPost _ _ hk) dL_law_483
                            · have hk := hk.2 q11
                              rcases Classical.em ((v28 &&& (nI 31)) = (nI 12)) with q | q12
                              · have hk := hk.1 q
                                refine lv_tableIn (tgt := 484) hx hb dL_law_32 (by rw [q]; decide) (by rw [q]; decide) (by rw [q]; rfl) (by decide) ?_
                                refine lv_aload_n hx hb dL_law_484 rfl (lv_at hl 1 rfl) ?_
                                refine lv_aload_n hx hb dL_law_485 rfl (lv_at hl 0 rfl) ?_
                                refine lv_iload_n hx hb dL_law_486 rfl (lv_at hl 3 rfl) ?_
                                refine lv_iconst (v := (nI 1)) hx hb dL_law_487 (by decide) ?_
                                refine lv_iadd hx hb dL_law_488 ?_
                                obtain ⟨v489, hv, hk⟩ := hk
                                refine r_scr C hX hbl Z hv dL_law_489 ?_
                                obtain ⟨ho, hk⟩ := hk
                                refine r_calli Z (r_runV (As := [.int v489]) (rest := []) C Z (m_X8_failure l g h x1 v489 _ hk) ho rfl (cwV 1 C.1.2.2.2.2 (gV tw_718 tw_719 tw_720 tw_57 tw_721) rfl rfl rfl (by decide +kernel) ⟨Nat.le_of_ble_eq_true rfl, Nat.le_of_ble_eq_true rfl⟩) rfl hl.1 rfl (Nat.le_of_ble_eq_true rfl) dL_law_490 ⟨Nat.le_of_ble_eq_true rfl, Nat.le_of_ble_eq_true rfl⟩) (fun r490 h490 H locs hk Z => ?_)
                                refine lv_aload_n hx hb dL_law_493 rfl (lv_at hl 2 rfl) ?_
                                refine lv_aload_n hx hb dL_law_494 rfl (lv_at hl 0 rfl) ?_
                                refine lv_iload_n hx hb dL_law_495 rfl (lv_at hl 3 rfl) ?_
                                refine lv_iconst (v := (nI 1)) hx hb dL_law_496 (by decide) ?_
                                refine lv_iadd hx hb dL_law_497 ?_
                                obtain ⟨v498, hv, hk⟩ := hk
                                refine r_scr C hX hbl Z hv dL_law_498 ?_
                                obtain ⟨ho, hk⟩ := hk
                                refine r_calli Z (r_runV (As := [.int v498]) (rest := [.int r490]) C Z (m_X9_failure l g h490 x2 v498 _ hk) ho rfl (cwV 1 C.1.2.2.2.2 (gV tw_1156 tw_1157 tw_1158 tw_66 tw_1159) rfl rfl rfl (by decide +kernel) ⟨Nat.le_of_ble_eq_true rfl, Nat.le_of_ble_eq_true rfl⟩) rfl hl.1 rfl (Nat.le_of_ble_eq_true rfl) dL_law_499 ⟨Nat.le_of_ble_eq_true rfl, Nat.le_of_ble_eq_true rfl⟩) (fun r499 h499 H locs hk Z => ?_)
                                refine lv_icmp_eq (tgt := 923) hx hb dL_law_502 (by decide) (fun q => ?_) (fun q => ?_)
                                · have hk := hk.1 q
                                  obtain ⟨y923, ey923⟩ : ∃ y : Int32, y = x3 + (nI 5) := ⟨_, rfl⟩
                                  have hk := hk y923 ey923
                                  refine lv_iinc (v := y923) (lv' := [(3, .int y923), (0, .ref b), (1, .ref x1), (2, .ref x2)]) hx hb dL_law_923 hl (k := 3) rfl (by rw [ey923]; rfl) (by decide) rfl (fun ls hl => ?_)
                                  refine lv_goto (tgt := 18) hx hb dL_law_926 (by decide) ?_
                                  exact ih y923 h499 _ _ _ (lv_sub hl [1, 2, 3, 0] rfl) Z hk
                                · have hk := hk.2 q
                                  refine lv_iconst (v := (nI 0)) hx hb dL_law_505 (by decide) ?_
                                  exact r_lend C hr Z (hPost _ _ hk) dL_law_506
                              · have hk := hk.2 q12
                                rcases Classical.em ((v28 &&& (nI 31)) = (nI 13)) with q | q13
                                · have hk := hk.1 q
                                  refine lv_tableIn (tgt := 507) hx hb dL_law_32 (by rw [q]; decide) (by rw [q]; decide) (by rw [q]; rfl) (by decide) ?_
                                  refine lv_aload_n hx hb dL_law_507 rfl (lv_at hl 1 rfl) ?_
                                  refine lv_aload_n hx hb dL_law_508 rfl (lv_at hl 0 rfl) ?_
                                  refine lv_iload_n hx hb dL_law_509 rfl (lv_at hl 3 rfl) ?_
                                  refine lv_iconst (v := (nI 1)) hx hb dL_law_510 (by decide) ?_
                                  refine lv_iadd hx hb dL_law_511 ?_
                                  obtain ⟨v512, hv, hk⟩ := hk
                                  refine r_scr C hX hbl Z hv dL_law_512 ?_
                                  obtain ⟨ho, hk⟩ := hk
                                  refine r_calli Z (r_runV (As := [.int v512]) (rest := []) C Z (m_X8_count l g h x1 v512 _ hk) ho rfl (cwV 1 C.1.2.2.2.2 (gV tw_722 tw_723 tw_724 tw_57 tw_725) rfl rfl rfl (by decide +kernel) ⟨Nat.le_of_ble_eq_true rfl, Nat.le_of_ble_eq_true rfl⟩) rfl hl.1 rfl (Nat.le_of_ble_eq_true rfl) dL_law_513 ⟨Nat.le_of_ble_eq_true rfl, Nat.le_of_ble_eq_true rfl⟩) (fun r513 h513 H locs hk Z => ?_)
                                  refine lv_aload_n hx hb dL_law_516 rfl (lv_at hl 2 rfl) ?_
                                  refine lv_aload_n hx hb dL_law_517 rfl (lv_at hl 0 rfl) ?_
                                  refine lv_iload_n hx hb dL_law_518 rfl (lv_at hl 3 rfl) ?_
                                  refine lv_iconst (v := (nI 1)) hx hb dL_law_519 (by decide) ?_
                                  refine lv_iadd hx hb dL_law_520 ?_
                                  obtain ⟨v521, hv, hk⟩ := hk
                                  refine r_scr C hX hbl Z hv dL_law_521 ?_
                                  obtain ⟨ho, hk⟩ := hk
                                  refine r_calli Z (r_runV (As := [.int v521]) (rest := [.int r513]) C Z (m_X9_count l g h513 x2 v521 _ hk) ho rfl (cwV 1 C.1.2.2.2.2 (gV tw_1161 tw_1162 tw_1163 tw_66 tw_1164) rfl rfl rfl (by decide +kernel) ⟨Nat.le_of_ble_eq_true rfl, Nat.le_of_ble_eq_true rfl⟩) rfl hl.1 rfl (Nat.le_of_ble_eq_true rfl) dL_law_522 ⟨Nat.le_of_ble_eq_true rfl, Nat.le_of_ble_eq_true rfl⟩) (fun r522 h522 H locs hk Z => ?_)
                                  refine lv_icmp_eq (tgt := 923) hx hb dL_law_525 (by decide) (fun q => ?_) (fun q => ?_)
                                  · have hk := hk.1 q
                                    obtain ⟨y923, ey923⟩ : ∃ y : Int32, y = x3 + (nI 5) := ⟨_, rfl⟩
                                    have hk := hk y923 ey923
                                    refine lv_iinc (v := y923) (lv' := [(3, .int y923), (0, .ref b), (1, .ref x1), (2, .ref x2)]) hx hb dL_law_923 hl (k := 3) rfl (by rw [ey923]; rfl) (by decide) rfl (fun ls hl => ?_)
                                    refine lv_goto (tgt := 18) hx hb dL_law_926 (by decide) ?_
                                    exact ih y923 h522 _ _ _ (lv_sub hl [1, 2, 3, 0] rfl) Z hk
                                  · have hk := hk.2 q
                                    refine lv_iconst (v := (nI 0)) hx hb dL_law_528 (by decide) ?_
                                    exact r_lend C hr Z (hPost _ _ hk) dL_law_529
                                · have hk := hk.2 q13
                                  rcases Classical.em ((v28 &&& (nI 31)) = (nI 14)) with q | q14
                                  · have hk := hk.1 q
                                    refine lv_tableIn (tgt := 530) hx hb dL_law_32 (by rw [q]; decide) (by rw [q]; decide) (by rw [q]; rfl) (by decide) ?_
                                    refine lv_aload_n hx hb dL_law_530 rfl (lv_at hl 1 rfl) ?_
                                    refine lv_aload_n hx hb dL_law_531 rfl (lv_at hl 0 rfl) ?_
                                    refine lv_iload_n hx hb dL_law_532 rfl (lv_at hl 3 rfl) ?_
                                    refine lv_iconst (v := (nI 1)) hx hb dL_law_533 (by decide) ?_
                                    refine lv_iadd hx hb dL_law_534 ?_
                                    obtain ⟨v535, hv, hk⟩ := hk
                                    refine r_scr C hX hbl Z hv dL_law_535 ?_
                                    refine lv_aload_n hx hb dL_law_536 rfl (lv_at hl 0 rfl) ?_
                                    refine lv_iload_n hx hb dL_law_537 rfl (lv_at hl 3 rfl) ?_
                                    refine lv_iconst (v := (nI 2)) hx hb dL_law_538 (by decide) ?_
                                    refine lv_iadd hx hb dL_law_539 ?_
                                    obtain ⟨v540, hv, hk⟩ := hk
                                    refine r_scr C hX hbl Z hv dL_law_540 ?_
                                    obtain ⟨ho, hk⟩ := hk
                                    refine r_calli Z (r_runV (As := [.int v535, .int v540]) (rest := []) C Z (m_X8_card l g h x1 v535 v540 _ hk) ho rfl (cwV 2 C.1.2.2.2.2 (gV tw_739 tw_740 tw_741 tw_57 tw_742) rfl rfl rfl (by decide +kernel) ⟨Nat.le_of_ble_eq_true rfl, Nat.le_of_ble_eq_true rfl⟩) rfl hl.1 rfl (Nat.le_of_ble_eq_true rfl) dL_law_541 ⟨Nat.le_of_ble_eq_true rfl, Nat.le_of_ble_eq_true rfl⟩) (fun r541 h541 H locs hk Z => ?_)
                                    refine lv_aload_n hx hb dL_law_544 rfl (lv_at hl 2 rfl) ?_
                                    refine lv_aload_n hx hb dL_law_545 rfl (lv_at hl 0 rfl) ?_
                                    refine lv_iload_n hx hb dL_law_546 rfl (lv_at hl 3 rfl) ?_
                                    refine lv_iconst (v := (nI 1)) hx hb dL_law_547 (by decide) ?_
                                    refine lv_iadd hx hb dL_law_548 ?_
                                    obtain ⟨v549, hv, hk⟩ := hk
                                    refine r_scr C hX hbl Z hv dL_law_549 ?_
                                    refine lv_aload_n hx hb dL_law_550 rfl (lv_at hl 0 rfl) ?_
                                    refine lv_iload_n hx hb dL_law_551 rfl (lv_at hl 3 rfl) ?_
                                    refine lv_iconst (v := (nI 2)) hx hb dL_law_552 (by decide) ?_
                                    refine lv_iadd hx hb dL_law_553 ?_
                                    obtain ⟨v554, hv, hk⟩ := hk
                                    refine r_scr C hX hbl Z hv dL_law_554 ?_
                                    obtain ⟨ho, hk⟩ := hk
                                    refine r_calli Z (r_runV (As := [.int v549, .int v554]) (rest := [.int r541]) C Z (m_X9_card l g h541 x2 v549 v554 _ hk) ho rfl (cwV 2 C.1.2.2.2.2 (gV tw_1172 tw_1173 tw_1174 tw_66 tw_1175) rfl rfl rfl (by decide +kernel) ⟨Nat.le_of_ble_eq_true rfl, Nat.le_of_ble_eq_true rfl⟩) rfl hl.1 rfl (Nat.le_of_ble_eq_true rfl) dL_law_555 ⟨Nat.le_of_ble_eq_true rfl, Nat.le_of_ble_eq_true rfl⟩) (fun r555 h555 H locs hk Z => ?_)
                                    refine lv_icmp_eq (tgt := 923) hx hb dL_law_558 (by decide) (fun q => ?_) (fun q => ?_)
                                    · have hk := hk.1 q
                                      obtain ⟨y923, ey923⟩ : ∃ y : Int32, y = x3 + (nI 5) := ⟨_, rfl⟩
                                      have hk := hk y923 ey923
                                      refine lv_iinc (v := y923) (lv' := [(3, .int y923), (0, .ref b), (1, .ref x1), (2, .ref x2)]) hx hb dL_law_923 hl (k := 3) rfl (by rw [ey923]; rfl) (by decide) rfl (fun ls hl => ?_)
                                      refine lv_goto (tgt := 18) hx hb dL_law_926 (by decide) ?_
                                      exact ih y923 h555 _ _ _ (lv_sub hl [1, 2, 3, 0] rfl) Z hk
                                    · have hk := hk.2 q
                                      refine lv_iconst (v := (nI 0)) hx hb dL_law_561 (by decide) ?_
                                      exact r_lend C hr Z (hPost _ _ hk) dL_law_562
                                  · have hk := hk.2 q14
                                    rcases Classical.em ((v28 &&& (nI 31)) = (nI 15)) with q | q15
                                    · have hk := hk.1 q
                                      refine lv_tableIn (tgt := 563) hx hb dL_law_32 (by rw [q]; decide) (by rw [q]; decide) (by rw [q]; rfl) (by decide) ?_
                                      refine lv_aload_n hx hb dL_law_563 rfl (lv_at hl 1 rfl) ?_
                                      refine lv_aload_n hx hb dL_law_564 rfl (lv_at hl 0 rfl) ?_
                                      refine lv_iload_n hx hb dL_law_565 rfl (lv_at hl 3 rfl) ?_
                                      refine lv_iconst (v := (nI 1)) hx hb dL_law_566 (by decide) ?_
                                      refine lv_iadd hx hb dL_law_567 ?_
                                      obtain ⟨v568, hv, hk⟩ := hk
                                      refine r_scr C hX hbl Z hv dL_law_568 ?_
                                      refine lv_aload_n hx hb dL_law_569 rfl (lv_at hl 0 rfl) ?_
                                      refine lv_iload_n hx hb dL_law_570 rfl (lv_at hl 3 rfl) ?_
                                      refine lv_iconst (v := (nI 2)) hx hb dL_law_571 (by decide) ?_
                                      refine lv_iadd hx hb dL_law_572 ?_
                                      obtain ⟨v573, hv, hk⟩ := hk
                                      refine r_scr C hX hbl Z hv dL_law_573 ?_
                                      refine lv_aload_n hx hb dL_law_574 rfl (lv_at hl 0 rfl) ?_
                                      refine lv_iload_n hx hb dL_law_575 rfl (lv_at hl 3 rfl) ?_
                                      refine lv_iconst (v := (nI 3)) hx hb dL_law_576 (by decide) ?_
                                      refine lv_iadd hx hb dL_law_577 ?_
                                      obtain ⟨v578, hv, hk⟩ := hk
                                      refine r_scr C hX hbl Z hv dL_law_578 ?_
                                      obtain ⟨ho, hk⟩ := hk
                                      refine r_calli Z (r_runV (As := [.int v568, .int v573, .int v578]) (rest := []) C Z (m_X8_place l g h x1 v568 v573 v578 _ hk) ho rfl (cwV 3 C.1.2.2.2.2 (gV tw_746 tw_747 tw_748 tw_57 tw_749) rfl rfl rfl (by decide +kernel) ⟨Nat.le_of_ble_eq_true rfl, Nat.le_of_ble_eq_true rfl⟩) rfl hl.1 rfl (Nat.le_of_ble_eq_true rfl) dL_law_579 ⟨Nat.le_of_ble_eq_true rfl, Nat.le_of_ble_eq_true rfl⟩) (fun r579 h579 H locs hk Z => ?_)
                                      refine lv_aload_n hx hb dL_law_582 rfl (lv_at hl 2 rfl) ?_
                                      refine lv_aload_n hx hb dL_law_583 rfl (lv_at hl 0 rfl) ?_
                                      refine lv_iload_n hx hb dL_law_584 rfl (lv_at hl 3 rfl) ?_
                                      refine lv_iconst (v := (nI 1)) hx hb dL_law_585 (by decide) ?_
                                      refine lv_iadd hx hb dL_law_586 ?_
                                      obtain ⟨v587, hv, hk⟩ := hk
                                      refine r_scr C hX hbl Z hv dL_law_587 ?_
                                      refine lv_aload_n hx hb dL_law_588 rfl (lv_at hl 0 rfl) ?_
                                      refine lv_iload_n hx hb dL_law_589 rfl (lv_at hl 3 rfl) ?_
                                      refine lv_iconst (v := (nI 2)) hx hb dL_law_590 (by decide) ?_
                                      refine lv_iadd hx hb dL_law_591 ?_
                                      obtain ⟨v592, hv, hk⟩ := hk
                                      refine r_scr C hX hbl Z hv dL_law_592 ?_
                                      refine lv_aload_n hx hb dL_law_593 rfl (lv_at hl 0 rfl) ?_
                                      refine lv_iload_n hx hb dL_law_594 rfl (lv_at hl 3 rfl) ?_
                                      refine lv_iconst (v := (nI 3)) hx hb dL_law_595 (by decide) ?_
                                      refine lv_iadd hx hb dL_law_596 ?_
                                      obtain ⟨v597, hv, hk⟩ := hk
                                      refine r_scr C hX hbl Z hv dL_law_597 ?_
                                      obtain ⟨ho, hk⟩ := hk
                                      refine r_calli Z (r_runV (As := [.int v587, .int v592, .int v597]) (rest := [.int r579]) C Z (m_X9_place l g h579 x2 v587 v592 v597 _ hk) ho rfl (cwV 3 C.1.2.2.2.2 (gV tw_1184 tw_1185 tw_1186 tw_66 tw_1187) rfl rfl rfl (by decide +kernel) ⟨Nat.le_of_ble_eq_true rfl, Nat.le_of_ble_eq_true rfl⟩) rfl hl.1 rfl (Nat.le_of_ble_eq_true rfl) dL_law_598 ⟨Nat.le_of_ble_eq_true rfl, Nat.le_of_ble_eq_true rfl⟩) (fun r598 h598 H locs hk Z => ?_)
                                      refine lv_icmp_eq (tgt := 923) hx hb dL_law_601 (by decide) (fun q => ?_) (fun q => ?_)
                                      · have hk := hk.1 q
                                        obtain ⟨y923, ey923⟩ : ∃ y : Int32, y = x3 + (nI 5) := ⟨_, rfl⟩
                                        have hk := hk y923 ey923
                                        refine lv_iinc (v := y923) (lv' := [(3, .int y923), (0, .ref b), (1, .ref x1), (2, .ref x2)]) hx hb dL_law_923 hl (k := 3) rfl (by rw [ey923]; rfl) (by decide) rfl (fun ls hl => ?_)
                                        refine lv_goto (tgt := 18) hx hb dL_law_926 (by decide) ?_
                                        exact ih y923 h598 _ _ _ (lv_sub hl [1, 2, 3, 0] rfl) Z hk
                                      · have hk := hk.2 q
                                        refine lv_iconst (v := (nI 0)) hx hb dL_law_604 (by decide) ?_
                                        exact r_lend C hr Z (hPost _ _ hk) dL_law_605
                                    · have hk := hk.2 q15
                                      rcases Classical.em ((v28 &&& (nI 31)) = (nI 16)) with q | q16
                                      · have hk := hk.1 q
                                        refine lv_tableIn (tgt := 606) hx hb dL_law_32 (by rw [q]; decide) (by rw [q]; decide) (by rw [q]; rfl) (by decide) ?_
                                        refine lv_aload_n hx hb dL_law_606 rfl (lv_at hl 1 rfl) ?_
                                        refine lv_aload_n hx hb dL_law_607 rfl (lv_at hl 0 rfl) ?_
                                        refine lv_iload_n hx hb dL_law_608 rfl (lv_at hl 3 rfl) ?_
                                        refine lv_iconst (v := (nI 1)) hx hb dL_law_609 (by decide) ?_
                                        refine lv_iadd hx hb dL_law_610 ?_
                                        obtain ⟨v611, hv, hk⟩ := hk
                                        refine r_scr C hX hbl Z hv dL_law_611 ?_
                                        refine lv_aload_n hx hb dL_law_612 rfl (lv_at hl 0 rfl) ?_
                                        refine lv_iload_n hx hb dL_law_613 rfl (lv_at hl 3 rfl) ?_
                                        refine lv_iconst (v := (nI 2)) hx hb dL_law_614 (by decide) ?_
                                        refine lv_iadd hx hb dL_law_615 ?_
                                        obtain ⟨v616, hv, hk⟩ := hk
                                        refine r_scr C hX hbl Z hv dL_law_616 ?_
                                        refine lv_aload_n hx hb dL_law_617 rfl (lv_at hl 0 rfl) ?_
                                        refine lv_iload_n hx hb dL_law_618 rfl (lv_at hl 3 rfl) ?_
                                        refine lv_iconst (v := (nI 3)) hx hb dL_law_619 (by decide) ?_
                                        refine lv_iadd hx hb dL_law_620 ?_
                                        obtain ⟨v621, hv, hk⟩ := hk
                                        refine r_scr C hX hbl Z hv dL_law_621 ?_
                                        obtain ⟨ho, hk⟩ := hk
                                        refine r_calli Z (r_runV (As := [.int v611, .int v616, .int v621]) (rest := []) C Z (m_X8_runAt l g h x1 v611 v616 v621 _ hk) ho rfl (cwV 3 C.1.2.2.2.2 (gV tw_750 tw_751 tw_752 tw_57 tw_753) rfl rfl rfl (by decide +kernel) ⟨Nat.le_of_ble_eq_true rfl, Nat.le_of_ble_eq_true rfl⟩) rfl hl.1 rfl (Nat.le_of_ble_eq_true rfl) dL_law_622 ⟨Nat.le_of_ble_eq_true rfl, Nat.le_of_ble_eq_true rfl⟩) (fun r622 h622 H locs hk Z => ?_)
                                        refine lv_aload_n hx hb dL_law_625 rfl (lv_at hl 2 rfl) ?_
                                        refine lv_aload_n hx hb dL_law_626 rfl (lv_at hl 0 rfl) ?_
                                        refine lv_iload_n hx hb dL_law_627 rfl (lv_at hl 3 rfl) ?_
                                        refine lv_iconst (v := (nI 1)) hx hb dL_law_628 (by decide) ?_
                                        refine lv_iadd hx hb dL_law_629 ?_
                                        obtain ⟨v630, hv, hk⟩ := hk
                                        refine r_scr C hX hbl Z hv dL_law_630 ?_
                                        refine lv_aload_n hx hb dL_law_631 rfl (lv_at hl 0 rfl) ?_
                                        refine lv_iload_n hx hb dL_law_632 rfl (lv_at hl 3 rfl) ?_
                                        refine lv_iconst (v := (nI 2)) hx hb dL_law_633 (by decide) ?_
                                        refine lv_iadd hx hb dL_law_634 ?_
                                        obtain ⟨v635, hv, hk⟩ := hk
                                        refine r_scr C hX hbl Z hv dL_law_635 ?_
                                        refine lv_aload_n hx hb dL_law_636 rfl (lv_at hl 0 rfl) ?_
                                        refine lv_iload_n hx hb dL_law_637 rfl (lv_at hl 3 rfl) ?_
                                        refine lv_iconst (v := (nI 3)) hx hb dL_law_638 (by decide) ?_
                                        refine lv_iadd hx hb dL_law_639 ?_
                                        obtain ⟨v640, hv, hk⟩ := hk
                                        refine r_scr C hX hbl Z hv dL_law_640 ?_
                                        obtain ⟨ho, hk⟩ := hk
                                        refine r_calli Z (r_runV (As := [.int v630, .int v635, .int v640]) (rest := [.int r622]) C Z (m_X9_runAt l g h622 x2 v630 v635 v640 _ hk) ho rfl (cwV 3 C.1.2.2.2.2 (gV tw_1191 tw_1192 tw_1193 tw_66 tw_1194) rfl rfl rfl (by decide +kernel) ⟨Nat.le_of_ble_eq_true rfl, Nat.le_of_ble_eq_true rfl⟩) rfl hl.1 rfl (Nat.le_of_ble_eq_true rfl) dL_law_641 ⟨Nat.le_of_ble_eq_true rfl, Nat.le_of_ble_eq_true rfl⟩) (fun r641 h641 H locs hk Z => ?_)
                                        refine lv_icmp_eq (tgt := 923) hx hb dL_law_644 (by decide) (fun q => ?_) (fun q => ?_)
                                        · have hk := hk.1 q
                                          obtain ⟨y923, ey923⟩ : ∃ y : Int32, y = x3 + (nI 5) := ⟨_, rfl⟩
                                          have hk := hk y923 ey923
                                          refine lv_iinc (v := y923) (lv' := [(3, .int y923), (0, .ref b), (1, .ref x1), (2, .ref x2)]) hx hb dL_law_923 hl (k := 3) rfl (by rw [ey923]; rfl) (by decide) rfl (fun ls hl => ?_)
                                          refine lv_goto (tgt := 18) hx hb dL_law_926 (by decide) ?_
                                          exact ih y923 h641 _ _ _ (lv_sub hl [1, 2, 3, 0] rfl) Z hk
                                        · have hk := hk.2 q
                                          refine lv_iconst (v := (nI 0)) hx hb dL_law_647 (by decide) ?_
                                          exact r_lend C hr Z (hPost _ _ hk) dL_law_648
                                      · have hk := hk.2 q16
                                        rcases Classical.em ((v28 &&& (nI 31)) = (nI 17)) with q | q17
                                        · have hk := hk.1 q
                                          refine lv_tableIn (tgt := 649) hx hb dL_law_32 (by rw [q]; decide) (by rw [q]; decide) (by rw [q]; rfl) (by decide) ?_
                                          refine lv_aload_n hx hb dL_law_649 rfl (lv_at hl 1 rfl) ?_
                                          refine lv_aload_n hx hb dL_law_650 rfl (lv_at hl 0 rfl) ?_
                                          refine lv_iload_n hx hb dL_law_651 rfl (lv_at hl 3 rfl) ?_
                                          refine lv_iconst (v := (nI 1)) hx hb dL_law_652 (by decide) ?_
                                          refine lv_iadd hx hb dL_law_653 ?_
                                          obtain ⟨v654, hv, hk⟩ := hk
                                          refine r_scr C hX hbl Z hv dL_law_654 ?_
                                          refine lv_aload_n hx hb dL_law_655 rfl (lv_at hl 0 rfl) ?_
                                          refine lv_iload_n hx hb dL_law_656 rfl (lv_at hl 3 rfl) ?_
                                          refine lv_iconst (v := (nI 2)) hx hb dL_law_657 (by decide) ?_
                                          refine lv_iadd hx hb dL_law_658 ?_
                                          obtain ⟨v659, hv, hk⟩ := hk
                                          refine r_scr C hX hbl Z hv dL_law_659 ?_
                                          refine lv_aload_n hx hb dL_law_660 rfl (lv_at hl 0 rfl) ?_
                                          refine lv_iload_n hx hb dL_law_661 rfl (lv_at hl 3 rfl) ?_
                                          refine lv_iconst (v := (nI 3)) hx hb dL_law_662 (by decide) ?_
                                          refine lv_iadd hx hb dL_law_663 ?_
                                          obtain ⟨v664, hv, hk⟩ := hk
                                          refine r_scr C hX hbl Z hv dL_law_664 ?_
                                          obtain ⟨ho, hk⟩ := hk
                                          refine r_calli Z (r_runV (As := [.int v654, .int v659, .int v664]) (rest := []) C Z (m_X8_outcome l g h x1 v654 v659 v664 _ hk) ho rfl (cwV 3 C.1.2.2.2.2 (gV tw_754 tw_755 tw_756 tw_57 tw_757) rfl rfl rfl (by decide +kernel) ⟨Nat.le_of_ble_eq_true rfl, Nat.le_of_ble_eq_true rfl⟩) rfl hl.1 rfl (Nat.le_of_ble_eq_true rfl) dL_law_665 ⟨Nat.le_of_ble_eq_true rfl, Nat.le_of_ble_eq_true rfl⟩) (fun r665 h665 H locs hk Z => ?_)
                                          refine lv_aload_n hx hb dL_law_668 rfl (lv_at hl 2 rfl) ?_
                                          refine lv_aload_n hx hb dL_law_669 rfl (lv_at hl 0 rfl) ?_
                                          refine lv_iload_n hx hb dL_law_670 rfl (lv_at hl 3 rfl) ?_
                                          refine lv_iconst (v := (nI 1)) hx hb dL_law_671 (by decide) ?_
                                          refine lv_iadd hx hb dL_law_672 ?_
                                          obtain ⟨v673, hv, hk⟩ := hk
                                          refine r_scr C hX hbl Z hv dL_law_673 ?_
                                          refine lv_aload_n hx hb dL_law_674 rfl (lv_at hl 0 rfl) ?_
                                          refine lv_iload_n hx hb dL_law_675 rfl (lv_at hl 3 rfl) ?_
                                          refine lv_iconst (v := (nI 2)) hx hb dL_law_676 (by decide) ?_
                                          refine lv_iadd hx hb dL_law_677 ?_
                                          obtain ⟨v678, hv, hk⟩ := hk
                                          refine r_scr C hX hbl Z hv dL_law_678 ?_
                                          refine lv_aload_n hx hb dL_law_679 rfl (lv_at hl 0 rfl) ?_
                                          refine lv_iload_n hx hb dL_law_680 rfl (lv_at hl 3 rfl) ?_
                                          refine lv_iconst (v := (nI 3)) hx hb dL_law_681 (by decide) ?_
                                          refine lv_iadd hx hb dL_law_682 ?_
                                          obtain ⟨v683, hv, hk⟩ := hk
                                          refine r_scr C hX hbl Z hv dL_law_683 ?_
                                          obtain ⟨ho, hk⟩ := hk
                                          refine r_calli Z (r_runV (As := [.int v673, .int v678, .int v683]) (rest := [.int r665]) C Z (m_X9_outcome l g h665 x2 v673 v678 v683 _ hk) ho rfl (cwV 3 C.1.2.2.2.2 (gV tw_1195 tw_1196 tw_1197 tw_66 tw_1198) rfl rfl rfl (by decide +kernel) ⟨Nat.le_of_ble_eq_true rfl, Nat.le_of_ble_eq_true rfl⟩) rfl hl.1 rfl (Nat.le_of_ble_eq_true rfl) dL_law_684 ⟨Nat.le_of_ble_eq_true rfl, Nat.le_of_ble_eq_true rfl⟩) (fun r684 h684 H locs hk Z => ?_)
                                          refine lv_icmp_eq (tgt := 923) hx hb dL_law_687 (by decide) (fun q => ?_) (fun q => ?_)
                                          · have hk := hk.1 q
                                            obtain ⟨y923, ey923⟩ : ∃ y : Int32, y = x3 + (nI 5) := ⟨_, rfl⟩
                                            have hk := hk y923 ey923
                                            refine lv_iinc (v := y923) (lv' := [(3, .int y923), (0, .ref b), (1, .ref x1), (2, .ref x2)]) hx hb dL_law_923 hl (k := 3) rfl (by rw [ey923]; rfl) (by decide) rfl (fun ls hl => ?_)
                                            refine lv_goto (tgt := 18) hx hb dL_law_926 (by decide) ?_
                                            exact ih y923 h684 _ _ _ (lv_sub hl [1, 2, 3, 0] rfl) Z hk
                                          · have hk := hk.2 q
                                            refine lv_iconst (v := (nI 0)) hx hb dL_law_690 (by decide) ?_
                                            exact r_lend C hr Z (hPost _ _ hk) dL_law_691
                                        · have hk := hk.2 q17
                                          rcases Classical.em ((v28 &&& (nI 31)) = (nI 18)) with q | q18
                                          · have hk := hk.1 q
                                            refine lv_tableIn (tgt := 692) hx hb dL_law_32 (by rw [q]; decide) (by rw [q]; decide) (by rw [q]; rfl) (by decide) ?_
                                            refine lv_aload_n hx hb dL_law_692 rfl (lv_at hl 1 rfl) ?_
                                            refine lv_aload_n hx hb dL_law_693 rfl (lv_at hl 0 rfl) ?_
                                            refine lv_iload_n hx hb dL_law_694 rfl (lv_at hl 3 rfl) ?_
                                            refine lv_iconst (v := (nI 1)) hx hb dL_law_695 (by decide) ?_
                                            refine lv_iadd hx hb dL_law_696 ?_
                                            obtain ⟨v697, hv, hk⟩ := hk
                                            refine r_scr C hX hbl Z hv dL_law_697 ?_
                                            refine lv_aload_n hx hb dL_law_698 rfl (lv_at hl 0 rfl) ?_
                                            refine lv_iload_n hx hb dL_law_699 rfl (lv_at hl 3 rfl) ?_
                                            refine lv_iconst (v := (nI 2)) hx hb dL_law_700 (by decide) ?_
                                            refine lv_iadd hx hb dL_law_701 ?_
                                            obtain ⟨v702, hv, hk⟩ := hk
                                            refine r_scr C hX hbl Z hv dL_law_702 ?_
                                            refine lv_aload_n hx hb dL_law_703 rfl (lv_at hl 0 rfl) ?_
                                            refine lv_iload_n hx hb dL_law_704 rfl (lv_at hl 3 rfl) ?_
                                            refine lv_iconst (v := (nI 3)) hx hb dL_law_705 (by decide) ?_
                                            refine lv_iadd hx hb dL_law_706 ?_
                                            obtain ⟨v707, hv, hk⟩ := hk
                                            refine r_scr C hX hbl Z hv dL_law_707 ?_
                                            refine lv_aload_n hx hb dL_law_708 rfl (lv_at hl 0 rfl) ?_
                                            refine lv_iload_n hx hb dL_law_709 rfl (lv_at hl 3 rfl) ?_
                                            refine lv_iconst (v := (nI 4)) hx hb dL_law_710 (by decide) ?_
                                            refine lv_iadd hx hb dL_law_711 ?_
                                            obtain ⟨v712, hv, hk⟩ := hk
                                            refine r_scr C hX hbl Z hv dL_law_712 ?_
                                            obtain ⟨ho, hk⟩ := hk
                                            refine r_calli Z (r_runV (As := [.int v697, .int v702, .int v707, .int v712]) (rest := []) C Z (m_X8_tally l g h x1 v697 v702 v707 v712 _ hk) ho rfl (cwV 4 C.1.2.2.2.2 (gV tw_774 tw_775 tw_776 tw_57 tw_777) rfl rfl rfl (by decide +kernel) ⟨Nat.le_of_ble_eq_true rfl, Nat.le_of_ble_eq_true rfl⟩) rfl hl.1 rfl (Nat.le_of_ble_eq_true rfl) dL_law_713 ⟨Nat.le_of_ble_eq_true rfl, Nat.le_of_ble_eq_true rfl⟩) (fun r713 h713 H locs hk Z => ?_)
                                            refine lv_aload_n hx hb dL_law_716 rfl (lv_at hl 2 rfl) ?_
                                            refine lv_aload_n hx hb dL_law_717 rfl (lv_at hl 0 rfl) ?_
                                            refine lv_iload_n hx hb dL_law_718 rfl (lv_at hl 3 rfl) ?_
                                            refine lv_iconst (v := (nI 1)) hx hb dL_law_719 (by decide) ?_
                                            refine lv_iadd hx hb dL_law_720 ?_
                                            obtain ⟨v721, hv, hk⟩ := hk
                                            refine r_scr C hX hbl Z hv dL_law_721 ?_
                                            refine lv_aload_n hx hb dL_law_722 rfl (lv_at hl 0 rfl) ?_
                                            refine lv_iload_n hx hb dL_law_723 rfl (lv_at hl 3 rfl) ?_
                                            refine lv_iconst (v := (nI 2)) hx hb dL_law_724 (by decide) ?_
                                            refine lv_iadd hx hb dL_law_725 ?_
                                            obtain ⟨v726, hv, hk⟩ := hk
                                            refine r_scr C hX hbl Z hv dL_law_726 ?_
                                            refine lv_aload_n hx hb dL_law_727 rfl (lv_at hl 0 rfl) ?_
                                            refine lv_iload_n hx hb dL_law_728 rfl (lv_at hl 3 rfl) ?_
                                            refine lv_iconst (v := (nI 3)) hx hb dL_law_729 (by decide) ?_
                                            refine lv_iadd hx hb dL_law_730 ?_
                                            obtain ⟨v731, hv, hk⟩ := hk
                                            refine r_scr C hX hbl Z hv dL_law_731 ?_
                                            refine lv_aload_n hx hb dL_law_732 rfl (lv_at hl 0 rfl) ?_
                                            refine lv_iload_n hx hb dL_law_733 rfl (lv_at hl 3 rfl) ?_
                                            refine lv_iconst (v := (nI 4)) hx hb dL_law_734 (by decide) ?_
                                            refine lv_iadd hx hb dL_law_735 ?_
                                            obtain ⟨v736, hv, hk⟩ := hk
                                            refine r_scr C hX hbl Z hv dL_law_736 ?_
                                            obtain ⟨ho, hk⟩ := hk
                                            refine r_calli Z (r_runV (As := [.int v721, .int v726, .int v731, .int v736]) (rest := [.int r713]) C Z (m_X9_tally l g h713 x2 v721 v726 v731 v736 _ hk) ho rfl (cwV 4 C.1.2.2.2.2 (gV tw_1211 tw_1212 tw_1213 tw_66 tw_1214) rfl rfl rfl (by decide +kernel) ⟨Nat.le_of_ble_eq_true rfl, Nat.le_of_ble_eq_true rfl⟩) rfl hl.1 rfl (Nat.le_of_ble_eq_true rfl) dL_law_737 ⟨Nat.le_of_ble_eq_true rfl, Nat.le_of_ble_eq_true rfl⟩) (fun r737 h737 H locs hk Z => ?_)
                                            refine lv_icmp_eq (tgt := 923) hx hb dL_law_740 (by decide) (fun q => ?_) (fun q => ?_)
                                            · have hk := hk.1 q
                                              obtain ⟨y923, ey923⟩ : ∃ y : Int32, y = x3 + (nI 5) := ⟨_, rfl⟩
                                              have hk := hk y923 ey923
                                              refine lv_iinc (v := y923) (lv' := [(3, .int y923), (0, .ref b), (1, .ref x1), (2, .ref x2)]) hx hb dL_law_923 hl (k := 3) rfl (by rw [ey923]; rfl) (by decide) rfl (fun ls hl => ?_)
                                              refine lv_goto (tgt := 18) hx hb dL_law_926 (by decide) ?_
                                              exact ih y923 h737 _ _ _ (lv_sub hl [1, 2, 3, 0] rfl) Z hk
                                            · have hk := hk.2 q
                                              refine lv_iconst (v := (nI 0)) hx hb dL_law_743 (by decide) ?_
                                              exact r_lend C hr Z (hPost _ _ hk) dL_law_744
                                          · have hk := hk.2 q18
                                            rcases Classical.em ((v28 &&& (nI 31)) = (nI 19)) with q | q19
                                            · have hk := hk.1 q
                                              refine lv_tableIn (tgt := 745) hx hb dL_law_32 (by rw [q]; decide) (by rw [q]; decide) (by rw [q]; rfl) (by decide) ?_
                                              refine lv_aload_n hx hb dL_law_745 rfl (lv_at hl 1 rfl) ?_
                                              refine lv_aload_n hx hb dL_law_746 rfl (lv_at hl 0 rfl) ?_
                                              refine lv_iload_n hx hb dL_law_747 rfl (lv_at hl 3 rfl) ?_
                                              refine lv_iconst (v := (nI 1)) hx hb dL_law_748 (by decide) ?_
                                              refine lv_iadd hx hb dL_law_749 ?_
                                              obtain ⟨v750, hv, hk⟩ := hk
                                              refine r_scr C hX hbl Z hv dL_law_750 ?_
                                              refine lv_aload_n hx hb dL_law_751 rfl (lv_at hl 0 rfl) ?_
                                              refine lv_iload_n hx hb dL_law_752 rfl (lv_at hl 3 rfl) ?_
                                              refine lv_iconst (v := (nI 2)) hx hb dL_law_753 (by decide) ?_
                                              refine lv_iadd hx hb dL_law_754 ?_
                                              obtain ⟨v755, hv, hk⟩ := hk
                                              refine r_scr C hX hbl Z hv dL_law_755 ?_
                                              refine lv_aload_n hx hb dL_law_756 rfl (lv_at hl 0 rfl) ?_
                                              refine lv_iload_n hx hb dL_law_757 rfl (lv_at hl 3 rfl) ?_
                                              refine lv_iconst (v := (nI 3)) hx hb dL_law_758 (by decide) ?_
                                              refine lv_iadd hx hb dL_law_759 ?_
                                              obtain ⟨v760, hv, hk⟩ := hk
                                              refine r_scr C hX hbl Z hv dL_law_760 ?_
                                              obtain ⟨ho, hk⟩ := hk
                                              refine r_calli Z (r_runV (As := [.int v750, .int v755, .int v760]) (rest := []) C Z (m_X8_changed l g h x1 v750 v755 v760 _ hk) ho rfl (cwV 3 C.1.2.2.2.2 (gV tw_785 tw_786 tw_787 tw_57 tw_788) rfl rfl rfl (by decide +kernel) ⟨Nat.le_of_ble_eq_true rfl, Nat.le_of_ble_eq_true rfl⟩) rfl hl.1 rfl (Nat.le_of_ble_eq_true rfl) dL_law_761 ⟨Nat.le_of_ble_eq_true rfl, Nat.le_of_ble_eq_true rfl⟩) (fun r761 h761 H locs hk Z => ?_)
                                              refine lv_aload_n hx hb dL_law_764 rfl (lv_at hl 2 rfl) ?_
                                              refine lv_aload_n hx hb dL_law_765 rfl (lv_at hl 0 rfl) ?_
                                              refine lv_iload_n hx hb dL_law_766 rfl (lv_at hl 3 rfl) ?_
                                              refine lv_iconst (v := (nI 1)) hx hb dL_law_767 (by decide) ?_
                                              refine lv_iadd hx hb dL_law_768 ?_
                                              obtain ⟨v769, hv, hk⟩ := hk
                                              refine r_scr C hX hbl Z hv dL_law_769 ?_
                                              refine lv_aload_n hx hb dL_law_770 rfl (lv_at hl 0 rfl) ?_
                                              refine lv_iload_n hx hb dL_law_771 rfl (lv_at hl 3 rfl) ?_
                                              refine lv_iconst (v := (nI 2)) hx hb dL_law_772 (by decide) ?_
                                              refine lv_iadd hx hb dL_law_773 ?_
                                              obtain ⟨v774, hv, hk⟩ := hk
                                              refine r_scr C hX hbl Z hv dL_law_774 ?_
                                              refine lv_aload_n hx hb dL_law_775 rfl (lv_at hl 0 rfl) ?_
                                              refine lv_iload_n hx hb dL_law_776 rfl (lv_at hl 3 rfl) ?_
                                              refine lv_iconst (v := (nI 3)) hx hb dL_law_777 (by decide) ?_
                                              refine lv_iadd hx hb dL_law_778 ?_
                                              obtain ⟨v779, hv, hk⟩ := hk
                                              refine r_scr C hX hbl Z hv dL_law_779 ?_
                                              obtain ⟨ho, hk⟩ := hk
                                              refine r_calli Z (r_runV (As := [.int v769, .int v774, .int v779]) (rest := [.int r761]) C Z (m_X9_changed l g h761 x2 v769 v774 v779 _ hk) ho rfl (cwV 3 C.1.2.2.2.2 (gV tw_1219 tw_1220 tw_1221 tw_66 tw_1222) rfl rfl rfl (by decide +kernel) ⟨Nat.le_of_ble_eq_true rfl, Nat.le_of_ble_eq_true rfl⟩) rfl hl.1 rfl (Nat.le_of_ble_eq_true rfl) dL_law_780 ⟨Nat.le_of_ble_eq_true rfl, Nat.le_of_ble_eq_true rfl⟩) (fun r780 h780 H locs hk Z => ?_)
                                              refine lv_icmp_eq (tgt := 923) hx hb dL_law_783 (by decide) (fun q => ?_) (fun q => ?_)
                                              · have hk := hk.1 q
                                                obtain ⟨y923, ey923⟩ : ∃ y : Int32, y = x3 + (nI 5) := ⟨_, rfl⟩
                                                have hk := hk y923 ey923
                                                refine lv_iinc (v := y923) (lv' := [(3, .int y923), (0, .ref b), (1, .ref x1), (2, .ref x2)]) hx hb dL_law_923 hl (k := 3) rfl (by rw [ey923]; rfl) (by decide) rfl (fun ls hl => ?_)
                                                refine lv_goto (tgt := 18) hx hb dL_law_926 (by decide) ?_
                                                exact ih y923 h780 _ _ _ (lv_sub hl [1, 2, 3, 0] rfl) Z hk
                                              · have hk := hk.2 q
                                                refine lv_iconst (v := (nI 0)) hx hb dL_law_786 (by decide) ?_
                                                exact r_lend C hr Z (hPost _ _ hk) dL_law_787
                                            · have hk := hk.2 q19
                                              rcases Classical.em ((v28 &&& (nI 31)) = (nI 20)) with q | q20
                                              · have hk := hk.1 q
                                                refine lv_tableIn (tgt := 788) hx hb dL_law_32 (by rw [q]; decide) (by rw [q]; decide) (by rw [q]; rfl) (by decide) ?_
                                                refine lv_aload_n hx hb dL_law_788 rfl (lv_at hl 1 rfl) ?_
                                                refine lv_aload_n hx hb dL_law_789 rfl (lv_at hl 0 rfl) ?_
                                                refine lv_iload_n hx hb dL_law_790 rfl (lv_at hl 3 rfl) ?_
                                                refine lv_iconst (v := (nI 1)) hx hb dL_law_791 (by decide) ?_
                                                refine lv_iadd hx hb dL_law_792 ?_
                                                obtain ⟨v793, hv, hk⟩ := hk
                                                refine r_scr C hX hbl Z hv dL_law_793 ?_
                                                refine lv_aload_n hx hb dL_law_794 rfl (lv_at hl 0 rfl) ?_
                                                refine lv_iload_n hx hb dL_law_795 rfl (lv_at hl 3 rfl) ?_
                                                refine lv_iconst (v := (nI 2)) hx hb dL_law_796 (by decide) ?_
                                                refine lv_iadd hx hb dL_law_797 ?_
                                                obtain ⟨v798, hv, hk⟩ := hk
                                                refine r_scr C hX hbl Z hv dL_law_798 ?_
                                                obtain ⟨ho, hk⟩ := hk
                                                refine r_calli Z (r_runV (As := [.int v793, .int v798]) (rest := []) C Z (m_X8_leader l g h x1 v793 v798 _ hk) ho rfl (cwV 2 C.1.2.2.2.2 (gV tw_801 tw_802 tw_803 tw_57 tw_804) rfl rfl rfl (by decide +kernel) ⟨Nat.le_of_ble_eq_true rfl, Nat.le_of_ble_eq_true rfl⟩) rfl hl.1 rfl (Nat.le_of_ble_eq_true rfl) dL_law_799 ⟨Nat.le_of_ble_eq_true rfl, Nat.le_of_ble_eq_true rfl⟩) (fun r799 h799 H locs hk Z => ?_)
                                                refine lv_aload_n hx hb dL_law_802 rfl (lv_at hl 2 rfl) ?_
                                                refine lv_aload_n hx hb dL_law_803 rfl (lv_at hl 0 rfl) ?_
                                                refine lv_iload_n hx hb dL_law_804 rfl (lv_at hl 3 rfl) ?_
                                                refine lv_iconst (v := (nI 1)) hx hb dL_law_805 (by decide) ?_
                                                refine lv_iadd hx hb dL_law_806 ?_
                                                obtain ⟨v807, hv, hk⟩ := hk
                                                refine r_scr C hX hbl Z hv dL_law_807 ?_
                                                refine lv_aload_n hx hb dL_law_808 rfl (lv_at hl 0 rfl) ?_
                                                refine lv_iload_n hx hb dL_law_809 rfl (lv_at hl 3 rfl) ?_
                                                refine lv_iconst (v := (nI 2)) hx hb dL_law_810 (by decide) ?_
                                                refine lv_iadd hx hb dL_law_811 ?_
                                                obtain ⟨v812, hv, hk⟩ := hk
                                                refine r_scr C hX hbl Z hv dL_law_812 ?_
                                                obtain ⟨ho, hk⟩ := hk
                                                refine r_calli Z (r_runV (As := [.int v807, .int v812]) (rest := [.int r799]) C Z (m_X9_leader l g h799 x2 v807 v812 _ hk) ho rfl (cwV 2 C.1.2.2.2.2 (gV tw_1223 tw_1224 tw_1225 tw_66 tw_1226) rfl rfl rfl (by decide +kernel) ⟨Nat.le_of_ble_eq_true rfl, Nat.le_of_ble_eq_true rfl⟩) rfl hl.1 rfl (Nat.le_of_ble_eq_true rfl) dL_law_813 ⟨Nat.le_of_ble_eq_true rfl, Nat.le_of_ble_eq_true rfl⟩) (fun r813 h813 H locs hk Z => ?_)
                                                refine lv_icmp_eq (tgt := 923) hx hb dL_law_816 (by decide) (fun q => ?_) (fun q => ?_)
                                                · have hk := hk.1 q
                                                  obtain ⟨y923, ey923⟩ : ∃ y : Int32, y = x3 + (nI 5) := ⟨_, rfl⟩
                                                  have hk := hk y923 ey923
                                                  refine lv_iinc (v := y923) (lv' := [(3, .int y923), (0, .ref b), (1, .ref x1), (2, .ref x2)]) hx hb dL_law_923 hl (k := 3) rfl (by rw [ey923]; rfl) (by decide) rfl (fun ls hl => ?_)
                                                  refine lv_goto (tgt := 18) hx hb dL_law_926 (by decide) ?_
                                                  exact ih y923 h813 _ _ _ (lv_sub hl [1, 2, 3, 0] rfl) Z hk
                                                · have hk := hk.2 q
                                                  refine lv_iconst (v := (nI 0)) hx hb dL_law_819 (by decide) ?_
                                                  exact r_lend C hr Z (hPost _ _ hk) dL_law_820
                                              · have hk := hk.2 q20
                                                rcases Classical.em ((v28 &&& (nI 31)) = (nI 21)) with q | q21
                                                · have hk := hk.1 q
                                                  refine lv_tableIn (tgt := 821) hx hb dL_law_32 (by rw [q]; decide) (by rw [q]; decide) (by rw [q]; rfl) (by decide) ?_
                                                  refine lv_aload_n hx hb dL_law_821 rfl (lv_at hl 1 rfl) ?_
                                                  refine lv_aload_n hx hb dL_law_822 rfl (lv_at hl 0 rfl) ?_
                                                  refine lv_iload_n hx hb dL_law_823 rfl (lv_at hl 3 rfl) ?_
                                                  refine lv_iconst (v := (nI 1)) hx hb dL_law_824 (by decide) ?_
                                                  refine lv_iadd hx hb dL_law_825 ?_
                                                  obtain ⟨v826, hv, hk⟩ := hk
                                                  refine r_scr C hX hbl Z hv dL_law_826 ?_
                                                  refine lv_aload_n hx hb dL_law_827 rfl (lv_at hl 0 rfl) ?_
                                                  refine lv_iload_n hx hb dL_law_828 rfl (lv_at hl 3 rfl) ?_
                                                  refine lv_iconst (v := (nI 2)) hx hb dL_law_829 (by decide) ?_
                                                  refine lv_iadd hx hb dL_law_830 ?_
                                                  obtain ⟨v831, hv, hk⟩ := hk
                                                  refine r_scr C hX hbl Z hv dL_law_831 ?_
                                                  obtain ⟨ho, hk⟩ := hk
                                                  refine r_calli Z (r_runV (As := [.int v826, .int v831]) (rest := []) C Z (m_X8_error l g h x1 v826 v831 _ hk) ho rfl (cwV 2 C.1.2.2.2.2 (gV tw_814 tw_815 tw_816 tw_57 tw_817) rfl rfl rfl (by decide +kernel) ⟨Nat.le_of_ble_eq_true rfl, Nat.le_of_ble_eq_true rfl⟩) rfl hl.1 rfl (Nat.le_of_ble_eq_true rfl) dL_law_832 ⟨Nat.le_of_ble_eq_true rfl, Nat.le_of_ble_eq_true rfl⟩) (fun r832 h832 H locs hk Z => ?_)
                                                  refine lv_aload_n hx hb dL_law_835 rfl (lv_at hl 2 rfl) ?_
                                                  refine lv_aload_n hx hb dL_law_836 rfl (lv_at hl 0 rfl) ?_
                                                  refine lv_iload_n hx hb dL_law_837 rfl (lv_at hl 3 rfl) ?_
                                                  refine lv_iconst (v := (nI 1)) hx hb dL_law_838 (by decide) ?_
                                                  refine lv_iadd hx hb dL_law_839 ?_
                                                  obtain ⟨v840, hv, hk⟩ := hk
                                                  refine r_scr C hX hbl Z hv dL_law_840 ?_
                                                  refine lv_aload_n hx hb dL_law_841 rfl (lv_at hl 0 rfl) ?_
                                                  refine lv_iload_n hx hb dL_law_842 rfl (lv_at hl 3 rfl) ?_
                                                  refine lv_iconst (v := (nI 2)) hx hb dL_law_843 (by decide) ?_
                                                  refine lv_iadd hx hb dL_law_844 ?_
                                                  obtain ⟨v845, hv, hk⟩ := hk
                                                  refine r_scr C hX hbl Z hv dL_law_845 ?_
                                                  obtain ⟨ho, hk⟩ := hk
                                                  refine r_calli Z (r_runV (As := [.int v840, .int v845]) (rest := [.int r832]) C Z (m_X9_error l g h832 x2 v840 v845 _ hk) ho rfl (cwV 2 C.1.2.2.2.2 (gV tw_1227 tw_1228 tw_1229 tw_66 tw_1230) rfl rfl rfl (by decide +kernel) ⟨Nat.le_of_ble_eq_true rfl, Nat.le_of_ble_eq_true rfl⟩) rfl hl.1 rfl (Nat.le_of_ble_eq_true rfl) dL_law_846 ⟨Nat.le_of_ble_eq_true rfl, Nat.le_of_ble_eq_true rfl⟩) (fun r846 h846 H locs hk Z => ?_)
                                                  refine lv_icmp_eq (tgt := 923) hx hb dL_law_849 (by decide) (fun q => ?_) (fun q => ?_)
                                                  · have hk := hk.1 q
                                                    obtain ⟨y923, ey923⟩ : ∃ y : Int32, y = x3 + (nI 5) := ⟨_, rfl⟩
                                                    have hk := hk y923 ey923
                                                    refine lv_iinc (v := y923) (lv' := [(3, .int y923), (0, .ref b), (1, .ref x1), (2, .ref x2)]) hx hb dL_law_923 hl (k := 3) rfl (by rw [ey923]; rfl) (by decide) rfl (fun ls hl => ?_)
                                                    refine lv_goto (tgt := 18) hx hb dL_law_926 (by decide) ?_
                                                    exact ih y923 h846 _ _ _ (lv_sub hl [1, 2, 3, 0] rfl) Z hk
                                                  · have hk := hk.2 q
                                                    refine lv_iconst (v := (nI 0)) hx hb dL_law_852 (by decide) ?_
                                                    exact r_lend C hr Z (hPost _ _ hk) dL_law_853
                                                · have hk := hk.2 q21
                                                  rcases Classical.em ((v28 &&& (nI 31)) = (nI 22)) with q | q22
                                                  · have hk := hk.1 q
                                                    refine lv_tableIn (tgt := 854) hx hb dL_law_32 (by rw [q]; decide) (by rw [q]; decide) (by rw [q]; rfl) (by decide) ?_
                                                    refine lv_aload_n hx hb dL_law_854 rfl (lv_at hl 1 rfl) ?_
                                                    refine lv_aload_n hx hb dL_law_855 rfl (lv_at hl 0 rfl) ?_
                                                    refine lv_iload_n hx hb dL_law_856 rfl (lv_at hl 3 rfl) ?_
                                                    refine lv_iconst (v := (nI 1)) hx hb dL_law_857 (by decide) ?_
                                                    refine lv_iadd hx hb dL_law_858 ?_
                                                    obtain ⟨v859, hv, hk⟩ := hk
                                                    refine r_scr C hX hbl Z hv dL_law_859 ?_
                                                    obtain ⟨ho, hk⟩ := hk
                                                    refine r_calli Z (r_runV (As := [.int v859]) (rest := []) C Z (m_X8_byLength l g h x1 v859 _ hk) ho rfl (cwV 1 C.1.2.2.2.2 (gV tw_825 tw_826 tw_827 tw_57 tw_828) rfl rfl rfl (by decide +kernel) ⟨Nat.le_of_ble_eq_true rfl, Nat.le_of_ble_eq_true rfl⟩) rfl hl.1 rfl (Nat.le_of_ble_eq_true rfl) dL_law_860 ⟨Nat.le_of_ble_eq_true rfl, Nat.le_of_ble_eq_true rfl⟩) (fun r860 h860 H locs hk Z => ?_)
                                                    refine lv_aload_n hx hb dL_law_863 rfl (lv_at hl 2 rfl) ?_
                                                    refine lv_aload_n hx hb dL_law_864 rfl (lv_at hl 0 rfl) ?_
                                                    refine lv_iload_n hx hb dL_law_865 rfl (lv_at hl 3 rfl) ?_
                                                    refine lv_iconst (v := (nI 1)) hx hb dL_law_866 (by decide) ?_
                                                    refine lv_iadd hx hb dL_law_867 ?_
                                                    obtain ⟨v868, hv, hk⟩ := hk
                                                    refine r_scr C hX hbl Z hv dL_law_868 ?_
                                                    obtain ⟨ho, hk⟩ := hk
                                                    refine r_calli Z (r_runV (As := [.int v868]) (rest := [.int r860]) C Z (m_X9_byLength l g h860 x2 v868 _ hk) ho rfl (cwV 1 C.1.2.2.2.2 (gV tw_1234 tw_1235 tw_1236 tw_66 tw_1237) rfl rfl rfl (by decide +kernel) ⟨Nat.le_of_ble_eq_true rfl, Nat.le_of_ble_eq_true rfl⟩) rfl hl.1 rfl (Nat.le_of_ble_eq_true rfl) dL_law_869 ⟨Nat.le_of_ble_eq_true rfl, Nat.le_of_ble_eq_true rfl⟩) (fun r869 h869 H locs hk Z => ?_)
                                                    refine lv_icmp_eq (tgt := 923) hx hb dL_law_872 (by decide) (fun q => ?_) (fun q => ?_)
                                                    · have hk := hk.1 q
                                                      obtain ⟨y923, ey923⟩ : ∃ y : Int32, y = x3 + (nI 5) := ⟨_, rfl⟩
                                                      have hk := hk y923 ey923
                                                      refine lv_iinc (v := y923) (lv' := [(3, .int y923), (0, .ref b), (1, .ref x1), (2, .ref x2)]) hx hb dL_law_923 hl (k := 3) rfl (by rw [ey923]; rfl) (by decide) rfl (fun ls hl => ?_)
                                                      refine lv_goto (tgt := 18) hx hb dL_law_926 (by decide) ?_
                                                      exact ih y923 h869 _ _ _ (lv_sub hl [1, 2, 3, 0] rfl) Z hk
                                                    · have hk := hk.2 q
                                                      refine lv_iconst (v := (nI 0)) hx hb dL_law_875 (by decide) ?_
                                                      exact r_lend C hr Z (hPost _ _ hk) dL_law_876
                                                  · have hk := hk.2 q22
                                                    rcases Classical.em ((v28 &&& (nI 31)) = (nI 23)) with q | q23
                                                    · have hk := hk.1 q
                                                      refine lv_tableIn (tgt := 877) hx hb dL_law_32 (by rw [q]; decide) (by rw [q]; decide) (by rw [q]; rfl) (by decide) ?_
                                                      refine lv_aload_n hx hb dL_law_877 rfl (lv_at hl 1 rfl) ?_
                                                      refine lv_aload_n hx hb dL_law_878 rfl (lv_at hl 0 rfl) ?_
                                                      refine lv_iload_n hx hb dL_law_879 rfl (lv_at hl 3 rfl) ?_
                                                      refine lv_iconst (v := (nI 1)) hx hb dL_law_880 (by decide) ?_
                                                      refine lv_iadd hx hb dL_law_881 ?_
                                                      obtain ⟨v882, hv, hk⟩ := hk
                                                      refine r_scr C hX hbl Z hv dL_law_882 ?_
                                                      obtain ⟨ho, hk⟩ := hk
                                                      refine r_calli Z (r_runV (As := [.int v882]) (rest := []) C Z (m_X8_drawn l g h x1 v882 _ hk) ho rfl (cwV 1 C.1.2.2.2.2 (gV tw_836 tw_837 tw_838 tw_57 tw_839) rfl rfl rfl (by decide +kernel) ⟨Nat.le_of_ble_eq_true rfl, Nat.le_of_ble_eq_true rfl⟩) rfl hl.1 rfl (Nat.le_of_ble_eq_true rfl) dL_law_883 ⟨Nat.le_of_ble_eq_true rfl, Nat.le_of_ble_eq_true rfl⟩) (fun r883 h883 H locs hk Z => ?_)
                                                      refine lv_aload_n hx hb dL_law_886 rfl (lv_at hl 2 rfl) ?_
                                                      refine lv_aload_n hx hb dL_law_887 rfl (lv_at hl 0 rfl) ?_
                                                      refine lv_iload_n hx hb dL_law_888 rfl (lv_at hl 3 rfl) ?_
                                                      refine lv_iconst (v := (nI 1)) hx hb dL_law_889 (by decide) ?_
                                                      refine lv_iadd hx hb dL_law_890 ?_
                                                      obtain ⟨v891, hv, hk⟩ := hk
                                                      refine r_scr C hX hbl Z hv dL_law_891 ?_
                                                      obtain ⟨ho, hk⟩ := hk
                                                      refine r_calli Z (r_runV (As := [.int v891]) (rest := [.int r883]) C Z (m_X9_drawn l g h883 x2 v891 _ hk) ho rfl (cwV 1 C.1.2.2.2.2 (gV tw_1238 tw_1239 tw_1240 tw_66 tw_1241) rfl rfl rfl (by decide +kernel) ⟨Nat.le_of_ble_eq_true rfl, Nat.le_of_ble_eq_true rfl⟩) rfl hl.1 rfl (Nat.le_of_ble_eq_true rfl) dL_law_892 ⟨Nat.le_of_ble_eq_true rfl, Nat.le_of_ble_eq_true rfl⟩) (fun r892 h892 H locs hk Z => ?_)
                                                      refine lv_icmp_eq (tgt := 923) hx hb dL_law_895 (by decide) (fun q => ?_) (fun q => ?_)
                                                      · have hk := hk.1 q
                                                        obtain ⟨y923, ey923⟩ : ∃ y : Int32, y = x3 + (nI 5) := ⟨_, rfl⟩
                                                        have hk := hk y923 ey923
                                                        refine lv_iinc (v := y923) (lv' := [(3, .int y923), (0, .ref b), (1, .ref x1), (2, .ref x2)]) hx hb dL_law_923 hl (k := 3) rfl (by rw [ey923]; rfl) (by decide) rfl (fun ls hl => ?_)
                                                        refine lv_goto (tgt := 18) hx hb dL_law_926 (by decide) ?_
                                                        exact ih y923 h892 _ _ _ (lv_sub hl [1, 2, 3, 0] rfl) Z hk
                                                      · have hk := hk.2 q
                                                        refine lv_iconst (v := (nI 0)) hx hb dL_law_898 (by decide) ?_
                                                        exact r_lend C hr Z (hPost _ _ hk) dL_law_899
                                                    · have hk := hk.2 q23
                                                      rcases Classical.em ((v28 &&& (nI 31)) = (nI 24)) with q | q24
                                                      · have hk := hk.1 q
                                                        refine lv_tableIn (tgt := 900) hx hb dL_law_32 (by rw [q]; decide) (by rw [q]; decide) (by rw [q]; rfl) (by decide) ?_
                                                        refine lv_aload_n hx hb dL_law_900 rfl (lv_at hl 1 rfl) ?_
                                                        refine lv_aload_n hx hb dL_law_901 rfl (lv_at hl 0 rfl) ?_
                                                        refine lv_iload_n hx hb dL_law_902 rfl (lv_at hl 3 rfl) ?_
                                                        refine lv_iconst (v := (nI 1)) hx hb dL_law_903 (by decide) ?_
                                                        refine lv_iadd hx hb dL_law_904 ?_
                                                        obtain ⟨v905, hv, hk⟩ := hk
                                                        refine r_scr C hX hbl Z hv dL_law_905 ?_
                                                        obtain ⟨ho, hk⟩ := hk
                                                        refine r_calli Z (r_runV (As := [.int v905]) (rest := []) C Z (m_X8_seedFor l g h x1 v905 _ hk) ho rfl (cwV 1 C.1.2.2.2.2 (gV tw_843 tw_844 tw_845 tw_57 tw_846) rfl rfl rfl (by decide +kernel) ⟨Nat.le_of_ble_eq_true rfl, Nat.le_of_ble_eq_true rfl⟩) rfl hl.1 rfl (Nat.le_of_ble_eq_true rfl) dL_law_906 ⟨Nat.le_of_ble_eq_true rfl, Nat.le_of_ble_eq_true rfl⟩) (fun r906 h906 H locs hk Z => ?_)
                                                        refine lv_aload_n hx hb dL_law_909 rfl (lv_at hl 2 rfl) ?_
                                                        refine lv_aload_n hx hb dL_law_910 rfl (lv_at hl 0 rfl) ?_
                                                        refine lv_iload_n hx hb dL_law_911 rfl (lv_at hl 3 rfl) ?_
                                                        refine lv_iconst (v := (nI 1)) hx hb dL_law_912 (by decide) ?_
                                                        refine lv_iadd hx hb dL_law_913 ?_
                                                        obtain ⟨v914, hv, hk⟩ := hk
                                                        refine r_scr C hX hbl Z hv dL_law_914 ?_
                                                        obtain ⟨ho, hk⟩ := hk
                                                        refine r_calli Z (r_runV (As := [.int v914]) (rest := [.int r906]) C Z (m_X9_seedFor l g h906 x2 v914 _ hk) ho rfl (cwV 1 C.1.2.2.2.2 (gV tw_1242 tw_1243 tw_1244 tw_66 tw_1245) rfl rfl rfl (by decide +kernel) ⟨Nat.le_of_ble_eq_true rfl, Nat.le_of_ble_eq_true rfl⟩) rfl hl.1 rfl (Nat.le_of_ble_eq_true rfl) dL_law_915 ⟨Nat.le_of_ble_eq_true rfl, Nat.le_of_ble_eq_true rfl⟩) (fun r915 h915 H locs hk Z => ?_)
                                                        refine lv_icmp_eq (tgt := 923) hx hb dL_law_918 (by decide) (fun q => ?_) (fun q => ?_)
                                                        · have hk := hk.1 q
                                                          obtain ⟨y923, ey923⟩ : ∃ y : Int32, y = x3 + (nI 5) := ⟨_, rfl⟩
                                                          have hk := hk y923 ey923
                                                          refine lv_iinc (v := y923) (lv' := [(3, .int y923), (0, .ref b), (1, .ref x1), (2, .ref x2)]) hx hb dL_law_923 hl (k := 3) rfl (by rw [ey923]; rfl) (by decide) rfl (fun ls hl => ?_)
                                                          refine lv_goto (tgt := 18) hx hb dL_law_926 (by decide) ?_
                                                          exact ih y923 h915 _ _ _ (lv_sub hl [1, 2, 3, 0] rfl) Z hk
                                                        · have hk := hk.2 q
                                                          refine lv_iconst (v := (nI 0)) hx hb dL_law_921 (by decide) ?_
                                                          exact r_lend C hr Z (hPost _ _ hk) dL_law_922
                                                      · have hk := hk.2 q24
                                                        refine lv_tableOut (tgt := 923) hx hb dL_law_32 (by have t0 := ne_toI q0 (show Int32.toInt (nI 0) = (0 : Int) by decide); have t1 := ne_toI q1 (show Int32.toInt (nI 1) = (1 : Int) by decide); have t2 := ne_toI q2 (show Int32.toInt (nI 2) = (2 : Int) by decide); have t3 := ne_toI q3 (show Int32.toInt (nI 3) = (3 : Int) by decide); have t4 := ne_toI q4 (show Int32.toInt (nI 4) = (4 : Int) by decide); have t5 := ne_toI q5 (show Int32.toInt (nI 5) = (5 : Int) by decide); have t6 := ne_toI q6 (show Int32.toInt (nI 6) = (6 : Int) by decide); have t7 := ne_toI q7 (show Int32.toInt (nI 7) = (7 : Int) by decide); have t8 := ne_toI q8 (show Int32.toInt (nI 8) = (8 : Int) by decide); have t9 := ne_toI q9 (show Int32.toInt (nI 9) = (9 : Int) by decide); have t10 := ne_toI q10 (show Int32.toInt (nI 10) = (10 : Int) by decide); have t11 := ne_toI q11 (show Int32.toInt (nI 11) = (11 : Int) by decide); have t12 := ne_toI q12 (show Int32.toInt (nI 12) = (12 : Int) by decide); have t13 := ne_toI q13 (show Int32.toInt (nI 13) = (13 : Int) by decide); have t14 := ne_toI q14 (show Int32.toInt (nI 14) = (14 : Int) by decide); have t15 := ne_toI q15 (show Int32.toInt (nI 15) = (15 : Int) by decide); have t16 := ne_toI q16 (show Int32.toInt (nI 16) = (16 : Int) by decide); have t17 := ne_toI q17 (show Int32.toInt (nI 17) = (17 : Int) by decide); have t18 := ne_toI q18 (show Int32.toInt (nI 18) = (18 : Int) by decide); have t19 := ne_toI q19 (show Int32.toInt (nI 19) = (19 : Int) by decide); have t20 := ne_toI q20 (show Int32.toInt (nI 20) = (20 : Int) by decide); have t21 := ne_toI q21 (show Int32.toInt (nI 21) = (21 : Int) by decide); have t22 := ne_toI q22 (show Int32.toInt (nI 22) = (22 : Int) by decide); have t23 := ne_toI q23 (show Int32.toInt (nI 23) = (23 : Int) by decide); have t24 := ne_toI q24 (show Int32.toInt (nI 24) = (24 : Int) by decide); omega) (by decide) ?_
                                                        obtain ⟨y923, ey923⟩ : ∃ y : Int32, y = x3 + (nI 5) := ⟨_, rfl⟩
                                                        have hk := hk y923 ey923
                                                        refine lv_iinc (v := y923) (lv' := [(3, .int y923), (0, .ref b), (1, .ref x1), (2, .ref x2)]) hx hb dL_law_923 hl (k := 3) rfl (by rw [ey923]; rfl) (by decide) rfl (fun ls hl => ?_)
                                                        refine lv_goto (tgt := 18) hx hb dL_law_926 (by decide) ?_
                                                        exact ih y923 h _ _ _ (lv_sub hl [1, 2, 3, 0] rfl) Z hk
