/-! the start: the tables, the statics, the strings -/
def sFl : List Cond := flatC (Jvm.Cond.and given_1 narrow_1)
def sTm (i : Nat) : Term := Term.string "SmudgeTally$Program" (sKx i)
def stT (n d : String) : Term := Term.static "SmudgeTally" n d
set_option maxRecDepth 100000 in
theorem sf_S : Cond.arrayOf (stT "SMALLEST" "[I") .int ∈ sFl ∧ Cond.eq (.length (stT "SMALLEST" "[I")) (.int 4) ∈ sFl ∧ ∀ j, j < 4 → Cond.eq (.elem (stT "SMALLEST" "[I") (.int (Int32.ofNat j))) (.int (tbI 0 j)) ∈ sFl := by decide +kernel
set_option maxRecDepth 100000 in
theorem sf_G : Cond.arrayOf (stT "GREATEST" "[I") .int ∈ sFl ∧ Cond.eq (.length (stT "GREATEST" "[I")) (.int 4) ∈ sFl ∧ ∀ j, j < 4 → Cond.eq (.elem (stT "GREATEST" "[I") (.int (Int32.ofNat j))) (.int (tbI 1 j)) ∈ sFl := by decide +kernel
set_option maxRecDepth 100000 in
theorem sf_W : Cond.arrayOf (stT "WORTH" "[J") .long ∈ sFl ∧ Cond.eq (.length (stT "WORTH" "[J")) (.int 12) ∈ sFl ∧ ∀ j, j < 12 → Cond.eq (.elem (stT "WORTH" "[J") (.int (Int32.ofNat j))) (.long (tbL j)) ∈ sFl := by decide +kernel
set_option maxRecDepth 100000 in
theorem sf_C : Cond.eq (.static "java/lang/String" "COMPACT_STRINGS" "Z") (.int 1) ∈ sFl ∧ Cond.isRef (.static "jdk/internal/util/Preconditions" "SIOOBE_FORMATTER" "Ljava/util/function/BiFunction;") ∈ sFl := by decide +kernel
set_option maxRecDepth 100000 in
theorem sf_X : ∀ i, i < 5 → Cond.exactly (sTm i) "java/lang/String" ∈ sFl ∧ Cond.eq (.field (sTm i) "java/lang/String" "coder" "B") (.int 0) ∈ sFl ∧ Cond.arrayOf (.field (sTm i) "java/lang/String" "value" "[B") .byte ∈ sFl ∧ Cond.eq (.length (.field (sTm i) "java/lang/String" "value" "[B")) (.int (Int32.ofNat (sLens.getD i 0))) ∈ sFl := by decide +kernel
set_option maxRecDepth 100000 in
theorem sf_E : ∀ i, i < 5 → ∀ j, j < sLens.getD i 0 → Cond.eq (.elem (.field (sTm i) "java/lang/String" "value" "[B") (.int (Int32.ofNat j))) (.int ((sByts.getD i []).getD j 0)) ∈ sFl := by decide +kernel
set_option maxRecDepth 100000 in
theorem sf_N : ∀ i, i < 5 → ∀ j, j < 5 → i ≠ j → Cond.not (Cond.eq (sTm i) (sTm j)) ∈ sFl ∨ Cond.not (Cond.eq (sTm j) (sTm i)) ∈ sFl := by decide +kernel
set_option maxRecDepth 100000 in
theorem sf_T : (∀ q ∈ nsM, Cond.methodLinkNest q.1 q.2.1 q.2.2 "SmudgeTally" ∈ lw_tbl) ∧ (∀ q ∈ nsF, Cond.fieldLinkNest q.1 q.2.1 q.2.2.1 q.2.2.2.1 q.2.2.2.2 "SmudgeTally" ∈ lw_tbl) := by decide +kernel
set_option maxRecDepth 100000 in
theorem sf_R : (∀ i, i < 5 → Cond.stringRef RX3 (sKx i) (sTt i) ∈ lw_tbl) ∧ Cond.arrayOver (.object RX0) ∈ lw_tbl ∧ Cond.arrayOver (.object RX6) ∈ lw_tbl := by decide +kernel
set_option maxRecDepth 100000 in
theorem sf_L : Cond.laysStatic "SmudgeTally" "SMALLEST" "[I" ∈ lw_tbl ∧ Cond.laysStatic "SmudgeTally" "GREATEST" "[I" ∈ lw_tbl ∧ Cond.laysStatic "SmudgeTally" "WORTH" "[J" ∈ lw_tbl ∧ Cond.laysStatic "java/lang/String" "COMPACT_STRINGS" "Z" ∈ lw_tbl ∧ Cond.laysStatic "jdk/internal/util/Preconditions" "SIOOBE_FORMATTER" "Ljava/util/function/BiFunction;" ∈ lw_tbl ∧ Cond.initialized "SmudgeTally" ∈ lw_tbl ∧ Cond.initialized "java/lang/String" ∈ lw_tbl ∧ Cond.initialized "jdk/internal/util/Preconditions" ∈ lw_tbl := by decide +kernel
theorem prim_arr {s : State} {args : Array Value} {ty : FieldType} (h : (Cond.arrayClass ty).before args s = true) : ∃ cA : ClassId, ArrOfT s cA ty ∧ s.vm.findClass ("[" ++ ty.toString) = some cA := by
  obtain ⟨cA, kA, comp, h1, h2, h3⟩ := Cond.arrayClass_spec h
  exact ⟨cA, fun n z => ⟨fun k h => (by cases h), kA, h2, comp, h3⟩, h1⟩
theorem over_arr {s : State} {args : Array Value} {C : String} (h : (Cond.arrayOver (.object C)).before args s = true) : ∃ cA : ClassId, ArrOfT s cA (.object C) ∧ va_RA s cA (.object C) := by
  obtain ⟨comp, cA, kA, h1, -, h2, h3, h4⟩ := Cond.arrayOver_spec h
  exact ⟨cA, fun n z => ⟨fun k h => (by cases h), kA, h2, comp, h3⟩, kA, comp, h2, h3, h1, h4⟩
def ad_of (tS tG tW : Nat) (adK adV : Nat → Nat) : Nat → Nat := fun i => match i with
  | 0 => tS
  | 1 => tG
  | 2 => tW
  | i + 3 => if i < 5 then adK i else adV (i - 5)
set_option maxRecDepth 100000 in
set_option maxHeartbeats 4000000 in
theorem gp_start {s : State} {args : Array Value} (hts : ∀ w ∈ lw_tbl, w.before args s = true) (hgv : (Jvm.Cond.and given_1 narrow_1).before args s = true) : ∃ g : Gt, GP g s ∧ SP g (fun q : Nat => s.heap.size ≤ q) s s.heap := by
  have htg : ∀ w ∈ gtb, w.before args s = true := fun w h => hts w (gtb_in h)
  have hs : ∀ c ∈ sFl, c.before args s = true := flat_of_before _ hgv
  have hA : ∀ a : Nat, a < s.heap.size → ¬ (fun q : Nat => s.heap.size ≤ q) a := fun a h => Nat.not_le.mpr h
  obtain ⟨c0, i0, k0⟩ := u_known (C := RX0) (T := TX0) (N := 11) (n := 11) htg ku_0 (htg _ tw_94)
  obtain ⟨c1, i1, k1⟩ := u_known (C := RX1) (T := TX1) (N := 2) (n := 2) htg ku_1 (htg _ tw_82)
  obtain ⟨c2, i2, k2⟩ := u_known (C := RX2) (T := TX2) (N := 2) (n := 2) htg ku_2 (htg _ tw_244)
  obtain ⟨c3, i3, k3⟩ := u_known (C := RX3) (T := TX3) (N := 7) (n := 7) htg ku_3 (htg _ tw_276)
  obtain ⟨c4, i4, k4⟩ := u_known (C := RX4) (T := TX4) (N := 15) (n := 15) htg ku_4 (htg _ tw_88)
  obtain ⟨c5, i5, k5⟩ := u_known (C := RX5) (T := TX5) (N := 2) (n := 2) htg ku_5 (htg _ tw_228)
  obtain ⟨c6, i6, k6⟩ := u_known (C := RX6) (T := TX6) (N := 2) (n := 2) htg ku_6 (htg _ tw_251)
  obtain ⟨c7, i7, k7⟩ := u_known (C := RX7) (T := TX7) (N := 5) (n := 5) htg ku_7 (htg _ tw_282)
  obtain ⟨c8, i8, k8⟩ := u_known (C := RX8) (T := TX8) (N := 6) (n := 6) htg ku_8 (htg _ tw_74)
  obtain ⟨c9, i9, k9⟩ := u_known (C := RX9) (T := TX9) (N := 17) (n := 17) htg ku_9 (htg _ tw_849)
  obtain ⟨a0, r0, f0⟩ := prim_arr (htg _ tw_158)
  obtain ⟨a1, r1, f1⟩ := prim_arr (htg _ tw_159)
  obtain ⟨a2, r2, f2⟩ := prim_arr (htg _ tw_218)
  obtain ⟨a3, r3, f3⟩ := over_arr (hts _ sf_R.2.1)
  obtain ⟨a4, r4, f4⟩ := over_arr (hts _ sf_R.2.2)
  obtain ⟨tS, hS, hS2⟩ := va_Tof (N := 4) (f := fun j => .int (tbI 0 j)) (by omega) (hs _ sf_S.1) (va_eqt (hs _ sf_S.2.1)) (fun j hj => va_eqt (hs _ (sf_S.2.2 j hj))) hA
  obtain ⟨tG, hG, hG2⟩ := va_Tof (N := 4) (f := fun j => .int (tbI 1 j)) (by omega) (hs _ sf_G.1) (va_eqt (hs _ sf_G.2.1)) (fun j hj => va_eqt (hs _ (sf_G.2.2 j hj))) hA
  obtain ⟨tW, hW, hW2⟩ := va_Tof (N := 12) (f := fun j => .long (tbL j)) (by omega) (hs _ sf_W.1) (va_eqt (hs _ sf_W.2.1)) (fun j hj => va_eqtl (hs _ (sf_W.2.2 j hj))) hA
  obtain ⟨adK, adV, hE, hEv⟩ := vk_Sof (N := 5) (tm := sTm) (len := sLens) (byt := sByts) (by decide +kernel) (fun i hi => hs _ (sf_X i hi).1) (fun i hi => hs _ (sf_X i hi).2.1) (fun i hi => hs _ (sf_X i hi).2.2.1) (fun i hi => hs _ (sf_X i hi).2.2.2) (fun i hi j hj => hs _ (sf_E i hi j hj)) (fun i j hi hj hne => (sf_N i hi j hj hne).elim (fun q => Or.inl (hs _ q)) (fun q => Or.inr (hs _ q))) hA
  obtain ⟨L1, L2, L3, L4, L5, I1, I2, I3⟩ := sf_L
  have eK : ∀ i, i < 5 → ad_of tS tG tW adK adV (3 + i) = adK i := fun i hi => by
    rw [Nat.add_comm]; exact if_pos hi
  have eV : ∀ i, ad_of tS tG tW adK adV (8 + i) = adV i := fun i => by
    rw [show 8 + i = (5 + i) + 3 by omega]
    show (if 5 + i < 5 then _ else adV (5 + i - 5)) = _
    rw [if_neg (by omega), show 5 + i - 5 = i by omega]
  refine ⟨((fun k => match k with | 0 => c0 | 1 => c1 | 2 => c2 | 3 => c3 | 4 => c4 | 5 => c5 | 6 => c6 | 7 => c7 | 8 => c8 | _ => c9, fun k => match k with | 0 => i0 | 1 => i1 | 2 => i2 | 3 => i3 | 4 => i4 | 5 => i5 | 6 => i6 | 7 => i7 | 8 => i8 | _ => i9), (fun t => match t with | 0 => a0 | 1 => a1 | 2 => a2 | 3 => a3 | _ => a4), ad_of tS tG tW adK adV), ⟨⟨?_, ?_⟩, fun q hq => va_Nw.of rfl (hts _ (sf_T.1 q hq)), fun q hq => va_Nw.of rfl (hts _ (sf_T.2 q hq)), fun i hi => ?_, va_AO.of (hts _ sf_R.2.1), va_AO.of (hts _ sf_R.2.2)⟩, ⟨va_Zref (hts _ L1) (hts _ I1) hS hA, hS2⟩, ⟨va_Zref (hts _ L2) (hts _ I1) hG hA, hG2⟩, ⟨va_Zref (hts _ L3) (hts _ I1) hW hA, hW2⟩, va_Zof (hts _ L4) (hts _ I2) (va_eqi (hs _ sf_C.1)) hA, va_Zqof (hts _ L5) (hts _ I3) (hs _ sf_C.2) hA, ?_⟩
  · intro k q hq
    match k, hq with
    | 0, hq => cases hq; exact k0
    | 1, hq => cases hq; exact k1
    | 2, hq => cases hq; exact k2
    | 3, hq => cases hq; exact k3
    | 4, hq => cases hq; exact k4
    | 5, hq => cases hq; exact k5
    | 6, hq => cases hq; exact k6
    | 7, hq => cases hq; exact k7
    | 8, hq => cases hq; exact k8
    | 9, hq => cases hq; exact k9
    | k + 10, hq => simp [vwCl] at hq
  · intro k q hq
    match k, hq with
    | 0, hq => cases hq; exact ⟨r0, f0⟩
    | 1, hq => cases hq; exact ⟨r1, f1⟩
    | 2, hq => cases hq; exact ⟨r2, f2⟩
    | 3, hq => cases hq; exact ⟨r3, f3⟩
    | 4, hq => cases hq; exact ⟨r4, f4⟩
    | k + 5, hq => simp [tysg] at hq
  · show vk_R RX3 (sKx i) (sTt i) (ad_of tS tG tW adK adV (3 + i)) s
    rw [eK i hi]
    exact vk_R.of (hts _ (sf_R.1 i hi)) (hEv i hi)
  · show vk_S 5 sLens sByts (fun i => ad_of tS tG tW adK adV (3 + i)) (fun i => ad_of tS tG tW adK adV (8 + i)) _ s s.heap
    refine ⟨fun i hi => ?_, fun i j hi hj hij => ?_⟩
    · show va_O _ (ad_of tS tG tW adK adV (3 + i)) _ _ _ ∧ va_OF _ _ _ _ (ad_of tS tG tW adK adV (3 + i)) _ _ _ ∧ va_OF _ _ _ (.ref (ad_of tS tG tW adK adV (8 + i))) (ad_of tS tG tW adK adV (3 + i)) _ _ _ ∧ va_T _ (ad_of tS tG tW adK adV (8 + i)) _ _ _ _ _
      rw [eK i hi, eV i]
      exact hE.1 i hi
    · have hij : ad_of tS tG tW adK adV (3 + i) = ad_of tS tG tW adK adV (3 + j) := hij
      rw [eK i hi, eK j hj] at hij
      exact hE.2 i j hi hj hij
/-! a call of a public constructor, by the law -/
section PINIT
variable {p : Program} {l : Launch} {e : Env} {R : Room} {s : State} {m : MethodId} {args : Array Value} {below : List Frame} {meth : Method} {c : Code} {H : Heap} {locs : List Loc} {cells slots : Nat} {Q : State → Prop}
variable {cc : ByteArray} {pc : Nat} {ls : Array Slot} {rest : List Value} {g : Gt} {A : Nat → Prop} {h : Hp} {a z : Nat} {own : String} {nL : Nat}
theorem rz_initP (C : Cx g A own cc nL p s m args meth c) (Z : Stz g A s h z H locs cells) (hA : ∀ q, s.heap.size ≤ q → A q) {y : MethodName} {wsy : List Cond} {rm : Room} {bytes : ByteArray} {maxL idx mc ms : Nat} {Post : Hp → Prop} (hM : Met l y wsy rm (Pgz g h z [.ref a]) (Qvz g h z mc Post) mc ms (dmz h z)) (cw : CallB R s args own idx y bytes maxL none wsy rm mc ms 0 ∧ y.name = "<init>" ∧ (Cond.instanceMethod y).before args s = true) (hsize : ls.size = nL) (hW : (rest.map fun v => v.category).sum ≤ 8) (hdg : decode cc pc = .ok (.invokespecial idx, 3)) (hf : cells + mc ≤ R.cells ∧ slots + ms ≤ R.slots)
    (kk : ∀ (h' : Hp) (H1 : Heap) (locs1 : List Loc), Post h' → Stz g A s h' (z + mc) H1 locs1 (cells + mc) → W p l e R s m args below meth c H1 locs1 (cells + mc) (slots + ms) Q (F0 m (pc + 3) ls rest)) : W p l e R s m args below meth c H locs cells slots Q (F0 m pc ls (.ref a :: rest)) := by
  refine W_sz Z fun ez => ?_
  obtain ⟨h1, h2, Z2⟩ := id Z
  have hsub : ∀ q, dmz h z q → A q := fun q hq => hq.elim (Z2.sub q) (fun hq => hA q (by omega))
  obtain ⟨hS, w, hP, hD, hw⟩ := id Z2
  refine va_callv (va_runI (As := []) C.1 hM cw ⟨Pgz.blind g h z _, fun U hU hW => ⟨rfl, by rw [hU]; exact ez, GP.moved hW C.2.2.1, ?_, w, by rw [hU]; exact hP, ⟨hD.1, fun k q hk => Or.inl (hw.2 k q hk)⟩, hw⟩⟩ rfl rfl hsize rfl (lv_room hW) hdg hf) hS (fun q _ hq => hsub q hq) hsub (fun u t H1 locs1 ht _ hp hB hz1 hk1 hS1 => kk u H1 locs1 hp ?_)
  · rw [hU]
    exact SP.moved hW.alike (SP.narrow (SP.kept C.2.2.2 (fun q h1 h2 => hS.2.1 q h1 h2)) hsub)
  · obtain ⟨hz, w1, hP1, hD1, hw1⟩ := hB
    rw [ht] at hz hP1
    exact ⟨by omega, hz, hS1, w1, hP1, hD1.weaken (fun k q _ hq => hsub _ hq), hw1⟩
end PINIT
/-- what is left, without a machine: from two fresh objects, on every script of at most 2560 ints, the law's loop answers 1 -/
def wp_law (xs : Nat → Int32) (L z : Nat) : Prop := wp_X8_init z (fun h2 => wp_X9_init (z + 259) (fun h4 => ∃ n, wp_L_law_18 xs L (fun v _ => v = nI 1) z (z + 259) n (nI 0) h4) (hset h2 (z + 259) (.inr (9, [.null, .null, .null, .int 0, .null, .null, .int 0, .int 0, .int 0, .int 0, .int 0, .int 0, .int 0, .int 0, .int 0, .long 0, .long 0]))) (z + 260)) (hset (fun _ => none) z (.inr (8, [.null, .null, .null, .null, .null, .null]))) (z + 1)
set_option maxHeartbeats 4000000 in
set_option maxRecDepth 100000 in
theorem whole_of {p : Program} {e : Env} {s : State} {m : MethodId} {below : List Frame} {meth : Method} {c : Code} (l : Launch) {b L : Nat} {xs : Nat → Int32} (C0 : lw_At p s m meth c b L xs) (hk : wp_law xs L s.heap.size) : W p l e room_1 s m #[Value.ref b] below meth c s.heap [] 0 0 (lw_Z below #[Value.ref b] s) (entryFrame m ([Value.ref b] : List Value).toArray 4) := by
  obtain ⟨hx, hb, hr, hml, hown, hts0, hX, hbl, hlocks, hgv⟩ := C0
  obtain ⟨g, hG, hSP⟩ := gp_start hts0 hgv
  have hts : ∀ w ∈ gtb, w.before #[Value.ref b] s = true := fun w h => hts0 w (gtb_in h)
  have C : Cx g (fun q : Nat => s.heap.size ≤ q) RL cL_law 4 p s m #[Value.ref b] meth c := ⟨⟨hx, hb, hml, hown, hts⟩, hlocks, hG, hSP⟩
  have hA : ∀ q : Nat, s.heap.size ≤ q → (fun q : Nat => s.heap.size ≤ q) q := fun _ h => h
  have hl := lv_entry ([.ref b]) (n := 4) (Nat.le_of_ble_eq_true rfl)
  rw [lg_entry_eq]
  generalize (lg_sl ([.ref b]) ++ List.replicate (4 - (lg_sl ([.ref b])).length) Slot.unset).toArray = ls at hl ⊢
  have hl : lv_has ls 4 [(0, .ref b)] := hl
  obtain ⟨z, hz⟩ : ∃ z : Nat, z = s.heap.size := ⟨_, rfl⟩
  rw [← hz] at hk
  have Z : Stz g (fun q : Nat => s.heap.size ≤ q) s (fun _ => none) z s.heap [] 0 := by
    refine ⟨by omega, by omega, va_S.rf, [], ?_, ⟨?_, ?_⟩, ⟨?_, ?_⟩⟩
    · intro k q h; simp at h
    · intro i j p q h; simp at h
    · intro k q h; simp at h
    · intro a e h; cases h
    · intro k q h; simp at h
  obtain ⟨A, eA⟩ : ∃ A : Nat → Prop, A = fun q : Nat => s.heap.size ≤ q := ⟨_, rfl⟩
  rw [← eA] at Z
  generalize s.heap = H at Z ⊢
  generalize ([] : List Loc) = locs at Z ⊢
  rw [eA] at Z
  refine rz_new (ci := 8) (fs := [.null, .null, .null, .null, .null, .null]) C Z hA rfl ku_8 tyX8_ok tw_73 tw_74 tw_57 (fun j hj => by rcases (show j = 0 ∨ j = 1 ∨ j = 2 ∨ j = 3 ∨ j = 4 ∨ j = 5 by omega) with rfl | rfl | rfl | rfl | rfl | rfl <;> rfl) (Nat.le_of_ble_eq_true rfl) (Nat.le_of_ble_eq_true rfl) dL_law_0 (fun H Z => ?_)
  refine lv_dup hx hb dL_law_3 rfl ?_
  refine rz_initP (mc := 258) (ms := 14495) (rest := [.ref z]) C Z hA (m_X8_init l g _ (z + 1) z _ hk) ⟨callB_of 0 hts (gW tw_77) rfl rfl rfl (hts _ tw_57) (hts _ tw_75) (by decide +kernel) ⟨Nat.le_of_ble_eq_true rfl, Nat.le_of_ble_eq_true rfl⟩, rfl, hts _ tw_76⟩ hl.1 (Nat.le_of_ble_eq_true rfl) dL_law_4 ⟨Nat.le_of_ble_eq_true rfl, Nat.le_of_ble_eq_true rfl⟩ (fun h2 H locs hk Z => ?_)
  refine lv_astore_n (lv' := [(1, .ref z), (0, .ref b)]) hx hb dL_law_7 rfl hl (by decide) rfl (fun ls hl => ?_)
  refine rz_new (ci := 9) (fs := [.null, .null, .null, .int 0, .null, .null, .int 0, .int 0, .int 0, .int 0, .int 0, .int 0, .int 0, .int 0, .int 0, .long 0, .long 0]) C Z hA rfl ku_9 tyX9_ok tw_848 tw_849 tw_66 (fun j hj => by rcases (show j = 0 ∨ j = 1 ∨ j = 2 ∨ j = 3 ∨ j = 4 ∨ j = 5 ∨ j = 6 ∨ j = 7 ∨ j = 8 ∨ j = 9 ∨ j = 10 ∨ j = 11 ∨ j = 12 ∨ j = 13 ∨ j = 14 ∨ j = 15 ∨ j = 16 by omega) with rfl | rfl | rfl | rfl | rfl | rfl | rfl | rfl | rfl | rfl | rfl | rfl | rfl | rfl | rfl | rfl | rfl <;> rfl) (Nat.le_of_ble_eq_true rfl) (Nat.le_of_ble_eq_true rfl) dL_law_8 (fun H Z => ?_)
  refine lv_dup hx hb dL_law_11 rfl ?_
  refine rz_initP (mc := 5) (ms := 9749) (rest := [.ref (z + 259)]) C Z hA (m_X9_init l g _ (z + 260) (z + 259) _ hk) ⟨callB_of 0 hts (gW tw_852) rfl rfl rfl (hts _ tw_66) (hts _ tw_850) (by decide +kernel) ⟨Nat.le_of_ble_eq_true rfl, Nat.le_of_ble_eq_true rfl⟩, rfl, hts _ tw_851⟩ hl.1 (Nat.le_of_ble_eq_true rfl) dL_law_12 ⟨Nat.le_of_ble_eq_true rfl, Nat.le_of_ble_eq_true rfl⟩ (fun h4 H locs hk Z => ?_)
  refine lv_astore_n (lv' := [(2, .ref (z + 259)), (1, .ref z), (0, .ref b)]) hx hb dL_law_15 rfl hl (by decide) rfl (fun ls hl => ?_)
  refine lv_iconst (v := nI 0) hx hb dL_law_16 (by decide) ?_
  refine lv_istore_n (lv' := [(3, .int (nI 0)), (2, .ref (z + 259)), (1, .ref z), (0, .ref b)]) hx hb dL_law_17 rfl hl (by decide) rfl (fun ls hl => ?_)
  obtain ⟨n, hk⟩ := hk
  exact w_L_law_18 C hr hX hbl (fun v _ q => q) z (z + 259) n (nI 0) h4 _ _ _ (lv_sub hl [3, 2, 1, 0] rfl) Z.2.2 hk
