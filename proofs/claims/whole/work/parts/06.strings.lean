
/-! String's own methods on the five constants -/
theorem s_len : ∀ i, i < 5 → sLens.getD i 0 = sLn i := by decide +kernel
theorem s_byt : ∀ i, i < 5 → ∀ j, j < sLn i → ((((sByts.getD i []).getD j 0) &&& nI 255).toUInt32 % 65536).toInt32 = nI ((sTx i).getD j 0) ∧ narrow .char (.int (nI ((sTx i).getD j 0))) = .int (nI ((sTx i).getD j 0)) := by decide +kernel
theorem s_l31 : ∀ i, i < 5 → sLn i < 2 ^ 31 := by decide +kernel
section STR
variable {p : Program} {l : Launch} {e : Env} {R : Room} {s : State} {m : MethodId} {args : Array Value} {below : List Frame} {meth : Method} {c : Code} {H : Heap} {locs : List Loc} {cells slots : Nat} {Q : State → Prop}
variable {cc : ByteArray} {pc : Nat} {ls : Array Slot} {rest : List Value} {g : Gt} {A : Nat → Prop} {h : Hp} {a : Nat} {own : String} {nL : Nat}
theorem r_bret {ty : FieldType} (C : Cx g (dm h) own cc nL p s m args meth c) {h' : Hp} (Z : St g (dm h) s h' H locs) {Post : Int32 → Hp → Prop} {v : Int32} (hr : meth.sig.returnType = some ty) (hn : narrow ty (.int v) = .int v) (hp : Post v h') (hdg : decode cc pc = .ok (.ireturn, 1)) : W p l e R s m args below meth c H locs cells slots (MQ below (Qi g h Post) args s cells slots (dm h)) (F0 m pc ls [.int v]) :=
  W.zret C.1.1 C.1.2.1 hr hn (fun t ht hW => ⟨⟨v, h', rfl, hp, r_qb C Z ht⟩, Z.1.F ht⟩) Z.1.2.2 hdg C.2.1
end STR
set_option maxRecDepth 100000 in
theorem mJ_coder (l : Launch) (g : Gt) (h : Hp) (i : Nat) (hi : i < 5) : Met l yJ0_coder_7d493 (WS yJ0_coder_7d493 cJ0_coder_7d493 1 (some .byte)) ({ frames := 0, cells := 0, slots := 0, locals := 0 } : Room) (Pg g h [.ref (g.2.2 (3 + i))]) (Qi g h (fun r h' => r = nI 0 ∧ h' = h)) 0 0 (dm h) := by
  refine Met_of (by decide) (Nat.le_of_ble_eq_true rfl) (fun p e s m below meth c ls C hr hnm hl Z => ?_)
  have hx := C.1.1
  have hb := C.1.2.1
  have hml := C.1.2.2.1
  have hown := C.1.2.2.2.1
  have hts := C.1.2.2.2.2
  have hE := C.2.2.2.2.2.2.2.2
  have hC := C.2.2.2.2.2.2.1
  generalize s.heap = H at Z ⊢
  generalize ([] : List Loc) = locs at Z ⊢
  have hl : lv_has ls 1 [(0, .ref (g.2.2 (3 + i)))] := hl
  refine va_gets hx hb hC Z.1 hown (hts _ tw_630) (fun x hx => hx) dJ0_coder_7d493_0 ?_
  refine lv_if_eq (tgt := 13) hx hb dJ0_coder_7d493_3 (by decide) (fun q => absurd q (by decide)) (fun _ => ?_)
  refine lv_aload_n hx hb dJ0_coder_7d493_6 rfl (lv_at hl 0 rfl) ?_
  refine vk_getf hx hb (hE.1 i hi).2.1 Z.1 hown (hts _ tw_1248) (fun x hx => hx) dJ0_coder_7d493_7 ?_
  refine lv_goto (tgt := 14) hx hb dJ0_coder_7d493_10 (by decide) ?_
  exact r_bret C Z hr (by decide +kernel) ⟨by decide, rfl⟩ dJ0_coder_7d493_14
set_option maxRecDepth 100000 in
theorem mJ_latin (l : Launch) (g : Gt) (h : Hp) (i : Nat) (hi : i < 5) : Met l yJ0_isLatin1_aae02 (WS yJ0_isLatin1_aae02 cJ0_isLatin1_aae02 1 (some .boolean)) ({ frames := 0, cells := 0, slots := 0, locals := 0 } : Room) (Pg g h [.ref (g.2.2 (3 + i))]) (Qi g h (fun r h' => r = nI 1 ∧ h' = h)) 0 0 (dm h) := by
  refine Met_of (by decide) (Nat.le_of_ble_eq_true rfl) (fun p e s m below meth c ls C hr hnm hl Z => ?_)
  have hx := C.1.1
  have hb := C.1.2.1
  have hml := C.1.2.2.1
  have hown := C.1.2.2.2.1
  have hts := C.1.2.2.2.2
  have hE := C.2.2.2.2.2.2.2.2
  have hC := C.2.2.2.2.2.2.1
  generalize s.heap = H at Z ⊢
  generalize ([] : List Loc) = locs at Z ⊢
  have hl : lv_has ls 1 [(0, .ref (g.2.2 (3 + i)))] := hl
  refine va_gets hx hb hC Z.1 hown (hts _ tw_630) (fun x hx => hx) dJ0_isLatin1_aae02_0 ?_
  refine lv_if_eq (tgt := 17) hx hb dJ0_isLatin1_aae02_3 (by decide) (fun q => absurd q (by decide)) (fun _ => ?_)
  refine lv_aload_n hx hb dJ0_isLatin1_aae02_6 rfl (lv_at hl 0 rfl) ?_
  refine vk_getf hx hb (hE.1 i hi).2.1 Z.1 hown (hts _ tw_1248) (fun x hx => hx) dJ0_isLatin1_aae02_7 ?_
  refine lv_if_ne (tgt := 17) hx hb dJ0_isLatin1_aae02_10 (by decide) (fun q => absurd rfl q) (fun _ => ?_)
  refine lv_iconst (v := nI 1) hx hb dJ0_isLatin1_aae02_13 (by decide) ?_
  refine lv_goto (tgt := 18) hx hb dJ0_isLatin1_aae02_14 (by decide) ?_
  exact r_bret C Z hr (by decide +kernel) ⟨rfl, rfl⟩ dJ0_isLatin1_aae02_18
set_option maxRecDepth 100000 in
theorem mJ_length (l : Launch) (g : Gt) (h : Hp) (i : Nat) (hi : i < 5) : Met l yJ0_length_8abf5 (WS yJ0_length_8abf5 cJ0_length_8abf5 1 (some .int)) ({ frames := 1, cells := 0, slots := 0, locals := 20 } : Room) (Pg g h [.ref (g.2.2 (3 + i))]) (Qi g h (fun r h' => r = nI (sLn i) ∧ h' = h)) 0 0 (dm h) := by
  refine Met_of (by decide) (Nat.le_of_ble_eq_true rfl) (fun p e s m below meth c ls C hr hnm hl Z => ?_)
  have hx := C.1.1
  have hb := C.1.2.1
  have hml := C.1.2.2.1
  have hown := C.1.2.2.2.1
  have hts := C.1.2.2.2.2
  have hE := C.2.2.2.2.2.2.2.2
  have hC := C.2.2.2.2.2.2.1
  generalize s.heap = H at Z ⊢
  generalize ([] : List Loc) = locs at Z ⊢
  have hl : lv_has ls 1 [(0, .ref (g.2.2 (3 + i)))] := hl
  refine lv_aload_n hx hb dJ0_length_8abf5_0 rfl (lv_at hl 0 rfl) ?_
  refine vk_getf hx hb (hE.1 i hi).2.2.1 Z.1 hown (hts _ tw_1247) (fun x hx => hx) dJ0_length_8abf5_1 ?_
  refine va_tlen (v := nI (sLn i)) hx hb (hE.1 i hi).2.2.2 Z.1 (by rw [s_len i hi]; rfl) dJ0_length_8abf5_4 ?_
  refine lv_aload_n hx hb dJ0_length_8abf5_5 rfl (lv_at hl 0 rfl) ?_
  refine r_calli Z (va_runV (As := []) (rest := [.int (nI (sLn i))]) C.1 (mJ_coder l g h i hi) (cwV 0 hts (gV tw_626 tw_627 tw_628 tw_69 tw_629) rfl rfl rfl (by decide +kernel) ⟨Nat.le_of_ble_eq_true rfl, Nat.le_of_ble_eq_true rfl⟩) ⟨Pg.blind g h _, vk_recv hE hi Z.1, Pg.of C Z⟩ rfl rfl hl.1 rfl (lv_room (Nat.le_of_ble_eq_true rfl)) dJ0_length_8abf5_6 ⟨Nat.zero_le _, Nat.zero_le _⟩) (fun r h2 H locs hk Z => ?_)
  obtain ⟨rfl, rfl⟩ := hk
  refine lv_ishr hx hb dJ0_length_8abf5_9 ?_
  exact r_iret C Z hr ⟨sb_shr0 _, rfl⟩ dJ0_length_8abf5_10
set_option maxRecDepth 100000 in
theorem mJ_check3 (l : Launch) (g : Gt) (h : Hp) (x n : Int32) (w : Value) (hw : w = .null ∨ ∃ t : Nat, w = .ref t) (h0 : ¬ x < 0) (hn : x < n) : Met l yJ3_checkIndex_8e157 (WS yJ3_checkIndex_8e157 cJ3_checkIndex_8e157 3 (some .int)) ({ frames := 0, cells := 0, slots := 0, locals := 0 } : Room) (Pg g h [.int x, .int n, w]) (Qi g h (fun r h' => r = x ∧ h' = h)) 0 0 (dm h) := by
  have hsl : (lg_sl [.int x, .int n, w]).length ≤ 3 := by rcases hw with rfl | ⟨t, rfl⟩ <;> exact Nat.le_of_ble_eq_true rfl
  refine Met_of (by decide) hsl (fun p e s m below meth c ls C hr hnm hl Z => ?_)
  have hx := C.1.1
  have hb := C.1.2.1
  have hml := C.1.2.2.1
  have hown := C.1.2.2.2.1
  have hts := C.1.2.2.2.2
  have hE := C.2.2.2.2.2.2.2.2
  have hC := C.2.2.2.2.2.2.1
  generalize s.heap = H at Z ⊢
  generalize ([] : List Loc) = locs at Z ⊢
  have hl : lv_has ls 3 [(0, .int x), (1, .int n), (2, w)] := hl
  refine lv_iload_n hx hb dJ3_checkIndex_8e157_0 rfl (lv_at hl 0 rfl) ?_
  refine lv_if_lt (tgt := 9) hx hb dJ3_checkIndex_8e157_1 (by decide) (fun q => absurd q h0) (fun _ => ?_)
  refine lv_iload_n hx hb dJ3_checkIndex_8e157_4 rfl (lv_at hl 0 rfl) ?_
  refine lv_iload_n hx hb dJ3_checkIndex_8e157_5 rfl (lv_at hl 1 rfl) ?_
  refine lv_icmp_lt (tgt := 16) hx hb dJ3_checkIndex_8e157_6 (by decide) (fun _ => ?_) (fun q => absurd hn q)
  refine lv_iload_n hx hb dJ3_checkIndex_8e157_16 rfl (lv_at hl 0 rfl) ?_
  exact r_iret C Z hr ⟨rfl, rfl⟩ dJ3_checkIndex_8e157_17
set_option maxRecDepth 100000 in
theorem mJ_check2 (l : Launch) (g : Gt) (h : Hp) (x n : Int32) (h0 : ¬ x < 0) (hn : x < n) : Met l yJ0_checkIndex_df160 (WS yJ0_checkIndex_df160 cJ0_checkIndex_df160 2 none) ({ frames := 1, cells := 0, slots := 0, locals := 22 } : Room) (Pg g h [.int x, .int n]) (Qv g h (fun h' => h' = h)) 0 0 (dm h) := by
  refine Met_of (by decide) (Nat.le_of_ble_eq_true rfl) (fun p e s m below meth c ls C hr hnm hl Z => ?_)
  have hx := C.1.1
  have hb := C.1.2.1
  have hml := C.1.2.2.1
  have hown := C.1.2.2.2.1
  have hts := C.1.2.2.2.2
  have hE := C.2.2.2.2.2.2.2.2
  have hC := C.2.2.2.2.2.2.1
  generalize s.heap = H at Z ⊢
  generalize ([] : List Loc) = locs at Z ⊢
  have hl : lv_has ls 2 [(0, .int x), (1, .int n)] := hl
  have hQ := C.2.2.2.2.2.2.2.1
  refine lv_iload_n hx hb dJ0_checkIndex_df160_0 rfl (lv_at hl 0 rfl) ?_
  refine lv_iload_n hx hb dJ0_checkIndex_df160_1 rfl (lv_at hl 1 rfl) ?_
  have key : ∀ w : Value, (w = .null ∨ ∃ t : Nat, w = .ref t) → W p l e ({ frames := 1, cells := 0, slots := 0, locals := 22 } : Room) s m ([.int x, .int n] : List Value).toArray below meth c H locs 0 0 (MQ below (Qv g h (fun h' => h' = h)) ([.int x, .int n] : List Value).toArray s 0 0 (dm h)) (F0 m 5 ls [w, .int n, .int x]) := by
    intro w hw
    refine r_calli Z (va_runS (As := [.int x, .int n, w]) (rest := []) C.1 (mJ_check3 l g h x n w hw h0 hn) (va_cwS 3 hts (gS tw_648 tw_649 tw_71 tw_650) rfl rfl rfl (by decide +kernel) ⟨Nat.le_of_ble_eq_true rfl, Nat.le_of_ble_eq_true rfl⟩) ⟨Pg.blind g h _, Pg.of C Z⟩ rfl rfl hl.1 rfl (lv_room (Nat.le_of_ble_eq_true rfl)) dJ0_checkIndex_df160_5 ⟨Nat.zero_le _, Nat.zero_le _⟩) (fun r h2 H locs hk Z => ?_)
    obtain ⟨rfl, rfl⟩ := hk
    refine lv_pop hx hb dJ0_checkIndex_df160_8 rfl ?_
    exact r_vret C Z hr rfl dJ0_checkIndex_df160_9
  rcases hQ with hQ | ⟨t, hQ⟩
  · exact va_gets hx hb hQ Z.1 hown (hts _ tw_646) (fun x hx => hx) dJ0_checkIndex_df160_2 (key _ (Or.inl rfl))
  · exact va_gets hx hb hQ Z.1 hown (hts _ tw_646) (fun x hx => hx) dJ0_checkIndex_df160_2 (key _ (Or.inr ⟨t, rfl⟩))
set_option maxRecDepth 100000 in
theorem mJ_charL (l : Launch) (g : Gt) (h : Hp) (i k : Nat) (hi : i < 5) (hk : k < sLn i) : Met l yJ1_charAt_3b067 (WS yJ1_charAt_3b067 cJ1_charAt_3b067 2 (some .char)) ({ frames := 2, cells := 0, slots := 0, locals := 43 } : Room) (Pg g h [.ref (g.2.2 (8 + i)), .int (nI k)]) (Qi g h (fun r h' => r = nI ((sTx i).getD k 0) ∧ h' = h)) 0 0 (dm h) := by
  have h31 := s_l31 i hi
  refine Met_of (by decide) (Nat.le_of_ble_eq_true rfl) (fun p e s m below meth c ls C hr hnm hl Z => ?_)
  have hx := C.1.1
  have hb := C.1.2.1
  have hml := C.1.2.2.1
  have hown := C.1.2.2.2.1
  have hts := C.1.2.2.2.2
  have hE := C.2.2.2.2.2.2.2.2
  have hC := C.2.2.2.2.2.2.1
  generalize s.heap = H at Z ⊢
  generalize ([] : List Loc) = locs at Z ⊢
  have hl : lv_has ls 2 [(0, .ref (g.2.2 (8 + i))), (1, .int (nI k))] := hl
  refine lv_iload_n hx hb dJ1_charAt_3b067_0 rfl (lv_at hl 1 rfl) ?_
  refine lv_aload_n hx hb dJ1_charAt_3b067_1 rfl (lv_at hl 0 rfl) ?_
  refine va_tlen (v := nI (sLn i)) hx hb (hE.1 i hi).2.2.2 Z.1 (by rw [s_len i hi]; rfl) dJ1_charAt_3b067_2 ?_
  refine r_callv Z (va_runS (As := [.int (nI k), .int (nI (sLn i))]) (rest := []) C.1 (mJ_check2 l g h (nI k) (nI (sLn i)) (nI_pos (by omega)) (nI_lt hk (by omega))) (va_cwS 2 hts (gS tw_643 tw_644 tw_69 tw_645) rfl rfl rfl (by decide +kernel) ⟨Nat.le_of_ble_eq_true rfl, Nat.le_of_ble_eq_true rfl⟩) ⟨Pg.blind g h _, Pg.of C Z⟩ rfl rfl hl.1 rfl (lv_room (Nat.le_of_ble_eq_true rfl)) dJ1_charAt_3b067_3 ⟨Nat.zero_le _, Nat.zero_le _⟩) (fun h2 H locs hk2 Z => ?_)
  subst hk2
  refine lv_aload_n hx hb dJ1_charAt_3b067_6 rfl (lv_at hl 0 rfl) ?_
  refine lv_iload_n hx hb dJ1_charAt_3b067_7 rfl (lv_at hl 1 rfl) ?_
  refine va_tb (v := .int ((sByts.getD i []).getD k 0)) hx hb (hE.1 i hi).2.2.2 Z.1 (by rw [s_len i hi]; exact vp_in_nI hk (by omega)) (by rw [nI_clamp (by omega)]) dJ1_charAt_3b067_8 ?_
  refine lv_sipush (v := nI 255) hx hb dJ1_charAt_3b067_9 (by decide) ?_
  refine lv_iand hx hb dJ1_charAt_3b067_12 ?_
  refine lv_i2c hx hb dJ1_charAt_3b067_13 rfl ?_
  rw [(s_byt i hi k hk).1]
  exact r_bret C Z hr (s_byt i hi k hk).2 ⟨rfl, rfl⟩ dJ1_charAt_3b067_14
set_option maxRecDepth 100000 in
theorem mJ_charS (l : Launch) (g : Gt) (h : Hp) (i k : Nat) (hi : i < 5) (hk : k < sLn i) : Met l yJ0_charAt_5068e (WS yJ0_charAt_5068e cJ0_charAt_5068e 2 (some .char)) ({ frames := 3, cells := 0, slots := 0, locals := 64 } : Room) (Pg g h [.ref (g.2.2 (3 + i)), .int (nI k)]) (Qi g h (fun r h' => r = nI ((sTx i).getD k 0) ∧ h' = h)) 0 0 (dm h) := by
  refine Met_of (by decide) (Nat.le_of_ble_eq_true rfl) (fun p e s m below meth c ls C hr hnm hl Z => ?_)
  have hx := C.1.1
  have hb := C.1.2.1
  have hml := C.1.2.2.1
  have hown := C.1.2.2.2.1
  have hts := C.1.2.2.2.2
  have hE := C.2.2.2.2.2.2.2.2
  have hC := C.2.2.2.2.2.2.1
  generalize s.heap = H at Z ⊢
  generalize ([] : List Loc) = locs at Z ⊢
  have hl : lv_has ls 2 [(0, .ref (g.2.2 (3 + i))), (1, .int (nI k))] := hl
  refine lv_aload_n hx hb dJ0_charAt_5068e_0 rfl (lv_at hl 0 rfl) ?_
  refine r_calli Z (va_runV (As := []) (rest := []) C.1 (mJ_latin l g h i hi) (cwV 0 hts (gV tw_636 tw_637 tw_638 tw_69 tw_639) rfl rfl rfl (by decide +kernel) ⟨Nat.le_of_ble_eq_true rfl, Nat.le_of_ble_eq_true rfl⟩) ⟨Pg.blind g h _, vk_recv hE hi Z.1, Pg.of C Z⟩ rfl rfl hl.1 rfl (lv_room (Nat.le_of_ble_eq_true rfl)) dJ0_charAt_5068e_1 ⟨Nat.zero_le _, Nat.zero_le _⟩) (fun r h2 H locs hk2 Z => ?_)
  obtain ⟨rfl, rfl⟩ := hk2
  refine lv_if_eq (tgt := 16) hx hb dJ0_charAt_5068e_4 (by decide) (fun q => absurd q (by decide)) (fun _ => ?_)
  refine lv_aload_n hx hb dJ0_charAt_5068e_7 rfl (lv_at hl 0 rfl) ?_
  refine vk_getf hx hb (hE.1 i hi).2.2.1 Z.1 hown (hts _ tw_1247) (fun x hx => hx) dJ0_charAt_5068e_8 ?_
  refine lv_iload_n hx hb dJ0_charAt_5068e_11 rfl (lv_at hl 1 rfl) ?_
  refine r_calli Z (va_runS (As := [.ref (g.2.2 (8 + i)), .int (nI k)]) (rest := []) C.1 (mJ_charL l g _ i k hi hk) (va_cwS 2 hts (gS tw_640 tw_641 tw_70 tw_642) rfl rfl rfl (by decide +kernel) ⟨Nat.le_of_ble_eq_true rfl, Nat.le_of_ble_eq_true rfl⟩) ⟨Pg.blind g _ _, Pg.of C Z⟩ rfl rfl hl.1 rfl (lv_room (Nat.le_of_ble_eq_true rfl)) dJ0_charAt_5068e_12 ⟨Nat.zero_le _, Nat.zero_le _⟩) (fun r h2 H locs hk2 Z => ?_)
  obtain ⟨rfl, rfl⟩ := hk2
  exact r_bret C Z hr (s_byt i hi k hk).2 ⟨rfl, rfl⟩ dJ0_charAt_5068e_15
section STR2
variable {p : Program} {l : Launch} {e : Env} {R : Room} {s : State} {m : MethodId} {args : Array Value} {below : List Frame} {meth : Method} {c : Code} {H : Heap} {locs : List Loc} {cells slots : Nat} {Q : State → Prop}
variable {cc : ByteArray} {pc : Nat} {ls : Array Slot} {rest : List Value} {g : Gt} {A : Nat → Prop} {h : Hp} {a : Nat} {own : String} {nL : Nat}
theorem r_slen (C : Cx g A RX7 cc nL p s m args meth c) (Z : St g A s h H locs) {i : Nat} (hi : i < 5) (hsize : ls.size = nL) (hR : 4 ≤ R.frames ∧ 100 ≤ R.locals) (hf : cells ≤ R.cells ∧ slots ≤ R.slots) (hW : (rest.map fun v => v.category).sum ≤ 8) (hdg : decode cc pc = .ok (.invokevirtual 32, 3))
    (kk : ∀ (H1 : Heap) (locs1 : List Loc), St g A s h H1 locs1 → W p l e R s m args below meth c H1 locs1 cells slots Q (F0 m (pc + 3) ls (.int (nI (sLn i)) :: rest))) : W p l e R s m args below meth c H locs cells slots Q (F0 m pc ls (.ref (g.2.2 (3 + i)) :: rest)) := by
  refine r_calli Z (va_runV (As := []) (rest := rest) C.1 (mJ_length l g h i hi) (cwV 0 C.1.2.2.2.2 (gV tw_622 tw_623 tw_624 tw_69 tw_625) rfl rfl rfl (by decide +kernel) ⟨by show 1 + 1 ≤ _; omega, by show 8 + (1 + 11) + 20 ≤ _; omega⟩) ⟨Pg.blind g h _, vk_recv C.2.2.2.2.2.2.2.2 hi Z.1, Pg.of C Z⟩ rfl rfl hsize rfl (lv_room hW) hdg hf) (fun r h2 H1 locs1 hk Z1 => ?_)
  obtain ⟨rfl, rfl⟩ := hk
  exact kk H1 locs1 Z1
theorem sCh_of {i : Nat} {x v : Int32} (hi : i < 5) (e : sCh i x = some v) : ∃ k : Nat, k < sLn i ∧ x = nI k ∧ v = nI ((sTx i).getD k 0) := by
  unfold sCh at e
  split at e
  · rename_i z
    obtain ⟨k, hk, rfl⟩ := vp_in_of (n := sLn i) z (s_l31 i hi)
    rw [nI_clamp (by have := s_l31 i hi; omega)] at e
    exact ⟨k, hk, rfl, (Option.some.inj e).symm⟩
  · cases e
theorem r_scharAt (C : Cx g A RX7 cc nL p s m args meth c) (Z : St g A s h H locs) {i : Nat} (hi : i < 5) (hsize : ls.size = nL) (hR : 4 ≤ R.frames ∧ 100 ≤ R.locals) (hf : cells ≤ R.cells ∧ slots ≤ R.slots) (hW : (rest.map fun v => v.category).sum ≤ 8) {x v : Int32} (hv : sCh i x = some v) (hdg : decode cc pc = .ok (.invokevirtual 37, 3))
    (kk : ∀ (H1 : Heap) (locs1 : List Loc), St g A s h H1 locs1 → W p l e R s m args below meth c H1 locs1 cells slots Q (F0 m (pc + 3) ls (.int v :: rest))) : W p l e R s m args below meth c H locs cells slots Q (F0 m pc ls (.int x :: .ref (g.2.2 (3 + i)) :: rest)) := by
  obtain ⟨k, hk, rfl, rfl⟩ := sCh_of hi hv
  refine r_calli Z (va_runV (As := [.int (nI k)]) (rest := rest) C.1 (mJ_charS l g h i k hi hk) (cwV 1 C.1.2.2.2.2 (gV tw_632 tw_633 tw_634 tw_69 tw_635) rfl rfl rfl (by decide +kernel) ⟨by show 3 + 1 ≤ _; omega, by show 8 + (2 + 11) + 64 ≤ _; omega⟩) ⟨Pg.blind g h _, vk_recv C.2.2.2.2.2.2.2.2 hi Z.1, Pg.of C Z⟩ rfl rfl hsize rfl (lv_room hW) hdg hf) (fun r h2 H1 locs1 hk Z1 => ?_)
  obtain ⟨rfl, rfl⟩ := hk
  exact kk H1 locs1 Z1
end STR2
