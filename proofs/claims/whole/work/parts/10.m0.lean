abbrev rmX0_copyFrom : Room := ({ frames := 1, cells := 0, slots := 0, locals := 40 } : Room)
abbrev wzX0_copyFrom : List Cond := WS yX0_copyFrom cX0_copyFrom 2 none
set_option maxRecDepth 100000 in
set_option maxHeartbeats 4000000 in
theorem m_X0_copyFrom (l : Launch) (g : Gt) (h : Hp) (x0 : Nat) (x1 : Nat) (Post : Hp → Prop) (hk : wp_X0_copyFrom x0 x1 Post h) : Met l yX0_copyFrom wzX0_copyFrom rmX0_copyFrom (Pg g h [.ref x0, .ref x1]) (Qv g h Post) 0 0 (dm h) := by
  refine Met_of (cc := cX0_copyFrom) (maxL := 2) (ret := none) (by decide) (Nat.le_of_ble_eq_true rfl) (fun p e s m below meth c ls C hr hnm hl Z => ?_)
  have hx := C.1.1
  have hb := C.1.2.1
  have hml := C.1.2.2.1
  have hown := C.1.2.2.2.1
  have hts := C.1.2.2.2.2
  have hl : lv_has ls 2 [(0, .ref x0), (1, .ref x1)] := hl
  unfold wp_X0_copyFrom at hk
  generalize s.heap = H at Z ⊢
  generalize ([] : List Loc) = locs at Z ⊢
  refine lv_aload_n hx hb dX0_copyFrom_0 rfl (lv_at hl 0 rfl) ?_
  refine lv_aload_n hx hb dX0_copyFrom_1 rfl (lv_at hl 1 rfl) ?_
  obtain ⟨v2, hv, hk⟩ := hk
  refine r_get (ci := 0) (k := 0) (T := TX0) (N := 11) C Z hv ku_0 rfl (by decide) tw_99 dX0_copyFrom_2 ?_
  obtain ⟨h5, hv, hk⟩ := hk
  refine r_put (ci := 0) (k := 0) (T := TX0) (N := 11) C Z hv ku_0 tyX0_ok nmX0 rfl (by decide) tw_99 rfl rfl rfl dX0_copyFrom_5 (fun H locs Z => ?_)
  refine lv_aload_n hx hb dX0_copyFrom_8 rfl (lv_at hl 0 rfl) ?_
  refine lv_aload_n hx hb dX0_copyFrom_9 rfl (lv_at hl 1 rfl) ?_
  obtain ⟨v10, hv, hk⟩ := hk
  refine r_get (ci := 0) (k := 1) (T := TX0) (N := 11) C Z hv ku_0 rfl (by decide) tw_103 dX0_copyFrom_10 ?_
  obtain ⟨h13, hv, hk⟩ := hk
  refine r_put (ci := 0) (k := 1) (T := TX0) (N := 11) C Z hv ku_0 tyX0_ok nmX0 rfl (by decide) tw_103 rfl rfl rfl dX0_copyFrom_13 (fun H locs Z => ?_)
  refine lv_aload_n hx hb dX0_copyFrom_16 rfl (lv_at hl 1 rfl) ?_
  obtain ⟨v17, hv, hk⟩ := hk
  refine r_get (ci := 0) (k := 2) (T := TX0) (N := 11) C Z hv ku_0 rfl (by decide) tw_107 dX0_copyFrom_17 ?_
  refine lv_iconst (v := (nI 0)) hx hb dX0_copyFrom_20 (by decide) ?_
  refine lv_aload_n hx hb dX0_copyFrom_21 rfl (lv_at hl 0 rfl) ?_
  obtain ⟨v22, hv, hk⟩ := hk
  refine r_get (ci := 0) (k := 2) (T := TX0) (N := 11) C Z hv ku_0 rfl (by decide) tw_107 dX0_copyFrom_22 ?_
  refine lv_iconst (v := (nI 0)) hx hb dX0_copyFrom_25 (by decide) ?_
  refine lv_bipush (v := (nI 40)) hx hb dX0_copyFrom_26 (by decide) ?_
  obtain ⟨h28, hv, hk⟩ := hk
  refine r_copyI C Z hv (hml.trans hl.1.symm) (hts _ tw_368) (hts _ tw_370) (hts _ tw_369) (hts _ tw_67) (Nat.le_of_ble_eq_true rfl) (Nat.le_of_ble_eq_true rfl) dX0_copyFrom_28 (fun H locs Z => ?_)
  refine lv_aload_n hx hb dX0_copyFrom_31 rfl (lv_at hl 1 rfl) ?_
  obtain ⟨v32, hv, hk⟩ := hk
  refine r_get (ci := 0) (k := 3) (T := TX0) (N := 11) C Z hv ku_0 rfl (by decide) tw_111 dX0_copyFrom_32 ?_
  refine lv_iconst (v := (nI 0)) hx hb dX0_copyFrom_35 (by decide) ?_
  refine lv_aload_n hx hb dX0_copyFrom_36 rfl (lv_at hl 0 rfl) ?_
  obtain ⟨v37, hv, hk⟩ := hk
  refine r_get (ci := 0) (k := 3) (T := TX0) (N := 11) C Z hv ku_0 rfl (by decide) tw_111 dX0_copyFrom_37 ?_
  refine lv_iconst (v := (nI 0)) hx hb dX0_copyFrom_40 (by decide) ?_
  refine lv_bipush (v := (nI 40)) hx hb dX0_copyFrom_41 (by decide) ?_
  obtain ⟨h43, hv, hk⟩ := hk
  refine r_copyI C Z hv (hml.trans hl.1.symm) (hts _ tw_368) (hts _ tw_370) (hts _ tw_369) (hts _ tw_67) (Nat.le_of_ble_eq_true rfl) (Nat.le_of_ble_eq_true rfl) dX0_copyFrom_43 (fun H locs Z => ?_)
  refine lv_aload_n hx hb dX0_copyFrom_46 rfl (lv_at hl 1 rfl) ?_
  obtain ⟨v47, hv, hk⟩ := hk
  refine r_get (ci := 0) (k := 4) (T := TX0) (N := 11) C Z hv ku_0 rfl (by decide) tw_115 dX0_copyFrom_47 ?_
  refine lv_iconst (v := (nI 0)) hx hb dX0_copyFrom_50 (by decide) ?_
  refine lv_aload_n hx hb dX0_copyFrom_51 rfl (lv_at hl 0 rfl) ?_
  obtain ⟨v52, hv, hk⟩ := hk
  refine r_get (ci := 0) (k := 4) (T := TX0) (N := 11) C Z hv ku_0 rfl (by decide) tw_115 dX0_copyFrom_52 ?_
  refine lv_iconst (v := (nI 0)) hx hb dX0_copyFrom_55 (by decide) ?_
  refine lv_bipush (v := (nI 40)) hx hb dX0_copyFrom_56 (by decide) ?_
  obtain ⟨h58, hv, hk⟩ := hk
  refine r_copyI C Z hv (hml.trans hl.1.symm) (hts _ tw_368) (hts _ tw_370) (hts _ tw_369) (hts _ tw_67) (Nat.le_of_ble_eq_true rfl) (Nat.le_of_ble_eq_true rfl) dX0_copyFrom_58 (fun H locs Z => ?_)
  refine lv_aload_n hx hb dX0_copyFrom_61 rfl (lv_at hl 1 rfl) ?_
  obtain ⟨v62, hv, hk⟩ := hk
  refine r_get (ci := 0) (k := 5) (T := TX0) (N := 11) C Z hv ku_0 rfl (by decide) tw_119 dX0_copyFrom_62 ?_
  refine lv_iconst (v := (nI 0)) hx hb dX0_copyFrom_65 (by decide) ?_
  refine lv_aload_n hx hb dX0_copyFrom_66 rfl (lv_at hl 0 rfl) ?_
  obtain ⟨v67, hv, hk⟩ := hk
  refine r_get (ci := 0) (k := 5) (T := TX0) (N := 11) C Z hv ku_0 rfl (by decide) tw_119 dX0_copyFrom_67 ?_
  refine lv_iconst (v := (nI 0)) hx hb dX0_copyFrom_70 (by decide) ?_
  refine lv_bipush (v := (nI 40)) hx hb dX0_copyFrom_71 (by decide) ?_
  obtain ⟨h73, hv, hk⟩ := hk
  refine r_copyL C Z hv (hml.trans hl.1.symm) (hts _ tw_368) (hts _ tw_370) (hts _ tw_369) (hts _ tw_67) (Nat.le_of_ble_eq_true rfl) (Nat.le_of_ble_eq_true rfl) dX0_copyFrom_73 (fun H locs Z => ?_)
  refine lv_aload_n hx hb dX0_copyFrom_76 rfl (lv_at hl 1 rfl) ?_
  obtain ⟨v77, hv, hk⟩ := hk
  refine r_get (ci := 0) (k := 6) (T := TX0) (N := 11) C Z hv ku_0 rfl (by decide) tw_122 dX0_copyFrom_77 ?_
  refine lv_iconst (v := (nI 0)) hx hb dX0_copyFrom_80 (by decide) ?_
  refine lv_aload_n hx hb dX0_copyFrom_81 rfl (lv_at hl 0 rfl) ?_
  obtain ⟨v82, hv, hk⟩ := hk
  refine r_get (ci := 0) (k := 6) (T := TX0) (N := 11) C Z hv ku_0 rfl (by decide) tw_122 dX0_copyFrom_82 ?_
  refine lv_iconst (v := (nI 0)) hx hb dX0_copyFrom_85 (by decide) ?_
  refine lv_bipush (v := (nI 40)) hx hb dX0_copyFrom_86 (by decide) ?_
  obtain ⟨h88, hv, hk⟩ := hk
  refine r_copyL C Z hv (hml.trans hl.1.symm) (hts _ tw_368) (hts _ tw_370) (hts _ tw_369) (hts _ tw_67) (Nat.le_of_ble_eq_true rfl) (Nat.le_of_ble_eq_true rfl) dX0_copyFrom_88 (fun H locs Z => ?_)
  refine lv_aload_n hx hb dX0_copyFrom_91 rfl (lv_at hl 1 rfl) ?_
  obtain ⟨v92, hv, hk⟩ := hk
  refine r_get (ci := 0) (k := 7) (T := TX0) (N := 11) C Z hv ku_0 rfl (by decide) tw_125 dX0_copyFrom_92 ?_
  refine lv_iconst (v := (nI 0)) hx hb dX0_copyFrom_95 (by decide) ?_
  refine lv_aload_n hx hb dX0_copyFrom_96 rfl (lv_at hl 0 rfl) ?_
  obtain ⟨v97, hv, hk⟩ := hk
  refine r_get (ci := 0) (k := 7) (T := TX0) (N := 11) C Z hv ku_0 rfl (by decide) tw_125 dX0_copyFrom_97 ?_
  refine lv_iconst (v := (nI 0)) hx hb dX0_copyFrom_100 (by decide) ?_
  refine lv_iconst (v := (nI 3)) hx hb dX0_copyFrom_101 (by decide) ?_
  obtain ⟨h102, hv, hk⟩ := hk
  refine r_copyI C Z hv (hml.trans hl.1.symm) (hts _ tw_368) (hts _ tw_370) (hts _ tw_369) (hts _ tw_67) (Nat.le_of_ble_eq_true rfl) (Nat.le_of_ble_eq_true rfl) dX0_copyFrom_102 (fun H locs Z => ?_)
  refine lv_aload_n hx hb dX0_copyFrom_105 rfl (lv_at hl 1 rfl) ?_
  obtain ⟨v106, hv, hk⟩ := hk
  refine r_get (ci := 0) (k := 8) (T := TX0) (N := 11) C Z hv ku_0 rfl (by decide) tw_127 dX0_copyFrom_106 ?_
  refine lv_iconst (v := (nI 0)) hx hb dX0_copyFrom_109 (by decide) ?_
  refine lv_aload_n hx hb dX0_copyFrom_110 rfl (lv_at hl 0 rfl) ?_
  obtain ⟨v111, hv, hk⟩ := hk
  refine r_get (ci := 0) (k := 8) (T := TX0) (N := 11) C Z hv ku_0 rfl (by decide) tw_127 dX0_copyFrom_111 ?_
  refine lv_iconst (v := (nI 0)) hx hb dX0_copyFrom_114 (by decide) ?_
  refine lv_iconst (v := (nI 4)) hx hb dX0_copyFrom_115 (by decide) ?_
  obtain ⟨h116, hv, hk⟩ := hk
  refine r_copyI C Z hv (hml.trans hl.1.symm) (hts _ tw_368) (hts _ tw_370) (hts _ tw_369) (hts _ tw_67) (Nat.le_of_ble_eq_true rfl) (Nat.le_of_ble_eq_true rfl) dX0_copyFrom_116 (fun H locs Z => ?_)
  refine lv_aload_n hx hb dX0_copyFrom_119 rfl (lv_at hl 1 rfl) ?_
  obtain ⟨v120, hv, hk⟩ := hk
  refine r_get (ci := 0) (k := 9) (T := TX0) (N := 11) C Z hv ku_0 rfl (by decide) tw_131 dX0_copyFrom_120 ?_
  refine lv_iconst (v := (nI 0)) hx hb dX0_copyFrom_123 (by decide) ?_
  refine lv_aload_n hx hb dX0_copyFrom_124 rfl (lv_at hl 0 rfl) ?_
  obtain ⟨v125, hv, hk⟩ := hk
  refine r_get (ci := 0) (k := 9) (T := TX0) (N := 11) C Z hv ku_0 rfl (by decide) tw_131 dX0_copyFrom_125 ?_
  refine lv_iconst (v := (nI 0)) hx hb dX0_copyFrom_128 (by decide) ?_
  refine lv_bipush (v := (nI 6)) hx hb dX0_copyFrom_129 (by decide) ?_
  obtain ⟨h131, hv, hk⟩ := hk
  refine r_copyI C Z hv (hml.trans hl.1.symm) (hts _ tw_368) (hts _ tw_370) (hts _ tw_369) (hts _ tw_67) (Nat.le_of_ble_eq_true rfl) (Nat.le_of_ble_eq_true rfl) dX0_copyFrom_131 (fun H locs Z => ?_)
  refine lv_aload_n hx hb dX0_copyFrom_134 rfl (lv_at hl 1 rfl) ?_
  obtain ⟨v135, hv, hk⟩ := hk
  refine r_get (ci := 0) (k := 10) (T := TX0) (N := 11) C Z hv ku_0 rfl (by decide) tw_133 dX0_copyFrom_135 ?_
  refine lv_iconst (v := (nI 0)) hx hb dX0_copyFrom_138 (by decide) ?_
  refine lv_aload_n hx hb dX0_copyFrom_139 rfl (lv_at hl 0 rfl) ?_
  obtain ⟨v140, hv, hk⟩ := hk
  refine r_get (ci := 0) (k := 10) (T := TX0) (N := 11) C Z hv ku_0 rfl (by decide) tw_133 dX0_copyFrom_140 ?_
  refine lv_iconst (v := (nI 0)) hx hb dX0_copyFrom_143 (by decide) ?_
  refine lv_sipush (v := (nI 240)) hx hb dX0_copyFrom_144 (by decide) ?_
  obtain ⟨h147, hv, hk⟩ := hk
  refine r_copyI C Z hv (hml.trans hl.1.symm) (hts _ tw_368) (hts _ tw_370) (hts _ tw_369) (hts _ tw_67) (Nat.le_of_ble_eq_true rfl) (Nat.le_of_ble_eq_true rfl) dX0_copyFrom_147 (fun H locs Z => ?_)
  exact r_vret C Z hr hk dX0_copyFrom_150
abbrev rmX5_copyFrom : Room := ({ frames := 2, cells := 0, slots := 0, locals := 61 } : Room)
abbrev wzX5_copyFrom : List Cond := WS yX5_copyFrom cX5_copyFrom 3 none
set_option maxRecDepth 100000 in
set_option maxHeartbeats 4000000 in
theorem w_X5_copyFrom_2 {p : Program} {l : Launch} {e : Env} {s : State} {m : MethodId} {args : Array Value} {below : List Frame} {meth : Method} {c : Code} {g : Gt} {h0 : Hp} (C : Cx g (dm h0) RX5 cX5_copyFrom 3 p s m args meth c) (hr : meth.sig.returnType = none) {Post : Hp → Prop} (x0 : Nat) (x1 : Nat)   : ∀ (n : Nat) (x2 : Int32) (h : Hp) (H : Heap) (locs : List Loc) (ls : Array Slot), lv_has ls 3 [(0, .ref x0), (1, .ref x1), (2, .int x2)] → St g (dm h0) s h H locs → wp_X5_copyFrom_2 Post x0 x1 n x2 h → W p l e rmX5_copyFrom s m args below meth c H locs 0 0 (MQ below (Qv g h0 Post) args s 0 0 (dm h0)) (F0 m 2 ls []) := by
  have hx := C.1.1
  have hb := C.1.2.1
  have hml := C.1.2.2.1
  have hown := C.1.2.2.2.1
  have hts := C.1.2.2.2.2
  intro n
  induction n with
  | zero => intro x2 h H locs ls hl Z hk; exact (show False from hk).elim
  | succ n ih =>
    intro x2 h H locs ls hl Z hk
    unfold wp_X5_copyFrom_2 at hk
    refine lv_iload_n hx hb dX5_copyFrom_2 rfl (lv_at hl 2 rfl) ?_
    refine lv_iconst (v := (nI 2)) hx hb dX5_copyFrom_3 (by decide) ?_
    refine lv_icmp_ge (tgt := 49) hx hb dX5_copyFrom_4 (by decide) (fun q => ?_) (fun q => ?_)
    · have hk := hk.1 q
      exact r_vret C Z hr hk dX5_copyFrom_49
    · have hk := hk.2 q
      refine lv_aload_n hx hb dX5_copyFrom_7 rfl (lv_at hl 0 rfl) ?_
      obtain ⟨v8, hv, hk⟩ := hk
      refine r_get (ci := 5) (k := 1) (T := TX5) (N := 2) C Z hv ku_5 rfl (by decide) tw_237 dX5_copyFrom_8 ?_
      refine lv_iload_n hx hb dX5_copyFrom_11 rfl (lv_at hl 2 rfl) ?_
      refine lv_aload_n hx hb dX5_copyFrom_12 rfl (lv_at hl 1 rfl) ?_
      obtain ⟨v13, hv, hk⟩ := hk
      refine r_get (ci := 5) (k := 1) (T := TX5) (N := 2) C Z hv ku_5 rfl (by decide) tw_237 dX5_copyFrom_13 ?_
      refine lv_iload_n hx hb dX5_copyFrom_16 rfl (lv_at hl 2 rfl) ?_
      obtain ⟨v17, hv, hk⟩ := hk
      refine r_zald C Z hv dX5_copyFrom_17 ?_
      obtain ⟨h18, hv, hk⟩ := hk
      refine r_zast C Z hv dX5_copyFrom_18 (fun H locs Z => ?_)
      refine lv_aload_n hx hb dX5_copyFrom_19 rfl (lv_at hl 0 rfl) ?_
      obtain ⟨v20, hv, hk⟩ := hk
      refine r_get (ci := 5) (k := 1) (T := TX5) (N := 2) C Z hv ku_5 rfl (by decide) tw_237 dX5_copyFrom_20 ?_
      refine lv_iload_n hx hb dX5_copyFrom_23 rfl (lv_at hl 2 rfl) ?_
      obtain ⟨v24, hv, hk⟩ := hk
      refine r_zald C Z hv dX5_copyFrom_24 ?_
      refine lv_if_eq (tgt := 43) hx hb dX5_copyFrom_25 (by decide) (fun q => ?_) (fun q => ?_)
      · have hk := hk.1 q
        obtain ⟨y43, ey43⟩ : ∃ y : Int32, y = x2 + (nI 1) := ⟨_, rfl⟩
        have hk := hk y43 ey43
        refine lv_iinc (v := y43) (lv' := [(2, .int y43), (0, .ref x0), (1, .ref x1)]) hx hb dX5_copyFrom_43 hl (k := 2) rfl (by rw [ey43]; rfl) (by decide) rfl (fun ls hl => ?_)
        refine lv_goto (tgt := 2) hx hb dX5_copyFrom_46 (by decide) ?_
        exact ih y43 h18 _ _ _ (lv_sub hl [1, 2, 0] rfl) Z hk
      · have hk := hk.2 q
        refine lv_aload_n hx hb dX5_copyFrom_28 rfl (lv_at hl 0 rfl) ?_
        obtain ⟨v29, hv, hk⟩ := hk
        refine r_get (ci := 5) (k := 0) (T := TX5) (N := 2) C Z hv ku_5 rfl (by decide) tw_236 dX5_copyFrom_29 ?_
        refine lv_iload_n hx hb dX5_copyFrom_32 rfl (lv_at hl 2 rfl) ?_
        obtain ⟨v33, hv, hk⟩ := hk
        refine r_aald3 C Z hv dX5_copyFrom_33 ?_
        refine lv_aload_n hx hb dX5_copyFrom_34 rfl (lv_at hl 1 rfl) ?_
        obtain ⟨v35, hv, hk⟩ := hk
        refine r_get (ci := 5) (k := 0) (T := TX5) (N := 2) C Z hv ku_5 rfl (by decide) tw_236 dX5_copyFrom_35 ?_
        refine lv_iload_n hx hb dX5_copyFrom_38 rfl (lv_at hl 2 rfl) ?_
        obtain ⟨v39, hv, hk⟩ := hk
        refine r_aald3 C Z hv dX5_copyFrom_39 ?_
        obtain ⟨ho, hk⟩ := hk
        refine r_callv Z (r_runV (As := [.ref v39]) (rest := []) C Z (m_X0_copyFrom l g h18 v33 v39 _ hk) ho rfl (cwV 1 C.1.2.2.2.2 (gV tw_375 tw_365 tw_366 tw_60 tw_367) rfl rfl rfl (by decide +kernel) ⟨Nat.le_of_ble_eq_true rfl, Nat.le_of_ble_eq_true rfl⟩) rfl hl.1 rfl (Nat.le_of_ble_eq_true rfl) dX5_copyFrom_40 ⟨Nat.zero_le _, Nat.zero_le _⟩) (fun h40 H locs hk Z => ?_)
        obtain ⟨y43, ey43⟩ : ∃ y : Int32, y = x2 + (nI 1) := ⟨_, rfl⟩
        have hk := hk y43 ey43
        refine lv_iinc (v := y43) (lv' := [(2, .int y43), (0, .ref x0), (1, .ref x1)]) hx hb dX5_copyFrom_43 hl (k := 2) rfl (by rw [ey43]; rfl) (by decide) rfl (fun ls hl => ?_)
        refine lv_goto (tgt := 2) hx hb dX5_copyFrom_46 (by decide) ?_
        exact ih y43 h40 _ _ _ (lv_sub hl [1, 2, 0] rfl) Z hk
set_option maxRecDepth 100000 in
set_option maxHeartbeats 4000000 in
theorem m_X5_copyFrom (l : Launch) (g : Gt) (h : Hp) (x0 : Nat) (x1 : Nat) (Post : Hp → Prop) (hk : wp_X5_copyFrom x0 x1 Post h) : Met l yX5_copyFrom wzX5_copyFrom rmX5_copyFrom (Pg g h [.ref x0, .ref x1]) (Qv g h Post) 0 0 (dm h) := by
  refine Met_of (cc := cX5_copyFrom) (maxL := 3) (ret := none) (by decide) (Nat.le_of_ble_eq_true rfl) (fun p e s m below meth c ls C hr hnm hl Z => ?_)
  have hx := C.1.1
  have hb := C.1.2.1
  have hml := C.1.2.2.1
  have hown := C.1.2.2.2.1
  have hts := C.1.2.2.2.2
  have hl : lv_has ls 3 [(0, .ref x0), (1, .ref x1)] := hl
  unfold wp_X5_copyFrom at hk
  generalize s.heap = H at Z ⊢
  generalize ([] : List Loc) = locs at Z ⊢
  refine lv_iconst (v := (nI 0)) hx hb dX5_copyFrom_0 (by decide) ?_
  refine lv_istore_n (lv' := [(2, .int (nI 0)), (0, .ref x0), (1, .ref x1)]) hx hb dX5_copyFrom_1 rfl hl (by decide) rfl (fun ls hl => ?_)
  obtain ⟨n1, hk⟩ := hk
  exact w_X5_copyFrom_2 C hr x0 x1 n1 (nI 0) h _ _ _ (lv_sub hl [1, 2, 0] rfl) Z hk
abbrev rmX6_keep : Room := ({ frames := 3, cells := 0, slots := 0, locals := 83 } : Room)
abbrev wzX6_keep : List Cond := WS yX6_keep cX6_keep 3 none
set_option maxRecDepth 100000 in
set_option maxHeartbeats 4000000 in
theorem m_X6_keep (l : Launch) (g : Gt) (h : Hp) (x0 : Nat) (x1 : Nat) (x2 : Nat) (Post : Hp → Prop) (hk : wp_X6_keep x0 x1 x2 Post h) : Met l yX6_keep wzX6_keep rmX6_keep (Pg g h [.ref x0, .ref x1, .ref x2]) (Qv g h Post) 0 0 (dm h) := by
  refine Met_of (cc := cX6_keep) (maxL := 3) (ret := none) (by decide) (Nat.le_of_ble_eq_true rfl) (fun p e s m below meth c ls C hr hnm hl Z => ?_)
  have hx := C.1.1
  have hb := C.1.2.1
  have hml := C.1.2.2.1
  have hown := C.1.2.2.2.1
  have hts := C.1.2.2.2.2
  have hl : lv_has ls 3 [(0, .ref x0), (1, .ref x1), (2, .ref x2)] := hl
  unfold wp_X6_keep at hk
  generalize s.heap = H at Z ⊢
  generalize ([] : List Loc) = locs at Z ⊢
  refine lv_aload_n hx hb dX6_keep_0 rfl (lv_at hl 0 rfl) ?_
  obtain ⟨v1, hv, hk⟩ := hk
  refine r_get (ci := 6) (k := 0) (T := TX6) (N := 2) C Z hv ku_6 rfl (by decide) tw_260 dX6_keep_1 ?_
  refine lv_aload_n hx hb dX6_keep_4 rfl (lv_at hl 1 rfl) ?_
  obtain ⟨ho, hk⟩ := hk
  refine r_callv Z (r_runV (As := [.ref x1]) (rest := []) C Z (m_X0_copyFrom l g h v1 x1 _ hk) ho rfl (cwV 1 C.1.2.2.2.2 (gV tw_364 tw_365 tw_366 tw_60 tw_367) rfl rfl rfl (by decide +kernel) ⟨Nat.le_of_ble_eq_true rfl, Nat.le_of_ble_eq_true rfl⟩) rfl hl.1 rfl (Nat.le_of_ble_eq_true rfl) dX6_keep_5 ⟨Nat.zero_le _, Nat.zero_le _⟩) (fun h5 H locs hk Z => ?_)
  refine lv_aload_n hx hb dX6_keep_8 rfl (lv_at hl 0 rfl) ?_
  obtain ⟨v9, hv, hk⟩ := hk
  refine r_get (ci := 6) (k := 1) (T := TX6) (N := 2) C Z hv ku_6 rfl (by decide) tw_261 dX6_keep_9 ?_
  refine lv_aload_n hx hb dX6_keep_12 rfl (lv_at hl 2 rfl) ?_
  obtain ⟨ho, hk⟩ := hk
  refine r_callv Z (r_runV (As := [.ref x2]) (rest := []) C Z (m_X5_copyFrom l g h5 v9 x2 _ hk) ho rfl (cwV 1 C.1.2.2.2.2 (gV tw_371 tw_372 tw_373 tw_61 tw_374) rfl rfl rfl (by decide +kernel) ⟨Nat.le_of_ble_eq_true rfl, Nat.le_of_ble_eq_true rfl⟩) rfl hl.1 rfl (Nat.le_of_ble_eq_true rfl) dX6_keep_13 ⟨Nat.zero_le _, Nat.zero_le _⟩) (fun h13 H locs hk Z => ?_)
  exact r_vret C Z hr hk dX6_keep_16
abbrev rmX2_prepare : Room := ({ frames := 4, cells := 0, slots := 0, locals := 105 } : Room)
abbrev wzX2_prepare : List Cond := WS yX2_prepare cX2_prepare 3 none
set_option maxRecDepth 100000 in
set_option maxHeartbeats 4000000 in
theorem m_X2_prepare (l : Launch) (g : Gt) (h : Hp) (x0 : Nat) (x1 : Nat) (x2 : Nat) (Post : Hp → Prop) (hk : wp_X2_prepare x0 x1 x2 Post h) : Met l yX2_prepare wzX2_prepare rmX2_prepare (Pg g h [.ref x0, .ref x1, .ref x2]) (Qv g h Post) 0 0 (dm h) := by
  refine Met_of (cc := cX2_prepare) (maxL := 3) (ret := none) (by decide) (Nat.le_of_ble_eq_true rfl) (fun p e s m below meth c ls C hr hnm hl Z => ?_)
  have hx := C.1.1
  have hb := C.1.2.1
  have hml := C.1.2.2.1
  have hown := C.1.2.2.2.1
  have hts := C.1.2.2.2.2
  have hl : lv_has ls 3 [(0, .ref x0), (1, .ref x1), (2, .ref x2)] := hl
  unfold wp_X2_prepare at hk
  generalize s.heap = H at Z ⊢
  generalize ([] : List Loc) = locs at Z ⊢
  refine lv_aload_n hx hb dX2_prepare_0 rfl (lv_at hl 0 rfl) ?_
  obtain ⟨v1, hv, hk⟩ := hk
  refine r_get (ci := 2) (k := 0) (T := TX2) (N := 2) C Z hv ku_2 rfl (by decide) tw_267 dX2_prepare_1 ?_
  refine lv_aload_n hx hb dX2_prepare_4 rfl (lv_at hl 0 rfl) ?_
  obtain ⟨v5, hv, hk⟩ := hk
  refine r_get (ci := 2) (k := 1) (T := TX2) (N := 2) C Z hv ku_2 rfl (by decide) tw_269 dX2_prepare_5 ?_
  obtain ⟨v8, hv, hk⟩ := hk
  refine r_alen C Z hv dX2_prepare_8 ?_
  refine lv_icmp_ge (tgt := 26) hx hb dX2_prepare_9 (by decide) (fun q => ?_) (fun q => ?_)
  · have hk := hk.1 q
    exact r_vret C Z hr hk dX2_prepare_26
  · have hk := hk.2 q
    refine lv_aload_n hx hb dX2_prepare_12 rfl (lv_at hl 0 rfl) ?_
    obtain ⟨v13, hv, hk⟩ := hk
    refine r_get (ci := 2) (k := 1) (T := TX2) (N := 2) C Z hv ku_2 rfl (by decide) tw_269 dX2_prepare_13 ?_
    refine lv_aload_n hx hb dX2_prepare_16 rfl (lv_at hl 0 rfl) ?_
    obtain ⟨v17, hv, hk⟩ := hk
    refine r_get (ci := 2) (k := 0) (T := TX2) (N := 2) C Z hv ku_2 rfl (by decide) tw_267 dX2_prepare_17 ?_
    obtain ⟨v20, hv, hk⟩ := hk
    refine r_aald4 C Z hv dX2_prepare_20 ?_
    refine lv_aload_n hx hb dX2_prepare_21 rfl (lv_at hl 1 rfl) ?_
    refine lv_aload_n hx hb dX2_prepare_22 rfl (lv_at hl 2 rfl) ?_
    obtain ⟨ho, hk⟩ := hk
    refine r_callv Z (r_runV (As := [.ref x1, .ref x2]) (rest := []) C Z (m_X6_keep l g h v20 x1 x2 _ hk) ho rfl (cwV 2 C.1.2.2.2.2 (gV tw_360 tw_361 tw_362 tw_63 tw_363) rfl rfl rfl (by decide +kernel) ⟨Nat.le_of_ble_eq_true rfl, Nat.le_of_ble_eq_true rfl⟩) rfl hl.1 rfl (Nat.le_of_ble_eq_true rfl) dX2_prepare_23 ⟨Nat.zero_le _, Nat.zero_le _⟩) (fun h23 H locs hk Z => ?_)
    exact r_vret C Z hr hk dX2_prepare_26
abbrev rmX2_record : Room := ({ frames := 0, cells := 0, slots := 0, locals := 0 } : Room)
abbrev wzX2_record : List Cond := WS yX2_record cX2_record 3 none
set_option maxRecDepth 100000 in
set_option maxHeartbeats 4000000 in
theorem w_X2_record_28 {p : Program} {l : Launch} {e : Env} {s : State} {m : MethodId} {args : Array Value} {below : List Frame} {meth : Method} {c : Code} {g : Gt} {h0 : Hp} (C : Cx g (dm h0) RX2 cX2_record 3 p s m args meth c) (hr : meth.sig.returnType = none) {Post : Hp → Prop} (x0 : Nat) (x1 : Nat)   : ∀ (n : Nat) (x2 : Int32) (h : Hp) (H : Heap) (locs : List Loc) (ls : Array Slot), lv_has ls 3 [(0, .ref x0), (1, .ref x1), (2, .int x2)] → St g (dm h0) s h H locs → wp_X2_record_28 Post x0 x1 n x2 h → W p l e rmX2_record s m args below meth c H locs 0 0 (MQ below (Qv g h0 Post) args s 0 0 (dm h0)) (F0 m 28 ls []) := by
  have hx := C.1.1
  have hb := C.1.2.1
  have hml := C.1.2.2.1
  have hown := C.1.2.2.2.1
  have hts := C.1.2.2.2.2
  intro n
  induction n with
  | zero => intro x2 h H locs ls hl Z hk; exact (show False from hk).elim
  | succ n ih =>
    intro x2 h H locs ls hl Z hk
    unfold wp_X2_record_28 at hk
    refine lv_iload_n hx hb dX2_record_28 rfl (lv_at hl 2 rfl) ?_
    refine lv_iconst (v := (nI 5)) hx hb dX2_record_29 (by decide) ?_
    refine lv_icmp_ge (tgt := 53) hx hb dX2_record_30 (by decide) (fun q => ?_) (fun q => ?_)
    · have hk := hk.1 q
      refine lv_aload_n hx hb dX2_record_53 rfl (lv_at hl 0 rfl) ?_
      obtain ⟨v54, hv, hk⟩ := hk
      refine r_get (ci := 2) (k := 1) (T := TX2) (N := 2) C Z hv ku_2 rfl (by decide) tw_269 dX2_record_54 ?_
      refine lv_iconst (v := (nI 5)) hx hb dX2_record_57 (by decide) ?_
      refine lv_aload_n hx hb dX2_record_58 rfl (lv_at hl 1 rfl) ?_
      obtain ⟨ho, hk⟩ := hk
      obtain ⟨h59, hv, hk⟩ := hk
      refine r_aast4 C Z ho hv dX2_record_59 (fun H locs Z => ?_)
      exact r_vret C Z hr hk dX2_record_60
    · have hk := hk.2 q
      refine lv_aload_n hx hb dX2_record_33 rfl (lv_at hl 0 rfl) ?_
      obtain ⟨v34, hv, hk⟩ := hk
      refine r_get (ci := 2) (k := 1) (T := TX2) (N := 2) C Z hv ku_2 rfl (by decide) tw_269 dX2_record_34 ?_
      refine lv_iload_n hx hb dX2_record_37 rfl (lv_at hl 2 rfl) ?_
      refine lv_aload_n hx hb dX2_record_38 rfl (lv_at hl 0 rfl) ?_
      obtain ⟨v39, hv, hk⟩ := hk
      refine r_get (ci := 2) (k := 1) (T := TX2) (N := 2) C Z hv ku_2 rfl (by decide) tw_269 dX2_record_39 ?_
      refine lv_iload_n hx hb dX2_record_42 rfl (lv_at hl 2 rfl) ?_
      refine lv_iconst (v := (nI 1)) hx hb dX2_record_43 (by decide) ?_
      refine lv_iadd hx hb dX2_record_44 ?_
      obtain ⟨v45, hv, hk⟩ := hk
      refine r_aald4 C Z hv dX2_record_45 ?_
      obtain ⟨ho, hk⟩ := hk
      obtain ⟨h46, hv, hk⟩ := hk
      refine r_aast4 C Z ho hv dX2_record_46 (fun H locs Z => ?_)
      obtain ⟨y47, ey47⟩ : ∃ y : Int32, y = x2 + (nI 1) := ⟨_, rfl⟩
      have hk := hk y47 ey47
      refine lv_iinc (v := y47) (lv' := [(2, .int y47), (0, .ref x0), (1, .ref x1)]) hx hb dX2_record_47 hl (k := 2) rfl (by rw [ey47]; rfl) (by decide) rfl (fun ls hl => ?_)
      refine lv_goto (tgt := 28) hx hb dX2_record_50 (by decide) ?_
      exact ih y47 h46 _ _ _ (lv_sub hl [1, 2, 0] rfl) Z hk
set_option maxRecDepth 100000 in
set_option maxHeartbeats 4000000 in
theorem m_X2_record (l : Launch) (g : Gt) (h : Hp) (x0 : Nat) (Post : Hp → Prop) (hk : wp_X2_record x0 Post h) : Met l yX2_record wzX2_record rmX2_record (Pg g h [.ref x0]) (Qv g h Post) 0 0 (dm h) := by
  refine Met_of (cc := cX2_record) (maxL := 3) (ret := none) (by decide) (Nat.le_of_ble_eq_true rfl) (fun p e s m below meth c ls C hr hnm hl Z => ?_)
  have hx := C.1.1
  have hb := C.1.2.1
  have hml := C.1.2.2.1
  have hown := C.1.2.2.2.1
  have hts := C.1.2.2.2.2
  have hl : lv_has ls 3 [(0, .ref x0)] := hl
  unfold wp_X2_record at hk
  generalize s.heap = H at Z ⊢
  generalize ([] : List Loc) = locs at Z ⊢
  refine lv_aload_n hx hb dX2_record_0 rfl (lv_at hl 0 rfl) ?_
  obtain ⟨v1, hv, hk⟩ := hk
  refine r_get (ci := 2) (k := 0) (T := TX2) (N := 2) C Z hv ku_2 rfl (by decide) tw_267 dX2_record_1 ?_
  refine lv_iconst (v := (nI 5)) hx hb dX2_record_4 (by decide) ?_
  refine lv_icmp_ge (tgt := 19) hx hb dX2_record_5 (by decide) (fun q => ?_) (fun q => ?_)
  · have hk := hk.1 q
    refine lv_aload_n hx hb dX2_record_19 rfl (lv_at hl 0 rfl) ?_
    obtain ⟨v20, hv, hk⟩ := hk
    refine r_get (ci := 2) (k := 1) (T := TX2) (N := 2) C Z hv ku_2 rfl (by decide) tw_269 dX2_record_20 ?_
    refine lv_iconst (v := (nI 0)) hx hb dX2_record_23 (by decide) ?_
    obtain ⟨v24, hv, hk⟩ := hk
    refine r_aald4 C Z hv dX2_record_24 ?_
    refine lv_astore_n (lv' := [(1, .ref v24), (0, .ref x0)]) hx hb dX2_record_25 rfl hl (by decide) rfl (fun ls hl => ?_)
    refine lv_iconst (v := (nI 0)) hx hb dX2_record_26 (by decide) ?_
    refine lv_istore_n (lv' := [(2, .int (nI 0)), (1, .ref v24), (0, .ref x0)]) hx hb dX2_record_27 rfl hl (by decide) rfl (fun ls hl => ?_)
    obtain ⟨n1, hk⟩ := hk
    exact w_X2_record_28 C hr x0 v24 n1 (nI 0) h _ _ _ (lv_sub hl [2, 1, 0] rfl) Z hk
  · have hk := hk.2 q
    refine lv_aload_n hx hb dX2_record_8 rfl (lv_at hl 0 rfl) ?_
    refine lv_dup hx hb dX2_record_9 rfl ?_
    obtain ⟨v10, hv, hk⟩ := hk
    refine r_get (ci := 2) (k := 0) (T := TX2) (N := 2) C Z hv ku_2 rfl (by decide) tw_267 dX2_record_10 ?_
    refine lv_iconst (v := (nI 1)) hx hb dX2_record_13 (by decide) ?_
    refine lv_iadd hx hb dX2_record_14 ?_
    obtain ⟨h15, hv, hk⟩ := hk
    refine r_put (ci := 2) (k := 0) (T := TX2) (N := 2) C Z hv ku_2 tyX2_ok nmX2 rfl (by decide) tw_267 rfl rfl rfl dX2_record_15 (fun H locs Z => ?_)
    exact r_vret C Z hr hk dX2_record_18
abbrev rmX0_cardsOf : Room := ({ frames := 0, cells := 0, slots := 0, locals := 0 } : Room)
abbrev wzX0_cardsOf : List Cond := WS yX0_cardsOf cX0_cardsOf 5 (some .int)
set_option maxRecDepth 100000 in
set_option maxHeartbeats 4000000 in
theorem w_X0_cardsOf_5 {p : Program} {l : Launch} {e : Env} {s : State} {m : MethodId} {args : Array Value} {below : List Frame} {meth : Method} {c : Code} {g : Gt} {h0 : Hp} (C : Cx g (dm h0) RX0 cX0_cardsOf 5 p s m args meth c) (hr : meth.sig.returnType = (some .int)) {Post : Int32 → Hp → Prop} (x0 : Nat) (x1 : Int32) (x2 : Int32)   : ∀ (n : Nat) (x3 : Int32) (x4 : Int32) (h : Hp) (H : Heap) (locs : List Loc) (ls : Array Slot), lv_has ls 5 [(0, .ref x0), (1, .int x1), (2, .int x2), (3, .int x3), (4, .int x4)] → St g (dm h0) s h H locs → wp_X0_cardsOf_5 Post x0 x1 x2 n x3 x4 h → W p l e rmX0_cardsOf s m args below meth c H locs 0 0 (MQ below (Qi g h0 Post) args s 0 0 (dm h0)) (F0 m 5 ls []) := by
  have hx := C.1.1
  have hb := C.1.2.1
  have hml := C.1.2.2.1
  have hown := C.1.2.2.2.1
  have hts := C.1.2.2.2.2
  intro n
  induction n with
  | zero => intro x3 x4 h H locs ls hl Z hk; exact (show False from hk).elim
  | succ n ih =>
    intro x3 x4 h H locs ls hl Z hk
    unfold wp_X0_cardsOf_5 at hk
    refine lv_iload hx hb dX0_cardsOf_5 (lv_at hl 4 rfl) ?_
    refine lv_iload_n hx hb dX0_cardsOf_7 rfl (lv_at hl 2 rfl) ?_
    refine lv_icmp_ge (tgt := 40) hx hb dX0_cardsOf_8 (by decide) (fun q => ?_) (fun q => ?_)
    · have hk := hk.1 q
      refine lv_iload_n hx hb dX0_cardsOf_40 rfl (lv_at hl 3 rfl) ?_
      exact r_iret C Z hr hk dX0_cardsOf_41
    · have hk := hk.2 q
      refine lv_iload hx hb dX0_cardsOf_11 (lv_at hl 4 rfl) ?_
      refine lv_aload_n hx hb dX0_cardsOf_13 rfl (lv_at hl 0 rfl) ?_
      obtain ⟨v14, hv, hk⟩ := hk
      refine r_get (ci := 0) (k := 0) (T := TX0) (N := 11) C Z hv ku_0 rfl (by decide) tw_99 dX0_cardsOf_14 ?_
      refine lv_icmp_ge (tgt := 40) hx hb dX0_cardsOf_17 (by decide) (fun q => ?_) (fun q => ?_)
      · have hk := hk.1 q
        refine lv_iload_n hx hb dX0_cardsOf_40 rfl (lv_at hl 3 rfl) ?_
        exact r_iret C Z hr hk dX0_cardsOf_41
      · have hk := hk.2 q
        refine lv_aload_n hx hb dX0_cardsOf_20 rfl (lv_at hl 0 rfl) ?_
        obtain ⟨v21, hv, hk⟩ := hk
        refine r_get (ci := 0) (k := 2) (T := TX0) (N := 11) C Z hv ku_0 rfl (by decide) tw_107 dX0_cardsOf_21 ?_
        refine lv_iload hx hb dX0_cardsOf_24 (lv_at hl 4 rfl) ?_
        obtain ⟨v26, hv, hk⟩ := hk
        refine r_iald C Z hv dX0_cardsOf_26 ?_
        refine lv_iload_n hx hb dX0_cardsOf_27 rfl (lv_at hl 1 rfl) ?_
        refine lv_icmp_ne (tgt := 34) hx hb dX0_cardsOf_28 (by decide) (fun q => ?_) (fun q => ?_)
        · have hk := hk.1 q
          obtain ⟨y34, ey34⟩ : ∃ y : Int32, y = x4 + (nI 1) := ⟨_, rfl⟩
          have hk := hk y34 ey34
          refine lv_iinc (v := y34) (lv' := [(4, .int y34), (0, .ref x0), (1, .int x1), (2, .int x2), (3, .int x3)]) hx hb dX0_cardsOf_34 hl (k := 4) rfl (by rw [ey34]; rfl) (by decide) rfl (fun ls hl => ?_)
          refine lv_goto (tgt := 5) hx hb dX0_cardsOf_37 (by decide) ?_
          exact ih x3 y34 h _ _ _ (lv_sub hl [1, 2, 3, 4, 0] rfl) Z hk
        · have hk := hk.2 q
          obtain ⟨y31, ey31⟩ : ∃ y : Int32, y = x3 + (nI 1) := ⟨_, rfl⟩
          have hk := hk y31 ey31
          refine lv_iinc (v := y31) (lv' := [(3, .int y31), (0, .ref x0), (1, .int x1), (2, .int x2), (4, .int x4)]) hx hb dX0_cardsOf_31 hl (k := 3) rfl (by rw [ey31]; rfl) (by decide) rfl (fun ls hl => ?_)
          obtain ⟨y34, ey34⟩ : ∃ y : Int32, y = x4 + (nI 1) := ⟨_, rfl⟩
          have hk := hk y34 ey34
          refine lv_iinc (v := y34) (lv' := [(4, .int y34), (3, .int y31), (0, .ref x0), (1, .int x1), (2, .int x2)]) hx hb dX0_cardsOf_34 hl (k := 4) rfl (by rw [ey34]; rfl) (by decide) rfl (fun ls hl => ?_)
          refine lv_goto (tgt := 5) hx hb dX0_cardsOf_37 (by decide) ?_
          exact ih y31 y34 h _ _ _ (lv_sub hl [2, 3, 4, 1, 0] rfl) Z hk
set_option maxRecDepth 100000 in
set_option maxHeartbeats 4000000 in
theorem m_X0_cardsOf (l : Launch) (g : Gt) (h : Hp) (x0 : Nat) (x1 : Int32) (x2 : Int32) (Post : Int32 → Hp → Prop) (hk : wp_X0_cardsOf x0 x1 x2 Post h) : Met l yX0_cardsOf wzX0_cardsOf rmX0_cardsOf (Pg g h [.ref x0, .int x1, .int x2]) (Qi g h Post) 0 0 (dm h) := by
  refine Met_of (cc := cX0_cardsOf) (maxL := 5) (ret := (some .int)) (by decide) (Nat.le_of_ble_eq_true rfl) (fun p e s m below meth c ls C hr hnm hl Z => ?_)
  have hx := C.1.1
  have hb := C.1.2.1
  have hml := C.1.2.2.1
  have hown := C.1.2.2.2.1
  have hts := C.1.2.2.2.2
  have hl : lv_has ls 5 [(0, .ref x0), (1, .int x1), (2, .int x2)] := hl
  unfold wp_X0_cardsOf at hk
  generalize s.heap = H at Z ⊢
  generalize ([] : List Loc) = locs at Z ⊢
  refine lv_iconst (v := (nI 0)) hx hb dX0_cardsOf_0 (by decide) ?_
  refine lv_istore_n (lv' := [(3, .int (nI 0)), (0, .ref x0), (1, .int x1), (2, .int x2)]) hx hb dX0_cardsOf_1 rfl hl (by decide) rfl (fun ls hl => ?_)
  refine lv_iconst (v := (nI 0)) hx hb dX0_cardsOf_2 (by decide) ?_
  refine lv_istore (lv' := [(4, .int (nI 0)), (3, .int (nI 0)), (0, .ref x0), (1, .int x1), (2, .int x2)]) hx hb dX0_cardsOf_3 hl (by decide) rfl (fun ls hl => ?_)
  obtain ⟨n1, hk⟩ := hk
  exact w_X0_cardsOf_5 C hr x0 x1 x2 n1 (nI 0) (nI 0) h _ _ _ (lv_sub hl [2, 3, 4, 1, 0] rfl) Z hk
abbrev rmX0_hasVersion : Room := ({ frames := 0, cells := 0, slots := 0, locals := 0 } : Room)
abbrev wzX0_hasVersion : List Cond := WS yX0_hasVersion cX0_hasVersion 2 (some .boolean)
set_option maxRecDepth 100000 in
set_option maxHeartbeats 4000000 in
theorem m_X0_hasVersion (l : Launch) (g : Gt) (h : Hp) (x0 : Nat) (x1 : Int32) (Post : Int32 → Hp → Prop) (hk : wp_X0_hasVersion x0 x1 Post h) : Met l yX0_hasVersion wzX0_hasVersion rmX0_hasVersion (Pg g h [.ref x0, .int x1]) (Qi g h Post) 0 0 (dm h) := by
  refine Met_of (cc := cX0_hasVersion) (maxL := 2) (ret := (some .boolean)) (by decide) (Nat.le_of_ble_eq_true rfl) (fun p e s m below meth c ls C hr hnm hl Z => ?_)
  have hx := C.1.1
  have hb := C.1.2.1
  have hml := C.1.2.2.1
  have hown := C.1.2.2.2.1
  have hts := C.1.2.2.2.2
  have hl : lv_has ls 2 [(0, .ref x0), (1, .int x1)] := hl
  unfold wp_X0_hasVersion at hk
  generalize s.heap = H at Z ⊢
  generalize ([] : List Loc) = locs at Z ⊢
  refine lv_iload_n hx hb dX0_hasVersion_0 rfl (lv_at hl 1 rfl) ?_
  refine lv_if_lt (tgt := 16) hx hb dX0_hasVersion_1 (by decide) (fun q => ?_) (fun q => ?_)
  · have hk := hk.1 q
    refine lv_iconst (v := (nI 0)) hx hb dX0_hasVersion_16 (by decide) ?_
    exact r_zret C Z hr (Or.inl rfl) hk dX0_hasVersion_17
  · have hk := hk.2 q
    refine lv_iload_n hx hb dX0_hasVersion_4 rfl (lv_at hl 1 rfl) ?_
    refine lv_aload_n hx hb dX0_hasVersion_5 rfl (lv_at hl 0 rfl) ?_
    obtain ⟨v6, hv, hk⟩ := hk
    refine r_get (ci := 0) (k := 1) (T := TX0) (N := 11) C Z hv ku_0 rfl (by decide) tw_103 dX0_hasVersion_6 ?_
    refine lv_icmp_ge (tgt := 16) hx hb dX0_hasVersion_9 (by decide) (fun q => ?_) (fun q => ?_)
    · have hk := hk.1 q
      refine lv_iconst (v := (nI 0)) hx hb dX0_hasVersion_16 (by decide) ?_
      exact r_zret C Z hr (Or.inl rfl) hk dX0_hasVersion_17
    · have hk := hk.2 q
      refine lv_iconst (v := (nI 1)) hx hb dX0_hasVersion_12 (by decide) ?_
      refine lv_goto (tgt := 17) hx hb dX0_hasVersion_13 (by decide) ?_
      exact r_zret C Z hr (Or.inr rfl) hk dX0_hasVersion_17
abbrev rmX0_keepVersion : Room := ({ frames := 1, cells := 0, slots := 0, locals := 40 } : Room)
abbrev wzX0_keepVersion : List Cond := WS yX0_keepVersion cX0_keepVersion 2 none
set_option maxRecDepth 100000 in
set_option maxHeartbeats 4000000 in
theorem m_X0_keepVersion (l : Launch) (g : Gt) (h : Hp) (x0 : Nat) (x1 : Nat) (Post : Hp → Prop) (hk : wp_X0_keepVersion x0 x1 Post h) : Met l yX0_keepVersion wzX0_keepVersion rmX0_keepVersion (Pg g h [.ref x0, .ref x1]) (Qv g h Post) 0 0 (dm h) := by
  refine Met_of (cc := cX0_keepVersion) (maxL := 2) (ret := none) (by decide) (Nat.le_of_ble_eq_true rfl) (fun p e s m below meth c ls C hr hnm hl Z => ?_)
  have hx := C.1.1
  have hb := C.1.2.1
  have hml := C.1.2.2.1
  have hown := C.1.2.2.2.1
  have hts := C.1.2.2.2.2
  have hl : lv_has ls 2 [(0, .ref x0), (1, .ref x1)] := hl
  unfold wp_X0_keepVersion at hk
  generalize s.heap = H at Z ⊢
  generalize ([] : List Loc) = locs at Z ⊢
  refine lv_aload_n hx hb dX0_keepVersion_0 rfl (lv_at hl 0 rfl) ?_
  obtain ⟨v1, hv, hk⟩ := hk
  refine r_get (ci := 0) (k := 1) (T := TX0) (N := 11) C Z hv ku_0 rfl (by decide) tw_103 dX0_keepVersion_1 ?_
  refine lv_bipush (v := (nI 6)) hx hb dX0_keepVersion_4 (by decide) ?_
  refine lv_icmp_ge (tgt := 18) hx hb dX0_keepVersion_6 (by decide) (fun q => ?_) (fun q => ?_)
  · have hk := hk.1 q
    exact r_vret C Z hr hk dX0_keepVersion_18
  · have hk := hk.2 q
    refine lv_aload_n hx hb dX0_keepVersion_9 rfl (lv_at hl 1 rfl) ?_
    obtain ⟨v10, hv, hk⟩ := hk
    refine r_alen C Z hv dX0_keepVersion_10 ?_
    refine lv_aload_n hx hb dX0_keepVersion_11 rfl (lv_at hl 0 rfl) ?_
    obtain ⟨v12, hv, hk⟩ := hk
    refine r_get (ci := 0) (k := 0) (T := TX0) (N := 11) C Z hv ku_0 rfl (by decide) tw_99 dX0_keepVersion_12 ?_
    refine lv_icmp_ge (tgt := 19) hx hb dX0_keepVersion_15 (by decide) (fun q => ?_) (fun q => ?_)
    · have hk := hk.1 q
      refine lv_aload_n hx hb dX0_keepVersion_19 rfl (lv_at hl 1 rfl) ?_
      refine lv_iconst (v := (nI 0)) hx hb dX0_keepVersion_20 (by decide) ?_
      refine lv_aload_n hx hb dX0_keepVersion_21 rfl (lv_at hl 0 rfl) ?_
      obtain ⟨v22, hv, hk⟩ := hk
      refine r_get (ci := 0) (k := 10) (T := TX0) (N := 11) C Z hv ku_0 rfl (by decide) tw_133 dX0_keepVersion_22 ?_
      refine lv_aload_n hx hb dX0_keepVersion_25 rfl (lv_at hl 0 rfl) ?_
      obtain ⟨v26, hv, hk⟩ := hk
      refine r_get (ci := 0) (k := 1) (T := TX0) (N := 11) C Z hv ku_0 rfl (by decide) tw_103 dX0_keepVersion_26 ?_
      refine lv_bipush (v := (nI 40)) hx hb dX0_keepVersion_29 (by decide) ?_
      refine lv_imul hx hb dX0_keepVersion_31 ?_
      refine lv_aload_n hx hb dX0_keepVersion_32 rfl (lv_at hl 0 rfl) ?_
      obtain ⟨v33, hv, hk⟩ := hk
      refine r_get (ci := 0) (k := 0) (T := TX0) (N := 11) C Z hv ku_0 rfl (by decide) tw_99 dX0_keepVersion_33 ?_
      obtain ⟨h36, hv, hk⟩ := hk
      refine r_copyI C Z hv (hml.trans hl.1.symm) (hts _ tw_368) (hts _ tw_370) (hts _ tw_369) (hts _ tw_67) (Nat.le_of_ble_eq_true rfl) (Nat.le_of_ble_eq_true rfl) dX0_keepVersion_36 (fun H locs Z => ?_)
      refine lv_aload_n hx hb dX0_keepVersion_39 rfl (lv_at hl 0 rfl) ?_
      obtain ⟨v40, hv, hk⟩ := hk
      refine r_get (ci := 0) (k := 9) (T := TX0) (N := 11) C Z hv ku_0 rfl (by decide) tw_131 dX0_keepVersion_40 ?_
      refine lv_aload_n hx hb dX0_keepVersion_43 rfl (lv_at hl 0 rfl) ?_
      obtain ⟨v44, hv, hk⟩ := hk
      refine r_get (ci := 0) (k := 1) (T := TX0) (N := 11) C Z hv ku_0 rfl (by decide) tw_103 dX0_keepVersion_44 ?_
      refine lv_aload_n hx hb dX0_keepVersion_47 rfl (lv_at hl 0 rfl) ?_
      obtain ⟨v48, hv, hk⟩ := hk
      refine r_get (ci := 0) (k := 0) (T := TX0) (N := 11) C Z hv ku_0 rfl (by decide) tw_99 dX0_keepVersion_48 ?_
      obtain ⟨h51, hv, hk⟩ := hk
      refine r_iast C Z hv dX0_keepVersion_51 (fun H locs Z => ?_)
      refine lv_aload_n hx hb dX0_keepVersion_52 rfl (lv_at hl 0 rfl) ?_
      refine lv_dup hx hb dX0_keepVersion_53 rfl ?_
      obtain ⟨v54, hv, hk⟩ := hk
      refine r_get (ci := 0) (k := 1) (T := TX0) (N := 11) C Z hv ku_0 rfl (by decide) tw_103 dX0_keepVersion_54 ?_
      refine lv_iconst (v := (nI 1)) hx hb dX0_keepVersion_57 (by decide) ?_
      refine lv_iadd hx hb dX0_keepVersion_58 ?_
      obtain ⟨h59, hv, hk⟩ := hk
      refine r_put (ci := 0) (k := 1) (T := TX0) (N := 11) C Z hv ku_0 tyX0_ok nmX0 rfl (by decide) tw_103 rfl rfl rfl dX0_keepVersion_59 (fun H locs Z => ?_)
      exact r_vret C Z hr hk dX0_keepVersion_62
    · have hk := hk.2 q
      exact r_vret C Z hr hk dX0_keepVersion_18
abbrev rmX0_hasCard : Room := ({ frames := 0, cells := 0, slots := 0, locals := 0 } : Room)
abbrev wzX0_hasCard : List Cond := WS yX0_hasCard cX0_hasCard 2 (some .boolean)
set_option maxRecDepth 100000 in
set_option maxHeartbeats 4000000 in
theorem m_X0_hasCard (l : Launch) (g : Gt) (h : Hp) (x0 : Nat) (x1 : Int32) (Post : Int32 → Hp → Prop) (hk : wp_X0_hasCard x0 x1 Post h) : Met l yX0_hasCard wzX0_hasCard rmX0_hasCard (Pg g h [.ref x0, .int x1]) (Qi g h Post) 0 0 (dm h) := by
  refine Met_of (cc := cX0_hasCard) (maxL := 2) (ret := (some .boolean)) (by decide) (Nat.le_of_ble_eq_true rfl) (fun p e s m below meth c ls C hr hnm hl Z => ?_)
  have hx := C.1.1
  have hb := C.1.2.1
  have hml := C.1.2.2.1
  have hown := C.1.2.2.2.1
  have hts := C.1.2.2.2.2
  have hl : lv_has ls 2 [(0, .ref x0), (1, .int x1)] := hl
  unfold wp_X0_hasCard at hk
  generalize s.heap = H at Z ⊢
  generalize ([] : List Loc) = locs at Z ⊢
  refine lv_iload_n hx hb dX0_hasCard_0 rfl (lv_at hl 1 rfl) ?_
  refine lv_if_lt (tgt := 16) hx hb dX0_hasCard_1 (by decide) (fun q => ?_) (fun q => ?_)
  · have hk := hk.1 q
    refine lv_iconst (v := (nI 0)) hx hb dX0_hasCard_16 (by decide) ?_
    exact r_zret C Z hr (Or.inl rfl) hk dX0_hasCard_17
  · have hk := hk.2 q
    refine lv_iload_n hx hb dX0_hasCard_4 rfl (lv_at hl 1 rfl) ?_
    refine lv_aload_n hx hb dX0_hasCard_5 rfl (lv_at hl 0 rfl) ?_
    obtain ⟨v6, hv, hk⟩ := hk
    refine r_get (ci := 0) (k := 0) (T := TX0) (N := 11) C Z hv ku_0 rfl (by decide) tw_99 dX0_hasCard_6 ?_
    refine lv_icmp_ge (tgt := 16) hx hb dX0_hasCard_9 (by decide) (fun q => ?_) (fun q => ?_)
    · have hk := hk.1 q
      refine lv_iconst (v := (nI 0)) hx hb dX0_hasCard_16 (by decide) ?_
      exact r_zret C Z hr (Or.inl rfl) hk dX0_hasCard_17
    · have hk := hk.2 q
      refine lv_iconst (v := (nI 1)) hx hb dX0_hasCard_12 (by decide) ?_
      refine lv_goto (tgt := 17) hx hb dX0_hasCard_13 (by decide) ?_
      exact r_zret C Z hr (Or.inr rfl) hk dX0_hasCard_17
abbrev rmX0_cardsInStage : Room := ({ frames := 0, cells := 0, slots := 0, locals := 0 } : Room)
abbrev wzX0_cardsInStage : List Cond := WS yX0_cardsInStage cX0_cardsInStage 4 (some .int)
set_option maxRecDepth 100000 in
set_option maxHeartbeats 4000000 in
theorem w_X0_cardsInStage_4 {p : Program} {l : Launch} {e : Env} {s : State} {m : MethodId} {args : Array Value} {below : List Frame} {meth : Method} {c : Code} {g : Gt} {h0 : Hp} (C : Cx g (dm h0) RX0 cX0_cardsInStage 4 p s m args meth c) (hr : meth.sig.returnType = (some .int)) {Post : Int32 → Hp → Prop} (x0 : Nat) (x1 : Int32)   : ∀ (n : Nat) (x2 : Int32) (x3 : Int32) (h : Hp) (H : Heap) (locs : List Loc) (ls : Array Slot), lv_has ls 4 [(0, .ref x0), (1, .int x1), (2, .int x2), (3, .int x3)] → St g (dm h0) s h H locs → wp_X0_cardsInStage_4 Post x0 x1 n x2 x3 h → W p l e rmX0_cardsInStage s m args below meth c H locs 0 0 (MQ below (Qi g h0 Post) args s 0 0 (dm h0)) (F0 m 4 ls []) := by
  have hx := C.1.1
  have hb := C.1.2.1
  have hml := C.1.2.2.1
  have hown := C.1.2.2.2.1
  have hts := C.1.2.2.2.2
  intro n
  induction n with
  | zero => intro x2 x3 h H locs ls hl Z hk; exact (show False from hk).elim
  | succ n ih =>
    intro x2 x3 h H locs ls hl Z hk
    unfold wp_X0_cardsInStage_4 at hk
    refine lv_iload_n hx hb dX0_cardsInStage_4 rfl (lv_at hl 3 rfl) ?_
    refine lv_aload_n hx hb dX0_cardsInStage_5 rfl (lv_at hl 0 rfl) ?_
    obtain ⟨v6, hv, hk⟩ := hk
    refine r_get (ci := 0) (k := 0) (T := TX0) (N := 11) C Z hv ku_0 rfl (by decide) tw_99 dX0_cardsInStage_6 ?_
    refine lv_icmp_ge (tgt := 31) hx hb dX0_cardsInStage_9 (by decide) (fun q => ?_) (fun q => ?_)
    · have hk := hk.1 q
      refine lv_iload_n hx hb dX0_cardsInStage_31 rfl (lv_at hl 2 rfl) ?_
      exact r_iret C Z hr hk dX0_cardsInStage_32
    · have hk := hk.2 q
      refine lv_aload_n hx hb dX0_cardsInStage_12 rfl (lv_at hl 0 rfl) ?_
      obtain ⟨v13, hv, hk⟩ := hk
      refine r_get (ci := 0) (k := 4) (T := TX0) (N := 11) C Z hv ku_0 rfl (by decide) tw_115 dX0_cardsInStage_13 ?_
      refine lv_iload_n hx hb dX0_cardsInStage_16 rfl (lv_at hl 3 rfl) ?_
      obtain ⟨v17, hv, hk⟩ := hk
      refine r_iald C Z hv dX0_cardsInStage_17 ?_
      refine lv_iload_n hx hb dX0_cardsInStage_18 rfl (lv_at hl 1 rfl) ?_
      refine lv_icmp_ne (tgt := 25) hx hb dX0_cardsInStage_19 (by decide) (fun q => ?_) (fun q => ?_)
      · have hk := hk.1 q
        obtain ⟨y25, ey25⟩ : ∃ y : Int32, y = x3 + (nI 1) := ⟨_, rfl⟩
        have hk := hk y25 ey25
        refine lv_iinc (v := y25) (lv' := [(3, .int y25), (0, .ref x0), (1, .int x1), (2, .int x2)]) hx hb dX0_cardsInStage_25 hl (k := 3) rfl (by rw [ey25]; rfl) (by decide) rfl (fun ls hl => ?_)
        refine lv_goto (tgt := 4) hx hb dX0_cardsInStage_28 (by decide) ?_
        exact ih x2 y25 h _ _ _ (lv_sub hl [1, 2, 3, 0] rfl) Z hk
      · have hk := hk.2 q
        obtain ⟨y22, ey22⟩ : ∃ y : Int32, y = x2 + (nI 1) := ⟨_, rfl⟩
        have hk := hk y22 ey22
        refine lv_iinc (v := y22) (lv' := [(2, .int y22), (0, .ref x0), (1, .int x1), (3, .int x3)]) hx hb dX0_cardsInStage_22 hl (k := 2) rfl (by rw [ey22]; rfl) (by decide) rfl (fun ls hl => ?_)
        obtain ⟨y25, ey25⟩ : ∃ y : Int32, y = x3 + (nI 1) := ⟨_, rfl⟩
        have hk := hk y25 ey25
        refine lv_iinc (v := y25) (lv' := [(3, .int y25), (2, .int y22), (0, .ref x0), (1, .int x1)]) hx hb dX0_cardsInStage_25 hl (k := 3) rfl (by rw [ey25]; rfl) (by decide) rfl (fun ls hl => ?_)
        refine lv_goto (tgt := 4) hx hb dX0_cardsInStage_28 (by decide) ?_
        exact ih y22 y25 h _ _ _ (lv_sub hl [2, 3, 1, 0] rfl) Z hk
set_option maxRecDepth 100000 in
set_option maxHeartbeats 4000000 in
theorem m_X0_cardsInStage (l : Launch) (g : Gt) (h : Hp) (x0 : Nat) (x1 : Int32) (Post : Int32 → Hp → Prop) (hk : wp_X0_cardsInStage x0 x1 Post h) : Met l yX0_cardsInStage wzX0_cardsInStage rmX0_cardsInStage (Pg g h [.ref x0, .int x1]) (Qi g h Post) 0 0 (dm h) := by
  refine Met_of (cc := cX0_cardsInStage) (maxL := 4) (ret := (some .int)) (by decide) (Nat.le_of_ble_eq_true rfl) (fun p e s m below meth c ls C hr hnm hl Z => ?_)
  have hx := C.1.1
  have hb := C.1.2.1
  have hml := C.1.2.2.1
  have hown := C.1.2.2.2.1
  have hts := C.1.2.2.2.2
  have hl : lv_has ls 4 [(0, .ref x0), (1, .int x1)] := hl
  unfold wp_X0_cardsInStage at hk
  generalize s.heap = H at Z ⊢
  generalize ([] : List Loc) = locs at Z ⊢
  refine lv_iconst (v := (nI 0)) hx hb dX0_cardsInStage_0 (by decide) ?_
  refine lv_istore_n (lv' := [(2, .int (nI 0)), (0, .ref x0), (1, .int x1)]) hx hb dX0_cardsInStage_1 rfl hl (by decide) rfl (fun ls hl => ?_)
  refine lv_iconst (v := (nI 0)) hx hb dX0_cardsInStage_2 (by decide) ?_
  refine lv_istore_n (lv' := [(3, .int (nI 0)), (2, .int (nI 0)), (0, .ref x0), (1, .int x1)]) hx hb dX0_cardsInStage_3 rfl hl (by decide) rfl (fun ls hl => ?_)
  obtain ⟨n1, hk⟩ := hk
  exact w_X0_cardsInStage_4 C hr x0 x1 n1 (nI 0) (nI 0) h _ _ _ (lv_sub hl [2, 3, 1, 0] rfl) Z hk
abbrev rmX6_giveBack : Room := ({ frames := 3, cells := 0, slots := 0, locals := 83 } : Room)
abbrev wzX6_giveBack : List Cond := WS yX6_giveBack cX6_giveBack 3 none
set_option maxRecDepth 100000 in
set_option maxHeartbeats 4000000 in
theorem m_X6_giveBack (l : Launch) (g : Gt) (h : Hp) (x0 : Nat) (x1 : Nat) (x2 : Nat) (Post : Hp → Prop) (hk : wp_X6_giveBack x0 x1 x2 Post h) : Met l yX6_giveBack wzX6_giveBack rmX6_giveBack (Pg g h [.ref x0, .ref x1, .ref x2]) (Qv g h Post) 0 0 (dm h) := by
  refine Met_of (cc := cX6_giveBack) (maxL := 3) (ret := none) (by decide) (Nat.le_of_ble_eq_true rfl) (fun p e s m below meth c ls C hr hnm hl Z => ?_)
  have hx := C.1.1
  have hb := C.1.2.1
  have hml := C.1.2.2.1
  have hown := C.1.2.2.2.1
  have hts := C.1.2.2.2.2
  have hl : lv_has ls 3 [(0, .ref x0), (1, .ref x1), (2, .ref x2)] := hl
  unfold wp_X6_giveBack at hk
  generalize s.heap = H at Z ⊢
  generalize ([] : List Loc) = locs at Z ⊢
  refine lv_aload_n hx hb dX6_giveBack_0 rfl (lv_at hl 1 rfl) ?_
  refine lv_aload_n hx hb dX6_giveBack_1 rfl (lv_at hl 0 rfl) ?_
  obtain ⟨v2, hv, hk⟩ := hk
  refine r_get (ci := 6) (k := 0) (T := TX6) (N := 2) C Z hv ku_6 rfl (by decide) tw_260 dX6_giveBack_2 ?_
  obtain ⟨ho, hk⟩ := hk
  refine r_callv Z (r_runV (As := [.ref v2]) (rest := []) C Z (m_X0_copyFrom l g h x1 v2 _ hk) ho rfl (cwV 1 C.1.2.2.2.2 (gV tw_364 tw_365 tw_366 tw_60 tw_367) rfl rfl rfl (by decide +kernel) ⟨Nat.le_of_ble_eq_true rfl, Nat.le_of_ble_eq_true rfl⟩) rfl hl.1 rfl (Nat.le_of_ble_eq_true rfl) dX6_giveBack_5 ⟨Nat.zero_le _, Nat.zero_le _⟩) (fun h5 H locs hk Z => ?_)
  refine lv_aload_n hx hb dX6_giveBack_8 rfl (lv_at hl 2 rfl) ?_
  refine lv_aload_n hx hb dX6_giveBack_9 rfl (lv_at hl 0 rfl) ?_
  obtain ⟨v10, hv, hk⟩ := hk
  refine r_get (ci := 6) (k := 1) (T := TX6) (N := 2) C Z hv ku_6 rfl (by decide) tw_261 dX6_giveBack_10 ?_
  obtain ⟨ho, hk⟩ := hk
  refine r_callv Z (r_runV (As := [.ref v10]) (rest := []) C Z (m_X5_copyFrom l g h5 x2 v10 _ hk) ho rfl (cwV 1 C.1.2.2.2.2 (gV tw_371 tw_372 tw_373 tw_61 tw_374) rfl rfl rfl (by decide +kernel) ⟨Nat.le_of_ble_eq_true rfl, Nat.le_of_ble_eq_true rfl⟩) rfl hl.1 rfl (Nat.le_of_ble_eq_true rfl) dX6_giveBack_13 ⟨Nat.zero_le _, Nat.zero_le _⟩) (fun h13 H locs hk Z => ?_)
  exact r_vret C Z hr hk dX6_giveBack_16
abbrev rmX2_goBack : Room := ({ frames := 4, cells := 0, slots := 0, locals := 105 } : Room)
abbrev wzX2_goBack : List Cond := WS yX2_goBack cX2_goBack 3 none
set_option maxRecDepth 100000 in
set_option maxHeartbeats 4000000 in
theorem m_X2_goBack (l : Launch) (g : Gt) (h : Hp) (x0 : Nat) (x1 : Nat) (x2 : Nat) (Post : Hp → Prop) (hk : wp_X2_goBack x0 x1 x2 Post h) : Met l yX2_goBack wzX2_goBack rmX2_goBack (Pg g h [.ref x0, .ref x1, .ref x2]) (Qv g h Post) 0 0 (dm h) := by
  refine Met_of (cc := cX2_goBack) (maxL := 3) (ret := none) (by decide) (Nat.le_of_ble_eq_true rfl) (fun p e s m below meth c ls C hr hnm hl Z => ?_)
  have hx := C.1.1
  have hb := C.1.2.1
  have hml := C.1.2.2.1
  have hown := C.1.2.2.2.1
  have hts := C.1.2.2.2.2
  have hl : lv_has ls 3 [(0, .ref x0), (1, .ref x1), (2, .ref x2)] := hl
  unfold wp_X2_goBack at hk
  generalize s.heap = H at Z ⊢
  generalize ([] : List Loc) = locs at Z ⊢
  refine lv_aload_n hx hb dX2_goBack_0 rfl (lv_at hl 0 rfl) ?_
  obtain ⟨v1, hv, hk⟩ := hk
  refine r_get (ci := 2) (k := 0) (T := TX2) (N := 2) C Z hv ku_2 rfl (by decide) tw_267 dX2_goBack_1 ?_
  refine lv_if_le (tgt := 31) hx hb dX2_goBack_4 (by decide) (fun q => ?_) (fun q => ?_)
  · have hk := hk.1 q
    exact r_vret C Z hr hk dX2_goBack_31
  · have hk := hk.2 q
    refine lv_aload_n hx hb dX2_goBack_7 rfl (lv_at hl 0 rfl) ?_
    refine lv_dup hx hb dX2_goBack_8 rfl ?_
    obtain ⟨v9, hv, hk⟩ := hk
    refine r_get (ci := 2) (k := 0) (T := TX2) (N := 2) C Z hv ku_2 rfl (by decide) tw_267 dX2_goBack_9 ?_
    refine lv_iconst (v := (nI 1)) hx hb dX2_goBack_12 (by decide) ?_
    refine lv_isub hx hb dX2_goBack_13 ?_
    obtain ⟨h14, hv, hk⟩ := hk
    refine r_put (ci := 2) (k := 0) (T := TX2) (N := 2) C Z hv ku_2 tyX2_ok nmX2 rfl (by decide) tw_267 rfl rfl rfl dX2_goBack_14 (fun H locs Z => ?_)
    refine lv_aload_n hx hb dX2_goBack_17 rfl (lv_at hl 0 rfl) ?_
    obtain ⟨v18, hv, hk⟩ := hk
    refine r_get (ci := 2) (k := 1) (T := TX2) (N := 2) C Z hv ku_2 rfl (by decide) tw_269 dX2_goBack_18 ?_
    refine lv_aload_n hx hb dX2_goBack_21 rfl (lv_at hl 0 rfl) ?_
    obtain ⟨v22, hv, hk⟩ := hk
    refine r_get (ci := 2) (k := 0) (T := TX2) (N := 2) C Z hv ku_2 rfl (by decide) tw_267 dX2_goBack_22 ?_
    obtain ⟨v25, hv, hk⟩ := hk
    refine r_aald4 C Z hv dX2_goBack_25 ?_
    refine lv_aload_n hx hb dX2_goBack_26 rfl (lv_at hl 1 rfl) ?_
    refine lv_aload_n hx hb dX2_goBack_27 rfl (lv_at hl 2 rfl) ?_
    obtain ⟨ho, hk⟩ := hk
    refine r_callv Z (r_runV (As := [.ref x1, .ref x2]) (rest := []) C Z (m_X6_giveBack l g h14 v25 x1 x2 _ hk) ho rfl (cwV 2 C.1.2.2.2.2 (gV tw_574 tw_575 tw_576 tw_63 tw_577) rfl rfl rfl (by decide +kernel) ⟨Nat.le_of_ble_eq_true rfl, Nat.le_of_ble_eq_true rfl⟩) rfl hl.1 rfl (Nat.le_of_ble_eq_true rfl) dX2_goBack_28 ⟨Nat.zero_le _, Nat.zero_le _⟩) (fun h28 H locs hk Z => ?_)
    exact r_vret C Z hr hk dX2_goBack_31
abbrev rmX2_giveBackPrepared : Room := ({ frames := 4, cells := 0, slots := 0, locals := 105 } : Room)
abbrev wzX2_giveBackPrepared : List Cond := WS yX2_giveBackPrepared cX2_giveBackPrepared 3 none
set_option maxRecDepth 100000 in
set_option maxHeartbeats 4000000 in
theorem m_X2_giveBackPrepared (l : Launch) (g : Gt) (h : Hp) (x0 : Nat) (x1 : Nat) (x2 : Nat) (Post : Hp → Prop) (hk : wp_X2_giveBackPrepared x0 x1 x2 Post h) : Met l yX2_giveBackPrepared wzX2_giveBackPrepared rmX2_giveBackPrepared (Pg g h [.ref x0, .ref x1, .ref x2]) (Qv g h Post) 0 0 (dm h) := by
  refine Met_of (cc := cX2_giveBackPrepared) (maxL := 3) (ret := none) (by decide) (Nat.le_of_ble_eq_true rfl) (fun p e s m below meth c ls C hr hnm hl Z => ?_)
  have hx := C.1.1
  have hb := C.1.2.1
  have hml := C.1.2.2.1
  have hown := C.1.2.2.2.1
  have hts := C.1.2.2.2.2
  have hl : lv_has ls 3 [(0, .ref x0), (1, .ref x1), (2, .ref x2)] := hl
  unfold wp_X2_giveBackPrepared at hk
  generalize s.heap = H at Z ⊢
  generalize ([] : List Loc) = locs at Z ⊢
  refine lv_aload_n hx hb dX2_giveBackPrepared_0 rfl (lv_at hl 0 rfl) ?_
  obtain ⟨v1, hv, hk⟩ := hk
  refine r_get (ci := 2) (k := 0) (T := TX2) (N := 2) C Z hv ku_2 rfl (by decide) tw_267 dX2_giveBackPrepared_1 ?_
  refine lv_aload_n hx hb dX2_giveBackPrepared_4 rfl (lv_at hl 0 rfl) ?_
  obtain ⟨v5, hv, hk⟩ := hk
  refine r_get (ci := 2) (k := 1) (T := TX2) (N := 2) C Z hv ku_2 rfl (by decide) tw_269 dX2_giveBackPrepared_5 ?_
  obtain ⟨v8, hv, hk⟩ := hk
  refine r_alen C Z hv dX2_giveBackPrepared_8 ?_
  refine lv_icmp_ge (tgt := 26) hx hb dX2_giveBackPrepared_9 (by decide) (fun q => ?_) (fun q => ?_)
  · have hk := hk.1 q
    exact r_vret C Z hr hk dX2_giveBackPrepared_26
  · have hk := hk.2 q
    refine lv_aload_n hx hb dX2_giveBackPrepared_12 rfl (lv_at hl 0 rfl) ?_
    obtain ⟨v13, hv, hk⟩ := hk
    refine r_get (ci := 2) (k := 1) (T := TX2) (N := 2) C Z hv ku_2 rfl (by decide) tw_269 dX2_giveBackPrepared_13 ?_
    refine lv_aload_n hx hb dX2_giveBackPrepared_16 rfl (lv_at hl 0 rfl) ?_
    obtain ⟨v17, hv, hk⟩ := hk
    refine r_get (ci := 2) (k := 0) (T := TX2) (N := 2) C Z hv ku_2 rfl (by decide) tw_267 dX2_giveBackPrepared_17 ?_
    obtain ⟨v20, hv, hk⟩ := hk
    refine r_aald4 C Z hv dX2_giveBackPrepared_20 ?_
    refine lv_aload_n hx hb dX2_giveBackPrepared_21 rfl (lv_at hl 1 rfl) ?_
    refine lv_aload_n hx hb dX2_giveBackPrepared_22 rfl (lv_at hl 2 rfl) ?_
    obtain ⟨ho, hk⟩ := hk
    refine r_callv Z (r_runV (As := [.ref x1, .ref x2]) (rest := []) C Z (m_X6_giveBack l g h v20 x1 x2 _ hk) ho rfl (cwV 2 C.1.2.2.2.2 (gV tw_574 tw_575 tw_576 tw_63 tw_577) rfl rfl rfl (by decide +kernel) ⟨Nat.le_of_ble_eq_true rfl, Nat.le_of_ble_eq_true rfl⟩) rfl hl.1 rfl (Nat.le_of_ble_eq_true rfl) dX2_giveBackPrepared_23 ⟨Nat.zero_le _, Nat.zero_le _⟩) (fun h23 H locs hk Z => ?_)
    exact r_vret C Z hr hk dX2_giveBackPrepared_26
abbrev rmX5_snapshots : Room := ({ frames := 0, cells := 0, slots := 0, locals := 0 } : Room)
abbrev wzX5_snapshots : List Cond := WS yX5_snapshots cX5_snapshots 3 (some .int)
set_option maxRecDepth 100000 in
set_option maxHeartbeats 4000000 in
theorem w_X5_snapshots_4 {p : Program} {l : Launch} {e : Env} {s : State} {m : MethodId} {args : Array Value} {below : List Frame} {meth : Method} {c : Code} {g : Gt} {h0 : Hp} (C : Cx g (dm h0) RX5 cX5_snapshots 3 p s m args meth c) (hr : meth.sig.returnType = (some .int)) {Post : Int32 → Hp → Prop} (x0 : Nat)   : ∀ (n : Nat) (x1 : Int32) (x2 : Int32) (h : Hp) (H : Heap) (locs : List Loc) (ls : Array Slot), lv_has ls 3 [(0, .ref x0), (1, .int x1), (2, .int x2)] → St g (dm h0) s h H locs → wp_X5_snapshots_4 Post x0 n x1 x2 h → W p l e rmX5_snapshots s m args below meth c H locs 0 0 (MQ below (Qi g h0 Post) args s 0 0 (dm h0)) (F0 m 4 ls []) := by
  have hx := C.1.1
  have hb := C.1.2.1
  have hml := C.1.2.2.1
  have hown := C.1.2.2.2.1
  have hts := C.1.2.2.2.2
  intro n
  induction n with
  | zero => intro x1 x2 h H locs ls hl Z hk; exact (show False from hk).elim
  | succ n ih =>
    intro x1 x2 h H locs ls hl Z hk
    unfold wp_X5_snapshots_4 at hk
    refine lv_iload_n hx hb dX5_snapshots_4 rfl (lv_at hl 2 rfl) ?_
    refine lv_iconst (v := (nI 2)) hx hb dX5_snapshots_5 (by decide) ?_
    refine lv_icmp_ge (tgt := 27) hx hb dX5_snapshots_6 (by decide) (fun q => ?_) (fun q => ?_)
    · have hk := hk.1 q
      refine lv_iload_n hx hb dX5_snapshots_27 rfl (lv_at hl 1 rfl) ?_
      exact r_iret C Z hr hk dX5_snapshots_28
    · have hk := hk.2 q
      refine lv_aload_n hx hb dX5_snapshots_9 rfl (lv_at hl 0 rfl) ?_
      obtain ⟨v10, hv, hk⟩ := hk
      refine r_get (ci := 5) (k := 1) (T := TX5) (N := 2) C Z hv ku_5 rfl (by decide) tw_237 dX5_snapshots_10 ?_
      refine lv_iload_n hx hb dX5_snapshots_13 rfl (lv_at hl 2 rfl) ?_
      obtain ⟨v14, hv, hk⟩ := hk
      refine r_zald C Z hv dX5_snapshots_14 ?_
      refine lv_if_eq (tgt := 21) hx hb dX5_snapshots_15 (by decide) (fun q => ?_) (fun q => ?_)
      · have hk := hk.1 q
        obtain ⟨y21, ey21⟩ : ∃ y : Int32, y = x2 + (nI 1) := ⟨_, rfl⟩
        have hk := hk y21 ey21
        refine lv_iinc (v := y21) (lv' := [(2, .int y21), (0, .ref x0), (1, .int x1)]) hx hb dX5_snapshots_21 hl (k := 2) rfl (by rw [ey21]; rfl) (by decide) rfl (fun ls hl => ?_)
        refine lv_goto (tgt := 4) hx hb dX5_snapshots_24 (by decide) ?_
        exact ih x1 y21 h _ _ _ (lv_sub hl [1, 2, 0] rfl) Z hk
      · have hk := hk.2 q
        obtain ⟨y18, ey18⟩ : ∃ y : Int32, y = x1 + (nI 1) := ⟨_, rfl⟩
        have hk := hk y18 ey18
        refine lv_iinc (v := y18) (lv' := [(1, .int y18), (0, .ref x0), (2, .int x2)]) hx hb dX5_snapshots_18 hl (k := 1) rfl (by rw [ey18]; rfl) (by decide) rfl (fun ls hl => ?_)
        obtain ⟨y21, ey21⟩ : ∃ y : Int32, y = x2 + (nI 1) := ⟨_, rfl⟩
        have hk := hk y21 ey21
        refine lv_iinc (v := y21) (lv' := [(2, .int y21), (1, .int y18), (0, .ref x0)]) hx hb dX5_snapshots_21 hl (k := 2) rfl (by rw [ey21]; rfl) (by decide) rfl (fun ls hl => ?_)
        refine lv_goto (tgt := 4) hx hb dX5_snapshots_24 (by decide) ?_
        exact ih y18 y21 h _ _ _ (lv_sub hl [2, 1, 0] rfl) Z hk
set_option maxRecDepth 100000 in
set_option maxHeartbeats 4000000 in
theorem m_X5_snapshots (l : Launch) (g : Gt) (h : Hp) (x0 : Nat) (Post : Int32 → Hp → Prop) (hk : wp_X5_snapshots x0 Post h) : Met l yX5_snapshots wzX5_snapshots rmX5_snapshots (Pg g h [.ref x0]) (Qi g h Post) 0 0 (dm h) := by
  refine Met_of (cc := cX5_snapshots) (maxL := 3) (ret := (some .int)) (by decide) (Nat.le_of_ble_eq_true rfl) (fun p e s m below meth c ls C hr hnm hl Z => ?_)
  have hx := C.1.1
  have hb := C.1.2.1
  have hml := C.1.2.2.1
  have hown := C.1.2.2.2.1
  have hts := C.1.2.2.2.2
  have hl : lv_has ls 3 [(0, .ref x0)] := hl
  unfold wp_X5_snapshots at hk
  generalize s.heap = H at Z ⊢
  generalize ([] : List Loc) = locs at Z ⊢
  refine lv_iconst (v := (nI 0)) hx hb dX5_snapshots_0 (by decide) ?_
  refine lv_istore_n (lv' := [(1, .int (nI 0)), (0, .ref x0)]) hx hb dX5_snapshots_1 rfl hl (by decide) rfl (fun ls hl => ?_)
  refine lv_iconst (v := (nI 0)) hx hb dX5_snapshots_2 (by decide) ?_
  refine lv_istore_n (lv' := [(2, .int (nI 0)), (1, .int (nI 0)), (0, .ref x0)]) hx hb dX5_snapshots_3 rfl hl (by decide) rfl (fun ls hl => ?_)
  obtain ⟨n1, hk⟩ := hk
  exact w_X5_snapshots_4 C hr x0 n1 (nI 0) (nI 0) h _ _ _ (lv_sub hl [2, 1, 0] rfl) Z hk
abbrev rmX0_cardsIn : Room := ({ frames := 1, cells := 0, slots := 0, locals := 21 } : Room)
abbrev wzX0_cardsIn : List Cond := WS yX0_cardsIn cX0_cardsIn 2 (some .int)
set_option maxRecDepth 100000 in
set_option maxHeartbeats 4000000 in
theorem m_X0_cardsIn (l : Launch) (g : Gt) (h : Hp) (x0 : Nat) (x1 : Int32) (Post : Int32 → Hp → Prop) (hk : wp_X0_cardsIn x0 x1 Post h) : Met l yX0_cardsIn wzX0_cardsIn rmX0_cardsIn (Pg g h [.ref x0, .int x1]) (Qi g h Post) 0 0 (dm h) := by
  refine Met_of (cc := cX0_cardsIn) (maxL := 2) (ret := (some .int)) (by decide) (Nat.le_of_ble_eq_true rfl) (fun p e s m below meth c ls C hr hnm hl Z => ?_)
  have hx := C.1.1
  have hb := C.1.2.1
  have hml := C.1.2.2.1
  have hown := C.1.2.2.2.1
  have hts := C.1.2.2.2.2
  have hl : lv_has ls 2 [(0, .ref x0), (1, .int x1)] := hl
  unfold wp_X0_cardsIn at hk
  generalize s.heap = H at Z ⊢
  generalize ([] : List Loc) = locs at Z ⊢
  refine lv_aload_n hx hb dX0_cardsIn_0 rfl (lv_at hl 0 rfl) ?_
  refine lv_iload_n hx hb dX0_cardsIn_1 rfl (lv_at hl 1 rfl) ?_
  obtain ⟨ho, hk⟩ := hk
  refine r_calli Z (r_runV (As := [.int x1]) (rest := []) C Z (m_X0_hasVersion l g h x0 x1 _ hk) ho rfl (cwV 1 C.1.2.2.2.2 (gV tw_763 tw_477 tw_478 tw_60 tw_479) rfl rfl rfl (by decide +kernel) ⟨Nat.le_of_ble_eq_true rfl, Nat.le_of_ble_eq_true rfl⟩) rfl hl.1 rfl (Nat.le_of_ble_eq_true rfl) dX0_cardsIn_2 ⟨Nat.zero_le _, Nat.zero_le _⟩) (fun r2 h2 H locs hk Z => ?_)
  refine lv_if_eq (tgt := 17) hx hb dX0_cardsIn_5 (by decide) (fun q => ?_) (fun q => ?_)
  · have hk := hk.1 q
    refine lv_aload_n hx hb dX0_cardsIn_17 rfl (lv_at hl 0 rfl) ?_
    obtain ⟨v18, hv, hk⟩ := hk
    refine r_get (ci := 0) (k := 0) (T := TX0) (N := 11) C Z hv ku_0 rfl (by decide) tw_99 dX0_cardsIn_18 ?_
    exact r_iret C Z hr hk dX0_cardsIn_21
  · have hk := hk.2 q
    refine lv_aload_n hx hb dX0_cardsIn_8 rfl (lv_at hl 0 rfl) ?_
    obtain ⟨v9, hv, hk⟩ := hk
    refine r_get (ci := 0) (k := 9) (T := TX0) (N := 11) C Z hv ku_0 rfl (by decide) tw_131 dX0_cardsIn_9 ?_
    refine lv_iload_n hx hb dX0_cardsIn_12 rfl (lv_at hl 1 rfl) ?_
    obtain ⟨v13, hv, hk⟩ := hk
    refine r_iald C Z hv dX0_cardsIn_13 ?_
    refine lv_goto (tgt := 21) hx hb dX0_cardsIn_14 (by decide) ?_
    exact r_iret C Z hr hk dX0_cardsIn_21
abbrev rmX0_outcomesIn : Room := ({ frames := 1, cells := 0, slots := 0, locals := 21 } : Room)
abbrev wzX0_outcomesIn : List Cond := WS yX0_outcomesIn cX0_outcomesIn 3 (some .int)
set_option maxRecDepth 100000 in
set_option maxHeartbeats 4000000 in
theorem m_X0_outcomesIn (l : Launch) (g : Gt) (h : Hp) (x0 : Nat) (x1 : Int32) (x2 : Int32) (Post : Int32 → Hp → Prop) (hk : wp_X0_outcomesIn x0 x1 x2 Post h) : Met l yX0_outcomesIn wzX0_outcomesIn rmX0_outcomesIn (Pg g h [.ref x0, .int x1, .int x2]) (Qi g h Post) 0 0 (dm h) := by
  refine Met_of (cc := cX0_outcomesIn) (maxL := 3) (ret := (some .int)) (by decide) (Nat.le_of_ble_eq_true rfl) (fun p e s m below meth c ls C hr hnm hl Z => ?_)
  have hx := C.1.1
  have hb := C.1.2.1
  have hml := C.1.2.2.1
  have hown := C.1.2.2.2.1
  have hts := C.1.2.2.2.2
  have hl : lv_has ls 3 [(0, .ref x0), (1, .int x1), (2, .int x2)] := hl
  unfold wp_X0_outcomesIn at hk
  generalize s.heap = H at Z ⊢
  generalize ([] : List Loc) = locs at Z ⊢
  refine lv_aload_n hx hb dX0_outcomesIn_0 rfl (lv_at hl 0 rfl) ?_
  refine lv_iload_n hx hb dX0_outcomesIn_1 rfl (lv_at hl 1 rfl) ?_
  obtain ⟨ho, hk⟩ := hk
  refine r_calli Z (r_runV (As := [.int x1]) (rest := []) C Z (m_X0_hasVersion l g h x0 x1 _ hk) ho rfl (cwV 1 C.1.2.2.2.2 (gV tw_763 tw_477 tw_478 tw_60 tw_479) rfl rfl rfl (by decide +kernel) ⟨Nat.le_of_ble_eq_true rfl, Nat.le_of_ble_eq_true rfl⟩) rfl hl.1 rfl (Nat.le_of_ble_eq_true rfl) dX0_outcomesIn_2 ⟨Nat.zero_le _, Nat.zero_le _⟩) (fun r2 h2 H locs hk Z => ?_)
  refine lv_if_eq (tgt := 30) hx hb dX0_outcomesIn_5 (by decide) (fun q => ?_) (fun q => ?_)
  · have hk := hk.1 q
    refine lv_iconst (v := (nI 0)) hx hb dX0_outcomesIn_30 (by decide) ?_
    exact r_iret C Z hr hk dX0_outcomesIn_31
  · have hk := hk.2 q
    refine lv_aload_n hx hb dX0_outcomesIn_8 rfl (lv_at hl 0 rfl) ?_
    refine lv_iload_n hx hb dX0_outcomesIn_9 rfl (lv_at hl 2 rfl) ?_
    obtain ⟨ho, hk⟩ := hk
    refine r_calli Z (r_runV (As := [.int x2]) (rest := []) C Z (m_X0_hasCard l g h2 x0 x2 _ hk) ho rfl (cwV 1 C.1.2.2.2.2 (gV tw_773 tw_522 tw_523 tw_60 tw_524) rfl rfl rfl (by decide +kernel) ⟨Nat.le_of_ble_eq_true rfl, Nat.le_of_ble_eq_true rfl⟩) rfl hl.1 rfl (Nat.le_of_ble_eq_true rfl) dX0_outcomesIn_10 ⟨Nat.zero_le _, Nat.zero_le _⟩) (fun r10 h10 H locs hk Z => ?_)
    refine lv_if_eq (tgt := 30) hx hb dX0_outcomesIn_13 (by decide) (fun q => ?_) (fun q => ?_)
    · have hk := hk.1 q
      refine lv_iconst (v := (nI 0)) hx hb dX0_outcomesIn_30 (by decide) ?_
      exact r_iret C Z hr hk dX0_outcomesIn_31
    · have hk := hk.2 q
      refine lv_aload_n hx hb dX0_outcomesIn_16 rfl (lv_at hl 0 rfl) ?_
      obtain ⟨v17, hv, hk⟩ := hk
      refine r_get (ci := 0) (k := 10) (T := TX0) (N := 11) C Z hv ku_0 rfl (by decide) tw_133 dX0_outcomesIn_17 ?_
      refine lv_iload_n hx hb dX0_outcomesIn_20 rfl (lv_at hl 1 rfl) ?_
      refine lv_bipush (v := (nI 40)) hx hb dX0_outcomesIn_21 (by decide) ?_
      refine lv_imul hx hb dX0_outcomesIn_23 ?_
      refine lv_iload_n hx hb dX0_outcomesIn_24 rfl (lv_at hl 2 rfl) ?_
      refine lv_iadd hx hb dX0_outcomesIn_25 ?_
      obtain ⟨v26, hv, hk⟩ := hk
      refine r_iald C Z hv dX0_outcomesIn_26 ?_
      refine lv_goto (tgt := 31) hx hb dX0_outcomesIn_27 (by decide) ?_
      exact r_iret C Z hr hk dX0_outcomesIn_31
