abbrev rmX0_init : Room := ({ frames := 1, cells := 9, slots := 453, locals := 20 } : Room)
abbrev wzX0_init : List Cond := WS yX0_init cX0_init 1 none
set_option maxRecDepth 100000 in
set_option maxHeartbeats 4000000 in
theorem m_X0_init (l : Launch) (g : Gt) (h : Hp) (z : Nat) (x0 : Nat) (Post : Hp → Prop) (hk : wp_X0_init x0 Post h z) : Met l yX0_init wzX0_init rmX0_init (Pgz g h z [.ref x0]) (Qvz g h z 9 Post) 9 453 (dmz h z) := by
  refine Met_ofz (cc := cX0_init) (maxL := 1) (ret := none) (by decide) (Nat.le_of_ble_eq_true rfl) (fun p e s m below meth c ls C hr hnm hl hsz Z => ?_)
  have hx := C.1.1
  have hb := C.1.2.1
  have hml := C.1.2.2.1
  have hown := C.1.2.2.2.1
  have hts := C.1.2.2.2.2
  have hl : lv_has ls 1 [(0, .ref x0)] := hl
  have hA : ∀ q : Nat, s.heap.size ≤ q → dmz h z q := fun q hq => Or.inr (by omega)
  unfold wp_X0_init at hk
  generalize s.heap = H at Z ⊢
  generalize ([] : List Loc) = locs at Z ⊢
  refine lv_aload_n hx hb dX0_init_0 rfl (lv_at hl 0 rfl) ?_
  refine W.objInit hx hb hown (hts _ tw_98) (hts _ tw_79) (hts _ tw_80) rfl (by rw [hml]; exact hl.1) rfl dX0_init_1 (Nat.le_of_ble_eq_true rfl) (Nat.le_of_ble_eq_true rfl) ?_
  refine W.eq (g2 := F0 m 4 ls []) rfl ?_
  refine lv_aload_n hx hb dX0_init_4 rfl (lv_at hl 0 rfl) ?_
  refine lv_bipush (v := (nI 40)) hx hb dX0_init_5 (by decide) ?_
  refine rz_newa (atype := .int) (t := 0) (N := 40) (x := .inl (fun _ => 0)) C Z hA (by decide) rfl tw_158 (fun _ => rfl) (by decide) (by decide) (by decide) (Nat.le_of_ble_eq_true rfl) (Nat.le_of_ble_eq_true rfl) dX0_init_7 (fun H Z => ?_)
  have hk := hk _ rfl
  obtain ⟨h9, hv, hk⟩ := hk
  refine rz_putF (ci := 0) (k := 2) (T := TX0) (N := 11) C Z hv ku_0 tyX0_ok nmX0 rfl (by decide) tw_107 rfl hnm rfl rfl rfl dX0_init_9 (fun H locs Z => ?_)
  refine lv_aload_n hx hb dX0_init_12 rfl (lv_at hl 0 rfl) ?_
  refine lv_bipush (v := (nI 40)) hx hb dX0_init_13 (by decide) ?_
  refine rz_newa (atype := .int) (t := 0) (N := 40) (x := .inl (fun _ => 0)) C Z hA (by decide) rfl tw_158 (fun _ => rfl) (by decide) (by decide) (by decide) (Nat.le_of_ble_eq_true rfl) (Nat.le_of_ble_eq_true rfl) dX0_init_15 (fun H Z => ?_)
  have hk := hk _ rfl
  obtain ⟨h17, hv, hk⟩ := hk
  refine rz_putF (ci := 0) (k := 3) (T := TX0) (N := 11) C Z hv ku_0 tyX0_ok nmX0 rfl (by decide) tw_111 rfl hnm rfl rfl rfl dX0_init_17 (fun H locs Z => ?_)
  refine lv_aload_n hx hb dX0_init_20 rfl (lv_at hl 0 rfl) ?_
  refine lv_bipush (v := (nI 40)) hx hb dX0_init_21 (by decide) ?_
  refine rz_newa (atype := .int) (t := 0) (N := 40) (x := .inl (fun _ => 0)) C Z hA (by decide) rfl tw_158 (fun _ => rfl) (by decide) (by decide) (by decide) (Nat.le_of_ble_eq_true rfl) (Nat.le_of_ble_eq_true rfl) dX0_init_23 (fun H Z => ?_)
  have hk := hk _ rfl
  obtain ⟨h25, hv, hk⟩ := hk
  refine rz_putF (ci := 0) (k := 4) (T := TX0) (N := 11) C Z hv ku_0 tyX0_ok nmX0 rfl (by decide) tw_115 rfl hnm rfl rfl rfl dX0_init_25 (fun H locs Z => ?_)
  refine lv_aload_n hx hb dX0_init_28 rfl (lv_at hl 0 rfl) ?_
  refine lv_bipush (v := (nI 40)) hx hb dX0_init_29 (by decide) ?_
  refine rz_newa (atype := .long) (t := 1) (N := 40) (x := .inr (.inl (fun _ => 0))) C Z hA (by decide) rfl tw_159 (fun _ => rfl) (by decide) (by decide) (by decide) (Nat.le_of_ble_eq_true rfl) (Nat.le_of_ble_eq_true rfl) dX0_init_31 (fun H Z => ?_)
  have hk := hk _ rfl
  obtain ⟨h33, hv, hk⟩ := hk
  refine rz_putF (ci := 0) (k := 5) (T := TX0) (N := 11) C Z hv ku_0 tyX0_ok nmX0 rfl (by decide) tw_119 rfl hnm rfl rfl rfl dX0_init_33 (fun H locs Z => ?_)
  refine lv_aload_n hx hb dX0_init_36 rfl (lv_at hl 0 rfl) ?_
  refine lv_bipush (v := (nI 40)) hx hb dX0_init_37 (by decide) ?_
  refine rz_newa (atype := .long) (t := 1) (N := 40) (x := .inr (.inl (fun _ => 0))) C Z hA (by decide) rfl tw_159 (fun _ => rfl) (by decide) (by decide) (by decide) (Nat.le_of_ble_eq_true rfl) (Nat.le_of_ble_eq_true rfl) dX0_init_39 (fun H Z => ?_)
  have hk := hk _ rfl
  obtain ⟨h41, hv, hk⟩ := hk
  refine rz_putF (ci := 0) (k := 6) (T := TX0) (N := 11) C Z hv ku_0 tyX0_ok nmX0 rfl (by decide) tw_122 rfl hnm rfl rfl rfl dX0_init_41 (fun H locs Z => ?_)
  refine lv_aload_n hx hb dX0_init_44 rfl (lv_at hl 0 rfl) ?_
  refine lv_iconst (v := (nI 3)) hx hb dX0_init_45 (by decide) ?_
  refine rz_newa (atype := .int) (t := 0) (N := 3) (x := .inl (fun _ => 0)) C Z hA (by decide) rfl tw_158 (fun _ => rfl) (by decide) (by decide) (by decide) (Nat.le_of_ble_eq_true rfl) (Nat.le_of_ble_eq_true rfl) dX0_init_46 (fun H Z => ?_)
  have hk := hk _ rfl
  obtain ⟨h48, hv, hk⟩ := hk
  refine rz_putF (ci := 0) (k := 7) (T := TX0) (N := 11) C Z hv ku_0 tyX0_ok nmX0 rfl (by decide) tw_125 rfl hnm rfl rfl rfl dX0_init_48 (fun H locs Z => ?_)
  refine lv_aload_n hx hb dX0_init_51 rfl (lv_at hl 0 rfl) ?_
  refine lv_iconst (v := (nI 4)) hx hb dX0_init_52 (by decide) ?_
  refine rz_newa (atype := .int) (t := 0) (N := 4) (x := .inl (fun _ => 0)) C Z hA (by decide) rfl tw_158 (fun _ => rfl) (by decide) (by decide) (by decide) (Nat.le_of_ble_eq_true rfl) (Nat.le_of_ble_eq_true rfl) dX0_init_53 (fun H Z => ?_)
  have hk := hk _ rfl
  refine lv_dup hx hb dX0_init_55 rfl ?_
  refine lv_iconst (v := (nI 0)) hx hb dX0_init_56 (by decide) ?_
  refine lv_iconst (v := (nI 4)) hx hb dX0_init_57 (by decide) ?_
  obtain ⟨h58, hv, hk⟩ := hk
  refine rz_iast C Z hv dX0_init_58 (fun H locs Z => ?_)
  refine lv_dup hx hb dX0_init_59 rfl ?_
  refine lv_iconst (v := (nI 1)) hx hb dX0_init_60 (by decide) ?_
  refine lv_bipush (v := (nI 6)) hx hb dX0_init_61 (by decide) ?_
  obtain ⟨h63, hv, hk⟩ := hk
  refine rz_iast C Z hv dX0_init_63 (fun H locs Z => ?_)
  refine lv_dup hx hb dX0_init_64 rfl ?_
  refine lv_iconst (v := (nI 2)) hx hb dX0_init_65 (by decide) ?_
  refine lv_iconst (v := (nI 4)) hx hb dX0_init_66 (by decide) ?_
  obtain ⟨h67, hv, hk⟩ := hk
  refine rz_iast C Z hv dX0_init_67 (fun H locs Z => ?_)
  refine lv_dup hx hb dX0_init_68 rfl ?_
  refine lv_iconst (v := (nI 3)) hx hb dX0_init_69 (by decide) ?_
  refine lv_iconst (v := (nI 5)) hx hb dX0_init_70 (by decide) ?_
  obtain ⟨h71, hv, hk⟩ := hk
  refine rz_iast C Z hv dX0_init_71 (fun H locs Z => ?_)
  obtain ⟨h72, hv, hk⟩ := hk
  refine rz_putF (ci := 0) (k := 8) (T := TX0) (N := 11) C Z hv ku_0 tyX0_ok nmX0 rfl (by decide) tw_127 rfl hnm rfl rfl rfl dX0_init_72 (fun H locs Z => ?_)
  refine lv_aload_n hx hb dX0_init_75 rfl (lv_at hl 0 rfl) ?_
  refine lv_bipush (v := (nI 6)) hx hb dX0_init_76 (by decide) ?_
  refine rz_newa (atype := .int) (t := 0) (N := 6) (x := .inl (fun _ => 0)) C Z hA (by decide) rfl tw_158 (fun _ => rfl) (by decide) (by decide) (by decide) (Nat.le_of_ble_eq_true rfl) (Nat.le_of_ble_eq_true rfl) dX0_init_78 (fun H Z => ?_)
  have hk := hk _ rfl
  obtain ⟨h80, hv, hk⟩ := hk
  refine rz_putF (ci := 0) (k := 9) (T := TX0) (N := 11) C Z hv ku_0 tyX0_ok nmX0 rfl (by decide) tw_131 rfl hnm rfl rfl rfl dX0_init_80 (fun H locs Z => ?_)
  refine lv_aload_n hx hb dX0_init_83 rfl (lv_at hl 0 rfl) ?_
  refine lv_sipush (v := (nI 240)) hx hb dX0_init_84 (by decide) ?_
  refine rz_newa (atype := .int) (t := 0) (N := 240) (x := .inl (fun _ => 0)) C Z hA (by decide) rfl tw_158 (fun _ => rfl) (by decide) (by decide) (by decide) (Nat.le_of_ble_eq_true rfl) (Nat.le_of_ble_eq_true rfl) dX0_init_87 (fun H Z => ?_)
  have hk := hk _ rfl
  obtain ⟨h89, hv, hk⟩ := hk
  refine rz_putF (ci := 0) (k := 10) (T := TX0) (N := 11) C Z hv ku_0 tyX0_ok nmX0 rfl (by decide) tw_133 rfl hnm rfl rfl rfl dX0_init_89 (fun H locs Z => ?_)
  exact rz_vret rfl C hsz Z hr hk dX0_init_92
abbrev rmX4_init : Room := ({ frames := 2, cells := 24, slots := 4984, locals := 40 } : Room)
abbrev wzX4_init : List Cond := WS yX4_init cX4_init 1 none
set_option maxRecDepth 100000 in
set_option maxHeartbeats 4000000 in
theorem m_X4_init (l : Launch) (g : Gt) (h : Hp) (z : Nat) (x0 : Nat) (Post : Hp → Prop) (hk : wp_X4_init x0 Post h z) : Met l yX4_init wzX4_init rmX4_init (Pgz g h z [.ref x0]) (Qvz g h z 24 Post) 24 4984 (dmz h z) := by
  refine Met_ofz (cc := cX4_init) (maxL := 1) (ret := none) (by decide) (Nat.le_of_ble_eq_true rfl) (fun p e s m below meth c ls C hr hnm hl hsz Z => ?_)
  have hx := C.1.1
  have hb := C.1.2.1
  have hml := C.1.2.2.1
  have hown := C.1.2.2.2.1
  have hts := C.1.2.2.2.2
  have hl : lv_has ls 1 [(0, .ref x0)] := hl
  have hA : ∀ q : Nat, s.heap.size ≤ q → dmz h z q := fun q hq => Or.inr (by omega)
  unfold wp_X4_init at hk
  generalize s.heap = H at Z ⊢
  generalize ([] : List Loc) = locs at Z ⊢
  refine lv_aload_n hx hb dX4_init_0 rfl (lv_at hl 0 rfl) ?_
  refine W.objInit hx hb hown (hts _ tw_92) (hts _ tw_79) (hts _ tw_80) rfl (by rw [hml]; exact hl.1) rfl dX4_init_1 (Nat.le_of_ble_eq_true rfl) (Nat.le_of_ble_eq_true rfl) ?_
  refine W.eq (g2 := F0 m 4 ls []) rfl ?_
  refine lv_aload_n hx hb dX4_init_4 rfl (lv_at hl 0 rfl) ?_
  refine rz_new (ci := 0) (fs := [.int 0, .int 0, .null, .null, .null, .null, .null, .null, .null, .null, .null]) C Z hA rfl ku_0 tyX0_ok tw_93 tw_94 tw_60 (fun j hj => by rcases (show j = 0 ∨ j = 1 ∨ j = 2 ∨ j = 3 ∨ j = 4 ∨ j = 5 ∨ j = 6 ∨ j = 7 ∨ j = 8 ∨ j = 9 ∨ j = 10 by omega) with rfl | rfl | rfl | rfl | rfl | rfl | rfl | rfl | rfl | rfl | rfl <;> rfl) (Nat.le_of_ble_eq_true rfl) (Nat.le_of_ble_eq_true rfl) dX4_init_5 (fun H Z => ?_)
  have hk := hk _ rfl
  refine lv_dup hx hb dX4_init_8 rfl ?_
  refine rz_init (mc := 9) (ms := 453) (rest := [.ref z, .ref x0]) C Z hA (m_X0_init l g _ (z + 1) z _ hk) ⟨va_cnB 0 C.1.2.2.2.2 (gW tw_97) rfl rfl rfl (C.2.2.1.2.1 ("SmudgeTally$Sight", 11, yX0_init) (by decide +kernel)) (hts _ tw_60) (by decide +kernel) ⟨Nat.le_of_ble_eq_true rfl, Nat.le_of_ble_eq_true rfl⟩, rfl, hts _ tw_96⟩ hl.1 (Nat.le_of_ble_eq_true rfl) dX4_init_9 ⟨Nat.le_of_ble_eq_true rfl, Nat.le_of_ble_eq_true rfl⟩ (fun hc9 H locs hk Z => ?_)
  obtain ⟨h12, hv, hk⟩ := hk
  refine rz_putF (ci := 4) (k := 0) (T := TX4) (N := 15) C Z hv ku_4 tyX4_ok nmX4 rfl (by decide) tw_160 rfl hnm rfl rfl rfl dX4_init_12 (fun H locs Z => ?_)
  refine lv_aload_n hx hb dX4_init_15 rfl (lv_at hl 0 rfl) ?_
  refine lv_bipush (v := (nI 40)) hx hb dX4_init_16 (by decide) ?_
  refine rz_newa (atype := .int) (t := 0) (N := 40) (x := .inl (fun _ => 0)) C Z hA (by decide) rfl tw_158 (fun _ => rfl) (by decide) (by decide) (by decide) (Nat.le_of_ble_eq_true rfl) (Nat.le_of_ble_eq_true rfl) dX4_init_18 (fun H Z => ?_)
  have hk := hk _ rfl
  obtain ⟨h20, hv, hk⟩ := hk
  refine rz_putF (ci := 4) (k := 1) (T := TX4) (N := 15) C Z hv ku_4 tyX4_ok nmX4 rfl (by decide) tw_163 rfl hnm rfl rfl rfl dX4_init_20 (fun H locs Z => ?_)
  refine lv_aload_n hx hb dX4_init_23 rfl (lv_at hl 0 rfl) ?_
  refine lv_sipush (v := (nI 480)) hx hb dX4_init_24 (by decide) ?_
  refine rz_newa (atype := .int) (t := 0) (N := 480) (x := .inl (fun _ => 0)) C Z hA (by decide) rfl tw_158 (fun _ => rfl) (by decide) (by decide) (by decide) (Nat.le_of_ble_eq_true rfl) (Nat.le_of_ble_eq_true rfl) dX4_init_27 (fun H Z => ?_)
  have hk := hk _ rfl
  obtain ⟨h29, hv, hk⟩ := hk
  refine rz_putF (ci := 4) (k := 2) (T := TX4) (N := 15) C Z hv ku_4 tyX4_ok nmX4 rfl (by decide) tw_164 rfl hnm rfl rfl rfl dX4_init_29 (fun H locs Z => ?_)
  refine lv_aload_n hx hb dX4_init_32 rfl (lv_at hl 0 rfl) ?_
  refine lv_sipush (v := (nI 480)) hx hb dX4_init_33 (by decide) ?_
  refine rz_newa (atype := .int) (t := 0) (N := 480) (x := .inl (fun _ => 0)) C Z hA (by decide) rfl tw_158 (fun _ => rfl) (by decide) (by decide) (by decide) (Nat.le_of_ble_eq_true rfl) (Nat.le_of_ble_eq_true rfl) dX4_init_36 (fun H Z => ?_)
  have hk := hk _ rfl
  obtain ⟨h38, hv, hk⟩ := hk
  refine rz_putF (ci := 4) (k := 3) (T := TX4) (N := 15) C Z hv ku_4 tyX4_ok nmX4 rfl (by decide) tw_166 rfl hnm rfl rfl rfl dX4_init_38 (fun H locs Z => ?_)
  refine lv_aload_n hx hb dX4_init_41 rfl (lv_at hl 0 rfl) ?_
  refine lv_sipush (v := (nI 480)) hx hb dX4_init_42 (by decide) ?_
  refine rz_newa (atype := .int) (t := 0) (N := 480) (x := .inl (fun _ => 0)) C Z hA (by decide) rfl tw_158 (fun _ => rfl) (by decide) (by decide) (by decide) (Nat.le_of_ble_eq_true rfl) (Nat.le_of_ble_eq_true rfl) dX4_init_45 (fun H Z => ?_)
  have hk := hk _ rfl
  obtain ⟨h47, hv, hk⟩ := hk
  refine rz_putF (ci := 4) (k := 4) (T := TX4) (N := 15) C Z hv ku_4 tyX4_ok nmX4 rfl (by decide) tw_168 rfl hnm rfl rfl rfl dX4_init_47 (fun H locs Z => ?_)
  refine lv_aload_n hx hb dX4_init_50 rfl (lv_at hl 0 rfl) ?_
  refine lv_sipush (v := (nI 480)) hx hb dX4_init_51 (by decide) ?_
  refine rz_newa (atype := .int) (t := 0) (N := 480) (x := .inl (fun _ => 0)) C Z hA (by decide) rfl tw_158 (fun _ => rfl) (by decide) (by decide) (by decide) (Nat.le_of_ble_eq_true rfl) (Nat.le_of_ble_eq_true rfl) dX4_init_54 (fun H Z => ?_)
  have hk := hk _ rfl
  obtain ⟨h56, hv, hk⟩ := hk
  refine rz_putF (ci := 4) (k := 5) (T := TX4) (N := 15) C Z hv ku_4 tyX4_ok nmX4 rfl (by decide) tw_170 rfl hnm rfl rfl rfl dX4_init_56 (fun H locs Z => ?_)
  refine lv_aload_n hx hb dX4_init_59 rfl (lv_at hl 0 rfl) ?_
  refine lv_sipush (v := (nI 480)) hx hb dX4_init_60 (by decide) ?_
  refine rz_newa (atype := .int) (t := 0) (N := 480) (x := .inl (fun _ => 0)) C Z hA (by decide) rfl tw_158 (fun _ => rfl) (by decide) (by decide) (by decide) (Nat.le_of_ble_eq_true rfl) (Nat.le_of_ble_eq_true rfl) dX4_init_63 (fun H Z => ?_)
  have hk := hk _ rfl
  obtain ⟨h65, hv, hk⟩ := hk
  refine rz_putF (ci := 4) (k := 6) (T := TX4) (N := 15) C Z hv ku_4 tyX4_ok nmX4 rfl (by decide) tw_172 rfl hnm rfl rfl rfl dX4_init_65 (fun H locs Z => ?_)
  refine lv_aload_n hx hb dX4_init_68 rfl (lv_at hl 0 rfl) ?_
  refine lv_sipush (v := (nI 480)) hx hb dX4_init_69 (by decide) ?_
  refine rz_newa (atype := .int) (t := 0) (N := 480) (x := .inl (fun _ => 0)) C Z hA (by decide) rfl tw_158 (fun _ => rfl) (by decide) (by decide) (by decide) (Nat.le_of_ble_eq_true rfl) (Nat.le_of_ble_eq_true rfl) dX4_init_72 (fun H Z => ?_)
  have hk := hk _ rfl
  obtain ⟨h74, hv, hk⟩ := hk
  refine rz_putF (ci := 4) (k := 7) (T := TX4) (N := 15) C Z hv ku_4 tyX4_ok nmX4 rfl (by decide) tw_174 rfl hnm rfl rfl rfl dX4_init_74 (fun H locs Z => ?_)
  refine lv_aload_n hx hb dX4_init_77 rfl (lv_at hl 0 rfl) ?_
  refine lv_sipush (v := (nI 480)) hx hb dX4_init_78 (by decide) ?_
  refine rz_newa (atype := .int) (t := 0) (N := 480) (x := .inl (fun _ => 0)) C Z hA (by decide) rfl tw_158 (fun _ => rfl) (by decide) (by decide) (by decide) (Nat.le_of_ble_eq_true rfl) (Nat.le_of_ble_eq_true rfl) dX4_init_81 (fun H Z => ?_)
  have hk := hk _ rfl
  obtain ⟨h83, hv, hk⟩ := hk
  refine rz_putF (ci := 4) (k := 8) (T := TX4) (N := 15) C Z hv ku_4 tyX4_ok nmX4 rfl (by decide) tw_175 rfl hnm rfl rfl rfl dX4_init_83 (fun H locs Z => ?_)
  refine lv_aload_n hx hb dX4_init_86 rfl (lv_at hl 0 rfl) ?_
  refine lv_sipush (v := (nI 480)) hx hb dX4_init_87 (by decide) ?_
  refine rz_newa (atype := .int) (t := 0) (N := 480) (x := .inl (fun _ => 0)) C Z hA (by decide) rfl tw_158 (fun _ => rfl) (by decide) (by decide) (by decide) (Nat.le_of_ble_eq_true rfl) (Nat.le_of_ble_eq_true rfl) dX4_init_90 (fun H Z => ?_)
  have hk := hk _ rfl
  obtain ⟨h92, hv, hk⟩ := hk
  refine rz_putF (ci := 4) (k := 9) (T := TX4) (N := 15) C Z hv ku_4 tyX4_ok nmX4 rfl (by decide) tw_177 rfl hnm rfl rfl rfl dX4_init_92 (fun H locs Z => ?_)
  refine lv_aload_n hx hb dX4_init_95 rfl (lv_at hl 0 rfl) ?_
  refine lv_sipush (v := (nI 480)) hx hb dX4_init_96 (by decide) ?_
  refine rz_newa (atype := .int) (t := 0) (N := 480) (x := .inl (fun _ => 0)) C Z hA (by decide) rfl tw_158 (fun _ => rfl) (by decide) (by decide) (by decide) (Nat.le_of_ble_eq_true rfl) (Nat.le_of_ble_eq_true rfl) dX4_init_99 (fun H Z => ?_)
  have hk := hk _ rfl
  obtain ⟨h101, hv, hk⟩ := hk
  refine rz_putF (ci := 4) (k := 10) (T := TX4) (N := 15) C Z hv ku_4 tyX4_ok nmX4 rfl (by decide) tw_179 rfl hnm rfl rfl rfl dX4_init_101 (fun H locs Z => ?_)
  refine lv_aload_n hx hb dX4_init_104 rfl (lv_at hl 0 rfl) ?_
  refine lv_bipush (v := (nI 40)) hx hb dX4_init_105 (by decide) ?_
  refine rz_newa (atype := .int) (t := 0) (N := 40) (x := .inl (fun _ => 0)) C Z hA (by decide) rfl tw_158 (fun _ => rfl) (by decide) (by decide) (by decide) (Nat.le_of_ble_eq_true rfl) (Nat.le_of_ble_eq_true rfl) dX4_init_107 (fun H Z => ?_)
  have hk := hk _ rfl
  obtain ⟨h109, hv, hk⟩ := hk
  refine rz_putF (ci := 4) (k := 11) (T := TX4) (N := 15) C Z hv ku_4 tyX4_ok nmX4 rfl (by decide) tw_181 rfl hnm rfl rfl rfl dX4_init_109 (fun H locs Z => ?_)
  refine lv_aload_n hx hb dX4_init_112 rfl (lv_at hl 0 rfl) ?_
  refine lv_bipush (v := (nI 40)) hx hb dX4_init_113 (by decide) ?_
  refine rz_newa (atype := .int) (t := 0) (N := 40) (x := .inl (fun _ => 0)) C Z hA (by decide) rfl tw_158 (fun _ => rfl) (by decide) (by decide) (by decide) (Nat.le_of_ble_eq_true rfl) (Nat.le_of_ble_eq_true rfl) dX4_init_115 (fun H Z => ?_)
  have hk := hk _ rfl
  obtain ⟨h117, hv, hk⟩ := hk
  refine rz_putF (ci := 4) (k := 12) (T := TX4) (N := 15) C Z hv ku_4 tyX4_ok nmX4 rfl (by decide) tw_183 rfl hnm rfl rfl rfl dX4_init_117 (fun H locs Z => ?_)
  refine lv_aload_n hx hb dX4_init_120 rfl (lv_at hl 0 rfl) ?_
  refine lv_bipush (v := (nI 40)) hx hb dX4_init_121 (by decide) ?_
  refine rz_newa (atype := .boolean) (t := 2) (N := 40) (x := .inl (fun _ => 0)) C Z hA (by decide) rfl tw_218 (fun _ => rfl) (by decide) (by decide) (by decide) (Nat.le_of_ble_eq_true rfl) (Nat.le_of_ble_eq_true rfl) dX4_init_123 (fun H Z => ?_)
  have hk := hk _ rfl
  obtain ⟨h125, hv, hk⟩ := hk
  refine rz_putF (ci := 4) (k := 13) (T := TX4) (N := 15) C Z hv ku_4 tyX4_ok nmX4 rfl (by decide) tw_185 rfl hnm rfl rfl rfl dX4_init_125 (fun H locs Z => ?_)
  refine lv_aload_n hx hb dX4_init_128 rfl (lv_at hl 0 rfl) ?_
  refine lv_bipush (v := (nI 40)) hx hb dX4_init_129 (by decide) ?_
  refine rz_newa (atype := .int) (t := 0) (N := 40) (x := .inl (fun _ => 0)) C Z hA (by decide) rfl tw_158 (fun _ => rfl) (by decide) (by decide) (by decide) (Nat.le_of_ble_eq_true rfl) (Nat.le_of_ble_eq_true rfl) dX4_init_131 (fun H Z => ?_)
  have hk := hk _ rfl
  obtain ⟨h133, hv, hk⟩ := hk
  refine rz_putF (ci := 4) (k := 14) (T := TX4) (N := 15) C Z hv ku_4 tyX4_ok nmX4 rfl (by decide) tw_186 rfl hnm rfl rfl rfl dX4_init_133 (fun H locs Z => ?_)
  exact rz_vret rfl C hsz Z hr hk dX4_init_136
abbrev rmX1_init : Room := ({ frames := 3, cells := 25, slots := 4999, locals := 60 } : Room)
abbrev wzX1_init : List Cond := WS yX1_init cX1_init 1 none
set_option maxRecDepth 100000 in
set_option maxHeartbeats 4000000 in
theorem m_X1_init (l : Launch) (g : Gt) (h : Hp) (z : Nat) (x0 : Nat) (Post : Hp → Prop) (hk : wp_X1_init x0 Post h z) : Met l yX1_init wzX1_init rmX1_init (Pgz g h z [.ref x0]) (Qvz g h z 25 Post) 25 4999 (dmz h z) := by
  refine Met_ofz (cc := cX1_init) (maxL := 1) (ret := none) (by decide) (Nat.le_of_ble_eq_true rfl) (fun p e s m below meth c ls C hr hnm hl hsz Z => ?_)
  have hx := C.1.1
  have hb := C.1.2.1
  have hml := C.1.2.2.1
  have hown := C.1.2.2.2.1
  have hts := C.1.2.2.2.2
  have hl : lv_has ls 1 [(0, .ref x0)] := hl
  have hA : ∀ q : Nat, s.heap.size ≤ q → dmz h z q := fun q hq => Or.inr (by omega)
  unfold wp_X1_init at hk
  generalize s.heap = H at Z ⊢
  generalize ([] : List Loc) = locs at Z ⊢
  refine lv_aload_n hx hb dX1_init_0 rfl (lv_at hl 0 rfl) ?_
  refine W.objInit hx hb hown (hts _ tw_86) (hts _ tw_79) (hts _ tw_80) rfl (by rw [hml]; exact hl.1) rfl dX1_init_1 (Nat.le_of_ble_eq_true rfl) (Nat.le_of_ble_eq_true rfl) ?_
  refine W.eq (g2 := F0 m 4 ls []) rfl ?_
  refine lv_aload_n hx hb dX1_init_4 rfl (lv_at hl 0 rfl) ?_
  refine rz_new (ci := 4) (fs := [.null, .null, .null, .null, .null, .null, .null, .null, .null, .null, .null, .null, .null, .null, .null]) C Z hA rfl ku_4 tyX4_ok tw_87 tw_88 tw_59 (fun j hj => by rcases (show j = 0 ∨ j = 1 ∨ j = 2 ∨ j = 3 ∨ j = 4 ∨ j = 5 ∨ j = 6 ∨ j = 7 ∨ j = 8 ∨ j = 9 ∨ j = 10 ∨ j = 11 ∨ j = 12 ∨ j = 13 ∨ j = 14 by omega) with rfl | rfl | rfl | rfl | rfl | rfl | rfl | rfl | rfl | rfl | rfl | rfl | rfl | rfl | rfl <;> rfl) (Nat.le_of_ble_eq_true rfl) (Nat.le_of_ble_eq_true rfl) dX1_init_5 (fun H Z => ?_)
  have hk := hk _ rfl
  refine lv_dup hx hb dX1_init_8 rfl ?_
  refine rz_init (mc := 24) (ms := 4984) (rest := [.ref z, .ref x0]) C Z hA (m_X4_init l g _ (z + 1) z _ hk) ⟨va_cnB 0 C.1.2.2.2.2 (gW tw_91) rfl rfl rfl (C.2.2.1.2.1 ("SmudgeTally$Clerk", 11, yX4_init) (by decide +kernel)) (hts _ tw_59) (by decide +kernel) ⟨Nat.le_of_ble_eq_true rfl, Nat.le_of_ble_eq_true rfl⟩, rfl, hts _ tw_90⟩ hl.1 (Nat.le_of_ble_eq_true rfl) dX1_init_9 ⟨Nat.le_of_ble_eq_true rfl, Nat.le_of_ble_eq_true rfl⟩ (fun hc9 H locs hk Z => ?_)
  obtain ⟨h12, hv, hk⟩ := hk
  refine rz_putF (ci := 1) (k := 0) (T := TX1) (N := 2) C Z hv ku_1 tyX1_ok nmX1 rfl (by decide) tw_219 rfl hnm rfl rfl rfl dX1_init_12 (fun H locs Z => ?_)
  refine lv_aload_n hx hb dX1_init_15 rfl (lv_at hl 0 rfl) ?_
  refine lv_aload_n hx hb dX1_init_16 rfl (lv_at hl 0 rfl) ?_
  obtain ⟨v17, hv, hk⟩ := hk
  refine r_get (ci := 1) (k := 0) (T := TX1) (N := 2) C Z.2.2 hv ku_1 rfl (by decide) tw_219 dX1_init_17 ?_
  obtain ⟨v20, hv, hk⟩ := hk
  refine r_get (ci := 4) (k := 0) (T := TX4) (N := 15) C Z.2.2 hv ku_4 rfl (by decide) tw_161 dX1_init_20 ?_
  obtain ⟨h23, hv, hk⟩ := hk
  refine rz_putF (ci := 1) (k := 1) (T := TX1) (N := 2) C Z hv ku_1 tyX1_ok nmX1 rfl (by decide) tw_221 rfl hnm rfl rfl rfl dX1_init_23 (fun H locs Z => ?_)
  exact rz_vret rfl C hsz Z hr hk dX1_init_26
abbrev rmX5_init : Room := ({ frames := 2, cells := 22, slots := 932, locals := 40 } : Room)
abbrev wzX5_init : List Cond := WS yX5_init cX5_init 1 none
set_option maxRecDepth 100000 in
set_option maxHeartbeats 4000000 in
theorem m_X5_init (l : Launch) (g : Gt) (h : Hp) (z : Nat) (x0 : Nat) (Post : Hp → Prop) (hk : wp_X5_init x0 Post h z) : Met l yX5_init wzX5_init rmX5_init (Pgz g h z [.ref x0]) (Qvz g h z 22 Post) 22 932 (dmz h z) := by
  refine Met_ofz (cc := cX5_init) (maxL := 1) (ret := none) (by decide) (Nat.le_of_ble_eq_true rfl) (fun p e s m below meth c ls C hr hnm hl hsz Z => ?_)
  have hx := C.1.1
  have hb := C.1.2.1
  have hml := C.1.2.2.1
  have hown := C.1.2.2.2.1
  have hts := C.1.2.2.2.2
  have hl : lv_has ls 1 [(0, .ref x0)] := hl
  have hA : ∀ q : Nat, s.heap.size ≤ q → dmz h z q := fun q hq => Or.inr (by omega)
  unfold wp_X5_init at hk
  generalize s.heap = H at Z ⊢
  generalize ([] : List Loc) = locs at Z ⊢
  refine lv_aload_n hx hb dX5_init_0 rfl (lv_at hl 0 rfl) ?_
  refine W.objInit hx hb hown (hts _ tw_232) (hts _ tw_79) (hts _ tw_80) rfl (by rw [hml]; exact hl.1) rfl dX5_init_1 (Nat.le_of_ble_eq_true rfl) (Nat.le_of_ble_eq_true rfl) ?_
  refine W.eq (g2 := F0 m 4 ls []) rfl ?_
  refine lv_aload_n hx hb dX5_init_4 rfl (lv_at hl 0 rfl) ?_
  refine lv_iconst (v := (nI 2)) hx hb dX5_init_5 (by decide) ?_
  refine rz_anew (CN := RX0) (t := 3) (N := 2) C Z hA (by decide) rfl tw_233 C.2.2.1.2.2.2.2.1 (by decide) (by decide) (by decide) (Nat.le_of_ble_eq_true rfl) (Nat.le_of_ble_eq_true rfl) dX5_init_6 (fun H Z => ?_)
  have hk := hk _ rfl
  refine lv_dup hx hb dX5_init_9 rfl ?_
  refine lv_iconst (v := (nI 0)) hx hb dX5_init_10 (by decide) ?_
  refine rz_new (ci := 0) (fs := [.int 0, .int 0, .null, .null, .null, .null, .null, .null, .null, .null, .null]) C Z hA rfl ku_0 tyX0_ok tw_233 tw_94 tw_60 (fun j hj => by rcases (show j = 0 ∨ j = 1 ∨ j = 2 ∨ j = 3 ∨ j = 4 ∨ j = 5 ∨ j = 6 ∨ j = 7 ∨ j = 8 ∨ j = 9 ∨ j = 10 by omega) with rfl | rfl | rfl | rfl | rfl | rfl | rfl | rfl | rfl | rfl | rfl <;> rfl) (Nat.le_of_ble_eq_true rfl) (Nat.le_of_ble_eq_true rfl) dX5_init_11 (fun H Z => ?_)
  have hk := hk _ rfl
  refine lv_dup hx hb dX5_init_14 rfl ?_
  refine rz_init (mc := 9) (ms := 453) (rest := [.ref (z + 1), .int (nI 0), .ref z, .ref z, .ref x0]) C Z hA (m_X0_init l g _ (z + 2) (z + 1) _ hk) ⟨va_cnB 0 C.1.2.2.2.2 (gW tw_97) rfl rfl rfl (C.2.2.1.2.1 ("SmudgeTally$Slots", 11, yX0_init) (by decide +kernel)) (hts _ tw_60) (by decide +kernel) ⟨Nat.le_of_ble_eq_true rfl, Nat.le_of_ble_eq_true rfl⟩, rfl, hts _ tw_96⟩ hl.1 (Nat.le_of_ble_eq_true rfl) dX5_init_15 ⟨Nat.le_of_ble_eq_true rfl, Nat.le_of_ble_eq_true rfl⟩ (fun hc15 H locs hk Z => ?_)
  obtain ⟨ho, hk⟩ := hk
  obtain ⟨h18, hv, hk⟩ := hk
  refine rz_aast3 C Z ho hv dX5_init_18 (fun H locs Z => ?_)
  refine lv_dup hx hb dX5_init_19 rfl ?_
  refine lv_iconst (v := (nI 1)) hx hb dX5_init_20 (by decide) ?_
  refine rz_new (ci := 0) (fs := [.int 0, .int 0, .null, .null, .null, .null, .null, .null, .null, .null, .null]) C Z hA rfl ku_0 tyX0_ok tw_233 tw_94 tw_60 (fun j hj => by rcases (show j = 0 ∨ j = 1 ∨ j = 2 ∨ j = 3 ∨ j = 4 ∨ j = 5 ∨ j = 6 ∨ j = 7 ∨ j = 8 ∨ j = 9 ∨ j = 10 by omega) with rfl | rfl | rfl | rfl | rfl | rfl | rfl | rfl | rfl | rfl | rfl <;> rfl) (Nat.le_of_ble_eq_true rfl) (Nat.le_of_ble_eq_true rfl) dX5_init_21 (fun H Z => ?_)
  have hk := hk _ rfl
  refine lv_dup hx hb dX5_init_24 rfl ?_
  refine rz_init (mc := 9) (ms := 453) (rest := [.ref (z + 11), .int (nI 1), .ref z, .ref z, .ref x0]) C Z hA (m_X0_init l g _ (z + 12) (z + 11) _ hk) ⟨va_cnB 0 C.1.2.2.2.2 (gW tw_97) rfl rfl rfl (C.2.2.1.2.1 ("SmudgeTally$Slots", 11, yX0_init) (by decide +kernel)) (hts _ tw_60) (by decide +kernel) ⟨Nat.le_of_ble_eq_true rfl, Nat.le_of_ble_eq_true rfl⟩, rfl, hts _ tw_96⟩ hl.1 (Nat.le_of_ble_eq_true rfl) dX5_init_25 ⟨Nat.le_of_ble_eq_true rfl, Nat.le_of_ble_eq_true rfl⟩ (fun hc25 H locs hk Z => ?_)
  obtain ⟨ho, hk⟩ := hk
  obtain ⟨h28, hv, hk⟩ := hk
  refine rz_aast3 C Z ho hv dX5_init_28 (fun H locs Z => ?_)
  obtain ⟨h29, hv, hk⟩ := hk
  refine rz_putF (ci := 5) (k := 0) (T := TX5) (N := 2) C Z hv ku_5 tyX5_ok nmX5 rfl (by decide) tw_236 rfl hnm rfl rfl rfl dX5_init_29 (fun H locs Z => ?_)
  refine lv_aload_n hx hb dX5_init_32 rfl (lv_at hl 0 rfl) ?_
  refine lv_iconst (v := (nI 2)) hx hb dX5_init_33 (by decide) ?_
  refine rz_newa (atype := .boolean) (t := 2) (N := 2) (x := .inl (fun _ => 0)) C Z hA (by decide) rfl tw_218 (fun _ => rfl) (by decide) (by decide) (by decide) (Nat.le_of_ble_eq_true rfl) (Nat.le_of_ble_eq_true rfl) dX5_init_34 (fun H Z => ?_)
  have hk := hk _ rfl
  obtain ⟨h36, hv, hk⟩ := hk
  refine rz_putF (ci := 5) (k := 1) (T := TX5) (N := 2) C Z hv ku_5 tyX5_ok nmX5 rfl (by decide) tw_237 rfl hnm rfl rfl rfl dX5_init_36 (fun H locs Z => ?_)
  exact rz_vret rfl C hsz Z hr hk dX5_init_39
abbrev rmX6_init : Room := ({ frames := 3, cells := 33, slots := 1398, locals := 60 } : Room)
abbrev wzX6_init : List Cond := WS yX6_init cX6_init 1 none
set_option maxRecDepth 100000 in
set_option maxHeartbeats 4000000 in
theorem m_X6_init (l : Launch) (g : Gt) (h : Hp) (z : Nat) (x0 : Nat) (Post : Hp → Prop) (hk : wp_X6_init x0 Post h z) : Met l yX6_init wzX6_init rmX6_init (Pgz g h z [.ref x0]) (Qvz g h z 33 Post) 33 1398 (dmz h z) := by
  refine Met_ofz (cc := cX6_init) (maxL := 1) (ret := none) (by decide) (Nat.le_of_ble_eq_true rfl) (fun p e s m below meth c ls C hr hnm hl hsz Z => ?_)
  have hx := C.1.1
  have hb := C.1.2.1
  have hml := C.1.2.2.1
  have hown := C.1.2.2.2.1
  have hts := C.1.2.2.2.2
  have hl : lv_has ls 1 [(0, .ref x0)] := hl
  have hA : ∀ q : Nat, s.heap.size ≤ q → dmz h z q := fun q hq => Or.inr (by omega)
  unfold wp_X6_init at hk
  generalize s.heap = H at Z ⊢
  generalize ([] : List Loc) = locs at Z ⊢
  refine lv_aload_n hx hb dX6_init_0 rfl (lv_at hl 0 rfl) ?_
  refine W.objInit hx hb hown (hts _ tw_255) (hts _ tw_79) (hts _ tw_80) rfl (by rw [hml]; exact hl.1) rfl dX6_init_1 (Nat.le_of_ble_eq_true rfl) (Nat.le_of_ble_eq_true rfl) ?_
  refine W.eq (g2 := F0 m 4 ls []) rfl ?_
  refine lv_aload_n hx hb dX6_init_4 rfl (lv_at hl 0 rfl) ?_
  refine rz_new (ci := 0) (fs := [.int 0, .int 0, .null, .null, .null, .null, .null, .null, .null, .null, .null]) C Z hA rfl ku_0 tyX0_ok tw_256 tw_94 tw_60 (fun j hj => by rcases (show j = 0 ∨ j = 1 ∨ j = 2 ∨ j = 3 ∨ j = 4 ∨ j = 5 ∨ j = 6 ∨ j = 7 ∨ j = 8 ∨ j = 9 ∨ j = 10 by omega) with rfl | rfl | rfl | rfl | rfl | rfl | rfl | rfl | rfl | rfl | rfl <;> rfl) (Nat.le_of_ble_eq_true rfl) (Nat.le_of_ble_eq_true rfl) dX6_init_5 (fun H Z => ?_)
  have hk := hk _ rfl
  refine lv_dup hx hb dX6_init_8 rfl ?_
  refine rz_init (mc := 9) (ms := 453) (rest := [.ref z, .ref x0]) C Z hA (m_X0_init l g _ (z + 1) z _ hk) ⟨va_cnB 0 C.1.2.2.2.2 (gW tw_97) rfl rfl rfl (C.2.2.1.2.1 ("SmudgeTally$State", 9, yX0_init) (by decide +kernel)) (hts _ tw_60) (by decide +kernel) ⟨Nat.le_of_ble_eq_true rfl, Nat.le_of_ble_eq_true rfl⟩, rfl, hts _ tw_96⟩ hl.1 (Nat.le_of_ble_eq_true rfl) dX6_init_9 ⟨Nat.le_of_ble_eq_true rfl, Nat.le_of_ble_eq_true rfl⟩ (fun hc9 H locs hk Z => ?_)
  obtain ⟨h12, hv, hk⟩ := hk
  refine rz_putF (ci := 6) (k := 0) (T := TX6) (N := 2) C Z hv ku_6 tyX6_ok nmX6 rfl (by decide) tw_260 rfl hnm rfl rfl rfl dX6_init_12 (fun H locs Z => ?_)
  refine lv_aload_n hx hb dX6_init_15 rfl (lv_at hl 0 rfl) ?_
  refine rz_new (ci := 5) (fs := [.null, .null]) C Z hA rfl ku_5 tyX5_ok tw_258 tw_228 tw_61 (fun j hj => by rcases (show j = 0 ∨ j = 1 by omega) with rfl | rfl <;> rfl) (Nat.le_of_ble_eq_true rfl) (Nat.le_of_ble_eq_true rfl) dX6_init_16 (fun H Z => ?_)
  have hk := hk _ rfl
  refine lv_dup hx hb dX6_init_19 rfl ?_
  refine rz_init (mc := 22) (ms := 932) (rest := [.ref (z + 10), .ref x0]) C Z hA (m_X5_init l g _ (z + 11) (z + 10) _ hk) ⟨va_cnB 0 C.1.2.2.2.2 (gW tw_231) rfl rfl rfl (C.2.2.1.2.1 ("SmudgeTally$State", 18, yX5_init) (by decide +kernel)) (hts _ tw_61) (by decide +kernel) ⟨Nat.le_of_ble_eq_true rfl, Nat.le_of_ble_eq_true rfl⟩, rfl, hts _ tw_230⟩ hl.1 (Nat.le_of_ble_eq_true rfl) dX6_init_20 ⟨Nat.le_of_ble_eq_true rfl, Nat.le_of_ble_eq_true rfl⟩ (fun hc20 H locs hk Z => ?_)
  obtain ⟨h23, hv, hk⟩ := hk
  refine rz_putF (ci := 6) (k := 1) (T := TX6) (N := 2) C Z hv ku_6 tyX6_ok nmX6 rfl (by decide) tw_261 rfl hnm rfl rfl rfl dX6_init_23 (fun H locs Z => ?_)
  exact rz_vret rfl C hsz Z hr hk dX6_init_26
abbrev rmX2_init : Room := ({ frames := 4, cells := 205, slots := 8406, locals := 80 } : Room)
abbrev wzX2_init : List Cond := WS yX2_init cX2_init 1 none
set_option maxRecDepth 100000 in
set_option maxHeartbeats 4000000 in
theorem m_X2_init (l : Launch) (g : Gt) (h : Hp) (z : Nat) (x0 : Nat) (Post : Hp → Prop) (hk : wp_X2_init x0 Post h z) : Met l yX2_init wzX2_init rmX2_init (Pgz g h z [.ref x0]) (Qvz g h z 205 Post) 205 8406 (dmz h z) := by
  refine Met_ofz (cc := cX2_init) (maxL := 1) (ret := none) (by decide) (Nat.le_of_ble_eq_true rfl) (fun p e s m below meth c ls C hr hnm hl hsz Z => ?_)
  have hx := C.1.1
  have hb := C.1.2.1
  have hml := C.1.2.2.1
  have hown := C.1.2.2.2.1
  have hts := C.1.2.2.2.2
  have hl : lv_has ls 1 [(0, .ref x0)] := hl
  have hA : ∀ q : Nat, s.heap.size ≤ q → dmz h z q := fun q hq => Or.inr (by omega)
  unfold wp_X2_init at hk
  generalize s.heap = H at Z ⊢
  generalize ([] : List Loc) = locs at Z ⊢
  refine lv_aload_n hx hb dX2_init_0 rfl (lv_at hl 0 rfl) ?_
  refine W.objInit hx hb hown (hts _ tw_248) (hts _ tw_79) (hts _ tw_80) rfl (by rw [hml]; exact hl.1) rfl dX2_init_1 (Nat.le_of_ble_eq_true rfl) (Nat.le_of_ble_eq_true rfl) ?_
  refine W.eq (g2 := F0 m 4 ls []) rfl ?_
  refine lv_aload_n hx hb dX2_init_4 rfl (lv_at hl 0 rfl) ?_
  refine lv_bipush (v := (nI 6)) hx hb dX2_init_5 (by decide) ?_
  refine rz_anew (CN := RX6) (t := 4) (N := 6) C Z hA (by decide) rfl tw_249 C.2.2.1.2.2.2.2.2 (by decide) (by decide) (by decide) (Nat.le_of_ble_eq_true rfl) (Nat.le_of_ble_eq_true rfl) dX2_init_7 (fun H Z => ?_)
  have hk := hk _ rfl
  refine lv_dup hx hb dX2_init_10 rfl ?_
  refine lv_iconst (v := (nI 0)) hx hb dX2_init_11 (by decide) ?_
  refine rz_new (ci := 6) (fs := [.null, .null]) C Z hA rfl ku_6 tyX6_ok tw_249 tw_251 tw_63 (fun j hj => by rcases (show j = 0 ∨ j = 1 by omega) with rfl | rfl <;> rfl) (Nat.le_of_ble_eq_true rfl) (Nat.le_of_ble_eq_true rfl) dX2_init_12 (fun H Z => ?_)
  have hk := hk _ rfl
  refine lv_dup hx hb dX2_init_15 rfl ?_
  refine rz_init (mc := 33) (ms := 1398) (rest := [.ref (z + 1), .int (nI 0), .ref z, .ref z, .ref x0]) C Z hA (m_X6_init l g _ (z + 2) (z + 1) _ hk) ⟨va_cnB 0 C.1.2.2.2.2 (gW tw_254) rfl rfl rfl (C.2.2.1.2.1 ("SmudgeTally$History", 11, yX6_init) (by decide +kernel)) (hts _ tw_63) (by decide +kernel) ⟨Nat.le_of_ble_eq_true rfl, Nat.le_of_ble_eq_true rfl⟩, rfl, hts _ tw_253⟩ hl.1 (Nat.le_of_ble_eq_true rfl) dX2_init_16 ⟨Nat.le_of_ble_eq_true rfl, Nat.le_of_ble_eq_true rfl⟩ (fun hc16 H locs hk Z => ?_)
  obtain ⟨ho, hk⟩ := hk
  obtain ⟨h19, hv, hk⟩ := hk
  refine rz_aast4 C Z ho hv dX2_init_19 (fun H locs Z => ?_)
  refine lv_dup hx hb dX2_init_20 rfl ?_
  refine lv_iconst (v := (nI 1)) hx hb dX2_init_21 (by decide) ?_
  refine rz_new (ci := 6) (fs := [.null, .null]) C Z hA rfl ku_6 tyX6_ok tw_249 tw_251 tw_63 (fun j hj => by rcases (show j = 0 ∨ j = 1 by omega) with rfl | rfl <;> rfl) (Nat.le_of_ble_eq_true rfl) (Nat.le_of_ble_eq_true rfl) dX2_init_22 (fun H Z => ?_)
  have hk := hk _ rfl
  refine lv_dup hx hb dX2_init_25 rfl ?_
  refine rz_init (mc := 33) (ms := 1398) (rest := [.ref (z + 35), .int (nI 1), .ref z, .ref z, .ref x0]) C Z hA (m_X6_init l g _ (z + 36) (z + 35) _ hk) ⟨va_cnB 0 C.1.2.2.2.2 (gW tw_254) rfl rfl rfl (C.2.2.1.2.1 ("SmudgeTally$History", 11, yX6_init) (by decide +kernel)) (hts _ tw_63) (by decide +kernel) ⟨Nat.le_of_ble_eq_true rfl, Nat.le_of_ble_eq_true rfl⟩, rfl, hts _ tw_253⟩ hl.1 (Nat.le_of_ble_eq_true rfl) dX2_init_26 ⟨Nat.le_of_ble_eq_true rfl, Nat.le_of_ble_eq_true rfl⟩ (fun hc26 H locs hk Z => ?_)
  obtain ⟨ho, hk⟩ := hk
  obtain ⟨h29, hv, hk⟩ := hk
  refine rz_aast4 C Z ho hv dX2_init_29 (fun H locs Z => ?_)
  refine lv_dup hx hb dX2_init_30 rfl ?_
  refine lv_iconst (v := (nI 2)) hx hb dX2_init_31 (by decide) ?_
  refine rz_new (ci := 6) (fs := [.null, .null]) C Z hA rfl ku_6 tyX6_ok tw_249 tw_251 tw_63 (fun j hj => by rcases (show j = 0 ∨ j = 1 by omega) with rfl | rfl <;> rfl) (Nat.le_of_ble_eq_true rfl) (Nat.le_of_ble_eq_true rfl) dX2_init_32 (fun H Z => ?_)
  have hk := hk _ rfl
  refine lv_dup hx hb dX2_init_35 rfl ?_
  refine rz_init (mc := 33) (ms := 1398) (rest := [.ref (z + 69), .int (nI 2), .ref z, .ref z, .ref x0]) C Z hA (m_X6_init l g _ (z + 70) (z + 69) _ hk) ⟨va_cnB 0 C.1.2.2.2.2 (gW tw_254) rfl rfl rfl (C.2.2.1.2.1 ("SmudgeTally$History", 11, yX6_init) (by decide +kernel)) (hts _ tw_63) (by decide +kernel) ⟨Nat.le_of_ble_eq_true rfl, Nat.le_of_ble_eq_true rfl⟩, rfl, hts _ tw_253⟩ hl.1 (Nat.le_of_ble_eq_true rfl) dX2_init_36 ⟨Nat.le_of_ble_eq_true rfl, Nat.le_of_ble_eq_true rfl⟩ (fun hc36 H locs hk Z => ?_)
  obtain ⟨ho, hk⟩ := hk
  obtain ⟨h39, hv, hk⟩ := hk
  refine rz_aast4 C Z ho hv dX2_init_39 (fun H locs Z => ?_)
  refine lv_dup hx hb dX2_init_40 rfl ?_
  refine lv_iconst (v := (nI 3)) hx hb dX2_init_41 (by decide) ?_
  refine rz_new (ci := 6) (fs := [.null, .null]) C Z hA rfl ku_6 tyX6_ok tw_249 tw_251 tw_63 (fun j hj => by rcases (show j = 0 ∨ j = 1 by omega) with rfl | rfl <;> rfl) (Nat.le_of_ble_eq_true rfl) (Nat.le_of_ble_eq_true rfl) dX2_init_42 (fun H Z => ?_)
  have hk := hk _ rfl
  refine lv_dup hx hb dX2_init_45 rfl ?_
  refine rz_init (mc := 33) (ms := 1398) (rest := [.ref (z + 103), .int (nI 3), .ref z, .ref z, .ref x0]) C Z hA (m_X6_init l g _ (z + 104) (z + 103) _ hk) ⟨va_cnB 0 C.1.2.2.2.2 (gW tw_254) rfl rfl rfl (C.2.2.1.2.1 ("SmudgeTally$History", 11, yX6_init) (by decide +kernel)) (hts _ tw_63) (by decide +kernel) ⟨Nat.le_of_ble_eq_true rfl, Nat.le_of_ble_eq_true rfl⟩, rfl, hts _ tw_253⟩ hl.1 (Nat.le_of_ble_eq_true rfl) dX2_init_46 ⟨Nat.le_of_ble_eq_true rfl, Nat.le_of_ble_eq_true rfl⟩ (fun hc46 H locs hk Z => ?_)
  obtain ⟨ho, hk⟩ := hk
  obtain ⟨h49, hv, hk⟩ := hk
  refine rz_aast4 C Z ho hv dX2_init_49 (fun H locs Z => ?_)
  refine lv_dup hx hb dX2_init_50 rfl ?_
  refine lv_iconst (v := (nI 4)) hx hb dX2_init_51 (by decide) ?_
  refine rz_new (ci := 6) (fs := [.null, .null]) C Z hA rfl ku_6 tyX6_ok tw_249 tw_251 tw_63 (fun j hj => by rcases (show j = 0 ∨ j = 1 by omega) with rfl | rfl <;> rfl) (Nat.le_of_ble_eq_true rfl) (Nat.le_of_ble_eq_true rfl) dX2_init_52 (fun H Z => ?_)
  have hk := hk _ rfl
  refine lv_dup hx hb dX2_init_55 rfl ?_
  refine rz_init (mc := 33) (ms := 1398) (rest := [.ref (z + 137), .int (nI 4), .ref z, .ref z, .ref x0]) C Z hA (m_X6_init l g _ (z + 138) (z + 137) _ hk) ⟨va_cnB 0 C.1.2.2.2.2 (gW tw_254) rfl rfl rfl (C.2.2.1.2.1 ("SmudgeTally$History", 11, yX6_init) (by decide +kernel)) (hts _ tw_63) (by decide +kernel) ⟨Nat.le_of_ble_eq_true rfl, Nat.le_of_ble_eq_true rfl⟩, rfl, hts _ tw_253⟩ hl.1 (Nat.le_of_ble_eq_true rfl) dX2_init_56 ⟨Nat.le_of_ble_eq_true rfl, Nat.le_of_ble_eq_true rfl⟩ (fun hc56 H locs hk Z => ?_)
  obtain ⟨ho, hk⟩ := hk
  obtain ⟨h59, hv, hk⟩ := hk
  refine rz_aast4 C Z ho hv dX2_init_59 (fun H locs Z => ?_)
  refine lv_dup hx hb dX2_init_60 rfl ?_
  refine lv_iconst (v := (nI 5)) hx hb dX2_init_61 (by decide) ?_
  refine rz_new (ci := 6) (fs := [.null, .null]) C Z hA rfl ku_6 tyX6_ok tw_249 tw_251 tw_63 (fun j hj => by rcases (show j = 0 ∨ j = 1 by omega) with rfl | rfl <;> rfl) (Nat.le_of_ble_eq_true rfl) (Nat.le_of_ble_eq_true rfl) dX2_init_62 (fun H Z => ?_)
  have hk := hk _ rfl
  refine lv_dup hx hb dX2_init_65 rfl ?_
  refine rz_init (mc := 33) (ms := 1398) (rest := [.ref (z + 171), .int (nI 5), .ref z, .ref z, .ref x0]) C Z hA (m_X6_init l g _ (z + 172) (z + 171) _ hk) ⟨va_cnB 0 C.1.2.2.2.2 (gW tw_254) rfl rfl rfl (C.2.2.1.2.1 ("SmudgeTally$History", 11, yX6_init) (by decide +kernel)) (hts _ tw_63) (by decide +kernel) ⟨Nat.le_of_ble_eq_true rfl, Nat.le_of_ble_eq_true rfl⟩, rfl, hts _ tw_253⟩ hl.1 (Nat.le_of_ble_eq_true rfl) dX2_init_66 ⟨Nat.le_of_ble_eq_true rfl, Nat.le_of_ble_eq_true rfl⟩ (fun hc66 H locs hk Z => ?_)
  obtain ⟨ho, hk⟩ := hk
  obtain ⟨h69, hv, hk⟩ := hk
  refine rz_aast4 C Z ho hv dX2_init_69 (fun H locs Z => ?_)
  obtain ⟨h70, hv, hk⟩ := hk
  refine rz_putF (ci := 2) (k := 1) (T := TX2) (N := 2) C Z hv ku_2 tyX2_ok nmX2 rfl (by decide) tw_269 rfl hnm rfl rfl rfl dX2_init_70 (fun H locs Z => ?_)
  exact rz_vret rfl C hsz Z hr hk dX2_init_73
abbrev rmX7_init : Room := ({ frames := 1, cells := 1, slots := 140, locals := 20 } : Room)
abbrev wzX7_init : List Cond := WS yX7_init cX7_init 1 none
set_option maxRecDepth 100000 in
set_option maxHeartbeats 4000000 in
theorem m_X7_init (l : Launch) (g : Gt) (h : Hp) (z : Nat) (x0 : Nat) (Post : Hp → Prop) (hk : wp_X7_init x0 Post h z) : Met l yX7_init wzX7_init rmX7_init (Pgz g h z [.ref x0]) (Qvz g h z 1 Post) 1 140 (dmz h z) := by
  refine Met_ofz (cc := cX7_init) (maxL := 1) (ret := none) (by decide) (Nat.le_of_ble_eq_true rfl) (fun p e s m below meth c ls C hr hnm hl hsz Z => ?_)
  have hx := C.1.1
  have hb := C.1.2.1
  have hml := C.1.2.2.1
  have hown := C.1.2.2.2.1
  have hts := C.1.2.2.2.2
  have hl : lv_has ls 1 [(0, .ref x0)] := hl
  have hA : ∀ q : Nat, s.heap.size ≤ q → dmz h z q := fun q hq => Or.inr (by omega)
  unfold wp_X7_init at hk
  generalize s.heap = H at Z ⊢
  generalize ([] : List Loc) = locs at Z ⊢
  refine lv_aload_n hx hb dX7_init_0 rfl (lv_at hl 0 rfl) ?_
  refine W.objInit hx hb hown (hts _ tw_286) (hts _ tw_79) (hts _ tw_80) rfl (by rw [hml]; exact hl.1) rfl dX7_init_1 (Nat.le_of_ble_eq_true rfl) (Nat.le_of_ble_eq_true rfl) ?_
  refine W.eq (g2 := F0 m 4 ls []) rfl ?_
  refine lv_aload_n hx hb dX7_init_4 rfl (lv_at hl 0 rfl) ?_
  refine lv_sipush (v := (nI 140)) hx hb dX7_init_5 (by decide) ?_
  refine rz_newa (atype := .int) (t := 0) (N := 140) (x := .inl (fun _ => 0)) C Z hA (by decide) rfl tw_158 (fun _ => rfl) (by decide) (by decide) (by decide) (Nat.le_of_ble_eq_true rfl) (Nat.le_of_ble_eq_true rfl) dX7_init_8 (fun H Z => ?_)
  have hk := hk _ rfl
  obtain ⟨h10, hv, hk⟩ := hk
  refine rz_putF (ci := 7) (k := 4) (T := TX7) (N := 5) C Z hv ku_7 tyX7_ok nmX7 rfl (by decide) tw_294 rfl hnm rfl rfl rfl dX7_init_10 (fun H locs Z => ?_)
  exact rz_vret rfl C hsz Z hr hk dX7_init_13
abbrev rmX3_init : Room := ({ frames := 2, cells := 2, slots := 145, locals := 40 } : Room)
abbrev wzX3_init : List Cond := WS yX3_init cX3_init 1 none
set_option maxRecDepth 100000 in
set_option maxHeartbeats 4000000 in
theorem m_X3_init (l : Launch) (g : Gt) (h : Hp) (z : Nat) (x0 : Nat) (Post : Hp → Prop) (hk : wp_X3_init x0 Post h z) : Met l yX3_init wzX3_init rmX3_init (Pgz g h z [.ref x0]) (Qvz g h z 2 Post) 2 145 (dmz h z) := by
  refine Met_ofz (cc := cX3_init) (maxL := 1) (ret := none) (by decide) (Nat.le_of_ble_eq_true rfl) (fun p e s m below meth c ls C hr hnm hl hsz Z => ?_)
  have hx := C.1.1
  have hb := C.1.2.1
  have hml := C.1.2.2.1
  have hown := C.1.2.2.2.1
  have hts := C.1.2.2.2.2
  have hl : lv_has ls 1 [(0, .ref x0)] := hl
  have hA : ∀ q : Nat, s.heap.size ≤ q → dmz h z q := fun q hq => Or.inr (by omega)
  unfold wp_X3_init at hk
  generalize s.heap = H at Z ⊢
  generalize ([] : List Loc) = locs at Z ⊢
  refine lv_aload_n hx hb dX3_init_0 rfl (lv_at hl 0 rfl) ?_
  refine W.objInit hx hb hown (hts _ tw_280) (hts _ tw_79) (hts _ tw_80) rfl (by rw [hml]; exact hl.1) rfl dX3_init_1 (Nat.le_of_ble_eq_true rfl) (Nat.le_of_ble_eq_true rfl) ?_
  refine W.eq (g2 := F0 m 4 ls []) rfl ?_
  refine lv_aload_n hx hb dX3_init_4 rfl (lv_at hl 0 rfl) ?_
  refine rz_new (ci := 7) (fs := [.int 0, .int 0, .int 0, .int 0, .null]) C Z hA rfl ku_7 tyX7_ok tw_281 tw_282 tw_65 (fun j hj => by rcases (show j = 0 ∨ j = 1 ∨ j = 2 ∨ j = 3 ∨ j = 4 by omega) with rfl | rfl | rfl | rfl | rfl <;> rfl) (Nat.le_of_ble_eq_true rfl) (Nat.le_of_ble_eq_true rfl) dX3_init_5 (fun H Z => ?_)
  have hk := hk _ rfl
  refine lv_dup hx hb dX3_init_8 rfl ?_
  refine rz_init (mc := 1) (ms := 140) (rest := [.ref z, .ref x0]) C Z hA (m_X7_init l g _ (z + 1) z _ hk) ⟨va_cnB 0 C.1.2.2.2.2 (gW tw_285) rfl rfl rfl (C.2.2.1.2.1 ("SmudgeTally$Program", 11, yX7_init) (by decide +kernel)) (hts _ tw_65) (by decide +kernel) ⟨Nat.le_of_ble_eq_true rfl, Nat.le_of_ble_eq_true rfl⟩, rfl, hts _ tw_284⟩ hl.1 (Nat.le_of_ble_eq_true rfl) dX3_init_9 ⟨Nat.le_of_ble_eq_true rfl, Nat.le_of_ble_eq_true rfl⟩ (fun hc9 H locs hk Z => ?_)
  obtain ⟨h12, hv, hk⟩ := hk
  refine rz_putF (ci := 3) (k := 0) (T := TX3) (N := 7) C Z hv ku_3 tyX3_ok nmX3 rfl (by decide) tw_306 rfl hnm rfl rfl rfl dX3_init_12 (fun H locs Z => ?_)
  refine lv_aload_n hx hb dX3_init_15 rfl (lv_at hl 0 rfl) ?_
  refine lv_iconst (v := (nI 0)) hx hb dX3_init_16 (by decide) ?_
  obtain ⟨h17, hv, hk⟩ := hk
  refine rz_put (ci := 3) (k := 1) (T := TX3) (N := 7) C Z hv ku_3 tyX3_ok nmX3 rfl (by decide) tw_308 rfl rfl rfl dX3_init_17 (fun H locs Z => ?_)
  exact rz_vret rfl C hsz Z hr hk dX3_init_20
abbrev rmX8_init : Room := ({ frames := 5, cells := 258, slots := 14495, locals := 100 } : Room)
abbrev wzX8_init : List Cond := WS yX8_init cX8_init 1 none
set_option maxRecDepth 100000 in
set_option maxHeartbeats 4000000 in
theorem m_X8_init (l : Launch) (g : Gt) (h : Hp) (z : Nat) (x0 : Nat) (Post : Hp → Prop) (hk : wp_X8_init x0 Post h z) : Met l yX8_init wzX8_init rmX8_init (Pgz g h z [.ref x0]) (Qvz g h z 258 Post) 258 14495 (dmz h z) := by
  refine Met_ofz (cc := cX8_init) (maxL := 1) (ret := none) (by decide) (Nat.le_of_ble_eq_true rfl) (fun p e s m below meth c ls C hr hnm hl hsz Z => ?_)
  have hx := C.1.1
  have hb := C.1.2.1
  have hml := C.1.2.2.1
  have hown := C.1.2.2.2.1
  have hts := C.1.2.2.2.2
  have hl : lv_has ls 1 [(0, .ref x0)] := hl
  have hA : ∀ q : Nat, s.heap.size ≤ q → dmz h z q := fun q hq => Or.inr (by omega)
  unfold wp_X8_init at hk
  generalize s.heap = H at Z ⊢
  generalize ([] : List Loc) = locs at Z ⊢
  refine lv_aload_n hx hb dX8_init_0 rfl (lv_at hl 0 rfl) ?_
  refine W.objInit hx hb hown (hts _ tw_78) (hts _ tw_79) (hts _ tw_80) rfl (by rw [hml]; exact hl.1) rfl dX8_init_1 (Nat.le_of_ble_eq_true rfl) (Nat.le_of_ble_eq_true rfl) ?_
  refine W.eq (g2 := F0 m 4 ls []) rfl ?_
  refine lv_aload_n hx hb dX8_init_4 rfl (lv_at hl 0 rfl) ?_
  refine rz_new (ci := 1) (fs := [.null, .null]) C Z hA rfl ku_1 tyX1_ok tw_81 tw_82 tw_58 (fun j hj => by rcases (show j = 0 ∨ j = 1 by omega) with rfl | rfl <;> rfl) (Nat.le_of_ble_eq_true rfl) (Nat.le_of_ble_eq_true rfl) dX8_init_5 (fun H Z => ?_)
  have hk := hk _ rfl
  refine lv_dup hx hb dX8_init_8 rfl ?_
  refine rz_init (mc := 25) (ms := 4999) (rest := [.ref z, .ref x0]) C Z hA (m_X1_init l g _ (z + 1) z _ hk) ⟨va_cnB 0 C.1.2.2.2.2 (gW tw_85) rfl rfl rfl (C.2.2.1.2.1 ("SmudgeTally", 11, yX1_init) (by decide +kernel)) (hts _ tw_58) (by decide +kernel) ⟨Nat.le_of_ble_eq_true rfl, Nat.le_of_ble_eq_true rfl⟩, rfl, hts _ tw_84⟩ hl.1 (Nat.le_of_ble_eq_true rfl) dX8_init_9 ⟨Nat.le_of_ble_eq_true rfl, Nat.le_of_ble_eq_true rfl⟩ (fun hc9 H locs hk Z => ?_)
  obtain ⟨h12, hv, hk⟩ := hk
  refine rz_putF (ci := 8) (k := 0) (T := TX8) (N := 6) C Z hv ku_8 tyX8_ok nmX8 rfl (by decide) tw_333 rfl hnm rfl rfl rfl dX8_init_12 (fun H locs Z => ?_)
  refine lv_aload_n hx hb dX8_init_15 rfl (lv_at hl 0 rfl) ?_
  refine lv_aload_n hx hb dX8_init_16 rfl (lv_at hl 0 rfl) ?_
  obtain ⟨v17, hv, hk⟩ := hk
  refine r_get (ci := 8) (k := 0) (T := TX8) (N := 6) C Z.2.2 hv ku_8 rfl (by decide) tw_333 dX8_init_17 ?_
  obtain ⟨v20, hv, hk⟩ := hk
  refine r_get (ci := 1) (k := 0) (T := TX1) (N := 2) C Z.2.2 hv ku_1 rfl (by decide) tw_220 dX8_init_20 ?_
  obtain ⟨h23, hv, hk⟩ := hk
  refine rz_putF (ci := 8) (k := 1) (T := TX8) (N := 6) C Z hv ku_8 tyX8_ok nmX8 rfl (by decide) tw_334 rfl hnm rfl rfl rfl dX8_init_23 (fun H locs Z => ?_)
  refine lv_aload_n hx hb dX8_init_26 rfl (lv_at hl 0 rfl) ?_
  refine lv_aload_n hx hb dX8_init_27 rfl (lv_at hl 0 rfl) ?_
  obtain ⟨v28, hv, hk⟩ := hk
  refine r_get (ci := 8) (k := 0) (T := TX8) (N := 6) C Z.2.2 hv ku_8 rfl (by decide) tw_333 dX8_init_28 ?_
  obtain ⟨v31, hv, hk⟩ := hk
  refine r_get (ci := 1) (k := 0) (T := TX1) (N := 2) C Z.2.2 hv ku_1 rfl (by decide) tw_220 dX8_init_31 ?_
  obtain ⟨v34, hv, hk⟩ := hk
  refine r_get (ci := 4) (k := 0) (T := TX4) (N := 15) C Z.2.2 hv ku_4 rfl (by decide) tw_162 dX8_init_34 ?_
  obtain ⟨h37, hv, hk⟩ := hk
  refine rz_putF (ci := 8) (k := 2) (T := TX8) (N := 6) C Z hv ku_8 tyX8_ok nmX8 rfl (by decide) tw_335 rfl hnm rfl rfl rfl dX8_init_37 (fun H locs Z => ?_)
  refine lv_aload_n hx hb dX8_init_40 rfl (lv_at hl 0 rfl) ?_
  refine rz_new (ci := 5) (fs := [.null, .null]) C Z hA rfl ku_5 tyX5_ok tw_227 tw_228 tw_61 (fun j hj => by rcases (show j = 0 ∨ j = 1 by omega) with rfl | rfl <;> rfl) (Nat.le_of_ble_eq_true rfl) (Nat.le_of_ble_eq_true rfl) dX8_init_41 (fun H Z => ?_)
  have hk := hk _ rfl
  refine lv_dup hx hb dX8_init_44 rfl ?_
  refine rz_init (mc := 22) (ms := 932) (rest := [.ref (z + 26), .ref x0]) C Z hA (m_X5_init l g _ (z + 27) (z + 26) _ hk) ⟨va_cnB 0 C.1.2.2.2.2 (gW tw_231) rfl rfl rfl (C.2.2.1.2.1 ("SmudgeTally", 30, yX5_init) (by decide +kernel)) (hts _ tw_61) (by decide +kernel) ⟨Nat.le_of_ble_eq_true rfl, Nat.le_of_ble_eq_true rfl⟩, rfl, hts _ tw_230⟩ hl.1 (Nat.le_of_ble_eq_true rfl) dX8_init_45 ⟨Nat.le_of_ble_eq_true rfl, Nat.le_of_ble_eq_true rfl⟩ (fun hc45 H locs hk Z => ?_)
  obtain ⟨h48, hv, hk⟩ := hk
  refine rz_putF (ci := 8) (k := 3) (T := TX8) (N := 6) C Z hv ku_8 tyX8_ok nmX8 rfl (by decide) tw_336 rfl hnm rfl rfl rfl dX8_init_48 (fun H locs Z => ?_)
  refine lv_aload_n hx hb dX8_init_51 rfl (lv_at hl 0 rfl) ?_
  refine rz_new (ci := 2) (fs := [.int 0, .null]) C Z hA rfl ku_2 tyX2_ok tw_243 tw_244 tw_62 (fun j hj => by rcases (show j = 0 ∨ j = 1 by omega) with rfl | rfl <;> rfl) (Nat.le_of_ble_eq_true rfl) (Nat.le_of_ble_eq_true rfl) dX8_init_52 (fun H Z => ?_)
  have hk := hk _ rfl
  refine lv_dup hx hb dX8_init_55 rfl ?_
  refine rz_init (mc := 205) (ms := 8406) (rest := [.ref (z + 49), .ref x0]) C Z hA (m_X2_init l g _ (z + 50) (z + 49) _ hk) ⟨va_cnB 0 C.1.2.2.2.2 (gW tw_247) rfl rfl rfl (C.2.2.1.2.1 ("SmudgeTally", 37, yX2_init) (by decide +kernel)) (hts _ tw_62) (by decide +kernel) ⟨Nat.le_of_ble_eq_true rfl, Nat.le_of_ble_eq_true rfl⟩, rfl, hts _ tw_246⟩ hl.1 (Nat.le_of_ble_eq_true rfl) dX8_init_56 ⟨Nat.le_of_ble_eq_true rfl, Nat.le_of_ble_eq_true rfl⟩ (fun hc56 H locs hk Z => ?_)
  obtain ⟨h59, hv, hk⟩ := hk
  refine rz_putF (ci := 8) (k := 4) (T := TX8) (N := 6) C Z hv ku_8 tyX8_ok nmX8 rfl (by decide) tw_337 rfl hnm rfl rfl rfl dX8_init_59 (fun H locs Z => ?_)
  refine lv_aload_n hx hb dX8_init_62 rfl (lv_at hl 0 rfl) ?_
  refine rz_new (ci := 3) (fs := [.null, .int 0, .int 0, .int 0, .int 0, .long 0, .long 0]) C Z hA rfl ku_3 tyX3_ok tw_275 tw_276 tw_64 (fun j hj => by rcases (show j = 0 ∨ j = 1 ∨ j = 2 ∨ j = 3 ∨ j = 4 ∨ j = 5 ∨ j = 6 by omega) with rfl | rfl | rfl | rfl | rfl | rfl | rfl <;> rfl) (Nat.le_of_ble_eq_true rfl) (Nat.le_of_ble_eq_true rfl) dX8_init_63 (fun H Z => ?_)
  have hk := hk _ rfl
  refine lv_dup hx hb dX8_init_66 rfl ?_
  refine rz_init (mc := 2) (ms := 145) (rest := [.ref (z + 255), .ref x0]) C Z hA (m_X3_init l g _ (z + 256) (z + 255) _ hk) ⟨va_cnB 0 C.1.2.2.2.2 (gW tw_279) rfl rfl rfl (C.2.2.1.2.1 ("SmudgeTally", 44, yX3_init) (by decide +kernel)) (hts _ tw_64) (by decide +kernel) ⟨Nat.le_of_ble_eq_true rfl, Nat.le_of_ble_eq_true rfl⟩, rfl, hts _ tw_278⟩ hl.1 (Nat.le_of_ble_eq_true rfl) dX8_init_67 ⟨Nat.le_of_ble_eq_true rfl, Nat.le_of_ble_eq_true rfl⟩ (fun hc67 H locs hk Z => ?_)
  obtain ⟨h70, hv, hk⟩ := hk
  refine rz_putF (ci := 8) (k := 5) (T := TX8) (N := 6) C Z hv ku_8 tyX8_ok nmX8 rfl (by decide) tw_338 rfl hnm rfl rfl rfl dX8_init_70 (fun H locs Z => ?_)
  exact rz_vret rfl C hsz Z hr hk dX8_init_73
abbrev rmX9_init : Room := ({ frames := 1, cells := 5, slots := 9749, locals := 20 } : Room)
abbrev wzX9_init : List Cond := WS yX9_init cX9_init 1 none
set_option maxRecDepth 100000 in
set_option maxHeartbeats 4000000 in
theorem m_X9_init (l : Launch) (g : Gt) (h : Hp) (z : Nat) (x0 : Nat) (Post : Hp → Prop) (hk : wp_X9_init x0 Post h z) : Met l yX9_init wzX9_init rmX9_init (Pgz g h z [.ref x0]) (Qvz g h z 5 Post) 5 9749 (dmz h z) := by
  refine Met_ofz (cc := cX9_init) (maxL := 1) (ret := none) (by decide) (Nat.le_of_ble_eq_true rfl) (fun p e s m below meth c ls C hr hnm hl hsz Z => ?_)
  have hx := C.1.1
  have hb := C.1.2.1
  have hml := C.1.2.2.1
  have hown := C.1.2.2.2.1
  have hts := C.1.2.2.2.2
  have hl : lv_has ls 1 [(0, .ref x0)] := hl
  have hA : ∀ q : Nat, s.heap.size ≤ q → dmz h z q := fun q hq => Or.inr (by omega)
  unfold wp_X9_init at hk
  generalize s.heap = H at Z ⊢
  generalize ([] : List Loc) = locs at Z ⊢
  refine lv_aload_n hx hb dX9_init_0 rfl (lv_at hl 0 rfl) ?_
  refine W.objInit hx hb hown (hts _ tw_853) (hts _ tw_79) (hts _ tw_80) rfl (by rw [hml]; exact hl.1) rfl dX9_init_1 (Nat.le_of_ble_eq_true rfl) (Nat.le_of_ble_eq_true rfl) ?_
  refine W.eq (g2 := F0 m 4 ls []) rfl ?_
  refine lv_aload_n hx hb dX9_init_4 rfl (lv_at hl 0 rfl) ?_
  refine lv_sipush (v := (nI 1367)) hx hb dX9_init_5 (by decide) ?_
  refine rz_newa (atype := .long) (t := 1) (N := 1367) (x := .inr (.inl (fun _ => 0))) C Z hA (by decide) rfl tw_159 (fun _ => rfl) (by decide) (by decide) (by decide) (Nat.le_of_ble_eq_true rfl) (Nat.le_of_ble_eq_true rfl) dX9_init_8 (fun H Z => ?_)
  have hk := hk _ rfl
  obtain ⟨h10, hv, hk⟩ := hk
  refine rz_putF (ci := 9) (k := 0) (T := TX9) (N := 17) C Z hv ku_9 tyX9_ok nmX9 rfl (by decide) tw_857 rfl hnm rfl rfl rfl dX9_init_10 (fun H locs Z => ?_)
  refine lv_aload_n hx hb dX9_init_13 rfl (lv_at hl 0 rfl) ?_
  refine lv_sipush (v := (nI 1367)) hx hb dX9_init_14 (by decide) ?_
  refine rz_newa (atype := .long) (t := 1) (N := 1367) (x := .inr (.inl (fun _ => 0))) C Z hA (by decide) rfl tw_159 (fun _ => rfl) (by decide) (by decide) (by decide) (Nat.le_of_ble_eq_true rfl) (Nat.le_of_ble_eq_true rfl) dX9_init_17 (fun H Z => ?_)
  have hk := hk _ rfl
  obtain ⟨h19, hv, hk⟩ := hk
  refine rz_putF (ci := 9) (k := 1) (T := TX9) (N := 17) C Z hv ku_9 tyX9_ok nmX9 rfl (by decide) tw_858 rfl hnm rfl rfl rfl dX9_init_19 (fun H locs Z => ?_)
  refine lv_aload_n hx hb dX9_init_22 rfl (lv_at hl 0 rfl) ?_
  refine lv_sipush (v := (nI 6835)) hx hb dX9_init_23 (by decide) ?_
  refine rz_newa (atype := .long) (t := 1) (N := 6835) (x := .inr (.inl (fun _ => 0))) C Z hA (by decide) rfl tw_159 (fun _ => rfl) (by decide) (by decide) (by decide) (Nat.le_of_ble_eq_true rfl) (Nat.le_of_ble_eq_true rfl) dX9_init_26 (fun H Z => ?_)
  have hk := hk _ rfl
  obtain ⟨h28, hv, hk⟩ := hk
  refine rz_putF (ci := 9) (k := 2) (T := TX9) (N := 17) C Z hv ku_9 tyX9_ok nmX9 rfl (by decide) tw_859 rfl hnm rfl rfl rfl dX9_init_28 (fun H locs Z => ?_)
  refine lv_aload_n hx hb dX9_init_31 rfl (lv_at hl 0 rfl) ?_
  refine lv_bipush (v := (nI 40)) hx hb dX9_init_32 (by decide) ?_
  refine rz_newa (atype := .int) (t := 0) (N := 40) (x := .inl (fun _ => 0)) C Z hA (by decide) rfl tw_158 (fun _ => rfl) (by decide) (by decide) (by decide) (Nat.le_of_ble_eq_true rfl) (Nat.le_of_ble_eq_true rfl) dX9_init_34 (fun H Z => ?_)
  have hk := hk _ rfl
  obtain ⟨h36, hv, hk⟩ := hk
  refine rz_putF (ci := 9) (k := 4) (T := TX9) (N := 17) C Z hv ku_9 tyX9_ok nmX9 rfl (by decide) tw_861 rfl hnm rfl rfl rfl dX9_init_36 (fun H locs Z => ?_)
  refine lv_aload_n hx hb dX9_init_39 rfl (lv_at hl 0 rfl) ?_
  refine lv_sipush (v := (nI 140)) hx hb dX9_init_40 (by decide) ?_
  refine rz_newa (atype := .int) (t := 0) (N := 140) (x := .inl (fun _ => 0)) C Z hA (by decide) rfl tw_158 (fun _ => rfl) (by decide) (by decide) (by decide) (Nat.le_of_ble_eq_true rfl) (Nat.le_of_ble_eq_true rfl) dX9_init_43 (fun H Z => ?_)
  have hk := hk _ rfl
  obtain ⟨h45, hv, hk⟩ := hk
  refine rz_putF (ci := 9) (k := 5) (T := TX9) (N := 17) C Z hv ku_9 tyX9_ok nmX9 rfl (by decide) tw_862 rfl hnm rfl rfl rfl dX9_init_45 (fun H locs Z => ?_)
  refine lv_aload_n hx hb dX9_init_48 rfl (lv_at hl 0 rfl) ?_
  obtain ⟨v49, hv, hk⟩ := hk
  refine r_get (ci := 9) (k := 0) (T := TX9) (N := 17) C Z.2.2 hv ku_9 rfl (by decide) tw_857 dX9_init_49 ?_
  refine lv_iconst (v := (nI 2)) hx hb dX9_init_52 (by decide) ?_
  refine lv_ldc2 (v := (lN 4)) hx hb hown (hts _ tw_854) dX9_init_53 ?_
  obtain ⟨h56, hv, hk⟩ := hk
  refine rz_last C Z hv dX9_init_56 (fun H locs Z => ?_)
  refine lv_aload_n hx hb dX9_init_57 rfl (lv_at hl 0 rfl) ?_
  obtain ⟨v58, hv, hk⟩ := hk
  refine r_get (ci := 9) (k := 0) (T := TX9) (N := 17) C Z.2.2 hv ku_9 rfl (by decide) tw_857 dX9_init_58 ?_
  refine lv_iconst (v := (nI 3)) hx hb dX9_init_61 (by decide) ?_
  refine lv_ldc2 (v := (lN 6)) hx hb hown (hts _ tw_855) dX9_init_62 ?_
  obtain ⟨h65, hv, hk⟩ := hk
  refine rz_last C Z hv dX9_init_65 (fun H locs Z => ?_)
  refine lv_aload_n hx hb dX9_init_66 rfl (lv_at hl 0 rfl) ?_
  obtain ⟨v67, hv, hk⟩ := hk
  refine r_get (ci := 9) (k := 0) (T := TX9) (N := 17) C Z.2.2 hv ku_9 rfl (by decide) tw_857 dX9_init_67 ?_
  refine lv_iconst (v := (nI 4)) hx hb dX9_init_70 (by decide) ?_
  refine lv_ldc2 (v := (lN 4)) hx hb hown (hts _ tw_854) dX9_init_71 ?_
  obtain ⟨h74, hv, hk⟩ := hk
  refine rz_last C Z hv dX9_init_74 (fun H locs Z => ?_)
  refine lv_aload_n hx hb dX9_init_75 rfl (lv_at hl 0 rfl) ?_
  obtain ⟨v76, hv, hk⟩ := hk
  refine r_get (ci := 9) (k := 0) (T := TX9) (N := 17) C Z.2.2 hv ku_9 rfl (by decide) tw_857 dX9_init_76 ?_
  refine lv_iconst (v := (nI 5)) hx hb dX9_init_79 (by decide) ?_
  refine lv_ldc2 (v := (lN 5)) hx hb hown (hts _ tw_856) dX9_init_80 ?_
  obtain ⟨h83, hv, hk⟩ := hk
  refine rz_last C Z hv dX9_init_83 (fun H locs Z => ?_)
  exact rz_vret rfl C hsz Z hr hk dX9_init_84
