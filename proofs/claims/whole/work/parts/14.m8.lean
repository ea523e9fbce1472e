abbrev rmX8_within : Room := ({ frames := 0, cells := 0, slots := 0, locals := 0 } : Room)
abbrev wzX8_within : List Cond := WS yX8_within cX8_within 3 (some .boolean)
set_option maxRecDepth 100000 in
set_option maxHeartbeats 4000000 in
theorem m_X8_within (l : Launch) (g : Gt) (h : Hp) (x0 : Int32) (x1 : Int32) (x2 : Int32) (Post : Int32 → Hp → Prop) (hk : wp_X8_within x0 x1 x2 Post h) : Met l yX8_within wzX8_within rmX8_within (Pg g h [.int x0, .int x1, .int x2]) (Qi g h Post) 0 0 (dm h) := by
  refine Met_of (cc := cX8_within) (maxL := 3) (ret := (some .boolean)) (by decide) (Nat.le_of_ble_eq_true rfl) (fun p e s m below meth c ls C hr hnm hl Z => ?_)
  have hx := C.1.1
  have hb := C.1.2.1
  have hml := C.1.2.2.1
  have hown := C.1.2.2.2.1
  have hts := C.1.2.2.2.2
  have hl : lv_has ls 3 [(0, .int x0), (1, .int x1), (2, .int x2)] := hl
  unfold wp_X8_within at hk
  generalize s.heap = H at Z ⊢
  generalize ([] : List Loc) = locs at Z ⊢
  refine lv_iload_n hx hb dX8_within_0 rfl (lv_at hl 0 rfl) ?_
  refine lv_iload_n hx hb dX8_within_1 rfl (lv_at hl 1 rfl) ?_
  refine lv_icmp_lt (tgt := 14) hx hb dX8_within_2 (by decide) (fun q => ?_) (fun q => ?_)
  · have hk := hk.1 q
    refine lv_iconst (v := (nI 0)) hx hb dX8_within_14 (by decide) ?_
    exact r_zret C Z hr (Or.inl rfl) hk dX8_within_15
  · have hk := hk.2 q
    refine lv_iload_n hx hb dX8_within_5 rfl (lv_at hl 0 rfl) ?_
    refine lv_iload_n hx hb dX8_within_6 rfl (lv_at hl 2 rfl) ?_
    refine lv_icmp_gt (tgt := 14) hx hb dX8_within_7 (by decide) (fun q => ?_) (fun q => ?_)
    · have hk := hk.1 q
      refine lv_iconst (v := (nI 0)) hx hb dX8_within_14 (by decide) ?_
      exact r_zret C Z hr (Or.inl rfl) hk dX8_within_15
    · have hk := hk.2 q
      refine lv_iconst (v := (nI 1)) hx hb dX8_within_10 (by decide) ?_
      refine lv_goto (tgt := 15) hx hb dX8_within_11 (by decide) ?_
      exact r_zret C Z hr (Or.inr rfl) hk dX8_within_15
abbrev rmX8_isRow : Room := ({ frames := 0, cells := 0, slots := 0, locals := 0 } : Room)
abbrev wzX8_isRow : List Cond := WS yX8_isRow cX8_isRow 2 (some .boolean)
set_option maxRecDepth 100000 in
set_option maxHeartbeats 4000000 in
theorem m_X8_isRow (l : Launch) (g : Gt) (h : Hp) (x0 : Int64) (Post : Int32 → Hp → Prop) (hk : wp_X8_isRow x0 Post h) : Met l yX8_isRow wzX8_isRow rmX8_isRow (Pg g h [.long x0]) (Qi g h Post) 0 0 (dm h) := by
  refine Met_of (cc := cX8_isRow) (maxL := 2) (ret := (some .boolean)) (by decide) (Nat.le_of_ble_eq_true rfl) (fun p e s m below meth c ls C hr hnm hl Z => ?_)
  have hx := C.1.1
  have hb := C.1.2.1
  have hml := C.1.2.2.1
  have hown := C.1.2.2.2.1
  have hts := C.1.2.2.2.2
  have hl : lv_has ls 2 [(0, .long x0)] := hl
  unfold wp_X8_isRow at hk
  generalize s.heap = H at Z ⊢
  generalize ([] : List Loc) = locs at Z ⊢
  refine lv_lload_n hx hb dX8_isRow_0 rfl (lv_at hl 0 rfl) ?_
  refine lv_lconst (v := lN 0) hx hb dX8_isRow_1 (by decide) ?_
  refine W.lcmp hx hb dX8_isRow_2 ?_
  refine lv_if_lt (tgt := 18) hx hb dX8_isRow_3 (by decide) (fun q => ?_) (fun q => ?_)
  · have hk := hk.1 ((lc_lt x0 (lN 0)).mp q)
    refine lv_iconst (v := (nI 0)) hx hb dX8_isRow_18 (by decide) ?_
    exact r_zret C Z hr (Or.inl rfl) hk dX8_isRow_19
  · have hk := hk.2 (mt (lc_lt x0 (lN 0)).mpr q)
    refine lv_lload_n hx hb dX8_isRow_6 rfl (lv_at hl 0 rfl) ?_
    refine lv_ldc2 (v := (lN 999999999999)) hx hb hown (hts _ tw_386) dX8_isRow_7 ?_
    refine W.lcmp hx hb dX8_isRow_10 ?_
    refine lv_if_gt (tgt := 18) hx hb dX8_isRow_11 (by decide) (fun q => ?_) (fun q => ?_)
    · have hk := hk.1 ((lc_gt x0 (lN 999999999999)).mp q)
      refine lv_iconst (v := (nI 0)) hx hb dX8_isRow_18 (by decide) ?_
      exact r_zret C Z hr (Or.inl rfl) hk dX8_isRow_19
    · have hk := hk.2 (mt (lc_gt x0 (lN 999999999999)).mpr q)
      refine lv_iconst (v := (nI 1)) hx hb dX8_isRow_14 (by decide) ?_
      refine lv_goto (tgt := 19) hx hb dX8_isRow_15 (by decide) ?_
      exact r_zret C Z hr (Or.inr rfl) hk dX8_isRow_19
abbrev rmX1_addCard : Room := ({ frames := 1, cells := 0, slots := 0, locals := 22 } : Room)
abbrev wzX1_addCard : List Cond := WS yX1_addCard cX1_addCard 5 (some .int)
set_option maxRecDepth 100000 in
set_option maxHeartbeats 4000000 in
theorem m_X1_addCard (l : Launch) (g : Gt) (h : Hp) (x0 : Nat) (x1 : Int32) (x2 : Int64) (Post : Int32 → Hp → Prop) (hk : wp_X1_addCard x0 x1 x2 Post h) : Met l yX1_addCard wzX1_addCard rmX1_addCard (Pg g h [.ref x0, .int x1, .long x2]) (Qi g h Post) 0 0 (dm h) := by
  refine Met_of (cc := cX1_addCard) (maxL := 5) (ret := (some .int)) (by decide) (Nat.le_of_ble_eq_true rfl) (fun p e s m below meth c ls C hr hnm hl Z => ?_)
  have hx := C.1.1
  have hb := C.1.2.1
  have hml := C.1.2.2.1
  have hown := C.1.2.2.2.1
  have hts := C.1.2.2.2.2
  have hl : lv_has ls 5 [(0, .ref x0), (1, .int x1), (2, .long x2)] := hl
  unfold wp_X1_addCard at hk
  generalize s.heap = H at Z ⊢
  generalize ([] : List Loc) = locs at Z ⊢
  refine lv_iload_n hx hb dX1_addCard_0 rfl (lv_at hl 1 rfl) ?_
  refine lv_iconst (v := (nI 0)) hx hb dX1_addCard_1 (by decide) ?_
  refine lv_iconst (v := (nI 2)) hx hb dX1_addCard_2 (by decide) ?_
  refine r_calli Z (r_runSN (As := [.int x1, .int (nI 0), .int (nI 2)]) (rest := []) C Z (m_X8_within l g h x1 (nI 0) (nI 2) _ hk) ⟨va_cnB 3 C.1.2.2.2.2 (gW tw_382) rfl rfl rfl (C.2.2.1.2.1 ("SmudgeTally$Clerk", 42, yX8_within) (by decide +kernel)) (hts _ tw_57) (by decide +kernel) ⟨Nat.le_of_ble_eq_true rfl, Nat.le_of_ble_eq_true rfl⟩, (hts _ tw_381), trivial⟩ rfl hl.1 rfl (Nat.le_of_ble_eq_true rfl) dX1_addCard_3 ⟨Nat.zero_le _, Nat.zero_le _⟩) (fun r3 h3 H locs hk Z => ?_)
  refine lv_if_eq (tgt := 16) hx hb dX1_addCard_6 (by decide) (fun q => ?_) (fun q => ?_)
  · have hk := hk.1 q
    refine lv_iconst (v := (-1 : Int32)) hx hb dX1_addCard_16 (by decide) ?_
    exact r_iret C Z hr hk dX1_addCard_17
  · have hk := hk.2 q
    refine lv_lload_n hx hb dX1_addCard_9 rfl (lv_at hl 2 rfl) ?_
    refine r_calli Z (r_runSN (As := [.long x2]) (rest := []) C Z (m_X8_isRow l g h3 x2 _ hk) ⟨va_cnB 1 C.1.2.2.2.2 (gW tw_385) rfl rfl rfl (C.2.2.1.2.1 ("SmudgeTally$Clerk", 46, yX8_isRow) (by decide +kernel)) (hts _ tw_57) (by decide +kernel) ⟨Nat.le_of_ble_eq_true rfl, Nat.le_of_ble_eq_true rfl⟩, (hts _ tw_384), trivial⟩ rfl hl.1 rfl (Nat.le_of_ble_eq_true rfl) dX1_addCard_10 ⟨Nat.zero_le _, Nat.zero_le _⟩) (fun r10 h10 H locs hk Z => ?_)
    refine lv_if_ne (tgt := 18) hx hb dX1_addCard_13 (by decide) (fun q => ?_) (fun q => ?_)
    · have hk := hk.1 q
      refine lv_aload_n hx hb dX1_addCard_18 rfl (lv_at hl 0 rfl) ?_
      obtain ⟨v19, hv, hk⟩ := hk
      refine r_get (ci := 1) (k := 1) (T := TX1) (N := 2) C Z hv ku_1 rfl (by decide) tw_221 dX1_addCard_19 ?_
      obtain ⟨v22, hv, hk⟩ := hk
      refine r_get (ci := 0) (k := 0) (T := TX0) (N := 11) C Z hv ku_0 rfl (by decide) tw_101 dX1_addCard_22 ?_
      refine lv_istore (lv' := [(4, .int v22), (0, .ref x0), (1, .int x1), (2, .long x2)]) hx hb dX1_addCard_25 hl (by decide) rfl (fun ls hl => ?_)
      refine lv_iload hx hb dX1_addCard_27 (lv_at hl 0 rfl) ?_
      refine lv_bipush (v := (nI 40)) hx hb dX1_addCard_29 (by decide) ?_
      refine lv_icmp_lt (tgt := 37) hx hb dX1_addCard_31 (by decide) (fun q => ?_) (fun q => ?_)
      · have hk := hk.1 q
        refine lv_aload_n hx hb dX1_addCard_37 rfl (lv_at hl 1 rfl) ?_
        obtain ⟨v38, hv, hk⟩ := hk
        refine r_get (ci := 1) (k := 1) (T := TX1) (N := 2) C Z hv ku_1 rfl (by decide) tw_221 dX1_addCard_38 ?_
        obtain ⟨v41, hv, hk⟩ := hk
        refine r_get (ci := 0) (k := 2) (T := TX0) (N := 11) C Z hv ku_0 rfl (by decide) tw_109 dX1_addCard_41 ?_
        refine lv_iload hx hb dX1_addCard_44 (lv_at hl 0 rfl) ?_
        refine lv_iload_n hx hb dX1_addCard_46 rfl (lv_at hl 2 rfl) ?_
        obtain ⟨h47, hv, hk⟩ := hk
        refine r_iast C Z hv dX1_addCard_47 (fun H locs Z => ?_)
        refine lv_aload_n hx hb dX1_addCard_48 rfl (lv_at hl 1 rfl) ?_
        obtain ⟨v49, hv, hk⟩ := hk
        refine r_get (ci := 1) (k := 1) (T := TX1) (N := 2) C Z hv ku_1 rfl (by decide) tw_221 dX1_addCard_49 ?_
        obtain ⟨v52, hv, hk⟩ := hk
        refine r_get (ci := 0) (k := 5) (T := TX0) (N := 11) C Z hv ku_0 rfl (by decide) tw_120 dX1_addCard_52 ?_
        refine lv_iload hx hb dX1_addCard_55 (lv_at hl 0 rfl) ?_
        refine lv_lload_n hx hb dX1_addCard_57 rfl (lv_at hl 3 rfl) ?_
        obtain ⟨h58, hv, hk⟩ := hk
        refine r_last C Z hv dX1_addCard_58 (fun H locs Z => ?_)
        refine lv_aload_n hx hb dX1_addCard_59 rfl (lv_at hl 1 rfl) ?_
        obtain ⟨v60, hv, hk⟩ := hk
        refine r_get (ci := 1) (k := 1) (T := TX1) (N := 2) C Z hv ku_1 rfl (by decide) tw_221 dX1_addCard_60 ?_
        obtain ⟨v63, hv, hk⟩ := hk
        refine r_get (ci := 0) (k := 6) (T := TX0) (N := 11) C Z hv ku_0 rfl (by decide) tw_123 dX1_addCard_63 ?_
        refine lv_iload hx hb dX1_addCard_66 (lv_at hl 0 rfl) ?_
        refine lv_lconst (v := lN 0) hx hb dX1_addCard_68 (by decide) ?_
        obtain ⟨h69, hv, hk⟩ := hk
        refine r_last C Z hv dX1_addCard_69 (fun H locs Z => ?_)
        refine lv_aload_n hx hb dX1_addCard_70 rfl (lv_at hl 1 rfl) ?_
        obtain ⟨v71, hv, hk⟩ := hk
        refine r_get (ci := 1) (k := 1) (T := TX1) (N := 2) C Z hv ku_1 rfl (by decide) tw_221 dX1_addCard_71 ?_
        obtain ⟨v74, hv, hk⟩ := hk
        refine r_get (ci := 0) (k := 4) (T := TX0) (N := 11) C Z hv ku_0 rfl (by decide) tw_116 dX1_addCard_74 ?_
        refine lv_iload hx hb dX1_addCard_77 (lv_at hl 0 rfl) ?_
        refine lv_iconst (v := (nI 0)) hx hb dX1_addCard_79 (by decide) ?_
        obtain ⟨h80, hv, hk⟩ := hk
        refine r_iast C Z hv dX1_addCard_80 (fun H locs Z => ?_)
        refine lv_aload_n hx hb dX1_addCard_81 rfl (lv_at hl 1 rfl) ?_
        obtain ⟨v82, hv, hk⟩ := hk
        refine r_get (ci := 1) (k := 1) (T := TX1) (N := 2) C Z hv ku_1 rfl (by decide) tw_221 dX1_addCard_82 ?_
        obtain ⟨v85, hv, hk⟩ := hk
        refine r_get (ci := 0) (k := 3) (T := TX0) (N := 11) C Z hv ku_0 rfl (by decide) tw_113 dX1_addCard_85 ?_
        refine lv_iload hx hb dX1_addCard_88 (lv_at hl 0 rfl) ?_
        refine lv_aload_n hx hb dX1_addCard_90 rfl (lv_at hl 1 rfl) ?_
        obtain ⟨v91, hv, hk⟩ := hk
        refine r_get (ci := 1) (k := 1) (T := TX1) (N := 2) C Z hv ku_1 rfl (by decide) tw_221 dX1_addCard_91 ?_
        obtain ⟨v94, hv, hk⟩ := hk
        refine r_get (ci := 0) (k := 7) (T := TX0) (N := 11) C Z hv ku_0 rfl (by decide) tw_126 dX1_addCard_94 ?_
        refine lv_iload_n hx hb dX1_addCard_97 rfl (lv_at hl 2 rfl) ?_
        obtain ⟨v98, hv, hk⟩ := hk
        refine r_iald C Z hv dX1_addCard_98 ?_
        obtain ⟨h99, hv, hk⟩ := hk
        refine r_iast C Z hv dX1_addCard_99 (fun H locs Z => ?_)
        refine lv_aload_n hx hb dX1_addCard_100 rfl (lv_at hl 1 rfl) ?_
        obtain ⟨v101, hv, hk⟩ := hk
        refine r_get (ci := 1) (k := 1) (T := TX1) (N := 2) C Z hv ku_1 rfl (by decide) tw_221 dX1_addCard_101 ?_
        refine lv_iload hx hb dX1_addCard_104 (lv_at hl 0 rfl) ?_
        refine lv_iconst (v := (nI 1)) hx hb dX1_addCard_106 (by decide) ?_
        refine lv_iadd hx hb dX1_addCard_107 ?_
        obtain ⟨h108, hv, hk⟩ := hk
        refine r_put (ci := 0) (k := 0) (T := TX0) (N := 11) C Z hv ku_0 tyX0_ok nmX0 rfl (by decide) tw_101 rfl rfl rfl dX1_addCard_108 (fun H locs Z => ?_)
        refine lv_iload hx hb dX1_addCard_111 (lv_at hl 0 rfl) ?_
        exact r_iret C Z hr hk dX1_addCard_113
      · have hk := hk.2 q
        refine lv_bipush (v := (-3 : Int32)) hx hb dX1_addCard_34 (by decide) ?_
        exact r_iret C Z hr hk dX1_addCard_36
    · have hk := hk.2 q
      refine lv_iconst (v := (-1 : Int32)) hx hb dX1_addCard_16 (by decide) ?_
      exact r_iret C Z hr hk dX1_addCard_17
abbrev rmX8_recordIfDone : Room := ({ frames := 1, cells := 0, slots := 0, locals := 22 } : Room)
abbrev wzX8_recordIfDone : List Cond := WS yX8_recordIfDone cX8_recordIfDone 2 (some .int)
set_option maxRecDepth 100000 in
set_option maxHeartbeats 4000000 in
theorem m_X8_recordIfDone (l : Launch) (g : Gt) (h : Hp) (x0 : Nat) (x1 : Int32) (Post : Int32 → Hp → Prop) (hk : wp_X8_recordIfDone x0 x1 Post h) : Met l yX8_recordIfDone wzX8_recordIfDone rmX8_recordIfDone (Pg g h [.ref x0, .int x1]) (Qi g h Post) 0 0 (dm h) := by
  refine Met_of (cc := cX8_recordIfDone) (maxL := 2) (ret := (some .int)) (by decide) (Nat.le_of_ble_eq_true rfl) (fun p e s m below meth c ls C hr hnm hl Z => ?_)
  have hx := C.1.1
  have hb := C.1.2.1
  have hml := C.1.2.2.1
  have hown := C.1.2.2.2.1
  have hts := C.1.2.2.2.2
  have hl : lv_has ls 2 [(0, .ref x0), (1, .int x1)] := hl
  unfold wp_X8_recordIfDone at hk
  generalize s.heap = H at Z ⊢
  generalize ([] : List Loc) = locs at Z ⊢
  refine lv_iload_n hx hb dX8_recordIfDone_0 rfl (lv_at hl 1 rfl) ?_
  refine lv_if_lt (tgt := 11) hx hb dX8_recordIfDone_1 (by decide) (fun q => ?_) (fun q => ?_)
  · have hk := hk.1 q
    refine lv_iload_n hx hb dX8_recordIfDone_11 rfl (lv_at hl 1 rfl) ?_
    exact r_iret C Z hr hk dX8_recordIfDone_12
  · have hk := hk.2 q
    refine lv_aload_n hx hb dX8_recordIfDone_4 rfl (lv_at hl 0 rfl) ?_
    obtain ⟨v5, hv, hk⟩ := hk
    refine r_get (ci := 8) (k := 4) (T := TX8) (N := 6) C Z hv ku_8 rfl (by decide) tw_337 dX8_recordIfDone_5 ?_
    obtain ⟨ho, hk⟩ := hk
    refine r_callv Z (r_runV (As := []) (rest := []) C Z (m_X2_record l g h v5 _ hk) ho rfl (cwV 0 C.1.2.2.2.2 (gV tw_391 tw_392 tw_393 tw_62 tw_394) rfl rfl rfl (by decide +kernel) ⟨Nat.le_of_ble_eq_true rfl, Nat.le_of_ble_eq_true rfl⟩) rfl hl.1 rfl (Nat.le_of_ble_eq_true rfl) dX8_recordIfDone_8 ⟨Nat.zero_le _, Nat.zero_le _⟩) (fun h8 H locs hk Z => ?_)
    refine lv_iload_n hx hb dX8_recordIfDone_11 rfl (lv_at hl 1 rfl) ?_
    exact r_iret C Z hr hk dX8_recordIfDone_12
abbrev rmX8_scan : Room := ({ frames := 5, cells := 0, slots := 0, locals := 127 } : Room)
abbrev wzX8_scan : List Cond := WS yX8_scan cX8_scan 4 (some .int)
set_option maxRecDepth 100000 in
set_option maxHeartbeats 4000000 in
theorem m_X8_scan (l : Launch) (g : Gt) (h : Hp) (x0 : Nat) (x1 : Int32) (x2 : Int64) (Post : Int32 → Hp → Prop) (hk : wp_X8_scan x0 x1 x2 Post h) : Met l yX8_scan wzX8_scan rmX8_scan (Pg g h [.ref x0, .int x1, .long x2]) (Qi g h Post) 0 0 (dm h) := by
  refine Met_of (cc := cX8_scan) (maxL := 4) (ret := (some .int)) (by decide) (Nat.le_of_ble_eq_true rfl) (fun p e s m below meth c ls C hr hnm hl Z => ?_)
  have hx := C.1.1
  have hb := C.1.2.1
  have hml := C.1.2.2.1
  have hown := C.1.2.2.2.1
  have hts := C.1.2.2.2.2
  have hl : lv_has ls 4 [(0, .ref x0), (1, .int x1), (2, .long x2)] := hl
  unfold wp_X8_scan at hk
  generalize s.heap = H at Z ⊢
  generalize ([] : List Loc) = locs at Z ⊢
  refine lv_aload_n hx hb dX8_scan_0 rfl (lv_at hl 0 rfl) ?_
  obtain ⟨v1, hv, hk⟩ := hk
  refine r_get (ci := 8) (k := 4) (T := TX8) (N := 6) C Z hv ku_8 rfl (by decide) tw_337 dX8_scan_1 ?_
  refine lv_aload_n hx hb dX8_scan_4 rfl (lv_at hl 0 rfl) ?_
  obtain ⟨v5, hv, hk⟩ := hk
  refine r_get (ci := 8) (k := 2) (T := TX8) (N := 6) C Z hv ku_8 rfl (by decide) tw_335 dX8_scan_5 ?_
  refine lv_aload_n hx hb dX8_scan_8 rfl (lv_at hl 0 rfl) ?_
  obtain ⟨v9, hv, hk⟩ := hk
  refine r_get (ci := 8) (k := 3) (T := TX8) (N := 6) C Z hv ku_8 rfl (by decide) tw_336 dX8_scan_9 ?_
  obtain ⟨ho, hk⟩ := hk
  refine r_callv Z (r_runV (As := [.ref v5, .ref v9]) (rest := []) C Z (m_X2_prepare l g h v1 v5 v9 _ hk) ho rfl (cwV 2 C.1.2.2.2.2 (gV tw_356 tw_357 tw_358 tw_62 tw_359) rfl rfl rfl (by decide +kernel) ⟨Nat.le_of_ble_eq_true rfl, Nat.le_of_ble_eq_true rfl⟩) rfl hl.1 rfl (Nat.le_of_ble_eq_true rfl) dX8_scan_12 ⟨Nat.zero_le _, Nat.zero_le _⟩) (fun h12 H locs hk Z => ?_)
  refine lv_aload_n hx hb dX8_scan_15 rfl (lv_at hl 0 rfl) ?_
  refine lv_aload_n hx hb dX8_scan_16 rfl (lv_at hl 0 rfl) ?_
  obtain ⟨v17, hv, hk⟩ := hk
  refine r_get (ci := 8) (k := 0) (T := TX8) (N := 6) C Z hv ku_8 rfl (by decide) tw_333 dX8_scan_17 ?_
  refine lv_iload_n hx hb dX8_scan_20 rfl (lv_at hl 1 rfl) ?_
  refine lv_lload_n hx hb dX8_scan_21 rfl (lv_at hl 2 rfl) ?_
  obtain ⟨ho, hk⟩ := hk
  refine r_calli Z (r_runV (As := [.int x1, .long x2]) (rest := [.ref x0]) C Z (m_X1_addCard l g h12 v17 x1 x2 _ hk) ho rfl (cwV 2 C.1.2.2.2.2 (gV tw_376 tw_377 tw_378 tw_58 tw_379) rfl rfl rfl (by decide +kernel) ⟨Nat.le_of_ble_eq_true rfl, Nat.le_of_ble_eq_true rfl⟩) rfl hl.1 rfl (Nat.le_of_ble_eq_true rfl) dX8_scan_22 ⟨Nat.zero_le _, Nat.zero_le _⟩) (fun r22 h22 H locs hk Z => ?_)
  obtain ⟨ho, hk⟩ := hk
  refine r_calli Z (r_runV (As := [.int r22]) (rest := []) C Z (m_X8_recordIfDone l g h22 x0 r22 _ hk) ho rfl (cwV 1 C.1.2.2.2.2 (gV tw_387 tw_389 tw_0 tw_57 tw_390) rfl rfl rfl (by decide +kernel) ⟨Nat.le_of_ble_eq_true rfl, Nat.le_of_ble_eq_true rfl⟩) rfl hl.1 rfl (Nat.le_of_ble_eq_true rfl) dX8_scan_25 ⟨Nat.zero_le _, Nat.zero_le _⟩) (fun r25 h25 H locs hk Z => ?_)
  exact r_iret C Z hr hk dX8_scan_28
abbrev rmX1_cleanMachine : Room := ({ frames := 1, cells := 0, slots := 0, locals := 24 } : Room)
abbrev wzX1_cleanMachine : List Cond := WS yX1_cleanMachine cX1_cleanMachine 2 (some .int)
set_option maxRecDepth 100000 in
set_option maxHeartbeats 4000000 in
theorem m_X1_cleanMachine (l : Launch) (g : Gt) (h : Hp) (x0 : Nat) (x1 : Int32) (Post : Int32 → Hp → Prop) (hk : wp_X1_cleanMachine x0 x1 Post h) : Met l yX1_cleanMachine wzX1_cleanMachine rmX1_cleanMachine (Pg g h [.ref x0, .int x1]) (Qi g h Post) 0 0 (dm h) := by
  refine Met_of (cc := cX1_cleanMachine) (maxL := 2) (ret := (some .int)) (by decide) (Nat.le_of_ble_eq_true rfl) (fun p e s m below meth c ls C hr hnm hl Z => ?_)
  have hx := C.1.1
  have hb := C.1.2.1
  have hml := C.1.2.2.1
  have hown := C.1.2.2.2.1
  have hts := C.1.2.2.2.2
  have hl : lv_has ls 2 [(0, .ref x0), (1, .int x1)] := hl
  unfold wp_X1_cleanMachine at hk
  generalize s.heap = H at Z ⊢
  generalize ([] : List Loc) = locs at Z ⊢
  refine lv_iload_n hx hb dX1_cleanMachine_0 rfl (lv_at hl 1 rfl) ?_
  refine lv_iconst (v := (nI 0)) hx hb dX1_cleanMachine_1 (by decide) ?_
  refine lv_iconst (v := (nI 2)) hx hb dX1_cleanMachine_2 (by decide) ?_
  refine r_calli Z (r_runSN (As := [.int x1, .int (nI 0), .int (nI 2)]) (rest := []) C Z (m_X8_within l g h x1 (nI 0) (nI 2) _ hk) ⟨va_cnB 3 C.1.2.2.2.2 (gW tw_382) rfl rfl rfl (C.2.2.1.2.1 ("SmudgeTally$Clerk", 42, yX8_within) (by decide +kernel)) (hts _ tw_57) (by decide +kernel) ⟨Nat.le_of_ble_eq_true rfl, Nat.le_of_ble_eq_true rfl⟩, (hts _ tw_381), trivial⟩ rfl hl.1 rfl (Nat.le_of_ble_eq_true rfl) dX1_cleanMachine_3 ⟨Nat.zero_le _, Nat.zero_le _⟩) (fun r3 h3 H locs hk Z => ?_)
  refine lv_if_ne (tgt := 11) hx hb dX1_cleanMachine_6 (by decide) (fun q => ?_) (fun q => ?_)
  · have hk := hk.1 q
    refine lv_aload_n hx hb dX1_cleanMachine_11 rfl (lv_at hl 0 rfl) ?_
    obtain ⟨v12, hv, hk⟩ := hk
    refine r_get (ci := 1) (k := 1) (T := TX1) (N := 2) C Z hv ku_1 rfl (by decide) tw_221 dX1_cleanMachine_12 ?_
    obtain ⟨v15, hv, hk⟩ := hk
    refine r_get (ci := 0) (k := 7) (T := TX0) (N := 11) C Z hv ku_0 rfl (by decide) tw_126 dX1_cleanMachine_15 ?_
    refine lv_iload_n hx hb dX1_cleanMachine_18 rfl (lv_at hl 1 rfl) ?_
    refine lv_dup2_11 hx hb dX1_cleanMachine_19 rfl rfl ?_
    obtain ⟨v20, hv, hk⟩ := hk
    refine r_iald C Z hv dX1_cleanMachine_20 ?_
    refine lv_iconst (v := (nI 1)) hx hb dX1_cleanMachine_21 (by decide) ?_
    refine lv_iadd hx hb dX1_cleanMachine_22 ?_
    obtain ⟨h23, hv, hk⟩ := hk
    refine r_iast C Z hv dX1_cleanMachine_23 (fun H locs Z => ?_)
    refine lv_aload_n hx hb dX1_cleanMachine_24 rfl (lv_at hl 0 rfl) ?_
    obtain ⟨v25, hv, hk⟩ := hk
    refine r_get (ci := 1) (k := 1) (T := TX1) (N := 2) C Z hv ku_1 rfl (by decide) tw_221 dX1_cleanMachine_25 ?_
    refine lv_iload_n hx hb dX1_cleanMachine_28 rfl (lv_at hl 1 rfl) ?_
    refine lv_aload_n hx hb dX1_cleanMachine_29 rfl (lv_at hl 0 rfl) ?_
    obtain ⟨v30, hv, hk⟩ := hk
    refine r_get (ci := 1) (k := 1) (T := TX1) (N := 2) C Z hv ku_1 rfl (by decide) tw_221 dX1_cleanMachine_30 ?_
    obtain ⟨v33, hv, hk⟩ := hk
    refine r_get (ci := 0) (k := 0) (T := TX0) (N := 11) C Z hv ku_0 rfl (by decide) tw_101 dX1_cleanMachine_33 ?_
    obtain ⟨ho, hk⟩ := hk
    refine r_calli Z (r_runV (As := [.int x1, .int v33]) (rest := []) C Z (m_X0_cardsOf l g h23 v25 x1 v33 _ hk) ho rfl (cwV 2 C.1.2.2.2.2 (gV tw_403 tw_404 tw_405 tw_60 tw_406) rfl rfl rfl (by decide +kernel) ⟨Nat.le_of_ble_eq_true rfl, Nat.le_of_ble_eq_true rfl⟩) rfl hl.1 rfl (Nat.le_of_ble_eq_true rfl) dX1_cleanMachine_36 ⟨Nat.zero_le _, Nat.zero_le _⟩) (fun r36 h36 H locs hk Z => ?_)
    exact r_iret C Z hr hk dX1_cleanMachine_39
  · have hk := hk.2 q
    refine lv_iconst (v := (-1 : Int32)) hx hb dX1_cleanMachine_9 (by decide) ?_
    exact r_iret C Z hr hk dX1_cleanMachine_10
abbrev rmX8_clean : Room := ({ frames := 5, cells := 0, slots := 0, locals := 127 } : Room)
abbrev wzX8_clean : List Cond := WS yX8_clean cX8_clean 2 (some .int)
set_option maxRecDepth 100000 in
set_option maxHeartbeats 4000000 in
theorem m_X8_clean (l : Launch) (g : Gt) (h : Hp) (x0 : Nat) (x1 : Int32) (Post : Int32 → Hp → Prop) (hk : wp_X8_clean x0 x1 Post h) : Met l yX8_clean wzX8_clean rmX8_clean (Pg g h [.ref x0, .int x1]) (Qi g h Post) 0 0 (dm h) := by
  refine Met_of (cc := cX8_clean) (maxL := 2) (ret := (some .int)) (by decide) (Nat.le_of_ble_eq_true rfl) (fun p e s m below meth c ls C hr hnm hl Z => ?_)
  have hx := C.1.1
  have hb := C.1.2.1
  have hml := C.1.2.2.1
  have hown := C.1.2.2.2.1
  have hts := C.1.2.2.2.2
  have hl : lv_has ls 2 [(0, .ref x0), (1, .int x1)] := hl
  unfold wp_X8_clean at hk
  generalize s.heap = H at Z ⊢
  generalize ([] : List Loc) = locs at Z ⊢
  refine lv_aload_n hx hb dX8_clean_0 rfl (lv_at hl 0 rfl) ?_
  obtain ⟨v1, hv, hk⟩ := hk
  refine r_get (ci := 8) (k := 4) (T := TX8) (N := 6) C Z hv ku_8 rfl (by decide) tw_337 dX8_clean_1 ?_
  refine lv_aload_n hx hb dX8_clean_4 rfl (lv_at hl 0 rfl) ?_
  obtain ⟨v5, hv, hk⟩ := hk
  refine r_get (ci := 8) (k := 2) (T := TX8) (N := 6) C Z hv ku_8 rfl (by decide) tw_335 dX8_clean_5 ?_
  refine lv_aload_n hx hb dX8_clean_8 rfl (lv_at hl 0 rfl) ?_
  obtain ⟨v9, hv, hk⟩ := hk
  refine r_get (ci := 8) (k := 3) (T := TX8) (N := 6) C Z hv ku_8 rfl (by decide) tw_336 dX8_clean_9 ?_
  obtain ⟨ho, hk⟩ := hk
  refine r_callv Z (r_runV (As := [.ref v5, .ref v9]) (rest := []) C Z (m_X2_prepare l g h v1 v5 v9 _ hk) ho rfl (cwV 2 C.1.2.2.2.2 (gV tw_356 tw_357 tw_358 tw_62 tw_359) rfl rfl rfl (by decide +kernel) ⟨Nat.le_of_ble_eq_true rfl, Nat.le_of_ble_eq_true rfl⟩) rfl hl.1 rfl (Nat.le_of_ble_eq_true rfl) dX8_clean_12 ⟨Nat.zero_le _, Nat.zero_le _⟩) (fun h12 H locs hk Z => ?_)
  refine lv_aload_n hx hb dX8_clean_15 rfl (lv_at hl 0 rfl) ?_
  refine lv_aload_n hx hb dX8_clean_16 rfl (lv_at hl 0 rfl) ?_
  obtain ⟨v17, hv, hk⟩ := hk
  refine r_get (ci := 8) (k := 0) (T := TX8) (N := 6) C Z hv ku_8 rfl (by decide) tw_333 dX8_clean_17 ?_
  refine lv_iload_n hx hb dX8_clean_20 rfl (lv_at hl 1 rfl) ?_
  obtain ⟨ho, hk⟩ := hk
  refine r_calli Z (r_runV (As := [.int x1]) (rest := [.ref x0]) C Z (m_X1_cleanMachine l g h12 v17 x1 _ hk) ho rfl (cwV 1 C.1.2.2.2.2 (gV tw_399 tw_400 tw_401 tw_58 tw_402) rfl rfl rfl (by decide +kernel) ⟨Nat.le_of_ble_eq_true rfl, Nat.le_of_ble_eq_true rfl⟩) rfl hl.1 rfl (Nat.le_of_ble_eq_true rfl) dX8_clean_21 ⟨Nat.zero_le _, Nat.zero_le _⟩) (fun r21 h21 H locs hk Z => ?_)
  obtain ⟨ho, hk⟩ := hk
  refine r_calli Z (r_runV (As := [.int r21]) (rest := []) C Z (m_X8_recordIfDone l g h21 x0 r21 _ hk) ho rfl (cwV 1 C.1.2.2.2.2 (gV tw_387 tw_389 tw_0 tw_57 tw_390) rfl rfl rfl (by decide +kernel) ⟨Nat.le_of_ble_eq_true rfl, Nat.le_of_ble_eq_true rfl⟩) rfl hl.1 rfl (Nat.le_of_ble_eq_true rfl) dX8_clean_24 ⟨Nat.zero_le _, Nat.zero_le _⟩) (fun r24 h24 H locs hk Z => ?_)
  exact r_iret C Z hr hk dX8_clean_27
abbrev rmX1_setNumber : Room := ({ frames := 1, cells := 0, slots := 0, locals := 22 } : Room)
abbrev wzX1_setNumber : List Cond := WS yX1_setNumber cX1_setNumber 4 (some .int)
set_option maxRecDepth 100000 in
set_option maxHeartbeats 4000000 in
theorem m_X1_setNumber (l : Launch) (g : Gt) (h : Hp) (x0 : Nat) (x1 : Int32) (x2 : Int32) (Post : Int32 → Hp → Prop) (hk : wp_X1_setNumber x0 x1 x2 Post h) : Met l yX1_setNumber wzX1_setNumber rmX1_setNumber (Pg g h [.ref x0, .int x1, .int x2]) (Qi g h Post) 0 0 (dm h) := by
  refine Met_of (cc := cX1_setNumber) (maxL := 4) (ret := (some .int)) (by decide) (Nat.le_of_ble_eq_true rfl) (fun p e s m below meth c ls C hr hnm hl Z => ?_)
  have hx := C.1.1
  have hb := C.1.2.1
  have hml := C.1.2.2.1
  have hown := C.1.2.2.2.1
  have hts := C.1.2.2.2.2
  have hl : lv_has ls 4 [(0, .ref x0), (1, .int x1), (2, .int x2)] := hl
  unfold wp_X1_setNumber at hk
  generalize s.heap = H at Z ⊢
  generalize ([] : List Loc) = locs at Z ⊢
  refine lv_iload_n hx hb dX1_setNumber_0 rfl (lv_at hl 1 rfl) ?_
  refine lv_iconst (v := (nI 0)) hx hb dX1_setNumber_1 (by decide) ?_
  refine lv_iconst (v := (nI 3)) hx hb dX1_setNumber_2 (by decide) ?_
  refine r_calli Z (r_runSN (As := [.int x1, .int (nI 0), .int (nI 3)]) (rest := []) C Z (m_X8_within l g h x1 (nI 0) (nI 3) _ hk) ⟨va_cnB 3 C.1.2.2.2.2 (gW tw_382) rfl rfl rfl (C.2.2.1.2.1 ("SmudgeTally$Clerk", 42, yX8_within) (by decide +kernel)) (hts _ tw_57) (by decide +kernel) ⟨Nat.le_of_ble_eq_true rfl, Nat.le_of_ble_eq_true rfl⟩, (hts _ tw_381), trivial⟩ rfl hl.1 rfl (Nat.le_of_ble_eq_true rfl) dX1_setNumber_3 ⟨Nat.zero_le _, Nat.zero_le _⟩) (fun r3 h3 H locs hk Z => ?_)
  refine lv_if_eq (tgt := 26) hx hb dX1_setNumber_6 (by decide) (fun q => ?_) (fun q => ?_)
  · have hk := hk.1 q
    refine lv_iconst (v := (-1 : Int32)) hx hb dX1_setNumber_26 (by decide) ?_
    exact r_iret C Z hr hk dX1_setNumber_27
  · have hk := hk.2 q
    refine lv_iload_n hx hb dX1_setNumber_9 rfl (lv_at hl 2 rfl) ?_
    refine va_getsN (host := "SmudgeTally") hx hb C.2.2.2.1.1 Z.1 hown (va_Nw.use rfl (C.2.2.1.2.2.1 ("SmudgeTally$Clerk", 79, "SmudgeTally", "SMALLEST", "[I") (by decide +kernel))) (fun x hx => hx) dX1_setNumber_10 ?_
    refine lv_iload_n hx hb dX1_setNumber_13 rfl (lv_at hl 1 rfl) ?_
    obtain ⟨v14, hv, hk⟩ := hk
    refine r_sti (i := 0) C Z (by decide) hv dX1_setNumber_14 ?_
    refine va_getsN (host := "SmudgeTally") hx hb C.2.2.2.2.1.1 Z.1 hown (va_Nw.use rfl (C.2.2.1.2.2.1 ("SmudgeTally$Clerk", 82, "SmudgeTally", "GREATEST", "[I") (by decide +kernel))) (fun x hx => hx) dX1_setNumber_15 ?_
    refine lv_iload_n hx hb dX1_setNumber_18 rfl (lv_at hl 1 rfl) ?_
    obtain ⟨v19, hv, hk⟩ := hk
    refine r_sti (i := 1) C Z (by decide) hv dX1_setNumber_19 ?_
    refine r_calli Z (r_runSN (As := [.int x2, .int v14, .int v19]) (rest := []) C Z (m_X8_within l g h3 x2 v14 v19 _ hk) ⟨va_cnB 3 C.1.2.2.2.2 (gW tw_382) rfl rfl rfl (C.2.2.1.2.1 ("SmudgeTally$Clerk", 42, yX8_within) (by decide +kernel)) (hts _ tw_57) (by decide +kernel) ⟨Nat.le_of_ble_eq_true rfl, Nat.le_of_ble_eq_true rfl⟩, (hts _ tw_381), trivial⟩ rfl hl.1 rfl (Nat.le_of_ble_eq_true rfl) dX1_setNumber_20 ⟨Nat.zero_le _, Nat.zero_le _⟩) (fun r20 h20 H locs hk Z => ?_)
    refine lv_if_ne (tgt := 28) hx hb dX1_setNumber_23 (by decide) (fun q => ?_) (fun q => ?_)
    · have hk := hk.1 q
      refine lv_aload_n hx hb dX1_setNumber_28 rfl (lv_at hl 0 rfl) ?_
      obtain ⟨v29, hv, hk⟩ := hk
      refine r_get (ci := 1) (k := 1) (T := TX1) (N := 2) C Z hv ku_1 rfl (by decide) tw_221 dX1_setNumber_29 ?_
      obtain ⟨v32, hv, hk⟩ := hk
      refine r_get (ci := 0) (k := 8) (T := TX0) (N := 11) C Z hv ku_0 rfl (by decide) tw_129 dX1_setNumber_32 ?_
      refine lv_iload_n hx hb dX1_setNumber_35 rfl (lv_at hl 1 rfl) ?_
      obtain ⟨v36, hv, hk⟩ := hk
      refine r_iald C Z hv dX1_setNumber_36 ?_
      refine lv_istore_n (lv' := [(3, .int v36), (0, .ref x0), (1, .int x1), (2, .int x2)]) hx hb dX1_setNumber_37 rfl hl (by decide) rfl (fun ls hl => ?_)
      refine lv_aload_n hx hb dX1_setNumber_38 rfl (lv_at hl 1 rfl) ?_
      obtain ⟨v39, hv, hk⟩ := hk
      refine r_get (ci := 1) (k := 1) (T := TX1) (N := 2) C Z hv ku_1 rfl (by decide) tw_221 dX1_setNumber_39 ?_
      obtain ⟨v42, hv, hk⟩ := hk
      refine r_get (ci := 0) (k := 8) (T := TX0) (N := 11) C Z hv ku_0 rfl (by decide) tw_129 dX1_setNumber_42 ?_
      refine lv_iload_n hx hb dX1_setNumber_45 rfl (lv_at hl 2 rfl) ?_
      refine lv_iload_n hx hb dX1_setNumber_46 rfl (lv_at hl 3 rfl) ?_
      obtain ⟨h47, hv, hk⟩ := hk
      refine r_iast C Z hv dX1_setNumber_47 (fun H locs Z => ?_)
      refine lv_iload_n hx hb dX1_setNumber_48 rfl (lv_at hl 0 rfl) ?_
      exact r_iret C Z hr hk dX1_setNumber_49
    · have hk := hk.2 q
      refine lv_iconst (v := (-1 : Int32)) hx hb dX1_setNumber_26 (by decide) ?_
      exact r_iret C Z hr hk dX1_setNumber_27
abbrev rmX8_set : Room := ({ frames := 5, cells := 0, slots := 0, locals := 127 } : Room)
abbrev wzX8_set : List Cond := WS yX8_set cX8_set 3 (some .int)
set_option maxRecDepth 100000 in
set_option maxHeartbeats 4000000 in
theorem m_X8_set (l : Launch) (g : Gt) (h : Hp) (x0 : Nat) (x1 : Int32) (x2 : Int32) (Post : Int32 → Hp → Prop) (hk : wp_X8_set x0 x1 x2 Post h) : Met l yX8_set wzX8_set rmX8_set (Pg g h [.ref x0, .int x1, .int x2]) (Qi g h Post) 0 0 (dm h) := by
  refine Met_of (cc := cX8_set) (maxL := 3) (ret := (some .int)) (by decide) (Nat.le_of_ble_eq_true rfl) (fun p e s m below meth c ls C hr hnm hl Z => ?_)
  have hx := C.1.1
  have hb := C.1.2.1
  have hml := C.1.2.2.1
  have hown := C.1.2.2.2.1
  have hts := C.1.2.2.2.2
  have hl : lv_has ls 3 [(0, .ref x0), (1, .int x1), (2, .int x2)] := hl
  unfold wp_X8_set at hk
  generalize s.heap = H at Z ⊢
  generalize ([] : List Loc) = locs at Z ⊢
  refine lv_aload_n hx hb dX8_set_0 rfl (lv_at hl 0 rfl) ?_
  obtain ⟨v1, hv, hk⟩ := hk
  refine r_get (ci := 8) (k := 4) (T := TX8) (N := 6) C Z hv ku_8 rfl (by decide) tw_337 dX8_set_1 ?_
  refine lv_aload_n hx hb dX8_set_4 rfl (lv_at hl 0 rfl) ?_
  obtain ⟨v5, hv, hk⟩ := hk
  refine r_get (ci := 8) (k := 2) (T := TX8) (N := 6) C Z hv ku_8 rfl (by decide) tw_335 dX8_set_5 ?_
  refine lv_aload_n hx hb dX8_set_8 rfl (lv_at hl 0 rfl) ?_
  obtain ⟨v9, hv, hk⟩ := hk
  refine r_get (ci := 8) (k := 3) (T := TX8) (N := 6) C Z hv ku_8 rfl (by decide) tw_336 dX8_set_9 ?_
  obtain ⟨ho, hk⟩ := hk
  refine r_callv Z (r_runV (As := [.ref v5, .ref v9]) (rest := []) C Z (m_X2_prepare l g h v1 v5 v9 _ hk) ho rfl (cwV 2 C.1.2.2.2.2 (gV tw_356 tw_357 tw_358 tw_62 tw_359) rfl rfl rfl (by decide +kernel) ⟨Nat.le_of_ble_eq_true rfl, Nat.le_of_ble_eq_true rfl⟩) rfl hl.1 rfl (Nat.le_of_ble_eq_true rfl) dX8_set_12 ⟨Nat.zero_le _, Nat.zero_le _⟩) (fun h12 H locs hk Z => ?_)
  refine lv_aload_n hx hb dX8_set_15 rfl (lv_at hl 0 rfl) ?_
  refine lv_aload_n hx hb dX8_set_16 rfl (lv_at hl 0 rfl) ?_
  obtain ⟨v17, hv, hk⟩ := hk
  refine r_get (ci := 8) (k := 0) (T := TX8) (N := 6) C Z hv ku_8 rfl (by decide) tw_333 dX8_set_17 ?_
  refine lv_iload_n hx hb dX8_set_20 rfl (lv_at hl 1 rfl) ?_
  refine lv_iload_n hx hb dX8_set_21 rfl (lv_at hl 2 rfl) ?_
  obtain ⟨ho, hk⟩ := hk
  refine r_calli Z (r_runV (As := [.int x1, .int x2]) (rest := [.ref x0]) C Z (m_X1_setNumber l g h12 v17 x1 x2 _ hk) ho rfl (cwV 2 C.1.2.2.2.2 (gV tw_411 tw_412 tw_413 tw_58 tw_414) rfl rfl rfl (by decide +kernel) ⟨Nat.le_of_ble_eq_true rfl, Nat.le_of_ble_eq_true rfl⟩) rfl hl.1 rfl (Nat.le_of_ble_eq_true rfl) dX8_set_22 ⟨Nat.zero_le _, Nat.zero_le _⟩) (fun r22 h22 H locs hk Z => ?_)
  obtain ⟨ho, hk⟩ := hk
  refine r_calli Z (r_runV (As := [.int r22]) (rest := []) C Z (m_X8_recordIfDone l g h22 x0 r22 _ hk) ho rfl (cwV 1 C.1.2.2.2.2 (gV tw_387 tw_389 tw_0 tw_57 tw_390) rfl rfl rfl (by decide +kernel) ⟨Nat.le_of_ble_eq_true rfl, Nat.le_of_ble_eq_true rfl⟩) rfl hl.1 rfl (Nat.le_of_ble_eq_true rfl) dX8_set_25 ⟨Nat.zero_le _, Nat.zero_le _⟩) (fun r25 h25 H locs hk Z => ?_)
  exact r_iret C Z hr hk dX8_set_28
abbrev rmX8_publish : Room := ({ frames := 5, cells := 0, slots := 0, locals := 127 } : Room)
abbrev wzX8_publish : List Cond := WS yX8_publish cX8_publish 1 (some .int)
set_option maxRecDepth 100000 in
set_option maxHeartbeats 4000000 in
theorem m_X8_publish (l : Launch) (g : Gt) (h : Hp) (x0 : Nat) (Post : Int32 → Hp → Prop) (hk : wp_X8_publish x0 Post h) : Met l yX8_publish wzX8_publish rmX8_publish (Pg g h [.ref x0]) (Qi g h Post) 0 0 (dm h) := by
  refine Met_of (cc := cX8_publish) (maxL := 1) (ret := (some .int)) (by decide) (Nat.le_of_ble_eq_true rfl) (fun p e s m below meth c ls C hr hnm hl Z => ?_)
  have hx := C.1.1
  have hb := C.1.2.1
  have hml := C.1.2.2.1
  have hown := C.1.2.2.2.1
  have hts := C.1.2.2.2.2
  have hl : lv_has ls 1 [(0, .ref x0)] := hl
  unfold wp_X8_publish at hk
  generalize s.heap = H at Z ⊢
  generalize ([] : List Loc) = locs at Z ⊢
  refine lv_aload_n hx hb dX8_publish_0 rfl (lv_at hl 0 rfl) ?_
  obtain ⟨v1, hv, hk⟩ := hk
  refine r_get (ci := 8) (k := 4) (T := TX8) (N := 6) C Z hv ku_8 rfl (by decide) tw_337 dX8_publish_1 ?_
  refine lv_aload_n hx hb dX8_publish_4 rfl (lv_at hl 0 rfl) ?_
  obtain ⟨v5, hv, hk⟩ := hk
  refine r_get (ci := 8) (k := 2) (T := TX8) (N := 6) C Z hv ku_8 rfl (by decide) tw_335 dX8_publish_5 ?_
  refine lv_aload_n hx hb dX8_publish_8 rfl (lv_at hl 0 rfl) ?_
  obtain ⟨v9, hv, hk⟩ := hk
  refine r_get (ci := 8) (k := 3) (T := TX8) (N := 6) C Z hv ku_8 rfl (by decide) tw_336 dX8_publish_9 ?_
  obtain ⟨ho, hk⟩ := hk
  refine r_callv Z (r_runV (As := [.ref v5, .ref v9]) (rest := []) C Z (m_X2_prepare l g h v1 v5 v9 _ hk) ho rfl (cwV 2 C.1.2.2.2.2 (gV tw_356 tw_357 tw_358 tw_62 tw_359) rfl rfl rfl (by decide +kernel) ⟨Nat.le_of_ble_eq_true rfl, Nat.le_of_ble_eq_true rfl⟩) rfl hl.1 rfl (Nat.le_of_ble_eq_true rfl) dX8_publish_12 ⟨Nat.zero_le _, Nat.zero_le _⟩) (fun h12 H locs hk Z => ?_)
  refine lv_aload_n hx hb dX8_publish_15 rfl (lv_at hl 0 rfl) ?_
  refine lv_aload_n hx hb dX8_publish_16 rfl (lv_at hl 0 rfl) ?_
  obtain ⟨v17, hv, hk⟩ := hk
  refine r_get (ci := 8) (k := 0) (T := TX8) (N := 6) C Z hv ku_8 rfl (by decide) tw_333 dX8_publish_17 ?_
  obtain ⟨ho, hk⟩ := hk
  refine r_calli Z (r_runV (As := []) (rest := [.ref x0]) C Z (m_X1_publishVersion l g h12 v17 _ hk) ho rfl (cwV 0 C.1.2.2.2.2 (gV tw_423 tw_424 tw_425 tw_58 tw_426) rfl rfl rfl (by decide +kernel) ⟨Nat.le_of_ble_eq_true rfl, Nat.le_of_ble_eq_true rfl⟩) rfl hl.1 rfl (Nat.le_of_ble_eq_true rfl) dX8_publish_20 ⟨Nat.zero_le _, Nat.zero_le _⟩) (fun r20 h20 H locs hk Z => ?_)
  obtain ⟨ho, hk⟩ := hk
  refine r_calli Z (r_runV (As := [.int r20]) (rest := []) C Z (m_X8_recordIfDone l g h20 x0 r20 _ hk) ho rfl (cwV 1 C.1.2.2.2.2 (gV tw_387 tw_389 tw_0 tw_57 tw_390) rfl rfl rfl (by decide +kernel) ⟨Nat.le_of_ble_eq_true rfl, Nat.le_of_ble_eq_true rfl⟩) rfl hl.1 rfl (Nat.le_of_ble_eq_true rfl) dX8_publish_23 ⟨Nat.zero_le _, Nat.zero_le _⟩) (fun r23 h23 H locs hk Z => ?_)
  exact r_iret C Z hr hk dX8_publish_26
abbrev rmX8_nextLot : Room := ({ frames := 0, cells := 0, slots := 0, locals := 0 } : Room)
abbrev wzX8_nextLot : List Cond := WS yX8_nextLot cX8_nextLot 1 (some .int)
set_option maxRecDepth 100000 in
set_option maxHeartbeats 4000000 in
theorem m_X8_nextLot (l : Launch) (g : Gt) (h : Hp) (x0 : Int32) (Post : Int32 → Hp → Prop) (hk : wp_X8_nextLot x0 Post h) : Met l yX8_nextLot wzX8_nextLot rmX8_nextLot (Pg g h [.int x0]) (Qi g h Post) 0 0 (dm h) := by
  refine Met_of (cc := cX8_nextLot) (maxL := 1) (ret := (some .int)) (by decide) (Nat.le_of_ble_eq_true rfl) (fun p e s m below meth c ls C hr hnm hl Z => ?_)
  have hx := C.1.1
  have hb := C.1.2.1
  have hml := C.1.2.2.1
  have hown := C.1.2.2.2.1
  have hts := C.1.2.2.2.2
  have hl : lv_has ls 1 [(0, .int x0)] := hl
  unfold wp_X8_nextLot at hk
  generalize s.heap = H at Z ⊢
  generalize ([] : List Loc) = locs at Z ⊢
  refine lv_bipush (v := (nI 75)) hx hb dX8_nextLot_0 (by decide) ?_
  refine lv_iload_n hx hb dX8_nextLot_2 rfl (lv_at hl 0 rfl) ?_
  refine lv_imul hx hb dX8_nextLot_3 ?_
  refine lv_bipush (v := (nI 74)) hx hb dX8_nextLot_4 (by decide) ?_
  refine lv_iadd hx hb dX8_nextLot_6 ?_
  refine lv_ldcw (v := (nI 65537)) hx hb hown (hts _ tw_516) dX8_nextLot_7 ?_
  refine lv_irem hx hb dX8_nextLot_10 (by decide) ?_
  exact r_iret C Z hr hk dX8_nextLot_11
abbrev rmX1_drawCards : Room := ({ frames := 4, cells := 0, slots := 0, locals := 88 } : Room)
abbrev wzX1_drawCards : List Cond := WS yX1_drawCards cX1_drawCards 7 (some .int)
set_option maxRecDepth 100000 in
set_option maxHeartbeats 4000000 in
theorem w_X1_drawCards_51 {p : Program} {l : Launch} {e : Env} {s : State} {m : MethodId} {args : Array Value} {below : List Frame} {meth : Method} {c : Code} {g : Gt} {h0 : Hp} (C : Cx g (dm h0) RX1 cX1_drawCards 7 p s m args meth c) (hr : meth.sig.returnType = (some .int)) {Post : Int32 → Hp → Prop} (x0 : Nat) (x2 : Int32) (x3 : Int32)   : ∀ (n : Nat) (x4 : Int32) (x5 : Int32) (h : Hp) (H : Heap) (locs : List Loc) (ls : Array Slot), lv_has ls 7 [(0, .ref x0), (2, .int x2), (3, .int x3), (4, .int x4), (5, .int x5)] → St g (dm h0) s h H locs → wp_X1_drawCards_51 Post x0 x2 x3 n x4 x5 h → W p l e rmX1_drawCards s m args below meth c H locs 0 0 (MQ below (Qi g h0 Post) args s 0 0 (dm h0)) (F0 m 51 ls []) := by
  have hx := C.1.1
  have hb := C.1.2.1
  have hml := C.1.2.2.1
  have hown := C.1.2.2.2.1
  have hts := C.1.2.2.2.2
  intro n
  induction n with
  | zero => intro x4 x5 h H locs ls hl Z hk; exact (show False from hk).elim
  | succ n ih =>
    intro x4 x5 h H locs ls hl Z hk
    unfold wp_X1_drawCards_51 at hk
    refine lv_iload hx hb dX1_drawCards_51 (lv_at hl 4 rfl) ?_
    refine lv_if_le (tgt := 114) hx hb dX1_drawCards_53 (by decide) (fun q => ?_) (fun q => ?_)
    · have hk := hk.1 q
      refine lv_aload_n hx hb dX1_drawCards_114 rfl (lv_at hl 0 rfl) ?_
      obtain ⟨v115, hv, hk⟩ := hk
      refine r_get (ci := 1) (k := 1) (T := TX1) (N := 2) C Z hv ku_1 rfl (by decide) tw_221 dX1_drawCards_115 ?_
      refine lv_iconst (v := (nI 1)) hx hb dX1_drawCards_118 (by decide) ?_
      obtain ⟨ho, hk⟩ := hk
      refine r_calli Z (r_runV (As := [.int (nI 1)]) (rest := []) C Z (m_X0_cardsInStage l g h v115 (nI 1) _ hk) ho rfl (cwV 1 C.1.2.2.2.2 (gV tw_525 tw_526 tw_527 tw_60 tw_528) rfl rfl rfl (by decide +kernel) ⟨Nat.le_of_ble_eq_true rfl, Nat.le_of_ble_eq_true rfl⟩) rfl hl.1 rfl (Nat.le_of_ble_eq_true rfl) dX1_drawCards_119 ⟨Nat.zero_le _, Nat.zero_le _⟩) (fun r119 h119 H locs hk Z => ?_)
      exact r_iret C Z hr hk dX1_drawCards_122
    · have hk := hk.2 q
      refine lv_iload hx hb dX1_drawCards_56 (lv_at hl 4 rfl) ?_
      refine lv_iload_n hx hb dX1_drawCards_58 rfl (lv_at hl 2 rfl) ?_
      refine lv_iload_n hx hb dX1_drawCards_59 rfl (lv_at hl 1 rfl) ?_
      refine lv_isub hx hb dX1_drawCards_60 ?_
      refine lv_icmp_le (tgt := 114) hx hb dX1_drawCards_61 (by decide) (fun q => ?_) (fun q => ?_)
      · have hk := hk.1 q
        refine lv_aload_n hx hb dX1_drawCards_114 rfl (lv_at hl 0 rfl) ?_
        obtain ⟨v115, hv, hk⟩ := hk
        refine r_get (ci := 1) (k := 1) (T := TX1) (N := 2) C Z hv ku_1 rfl (by decide) tw_221 dX1_drawCards_115 ?_
        refine lv_iconst (v := (nI 1)) hx hb dX1_drawCards_118 (by decide) ?_
        obtain ⟨ho, hk⟩ := hk
        refine r_calli Z (r_runV (As := [.int (nI 1)]) (rest := []) C Z (m_X0_cardsInStage l g h v115 (nI 1) _ hk) ho rfl (cwV 1 C.1.2.2.2.2 (gV tw_525 tw_526 tw_527 tw_60 tw_528) rfl rfl rfl (by decide +kernel) ⟨Nat.le_of_ble_eq_true rfl, Nat.le_of_ble_eq_true rfl⟩) rfl hl.1 rfl (Nat.le_of_ble_eq_true rfl) dX1_drawCards_119 ⟨Nat.zero_le _, Nat.zero_le _⟩) (fun r119 h119 H locs hk Z => ?_)
        exact r_iret C Z hr hk dX1_drawCards_122
      · have hk := hk.2 q
        refine lv_iload hx hb dX1_drawCards_64 (lv_at hl 3 rfl) ?_
        refine r_calli Z (r_runSN (As := [.int x4]) (rest := []) C Z (m_X8_nextLot l g h x4 _ hk) ⟨va_cnB 1 C.1.2.2.2.2 (gW tw_515) rfl rfl rfl (C.2.2.1.2.1 ("SmudgeTally$Clerk", 111, yX8_nextLot) (by decide +kernel)) (hts _ tw_57) (by decide +kernel) ⟨Nat.le_of_ble_eq_true rfl, Nat.le_of_ble_eq_true rfl⟩, (hts _ tw_514), trivial⟩ rfl hl.1 rfl (Nat.le_of_ble_eq_true rfl) dX1_drawCards_66 ⟨Nat.zero_le _, Nat.zero_le _⟩) (fun r66 h66 H locs hk Z => ?_)
        refine lv_istore (lv' := [(4, .int r66), (0, .ref x0), (2, .int x2), (3, .int x3), (5, .int x5)]) hx hb dX1_drawCards_69 hl (by decide) rfl (fun ls hl => ?_)
        refine lv_aload_n hx hb dX1_drawCards_71 rfl (lv_at hl 1 rfl) ?_
        obtain ⟨v72, hv, hk⟩ := hk
        refine r_get (ci := 1) (k := 0) (T := TX1) (N := 2) C Z hv ku_1 rfl (by decide) tw_219 dX1_drawCards_72 ?_
        refine lv_iload hx hb dX1_drawCards_75 (lv_at hl 0 rfl) ?_
        refine lv_iload hx hb dX1_drawCards_77 (lv_at hl 4 rfl) ?_
        obtain ⟨hz, hk⟩ := hk
        refine lv_irem hx hb dX1_drawCards_79 hz ?_
        obtain ⟨ho, hk⟩ := hk
        refine r_calli Z (r_runV (As := [.int (r66 - r66 / x5 * x5)]) (rest := []) C Z (m_X4_poolCard l g h66 v72 (r66 - r66 / x5 * x5) _ hk) ho rfl (cwV 1 C.1.2.2.2.2 (gV tw_517 tw_518 tw_519 tw_59 tw_520) rfl rfl rfl (by decide +kernel) ⟨Nat.le_of_ble_eq_true rfl, Nat.le_of_ble_eq_true rfl⟩) rfl hl.1 rfl (Nat.le_of_ble_eq_true rfl) dX1_drawCards_80 ⟨Nat.zero_le _, Nat.zero_le _⟩) (fun r80 h80 H locs hk Z => ?_)
        refine lv_istore (lv' := [(6, .int r80), (4, .int r66), (0, .ref x0), (2, .int x2), (3, .int x3), (5, .int x5)]) hx hb dX1_drawCards_83 hl (by decide) rfl (fun ls hl => ?_)
        refine lv_aload_n hx hb dX1_drawCards_85 rfl (lv_at hl 2 rfl) ?_
        obtain ⟨v86, hv, hk⟩ := hk
        refine r_get (ci := 1) (k := 1) (T := TX1) (N := 2) C Z hv ku_1 rfl (by decide) tw_221 dX1_drawCards_86 ?_
        refine lv_iload hx hb dX1_drawCards_89 (lv_at hl 0 rfl) ?_
        obtain ⟨ho, hk⟩ := hk
        refine r_calli Z (r_runV (As := [.int r80]) (rest := []) C Z (m_X0_hasCard l g h80 v86 r80 _ hk) ho rfl (cwV 1 C.1.2.2.2.2 (gV tw_521 tw_522 tw_523 tw_60 tw_524) rfl rfl rfl (by decide +kernel) ⟨Nat.le_of_ble_eq_true rfl, Nat.le_of_ble_eq_true rfl⟩) rfl hl.1 rfl (Nat.le_of_ble_eq_true rfl) dX1_drawCards_91 ⟨Nat.zero_le _, Nat.zero_le _⟩) (fun r91 h91 H locs hk Z => ?_)
        refine lv_if_eq (tgt := 108) hx hb dX1_drawCards_94 (by decide) (fun q => ?_) (fun q => ?_)
        · have hk := hk.1 q
          obtain ⟨y108, ey108⟩ : ∃ y : Int32, y = x5 + (-1 : Int32) := ⟨_, rfl⟩
          have hk := hk y108 ey108
          refine lv_iinc (v := y108) (lv' := [(5, .int y108), (6, .int r80), (4, .int r66), (0, .ref x0), (2, .int x2), (3, .int x3)]) hx hb dX1_drawCards_108 hl (k := 5) rfl (by rw [ey108]; rfl) (by decide) rfl (fun ls hl => ?_)
          refine lv_goto (tgt := 51) hx hb dX1_drawCards_111 (by decide) ?_
          exact ih r66 y108 h91 _ _ _ (lv_sub hl [3, 4, 5, 2, 0] rfl) Z hk
        · have hk := hk.2 q
          refine lv_aload_n hx hb dX1_drawCards_97 rfl (lv_at hl 2 rfl) ?_
          obtain ⟨v98, hv, hk⟩ := hk
          refine r_get (ci := 1) (k := 1) (T := TX1) (N := 2) C Z hv ku_1 rfl (by decide) tw_221 dX1_drawCards_98 ?_
          obtain ⟨v101, hv, hk⟩ := hk
          refine r_get (ci := 0) (k := 4) (T := TX0) (N := 11) C Z hv ku_0 rfl (by decide) tw_116 dX1_drawCards_101 ?_
          refine lv_iload hx hb dX1_drawCards_104 (lv_at hl 0 rfl) ?_
          refine lv_iconst (v := (nI 1)) hx hb dX1_drawCards_106 (by decide) ?_
          obtain ⟨h107, hv, hk⟩ := hk
          refine r_iast C Z hv dX1_drawCards_107 (fun H locs Z => ?_)
          obtain ⟨y108, ey108⟩ : ∃ y : Int32, y = x5 + (-1 : Int32) := ⟨_, rfl⟩
          have hk := hk y108 ey108
          refine lv_iinc (v := y108) (lv' := [(5, .int y108), (6, .int r80), (4, .int r66), (0, .ref x0), (2, .int x2), (3, .int x3)]) hx hb dX1_drawCards_108 hl (k := 5) rfl (by rw [ey108]; rfl) (by decide) rfl (fun ls hl => ?_)
          refine lv_goto (tgt := 51) hx hb dX1_drawCards_111 (by decide) ?_
          exact ih r66 y108 h107 _ _ _ (lv_sub hl [3, 4, 5, 2, 0] rfl) Z hk
set_option maxRecDepth 100000 in
set_option maxHeartbeats 4000000 in
theorem m_X1_drawCards (l : Launch) (g : Gt) (h : Hp) (x0 : Nat) (x1 : Int32) (x2 : Int32) (Post : Int32 → Hp → Prop) (hk : wp_X1_drawCards x0 x1 x2 Post h) : Met l yX1_drawCards wzX1_drawCards rmX1_drawCards (Pg g h [.ref x0, .int x1, .int x2]) (Qi g h Post) 0 0 (dm h) := by
  refine Met_of (cc := cX1_drawCards) (maxL := 7) (ret := (some .int)) (by decide) (Nat.le_of_ble_eq_true rfl) (fun p e s m below meth c ls C hr hnm hl Z => ?_)
  have hx := C.1.1
  have hb := C.1.2.1
  have hml := C.1.2.2.1
  have hown := C.1.2.2.2.1
  have hts := C.1.2.2.2.2
  have hl : lv_has ls 7 [(0, .ref x0), (1, .int x1), (2, .int x2)] := hl
  unfold wp_X1_drawCards at hk
  generalize s.heap = H at Z ⊢
  generalize ([] : List Loc) = locs at Z ⊢
  refine lv_iload_n hx hb dX1_drawCards_0 rfl (lv_at hl 1 rfl) ?_
  refine lv_iconst (v := (nI 0)) hx hb dX1_drawCards_1 (by decide) ?_
  refine lv_ldc (v := (nI 65536)) hx hb hown (hts _ tw_500) dX1_drawCards_2 ?_
  refine r_calli Z (r_runSN (As := [.int x1, .int (nI 0), .int (nI 65536)]) (rest := []) C Z (m_X8_within l g h x1 (nI 0) (nI 65536) _ hk) ⟨va_cnB 3 C.1.2.2.2.2 (gW tw_382) rfl rfl rfl (C.2.2.1.2.1 ("SmudgeTally$Clerk", 42, yX8_within) (by decide +kernel)) (hts _ tw_57) (by decide +kernel) ⟨Nat.le_of_ble_eq_true rfl, Nat.le_of_ble_eq_true rfl⟩, (hts _ tw_381), trivial⟩ rfl hl.1 rfl (Nat.le_of_ble_eq_true rfl) dX1_drawCards_4 ⟨Nat.zero_le _, Nat.zero_le _⟩) (fun r4 h4 H locs hk Z => ?_)
  refine lv_if_eq (tgt := 20) hx hb dX1_drawCards_7 (by decide) (fun q => ?_) (fun q => ?_)
  · have hk := hk.1 q
    refine lv_iconst (v := (-1 : Int32)) hx hb dX1_drawCards_20 (by decide) ?_
    exact r_iret C Z hr hk dX1_drawCards_21
  · have hk := hk.2 q
    refine lv_iload_n hx hb dX1_drawCards_10 rfl (lv_at hl 2 rfl) ?_
    refine lv_iconst (v := (nI 1)) hx hb dX1_drawCards_11 (by decide) ?_
    refine lv_bipush (v := (nI 40)) hx hb dX1_drawCards_12 (by decide) ?_
    refine r_calli Z (r_runSN (As := [.int x2, .int (nI 1), .int (nI 40)]) (rest := []) C Z (m_X8_within l g h4 x2 (nI 1) (nI 40) _ hk) ⟨va_cnB 3 C.1.2.2.2.2 (gW tw_382) rfl rfl rfl (C.2.2.1.2.1 ("SmudgeTally$Clerk", 42, yX8_within) (by decide +kernel)) (hts _ tw_57) (by decide +kernel) ⟨Nat.le_of_ble_eq_true rfl, Nat.le_of_ble_eq_true rfl⟩, (hts _ tw_381), trivial⟩ rfl hl.1 rfl (Nat.le_of_ble_eq_true rfl) dX1_drawCards_14 ⟨Nat.zero_le _, Nat.zero_le _⟩) (fun r14 h14 H locs hk Z => ?_)
    refine lv_if_ne (tgt := 22) hx hb dX1_drawCards_17 (by decide) (fun q => ?_) (fun q => ?_)
    · have hk := hk.1 q
      refine lv_aload_n hx hb dX1_drawCards_22 rfl (lv_at hl 0 rfl) ?_
      obtain ⟨v23, hv, hk⟩ := hk
      refine r_get (ci := 1) (k := 0) (T := TX1) (N := 2) C Z hv ku_1 rfl (by decide) tw_219 dX1_drawCards_23 ?_
      obtain ⟨ho, hk⟩ := hk
      refine r_callv Z (r_runV (As := []) (rest := []) C Z (m_X4_workOut l g h14 v23 _ hk) ho rfl (cwV 0 C.1.2.2.2.2 (gV tw_427 tw_428 tw_429 tw_59 tw_430) rfl rfl rfl (by decide +kernel) ⟨Nat.le_of_ble_eq_true rfl, Nat.le_of_ble_eq_true rfl⟩) rfl hl.1 rfl (Nat.le_of_ble_eq_true rfl) dX1_drawCards_26 ⟨Nat.zero_le _, Nat.zero_le _⟩) (fun h26 H locs hk Z => ?_)
      refine lv_aload_n hx hb dX1_drawCards_29 rfl (lv_at hl 0 rfl) ?_
      obtain ⟨v30, hv, hk⟩ := hk
      refine r_get (ci := 1) (k := 0) (T := TX1) (N := 2) C Z hv ku_1 rfl (by decide) tw_219 dX1_drawCards_30 ?_
      obtain ⟨ho, hk⟩ := hk
      refine r_calli Z (r_runV (As := []) (rest := []) C Z (m_X4_poolSize l g h26 v30 _ hk) ho rfl (cwV 0 C.1.2.2.2.2 (gV tw_501 tw_502 tw_503 tw_59 tw_504) rfl rfl rfl (by decide +kernel) ⟨Nat.le_of_ble_eq_true rfl, Nat.le_of_ble_eq_true rfl⟩) rfl hl.1 rfl (Nat.le_of_ble_eq_true rfl) dX1_drawCards_33 ⟨Nat.zero_le _, Nat.zero_le _⟩) (fun r33 h33 H locs hk Z => ?_)
      refine lv_istore_n (lv' := [(3, .int r33), (0, .ref x0), (1, .int x1), (2, .int x2)]) hx hb dX1_drawCards_36 rfl hl (by decide) rfl (fun ls hl => ?_)
      refine lv_iload_n hx hb dX1_drawCards_37 rfl (lv_at hl 0 rfl) ?_
      refine lv_iload_n hx hb dX1_drawCards_38 rfl (lv_at hl 3 rfl) ?_
      refine lv_icmp_ge (tgt := 45) hx hb dX1_drawCards_39 (by decide) (fun q => ?_) (fun q => ?_)
      · have hk := hk.1 q
        refine lv_iload_n hx hb dX1_drawCards_45 rfl (lv_at hl 2 rfl) ?_
        refine lv_istore (lv' := [(4, .int x1), (3, .int r33), (0, .ref x0), (1, .int x1), (2, .int x2)]) hx hb dX1_drawCards_46 hl (by decide) rfl (fun ls hl => ?_)
        refine lv_iload_n hx hb dX1_drawCards_48 rfl (lv_at hl 1 rfl) ?_
        refine lv_istore (lv' := [(5, .int r33), (4, .int x1), (3, .int r33), (0, .ref x0), (1, .int x1), (2, .int x2)]) hx hb dX1_drawCards_49 hl (by decide) rfl (fun ls hl => ?_)
        obtain ⟨n1, hk⟩ := hk
        exact w_X1_drawCards_51 C hr x0 x2 r33 n1 x1 r33 h33 _ _ _ (lv_sub hl [3, 5, 2, 1, 0] rfl) Z hk
      · have hk := hk.2 q
        refine lv_bipush (v := (-2 : Int32)) hx hb dX1_drawCards_42 (by decide) ?_
        exact r_iret C Z hr hk dX1_drawCards_44
    · have hk := hk.2 q
      refine lv_iconst (v := (-1 : Int32)) hx hb dX1_drawCards_20 (by decide) ?_
      exact r_iret C Z hr hk dX1_drawCards_21
abbrev rmX8_draw : Room := ({ frames := 5, cells := 0, slots := 0, locals := 127 } : Room)
abbrev wzX8_draw : List Cond := WS yX8_draw cX8_draw 3 (some .int)
set_option maxRecDepth 100000 in
set_option maxHeartbeats 4000000 in
theorem m_X8_draw (l : Launch) (g : Gt) (h : Hp) (x0 : Nat) (x1 : Int32) (x2 : Int32) (Post : Int32 → Hp → Prop) (hk : wp_X8_draw x0 x1 x2 Post h) : Met l yX8_draw wzX8_draw rmX8_draw (Pg g h [.ref x0, .int x1, .int x2]) (Qi g h Post) 0 0 (dm h) := by
  refine Met_of (cc := cX8_draw) (maxL := 3) (ret := (some .int)) (by decide) (Nat.le_of_ble_eq_true rfl) (fun p e s m below meth c ls C hr hnm hl Z => ?_)
  have hx := C.1.1
  have hb := C.1.2.1
  have hml := C.1.2.2.1
  have hown := C.1.2.2.2.1
  have hts := C.1.2.2.2.2
  have hl : lv_has ls 3 [(0, .ref x0), (1, .int x1), (2, .int x2)] := hl
  unfold wp_X8_draw at hk
  generalize s.heap = H at Z ⊢
  generalize ([] : List Loc) = locs at Z ⊢
  refine lv_aload_n hx hb dX8_draw_0 rfl (lv_at hl 0 rfl) ?_
  obtain ⟨v1, hv, hk⟩ := hk
  refine r_get (ci := 8) (k := 4) (T := TX8) (N := 6) C Z hv ku_8 rfl (by decide) tw_337 dX8_draw_1 ?_
  refine lv_aload_n hx hb dX8_draw_4 rfl (lv_at hl 0 rfl) ?_
  obtain ⟨v5, hv, hk⟩ := hk
  refine r_get (ci := 8) (k := 2) (T := TX8) (N := 6) C Z hv ku_8 rfl (by decide) tw_335 dX8_draw_5 ?_
  refine lv_aload_n hx hb dX8_draw_8 rfl (lv_at hl 0 rfl) ?_
  obtain ⟨v9, hv, hk⟩ := hk
  refine r_get (ci := 8) (k := 3) (T := TX8) (N := 6) C Z hv ku_8 rfl (by decide) tw_336 dX8_draw_9 ?_
  obtain ⟨ho, hk⟩ := hk
  refine r_callv Z (r_runV (As := [.ref v5, .ref v9]) (rest := []) C Z (m_X2_prepare l g h v1 v5 v9 _ hk) ho rfl (cwV 2 C.1.2.2.2.2 (gV tw_356 tw_357 tw_358 tw_62 tw_359) rfl rfl rfl (by decide +kernel) ⟨Nat.le_of_ble_eq_true rfl, Nat.le_of_ble_eq_true rfl⟩) rfl hl.1 rfl (Nat.le_of_ble_eq_true rfl) dX8_draw_12 ⟨Nat.zero_le _, Nat.zero_le _⟩) (fun h12 H locs hk Z => ?_)
  refine lv_aload_n hx hb dX8_draw_15 rfl (lv_at hl 0 rfl) ?_
  refine lv_aload_n hx hb dX8_draw_16 rfl (lv_at hl 0 rfl) ?_
  obtain ⟨v17, hv, hk⟩ := hk
  refine r_get (ci := 8) (k := 0) (T := TX8) (N := 6) C Z hv ku_8 rfl (by decide) tw_333 dX8_draw_17 ?_
  refine lv_iload_n hx hb dX8_draw_20 rfl (lv_at hl 1 rfl) ?_
  refine lv_iload_n hx hb dX8_draw_21 rfl (lv_at hl 2 rfl) ?_
  obtain ⟨ho, hk⟩ := hk
  refine r_calli Z (r_runV (As := [.int x1, .int x2]) (rest := [.ref x0]) C Z (m_X1_drawCards l g h12 v17 x1 x2 _ hk) ho rfl (cwV 2 C.1.2.2.2.2 (gV tw_496 tw_497 tw_498 tw_58 tw_499) rfl rfl rfl (by decide +kernel) ⟨Nat.le_of_ble_eq_true rfl, Nat.le_of_ble_eq_true rfl⟩) rfl hl.1 rfl (Nat.le_of_ble_eq_true rfl) dX8_draw_22 ⟨Nat.zero_le _, Nat.zero_le _⟩) (fun r22 h22 H locs hk Z => ?_)
  obtain ⟨ho, hk⟩ := hk
  refine r_calli Z (r_runV (As := [.int r22]) (rest := []) C Z (m_X8_recordIfDone l g h22 x0 r22 _ hk) ho rfl (cwV 1 C.1.2.2.2.2 (gV tw_387 tw_389 tw_0 tw_57 tw_390) rfl rfl rfl (by decide +kernel) ⟨Nat.le_of_ble_eq_true rfl, Nat.le_of_ble_eq_true rfl⟩) rfl hl.1 rfl (Nat.le_of_ble_eq_true rfl) dX8_draw_25 ⟨Nat.zero_le _, Nat.zero_le _⟩) (fun r25 h25 H locs hk Z => ?_)
  exact r_iret C Z hr hk dX8_draw_28
abbrev rmX8_outcomeOf : Room := ({ frames := 0, cells := 0, slots := 0, locals := 0 } : Room)
abbrev wzX8_outcomeOf : List Cond := WS yX8_outcomeOf cX8_outcomeOf 2 (some .int)
set_option maxRecDepth 100000 in
set_option maxHeartbeats 4000000 in
theorem m_X8_outcomeOf (l : Launch) (g : Gt) (h : Hp) (x0 : Int32) (x1 : Int32) (Post : Int32 → Hp → Prop) (hk : wp_X8_outcomeOf x0 x1 Post h) : Met l yX8_outcomeOf wzX8_outcomeOf rmX8_outcomeOf (Pg g h [.int x0, .int x1]) (Qi g h Post) 0 0 (dm h) := by
  refine Met_of (cc := cX8_outcomeOf) (maxL := 2) (ret := (some .int)) (by decide) (Nat.le_of_ble_eq_true rfl) (fun p e s m below meth c ls C hr hnm hl Z => ?_)
  have hx := C.1.1
  have hb := C.1.2.1
  have hml := C.1.2.2.1
  have hown := C.1.2.2.2.1
  have hts := C.1.2.2.2.2
  have hl : lv_has ls 2 [(0, .int x0), (1, .int x1)] := hl
  unfold wp_X8_outcomeOf at hk
  generalize s.heap = H at Z ⊢
  generalize ([] : List Loc) = locs at Z ⊢
  refine lv_iload_n hx hb dX8_outcomeOf_0 rfl (lv_at hl 0 rfl) ?_
  refine lv_iconst (v := (nI 3)) hx hb dX8_outcomeOf_1 (by decide) ?_
  refine lv_iload_n hx hb dX8_outcomeOf_2 rfl (lv_at hl 1 rfl) ?_
  refine lv_imul hx hb dX8_outcomeOf_3 ?_
  refine lv_ishr hx hb dX8_outcomeOf_4 ?_
  refine lv_bipush (v := (nI 7)) hx hb dX8_outcomeOf_5 (by decide) ?_
  refine lv_iand hx hb dX8_outcomeOf_7 ?_
  exact r_iret C Z hr hk dX8_outcomeOf_8
abbrev rmX8_differingContests : Room := ({ frames := 1, cells := 0, slots := 0, locals := 21 } : Room)
abbrev wzX8_differingContests : List Cond := WS yX8_differingContests cX8_differingContests 4 (some .int)
set_option maxRecDepth 100000 in
set_option maxHeartbeats 4000000 in
theorem w_X8_differingContests_4 {p : Program} {l : Launch} {e : Env} {s : State} {m : MethodId} {args : Array Value} {below : List Frame} {meth : Method} {c : Code} {g : Gt} {h0 : Hp} (C : Cx g (dm h0) RX8 cX8_differingContests 4 p s m args meth c) (hr : meth.sig.returnType = (some .int)) {Post : Int32 → Hp → Prop} (x0 : Int32) (x1 : Int32)   : ∀ (n : Nat) (x2 : Int32) (x3 : Int32) (h : Hp) (H : Heap) (locs : List Loc) (ls : Array Slot), lv_has ls 4 [(0, .int x0), (1, .int x1), (2, .int x2), (3, .int x3)] → St g (dm h0) s h H locs → wp_X8_differingContests_4 Post x0 x1 n x2 x3 h → W p l e rmX8_differingContests s m args below meth c H locs 0 0 (MQ below (Qi g h0 Post) args s 0 0 (dm h0)) (F0 m 4 ls []) := by
  have hx := C.1.1
  have hb := C.1.2.1
  have hml := C.1.2.2.1
  have hown := C.1.2.2.2.1
  have hts := C.1.2.2.2.2
  intro n
  induction n with
  | zero => intro x2 x3 h H locs ls hl Z hk; exact (show False from hk).elim
  | succ n ih =>
    intro x2 x3 h H locs ls hl Z hk
    unfold wp_X8_differingContests_4 at hk
    refine lv_iload_n hx hb dX8_differingContests_4 rfl (lv_at hl 3 rfl) ?_
    refine lv_iconst (v := (nI 4)) hx hb dX8_differingContests_5 (by decide) ?_
    refine lv_icmp_ge (tgt := 34) hx hb dX8_differingContests_6 (by decide) (fun q => ?_) (fun q => ?_)
    · have hk := hk.1 q
      refine lv_iload_n hx hb dX8_differingContests_34 rfl (lv_at hl 2 rfl) ?_
      exact r_iret C Z hr hk dX8_differingContests_35
    · have hk := hk.2 q
      refine lv_iload_n hx hb dX8_differingContests_9 rfl (lv_at hl 0 rfl) ?_
      refine lv_iload_n hx hb dX8_differingContests_10 rfl (lv_at hl 3 rfl) ?_
      refine r_calli Z (r_runS (As := [.int x0, .int x3]) (rest := []) C Z (m_X8_outcomeOf l g h x0 x3 _ hk) (va_cwS 2 C.1.2.2.2.2 (gS tw_540 tw_541 tw_57 tw_542) rfl rfl rfl (by decide +kernel) ⟨Nat.le_of_ble_eq_true rfl, Nat.le_of_ble_eq_true rfl⟩) rfl hl.1 rfl (Nat.le_of_ble_eq_true rfl) dX8_differingContests_11 ⟨Nat.zero_le _, Nat.zero_le _⟩) (fun r11 h11 H locs hk Z => ?_)
      refine lv_iload_n hx hb dX8_differingContests_14 rfl (lv_at hl 1 rfl) ?_
      refine lv_iload_n hx hb dX8_differingContests_15 rfl (lv_at hl 3 rfl) ?_
      refine r_calli Z (r_runS (As := [.int x1, .int x3]) (rest := [.int r11]) C Z (m_X8_outcomeOf l g h11 x1 x3 _ hk) (va_cwS 2 C.1.2.2.2.2 (gS tw_540 tw_541 tw_57 tw_542) rfl rfl rfl (by decide +kernel) ⟨Nat.le_of_ble_eq_true rfl, Nat.le_of_ble_eq_true rfl⟩) rfl hl.1 rfl (Nat.le_of_ble_eq_true rfl) dX8_differingContests_16 ⟨Nat.zero_le _, Nat.zero_le _⟩) (fun r16 h16 H locs hk Z => ?_)
      refine lv_icmp_eq (tgt := 28) hx hb dX8_differingContests_19 (by decide) (fun q => ?_) (fun q => ?_)
      · have hk := hk.1 q
        obtain ⟨y28, ey28⟩ : ∃ y : Int32, y = x3 + (nI 1) := ⟨_, rfl⟩
        have hk := hk y28 ey28
        refine lv_iinc (v := y28) (lv' := [(3, .int y28), (0, .int x0), (1, .int x1), (2, .int x2)]) hx hb dX8_differingContests_28 hl (k := 3) rfl (by rw [ey28]; rfl) (by decide) rfl (fun ls hl => ?_)
        refine lv_goto (tgt := 4) hx hb dX8_differingContests_31 (by decide) ?_
        exact ih x2 y28 h16 _ _ _ (lv_sub hl [1, 2, 3, 0] rfl) Z hk
      · have hk := hk.2 q
        refine lv_iload_n hx hb dX8_differingContests_22 rfl (lv_at hl 2 rfl) ?_
        refine lv_iconst (v := (nI 1)) hx hb dX8_differingContests_23 (by decide) ?_
        refine lv_iload_n hx hb dX8_differingContests_24 rfl (lv_at hl 3 rfl) ?_
        refine lv_ishl hx hb dX8_differingContests_25 ?_
        refine lv_ior hx hb dX8_differingContests_26 ?_
        refine lv_topi (fun y27 ey27 => ?_)
        have hk := hk y27 ey27
        refine lv_istore_n (lv' := [(2, .int y27), (0, .int x0), (1, .int x1), (3, .int x3)]) hx hb dX8_differingContests_27 rfl hl (by decide) rfl (fun ls hl => ?_)
        obtain ⟨y28, ey28⟩ : ∃ y : Int32, y = x3 + (nI 1) := ⟨_, rfl⟩
        have hk := hk y28 ey28
        refine lv_iinc (v := y28) (lv' := [(3, .int y28), (2, .int y27), (0, .int x0), (1, .int x1)]) hx hb dX8_differingContests_28 hl (k := 3) rfl (by rw [ey28]; rfl) (by decide) rfl (fun ls hl => ?_)
        refine lv_goto (tgt := 4) hx hb dX8_differingContests_31 (by decide) ?_
        exact ih y27 y28 h16 _ _ _ (lv_sub hl [2, 3, 1, 0] rfl) Z hk
set_option maxRecDepth 100000 in
set_option maxHeartbeats 4000000 in
theorem m_X8_differingContests (l : Launch) (g : Gt) (h : Hp) (x0 : Int32) (x1 : Int32) (Post : Int32 → Hp → Prop) (hk : wp_X8_differingContests x0 x1 Post h) : Met l yX8_differingContests wzX8_differingContests rmX8_differingContests (Pg g h [.int x0, .int x1]) (Qi g h Post) 0 0 (dm h) := by
  refine Met_of (cc := cX8_differingContests) (maxL := 4) (ret := (some .int)) (by decide) (Nat.le_of_ble_eq_true rfl) (fun p e s m below meth c ls C hr hnm hl Z => ?_)
  have hx := C.1.1
  have hb := C.1.2.1
  have hml := C.1.2.2.1
  have hown := C.1.2.2.2.1
  have hts := C.1.2.2.2.2
  have hl : lv_has ls 4 [(0, .int x0), (1, .int x1)] := hl
  unfold wp_X8_differingContests at hk
  generalize s.heap = H at Z ⊢
  generalize ([] : List Loc) = locs at Z ⊢
  refine lv_iconst (v := (nI 0)) hx hb dX8_differingContests_0 (by decide) ?_
  refine lv_istore_n (lv' := [(2, .int (nI 0)), (0, .int x0), (1, .int x1)]) hx hb dX8_differingContests_1 rfl hl (by decide) rfl (fun ls hl => ?_)
  refine lv_iconst (v := (nI 0)) hx hb dX8_differingContests_2 (by decide) ?_
  refine lv_istore_n (lv' := [(3, .int (nI 0)), (2, .int (nI 0)), (0, .int x0), (1, .int x1)]) hx hb dX8_differingContests_3 rfl hl (by decide) rfl (fun ls hl => ?_)
  obtain ⟨n1, hk⟩ := hk
  exact w_X8_differingContests_4 C hr x0 x1 n1 (nI 0) (nI 0) h _ _ _ (lv_sub hl [2, 3, 1, 0] rfl) Z hk
abbrev rmX1_lookAt : Room := ({ frames := 4, cells := 0, slots := 0, locals := 88 } : Room)
abbrev wzX1_lookAt : List Cond := WS yX1_lookAt cX1_lookAt 5 (some .int)
set_option maxRecDepth 100000 in
set_option maxHeartbeats 4000000 in
theorem m_X1_lookAt (l : Launch) (g : Gt) (h : Hp) (x0 : Nat) (x1 : Int32) (x2 : Int64) (Post : Int32 → Hp → Prop) (hk : wp_X1_lookAt x0 x1 x2 Post h) : Met l yX1_lookAt wzX1_lookAt rmX1_lookAt (Pg g h [.ref x0, .int x1, .long x2]) (Qi g h Post) 0 0 (dm h) := by
  refine Met_of (cc := cX1_lookAt) (maxL := 5) (ret := (some .int)) (by decide) (Nat.le_of_ble_eq_true rfl) (fun p e s m below meth c ls C hr hnm hl Z => ?_)
  have hx := C.1.1
  have hb := C.1.2.1
  have hml := C.1.2.2.1
  have hown := C.1.2.2.2.1
  have hts := C.1.2.2.2.2
  have hl : lv_has ls 5 [(0, .ref x0), (1, .int x1), (2, .long x2)] := hl
  unfold wp_X1_lookAt at hk
  generalize s.heap = H at Z ⊢
  generalize ([] : List Loc) = locs at Z ⊢
  refine lv_aload_n hx hb dX1_lookAt_0 rfl (lv_at hl 0 rfl) ?_
  obtain ⟨v1, hv, hk⟩ := hk
  refine r_get (ci := 1) (k := 1) (T := TX1) (N := 2) C Z hv ku_1 rfl (by decide) tw_221 dX1_lookAt_1 ?_
  refine lv_iload_n hx hb dX1_lookAt_4 rfl (lv_at hl 1 rfl) ?_
  obtain ⟨ho, hk⟩ := hk
  refine r_calli Z (r_runV (As := [.int x1]) (rest := []) C Z (m_X0_hasCard l g h v1 x1 _ hk) ho rfl (cwV 1 C.1.2.2.2.2 (gV tw_521 tw_522 tw_523 tw_60 tw_524) rfl rfl rfl (by decide +kernel) ⟨Nat.le_of_ble_eq_true rfl, Nat.le_of_ble_eq_true rfl⟩) rfl hl.1 rfl (Nat.le_of_ble_eq_true rfl) dX1_lookAt_5 ⟨Nat.zero_le _, Nat.zero_le _⟩) (fun r5 h5 H locs hk Z => ?_)
  refine lv_if_eq (tgt := 18) hx hb dX1_lookAt_8 (by decide) (fun q => ?_) (fun q => ?_)
  · have hk := hk.1 q
    refine lv_iconst (v := (-1 : Int32)) hx hb dX1_lookAt_18 (by decide) ?_
    exact r_iret C Z hr hk dX1_lookAt_19
  · have hk := hk.2 q
    refine lv_lload_n hx hb dX1_lookAt_11 rfl (lv_at hl 2 rfl) ?_
    refine r_calli Z (r_runSN (As := [.long x2]) (rest := []) C Z (m_X8_isRow l g h5 x2 _ hk) ⟨va_cnB 1 C.1.2.2.2.2 (gW tw_385) rfl rfl rfl (C.2.2.1.2.1 ("SmudgeTally$Clerk", 46, yX8_isRow) (by decide +kernel)) (hts _ tw_57) (by decide +kernel) ⟨Nat.le_of_ble_eq_true rfl, Nat.le_of_ble_eq_true rfl⟩, (hts _ tw_384), trivial⟩ rfl hl.1 rfl (Nat.le_of_ble_eq_true rfl) dX1_lookAt_12 ⟨Nat.zero_le _, Nat.zero_le _⟩) (fun r12 h12 H locs hk Z => ?_)
    refine lv_if_ne (tgt := 20) hx hb dX1_lookAt_15 (by decide) (fun q => ?_) (fun q => ?_)
    · have hk := hk.1 q
      refine lv_aload_n hx hb dX1_lookAt_20 rfl (lv_at hl 0 rfl) ?_
      obtain ⟨v21, hv, hk⟩ := hk
      refine r_get (ci := 1) (k := 1) (T := TX1) (N := 2) C Z hv ku_1 rfl (by decide) tw_221 dX1_lookAt_21 ?_
      obtain ⟨v24, hv, hk⟩ := hk
      refine r_get (ci := 0) (k := 4) (T := TX0) (N := 11) C Z hv ku_0 rfl (by decide) tw_116 dX1_lookAt_24 ?_
      refine lv_iload_n hx hb dX1_lookAt_27 rfl (lv_at hl 1 rfl) ?_
      obtain ⟨v28, hv, hk⟩ := hk
      refine r_iald C Z hv dX1_lookAt_28 ?_
      refine lv_iconst (v := (nI 1)) hx hb dX1_lookAt_29 (by decide) ?_
      refine lv_icmp_eq (tgt := 36) hx hb dX1_lookAt_30 (by decide) (fun q => ?_) (fun q => ?_)
      · have hk := hk.1 q
        refine lv_aload_n hx hb dX1_lookAt_36 rfl (lv_at hl 0 rfl) ?_
        obtain ⟨v37, hv, hk⟩ := hk
        refine r_get (ci := 1) (k := 0) (T := TX1) (N := 2) C Z hv ku_1 rfl (by decide) tw_219 dX1_lookAt_37 ?_
        obtain ⟨ho, hk⟩ := hk
        refine r_callv Z (r_runV (As := []) (rest := []) C Z (m_X4_workOut l g h12 v37 _ hk) ho rfl (cwV 0 C.1.2.2.2.2 (gV tw_427 tw_428 tw_429 tw_59 tw_430) rfl rfl rfl (by decide +kernel) ⟨Nat.le_of_ble_eq_true rfl, Nat.le_of_ble_eq_true rfl⟩) rfl hl.1 rfl (Nat.le_of_ble_eq_true rfl) dX1_lookAt_40 ⟨Nat.zero_le _, Nat.zero_le _⟩) (fun h40 H locs hk Z => ?_)
        refine lv_aload_n hx hb dX1_lookAt_43 rfl (lv_at hl 0 rfl) ?_
        obtain ⟨v44, hv, hk⟩ := hk
        refine r_get (ci := 1) (k := 0) (T := TX1) (N := 2) C Z hv ku_1 rfl (by decide) tw_219 dX1_lookAt_44 ?_
        obtain ⟨v47, hv, hk⟩ := hk
        refine r_get (ci := 4) (k := 11) (T := TX4) (N := 15) C Z hv ku_4 rfl (by decide) tw_182 dX1_lookAt_47 ?_
        refine lv_iload_n hx hb dX1_lookAt_50 rfl (lv_at hl 1 rfl) ?_
        obtain ⟨v51, hv, hk⟩ := hk
        refine r_iald C Z hv dX1_lookAt_51 ?_
        refine lv_istore (lv' := [(4, .int v51), (0, .ref x0), (1, .int x1), (2, .long x2)]) hx hb dX1_lookAt_52 hl (by decide) rfl (fun ls hl => ?_)
        refine lv_aload_n hx hb dX1_lookAt_54 rfl (lv_at hl 1 rfl) ?_
        obtain ⟨v55, hv, hk⟩ := hk
        refine r_get (ci := 1) (k := 1) (T := TX1) (N := 2) C Z hv ku_1 rfl (by decide) tw_221 dX1_lookAt_55 ?_
        obtain ⟨v58, hv, hk⟩ := hk
        refine r_get (ci := 0) (k := 4) (T := TX0) (N := 11) C Z hv ku_0 rfl (by decide) tw_116 dX1_lookAt_58 ?_
        refine lv_iload_n hx hb dX1_lookAt_61 rfl (lv_at hl 2 rfl) ?_
        refine lv_iconst (v := (nI 2)) hx hb dX1_lookAt_62 (by decide) ?_
        obtain ⟨h63, hv, hk⟩ := hk
        refine r_iast C Z hv dX1_lookAt_63 (fun H locs Z => ?_)
        refine lv_aload_n hx hb dX1_lookAt_64 rfl (lv_at hl 1 rfl) ?_
        obtain ⟨v65, hv, hk⟩ := hk
        refine r_get (ci := 1) (k := 1) (T := TX1) (N := 2) C Z hv ku_1 rfl (by decide) tw_221 dX1_lookAt_65 ?_
        obtain ⟨v68, hv, hk⟩ := hk
        refine r_get (ci := 0) (k := 6) (T := TX0) (N := 11) C Z hv ku_0 rfl (by decide) tw_123 dX1_lookAt_68 ?_
        refine lv_iload_n hx hb dX1_lookAt_71 rfl (lv_at hl 2 rfl) ?_
        refine lv_lload_n hx hb dX1_lookAt_72 rfl (lv_at hl 3 rfl) ?_
        obtain ⟨h73, hv, hk⟩ := hk
        refine r_last C Z hv dX1_lookAt_73 (fun H locs Z => ?_)
        refine lv_aload_n hx hb dX1_lookAt_74 rfl (lv_at hl 1 rfl) ?_
        obtain ⟨v75, hv, hk⟩ := hk
        refine r_get (ci := 1) (k := 0) (T := TX1) (N := 2) C Z hv ku_1 rfl (by decide) tw_219 dX1_lookAt_75 ?_
        obtain ⟨ho, hk⟩ := hk
        refine r_callv Z (r_runV (As := []) (rest := []) C Z (m_X4_workOut l g h73 v75 _ hk) ho rfl (cwV 0 C.1.2.2.2.2 (gV tw_427 tw_428 tw_429 tw_59 tw_430) rfl rfl rfl (by decide +kernel) ⟨Nat.le_of_ble_eq_true rfl, Nat.le_of_ble_eq_true rfl⟩) rfl hl.1 rfl (Nat.le_of_ble_eq_true rfl) dX1_lookAt_78 ⟨Nat.zero_le _, Nat.zero_le _⟩) (fun h78 H locs hk Z => ?_)
        refine lv_iload hx hb dX1_lookAt_81 (lv_at hl 0 rfl) ?_
        refine lv_aload_n hx hb dX1_lookAt_83 rfl (lv_at hl 1 rfl) ?_
        obtain ⟨v84, hv, hk⟩ := hk
        refine r_get (ci := 1) (k := 0) (T := TX1) (N := 2) C Z hv ku_1 rfl (by decide) tw_219 dX1_lookAt_84 ?_
        obtain ⟨v87, hv, hk⟩ := hk
        refine r_get (ci := 4) (k := 11) (T := TX4) (N := 15) C Z hv ku_4 rfl (by decide) tw_182 dX1_lookAt_87 ?_
        refine lv_iload_n hx hb dX1_lookAt_90 rfl (lv_at hl 2 rfl) ?_
        obtain ⟨v91, hv, hk⟩ := hk
        refine r_iald C Z hv dX1_lookAt_91 ?_
        refine r_calli Z (r_runSN (As := [.int v51, .int v91]) (rest := []) C Z (m_X8_differingContests l g h78 v51 v91 _ hk) ⟨va_cnB 2 C.1.2.2.2.2 (gW tw_539) rfl rfl rfl (C.2.2.1.2.1 ("SmudgeTally$Clerk", 124, yX8_differingContests) (by decide +kernel)) (hts _ tw_57) (by decide +kernel) ⟨Nat.le_of_ble_eq_true rfl, Nat.le_of_ble_eq_true rfl⟩, (hts _ tw_538), trivial⟩ rfl hl.1 rfl (Nat.le_of_ble_eq_true rfl) dX1_lookAt_92 ⟨Nat.zero_le _, Nat.zero_le _⟩) (fun r92 h92 H locs hk Z => ?_)
        exact r_iret C Z hr hk dX1_lookAt_95
      · have hk := hk.2 q
        refine lv_bipush (v := (-2 : Int32)) hx hb dX1_lookAt_33 (by decide) ?_
        exact r_iret C Z hr hk dX1_lookAt_35
    · have hk := hk.2 q
      refine lv_iconst (v := (-1 : Int32)) hx hb dX1_lookAt_18 (by decide) ?_
      exact r_iret C Z hr hk dX1_lookAt_19
abbrev rmX8_look : Room := ({ frames := 5, cells := 0, slots := 0, locals := 127 } : Room)
abbrev wzX8_look : List Cond := WS yX8_look cX8_look 4 (some .int)
set_option maxRecDepth 100000 in
set_option maxHeartbeats 4000000 in
theorem m_X8_look (l : Launch) (g : Gt) (h : Hp) (x0 : Nat) (x1 : Int32) (x2 : Int64) (Post : Int32 → Hp → Prop) (hk : wp_X8_look x0 x1 x2 Post h) : Met l yX8_look wzX8_look rmX8_look (Pg g h [.ref x0, .int x1, .long x2]) (Qi g h Post) 0 0 (dm h) := by
  refine Met_of (cc := cX8_look) (maxL := 4) (ret := (some .int)) (by decide) (Nat.le_of_ble_eq_true rfl) (fun p e s m below meth c ls C hr hnm hl Z => ?_)
  have hx := C.1.1
  have hb := C.1.2.1
  have hml := C.1.2.2.1
  have hown := C.1.2.2.2.1
  have hts := C.1.2.2.2.2
  have hl : lv_has ls 4 [(0, .ref x0), (1, .int x1), (2, .long x2)] := hl
  unfold wp_X8_look at hk
  generalize s.heap = H at Z ⊢
  generalize ([] : List Loc) = locs at Z ⊢
  refine lv_aload_n hx hb dX8_look_0 rfl (lv_at hl 0 rfl) ?_
  obtain ⟨v1, hv, hk⟩ := hk
  refine r_get (ci := 8) (k := 4) (T := TX8) (N := 6) C Z hv ku_8 rfl (by decide) tw_337 dX8_look_1 ?_
  refine lv_aload_n hx hb dX8_look_4 rfl (lv_at hl 0 rfl) ?_
  obtain ⟨v5, hv, hk⟩ := hk
  refine r_get (ci := 8) (k := 2) (T := TX8) (N := 6) C Z hv ku_8 rfl (by decide) tw_335 dX8_look_5 ?_
  refine lv_aload_n hx hb dX8_look_8 rfl (lv_at hl 0 rfl) ?_
  obtain ⟨v9, hv, hk⟩ := hk
  refine r_get (ci := 8) (k := 3) (T := TX8) (N := 6) C Z hv ku_8 rfl (by decide) tw_336 dX8_look_9 ?_
  obtain ⟨ho, hk⟩ := hk
  refine r_callv Z (r_runV (As := [.ref v5, .ref v9]) (rest := []) C Z (m_X2_prepare l g h v1 v5 v9 _ hk) ho rfl (cwV 2 C.1.2.2.2.2 (gV tw_356 tw_357 tw_358 tw_62 tw_359) rfl rfl rfl (by decide +kernel) ⟨Nat.le_of_ble_eq_true rfl, Nat.le_of_ble_eq_true rfl⟩) rfl hl.1 rfl (Nat.le_of_ble_eq_true rfl) dX8_look_12 ⟨Nat.zero_le _, Nat.zero_le _⟩) (fun h12 H locs hk Z => ?_)
  refine lv_aload_n hx hb dX8_look_15 rfl (lv_at hl 0 rfl) ?_
  refine lv_aload_n hx hb dX8_look_16 rfl (lv_at hl 0 rfl) ?_
  obtain ⟨v17, hv, hk⟩ := hk
  refine r_get (ci := 8) (k := 0) (T := TX8) (N := 6) C Z hv ku_8 rfl (by decide) tw_333 dX8_look_17 ?_
  refine lv_iload_n hx hb dX8_look_20 rfl (lv_at hl 1 rfl) ?_
  refine lv_lload_n hx hb dX8_look_21 rfl (lv_at hl 2 rfl) ?_
  obtain ⟨ho, hk⟩ := hk
  refine r_calli Z (r_runV (As := [.int x1, .long x2]) (rest := [.ref x0]) C Z (m_X1_lookAt l g h12 v17 x1 x2 _ hk) ho rfl (cwV 2 C.1.2.2.2.2 (gV tw_533 tw_534 tw_535 tw_58 tw_536) rfl rfl rfl (by decide +kernel) ⟨Nat.le_of_ble_eq_true rfl, Nat.le_of_ble_eq_true rfl⟩) rfl hl.1 rfl (Nat.le_of_ble_eq_true rfl) dX8_look_22 ⟨Nat.zero_le _, Nat.zero_le _⟩) (fun r22 h22 H locs hk Z => ?_)
  obtain ⟨ho, hk⟩ := hk
  refine r_calli Z (r_runV (As := [.int r22]) (rest := []) C Z (m_X8_recordIfDone l g h22 x0 r22 _ hk) ho rfl (cwV 1 C.1.2.2.2.2 (gV tw_387 tw_389 tw_0 tw_57 tw_390) rfl rfl rfl (by decide +kernel) ⟨Nat.le_of_ble_eq_true rfl, Nat.le_of_ble_eq_true rfl⟩) rfl hl.1 rfl (Nat.le_of_ble_eq_true rfl) dX8_look_25 ⟨Nat.zero_le _, Nat.zero_le _⟩) (fun r25 h25 H locs hk Z => ?_)
  exact r_iret C Z hr hk dX8_look_28
abbrev rmX5_keep : Room := ({ frames := 2, cells := 0, slots := 0, locals := 61 } : Room)
abbrev wzX5_keep : List Cond := WS yX5_keep cX5_keep 3 none
set_option maxRecDepth 100000 in
set_option maxHeartbeats 4000000 in
theorem m_X5_keep (l : Launch) (g : Gt) (h : Hp) (x0 : Nat) (x1 : Int32) (x2 : Nat) (Post : Hp → Prop) (hk : wp_X5_keep x0 x1 x2 Post h) : Met l yX5_keep wzX5_keep rmX5_keep (Pg g h [.ref x0, .int x1, .ref x2]) (Qv g h Post) 0 0 (dm h) := by
  refine Met_of (cc := cX5_keep) (maxL := 3) (ret := none) (by decide) (Nat.le_of_ble_eq_true rfl) (fun p e s m below meth c ls C hr hnm hl Z => ?_)
  have hx := C.1.1
  have hb := C.1.2.1
  have hml := C.1.2.2.1
  have hown := C.1.2.2.2.1
  have hts := C.1.2.2.2.2
  have hl : lv_has ls 3 [(0, .ref x0), (1, .int x1), (2, .ref x2)] := hl
  unfold wp_X5_keep at hk
  generalize s.heap = H at Z ⊢
  generalize ([] : List Loc) = locs at Z ⊢
  refine lv_iload_n hx hb dX5_keep_0 rfl (lv_at hl 1 rfl) ?_
  refine lv_iconst (v := (nI 0)) hx hb dX5_keep_1 (by decide) ?_
  refine lv_iconst (v := (nI 1)) hx hb dX5_keep_2 (by decide) ?_
  refine r_calli Z (r_runSN (As := [.int x1, .int (nI 0), .int (nI 1)]) (rest := []) C Z (m_X8_within l g h x1 (nI 0) (nI 1) _ hk) ⟨va_cnB 3 C.1.2.2.2.2 (gW tw_382) rfl rfl rfl (C.2.2.1.2.1 ("SmudgeTally$Slots", 26, yX8_within) (by decide +kernel)) (hts _ tw_57) (by decide +kernel) ⟨Nat.le_of_ble_eq_true rfl, Nat.le_of_ble_eq_true rfl⟩, (hts _ tw_381), trivial⟩ rfl hl.1 rfl (Nat.le_of_ble_eq_true rfl) dX5_keep_3 ⟨Nat.zero_le _, Nat.zero_le _⟩) (fun r3 h3 H locs hk Z => ?_)
  refine lv_if_eq (tgt := 26) hx hb dX5_keep_6 (by decide) (fun q => ?_) (fun q => ?_)
  · have hk := hk.1 q
    exact r_vret C Z hr hk dX5_keep_26
  · have hk := hk.2 q
    refine lv_aload_n hx hb dX5_keep_9 rfl (lv_at hl 0 rfl) ?_
    obtain ⟨v10, hv, hk⟩ := hk
    refine r_get (ci := 5) (k := 0) (T := TX5) (N := 2) C Z hv ku_5 rfl (by decide) tw_236 dX5_keep_10 ?_
    refine lv_iload_n hx hb dX5_keep_13 rfl (lv_at hl 1 rfl) ?_
    obtain ⟨v14, hv, hk⟩ := hk
    refine r_aald3 C Z hv dX5_keep_14 ?_
    refine lv_aload_n hx hb dX5_keep_15 rfl (lv_at hl 2 rfl) ?_
    obtain ⟨ho, hk⟩ := hk
    refine r_callv Z (r_runV (As := [.ref x2]) (rest := []) C Z (m_X0_copyFrom l g h3 v14 x2 _ hk) ho rfl (cwV 1 C.1.2.2.2.2 (gV tw_375 tw_365 tw_366 tw_60 tw_367) rfl rfl rfl (by decide +kernel) ⟨Nat.le_of_ble_eq_true rfl, Nat.le_of_ble_eq_true rfl⟩) rfl hl.1 rfl (Nat.le_of_ble_eq_true rfl) dX5_keep_16 ⟨Nat.zero_le _, Nat.zero_le _⟩) (fun h16 H locs hk Z => ?_)
    refine lv_aload_n hx hb dX5_keep_19 rfl (lv_at hl 0 rfl) ?_
    obtain ⟨v20, hv, hk⟩ := hk
    refine r_get (ci := 5) (k := 1) (T := TX5) (N := 2) C Z hv ku_5 rfl (by decide) tw_237 dX5_keep_20 ?_
    refine lv_iload_n hx hb dX5_keep_23 rfl (lv_at hl 1 rfl) ?_
    refine lv_iconst (v := (nI 1)) hx hb dX5_keep_24 (by decide) ?_
    obtain ⟨h25, hv, hk⟩ := hk
    refine r_zast C Z hv dX5_keep_25 (fun H locs Z => ?_)
    exact r_vret C Z hr hk dX5_keep_26
abbrev rmX8_take : Room := ({ frames := 5, cells := 0, slots := 0, locals := 127 } : Room)
abbrev wzX8_take : List Cond := WS yX8_take cX8_take 2 (some .int)
set_option maxRecDepth 100000 in
set_option maxHeartbeats 4000000 in
theorem m_X8_take (l : Launch) (g : Gt) (h : Hp) (x0 : Nat) (x1 : Int32) (Post : Int32 → Hp → Prop) (hk : wp_X8_take x0 x1 Post h) : Met l yX8_take wzX8_take rmX8_take (Pg g h [.ref x0, .int x1]) (Qi g h Post) 0 0 (dm h) := by
  refine Met_of (cc := cX8_take) (maxL := 2) (ret := (some .int)) (by decide) (Nat.le_of_ble_eq_true rfl) (fun p e s m below meth c ls C hr hnm hl Z => ?_)
  have hx := C.1.1
  have hb := C.1.2.1
  have hml := C.1.2.2.1
  have hown := C.1.2.2.2.1
  have hts := C.1.2.2.2.2
  have hl : lv_has ls 2 [(0, .ref x0), (1, .int x1)] := hl
  unfold wp_X8_take at hk
  generalize s.heap = H at Z ⊢
  generalize ([] : List Loc) = locs at Z ⊢
  refine lv_iload_n hx hb dX8_take_0 rfl (lv_at hl 1 rfl) ?_
  refine lv_iconst (v := (nI 0)) hx hb dX8_take_1 (by decide) ?_
  refine lv_iconst (v := (nI 1)) hx hb dX8_take_2 (by decide) ?_
  refine r_calli Z (r_runS (As := [.int x1, .int (nI 0), .int (nI 1)]) (rest := []) C Z (m_X8_within l g h x1 (nI 0) (nI 1) _ hk) (va_cwS 3 C.1.2.2.2.2 (gS tw_547 tw_381 tw_57 tw_382) rfl rfl rfl (by decide +kernel) ⟨Nat.le_of_ble_eq_true rfl, Nat.le_of_ble_eq_true rfl⟩) rfl hl.1 rfl (Nat.le_of_ble_eq_true rfl) dX8_take_3 ⟨Nat.zero_le _, Nat.zero_le _⟩) (fun r3 h3 H locs hk Z => ?_)
  refine lv_if_ne (tgt := 11) hx hb dX8_take_6 (by decide) (fun q => ?_) (fun q => ?_)
  · have hk := hk.1 q
    refine lv_aload_n hx hb dX8_take_11 rfl (lv_at hl 0 rfl) ?_
    obtain ⟨v12, hv, hk⟩ := hk
    refine r_get (ci := 8) (k := 4) (T := TX8) (N := 6) C Z hv ku_8 rfl (by decide) tw_337 dX8_take_12 ?_
    refine lv_aload_n hx hb dX8_take_15 rfl (lv_at hl 0 rfl) ?_
    obtain ⟨v16, hv, hk⟩ := hk
    refine r_get (ci := 8) (k := 2) (T := TX8) (N := 6) C Z hv ku_8 rfl (by decide) tw_335 dX8_take_16 ?_
    refine lv_aload_n hx hb dX8_take_19 rfl (lv_at hl 0 rfl) ?_
    obtain ⟨v20, hv, hk⟩ := hk
    refine r_get (ci := 8) (k := 3) (T := TX8) (N := 6) C Z hv ku_8 rfl (by decide) tw_336 dX8_take_20 ?_
    obtain ⟨ho, hk⟩ := hk
    refine r_callv Z (r_runV (As := [.ref v16, .ref v20]) (rest := []) C Z (m_X2_prepare l g h3 v12 v16 v20 _ hk) ho rfl (cwV 2 C.1.2.2.2.2 (gV tw_356 tw_357 tw_358 tw_62 tw_359) rfl rfl rfl (by decide +kernel) ⟨Nat.le_of_ble_eq_true rfl, Nat.le_of_ble_eq_true rfl⟩) rfl hl.1 rfl (Nat.le_of_ble_eq_true rfl) dX8_take_23 ⟨Nat.zero_le _, Nat.zero_le _⟩) (fun h23 H locs hk Z => ?_)
    refine lv_aload_n hx hb dX8_take_26 rfl (lv_at hl 0 rfl) ?_
    obtain ⟨v27, hv, hk⟩ := hk
    refine r_get (ci := 8) (k := 3) (T := TX8) (N := 6) C Z hv ku_8 rfl (by decide) tw_336 dX8_take_27 ?_
    refine lv_iload_n hx hb dX8_take_30 rfl (lv_at hl 1 rfl) ?_
    refine lv_aload_n hx hb dX8_take_31 rfl (lv_at hl 0 rfl) ?_
    obtain ⟨v32, hv, hk⟩ := hk
    refine r_get (ci := 8) (k := 2) (T := TX8) (N := 6) C Z hv ku_8 rfl (by decide) tw_335 dX8_take_32 ?_
    obtain ⟨ho, hk⟩ := hk
    refine r_callv Z (r_runV (As := [.int x1, .ref v32]) (rest := []) C Z (m_X5_keep l g h23 v27 x1 v32 _ hk) ho rfl (cwV 2 C.1.2.2.2.2 (gV tw_548 tw_549 tw_550 tw_61 tw_551) rfl rfl rfl (by decide +kernel) ⟨Nat.le_of_ble_eq_true rfl, Nat.le_of_ble_eq_true rfl⟩) rfl hl.1 rfl (Nat.le_of_ble_eq_true rfl) dX8_take_35 ⟨Nat.zero_le _, Nat.zero_le _⟩) (fun h35 H locs hk Z => ?_)
    refine lv_aload_n hx hb dX8_take_38 rfl (lv_at hl 0 rfl) ?_
    refine lv_aload_n hx hb dX8_take_39 rfl (lv_at hl 0 rfl) ?_
    obtain ⟨v40, hv, hk⟩ := hk
    refine r_get (ci := 8) (k := 2) (T := TX8) (N := 6) C Z hv ku_8 rfl (by decide) tw_335 dX8_take_40 ?_
    obtain ⟨v43, hv, hk⟩ := hk
    refine r_get (ci := 0) (k := 0) (T := TX0) (N := 11) C Z hv ku_0 rfl (by decide) tw_102 dX8_take_43 ?_
    obtain ⟨ho, hk⟩ := hk
    refine r_calli Z (r_runV (As := [.int v43]) (rest := []) C Z (m_X8_recordIfDone l g h35 x0 v43 _ hk) ho rfl (cwV 1 C.1.2.2.2.2 (gV tw_387 tw_389 tw_0 tw_57 tw_390) rfl rfl rfl (by decide +kernel) ⟨Nat.le_of_ble_eq_true rfl, Nat.le_of_ble_eq_true rfl⟩) rfl hl.1 rfl (Nat.le_of_ble_eq_true rfl) dX8_take_46 ⟨Nat.zero_le _, Nat.zero_le _⟩) (fun r46 h46 H locs hk Z => ?_)
    exact r_iret C Z hr hk dX8_take_49
  · have hk := hk.2 q
    refine lv_iconst (v := (-1 : Int32)) hx hb dX8_take_9 (by decide) ?_
    exact r_iret C Z hr hk dX8_take_10
abbrev rmX5_isFull : Room := ({ frames := 1, cells := 0, slots := 0, locals := 22 } : Room)
abbrev wzX5_isFull : List Cond := WS yX5_isFull cX5_isFull 2 (some .boolean)
set_option maxRecDepth 100000 in
set_option maxHeartbeats 4000000 in
theorem m_X5_isFull (l : Launch) (g : Gt) (h : Hp) (x0 : Nat) (x1 : Int32) (Post : Int32 → Hp → Prop) (hk : wp_X5_isFull x0 x1 Post h) : Met l yX5_isFull wzX5_isFull rmX5_isFull (Pg g h [.ref x0, .int x1]) (Qi g h Post) 0 0 (dm h) := by
  refine Met_of (cc := cX5_isFull) (maxL := 2) (ret := (some .boolean)) (by decide) (Nat.le_of_ble_eq_true rfl) (fun p e s m below meth c ls C hr hnm hl Z => ?_)
  have hx := C.1.1
  have hb := C.1.2.1
  have hml := C.1.2.2.1
  have hown := C.1.2.2.2.1
  have hts := C.1.2.2.2.2
  have hl : lv_has ls 2 [(0, .ref x0), (1, .int x1)] := hl
  unfold wp_X5_isFull at hk
  generalize s.heap = H at Z ⊢
  generalize ([] : List Loc) = locs at Z ⊢
  refine lv_iload_n hx hb dX5_isFull_0 rfl (lv_at hl 1 rfl) ?_
  refine lv_iconst (v := (nI 0)) hx hb dX5_isFull_1 (by decide) ?_
  refine lv_iconst (v := (nI 1)) hx hb dX5_isFull_2 (by decide) ?_
  refine r_calli Z (r_runSN (As := [.int x1, .int (nI 0), .int (nI 1)]) (rest := []) C Z (m_X8_within l g h x1 (nI 0) (nI 1) _ hk) ⟨va_cnB 3 C.1.2.2.2.2 (gW tw_382) rfl rfl rfl (C.2.2.1.2.1 ("SmudgeTally$Slots", 26, yX8_within) (by decide +kernel)) (hts _ tw_57) (by decide +kernel) ⟨Nat.le_of_ble_eq_true rfl, Nat.le_of_ble_eq_true rfl⟩, (hts _ tw_381), trivial⟩ rfl hl.1 rfl (Nat.le_of_ble_eq_true rfl) dX5_isFull_3 ⟨Nat.zero_le _, Nat.zero_le _⟩) (fun r3 h3 H locs hk Z => ?_)
  refine lv_if_eq (tgt := 22) hx hb dX5_isFull_6 (by decide) (fun q => ?_) (fun q => ?_)
  · have hk := hk.1 q
    refine lv_iconst (v := (nI 0)) hx hb dX5_isFull_22 (by decide) ?_
    exact r_zret C Z hr (Or.inl rfl) hk dX5_isFull_23
  · have hk := hk.2 q
    refine lv_aload_n hx hb dX5_isFull_9 rfl (lv_at hl 0 rfl) ?_
    obtain ⟨v10, hv, hk⟩ := hk
    refine r_get (ci := 5) (k := 1) (T := TX5) (N := 2) C Z hv ku_5 rfl (by decide) tw_237 dX5_isFull_10 ?_
    refine lv_iload_n hx hb dX5_isFull_13 rfl (lv_at hl 1 rfl) ?_
    obtain ⟨v14, hv, hk⟩ := hk
    refine r_zald C Z hv dX5_isFull_14 ?_
    refine lv_if_eq (tgt := 22) hx hb dX5_isFull_15 (by decide) (fun q => ?_) (fun q => ?_)
    · have hk := hk.1 q
      refine lv_iconst (v := (nI 0)) hx hb dX5_isFull_22 (by decide) ?_
      exact r_zret C Z hr (Or.inl rfl) hk dX5_isFull_23
    · have hk := hk.2 q
      refine lv_iconst (v := (nI 1)) hx hb dX5_isFull_18 (by decide) ?_
      refine lv_goto (tgt := 23) hx hb dX5_isFull_19 (by decide) ?_
      exact r_zret C Z hr (Or.inr rfl) hk dX5_isFull_23
abbrev rmX5_giveBack : Room := ({ frames := 2, cells := 0, slots := 0, locals := 61 } : Room)
abbrev wzX5_giveBack : List Cond := WS yX5_giveBack cX5_giveBack 3 none
set_option maxRecDepth 100000 in
set_option maxHeartbeats 4000000 in
theorem m_X5_giveBack (l : Launch) (g : Gt) (h : Hp) (x0 : Nat) (x1 : Int32) (x2 : Nat) (Post : Hp → Prop) (hk : wp_X5_giveBack x0 x1 x2 Post h) : Met l yX5_giveBack wzX5_giveBack rmX5_giveBack (Pg g h [.ref x0, .int x1, .ref x2]) (Qv g h Post) 0 0 (dm h) := by
  refine Met_of (cc := cX5_giveBack) (maxL := 3) (ret := none) (by decide) (Nat.le_of_ble_eq_true rfl) (fun p e s m below meth c ls C hr hnm hl Z => ?_)
  have hx := C.1.1
  have hb := C.1.2.1
  have hml := C.1.2.2.1
  have hown := C.1.2.2.2.1
  have hts := C.1.2.2.2.2
  have hl : lv_has ls 3 [(0, .ref x0), (1, .int x1), (2, .ref x2)] := hl
  unfold wp_X5_giveBack at hk
  generalize s.heap = H at Z ⊢
  generalize ([] : List Loc) = locs at Z ⊢
  refine lv_aload_n hx hb dX5_giveBack_0 rfl (lv_at hl 0 rfl) ?_
  refine lv_iload_n hx hb dX5_giveBack_1 rfl (lv_at hl 1 rfl) ?_
  obtain ⟨ho, hk⟩ := hk
  refine r_calli Z (r_runV (As := [.int x1]) (rest := []) C Z (m_X5_isFull l g h x0 x1 _ hk) ho rfl (cwV 1 C.1.2.2.2.2 (gV tw_565 tw_558 tw_559 tw_61 tw_560) rfl rfl rfl (by decide +kernel) ⟨Nat.le_of_ble_eq_true rfl, Nat.le_of_ble_eq_true rfl⟩) rfl hl.1 rfl (Nat.le_of_ble_eq_true rfl) dX5_giveBack_2 ⟨Nat.zero_le _, Nat.zero_le _⟩) (fun r2 h2 H locs hk Z => ?_)
  refine lv_if_eq (tgt := 18) hx hb dX5_giveBack_5 (by decide) (fun q => ?_) (fun q => ?_)
  · have hk := hk.1 q
    exact r_vret C Z hr hk dX5_giveBack_18
  · have hk := hk.2 q
    refine lv_aload_n hx hb dX5_giveBack_8 rfl (lv_at hl 2 rfl) ?_
    refine lv_aload_n hx hb dX5_giveBack_9 rfl (lv_at hl 0 rfl) ?_
    obtain ⟨v10, hv, hk⟩ := hk
    refine r_get (ci := 5) (k := 0) (T := TX5) (N := 2) C Z hv ku_5 rfl (by decide) tw_236 dX5_giveBack_10 ?_
    refine lv_iload_n hx hb dX5_giveBack_13 rfl (lv_at hl 1 rfl) ?_
    obtain ⟨v14, hv, hk⟩ := hk
    refine r_aald3 C Z hv dX5_giveBack_14 ?_
    obtain ⟨ho, hk⟩ := hk
    refine r_callv Z (r_runV (As := [.ref v14]) (rest := []) C Z (m_X0_copyFrom l g h2 x2 v14 _ hk) ho rfl (cwV 1 C.1.2.2.2.2 (gV tw_375 tw_365 tw_366 tw_60 tw_367) rfl rfl rfl (by decide +kernel) ⟨Nat.le_of_ble_eq_true rfl, Nat.le_of_ble_eq_true rfl⟩) rfl hl.1 rfl (Nat.le_of_ble_eq_true rfl) dX5_giveBack_15 ⟨Nat.zero_le _, Nat.zero_le _⟩) (fun h15 H locs hk Z => ?_)
    exact r_vret C Z hr hk dX5_giveBack_18
abbrev rmX8_restore : Room := ({ frames := 5, cells := 0, slots := 0, locals := 127 } : Room)
abbrev wzX8_restore : List Cond := WS yX8_restore cX8_restore 2 (some .int)
set_option maxRecDepth 100000 in
set_option maxHeartbeats 4000000 in
theorem m_X8_restore (l : Launch) (g : Gt) (h : Hp) (x0 : Nat) (x1 : Int32) (Post : Int32 → Hp → Prop) (hk : wp_X8_restore x0 x1 Post h) : Met l yX8_restore wzX8_restore rmX8_restore (Pg g h [.ref x0, .int x1]) (Qi g h Post) 0 0 (dm h) := by
  refine Met_of (cc := cX8_restore) (maxL := 2) (ret := (some .int)) (by decide) (Nat.le_of_ble_eq_true rfl) (fun p e s m below meth c ls C hr hnm hl Z => ?_)
  have hx := C.1.1
  have hb := C.1.2.1
  have hml := C.1.2.2.1
  have hown := C.1.2.2.2.1
  have hts := C.1.2.2.2.2
  have hl : lv_has ls 2 [(0, .ref x0), (1, .int x1)] := hl
  unfold wp_X8_restore at hk
  generalize s.heap = H at Z ⊢
  generalize ([] : List Loc) = locs at Z ⊢
  refine lv_iload_n hx hb dX8_restore_0 rfl (lv_at hl 1 rfl) ?_
  refine lv_iconst (v := (nI 0)) hx hb dX8_restore_1 (by decide) ?_
  refine lv_iconst (v := (nI 1)) hx hb dX8_restore_2 (by decide) ?_
  refine r_calli Z (r_runS (As := [.int x1, .int (nI 0), .int (nI 1)]) (rest := []) C Z (m_X8_within l g h x1 (nI 0) (nI 1) _ hk) (va_cwS 3 C.1.2.2.2.2 (gS tw_547 tw_381 tw_57 tw_382) rfl rfl rfl (by decide +kernel) ⟨Nat.le_of_ble_eq_true rfl, Nat.le_of_ble_eq_true rfl⟩) rfl hl.1 rfl (Nat.le_of_ble_eq_true rfl) dX8_restore_3 ⟨Nat.zero_le _, Nat.zero_le _⟩) (fun r3 h3 H locs hk Z => ?_)
  refine lv_if_ne (tgt := 11) hx hb dX8_restore_6 (by decide) (fun q => ?_) (fun q => ?_)
  · have hk := hk.1 q
    refine lv_aload_n hx hb dX8_restore_11 rfl (lv_at hl 0 rfl) ?_
    obtain ⟨v12, hv, hk⟩ := hk
    refine r_get (ci := 8) (k := 3) (T := TX8) (N := 6) C Z hv ku_8 rfl (by decide) tw_336 dX8_restore_12 ?_
    refine lv_iload_n hx hb dX8_restore_15 rfl (lv_at hl 1 rfl) ?_
    obtain ⟨ho, hk⟩ := hk
    refine r_calli Z (r_runV (As := [.int x1]) (rest := []) C Z (m_X5_isFull l g h3 v12 x1 _ hk) ho rfl (cwV 1 C.1.2.2.2.2 (gV tw_557 tw_558 tw_559 tw_61 tw_560) rfl rfl rfl (by decide +kernel) ⟨Nat.le_of_ble_eq_true rfl, Nat.le_of_ble_eq_true rfl⟩) rfl hl.1 rfl (Nat.le_of_ble_eq_true rfl) dX8_restore_16 ⟨Nat.zero_le _, Nat.zero_le _⟩) (fun r16 h16 H locs hk Z => ?_)
    refine lv_if_ne (tgt := 25) hx hb dX8_restore_19 (by decide) (fun q => ?_) (fun q => ?_)
    · have hk := hk.1 q
      refine lv_aload_n hx hb dX8_restore_25 rfl (lv_at hl 0 rfl) ?_
      obtain ⟨v26, hv, hk⟩ := hk
      refine r_get (ci := 8) (k := 4) (T := TX8) (N := 6) C Z hv ku_8 rfl (by decide) tw_337 dX8_restore_26 ?_
      refine lv_aload_n hx hb dX8_restore_29 rfl (lv_at hl 0 rfl) ?_
      obtain ⟨v30, hv, hk⟩ := hk
      refine r_get (ci := 8) (k := 2) (T := TX8) (N := 6) C Z hv ku_8 rfl (by decide) tw_335 dX8_restore_30 ?_
      refine lv_aload_n hx hb dX8_restore_33 rfl (lv_at hl 0 rfl) ?_
      obtain ⟨v34, hv, hk⟩ := hk
      refine r_get (ci := 8) (k := 3) (T := TX8) (N := 6) C Z hv ku_8 rfl (by decide) tw_336 dX8_restore_34 ?_
      obtain ⟨ho, hk⟩ := hk
      refine r_callv Z (r_runV (As := [.ref v30, .ref v34]) (rest := []) C Z (m_X2_prepare l g h16 v26 v30 v34 _ hk) ho rfl (cwV 2 C.1.2.2.2.2 (gV tw_356 tw_357 tw_358 tw_62 tw_359) rfl rfl rfl (by decide +kernel) ⟨Nat.le_of_ble_eq_true rfl, Nat.le_of_ble_eq_true rfl⟩) rfl hl.1 rfl (Nat.le_of_ble_eq_true rfl) dX8_restore_37 ⟨Nat.zero_le _, Nat.zero_le _⟩) (fun h37 H locs hk Z => ?_)
      refine lv_aload_n hx hb dX8_restore_40 rfl (lv_at hl 0 rfl) ?_
      obtain ⟨v41, hv, hk⟩ := hk
      refine r_get (ci := 8) (k := 3) (T := TX8) (N := 6) C Z hv ku_8 rfl (by decide) tw_336 dX8_restore_41 ?_
      refine lv_iload_n hx hb dX8_restore_44 rfl (lv_at hl 1 rfl) ?_
      refine lv_aload_n hx hb dX8_restore_45 rfl (lv_at hl 0 rfl) ?_
      obtain ⟨v46, hv, hk⟩ := hk
      refine r_get (ci := 8) (k := 2) (T := TX8) (N := 6) C Z hv ku_8 rfl (by decide) tw_335 dX8_restore_46 ?_
      obtain ⟨ho, hk⟩ := hk
      refine r_callv Z (r_runV (As := [.int x1, .ref v46]) (rest := []) C Z (m_X5_giveBack l g h37 v41 x1 v46 _ hk) ho rfl (cwV 2 C.1.2.2.2.2 (gV tw_561 tw_562 tw_563 tw_61 tw_564) rfl rfl rfl (by decide +kernel) ⟨Nat.le_of_ble_eq_true rfl, Nat.le_of_ble_eq_true rfl⟩) rfl hl.1 rfl (Nat.le_of_ble_eq_true rfl) dX8_restore_49 ⟨Nat.zero_le _, Nat.zero_le _⟩) (fun h49 H locs hk Z => ?_)
      refine lv_aload_n hx hb dX8_restore_52 rfl (lv_at hl 0 rfl) ?_
      refine lv_aload_n hx hb dX8_restore_53 rfl (lv_at hl 0 rfl) ?_
      obtain ⟨v54, hv, hk⟩ := hk
      refine r_get (ci := 8) (k := 2) (T := TX8) (N := 6) C Z hv ku_8 rfl (by decide) tw_335 dX8_restore_54 ?_
      obtain ⟨v57, hv, hk⟩ := hk
      refine r_get (ci := 0) (k := 0) (T := TX0) (N := 11) C Z hv ku_0 rfl (by decide) tw_102 dX8_restore_57 ?_
      obtain ⟨ho, hk⟩ := hk
      refine r_calli Z (r_runV (As := [.int v57]) (rest := []) C Z (m_X8_recordIfDone l g h49 x0 v57 _ hk) ho rfl (cwV 1 C.1.2.2.2.2 (gV tw_387 tw_389 tw_0 tw_57 tw_390) rfl rfl rfl (by decide +kernel) ⟨Nat.le_of_ble_eq_true rfl, Nat.le_of_ble_eq_true rfl⟩) rfl hl.1 rfl (Nat.le_of_ble_eq_true rfl) dX8_restore_60 ⟨Nat.zero_le _, Nat.zero_le _⟩) (fun r60 h60 H locs hk Z => ?_)
      exact r_iret C Z hr hk dX8_restore_63
    · have hk := hk.2 q
      refine lv_bipush (v := (-2 : Int32)) hx hb dX8_restore_22 (by decide) ?_
      exact r_iret C Z hr hk dX8_restore_24
  · have hk := hk.2 q
    refine lv_iconst (v := (-1 : Int32)) hx hb dX8_restore_9 (by decide) ?_
    exact r_iret C Z hr hk dX8_restore_10
abbrev rmX8_undo : Room := ({ frames := 5, cells := 0, slots := 0, locals := 127 } : Room)
abbrev wzX8_undo : List Cond := WS yX8_undo cX8_undo 1 (some .int)
set_option maxRecDepth 100000 in
set_option maxHeartbeats 4000000 in
theorem m_X8_undo (l : Launch) (g : Gt) (h : Hp) (x0 : Nat) (Post : Int32 → Hp → Prop) (hk : wp_X8_undo x0 Post h) : Met l yX8_undo wzX8_undo rmX8_undo (Pg g h [.ref x0]) (Qi g h Post) 0 0 (dm h) := by
  refine Met_of (cc := cX8_undo) (maxL := 1) (ret := (some .int)) (by decide) (Nat.le_of_ble_eq_true rfl) (fun p e s m below meth c ls C hr hnm hl Z => ?_)
  have hx := C.1.1
  have hb := C.1.2.1
  have hml := C.1.2.2.1
  have hown := C.1.2.2.2.1
  have hts := C.1.2.2.2.2
  have hl : lv_has ls 1 [(0, .ref x0)] := hl
  unfold wp_X8_undo at hk
  generalize s.heap = H at Z ⊢
  generalize ([] : List Loc) = locs at Z ⊢
  refine lv_aload_n hx hb dX8_undo_0 rfl (lv_at hl 0 rfl) ?_
  obtain ⟨v1, hv, hk⟩ := hk
  refine r_get (ci := 8) (k := 4) (T := TX8) (N := 6) C Z hv ku_8 rfl (by decide) tw_337 dX8_undo_1 ?_
  obtain ⟨v4, hv, hk⟩ := hk
  refine r_get (ci := 2) (k := 0) (T := TX2) (N := 2) C Z hv ku_2 rfl (by decide) tw_268 dX8_undo_4 ?_
  refine lv_if_ne (tgt := 13) hx hb dX8_undo_7 (by decide) (fun q => ?_) (fun q => ?_)
  · have hk := hk.1 q
    refine lv_aload_n hx hb dX8_undo_13 rfl (lv_at hl 0 rfl) ?_
    obtain ⟨v14, hv, hk⟩ := hk
    refine r_get (ci := 8) (k := 4) (T := TX8) (N := 6) C Z hv ku_8 rfl (by decide) tw_337 dX8_undo_14 ?_
    refine lv_aload_n hx hb dX8_undo_17 rfl (lv_at hl 0 rfl) ?_
    obtain ⟨v18, hv, hk⟩ := hk
    refine r_get (ci := 8) (k := 2) (T := TX8) (N := 6) C Z hv ku_8 rfl (by decide) tw_335 dX8_undo_18 ?_
    refine lv_aload_n hx hb dX8_undo_21 rfl (lv_at hl 0 rfl) ?_
    obtain ⟨v22, hv, hk⟩ := hk
    refine r_get (ci := 8) (k := 3) (T := TX8) (N := 6) C Z hv ku_8 rfl (by decide) tw_336 dX8_undo_22 ?_
    obtain ⟨ho, hk⟩ := hk
    refine r_callv Z (r_runV (As := [.ref v18, .ref v22]) (rest := []) C Z (m_X2_goBack l g h v14 v18 v22 _ hk) ho rfl (cwV 2 C.1.2.2.2.2 (gV tw_570 tw_571 tw_572 tw_62 tw_573) rfl rfl rfl (by decide +kernel) ⟨Nat.le_of_ble_eq_true rfl, Nat.le_of_ble_eq_true rfl⟩) rfl hl.1 rfl (Nat.le_of_ble_eq_true rfl) dX8_undo_25 ⟨Nat.zero_le _, Nat.zero_le _⟩) (fun h25 H locs hk Z => ?_)
    refine lv_aload_n hx hb dX8_undo_28 rfl (lv_at hl 0 rfl) ?_
    obtain ⟨v29, hv, hk⟩ := hk
    refine r_get (ci := 8) (k := 4) (T := TX8) (N := 6) C Z hv ku_8 rfl (by decide) tw_337 dX8_undo_29 ?_
    obtain ⟨v32, hv, hk⟩ := hk
    refine r_get (ci := 2) (k := 0) (T := TX2) (N := 2) C Z hv ku_2 rfl (by decide) tw_268 dX8_undo_32 ?_
    exact r_iret C Z hr hk dX8_undo_35
  · have hk := hk.2 q
    refine lv_bipush (v := (-2 : Int32)) hx hb dX8_undo_10 (by decide) ?_
    exact r_iret C Z hr hk dX8_undo_12
abbrev rmX8_append : Room := ({ frames := 1, cells := 0, slots := 0, locals := 22 } : Room)
abbrev wzX8_append : List Cond := WS yX8_append cX8_append 2 (some .int)
set_option maxRecDepth 100000 in
set_option maxHeartbeats 4000000 in
theorem m_X8_append (l : Launch) (g : Gt) (h : Hp) (x0 : Nat) (x1 : Int32) (Post : Int32 → Hp → Prop) (hk : wp_X8_append x0 x1 Post h) : Met l yX8_append wzX8_append rmX8_append (Pg g h [.ref x0, .int x1]) (Qi g h Post) 0 0 (dm h) := by
  refine Met_of (cc := cX8_append) (maxL := 2) (ret := (some .int)) (by decide) (Nat.le_of_ble_eq_true rfl) (fun p e s m below meth c ls C hr hnm hl Z => ?_)
  have hx := C.1.1
  have hb := C.1.2.1
  have hml := C.1.2.2.1
  have hown := C.1.2.2.2.1
  have hts := C.1.2.2.2.2
  have hl : lv_has ls 2 [(0, .ref x0), (1, .int x1)] := hl
  unfold wp_X8_append at hk
  generalize s.heap = H at Z ⊢
  generalize ([] : List Loc) = locs at Z ⊢
  refine lv_iload_n hx hb dX8_append_0 rfl (lv_at hl 1 rfl) ?_
  refine lv_iconst (v := (nI 1)) hx hb dX8_append_1 (by decide) ?_
  refine lv_sipush (v := (nI 255)) hx hb dX8_append_2 (by decide) ?_
  refine r_calli Z (r_runS (As := [.int x1, .int (nI 1), .int (nI 255)]) (rest := []) C Z (m_X8_within l g h x1 (nI 1) (nI 255) _ hk) (va_cwS 3 C.1.2.2.2.2 (gS tw_547 tw_381 tw_57 tw_382) rfl rfl rfl (by decide +kernel) ⟨Nat.le_of_ble_eq_true rfl, Nat.le_of_ble_eq_true rfl⟩) rfl hl.1 rfl (Nat.le_of_ble_eq_true rfl) dX8_append_5 ⟨Nat.zero_le _, Nat.zero_le _⟩) (fun r5 h5 H locs hk Z => ?_)
  refine lv_if_ne (tgt := 13) hx hb dX8_append_8 (by decide) (fun q => ?_) (fun q => ?_)
  · have hk := hk.1 q
    refine lv_aload_n hx hb dX8_append_13 rfl (lv_at hl 0 rfl) ?_
    obtain ⟨v14, hv, hk⟩ := hk
    refine r_get (ci := 8) (k := 5) (T := TX8) (N := 6) C Z hv ku_8 rfl (by decide) tw_338 dX8_append_14 ?_
    obtain ⟨v17, hv, hk⟩ := hk
    refine r_get (ci := 3) (k := 0) (T := TX3) (N := 7) C Z hv ku_3 rfl (by decide) tw_307 dX8_append_17 ?_
    refine lv_iload_n hx hb dX8_append_20 rfl (lv_at hl 1 rfl) ?_
    obtain ⟨ho, hk⟩ := hk
    refine r_calli Z (r_runV (As := [.int x1]) (rest := []) C Z (m_X7_add l g h5 v17 x1 _ hk) ho rfl (cwV 1 C.1.2.2.2.2 (gV tw_582 tw_583 tw_584 tw_65 tw_585) rfl rfl rfl (by decide +kernel) ⟨Nat.le_of_ble_eq_true rfl, Nat.le_of_ble_eq_true rfl⟩) rfl hl.1 rfl (Nat.le_of_ble_eq_true rfl) dX8_append_21 ⟨Nat.zero_le _, Nat.zero_le _⟩) (fun r21 h21 H locs hk Z => ?_)
    exact r_iret C Z hr hk dX8_append_24
  · have hk := hk.2 q
    refine lv_iconst (v := (-1 : Int32)) hx hb dX8_append_11 (by decide) ?_
    exact r_iret C Z hr hk dX8_append_12
abbrev rmX8_clearText : Room := ({ frames := 1, cells := 0, slots := 0, locals := 21 } : Room)
abbrev wzX8_clearText : List Cond := WS yX8_clearText cX8_clearText 1 (some .int)
set_option maxRecDepth 100000 in
set_option maxHeartbeats 4000000 in
theorem m_X8_clearText (l : Launch) (g : Gt) (h : Hp) (x0 : Nat) (Post : Int32 → Hp → Prop) (hk : wp_X8_clearText x0 Post h) : Met l yX8_clearText wzX8_clearText rmX8_clearText (Pg g h [.ref x0]) (Qi g h Post) 0 0 (dm h) := by
  refine Met_of (cc := cX8_clearText) (maxL := 1) (ret := (some .int)) (by decide) (Nat.le_of_ble_eq_true rfl) (fun p e s m below meth c ls C hr hnm hl Z => ?_)
  have hx := C.1.1
  have hb := C.1.2.1
  have hml := C.1.2.2.1
  have hown := C.1.2.2.2.1
  have hts := C.1.2.2.2.2
  have hl : lv_has ls 1 [(0, .ref x0)] := hl
  unfold wp_X8_clearText at hk
  generalize s.heap = H at Z ⊢
  generalize ([] : List Loc) = locs at Z ⊢
  refine lv_aload_n hx hb dX8_clearText_0 rfl (lv_at hl 0 rfl) ?_
  obtain ⟨v1, hv, hk⟩ := hk
  refine r_get (ci := 8) (k := 5) (T := TX8) (N := 6) C Z hv ku_8 rfl (by decide) tw_338 dX8_clearText_1 ?_
  obtain ⟨v4, hv, hk⟩ := hk
  refine r_get (ci := 3) (k := 0) (T := TX3) (N := 7) C Z hv ku_3 rfl (by decide) tw_307 dX8_clearText_4 ?_
  obtain ⟨ho, hk⟩ := hk
  refine r_calli Z (r_runV (As := []) (rest := []) C Z (m_X7_empty l g h v4 _ hk) ho rfl (cwV 0 C.1.2.2.2.2 (gV tw_590 tw_591 tw_592 tw_65 tw_593) rfl rfl rfl (by decide +kernel) ⟨Nat.le_of_ble_eq_true rfl, Nat.le_of_ble_eq_true rfl⟩) rfl hl.1 rfl (Nat.le_of_ble_eq_true rfl) dX8_clearText_7 ⟨Nat.zero_le _, Nat.zero_le _⟩) (fun r7 h7 H locs hk Z => ?_)
  exact r_iret C Z hr hk dX8_clearText_10
abbrev rmX1_obey : Room := ({ frames := 5, cells := 0, slots := 0, locals := 114 } : Room)
abbrev wzX1_obey : List Cond := WS yX1_obey cX1_obey 6 (some .int)
set_option maxRecDepth 100000 in
set_option maxHeartbeats 4000000 in
theorem m_X1_obey (l : Launch) (g : Gt) (h : Hp) (x0 : Nat) (x1 : Int32) (x2 : Int64) (x4 : Int64) (Post : Int32 → Hp → Prop) (hk : wp_X1_obey x0 x1 x2 x4 Post h) : Met l yX1_obey wzX1_obey rmX1_obey (Pg g h [.ref x0, .int x1, .long x2, .long x4]) (Qi g h Post) 0 0 (dm h) := by
  refine Met_of (cc := cX1_obey) (maxL := 6) (ret := (some .int)) (by decide) (Nat.le_of_ble_eq_true rfl) (fun p e s m below meth c ls C hr hnm hl Z => ?_)
  have hx := C.1.1
  have hb := C.1.2.1
  have hml := C.1.2.2.1
  have hown := C.1.2.2.2.1
  have hts := C.1.2.2.2.2
  have hl : lv_has ls 6 [(0, .ref x0), (1, .int x1), (2, .long x2), (4, .long x4)] := hl
  unfold wp_X1_obey at hk
  generalize s.heap = H at Z ⊢
  generalize ([] : List Loc) = locs at Z ⊢
  refine lv_iload_n hx hb dX1_obey_0 rfl (lv_at hl 1 rfl) ?_
  rcases Classical.em (x1 = (nI 0)) with q | q0
  · have hk := hk.1 q
    refine lv_tableIn (tgt := 32) hx hb dX1_obey_1 (by rw [q]; decide) (by rw [q]; decide) (by rw [q]; rfl) (by decide) ?_
    refine lv_aload_n hx hb dX1_obey_32 rfl (lv_at hl 0 rfl) ?_
    refine lv_lload_n hx hb dX1_obey_33 rfl (lv_at hl 2 rfl) ?_
    refine lv_l2i (v := (Int64.toInt32 x2)) hx hb dX1_obey_34 rfl ?_
    refine lv_lload hx hb dX1_obey_35 (lv_at hl 3 rfl) ?_
    obtain ⟨ho, hk⟩ := hk
    refine r_calli Z (r_runV (As := [.int (Int64.toInt32 x2), .long x4]) (rest := []) C Z (m_X1_addCard l g h x0 (Int64.toInt32 x2) x4 _ hk) ho rfl (cwV 2 C.1.2.2.2.2 (gV tw_708 tw_377 tw_378 tw_58 tw_379) rfl rfl rfl (by decide +kernel) ⟨Nat.le_of_ble_eq_true rfl, Nat.le_of_ble_eq_true rfl⟩) rfl hl.1 rfl (Nat.le_of_ble_eq_true rfl) dX1_obey_37 ⟨Nat.zero_le _, Nat.zero_le _⟩) (fun r37 h37 H locs hk Z => ?_)
    exact r_iret C Z hr hk dX1_obey_40
  · have hk := hk.2 q0
    rcases Classical.em (x1 = (nI 1)) with q | q1
    · have hk := hk.1 q
      refine lv_tableIn (tgt := 41) hx hb dX1_obey_1 (by rw [q]; decide) (by rw [q]; decide) (by rw [q]; rfl) (by decide) ?_
      refine lv_aload_n hx hb dX1_obey_41 rfl (lv_at hl 0 rfl) ?_
      refine lv_lload_n hx hb dX1_obey_42 rfl (lv_at hl 2 rfl) ?_
      refine lv_l2i (v := (Int64.toInt32 x2)) hx hb dX1_obey_43 rfl ?_
      obtain ⟨ho, hk⟩ := hk
      refine r_calli Z (r_runV (As := [.int (Int64.toInt32 x2)]) (rest := []) C Z (m_X1_cleanMachine l g h x0 (Int64.toInt32 x2) _ hk) ho rfl (cwV 1 C.1.2.2.2.2 (gV tw_709 tw_400 tw_401 tw_58 tw_402) rfl rfl rfl (by decide +kernel) ⟨Nat.le_of_ble_eq_true rfl, Nat.le_of_ble_eq_true rfl⟩) rfl hl.1 rfl (Nat.le_of_ble_eq_true rfl) dX1_obey_44 ⟨Nat.zero_le _, Nat.zero_le _⟩) (fun r44 h44 H locs hk Z => ?_)
      exact r_iret C Z hr hk dX1_obey_47
    · have hk := hk.2 q1
      rcases Classical.em (x1 = (nI 2)) with q | q2
      · have hk := hk.1 q
        refine lv_tableIn (tgt := 48) hx hb dX1_obey_1 (by rw [q]; decide) (by rw [q]; decide) (by rw [q]; rfl) (by decide) ?_
        refine lv_aload_n hx hb dX1_obey_48 rfl (lv_at hl 0 rfl) ?_
        refine lv_lload_n hx hb dX1_obey_49 rfl (lv_at hl 2 rfl) ?_
        refine lv_l2i (v := (Int64.toInt32 x2)) hx hb dX1_obey_50 rfl ?_
        refine lv_lload hx hb dX1_obey_51 (lv_at hl 3 rfl) ?_
        refine lv_l2i (v := (Int64.toInt32 x4)) hx hb dX1_obey_53 rfl ?_
        obtain ⟨ho, hk⟩ := hk
        refine r_calli Z (r_runV (As := [.int (Int64.toInt32 x2), .int (Int64.toInt32 x4)]) (rest := []) C Z (m_X1_drawCards l g h x0 (Int64.toInt32 x2) (Int64.toInt32 x4) _ hk) ho rfl (cwV 2 C.1.2.2.2.2 (gV tw_710 tw_497 tw_498 tw_58 tw_499) rfl rfl rfl (by decide +kernel) ⟨Nat.le_of_ble_eq_true rfl, Nat.le_of_ble_eq_true rfl⟩) rfl hl.1 rfl (Nat.le_of_ble_eq_true rfl) dX1_obey_54 ⟨Nat.zero_le _, Nat.zero_le _⟩) (fun r54 h54 H locs hk Z => ?_)
        exact r_iret C Z hr hk dX1_obey_57
      · have hk := hk.2 q2
        rcases Classical.em (x1 = (nI 3)) with q | q3
        · have hk := hk.1 q
          refine lv_tableIn (tgt := 58) hx hb dX1_obey_1 (by rw [q]; decide) (by rw [q]; decide) (by rw [q]; rfl) (by decide) ?_
          refine lv_aload_n hx hb dX1_obey_58 rfl (lv_at hl 0 rfl) ?_
          refine lv_lload_n hx hb dX1_obey_59 rfl (lv_at hl 2 rfl) ?_
          refine lv_l2i (v := (Int64.toInt32 x2)) hx hb dX1_obey_60 rfl ?_
          refine lv_lload hx hb dX1_obey_61 (lv_at hl 3 rfl) ?_
          obtain ⟨ho, hk⟩ := hk
          refine r_calli Z (r_runV (As := [.int (Int64.toInt32 x2), .long x4]) (rest := []) C Z (m_X1_lookAt l g h x0 (Int64.toInt32 x2) x4 _ hk) ho rfl (cwV 2 C.1.2.2.2.2 (gV tw_711 tw_534 tw_535 tw_58 tw_536) rfl rfl rfl (by decide +kernel) ⟨Nat.le_of_ble_eq_true rfl, Nat.le_of_ble_eq_true rfl⟩) rfl hl.1 rfl (Nat.le_of_ble_eq_true rfl) dX1_obey_63 ⟨Nat.zero_le _, Nat.zero_le _⟩) (fun r63 h63 H locs hk Z => ?_)
          exact r_iret C Z hr hk dX1_obey_66
        · have hk := hk.2 q3
          refine lv_tableOut (tgt := 67) hx hb dX1_obey_1 (by have t0 := ne_toI q0 (show Int32.toInt (nI 0) = (0 : Int) by decide); have t1 := ne_toI q1 (show Int32.toInt (nI 1) = (1 : Int) by decide); have t2 := ne_toI q2 (show Int32.toInt (nI 2) = (2 : Int) by decide); have t3 := ne_toI q3 (show Int32.toInt (nI 3) = (3 : Int) by decide); omega) (by decide) ?_
          refine lv_aload_n hx hb dX1_obey_67 rfl (lv_at hl 0 rfl) ?_
          obtain ⟨ho, hk⟩ := hk
          refine r_calli Z (r_runV (As := []) (rest := []) C Z (m_X1_publishVersion l g h x0 _ hk) ho rfl (cwV 0 C.1.2.2.2.2 (gV tw_712 tw_424 tw_425 tw_58 tw_426) rfl rfl rfl (by decide +kernel) ⟨Nat.le_of_ble_eq_true rfl, Nat.le_of_ble_eq_true rfl⟩) rfl hl.1 rfl (Nat.le_of_ble_eq_true rfl) dX1_obey_68 ⟨Nat.zero_le _, Nat.zero_le _⟩) (fun r68 h68 H locs hk Z => ?_)
          exact r_iret C Z hr hk dX1_obey_71
abbrev rmX3_runWith : Room := ({ frames := 6, cells := 0, slots := 0, locals := 142 } : Room)
abbrev wzX3_runWith : List Cond := WS yX3_runWith cX3_runWith 6 (some .int)
set_option maxRecDepth 100000 in
set_option maxHeartbeats 4000000 in
theorem w_X3_runWith_9 {p : Program} {l : Launch} {e : Env} {s : State} {m : MethodId} {args : Array Value} {below : List Frame} {meth : Method} {c : Code} {g : Gt} {h0 : Hp} (C : Cx g (dm h0) RX3 cX3_runWith 6 p s m args meth c) (hr : meth.sig.returnType = (some .int)) {Post : Int32 → Hp → Prop} (x0 : Nat) (x1 : Nat)   : ∀ (n : Nat) (x2 : Int32) (h : Hp) (H : Heap) (locs : List Loc) (ls : Array Slot), lv_has ls 6 [(0, .ref x0), (1, .ref x1), (2, .int x2)] → St g (dm h0) s h H locs → wp_X3_runWith_9 Post x0 x1 n x2 h → W p l e rmX3_runWith s m args below meth c H locs 0 0 (MQ below (Qi g h0 Post) args s 0 0 (dm h0)) (F0 m 9 ls []) := by
  have hx := C.1.1
  have hb := C.1.2.1
  have hml := C.1.2.2.1
  have hown := C.1.2.2.2.1
  have hts := C.1.2.2.2.2
  intro n
  induction n with
  | zero => intro x2 h H locs ls hl Z hk; exact (show False from hk).elim
  | succ n ih =>
    intro x2 h H locs ls hl Z hk
    unfold wp_X3_runWith_9 at hk
    refine lv_iload_n hx hb dX3_runWith_9 rfl (lv_at hl 2 rfl) ?_
    refine lv_sipush (v := (nI 140)) hx hb dX3_runWith_10 (by decide) ?_
    refine lv_icmp_gt (tgt := 124) hx hb dX3_runWith_13 (by decide) (fun q => ?_) (fun q => ?_)
    · have hk := hk.1 q
      refine lv_sipush (v := (nI 140)) hx hb dX3_runWith_124 (by decide) ?_
      exact r_iret C Z hr hk dX3_runWith_127
    · have hk := hk.2 q
      refine lv_aload_n hx hb dX3_runWith_16 rfl (lv_at hl 0 rfl) ?_
      obtain ⟨v17, hv, hk⟩ := hk
      refine r_get (ci := 3) (k := 0) (T := TX3) (N := 7) C Z hv ku_3 rfl (by decide) tw_306 dX3_runWith_17 ?_
      obtain ⟨ho, hk⟩ := hk
      refine r_callv Z (r_runV (As := []) (rest := []) C Z (m_X7_readToken l g h v17 _ hk) ho rfl (cwV 0 C.1.2.2.2.2 (gV tw_606 tw_607 tw_608 tw_65 tw_609) rfl rfl rfl (by decide +kernel) ⟨Nat.le_of_ble_eq_true rfl, Nat.le_of_ble_eq_true rfl⟩) rfl hl.1 rfl (Nat.le_of_ble_eq_true rfl) dX3_runWith_20 ⟨Nat.zero_le _, Nat.zero_le _⟩) (fun h20 H locs hk Z => ?_)
      refine lv_aload_n hx hb dX3_runWith_23 rfl (lv_at hl 0 rfl) ?_
      obtain ⟨v24, hv, hk⟩ := hk
      refine r_get (ci := 3) (k := 0) (T := TX3) (N := 7) C Z hv ku_3 rfl (by decide) tw_306 dX3_runWith_24 ?_
      obtain ⟨v27, hv, hk⟩ := hk
      refine r_get (ci := 7) (k := 1) (T := TX7) (N := 5) C Z hv ku_7 rfl (by decide) tw_289 dX3_runWith_27 ?_
      refine lv_if_ne (tgt := 35) hx hb dX3_runWith_30 (by decide) (fun q => ?_) (fun q => ?_)
      · have hk := hk.1 q
        refine lv_aload_n hx hb dX3_runWith_35 rfl (lv_at hl 0 rfl) ?_
        obtain ⟨v36, hv, hk⟩ := hk
        refine r_get (ci := 3) (k := 0) (T := TX3) (N := 7) C Z hv ku_3 rfl (by decide) tw_306 dX3_runWith_36 ?_
        obtain ⟨v39, hv, hk⟩ := hk
        refine r_get (ci := 7) (k := 2) (T := TX7) (N := 5) C Z hv ku_7 rfl (by decide) tw_291 dX3_runWith_39 ?_
        refine lv_istore_n (lv' := [(3, .int v39), (0, .ref x0), (1, .ref x1), (2, .int x2)]) hx hb dX3_runWith_42 rfl hl (by decide) rfl (fun ls hl => ?_)
        refine lv_aload_n hx hb dX3_runWith_43 rfl (lv_at hl 1 rfl) ?_
        obtain ⟨ho, hk⟩ := hk
        refine r_calli Z (r_runV (As := []) (rest := []) C Z (m_X3_wordHere l g h20 x0 _ hk) ho rfl (cwV 0 C.1.2.2.2.2 (gV tw_613 tw_615 tw_10 tw_64 tw_616) rfl rfl rfl (by decide +kernel) ⟨Nat.le_of_ble_eq_true rfl, Nat.le_of_ble_eq_true rfl⟩) rfl hl.1 rfl (Nat.le_of_ble_eq_true rfl) dX3_runWith_44 ⟨Nat.zero_le _, Nat.zero_le _⟩) (fun r44 h44 H locs hk Z => ?_)
        refine lv_istore (lv' := [(4, .int r44), (3, .int v39), (0, .ref x0), (1, .ref x1), (2, .int x2)]) hx hb dX3_runWith_47 hl (by decide) rfl (fun ls hl => ?_)
        refine lv_iload hx hb dX3_runWith_49 (lv_at hl 0 rfl) ?_
        refine lv_iconst (v := (-1 : Int32)) hx hb dX3_runWith_51 (by decide) ?_
        refine lv_icmp_eq (tgt := 71) hx hb dX3_runWith_52 (by decide) (fun q => ?_) (fun q => ?_)
        · have hk := hk.1 q
          refine lv_aload_n hx hb dX3_runWith_71 rfl (lv_at hl 2 rfl) ?_
          refine lv_iconst (v := (nI 1)) hx hb dX3_runWith_72 (by decide) ?_
          refine lv_aload_n hx hb dX3_runWith_73 rfl (lv_at hl 2 rfl) ?_
          obtain ⟨v74, hv, hk⟩ := hk
          refine r_get (ci := 3) (k := 0) (T := TX3) (N := 7) C Z hv ku_3 rfl (by decide) tw_306 dX3_runWith_74 ?_
          obtain ⟨v77, hv, hk⟩ := hk
          refine r_get (ci := 7) (k := 2) (T := TX7) (N := 5) C Z hv ku_7 rfl (by decide) tw_291 dX3_runWith_77 ?_
          refine lv_iload_n hx hb dX3_runWith_80 rfl (lv_at hl 4 rfl) ?_
          refine lv_bipush (v := (-9 : Int32)) hx hb dX3_runWith_81 (by decide) ?_
          obtain ⟨ho, hk⟩ := hk
          refine r_calli Z (r_runV (As := [.int (nI 1), .int v77, .int x2, .int (-9 : Int32)]) (rest := []) C Z (m_X3_fail l g h44 x0 (nI 1) v77 x2 (-9 : Int32) _ hk) ho rfl (cwV 4 C.1.2.2.2.2 (gV tw_700 tw_702 tw_13 tw_64 tw_703) rfl rfl rfl (by decide +kernel) ⟨Nat.le_of_ble_eq_true rfl, Nat.le_of_ble_eq_true rfl⟩) rfl hl.1 rfl (Nat.le_of_ble_eq_true rfl) dX3_runWith_83 ⟨Nat.zero_le _, Nat.zero_le _⟩) (fun r83 h83 H locs hk Z => ?_)
          exact r_iret C Z hr hk dX3_runWith_86
        · have hk := hk.2 q
          refine lv_aload_n hx hb dX3_runWith_55 rfl (lv_at hl 2 rfl) ?_
          refine lv_iload hx hb dX3_runWith_56 (lv_at hl 0 rfl) ?_
          obtain ⟨ho, hk⟩ := hk
          refine r_calli Z (r_runV (As := [.int r44]) (rest := []) C Z (m_X3_readNumbers l g h44 x0 r44 _ hk) ho rfl (cwV 1 C.1.2.2.2.2 (gV tw_674 tw_676 tw_11 tw_64 tw_677) rfl rfl rfl (by decide +kernel) ⟨Nat.le_of_ble_eq_true rfl, Nat.le_of_ble_eq_true rfl⟩) rfl hl.1 rfl (Nat.le_of_ble_eq_true rfl) dX3_runWith_58 ⟨Nat.zero_le _, Nat.zero_le _⟩) (fun r58 h58 H locs hk Z => ?_)
          refine lv_if_eq (tgt := 71) hx hb dX3_runWith_61 (by decide) (fun q => ?_) (fun q => ?_)
          · have hk := hk.1 q
            refine lv_aload_n hx hb dX3_runWith_71 rfl (lv_at hl 2 rfl) ?_
            refine lv_iconst (v := (nI 1)) hx hb dX3_runWith_72 (by decide) ?_
            refine lv_aload_n hx hb dX3_runWith_73 rfl (lv_at hl 2 rfl) ?_
            obtain ⟨v74, hv, hk⟩ := hk
            refine r_get (ci := 3) (k := 0) (T := TX3) (N := 7) C Z hv ku_3 rfl (by decide) tw_306 dX3_runWith_74 ?_
            obtain ⟨v77, hv, hk⟩ := hk
            refine r_get (ci := 7) (k := 2) (T := TX7) (N := 5) C Z hv ku_7 rfl (by decide) tw_291 dX3_runWith_77 ?_
            refine lv_iload_n hx hb dX3_runWith_80 rfl (lv_at hl 4 rfl) ?_
            refine lv_bipush (v := (-9 : Int32)) hx hb dX3_runWith_81 (by decide) ?_
            obtain ⟨ho, hk⟩ := hk
            refine r_calli Z (r_runV (As := [.int (nI 1), .int v77, .int x2, .int (-9 : Int32)]) (rest := []) C Z (m_X3_fail l g h58 x0 (nI 1) v77 x2 (-9 : Int32) _ hk) ho rfl (cwV 4 C.1.2.2.2.2 (gV tw_700 tw_702 tw_13 tw_64 tw_703) rfl rfl rfl (by decide +kernel) ⟨Nat.le_of_ble_eq_true rfl, Nat.le_of_ble_eq_true rfl⟩) rfl hl.1 rfl (Nat.le_of_ble_eq_true rfl) dX3_runWith_83 ⟨Nat.zero_le _, Nat.zero_le _⟩) (fun r83 h83 H locs hk Z => ?_)
            exact r_iret C Z hr hk dX3_runWith_86
          · have hk := hk.2 q
            refine lv_aload_n hx hb dX3_runWith_64 rfl (lv_at hl 2 rfl) ?_
            obtain ⟨ho, hk⟩ := hk
            refine r_calli Z (r_runV (As := []) (rest := []) C Z (m_X3_readSemicolon l g h58 x0 _ hk) ho rfl (cwV 0 C.1.2.2.2.2 (gV tw_692 tw_694 tw_12 tw_64 tw_695) rfl rfl rfl (by decide +kernel) ⟨Nat.le_of_ble_eq_true rfl, Nat.le_of_ble_eq_true rfl⟩) rfl hl.1 rfl (Nat.le_of_ble_eq_true rfl) dX3_runWith_65 ⟨Nat.zero_le _, Nat.zero_le _⟩) (fun r65 h65 H locs hk Z => ?_)
            refine lv_if_ne (tgt := 87) hx hb dX3_runWith_68 (by decide) (fun q => ?_) (fun q => ?_)
            · have hk := hk.1 q
              refine lv_aload_n hx hb dX3_runWith_87 rfl (lv_at hl 3 rfl) ?_
              refine lv_iload hx hb dX3_runWith_88 (lv_at hl 0 rfl) ?_
              refine lv_aload_n hx hb dX3_runWith_90 rfl (lv_at hl 2 rfl) ?_
              obtain ⟨v91, hv, hk⟩ := hk
              refine r_get (ci := 3) (k := 5) (T := TX3) (N := 7) C Z hv ku_3 rfl (by decide) tw_316 dX3_runWith_91 ?_
              refine lv_aload_n hx hb dX3_runWith_94 rfl (lv_at hl 2 rfl) ?_
              obtain ⟨v95, hv, hk⟩ := hk
              refine r_get (ci := 3) (k := 6) (T := TX3) (N := 7) C Z hv ku_3 rfl (by decide) tw_317 dX3_runWith_95 ?_
              obtain ⟨ho, hk⟩ := hk
              refine r_calli Z (r_runV (As := [.int r44, .long v91, .long v95]) (rest := []) C Z (m_X1_obey l g h65 x1 r44 v91 v95 _ hk) ho rfl (cwV 3 C.1.2.2.2.2 (gV tw_704 tw_705 tw_706 tw_58 tw_707) rfl rfl rfl (by decide +kernel) ⟨Nat.le_of_ble_eq_true rfl, Nat.le_of_ble_eq_true rfl⟩) rfl hl.1 rfl (Nat.le_of_ble_eq_true rfl) dX3_runWith_98 ⟨Nat.zero_le _, Nat.zero_le _⟩) (fun r98 h98 H locs hk Z => ?_)
              refine lv_istore (lv' := [(5, .int r98), (4, .int r44), (3, .int v39), (0, .ref x0), (1, .ref x1), (2, .int x2)]) hx hb dX3_runWith_101 hl (by decide) rfl (fun ls hl => ?_)
              refine lv_iload hx hb dX3_runWith_103 (lv_at hl 0 rfl) ?_
              refine lv_if_ge (tgt := 118) hx hb dX3_runWith_105 (by decide) (fun q => ?_) (fun q => ?_)
              · have hk := hk.1 q
                obtain ⟨y118, ey118⟩ : ∃ y : Int32, y = x2 + (nI 1) := ⟨_, rfl⟩
                have hk := hk y118 ey118
                refine lv_iinc (v := y118) (lv' := [(2, .int y118), (5, .int r98), (4, .int r44), (3, .int v39), (0, .ref x0), (1, .ref x1)]) hx hb dX3_runWith_118 hl (k := 5) rfl (by rw [ey118]; rfl) (by decide) rfl (fun ls hl => ?_)
                refine lv_goto (tgt := 9) hx hb dX3_runWith_121 (by decide) ?_
                exact ih y118 h98 _ _ _ (lv_sub hl [4, 5, 0] rfl) Z hk
              · have hk := hk.2 q
                refine lv_aload_n hx hb dX3_runWith_108 rfl (lv_at hl 3 rfl) ?_
                refine lv_iconst (v := (nI 2)) hx hb dX3_runWith_109 (by decide) ?_
                refine lv_iload_n hx hb dX3_runWith_110 rfl (lv_at hl 2 rfl) ?_
                refine lv_iload_n hx hb dX3_runWith_111 rfl (lv_at hl 5 rfl) ?_
                refine lv_iload hx hb dX3_runWith_112 (lv_at hl 0 rfl) ?_
                obtain ⟨ho, hk⟩ := hk
                refine r_calli Z (r_runV (As := [.int (nI 2), .int v39, .int x2, .int r98]) (rest := []) C Z (m_X3_fail l g h98 x0 (nI 2) v39 x2 r98 _ hk) ho rfl (cwV 4 C.1.2.2.2.2 (gV tw_700 tw_702 tw_13 tw_64 tw_703) rfl rfl rfl (by decide +kernel) ⟨Nat.le_of_ble_eq_true rfl, Nat.le_of_ble_eq_true rfl⟩) rfl hl.1 rfl (Nat.le_of_ble_eq_true rfl) dX3_runWith_114 ⟨Nat.zero_le _, Nat.zero_le _⟩) (fun r114 h114 H locs hk Z => ?_)
                exact r_iret C Z hr hk dX3_runWith_117
            · have hk := hk.2 q
              refine lv_aload_n hx hb dX3_runWith_71 rfl (lv_at hl 2 rfl) ?_
              refine lv_iconst (v := (nI 1)) hx hb dX3_runWith_72 (by decide) ?_
              refine lv_aload_n hx hb dX3_runWith_73 rfl (lv_at hl 2 rfl) ?_
              obtain ⟨v74, hv, hk⟩ := hk
              refine r_get (ci := 3) (k := 0) (T := TX3) (N := 7) C Z hv ku_3 rfl (by decide) tw_306 dX3_runWith_74 ?_
              obtain ⟨v77, hv, hk⟩ := hk
              refine r_get (ci := 7) (k := 2) (T := TX7) (N := 5) C Z hv ku_7 rfl (by decide) tw_291 dX3_runWith_77 ?_
              refine lv_iload_n hx hb dX3_runWith_80 rfl (lv_at hl 4 rfl) ?_
              refine lv_bipush (v := (-9 : Int32)) hx hb dX3_runWith_81 (by decide) ?_
              obtain ⟨ho, hk⟩ := hk
              refine r_calli Z (r_runV (As := [.int (nI 1), .int v77, .int x2, .int (-9 : Int32)]) (rest := []) C Z (m_X3_fail l g h65 x0 (nI 1) v77 x2 (-9 : Int32) _ hk) ho rfl (cwV 4 C.1.2.2.2.2 (gV tw_700 tw_702 tw_13 tw_64 tw_703) rfl rfl rfl (by decide +kernel) ⟨Nat.le_of_ble_eq_true rfl, Nat.le_of_ble_eq_true rfl⟩) rfl hl.1 rfl (Nat.le_of_ble_eq_true rfl) dX3_runWith_83 ⟨Nat.zero_le _, Nat.zero_le _⟩) (fun r83 h83 H locs hk Z => ?_)
              exact r_iret C Z hr hk dX3_runWith_86
      · have hk := hk.2 q
        refine lv_iload_n hx hb dX3_runWith_33 rfl (lv_at hl 2 rfl) ?_
        exact r_iret C Z hr hk dX3_runWith_34
set_option maxRecDepth 100000 in
set_option maxHeartbeats 4000000 in
theorem m_X3_runWith (l : Launch) (g : Gt) (h : Hp) (x0 : Nat) (x1 : Nat) (Post : Int32 → Hp → Prop) (hk : wp_X3_runWith x0 x1 Post h) : Met l yX3_runWith wzX3_runWith rmX3_runWith (Pg g h [.ref x0, .ref x1]) (Qi g h Post) 0 0 (dm h) := by
  refine Met_of (cc := cX3_runWith) (maxL := 6) (ret := (some .int)) (by decide) (Nat.le_of_ble_eq_true rfl) (fun p e s m below meth c ls C hr hnm hl Z => ?_)
  have hx := C.1.1
  have hb := C.1.2.1
  have hml := C.1.2.2.1
  have hown := C.1.2.2.2.1
  have hts := C.1.2.2.2.2
  have hl : lv_has ls 6 [(0, .ref x0), (1, .ref x1)] := hl
  unfold wp_X3_runWith at hk
  generalize s.heap = H at Z ⊢
  generalize ([] : List Loc) = locs at Z ⊢
  refine lv_aload_n hx hb dX3_runWith_0 rfl (lv_at hl 0 rfl) ?_
  obtain ⟨v1, hv, hk⟩ := hk
  refine r_get (ci := 3) (k := 0) (T := TX3) (N := 7) C Z hv ku_3 rfl (by decide) tw_306 dX3_runWith_1 ?_
  obtain ⟨ho, hk⟩ := hk
  refine r_callv Z (r_runV (As := []) (rest := []) C Z (m_X7_rewind l g h v1 _ hk) ho rfl (cwV 0 C.1.2.2.2.2 (gV tw_602 tw_603 tw_604 tw_65 tw_605) rfl rfl rfl (by decide +kernel) ⟨Nat.le_of_ble_eq_true rfl, Nat.le_of_ble_eq_true rfl⟩) rfl hl.1 rfl (Nat.le_of_ble_eq_true rfl) dX3_runWith_4 ⟨Nat.zero_le _, Nat.zero_le _⟩) (fun h4 H locs hk Z => ?_)
  refine lv_iconst (v := (nI 0)) hx hb dX3_runWith_7 (by decide) ?_
  refine lv_istore_n (lv' := [(2, .int (nI 0)), (0, .ref x0), (1, .ref x1)]) hx hb dX3_runWith_8 rfl hl (by decide) rfl (fun ls hl => ?_)
  obtain ⟨n1, hk⟩ := hk
  exact w_X3_runWith_9 C hr x0 x1 n1 (nI 0) h4 _ _ _ (lv_sub hl [1, 2, 0] rfl) Z hk
abbrev rmX8_run : Room := ({ frames := 7, cells := 0, slots := 0, locals := 167 } : Room)
abbrev wzX8_run : List Cond := WS yX8_run cX8_run 2 (some .int)
set_option maxRecDepth 100000 in
set_option maxHeartbeats 4000000 in
theorem m_X8_run (l : Launch) (g : Gt) (h : Hp) (x0 : Nat) (Post : Int32 → Hp → Prop) (hk : wp_X8_run x0 Post h) : Met l yX8_run wzX8_run rmX8_run (Pg g h [.ref x0]) (Qi g h Post) 0 0 (dm h) := by
  refine Met_of (cc := cX8_run) (maxL := 2) (ret := (some .int)) (by decide) (Nat.le_of_ble_eq_true rfl) (fun p e s m below meth c ls C hr hnm hl Z => ?_)
  have hx := C.1.1
  have hb := C.1.2.1
  have hml := C.1.2.2.1
  have hown := C.1.2.2.2.1
  have hts := C.1.2.2.2.2
  have hl : lv_has ls 2 [(0, .ref x0)] := hl
  unfold wp_X8_run at hk
  generalize s.heap = H at Z ⊢
  generalize ([] : List Loc) = locs at Z ⊢
  refine lv_aload_n hx hb dX8_run_0 rfl (lv_at hl 0 rfl) ?_
  obtain ⟨v1, hv, hk⟩ := hk
  refine r_get (ci := 8) (k := 4) (T := TX8) (N := 6) C Z hv ku_8 rfl (by decide) tw_337 dX8_run_1 ?_
  refine lv_aload_n hx hb dX8_run_4 rfl (lv_at hl 0 rfl) ?_
  obtain ⟨v5, hv, hk⟩ := hk
  refine r_get (ci := 8) (k := 2) (T := TX8) (N := 6) C Z hv ku_8 rfl (by decide) tw_335 dX8_run_5 ?_
  refine lv_aload_n hx hb dX8_run_8 rfl (lv_at hl 0 rfl) ?_
  obtain ⟨v9, hv, hk⟩ := hk
  refine r_get (ci := 8) (k := 3) (T := TX8) (N := 6) C Z hv ku_8 rfl (by decide) tw_336 dX8_run_9 ?_
  obtain ⟨ho, hk⟩ := hk
  refine r_callv Z (r_runV (As := [.ref v5, .ref v9]) (rest := []) C Z (m_X2_prepare l g h v1 v5 v9 _ hk) ho rfl (cwV 2 C.1.2.2.2.2 (gV tw_356 tw_357 tw_358 tw_62 tw_359) rfl rfl rfl (by decide +kernel) ⟨Nat.le_of_ble_eq_true rfl, Nat.le_of_ble_eq_true rfl⟩) rfl hl.1 rfl (Nat.le_of_ble_eq_true rfl) dX8_run_12 ⟨Nat.zero_le _, Nat.zero_le _⟩) (fun h12 H locs hk Z => ?_)
  refine lv_aload_n hx hb dX8_run_15 rfl (lv_at hl 0 rfl) ?_
  obtain ⟨v16, hv, hk⟩ := hk
  refine r_get (ci := 8) (k := 5) (T := TX8) (N := 6) C Z hv ku_8 rfl (by decide) tw_338 dX8_run_16 ?_
  refine lv_aload_n hx hb dX8_run_19 rfl (lv_at hl 0 rfl) ?_
  obtain ⟨v20, hv, hk⟩ := hk
  refine r_get (ci := 8) (k := 0) (T := TX8) (N := 6) C Z hv ku_8 rfl (by decide) tw_333 dX8_run_20 ?_
  obtain ⟨ho, hk⟩ := hk
  refine r_calli Z (r_runV (As := [.ref v20]) (rest := []) C Z (m_X3_runWith l g h12 v16 v20 _ hk) ho rfl (cwV 1 C.1.2.2.2.2 (gV tw_598 tw_599 tw_600 tw_64 tw_601) rfl rfl rfl (by decide +kernel) ⟨Nat.le_of_ble_eq_true rfl, Nat.le_of_ble_eq_true rfl⟩) rfl hl.1 rfl (Nat.le_of_ble_eq_true rfl) dX8_run_23 ⟨Nat.zero_le _, Nat.zero_le _⟩) (fun r23 h23 H locs hk Z => ?_)
  refine lv_istore_n (lv' := [(1, .int r23), (0, .ref x0)]) hx hb dX8_run_26 rfl hl (by decide) rfl (fun ls hl => ?_)
  refine lv_iload_n hx hb dX8_run_27 rfl (lv_at hl 0 rfl) ?_
  refine lv_if_ge (tgt := 58) hx hb dX8_run_28 (by decide) (fun q => ?_) (fun q => ?_)
  · have hk := hk.1 q
    refine lv_aload_n hx hb dX8_run_58 rfl (lv_at hl 1 rfl) ?_
    obtain ⟨v59, hv, hk⟩ := hk
    refine r_get (ci := 8) (k := 5) (T := TX8) (N := 6) C Z hv ku_8 rfl (by decide) tw_338 dX8_run_59 ?_
    obtain ⟨v62, hv, hk⟩ := hk
    refine r_get (ci := 3) (k := 0) (T := TX3) (N := 7) C Z hv ku_3 rfl (by decide) tw_307 dX8_run_62 ?_
    obtain ⟨ho, hk⟩ := hk
    refine r_calli Z (r_runV (As := []) (rest := []) C Z (m_X7_empty l g h23 v62 _ hk) ho rfl (cwV 0 C.1.2.2.2.2 (gV tw_590 tw_591 tw_592 tw_65 tw_593) rfl rfl rfl (by decide +kernel) ⟨Nat.le_of_ble_eq_true rfl, Nat.le_of_ble_eq_true rfl⟩) rfl hl.1 rfl (Nat.le_of_ble_eq_true rfl) dX8_run_65 ⟨Nat.zero_le _, Nat.zero_le _⟩) (fun r65 h65 H locs hk Z => ?_)
    refine lv_pop hx hb dX8_run_68 rfl ?_
    refine lv_aload_n hx hb dX8_run_69 rfl (lv_at hl 1 rfl) ?_
    refine lv_iload_n hx hb dX8_run_70 rfl (lv_at hl 0 rfl) ?_
    obtain ⟨ho, hk⟩ := hk
    refine r_calli Z (r_runV (As := [.int r23]) (rest := []) C Z (m_X8_recordIfDone l g h65 x0 r23 _ hk) ho rfl (cwV 1 C.1.2.2.2.2 (gV tw_387 tw_389 tw_0 tw_57 tw_390) rfl rfl rfl (by decide +kernel) ⟨Nat.le_of_ble_eq_true rfl, Nat.le_of_ble_eq_true rfl⟩) rfl hl.1 rfl (Nat.le_of_ble_eq_true rfl) dX8_run_71 ⟨Nat.zero_le _, Nat.zero_le _⟩) (fun r71 h71 H locs hk Z => ?_)
    exact r_iret C Z hr hk dX8_run_74
  · have hk := hk.2 q
    refine lv_aload_n hx hb dX8_run_31 rfl (lv_at hl 1 rfl) ?_
    obtain ⟨v32, hv, hk⟩ := hk
    refine r_get (ci := 8) (k := 4) (T := TX8) (N := 6) C Z hv ku_8 rfl (by decide) tw_337 dX8_run_32 ?_
    refine lv_aload_n hx hb dX8_run_35 rfl (lv_at hl 1 rfl) ?_
    obtain ⟨v36, hv, hk⟩ := hk
    refine r_get (ci := 8) (k := 2) (T := TX8) (N := 6) C Z hv ku_8 rfl (by decide) tw_335 dX8_run_36 ?_
    refine lv_aload_n hx hb dX8_run_39 rfl (lv_at hl 1 rfl) ?_
    obtain ⟨v40, hv, hk⟩ := hk
    refine r_get (ci := 8) (k := 3) (T := TX8) (N := 6) C Z hv ku_8 rfl (by decide) tw_336 dX8_run_40 ?_
    obtain ⟨ho, hk⟩ := hk
    refine r_callv Z (r_runV (As := [.ref v36, .ref v40]) (rest := []) C Z (m_X2_giveBackPrepared l g h23 v32 v36 v40 _ hk) ho rfl (cwV 2 C.1.2.2.2.2 (gV tw_713 tw_714 tw_715 tw_62 tw_716) rfl rfl rfl (by decide +kernel) ⟨Nat.le_of_ble_eq_true rfl, Nat.le_of_ble_eq_true rfl⟩) rfl hl.1 rfl (Nat.le_of_ble_eq_true rfl) dX8_run_43 ⟨Nat.zero_le _, Nat.zero_le _⟩) (fun h43 H locs hk Z => ?_)
    refine lv_sipush (v := (-1000 : Int32)) hx hb dX8_run_46 (by decide) ?_
    refine lv_aload_n hx hb dX8_run_49 rfl (lv_at hl 1 rfl) ?_
    obtain ⟨v50, hv, hk⟩ := hk
    refine r_get (ci := 8) (k := 5) (T := TX8) (N := 6) C Z hv ku_8 rfl (by decide) tw_338 dX8_run_50 ?_
    obtain ⟨v53, hv, hk⟩ := hk
    refine r_get (ci := 3) (k := 2) (T := TX3) (N := 7) C Z hv ku_3 rfl (by decide) tw_311 dX8_run_53 ?_
    refine lv_isub hx hb dX8_run_56 ?_
    exact r_iret C Z hr hk dX8_run_57
abbrev rmX8_failure : Room := ({ frames := 1, cells := 0, slots := 0, locals := 22 } : Room)
abbrev wzX8_failure : List Cond := WS yX8_failure cX8_failure 2 (some .int)
set_option maxRecDepth 100000 in
set_option maxHeartbeats 4000000 in
theorem m_X8_failure (l : Launch) (g : Gt) (h : Hp) (x0 : Nat) (x1 : Int32) (Post : Int32 → Hp → Prop) (hk : wp_X8_failure x0 x1 Post h) : Met l yX8_failure wzX8_failure rmX8_failure (Pg g h [.ref x0, .int x1]) (Qi g h Post) 0 0 (dm h) := by
  refine Met_of (cc := cX8_failure) (maxL := 2) (ret := (some .int)) (by decide) (Nat.le_of_ble_eq_true rfl) (fun p e s m below meth c ls C hr hnm hl Z => ?_)
  have hx := C.1.1
  have hb := C.1.2.1
  have hml := C.1.2.2.1
  have hown := C.1.2.2.2.1
  have hts := C.1.2.2.2.2
  have hl : lv_has ls 2 [(0, .ref x0), (1, .int x1)] := hl
  unfold wp_X8_failure at hk
  generalize s.heap = H at Z ⊢
  generalize ([] : List Loc) = locs at Z ⊢
  refine lv_iload_n hx hb dX8_failure_0 rfl (lv_at hl 1 rfl) ?_
  refine lv_iconst (v := (nI 0)) hx hb dX8_failure_1 (by decide) ?_
  refine lv_iconst (v := (nI 3)) hx hb dX8_failure_2 (by decide) ?_
  refine r_calli Z (r_runS (As := [.int x1, .int (nI 0), .int (nI 3)]) (rest := []) C Z (m_X8_within l g h x1 (nI 0) (nI 3) _ hk) (va_cwS 3 C.1.2.2.2.2 (gS tw_547 tw_381 tw_57 tw_382) rfl rfl rfl (by decide +kernel) ⟨Nat.le_of_ble_eq_true rfl, Nat.le_of_ble_eq_true rfl⟩) rfl hl.1 rfl (Nat.le_of_ble_eq_true rfl) dX8_failure_3 ⟨Nat.zero_le _, Nat.zero_le _⟩) (fun r3 h3 H locs hk Z => ?_)
  refine lv_if_ne (tgt := 11) hx hb dX8_failure_6 (by decide) (fun q => ?_) (fun q => ?_)
  · have hk := hk.1 q
    refine lv_aload_n hx hb dX8_failure_11 rfl (lv_at hl 0 rfl) ?_
    obtain ⟨v12, hv, hk⟩ := hk
    refine r_get (ci := 8) (k := 5) (T := TX8) (N := 6) C Z hv ku_8 rfl (by decide) tw_338 dX8_failure_12 ?_
    obtain ⟨v15, hv, hk⟩ := hk
    refine r_get (ci := 3) (k := 1) (T := TX3) (N := 7) C Z hv ku_3 rfl (by decide) tw_309 dX8_failure_15 ?_
    refine lv_if_ne (tgt := 24) hx hb dX8_failure_18 (by decide) (fun q => ?_) (fun q => ?_)
    · have hk := hk.1 q
      refine lv_iload_n hx hb dX8_failure_24 rfl (lv_at hl 1 rfl) ?_
      rcases Classical.em (x1 = (nI 0)) with q | q0
      · have hk := hk.1 q
        refine lv_tableIn (tgt := 52) hx hb dX8_failure_25 (by rw [q]; decide) (by rw [q]; decide) (by rw [q]; rfl) (by decide) ?_
        refine lv_aload_n hx hb dX8_failure_52 rfl (lv_at hl 0 rfl) ?_
        obtain ⟨v53, hv, hk⟩ := hk
        refine r_get (ci := 8) (k := 5) (T := TX8) (N := 6) C Z hv ku_8 rfl (by decide) tw_338 dX8_failure_53 ?_
        obtain ⟨v56, hv, hk⟩ := hk
        refine r_get (ci := 3) (k := 1) (T := TX3) (N := 7) C Z hv ku_3 rfl (by decide) tw_309 dX8_failure_56 ?_
        exact r_iret C Z hr hk dX8_failure_59
      · have hk := hk.2 q0
        rcases Classical.em (x1 = (nI 1)) with q | q1
        · have hk := hk.1 q
          refine lv_tableIn (tgt := 60) hx hb dX8_failure_25 (by rw [q]; decide) (by rw [q]; decide) (by rw [q]; rfl) (by decide) ?_
          refine lv_aload_n hx hb dX8_failure_60 rfl (lv_at hl 0 rfl) ?_
          obtain ⟨v61, hv, hk⟩ := hk
          refine r_get (ci := 8) (k := 5) (T := TX8) (N := 6) C Z hv ku_8 rfl (by decide) tw_338 dX8_failure_61 ?_
          obtain ⟨v64, hv, hk⟩ := hk
          refine r_get (ci := 3) (k := 2) (T := TX3) (N := 7) C Z hv ku_3 rfl (by decide) tw_311 dX8_failure_64 ?_
          exact r_iret C Z hr hk dX8_failure_67
        · have hk := hk.2 q1
          rcases Classical.em (x1 = (nI 2)) with q | q2
          · have hk := hk.1 q
            refine lv_tableIn (tgt := 68) hx hb dX8_failure_25 (by rw [q]; decide) (by rw [q]; decide) (by rw [q]; rfl) (by decide) ?_
            refine lv_aload_n hx hb dX8_failure_68 rfl (lv_at hl 0 rfl) ?_
            obtain ⟨v69, hv, hk⟩ := hk
            refine r_get (ci := 8) (k := 5) (T := TX8) (N := 6) C Z hv ku_8 rfl (by decide) tw_338 dX8_failure_69 ?_
            obtain ⟨v72, hv, hk⟩ := hk
            refine r_get (ci := 3) (k := 3) (T := TX3) (N := 7) C Z hv ku_3 rfl (by decide) tw_313 dX8_failure_72 ?_
            exact r_iret C Z hr hk dX8_failure_75
          · have hk := hk.2 q2
            refine lv_tableOut (tgt := 76) hx hb dX8_failure_25 (by have t0 := ne_toI q0 (show Int32.toInt (nI 0) = (0 : Int) by decide); have t1 := ne_toI q1 (show Int32.toInt (nI 1) = (1 : Int) by decide); have t2 := ne_toI q2 (show Int32.toInt (nI 2) = (2 : Int) by decide); omega) (by decide) ?_
            refine lv_aload_n hx hb dX8_failure_76 rfl (lv_at hl 0 rfl) ?_
            obtain ⟨v77, hv, hk⟩ := hk
            refine r_get (ci := 8) (k := 5) (T := TX8) (N := 6) C Z hv ku_8 rfl (by decide) tw_338 dX8_failure_77 ?_
            obtain ⟨v80, hv, hk⟩ := hk
            refine r_get (ci := 3) (k := 4) (T := TX3) (N := 7) C Z hv ku_3 rfl (by decide) tw_315 dX8_failure_80 ?_
            exact r_iret C Z hr hk dX8_failure_83
    · have hk := hk.2 q
      refine lv_bipush (v := (-9 : Int32)) hx hb dX8_failure_21 (by decide) ?_
      exact r_iret C Z hr hk dX8_failure_23
  · have hk := hk.2 q
    refine lv_iconst (v := (-1 : Int32)) hx hb dX8_failure_9 (by decide) ?_
    exact r_iret C Z hr hk dX8_failure_10
abbrev rmX8_count : Room := ({ frames := 4, cells := 0, slots := 0, locals := 88 } : Room)
abbrev wzX8_count : List Cond := WS yX8_count cX8_count 2 (some .int)
set_option maxRecDepth 100000 in
set_option maxHeartbeats 4000000 in
theorem w_X8_count_25 {p : Program} {l : Launch} {e : Env} {s : State} {m : MethodId} {args : Array Value} {below : List Frame} {meth : Method} {c : Code} {g : Gt} {h0 : Hp} (C : Cx g (dm h0) RX8 cX8_count 2 p s m args meth c) (hr : meth.sig.returnType = (some .int)) {Post : Int32 → Hp → Prop} (x0 : Nat) (x1 : Int32)    : ∀ (h : Hp) (H : Heap) (locs : List Loc) (ls : Array Slot), lv_has ls 2 [(0, .ref x0), (1, .int x1)] → St g (dm h0) s h H locs → wp_X8_count_25 Post x0 x1 h → W p l e rmX8_count s m args below meth c H locs 0 0 (MQ below (Qi g h0 Post) args s 0 0 (dm h0)) (F0 m 25 ls []) := by
  have hx := C.1.1
  have hb := C.1.2.1
  have hml := C.1.2.2.1
  have hown := C.1.2.2.2.1
  have hts := C.1.2.2.2.2
  intro h H locs ls hl Z hk
  unfold wp_X8_count_25 at hk
  refine lv_aload_n hx hb dX8_count_25 rfl (lv_at hl 0 rfl) ?_
  obtain ⟨v26, hv, hk⟩ := hk
  refine r_get (ci := 8) (k := 1) (T := TX8) (N := 6) C Z hv ku_8 rfl (by decide) tw_334 dX8_count_26 ?_
  obtain ⟨ho, hk⟩ := hk
  refine r_callv Z (r_runV (As := []) (rest := []) C Z (m_X4_workOut l g h v26 _ hk) ho rfl (cwV 0 C.1.2.2.2.2 (gV tw_726 tw_428 tw_429 tw_59 tw_430) rfl rfl rfl (by decide +kernel) ⟨Nat.le_of_ble_eq_true rfl, Nat.le_of_ble_eq_true rfl⟩) rfl hl.1 rfl (Nat.le_of_ble_eq_true rfl) dX8_count_29 ⟨Nat.zero_le _, Nat.zero_le _⟩) (fun h29 H locs hk Z => ?_)
  refine lv_iload_n hx hb dX8_count_32 rfl (lv_at hl 1 rfl) ?_
  rcases Classical.em (x1 = (nI 0)) with q | q0
  · have hk := hk.1 q
    refine lv_tableIn (tgt := 92) hx hb dX8_count_33 (by rw [q]; decide) (by rw [q]; decide) (by rw [q]; rfl) (by decide) ?_
    refine lv_aload_n hx hb dX8_count_92 rfl (lv_at hl 0 rfl) ?_
    obtain ⟨v93, hv, hk⟩ := hk
    refine r_get (ci := 8) (k := 2) (T := TX8) (N := 6) C Z hv ku_8 rfl (by decide) tw_335 dX8_count_93 ?_
    obtain ⟨v96, hv, hk⟩ := hk
    refine r_get (ci := 0) (k := 0) (T := TX0) (N := 11) C Z hv ku_0 rfl (by decide) tw_102 dX8_count_96 ?_
    exact r_iret C Z hr hk dX8_count_99
  · have hk := hk.2 q0
    rcases Classical.em (x1 = (nI 1)) with q | q1
    · have hk := hk.1 q
      refine lv_tableIn (tgt := 100) hx hb dX8_count_33 (by rw [q]; decide) (by rw [q]; decide) (by rw [q]; rfl) (by decide) ?_
      refine lv_aload_n hx hb dX8_count_100 rfl (lv_at hl 0 rfl) ?_
      obtain ⟨v101, hv, hk⟩ := hk
      refine r_get (ci := 8) (k := 2) (T := TX8) (N := 6) C Z hv ku_8 rfl (by decide) tw_335 dX8_count_101 ?_
      refine lv_iconst (v := (nI 2)) hx hb dX8_count_104 (by decide) ?_
      obtain ⟨ho, hk⟩ := hk
      refine r_calli Z (r_runV (As := [.int (nI 2)]) (rest := []) C Z (m_X0_cardsInStage l g h29 v101 (nI 2) _ hk) ho rfl (cwV 1 C.1.2.2.2.2 (gV tw_727 tw_526 tw_527 tw_60 tw_528) rfl rfl rfl (by decide +kernel) ⟨Nat.le_of_ble_eq_true rfl, Nat.le_of_ble_eq_true rfl⟩) rfl hl.1 rfl (Nat.le_of_ble_eq_true rfl) dX8_count_105 ⟨Nat.zero_le _, Nat.zero_le _⟩) (fun r105 h105 H locs hk Z => ?_)
      exact r_iret C Z hr hk dX8_count_108
    · have hk := hk.2 q1
      rcases Classical.em (x1 = (nI 2)) with q | q2
      · have hk := hk.1 q
        refine lv_tableIn (tgt := 109) hx hb dX8_count_33 (by rw [q]; decide) (by rw [q]; decide) (by rw [q]; rfl) (by decide) ?_
        refine lv_aload_n hx hb dX8_count_109 rfl (lv_at hl 0 rfl) ?_
        obtain ⟨v110, hv, hk⟩ := hk
        refine r_get (ci := 8) (k := 2) (T := TX8) (N := 6) C Z hv ku_8 rfl (by decide) tw_335 dX8_count_110 ?_
        refine lv_iconst (v := (nI 1)) hx hb dX8_count_113 (by decide) ?_
        obtain ⟨ho, hk⟩ := hk
        refine r_calli Z (r_runV (As := [.int (nI 1)]) (rest := []) C Z (m_X0_cardsInStage l g h29 v110 (nI 1) _ hk) ho rfl (cwV 1 C.1.2.2.2.2 (gV tw_727 tw_526 tw_527 tw_60 tw_528) rfl rfl rfl (by decide +kernel) ⟨Nat.le_of_ble_eq_true rfl, Nat.le_of_ble_eq_true rfl⟩) rfl hl.1 rfl (Nat.le_of_ble_eq_true rfl) dX8_count_114 ⟨Nat.zero_le _, Nat.zero_le _⟩) (fun r114 h114 H locs hk Z => ?_)
        exact r_iret C Z hr hk dX8_count_117
      · have hk := hk.2 q2
        rcases Classical.em (x1 = (nI 3)) with q | q3
        · have hk := hk.1 q
          refine lv_tableIn (tgt := 118) hx hb dX8_count_33 (by rw [q]; decide) (by rw [q]; decide) (by rw [q]; rfl) (by decide) ?_
          refine lv_aload_n hx hb dX8_count_118 rfl (lv_at hl 0 rfl) ?_
          obtain ⟨v119, hv, hk⟩ := hk
          refine r_get (ci := 8) (k := 1) (T := TX8) (N := 6) C Z hv ku_8 rfl (by decide) tw_334 dX8_count_119 ?_
          obtain ⟨ho, hk⟩ := hk
          refine r_calli Z (r_runV (As := []) (rest := []) C Z (m_X4_poolSize l g h29 v119 _ hk) ho rfl (cwV 0 C.1.2.2.2.2 (gV tw_728 tw_502 tw_503 tw_59 tw_504) rfl rfl rfl (by decide +kernel) ⟨Nat.le_of_ble_eq_true rfl, Nat.le_of_ble_eq_true rfl⟩) rfl hl.1 rfl (Nat.le_of_ble_eq_true rfl) dX8_count_122 ⟨Nat.zero_le _, Nat.zero_le _⟩) (fun r122 h122 H locs hk Z => ?_)
          exact r_iret C Z hr hk dX8_count_125
        · have hk := hk.2 q3
          rcases Classical.em (x1 = (nI 4)) with q | q4
          · have hk := hk.1 q
            refine lv_tableIn (tgt := 126) hx hb dX8_count_33 (by rw [q]; decide) (by rw [q]; decide) (by rw [q]; rfl) (by decide) ?_
            refine lv_aload_n hx hb dX8_count_126 rfl (lv_at hl 0 rfl) ?_
            obtain ⟨v127, hv, hk⟩ := hk
            refine r_get (ci := 8) (k := 2) (T := TX8) (N := 6) C Z hv ku_8 rfl (by decide) tw_335 dX8_count_127 ?_
            obtain ⟨v130, hv, hk⟩ := hk
            refine r_get (ci := 0) (k := 1) (T := TX0) (N := 11) C Z hv ku_0 rfl (by decide) tw_106 dX8_count_130 ?_
            exact r_iret C Z hr hk dX8_count_133
          · have hk := hk.2 q4
            rcases Classical.em (x1 = (nI 5)) with q | q5
            · have hk := hk.1 q
              refine lv_tableIn (tgt := 134) hx hb dX8_count_33 (by rw [q]; decide) (by rw [q]; decide) (by rw [q]; rfl) (by decide) ?_
              refine lv_aload_n hx hb dX8_count_134 rfl (lv_at hl 0 rfl) ?_
              obtain ⟨v135, hv, hk⟩ := hk
              refine r_get (ci := 8) (k := 1) (T := TX8) (N := 6) C Z hv ku_8 rfl (by decide) tw_334 dX8_count_135 ?_
              obtain ⟨ho, hk⟩ := hk
              refine r_calli Z (r_runV (As := []) (rest := []) C Z (m_X4_cardsChanging l g h29 v135 _ hk) ho rfl (cwV 0 C.1.2.2.2.2 (gV tw_729 tw_485 tw_486 tw_59 tw_487) rfl rfl rfl (by decide +kernel) ⟨Nat.le_of_ble_eq_true rfl, Nat.le_of_ble_eq_true rfl⟩) rfl hl.1 rfl (Nat.le_of_ble_eq_true rfl) dX8_count_138 ⟨Nat.zero_le _, Nat.zero_le _⟩) (fun r138 h138 H locs hk Z => ?_)
              exact r_iret C Z hr hk dX8_count_141
            · have hk := hk.2 q5
              rcases Classical.em (x1 = (nI 6)) with q | q6
              · have hk := hk.1 q
                refine lv_tableIn (tgt := 142) hx hb dX8_count_33 (by rw [q]; decide) (by rw [q]; decide) (by rw [q]; rfl) (by decide) ?_
                refine lv_aload_n hx hb dX8_count_142 rfl (lv_at hl 0 rfl) ?_
                obtain ⟨v143, hv, hk⟩ := hk
                refine r_get (ci := 8) (k := 1) (T := TX8) (N := 6) C Z hv ku_8 rfl (by decide) tw_334 dX8_count_143 ?_
                obtain ⟨ho, hk⟩ := hk
                refine r_calli Z (r_runV (As := []) (rest := []) C Z (m_X4_unseenChanging l g h29 v143 _ hk) ho rfl (cwV 0 C.1.2.2.2.2 (gV tw_730 tw_481 tw_482 tw_59 tw_483) rfl rfl rfl (by decide +kernel) ⟨Nat.le_of_ble_eq_true rfl, Nat.le_of_ble_eq_true rfl⟩) rfl hl.1 rfl (Nat.le_of_ble_eq_true rfl) dX8_count_146 ⟨Nat.zero_le _, Nat.zero_le _⟩) (fun r146 h146 H locs hk Z => ?_)
                exact r_iret C Z hr hk dX8_count_149
              · have hk := hk.2 q6
                rcases Classical.em (x1 = (nI 7)) with q | q7
                · have hk := hk.1 q
                  refine lv_tableIn (tgt := 150) hx hb dX8_count_33 (by rw [q]; decide) (by rw [q]; decide) (by rw [q]; rfl) (by decide) ?_
                  refine lv_aload_n hx hb dX8_count_150 rfl (lv_at hl 0 rfl) ?_
                  obtain ⟨v151, hv, hk⟩ := hk
                  refine r_get (ci := 8) (k := 1) (T := TX8) (N := 6) C Z hv ku_8 rfl (by decide) tw_334 dX8_count_151 ?_
                  obtain ⟨ho, hk⟩ := hk
                  refine r_calli Z (r_runV (As := []) (rest := []) C Z (m_X4_streaks l g h29 v151 _ hk) ho rfl (cwV 0 C.1.2.2.2.2 (gV tw_731 tw_732 tw_733 tw_59 tw_734) rfl rfl rfl (by decide +kernel) ⟨Nat.le_of_ble_eq_true rfl, Nat.le_of_ble_eq_true rfl⟩) rfl hl.1 rfl (Nat.le_of_ble_eq_true rfl) dX8_count_154 ⟨Nat.zero_le _, Nat.zero_le _⟩) (fun r154 h154 H locs hk Z => ?_)
                  exact r_iret C Z hr hk dX8_count_157
                · have hk := hk.2 q7
                  rcases Classical.em (x1 = (nI 8)) with q | q8
                  · have hk := hk.1 q
                    refine lv_tableIn (tgt := 158) hx hb dX8_count_33 (by rw [q]; decide) (by rw [q]; decide) (by rw [q]; rfl) (by decide) ?_
                    refine lv_aload_n hx hb dX8_count_158 rfl (lv_at hl 0 rfl) ?_
                    obtain ⟨v159, hv, hk⟩ := hk
                    refine r_get (ci := 8) (k := 3) (T := TX8) (N := 6) C Z hv ku_8 rfl (by decide) tw_336 dX8_count_159 ?_
                    obtain ⟨ho, hk⟩ := hk
                    refine r_calli Z (r_runV (As := []) (rest := []) C Z (m_X5_snapshots l g h29 v159 _ hk) ho rfl (cwV 0 C.1.2.2.2.2 (gV tw_735 tw_736 tw_737 tw_61 tw_738) rfl rfl rfl (by decide +kernel) ⟨Nat.le_of_ble_eq_true rfl, Nat.le_of_ble_eq_true rfl⟩) rfl hl.1 rfl (Nat.le_of_ble_eq_true rfl) dX8_count_162 ⟨Nat.zero_le _, Nat.zero_le _⟩) (fun r162 h162 H locs hk Z => ?_)
                    exact r_iret C Z hr hk dX8_count_165
                  · have hk := hk.2 q8
                    rcases Classical.em (x1 = (nI 9)) with q | q9
                    · have hk := hk.1 q
                      refine lv_tableIn (tgt := 166) hx hb dX8_count_33 (by rw [q]; decide) (by rw [q]; decide) (by rw [q]; rfl) (by decide) ?_
                      refine lv_aload_n hx hb dX8_count_166 rfl (lv_at hl 0 rfl) ?_
                      obtain ⟨v167, hv, hk⟩ := hk
                      refine r_get (ci := 8) (k := 4) (T := TX8) (N := 6) C Z hv ku_8 rfl (by decide) tw_337 dX8_count_167 ?_
                      obtain ⟨v170, hv, hk⟩ := hk
                      refine r_get (ci := 2) (k := 0) (T := TX2) (N := 2) C Z hv ku_2 rfl (by decide) tw_268 dX8_count_170 ?_
                      exact r_iret C Z hr hk dX8_count_173
                    · have hk := hk.2 q9
                      rcases Classical.em (x1 = (nI 10)) with q | q10
                      · have hk := hk.1 q
                        refine lv_tableIn (tgt := 174) hx hb dX8_count_33 (by rw [q]; decide) (by rw [q]; decide) (by rw [q]; rfl) (by decide) ?_
                        refine lv_aload_n hx hb dX8_count_174 rfl (lv_at hl 0 rfl) ?_
                        obtain ⟨v175, hv, hk⟩ := hk
                        refine r_get (ci := 8) (k := 5) (T := TX8) (N := 6) C Z hv ku_8 rfl (by decide) tw_338 dX8_count_175 ?_
                        obtain ⟨v178, hv, hk⟩ := hk
                        refine r_get (ci := 3) (k := 0) (T := TX3) (N := 7) C Z hv ku_3 rfl (by decide) tw_307 dX8_count_178 ?_
                        obtain ⟨v181, hv, hk⟩ := hk
                        refine r_get (ci := 7) (k := 0) (T := TX7) (N := 5) C Z hv ku_7 rfl (by decide) tw_288 dX8_count_181 ?_
                        exact r_iret C Z hr hk dX8_count_184
                      · have hk := hk.2 q10
                        refine lv_tableOut (tgt := 185) hx hb dX8_count_33 (by have t0 := ne_toI q0 (show Int32.toInt (nI 0) = (0 : Int) by decide); have t1 := ne_toI q1 (show Int32.toInt (nI 1) = (1 : Int) by decide); have t2 := ne_toI q2 (show Int32.toInt (nI 2) = (2 : Int) by decide); have t3 := ne_toI q3 (show Int32.toInt (nI 3) = (3 : Int) by decide); have t4 := ne_toI q4 (show Int32.toInt (nI 4) = (4 : Int) by decide); have t5 := ne_toI q5 (show Int32.toInt (nI 5) = (5 : Int) by decide); have t6 := ne_toI q6 (show Int32.toInt (nI 6) = (6 : Int) by decide); have t7 := ne_toI q7 (show Int32.toInt (nI 7) = (7 : Int) by decide); have t8 := ne_toI q8 (show Int32.toInt (nI 8) = (8 : Int) by decide); have t9 := ne_toI q9 (show Int32.toInt (nI 9) = (9 : Int) by decide); have t10 := ne_toI q10 (show Int32.toInt (nI 10) = (10 : Int) by decide); omega) (by decide) ?_
                        refine lv_iconst (v := (-1 : Int32)) hx hb dX8_count_185 (by decide) ?_
                        exact r_iret C Z hr hk dX8_count_186
set_option maxRecDepth 100000 in
set_option maxHeartbeats 4000000 in
theorem m_X8_count (l : Launch) (g : Gt) (h : Hp) (x0 : Nat) (x1 : Int32) (Post : Int32 → Hp → Prop) (hk : wp_X8_count x0 x1 Post h) : Met l yX8_count wzX8_count rmX8_count (Pg g h [.ref x0, .int x1]) (Qi g h Post) 0 0 (dm h) := by
  refine Met_of (cc := cX8_count) (maxL := 2) (ret := (some .int)) (by decide) (Nat.le_of_ble_eq_true rfl) (fun p e s m below meth c ls C hr hnm hl Z => ?_)
  have hx := C.1.1
  have hb := C.1.2.1
  have hml := C.1.2.2.1
  have hown := C.1.2.2.2.1
  have hts := C.1.2.2.2.2
  have hl : lv_has ls 2 [(0, .ref x0), (1, .int x1)] := hl
  unfold wp_X8_count at hk
  generalize s.heap = H at Z ⊢
  generalize ([] : List Loc) = locs at Z ⊢
  refine lv_iload_n hx hb dX8_count_0 rfl (lv_at hl 1 rfl) ?_
  refine lv_bipush (v := (nI 11)) hx hb dX8_count_1 (by decide) ?_
  refine lv_icmp_lt (tgt := 25) hx hb dX8_count_3 (by decide) (fun q => ?_) (fun q => ?_)
  · have hk := hk.1 q
    exact w_X8_count_25 C hr x0 x1 h _ _ _ (lv_sub hl [0, 1] rfl) Z hk
  · have hk := hk.2 q
    refine lv_iload_n hx hb dX8_count_6 rfl (lv_at hl 1 rfl) ?_
    refine lv_bipush (v := (nI 15)) hx hb dX8_count_7 (by decide) ?_
    refine lv_icmp_ge (tgt := 25) hx hb dX8_count_9 (by decide) (fun q => ?_) (fun q => ?_)
    · have hk := hk.1 q
      exact w_X8_count_25 C hr x0 x1 h _ _ _ (lv_sub hl [0, 1] rfl) Z hk
    · have hk := hk.2 q
      refine lv_aload_n hx hb dX8_count_12 rfl (lv_at hl 0 rfl) ?_
      obtain ⟨v13, hv, hk⟩ := hk
      refine r_get (ci := 8) (k := 2) (T := TX8) (N := 6) C Z hv ku_8 rfl (by decide) tw_335 dX8_count_13 ?_
      obtain ⟨v16, hv, hk⟩ := hk
      refine r_get (ci := 0) (k := 8) (T := TX0) (N := 11) C Z hv ku_0 rfl (by decide) tw_130 dX8_count_16 ?_
      refine lv_iload_n hx hb dX8_count_19 rfl (lv_at hl 1 rfl) ?_
      refine lv_bipush (v := (nI 11)) hx hb dX8_count_20 (by decide) ?_
      refine lv_isub hx hb dX8_count_22 ?_
      obtain ⟨v23, hv, hk⟩ := hk
      refine r_iald C Z hv dX8_count_23 ?_
      exact r_iret C Z hr hk dX8_count_24
abbrev rmX8_card : Room := ({ frames := 4, cells := 0, slots := 0, locals := 88 } : Room)
abbrev wzX8_card : List Cond := WS yX8_card cX8_card 3 (some .int)
set_option maxRecDepth 100000 in
set_option maxHeartbeats 4000000 in
theorem m_X8_card (l : Launch) (g : Gt) (h : Hp) (x0 : Nat) (x1 : Int32) (x2 : Int32) (Post : Int32 → Hp → Prop) (hk : wp_X8_card x0 x1 x2 Post h) : Met l yX8_card wzX8_card rmX8_card (Pg g h [.ref x0, .int x1, .int x2]) (Qi g h Post) 0 0 (dm h) := by
  refine Met_of (cc := cX8_card) (maxL := 3) (ret := (some .int)) (by decide) (Nat.le_of_ble_eq_true rfl) (fun p e s m below meth c ls C hr hnm hl Z => ?_)
  have hx := C.1.1
  have hb := C.1.2.1
  have hml := C.1.2.2.1
  have hown := C.1.2.2.2.1
  have hts := C.1.2.2.2.2
  have hl : lv_has ls 3 [(0, .ref x0), (1, .int x1), (2, .int x2)] := hl
  unfold wp_X8_card at hk
  generalize s.heap = H at Z ⊢
  generalize ([] : List Loc) = locs at Z ⊢
  refine lv_aload_n hx hb dX8_card_0 rfl (lv_at hl 0 rfl) ?_
  obtain ⟨v1, hv, hk⟩ := hk
  refine r_get (ci := 8) (k := 2) (T := TX8) (N := 6) C Z hv ku_8 rfl (by decide) tw_335 dX8_card_1 ?_
  refine lv_iload_n hx hb dX8_card_4 rfl (lv_at hl 1 rfl) ?_
  obtain ⟨ho, hk⟩ := hk
  refine r_calli Z (r_runV (As := [.int x1]) (rest := []) C Z (m_X0_hasCard l g h v1 x1 _ hk) ho rfl (cwV 1 C.1.2.2.2.2 (gV tw_743 tw_522 tw_523 tw_60 tw_524) rfl rfl rfl (by decide +kernel) ⟨Nat.le_of_ble_eq_true rfl, Nat.le_of_ble_eq_true rfl⟩) rfl hl.1 rfl (Nat.le_of_ble_eq_true rfl) dX8_card_5 ⟨Nat.zero_le _, Nat.zero_le _⟩) (fun r5 h5 H locs hk Z => ?_)
  refine lv_if_ne (tgt := 13) hx hb dX8_card_8 (by decide) (fun q => ?_) (fun q => ?_)
  · have hk := hk.1 q
    refine lv_aload_n hx hb dX8_card_13 rfl (lv_at hl 0 rfl) ?_
    obtain ⟨v14, hv, hk⟩ := hk
    refine r_get (ci := 8) (k := 1) (T := TX8) (N := 6) C Z hv ku_8 rfl (by decide) tw_334 dX8_card_14 ?_
    obtain ⟨ho, hk⟩ := hk
    refine r_callv Z (r_runV (As := []) (rest := []) C Z (m_X4_workOut l g h5 v14 _ hk) ho rfl (cwV 0 C.1.2.2.2.2 (gV tw_726 tw_428 tw_429 tw_59 tw_430) rfl rfl rfl (by decide +kernel) ⟨Nat.le_of_ble_eq_true rfl, Nat.le_of_ble_eq_true rfl⟩) rfl hl.1 rfl (Nat.le_of_ble_eq_true rfl) dX8_card_17 ⟨Nat.zero_le _, Nat.zero_le _⟩) (fun h17 H locs hk Z => ?_)
    refine lv_iload_n hx hb dX8_card_20 rfl (lv_at hl 2 rfl) ?_
    rcases Classical.em (x2 = (nI 0)) with q | q0
    · have hk := hk.1 q
      refine lv_tableIn (tgt := 60) hx hb dX8_card_21 (by rw [q]; decide) (by rw [q]; decide) (by rw [q]; rfl) (by decide) ?_
      refine lv_aload_n hx hb dX8_card_60 rfl (lv_at hl 0 rfl) ?_
      obtain ⟨v61, hv, hk⟩ := hk
      refine r_get (ci := 8) (k := 2) (T := TX8) (N := 6) C Z hv ku_8 rfl (by decide) tw_335 dX8_card_61 ?_
      obtain ⟨v64, hv, hk⟩ := hk
      refine r_get (ci := 0) (k := 2) (T := TX0) (N := 11) C Z hv ku_0 rfl (by decide) tw_110 dX8_card_64 ?_
      refine lv_iload_n hx hb dX8_card_67 rfl (lv_at hl 1 rfl) ?_
      obtain ⟨v68, hv, hk⟩ := hk
      refine r_iald C Z hv dX8_card_68 ?_
      exact r_iret C Z hr hk dX8_card_69
    · have hk := hk.2 q0
      rcases Classical.em (x2 = (nI 1)) with q | q1
      · have hk := hk.1 q
        refine lv_tableIn (tgt := 70) hx hb dX8_card_21 (by rw [q]; decide) (by rw [q]; decide) (by rw [q]; rfl) (by decide) ?_
        refine lv_aload_n hx hb dX8_card_70 rfl (lv_at hl 0 rfl) ?_
        obtain ⟨v71, hv, hk⟩ := hk
        refine r_get (ci := 8) (k := 2) (T := TX8) (N := 6) C Z hv ku_8 rfl (by decide) tw_335 dX8_card_71 ?_
        refine lv_aload_n hx hb dX8_card_74 rfl (lv_at hl 0 rfl) ?_
        obtain ⟨v75, hv, hk⟩ := hk
        refine r_get (ci := 8) (k := 2) (T := TX8) (N := 6) C Z hv ku_8 rfl (by decide) tw_335 dX8_card_75 ?_
        obtain ⟨v78, hv, hk⟩ := hk
        refine r_get (ci := 0) (k := 2) (T := TX0) (N := 11) C Z hv ku_0 rfl (by decide) tw_110 dX8_card_78 ?_
        refine lv_iload_n hx hb dX8_card_81 rfl (lv_at hl 1 rfl) ?_
        obtain ⟨v82, hv, hk⟩ := hk
        refine r_iald C Z hv dX8_card_82 ?_
        refine lv_iload_n hx hb dX8_card_83 rfl (lv_at hl 1 rfl) ?_
        obtain ⟨ho, hk⟩ := hk
        refine r_calli Z (r_runV (As := [.int v82, .int x1]) (rest := []) C Z (m_X0_cardsOf l g h17 v71 v82 x1 _ hk) ho rfl (cwV 2 C.1.2.2.2.2 (gV tw_744 tw_404 tw_405 tw_60 tw_406) rfl rfl rfl (by decide +kernel) ⟨Nat.le_of_ble_eq_true rfl, Nat.le_of_ble_eq_true rfl⟩) rfl hl.1 rfl (Nat.le_of_ble_eq_true rfl) dX8_card_84 ⟨Nat.zero_le _, Nat.zero_le _⟩) (fun r84 h84 H locs hk Z => ?_)
        exact r_iret C Z hr hk dX8_card_87
      · have hk := hk.2 q1
        rcases Classical.em (x2 = (nI 2)) with q | q2
        · have hk := hk.1 q
          refine lv_tableIn (tgt := 88) hx hb dX8_card_21 (by rw [q]; decide) (by rw [q]; decide) (by rw [q]; rfl) (by decide) ?_
          refine lv_aload_n hx hb dX8_card_88 rfl (lv_at hl 0 rfl) ?_
          obtain ⟨v89, hv, hk⟩ := hk
          refine r_get (ci := 8) (k := 2) (T := TX8) (N := 6) C Z hv ku_8 rfl (by decide) tw_335 dX8_card_89 ?_
          obtain ⟨v92, hv, hk⟩ := hk
          refine r_get (ci := 0) (k := 3) (T := TX0) (N := 11) C Z hv ku_0 rfl (by decide) tw_114 dX8_card_92 ?_
          refine lv_iload_n hx hb dX8_card_95 rfl (lv_at hl 1 rfl) ?_
          obtain ⟨v96, hv, hk⟩ := hk
          refine r_iald C Z hv dX8_card_96 ?_
          exact r_iret C Z hr hk dX8_card_97
        · have hk := hk.2 q2
          rcases Classical.em (x2 = (nI 3)) with q | q3
          · have hk := hk.1 q
            refine lv_tableIn (tgt := 98) hx hb dX8_card_21 (by rw [q]; decide) (by rw [q]; decide) (by rw [q]; rfl) (by decide) ?_
            refine lv_aload_n hx hb dX8_card_98 rfl (lv_at hl 0 rfl) ?_
            obtain ⟨v99, hv, hk⟩ := hk
            refine r_get (ci := 8) (k := 2) (T := TX8) (N := 6) C Z hv ku_8 rfl (by decide) tw_335 dX8_card_99 ?_
            obtain ⟨v102, hv, hk⟩ := hk
            refine r_get (ci := 0) (k := 4) (T := TX0) (N := 11) C Z hv ku_0 rfl (by decide) tw_118 dX8_card_102 ?_
            refine lv_iload_n hx hb dX8_card_105 rfl (lv_at hl 1 rfl) ?_
            obtain ⟨v106, hv, hk⟩ := hk
            refine r_iald C Z hv dX8_card_106 ?_
            exact r_iret C Z hr hk dX8_card_107
          · have hk := hk.2 q3
            rcases Classical.em (x2 = (nI 4)) with q | q4
            · have hk := hk.1 q
              refine lv_tableIn (tgt := 108) hx hb dX8_card_21 (by rw [q]; decide) (by rw [q]; decide) (by rw [q]; rfl) (by decide) ?_
              refine lv_aload_n hx hb dX8_card_108 rfl (lv_at hl 0 rfl) ?_
              obtain ⟨v109, hv, hk⟩ := hk
              refine r_get (ci := 8) (k := 1) (T := TX8) (N := 6) C Z hv ku_8 rfl (by decide) tw_334 dX8_card_109 ?_
              obtain ⟨v112, hv, hk⟩ := hk
              refine r_get (ci := 4) (k := 12) (T := TX4) (N := 15) C Z hv ku_4 rfl (by decide) tw_184 dX8_card_112 ?_
              refine lv_iload_n hx hb dX8_card_115 rfl (lv_at hl 1 rfl) ?_
              obtain ⟨v116, hv, hk⟩ := hk
              refine r_iald C Z hv dX8_card_116 ?_
              exact r_iret C Z hr hk dX8_card_117
            · have hk := hk.2 q4
              rcases Classical.em (x2 = (nI 5)) with q | q5
              · have hk := hk.1 q
                refine lv_tableIn (tgt := 118) hx hb dX8_card_21 (by rw [q]; decide) (by rw [q]; decide) (by rw [q]; rfl) (by decide) ?_
                refine lv_aload_n hx hb dX8_card_118 rfl (lv_at hl 0 rfl) ?_
                obtain ⟨v119, hv, hk⟩ := hk
                refine r_get (ci := 8) (k := 1) (T := TX8) (N := 6) C Z hv ku_8 rfl (by decide) tw_334 dX8_card_119 ?_
                refine lv_iload_n hx hb dX8_card_122 rfl (lv_at hl 1 rfl) ?_
                obtain ⟨ho, hk⟩ := hk
                refine r_calli Z (r_runV (As := [.int x1]) (rest := []) C Z (m_X4_inPool l g h17 v119 x1 _ hk) ho rfl (cwV 1 C.1.2.2.2.2 (gV tw_745 tw_510 tw_511 tw_59 tw_512) rfl rfl rfl (by decide +kernel) ⟨Nat.le_of_ble_eq_true rfl, Nat.le_of_ble_eq_true rfl⟩) rfl hl.1 rfl (Nat.le_of_ble_eq_true rfl) dX8_card_123 ⟨Nat.zero_le _, Nat.zero_le _⟩) (fun r123 h123 H locs hk Z => ?_)
                refine lv_if_eq (tgt := 133) hx hb dX8_card_126 (by decide) (fun q => ?_) (fun q => ?_)
                · have hk := hk.1 q
                  refine lv_iconst (v := (nI 0)) hx hb dX8_card_133 (by decide) ?_
                  exact r_iret C Z hr hk dX8_card_134
                · have hk := hk.2 q
                  refine lv_iconst (v := (nI 1)) hx hb dX8_card_129 (by decide) ?_
                  refine lv_goto (tgt := 134) hx hb dX8_card_130 (by decide) ?_
                  exact r_iret C Z hr hk dX8_card_134
              · have hk := hk.2 q5
                refine lv_tableOut (tgt := 135) hx hb dX8_card_21 (by have t0 := ne_toI q0 (show Int32.toInt (nI 0) = (0 : Int) by decide); have t1 := ne_toI q1 (show Int32.toInt (nI 1) = (1 : Int) by decide); have t2 := ne_toI q2 (show Int32.toInt (nI 2) = (2 : Int) by decide); have t3 := ne_toI q3 (show Int32.toInt (nI 3) = (3 : Int) by decide); have t4 := ne_toI q4 (show Int32.toInt (nI 4) = (4 : Int) by decide); have t5 := ne_toI q5 (show Int32.toInt (nI 5) = (5 : Int) by decide); omega) (by decide) ?_
                refine lv_iconst (v := (-1 : Int32)) hx hb dX8_card_135 (by decide) ?_
                exact r_iret C Z hr hk dX8_card_136
  · have hk := hk.2 q
    refine lv_iconst (v := (-1 : Int32)) hx hb dX8_card_11 (by decide) ?_
    exact r_iret C Z hr hk dX8_card_12
abbrev rmX8_place : Room := ({ frames := 4, cells := 0, slots := 0, locals := 88 } : Room)
abbrev wzX8_place : List Cond := WS yX8_place cX8_place 5 (some .int)
set_option maxRecDepth 100000 in
set_option maxHeartbeats 4000000 in
theorem m_X8_place (l : Launch) (g : Gt) (h : Hp) (x0 : Nat) (x1 : Int32) (x2 : Int32) (x3 : Int32) (Post : Int32 → Hp → Prop) (hk : wp_X8_place x0 x1 x2 x3 Post h) : Met l yX8_place wzX8_place rmX8_place (Pg g h [.ref x0, .int x1, .int x2, .int x3]) (Qi g h Post) 0 0 (dm h) := by
  refine Met_of (cc := cX8_place) (maxL := 5) (ret := (some .int)) (by decide) (Nat.le_of_ble_eq_true rfl) (fun p e s m below meth c ls C hr hnm hl Z => ?_)
  have hx := C.1.1
  have hb := C.1.2.1
  have hml := C.1.2.2.1
  have hown := C.1.2.2.2.1
  have hts := C.1.2.2.2.2
  have hl : lv_has ls 5 [(0, .ref x0), (1, .int x1), (2, .int x2), (3, .int x3)] := hl
  unfold wp_X8_place at hk
  generalize s.heap = H at Z ⊢
  generalize ([] : List Loc) = locs at Z ⊢
  refine lv_aload_n hx hb dX8_place_0 rfl (lv_at hl 0 rfl) ?_
  obtain ⟨v1, hv, hk⟩ := hk
  refine r_get (ci := 8) (k := 2) (T := TX8) (N := 6) C Z hv ku_8 rfl (by decide) tw_335 dX8_place_1 ?_
  refine lv_iload_n hx hb dX8_place_4 rfl (lv_at hl 1 rfl) ?_
  obtain ⟨ho, hk⟩ := hk
  refine r_calli Z (r_runV (As := [.int x1]) (rest := []) C Z (m_X0_hasCard l g h v1 x1 _ hk) ho rfl (cwV 1 C.1.2.2.2.2 (gV tw_743 tw_522 tw_523 tw_60 tw_524) rfl rfl rfl (by decide +kernel) ⟨Nat.le_of_ble_eq_true rfl, Nat.le_of_ble_eq_true rfl⟩) rfl hl.1 rfl (Nat.le_of_ble_eq_true rfl) dX8_place_5 ⟨Nat.zero_le _, Nat.zero_le _⟩) (fun r5 h5 H locs hk Z => ?_)
  refine lv_if_eq (tgt := 21) hx hb dX8_place_8 (by decide) (fun q => ?_) (fun q => ?_)
  · have hk := hk.1 q
    refine lv_iconst (v := (-1 : Int32)) hx hb dX8_place_21 (by decide) ?_
    exact r_iret C Z hr hk dX8_place_22
  · have hk := hk.2 q
    refine lv_iload_n hx hb dX8_place_11 rfl (lv_at hl 2 rfl) ?_
    refine lv_iconst (v := (nI 0)) hx hb dX8_place_12 (by decide) ?_
    refine lv_bipush (v := (nI 11)) hx hb dX8_place_13 (by decide) ?_
    refine r_calli Z (r_runS (As := [.int x2, .int (nI 0), .int (nI 11)]) (rest := []) C Z (m_X8_within l g h5 x2 (nI 0) (nI 11) _ hk) (va_cwS 3 C.1.2.2.2.2 (gS tw_547 tw_381 tw_57 tw_382) rfl rfl rfl (by decide +kernel) ⟨Nat.le_of_ble_eq_true rfl, Nat.le_of_ble_eq_true rfl⟩) rfl hl.1 rfl (Nat.le_of_ble_eq_true rfl) dX8_place_15 ⟨Nat.zero_le _, Nat.zero_le _⟩) (fun r15 h15 H locs hk Z => ?_)
    refine lv_if_ne (tgt := 23) hx hb dX8_place_18 (by decide) (fun q => ?_) (fun q => ?_)
    · have hk := hk.1 q
      refine lv_aload_n hx hb dX8_place_23 rfl (lv_at hl 0 rfl) ?_
      obtain ⟨v24, hv, hk⟩ := hk
      refine r_get (ci := 8) (k := 1) (T := TX8) (N := 6) C Z hv ku_8 rfl (by decide) tw_334 dX8_place_24 ?_
      obtain ⟨ho, hk⟩ := hk
      refine r_callv Z (r_runV (As := []) (rest := []) C Z (m_X4_workOut l g h15 v24 _ hk) ho rfl (cwV 0 C.1.2.2.2.2 (gV tw_726 tw_428 tw_429 tw_59 tw_430) rfl rfl rfl (by decide +kernel) ⟨Nat.le_of_ble_eq_true rfl, Nat.le_of_ble_eq_true rfl⟩) rfl hl.1 rfl (Nat.le_of_ble_eq_true rfl) dX8_place_27 ⟨Nat.zero_le _, Nat.zero_le _⟩) (fun h27 H locs hk Z => ?_)
      refine lv_iload_n hx hb dX8_place_30 rfl (lv_at hl 1 rfl) ?_
      refine lv_bipush (v := (nI 12)) hx hb dX8_place_31 (by decide) ?_
      refine lv_imul hx hb dX8_place_33 ?_
      refine lv_iload_n hx hb dX8_place_34 rfl (lv_at hl 2 rfl) ?_
      refine lv_iadd hx hb dX8_place_35 ?_
      refine lv_topi (fun y36 ey36 => ?_)
      have hk := hk y36 ey36
      refine lv_istore (lv' := [(4, .int y36), (0, .ref x0), (1, .int x1), (2, .int x2), (3, .int x3)]) hx hb dX8_place_36 hl (by decide) rfl (fun ls hl => ?_)
      refine lv_iload_n hx hb dX8_place_38 rfl (lv_at hl 4 rfl) ?_
      rcases Classical.em (x3 = (nI 0)) with q | q0
      · have hk := hk.1 q
        refine lv_tableIn (tgt := 72) hx hb dX8_place_39 (by rw [q]; decide) (by rw [q]; decide) (by rw [q]; rfl) (by decide) ?_
        refine lv_aload_n hx hb dX8_place_72 rfl (lv_at hl 1 rfl) ?_
        obtain ⟨v73, hv, hk⟩ := hk
        refine r_get (ci := 8) (k := 1) (T := TX8) (N := 6) C Z hv ku_8 rfl (by decide) tw_334 dX8_place_73 ?_
        obtain ⟨v76, hv, hk⟩ := hk
        refine r_get (ci := 4) (k := 2) (T := TX4) (N := 15) C Z hv ku_4 rfl (by decide) tw_165 dX8_place_76 ?_
        refine lv_iload hx hb dX8_place_79 (lv_at hl 0 rfl) ?_
        obtain ⟨v81, hv, hk⟩ := hk
        refine r_iald C Z hv dX8_place_81 ?_
        exact r_iret C Z hr hk dX8_place_82
      · have hk := hk.2 q0
        rcases Classical.em (x3 = (nI 1)) with q | q1
        · have hk := hk.1 q
          refine lv_tableIn (tgt := 83) hx hb dX8_place_39 (by rw [q]; decide) (by rw [q]; decide) (by rw [q]; rfl) (by decide) ?_
          refine lv_aload_n hx hb dX8_place_83 rfl (lv_at hl 1 rfl) ?_
          obtain ⟨v84, hv, hk⟩ := hk
          refine r_get (ci := 8) (k := 1) (T := TX8) (N := 6) C Z hv ku_8 rfl (by decide) tw_334 dX8_place_84 ?_
          obtain ⟨v87, hv, hk⟩ := hk
          refine r_get (ci := 4) (k := 8) (T := TX4) (N := 15) C Z hv ku_4 rfl (by decide) tw_176 dX8_place_87 ?_
          refine lv_iload hx hb dX8_place_90 (lv_at hl 0 rfl) ?_
          obtain ⟨v92, hv, hk⟩ := hk
          refine r_iald C Z hv dX8_place_92 ?_
          exact r_iret C Z hr hk dX8_place_93
        · have hk := hk.2 q1
          rcases Classical.em (x3 = (nI 2)) with q | q2
          · have hk := hk.1 q
            refine lv_tableIn (tgt := 94) hx hb dX8_place_39 (by rw [q]; decide) (by rw [q]; decide) (by rw [q]; rfl) (by decide) ?_
            refine lv_aload_n hx hb dX8_place_94 rfl (lv_at hl 1 rfl) ?_
            obtain ⟨v95, hv, hk⟩ := hk
            refine r_get (ci := 8) (k := 2) (T := TX8) (N := 6) C Z hv ku_8 rfl (by decide) tw_335 dX8_place_95 ?_
            obtain ⟨v98, hv, hk⟩ := hk
            refine r_get (ci := 0) (k := 4) (T := TX0) (N := 11) C Z hv ku_0 rfl (by decide) tw_118 dX8_place_98 ?_
            refine lv_iload_n hx hb dX8_place_101 rfl (lv_at hl 2 rfl) ?_
            obtain ⟨v102, hv, hk⟩ := hk
            refine r_iald C Z hv dX8_place_102 ?_
            refine lv_iconst (v := (nI 2)) hx hb dX8_place_103 (by decide) ?_
            refine lv_icmp_ne (tgt := 120) hx hb dX8_place_104 (by decide) (fun q => ?_) (fun q => ?_)
            · have hk := hk.1 q
              refine lv_bipush (v := (-9 : Int32)) hx hb dX8_place_120 (by decide) ?_
              exact r_iret C Z hr hk dX8_place_122
            · have hk := hk.2 q
              refine lv_aload_n hx hb dX8_place_107 rfl (lv_at hl 1 rfl) ?_
              obtain ⟨v108, hv, hk⟩ := hk
              refine r_get (ci := 8) (k := 1) (T := TX8) (N := 6) C Z hv ku_8 rfl (by decide) tw_334 dX8_place_108 ?_
              obtain ⟨v111, hv, hk⟩ := hk
              refine r_get (ci := 4) (k := 3) (T := TX4) (N := 15) C Z hv ku_4 rfl (by decide) tw_167 dX8_place_111 ?_
              refine lv_iload hx hb dX8_place_114 (lv_at hl 0 rfl) ?_
              obtain ⟨v116, hv, hk⟩ := hk
              refine r_iald C Z hv dX8_place_116 ?_
              refine lv_goto (tgt := 122) hx hb dX8_place_117 (by decide) ?_
              exact r_iret C Z hr hk dX8_place_122
          · have hk := hk.2 q2
            rcases Classical.em (x3 = (nI 3)) with q | q3
            · have hk := hk.1 q
              refine lv_tableIn (tgt := 123) hx hb dX8_place_39 (by rw [q]; decide) (by rw [q]; decide) (by rw [q]; rfl) (by decide) ?_
              refine lv_aload_n hx hb dX8_place_123 rfl (lv_at hl 1 rfl) ?_
              obtain ⟨v124, hv, hk⟩ := hk
              refine r_get (ci := 8) (k := 1) (T := TX8) (N := 6) C Z hv ku_8 rfl (by decide) tw_334 dX8_place_124 ?_
              obtain ⟨v127, hv, hk⟩ := hk
              refine r_get (ci := 4) (k := 9) (T := TX4) (N := 15) C Z hv ku_4 rfl (by decide) tw_178 dX8_place_127 ?_
              refine lv_iload hx hb dX8_place_130 (lv_at hl 0 rfl) ?_
              obtain ⟨v132, hv, hk⟩ := hk
              refine r_iald C Z hv dX8_place_132 ?_
              exact r_iret C Z hr hk dX8_place_133
            · have hk := hk.2 q3
              rcases Classical.em (x3 = (nI 4)) with q | q4
              · have hk := hk.1 q
                refine lv_tableIn (tgt := 134) hx hb dX8_place_39 (by rw [q]; decide) (by rw [q]; decide) (by rw [q]; rfl) (by decide) ?_
                refine lv_aload_n hx hb dX8_place_134 rfl (lv_at hl 1 rfl) ?_
                obtain ⟨v135, hv, hk⟩ := hk
                refine r_get (ci := 8) (k := 1) (T := TX8) (N := 6) C Z hv ku_8 rfl (by decide) tw_334 dX8_place_135 ?_
                obtain ⟨v138, hv, hk⟩ := hk
                refine r_get (ci := 4) (k := 10) (T := TX4) (N := 15) C Z hv ku_4 rfl (by decide) tw_180 dX8_place_138 ?_
                refine lv_iload hx hb dX8_place_141 (lv_at hl 0 rfl) ?_
                obtain ⟨v143, hv, hk⟩ := hk
                refine r_iald C Z hv dX8_place_143 ?_
                exact r_iret C Z hr hk dX8_place_144
              · have hk := hk.2 q4
                refine lv_tableOut (tgt := 145) hx hb dX8_place_39 (by have t0 := ne_toI q0 (show Int32.toInt (nI 0) = (0 : Int) by decide); have t1 := ne_toI q1 (show Int32.toInt (nI 1) = (1 : Int) by decide); have t2 := ne_toI q2 (show Int32.toInt (nI 2) = (2 : Int) by decide); have t3 := ne_toI q3 (show Int32.toInt (nI 3) = (3 : Int) by decide); have t4 := ne_toI q4 (show Int32.toInt (nI 4) = (4 : Int) by decide); omega) (by decide) ?_
                refine lv_iconst (v := (-1 : Int32)) hx hb dX8_place_145 (by decide) ?_
                exact r_iret C Z hr hk dX8_place_146
    · have hk := hk.2 q
      refine lv_iconst (v := (-1 : Int32)) hx hb dX8_place_21 (by decide) ?_
      exact r_iret C Z hr hk dX8_place_22
abbrev rmX8_runAt : Room := ({ frames := 4, cells := 0, slots := 0, locals := 88 } : Room)
abbrev wzX8_runAt : List Cond := WS yX8_runAt cX8_runAt 5 (some .int)
set_option maxRecDepth 100000 in
set_option maxHeartbeats 4000000 in
theorem m_X8_runAt (l : Launch) (g : Gt) (h : Hp) (x0 : Nat) (x1 : Int32) (x2 : Int32) (x3 : Int32) (Post : Int32 → Hp → Prop) (hk : wp_X8_runAt x0 x1 x2 x3 Post h) : Met l yX8_runAt wzX8_runAt rmX8_runAt (Pg g h [.ref x0, .int x1, .int x2, .int x3]) (Qi g h Post) 0 0 (dm h) := by
  refine Met_of (cc := cX8_runAt) (maxL := 5) (ret := (some .int)) (by decide) (Nat.le_of_ble_eq_true rfl) (fun p e s m below meth c ls C hr hnm hl Z => ?_)
  have hx := C.1.1
  have hb := C.1.2.1
  have hml := C.1.2.2.1
  have hown := C.1.2.2.2.1
  have hts := C.1.2.2.2.2
  have hl : lv_has ls 5 [(0, .ref x0), (1, .int x1), (2, .int x2), (3, .int x3)] := hl
  unfold wp_X8_runAt at hk
  generalize s.heap = H at Z ⊢
  generalize ([] : List Loc) = locs at Z ⊢
  refine lv_aload_n hx hb dX8_runAt_0 rfl (lv_at hl 0 rfl) ?_
  obtain ⟨v1, hv, hk⟩ := hk
  refine r_get (ci := 8) (k := 2) (T := TX8) (N := 6) C Z hv ku_8 rfl (by decide) tw_335 dX8_runAt_1 ?_
  refine lv_iload_n hx hb dX8_runAt_4 rfl (lv_at hl 1 rfl) ?_
  obtain ⟨ho, hk⟩ := hk
  refine r_calli Z (r_runV (As := [.int x1]) (rest := []) C Z (m_X0_hasCard l g h v1 x1 _ hk) ho rfl (cwV 1 C.1.2.2.2.2 (gV tw_743 tw_522 tw_523 tw_60 tw_524) rfl rfl rfl (by decide +kernel) ⟨Nat.le_of_ble_eq_true rfl, Nat.le_of_ble_eq_true rfl⟩) rfl hl.1 rfl (Nat.le_of_ble_eq_true rfl) dX8_runAt_5 ⟨Nat.zero_le _, Nat.zero_le _⟩) (fun r5 h5 H locs hk Z => ?_)
  refine lv_if_eq (tgt := 30) hx hb dX8_runAt_8 (by decide) (fun q => ?_) (fun q => ?_)
  · have hk := hk.1 q
    refine lv_iconst (v := (-1 : Int32)) hx hb dX8_runAt_30 (by decide) ?_
    exact r_iret C Z hr hk dX8_runAt_31
  · have hk := hk.2 q
    refine lv_iload_n hx hb dX8_runAt_11 rfl (lv_at hl 2 rfl) ?_
    refine lv_iconst (v := (nI 0)) hx hb dX8_runAt_12 (by decide) ?_
    refine lv_bipush (v := (nI 11)) hx hb dX8_runAt_13 (by decide) ?_
    refine r_calli Z (r_runS (As := [.int x2, .int (nI 0), .int (nI 11)]) (rest := []) C Z (m_X8_within l g h5 x2 (nI 0) (nI 11) _ hk) (va_cwS 3 C.1.2.2.2.2 (gS tw_547 tw_381 tw_57 tw_382) rfl rfl rfl (by decide +kernel) ⟨Nat.le_of_ble_eq_true rfl, Nat.le_of_ble_eq_true rfl⟩) rfl hl.1 rfl (Nat.le_of_ble_eq_true rfl) dX8_runAt_15 ⟨Nat.zero_le _, Nat.zero_le _⟩) (fun r15 h15 H locs hk Z => ?_)
    refine lv_if_eq (tgt := 30) hx hb dX8_runAt_18 (by decide) (fun q => ?_) (fun q => ?_)
    · have hk := hk.1 q
      refine lv_iconst (v := (-1 : Int32)) hx hb dX8_runAt_30 (by decide) ?_
      exact r_iret C Z hr hk dX8_runAt_31
    · have hk := hk.2 q
      refine lv_iload_n hx hb dX8_runAt_21 rfl (lv_at hl 3 rfl) ?_
      refine lv_iconst (v := (nI 0)) hx hb dX8_runAt_22 (by decide) ?_
      refine lv_iconst (v := (nI 2)) hx hb dX8_runAt_23 (by decide) ?_
      refine r_calli Z (r_runS (As := [.int x3, .int (nI 0), .int (nI 2)]) (rest := []) C Z (m_X8_within l g h15 x3 (nI 0) (nI 2) _ hk) (va_cwS 3 C.1.2.2.2.2 (gS tw_547 tw_381 tw_57 tw_382) rfl rfl rfl (by decide +kernel) ⟨Nat.le_of_ble_eq_true rfl, Nat.le_of_ble_eq_true rfl⟩) rfl hl.1 rfl (Nat.le_of_ble_eq_true rfl) dX8_runAt_24 ⟨Nat.zero_le _, Nat.zero_le _⟩) (fun r24 h24 H locs hk Z => ?_)
      refine lv_if_ne (tgt := 32) hx hb dX8_runAt_27 (by decide) (fun q => ?_) (fun q => ?_)
      · have hk := hk.1 q
        refine lv_aload_n hx hb dX8_runAt_32 rfl (lv_at hl 0 rfl) ?_
        obtain ⟨v33, hv, hk⟩ := hk
        refine r_get (ci := 8) (k := 1) (T := TX8) (N := 6) C Z hv ku_8 rfl (by decide) tw_334 dX8_runAt_33 ?_
        obtain ⟨ho, hk⟩ := hk
        refine r_callv Z (r_runV (As := []) (rest := []) C Z (m_X4_workOut l g h24 v33 _ hk) ho rfl (cwV 0 C.1.2.2.2.2 (gV tw_726 tw_428 tw_429 tw_59 tw_430) rfl rfl rfl (by decide +kernel) ⟨Nat.le_of_ble_eq_true rfl, Nat.le_of_ble_eq_true rfl⟩) rfl hl.1 rfl (Nat.le_of_ble_eq_true rfl) dX8_runAt_36 ⟨Nat.zero_le _, Nat.zero_le _⟩) (fun h36 H locs hk Z => ?_)
        refine lv_iload_n hx hb dX8_runAt_39 rfl (lv_at hl 1 rfl) ?_
        refine lv_bipush (v := (nI 12)) hx hb dX8_runAt_40 (by decide) ?_
        refine lv_imul hx hb dX8_runAt_42 ?_
        refine lv_iload_n hx hb dX8_runAt_43 rfl (lv_at hl 2 rfl) ?_
        refine lv_iadd hx hb dX8_runAt_44 ?_
        refine lv_topi (fun y45 ey45 => ?_)
        have hk := hk y45 ey45
        refine lv_istore (lv' := [(4, .int y45), (0, .ref x0), (1, .int x1), (2, .int x2), (3, .int x3)]) hx hb dX8_runAt_45 hl (by decide) rfl (fun ls hl => ?_)
        refine lv_aload_n hx hb dX8_runAt_47 rfl (lv_at hl 1 rfl) ?_
        obtain ⟨v48, hv, hk⟩ := hk
        refine r_get (ci := 8) (k := 1) (T := TX8) (N := 6) C Z hv ku_8 rfl (by decide) tw_334 dX8_runAt_48 ?_
        obtain ⟨v51, hv, hk⟩ := hk
        refine r_get (ci := 4) (k := 6) (T := TX4) (N := 15) C Z hv ku_4 rfl (by decide) tw_173 dX8_runAt_51 ?_
        refine lv_iload hx hb dX8_runAt_54 (lv_at hl 0 rfl) ?_
        obtain ⟨v56, hv, hk⟩ := hk
        refine r_iald C Z hv dX8_runAt_56 ?_
        refine lv_if_ne (tgt := 63) hx hb dX8_runAt_57 (by decide) (fun q => ?_) (fun q => ?_)
        · have hk := hk.1 q
          refine lv_iload_n hx hb dX8_runAt_63 rfl (lv_at hl 4 rfl) ?_
          rcases Classical.em (x3 = (nI 0)) with q | q0
          · have hk := hk.1 q
            refine lv_lookup (tgt := 92) (off := 28) hx hb dX8_runAt_64 (by decide) (by subst q; rfl) (by decide) ?_
            refine lv_aload_n hx hb dX8_runAt_92 rfl (lv_at hl 1 rfl) ?_
            obtain ⟨v93, hv, hk⟩ := hk
            refine r_get (ci := 8) (k := 1) (T := TX8) (N := 6) C Z hv ku_8 rfl (by decide) tw_334 dX8_runAt_93 ?_
            obtain ⟨v96, hv, hk⟩ := hk
            refine r_get (ci := 4) (k := 4) (T := TX4) (N := 15) C Z hv ku_4 rfl (by decide) tw_169 dX8_runAt_96 ?_
            refine lv_iload hx hb dX8_runAt_99 (lv_at hl 0 rfl) ?_
            obtain ⟨v101, hv, hk⟩ := hk
            refine r_iald C Z hv dX8_runAt_101 ?_
            exact r_iret C Z hr hk dX8_runAt_102
          · have hk := hk.2 q0
            rcases Classical.em (x3 = (nI 1)) with q | q1
            · have hk := hk.1 q
              refine lv_lookup (tgt := 103) (off := 39) hx hb dX8_runAt_64 (by decide) (by subst q; rfl) (by decide) ?_
              refine lv_aload_n hx hb dX8_runAt_103 rfl (lv_at hl 1 rfl) ?_
              obtain ⟨v104, hv, hk⟩ := hk
              refine r_get (ci := 8) (k := 1) (T := TX8) (N := 6) C Z hv ku_8 rfl (by decide) tw_334 dX8_runAt_104 ?_
              obtain ⟨v107, hv, hk⟩ := hk
              refine r_get (ci := 4) (k := 5) (T := TX4) (N := 15) C Z hv ku_4 rfl (by decide) tw_171 dX8_runAt_107 ?_
              refine lv_iload hx hb dX8_runAt_110 (lv_at hl 0 rfl) ?_
              obtain ⟨v112, hv, hk⟩ := hk
              refine r_iald C Z hv dX8_runAt_112 ?_
              exact r_iret C Z hr hk dX8_runAt_113
            · have hk := hk.2 q1
              refine lv_lookup (tgt := 114) (off := 50) hx hb dX8_runAt_64 (by decide) (by show Op.lookupswitch.offset [(0, 28), (1, 39)] 50 _ = 50; rw [lv_osw (a := 0) q0 (by decide), lv_osw (a := 1) q1 (by decide)]; rfl) (by decide) ?_
              refine lv_aload_n hx hb dX8_runAt_114 rfl (lv_at hl 1 rfl) ?_
              obtain ⟨v115, hv, hk⟩ := hk
              refine r_get (ci := 8) (k := 1) (T := TX8) (N := 6) C Z hv ku_8 rfl (by decide) tw_334 dX8_runAt_115 ?_
              obtain ⟨v118, hv, hk⟩ := hk
              refine r_get (ci := 4) (k := 6) (T := TX4) (N := 15) C Z hv ku_4 rfl (by decide) tw_173 dX8_runAt_118 ?_
              refine lv_iload hx hb dX8_runAt_121 (lv_at hl 0 rfl) ?_
              obtain ⟨v123, hv, hk⟩ := hk
              refine r_iald C Z hv dX8_runAt_123 ?_
              exact r_iret C Z hr hk dX8_runAt_124
        · have hk := hk.2 q
          refine lv_bipush (v := (-9 : Int32)) hx hb dX8_runAt_60 (by decide) ?_
          exact r_iret C Z hr hk dX8_runAt_62
      · have hk := hk.2 q
        refine lv_iconst (v := (-1 : Int32)) hx hb dX8_runAt_30 (by decide) ?_
        exact r_iret C Z hr hk dX8_runAt_31
abbrev rmX8_outcome : Room := ({ frames := 4, cells := 0, slots := 0, locals := 88 } : Room)
abbrev wzX8_outcome : List Cond := WS yX8_outcome cX8_outcome 4 (some .int)
set_option maxRecDepth 100000 in
set_option maxHeartbeats 4000000 in
theorem w_X8_outcome_40 {p : Program} {l : Launch} {e : Env} {s : State} {m : MethodId} {args : Array Value} {below : List Frame} {meth : Method} {c : Code} {g : Gt} {h0 : Hp} (C : Cx g (dm h0) RX8 cX8_outcome 4 p s m args meth c) (hr : meth.sig.returnType = (some .int)) {Post : Int32 → Hp → Prop} (x0 : Nat) (x1 : Int32) (x2 : Int32) (x3 : Int32)    : ∀ (h : Hp) (H : Heap) (locs : List Loc) (ls : Array Slot), lv_has ls 4 [(0, .ref x0), (1, .int x1), (2, .int x2), (3, .int x3)] → St g (dm h0) s h H locs → wp_X8_outcome_40 Post x0 x1 x2 x3 h → W p l e rmX8_outcome s m args below meth c H locs 0 0 (MQ below (Qi g h0 Post) args s 0 0 (dm h0)) (F0 m 40 ls []) := by
  have hx := C.1.1
  have hb := C.1.2.1
  have hml := C.1.2.2.1
  have hown := C.1.2.2.2.1
  have hts := C.1.2.2.2.2
  intro h H locs ls hl Z hk
  unfold wp_X8_outcome_40 at hk
  refine lv_iload_n hx hb dX8_outcome_40 rfl (lv_at hl 1 rfl) ?_
  refine lv_aload_n hx hb dX8_outcome_41 rfl (lv_at hl 0 rfl) ?_
  obtain ⟨v42, hv, hk⟩ := hk
  refine r_get (ci := 8) (k := 2) (T := TX8) (N := 6) C Z hv ku_8 rfl (by decide) tw_335 dX8_outcome_42 ?_
  refine lv_iload_n hx hb dX8_outcome_45 rfl (lv_at hl 3 rfl) ?_
  obtain ⟨ho, hk⟩ := hk
  refine r_calli Z (r_runV (As := [.int x3]) (rest := [.int x1]) C Z (m_X0_cardsIn l g h v42 x3 _ hk) ho rfl (cwV 1 C.1.2.2.2.2 (gV tw_759 tw_760 tw_761 tw_60 tw_762) rfl rfl rfl (by decide +kernel) ⟨Nat.le_of_ble_eq_true rfl, Nat.le_of_ble_eq_true rfl⟩) rfl hl.1 rfl (Nat.le_of_ble_eq_true rfl) dX8_outcome_46 ⟨Nat.zero_le _, Nat.zero_le _⟩) (fun r46 h46 H locs hk Z => ?_)
  refine lv_icmp_lt (tgt := 55) hx hb dX8_outcome_49 (by decide) (fun q => ?_) (fun q => ?_)
  · have hk := hk.1 q
    refine lv_aload_n hx hb dX8_outcome_55 rfl (lv_at hl 0 rfl) ?_
    obtain ⟨v56, hv, hk⟩ := hk
    refine r_get (ci := 8) (k := 1) (T := TX8) (N := 6) C Z hv ku_8 rfl (by decide) tw_334 dX8_outcome_56 ?_
    obtain ⟨ho, hk⟩ := hk
    refine r_callv Z (r_runV (As := []) (rest := []) C Z (m_X4_workOut l g h46 v56 _ hk) ho rfl (cwV 0 C.1.2.2.2.2 (gV tw_726 tw_428 tw_429 tw_59 tw_430) rfl rfl rfl (by decide +kernel) ⟨Nat.le_of_ble_eq_true rfl, Nat.le_of_ble_eq_true rfl⟩) rfl hl.1 rfl (Nat.le_of_ble_eq_true rfl) dX8_outcome_59 ⟨Nat.zero_le _, Nat.zero_le _⟩) (fun h59 H locs hk Z => ?_)
    refine lv_aload_n hx hb dX8_outcome_62 rfl (lv_at hl 0 rfl) ?_
    obtain ⟨v63, hv, hk⟩ := hk
    refine r_get (ci := 8) (k := 1) (T := TX8) (N := 6) C Z hv ku_8 rfl (by decide) tw_334 dX8_outcome_63 ?_
    refine lv_iload_n hx hb dX8_outcome_66 rfl (lv_at hl 3 rfl) ?_
    refine lv_iload_n hx hb dX8_outcome_67 rfl (lv_at hl 1 rfl) ?_
    obtain ⟨ho, hk⟩ := hk
    refine r_calli Z (r_runV (As := [.int x3, .int x1]) (rest := []) C Z (m_X4_outcomesIn l g h59 v63 x3 x1 _ hk) ho rfl (cwV 2 C.1.2.2.2.2 (gV tw_764 tw_765 tw_766 tw_59 tw_767) rfl rfl rfl (by decide +kernel) ⟨Nat.le_of_ble_eq_true rfl, Nat.le_of_ble_eq_true rfl⟩) rfl hl.1 rfl (Nat.le_of_ble_eq_true rfl) dX8_outcome_68 ⟨Nat.zero_le _, Nat.zero_le _⟩) (fun r68 h68 H locs hk Z => ?_)
    refine lv_iload_n hx hb dX8_outcome_71 rfl (lv_at hl 2 rfl) ?_
    refine r_calli Z (r_runS (As := [.int r68, .int x2]) (rest := []) C Z (m_X8_outcomeOf l g h68 r68 x2 _ hk) (va_cwS 2 C.1.2.2.2.2 (gS tw_540 tw_541 tw_57 tw_542) rfl rfl rfl (by decide +kernel) ⟨Nat.le_of_ble_eq_true rfl, Nat.le_of_ble_eq_true rfl⟩) rfl hl.1 rfl (Nat.le_of_ble_eq_true rfl) dX8_outcome_72 ⟨Nat.zero_le _, Nat.zero_le _⟩) (fun r72 h72 H locs hk Z => ?_)
    exact r_iret C Z hr hk dX8_outcome_75
  · have hk := hk.2 q
    refine lv_bipush (v := (-9 : Int32)) hx hb dX8_outcome_52 (by decide) ?_
    exact r_iret C Z hr hk dX8_outcome_54
set_option maxRecDepth 100000 in
set_option maxHeartbeats 4000000 in
theorem m_X8_outcome (l : Launch) (g : Gt) (h : Hp) (x0 : Nat) (x1 : Int32) (x2 : Int32) (x3 : Int32) (Post : Int32 → Hp → Prop) (hk : wp_X8_outcome x0 x1 x2 x3 Post h) : Met l yX8_outcome wzX8_outcome rmX8_outcome (Pg g h [.ref x0, .int x1, .int x2, .int x3]) (Qi g h Post) 0 0 (dm h) := by
  refine Met_of (cc := cX8_outcome) (maxL := 4) (ret := (some .int)) (by decide) (Nat.le_of_ble_eq_true rfl) (fun p e s m below meth c ls C hr hnm hl Z => ?_)
  have hx := C.1.1
  have hb := C.1.2.1
  have hml := C.1.2.2.1
  have hown := C.1.2.2.2.1
  have hts := C.1.2.2.2.2
  have hl : lv_has ls 4 [(0, .ref x0), (1, .int x1), (2, .int x2), (3, .int x3)] := hl
  unfold wp_X8_outcome at hk
  generalize s.heap = H at Z ⊢
  generalize ([] : List Loc) = locs at Z ⊢
  refine lv_aload_n hx hb dX8_outcome_0 rfl (lv_at hl 0 rfl) ?_
  obtain ⟨v1, hv, hk⟩ := hk
  refine r_get (ci := 8) (k := 2) (T := TX8) (N := 6) C Z hv ku_8 rfl (by decide) tw_335 dX8_outcome_1 ?_
  refine lv_iload_n hx hb dX8_outcome_4 rfl (lv_at hl 1 rfl) ?_
  obtain ⟨ho, hk⟩ := hk
  refine r_calli Z (r_runV (As := [.int x1]) (rest := []) C Z (m_X0_hasCard l g h v1 x1 _ hk) ho rfl (cwV 1 C.1.2.2.2.2 (gV tw_743 tw_522 tw_523 tw_60 tw_524) rfl rfl rfl (by decide +kernel) ⟨Nat.le_of_ble_eq_true rfl, Nat.le_of_ble_eq_true rfl⟩) rfl hl.1 rfl (Nat.le_of_ble_eq_true rfl) dX8_outcome_5 ⟨Nat.zero_le _, Nat.zero_le _⟩) (fun r5 h5 H locs hk Z => ?_)
  refine lv_if_eq (tgt := 20) hx hb dX8_outcome_8 (by decide) (fun q => ?_) (fun q => ?_)
  · have hk := hk.1 q
    refine lv_iconst (v := (-1 : Int32)) hx hb dX8_outcome_20 (by decide) ?_
    exact r_iret C Z hr hk dX8_outcome_21
  · have hk := hk.2 q
    refine lv_iload_n hx hb dX8_outcome_11 rfl (lv_at hl 2 rfl) ?_
    refine lv_iconst (v := (nI 0)) hx hb dX8_outcome_12 (by decide) ?_
    refine lv_iconst (v := (nI 3)) hx hb dX8_outcome_13 (by decide) ?_
    refine r_calli Z (r_runS (As := [.int x2, .int (nI 0), .int (nI 3)]) (rest := []) C Z (m_X8_within l g h5 x2 (nI 0) (nI 3) _ hk) (va_cwS 3 C.1.2.2.2.2 (gS tw_547 tw_381 tw_57 tw_382) rfl rfl rfl (by decide +kernel) ⟨Nat.le_of_ble_eq_true rfl, Nat.le_of_ble_eq_true rfl⟩) rfl hl.1 rfl (Nat.le_of_ble_eq_true rfl) dX8_outcome_14 ⟨Nat.zero_le _, Nat.zero_le _⟩) (fun r14 h14 H locs hk Z => ?_)
    refine lv_if_ne (tgt := 22) hx hb dX8_outcome_17 (by decide) (fun q => ?_) (fun q => ?_)
    · have hk := hk.1 q
      refine lv_iload_n hx hb dX8_outcome_22 rfl (lv_at hl 3 rfl) ?_
      refine lv_iconst (v := (-1 : Int32)) hx hb dX8_outcome_23 (by decide) ?_
      refine lv_icmp_eq (tgt := 40) hx hb dX8_outcome_24 (by decide) (fun q => ?_) (fun q => ?_)
      · have hk := hk.1 q
        exact w_X8_outcome_40 C hr x0 x1 x2 x3 h14 _ _ _ (lv_sub hl [0, 1, 2, 3] rfl) Z hk
      · have hk := hk.2 q
        refine lv_aload_n hx hb dX8_outcome_27 rfl (lv_at hl 0 rfl) ?_
        obtain ⟨v28, hv, hk⟩ := hk
        refine r_get (ci := 8) (k := 2) (T := TX8) (N := 6) C Z hv ku_8 rfl (by decide) tw_335 dX8_outcome_28 ?_
        refine lv_iload_n hx hb dX8_outcome_31 rfl (lv_at hl 3 rfl) ?_
        obtain ⟨ho, hk⟩ := hk
        refine r_calli Z (r_runV (As := [.int x3]) (rest := []) C Z (m_X0_hasVersion l g h14 v28 x3 _ hk) ho rfl (cwV 1 C.1.2.2.2.2 (gV tw_758 tw_477 tw_478 tw_60 tw_479) rfl rfl rfl (by decide +kernel) ⟨Nat.le_of_ble_eq_true rfl, Nat.le_of_ble_eq_true rfl⟩) rfl hl.1 rfl (Nat.le_of_ble_eq_true rfl) dX8_outcome_32 ⟨Nat.zero_le _, Nat.zero_le _⟩) (fun r32 h32 H locs hk Z => ?_)
        refine lv_if_ne (tgt := 40) hx hb dX8_outcome_35 (by decide) (fun q => ?_) (fun q => ?_)
        · have hk := hk.1 q
          exact w_X8_outcome_40 C hr x0 x1 x2 x3 h32 _ _ _ (lv_sub hl [0, 1, 2, 3] rfl) Z hk
        · have hk := hk.2 q
          refine lv_iconst (v := (-1 : Int32)) hx hb dX8_outcome_38 (by decide) ?_
          exact r_iret C Z hr hk dX8_outcome_39
    · have hk := hk.2 q
      refine lv_iconst (v := (-1 : Int32)) hx hb dX8_outcome_20 (by decide) ?_
      exact r_iret C Z hr hk dX8_outcome_21
abbrev rmX4_cardsWith : Room := ({ frames := 3, cells := 0, slots := 0, locals := 65 } : Room)
abbrev wzX4_cardsWith : List Cond := WS yX4_cardsWith cX4_cardsWith 8 (some .int)
set_option maxRecDepth 100000 in
set_option maxHeartbeats 4000000 in
theorem w_X4_cardsWith_57 {p : Program} {l : Launch} {e : Env} {s : State} {m : MethodId} {args : Array Value} {below : List Frame} {meth : Method} {c : Code} {g : Gt} {h0 : Hp} (C : Cx g (dm h0) RX4 cX4_cardsWith 8 p s m args meth c) (hr : meth.sig.returnType = (some .int)) {Post : Int32 → Hp → Prop} (x0 : Nat) (x1 : Int32) (x2 : Int32) (x3 : Int32) (x4 : Int32) (x5 : Int32) (x6 : Int32) (s0 : Int32) {k6 : Int32 → Int32 → Hp → Prop} (hk6 : ∀ (x5 : Int32) (x6 : Int32) (h : Hp) (H : Heap) (locs : List Loc) (ls : Array Slot), lv_has ls 8 [(0, .ref x0), (1, .int x1), (2, .int x2), (3, .int x3), (4, .int x4), (5, .int x5), (6, .int x6)] → St g (dm h0) s h H locs → k6 x5 x6 h → W p l e rmX4_cardsWith s m args below meth c H locs 0 0 (MQ below (Qi g h0 Post) args s 0 0 (dm h0)) (F0 m 6 ls [])) : ∀ (h : Hp) (H : Heap) (locs : List Loc) (ls : Array Slot), lv_has ls 8 [(0, .ref x0), (1, .int x1), (2, .int x2), (3, .int x3), (4, .int x4), (5, .int x5), (6, .int x6)] → St g (dm h0) s h H locs → wp_X4_cardsWith_57 Post k6 x0 x1 x2 x3 x4 x5 x6 s0 h → W p l e rmX4_cardsWith s m args below meth c H locs 0 0 (MQ below (Qi g h0 Post) args s 0 0 (dm h0)) (F0 m 57 ls [.int s0]) := by
  have hx := C.1.1
  have hb := C.1.2.1
  have hml := C.1.2.2.1
  have hown := C.1.2.2.2.1
  have hts := C.1.2.2.2.2
  intro h H locs ls hl Z hk
  unfold wp_X4_cardsWith_57 at hk
  refine lv_istore (lv' := [(7, .int s0), (0, .ref x0), (1, .int x1), (2, .int x2), (3, .int x3), (4, .int x4), (5, .int x5), (6, .int x6)]) hx hb dX4_cardsWith_57 hl (by decide) rfl (fun ls hl => ?_)
  refine lv_iload hx hb dX4_cardsWith_59 (lv_at hl 0 rfl) ?_
  refine lv_if_eq (tgt := 82) hx hb dX4_cardsWith_61 (by decide) (fun q => ?_) (fun q => ?_)
  · have hk := hk.1 q
    obtain ⟨y82, ey82⟩ : ∃ y : Int32, y = x6 + (nI 1) := ⟨_, rfl⟩
    have hk := hk y82 ey82
    refine lv_iinc (v := y82) (lv' := [(6, .int y82), (7, .int s0), (0, .ref x0), (1, .int x1), (2, .int x2), (3, .int x3), (4, .int x4), (5, .int x5)]) hx hb dX4_cardsWith_82 hl (k := 7) rfl (by rw [ey82]; rfl) (by decide) rfl (fun ls hl => ?_)
    refine lv_goto (tgt := 6) hx hb dX4_cardsWith_85 (by decide) ?_
    exact hk6 x5 y82 h _ _ _ (lv_sub hl [2, 3, 4, 5, 6, 7, 0] rfl) Z hk
  · have hk := hk.2 q
    refine lv_aload_n hx hb dX4_cardsWith_64 rfl (lv_at hl 1 rfl) ?_
    refine lv_iload_n hx hb dX4_cardsWith_65 rfl (lv_at hl 4 rfl) ?_
    refine lv_iload hx hb dX4_cardsWith_66 (lv_at hl 7 rfl) ?_
    obtain ⟨ho, hk⟩ := hk
    refine r_calli Z (r_runV (As := [.int x3, .int x6]) (rest := []) C Z (m_X4_outcomesIn l g h x0 x3 x6 _ hk) ho rfl (cwV 2 C.1.2.2.2.2 (gV tw_783 tw_765 tw_766 tw_59 tw_767) rfl rfl rfl (by decide +kernel) ⟨Nat.le_of_ble_eq_true rfl, Nat.le_of_ble_eq_true rfl⟩) rfl hl.1 rfl (Nat.le_of_ble_eq_true rfl) dX4_cardsWith_68 ⟨Nat.zero_le _, Nat.zero_le _⟩) (fun r68 h68 H locs hk Z => ?_)
    refine lv_iload_n hx hb dX4_cardsWith_71 rfl (lv_at hl 2 rfl) ?_
    refine r_calli Z (r_runSN (As := [.int r68, .int x1]) (rest := []) C Z (m_X8_outcomeOf l g h68 r68 x1 _ hk) ⟨va_cnB 2 C.1.2.2.2.2 (gW tw_542) rfl rfl rfl (C.2.2.1.2.1 ("SmudgeTally$Sight", 152, yX8_outcomeOf) (by decide +kernel)) (hts _ tw_57) (by decide +kernel) ⟨Nat.le_of_ble_eq_true rfl, Nat.le_of_ble_eq_true rfl⟩, (hts _ tw_541), trivial⟩ rfl hl.1 rfl (Nat.le_of_ble_eq_true rfl) dX4_cardsWith_72 ⟨Nat.zero_le _, Nat.zero_le _⟩) (fun r72 h72 H locs hk Z => ?_)
    refine lv_iload_n hx hb dX4_cardsWith_75 rfl (lv_at hl 3 rfl) ?_
    refine lv_icmp_ne (tgt := 82) hx hb dX4_cardsWith_76 (by decide) (fun q => ?_) (fun q => ?_)
    · have hk := hk.1 q
      obtain ⟨y82, ey82⟩ : ∃ y : Int32, y = x6 + (nI 1) := ⟨_, rfl⟩
      have hk := hk y82 ey82
      refine lv_iinc (v := y82) (lv' := [(6, .int y82), (7, .int s0), (0, .ref x0), (1, .int x1), (2, .int x2), (3, .int x3), (4, .int x4), (5, .int x5)]) hx hb dX4_cardsWith_82 hl (k := 7) rfl (by rw [ey82]; rfl) (by decide) rfl (fun ls hl => ?_)
      refine lv_goto (tgt := 6) hx hb dX4_cardsWith_85 (by decide) ?_
      exact hk6 x5 y82 h72 _ _ _ (lv_sub hl [2, 3, 4, 5, 6, 7, 0] rfl) Z hk
    · have hk := hk.2 q
      obtain ⟨y79, ey79⟩ : ∃ y : Int32, y = x5 + (nI 1) := ⟨_, rfl⟩
      have hk := hk y79 ey79
      refine lv_iinc (v := y79) (lv' := [(5, .int y79), (7, .int s0), (0, .ref x0), (1, .int x1), (2, .int x2), (3, .int x3), (4, .int x4), (6, .int x6)]) hx hb dX4_cardsWith_79 hl (k := 6) rfl (by rw [ey79]; rfl) (by decide) rfl (fun ls hl => ?_)
      obtain ⟨y82, ey82⟩ : ∃ y : Int32, y = x6 + (nI 1) := ⟨_, rfl⟩
      have hk := hk y82 ey82
      refine lv_iinc (v := y82) (lv' := [(6, .int y82), (5, .int y79), (7, .int s0), (0, .ref x0), (1, .int x1), (2, .int x2), (3, .int x3), (4, .int x4)]) hx hb dX4_cardsWith_82 hl (k := 7) rfl (by rw [ey82]; rfl) (by decide) rfl (fun ls hl => ?_)
      refine lv_goto (tgt := 6) hx hb dX4_cardsWith_85 (by decide) ?_
      exact hk6 y79 y82 h72 _ _ _ (lv_sub hl [3, 4, 5, 6, 7, 1, 0] rfl) Z hk
set_option maxRecDepth 100000 in
set_option maxHeartbeats 4000000 in
theorem w_X4_cardsWith_6 {p : Program} {l : Launch} {e : Env} {s : State} {m : MethodId} {args : Array Value} {below : List Frame} {meth : Method} {c : Code} {g : Gt} {h0 : Hp} (C : Cx g (dm h0) RX4 cX4_cardsWith 8 p s m args meth c) (hr : meth.sig.returnType = (some .int)) {Post : Int32 → Hp → Prop} (x0 : Nat) (x1 : Int32) (x2 : Int32) (x3 : Int32) (x4 : Int32)   : ∀ (n : Nat) (x5 : Int32) (x6 : Int32) (h : Hp) (H : Heap) (locs : List Loc) (ls : Array Slot), lv_has ls 8 [(0, .ref x0), (1, .int x1), (2, .int x2), (3, .int x3), (4, .int x4), (5, .int x5), (6, .int x6)] → St g (dm h0) s h H locs → wp_X4_cardsWith_6 Post x0 x1 x2 x3 x4 n x5 x6 h → W p l e rmX4_cardsWith s m args below meth c H locs 0 0 (MQ below (Qi g h0 Post) args s 0 0 (dm h0)) (F0 m 6 ls []) := by
  have hx := C.1.1
  have hb := C.1.2.1
  have hml := C.1.2.2.1
  have hown := C.1.2.2.2.1
  have hts := C.1.2.2.2.2
  intro n
  induction n with
  | zero => intro x5 x6 h H locs ls hl Z hk; exact (show False from hk).elim
  | succ n ih =>
    intro x5 x6 h H locs ls hl Z hk
    unfold wp_X4_cardsWith_6 at hk
    refine lv_iload hx hb dX4_cardsWith_6 (lv_at hl 6 rfl) ?_
    refine lv_aload_n hx hb dX4_cardsWith_8 rfl (lv_at hl 0 rfl) ?_
    obtain ⟨v9, hv, hk⟩ := hk
    refine r_get (ci := 4) (k := 0) (T := TX4) (N := 15) C Z hv ku_4 rfl (by decide) tw_160 dX4_cardsWith_9 ?_
    obtain ⟨v12, hv, hk⟩ := hk
    refine r_get (ci := 0) (k := 0) (T := TX0) (N := 11) C Z hv ku_0 rfl (by decide) tw_100 dX4_cardsWith_12 ?_
    refine lv_icmp_ge (tgt := 88) hx hb dX4_cardsWith_15 (by decide) (fun q => ?_) (fun q => ?_)
    · have hk := hk.1 q
      refine lv_iload hx hb dX4_cardsWith_88 (lv_at hl 5 rfl) ?_
      exact r_iret C Z hr hk dX4_cardsWith_90
    · have hk := hk.2 q
      refine lv_iload hx hb dX4_cardsWith_18 (lv_at hl 6 rfl) ?_
      refine lv_aload_n hx hb dX4_cardsWith_20 rfl (lv_at hl 0 rfl) ?_
      obtain ⟨v21, hv, hk⟩ := hk
      refine r_get (ci := 4) (k := 0) (T := TX4) (N := 15) C Z hv ku_4 rfl (by decide) tw_160 dX4_cardsWith_21 ?_
      refine lv_iload_n hx hb dX4_cardsWith_24 rfl (lv_at hl 3 rfl) ?_
      obtain ⟨ho, hk⟩ := hk
      refine r_calli Z (r_runV (As := [.int x3]) (rest := [.int x6]) C Z (m_X0_cardsIn l g h v21 x3 _ hk) ho rfl (cwV 1 C.1.2.2.2.2 (gV tw_782 tw_760 tw_761 tw_60 tw_762) rfl rfl rfl (by decide +kernel) ⟨Nat.le_of_ble_eq_true rfl, Nat.le_of_ble_eq_true rfl⟩) rfl hl.1 rfl (Nat.le_of_ble_eq_true rfl) dX4_cardsWith_25 ⟨Nat.zero_le _, Nat.zero_le _⟩) (fun r25 h25 H locs hk Z => ?_)
      refine lv_icmp_ge (tgt := 88) hx hb dX4_cardsWith_28 (by decide) (fun q => ?_) (fun q => ?_)
      · have hk := hk.1 q
        refine lv_iload hx hb dX4_cardsWith_88 (lv_at hl 5 rfl) ?_
        exact r_iret C Z hr hk dX4_cardsWith_90
      · have hk := hk.2 q
        refine lv_iload hx hb dX4_cardsWith_31 (lv_at hl 4 rfl) ?_
        refine lv_iconst (v := (-1 : Int32)) hx hb dX4_cardsWith_33 (by decide) ?_
        refine lv_icmp_eq (tgt := 52) hx hb dX4_cardsWith_34 (by decide) (fun q => ?_) (fun q => ?_)
        · have hk := hk.1 q
          refine lv_iconst (v := (nI 1)) hx hb dX4_cardsWith_52 (by decide) ?_
          refine lv_goto (tgt := 57) hx hb dX4_cardsWith_53 (by decide) ?_
          exact w_X4_cardsWith_57 C hr x0 x1 x2 x3 x4 x5 x6 (nI 1) ih h25 _ _ _ (lv_sub hl [0, 1, 2, 3, 4, 5, 6] rfl) Z hk
        · have hk := hk.2 q
          refine lv_aload_n hx hb dX4_cardsWith_37 rfl (lv_at hl 0 rfl) ?_
          obtain ⟨v38, hv, hk⟩ := hk
          refine r_get (ci := 4) (k := 0) (T := TX4) (N := 15) C Z hv ku_4 rfl (by decide) tw_160 dX4_cardsWith_38 ?_
          obtain ⟨v41, hv, hk⟩ := hk
          refine r_get (ci := 0) (k := 2) (T := TX0) (N := 11) C Z hv ku_0 rfl (by decide) tw_108 dX4_cardsWith_41 ?_
          refine lv_iload hx hb dX4_cardsWith_44 (lv_at hl 6 rfl) ?_
          obtain ⟨v46, hv, hk⟩ := hk
          refine r_iald C Z hv dX4_cardsWith_46 ?_
          refine lv_iload hx hb dX4_cardsWith_47 (lv_at hl 4 rfl) ?_
          refine lv_icmp_ne (tgt := 56) hx hb dX4_cardsWith_49 (by decide) (fun q => ?_) (fun q => ?_)
          · have hk := hk.1 q
            refine lv_iconst (v := (nI 0)) hx hb dX4_cardsWith_56 (by decide) ?_
            exact w_X4_cardsWith_57 C hr x0 x1 x2 x3 x4 x5 x6 (nI 0) ih h25 _ _ _ (lv_sub hl [0, 1, 2, 3, 4, 5, 6] rfl) Z hk
          · have hk := hk.2 q
            refine lv_iconst (v := (nI 1)) hx hb dX4_cardsWith_52 (by decide) ?_
            refine lv_goto (tgt := 57) hx hb dX4_cardsWith_53 (by decide) ?_
            exact w_X4_cardsWith_57 C hr x0 x1 x2 x3 x4 x5 x6 (nI 1) ih h25 _ _ _ (lv_sub hl [0, 1, 2, 3, 4, 5, 6] rfl) Z hk
set_option maxRecDepth 100000 in
set_option maxHeartbeats 4000000 in
theorem m_X4_cardsWith (l : Launch) (g : Gt) (h : Hp) (x0 : Nat) (x1 : Int32) (x2 : Int32) (x3 : Int32) (x4 : Int32) (Post : Int32 → Hp → Prop) (hk : wp_X4_cardsWith x0 x1 x2 x3 x4 Post h) : Met l yX4_cardsWith wzX4_cardsWith rmX4_cardsWith (Pg g h [.ref x0, .int x1, .int x2, .int x3, .int x4]) (Qi g h Post) 0 0 (dm h) := by
  refine Met_of (cc := cX4_cardsWith) (maxL := 8) (ret := (some .int)) (by decide) (Nat.le_of_ble_eq_true rfl) (fun p e s m below meth c ls C hr hnm hl Z => ?_)
  have hx := C.1.1
  have hb := C.1.2.1
  have hml := C.1.2.2.1
  have hown := C.1.2.2.2.1
  have hts := C.1.2.2.2.2
  have hl : lv_has ls 8 [(0, .ref x0), (1, .int x1), (2, .int x2), (3, .int x3), (4, .int x4)] := hl
  unfold wp_X4_cardsWith at hk
  generalize s.heap = H at Z ⊢
  generalize ([] : List Loc) = locs at Z ⊢
  refine lv_iconst (v := (nI 0)) hx hb dX4_cardsWith_0 (by decide) ?_
  refine lv_istore (lv' := [(5, .int (nI 0)), (0, .ref x0), (1, .int x1), (2, .int x2), (3, .int x3), (4, .int x4)]) hx hb dX4_cardsWith_1 hl (by decide) rfl (fun ls hl => ?_)
  refine lv_iconst (v := (nI 0)) hx hb dX4_cardsWith_3 (by decide) ?_
  refine lv_istore (lv' := [(6, .int (nI 0)), (5, .int (nI 0)), (0, .ref x0), (1, .int x1), (2, .int x2), (3, .int x3), (4, .int x4)]) hx hb dX4_cardsWith_4 hl (by decide) rfl (fun ls hl => ?_)
  obtain ⟨n1, hk⟩ := hk
  exact w_X4_cardsWith_6 C hr x0 x1 x2 x3 x4 n1 (nI 0) (nI 0) h _ _ _ (lv_sub hl [2, 3, 4, 5, 6, 1, 0] rfl) Z hk
abbrev rmX8_tally : Room := ({ frames := 4, cells := 0, slots := 0, locals := 92 } : Room)
abbrev wzX8_tally : List Cond := WS yX8_tally cX8_tally 5 (some .int)
set_option maxRecDepth 100000 in
set_option maxHeartbeats 4000000 in
theorem w_X8_tally_38 {p : Program} {l : Launch} {e : Env} {s : State} {m : MethodId} {args : Array Value} {below : List Frame} {meth : Method} {c : Code} {g : Gt} {h0 : Hp} (C : Cx g (dm h0) RX8 cX8_tally 5 p s m args meth c) (hr : meth.sig.returnType = (some .int)) {Post : Int32 → Hp → Prop} (x0 : Nat) (x1 : Int32) (x2 : Int32) (x3 : Int32) (x4 : Int32)    : ∀ (h : Hp) (H : Heap) (locs : List Loc) (ls : Array Slot), lv_has ls 5 [(0, .ref x0), (1, .int x1), (2, .int x2), (3, .int x3), (4, .int x4)] → St g (dm h0) s h H locs → wp_X8_tally_38 Post x0 x1 x2 x3 x4 h → W p l e rmX8_tally s m args below meth c H locs 0 0 (MQ below (Qi g h0 Post) args s 0 0 (dm h0)) (F0 m 38 ls []) := by
  have hx := C.1.1
  have hb := C.1.2.1
  have hml := C.1.2.2.1
  have hown := C.1.2.2.2.1
  have hts := C.1.2.2.2.2
  intro h H locs ls hl Z hk
  unfold wp_X8_tally_38 at hk
  refine lv_iload hx hb dX8_tally_38 (lv_at hl 4 rfl) ?_
  refine lv_iconst (v := (-1 : Int32)) hx hb dX8_tally_40 (by decide) ?_
  refine lv_icmp_eq (tgt := 56) hx hb dX8_tally_41 (by decide) (fun q => ?_) (fun q => ?_)
  · have hk := hk.1 q
    refine lv_aload_n hx hb dX8_tally_56 rfl (lv_at hl 0 rfl) ?_
    obtain ⟨v57, hv, hk⟩ := hk
    refine r_get (ci := 8) (k := 1) (T := TX8) (N := 6) C Z hv ku_8 rfl (by decide) tw_334 dX8_tally_57 ?_
    obtain ⟨ho, hk⟩ := hk
    refine r_callv Z (r_runV (As := []) (rest := []) C Z (m_X4_workOut l g h v57 _ hk) ho rfl (cwV 0 C.1.2.2.2.2 (gV tw_726 tw_428 tw_429 tw_59 tw_430) rfl rfl rfl (by decide +kernel) ⟨Nat.le_of_ble_eq_true rfl, Nat.le_of_ble_eq_true rfl⟩) rfl hl.1 rfl (Nat.le_of_ble_eq_true rfl) dX8_tally_60 ⟨Nat.zero_le _, Nat.zero_le _⟩) (fun h60 H locs hk Z => ?_)
    refine lv_aload_n hx hb dX8_tally_63 rfl (lv_at hl 0 rfl) ?_
    obtain ⟨v64, hv, hk⟩ := hk
    refine r_get (ci := 8) (k := 1) (T := TX8) (N := 6) C Z hv ku_8 rfl (by decide) tw_334 dX8_tally_64 ?_
    refine lv_iload_n hx hb dX8_tally_67 rfl (lv_at hl 1 rfl) ?_
    refine lv_iload_n hx hb dX8_tally_68 rfl (lv_at hl 2 rfl) ?_
    refine lv_iload_n hx hb dX8_tally_69 rfl (lv_at hl 3 rfl) ?_
    refine lv_iload hx hb dX8_tally_70 (lv_at hl 4 rfl) ?_
    obtain ⟨ho, hk⟩ := hk
    refine r_calli Z (r_runV (As := [.int x1, .int x2, .int x3, .int x4]) (rest := []) C Z (m_X4_cardsWith l g h60 v64 x1 x2 x3 x4 _ hk) ho rfl (cwV 4 C.1.2.2.2.2 (gV tw_778 tw_779 tw_780 tw_59 tw_781) rfl rfl rfl (by decide +kernel) ⟨Nat.le_of_ble_eq_true rfl, Nat.le_of_ble_eq_true rfl⟩) rfl hl.1 rfl (Nat.le_of_ble_eq_true rfl) dX8_tally_72 ⟨Nat.zero_le _, Nat.zero_le _⟩) (fun r72 h72 H locs hk Z => ?_)
    exact r_iret C Z hr hk dX8_tally_75
  · have hk := hk.2 q
    refine lv_iload hx hb dX8_tally_44 (lv_at hl 4 rfl) ?_
    refine lv_iconst (v := (nI 0)) hx hb dX8_tally_46 (by decide) ?_
    refine lv_iconst (v := (nI 2)) hx hb dX8_tally_47 (by decide) ?_
    refine r_calli Z (r_runS (As := [.int x4, .int (nI 0), .int (nI 2)]) (rest := []) C Z (m_X8_within l g h x4 (nI 0) (nI 2) _ hk) (va_cwS 3 C.1.2.2.2.2 (gS tw_547 tw_381 tw_57 tw_382) rfl rfl rfl (by decide +kernel) ⟨Nat.le_of_ble_eq_true rfl, Nat.le_of_ble_eq_true rfl⟩) rfl hl.1 rfl (Nat.le_of_ble_eq_true rfl) dX8_tally_48 ⟨Nat.zero_le _, Nat.zero_le _⟩) (fun r48 h48 H locs hk Z => ?_)
    refine lv_if_ne (tgt := 56) hx hb dX8_tally_51 (by decide) (fun q => ?_) (fun q => ?_)
    · have hk := hk.1 q
      refine lv_aload_n hx hb dX8_tally_56 rfl (lv_at hl 0 rfl) ?_
      obtain ⟨v57, hv, hk⟩ := hk
      refine r_get (ci := 8) (k := 1) (T := TX8) (N := 6) C Z hv ku_8 rfl (by decide) tw_334 dX8_tally_57 ?_
      obtain ⟨ho, hk⟩ := hk
      refine r_callv Z (r_runV (As := []) (rest := []) C Z (m_X4_workOut l g h48 v57 _ hk) ho rfl (cwV 0 C.1.2.2.2.2 (gV tw_726 tw_428 tw_429 tw_59 tw_430) rfl rfl rfl (by decide +kernel) ⟨Nat.le_of_ble_eq_true rfl, Nat.le_of_ble_eq_true rfl⟩) rfl hl.1 rfl (Nat.le_of_ble_eq_true rfl) dX8_tally_60 ⟨Nat.zero_le _, Nat.zero_le _⟩) (fun h60 H locs hk Z => ?_)
      refine lv_aload_n hx hb dX8_tally_63 rfl (lv_at hl 0 rfl) ?_
      obtain ⟨v64, hv, hk⟩ := hk
      refine r_get (ci := 8) (k := 1) (T := TX8) (N := 6) C Z hv ku_8 rfl (by decide) tw_334 dX8_tally_64 ?_
      refine lv_iload_n hx hb dX8_tally_67 rfl (lv_at hl 1 rfl) ?_
      refine lv_iload_n hx hb dX8_tally_68 rfl (lv_at hl 2 rfl) ?_
      refine lv_iload_n hx hb dX8_tally_69 rfl (lv_at hl 3 rfl) ?_
      refine lv_iload hx hb dX8_tally_70 (lv_at hl 4 rfl) ?_
      obtain ⟨ho, hk⟩ := hk
      refine r_calli Z (r_runV (As := [.int x1, .int x2, .int x3, .int x4]) (rest := []) C Z (m_X4_cardsWith l g h60 v64 x1 x2 x3 x4 _ hk) ho rfl (cwV 4 C.1.2.2.2.2 (gV tw_778 tw_779 tw_780 tw_59 tw_781) rfl rfl rfl (by decide +kernel) ⟨Nat.le_of_ble_eq_true rfl, Nat.le_of_ble_eq_true rfl⟩) rfl hl.1 rfl (Nat.le_of_ble_eq_true rfl) dX8_tally_72 ⟨Nat.zero_le _, Nat.zero_le _⟩) (fun r72 h72 H locs hk Z => ?_)
      exact r_iret C Z hr hk dX8_tally_75
    · have hk := hk.2 q
      refine lv_iconst (v := (-1 : Int32)) hx hb dX8_tally_54 (by decide) ?_
      exact r_iret C Z hr hk dX8_tally_55
set_option maxRecDepth 100000 in
set_option maxHeartbeats 4000000 in
theorem m_X8_tally (l : Launch) (g : Gt) (h : Hp) (x0 : Nat) (x1 : Int32) (x2 : Int32) (x3 : Int32) (x4 : Int32) (Post : Int32 → Hp → Prop) (hk : wp_X8_tally x0 x1 x2 x3 x4 Post h) : Met l yX8_tally wzX8_tally rmX8_tally (Pg g h [.ref x0, .int x1, .int x2, .int x3, .int x4]) (Qi g h Post) 0 0 (dm h) := by
  refine Met_of (cc := cX8_tally) (maxL := 5) (ret := (some .int)) (by decide) (Nat.le_of_ble_eq_true rfl) (fun p e s m below meth c ls C hr hnm hl Z => ?_)
  have hx := C.1.1
  have hb := C.1.2.1
  have hml := C.1.2.2.1
  have hown := C.1.2.2.2.1
  have hts := C.1.2.2.2.2
  have hl : lv_has ls 5 [(0, .ref x0), (1, .int x1), (2, .int x2), (3, .int x3), (4, .int x4)] := hl
  unfold wp_X8_tally at hk
  generalize s.heap = H at Z ⊢
  generalize ([] : List Loc) = locs at Z ⊢
  refine lv_iload_n hx hb dX8_tally_0 rfl (lv_at hl 1 rfl) ?_
  refine lv_iconst (v := (nI 0)) hx hb dX8_tally_1 (by decide) ?_
  refine lv_iconst (v := (nI 3)) hx hb dX8_tally_2 (by decide) ?_
  refine r_calli Z (r_runS (As := [.int x1, .int (nI 0), .int (nI 3)]) (rest := []) C Z (m_X8_within l g h x1 (nI 0) (nI 3) _ hk) (va_cwS 3 C.1.2.2.2.2 (gS tw_547 tw_381 tw_57 tw_382) rfl rfl rfl (by decide +kernel) ⟨Nat.le_of_ble_eq_true rfl, Nat.le_of_ble_eq_true rfl⟩) rfl hl.1 rfl (Nat.le_of_ble_eq_true rfl) dX8_tally_3 ⟨Nat.zero_le _, Nat.zero_le _⟩) (fun r3 h3 H locs hk Z => ?_)
  refine lv_if_eq (tgt := 18) hx hb dX8_tally_6 (by decide) (fun q => ?_) (fun q => ?_)
  · have hk := hk.1 q
    refine lv_iconst (v := (-1 : Int32)) hx hb dX8_tally_18 (by decide) ?_
    exact r_iret C Z hr hk dX8_tally_19
  · have hk := hk.2 q
    refine lv_iload_n hx hb dX8_tally_9 rfl (lv_at hl 2 rfl) ?_
    refine lv_iconst (v := (nI 0)) hx hb dX8_tally_10 (by decide) ?_
    refine lv_iconst (v := (nI 5)) hx hb dX8_tally_11 (by decide) ?_
    refine r_calli Z (r_runS (As := [.int x2, .int (nI 0), .int (nI 5)]) (rest := []) C Z (m_X8_within l g h3 x2 (nI 0) (nI 5) _ hk) (va_cwS 3 C.1.2.2.2.2 (gS tw_547 tw_381 tw_57 tw_382) rfl rfl rfl (by decide +kernel) ⟨Nat.le_of_ble_eq_true rfl, Nat.le_of_ble_eq_true rfl⟩) rfl hl.1 rfl (Nat.le_of_ble_eq_true rfl) dX8_tally_12 ⟨Nat.zero_le _, Nat.zero_le _⟩) (fun r12 h12 H locs hk Z => ?_)
    refine lv_if_ne (tgt := 20) hx hb dX8_tally_15 (by decide) (fun q => ?_) (fun q => ?_)
    · have hk := hk.1 q
      refine lv_iload_n hx hb dX8_tally_20 rfl (lv_at hl 3 rfl) ?_
      refine lv_iconst (v := (-1 : Int32)) hx hb dX8_tally_21 (by decide) ?_
      refine lv_icmp_eq (tgt := 38) hx hb dX8_tally_22 (by decide) (fun q => ?_) (fun q => ?_)
      · have hk := hk.1 q
        exact w_X8_tally_38 C hr x0 x1 x2 x3 x4 h12 _ _ _ (lv_sub hl [0, 1, 2, 3, 4] rfl) Z hk
      · have hk := hk.2 q
        refine lv_aload_n hx hb dX8_tally_25 rfl (lv_at hl 0 rfl) ?_
        obtain ⟨v26, hv, hk⟩ := hk
        refine r_get (ci := 8) (k := 2) (T := TX8) (N := 6) C Z hv ku_8 rfl (by decide) tw_335 dX8_tally_26 ?_
        refine lv_iload_n hx hb dX8_tally_29 rfl (lv_at hl 3 rfl) ?_
        obtain ⟨ho, hk⟩ := hk
        refine r_calli Z (r_runV (As := [.int x3]) (rest := []) C Z (m_X0_hasVersion l g h12 v26 x3 _ hk) ho rfl (cwV 1 C.1.2.2.2.2 (gV tw_758 tw_477 tw_478 tw_60 tw_479) rfl rfl rfl (by decide +kernel) ⟨Nat.le_of_ble_eq_true rfl, Nat.le_of_ble_eq_true rfl⟩) rfl hl.1 rfl (Nat.le_of_ble_eq_true rfl) dX8_tally_30 ⟨Nat.zero_le _, Nat.zero_le _⟩) (fun r30 h30 H locs hk Z => ?_)
        refine lv_if_ne (tgt := 38) hx hb dX8_tally_33 (by decide) (fun q => ?_) (fun q => ?_)
        · have hk := hk.1 q
          exact w_X8_tally_38 C hr x0 x1 x2 x3 x4 h30 _ _ _ (lv_sub hl [0, 1, 2, 3, 4] rfl) Z hk
        · have hk := hk.2 q
          refine lv_iconst (v := (-1 : Int32)) hx hb dX8_tally_36 (by decide) ?_
          exact r_iret C Z hr hk dX8_tally_37
    · have hk := hk.2 q
      refine lv_iconst (v := (-1 : Int32)) hx hb dX8_tally_18 (by decide) ?_
      exact r_iret C Z hr hk dX8_tally_19
abbrev rmX0_changesIn : Room := ({ frames := 2, cells := 0, slots := 0, locals := 44 } : Room)
abbrev wzX0_changesIn : List Cond := WS yX0_changesIn cX0_changesIn 3 (some .int)
set_option maxRecDepth 100000 in
set_option maxHeartbeats 4000000 in
theorem m_X0_changesIn (l : Launch) (g : Gt) (h : Hp) (x0 : Nat) (x1 : Int32) (x2 : Int32) (Post : Int32 → Hp → Prop) (hk : wp_X0_changesIn x0 x1 x2 Post h) : Met l yX0_changesIn wzX0_changesIn rmX0_changesIn (Pg g h [.ref x0, .int x1, .int x2]) (Qi g h Post) 0 0 (dm h) := by
  refine Met_of (cc := cX0_changesIn) (maxL := 3) (ret := (some .int)) (by decide) (Nat.le_of_ble_eq_true rfl) (fun p e s m below meth c ls C hr hnm hl Z => ?_)
  have hx := C.1.1
  have hb := C.1.2.1
  have hml := C.1.2.2.1
  have hown := C.1.2.2.2.1
  have hts := C.1.2.2.2.2
  have hl : lv_has ls 3 [(0, .ref x0), (1, .int x1), (2, .int x2)] := hl
  unfold wp_X0_changesIn at hk
  generalize s.heap = H at Z ⊢
  generalize ([] : List Loc) = locs at Z ⊢
  refine lv_iload_n hx hb dX0_changesIn_0 rfl (lv_at hl 1 rfl) ?_
  refine lv_iconst (v := (nI 1)) hx hb dX0_changesIn_1 (by decide) ?_
  refine lv_icmp_lt (tgt := 16) hx hb dX0_changesIn_2 (by decide) (fun q => ?_) (fun q => ?_)
  · have hk := hk.1 q
    refine lv_iconst (v := (nI 0)) hx hb dX0_changesIn_16 (by decide) ?_
    exact r_iret C Z hr hk dX0_changesIn_17
  · have hk := hk.2 q
    refine lv_iload_n hx hb dX0_changesIn_5 rfl (lv_at hl 2 rfl) ?_
    refine lv_aload_n hx hb dX0_changesIn_6 rfl (lv_at hl 0 rfl) ?_
    refine lv_iload_n hx hb dX0_changesIn_7 rfl (lv_at hl 1 rfl) ?_
    refine lv_iconst (v := (nI 1)) hx hb dX0_changesIn_8 (by decide) ?_
    refine lv_isub hx hb dX0_changesIn_9 ?_
    obtain ⟨ho, hk⟩ := hk
    refine r_calli Z (r_runV (As := [.int (x1 - (nI 1))]) (rest := [.int x2]) C Z (m_X0_cardsIn l g h x0 (x1 - (nI 1)) _ hk) ho rfl (cwV 1 C.1.2.2.2.2 (gV tw_797 tw_760 tw_761 tw_60 tw_762) rfl rfl rfl (by decide +kernel) ⟨Nat.le_of_ble_eq_true rfl, Nat.le_of_ble_eq_true rfl⟩) rfl hl.1 rfl (Nat.le_of_ble_eq_true rfl) dX0_changesIn_10 ⟨Nat.zero_le _, Nat.zero_le _⟩) (fun r10 h10 H locs hk Z => ?_)
    refine lv_icmp_lt (tgt := 18) hx hb dX0_changesIn_13 (by decide) (fun q => ?_) (fun q => ?_)
    · have hk := hk.1 q
      refine lv_aload_n hx hb dX0_changesIn_18 rfl (lv_at hl 0 rfl) ?_
      refine lv_iload_n hx hb dX0_changesIn_19 rfl (lv_at hl 1 rfl) ?_
      refine lv_iconst (v := (nI 1)) hx hb dX0_changesIn_20 (by decide) ?_
      refine lv_isub hx hb dX0_changesIn_21 ?_
      refine lv_iload_n hx hb dX0_changesIn_22 rfl (lv_at hl 2 rfl) ?_
      obtain ⟨ho, hk⟩ := hk
      refine r_calli Z (r_runV (As := [.int (x1 - (nI 1)), .int x2]) (rest := []) C Z (m_X0_outcomesIn l g h10 x0 (x1 - (nI 1)) x2 _ hk) ho rfl (cwV 2 C.1.2.2.2.2 (gV tw_798 tw_770 tw_771 tw_60 tw_772) rfl rfl rfl (by decide +kernel) ⟨Nat.le_of_ble_eq_true rfl, Nat.le_of_ble_eq_true rfl⟩) rfl hl.1 rfl (Nat.le_of_ble_eq_true rfl) dX0_changesIn_23 ⟨Nat.zero_le _, Nat.zero_le _⟩) (fun r23 h23 H locs hk Z => ?_)
      refine lv_aload_n hx hb dX0_changesIn_26 rfl (lv_at hl 0 rfl) ?_
      refine lv_iload_n hx hb dX0_changesIn_27 rfl (lv_at hl 1 rfl) ?_
      refine lv_iload_n hx hb dX0_changesIn_28 rfl (lv_at hl 2 rfl) ?_
      obtain ⟨ho, hk⟩ := hk
      refine r_calli Z (r_runV (As := [.int x1, .int x2]) (rest := [.int r23]) C Z (m_X0_outcomesIn l g h23 x0 x1 x2 _ hk) ho rfl (cwV 2 C.1.2.2.2.2 (gV tw_798 tw_770 tw_771 tw_60 tw_772) rfl rfl rfl (by decide +kernel) ⟨Nat.le_of_ble_eq_true rfl, Nat.le_of_ble_eq_true rfl⟩) rfl hl.1 rfl (Nat.le_of_ble_eq_true rfl) dX0_changesIn_29 ⟨Nat.zero_le _, Nat.zero_le _⟩) (fun r29 h29 H locs hk Z => ?_)
      refine r_calli Z (r_runSN (As := [.int r23, .int r29]) (rest := []) C Z (m_X8_differingContests l g h29 r23 r29 _ hk) ⟨va_cnB 2 C.1.2.2.2.2 (gW tw_539) rfl rfl rfl (C.2.2.1.2.1 ("SmudgeTally$Books", 68, yX8_differingContests) (by decide +kernel)) (hts _ tw_57) (by decide +kernel) ⟨Nat.le_of_ble_eq_true rfl, Nat.le_of_ble_eq_true rfl⟩, (hts _ tw_538), trivial⟩ rfl hl.1 rfl (Nat.le_of_ble_eq_true rfl) dX0_changesIn_32 ⟨Nat.zero_le _, Nat.zero_le _⟩) (fun r32 h32 H locs hk Z => ?_)
      exact r_iret C Z hr hk dX0_changesIn_35
    · have hk := hk.2 q
      refine lv_iconst (v := (nI 0)) hx hb dX0_changesIn_16 (by decide) ?_
      exact r_iret C Z hr hk dX0_changesIn_17
abbrev rmX0_changedCard : Room := ({ frames := 3, cells := 0, slots := 0, locals := 66 } : Room)
abbrev wzX0_changedCard : List Cond := WS yX0_changedCard cX0_changedCard 5 (some .int)
set_option maxRecDepth 100000 in
set_option maxHeartbeats 4000000 in
theorem w_X0_changedCard_5 {p : Program} {l : Launch} {e : Env} {s : State} {m : MethodId} {args : Array Value} {below : List Frame} {meth : Method} {c : Code} {g : Gt} {h0 : Hp} (C : Cx g (dm h0) RX0 cX0_changedCard 5 p s m args meth c) (hr : meth.sig.returnType = (some .int)) {Post : Int32 → Hp → Prop} (x0 : Nat) (x1 : Int32) (x2 : Int32)   : ∀ (n : Nat) (x3 : Int32) (x4 : Int32) (h : Hp) (H : Heap) (locs : List Loc) (ls : Array Slot), lv_has ls 5 [(0, .ref x0), (1, .int x1), (2, .int x2), (3, .int x3), (4, .int x4)] → St g (dm h0) s h H locs → wp_X0_changedCard_5 Post x0 x1 x2 n x3 x4 h → W p l e rmX0_changedCard s m args below meth c H locs 0 0 (MQ below (Qi g h0 Post) args s 0 0 (dm h0)) (F0 m 5 ls []) := by
  have hx := C.1.1
  have hb := C.1.2.1
  have hml := C.1.2.2.1
  have hown := C.1.2.2.2.1
  have hts := C.1.2.2.2.2
  intro n
  induction n with
  | zero => intro x3 x4 h H locs ls hl Z hk; exact (show False from hk).elim
  | succ n ih =>
    intro x3 x4 h H locs ls hl Z hk
    unfold wp_X0_changedCard_5 at hk
    refine lv_iload hx hb dX0_changedCard_5 (lv_at hl 4 rfl) ?_
    refine lv_aload_n hx hb dX0_changedCard_7 rfl (lv_at hl 0 rfl) ?_
    obtain ⟨v8, hv, hk⟩ := hk
    refine r_get (ci := 0) (k := 0) (T := TX0) (N := 11) C Z hv ku_0 rfl (by decide) tw_99 dX0_changedCard_8 ?_
    refine lv_icmp_ge (tgt := 44) hx hb dX0_changedCard_11 (by decide) (fun q => ?_) (fun q => ?_)
    · have hk := hk.1 q
      refine lv_bipush (v := (-9 : Int32)) hx hb dX0_changedCard_44 (by decide) ?_
      exact r_iret C Z hr hk dX0_changedCard_46
    · have hk := hk.2 q
      refine lv_aload_n hx hb dX0_changedCard_14 rfl (lv_at hl 0 rfl) ?_
      refine lv_iload_n hx hb dX0_changedCard_15 rfl (lv_at hl 1 rfl) ?_
      refine lv_iload hx hb dX0_changedCard_16 (lv_at hl 4 rfl) ?_
      obtain ⟨ho, hk⟩ := hk
      refine r_calli Z (r_runV (As := [.int x1, .int x4]) (rest := []) C Z (m_X0_changesIn l g h x0 x1 x4 _ hk) ho rfl (cwV 2 C.1.2.2.2.2 (gV tw_793 tw_794 tw_795 tw_60 tw_796) rfl rfl rfl (by decide +kernel) ⟨Nat.le_of_ble_eq_true rfl, Nat.le_of_ble_eq_true rfl⟩) rfl hl.1 rfl (Nat.le_of_ble_eq_true rfl) dX0_changedCard_18 ⟨Nat.zero_le _, Nat.zero_le _⟩) (fun r18 h18 H locs hk Z => ?_)
      refine lv_if_ne (tgt := 27) hx hb dX0_changedCard_21 (by decide) (fun q => ?_) (fun q => ?_)
      · have hk := hk.1 q
        refine lv_iload_n hx hb dX0_changedCard_27 rfl (lv_at hl 3 rfl) ?_
        refine lv_iload_n hx hb dX0_changedCard_28 rfl (lv_at hl 2 rfl) ?_
        refine lv_icmp_ne (tgt := 35) hx hb dX0_changedCard_29 (by decide) (fun q => ?_) (fun q => ?_)
        · have hk := hk.1 q
          obtain ⟨y35, ey35⟩ : ∃ y : Int32, y = x3 + (nI 1) := ⟨_, rfl⟩
          have hk := hk y35 ey35
          refine lv_iinc (v := y35) (lv' := [(3, .int y35), (0, .ref x0), (1, .int x1), (2, .int x2), (4, .int x4)]) hx hb dX0_changedCard_35 hl (k := 3) rfl (by rw [ey35]; rfl) (by decide) rfl (fun ls hl => ?_)
          obtain ⟨y38, ey38⟩ : ∃ y : Int32, y = x4 + (nI 1) := ⟨_, rfl⟩
          have hk := hk y38 ey38
          refine lv_iinc (v := y38) (lv' := [(4, .int y38), (3, .int y35), (0, .ref x0), (1, .int x1), (2, .int x2)]) hx hb dX0_changedCard_38 hl (k := 4) rfl (by rw [ey38]; rfl) (by decide) rfl (fun ls hl => ?_)
          refine lv_goto (tgt := 5) hx hb dX0_changedCard_41 (by decide) ?_
          exact ih y35 y38 h18 _ _ _ (lv_sub hl [2, 3, 4, 1, 0] rfl) Z hk
        · have hk := hk.2 q
          refine lv_iload hx hb dX0_changedCard_32 (lv_at hl 4 rfl) ?_
          exact r_iret C Z hr hk dX0_changedCard_34
      · have hk := hk.2 q
        refine lv_goto (tgt := 38) hx hb dX0_changedCard_24 (by decide) ?_
        obtain ⟨y38, ey38⟩ : ∃ y : Int32, y = x4 + (nI 1) := ⟨_, rfl⟩
        have hk := hk y38 ey38
        refine lv_iinc (v := y38) (lv' := [(4, .int y38), (0, .ref x0), (1, .int x1), (2, .int x2), (3, .int x3)]) hx hb dX0_changedCard_38 hl (k := 4) rfl (by rw [ey38]; rfl) (by decide) rfl (fun ls hl => ?_)
        refine lv_goto (tgt := 5) hx hb dX0_changedCard_41 (by decide) ?_
        exact ih x3 y38 h18 _ _ _ (lv_sub hl [1, 2, 3, 4, 0] rfl) Z hk
set_option maxRecDepth 100000 in
set_option maxHeartbeats 4000000 in
theorem m_X0_changedCard (l : Launch) (g : Gt) (h : Hp) (x0 : Nat) (x1 : Int32) (x2 : Int32) (Post : Int32 → Hp → Prop) (hk : wp_X0_changedCard x0 x1 x2 Post h) : Met l yX0_changedCard wzX0_changedCard rmX0_changedCard (Pg g h [.ref x0, .int x1, .int x2]) (Qi g h Post) 0 0 (dm h) := by
  refine Met_of (cc := cX0_changedCard) (maxL := 5) (ret := (some .int)) (by decide) (Nat.le_of_ble_eq_true rfl) (fun p e s m below meth c ls C hr hnm hl Z => ?_)
  have hx := C.1.1
  have hb := C.1.2.1
  have hml := C.1.2.2.1
  have hown := C.1.2.2.2.1
  have hts := C.1.2.2.2.2
  have hl : lv_has ls 5 [(0, .ref x0), (1, .int x1), (2, .int x2)] := hl
  unfold wp_X0_changedCard at hk
  generalize s.heap = H at Z ⊢
  generalize ([] : List Loc) = locs at Z ⊢
  refine lv_iconst (v := (nI 0)) hx hb dX0_changedCard_0 (by decide) ?_
  refine lv_istore_n (lv' := [(3, .int (nI 0)), (0, .ref x0), (1, .int x1), (2, .int x2)]) hx hb dX0_changedCard_1 rfl hl (by decide) rfl (fun ls hl => ?_)
  refine lv_iconst (v := (nI 0)) hx hb dX0_changedCard_2 (by decide) ?_
  refine lv_istore (lv' := [(4, .int (nI 0)), (3, .int (nI 0)), (0, .ref x0), (1, .int x1), (2, .int x2)]) hx hb dX0_changedCard_3 hl (by decide) rfl (fun ls hl => ?_)
  obtain ⟨n1, hk⟩ := hk
  exact w_X0_changedCard_5 C hr x0 x1 x2 n1 (nI 0) (nI 0) h _ _ _ (lv_sub hl [2, 3, 4, 1, 0] rfl) Z hk
abbrev rmX8_changed : Room := ({ frames := 4, cells := 0, slots := 0, locals := 90 } : Room)
abbrev wzX8_changed : List Cond := WS yX8_changed cX8_changed 5 (some .int)
set_option maxRecDepth 100000 in
set_option maxHeartbeats 4000000 in
theorem m_X8_changed (l : Launch) (g : Gt) (h : Hp) (x0 : Nat) (x1 : Int32) (x2 : Int32) (x3 : Int32) (Post : Int32 → Hp → Prop) (hk : wp_X8_changed x0 x1 x2 x3 Post h) : Met l yX8_changed wzX8_changed rmX8_changed (Pg g h [.ref x0, .int x1, .int x2, .int x3]) (Qi g h Post) 0 0 (dm h) := by
  refine Met_of (cc := cX8_changed) (maxL := 5) (ret := (some .int)) (by decide) (Nat.le_of_ble_eq_true rfl) (fun p e s m below meth c ls C hr hnm hl Z => ?_)
  have hx := C.1.1
  have hb := C.1.2.1
  have hml := C.1.2.2.1
  have hown := C.1.2.2.2.1
  have hts := C.1.2.2.2.2
  have hl : lv_has ls 5 [(0, .ref x0), (1, .int x1), (2, .int x2), (3, .int x3)] := hl
  unfold wp_X8_changed at hk
  generalize s.heap = H at Z ⊢
  generalize ([] : List Loc) = locs at Z ⊢
  refine lv_aload_n hx hb dX8_changed_0 rfl (lv_at hl 0 rfl) ?_
  obtain ⟨v1, hv, hk⟩ := hk
  refine r_get (ci := 8) (k := 2) (T := TX8) (N := 6) C Z hv ku_8 rfl (by decide) tw_335 dX8_changed_1 ?_
  refine lv_iload_n hx hb dX8_changed_4 rfl (lv_at hl 1 rfl) ?_
  obtain ⟨ho, hk⟩ := hk
  refine r_calli Z (r_runV (As := [.int x1]) (rest := []) C Z (m_X0_hasVersion l g h v1 x1 _ hk) ho rfl (cwV 1 C.1.2.2.2.2 (gV tw_758 tw_477 tw_478 tw_60 tw_479) rfl rfl rfl (by decide +kernel) ⟨Nat.le_of_ble_eq_true rfl, Nat.le_of_ble_eq_true rfl⟩) rfl hl.1 rfl (Nat.le_of_ble_eq_true rfl) dX8_changed_5 ⟨Nat.zero_le _, Nat.zero_le _⟩) (fun r5 h5 H locs hk Z => ?_)
  refine lv_if_eq (tgt := 24) hx hb dX8_changed_8 (by decide) (fun q => ?_) (fun q => ?_)
  · have hk := hk.1 q
    refine lv_iconst (v := (-1 : Int32)) hx hb dX8_changed_24 (by decide) ?_
    exact r_iret C Z hr hk dX8_changed_25
  · have hk := hk.2 q
    refine lv_iload_n hx hb dX8_changed_11 rfl (lv_at hl 2 rfl) ?_
    refine lv_if_lt (tgt := 24) hx hb dX8_changed_12 (by decide) (fun q => ?_) (fun q => ?_)
    · have hk := hk.1 q
      refine lv_iconst (v := (-1 : Int32)) hx hb dX8_changed_24 (by decide) ?_
      exact r_iret C Z hr hk dX8_changed_25
    · have hk := hk.2 q
      refine lv_iload_n hx hb dX8_changed_15 rfl (lv_at hl 3 rfl) ?_
      refine lv_iconst (v := (nI 0)) hx hb dX8_changed_16 (by decide) ?_
      refine lv_iconst (v := (nI 1)) hx hb dX8_changed_17 (by decide) ?_
      refine r_calli Z (r_runS (As := [.int x3, .int (nI 0), .int (nI 1)]) (rest := []) C Z (m_X8_within l g h5 x3 (nI 0) (nI 1) _ hk) (va_cwS 3 C.1.2.2.2.2 (gS tw_547 tw_381 tw_57 tw_382) rfl rfl rfl (by decide +kernel) ⟨Nat.le_of_ble_eq_true rfl, Nat.le_of_ble_eq_true rfl⟩) rfl hl.1 rfl (Nat.le_of_ble_eq_true rfl) dX8_changed_18 ⟨Nat.zero_le _, Nat.zero_le _⟩) (fun r18 h18 H locs hk Z => ?_)
      refine lv_if_ne (tgt := 26) hx hb dX8_changed_21 (by decide) (fun q => ?_) (fun q => ?_)
      · have hk := hk.1 q
        refine lv_aload_n hx hb dX8_changed_26 rfl (lv_at hl 0 rfl) ?_
        obtain ⟨v27, hv, hk⟩ := hk
        refine r_get (ci := 8) (k := 2) (T := TX8) (N := 6) C Z hv ku_8 rfl (by decide) tw_335 dX8_changed_27 ?_
        refine lv_iload_n hx hb dX8_changed_30 rfl (lv_at hl 1 rfl) ?_
        refine lv_iload_n hx hb dX8_changed_31 rfl (lv_at hl 2 rfl) ?_
        obtain ⟨ho, hk⟩ := hk
        refine r_calli Z (r_runV (As := [.int x1, .int x2]) (rest := []) C Z (m_X0_changedCard l g h18 v27 x1 x2 _ hk) ho rfl (cwV 2 C.1.2.2.2.2 (gV tw_789 tw_790 tw_791 tw_60 tw_792) rfl rfl rfl (by decide +kernel) ⟨Nat.le_of_ble_eq_true rfl, Nat.le_of_ble_eq_true rfl⟩) rfl hl.1 rfl (Nat.le_of_ble_eq_true rfl) dX8_changed_32 ⟨Nat.zero_le _, Nat.zero_le _⟩) (fun r32 h32 H locs hk Z => ?_)
        refine lv_istore (lv' := [(4, .int r32), (0, .ref x0), (1, .int x1), (2, .int x2), (3, .int x3)]) hx hb dX8_changed_35 hl (by decide) rfl (fun ls hl => ?_)
        refine lv_iload hx hb dX8_changed_37 (lv_at hl 0 rfl) ?_
        refine lv_if_ge (tgt := 45) hx hb dX8_changed_39 (by decide) (fun q => ?_) (fun q => ?_)
        · have hk := hk.1 q
          refine lv_iload_n hx hb dX8_changed_45 rfl (lv_at hl 4 rfl) ?_
          refine lv_if_ne (tgt := 54) hx hb dX8_changed_46 (by decide) (fun q => ?_) (fun q => ?_)
          · have hk := hk.1 q
            refine lv_aload_n hx hb dX8_changed_54 rfl (lv_at hl 1 rfl) ?_
            obtain ⟨v55, hv, hk⟩ := hk
            refine r_get (ci := 8) (k := 2) (T := TX8) (N := 6) C Z hv ku_8 rfl (by decide) tw_335 dX8_changed_55 ?_
            refine lv_iload_n hx hb dX8_changed_58 rfl (lv_at hl 2 rfl) ?_
            refine lv_iload hx hb dX8_changed_59 (lv_at hl 0 rfl) ?_
            obtain ⟨ho, hk⟩ := hk
            refine r_calli Z (r_runV (As := [.int x1, .int r32]) (rest := []) C Z (m_X0_changesIn l g h32 v55 x1 r32 _ hk) ho rfl (cwV 2 C.1.2.2.2.2 (gV tw_800 tw_794 tw_795 tw_60 tw_796) rfl rfl rfl (by decide +kernel) ⟨Nat.le_of_ble_eq_true rfl, Nat.le_of_ble_eq_true rfl⟩) rfl hl.1 rfl (Nat.le_of_ble_eq_true rfl) dX8_changed_61 ⟨Nat.zero_le _, Nat.zero_le _⟩) (fun r61 h61 H locs hk Z => ?_)
            exact r_iret C Z hr hk dX8_changed_64
          · have hk := hk.2 q
            refine lv_iload hx hb dX8_changed_49 (lv_at hl 0 rfl) ?_
            refine lv_goto (tgt := 64) hx hb dX8_changed_51 (by decide) ?_
            exact r_iret C Z hr hk dX8_changed_64
        · have hk := hk.2 q
          refine lv_bipush (v := (-9 : Int32)) hx hb dX8_changed_42 (by decide) ?_
          exact r_iret C Z hr hk dX8_changed_44
      · have hk := hk.2 q
        refine lv_iconst (v := (-1 : Int32)) hx hb dX8_changed_24 (by decide) ?_
        exact r_iret C Z hr hk dX8_changed_25
abbrev rmX4_leadingChoice : Room := ({ frames := 4, cells := 0, slots := 0, locals := 92 } : Room)
abbrev wzX4_leadingChoice : List Cond := WS yX4_leadingChoice cX4_leadingChoice 6 (some .int)
set_option maxRecDepth 100000 in
set_option maxHeartbeats 4000000 in
theorem w_X4_leadingChoice_7 {p : Program} {l : Launch} {e : Env} {s : State} {m : MethodId} {args : Array Value} {below : List Frame} {meth : Method} {c : Code} {g : Gt} {h0 : Hp} (C : Cx g (dm h0) RX4 cX4_leadingChoice 6 p s m args meth c) (hr : meth.sig.returnType = (some .int)) {Post : Int32 → Hp → Prop} (x0 : Nat) (x1 : Int32)   : ∀ (n : Nat) (x2 : Int32) (x3 : Int32) (x4 : Int32) (h : Hp) (H : Heap) (locs : List Loc) (ls : Array Slot), lv_has ls 6 [(0, .ref x0), (1, .int x1), (2, .int x2), (3, .int x3), (4, .int x4)] → St g (dm h0) s h H locs → wp_X4_leadingChoice_7 Post x0 x1 n x2 x3 x4 h → W p l e rmX4_leadingChoice s m args below meth c H locs 0 0 (MQ below (Qi g h0 Post) args s 0 0 (dm h0)) (F0 m 7 ls []) := by
  have hx := C.1.1
  have hb := C.1.2.1
  have hml := C.1.2.2.1
  have hown := C.1.2.2.2.1
  have hts := C.1.2.2.2.2
  intro n
  induction n with
  | zero => intro x2 x3 x4 h H locs ls hl Z hk; exact (show False from hk).elim
  | succ n ih =>
    intro x2 x3 x4 h H locs ls hl Z hk
    unfold wp_X4_leadingChoice_7 at hk
    refine lv_iload hx hb dX4_leadingChoice_7 (lv_at hl 4 rfl) ?_
    refine lv_iconst (v := (nI 3)) hx hb dX4_leadingChoice_9 (by decide) ?_
    refine lv_icmp_ge (tgt := 42) hx hb dX4_leadingChoice_10 (by decide) (fun q => ?_) (fun q => ?_)
    · have hk := hk.1 q
      refine lv_iload_n hx hb dX4_leadingChoice_42 rfl (lv_at hl 2 rfl) ?_
      exact r_iret C Z hr hk dX4_leadingChoice_43
    · have hk := hk.2 q
      refine lv_aload_n hx hb dX4_leadingChoice_13 rfl (lv_at hl 0 rfl) ?_
      refine lv_iload_n hx hb dX4_leadingChoice_14 rfl (lv_at hl 1 rfl) ?_
      refine lv_iload hx hb dX4_leadingChoice_15 (lv_at hl 4 rfl) ?_
      refine lv_iconst (v := (-1 : Int32)) hx hb dX4_leadingChoice_17 (by decide) ?_
      refine lv_iconst (v := (-1 : Int32)) hx hb dX4_leadingChoice_18 (by decide) ?_
      obtain ⟨ho, hk⟩ := hk
      refine r_calli Z (r_runV (As := [.int x1, .int x4, .int (-1 : Int32), .int (-1 : Int32)]) (rest := []) C Z (m_X4_cardsWith l g h x0 x1 x4 (-1 : Int32) (-1 : Int32) _ hk) ho rfl (cwV 4 C.1.2.2.2.2 (gV tw_809 tw_779 tw_780 tw_59 tw_781) rfl rfl rfl (by decide +kernel) ⟨Nat.le_of_ble_eq_true rfl, Nat.le_of_ble_eq_true rfl⟩) rfl hl.1 rfl (Nat.le_of_ble_eq_true rfl) dX4_leadingChoice_19 ⟨Nat.zero_le _, Nat.zero_le _⟩) (fun r19 h19 H locs hk Z => ?_)
      refine lv_istore (lv' := [(5, .int r19), (0, .ref x0), (1, .int x1), (2, .int x2), (3, .int x3), (4, .int x4)]) hx hb dX4_leadingChoice_22 hl (by decide) rfl (fun ls hl => ?_)
      refine lv_iload hx hb dX4_leadingChoice_24 (lv_at hl 0 rfl) ?_
      refine lv_iload_n hx hb dX4_leadingChoice_26 rfl (lv_at hl 4 rfl) ?_
      refine lv_icmp_le (tgt := 36) hx hb dX4_leadingChoice_27 (by decide) (fun q => ?_) (fun q => ?_)
      · have hk := hk.1 q
        obtain ⟨y36, ey36⟩ : ∃ y : Int32, y = x4 + (nI 1) := ⟨_, rfl⟩
        have hk := hk y36 ey36
        refine lv_iinc (v := y36) (lv' := [(4, .int y36), (5, .int r19), (0, .ref x0), (1, .int x1), (2, .int x2), (3, .int x3)]) hx hb dX4_leadingChoice_36 hl (k := 5) rfl (by rw [ey36]; rfl) (by decide) rfl (fun ls hl => ?_)
        refine lv_goto (tgt := 7) hx hb dX4_leadingChoice_39 (by decide) ?_
        exact ih x2 x3 y36 h19 _ _ _ (lv_sub hl [2, 3, 4, 5, 0] rfl) Z hk
      · have hk := hk.2 q
        refine lv_iload hx hb dX4_leadingChoice_30 (lv_at hl 0 rfl) ?_
        refine lv_istore_n (lv' := [(3, .int r19), (5, .int r19), (0, .ref x0), (1, .int x1), (2, .int x2), (4, .int x4)]) hx hb dX4_leadingChoice_32 rfl hl (by decide) rfl (fun ls hl => ?_)
        refine lv_iload hx hb dX4_leadingChoice_33 (lv_at hl 5 rfl) ?_
        refine lv_istore_n (lv' := [(2, .int x4), (3, .int r19), (5, .int r19), (0, .ref x0), (1, .int x1), (4, .int x4)]) hx hb dX4_leadingChoice_35 rfl hl (by decide) rfl (fun ls hl => ?_)
        obtain ⟨y36, ey36⟩ : ∃ y : Int32, y = x4 + (nI 1) := ⟨_, rfl⟩
        have hk := hk y36 ey36
        refine lv_iinc (v := y36) (lv' := [(4, .int y36), (2, .int x4), (3, .int r19), (5, .int r19), (0, .ref x0), (1, .int x1)]) hx hb dX4_leadingChoice_36 hl (k := 5) rfl (by rw [ey36]; rfl) (by decide) rfl (fun ls hl => ?_)
        refine lv_goto (tgt := 7) hx hb dX4_leadingChoice_39 (by decide) ?_
        exact ih x4 r19 y36 h19 _ _ _ (lv_sub hl [4, 5, 1, 2, 0] rfl) Z hk
set_option maxRecDepth 100000 in
set_option maxHeartbeats 4000000 in
theorem m_X4_leadingChoice (l : Launch) (g : Gt) (h : Hp) (x0 : Nat) (x1 : Int32) (Post : Int32 → Hp → Prop) (hk : wp_X4_leadingChoice x0 x1 Post h) : Met l yX4_leadingChoice wzX4_leadingChoice rmX4_leadingChoice (Pg g h [.ref x0, .int x1]) (Qi g h Post) 0 0 (dm h) := by
  refine Met_of (cc := cX4_leadingChoice) (maxL := 6) (ret := (some .int)) (by decide) (Nat.le_of_ble_eq_true rfl) (fun p e s m below meth c ls C hr hnm hl Z => ?_)
  have hx := C.1.1
  have hb := C.1.2.1
  have hml := C.1.2.2.1
  have hown := C.1.2.2.2.1
  have hts := C.1.2.2.2.2
  have hl : lv_has ls 6 [(0, .ref x0), (1, .int x1)] := hl
  unfold wp_X4_leadingChoice at hk
  generalize s.heap = H at Z ⊢
  generalize ([] : List Loc) = locs at Z ⊢
  refine lv_iconst (v := (nI 0)) hx hb dX4_leadingChoice_0 (by decide) ?_
  refine lv_istore_n (lv' := [(2, .int (nI 0)), (0, .ref x0), (1, .int x1)]) hx hb dX4_leadingChoice_1 rfl hl (by decide) rfl (fun ls hl => ?_)
  refine lv_iconst (v := (-1 : Int32)) hx hb dX4_leadingChoice_2 (by decide) ?_
  refine lv_istore_n (lv' := [(3, .int (-1 : Int32)), (2, .int (nI 0)), (0, .ref x0), (1, .int x1)]) hx hb dX4_leadingChoice_3 rfl hl (by decide) rfl (fun ls hl => ?_)
  refine lv_iconst (v := (nI 0)) hx hb dX4_leadingChoice_4 (by decide) ?_
  refine lv_istore (lv' := [(4, .int (nI 0)), (3, .int (-1 : Int32)), (2, .int (nI 0)), (0, .ref x0), (1, .int x1)]) hx hb dX4_leadingChoice_5 hl (by decide) rfl (fun ls hl => ?_)
  obtain ⟨n1, hk⟩ := hk
  exact w_X4_leadingChoice_7 C hr x0 x1 n1 (nI 0) (-1 : Int32) (nI 0) h _ _ _ (lv_sub hl [3, 4, 2, 1, 0] rfl) Z hk
abbrev rmX4_leadOf : Room := ({ frames := 4, cells := 0, slots := 0, locals := 92 } : Room)
abbrev wzX4_leadOf : List Cond := WS yX4_leadOf cX4_leadOf 5 (some .int)
set_option maxRecDepth 100000 in
set_option maxHeartbeats 4000000 in
theorem w_X4_leadOf_5 {p : Program} {l : Launch} {e : Env} {s : State} {m : MethodId} {args : Array Value} {below : List Frame} {meth : Method} {c : Code} {g : Gt} {h0 : Hp} (C : Cx g (dm h0) RX4 cX4_leadOf 5 p s m args meth c) (hr : meth.sig.returnType = (some .int)) {Post : Int32 → Hp → Prop} (x0 : Nat) (x1 : Int32) (x2 : Int32)   : ∀ (n : Nat) (x3 : Int32) (x4 : Int32) (h : Hp) (H : Heap) (locs : List Loc) (ls : Array Slot), lv_has ls 5 [(0, .ref x0), (1, .int x1), (2, .int x2), (3, .int x3), (4, .int x4)] → St g (dm h0) s h H locs → wp_X4_leadOf_5 Post x0 x1 x2 n x3 x4 h → W p l e rmX4_leadOf s m args below meth c H locs 0 0 (MQ below (Qi g h0 Post) args s 0 0 (dm h0)) (F0 m 5 ls []) := by
  have hx := C.1.1
  have hb := C.1.2.1
  have hml := C.1.2.2.1
  have hown := C.1.2.2.2.1
  have hts := C.1.2.2.2.2
  intro n
  induction n with
  | zero => intro x3 x4 h H locs ls hl Z hk; exact (show False from hk).elim
  | succ n ih =>
    intro x3 x4 h H locs ls hl Z hk
    unfold wp_X4_leadOf_5 at hk
    refine lv_iload hx hb dX4_leadOf_5 (lv_at hl 4 rfl) ?_
    refine lv_iconst (v := (nI 3)) hx hb dX4_leadOf_7 (by decide) ?_
    refine lv_icmp_ge (tgt := 37) hx hb dX4_leadOf_8 (by decide) (fun q => ?_) (fun q => ?_)
    · have hk := hk.1 q
      refine lv_aload_n hx hb dX4_leadOf_37 rfl (lv_at hl 0 rfl) ?_
      refine lv_iload_n hx hb dX4_leadOf_38 rfl (lv_at hl 1 rfl) ?_
      refine lv_iload_n hx hb dX4_leadOf_39 rfl (lv_at hl 2 rfl) ?_
      refine lv_iconst (v := (-1 : Int32)) hx hb dX4_leadOf_40 (by decide) ?_
      refine lv_iconst (v := (-1 : Int32)) hx hb dX4_leadOf_41 (by decide) ?_
      obtain ⟨ho, hk⟩ := hk
      refine r_calli Z (r_runV (As := [.int x1, .int x2, .int (-1 : Int32), .int (-1 : Int32)]) (rest := []) C Z (m_X4_cardsWith l g h x0 x1 x2 (-1 : Int32) (-1 : Int32) _ hk) ho rfl (cwV 4 C.1.2.2.2.2 (gV tw_809 tw_779 tw_780 tw_59 tw_781) rfl rfl rfl (by decide +kernel) ⟨Nat.le_of_ble_eq_true rfl, Nat.le_of_ble_eq_true rfl⟩) rfl hl.1 rfl (Nat.le_of_ble_eq_true rfl) dX4_leadOf_42 ⟨Nat.zero_le _, Nat.zero_le _⟩) (fun r42 h42 H locs hk Z => ?_)
      refine lv_iload_n hx hb dX4_leadOf_45 rfl (lv_at hl 3 rfl) ?_
      refine lv_isub hx hb dX4_leadOf_46 ?_
      exact r_iret C Z hr hk dX4_leadOf_47
    · have hk := hk.2 q
      refine lv_iload hx hb dX4_leadOf_11 (lv_at hl 4 rfl) ?_
      refine lv_iload_n hx hb dX4_leadOf_13 rfl (lv_at hl 2 rfl) ?_
      refine lv_icmp_eq (tgt := 31) hx hb dX4_leadOf_14 (by decide) (fun q => ?_) (fun q => ?_)
      · have hk := hk.1 q
        obtain ⟨y31, ey31⟩ : ∃ y : Int32, y = x4 + (nI 1) := ⟨_, rfl⟩
        have hk := hk y31 ey31
        refine lv_iinc (v := y31) (lv' := [(4, .int y31), (0, .ref x0), (1, .int x1), (2, .int x2), (3, .int x3)]) hx hb dX4_leadOf_31 hl (k := 4) rfl (by rw [ey31]; rfl) (by decide) rfl (fun ls hl => ?_)
        refine lv_goto (tgt := 5) hx hb dX4_leadOf_34 (by decide) ?_
        exact ih x3 y31 h _ _ _ (lv_sub hl [1, 2, 3, 4, 0] rfl) Z hk
      · have hk := hk.2 q
        refine lv_iload_n hx hb dX4_leadOf_17 rfl (lv_at hl 3 rfl) ?_
        refine lv_aload_n hx hb dX4_leadOf_18 rfl (lv_at hl 0 rfl) ?_
        refine lv_iload_n hx hb dX4_leadOf_19 rfl (lv_at hl 1 rfl) ?_
        refine lv_iload hx hb dX4_leadOf_20 (lv_at hl 4 rfl) ?_
        refine lv_iconst (v := (-1 : Int32)) hx hb dX4_leadOf_22 (by decide) ?_
        refine lv_iconst (v := (-1 : Int32)) hx hb dX4_leadOf_23 (by decide) ?_
        obtain ⟨ho, hk⟩ := hk
        refine r_calli Z (r_runV (As := [.int x1, .int x4, .int (-1 : Int32), .int (-1 : Int32)]) (rest := [.int x3]) C Z (m_X4_cardsWith l g h x0 x1 x4 (-1 : Int32) (-1 : Int32) _ hk) ho rfl (cwV 4 C.1.2.2.2.2 (gV tw_809 tw_779 tw_780 tw_59 tw_781) rfl rfl rfl (by decide +kernel) ⟨Nat.le_of_ble_eq_true rfl, Nat.le_of_ble_eq_true rfl⟩) rfl hl.1 rfl (Nat.le_of_ble_eq_true rfl) dX4_leadOf_24 ⟨Nat.zero_le _, Nat.zero_le _⟩) (fun r24 h24 H locs hk Z => ?_)
        refine va_mmax hx hb (hml.trans hl.1.symm) hown (hts _ tw_450) (hts _ tw_451) (hts _ tw_68) (hts _ tw_452) (Nat.le_of_ble_eq_true rfl) (Nat.le_of_ble_eq_true rfl) (Nat.zero_le _) (Nat.zero_le _) dX4_leadOf_27 ?_
        refine lv_topi (fun y30 ey30 => ?_)
        have hk := hk y30 ey30
        refine lv_istore_n (lv' := [(3, .int y30), (0, .ref x0), (1, .int x1), (2, .int x2), (4, .int x4)]) hx hb dX4_leadOf_30 rfl hl (by decide) rfl (fun ls hl => ?_)
        obtain ⟨y31, ey31⟩ : ∃ y : Int32, y = x4 + (nI 1) := ⟨_, rfl⟩
        have hk := hk y31 ey31
        refine lv_iinc (v := y31) (lv' := [(4, .int y31), (3, .int y30), (0, .ref x0), (1, .int x1), (2, .int x2)]) hx hb dX4_leadOf_31 hl (k := 4) rfl (by rw [ey31]; rfl) (by decide) rfl (fun ls hl => ?_)
        refine lv_goto (tgt := 5) hx hb dX4_leadOf_34 (by decide) ?_
        exact ih y30 y31 h24 _ _ _ (lv_sub hl [2, 3, 4, 1, 0] rfl) Z hk
set_option maxRecDepth 100000 in
set_option maxHeartbeats 4000000 in
theorem m_X4_leadOf (l : Launch) (g : Gt) (h : Hp) (x0 : Nat) (x1 : Int32) (x2 : Int32) (Post : Int32 → Hp → Prop) (hk : wp_X4_leadOf x0 x1 x2 Post h) : Met l yX4_leadOf wzX4_leadOf rmX4_leadOf (Pg g h [.ref x0, .int x1, .int x2]) (Qi g h Post) 0 0 (dm h) := by
  refine Met_of (cc := cX4_leadOf) (maxL := 5) (ret := (some .int)) (by decide) (Nat.le_of_ble_eq_true rfl) (fun p e s m below meth c ls C hr hnm hl Z => ?_)
  have hx := C.1.1
  have hb := C.1.2.1
  have hml := C.1.2.2.1
  have hown := C.1.2.2.2.1
  have hts := C.1.2.2.2.2
  have hl : lv_has ls 5 [(0, .ref x0), (1, .int x1), (2, .int x2)] := hl
  unfold wp_X4_leadOf at hk
  generalize s.heap = H at Z ⊢
  generalize ([] : List Loc) = locs at Z ⊢
  refine lv_iconst (v := (nI 0)) hx hb dX4_leadOf_0 (by decide) ?_
  refine lv_istore_n (lv' := [(3, .int (nI 0)), (0, .ref x0), (1, .int x1), (2, .int x2)]) hx hb dX4_leadOf_1 rfl hl (by decide) rfl (fun ls hl => ?_)
  refine lv_iconst (v := (nI 0)) hx hb dX4_leadOf_2 (by decide) ?_
  refine lv_istore (lv' := [(4, .int (nI 0)), (3, .int (nI 0)), (0, .ref x0), (1, .int x1), (2, .int x2)]) hx hb dX4_leadOf_3 hl (by decide) rfl (fun ls hl => ?_)
  obtain ⟨n1, hk⟩ := hk
  exact w_X4_leadOf_5 C hr x0 x1 x2 n1 (nI 0) (nI 0) h _ _ _ (lv_sub hl [2, 3, 4, 1, 0] rfl) Z hk
abbrev rmX8_leader : Room := ({ frames := 5, cells := 0, slots := 0, locals := 117 } : Room)
abbrev wzX8_leader : List Cond := WS yX8_leader cX8_leader 6 (some .int)
set_option maxRecDepth 100000 in
set_option maxHeartbeats 4000000 in
theorem m_X8_leader (l : Launch) (g : Gt) (h : Hp) (x0 : Nat) (x1 : Int32) (x2 : Int32) (Post : Int32 → Hp → Prop) (hk : wp_X8_leader x0 x1 x2 Post h) : Met l yX8_leader wzX8_leader rmX8_leader (Pg g h [.ref x0, .int x1, .int x2]) (Qi g h Post) 0 0 (dm h) := by
  refine Met_of (cc := cX8_leader) (maxL := 6) (ret := (some .int)) (by decide) (Nat.le_of_ble_eq_true rfl) (fun p e s m below meth c ls C hr hnm hl Z => ?_)
  have hx := C.1.1
  have hb := C.1.2.1
  have hml := C.1.2.2.1
  have hown := C.1.2.2.2.1
  have hts := C.1.2.2.2.2
  have hl : lv_has ls 6 [(0, .ref x0), (1, .int x1), (2, .int x2)] := hl
  unfold wp_X8_leader at hk
  generalize s.heap = H at Z ⊢
  generalize ([] : List Loc) = locs at Z ⊢
  refine lv_iload_n hx hb dX8_leader_0 rfl (lv_at hl 1 rfl) ?_
  refine lv_iconst (v := (nI 0)) hx hb dX8_leader_1 (by decide) ?_
  refine lv_iconst (v := (nI 3)) hx hb dX8_leader_2 (by decide) ?_
  refine r_calli Z (r_runS (As := [.int x1, .int (nI 0), .int (nI 3)]) (rest := []) C Z (m_X8_within l g h x1 (nI 0) (nI 3) _ hk) (va_cwS 3 C.1.2.2.2.2 (gS tw_547 tw_381 tw_57 tw_382) rfl rfl rfl (by decide +kernel) ⟨Nat.le_of_ble_eq_true rfl, Nat.le_of_ble_eq_true rfl⟩) rfl hl.1 rfl (Nat.le_of_ble_eq_true rfl) dX8_leader_3 ⟨Nat.zero_le _, Nat.zero_le _⟩) (fun r3 h3 H locs hk Z => ?_)
  refine lv_if_eq (tgt := 18) hx hb dX8_leader_6 (by decide) (fun q => ?_) (fun q => ?_)
  · have hk := hk.1 q
    refine lv_iconst (v := (-1 : Int32)) hx hb dX8_leader_18 (by decide) ?_
    exact r_iret C Z hr hk dX8_leader_19
  · have hk := hk.2 q
    refine lv_iload_n hx hb dX8_leader_9 rfl (lv_at hl 2 rfl) ?_
    refine lv_iconst (v := (nI 0)) hx hb dX8_leader_10 (by decide) ?_
    refine lv_iconst (v := (nI 3)) hx hb dX8_leader_11 (by decide) ?_
    refine r_calli Z (r_runS (As := [.int x2, .int (nI 0), .int (nI 3)]) (rest := []) C Z (m_X8_within l g h3 x2 (nI 0) (nI 3) _ hk) (va_cwS 3 C.1.2.2.2.2 (gS tw_547 tw_381 tw_57 tw_382) rfl rfl rfl (by decide +kernel) ⟨Nat.le_of_ble_eq_true rfl, Nat.le_of_ble_eq_true rfl⟩) rfl hl.1 rfl (Nat.le_of_ble_eq_true rfl) dX8_leader_12 ⟨Nat.zero_le _, Nat.zero_le _⟩) (fun r12 h12 H locs hk Z => ?_)
    refine lv_if_ne (tgt := 20) hx hb dX8_leader_15 (by decide) (fun q => ?_) (fun q => ?_)
    · have hk := hk.1 q
      refine lv_aload_n hx hb dX8_leader_20 rfl (lv_at hl 0 rfl) ?_
      obtain ⟨v21, hv, hk⟩ := hk
      refine r_get (ci := 8) (k := 1) (T := TX8) (N := 6) C Z hv ku_8 rfl (by decide) tw_334 dX8_leader_21 ?_
      obtain ⟨ho, hk⟩ := hk
      refine r_callv Z (r_runV (As := []) (rest := []) C Z (m_X4_workOut l g h12 v21 _ hk) ho rfl (cwV 0 C.1.2.2.2.2 (gV tw_726 tw_428 tw_429 tw_59 tw_430) rfl rfl rfl (by decide +kernel) ⟨Nat.le_of_ble_eq_true rfl, Nat.le_of_ble_eq_true rfl⟩) rfl hl.1 rfl (Nat.le_of_ble_eq_true rfl) dX8_leader_24 ⟨Nat.zero_le _, Nat.zero_le _⟩) (fun h24 H locs hk Z => ?_)
      refine lv_aload_n hx hb dX8_leader_27 rfl (lv_at hl 0 rfl) ?_
      obtain ⟨v28, hv, hk⟩ := hk
      refine r_get (ci := 8) (k := 1) (T := TX8) (N := 6) C Z hv ku_8 rfl (by decide) tw_334 dX8_leader_28 ?_
      refine lv_iload_n hx hb dX8_leader_31 rfl (lv_at hl 1 rfl) ?_
      obtain ⟨ho, hk⟩ := hk
      refine r_calli Z (r_runV (As := [.int x1]) (rest := []) C Z (m_X4_leadingChoice l g h24 v28 x1 _ hk) ho rfl (cwV 1 C.1.2.2.2.2 (gV tw_805 tw_806 tw_807 tw_59 tw_808) rfl rfl rfl (by decide +kernel) ⟨Nat.le_of_ble_eq_true rfl, Nat.le_of_ble_eq_true rfl⟩) rfl hl.1 rfl (Nat.le_of_ble_eq_true rfl) dX8_leader_32 ⟨Nat.zero_le _, Nat.zero_le _⟩) (fun r32 h32 H locs hk Z => ?_)
      refine lv_istore_n (lv' := [(3, .int r32), (0, .ref x0), (1, .int x1), (2, .int x2)]) hx hb dX8_leader_35 rfl hl (by decide) rfl (fun ls hl => ?_)
      refine lv_aload_n hx hb dX8_leader_36 rfl (lv_at hl 1 rfl) ?_
      obtain ⟨v37, hv, hk⟩ := hk
      refine r_get (ci := 8) (k := 1) (T := TX8) (N := 6) C Z hv ku_8 rfl (by decide) tw_334 dX8_leader_37 ?_
      refine lv_iload_n hx hb dX8_leader_40 rfl (lv_at hl 2 rfl) ?_
      refine lv_iload_n hx hb dX8_leader_41 rfl (lv_at hl 0 rfl) ?_
      obtain ⟨ho, hk⟩ := hk
      refine r_calli Z (r_runV (As := [.int x1, .int r32]) (rest := []) C Z (m_X4_leadOf l g h32 v37 x1 r32 _ hk) ho rfl (cwV 2 C.1.2.2.2.2 (gV tw_810 tw_811 tw_812 tw_59 tw_813) rfl rfl rfl (by decide +kernel) ⟨Nat.le_of_ble_eq_true rfl, Nat.le_of_ble_eq_true rfl⟩) rfl hl.1 rfl (Nat.le_of_ble_eq_true rfl) dX8_leader_42 ⟨Nat.zero_le _, Nat.zero_le _⟩) (fun r42 h42 H locs hk Z => ?_)
      refine lv_istore (lv' := [(4, .int r42), (3, .int r32), (0, .ref x0), (1, .int x1), (2, .int x2)]) hx hb dX8_leader_45 hl (by decide) rfl (fun ls hl => ?_)
      refine lv_aload_n hx hb dX8_leader_47 rfl (lv_at hl 2 rfl) ?_
      obtain ⟨v48, hv, hk⟩ := hk
      refine r_get (ci := 8) (k := 1) (T := TX8) (N := 6) C Z hv ku_8 rfl (by decide) tw_334 dX8_leader_48 ?_
      refine lv_iload_n hx hb dX8_leader_51 rfl (lv_at hl 3 rfl) ?_
      refine lv_iconst (v := (nI 5)) hx hb dX8_leader_52 (by decide) ?_
      refine lv_iconst (v := (-1 : Int32)) hx hb dX8_leader_53 (by decide) ?_
      refine lv_iconst (v := (-1 : Int32)) hx hb dX8_leader_54 (by decide) ?_
      obtain ⟨ho, hk⟩ := hk
      refine r_calli Z (r_runV (As := [.int x1, .int (nI 5), .int (-1 : Int32), .int (-1 : Int32)]) (rest := []) C Z (m_X4_cardsWith l g h42 v48 x1 (nI 5) (-1 : Int32) (-1 : Int32) _ hk) ho rfl (cwV 4 C.1.2.2.2.2 (gV tw_778 tw_779 tw_780 tw_59 tw_781) rfl rfl rfl (by decide +kernel) ⟨Nat.le_of_ble_eq_true rfl, Nat.le_of_ble_eq_true rfl⟩) rfl hl.1 rfl (Nat.le_of_ble_eq_true rfl) dX8_leader_55 ⟨Nat.zero_le _, Nat.zero_le _⟩) (fun r55 h55 H locs hk Z => ?_)
      refine lv_istore (lv' := [(5, .int r55), (4, .int r42), (3, .int r32), (0, .ref x0), (1, .int x1), (2, .int x2)]) hx hb dX8_leader_58 hl (by decide) rfl (fun ls hl => ?_)
      refine lv_iload_n hx hb dX8_leader_60 rfl (lv_at hl 5 rfl) ?_
      rcases Classical.em (x2 = (nI 0)) with q | q0
      · have hk := hk.1 q
        refine lv_tableIn (tgt := 88) hx hb dX8_leader_61 (by rw [q]; decide) (by rw [q]; decide) (by rw [q]; rfl) (by decide) ?_
        refine lv_iload_n hx hb dX8_leader_88 rfl (lv_at hl 2 rfl) ?_
        exact r_iret C Z hr hk dX8_leader_89
      · have hk := hk.2 q0
        rcases Classical.em (x2 = (nI 1)) with q | q1
        · have hk := hk.1 q
          refine lv_tableIn (tgt := 90) hx hb dX8_leader_61 (by rw [q]; decide) (by rw [q]; decide) (by rw [q]; rfl) (by decide) ?_
          refine lv_iload hx hb dX8_leader_90 (lv_at hl 1 rfl) ?_
          exact r_iret C Z hr hk dX8_leader_92
        · have hk := hk.2 q1
          rcases Classical.em (x2 = (nI 2)) with q | q2
          · have hk := hk.1 q
            refine lv_tableIn (tgt := 93) hx hb dX8_leader_61 (by rw [q]; decide) (by rw [q]; decide) (by rw [q]; rfl) (by decide) ?_
            refine lv_iload hx hb dX8_leader_93 (lv_at hl 0 rfl) ?_
            exact r_iret C Z hr hk dX8_leader_95
          · have hk := hk.2 q2
            refine lv_tableOut (tgt := 96) hx hb dX8_leader_61 (by have t0 := ne_toI q0 (show Int32.toInt (nI 0) = (0 : Int) by decide); have t1 := ne_toI q1 (show Int32.toInt (nI 1) = (1 : Int) by decide); have t2 := ne_toI q2 (show Int32.toInt (nI 2) = (2 : Int) by decide); omega) (by decide) ?_
            refine lv_iload hx hb dX8_leader_96 (lv_at hl 1 rfl) ?_
            refine lv_iload hx hb dX8_leader_98 (lv_at hl 0 rfl) ?_
            refine lv_icmp_le (tgt := 107) hx hb dX8_leader_100 (by decide) (fun q => ?_) (fun q => ?_)
            · have hk := hk.1 q
              refine lv_iconst (v := (nI 0)) hx hb dX8_leader_107 (by decide) ?_
              exact r_iret C Z hr hk dX8_leader_108
            · have hk := hk.2 q
              refine lv_iconst (v := (nI 1)) hx hb dX8_leader_103 (by decide) ?_
              refine lv_goto (tgt := 108) hx hb dX8_leader_104 (by decide) ?_
              exact r_iret C Z hr hk dX8_leader_108
    · have hk := hk.2 q
      refine lv_iconst (v := (-1 : Int32)) hx hb dX8_leader_18 (by decide) ?_
      exact r_iret C Z hr hk dX8_leader_19
abbrev rmX8_error : Room := ({ frames := 4, cells := 0, slots := 0, locals := 88 } : Room)
abbrev wzX8_error : List Cond := WS yX8_error cX8_error 5 (some .int)
set_option maxRecDepth 100000 in
set_option maxHeartbeats 4000000 in
theorem w_X8_error_32 {p : Program} {l : Launch} {e : Env} {s : State} {m : MethodId} {args : Array Value} {below : List Frame} {meth : Method} {c : Code} {g : Gt} {h0 : Hp} (C : Cx g (dm h0) RX8 cX8_error 5 p s m args meth c) (hr : meth.sig.returnType = (some .int)) {Post : Int32 → Hp → Prop} (x0 : Nat) (x1 : Int32) (x2 : Int32)   : ∀ (n : Nat) (x3 : Int32) (x4 : Int32) (h : Hp) (H : Heap) (locs : List Loc) (ls : Array Slot), lv_has ls 5 [(0, .ref x0), (1, .int x1), (2, .int x2), (3, .int x3), (4, .int x4)] → St g (dm h0) s h H locs → wp_X8_error_32 Post x0 x1 x2 n x3 x4 h → W p l e rmX8_error s m args below meth c H locs 0 0 (MQ below (Qi g h0 Post) args s 0 0 (dm h0)) (F0 m 32 ls []) := by
  have hx := C.1.1
  have hb := C.1.2.1
  have hml := C.1.2.2.1
  have hown := C.1.2.2.2.1
  have hts := C.1.2.2.2.2
  intro n
  induction n with
  | zero => intro x3 x4 h H locs ls hl Z hk; exact (show False from hk).elim
  | succ n ih =>
    intro x3 x4 h H locs ls hl Z hk
    unfold wp_X8_error_32 at hk
    refine lv_iload hx hb dX8_error_32 (lv_at hl 4 rfl) ?_
    refine lv_aload_n hx hb dX8_error_34 rfl (lv_at hl 0 rfl) ?_
    obtain ⟨v35, hv, hk⟩ := hk
    refine r_get (ci := 8) (k := 2) (T := TX8) (N := 6) C Z hv ku_8 rfl (by decide) tw_335 dX8_error_35 ?_
    obtain ⟨v38, hv, hk⟩ := hk
    refine r_get (ci := 0) (k := 0) (T := TX0) (N := 11) C Z hv ku_0 rfl (by decide) tw_102 dX8_error_38 ?_
    refine lv_icmp_ge (tgt := 91) hx hb dX8_error_41 (by decide) (fun q => ?_) (fun q => ?_)
    · have hk := hk.1 q
      refine lv_iload_n hx hb dX8_error_91 rfl (lv_at hl 3 rfl) ?_
      exact r_iret C Z hr hk dX8_error_92
    · have hk := hk.2 q
      refine lv_aload_n hx hb dX8_error_44 rfl (lv_at hl 0 rfl) ?_
      obtain ⟨v45, hv, hk⟩ := hk
      refine r_get (ci := 8) (k := 2) (T := TX8) (N := 6) C Z hv ku_8 rfl (by decide) tw_335 dX8_error_45 ?_
      obtain ⟨v48, hv, hk⟩ := hk
      refine r_get (ci := 0) (k := 2) (T := TX0) (N := 11) C Z hv ku_0 rfl (by decide) tw_110 dX8_error_48 ?_
      refine lv_iload hx hb dX8_error_51 (lv_at hl 4 rfl) ?_
      obtain ⟨v53, hv, hk⟩ := hk
      refine r_iald C Z hv dX8_error_53 ?_
      refine lv_iload_n hx hb dX8_error_54 rfl (lv_at hl 1 rfl) ?_
      refine lv_icmp_ne (tgt := 85) hx hb dX8_error_55 (by decide) (fun q => ?_) (fun q => ?_)
      · have hk := hk.1 q
        obtain ⟨y85, ey85⟩ : ∃ y : Int32, y = x4 + (nI 1) := ⟨_, rfl⟩
        have hk := hk y85 ey85
        refine lv_iinc (v := y85) (lv' := [(4, .int y85), (0, .ref x0), (1, .int x1), (2, .int x2), (3, .int x3)]) hx hb dX8_error_85 hl (k := 4) rfl (by rw [ey85]; rfl) (by decide) rfl (fun ls hl => ?_)
        refine lv_goto (tgt := 32) hx hb dX8_error_88 (by decide) ?_
        exact ih x3 y85 h _ _ _ (lv_sub hl [1, 2, 3, 4, 0] rfl) Z hk
      · have hk := hk.2 q
        refine lv_aload_n hx hb dX8_error_58 rfl (lv_at hl 0 rfl) ?_
        obtain ⟨v59, hv, hk⟩ := hk
        refine r_get (ci := 8) (k := 2) (T := TX8) (N := 6) C Z hv ku_8 rfl (by decide) tw_335 dX8_error_59 ?_
        obtain ⟨v62, hv, hk⟩ := hk
        refine r_get (ci := 0) (k := 4) (T := TX0) (N := 11) C Z hv ku_0 rfl (by decide) tw_118 dX8_error_62 ?_
        refine lv_iload hx hb dX8_error_65 (lv_at hl 4 rfl) ?_
        obtain ⟨v67, hv, hk⟩ := hk
        refine r_iald C Z hv dX8_error_67 ?_
        refine lv_iconst (v := (nI 2)) hx hb dX8_error_68 (by decide) ?_
        refine lv_icmp_ne (tgt := 85) hx hb dX8_error_69 (by decide) (fun q => ?_) (fun q => ?_)
        · have hk := hk.1 q
          obtain ⟨y85, ey85⟩ : ∃ y : Int32, y = x4 + (nI 1) := ⟨_, rfl⟩
          have hk := hk y85 ey85
          refine lv_iinc (v := y85) (lv' := [(4, .int y85), (0, .ref x0), (1, .int x1), (2, .int x2), (3, .int x3)]) hx hb dX8_error_85 hl (k := 4) rfl (by rw [ey85]; rfl) (by decide) rfl (fun ls hl => ?_)
          refine lv_goto (tgt := 32) hx hb dX8_error_88 (by decide) ?_
          exact ih x3 y85 h _ _ _ (lv_sub hl [1, 2, 3, 4, 0] rfl) Z hk
        · have hk := hk.2 q
          refine lv_iload_n hx hb dX8_error_72 rfl (lv_at hl 3 rfl) ?_
          refine lv_aload_n hx hb dX8_error_73 rfl (lv_at hl 0 rfl) ?_
          obtain ⟨v74, hv, hk⟩ := hk
          refine r_get (ci := 8) (k := 1) (T := TX8) (N := 6) C Z hv ku_8 rfl (by decide) tw_334 dX8_error_74 ?_
          refine lv_iload hx hb dX8_error_77 (lv_at hl 4 rfl) ?_
          refine lv_iload_n hx hb dX8_error_79 rfl (lv_at hl 2 rfl) ?_
          obtain ⟨ho, hk⟩ := hk
          refine r_calli Z (r_runV (As := [.int x4, .int x2]) (rest := [.int x3]) C Z (m_X4_errorOf l g h v74 x4 x2 _ hk) ho rfl (cwV 2 C.1.2.2.2.2 (gV tw_818 tw_819 tw_820 tw_59 tw_821) rfl rfl rfl (by decide +kernel) ⟨Nat.le_of_ble_eq_true rfl, Nat.le_of_ble_eq_true rfl⟩) rfl hl.1 rfl (Nat.le_of_ble_eq_true rfl) dX8_error_80 ⟨Nat.zero_le _, Nat.zero_le _⟩) (fun r80 h80 H locs hk Z => ?_)
          refine lv_iadd hx hb dX8_error_83 ?_
          refine lv_topi (fun y84 ey84 => ?_)
          have hk := hk y84 ey84
          refine lv_istore_n (lv' := [(3, .int y84), (0, .ref x0), (1, .int x1), (2, .int x2), (4, .int x4)]) hx hb dX8_error_84 rfl hl (by decide) rfl (fun ls hl => ?_)
          obtain ⟨y85, ey85⟩ : ∃ y : Int32, y = x4 + (nI 1) := ⟨_, rfl⟩
          have hk := hk y85 ey85
          refine lv_iinc (v := y85) (lv' := [(4, .int y85), (3, .int y84), (0, .ref x0), (1, .int x1), (2, .int x2)]) hx hb dX8_error_85 hl (k := 4) rfl (by rw [ey85]; rfl) (by decide) rfl (fun ls hl => ?_)
          refine lv_goto (tgt := 32) hx hb dX8_error_88 (by decide) ?_
          exact ih y84 y85 h80 _ _ _ (lv_sub hl [2, 3, 4, 1, 0] rfl) Z hk
set_option maxRecDepth 100000 in
set_option maxHeartbeats 4000000 in
theorem m_X8_error (l : Launch) (g : Gt) (h : Hp) (x0 : Nat) (x1 : Int32) (x2 : Int32) (Post : Int32 → Hp → Prop) (hk : wp_X8_error x0 x1 x2 Post h) : Met l yX8_error wzX8_error rmX8_error (Pg g h [.ref x0, .int x1, .int x2]) (Qi g h Post) 0 0 (dm h) := by
  refine Met_of (cc := cX8_error) (maxL := 5) (ret := (some .int)) (by decide) (Nat.le_of_ble_eq_true rfl) (fun p e s m below meth c ls C hr hnm hl Z => ?_)
  have hx := C.1.1
  have hb := C.1.2.1
  have hml := C.1.2.2.1
  have hown := C.1.2.2.2.1
  have hts := C.1.2.2.2.2
  have hl : lv_has ls 5 [(0, .ref x0), (1, .int x1), (2, .int x2)] := hl
  unfold wp_X8_error at hk
  generalize s.heap = H at Z ⊢
  generalize ([] : List Loc) = locs at Z ⊢
  refine lv_iload_n hx hb dX8_error_0 rfl (lv_at hl 1 rfl) ?_
  refine lv_iconst (v := (nI 0)) hx hb dX8_error_1 (by decide) ?_
  refine lv_iconst (v := (nI 2)) hx hb dX8_error_2 (by decide) ?_
  refine r_calli Z (r_runS (As := [.int x1, .int (nI 0), .int (nI 2)]) (rest := []) C Z (m_X8_within l g h x1 (nI 0) (nI 2) _ hk) (va_cwS 3 C.1.2.2.2.2 (gS tw_547 tw_381 tw_57 tw_382) rfl rfl rfl (by decide +kernel) ⟨Nat.le_of_ble_eq_true rfl, Nat.le_of_ble_eq_true rfl⟩) rfl hl.1 rfl (Nat.le_of_ble_eq_true rfl) dX8_error_3 ⟨Nat.zero_le _, Nat.zero_le _⟩) (fun r3 h3 H locs hk Z => ?_)
  refine lv_if_eq (tgt := 18) hx hb dX8_error_6 (by decide) (fun q => ?_) (fun q => ?_)
  · have hk := hk.1 q
    refine lv_iconst (v := (-1 : Int32)) hx hb dX8_error_18 (by decide) ?_
    exact r_iret C Z hr hk dX8_error_19
  · have hk := hk.2 q
    refine lv_iload_n hx hb dX8_error_9 rfl (lv_at hl 2 rfl) ?_
    refine lv_iconst (v := (nI 0)) hx hb dX8_error_10 (by decide) ?_
    refine lv_iconst (v := (nI 2)) hx hb dX8_error_11 (by decide) ?_
    refine r_calli Z (r_runS (As := [.int x2, .int (nI 0), .int (nI 2)]) (rest := []) C Z (m_X8_within l g h3 x2 (nI 0) (nI 2) _ hk) (va_cwS 3 C.1.2.2.2.2 (gS tw_547 tw_381 tw_57 tw_382) rfl rfl rfl (by decide +kernel) ⟨Nat.le_of_ble_eq_true rfl, Nat.le_of_ble_eq_true rfl⟩) rfl hl.1 rfl (Nat.le_of_ble_eq_true rfl) dX8_error_12 ⟨Nat.zero_le _, Nat.zero_le _⟩) (fun r12 h12 H locs hk Z => ?_)
    refine lv_if_ne (tgt := 20) hx hb dX8_error_15 (by decide) (fun q => ?_) (fun q => ?_)
    · have hk := hk.1 q
      refine lv_aload_n hx hb dX8_error_20 rfl (lv_at hl 0 rfl) ?_
      obtain ⟨v21, hv, hk⟩ := hk
      refine r_get (ci := 8) (k := 1) (T := TX8) (N := 6) C Z hv ku_8 rfl (by decide) tw_334 dX8_error_21 ?_
      obtain ⟨ho, hk⟩ := hk
      refine r_callv Z (r_runV (As := []) (rest := []) C Z (m_X4_workOut l g h12 v21 _ hk) ho rfl (cwV 0 C.1.2.2.2.2 (gV tw_726 tw_428 tw_429 tw_59 tw_430) rfl rfl rfl (by decide +kernel) ⟨Nat.le_of_ble_eq_true rfl, Nat.le_of_ble_eq_true rfl⟩) rfl hl.1 rfl (Nat.le_of_ble_eq_true rfl) dX8_error_24 ⟨Nat.zero_le _, Nat.zero_le _⟩) (fun h24 H locs hk Z => ?_)
      refine lv_iconst (v := (nI 0)) hx hb dX8_error_27 (by decide) ?_
      refine lv_istore_n (lv' := [(3, .int (nI 0)), (0, .ref x0), (1, .int x1), (2, .int x2)]) hx hb dX8_error_28 rfl hl (by decide) rfl (fun ls hl => ?_)
      refine lv_iconst (v := (nI 0)) hx hb dX8_error_29 (by decide) ?_
      refine lv_istore (lv' := [(4, .int (nI 0)), (3, .int (nI 0)), (0, .ref x0), (1, .int x1), (2, .int x2)]) hx hb dX8_error_30 hl (by decide) rfl (fun ls hl => ?_)
      obtain ⟨n1, hk⟩ := hk
      exact w_X8_error_32 C hr x0 x1 x2 n1 (nI 0) (nI 0) h24 _ _ _ (lv_sub hl [2, 3, 4, 1, 0] rfl) Z hk
    · have hk := hk.2 q
      refine lv_iconst (v := (-1 : Int32)) hx hb dX8_error_18 (by decide) ?_
      exact r_iret C Z hr hk dX8_error_19
abbrev rmX8_byLength : Room := ({ frames := 4, cells := 0, slots := 0, locals := 88 } : Room)
abbrev wzX8_byLength : List Cond := WS yX8_byLength cX8_byLength 2 (some .int)
set_option maxRecDepth 100000 in
set_option maxHeartbeats 4000000 in
theorem m_X8_byLength (l : Launch) (g : Gt) (h : Hp) (x0 : Nat) (x1 : Int32) (Post : Int32 → Hp → Prop) (hk : wp_X8_byLength x0 x1 Post h) : Met l yX8_byLength wzX8_byLength rmX8_byLength (Pg g h [.ref x0, .int x1]) (Qi g h Post) 0 0 (dm h) := by
  refine Met_of (cc := cX8_byLength) (maxL := 2) (ret := (some .int)) (by decide) (Nat.le_of_ble_eq_true rfl) (fun p e s m below meth c ls C hr hnm hl Z => ?_)
  have hx := C.1.1
  have hb := C.1.2.1
  have hml := C.1.2.2.1
  have hown := C.1.2.2.2.1
  have hts := C.1.2.2.2.2
  have hl : lv_has ls 2 [(0, .ref x0), (1, .int x1)] := hl
  unfold wp_X8_byLength at hk
  generalize s.heap = H at Z ⊢
  generalize ([] : List Loc) = locs at Z ⊢
  refine lv_iload_n hx hb dX8_byLength_0 rfl (lv_at hl 1 rfl) ?_
  refine va_gets hx hb C.2.2.2.1.1 Z.1 hown (hts _ tw_829) (fun x hx => hx) dX8_byLength_1 ?_
  refine lv_iconst (v := (nI 0)) hx hb dX8_byLength_4 (by decide) ?_
  obtain ⟨v5, hv, hk⟩ := hk
  refine r_sti (i := 0) C Z (by decide) hv dX8_byLength_5 ?_
  refine va_gets hx hb C.2.2.2.2.1.1 Z.1 hown (hts _ tw_830) (fun x hx => hx) dX8_byLength_6 ?_
  refine lv_iconst (v := (nI 0)) hx hb dX8_byLength_9 (by decide) ?_
  obtain ⟨v10, hv, hk⟩ := hk
  refine r_sti (i := 1) C Z (by decide) hv dX8_byLength_10 ?_
  refine r_calli Z (r_runS (As := [.int x1, .int v5, .int v10]) (rest := []) C Z (m_X8_within l g h x1 v5 v10 _ hk) (va_cwS 3 C.1.2.2.2.2 (gS tw_547 tw_381 tw_57 tw_382) rfl rfl rfl (by decide +kernel) ⟨Nat.le_of_ble_eq_true rfl, Nat.le_of_ble_eq_true rfl⟩) rfl hl.1 rfl (Nat.le_of_ble_eq_true rfl) dX8_byLength_11 ⟨Nat.zero_le _, Nat.zero_le _⟩) (fun r11 h11 H locs hk Z => ?_)
  refine lv_if_ne (tgt := 19) hx hb dX8_byLength_14 (by decide) (fun q => ?_) (fun q => ?_)
  · have hk := hk.1 q
    refine lv_aload_n hx hb dX8_byLength_19 rfl (lv_at hl 0 rfl) ?_
    obtain ⟨v20, hv, hk⟩ := hk
    refine r_get (ci := 8) (k := 1) (T := TX8) (N := 6) C Z hv ku_8 rfl (by decide) tw_334 dX8_byLength_20 ?_
    obtain ⟨ho, hk⟩ := hk
    refine r_callv Z (r_runV (As := []) (rest := []) C Z (m_X4_workOut l g h11 v20 _ hk) ho rfl (cwV 0 C.1.2.2.2.2 (gV tw_726 tw_428 tw_429 tw_59 tw_430) rfl rfl rfl (by decide +kernel) ⟨Nat.le_of_ble_eq_true rfl, Nat.le_of_ble_eq_true rfl⟩) rfl hl.1 rfl (Nat.le_of_ble_eq_true rfl) dX8_byLength_23 ⟨Nat.zero_le _, Nat.zero_le _⟩) (fun h23 H locs hk Z => ?_)
    refine lv_aload_n hx hb dX8_byLength_26 rfl (lv_at hl 0 rfl) ?_
    obtain ⟨v27, hv, hk⟩ := hk
    refine r_get (ci := 8) (k := 1) (T := TX8) (N := 6) C Z hv ku_8 rfl (by decide) tw_334 dX8_byLength_27 ?_
    refine lv_iload_n hx hb dX8_byLength_30 rfl (lv_at hl 1 rfl) ?_
    obtain ⟨ho, hk⟩ := hk
    refine r_calli Z (r_runV (As := [.int x1]) (rest := []) C Z (m_X4_otherWith l g h23 v27 x1 _ hk) ho rfl (cwV 1 C.1.2.2.2.2 (gV tw_831 tw_832 tw_833 tw_59 tw_834) rfl rfl rfl (by decide +kernel) ⟨Nat.le_of_ble_eq_true rfl, Nat.le_of_ble_eq_true rfl⟩) rfl hl.1 rfl (Nat.le_of_ble_eq_true rfl) dX8_byLength_31 ⟨Nat.zero_le _, Nat.zero_le _⟩) (fun r31 h31 H locs hk Z => ?_)
    exact r_iret C Z hr hk dX8_byLength_34
  · have hk := hk.2 q
    refine lv_iconst (v := (-1 : Int32)) hx hb dX8_byLength_17 (by decide) ?_
    exact r_iret C Z hr hk dX8_byLength_18
abbrev rmX8_drawn : Room := ({ frames := 4, cells := 0, slots := 0, locals := 88 } : Room)
abbrev wzX8_drawn : List Cond := WS yX8_drawn cX8_drawn 3 (some .int)
set_option maxRecDepth 100000 in
set_option maxHeartbeats 4000000 in
theorem m_X8_drawn (l : Launch) (g : Gt) (h : Hp) (x0 : Nat) (x1 : Int32) (Post : Int32 → Hp → Prop) (hk : wp_X8_drawn x0 x1 Post h) : Met l yX8_drawn wzX8_drawn rmX8_drawn (Pg g h [.ref x0, .int x1]) (Qi g h Post) 0 0 (dm h) := by
  refine Met_of (cc := cX8_drawn) (maxL := 3) (ret := (some .int)) (by decide) (Nat.le_of_ble_eq_true rfl) (fun p e s m below meth c ls C hr hnm hl Z => ?_)
  have hx := C.1.1
  have hb := C.1.2.1
  have hml := C.1.2.2.1
  have hown := C.1.2.2.2.1
  have hts := C.1.2.2.2.2
  have hl : lv_has ls 3 [(0, .ref x0), (1, .int x1)] := hl
  unfold wp_X8_drawn at hk
  generalize s.heap = H at Z ⊢
  generalize ([] : List Loc) = locs at Z ⊢
  refine lv_iload_n hx hb dX8_drawn_0 rfl (lv_at hl 1 rfl) ?_
  refine lv_iconst (v := (nI 0)) hx hb dX8_drawn_1 (by decide) ?_
  refine lv_ldc (v := (nI 65536)) hx hb hown (hts _ tw_840) dX8_drawn_2 ?_
  refine r_calli Z (r_runS (As := [.int x1, .int (nI 0), .int (nI 65536)]) (rest := []) C Z (m_X8_within l g h x1 (nI 0) (nI 65536) _ hk) (va_cwS 3 C.1.2.2.2.2 (gS tw_547 tw_381 tw_57 tw_382) rfl rfl rfl (by decide +kernel) ⟨Nat.le_of_ble_eq_true rfl, Nat.le_of_ble_eq_true rfl⟩) rfl hl.1 rfl (Nat.le_of_ble_eq_true rfl) dX8_drawn_4 ⟨Nat.zero_le _, Nat.zero_le _⟩) (fun r4 h4 H locs hk Z => ?_)
  refine lv_if_ne (tgt := 12) hx hb dX8_drawn_7 (by decide) (fun q => ?_) (fun q => ?_)
  · have hk := hk.1 q
    refine lv_aload_n hx hb dX8_drawn_12 rfl (lv_at hl 0 rfl) ?_
    obtain ⟨v13, hv, hk⟩ := hk
    refine r_get (ci := 8) (k := 1) (T := TX8) (N := 6) C Z hv ku_8 rfl (by decide) tw_334 dX8_drawn_13 ?_
    obtain ⟨ho, hk⟩ := hk
    refine r_callv Z (r_runV (As := []) (rest := []) C Z (m_X4_workOut l g h4 v13 _ hk) ho rfl (cwV 0 C.1.2.2.2.2 (gV tw_726 tw_428 tw_429 tw_59 tw_430) rfl rfl rfl (by decide +kernel) ⟨Nat.le_of_ble_eq_true rfl, Nat.le_of_ble_eq_true rfl⟩) rfl hl.1 rfl (Nat.le_of_ble_eq_true rfl) dX8_drawn_16 ⟨Nat.zero_le _, Nat.zero_le _⟩) (fun h16 H locs hk Z => ?_)
    refine lv_aload_n hx hb dX8_drawn_19 rfl (lv_at hl 0 rfl) ?_
    obtain ⟨v20, hv, hk⟩ := hk
    refine r_get (ci := 8) (k := 1) (T := TX8) (N := 6) C Z hv ku_8 rfl (by decide) tw_334 dX8_drawn_20 ?_
    obtain ⟨ho, hk⟩ := hk
    refine r_calli Z (r_runV (As := []) (rest := []) C Z (m_X4_poolSize l g h16 v20 _ hk) ho rfl (cwV 0 C.1.2.2.2.2 (gV tw_728 tw_502 tw_503 tw_59 tw_504) rfl rfl rfl (by decide +kernel) ⟨Nat.le_of_ble_eq_true rfl, Nat.le_of_ble_eq_true rfl⟩) rfl hl.1 rfl (Nat.le_of_ble_eq_true rfl) dX8_drawn_23 ⟨Nat.zero_le _, Nat.zero_le _⟩) (fun r23 h23 H locs hk Z => ?_)
    refine lv_istore_n (lv' := [(2, .int r23), (0, .ref x0), (1, .int x1)]) hx hb dX8_drawn_26 rfl hl (by decide) rfl (fun ls hl => ?_)
    refine lv_iload_n hx hb dX8_drawn_27 rfl (lv_at hl 0 rfl) ?_
    refine lv_if_ne (tgt := 34) hx hb dX8_drawn_28 (by decide) (fun q => ?_) (fun q => ?_)
    · have hk := hk.1 q
      refine lv_aload_n hx hb dX8_drawn_34 rfl (lv_at hl 1 rfl) ?_
      obtain ⟨v35, hv, hk⟩ := hk
      refine r_get (ci := 8) (k := 1) (T := TX8) (N := 6) C Z hv ku_8 rfl (by decide) tw_334 dX8_drawn_35 ?_
      refine lv_iload_n hx hb dX8_drawn_38 rfl (lv_at hl 2 rfl) ?_
      refine r_calli Z (r_runS (As := [.int x1]) (rest := [.ref v35]) C Z (m_X8_nextLot l g h23 x1 _ hk) (va_cwS 1 C.1.2.2.2.2 (gS tw_841 tw_514 tw_57 tw_515) rfl rfl rfl (by decide +kernel) ⟨Nat.le_of_ble_eq_true rfl, Nat.le_of_ble_eq_true rfl⟩) rfl hl.1 rfl (Nat.le_of_ble_eq_true rfl) dX8_drawn_39 ⟨Nat.zero_le _, Nat.zero_le _⟩) (fun r39 h39 H locs hk Z => ?_)
      refine lv_iload_n hx hb dX8_drawn_42 rfl (lv_at hl 0 rfl) ?_
      obtain ⟨hz, hk⟩ := hk
      refine lv_irem hx hb dX8_drawn_43 hz ?_
      obtain ⟨ho, hk⟩ := hk
      refine r_calli Z (r_runV (As := [.int (r39 - r39 / r23 * r23)]) (rest := []) C Z (m_X4_poolCard l g h39 v35 (r39 - r39 / r23 * r23) _ hk) ho rfl (cwV 1 C.1.2.2.2.2 (gV tw_842 tw_518 tw_519 tw_59 tw_520) rfl rfl rfl (by decide +kernel) ⟨Nat.le_of_ble_eq_true rfl, Nat.le_of_ble_eq_true rfl⟩) rfl hl.1 rfl (Nat.le_of_ble_eq_true rfl) dX8_drawn_44 ⟨Nat.zero_le _, Nat.zero_le _⟩) (fun r44 h44 H locs hk Z => ?_)
      exact r_iret C Z hr hk dX8_drawn_47
    · have hk := hk.2 q
      refine lv_bipush (v := (-9 : Int32)) hx hb dX8_drawn_31 (by decide) ?_
      exact r_iret C Z hr hk dX8_drawn_33
  · have hk := hk.2 q
    refine lv_iconst (v := (-1 : Int32)) hx hb dX8_drawn_10 (by decide) ?_
    exact r_iret C Z hr hk dX8_drawn_11
abbrev rmX8_seedFor : Room := ({ frames := 4, cells := 0, slots := 0, locals := 88 } : Room)
abbrev wzX8_seedFor : List Cond := WS yX8_seedFor cX8_seedFor 5 (some .int)
set_option maxRecDepth 100000 in
set_option maxHeartbeats 4000000 in
theorem w_X8_seedFor_58 {p : Program} {l : Launch} {e : Env} {s : State} {m : MethodId} {args : Array Value} {below : List Frame} {meth : Method} {c : Code} {g : Gt} {h0 : Hp} (C : Cx g (dm h0) RX8 cX8_seedFor 5 p s m args meth c) (hr : meth.sig.returnType = (some .int)) {Post : Int32 → Hp → Prop} (x2 : Int32) (x3 : Int32)   : ∀ (n : Nat) (x4 : Int32) (h : Hp) (H : Heap) (locs : List Loc) (ls : Array Slot), lv_has ls 5 [(2, .int x2), (3, .int x3), (4, .int x4)] → St g (dm h0) s h H locs → wp_X8_seedFor_58 Post x2 x3 n x4 h → W p l e rmX8_seedFor s m args below meth c H locs 0 0 (MQ below (Qi g h0 Post) args s 0 0 (dm h0)) (F0 m 58 ls []) := by
  have hx := C.1.1
  have hb := C.1.2.1
  have hml := C.1.2.2.1
  have hown := C.1.2.2.2.1
  have hts := C.1.2.2.2.2
  intro n
  induction n with
  | zero => intro x4 h H locs ls hl Z hk; exact (show False from hk).elim
  | succ n ih =>
    intro x4 h H locs ls hl Z hk
    unfold wp_X8_seedFor_58 at hk
    refine lv_iload hx hb dX8_seedFor_58 (lv_at hl 2 rfl) ?_
    refine lv_ldcw (v := (nI 65537)) hx hb hown (hts _ tw_516) dX8_seedFor_60 ?_
    refine lv_icmp_ge (tgt := 86) hx hb dX8_seedFor_63 (by decide) (fun q => ?_) (fun q => ?_)
    · have hk := hk.1 q
      refine lv_bipush (v := (-9 : Int32)) hx hb dX8_seedFor_86 (by decide) ?_
      exact r_iret C Z hr hk dX8_seedFor_88
    · have hk := hk.2 q
      refine lv_iload hx hb dX8_seedFor_66 (lv_at hl 2 rfl) ?_
      refine r_calli Z (r_runS (As := [.int x4]) (rest := []) C Z (m_X8_nextLot l g h x4 _ hk) (va_cwS 1 C.1.2.2.2.2 (gS tw_841 tw_514 tw_57 tw_515) rfl rfl rfl (by decide +kernel) ⟨Nat.le_of_ble_eq_true rfl, Nat.le_of_ble_eq_true rfl⟩) rfl hl.1 rfl (Nat.le_of_ble_eq_true rfl) dX8_seedFor_68 ⟨Nat.zero_le _, Nat.zero_le _⟩) (fun r68 h68 H locs hk Z => ?_)
      refine lv_iload_n hx hb dX8_seedFor_71 rfl (lv_at hl 0 rfl) ?_
      obtain ⟨hz, hk⟩ := hk
      refine lv_irem hx hb dX8_seedFor_72 hz ?_
      refine lv_iload_n hx hb dX8_seedFor_73 rfl (lv_at hl 1 rfl) ?_
      refine lv_icmp_ne (tgt := 80) hx hb dX8_seedFor_74 (by decide) (fun q => ?_) (fun q => ?_)
      · have hk := hk.1 q
        obtain ⟨y80, ey80⟩ : ∃ y : Int32, y = x4 + (nI 1) := ⟨_, rfl⟩
        have hk := hk y80 ey80
        refine lv_iinc (v := y80) (lv' := [(4, .int y80), (2, .int x2), (3, .int x3)]) hx hb dX8_seedFor_80 hl (k := 2) rfl (by rw [ey80]; rfl) (by decide) rfl (fun ls hl => ?_)
        refine lv_goto (tgt := 58) hx hb dX8_seedFor_83 (by decide) ?_
        exact ih y80 h68 _ _ _ (lv_sub hl [1, 2, 0] rfl) Z hk
      · have hk := hk.2 q
        refine lv_iload hx hb dX8_seedFor_77 (lv_at hl 2 rfl) ?_
        exact r_iret C Z hr hk dX8_seedFor_79
set_option maxRecDepth 100000 in
set_option maxHeartbeats 4000000 in
theorem m_X8_seedFor (l : Launch) (g : Gt) (h : Hp) (x0 : Nat) (x1 : Int32) (Post : Int32 → Hp → Prop) (hk : wp_X8_seedFor x0 x1 Post h) : Met l yX8_seedFor wzX8_seedFor rmX8_seedFor (Pg g h [.ref x0, .int x1]) (Qi g h Post) 0 0 (dm h) := by
  refine Met_of (cc := cX8_seedFor) (maxL := 5) (ret := (some .int)) (by decide) (Nat.le_of_ble_eq_true rfl) (fun p e s m below meth c ls C hr hnm hl Z => ?_)
  have hx := C.1.1
  have hb := C.1.2.1
  have hml := C.1.2.2.1
  have hown := C.1.2.2.2.1
  have hts := C.1.2.2.2.2
  have hl : lv_has ls 5 [(0, .ref x0), (1, .int x1)] := hl
  unfold wp_X8_seedFor at hk
  generalize s.heap = H at Z ⊢
  generalize ([] : List Loc) = locs at Z ⊢
  refine lv_aload_n hx hb dX8_seedFor_0 rfl (lv_at hl 0 rfl) ?_
  obtain ⟨v1, hv, hk⟩ := hk
  refine r_get (ci := 8) (k := 2) (T := TX8) (N := 6) C Z hv ku_8 rfl (by decide) tw_335 dX8_seedFor_1 ?_
  refine lv_iload_n hx hb dX8_seedFor_4 rfl (lv_at hl 1 rfl) ?_
  obtain ⟨ho, hk⟩ := hk
  refine r_calli Z (r_runV (As := [.int x1]) (rest := []) C Z (m_X0_hasCard l g h v1 x1 _ hk) ho rfl (cwV 1 C.1.2.2.2.2 (gV tw_743 tw_522 tw_523 tw_60 tw_524) rfl rfl rfl (by decide +kernel) ⟨Nat.le_of_ble_eq_true rfl, Nat.le_of_ble_eq_true rfl⟩) rfl hl.1 rfl (Nat.le_of_ble_eq_true rfl) dX8_seedFor_5 ⟨Nat.zero_le _, Nat.zero_le _⟩) (fun r5 h5 H locs hk Z => ?_)
  refine lv_if_ne (tgt := 13) hx hb dX8_seedFor_8 (by decide) (fun q => ?_) (fun q => ?_)
  · have hk := hk.1 q
    refine lv_aload_n hx hb dX8_seedFor_13 rfl (lv_at hl 0 rfl) ?_
    obtain ⟨v14, hv, hk⟩ := hk
    refine r_get (ci := 8) (k := 1) (T := TX8) (N := 6) C Z hv ku_8 rfl (by decide) tw_334 dX8_seedFor_14 ?_
    obtain ⟨ho, hk⟩ := hk
    refine r_callv Z (r_runV (As := []) (rest := []) C Z (m_X4_workOut l g h5 v14 _ hk) ho rfl (cwV 0 C.1.2.2.2.2 (gV tw_726 tw_428 tw_429 tw_59 tw_430) rfl rfl rfl (by decide +kernel) ⟨Nat.le_of_ble_eq_true rfl, Nat.le_of_ble_eq_true rfl⟩) rfl hl.1 rfl (Nat.le_of_ble_eq_true rfl) dX8_seedFor_17 ⟨Nat.zero_le _, Nat.zero_le _⟩) (fun h17 H locs hk Z => ?_)
    refine lv_aload_n hx hb dX8_seedFor_20 rfl (lv_at hl 0 rfl) ?_
    obtain ⟨v21, hv, hk⟩ := hk
    refine r_get (ci := 8) (k := 1) (T := TX8) (N := 6) C Z hv ku_8 rfl (by decide) tw_334 dX8_seedFor_21 ?_
    obtain ⟨ho, hk⟩ := hk
    refine r_calli Z (r_runV (As := []) (rest := []) C Z (m_X4_poolSize l g h17 v21 _ hk) ho rfl (cwV 0 C.1.2.2.2.2 (gV tw_728 tw_502 tw_503 tw_59 tw_504) rfl rfl rfl (by decide +kernel) ⟨Nat.le_of_ble_eq_true rfl, Nat.le_of_ble_eq_true rfl⟩) rfl hl.1 rfl (Nat.le_of_ble_eq_true rfl) dX8_seedFor_24 ⟨Nat.zero_le _, Nat.zero_le _⟩) (fun r24 h24 H locs hk Z => ?_)
    refine lv_istore_n (lv' := [(2, .int r24), (0, .ref x0), (1, .int x1)]) hx hb dX8_seedFor_27 rfl hl (by decide) rfl (fun ls hl => ?_)
    refine lv_iload_n hx hb dX8_seedFor_28 rfl (lv_at hl 0 rfl) ?_
    refine lv_if_eq (tgt := 43) hx hb dX8_seedFor_29 (by decide) (fun q => ?_) (fun q => ?_)
    · have hk := hk.1 q
      refine lv_bipush (v := (-9 : Int32)) hx hb dX8_seedFor_43 (by decide) ?_
      exact r_iret C Z hr hk dX8_seedFor_45
    · have hk := hk.2 q
      refine lv_aload_n hx hb dX8_seedFor_32 rfl (lv_at hl 1 rfl) ?_
      obtain ⟨v33, hv, hk⟩ := hk
      refine r_get (ci := 8) (k := 1) (T := TX8) (N := 6) C Z hv ku_8 rfl (by decide) tw_334 dX8_seedFor_33 ?_
      refine lv_iload_n hx hb dX8_seedFor_36 rfl (lv_at hl 2 rfl) ?_
      obtain ⟨ho, hk⟩ := hk
      refine r_calli Z (r_runV (As := [.int x1]) (rest := []) C Z (m_X4_inPool l g h24 v33 x1 _ hk) ho rfl (cwV 1 C.1.2.2.2.2 (gV tw_745 tw_510 tw_511 tw_59 tw_512) rfl rfl rfl (by decide +kernel) ⟨Nat.le_of_ble_eq_true rfl, Nat.le_of_ble_eq_true rfl⟩) rfl hl.1 rfl (Nat.le_of_ble_eq_true rfl) dX8_seedFor_37 ⟨Nat.zero_le _, Nat.zero_le _⟩) (fun r37 h37 H locs hk Z => ?_)
      refine lv_if_ne (tgt := 46) hx hb dX8_seedFor_40 (by decide) (fun q => ?_) (fun q => ?_)
      · have hk := hk.1 q
        refine lv_aload_n hx hb dX8_seedFor_46 rfl (lv_at hl 1 rfl) ?_
        obtain ⟨v47, hv, hk⟩ := hk
        refine r_get (ci := 8) (k := 1) (T := TX8) (N := 6) C Z hv ku_8 rfl (by decide) tw_334 dX8_seedFor_47 ?_
        refine lv_iload_n hx hb dX8_seedFor_50 rfl (lv_at hl 2 rfl) ?_
        obtain ⟨ho, hk⟩ := hk
        refine r_calli Z (r_runV (As := [.int x1]) (rest := []) C Z (m_X4_placeInPool l g h37 v47 x1 _ hk) ho rfl (cwV 1 C.1.2.2.2.2 (gV tw_847 tw_506 tw_507 tw_59 tw_508) rfl rfl rfl (by decide +kernel) ⟨Nat.le_of_ble_eq_true rfl, Nat.le_of_ble_eq_true rfl⟩) rfl hl.1 rfl (Nat.le_of_ble_eq_true rfl) dX8_seedFor_51 ⟨Nat.zero_le _, Nat.zero_le _⟩) (fun r51 h51 H locs hk Z => ?_)
        refine lv_istore_n (lv' := [(3, .int r51), (2, .int r24), (0, .ref x0), (1, .int x1)]) hx hb dX8_seedFor_54 rfl hl (by decide) rfl (fun ls hl => ?_)
        refine lv_iconst (v := (nI 0)) hx hb dX8_seedFor_55 (by decide) ?_
        refine lv_istore (lv' := [(4, .int (nI 0)), (3, .int r51), (2, .int r24), (0, .ref x0), (1, .int x1)]) hx hb dX8_seedFor_56 hl (by decide) rfl (fun ls hl => ?_)
        obtain ⟨n1, hk⟩ := hk
        exact w_X8_seedFor_58 C hr r24 r51 n1 (nI 0) h51 _ _ _ (lv_sub hl [2, 1, 0] rfl) Z hk
      · have hk := hk.2 q
        refine lv_bipush (v := (-9 : Int32)) hx hb dX8_seedFor_43 (by decide) ?_
        exact r_iret C Z hr hk dX8_seedFor_45
  · have hk := hk.2 q
    refine lv_iconst (v := (-1 : Int32)) hx hb dX8_seedFor_11 (by decide) ?_
    exact r_iret C Z hr hk dX8_seedFor_12
