abbrev rmX1_publishVersion : Room := ({ frames := 4, cells := 0, slots := 0, locals := 88 } : Room)
abbrev wzX1_publishVersion : List Cond := WS yX1_publishVersion cX1_publishVersion 2 (some .int)
set_option maxRecDepth 100000 in
set_option maxHeartbeats 4000000 in
theorem m_X1_publishVersion (l : Launch) (g : Gt) (h : Hp) (x0 : Nat) (Post : Int32 → Hp → Prop) (hk : wp_X1_publishVersion x0 Post h) : Met l yX1_publishVersion wzX1_publishVersion rmX1_publishVersion (Pg g h [.ref x0]) (Qi g h Post) 0 0 (dm h) := by
  refine Met_of (cc := cX1_publishVersion) (maxL := 2) (ret := (some .int)) (by decide) (Nat.le_of_ble_eq_true rfl) (fun p e s m below meth c ls C hr hnm hl Z => ?_)
  have hx := C.1.1
  have hb := C.1.2.1
  have hml := C.1.2.2.1
  have hown := C.1.2.2.2.1
  have hts := C.1.2.2.2.2
  have hl : lv_has ls 2 [(0, .ref x0)] := hl
  unfold wp_X1_publishVersion at hk
  generalize s.heap = H at Z ⊢
  generalize ([] : List Loc) = locs at Z ⊢
  refine lv_aload_n hx hb dX1_publishVersion_0 rfl (lv_at hl 0 rfl) ?_
  obtain ⟨v1, hv, hk⟩ := hk
  refine r_get (ci := 1) (k := 0) (T := TX1) (N := 2) C Z hv ku_1 rfl (by decide) tw_219 dX1_publishVersion_1 ?_
  obtain ⟨ho, hk⟩ := hk
  refine r_callv Z (r_runV (As := []) (rest := []) C Z (m_X4_workOut l g h v1 _ hk) ho rfl (cwV 0 C.1.2.2.2.2 (gV tw_427 tw_428 tw_429 tw_59 tw_430) rfl rfl rfl (by decide +kernel) ⟨Nat.le_of_ble_eq_true rfl, Nat.le_of_ble_eq_true rfl⟩) rfl hl.1 rfl (Nat.le_of_ble_eq_true rfl) dX1_publishVersion_4 ⟨Nat.zero_le _, Nat.zero_le _⟩) (fun h4 H locs hk Z => ?_)
  refine lv_aload_n hx hb dX1_publishVersion_7 rfl (lv_at hl 0 rfl) ?_
  obtain ⟨v8, hv, hk⟩ := hk
  refine r_get (ci := 1) (k := 1) (T := TX1) (N := 2) C Z hv ku_1 rfl (by decide) tw_221 dX1_publishVersion_8 ?_
  obtain ⟨v11, hv, hk⟩ := hk
  refine r_get (ci := 0) (k := 0) (T := TX0) (N := 11) C Z hv ku_0 rfl (by decide) tw_101 dX1_publishVersion_11 ?_
  refine lv_if_eq (tgt := 36) hx hb dX1_publishVersion_14 (by decide) (fun q => ?_) (fun q => ?_)
  · have hk := hk.1 q
    refine lv_bipush (v := (-2 : Int32)) hx hb dX1_publishVersion_36 (by decide) ?_
    exact r_iret C Z hr hk dX1_publishVersion_38
  · have hk := hk.2 q
    refine lv_aload_n hx hb dX1_publishVersion_17 rfl (lv_at hl 0 rfl) ?_
    obtain ⟨v18, hv, hk⟩ := hk
    refine r_get (ci := 1) (k := 0) (T := TX1) (N := 2) C Z hv ku_1 rfl (by decide) tw_219 dX1_publishVersion_18 ?_
    obtain ⟨ho, hk⟩ := hk
    refine r_calli Z (r_runV (As := []) (rest := []) C Z (m_X4_unseenChanging l g h4 v18 _ hk) ho rfl (cwV 0 C.1.2.2.2.2 (gV tw_480 tw_481 tw_482 tw_59 tw_483) rfl rfl rfl (by decide +kernel) ⟨Nat.le_of_ble_eq_true rfl, Nat.le_of_ble_eq_true rfl⟩) rfl hl.1 rfl (Nat.le_of_ble_eq_true rfl) dX1_publishVersion_21 ⟨Nat.zero_le _, Nat.zero_le _⟩) (fun r21 h21 H locs hk Z => ?_)
    refine lv_aload_n hx hb dX1_publishVersion_24 rfl (lv_at hl 0 rfl) ?_
    obtain ⟨v25, hv, hk⟩ := hk
    refine r_get (ci := 1) (k := 1) (T := TX1) (N := 2) C Z hv ku_1 rfl (by decide) tw_221 dX1_publishVersion_25 ?_
    obtain ⟨v28, hv, hk⟩ := hk
    refine r_get (ci := 0) (k := 8) (T := TX0) (N := 11) C Z hv ku_0 rfl (by decide) tw_129 dX1_publishVersion_28 ?_
    refine lv_iconst (v := (nI 3)) hx hb dX1_publishVersion_31 (by decide) ?_
    obtain ⟨v32, hv, hk⟩ := hk
    refine r_iald C Z hv dX1_publishVersion_32 ?_
    refine lv_icmp_le (tgt := 39) hx hb dX1_publishVersion_33 (by decide) (fun q => ?_) (fun q => ?_)
    · have hk := hk.1 q
      refine lv_aload_n hx hb dX1_publishVersion_39 rfl (lv_at hl 0 rfl) ?_
      obtain ⟨v40, hv, hk⟩ := hk
      refine r_get (ci := 1) (k := 1) (T := TX1) (N := 2) C Z hv ku_1 rfl (by decide) tw_221 dX1_publishVersion_40 ?_
      obtain ⟨v43, hv, hk⟩ := hk
      refine r_get (ci := 0) (k := 1) (T := TX0) (N := 11) C Z hv ku_0 rfl (by decide) tw_104 dX1_publishVersion_43 ?_
      refine lv_bipush (v := (nI 6)) hx hb dX1_publishVersion_46 (by decide) ?_
      refine lv_icmp_lt (tgt := 54) hx hb dX1_publishVersion_48 (by decide) (fun q => ?_) (fun q => ?_)
      · have hk := hk.1 q
        refine lv_aload_n hx hb dX1_publishVersion_54 rfl (lv_at hl 0 rfl) ?_
        obtain ⟨v55, hv, hk⟩ := hk
        refine r_get (ci := 1) (k := 0) (T := TX1) (N := 2) C Z hv ku_1 rfl (by decide) tw_219 dX1_publishVersion_55 ?_
        obtain ⟨ho, hk⟩ := hk
        refine r_calli Z (r_runV (As := []) (rest := []) C Z (m_X4_cardsChanging l g h21 v55 _ hk) ho rfl (cwV 0 C.1.2.2.2.2 (gV tw_484 tw_485 tw_486 tw_59 tw_487) rfl rfl rfl (by decide +kernel) ⟨Nat.le_of_ble_eq_true rfl, Nat.le_of_ble_eq_true rfl⟩) rfl hl.1 rfl (Nat.le_of_ble_eq_true rfl) dX1_publishVersion_58 ⟨Nat.zero_le _, Nat.zero_le _⟩) (fun r58 h58 H locs hk Z => ?_)
        refine lv_istore_n (lv' := [(1, .int r58), (0, .ref x0)]) hx hb dX1_publishVersion_61 rfl hl (by decide) rfl (fun ls hl => ?_)
        refine lv_aload_n hx hb dX1_publishVersion_62 rfl (lv_at hl 1 rfl) ?_
        obtain ⟨v63, hv, hk⟩ := hk
        refine r_get (ci := 1) (k := 1) (T := TX1) (N := 2) C Z hv ku_1 rfl (by decide) tw_221 dX1_publishVersion_63 ?_
        refine lv_aload_n hx hb dX1_publishVersion_66 rfl (lv_at hl 1 rfl) ?_
        obtain ⟨v67, hv, hk⟩ := hk
        refine r_get (ci := 1) (k := 0) (T := TX1) (N := 2) C Z hv ku_1 rfl (by decide) tw_219 dX1_publishVersion_67 ?_
        obtain ⟨v70, hv, hk⟩ := hk
        refine r_get (ci := 4) (k := 11) (T := TX4) (N := 15) C Z hv ku_4 rfl (by decide) tw_182 dX1_publishVersion_70 ?_
        obtain ⟨ho, hk⟩ := hk
        refine r_callv Z (r_runV (As := [.ref v70]) (rest := []) C Z (m_X0_keepVersion l g h58 v63 v70 _ hk) ho rfl (cwV 1 C.1.2.2.2.2 (gV tw_488 tw_489 tw_490 tw_60 tw_491) rfl rfl rfl (by decide +kernel) ⟨Nat.le_of_ble_eq_true rfl, Nat.le_of_ble_eq_true rfl⟩) rfl hl.1 rfl (Nat.le_of_ble_eq_true rfl) dX1_publishVersion_73 ⟨Nat.zero_le _, Nat.zero_le _⟩) (fun h73 H locs hk Z => ?_)
        refine lv_iload_n hx hb dX1_publishVersion_76 rfl (lv_at hl 0 rfl) ?_
        exact r_iret C Z hr hk dX1_publishVersion_77
      · have hk := hk.2 q
        refine lv_bipush (v := (-3 : Int32)) hx hb dX1_publishVersion_51 (by decide) ?_
        exact r_iret C Z hr hk dX1_publishVersion_53
    · have hk := hk.2 q
      refine lv_bipush (v := (-2 : Int32)) hx hb dX1_publishVersion_36 (by decide) ?_
      exact r_iret C Z hr hk dX1_publishVersion_38
abbrev rmX3_wordHere : Room := ({ frames := 5, cells := 0, slots := 0, locals := 122 } : Room)
abbrev wzX3_wordHere : List Cond := WS yX3_wordHere cX3_wordHere 1 (some .int)
set_option maxRecDepth 100000 in
set_option maxHeartbeats 4000000 in
theorem m_X3_wordHere (l : Launch) (g : Gt) (h : Hp) (x0 : Nat) (Post : Int32 → Hp → Prop) (hk : wp_X3_wordHere x0 Post h) : Met l yX3_wordHere wzX3_wordHere rmX3_wordHere (Pg g h [.ref x0]) (Qi g h Post) 0 0 (dm h) := by
  refine Met_of (cc := cX3_wordHere) (maxL := 1) (ret := (some .int)) (by decide) (Nat.le_of_ble_eq_true rfl) (fun p e s m below meth c ls C hr hnm hl Z => ?_)
  have hx := C.1.1
  have hb := C.1.2.1
  have hml := C.1.2.2.1
  have hown := C.1.2.2.2.1
  have hts := C.1.2.2.2.2
  have hl : lv_has ls 1 [(0, .ref x0)] := hl
  unfold wp_X3_wordHere at hk
  generalize s.heap = H at Z ⊢
  generalize ([] : List Loc) = locs at Z ⊢
  refine lv_aload_n hx hb dX3_wordHere_0 rfl (lv_at hl 0 rfl) ?_
  obtain ⟨v1, hv, hk⟩ := hk
  refine r_get (ci := 3) (k := 0) (T := TX3) (N := 7) C Z hv ku_3 rfl (by decide) tw_306 dX3_wordHere_1 ?_
  refine r_ldcS (i := 0) C Z (by decide) dX3_wordHere_4 ?_
  obtain ⟨ho, hk⟩ := hk
  refine r_calli Z (r_runV (As := [.ref (g.2.2 (3 + 0))]) (rest := []) C Z (m_X7_isWord l g h v1 0 _ hk) ho rfl (cwV 1 C.1.2.2.2.2 (gV tw_618 tw_619 tw_620 tw_65 tw_621) rfl rfl rfl (by decide +kernel) ⟨Nat.le_of_ble_eq_true rfl, Nat.le_of_ble_eq_true rfl⟩) rfl hl.1 rfl (Nat.le_of_ble_eq_true rfl) dX3_wordHere_6 ⟨Nat.zero_le _, Nat.zero_le _⟩) (fun r6 h6 H locs hk Z => ?_)
  refine lv_if_eq (tgt := 14) hx hb dX3_wordHere_9 (by decide) (fun q => ?_) (fun q => ?_)
  · have hk := hk.1 q
    refine lv_aload_n hx hb dX3_wordHere_14 rfl (lv_at hl 0 rfl) ?_
    obtain ⟨v15, hv, hk⟩ := hk
    refine r_get (ci := 3) (k := 0) (T := TX3) (N := 7) C Z hv ku_3 rfl (by decide) tw_306 dX3_wordHere_15 ?_
    refine r_ldcS (i := 1) C Z (by decide) dX3_wordHere_18 ?_
    obtain ⟨ho, hk⟩ := hk
    refine r_calli Z (r_runV (As := [.ref (g.2.2 (3 + 1))]) (rest := []) C Z (m_X7_isWord l g h6 v15 1 _ hk) ho rfl (cwV 1 C.1.2.2.2.2 (gV tw_618 tw_619 tw_620 tw_65 tw_621) rfl rfl rfl (by decide +kernel) ⟨Nat.le_of_ble_eq_true rfl, Nat.le_of_ble_eq_true rfl⟩) rfl hl.1 rfl (Nat.le_of_ble_eq_true rfl) dX3_wordHere_20 ⟨Nat.zero_le _, Nat.zero_le _⟩) (fun r20 h20 H locs hk Z => ?_)
    refine lv_if_eq (tgt := 28) hx hb dX3_wordHere_23 (by decide) (fun q => ?_) (fun q => ?_)
    · have hk := hk.1 q
      refine lv_aload_n hx hb dX3_wordHere_28 rfl (lv_at hl 0 rfl) ?_
      obtain ⟨v29, hv, hk⟩ := hk
      refine r_get (ci := 3) (k := 0) (T := TX3) (N := 7) C Z hv ku_3 rfl (by decide) tw_306 dX3_wordHere_29 ?_
      refine r_ldcS (i := 2) C Z (by decide) dX3_wordHere_32 ?_
      obtain ⟨ho, hk⟩ := hk
      refine r_calli Z (r_runV (As := [.ref (g.2.2 (3 + 2))]) (rest := []) C Z (m_X7_isWord l g h20 v29 2 _ hk) ho rfl (cwV 1 C.1.2.2.2.2 (gV tw_618 tw_619 tw_620 tw_65 tw_621) rfl rfl rfl (by decide +kernel) ⟨Nat.le_of_ble_eq_true rfl, Nat.le_of_ble_eq_true rfl⟩) rfl hl.1 rfl (Nat.le_of_ble_eq_true rfl) dX3_wordHere_34 ⟨Nat.zero_le _, Nat.zero_le _⟩) (fun r34 h34 H locs hk Z => ?_)
      refine lv_if_eq (tgt := 42) hx hb dX3_wordHere_37 (by decide) (fun q => ?_) (fun q => ?_)
      · have hk := hk.1 q
        refine lv_aload_n hx hb dX3_wordHere_42 rfl (lv_at hl 0 rfl) ?_
        obtain ⟨v43, hv, hk⟩ := hk
        refine r_get (ci := 3) (k := 0) (T := TX3) (N := 7) C Z hv ku_3 rfl (by decide) tw_306 dX3_wordHere_43 ?_
        refine r_ldcS (i := 3) C Z (by decide) dX3_wordHere_46 ?_
        obtain ⟨ho, hk⟩ := hk
        refine r_calli Z (r_runV (As := [.ref (g.2.2 (3 + 3))]) (rest := []) C Z (m_X7_isWord l g h34 v43 3 _ hk) ho rfl (cwV 1 C.1.2.2.2.2 (gV tw_618 tw_619 tw_620 tw_65 tw_621) rfl rfl rfl (by decide +kernel) ⟨Nat.le_of_ble_eq_true rfl, Nat.le_of_ble_eq_true rfl⟩) rfl hl.1 rfl (Nat.le_of_ble_eq_true rfl) dX3_wordHere_48 ⟨Nat.zero_le _, Nat.zero_le _⟩) (fun r48 h48 H locs hk Z => ?_)
        refine lv_if_eq (tgt := 56) hx hb dX3_wordHere_51 (by decide) (fun q => ?_) (fun q => ?_)
        · have hk := hk.1 q
          refine lv_aload_n hx hb dX3_wordHere_56 rfl (lv_at hl 0 rfl) ?_
          obtain ⟨v57, hv, hk⟩ := hk
          refine r_get (ci := 3) (k := 0) (T := TX3) (N := 7) C Z hv ku_3 rfl (by decide) tw_306 dX3_wordHere_57 ?_
          refine r_ldcS (i := 4) C Z (by decide) dX3_wordHere_60 ?_
          obtain ⟨ho, hk⟩ := hk
          refine r_calli Z (r_runV (As := [.ref (g.2.2 (3 + 4))]) (rest := []) C Z (m_X7_isWord l g h48 v57 4 _ hk) ho rfl (cwV 1 C.1.2.2.2.2 (gV tw_618 tw_619 tw_620 tw_65 tw_621) rfl rfl rfl (by decide +kernel) ⟨Nat.le_of_ble_eq_true rfl, Nat.le_of_ble_eq_true rfl⟩) rfl hl.1 rfl (Nat.le_of_ble_eq_true rfl) dX3_wordHere_62 ⟨Nat.zero_le _, Nat.zero_le _⟩) (fun r62 h62 H locs hk Z => ?_)
          refine lv_if_eq (tgt := 72) hx hb dX3_wordHere_65 (by decide) (fun q => ?_) (fun q => ?_)
          · have hk := hk.1 q
            refine lv_iconst (v := (-1 : Int32)) hx hb dX3_wordHere_72 (by decide) ?_
            exact r_iret C Z hr hk dX3_wordHere_73
          · have hk := hk.2 q
            refine lv_iconst (v := (nI 4)) hx hb dX3_wordHere_68 (by decide) ?_
            refine lv_goto (tgt := 73) hx hb dX3_wordHere_69 (by decide) ?_
            exact r_iret C Z hr hk dX3_wordHere_73
        · have hk := hk.2 q
          refine lv_iconst (v := (nI 3)) hx hb dX3_wordHere_54 (by decide) ?_
          exact r_iret C Z hr hk dX3_wordHere_55
      · have hk := hk.2 q
        refine lv_iconst (v := (nI 2)) hx hb dX3_wordHere_40 (by decide) ?_
        exact r_iret C Z hr hk dX3_wordHere_41
    · have hk := hk.2 q
      refine lv_iconst (v := (nI 1)) hx hb dX3_wordHere_26 (by decide) ?_
      exact r_iret C Z hr hk dX3_wordHere_27
  · have hk := hk.2 q
    refine lv_iconst (v := (nI 0)) hx hb dX3_wordHere_12 (by decide) ?_
    exact r_iret C Z hr hk dX3_wordHere_13
abbrev rmX3_readNumbers : Room := ({ frames := 2, cells := 0, slots := 0, locals := 40 } : Room)
abbrev wzX3_readNumbers : List Cond := WS yX3_readNumbers cX3_readNumbers 2 (some .boolean)
set_option maxRecDepth 100000 in
set_option maxHeartbeats 4000000 in
theorem m_X3_readNumbers (l : Launch) (g : Gt) (h : Hp) (x0 : Nat) (x1 : Int32) (Post : Int32 → Hp → Prop) (hk : wp_X3_readNumbers x0 x1 Post h) : Met l yX3_readNumbers wzX3_readNumbers rmX3_readNumbers (Pg g h [.ref x0, .int x1]) (Qi g h Post) 0 0 (dm h) := by
  refine Met_of (cc := cX3_readNumbers) (maxL := 2) (ret := (some .boolean)) (by decide) (Nat.le_of_ble_eq_true rfl) (fun p e s m below meth c ls C hr hnm hl Z => ?_)
  have hx := C.1.1
  have hb := C.1.2.1
  have hml := C.1.2.2.1
  have hown := C.1.2.2.2.1
  have hts := C.1.2.2.2.2
  have hl : lv_has ls 2 [(0, .ref x0), (1, .int x1)] := hl
  unfold wp_X3_readNumbers at hk
  generalize s.heap = H at Z ⊢
  generalize ([] : List Loc) = locs at Z ⊢
  refine lv_iload_n hx hb dX3_readNumbers_0 rfl (lv_at hl 1 rfl) ?_
  refine lv_iconst (v := (nI 4)) hx hb dX3_readNumbers_1 (by decide) ?_
  refine lv_icmp_ne (tgt := 7) hx hb dX3_readNumbers_2 (by decide) (fun q => ?_) (fun q => ?_)
  · have hk := hk.1 q
    refine lv_aload_n hx hb dX3_readNumbers_7 rfl (lv_at hl 0 rfl) ?_
    obtain ⟨v8, hv, hk⟩ := hk
    refine r_get (ci := 3) (k := 0) (T := TX3) (N := 7) C Z hv ku_3 rfl (by decide) tw_306 dX3_readNumbers_8 ?_
    obtain ⟨ho, hk⟩ := hk
    refine r_callv Z (r_runV (As := []) (rest := []) C Z (m_X7_readToken l g h v8 _ hk) ho rfl (cwV 0 C.1.2.2.2.2 (gV tw_606 tw_607 tw_608 tw_65 tw_609) rfl rfl rfl (by decide +kernel) ⟨Nat.le_of_ble_eq_true rfl, Nat.le_of_ble_eq_true rfl⟩) rfl hl.1 rfl (Nat.le_of_ble_eq_true rfl) dX3_readNumbers_11 ⟨Nat.zero_le _, Nat.zero_le _⟩) (fun h11 H locs hk Z => ?_)
    refine lv_aload_n hx hb dX3_readNumbers_14 rfl (lv_at hl 0 rfl) ?_
    obtain ⟨v15, hv, hk⟩ := hk
    refine r_get (ci := 3) (k := 0) (T := TX3) (N := 7) C Z hv ku_3 rfl (by decide) tw_306 dX3_readNumbers_15 ?_
    obtain ⟨ho, hk⟩ := hk
    refine r_calli Z (r_runV (As := []) (rest := []) C Z (m_X7_isNumber l g h11 v15 _ hk) ho rfl (cwV 0 C.1.2.2.2.2 (gV tw_678 tw_679 tw_680 tw_65 tw_681) rfl rfl rfl (by decide +kernel) ⟨Nat.le_of_ble_eq_true rfl, Nat.le_of_ble_eq_true rfl⟩) rfl hl.1 rfl (Nat.le_of_ble_eq_true rfl) dX3_readNumbers_18 ⟨Nat.zero_le _, Nat.zero_le _⟩) (fun r18 h18 H locs hk Z => ?_)
    refine lv_if_ne (tgt := 26) hx hb dX3_readNumbers_21 (by decide) (fun q => ?_) (fun q => ?_)
    · have hk := hk.1 q
      refine lv_aload_n hx hb dX3_readNumbers_26 rfl (lv_at hl 0 rfl) ?_
      refine lv_aload_n hx hb dX3_readNumbers_27 rfl (lv_at hl 0 rfl) ?_
      obtain ⟨v28, hv, hk⟩ := hk
      refine r_get (ci := 3) (k := 0) (T := TX3) (N := 7) C Z hv ku_3 rfl (by decide) tw_306 dX3_readNumbers_28 ?_
      obtain ⟨ho, hk⟩ := hk
      refine r_calll Z (r_runV (As := []) (rest := [.ref x0]) C Z (m_X7_value l g h18 v28 _ hk) ho rfl (cwV 0 C.1.2.2.2.2 (gV tw_682 tw_683 tw_684 tw_65 tw_685) rfl rfl rfl (by decide +kernel) ⟨Nat.le_of_ble_eq_true rfl, Nat.le_of_ble_eq_true rfl⟩) rfl hl.1 rfl (Nat.le_of_ble_eq_true rfl) dX3_readNumbers_31 ⟨Nat.zero_le _, Nat.zero_le _⟩) (fun r31 h31 H locs hk Z => ?_)
      obtain ⟨h34, hv, hk⟩ := hk
      refine r_put (ci := 3) (k := 5) (T := TX3) (N := 7) C Z hv ku_3 tyX3_ok nmX3 rfl (by decide) tw_316 rfl rfl rfl dX3_readNumbers_34 (fun H locs Z => ?_)
      refine lv_iload_n hx hb dX3_readNumbers_37 rfl (lv_at hl 1 rfl) ?_
      refine lv_iconst (v := (nI 1)) hx hb dX3_readNumbers_38 (by decide) ?_
      refine lv_icmp_ne (tgt := 44) hx hb dX3_readNumbers_39 (by decide) (fun q => ?_) (fun q => ?_)
      · have hk := hk.1 q
        refine lv_aload_n hx hb dX3_readNumbers_44 rfl (lv_at hl 0 rfl) ?_
        obtain ⟨v45, hv, hk⟩ := hk
        refine r_get (ci := 3) (k := 0) (T := TX3) (N := 7) C Z hv ku_3 rfl (by decide) tw_306 dX3_readNumbers_45 ?_
        obtain ⟨ho, hk⟩ := hk
        refine r_callv Z (r_runV (As := []) (rest := []) C Z (m_X7_readToken l g h34 v45 _ hk) ho rfl (cwV 0 C.1.2.2.2.2 (gV tw_606 tw_607 tw_608 tw_65 tw_609) rfl rfl rfl (by decide +kernel) ⟨Nat.le_of_ble_eq_true rfl, Nat.le_of_ble_eq_true rfl⟩) rfl hl.1 rfl (Nat.le_of_ble_eq_true rfl) dX3_readNumbers_48 ⟨Nat.zero_le _, Nat.zero_le _⟩) (fun h48 H locs hk Z => ?_)
        refine lv_iload_n hx hb dX3_readNumbers_51 rfl (lv_at hl 1 rfl) ?_
        refine lv_iconst (v := (nI 2)) hx hb dX3_readNumbers_52 (by decide) ?_
        refine lv_icmp_ne (tgt := 69) hx hb dX3_readNumbers_53 (by decide) (fun q => ?_) (fun q => ?_)
        · have hk := hk.1 q
          refine lv_aload_n hx hb dX3_readNumbers_69 rfl (lv_at hl 0 rfl) ?_
          obtain ⟨v70, hv, hk⟩ := hk
          refine r_get (ci := 3) (k := 0) (T := TX3) (N := 7) C Z hv ku_3 rfl (by decide) tw_306 dX3_readNumbers_70 ?_
          obtain ⟨ho, hk⟩ := hk
          refine r_calli Z (r_runV (As := []) (rest := []) C Z (m_X7_isWholeRow l g h48 v70 _ hk) ho rfl (cwV 0 C.1.2.2.2.2 (gV tw_688 tw_689 tw_690 tw_65 tw_691) rfl rfl rfl (by decide +kernel) ⟨Nat.le_of_ble_eq_true rfl, Nat.le_of_ble_eq_true rfl⟩) rfl hl.1 rfl (Nat.le_of_ble_eq_true rfl) dX3_readNumbers_73 ⟨Nat.zero_le _, Nat.zero_le _⟩) (fun r73 h73 H locs hk Z => ?_)
          refine lv_if_ne (tgt := 81) hx hb dX3_readNumbers_76 (by decide) (fun q => ?_) (fun q => ?_)
          · have hk := hk.1 q
            refine lv_aload_n hx hb dX3_readNumbers_81 rfl (lv_at hl 0 rfl) ?_
            refine lv_aload_n hx hb dX3_readNumbers_82 rfl (lv_at hl 0 rfl) ?_
            obtain ⟨v83, hv, hk⟩ := hk
            refine r_get (ci := 3) (k := 0) (T := TX3) (N := 7) C Z hv ku_3 rfl (by decide) tw_306 dX3_readNumbers_83 ?_
            obtain ⟨ho, hk⟩ := hk
            refine r_calll Z (r_runV (As := []) (rest := [.ref x0]) C Z (m_X7_value l g h73 v83 _ hk) ho rfl (cwV 0 C.1.2.2.2.2 (gV tw_682 tw_683 tw_684 tw_65 tw_685) rfl rfl rfl (by decide +kernel) ⟨Nat.le_of_ble_eq_true rfl, Nat.le_of_ble_eq_true rfl⟩) rfl hl.1 rfl (Nat.le_of_ble_eq_true rfl) dX3_readNumbers_86 ⟨Nat.zero_le _, Nat.zero_le _⟩) (fun r86 h86 H locs hk Z => ?_)
            obtain ⟨h89, hv, hk⟩ := hk
            refine r_put (ci := 3) (k := 6) (T := TX3) (N := 7) C Z hv ku_3 tyX3_ok nmX3 rfl (by decide) tw_317 rfl rfl rfl dX3_readNumbers_89 (fun H locs Z => ?_)
            refine lv_iconst (v := (nI 1)) hx hb dX3_readNumbers_92 (by decide) ?_
            exact r_zret C Z hr (Or.inr rfl) hk dX3_readNumbers_93
          · have hk := hk.2 q
            refine lv_iconst (v := (nI 0)) hx hb dX3_readNumbers_79 (by decide) ?_
            exact r_zret C Z hr (Or.inl rfl) hk dX3_readNumbers_80
        · have hk := hk.2 q
          refine lv_aload_n hx hb dX3_readNumbers_56 rfl (lv_at hl 0 rfl) ?_
          obtain ⟨v57, hv, hk⟩ := hk
          refine r_get (ci := 3) (k := 0) (T := TX3) (N := 7) C Z hv ku_3 rfl (by decide) tw_306 dX3_readNumbers_57 ?_
          obtain ⟨ho, hk⟩ := hk
          refine r_calli Z (r_runV (As := []) (rest := []) C Z (m_X7_isNumber l g h48 v57 _ hk) ho rfl (cwV 0 C.1.2.2.2.2 (gV tw_678 tw_679 tw_680 tw_65 tw_681) rfl rfl rfl (by decide +kernel) ⟨Nat.le_of_ble_eq_true rfl, Nat.le_of_ble_eq_true rfl⟩) rfl hl.1 rfl (Nat.le_of_ble_eq_true rfl) dX3_readNumbers_60 ⟨Nat.zero_le _, Nat.zero_le _⟩) (fun r60 h60 H locs hk Z => ?_)
          refine lv_if_ne (tgt := 81) hx hb dX3_readNumbers_63 (by decide) (fun q => ?_) (fun q => ?_)
          · have hk := hk.1 q
            refine lv_aload_n hx hb dX3_readNumbers_81 rfl (lv_at hl 0 rfl) ?_
            refine lv_aload_n hx hb dX3_readNumbers_82 rfl (lv_at hl 0 rfl) ?_
            obtain ⟨v83, hv, hk⟩ := hk
            refine r_get (ci := 3) (k := 0) (T := TX3) (N := 7) C Z hv ku_3 rfl (by decide) tw_306 dX3_readNumbers_83 ?_
            obtain ⟨ho, hk⟩ := hk
            refine r_calll Z (r_runV (As := []) (rest := [.ref x0]) C Z (m_X7_value l g h60 v83 _ hk) ho rfl (cwV 0 C.1.2.2.2.2 (gV tw_682 tw_683 tw_684 tw_65 tw_685) rfl rfl rfl (by decide +kernel) ⟨Nat.le_of_ble_eq_true rfl, Nat.le_of_ble_eq_true rfl⟩) rfl hl.1 rfl (Nat.le_of_ble_eq_true rfl) dX3_readNumbers_86 ⟨Nat.zero_le _, Nat.zero_le _⟩) (fun r86 h86 H locs hk Z => ?_)
            obtain ⟨h89, hv, hk⟩ := hk
            refine r_put (ci := 3) (k := 6) (T := TX3) (N := 7) C Z hv ku_3 tyX3_ok nmX3 rfl (by decide) tw_317 rfl rfl rfl dX3_readNumbers_89 (fun H locs Z => ?_)
            refine lv_iconst (v := (nI 1)) hx hb dX3_readNumbers_92 (by decide) ?_
            exact r_zret C Z hr (Or.inr rfl) hk dX3_readNumbers_93
          · have hk := hk.2 q
            refine lv_goto (tgt := 79) hx hb dX3_readNumbers_66 (by decide) ?_
            refine lv_iconst (v := (nI 0)) hx hb dX3_readNumbers_79 (by decide) ?_
            exact r_zret C Z hr (Or.inl rfl) hk dX3_readNumbers_80
      · have hk := hk.2 q
        refine lv_iconst (v := (nI 1)) hx hb dX3_readNumbers_42 (by decide) ?_
        exact r_zret C Z hr (Or.inr rfl) hk dX3_readNumbers_43
    · have hk := hk.2 q
      refine lv_iconst (v := (nI 0)) hx hb dX3_readNumbers_24 (by decide) ?_
      exact r_zret C Z hr (Or.inl rfl) hk dX3_readNumbers_25
  · have hk := hk.2 q
    refine lv_iconst (v := (nI 1)) hx hb dX3_readNumbers_5 (by decide) ?_
    exact r_zret C Z hr (Or.inr rfl) hk dX3_readNumbers_6
abbrev rmX3_readSemicolon : Room := ({ frames := 2, cells := 0, slots := 0, locals := 40 } : Room)
abbrev wzX3_readSemicolon : List Cond := WS yX3_readSemicolon cX3_readSemicolon 1 (some .boolean)
set_option maxRecDepth 100000 in
set_option maxHeartbeats 4000000 in
theorem m_X3_readSemicolon (l : Launch) (g : Gt) (h : Hp) (x0 : Nat) (Post : Int32 → Hp → Prop) (hk : wp_X3_readSemicolon x0 Post h) : Met l yX3_readSemicolon wzX3_readSemicolon rmX3_readSemicolon (Pg g h [.ref x0]) (Qi g h Post) 0 0 (dm h) := by
  refine Met_of (cc := cX3_readSemicolon) (maxL := 1) (ret := (some .boolean)) (by decide) (Nat.le_of_ble_eq_true rfl) (fun p e s m below meth c ls C hr hnm hl Z => ?_)
  have hx := C.1.1
  have hb := C.1.2.1
  have hml := C.1.2.2.1
  have hown := C.1.2.2.2.1
  have hts := C.1.2.2.2.2
  have hl : lv_has ls 1 [(0, .ref x0)] := hl
  unfold wp_X3_readSemicolon at hk
  generalize s.heap = H at Z ⊢
  generalize ([] : List Loc) = locs at Z ⊢
  refine lv_aload_n hx hb dX3_readSemicolon_0 rfl (lv_at hl 0 rfl) ?_
  obtain ⟨v1, hv, hk⟩ := hk
  refine r_get (ci := 3) (k := 0) (T := TX3) (N := 7) C Z hv ku_3 rfl (by decide) tw_306 dX3_readSemicolon_1 ?_
  obtain ⟨ho, hk⟩ := hk
  refine r_callv Z (r_runV (As := []) (rest := []) C Z (m_X7_readToken l g h v1 _ hk) ho rfl (cwV 0 C.1.2.2.2.2 (gV tw_606 tw_607 tw_608 tw_65 tw_609) rfl rfl rfl (by decide +kernel) ⟨Nat.le_of_ble_eq_true rfl, Nat.le_of_ble_eq_true rfl⟩) rfl hl.1 rfl (Nat.le_of_ble_eq_true rfl) dX3_readSemicolon_4 ⟨Nat.zero_le _, Nat.zero_le _⟩) (fun h4 H locs hk Z => ?_)
  refine lv_aload_n hx hb dX3_readSemicolon_7 rfl (lv_at hl 0 rfl) ?_
  obtain ⟨v8, hv, hk⟩ := hk
  refine r_get (ci := 3) (k := 0) (T := TX3) (N := 7) C Z hv ku_3 rfl (by decide) tw_306 dX3_readSemicolon_8 ?_
  obtain ⟨ho, hk⟩ := hk
  refine r_calli Z (r_runV (As := []) (rest := []) C Z (m_X7_isSemicolon l g h4 v8 _ hk) ho rfl (cwV 0 C.1.2.2.2.2 (gV tw_696 tw_697 tw_698 tw_65 tw_699) rfl rfl rfl (by decide +kernel) ⟨Nat.le_of_ble_eq_true rfl, Nat.le_of_ble_eq_true rfl⟩) rfl hl.1 rfl (Nat.le_of_ble_eq_true rfl) dX3_readSemicolon_11 ⟨Nat.zero_le _, Nat.zero_le _⟩) (fun r11 h11 H locs hk Z => ?_)
  exact r_zret C Z hr hk.1 hk.2 dX3_readSemicolon_14
abbrev rmX3_fail : Room := ({ frames := 0, cells := 0, slots := 0, locals := 0 } : Room)
abbrev wzX3_fail : List Cond := WS yX3_fail cX3_fail 5 (some .int)
set_option maxRecDepth 100000 in
set_option maxHeartbeats 4000000 in
theorem m_X3_fail (l : Launch) (g : Gt) (h : Hp) (x0 : Nat) (x1 : Int32) (x2 : Int32) (x3 : Int32) (x4 : Int32) (Post : Int32 → Hp → Prop) (hk : wp_X3_fail x0 x1 x2 x3 x4 Post h) : Met l yX3_fail wzX3_fail rmX3_fail (Pg g h [.ref x0, .int x1, .int x2, .int x3, .int x4]) (Qi g h Post) 0 0 (dm h) := by
  refine Met_of (cc := cX3_fail) (maxL := 5) (ret := (some .int)) (by decide) (Nat.le_of_ble_eq_true rfl) (fun p e s m below meth c ls C hr hnm hl Z => ?_)
  have hx := C.1.1
  have hb := C.1.2.1
  have hml := C.1.2.2.1
  have hown := C.1.2.2.2.1
  have hts := C.1.2.2.2.2
  have hl : lv_has ls 5 [(0, .ref x0), (1, .int x1), (2, .int x2), (3, .int x3), (4, .int x4)] := hl
  unfold wp_X3_fail at hk
  generalize s.heap = H at Z ⊢
  generalize ([] : List Loc) = locs at Z ⊢
  refine lv_aload_n hx hb dX3_fail_0 rfl (lv_at hl 0 rfl) ?_
  refine lv_iload_n hx hb dX3_fail_1 rfl (lv_at hl 1 rfl) ?_
  obtain ⟨h2, hv, hk⟩ := hk
  refine r_put (ci := 3) (k := 1) (T := TX3) (N := 7) C Z hv ku_3 tyX3_ok nmX3 rfl (by decide) tw_308 rfl rfl rfl dX3_fail_2 (fun H locs Z => ?_)
  refine lv_aload_n hx hb dX3_fail_5 rfl (lv_at hl 0 rfl) ?_
  refine lv_iload_n hx hb dX3_fail_6 rfl (lv_at hl 2 rfl) ?_
  obtain ⟨h7, hv, hk⟩ := hk
  refine r_put (ci := 3) (k := 2) (T := TX3) (N := 7) C Z hv ku_3 tyX3_ok nmX3 rfl (by decide) tw_310 rfl rfl rfl dX3_fail_7 (fun H locs Z => ?_)
  refine lv_aload_n hx hb dX3_fail_10 rfl (lv_at hl 0 rfl) ?_
  refine lv_iload_n hx hb dX3_fail_11 rfl (lv_at hl 3 rfl) ?_
  obtain ⟨h12, hv, hk⟩ := hk
  refine r_put (ci := 3) (k := 3) (T := TX3) (N := 7) C Z hv ku_3 tyX3_ok nmX3 rfl (by decide) tw_312 rfl rfl rfl dX3_fail_12 (fun H locs Z => ?_)
  refine lv_aload_n hx hb dX3_fail_15 rfl (lv_at hl 0 rfl) ?_
  refine lv_iload hx hb dX3_fail_16 (lv_at hl 4 rfl) ?_
  obtain ⟨h18, hv, hk⟩ := hk
  refine r_put (ci := 3) (k := 4) (T := TX3) (N := 7) C Z hv ku_3 tyX3_ok nmX3 rfl (by decide) tw_314 rfl rfl rfl dX3_fail_18 (fun H locs Z => ?_)
  refine lv_bipush (v := (-9 : Int32)) hx hb dX3_fail_21 (by decide) ?_
  exact r_iret C Z hr hk dX3_fail_23
