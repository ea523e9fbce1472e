abbrev rmX7_add : Room := ({ frames := 0, cells := 0, slots := 0, locals := 0 } : Room)
abbrev wzX7_add : List Cond := WS yX7_add cX7_add 2 (some .int)
set_option maxRecDepth 100000 in
set_option maxHeartbeats 4000000 in
theorem m_X7_add (l : Launch) (g : Gt) (h : Hp) (x0 : Nat) (x1 : Int32) (Post : Int32 → Hp → Prop) (hk : wp_X7_add x0 x1 Post h) : Met l yX7_add wzX7_add rmX7_add (Pg g h [.ref x0, .int x1]) (Qi g h Post) 0 0 (dm h) := by
  refine Met_of (cc := cX7_add) (maxL := 2) (ret := (some .int)) (by decide) (Nat.le_of_ble_eq_true rfl) (fun p e s m below meth c ls C hr hnm hl Z => ?_)
  have hx := C.1.1
  have hb := C.1.2.1
  have hml := C.1.2.2.1
  have hown := C.1.2.2.2.1
  have hts := C.1.2.2.2.2
  have hl : lv_has ls 2 [(0, .ref x0), (1, .int x1)] := hl
  unfold wp_X7_add at hk
  generalize s.heap = H at Z ⊢
  generalize ([] : List Loc) = locs at Z ⊢
  refine lv_aload_n hx hb dX7_add_0 rfl (lv_at hl 0 rfl) ?_
  obtain ⟨v1, hv, hk⟩ := hk
  refine r_get (ci := 7) (k := 0) (T := TX7) (N := 5) C Z hv ku_7 rfl (by decide) tw_287 dX7_add_1 ?_
  refine lv_sipush (v := (nI 140)) hx hb dX7_add_4 (by decide) ?_
  refine lv_icmp_lt (tgt := 13) hx hb dX7_add_7 (by decide) (fun q => ?_) (fun q => ?_)
  · have hk := hk.1 q
    refine lv_aload_n hx hb dX7_add_13 rfl (lv_at hl 0 rfl) ?_
    obtain ⟨v14, hv, hk⟩ := hk
    refine r_get (ci := 7) (k := 4) (T := TX7) (N := 5) C Z hv ku_7 rfl (by decide) tw_294 dX7_add_14 ?_
    refine lv_aload_n hx hb dX7_add_17 rfl (lv_at hl 0 rfl) ?_
    obtain ⟨v18, hv, hk⟩ := hk
    refine r_get (ci := 7) (k := 0) (T := TX7) (N := 5) C Z hv ku_7 rfl (by decide) tw_287 dX7_add_18 ?_
    refine lv_iload_n hx hb dX7_add_21 rfl (lv_at hl 1 rfl) ?_
    obtain ⟨h22, hv, hk⟩ := hk
    refine r_iast C Z hv dX7_add_22 (fun H locs Z => ?_)
    refine lv_aload_n hx hb dX7_add_23 rfl (lv_at hl 0 rfl) ?_
    refine lv_dup hx hb dX7_add_24 rfl ?_
    obtain ⟨v25, hv, hk⟩ := hk
    refine r_get (ci := 7) (k := 0) (T := TX7) (N := 5) C Z hv ku_7 rfl (by decide) tw_287 dX7_add_25 ?_
    refine lv_iconst (v := (nI 1)) hx hb dX7_add_28 (by decide) ?_
    refine lv_iadd hx hb dX7_add_29 ?_
    obtain ⟨h30, hv, hk⟩ := hk
    refine r_put (ci := 7) (k := 0) (T := TX7) (N := 5) C Z hv ku_7 tyX7_ok nmX7 rfl (by decide) tw_287 rfl rfl rfl dX7_add_30 (fun H locs Z => ?_)
    refine lv_aload_n hx hb dX7_add_33 rfl (lv_at hl 0 rfl) ?_
    obtain ⟨v34, hv, hk⟩ := hk
    refine r_get (ci := 7) (k := 0) (T := TX7) (N := 5) C Z hv ku_7 rfl (by decide) tw_287 dX7_add_34 ?_
    exact r_iret C Z hr hk dX7_add_37
  · have hk := hk.2 q
    refine lv_bipush (v := (-3 : Int32)) hx hb dX7_add_10 (by decide) ?_
    exact r_iret C Z hr hk dX7_add_12
abbrev rmX7_empty : Room := ({ frames := 0, cells := 0, slots := 0, locals := 0 } : Room)
abbrev wzX7_empty : List Cond := WS yX7_empty cX7_empty 2 (some .int)
set_option maxRecDepth 100000 in
set_option maxHeartbeats 4000000 in
theorem m_X7_empty (l : Launch) (g : Gt) (h : Hp) (x0 : Nat) (Post : Int32 → Hp → Prop) (hk : wp_X7_empty x0 Post h) : Met l yX7_empty wzX7_empty rmX7_empty (Pg g h [.ref x0]) (Qi g h Post) 0 0 (dm h) := by
  refine Met_of (cc := cX7_empty) (maxL := 2) (ret := (some .int)) (by decide) (Nat.le_of_ble_eq_true rfl) (fun p e s m below meth c ls C hr hnm hl Z => ?_)
  have hx := C.1.1
  have hb := C.1.2.1
  have hml := C.1.2.2.1
  have hown := C.1.2.2.2.1
  have hts := C.1.2.2.2.2
  have hl : lv_has ls 2 [(0, .ref x0)] := hl
  unfold wp_X7_empty at hk
  generalize s.heap = H at Z ⊢
  generalize ([] : List Loc) = locs at Z ⊢
  refine lv_aload_n hx hb dX7_empty_0 rfl (lv_at hl 0 rfl) ?_
  obtain ⟨v1, hv, hk⟩ := hk
  refine r_get (ci := 7) (k := 0) (T := TX7) (N := 5) C Z hv ku_7 rfl (by decide) tw_287 dX7_empty_1 ?_
  refine lv_istore_n (lv' := [(1, .int v1), (0, .ref x0)]) hx hb dX7_empty_4 rfl hl (by decide) rfl (fun ls hl => ?_)
  refine lv_aload_n hx hb dX7_empty_5 rfl (lv_at hl 1 rfl) ?_
  refine lv_iconst (v := (nI 0)) hx hb dX7_empty_6 (by decide) ?_
  obtain ⟨h7, hv, hk⟩ := hk
  refine r_put (ci := 7) (k := 0) (T := TX7) (N := 5) C Z hv ku_7 tyX7_ok nmX7 rfl (by decide) tw_287 rfl rfl rfl dX7_empty_7 (fun H locs Z => ?_)
  refine lv_iload_n hx hb dX7_empty_10 rfl (lv_at hl 0 rfl) ?_
  exact r_iret C Z hr hk dX7_empty_11
abbrev rmX7_rewind : Room := ({ frames := 0, cells := 0, slots := 0, locals := 0 } : Room)
abbrev wzX7_rewind : List Cond := WS yX7_rewind cX7_rewind 1 none
set_option maxRecDepth 100000 in
set_option maxHeartbeats 4000000 in
theorem m_X7_rewind (l : Launch) (g : Gt) (h : Hp) (x0 : Nat) (Post : Hp → Prop) (hk : wp_X7_rewind x0 Post h) : Met l yX7_rewind wzX7_rewind rmX7_rewind (Pg g h [.ref x0]) (Qv g h Post) 0 0 (dm h) := by
  refine Met_of (cc := cX7_rewind) (maxL := 1) (ret := none) (by decide) (Nat.le_of_ble_eq_true rfl) (fun p e s m below meth c ls C hr hnm hl Z => ?_)
  have hx := C.1.1
  have hb := C.1.2.1
  have hml := C.1.2.2.1
  have hown := C.1.2.2.2.1
  have hts := C.1.2.2.2.2
  have hl : lv_has ls 1 [(0, .ref x0)] := hl
  unfold wp_X7_rewind at hk
  generalize s.heap = H at Z ⊢
  generalize ([] : List Loc) = locs at Z ⊢
  refine lv_aload_n hx hb dX7_rewind_0 rfl (lv_at hl 0 rfl) ?_
  refine lv_iconst (v := (nI 0)) hx hb dX7_rewind_1 (by decide) ?_
  obtain ⟨h2, hv, hk⟩ := hk
  refine r_put (ci := 7) (k := 3) (T := TX7) (N := 5) C Z hv ku_7 tyX7_ok nmX7 rfl (by decide) tw_293 rfl rfl rfl dX7_rewind_2 (fun H locs Z => ?_)
  exact r_vret C Z hr hk dX7_rewind_5
abbrev rmX7_kindOf : Room := ({ frames := 0, cells := 0, slots := 0, locals := 0 } : Room)
abbrev wzX7_kindOf : List Cond := WS yX7_kindOf cX7_kindOf 1 (some .int)
set_option maxRecDepth 100000 in
set_option maxHeartbeats 4000000 in
theorem m_X7_kindOf (l : Launch) (g : Gt) (h : Hp) (x0 : Int32) (Post : Int32 → Hp → Prop) (hk : wp_X7_kindOf x0 Post h) : Met l yX7_kindOf wzX7_kindOf rmX7_kindOf (Pg g h [.int x0]) (Qi g h Post) 0 0 (dm h) := by
  refine Met_of (cc := cX7_kindOf) (maxL := 1) (ret := (some .int)) (by decide) (Nat.le_of_ble_eq_true rfl) (fun p e s m below meth c ls C hr hnm hl Z => ?_)
  have hx := C.1.1
  have hb := C.1.2.1
  have hml := C.1.2.2.1
  have hown := C.1.2.2.2.1
  have hts := C.1.2.2.2.2
  have hl : lv_has ls 1 [(0, .int x0)] := hl
  unfold wp_X7_kindOf at hk
  generalize s.heap = H at Z ⊢
  generalize ([] : List Loc) = locs at Z ⊢
  refine lv_iload_n hx hb dX7_kindOf_0 rfl (lv_at hl 0 rfl) ?_
  refine lv_bipush (v := (nI 97)) hx hb dX7_kindOf_1 (by decide) ?_
  refine lv_icmp_lt (tgt := 14) hx hb dX7_kindOf_3 (by decide) (fun q => ?_) (fun q => ?_)
  · have hk := hk.1 q
    refine lv_iload_n hx hb dX7_kindOf_14 rfl (lv_at hl 0 rfl) ?_
    refine lv_bipush (v := (nI 48)) hx hb dX7_kindOf_15 (by decide) ?_
    refine lv_icmp_lt (tgt := 30) hx hb dX7_kindOf_17 (by decide) (fun q => ?_) (fun q => ?_)
    · have hk := hk.1 q
      refine lv_iconst (v := (nI 3)) hx hb dX7_kindOf_30 (by decide) ?_
      exact r_iret C Z hr hk dX7_kindOf_31
    · have hk := hk.2 q
      refine lv_iload_n hx hb dX7_kindOf_20 rfl (lv_at hl 0 rfl) ?_
      refine lv_bipush (v := (nI 57)) hx hb dX7_kindOf_21 (by decide) ?_
      refine lv_icmp_gt (tgt := 30) hx hb dX7_kindOf_23 (by decide) (fun q => ?_) (fun q => ?_)
      · have hk := hk.1 q
        refine lv_iconst (v := (nI 3)) hx hb dX7_kindOf_30 (by decide) ?_
        exact r_iret C Z hr hk dX7_kindOf_31
      · have hk := hk.2 q
        refine lv_iconst (v := (nI 2)) hx hb dX7_kindOf_26 (by decide) ?_
        refine lv_goto (tgt := 31) hx hb dX7_kindOf_27 (by decide) ?_
        exact r_iret C Z hr hk dX7_kindOf_31
  · have hk := hk.2 q
    refine lv_iload_n hx hb dX7_kindOf_6 rfl (lv_at hl 0 rfl) ?_
    refine lv_bipush (v := (nI 122)) hx hb dX7_kindOf_7 (by decide) ?_
    refine lv_icmp_gt (tgt := 14) hx hb dX7_kindOf_9 (by decide) (fun q => ?_) (fun q => ?_)
    · have hk := hk.1 q
      refine lv_iload_n hx hb dX7_kindOf_14 rfl (lv_at hl 0 rfl) ?_
      refine lv_bipush (v := (nI 48)) hx hb dX7_kindOf_15 (by decide) ?_
      refine lv_icmp_lt (tgt := 30) hx hb dX7_kindOf_17 (by decide) (fun q => ?_) (fun q => ?_)
      · have hk := hk.1 q
        refine lv_iconst (v := (nI 3)) hx hb dX7_kindOf_30 (by decide) ?_
        exact r_iret C Z hr hk dX7_kindOf_31
      · have hk := hk.2 q
        refine lv_iload_n hx hb dX7_kindOf_20 rfl (lv_at hl 0 rfl) ?_
        refine lv_bipush (v := (nI 57)) hx hb dX7_kindOf_21 (by decide) ?_
        refine lv_icmp_gt (tgt := 30) hx hb dX7_kindOf_23 (by decide) (fun q => ?_) (fun q => ?_)
        · have hk := hk.1 q
          refine lv_iconst (v := (nI 3)) hx hb dX7_kindOf_30 (by decide) ?_
          exact r_iret C Z hr hk dX7_kindOf_31
        · have hk := hk.2 q
          refine lv_iconst (v := (nI 2)) hx hb dX7_kindOf_26 (by decide) ?_
          refine lv_goto (tgt := 31) hx hb dX7_kindOf_27 (by decide) ?_
          exact r_iret C Z hr hk dX7_kindOf_31
    · have hk := hk.2 q
      refine lv_iconst (v := (nI 1)) hx hb dX7_kindOf_12 (by decide) ?_
      exact r_iret C Z hr hk dX7_kindOf_13
abbrev rmX7_readToken : Room := ({ frames := 1, cells := 0, slots := 0, locals := 20 } : Room)
abbrev wzX7_readToken : List Cond := WS yX7_readToken cX7_readToken 1 none
set_option maxRecDepth 100000 in
set_option maxHeartbeats 4000000 in
theorem w_X7_readToken_89 {p : Program} {l : Launch} {e : Env} {s : State} {m : MethodId} {args : Array Value} {below : List Frame} {meth : Method} {c : Code} {g : Gt} {h0 : Hp} (C : Cx g (dm h0) RX7 cX7_readToken 1 p s m args meth c) (hr : meth.sig.returnType = none) {Post : Hp → Prop} (x0 : Nat)   : ∀ (n : Nat)  (h : Hp) (H : Heap) (locs : List Loc) (ls : Array Slot), lv_has ls 1 [(0, .ref x0)] → St g (dm h0) s h H locs → wp_X7_readToken_89 Post x0 n  h → W p l e rmX7_readToken s m args below meth c H locs 0 0 (MQ below (Qv g h0 Post) args s 0 0 (dm h0)) (F0 m 89 ls []) := by
  have hx := C.1.1
  have hb := C.1.2.1
  have hml := C.1.2.2.1
  have hown := C.1.2.2.2.1
  have hts := C.1.2.2.2.2
  intro n
  induction n with
  | zero => intro  h H locs ls hl Z hk; exact (show False from hk).elim
  | succ n ih =>
    intro  h H locs ls hl Z hk
    unfold wp_X7_readToken_89 at hk
    refine lv_aload_n hx hb dX7_readToken_89 rfl (lv_at hl 0 rfl) ?_
    obtain ⟨v90, hv, hk⟩ := hk
    refine r_get (ci := 7) (k := 1) (T := TX7) (N := 5) C Z hv ku_7 rfl (by decide) tw_290 dX7_readToken_90 ?_
    refine lv_iconst (v := (nI 3)) hx hb dX7_readToken_93 (by decide) ?_
    refine lv_icmp_eq (tgt := 140) hx hb dX7_readToken_94 (by decide) (fun q => ?_) (fun q => ?_)
    · have hk := hk.1 q
      exact r_vret C Z hr hk dX7_readToken_140
    · have hk := hk.2 q
      refine lv_aload_n hx hb dX7_readToken_97 rfl (lv_at hl 0 rfl) ?_
      obtain ⟨v98, hv, hk⟩ := hk
      refine r_get (ci := 7) (k := 3) (T := TX7) (N := 5) C Z hv ku_7 rfl (by decide) tw_293 dX7_readToken_98 ?_
      refine lv_aload_n hx hb dX7_readToken_101 rfl (lv_at hl 0 rfl) ?_
      obtain ⟨v102, hv, hk⟩ := hk
      refine r_get (ci := 7) (k := 0) (T := TX7) (N := 5) C Z hv ku_7 rfl (by decide) tw_287 dX7_readToken_102 ?_
      refine lv_icmp_ge (tgt := 140) hx hb dX7_readToken_105 (by decide) (fun q => ?_) (fun q => ?_)
      · have hk := hk.1 q
        exact r_vret C Z hr hk dX7_readToken_140
      · have hk := hk.2 q
        refine lv_aload_n hx hb dX7_readToken_108 rfl (lv_at hl 0 rfl) ?_
        obtain ⟨v109, hv, hk⟩ := hk
        refine r_get (ci := 7) (k := 4) (T := TX7) (N := 5) C Z hv ku_7 rfl (by decide) tw_294 dX7_readToken_109 ?_
        refine lv_aload_n hx hb dX7_readToken_112 rfl (lv_at hl 0 rfl) ?_
        obtain ⟨v113, hv, hk⟩ := hk
        refine r_get (ci := 7) (k := 3) (T := TX7) (N := 5) C Z hv ku_7 rfl (by decide) tw_293 dX7_readToken_113 ?_
        obtain ⟨v116, hv, hk⟩ := hk
        refine r_iald C Z hv dX7_readToken_116 ?_
        refine r_calli Z (r_runS (As := [.int v116]) (rest := []) C Z (m_X7_kindOf l g h v116 _ hk) (va_cwS 1 C.1.2.2.2.2 (gS tw_610 tw_611 tw_65 tw_612) rfl rfl rfl (by decide +kernel) ⟨Nat.le_of_ble_eq_true rfl, Nat.le_of_ble_eq_true rfl⟩) rfl hl.1 rfl (Nat.le_of_ble_eq_true rfl) dX7_readToken_117 ⟨Nat.zero_le _, Nat.zero_le _⟩) (fun r117 h117 H locs hk Z => ?_)
        refine lv_aload_n hx hb dX7_readToken_120 rfl (lv_at hl 0 rfl) ?_
        obtain ⟨v121, hv, hk⟩ := hk
        refine r_get (ci := 7) (k := 1) (T := TX7) (N := 5) C Z hv ku_7 rfl (by decide) tw_290 dX7_readToken_121 ?_
        refine lv_icmp_ne (tgt := 140) hx hb dX7_readToken_124 (by decide) (fun q => ?_) (fun q => ?_)
        · have hk := hk.1 q
          exact r_vret C Z hr hk dX7_readToken_140
        · have hk := hk.2 q
          refine lv_aload_n hx hb dX7_readToken_127 rfl (lv_at hl 0 rfl) ?_
          refine lv_dup hx hb dX7_readToken_128 rfl ?_
          obtain ⟨v129, hv, hk⟩ := hk
          refine r_get (ci := 7) (k := 3) (T := TX7) (N := 5) C Z hv ku_7 rfl (by decide) tw_293 dX7_readToken_129 ?_
          refine lv_iconst (v := (nI 1)) hx hb dX7_readToken_132 (by decide) ?_
          refine lv_iadd hx hb dX7_readToken_133 ?_
          obtain ⟨h134, hv, hk⟩ := hk
          refine r_put (ci := 7) (k := 3) (T := TX7) (N := 5) C Z hv ku_7 tyX7_ok nmX7 rfl (by decide) tw_293 rfl rfl rfl dX7_readToken_134 (fun H locs Z => ?_)
          refine lv_goto (tgt := 89) hx hb dX7_readToken_137 (by decide) ?_
          exact ih h134 _ _ _ (lv_sub hl [0] rfl) Z hk
set_option maxRecDepth 100000 in
set_option maxHeartbeats 4000000 in
theorem w_X7_readToken_38 {p : Program} {l : Launch} {e : Env} {s : State} {m : MethodId} {args : Array Value} {below : List Frame} {meth : Method} {c : Code} {g : Gt} {h0 : Hp} (C : Cx g (dm h0) RX7 cX7_readToken 1 p s m args meth c) (hr : meth.sig.returnType = none) {Post : Hp → Prop} (x0 : Nat)    : ∀ (h : Hp) (H : Heap) (locs : List Loc) (ls : Array Slot), lv_has ls 1 [(0, .ref x0)] → St g (dm h0) s h H locs → wp_X7_readToken_38 Post x0 h → W p l e rmX7_readToken s m args below meth c H locs 0 0 (MQ below (Qv g h0 Post) args s 0 0 (dm h0)) (F0 m 38 ls []) := by
  have hx := C.1.1
  have hb := C.1.2.1
  have hml := C.1.2.2.1
  have hown := C.1.2.2.2.1
  have hts := C.1.2.2.2.2
  intro h H locs ls hl Z hk
  unfold wp_X7_readToken_38 at hk
  refine lv_aload_n hx hb dX7_readToken_38 rfl (lv_at hl 0 rfl) ?_
  refine lv_aload_n hx hb dX7_readToken_39 rfl (lv_at hl 0 rfl) ?_
  obtain ⟨v40, hv, hk⟩ := hk
  refine r_get (ci := 7) (k := 3) (T := TX7) (N := 5) C Z hv ku_7 rfl (by decide) tw_293 dX7_readToken_40 ?_
  obtain ⟨h43, hv, hk⟩ := hk
  refine r_put (ci := 7) (k := 2) (T := TX7) (N := 5) C Z hv ku_7 tyX7_ok nmX7 rfl (by decide) tw_292 rfl rfl rfl dX7_readToken_43 (fun H locs Z => ?_)
  refine lv_aload_n hx hb dX7_readToken_46 rfl (lv_at hl 0 rfl) ?_
  obtain ⟨v47, hv, hk⟩ := hk
  refine r_get (ci := 7) (k := 3) (T := TX7) (N := 5) C Z hv ku_7 rfl (by decide) tw_293 dX7_readToken_47 ?_
  refine lv_aload_n hx hb dX7_readToken_50 rfl (lv_at hl 0 rfl) ?_
  obtain ⟨v51, hv, hk⟩ := hk
  refine r_get (ci := 7) (k := 0) (T := TX7) (N := 5) C Z hv ku_7 rfl (by decide) tw_287 dX7_readToken_51 ?_
  refine lv_icmp_lt (tgt := 63) hx hb dX7_readToken_54 (by decide) (fun q => ?_) (fun q => ?_)
  · have hk := hk.1 q
    refine lv_aload_n hx hb dX7_readToken_63 rfl (lv_at hl 0 rfl) ?_
    refine lv_aload_n hx hb dX7_readToken_64 rfl (lv_at hl 0 rfl) ?_
    obtain ⟨v65, hv, hk⟩ := hk
    refine r_get (ci := 7) (k := 4) (T := TX7) (N := 5) C Z hv ku_7 rfl (by decide) tw_294 dX7_readToken_65 ?_
    refine lv_aload_n hx hb dX7_readToken_68 rfl (lv_at hl 0 rfl) ?_
    obtain ⟨v69, hv, hk⟩ := hk
    refine r_get (ci := 7) (k := 3) (T := TX7) (N := 5) C Z hv ku_7 rfl (by decide) tw_293 dX7_readToken_69 ?_
    obtain ⟨v72, hv, hk⟩ := hk
    refine r_iald C Z hv dX7_readToken_72 ?_
    refine r_calli Z (r_runS (As := [.int v72]) (rest := [.ref x0]) C Z (m_X7_kindOf l g h43 v72 _ hk) (va_cwS 1 C.1.2.2.2.2 (gS tw_610 tw_611 tw_65 tw_612) rfl rfl rfl (by decide +kernel) ⟨Nat.le_of_ble_eq_true rfl, Nat.le_of_ble_eq_true rfl⟩) rfl hl.1 rfl (Nat.le_of_ble_eq_true rfl) dX7_readToken_73 ⟨Nat.zero_le _, Nat.zero_le _⟩) (fun r73 h73 H locs hk Z => ?_)
    obtain ⟨h76, hv, hk⟩ := hk
    refine r_put (ci := 7) (k := 1) (T := TX7) (N := 5) C Z hv ku_7 tyX7_ok nmX7 rfl (by decide) tw_290 rfl rfl rfl dX7_readToken_76 (fun H locs Z => ?_)
    refine lv_aload_n hx hb dX7_readToken_79 rfl (lv_at hl 0 rfl) ?_
    refine lv_dup hx hb dX7_readToken_80 rfl ?_
    obtain ⟨v81, hv, hk⟩ := hk
    refine r_get (ci := 7) (k := 3) (T := TX7) (N := 5) C Z hv ku_7 rfl (by decide) tw_293 dX7_readToken_81 ?_
    refine lv_iconst (v := (nI 1)) hx hb dX7_readToken_84 (by decide) ?_
    refine lv_iadd hx hb dX7_readToken_85 ?_
    obtain ⟨h86, hv, hk⟩ := hk
    refine r_put (ci := 7) (k := 3) (T := TX7) (N := 5) C Z hv ku_7 tyX7_ok nmX7 rfl (by decide) tw_293 rfl rfl rfl dX7_readToken_86 (fun H locs Z => ?_)
    obtain ⟨n1, hk⟩ := hk
    exact w_X7_readToken_89 C hr x0 n1 h86 _ _ _ (lv_sub hl [0] rfl) Z hk
  · have hk := hk.2 q
    refine lv_aload_n hx hb dX7_readToken_57 rfl (lv_at hl 0 rfl) ?_
    refine lv_iconst (v := (nI 0)) hx hb dX7_readToken_58 (by decide) ?_
    obtain ⟨h59, hv, hk⟩ := hk
    refine r_put (ci := 7) (k := 1) (T := TX7) (N := 5) C Z hv ku_7 tyX7_ok nmX7 rfl (by decide) tw_290 rfl rfl rfl dX7_readToken_59 (fun H locs Z => ?_)
    exact r_vret C Z hr hk dX7_readToken_62
set_option maxRecDepth 100000 in
set_option maxHeartbeats 4000000 in
theorem w_X7_readToken_0 {p : Program} {l : Launch} {e : Env} {s : State} {m : MethodId} {args : Array Value} {below : List Frame} {meth : Method} {c : Code} {g : Gt} {h0 : Hp} (C : Cx g (dm h0) RX7 cX7_readToken 1 p s m args meth c) (hr : meth.sig.returnType = none) {Post : Hp → Prop} (x0 : Nat)   : ∀ (n : Nat)  (h : Hp) (H : Heap) (locs : List Loc) (ls : Array Slot), lv_has ls 1 [(0, .ref x0)] → St g (dm h0) s h H locs → wp_X7_readToken_0 Post x0 n  h → W p l e rmX7_readToken s m args below meth c H locs 0 0 (MQ below (Qv g h0 Post) args s 0 0 (dm h0)) (F0 m 0 ls []) := by
  have hx := C.1.1
  have hb := C.1.2.1
  have hml := C.1.2.2.1
  have hown := C.1.2.2.2.1
  have hts := C.1.2.2.2.2
  intro n
  induction n with
  | zero => intro  h H locs ls hl Z hk; exact (show False from hk).elim
  | succ n ih =>
    intro  h H locs ls hl Z hk
    unfold wp_X7_readToken_0 at hk
    refine lv_aload_n hx hb dX7_readToken_0 rfl (lv_at hl 0 rfl) ?_
    obtain ⟨v1, hv, hk⟩ := hk
    refine r_get (ci := 7) (k := 3) (T := TX7) (N := 5) C Z hv ku_7 rfl (by decide) tw_293 dX7_readToken_1 ?_
    refine lv_aload_n hx hb dX7_readToken_4 rfl (lv_at hl 0 rfl) ?_
    obtain ⟨v5, hv, hk⟩ := hk
    refine r_get (ci := 7) (k := 0) (T := TX7) (N := 5) C Z hv ku_7 rfl (by decide) tw_287 dX7_readToken_5 ?_
    refine lv_icmp_ge (tgt := 38) hx hb dX7_readToken_8 (by decide) (fun q => ?_) (fun q => ?_)
    · have hk := hk.1 q
      exact w_X7_readToken_38 C hr x0 h _ _ _ (lv_sub hl [0] rfl) Z hk
    · have hk := hk.2 q
      refine lv_aload_n hx hb dX7_readToken_11 rfl (lv_at hl 0 rfl) ?_
      obtain ⟨v12, hv, hk⟩ := hk
      refine r_get (ci := 7) (k := 4) (T := TX7) (N := 5) C Z hv ku_7 rfl (by decide) tw_294 dX7_readToken_12 ?_
      refine lv_aload_n hx hb dX7_readToken_15 rfl (lv_at hl 0 rfl) ?_
      obtain ⟨v16, hv, hk⟩ := hk
      refine r_get (ci := 7) (k := 3) (T := TX7) (N := 5) C Z hv ku_7 rfl (by decide) tw_293 dX7_readToken_16 ?_
      obtain ⟨v19, hv, hk⟩ := hk
      refine r_iald C Z hv dX7_readToken_19 ?_
      refine lv_bipush (v := (nI 32)) hx hb dX7_readToken_20 (by decide) ?_
      refine lv_icmp_ne (tgt := 38) hx hb dX7_readToken_22 (by decide) (fun q => ?_) (fun q => ?_)
      · have hk := hk.1 q
        exact w_X7_readToken_38 C hr x0 h _ _ _ (lv_sub hl [0] rfl) Z hk
      · have hk := hk.2 q
        refine lv_aload_n hx hb dX7_readToken_25 rfl (lv_at hl 0 rfl) ?_
        refine lv_dup hx hb dX7_readToken_26 rfl ?_
        obtain ⟨v27, hv, hk⟩ := hk
        refine r_get (ci := 7) (k := 3) (T := TX7) (N := 5) C Z hv ku_7 rfl (by decide) tw_293 dX7_readToken_27 ?_
        refine lv_iconst (v := (nI 1)) hx hb dX7_readToken_30 (by decide) ?_
        refine lv_iadd hx hb dX7_readToken_31 ?_
        obtain ⟨h32, hv, hk⟩ := hk
        refine r_put (ci := 7) (k := 3) (T := TX7) (N := 5) C Z hv ku_7 tyX7_ok nmX7 rfl (by decide) tw_293 rfl rfl rfl dX7_readToken_32 (fun H locs Z => ?_)
        refine lv_goto (tgt := 0) hx hb dX7_readToken_35 (by decide) ?_
        exact ih h32 _ _ _ (lv_sub hl [0] rfl) Z hk
set_option maxRecDepth 100000 in
set_option maxHeartbeats 4000000 in
theorem m_X7_readToken (l : Launch) (g : Gt) (h : Hp) (x0 : Nat) (Post : Hp → Prop) (hk : wp_X7_readToken x0 Post h) : Met l yX7_readToken wzX7_readToken rmX7_readToken (Pg g h [.ref x0]) (Qv g h Post) 0 0 (dm h) := by
  refine Met_of (cc := cX7_readToken) (maxL := 1) (ret := none) (by decide) (Nat.le_of_ble_eq_true rfl) (fun p e s m below meth c ls C hr hnm hl Z => ?_)
  have hx := C.1.1
  have hb := C.1.2.1
  have hml := C.1.2.2.1
  have hown := C.1.2.2.2.1
  have hts := C.1.2.2.2.2
  have hl : lv_has ls 1 [(0, .ref x0)] := hl
  unfold wp_X7_readToken at hk
  generalize s.heap = H at Z ⊢
  generalize ([] : List Loc) = locs at Z ⊢
  refine lv_aload_n hx hb dX7_readToken_0 rfl (lv_at hl 0 rfl) ?_
  obtain ⟨v1, hv, hk⟩ := hk
  refine r_get (ci := 7) (k := 3) (T := TX7) (N := 5) C Z hv ku_7 rfl (by decide) tw_293 dX7_readToken_1 ?_
  refine lv_aload_n hx hb dX7_readToken_4 rfl (lv_at hl 0 rfl) ?_
  obtain ⟨v5, hv, hk⟩ := hk
  refine r_get (ci := 7) (k := 0) (T := TX7) (N := 5) C Z hv ku_7 rfl (by decide) tw_287 dX7_readToken_5 ?_
  refine lv_icmp_ge (tgt := 38) hx hb dX7_readToken_8 (by decide) (fun q => ?_) (fun q => ?_)
  · have hk := hk.1 q
    exact w_X7_readToken_38 C hr x0 h _ _ _ (lv_sub hl [0] rfl) Z hk
  · have hk := hk.2 q
    refine lv_aload_n hx hb dX7_readToken_11 rfl (lv_at hl 0 rfl) ?_
    obtain ⟨v12, hv, hk⟩ := hk
    refine r_get (ci := 7) (k := 4) (T := TX7) (N := 5) C Z hv ku_7 rfl (by decide) tw_294 dX7_readToken_12 ?_
    refine lv_aload_n hx hb dX7_readToken_15 rfl (lv_at hl 0 rfl) ?_
    obtain ⟨v16, hv, hk⟩ := hk
    refine r_get (ci := 7) (k := 3) (T := TX7) (N := 5) C Z hv ku_7 rfl (by decide) tw_293 dX7_readToken_16 ?_
    obtain ⟨v19, hv, hk⟩ := hk
    refine r_iald C Z hv dX7_readToken_19 ?_
    refine lv_bipush (v := (nI 32)) hx hb dX7_readToken_20 (by decide) ?_
    refine lv_icmp_ne (tgt := 38) hx hb dX7_readToken_22 (by decide) (fun q => ?_) (fun q => ?_)
    · have hk := hk.1 q
      exact w_X7_readToken_38 C hr x0 h _ _ _ (lv_sub hl [0] rfl) Z hk
    · have hk := hk.2 q
      refine lv_aload_n hx hb dX7_readToken_25 rfl (lv_at hl 0 rfl) ?_
      refine lv_dup hx hb dX7_readToken_26 rfl ?_
      obtain ⟨v27, hv, hk⟩ := hk
      refine r_get (ci := 7) (k := 3) (T := TX7) (N := 5) C Z hv ku_7 rfl (by decide) tw_293 dX7_readToken_27 ?_
      refine lv_iconst (v := (nI 1)) hx hb dX7_readToken_30 (by decide) ?_
      refine lv_iadd hx hb dX7_readToken_31 ?_
      obtain ⟨h32, hv, hk⟩ := hk
      refine r_put (ci := 7) (k := 3) (T := TX7) (N := 5) C Z hv ku_7 tyX7_ok nmX7 rfl (by decide) tw_293 rfl rfl rfl dX7_readToken_32 (fun H locs Z => ?_)
      refine lv_goto (tgt := 0) hx hb dX7_readToken_35 (by decide) ?_
      obtain ⟨n1, hk⟩ := hk
      exact w_X7_readToken_0 C hr x0 n1 h32 _ _ _ (lv_sub hl [0] rfl) Z hk
abbrev rmX7_isWord : Room := ({ frames := 4, cells := 0, slots := 0, locals := 100 } : Room)
abbrev wzX7_isWord : List Cond := WS yX7_isWord cX7_isWord 3 (some .boolean)
set_option maxRecDepth 100000 in
set_option maxHeartbeats 4000000 in
theorem w_X7_isWord_31 {p : Program} {l : Launch} {e : Env} {s : State} {m : MethodId} {args : Array Value} {below : List Frame} {meth : Method} {c : Code} {g : Gt} {h0 : Hp} (C : Cx g (dm h0) RX7 cX7_isWord 3 p s m args meth c) (hr : meth.sig.returnType = (some .boolean)) {Post : Int32 → Hp → Prop} (x0 : Nat) (x1 : Nat)   : ∀ (n : Nat) (x2 : Int32) (h : Hp) (H : Heap) (locs : List Loc) (ls : Array Slot), lv_has ls 3 [(0, .ref x0), (1, .ref (g.2.2 (3 + x1))), (2, .int x2)] → St g (dm h0) s h H locs → wp_X7_isWord_31 Post x0 x1 n x2 h → W p l e rmX7_isWord s m args below meth c H locs 0 0 (MQ below (Qi g h0 Post) args s 0 0 (dm h0)) (F0 m 31 ls []) := by
  have hx := C.1.1
  have hb := C.1.2.1
  have hml := C.1.2.2.1
  have hown := C.1.2.2.2.1
  have hts := C.1.2.2.2.2
  intro n
  induction n with
  | zero => intro x2 h H locs ls hl Z hk; exact (show False from hk).elim
  | succ n ih =>
    intro x2 h H locs ls hl Z hk
    unfold wp_X7_isWord_31 at hk
    refine lv_iload_n hx hb dX7_isWord_31 rfl (lv_at hl 2 rfl) ?_
    refine lv_aload_n hx hb dX7_isWord_32 rfl (lv_at hl 0 rfl) ?_
    obtain ⟨v33, hv, hk⟩ := hk
    refine r_get (ci := 7) (k := 3) (T := TX7) (N := 5) C Z hv ku_7 rfl (by decide) tw_293 dX7_isWord_33 ?_
    refine lv_icmp_ge (tgt := 66) hx hb dX7_isWord_36 (by decide) (fun q => ?_) (fun q => ?_)
    · have hk := hk.1 q
      refine lv_iconst (v := (nI 1)) hx hb dX7_isWord_66 (by decide) ?_
      exact r_zret C Z hr (Or.inr rfl) hk dX7_isWord_67
    · have hk := hk.2 q
      refine lv_aload_n hx hb dX7_isWord_39 rfl (lv_at hl 0 rfl) ?_
      obtain ⟨v40, hv, hk⟩ := hk
      refine r_get (ci := 7) (k := 4) (T := TX7) (N := 5) C Z hv ku_7 rfl (by decide) tw_294 dX7_isWord_40 ?_
      refine lv_iload_n hx hb dX7_isWord_43 rfl (lv_at hl 2 rfl) ?_
      obtain ⟨v44, hv, hk⟩ := hk
      refine r_iald C Z hv dX7_isWord_44 ?_
      refine lv_aload_n hx hb dX7_isWord_45 rfl (lv_at hl 1 rfl) ?_
      refine lv_iload_n hx hb dX7_isWord_46 rfl (lv_at hl 2 rfl) ?_
      refine lv_aload_n hx hb dX7_isWord_47 rfl (lv_at hl 0 rfl) ?_
      obtain ⟨v48, hv, hk⟩ := hk
      refine r_get (ci := 7) (k := 2) (T := TX7) (N := 5) C Z hv ku_7 rfl (by decide) tw_292 dX7_isWord_48 ?_
      refine lv_isub hx hb dX7_isWord_51 ?_
      obtain ⟨hi, v52, hv, hk⟩ := hk
      refine r_scharAt C Z hi hl.1 ⟨Nat.le_of_ble_eq_true rfl, Nat.le_of_ble_eq_true rfl⟩ ⟨Nat.zero_le _, Nat.zero_le _⟩ (Nat.le_of_ble_eq_true rfl) hv dX7_isWord_52 (fun H locs Z => ?_)
      refine lv_icmp_eq (tgt := 60) hx hb dX7_isWord_55 (by decide) (fun q => ?_) (fun q => ?_)
      · have hk := hk.1 q
        obtain ⟨y60, ey60⟩ : ∃ y : Int32, y = x2 + (nI 1) := ⟨_, rfl⟩
        have hk := hk y60 ey60
        refine lv_iinc (v := y60) (lv' := [(2, .int y60), (0, .ref x0), (1, .ref (g.2.2 (3 + x1)))]) hx hb dX7_isWord_60 hl (k := 2) rfl (by rw [ey60]; rfl) (by decide) rfl (fun ls hl => ?_)
        refine lv_goto (tgt := 31) hx hb dX7_isWord_63 (by decide) ?_
        exact ih y60 h _ _ _ (lv_sub hl [1, 2, 0] rfl) Z hk
      · have hk := hk.2 q
        refine lv_iconst (v := (nI 0)) hx hb dX7_isWord_58 (by decide) ?_
        exact r_zret C Z hr (Or.inl rfl) hk dX7_isWord_59
set_option maxRecDepth 100000 in
set_option maxHeartbeats 4000000 in
theorem m_X7_isWord (l : Launch) (g : Gt) (h : Hp) (x0 : Nat) (x1 : Nat) (Post : Int32 → Hp → Prop) (hk : wp_X7_isWord x0 x1 Post h) : Met l yX7_isWord wzX7_isWord rmX7_isWord (Pg g h [.ref x0, .ref (g.2.2 (3 + x1))]) (Qi g h Post) 0 0 (dm h) := by
  refine Met_of (cc := cX7_isWord) (maxL := 3) (ret := (some .boolean)) (by decide) (Nat.le_of_ble_eq_true rfl) (fun p e s m below meth c ls C hr hnm hl Z => ?_)
  have hx := C.1.1
  have hb := C.1.2.1
  have hml := C.1.2.2.1
  have hown := C.1.2.2.2.1
  have hts := C.1.2.2.2.2
  have hl : lv_has ls 3 [(0, .ref x0), (1, .ref (g.2.2 (3 + x1)))] := hl
  unfold wp_X7_isWord at hk
  generalize s.heap = H at Z ⊢
  generalize ([] : List Loc) = locs at Z ⊢
  refine lv_aload_n hx hb dX7_isWord_0 rfl (lv_at hl 0 rfl) ?_
  obtain ⟨v1, hv, hk⟩ := hk
  refine r_get (ci := 7) (k := 1) (T := TX7) (N := 5) C Z hv ku_7 rfl (by decide) tw_290 dX7_isWord_1 ?_
  refine lv_iconst (v := (nI 1)) hx hb dX7_isWord_4 (by decide) ?_
  refine lv_icmp_ne (tgt := 24) hx hb dX7_isWord_5 (by decide) (fun q => ?_) (fun q => ?_)
  · have hk := hk.1 q
    refine lv_iconst (v := (nI 0)) hx hb dX7_isWord_24 (by decide) ?_
    exact r_zret C Z hr (Or.inl rfl) hk dX7_isWord_25
  · have hk := hk.2 q
    refine lv_aload_n hx hb dX7_isWord_8 rfl (lv_at hl 0 rfl) ?_
    obtain ⟨v9, hv, hk⟩ := hk
    refine r_get (ci := 7) (k := 3) (T := TX7) (N := 5) C Z hv ku_7 rfl (by decide) tw_293 dX7_isWord_9 ?_
    refine lv_aload_n hx hb dX7_isWord_12 rfl (lv_at hl 0 rfl) ?_
    obtain ⟨v13, hv, hk⟩ := hk
    refine r_get (ci := 7) (k := 2) (T := TX7) (N := 5) C Z hv ku_7 rfl (by decide) tw_292 dX7_isWord_13 ?_
    refine lv_isub hx hb dX7_isWord_16 ?_
    refine lv_aload_n hx hb dX7_isWord_17 rfl (lv_at hl 1 rfl) ?_
    obtain ⟨hi, hk⟩ := hk
    refine r_slen C Z hi hl.1 ⟨Nat.le_of_ble_eq_true rfl, Nat.le_of_ble_eq_true rfl⟩ ⟨Nat.zero_le _, Nat.zero_le _⟩ (Nat.le_of_ble_eq_true rfl) dX7_isWord_18 (fun H locs Z => ?_)
    refine lv_icmp_eq (tgt := 26) hx hb dX7_isWord_21 (by decide) (fun q => ?_) (fun q => ?_)
    · have hk := hk.1 q
      refine lv_aload_n hx hb dX7_isWord_26 rfl (lv_at hl 0 rfl) ?_
      obtain ⟨v27, hv, hk⟩ := hk
      refine r_get (ci := 7) (k := 2) (T := TX7) (N := 5) C Z hv ku_7 rfl (by decide) tw_292 dX7_isWord_27 ?_
      refine lv_istore_n (lv' := [(2, .int v27), (0, .ref x0), (1, .ref (g.2.2 (3 + x1)))]) hx hb dX7_isWord_30 rfl hl (by decide) rfl (fun ls hl => ?_)
      obtain ⟨n1, hk⟩ := hk
      exact w_X7_isWord_31 C hr x0 x1 n1 v27 h _ _ _ (lv_sub hl [1, 2, 0] rfl) Z hk
    · have hk := hk.2 q
      refine lv_iconst (v := (nI 0)) hx hb dX7_isWord_24 (by decide) ?_
      exact r_zret C Z hr (Or.inl rfl) hk dX7_isWord_25
abbrev rmX7_isNumber : Room := ({ frames := 0, cells := 0, slots := 0, locals := 0 } : Room)
abbrev wzX7_isNumber : List Cond := WS yX7_isNumber cX7_isNumber 1 (some .boolean)
set_option maxRecDepth 100000 in
set_option maxHeartbeats 4000000 in
theorem m_X7_isNumber (l : Launch) (g : Gt) (h : Hp) (x0 : Nat) (Post : Int32 → Hp → Prop) (hk : wp_X7_isNumber x0 Post h) : Met l yX7_isNumber wzX7_isNumber rmX7_isNumber (Pg g h [.ref x0]) (Qi g h Post) 0 0 (dm h) := by
  refine Met_of (cc := cX7_isNumber) (maxL := 1) (ret := (some .boolean)) (by decide) (Nat.le_of_ble_eq_true rfl) (fun p e s m below meth c ls C hr hnm hl Z => ?_)
  have hx := C.1.1
  have hb := C.1.2.1
  have hml := C.1.2.2.1
  have hown := C.1.2.2.2.1
  have hts := C.1.2.2.2.2
  have hl : lv_has ls 1 [(0, .ref x0)] := hl
  unfold wp_X7_isNumber at hk
  generalize s.heap = H at Z ⊢
  generalize ([] : List Loc) = locs at Z ⊢
  refine lv_aload_n hx hb dX7_isNumber_0 rfl (lv_at hl 0 rfl) ?_
  obtain ⟨v1, hv, hk⟩ := hk
  refine r_get (ci := 7) (k := 1) (T := TX7) (N := 5) C Z hv ku_7 rfl (by decide) tw_290 dX7_isNumber_1 ?_
  refine lv_iconst (v := (nI 2)) hx hb dX7_isNumber_4 (by decide) ?_
  refine lv_icmp_ne (tgt := 21) hx hb dX7_isNumber_5 (by decide) (fun q => ?_) (fun q => ?_)
  · have hk := hk.1 q
    refine lv_iconst (v := (nI 0)) hx hb dX7_isNumber_21 (by decide) ?_
    exact r_zret C Z hr (Or.inl rfl) hk dX7_isNumber_22
  · have hk := hk.2 q
    refine lv_aload_n hx hb dX7_isNumber_8 rfl (lv_at hl 0 rfl) ?_
    obtain ⟨v9, hv, hk⟩ := hk
    refine r_get (ci := 7) (k := 3) (T := TX7) (N := 5) C Z hv ku_7 rfl (by decide) tw_293 dX7_isNumber_9 ?_
    refine lv_aload_n hx hb dX7_isNumber_12 rfl (lv_at hl 0 rfl) ?_
    obtain ⟨v13, hv, hk⟩ := hk
    refine r_get (ci := 7) (k := 2) (T := TX7) (N := 5) C Z hv ku_7 rfl (by decide) tw_292 dX7_isNumber_13 ?_
    refine lv_isub hx hb dX7_isNumber_16 ?_
    refine lv_iconst (v := (nI 5)) hx hb dX7_isNumber_17 (by decide) ?_
    refine lv_icmp_le (tgt := 23) hx hb dX7_isNumber_18 (by decide) (fun q => ?_) (fun q => ?_)
    · have hk := hk.1 q
      refine lv_aload_n hx hb dX7_isNumber_23 rfl (lv_at hl 0 rfl) ?_
      obtain ⟨v24, hv, hk⟩ := hk
      refine r_get (ci := 7) (k := 3) (T := TX7) (N := 5) C Z hv ku_7 rfl (by decide) tw_293 dX7_isNumber_24 ?_
      refine lv_aload_n hx hb dX7_isNumber_27 rfl (lv_at hl 0 rfl) ?_
      obtain ⟨v28, hv, hk⟩ := hk
      refine r_get (ci := 7) (k := 2) (T := TX7) (N := 5) C Z hv ku_7 rfl (by decide) tw_292 dX7_isNumber_28 ?_
      refine lv_isub hx hb dX7_isNumber_31 ?_
      refine lv_iconst (v := (nI 1)) hx hb dX7_isNumber_32 (by decide) ?_
      refine lv_icmp_eq (tgt := 50) hx hb dX7_isNumber_33 (by decide) (fun q => ?_) (fun q => ?_)
      · have hk := hk.1 q
        refine lv_iconst (v := (nI 1)) hx hb dX7_isNumber_50 (by decide) ?_
        refine lv_goto (tgt := 55) hx hb dX7_isNumber_51 (by decide) ?_
        exact r_zret C Z hr (Or.inr rfl) hk dX7_isNumber_55
      · have hk := hk.2 q
        refine lv_aload_n hx hb dX7_isNumber_36 rfl (lv_at hl 0 rfl) ?_
        obtain ⟨v37, hv, hk⟩ := hk
        refine r_get (ci := 7) (k := 4) (T := TX7) (N := 5) C Z hv ku_7 rfl (by decide) tw_294 dX7_isNumber_37 ?_
        refine lv_aload_n hx hb dX7_isNumber_40 rfl (lv_at hl 0 rfl) ?_
        obtain ⟨v41, hv, hk⟩ := hk
        refine r_get (ci := 7) (k := 2) (T := TX7) (N := 5) C Z hv ku_7 rfl (by decide) tw_292 dX7_isNumber_41 ?_
        obtain ⟨v44, hv, hk⟩ := hk
        refine r_iald C Z hv dX7_isNumber_44 ?_
        refine lv_bipush (v := (nI 48)) hx hb dX7_isNumber_45 (by decide) ?_
        refine lv_icmp_eq (tgt := 54) hx hb dX7_isNumber_47 (by decide) (fun q => ?_) (fun q => ?_)
        · have hk := hk.1 q
          refine lv_iconst (v := (nI 0)) hx hb dX7_isNumber_54 (by decide) ?_
          exact r_zret C Z hr (Or.inl rfl) hk dX7_isNumber_55
        · have hk := hk.2 q
          refine lv_iconst (v := (nI 1)) hx hb dX7_isNumber_50 (by decide) ?_
          refine lv_goto (tgt := 55) hx hb dX7_isNumber_51 (by decide) ?_
          exact r_zret C Z hr (Or.inr rfl) hk dX7_isNumber_55
    · have hk := hk.2 q
      refine lv_iconst (v := (nI 0)) hx hb dX7_isNumber_21 (by decide) ?_
      exact r_zret C Z hr (Or.inl rfl) hk dX7_isNumber_22
abbrev rmX7_value : Room := ({ frames := 0, cells := 0, slots := 0, locals := 0 } : Room)
abbrev wzX7_value : List Cond := WS yX7_value cX7_value 4 (some .long)
set_option maxRecDepth 100000 in
set_option maxHeartbeats 4000000 in
theorem w_X7_value_7 {p : Program} {l : Launch} {e : Env} {s : State} {m : MethodId} {args : Array Value} {below : List Frame} {meth : Method} {c : Code} {g : Gt} {h0 : Hp} (C : Cx g (dm h0) RX7 cX7_value 4 p s m args meth c) (hr : meth.sig.returnType = (some .long)) {Post : Int64 → Hp → Prop} (x0 : Nat)   : ∀ (n : Nat) (x1 : Int64) (x3 : Int32) (h : Hp) (H : Heap) (locs : List Loc) (ls : Array Slot), lv_has ls 4 [(0, .ref x0), (1, .long x1), (3, .int x3)] → St g (dm h0) s h H locs → wp_X7_value_7 Post x0 n x1 x3 h → W p l e rmX7_value s m args below meth c H locs 0 0 (MQ below (Ql g h0 Post) args s 0 0 (dm h0)) (F0 m 7 ls []) := by
  have hx := C.1.1
  have hb := C.1.2.1
  have hml := C.1.2.2.1
  have hown := C.1.2.2.2.1
  have hts := C.1.2.2.2.2
  intro n
  induction n with
  | zero => intro x1 x3 h H locs ls hl Z hk; exact (show False from hk).elim
  | succ n ih =>
    intro x1 x3 h H locs ls hl Z hk
    unfold wp_X7_value_7 at hk
    refine lv_iload_n hx hb dX7_value_7 rfl (lv_at hl 2 rfl) ?_
    refine lv_aload_n hx hb dX7_value_8 rfl (lv_at hl 0 rfl) ?_
    obtain ⟨v9, hv, hk⟩ := hk
    refine r_get (ci := 7) (k := 3) (T := TX7) (N := 5) C Z hv ku_7 rfl (by decide) tw_293 dX7_value_9 ?_
    refine lv_icmp_ge (tgt := 39) hx hb dX7_value_12 (by decide) (fun q => ?_) (fun q => ?_)
    · have hk := hk.1 q
      refine lv_lload_n hx hb dX7_value_39 rfl (lv_at hl 1 rfl) ?_
      exact r_lret C Z hr hk dX7_value_40
    · have hk := hk.2 q
      refine lv_ldc2 (v := (lN 10)) hx hb hown (hts _ tw_686) dX7_value_15 ?_
      refine lv_lload_n hx hb dX7_value_18 rfl (lv_at hl 1 rfl) ?_
      refine lv_lmul hx hb dX7_value_19 ?_
      refine lv_aload_n hx hb dX7_value_20 rfl (lv_at hl 0 rfl) ?_
      obtain ⟨v21, hv, hk⟩ := hk
      refine r_get (ci := 7) (k := 4) (T := TX7) (N := 5) C Z hv ku_7 rfl (by decide) tw_294 dX7_value_21 ?_
      refine lv_iload_n hx hb dX7_value_24 rfl (lv_at hl 2 rfl) ?_
      obtain ⟨v25, hv, hk⟩ := hk
      refine r_iald C Z hv dX7_value_25 ?_
      refine lv_i2l (v := (Int32.toInt64 v25)) hx hb dX7_value_26 rfl ?_
      refine lv_ladd hx hb dX7_value_27 ?_
      refine lv_ldc2 (v := (lN 48)) hx hb hown (hts _ tw_687) dX7_value_28 ?_
      refine lv_lsub hx hb dX7_value_31 ?_
      refine lv_topl (fun y32 ey32 => ?_)
      have hk := hk y32 ey32
      refine lv_lstore_n (lv' := [(1, .long y32), (0, .ref x0), (3, .int x3)]) hx hb dX7_value_32 rfl hl (by decide) rfl (fun ls hl => ?_)
      obtain ⟨y33, ey33⟩ : ∃ y : Int32, y = x3 + (nI 1) := ⟨_, rfl⟩
      have hk := hk y33 ey33
      refine lv_iinc (v := y33) (lv' := [(3, .int y33), (1, .long y32), (0, .ref x0)]) hx hb dX7_value_33 hl (k := 2) rfl (by rw [ey33]; rfl) (by decide) rfl (fun ls hl => ?_)
      refine lv_goto (tgt := 7) hx hb dX7_value_36 (by decide) ?_
      exact ih y32 y33 h _ _ _ (lv_sub hl [2, 1, 0] rfl) Z hk
set_option maxRecDepth 100000 in
set_option maxHeartbeats 4000000 in
theorem m_X7_value (l : Launch) (g : Gt) (h : Hp) (x0 : Nat) (Post : Int64 → Hp → Prop) (hk : wp_X7_value x0 Post h) : Met l yX7_value wzX7_value rmX7_value (Pg g h [.ref x0]) (Ql g h Post) 0 0 (dm h) := by
  refine Met_of (cc := cX7_value) (maxL := 4) (ret := (some .long)) (by decide) (Nat.le_of_ble_eq_true rfl) (fun p e s m below meth c ls C hr hnm hl Z => ?_)
  have hx := C.1.1
  have hb := C.1.2.1
  have hml := C.1.2.2.1
  have hown := C.1.2.2.2.1
  have hts := C.1.2.2.2.2
  have hl : lv_has ls 4 [(0, .ref x0)] := hl
  unfold wp_X7_value at hk
  generalize s.heap = H at Z ⊢
  generalize ([] : List Loc) = locs at Z ⊢
  refine lv_lconst (v := lN 0) hx hb dX7_value_0 (by decide) ?_
  refine lv_lstore_n (lv' := [(1, .long (lN 0)), (0, .ref x0)]) hx hb dX7_value_1 rfl hl (by decide) rfl (fun ls hl => ?_)
  refine lv_aload_n hx hb dX7_value_2 rfl (lv_at hl 1 rfl) ?_
  obtain ⟨v3, hv, hk⟩ := hk
  refine r_get (ci := 7) (k := 2) (T := TX7) (N := 5) C Z hv ku_7 rfl (by decide) tw_292 dX7_value_3 ?_
  refine lv_istore_n (lv' := [(3, .int v3), (1, .long (lN 0)), (0, .ref x0)]) hx hb dX7_value_6 rfl hl (by decide) rfl (fun ls hl => ?_)
  obtain ⟨n1, hk⟩ := hk
  exact w_X7_value_7 C hr x0 n1 (lN 0) v3 h _ _ _ (lv_sub hl [2, 1, 0] rfl) Z hk
abbrev rmX7_isWholeRow : Room := ({ frames := 0, cells := 0, slots := 0, locals := 0 } : Room)
abbrev wzX7_isWholeRow : List Cond := WS yX7_isWholeRow cX7_isWholeRow 1 (some .boolean)
set_option maxRecDepth 100000 in
set_option maxHeartbeats 4000000 in
theorem m_X7_isWholeRow (l : Launch) (g : Gt) (h : Hp) (x0 : Nat) (Post : Int32 → Hp → Prop) (hk : wp_X7_isWholeRow x0 Post h) : Met l yX7_isWholeRow wzX7_isWholeRow rmX7_isWholeRow (Pg g h [.ref x0]) (Qi g h Post) 0 0 (dm h) := by
  refine Met_of (cc := cX7_isWholeRow) (maxL := 1) (ret := (some .boolean)) (by decide) (Nat.le_of_ble_eq_true rfl) (fun p e s m below meth c ls C hr hnm hl Z => ?_)
  have hx := C.1.1
  have hb := C.1.2.1
  have hml := C.1.2.2.1
  have hown := C.1.2.2.2.1
  have hts := C.1.2.2.2.2
  have hl : lv_has ls 1 [(0, .ref x0)] := hl
  unfold wp_X7_isWholeRow at hk
  generalize s.heap = H at Z ⊢
  generalize ([] : List Loc) = locs at Z ⊢
  refine lv_aload_n hx hb dX7_isWholeRow_0 rfl (lv_at hl 0 rfl) ?_
  obtain ⟨v1, hv, hk⟩ := hk
  refine r_get (ci := 7) (k := 1) (T := TX7) (N := 5) C Z hv ku_7 rfl (by decide) tw_290 dX7_isWholeRow_1 ?_
  refine lv_iconst (v := (nI 2)) hx hb dX7_isWholeRow_4 (by decide) ?_
  refine lv_icmp_ne (tgt := 26) hx hb dX7_isWholeRow_5 (by decide) (fun q => ?_) (fun q => ?_)
  · have hk := hk.1 q
    refine lv_iconst (v := (nI 0)) hx hb dX7_isWholeRow_26 (by decide) ?_
    exact r_zret C Z hr (Or.inl rfl) hk dX7_isWholeRow_27
  · have hk := hk.2 q
    refine lv_aload_n hx hb dX7_isWholeRow_8 rfl (lv_at hl 0 rfl) ?_
    obtain ⟨v9, hv, hk⟩ := hk
    refine r_get (ci := 7) (k := 3) (T := TX7) (N := 5) C Z hv ku_7 rfl (by decide) tw_293 dX7_isWholeRow_9 ?_
    refine lv_aload_n hx hb dX7_isWholeRow_12 rfl (lv_at hl 0 rfl) ?_
    obtain ⟨v13, hv, hk⟩ := hk
    refine r_get (ci := 7) (k := 2) (T := TX7) (N := 5) C Z hv ku_7 rfl (by decide) tw_292 dX7_isWholeRow_13 ?_
    refine lv_isub hx hb dX7_isWholeRow_16 ?_
    refine lv_bipush (v := (nI 12)) hx hb dX7_isWholeRow_17 (by decide) ?_
    refine lv_icmp_ne (tgt := 26) hx hb dX7_isWholeRow_19 (by decide) (fun q => ?_) (fun q => ?_)
    · have hk := hk.1 q
      refine lv_iconst (v := (nI 0)) hx hb dX7_isWholeRow_26 (by decide) ?_
      exact r_zret C Z hr (Or.inl rfl) hk dX7_isWholeRow_27
    · have hk := hk.2 q
      refine lv_iconst (v := (nI 1)) hx hb dX7_isWholeRow_22 (by decide) ?_
      refine lv_goto (tgt := 27) hx hb dX7_isWholeRow_23 (by decide) ?_
      exact r_zret C Z hr (Or.inr rfl) hk dX7_isWholeRow_27
abbrev rmX7_isSemicolon : Room := ({ frames := 0, cells := 0, slots := 0, locals := 0 } : Room)
abbrev wzX7_isSemicolon : List Cond := WS yX7_isSemicolon cX7_isSemicolon 1 (some .boolean)
set_option maxRecDepth 100000 in
set_option maxHeartbeats 4000000 in
theorem m_X7_isSemicolon (l : Launch) (g : Gt) (h : Hp) (x0 : Nat) (Post : Int32 → Hp → Prop) (hk : wp_X7_isSemicolon x0 Post h) : Met l yX7_isSemicolon wzX7_isSemicolon rmX7_isSemicolon (Pg g h [.ref x0]) (Qi g h Post) 0 0 (dm h) := by
  refine Met_of (cc := cX7_isSemicolon) (maxL := 1) (ret := (some .boolean)) (by decide) (Nat.le_of_ble_eq_true rfl) (fun p e s m below meth c ls C hr hnm hl Z => ?_)
  have hx := C.1.1
  have hb := C.1.2.1
  have hml := C.1.2.2.1
  have hown := C.1.2.2.2.1
  have hts := C.1.2.2.2.2
  have hl : lv_has ls 1 [(0, .ref x0)] := hl
  unfold wp_X7_isSemicolon at hk
  generalize s.heap = H at Z ⊢
  generalize ([] : List Loc) = locs at Z ⊢
  refine lv_aload_n hx hb dX7_isSemicolon_0 rfl (lv_at hl 0 rfl) ?_
  obtain ⟨v1, hv, hk⟩ := hk
  refine r_get (ci := 7) (k := 1) (T := TX7) (N := 5) C Z hv ku_7 rfl (by decide) tw_290 dX7_isSemicolon_1 ?_
  refine lv_iconst (v := (nI 3)) hx hb dX7_isSemicolon_4 (by decide) ?_
  refine lv_icmp_ne (tgt := 26) hx hb dX7_isSemicolon_5 (by decide) (fun q => ?_) (fun q => ?_)
  · have hk := hk.1 q
    refine lv_iconst (v := (nI 0)) hx hb dX7_isSemicolon_26 (by decide) ?_
    exact r_zret C Z hr (Or.inl rfl) hk dX7_isSemicolon_27
  · have hk := hk.2 q
    refine lv_aload_n hx hb dX7_isSemicolon_8 rfl (lv_at hl 0 rfl) ?_
    obtain ⟨v9, hv, hk⟩ := hk
    refine r_get (ci := 7) (k := 4) (T := TX7) (N := 5) C Z hv ku_7 rfl (by decide) tw_294 dX7_isSemicolon_9 ?_
    refine lv_aload_n hx hb dX7_isSemicolon_12 rfl (lv_at hl 0 rfl) ?_
    obtain ⟨v13, hv, hk⟩ := hk
    refine r_get (ci := 7) (k := 2) (T := TX7) (N := 5) C Z hv ku_7 rfl (by decide) tw_292 dX7_isSemicolon_13 ?_
    obtain ⟨v16, hv, hk⟩ := hk
    refine r_iald C Z hv dX7_isSemicolon_16 ?_
    refine lv_bipush (v := (nI 59)) hx hb dX7_isSemicolon_17 (by decide) ?_
    refine lv_icmp_ne (tgt := 26) hx hb dX7_isSemicolon_19 (by decide) (fun q => ?_) (fun q => ?_)
    · have hk := hk.1 q
      refine lv_iconst (v := (nI 0)) hx hb dX7_isSemicolon_26 (by decide) ?_
      exact r_zret C Z hr (Or.inl rfl) hk dX7_isSemicolon_27
    · have hk := hk.2 q
      refine lv_iconst (v := (nI 1)) hx hb dX7_isSemicolon_22 (by decide) ?_
      refine lv_goto (tgt := 27) hx hb dX7_isSemicolon_23 (by decide) ?_
      exact r_zret C Z hr (Or.inr rfl) hk dX7_isSemicolon_27
