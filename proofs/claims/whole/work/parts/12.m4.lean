abbrev rmX4_previousOf : Room := ({ frames := 0, cells := 0, slots := 0, locals := 0 } : Room)
abbrev wzX4_previousOf : List Cond := WS yX4_previousOf cX4_previousOf 3 (some .int)
set_option maxRecDepth 100000 in
set_option maxHeartbeats 4000000 in
theorem w_X4_previousOf_4 {p : Program} {l : Launch} {e : Env} {s : State} {m : MethodId} {args : Array Value} {below : List Frame} {meth : Method} {c : Code} {g : Gt} {h0 : Hp} (C : Cx g (dm h0) RX4 cX4_previousOf 3 p s m args meth c) (hr : meth.sig.returnType = (some .int)) {Post : Int32 → Hp → Prop} (x0 : Nat) (x1 : Int32)   : ∀ (n : Nat) (x2 : Int32) (h : Hp) (H : Heap) (locs : List Loc) (ls : Array Slot), lv_has ls 3 [(0, .ref x0), (1, .int x1), (2, .int x2)] → St g (dm h0) s h H locs → wp_X4_previousOf_4 Post x0 x1 n x2 h → W p l e rmX4_previousOf s m args below meth c H locs 0 0 (MQ below (Qi g h0 Post) args s 0 0 (dm h0)) (F0 m 4 ls []) := by
  have hx := C.1.1
  have hb := C.1.2.1
  have hml := C.1.2.2.1
  have hown := C.1.2.2.2.1
  have hts := C.1.2.2.2.2
  intro n
  induction n with
  | zero => intro x2 h H locs ls hl Z hk; exact (show False from hk).elim
  | succ n ih =>
    intro x2 h H locs ls hl Z hk
    unfold wp_X4_previousOf_4 at hk
    refine lv_iload_n hx hb dX4_previousOf_4 rfl (lv_at hl 2 rfl) ?_
    refine lv_if_lt (tgt := 62) hx hb dX4_previousOf_5 (by decide) (fun q => ?_) (fun q => ?_)
    · have hk := hk.1 q
      refine lv_iconst (v := (-1 : Int32)) hx hb dX4_previousOf_62 (by decide) ?_
      exact r_iret C Z hr hk dX4_previousOf_63
    · have hk := hk.2 q
      refine lv_aload_n hx hb dX4_previousOf_8 rfl (lv_at hl 0 rfl) ?_
      obtain ⟨v9, hv, hk⟩ := hk
      refine r_get (ci := 4) (k := 0) (T := TX4) (N := 15) C Z hv ku_4 rfl (by decide) tw_160 dX4_previousOf_9 ?_
      obtain ⟨v12, hv, hk⟩ := hk
      refine r_get (ci := 0) (k := 2) (T := TX0) (N := 11) C Z hv ku_0 rfl (by decide) tw_108 dX4_previousOf_12 ?_
      refine lv_iload_n hx hb dX4_previousOf_15 rfl (lv_at hl 2 rfl) ?_
      obtain ⟨v16, hv, hk⟩ := hk
      refine r_iald C Z hv dX4_previousOf_16 ?_
      refine lv_aload_n hx hb dX4_previousOf_17 rfl (lv_at hl 0 rfl) ?_
      obtain ⟨v18, hv, hk⟩ := hk
      refine r_get (ci := 4) (k := 0) (T := TX4) (N := 15) C Z hv ku_4 rfl (by decide) tw_160 dX4_previousOf_18 ?_
      obtain ⟨v21, hv, hk⟩ := hk
      refine r_get (ci := 0) (k := 2) (T := TX0) (N := 11) C Z hv ku_0 rfl (by decide) tw_108 dX4_previousOf_21 ?_
      refine lv_iload_n hx hb dX4_previousOf_24 rfl (lv_at hl 1 rfl) ?_
      obtain ⟨v25, hv, hk⟩ := hk
      refine r_iald C Z hv dX4_previousOf_25 ?_
      refine lv_icmp_ne (tgt := 56) hx hb dX4_previousOf_26 (by decide) (fun q => ?_) (fun q => ?_)
      · have hk := hk.1 q
        obtain ⟨y56, ey56⟩ : ∃ y : Int32, y = x2 + (-1 : Int32) := ⟨_, rfl⟩
        have hk := hk y56 ey56
        refine lv_iinc (v := y56) (lv' := [(2, .int y56), (0, .ref x0), (1, .int x1)]) hx hb dX4_previousOf_56 hl (k := 2) rfl (by rw [ey56]; rfl) (by decide) rfl (fun ls hl => ?_)
        refine lv_goto (tgt := 4) hx hb dX4_previousOf_59 (by decide) ?_
        exact ih y56 h _ _ _ (lv_sub hl [1, 2, 0] rfl) Z hk
      · have hk := hk.2 q
        refine lv_aload_n hx hb dX4_previousOf_29 rfl (lv_at hl 0 rfl) ?_
        obtain ⟨v30, hv, hk⟩ := hk
        refine r_get (ci := 4) (k := 0) (T := TX4) (N := 15) C Z hv ku_4 rfl (by decide) tw_160 dX4_previousOf_30 ?_
        obtain ⟨v33, hv, hk⟩ := hk
        refine r_get (ci := 0) (k := 3) (T := TX0) (N := 11) C Z hv ku_0 rfl (by decide) tw_112 dX4_previousOf_33 ?_
        refine lv_iload_n hx hb dX4_previousOf_36 rfl (lv_at hl 2 rfl) ?_
        obtain ⟨v37, hv, hk⟩ := hk
        refine r_iald C Z hv dX4_previousOf_37 ?_
        refine lv_aload_n hx hb dX4_previousOf_38 rfl (lv_at hl 0 rfl) ?_
        obtain ⟨v39, hv, hk⟩ := hk
        refine r_get (ci := 4) (k := 0) (T := TX4) (N := 15) C Z hv ku_4 rfl (by decide) tw_160 dX4_previousOf_39 ?_
        obtain ⟨v42, hv, hk⟩ := hk
        refine r_get (ci := 0) (k := 3) (T := TX0) (N := 11) C Z hv ku_0 rfl (by decide) tw_112 dX4_previousOf_42 ?_
        refine lv_iload_n hx hb dX4_previousOf_45 rfl (lv_at hl 1 rfl) ?_
        obtain ⟨v46, hv, hk⟩ := hk
        refine r_iald C Z hv dX4_previousOf_46 ?_
        refine lv_icmp_ne (tgt := 54) hx hb dX4_previousOf_47 (by decide) (fun q => ?_) (fun q => ?_)
        · have hk := hk.1 q
          refine lv_iconst (v := (-1 : Int32)) hx hb dX4_previousOf_54 (by decide) ?_
          exact r_iret C Z hr hk dX4_previousOf_55
        · have hk := hk.2 q
          refine lv_iload_n hx hb dX4_previousOf_50 rfl (lv_at hl 2 rfl) ?_
          refine lv_goto (tgt := 55) hx hb dX4_previousOf_51 (by decide) ?_
          exact r_iret C Z hr hk dX4_previousOf_55
set_option maxRecDepth 100000 in
set_option maxHeartbeats 4000000 in
theorem m_X4_previousOf (l : Launch) (g : Gt) (h : Hp) (x0 : Nat) (x1 : Int32) (Post : Int32 → Hp → Prop) (hk : wp_X4_previousOf x0 x1 Post h) : Met l yX4_previousOf wzX4_previousOf rmX4_previousOf (Pg g h [.ref x0, .int x1]) (Qi g h Post) 0 0 (dm h) := by
  refine Met_of (cc := cX4_previousOf) (maxL := 3) (ret := (some .int)) (by decide) (Nat.le_of_ble_eq_true rfl) (fun p e s m below meth c ls C hr hnm hl Z => ?_)
  have hx := C.1.1
  have hb := C.1.2.1
  have hml := C.1.2.2.1
  have hown := C.1.2.2.2.1
  have hts := C.1.2.2.2.2
  have hl : lv_has ls 3 [(0, .ref x0), (1, .int x1)] := hl
  unfold wp_X4_previousOf at hk
  generalize s.heap = H at Z ⊢
  generalize ([] : List Loc) = locs at Z ⊢
  refine lv_iload_n hx hb dX4_previousOf_0 rfl (lv_at hl 1 rfl) ?_
  refine lv_iconst (v := (nI 1)) hx hb dX4_previousOf_1 (by decide) ?_
  refine lv_isub hx hb dX4_previousOf_2 ?_
  refine lv_topi (fun y3 ey3 => ?_)
  have hk := hk y3 ey3
  refine lv_istore_n (lv' := [(2, .int y3), (0, .ref x0), (1, .int x1)]) hx hb dX4_previousOf_3 rfl hl (by decide) rfl (fun ls hl => ?_)
  obtain ⟨n1, hk⟩ := hk
  exact w_X4_previousOf_4 C hr x0 x1 n1 y3 h _ _ _ (lv_sub hl [1, 2, 0] rfl) Z hk
abbrev rmX4_readDigits : Room := ({ frames := 0, cells := 0, slots := 0, locals := 0 } : Room)
abbrev wzX4_readDigits : List Cond := WS yX4_readDigits cX4_readDigits 4 none
set_option maxRecDepth 100000 in
set_option maxHeartbeats 4000000 in
theorem w_X4_readDigits_2 {p : Program} {l : Launch} {e : Env} {s : State} {m : MethodId} {args : Array Value} {below : List Frame} {meth : Method} {c : Code} {g : Gt} {h0 : Hp} (C : Cx g (dm h0) RX4 cX4_readDigits 4 p s m args meth c) (hr : meth.sig.returnType = none) {Post : Hp → Prop} (x0 : Nat) (x1 : Int32)   : ∀ (n : Nat) (x2 : Int32) (h : Hp) (H : Heap) (locs : List Loc) (ls : Array Slot), lv_has ls 4 [(0, .ref x0), (1, .int x1), (2, .int x2)] → St g (dm h0) s h H locs → wp_X4_readDigits_2 Post x0 x1 n x2 h → W p l e rmX4_readDigits s m args below meth c H locs 0 0 (MQ below (Qv g h0 Post) args s 0 0 (dm h0)) (F0 m 2 ls []) := by
  have hx := C.1.1
  have hb := C.1.2.1
  have hml := C.1.2.2.1
  have hown := C.1.2.2.2.1
  have hts := C.1.2.2.2.2
  intro n
  induction n with
  | zero => intro x2 h H locs ls hl Z hk; exact (show False from hk).elim
  | succ n ih =>
    intro x2 h H locs ls hl Z hk
    unfold wp_X4_readDigits_2 at hk
    refine lv_iload_n hx hb dX4_readDigits_2 rfl (lv_at hl 2 rfl) ?_
    refine lv_bipush (v := (nI 12)) hx hb dX4_readDigits_3 (by decide) ?_
    refine lv_icmp_ge (tgt := 73) hx hb dX4_readDigits_5 (by decide) (fun q => ?_) (fun q => ?_)
    · have hk := hk.1 q
      exact r_vret C Z hr hk dX4_readDigits_73
    · have hk := hk.2 q
      refine lv_iload_n hx hb dX4_readDigits_8 rfl (lv_at hl 1 rfl) ?_
      refine lv_bipush (v := (nI 12)) hx hb dX4_readDigits_9 (by decide) ?_
      refine lv_imul hx hb dX4_readDigits_11 ?_
      refine lv_iload_n hx hb dX4_readDigits_12 rfl (lv_at hl 2 rfl) ?_
      refine lv_iadd hx hb dX4_readDigits_13 ?_
      refine lv_topi (fun y14 ey14 => ?_)
      have hk := hk y14 ey14
      refine lv_istore_n (lv' := [(3, .int y14), (0, .ref x0), (1, .int x1), (2, .int x2)]) hx hb dX4_readDigits_14 rfl hl (by decide) rfl (fun ls hl => ?_)
      refine lv_aload_n hx hb dX4_readDigits_15 rfl (lv_at hl 1 rfl) ?_
      obtain ⟨v16, hv, hk⟩ := hk
      refine r_get (ci := 4) (k := 2) (T := TX4) (N := 15) C Z hv ku_4 rfl (by decide) tw_164 dX4_readDigits_16 ?_
      refine lv_iload_n hx hb dX4_readDigits_19 rfl (lv_at hl 0 rfl) ?_
      refine lv_aload_n hx hb dX4_readDigits_20 rfl (lv_at hl 1 rfl) ?_
      obtain ⟨v21, hv, hk⟩ := hk
      refine r_get (ci := 4) (k := 0) (T := TX4) (N := 15) C Z hv ku_4 rfl (by decide) tw_160 dX4_readDigits_21 ?_
      obtain ⟨v24, hv, hk⟩ := hk
      refine r_get (ci := 0) (k := 5) (T := TX0) (N := 11) C Z hv ku_0 rfl (by decide) tw_121 dX4_readDigits_24 ?_
      refine lv_iload_n hx hb dX4_readDigits_27 rfl (lv_at hl 2 rfl) ?_
      obtain ⟨v28, hv, hk⟩ := hk
      refine r_lald C Z hv dX4_readDigits_28 ?_
      refine va_getsN (host := "SmudgeTally") hx hb C.2.2.2.2.2.1.1 Z.1 hown (va_Nw.use rfl (C.2.2.1.2.2.1 ("SmudgeTally$Sight", 99, "SmudgeTally", "WORTH", "[J") (by decide +kernel))) (fun x hx => hx) dX4_readDigits_29 ?_
      refine lv_iload_n hx hb dX4_readDigits_32 rfl (lv_at hl 3 rfl) ?_
      obtain ⟨v33, hv, hk⟩ := hk
      refine r_stl C Z hv dX4_readDigits_33 ?_
      obtain ⟨hz, hk⟩ := hk
      refine lv_ldiv hx hb dX4_readDigits_34 hz ?_
      refine lv_ldc2 (v := (lN 10)) hx hb hown (hts _ tw_441) dX4_readDigits_35 ?_
      refine lv_lrem hx hb dX4_readDigits_38 (by decide) ?_
      refine lv_l2i (v := (Int64.toInt32 ((v28 / v33) - (v28 / v33) / (lN 10) * (lN 10)))) hx hb dX4_readDigits_39 rfl ?_
      obtain ⟨h40, hv, hk⟩ := hk
      refine r_iast C Z hv dX4_readDigits_40 (fun H locs Z => ?_)
      refine lv_aload_n hx hb dX4_readDigits_41 rfl (lv_at hl 1 rfl) ?_
      obtain ⟨v42, hv, hk⟩ := hk
      refine r_get (ci := 4) (k := 3) (T := TX4) (N := 15) C Z hv ku_4 rfl (by decide) tw_166 dX4_readDigits_42 ?_
      refine lv_iload_n hx hb dX4_readDigits_45 rfl (lv_at hl 0 rfl) ?_
      refine lv_aload_n hx hb dX4_readDigits_46 rfl (lv_at hl 1 rfl) ?_
      obtain ⟨v47, hv, hk⟩ := hk
      refine r_get (ci := 4) (k := 0) (T := TX4) (N := 15) C Z hv ku_4 rfl (by decide) tw_160 dX4_readDigits_47 ?_
      obtain ⟨v50, hv, hk⟩ := hk
      refine r_get (ci := 0) (k := 6) (T := TX0) (N := 11) C Z hv ku_0 rfl (by decide) tw_124 dX4_readDigits_50 ?_
      refine lv_iload_n hx hb dX4_readDigits_53 rfl (lv_at hl 2 rfl) ?_
      obtain ⟨v54, hv, hk⟩ := hk
      refine r_lald C Z hv dX4_readDigits_54 ?_
      refine va_getsN (host := "SmudgeTally") hx hb C.2.2.2.2.2.1.1 Z.1 hown (va_Nw.use rfl (C.2.2.1.2.2.1 ("SmudgeTally$Sight", 99, "SmudgeTally", "WORTH", "[J") (by decide +kernel))) (fun x hx => hx) dX4_readDigits_55 ?_
      refine lv_iload_n hx hb dX4_readDigits_58 rfl (lv_at hl 3 rfl) ?_
      obtain ⟨v59, hv, hk⟩ := hk
      refine r_stl C Z hv dX4_readDigits_59 ?_
      obtain ⟨hz, hk⟩ := hk
      refine lv_ldiv hx hb dX4_readDigits_60 hz ?_
      refine lv_ldc2 (v := (lN 10)) hx hb hown (hts _ tw_441) dX4_readDigits_61 ?_
      refine lv_lrem hx hb dX4_readDigits_64 (by decide) ?_
      refine lv_l2i (v := (Int64.toInt32 ((v54 / v59) - (v54 / v59) / (lN 10) * (lN 10)))) hx hb dX4_readDigits_65 rfl ?_
      obtain ⟨h66, hv, hk⟩ := hk
      refine r_iast C Z hv dX4_readDigits_66 (fun H locs Z => ?_)
      obtain ⟨y67, ey67⟩ : ∃ y : Int32, y = x2 + (nI 1) := ⟨_, rfl⟩
      have hk := hk y67 ey67
      refine lv_iinc (v := y67) (lv' := [(2, .int y67), (3, .int y14), (0, .ref x0), (1, .int x1)]) hx hb dX4_readDigits_67 hl (k := 3) rfl (by rw [ey67]; rfl) (by decide) rfl (fun ls hl => ?_)
      refine lv_goto (tgt := 2) hx hb dX4_readDigits_70 (by decide) ?_
      exact ih y67 h66 _ _ _ (lv_sub hl [2, 3, 0] rfl) Z hk
set_option maxRecDepth 100000 in
set_option maxHeartbeats 4000000 in
theorem m_X4_readDigits (l : Launch) (g : Gt) (h : Hp) (x0 : Nat) (x1 : Int32) (Post : Hp → Prop) (hk : wp_X4_readDigits x0 x1 Post h) : Met l yX4_readDigits wzX4_readDigits rmX4_readDigits (Pg g h [.ref x0, .int x1]) (Qv g h Post) 0 0 (dm h) := by
  refine Met_of (cc := cX4_readDigits) (maxL := 4) (ret := none) (by decide) (Nat.le_of_ble_eq_true rfl) (fun p e s m below meth c ls C hr hnm hl Z => ?_)
  have hx := C.1.1
  have hb := C.1.2.1
  have hml := C.1.2.2.1
  have hown := C.1.2.2.2.1
  have hts := C.1.2.2.2.2
  have hl : lv_has ls 4 [(0, .ref x0), (1, .int x1)] := hl
  unfold wp_X4_readDigits at hk
  generalize s.heap = H at Z ⊢
  generalize ([] : List Loc) = locs at Z ⊢
  refine lv_iconst (v := (nI 0)) hx hb dX4_readDigits_0 (by decide) ?_
  refine lv_istore_n (lv' := [(2, .int (nI 0)), (0, .ref x0), (1, .int x1)]) hx hb dX4_readDigits_1 rfl hl (by decide) rfl (fun ls hl => ?_)
  obtain ⟨n1, hk⟩ := hk
  exact w_X4_readDigits_2 C hr x0 x1 n1 (nI 0) h _ _ _ (lv_sub hl [1, 2, 0] rfl) Z hk
abbrev rmX4_ownDirt : Room := ({ frames := 1, cells := 0, slots := 0, locals := 21 } : Room)
abbrev wzX4_ownDirt : List Cond := WS yX4_ownDirt cX4_ownDirt 3 (some .int)
set_option maxRecDepth 100000 in
set_option maxHeartbeats 4000000 in
theorem m_X4_ownDirt (l : Launch) (g : Gt) (h : Hp) (x0 : Nat) (x1 : Int32) (x2 : Int32) (Post : Int32 → Hp → Prop) (hk : wp_X4_ownDirt x0 x1 x2 Post h) : Met l yX4_ownDirt wzX4_ownDirt rmX4_ownDirt (Pg g h [.ref x0, .int x1, .int x2]) (Qi g h Post) 0 0 (dm h) := by
  refine Met_of (cc := cX4_ownDirt) (maxL := 3) (ret := (some .int)) (by decide) (Nat.le_of_ble_eq_true rfl) (fun p e s m below meth c ls C hr hnm hl Z => ?_)
  have hx := C.1.1
  have hb := C.1.2.1
  have hml := C.1.2.2.1
  have hown := C.1.2.2.2.1
  have hts := C.1.2.2.2.2
  have hl : lv_has ls 3 [(0, .ref x0), (1, .int x1), (2, .int x2)] := hl
  unfold wp_X4_ownDirt at hk
  generalize s.heap = H at Z ⊢
  generalize ([] : List Loc) = locs at Z ⊢
  refine lv_aload_n hx hb dX4_ownDirt_0 rfl (lv_at hl 0 rfl) ?_
  obtain ⟨v1, hv, hk⟩ := hk
  refine r_get (ci := 4) (k := 0) (T := TX4) (N := 15) C Z hv ku_4 rfl (by decide) tw_160 dX4_ownDirt_1 ?_
  obtain ⟨v4, hv, hk⟩ := hk
  refine r_get (ci := 0) (k := 4) (T := TX0) (N := 11) C Z hv ku_0 rfl (by decide) tw_117 dX4_ownDirt_4 ?_
  refine lv_iload_n hx hb dX4_ownDirt_7 rfl (lv_at hl 1 rfl) ?_
  obtain ⟨v8, hv, hk⟩ := hk
  refine r_iald C Z hv dX4_ownDirt_8 ?_
  refine lv_iconst (v := (nI 2)) hx hb dX4_ownDirt_9 (by decide) ?_
  refine lv_icmp_eq (tgt := 20) hx hb dX4_ownDirt_10 (by decide) (fun q => ?_) (fun q => ?_)
  · have hk := hk.1 q
    refine lv_iconst (v := (nI 0)) hx hb dX4_ownDirt_20 (by decide) ?_
    refine lv_aload_n hx hb dX4_ownDirt_21 rfl (lv_at hl 0 rfl) ?_
    obtain ⟨v22, hv, hk⟩ := hk
    refine r_get (ci := 4) (k := 2) (T := TX4) (N := 15) C Z hv ku_4 rfl (by decide) tw_164 dX4_ownDirt_22 ?_
    refine lv_iload_n hx hb dX4_ownDirt_25 rfl (lv_at hl 2 rfl) ?_
    obtain ⟨v26, hv, hk⟩ := hk
    refine r_iald C Z hv dX4_ownDirt_26 ?_
    refine lv_aload_n hx hb dX4_ownDirt_27 rfl (lv_at hl 0 rfl) ?_
    obtain ⟨v28, hv, hk⟩ := hk
    refine r_get (ci := 4) (k := 3) (T := TX4) (N := 15) C Z hv ku_4 rfl (by decide) tw_166 dX4_ownDirt_28 ?_
    refine lv_iload_n hx hb dX4_ownDirt_31 rfl (lv_at hl 2 rfl) ?_
    obtain ⟨v32, hv, hk⟩ := hk
    refine r_iald C Z hv dX4_ownDirt_32 ?_
    refine lv_isub hx hb dX4_ownDirt_33 ?_
    refine va_mmax hx hb (hml.trans hl.1.symm) hown (hts _ tw_450) (hts _ tw_451) (hts _ tw_68) (hts _ tw_452) (Nat.le_of_ble_eq_true rfl) (Nat.le_of_ble_eq_true rfl) (Nat.zero_le _) (Nat.zero_le _) dX4_ownDirt_34 ?_
    exact r_iret C Z hr hk dX4_ownDirt_37
  · have hk := hk.2 q
    refine lv_aload_n hx hb dX4_ownDirt_13 rfl (lv_at hl 0 rfl) ?_
    obtain ⟨v14, hv, hk⟩ := hk
    refine r_get (ci := 4) (k := 2) (T := TX4) (N := 15) C Z hv ku_4 rfl (by decide) tw_164 dX4_ownDirt_14 ?_
    refine lv_iload_n hx hb dX4_ownDirt_17 rfl (lv_at hl 2 rfl) ?_
    obtain ⟨v18, hv, hk⟩ := hk
    refine r_iald C Z hv dX4_ownDirt_18 ?_
    exact r_iret C Z hr hk dX4_ownDirt_19
abbrev rmX4_growRuns : Room := ({ frames := 2, cells := 0, slots := 0, locals := 43 } : Room)
abbrev wzX4_growRuns : List Cond := WS yX4_growRuns cX4_growRuns 5 none
set_option maxRecDepth 100000 in
set_option maxHeartbeats 4000000 in
theorem w_X4_growRuns_53 {p : Program} {l : Launch} {e : Env} {s : State} {m : MethodId} {args : Array Value} {below : List Frame} {meth : Method} {c : Code} {g : Gt} {h0 : Hp} (C : Cx g (dm h0) RX4 cX4_growRuns 5 p s m args meth c) (hr : meth.sig.returnType = none) {Post : Hp → Prop} (x0 : Nat) (x1 : Int32) (x2 : Int32) (x3 : Int32) (s0 : Nat) (s1 : Int32) (s2 : Int32) {k2 : Int32 → Hp → Prop} (hk2 : ∀ (x2 : Int32) (h : Hp) (H : Heap) (locs : List Loc) (ls : Array Slot), lv_has ls 5 [(0, .ref x0), (1, .int x1), (2, .int x2)] → St g (dm h0) s h H locs → k2 x2 h → W p l e rmX4_growRuns s m args below meth c H locs 0 0 (MQ below (Qv g h0 Post) args s 0 0 (dm h0)) (F0 m 2 ls [])) : ∀ (h : Hp) (H : Heap) (locs : List Loc) (ls : Array Slot), lv_has ls 5 [(0, .ref x0), (1, .int x1), (2, .int x2), (3, .int x3)] → St g (dm h0) s h H locs → wp_X4_growRuns_53 Post k2 x0 x1 x2 x3 s0 s1 s2 h → W p l e rmX4_growRuns s m args below meth c H locs 0 0 (MQ below (Qv g h0 Post) args s 0 0 (dm h0)) (F0 m 53 ls [.int s2, .int s1, .ref s0]) := by
  have hx := C.1.1
  have hb := C.1.2.1
  have hml := C.1.2.2.1
  have hown := C.1.2.2.2.1
  have hts := C.1.2.2.2.2
  intro h H locs ls hl Z hk
  unfold wp_X4_growRuns_53 at hk
  obtain ⟨h53, hv, hk⟩ := hk
  refine r_iast C Z hv dX4_growRuns_53 (fun H locs Z => ?_)
  refine lv_aload_n hx hb dX4_growRuns_54 rfl (lv_at hl 0 rfl) ?_
  obtain ⟨v55, hv, hk⟩ := hk
  refine r_get (ci := 4) (k := 7) (T := TX4) (N := 15) C Z hv ku_4 rfl (by decide) tw_174 dX4_growRuns_55 ?_
  refine lv_iload_n hx hb dX4_growRuns_58 rfl (lv_at hl 3 rfl) ?_
  refine lv_aload_n hx hb dX4_growRuns_59 rfl (lv_at hl 0 rfl) ?_
  refine lv_iload_n hx hb dX4_growRuns_60 rfl (lv_at hl 2 rfl) ?_
  refine lv_iload_n hx hb dX4_growRuns_61 rfl (lv_at hl 3 rfl) ?_
  obtain ⟨ho, hk⟩ := hk
  refine r_calli Z (r_runV (As := [.int x2, .int x3]) (rest := [.int x3, .ref v55]) C Z (m_X4_ownDirt l g h53 x0 x2 x3 _ hk) ho rfl (cwV 2 C.1.2.2.2.2 (gV tw_446 tw_448 tw_4 tw_59 tw_449) rfl rfl rfl (by decide +kernel) ⟨Nat.le_of_ble_eq_true rfl, Nat.le_of_ble_eq_true rfl⟩) rfl hl.1 rfl (Nat.le_of_ble_eq_true rfl) dX4_growRuns_62 ⟨Nat.zero_le _, Nat.zero_le _⟩) (fun r62 h62 H locs hk Z => ?_)
  obtain ⟨h65, hv, hk⟩ := hk
  refine r_iast C Z hv dX4_growRuns_65 (fun H locs Z => ?_)
  refine lv_aload_n hx hb dX4_growRuns_66 rfl (lv_at hl 0 rfl) ?_
  obtain ⟨v67, hv, hk⟩ := hk
  refine r_get (ci := 4) (k := 1) (T := TX4) (N := 15) C Z hv ku_4 rfl (by decide) tw_163 dX4_growRuns_67 ?_
  refine lv_iload_n hx hb dX4_growRuns_70 rfl (lv_at hl 2 rfl) ?_
  obtain ⟨v71, hv, hk⟩ := hk
  refine r_iald C Z hv dX4_growRuns_71 ?_
  refine lv_bipush (v := (nI 12)) hx hb dX4_growRuns_72 (by decide) ?_
  refine lv_imul hx hb dX4_growRuns_74 ?_
  refine lv_iload_n hx hb dX4_growRuns_75 rfl (lv_at hl 1 rfl) ?_
  refine lv_iadd hx hb dX4_growRuns_76 ?_
  refine lv_topi (fun y77 ey77 => ?_)
  have hk := hk y77 ey77
  refine lv_istore (lv' := [(4, .int y77), (0, .ref x0), (1, .int x1), (2, .int x2), (3, .int x3)]) hx hb dX4_growRuns_77 hl (by decide) rfl (fun ls hl => ?_)
  refine lv_aload_n hx hb dX4_growRuns_79 rfl (lv_at hl 1 rfl) ?_
  obtain ⟨v80, hv, hk⟩ := hk
  refine r_get (ci := 4) (k := 1) (T := TX4) (N := 15) C Z hv ku_4 rfl (by decide) tw_163 dX4_growRuns_80 ?_
  refine lv_iload_n hx hb dX4_growRuns_83 rfl (lv_at hl 3 rfl) ?_
  obtain ⟨v84, hv, hk⟩ := hk
  refine r_iald C Z hv dX4_growRuns_84 ?_
  refine lv_if_lt (tgt := 157) hx hb dX4_growRuns_85 (by decide) (fun q => ?_) (fun q => ?_)
  · have hk := hk.1 q
    obtain ⟨y157, ey157⟩ : ∃ y : Int32, y = x2 + (nI 1) := ⟨_, rfl⟩
    have hk := hk y157 ey157
    refine lv_iinc (v := y157) (lv' := [(2, .int y157), (4, .int y77), (0, .ref x0), (1, .int x1), (3, .int x3)]) hx hb dX4_growRuns_157 hl (k := 3) rfl (by rw [ey157]; rfl) (by decide) rfl (fun ls hl => ?_)
    refine lv_goto (tgt := 2) hx hb dX4_growRuns_160 (by decide) ?_
    exact hk2 y157 h65 _ _ _ (lv_sub hl [2, 3, 0] rfl) Z hk
  · have hk := hk.2 q
    refine lv_aload_n hx hb dX4_growRuns_88 rfl (lv_at hl 1 rfl) ?_
    obtain ⟨v89, hv, hk⟩ := hk
    refine r_get (ci := 4) (k := 2) (T := TX4) (N := 15) C Z hv ku_4 rfl (by decide) tw_164 dX4_growRuns_89 ?_
    refine lv_iload hx hb dX4_growRuns_92 (lv_at hl 0 rfl) ?_
    obtain ⟨v94, hv, hk⟩ := hk
    refine r_iald C Z hv dX4_growRuns_94 ?_
    refine lv_if_le (tgt := 157) hx hb dX4_growRuns_95 (by decide) (fun q => ?_) (fun q => ?_)
    · have hk := hk.1 q
      obtain ⟨y157, ey157⟩ : ∃ y : Int32, y = x2 + (nI 1) := ⟨_, rfl⟩
      have hk := hk y157 ey157
      refine lv_iinc (v := y157) (lv' := [(2, .int y157), (4, .int y77), (0, .ref x0), (1, .int x1), (3, .int x3)]) hx hb dX4_growRuns_157 hl (k := 3) rfl (by rw [ey157]; rfl) (by decide) rfl (fun ls hl => ?_)
      refine lv_goto (tgt := 2) hx hb dX4_growRuns_160 (by decide) ?_
      exact hk2 y157 h65 _ _ _ (lv_sub hl [2, 3, 0] rfl) Z hk
    · have hk := hk.2 q
      refine lv_aload_n hx hb dX4_growRuns_98 rfl (lv_at hl 1 rfl) ?_
      obtain ⟨v99, hv, hk⟩ := hk
      refine r_get (ci := 4) (k := 2) (T := TX4) (N := 15) C Z hv ku_4 rfl (by decide) tw_164 dX4_growRuns_99 ?_
      refine lv_iload_n hx hb dX4_growRuns_102 rfl (lv_at hl 4 rfl) ?_
      obtain ⟨v103, hv, hk⟩ := hk
      refine r_iald C Z hv dX4_growRuns_103 ?_
      refine lv_if_le (tgt := 157) hx hb dX4_growRuns_104 (by decide) (fun q => ?_) (fun q => ?_)
      · have hk := hk.1 q
        obtain ⟨y157, ey157⟩ : ∃ y : Int32, y = x2 + (nI 1) := ⟨_, rfl⟩
        have hk := hk y157 ey157
        refine lv_iinc (v := y157) (lv' := [(2, .int y157), (4, .int y77), (0, .ref x0), (1, .int x1), (3, .int x3)]) hx hb dX4_growRuns_157 hl (k := 3) rfl (by rw [ey157]; rfl) (by decide) rfl (fun ls hl => ?_)
        refine lv_goto (tgt := 2) hx hb dX4_growRuns_160 (by decide) ?_
        exact hk2 y157 h65 _ _ _ (lv_sub hl [2, 3, 0] rfl) Z hk
      · have hk := hk.2 q
        refine lv_aload_n hx hb dX4_growRuns_107 rfl (lv_at hl 1 rfl) ?_
        obtain ⟨v108, hv, hk⟩ := hk
        refine r_get (ci := 4) (k := 4) (T := TX4) (N := 15) C Z hv ku_4 rfl (by decide) tw_168 dX4_growRuns_108 ?_
        refine lv_iload_n hx hb dX4_growRuns_111 rfl (lv_at hl 4 rfl) ?_
        refine lv_aload_n hx hb dX4_growRuns_112 rfl (lv_at hl 1 rfl) ?_
        obtain ⟨v113, hv, hk⟩ := hk
        refine r_get (ci := 4) (k := 4) (T := TX4) (N := 15) C Z hv ku_4 rfl (by decide) tw_168 dX4_growRuns_113 ?_
        refine lv_iload hx hb dX4_growRuns_116 (lv_at hl 0 rfl) ?_
        obtain ⟨v118, hv, hk⟩ := hk
        refine r_iald C Z hv dX4_growRuns_118 ?_
        obtain ⟨h119, hv, hk⟩ := hk
        refine r_iast C Z hv dX4_growRuns_119 (fun H locs Z => ?_)
        refine lv_aload_n hx hb dX4_growRuns_120 rfl (lv_at hl 1 rfl) ?_
        obtain ⟨v121, hv, hk⟩ := hk
        refine r_get (ci := 4) (k := 6) (T := TX4) (N := 15) C Z hv ku_4 rfl (by decide) tw_172 dX4_growRuns_121 ?_
        refine lv_iload_n hx hb dX4_growRuns_124 rfl (lv_at hl 4 rfl) ?_
        refine lv_aload_n hx hb dX4_growRuns_125 rfl (lv_at hl 1 rfl) ?_
        obtain ⟨v126, hv, hk⟩ := hk
        refine r_get (ci := 4) (k := 6) (T := TX4) (N := 15) C Z hv ku_4 rfl (by decide) tw_172 dX4_growRuns_126 ?_
        refine lv_iload hx hb dX4_growRuns_129 (lv_at hl 0 rfl) ?_
        obtain ⟨v131, hv, hk⟩ := hk
        refine r_iald C Z hv dX4_growRuns_131 ?_
        refine lv_iconst (v := (nI 1)) hx hb dX4_growRuns_132 (by decide) ?_
        refine lv_iadd hx hb dX4_growRuns_133 ?_
        obtain ⟨h134, hv, hk⟩ := hk
        refine r_iast C Z hv dX4_growRuns_134 (fun H locs Z => ?_)
        refine lv_aload_n hx hb dX4_growRuns_135 rfl (lv_at hl 1 rfl) ?_
        obtain ⟨v136, hv, hk⟩ := hk
        refine r_get (ci := 4) (k := 7) (T := TX4) (N := 15) C Z hv ku_4 rfl (by decide) tw_174 dX4_growRuns_136 ?_
        refine lv_iload_n hx hb dX4_growRuns_139 rfl (lv_at hl 4 rfl) ?_
        refine lv_aload_n hx hb dX4_growRuns_140 rfl (lv_at hl 1 rfl) ?_
        obtain ⟨v141, hv, hk⟩ := hk
        refine r_get (ci := 4) (k := 7) (T := TX4) (N := 15) C Z hv ku_4 rfl (by decide) tw_174 dX4_growRuns_141 ?_
        refine lv_iload hx hb dX4_growRuns_144 (lv_at hl 0 rfl) ?_
        obtain ⟨v146, hv, hk⟩ := hk
        refine r_iald C Z hv dX4_growRuns_146 ?_
        refine lv_aload_n hx hb dX4_growRuns_147 rfl (lv_at hl 1 rfl) ?_
        obtain ⟨v148, hv, hk⟩ := hk
        refine r_get (ci := 4) (k := 7) (T := TX4) (N := 15) C Z hv ku_4 rfl (by decide) tw_174 dX4_growRuns_148 ?_
        refine lv_iload_n hx hb dX4_growRuns_151 rfl (lv_at hl 4 rfl) ?_
        obtain ⟨v152, hv, hk⟩ := hk
        refine r_iald C Z hv dX4_growRuns_152 ?_
        refine va_mmin hx hb (hml.trans hl.1.symm) hown (hts _ tw_453) (hts _ tw_454) (hts _ tw_68) (hts _ tw_455) (Nat.le_of_ble_eq_true rfl) (Nat.le_of_ble_eq_true rfl) (Nat.zero_le _) (Nat.zero_le _) dX4_growRuns_153 ?_
        obtain ⟨h156, hv, hk⟩ := hk
        refine r_iast C Z hv dX4_growRuns_156 (fun H locs Z => ?_)
        obtain ⟨y157, ey157⟩ : ∃ y : Int32, y = x2 + (nI 1) := ⟨_, rfl⟩
        have hk := hk y157 ey157
        refine lv_iinc (v := y157) (lv' := [(2, .int y157), (4, .int y77), (0, .ref x0), (1, .int x1), (3, .int x3)]) hx hb dX4_growRuns_157 hl (k := 3) rfl (by rw [ey157]; rfl) (by decide) rfl (fun ls hl => ?_)
        refine lv_goto (tgt := 2) hx hb dX4_growRuns_160 (by decide) ?_
        exact hk2 y157 h156 _ _ _ (lv_sub hl [2, 3, 0] rfl) Z hk
set_option maxRecDepth 100000 in
set_option maxHeartbeats 4000000 in
theorem w_X4_growRuns_2 {p : Program} {l : Launch} {e : Env} {s : State} {m : MethodId} {args : Array Value} {below : List Frame} {meth : Method} {c : Code} {g : Gt} {h0 : Hp} (C : Cx g (dm h0) RX4 cX4_growRuns 5 p s m args meth c) (hr : meth.sig.returnType = none) {Post : Hp → Prop} (x0 : Nat) (x1 : Int32)   : ∀ (n : Nat) (x2 : Int32) (h : Hp) (H : Heap) (locs : List Loc) (ls : Array Slot), lv_has ls 5 [(0, .ref x0), (1, .int x1), (2, .int x2)] → St g (dm h0) s h H locs → wp_X4_growRuns_2 Post x0 x1 n x2 h → W p l e rmX4_growRuns s m args below meth c H locs 0 0 (MQ below (Qv g h0 Post) args s 0 0 (dm h0)) (F0 m 2 ls []) := by
  have hx := C.1.1
  have hb := C.1.2.1
  have hml := C.1.2.2.1
  have hown := C.1.2.2.2.1
  have hts := C.1.2.2.2.2
  intro n
  induction n with
  | zero => intro x2 h H locs ls hl Z hk; exact (show False from hk).elim
  | succ n ih =>
    intro x2 h H locs ls hl Z hk
    unfold wp_X4_growRuns_2 at hk
    refine lv_iload_n hx hb dX4_growRuns_2 rfl (lv_at hl 2 rfl) ?_
    refine lv_aload_n hx hb dX4_growRuns_3 rfl (lv_at hl 0 rfl) ?_
    obtain ⟨v4, hv, hk⟩ := hk
    refine r_get (ci := 4) (k := 0) (T := TX4) (N := 15) C Z hv ku_4 rfl (by decide) tw_160 dX4_growRuns_4 ?_
    obtain ⟨v7, hv, hk⟩ := hk
    refine r_get (ci := 0) (k := 0) (T := TX0) (N := 11) C Z hv ku_0 rfl (by decide) tw_100 dX4_growRuns_7 ?_
    refine lv_icmp_ge (tgt := 163) hx hb dX4_growRuns_10 (by decide) (fun q => ?_) (fun q => ?_)
    · have hk := hk.1 q
      exact r_vret C Z hr hk dX4_growRuns_163
    · have hk := hk.2 q
      refine lv_iload_n hx hb dX4_growRuns_13 rfl (lv_at hl 2 rfl) ?_
      refine lv_bipush (v := (nI 12)) hx hb dX4_growRuns_14 (by decide) ?_
      refine lv_imul hx hb dX4_growRuns_16 ?_
      refine lv_iload_n hx hb dX4_growRuns_17 rfl (lv_at hl 1 rfl) ?_
      refine lv_iadd hx hb dX4_growRuns_18 ?_
      refine lv_topi (fun y19 ey19 => ?_)
      have hk := hk y19 ey19
      refine lv_istore_n (lv' := [(3, .int y19), (0, .ref x0), (1, .int x1), (2, .int x2)]) hx hb dX4_growRuns_19 rfl hl (by decide) rfl (fun ls hl => ?_)
      refine lv_aload_n hx hb dX4_growRuns_20 rfl (lv_at hl 1 rfl) ?_
      obtain ⟨v21, hv, hk⟩ := hk
      refine r_get (ci := 4) (k := 4) (T := TX4) (N := 15) C Z hv ku_4 rfl (by decide) tw_168 dX4_growRuns_21 ?_
      refine lv_iload_n hx hb dX4_growRuns_24 rfl (lv_at hl 0 rfl) ?_
      refine lv_iload_n hx hb dX4_growRuns_25 rfl (lv_at hl 3 rfl) ?_
      obtain ⟨h26, hv, hk⟩ := hk
      refine r_iast C Z hv dX4_growRuns_26 (fun H locs Z => ?_)
      refine lv_aload_n hx hb dX4_growRuns_27 rfl (lv_at hl 1 rfl) ?_
      obtain ⟨v28, hv, hk⟩ := hk
      refine r_get (ci := 4) (k := 5) (T := TX4) (N := 15) C Z hv ku_4 rfl (by decide) tw_170 dX4_growRuns_28 ?_
      refine lv_iload_n hx hb dX4_growRuns_31 rfl (lv_at hl 0 rfl) ?_
      refine lv_iload_n hx hb dX4_growRuns_32 rfl (lv_at hl 3 rfl) ?_
      obtain ⟨h33, hv, hk⟩ := hk
      refine r_iast C Z hv dX4_growRuns_33 (fun H locs Z => ?_)
      refine lv_aload_n hx hb dX4_growRuns_34 rfl (lv_at hl 1 rfl) ?_
      obtain ⟨v35, hv, hk⟩ := hk
      refine r_get (ci := 4) (k := 6) (T := TX4) (N := 15) C Z hv ku_4 rfl (by decide) tw_172 dX4_growRuns_35 ?_
      refine lv_iload_n hx hb dX4_growRuns_38 rfl (lv_at hl 0 rfl) ?_
      refine lv_aload_n hx hb dX4_growRuns_39 rfl (lv_at hl 1 rfl) ?_
      obtain ⟨v40, hv, hk⟩ := hk
      refine r_get (ci := 4) (k := 2) (T := TX4) (N := 15) C Z hv ku_4 rfl (by decide) tw_164 dX4_growRuns_40 ?_
      refine lv_iload_n hx hb dX4_growRuns_43 rfl (lv_at hl 0 rfl) ?_
      obtain ⟨v44, hv, hk⟩ := hk
      refine r_iald C Z hv dX4_growRuns_44 ?_
      refine lv_if_le (tgt := 52) hx hb dX4_growRuns_45 (by decide) (fun q => ?_) (fun q => ?_)
      · have hk := hk.1 q
        refine lv_iconst (v := (nI 0)) hx hb dX4_growRuns_52 (by decide) ?_
        exact w_X4_growRuns_53 C hr x0 x1 x2 y19 v35 y19 (nI 0) ih h33 _ _ _ (lv_sub hl [1, 2, 3, 0] rfl) Z hk
      · have hk := hk.2 q
        refine lv_iconst (v := (nI 1)) hx hb dX4_growRuns_48 (by decide) ?_
        refine lv_goto (tgt := 53) hx hb dX4_growRuns_49 (by decide) ?_
        exact w_X4_growRuns_53 C hr x0 x1 x2 y19 v35 y19 (nI 1) ih h33 _ _ _ (lv_sub hl [1, 2, 3, 0] rfl) Z hk
set_option maxRecDepth 100000 in
set_option maxHeartbeats 4000000 in
theorem m_X4_growRuns (l : Launch) (g : Gt) (h : Hp) (x0 : Nat) (x1 : Int32) (Post : Hp → Prop) (hk : wp_X4_growRuns x0 x1 Post h) : Met l yX4_growRuns wzX4_growRuns rmX4_growRuns (Pg g h [.ref x0, .int x1]) (Qv g h Post) 0 0 (dm h) := by
  refine Met_of (cc := cX4_growRuns) (maxL := 5) (ret := none) (by decide) (Nat.le_of_ble_eq_true rfl) (fun p e s m below meth c ls C hr hnm hl Z => ?_)
  have hx := C.1.1
  have hb := C.1.2.1
  have hml := C.1.2.2.1
  have hown := C.1.2.2.2.1
  have hts := C.1.2.2.2.2
  have hl : lv_has ls 5 [(0, .ref x0), (1, .int x1)] := hl
  unfold wp_X4_growRuns at hk
  generalize s.heap = H at Z ⊢
  generalize ([] : List Loc) = locs at Z ⊢
  refine lv_iconst (v := (nI 0)) hx hb dX4_growRuns_0 (by decide) ?_
  refine lv_istore_n (lv' := [(2, .int (nI 0)), (0, .ref x0), (1, .int x1)]) hx hb dX4_growRuns_1 rfl hl (by decide) rfl (fun ls hl => ?_)
  obtain ⟨n1, hk⟩ := hk
  exact w_X4_growRuns_2 C hr x0 x1 n1 (nI 0) h _ _ _ (lv_sub hl [1, 2, 0] rfl) Z hk
abbrev rmX4_closeRuns : Room := ({ frames := 0, cells := 0, slots := 0, locals := 0 } : Room)
abbrev wzX4_closeRuns : List Cond := WS yX4_closeRuns cX4_closeRuns 5 none
set_option maxRecDepth 100000 in
set_option maxHeartbeats 4000000 in
theorem w_X4_closeRuns_10 {p : Program} {l : Launch} {e : Env} {s : State} {m : MethodId} {args : Array Value} {below : List Frame} {meth : Method} {c : Code} {g : Gt} {h0 : Hp} (C : Cx g (dm h0) RX4 cX4_closeRuns 5 p s m args meth c) (hr : meth.sig.returnType = none) {Post : Hp → Prop} (x0 : Nat) (x1 : Int32)   : ∀ (n : Nat) (x2 : Int32) (h : Hp) (H : Heap) (locs : List Loc) (ls : Array Slot), lv_has ls 5 [(0, .ref x0), (1, .int x1), (2, .int x2)] → St g (dm h0) s h H locs → wp_X4_closeRuns_10 Post x0 x1 n x2 h → W p l e rmX4_closeRuns s m args below meth c H locs 0 0 (MQ below (Qv g h0 Post) args s 0 0 (dm h0)) (F0 m 10 ls []) := by
  have hx := C.1.1
  have hb := C.1.2.1
  have hml := C.1.2.2.1
  have hown := C.1.2.2.2.1
  have hts := C.1.2.2.2.2
  intro n
  induction n with
  | zero => intro x2 h H locs ls hl Z hk; exact (show False from hk).elim
  | succ n ih =>
    intro x2 h H locs ls hl Z hk
    unfold wp_X4_closeRuns_10 at hk
    refine lv_iload_n hx hb dX4_closeRuns_10 rfl (lv_at hl 2 rfl) ?_
    refine lv_if_lt (tgt := 107) hx hb dX4_closeRuns_11 (by decide) (fun q => ?_) (fun q => ?_)
    · have hk := hk.1 q
      exact r_vret C Z hr hk dX4_closeRuns_107
    · have hk := hk.2 q
      refine lv_iload_n hx hb dX4_closeRuns_14 rfl (lv_at hl 2 rfl) ?_
      refine lv_bipush (v := (nI 12)) hx hb dX4_closeRuns_15 (by decide) ?_
      refine lv_imul hx hb dX4_closeRuns_17 ?_
      refine lv_iload_n hx hb dX4_closeRuns_18 rfl (lv_at hl 1 rfl) ?_
      refine lv_iadd hx hb dX4_closeRuns_19 ?_
      refine lv_topi (fun y20 ey20 => ?_)
      have hk := hk y20 ey20
      refine lv_istore_n (lv' := [(3, .int y20), (0, .ref x0), (1, .int x1), (2, .int x2)]) hx hb dX4_closeRuns_20 rfl hl (by decide) rfl (fun ls hl => ?_)
      refine lv_aload_n hx hb dX4_closeRuns_21 rfl (lv_at hl 1 rfl) ?_
      obtain ⟨v22, hv, hk⟩ := hk
      refine r_get (ci := 4) (k := 1) (T := TX4) (N := 15) C Z hv ku_4 rfl (by decide) tw_163 dX4_closeRuns_22 ?_
      refine lv_iload_n hx hb dX4_closeRuns_25 rfl (lv_at hl 3 rfl) ?_
      obtain ⟨v26, hv, hk⟩ := hk
      refine r_iald C Z hv dX4_closeRuns_26 ?_
      refine lv_bipush (v := (nI 12)) hx hb dX4_closeRuns_27 (by decide) ?_
      refine lv_imul hx hb dX4_closeRuns_29 ?_
      refine lv_iload_n hx hb dX4_closeRuns_30 rfl (lv_at hl 2 rfl) ?_
      refine lv_iadd hx hb dX4_closeRuns_31 ?_
      refine lv_topi (fun y32 ey32 => ?_)
      have hk := hk y32 ey32
      refine lv_istore (lv' := [(4, .int y32), (3, .int y20), (0, .ref x0), (1, .int x1), (2, .int x2)]) hx hb dX4_closeRuns_32 hl (by decide) rfl (fun ls hl => ?_)
      refine lv_aload_n hx hb dX4_closeRuns_34 rfl (lv_at hl 2 rfl) ?_
      obtain ⟨v35, hv, hk⟩ := hk
      refine r_get (ci := 4) (k := 1) (T := TX4) (N := 15) C Z hv ku_4 rfl (by decide) tw_163 dX4_closeRuns_35 ?_
      refine lv_iload_n hx hb dX4_closeRuns_38 rfl (lv_at hl 4 rfl) ?_
      obtain ⟨v39, hv, hk⟩ := hk
      refine r_iald C Z hv dX4_closeRuns_39 ?_
      refine lv_if_lt (tgt := 101) hx hb dX4_closeRuns_40 (by decide) (fun q => ?_) (fun q => ?_)
      · have hk := hk.1 q
        obtain ⟨y101, ey101⟩ : ∃ y : Int32, y = x2 + (-1 : Int32) := ⟨_, rfl⟩
        have hk := hk y101 ey101
        refine lv_iinc (v := y101) (lv' := [(2, .int y101), (4, .int y32), (3, .int y20), (0, .ref x0), (1, .int x1)]) hx hb dX4_closeRuns_101 hl (k := 4) rfl (by rw [ey101]; rfl) (by decide) rfl (fun ls hl => ?_)
        refine lv_goto (tgt := 10) hx hb dX4_closeRuns_104 (by decide) ?_
        exact ih y101 h _ _ _ (lv_sub hl [3, 4, 0] rfl) Z hk
      · have hk := hk.2 q
        refine lv_aload_n hx hb dX4_closeRuns_43 rfl (lv_at hl 2 rfl) ?_
        obtain ⟨v44, hv, hk⟩ := hk
        refine r_get (ci := 4) (k := 2) (T := TX4) (N := 15) C Z hv ku_4 rfl (by decide) tw_164 dX4_closeRuns_44 ?_
        refine lv_iload hx hb dX4_closeRuns_47 (lv_at hl 0 rfl) ?_
        obtain ⟨v49, hv, hk⟩ := hk
        refine r_iald C Z hv dX4_closeRuns_49 ?_
        refine lv_if_le (tgt := 101) hx hb dX4_closeRuns_50 (by decide) (fun q => ?_) (fun q => ?_)
        · have hk := hk.1 q
          obtain ⟨y101, ey101⟩ : ∃ y : Int32, y = x2 + (-1 : Int32) := ⟨_, rfl⟩
          have hk := hk y101 ey101
          refine lv_iinc (v := y101) (lv' := [(2, .int y101), (4, .int y32), (3, .int y20), (0, .ref x0), (1, .int x1)]) hx hb dX4_closeRuns_101 hl (k := 4) rfl (by rw [ey101]; rfl) (by decide) rfl (fun ls hl => ?_)
          refine lv_goto (tgt := 10) hx hb dX4_closeRuns_104 (by decide) ?_
          exact ih y101 h _ _ _ (lv_sub hl [3, 4, 0] rfl) Z hk
        · have hk := hk.2 q
          refine lv_aload_n hx hb dX4_closeRuns_53 rfl (lv_at hl 2 rfl) ?_
          obtain ⟨v54, hv, hk⟩ := hk
          refine r_get (ci := 4) (k := 2) (T := TX4) (N := 15) C Z hv ku_4 rfl (by decide) tw_164 dX4_closeRuns_54 ?_
          refine lv_iload_n hx hb dX4_closeRuns_57 rfl (lv_at hl 1 rfl) ?_
          obtain ⟨v58, hv, hk⟩ := hk
          refine r_iald C Z hv dX4_closeRuns_58 ?_
          refine lv_if_le (tgt := 101) hx hb dX4_closeRuns_59 (by decide) (fun q => ?_) (fun q => ?_)
          · have hk := hk.1 q
            obtain ⟨y101, ey101⟩ : ∃ y : Int32, y = x2 + (-1 : Int32) := ⟨_, rfl⟩
            have hk := hk y101 ey101
            refine lv_iinc (v := y101) (lv' := [(2, .int y101), (4, .int y32), (3, .int y20), (0, .ref x0), (1, .int x1)]) hx hb dX4_closeRuns_101 hl (k := 4) rfl (by rw [ey101]; rfl) (by decide) rfl (fun ls hl => ?_)
            refine lv_goto (tgt := 10) hx hb dX4_closeRuns_104 (by decide) ?_
            exact ih y101 h _ _ _ (lv_sub hl [3, 4, 0] rfl) Z hk
          · have hk := hk.2 q
            refine lv_aload_n hx hb dX4_closeRuns_62 rfl (lv_at hl 2 rfl) ?_
            obtain ⟨v63, hv, hk⟩ := hk
            refine r_get (ci := 4) (k := 5) (T := TX4) (N := 15) C Z hv ku_4 rfl (by decide) tw_170 dX4_closeRuns_63 ?_
            refine lv_iload hx hb dX4_closeRuns_66 (lv_at hl 0 rfl) ?_
            refine lv_aload_n hx hb dX4_closeRuns_68 rfl (lv_at hl 2 rfl) ?_
            obtain ⟨v69, hv, hk⟩ := hk
            refine r_get (ci := 4) (k := 5) (T := TX4) (N := 15) C Z hv ku_4 rfl (by decide) tw_170 dX4_closeRuns_69 ?_
            refine lv_iload_n hx hb dX4_closeRuns_72 rfl (lv_at hl 1 rfl) ?_
            obtain ⟨v73, hv, hk⟩ := hk
            refine r_iald C Z hv dX4_closeRuns_73 ?_
            obtain ⟨h74, hv, hk⟩ := hk
            refine r_iast C Z hv dX4_closeRuns_74 (fun H locs Z => ?_)
            refine lv_aload_n hx hb dX4_closeRuns_75 rfl (lv_at hl 2 rfl) ?_
            obtain ⟨v76, hv, hk⟩ := hk
            refine r_get (ci := 4) (k := 6) (T := TX4) (N := 15) C Z hv ku_4 rfl (by decide) tw_172 dX4_closeRuns_76 ?_
            refine lv_iload hx hb dX4_closeRuns_79 (lv_at hl 0 rfl) ?_
            refine lv_aload_n hx hb dX4_closeRuns_81 rfl (lv_at hl 2 rfl) ?_
            obtain ⟨v82, hv, hk⟩ := hk
            refine r_get (ci := 4) (k := 6) (T := TX4) (N := 15) C Z hv ku_4 rfl (by decide) tw_172 dX4_closeRuns_82 ?_
            refine lv_iload_n hx hb dX4_closeRuns_85 rfl (lv_at hl 1 rfl) ?_
            obtain ⟨v86, hv, hk⟩ := hk
            refine r_iald C Z hv dX4_closeRuns_86 ?_
            obtain ⟨h87, hv, hk⟩ := hk
            refine r_iast C Z hv dX4_closeRuns_87 (fun H locs Z => ?_)
            refine lv_aload_n hx hb dX4_closeRuns_88 rfl (lv_at hl 2 rfl) ?_
            obtain ⟨v89, hv, hk⟩ := hk
            refine r_get (ci := 4) (k := 7) (T := TX4) (N := 15) C Z hv ku_4 rfl (by decide) tw_174 dX4_closeRuns_89 ?_
            refine lv_iload hx hb dX4_closeRuns_92 (lv_at hl 0 rfl) ?_
            refine lv_aload_n hx hb dX4_closeRuns_94 rfl (lv_at hl 2 rfl) ?_
            obtain ⟨v95, hv, hk⟩ := hk
            refine r_get (ci := 4) (k := 7) (T := TX4) (N := 15) C Z hv ku_4 rfl (by decide) tw_174 dX4_closeRuns_95 ?_
            refine lv_iload_n hx hb dX4_closeRuns_98 rfl (lv_at hl 1 rfl) ?_
            obtain ⟨v99, hv, hk⟩ := hk
            refine r_iald C Z hv dX4_closeRuns_99 ?_
            obtain ⟨h100, hv, hk⟩ := hk
            refine r_iast C Z hv dX4_closeRuns_100 (fun H locs Z => ?_)
            obtain ⟨y101, ey101⟩ : ∃ y : Int32, y = x2 + (-1 : Int32) := ⟨_, rfl⟩
            have hk := hk y101 ey101
            refine lv_iinc (v := y101) (lv' := [(2, .int y101), (4, .int y32), (3, .int y20), (0, .ref x0), (1, .int x1)]) hx hb dX4_closeRuns_101 hl (k := 4) rfl (by rw [ey101]; rfl) (by decide) rfl (fun ls hl => ?_)
            refine lv_goto (tgt := 10) hx hb dX4_closeRuns_104 (by decide) ?_
            exact ih y101 h100 _ _ _ (lv_sub hl [3, 4, 0] rfl) Z hk
set_option maxRecDepth 100000 in
set_option maxHeartbeats 4000000 in
theorem m_X4_closeRuns (l : Launch) (g : Gt) (h : Hp) (x0 : Nat) (x1 : Int32) (Post : Hp → Prop) (hk : wp_X4_closeRuns x0 x1 Post h) : Met l yX4_closeRuns wzX4_closeRuns rmX4_closeRuns (Pg g h [.ref x0, .int x1]) (Qv g h Post) 0 0 (dm h) := by
  refine Met_of (cc := cX4_closeRuns) (maxL := 5) (ret := none) (by decide) (Nat.le_of_ble_eq_true rfl) (fun p e s m below meth c ls C hr hnm hl Z => ?_)
  have hx := C.1.1
  have hb := C.1.2.1
  have hml := C.1.2.2.1
  have hown := C.1.2.2.2.1
  have hts := C.1.2.2.2.2
  have hl : lv_has ls 5 [(0, .ref x0), (1, .int x1)] := hl
  unfold wp_X4_closeRuns at hk
  generalize s.heap = H at Z ⊢
  generalize ([] : List Loc) = locs at Z ⊢
  refine lv_aload_n hx hb dX4_closeRuns_0 rfl (lv_at hl 0 rfl) ?_
  obtain ⟨v1, hv, hk⟩ := hk
  refine r_get (ci := 4) (k := 0) (T := TX4) (N := 15) C Z hv ku_4 rfl (by decide) tw_160 dX4_closeRuns_1 ?_
  obtain ⟨v4, hv, hk⟩ := hk
  refine r_get (ci := 0) (k := 0) (T := TX0) (N := 11) C Z hv ku_0 rfl (by decide) tw_100 dX4_closeRuns_4 ?_
  refine lv_iconst (v := (nI 1)) hx hb dX4_closeRuns_7 (by decide) ?_
  refine lv_isub hx hb dX4_closeRuns_8 ?_
  refine lv_topi (fun y9 ey9 => ?_)
  have hk := hk y9 ey9
  refine lv_istore_n (lv' := [(2, .int y9), (0, .ref x0), (1, .int x1)]) hx hb dX4_closeRuns_9 rfl hl (by decide) rfl (fun ls hl => ?_)
  obtain ⟨n1, hk⟩ := hk
  exact w_X4_closeRuns_10 C hr x0 x1 n1 y9 h _ _ _ (lv_sub hl [1, 2, 0] rfl) Z hk
abbrev rmX4_markOf : Room := ({ frames := 0, cells := 0, slots := 0, locals := 0 } : Room)
abbrev wzX4_markOf : List Cond := WS yX4_markOf cX4_markOf 3 (some .int)
set_option maxRecDepth 100000 in
set_option maxHeartbeats 4000000 in
theorem m_X4_markOf (l : Launch) (g : Gt) (h : Hp) (x0 : Nat) (x1 : Int32) (x2 : Int32) (Post : Int32 → Hp → Prop) (hk : wp_X4_markOf x0 x1 x2 Post h) : Met l yX4_markOf wzX4_markOf rmX4_markOf (Pg g h [.ref x0, .int x1, .int x2]) (Qi g h Post) 0 0 (dm h) := by
  refine Met_of (cc := cX4_markOf) (maxL := 3) (ret := (some .int)) (by decide) (Nat.le_of_ble_eq_true rfl) (fun p e s m below meth c ls C hr hnm hl Z => ?_)
  have hx := C.1.1
  have hb := C.1.2.1
  have hml := C.1.2.2.1
  have hown := C.1.2.2.2.1
  have hts := C.1.2.2.2.2
  have hl : lv_has ls 3 [(0, .ref x0), (1, .int x1), (2, .int x2)] := hl
  unfold wp_X4_markOf at hk
  generalize s.heap = H at Z ⊢
  generalize ([] : List Loc) = locs at Z ⊢
  refine lv_iload_n hx hb dX4_markOf_0 rfl (lv_at hl 1 rfl) ?_
  refine lv_aload_n hx hb dX4_markOf_1 rfl (lv_at hl 0 rfl) ?_
  obtain ⟨v2, hv, hk⟩ := hk
  refine r_get (ci := 4) (k := 0) (T := TX4) (N := 15) C Z hv ku_4 rfl (by decide) tw_160 dX4_markOf_2 ?_
  obtain ⟨v5, hv, hk⟩ := hk
  refine r_get (ci := 0) (k := 8) (T := TX0) (N := 11) C Z hv ku_0 rfl (by decide) tw_128 dX4_markOf_5 ?_
  refine lv_iconst (v := (nI 1)) hx hb dX4_markOf_8 (by decide) ?_
  obtain ⟨v9, hv, hk⟩ := hk
  refine r_iald C Z hv dX4_markOf_9 ?_
  refine lv_icmp_lt (tgt := 15) hx hb dX4_markOf_10 (by decide) (fun q => ?_) (fun q => ?_)
  · have hk := hk.1 q
    refine lv_iload_n hx hb dX4_markOf_15 rfl (lv_at hl 2 rfl) ?_
    refine lv_if_ne (tgt := 36) hx hb dX4_markOf_16 (by decide) (fun q => ?_) (fun q => ?_)
    · have hk := hk.1 q
      refine lv_iconst (v := (nI 0)) hx hb dX4_markOf_36 (by decide) ?_
      exact r_iret C Z hr hk dX4_markOf_37
    · have hk := hk.2 q
      refine lv_iload_n hx hb dX4_markOf_19 rfl (lv_at hl 1 rfl) ?_
      refine lv_aload_n hx hb dX4_markOf_20 rfl (lv_at hl 0 rfl) ?_
      obtain ⟨v21, hv, hk⟩ := hk
      refine r_get (ci := 4) (k := 0) (T := TX4) (N := 15) C Z hv ku_4 rfl (by decide) tw_160 dX4_markOf_21 ?_
      obtain ⟨v24, hv, hk⟩ := hk
      refine r_get (ci := 0) (k := 8) (T := TX0) (N := 11) C Z hv ku_0 rfl (by decide) tw_128 dX4_markOf_24 ?_
      refine lv_iconst (v := (nI 2)) hx hb dX4_markOf_27 (by decide) ?_
      obtain ⟨v28, hv, hk⟩ := hk
      refine r_iald C Z hv dX4_markOf_28 ?_
      refine lv_icmp_lt (tgt := 36) hx hb dX4_markOf_29 (by decide) (fun q => ?_) (fun q => ?_)
      · have hk := hk.1 q
        refine lv_iconst (v := (nI 0)) hx hb dX4_markOf_36 (by decide) ?_
        exact r_iret C Z hr hk dX4_markOf_37
      · have hk := hk.2 q
        refine lv_iconst (v := (nI 1)) hx hb dX4_markOf_32 (by decide) ?_
        refine lv_goto (tgt := 37) hx hb dX4_markOf_33 (by decide) ?_
        exact r_iret C Z hr hk dX4_markOf_37
  · have hk := hk.2 q
    refine lv_iconst (v := (nI 2)) hx hb dX4_markOf_13 (by decide) ?_
    exact r_iret C Z hr hk dX4_markOf_14
abbrev rmX4_judgedOutcome : Room := ({ frames := 0, cells := 0, slots := 0, locals := 0 } : Room)
abbrev wzX4_judgedOutcome : List Cond := WS yX4_judgedOutcome cX4_judgedOutcome 8 (some .int)
set_option maxRecDepth 100000 in
set_option maxHeartbeats 4000000 in
theorem w_X4_judgedOutcome_11 {p : Program} {l : Launch} {e : Env} {s : State} {m : MethodId} {args : Array Value} {below : List Frame} {meth : Method} {c : Code} {g : Gt} {h0 : Hp} (C : Cx g (dm h0) RX4 cX4_judgedOutcome 8 p s m args meth c) (hr : meth.sig.returnType = (some .int)) {Post : Int32 → Hp → Prop} (x0 : Nat) (x1 : Int32) (x2 : Int32)   : ∀ (n : Nat) (x3 : Int32) (x4 : Int32) (x5 : Int32) (x6 : Int32) (h : Hp) (H : Heap) (locs : List Loc) (ls : Array Slot), lv_has ls 8 [(0, .ref x0), (1, .int x1), (2, .int x2), (3, .int x3), (4, .int x4), (5, .int x5), (6, .int x6)] → St g (dm h0) s h H locs → wp_X4_judgedOutcome_11 Post x0 x1 x2 n x3 x4 x5 x6 h → W p l e rmX4_judgedOutcome s m args below meth c H locs 0 0 (MQ below (Qi g h0 Post) args s 0 0 (dm h0)) (F0 m 11 ls []) := by
  have hx := C.1.1
  have hb := C.1.2.1
  have hml := C.1.2.2.1
  have hown := C.1.2.2.2.1
  have hts := C.1.2.2.2.2
  intro n
  induction n with
  | zero => intro x3 x4 x5 x6 h H locs ls hl Z hk; exact (show False from hk).elim
  | succ n ih =>
    intro x3 x4 x5 x6 h H locs ls hl Z hk
    unfold wp_X4_judgedOutcome_11 at hk
    refine lv_iload hx hb dX4_judgedOutcome_11 (lv_at hl 6 rfl) ?_
    refine lv_iconst (v := (nI 3)) hx hb dX4_judgedOutcome_13 (by decide) ?_
    refine lv_icmp_ge (tgt := 66) hx hb dX4_judgedOutcome_14 (by decide) (fun q => ?_) (fun q => ?_)
    · have hk := hk.1 q
      refine lv_iload_n hx hb dX4_judgedOutcome_66 rfl (lv_at hl 3 rfl) ?_
      refine lv_iconst (v := (nI 1)) hx hb dX4_judgedOutcome_67 (by decide) ?_
      refine lv_icmp_le (tgt := 73) hx hb dX4_judgedOutcome_68 (by decide) (fun q => ?_) (fun q => ?_)
      · have hk := hk.1 q
        refine lv_iload hx hb dX4_judgedOutcome_73 (lv_at hl 4 rfl) ?_
        refine lv_if_le (tgt := 82) hx hb dX4_judgedOutcome_75 (by decide) (fun q => ?_) (fun q => ?_)
        · have hk := hk.1 q
          refine lv_iload hx hb dX4_judgedOutcome_82 (lv_at hl 5 rfl) ?_
          exact r_iret C Z hr hk dX4_judgedOutcome_84
        · have hk := hk.2 q
          refine lv_iconst (v := (nI 5)) hx hb dX4_judgedOutcome_78 (by decide) ?_
          refine lv_goto (tgt := 84) hx hb dX4_judgedOutcome_79 (by decide) ?_
          exact r_iret C Z hr hk dX4_judgedOutcome_84
      · have hk := hk.2 q
        refine lv_iconst (v := (nI 4)) hx hb dX4_judgedOutcome_71 (by decide) ?_
        exact r_iret C Z hr hk dX4_judgedOutcome_72
    · have hk := hk.2 q
      refine lv_aload_n hx hb dX4_judgedOutcome_17 rfl (lv_at hl 0 rfl) ?_
      obtain ⟨v18, hv, hk⟩ := hk
      refine r_get (ci := 4) (k := 10) (T := TX4) (N := 15) C Z hv ku_4 rfl (by decide) tw_179 dX4_judgedOutcome_18 ?_
      refine lv_iload_n hx hb dX4_judgedOutcome_21 rfl (lv_at hl 1 rfl) ?_
      refine lv_bipush (v := (nI 12)) hx hb dX4_judgedOutcome_22 (by decide) ?_
      refine lv_imul hx hb dX4_judgedOutcome_24 ?_
      refine lv_iload_n hx hb dX4_judgedOutcome_25 rfl (lv_at hl 2 rfl) ?_
      refine lv_iconst (v := (nI 3)) hx hb dX4_judgedOutcome_26 (by decide) ?_
      refine lv_imul hx hb dX4_judgedOutcome_27 ?_
      refine lv_iadd hx hb dX4_judgedOutcome_28 ?_
      refine lv_iload hx hb dX4_judgedOutcome_29 (lv_at hl 6 rfl) ?_
      refine lv_iadd hx hb dX4_judgedOutcome_31 ?_
      obtain ⟨v32, hv, hk⟩ := hk
      refine r_iald C Z hv dX4_judgedOutcome_32 ?_
      refine lv_istore (lv' := [(7, .int v32), (0, .ref x0), (1, .int x1), (2, .int x2), (3, .int x3), (4, .int x4), (5, .int x5), (6, .int x6)]) hx hb dX4_judgedOutcome_33 hl (by decide) rfl (fun ls hl => ?_)
      refine lv_iload hx hb dX4_judgedOutcome_35 (lv_at hl 0 rfl) ?_
      refine lv_iconst (v := (nI 2)) hx hb dX4_judgedOutcome_37 (by decide) ?_
      refine lv_icmp_ne (tgt := 51) hx hb dX4_judgedOutcome_38 (by decide) (fun q => ?_) (fun q => ?_)
      · have hk := hk.1 q
        refine lv_iload hx hb dX4_judgedOutcome_51 (lv_at hl 0 rfl) ?_
        refine lv_iconst (v := (nI 1)) hx hb dX4_judgedOutcome_53 (by decide) ?_
        refine lv_icmp_ne (tgt := 60) hx hb dX4_judgedOutcome_54 (by decide) (fun q => ?_) (fun q => ?_)
        · have hk := hk.1 q
          obtain ⟨y60, ey60⟩ : ∃ y : Int32, y = x6 + (nI 1) := ⟨_, rfl⟩
          have hk := hk y60 ey60
          refine lv_iinc (v := y60) (lv' := [(6, .int y60), (7, .int v32), (0, .ref x0), (1, .int x1), (2, .int x2), (3, .int x3), (4, .int x4), (5, .int x5)]) hx hb dX4_judgedOutcome_60 hl (k := 7) rfl (by rw [ey60]; rfl) (by decide) rfl (fun ls hl => ?_)
          refine lv_goto (tgt := 11) hx hb dX4_judgedOutcome_63 (by decide) ?_
          exact ih x3 x4 x5 y60 h _ _ _ (lv_sub hl [2, 3, 4, 5, 6, 7, 0] rfl) Z hk
        · have hk := hk.2 q
          obtain ⟨y57, ey57⟩ : ∃ y : Int32, y = x4 + (nI 1) := ⟨_, rfl⟩
          have hk := hk y57 ey57
          refine lv_iinc (v := y57) (lv' := [(4, .int y57), (7, .int v32), (0, .ref x0), (1, .int x1), (2, .int x2), (3, .int x3), (5, .int x5), (6, .int x6)]) hx hb dX4_judgedOutcome_57 hl (k := 5) rfl (by rw [ey57]; rfl) (by decide) rfl (fun ls hl => ?_)
          obtain ⟨y60, ey60⟩ : ∃ y : Int32, y = x6 + (nI 1) := ⟨_, rfl⟩
          have hk := hk y60 ey60
          refine lv_iinc (v := y60) (lv' := [(6, .int y60), (4, .int y57), (7, .int v32), (0, .ref x0), (1, .int x1), (2, .int x2), (3, .int x3), (5, .int x5)]) hx hb dX4_judgedOutcome_60 hl (k := 7) rfl (by rw [ey60]; rfl) (by decide) rfl (fun ls hl => ?_)
          refine lv_goto (tgt := 11) hx hb dX4_judgedOutcome_63 (by decide) ?_
          exact ih x3 y57 x5 y60 h _ _ _ (lv_sub hl [3, 4, 5, 6, 1, 7, 0] rfl) Z hk
      · have hk := hk.2 q
        obtain ⟨y41, ey41⟩ : ∃ y : Int32, y = x3 + (nI 1) := ⟨_, rfl⟩
        have hk := hk y41 ey41
        refine lv_iinc (v := y41) (lv' := [(3, .int y41), (7, .int v32), (0, .ref x0), (1, .int x1), (2, .int x2), (4, .int x4), (5, .int x5), (6, .int x6)]) hx hb dX4_judgedOutcome_41 hl (k := 4) rfl (by rw [ey41]; rfl) (by decide) rfl (fun ls hl => ?_)
        refine lv_iload hx hb dX4_judgedOutcome_44 (lv_at hl 7 rfl) ?_
        refine lv_istore (lv' := [(5, .int x6), (3, .int y41), (7, .int v32), (0, .ref x0), (1, .int x1), (2, .int x2), (4, .int x4), (6, .int x6)]) hx hb dX4_judgedOutcome_46 hl (by decide) rfl (fun ls hl => ?_)
        refine lv_goto (tgt := 60) hx hb dX4_judgedOutcome_48 (by decide) ?_
        obtain ⟨y60, ey60⟩ : ∃ y : Int32, y = x6 + (nI 1) := ⟨_, rfl⟩
        have hk := hk y60 ey60
        refine lv_iinc (v := y60) (lv' := [(6, .int y60), (5, .int x6), (3, .int y41), (7, .int v32), (0, .ref x0), (1, .int x1), (2, .int x2), (4, .int x4)]) hx hb dX4_judgedOutcome_60 hl (k := 7) rfl (by rw [ey60]; rfl) (by decide) rfl (fun ls hl => ?_)
        refine lv_goto (tgt := 11) hx hb dX4_judgedOutcome_63 (by decide) ?_
        exact ih y41 x4 x6 y60 h _ _ _ (lv_sub hl [4, 5, 6, 2, 7, 1, 0] rfl) Z hk
set_option maxRecDepth 100000 in
set_option maxHeartbeats 4000000 in
theorem m_X4_judgedOutcome (l : Launch) (g : Gt) (h : Hp) (x0 : Nat) (x1 : Int32) (x2 : Int32) (Post : Int32 → Hp → Prop) (hk : wp_X4_judgedOutcome x0 x1 x2 Post h) : Met l yX4_judgedOutcome wzX4_judgedOutcome rmX4_judgedOutcome (Pg g h [.ref x0, .int x1, .int x2]) (Qi g h Post) 0 0 (dm h) := by
  refine Met_of (cc := cX4_judgedOutcome) (maxL := 8) (ret := (some .int)) (by decide) (Nat.le_of_ble_eq_true rfl) (fun p e s m below meth c ls C hr hnm hl Z => ?_)
  have hx := C.1.1
  have hb := C.1.2.1
  have hml := C.1.2.2.1
  have hown := C.1.2.2.2.1
  have hts := C.1.2.2.2.2
  have hl : lv_has ls 8 [(0, .ref x0), (1, .int x1), (2, .int x2)] := hl
  unfold wp_X4_judgedOutcome at hk
  generalize s.heap = H at Z ⊢
  generalize ([] : List Loc) = locs at Z ⊢
  refine lv_iconst (v := (nI 0)) hx hb dX4_judgedOutcome_0 (by decide) ?_
  refine lv_istore_n (lv' := [(3, .int (nI 0)), (0, .ref x0), (1, .int x1), (2, .int x2)]) hx hb dX4_judgedOutcome_1 rfl hl (by decide) rfl (fun ls hl => ?_)
  refine lv_iconst (v := (nI 0)) hx hb dX4_judgedOutcome_2 (by decide) ?_
  refine lv_istore (lv' := [(4, .int (nI 0)), (3, .int (nI 0)), (0, .ref x0), (1, .int x1), (2, .int x2)]) hx hb dX4_judgedOutcome_3 hl (by decide) rfl (fun ls hl => ?_)
  refine lv_iconst (v := (nI 3)) hx hb dX4_judgedOutcome_5 (by decide) ?_
  refine lv_istore (lv' := [(5, .int (nI 3)), (4, .int (nI 0)), (3, .int (nI 0)), (0, .ref x0), (1, .int x1), (2, .int x2)]) hx hb dX4_judgedOutcome_6 hl (by decide) rfl (fun ls hl => ?_)
  refine lv_iconst (v := (nI 0)) hx hb dX4_judgedOutcome_8 (by decide) ?_
  refine lv_istore (lv' := [(6, .int (nI 0)), (5, .int (nI 3)), (4, .int (nI 0)), (3, .int (nI 0)), (0, .ref x0), (1, .int x1), (2, .int x2)]) hx hb dX4_judgedOutcome_9 hl (by decide) rfl (fun ls hl => ?_)
  obtain ⟨n1, hk⟩ := hk
  exact w_X4_judgedOutcome_11 C hr x0 x1 x2 n1 (nI 0) (nI 0) (nI 3) (nI 0) h _ _ _ (lv_sub hl [4, 5, 6, 3, 2, 1, 0] rfl) Z hk
abbrev rmX4_judgeWith : Room := ({ frames := 1, cells := 0, slots := 0, locals := 27 } : Room)
abbrev wzX4_judgeWith : List Cond := WS yX4_judgeWith cX4_judgeWith 6 none
set_option maxRecDepth 100000 in
set_option maxHeartbeats 4000000 in
theorem w_X4_judgeWith_158 {p : Program} {l : Launch} {e : Env} {s : State} {m : MethodId} {args : Array Value} {below : List Frame} {meth : Method} {c : Code} {g : Gt} {h0 : Hp} (C : Cx g (dm h0) RX4 cX4_judgeWith 6 p s m args meth c) (hr : meth.sig.returnType = none) {Post : Hp → Prop} (x0 : Nat) (x1 : Int32) (x2 : Int32) {k2 : Int32 → Hp → Prop} (hk2 : ∀ (x2 : Int32) (h : Hp) (H : Heap) (locs : List Loc) (ls : Array Slot), lv_has ls 6 [(0, .ref x0), (1, .int x1), (2, .int x2)] → St g (dm h0) s h H locs → k2 x2 h → W p l e rmX4_judgeWith s m args below meth c H locs 0 0 (MQ below (Qv g h0 Post) args s 0 0 (dm h0)) (F0 m 2 ls [])) : ∀ (n : Nat) (x4 : Int32) (h : Hp) (H : Heap) (locs : List Loc) (ls : Array Slot), lv_has ls 6 [(0, .ref x0), (1, .int x1), (2, .int x2), (4, .int x4)] → St g (dm h0) s h H locs → wp_X4_judgeWith_158 Post k2 x0 x1 x2 n x4 h → W p l e rmX4_judgeWith s m args below meth c H locs 0 0 (MQ below (Qv g h0 Post) args s 0 0 (dm h0)) (F0 m 158 ls []) := by
  have hx := C.1.1
  have hb := C.1.2.1
  have hml := C.1.2.2.1
  have hown := C.1.2.2.2.1
  have hts := C.1.2.2.2.2
  intro n
  induction n with
  | zero => intro x4 h H locs ls hl Z hk; exact (show False from hk).elim
  | succ n ih =>
    intro x4 h H locs ls hl Z hk
    unfold wp_X4_judgeWith_158 at hk
    refine lv_iload hx hb dX4_judgeWith_158 (lv_at hl 3 rfl) ?_
    refine lv_iconst (v := (nI 4)) hx hb dX4_judgeWith_160 (by decide) ?_
    refine lv_icmp_ge (tgt := 218) hx hb dX4_judgeWith_161 (by decide) (fun q => ?_) (fun q => ?_)
    · have hk := hk.1 q
      obtain ⟨y218, ey218⟩ : ∃ y : Int32, y = x2 + (nI 1) := ⟨_, rfl⟩
      have hk := hk y218 ey218
      refine lv_iinc (v := y218) (lv' := [(2, .int y218), (0, .ref x0), (1, .int x1), (4, .int x4)]) hx hb dX4_judgeWith_218 hl (k := 2) rfl (by rw [ey218]; rfl) (by decide) rfl (fun ls hl => ?_)
      refine lv_goto (tgt := 2) hx hb dX4_judgeWith_221 (by decide) ?_
      exact hk2 y218 h _ _ _ (lv_sub hl [1, 2, 0] rfl) Z hk
    · have hk := hk.2 q
      refine lv_aload_n hx hb dX4_judgeWith_164 rfl (lv_at hl 0 rfl) ?_
      refine lv_iload_n hx hb dX4_judgeWith_165 rfl (lv_at hl 2 rfl) ?_
      refine lv_iload hx hb dX4_judgeWith_166 (lv_at hl 3 rfl) ?_
      obtain ⟨ho, hk⟩ := hk
      refine r_calli Z (r_runV (As := [.int x2, .int x4]) (rest := []) C Z (m_X4_judgedOutcome l g h x0 x2 x4 _ hk) ho rfl (cwV 2 C.1.2.2.2.2 (gV tw_468 tw_470 tw_8 tw_59 tw_471) rfl rfl rfl (by decide +kernel) ⟨Nat.le_of_ble_eq_true rfl, Nat.le_of_ble_eq_true rfl⟩) rfl hl.1 rfl (Nat.le_of_ble_eq_true rfl) dX4_judgeWith_168 ⟨Nat.zero_le _, Nat.zero_le _⟩) (fun r168 h168 H locs hk Z => ?_)
      refine lv_istore (lv' := [(5, .int r168), (0, .ref x0), (1, .int x1), (2, .int x2), (4, .int x4)]) hx hb dX4_judgeWith_171 hl (by decide) rfl (fun ls hl => ?_)
      refine lv_aload_n hx hb dX4_judgeWith_173 rfl (lv_at hl 1 rfl) ?_
      obtain ⟨v174, hv, hk⟩ := hk
      refine r_get (ci := 4) (k := 11) (T := TX4) (N := 15) C Z hv ku_4 rfl (by decide) tw_181 dX4_judgeWith_174 ?_
      refine lv_iload_n hx hb dX4_judgeWith_177 rfl (lv_at hl 3 rfl) ?_
      refine lv_dup2_11 hx hb dX4_judgeWith_178 rfl rfl ?_
      obtain ⟨v179, hv, hk⟩ := hk
      refine r_iald C Z hv dX4_judgeWith_179 ?_
      refine lv_iload hx hb dX4_judgeWith_180 (lv_at hl 0 rfl) ?_
      refine lv_iconst (v := (nI 3)) hx hb dX4_judgeWith_182 (by decide) ?_
      refine lv_iload hx hb dX4_judgeWith_183 (lv_at hl 4 rfl) ?_
      refine lv_imul hx hb dX4_judgeWith_185 ?_
      refine lv_ishl hx hb dX4_judgeWith_186 ?_
      refine lv_ior hx hb dX4_judgeWith_187 ?_
      obtain ⟨h188, hv, hk⟩ := hk
      refine r_iast C Z hv dX4_judgeWith_188 (fun H locs Z => ?_)
      refine lv_aload_n hx hb dX4_judgeWith_189 rfl (lv_at hl 1 rfl) ?_
      obtain ⟨v190, hv, hk⟩ := hk
      refine r_get (ci := 4) (k := 12) (T := TX4) (N := 15) C Z hv ku_4 rfl (by decide) tw_183 dX4_judgeWith_190 ?_
      refine lv_iload_n hx hb dX4_judgeWith_193 rfl (lv_at hl 3 rfl) ?_
      refine lv_dup2_11 hx hb dX4_judgeWith_194 rfl rfl ?_
      obtain ⟨v195, hv, hk⟩ := hk
      refine r_iald C Z hv dX4_judgeWith_195 ?_
      refine lv_iload hx hb dX4_judgeWith_196 (lv_at hl 0 rfl) ?_
      refine lv_iconst (v := (nI 5)) hx hb dX4_judgeWith_198 (by decide) ?_
      refine lv_icmp_ne (tgt := 209) hx hb dX4_judgeWith_199 (by decide) (fun q => ?_) (fun q => ?_)
      · have hk := hk.1 q
        refine lv_iconst (v := (nI 0)) hx hb dX4_judgeWith_209 (by decide) ?_
        refine lv_ior hx hb dX4_judgeWith_210 ?_
        obtain ⟨h211, hv, hk⟩ := hk
        refine r_iast C Z hv dX4_judgeWith_211 (fun H locs Z => ?_)
        obtain ⟨y212, ey212⟩ : ∃ y : Int32, y = x4 + (nI 1) := ⟨_, rfl⟩
        have hk := hk y212 ey212
        refine lv_iinc (v := y212) (lv' := [(4, .int y212), (5, .int r168), (0, .ref x0), (1, .int x1), (2, .int x2)]) hx hb dX4_judgeWith_212 hl (k := 4) rfl (by rw [ey212]; rfl) (by decide) rfl (fun ls hl => ?_)
        refine lv_goto (tgt := 158) hx hb dX4_judgeWith_215 (by decide) ?_
        exact ih y212 h211 _ _ _ (lv_sub hl [2, 3, 4, 0] rfl) Z hk
      · have hk := hk.2 q
        refine lv_iconst (v := (nI 1)) hx hb dX4_judgeWith_202 (by decide) ?_
        refine lv_iload hx hb dX4_judgeWith_203 (lv_at hl 4 rfl) ?_
        refine lv_ishl hx hb dX4_judgeWith_205 ?_
        refine lv_goto (tgt := 210) hx hb dX4_judgeWith_206 (by decide) ?_
        refine lv_ior hx hb dX4_judgeWith_210 ?_
        obtain ⟨h211, hv, hk⟩ := hk
        refine r_iast C Z hv dX4_judgeWith_211 (fun H locs Z => ?_)
        obtain ⟨y212, ey212⟩ : ∃ y : Int32, y = x4 + (nI 1) := ⟨_, rfl⟩
        have hk := hk y212 ey212
        refine lv_iinc (v := y212) (lv' := [(4, .int y212), (5, .int r168), (0, .ref x0), (1, .int x1), (2, .int x2)]) hx hb dX4_judgeWith_212 hl (k := 4) rfl (by rw [ey212]; rfl) (by decide) rfl (fun ls hl => ?_)
        refine lv_goto (tgt := 158) hx hb dX4_judgeWith_215 (by decide) ?_
        exact ih y212 h211 _ _ _ (lv_sub hl [2, 3, 4, 0] rfl) Z hk
set_option maxRecDepth 100000 in
set_option maxHeartbeats 4000000 in
theorem w_X4_judgeWith_115 {p : Program} {l : Launch} {e : Env} {s : State} {m : MethodId} {args : Array Value} {below : List Frame} {meth : Method} {c : Code} {g : Gt} {h0 : Hp} (C : Cx g (dm h0) RX4 cX4_judgeWith 6 p s m args meth c) (hr : meth.sig.returnType = none) {Post : Hp → Prop} (x0 : Nat) (x1 : Int32) (x2 : Int32) (x3 : Int32) (x4 : Int32) (x5 : Int32) (s0 : Nat) (s1 : Int32) (s2 : Int32) {k2 : Int32 → Hp → Prop} {k35 : Int32 → Hp → Prop} (hk2 : ∀ (x2 : Int32) (h : Hp) (H : Heap) (locs : List Loc) (ls : Array Slot), lv_has ls 6 [(0, .ref x0), (1, .int x1), (2, .int x2)] → St g (dm h0) s h H locs → k2 x2 h → W p l e rmX4_judgeWith s m args below meth c H locs 0 0 (MQ below (Qv g h0 Post) args s 0 0 (dm h0)) (F0 m 2 ls [])) (hk35 : ∀ (x4 : Int32) (h : Hp) (H : Heap) (locs : List Loc) (ls : Array Slot), lv_has ls 6 [(0, .ref x0), (1, .int x1), (2, .int x2), (3, .int x3), (4, .int x4)] → St g (dm h0) s h H locs → k35 x4 h → W p l e rmX4_judgeWith s m args below meth c H locs 0 0 (MQ below (Qv g h0 Post) args s 0 0 (dm h0)) (F0 m 35 ls [])) : ∀ (h : Hp) (H : Heap) (locs : List Loc) (ls : Array Slot), lv_has ls 6 [(0, .ref x0), (1, .int x1), (2, .int x2), (3, .int x3), (4, .int x4), (5, .int x5)] → St g (dm h0) s h H locs → wp_X4_judgeWith_115 Post k2 k35 x0 x1 x2 x3 x4 x5 s0 s1 s2 h → W p l e rmX4_judgeWith s m args below meth c H locs 0 0 (MQ below (Qv g h0 Post) args s 0 0 (dm h0)) (F0 m 115 ls [.int s2, .int s1, .ref s0]) := by
  have hx := C.1.1
  have hb := C.1.2.1
  have hml := C.1.2.2.1
  have hown := C.1.2.2.2.1
  have hts := C.1.2.2.2.2
  intro h H locs ls hl Z hk
  unfold wp_X4_judgeWith_115 at hk
  obtain ⟨h115, hv, hk⟩ := hk
  refine r_iast C Z hv dX4_judgeWith_115 (fun H locs Z => ?_)
  refine lv_aload_n hx hb dX4_judgeWith_116 rfl (lv_at hl 0 rfl) ?_
  obtain ⟨v117, hv, hk⟩ := hk
  refine r_get (ci := 4) (k := 10) (T := TX4) (N := 15) C Z hv ku_4 rfl (by decide) tw_179 dX4_judgeWith_117 ?_
  refine lv_iload hx hb dX4_judgeWith_120 (lv_at hl 5 rfl) ?_
  refine lv_aload_n hx hb dX4_judgeWith_122 rfl (lv_at hl 0 rfl) ?_
  refine lv_aload_n hx hb dX4_judgeWith_123 rfl (lv_at hl 0 rfl) ?_
  obtain ⟨v124, hv, hk⟩ := hk
  refine r_get (ci := 4) (k := 9) (T := TX4) (N := 15) C Z hv ku_4 rfl (by decide) tw_177 dX4_judgeWith_124 ?_
  refine lv_iload hx hb dX4_judgeWith_127 (lv_at hl 5 rfl) ?_
  obtain ⟨v129, hv, hk⟩ := hk
  refine r_iald C Z hv dX4_judgeWith_129 ?_
  refine lv_iload_n hx hb dX4_judgeWith_130 rfl (lv_at hl 3 rfl) ?_
  obtain ⟨ho, hk⟩ := hk
  refine r_calli Z (r_runV (As := [.int v129, .int x3]) (rest := [.int x5, .ref v117]) C Z (m_X4_markOf l g h115 x0 v129 x3 _ hk) ho rfl (cwV 2 C.1.2.2.2.2 (gV tw_464 tw_466 tw_7 tw_59 tw_467) rfl rfl rfl (by decide +kernel) ⟨Nat.le_of_ble_eq_true rfl, Nat.le_of_ble_eq_true rfl⟩) rfl hl.1 rfl (Nat.le_of_ble_eq_true rfl) dX4_judgeWith_131 ⟨Nat.zero_le _, Nat.zero_le _⟩) (fun r131 h131 H locs hk Z => ?_)
  obtain ⟨h134, hv, hk⟩ := hk
  refine r_iast C Z hv dX4_judgeWith_134 (fun H locs Z => ?_)
  obtain ⟨y135, ey135⟩ : ∃ y : Int32, y = x4 + (nI 1) := ⟨_, rfl⟩
  have hk := hk y135 ey135
  refine lv_iinc (v := y135) (lv' := [(4, .int y135), (0, .ref x0), (1, .int x1), (2, .int x2), (3, .int x3), (5, .int x5)]) hx hb dX4_judgeWith_135 hl (k := 4) rfl (by rw [ey135]; rfl) (by decide) rfl (fun ls hl => ?_)
  refine lv_goto (tgt := 35) hx hb dX4_judgeWith_138 (by decide) ?_
  exact hk35 y135 h134 _ _ _ (lv_sub hl [1, 2, 3, 4, 0] rfl) Z hk
set_option maxRecDepth 100000 in
set_option maxHeartbeats 4000000 in
theorem w_X4_judgeWith_79 {p : Program} {l : Launch} {e : Env} {s : State} {m : MethodId} {args : Array Value} {below : List Frame} {meth : Method} {c : Code} {g : Gt} {h0 : Hp} (C : Cx g (dm h0) RX4 cX4_judgeWith 6 p s m args meth c) (hr : meth.sig.returnType = none) {Post : Hp → Prop} (x0 : Nat) (x1 : Int32) (x2 : Int32) (x3 : Int32) (x4 : Int32) (x5 : Int32) (s0 : Nat) (s1 : Int32) (s2 : Int32) {k2 : Int32 → Hp → Prop} {k35 : Int32 → Hp → Prop} (hk2 : ∀ (x2 : Int32) (h : Hp) (H : Heap) (locs : List Loc) (ls : Array Slot), lv_has ls 6 [(0, .ref x0), (1, .int x1), (2, .int x2)] → St g (dm h0) s h H locs → k2 x2 h → W p l e rmX4_judgeWith s m args below meth c H locs 0 0 (MQ below (Qv g h0 Post) args s 0 0 (dm h0)) (F0 m 2 ls [])) (hk35 : ∀ (x4 : Int32) (h : Hp) (H : Heap) (locs : List Loc) (ls : Array Slot), lv_has ls 6 [(0, .ref x0), (1, .int x1), (2, .int x2), (3, .int x3), (4, .int x4)] → St g (dm h0) s h H locs → k35 x4 h → W p l e rmX4_judgeWith s m args below meth c H locs 0 0 (MQ below (Qv g h0 Post) args s 0 0 (dm h0)) (F0 m 35 ls [])) : ∀ (h : Hp) (H : Heap) (locs : List Loc) (ls : Array Slot), lv_has ls 6 [(0, .ref x0), (1, .int x1), (2, .int x2), (3, .int x3), (4, .int x4), (5, .int x5)] → St g (dm h0) s h H locs → wp_X4_judgeWith_79 Post k2 k35 x0 x1 x2 x3 x4 x5 s0 s1 s2 h → W p l e rmX4_judgeWith s m args below meth c H locs 0 0 (MQ below (Qv g h0 Post) args s 0 0 (dm h0)) (F0 m 79 ls [.int s2, .int s1, .ref s0]) := by
  have hx := C.1.1
  have hb := C.1.2.1
  have hml := C.1.2.2.1
  have hown := C.1.2.2.2.1
  have hts := C.1.2.2.2.2
  intro h H locs ls hl Z hk
  unfold wp_X4_judgeWith_79 at hk
  obtain ⟨h79, hv, hk⟩ := hk
  refine r_iast C Z hv dX4_judgeWith_79 (fun H locs Z => ?_)
  refine lv_aload_n hx hb dX4_judgeWith_80 rfl (lv_at hl 0 rfl) ?_
  obtain ⟨v81, hv, hk⟩ := hk
  refine r_get (ci := 4) (k := 9) (T := TX4) (N := 15) C Z hv ku_4 rfl (by decide) tw_177 dX4_judgeWith_81 ?_
  refine lv_iload hx hb dX4_judgeWith_84 (lv_at hl 5 rfl) ?_
  refine lv_iload_n hx hb dX4_judgeWith_86 rfl (lv_at hl 3 rfl) ?_
  refine lv_if_eq (tgt := 100) hx hb dX4_judgeWith_87 (by decide) (fun q => ?_) (fun q => ?_)
  · have hk := hk.1 q
    refine lv_aload_n hx hb dX4_judgeWith_100 rfl (lv_at hl 0 rfl) ?_
    obtain ⟨v101, hv, hk⟩ := hk
    refine r_get (ci := 4) (k := 2) (T := TX4) (N := 15) C Z hv ku_4 rfl (by decide) tw_164 dX4_judgeWith_101 ?_
    refine lv_iload hx hb dX4_judgeWith_104 (lv_at hl 5 rfl) ?_
    obtain ⟨v106, hv, hk⟩ := hk
    refine r_iald C Z hv dX4_judgeWith_106 ?_
    refine lv_aload_n hx hb dX4_judgeWith_107 rfl (lv_at hl 0 rfl) ?_
    obtain ⟨v108, hv, hk⟩ := hk
    refine r_get (ci := 4) (k := 8) (T := TX4) (N := 15) C Z hv ku_4 rfl (by decide) tw_175 dX4_judgeWith_108 ?_
    refine lv_iload hx hb dX4_judgeWith_111 (lv_at hl 5 rfl) ?_
    obtain ⟨v113, hv, hk⟩ := hk
    refine r_iald C Z hv dX4_judgeWith_113 ?_
    refine lv_isub hx hb dX4_judgeWith_114 ?_
    exact w_X4_judgeWith_115 C hr x0 x1 x2 x3 x4 x5 v81 x5 (v106 - v113) hk2 hk35 h79 _ _ _ (lv_sub hl [0, 1, 2, 3, 4, 5] rfl) Z hk
  · have hk := hk.2 q
    refine lv_aload_n hx hb dX4_judgeWith_90 rfl (lv_at hl 0 rfl) ?_
    obtain ⟨v91, hv, hk⟩ := hk
    refine r_get (ci := 4) (k := 3) (T := TX4) (N := 15) C Z hv ku_4 rfl (by decide) tw_166 dX4_judgeWith_91 ?_
    refine lv_iload hx hb dX4_judgeWith_94 (lv_at hl 5 rfl) ?_
    obtain ⟨v96, hv, hk⟩ := hk
    refine r_iald C Z hv dX4_judgeWith_96 ?_
    refine lv_goto (tgt := 115) hx hb dX4_judgeWith_97 (by decide) ?_
    exact w_X4_judgeWith_115 C hr x0 x1 x2 x3 x4 x5 v81 x5 v96 hk2 hk35 h79 _ _ _ (lv_sub hl [0, 1, 2, 3, 4, 5] rfl) Z hk
set_option maxRecDepth 100000 in
set_option maxHeartbeats 4000000 in
theorem w_X4_judgeWith_35 {p : Program} {l : Launch} {e : Env} {s : State} {m : MethodId} {args : Array Value} {below : List Frame} {meth : Method} {c : Code} {g : Gt} {h0 : Hp} (C : Cx g (dm h0) RX4 cX4_judgeWith 6 p s m args meth c) (hr : meth.sig.returnType = none) {Post : Hp → Prop} (x0 : Nat) (x1 : Int32) (x2 : Int32) (x3 : Int32) {k2 : Int32 → Hp → Prop} (hk2 : ∀ (x2 : Int32) (h : Hp) (H : Heap) (locs : List Loc) (ls : Array Slot), lv_has ls 6 [(0, .ref x0), (1, .int x1), (2, .int x2)] → St g (dm h0) s h H locs → k2 x2 h → W p l e rmX4_judgeWith s m args below meth c H locs 0 0 (MQ below (Qv g h0 Post) args s 0 0 (dm h0)) (F0 m 2 ls [])) : ∀ (n : Nat) (x4 : Int32) (h : Hp) (H : Heap) (locs : List Loc) (ls : Array Slot), lv_has ls 6 [(0, .ref x0), (1, .int x1), (2, .int x2), (3, .int x3), (4, .int x4)] → St g (dm h0) s h H locs → wp_X4_judgeWith_35 Post k2 x0 x1 x2 x3 n x4 h → W p l e rmX4_judgeWith s m args below meth c H locs 0 0 (MQ below (Qv g h0 Post) args s 0 0 (dm h0)) (F0 m 35 ls []) := by
  have hx := C.1.1
  have hb := C.1.2.1
  have hml := C.1.2.2.1
  have hown := C.1.2.2.2.1
  have hts := C.1.2.2.2.2
  intro n
  induction n with
  | zero => intro x4 h H locs ls hl Z hk; exact (show False from hk).elim
  | succ n ih =>
    intro x4 h H locs ls hl Z hk
    unfold wp_X4_judgeWith_35 at hk
    refine lv_iload hx hb dX4_judgeWith_35 (lv_at hl 4 rfl) ?_
    refine lv_bipush (v := (nI 12)) hx hb dX4_judgeWith_37 (by decide) ?_
    refine lv_icmp_ge (tgt := 141) hx hb dX4_judgeWith_39 (by decide) (fun q => ?_) (fun q => ?_)
    · have hk := hk.1 q
      refine lv_aload_n hx hb dX4_judgeWith_141 rfl (lv_at hl 0 rfl) ?_
      obtain ⟨v142, hv, hk⟩ := hk
      refine r_get (ci := 4) (k := 11) (T := TX4) (N := 15) C Z hv ku_4 rfl (by decide) tw_181 dX4_judgeWith_142 ?_
      refine lv_iload_n hx hb dX4_judgeWith_145 rfl (lv_at hl 2 rfl) ?_
      refine lv_iconst (v := (nI 0)) hx hb dX4_judgeWith_146 (by decide) ?_
      obtain ⟨h147, hv, hk⟩ := hk
      refine r_iast C Z hv dX4_judgeWith_147 (fun H locs Z => ?_)
      refine lv_aload_n hx hb dX4_judgeWith_148 rfl (lv_at hl 0 rfl) ?_
      obtain ⟨v149, hv, hk⟩ := hk
      refine r_get (ci := 4) (k := 12) (T := TX4) (N := 15) C Z hv ku_4 rfl (by decide) tw_183 dX4_judgeWith_149 ?_
      refine lv_iload_n hx hb dX4_judgeWith_152 rfl (lv_at hl 2 rfl) ?_
      refine lv_iconst (v := (nI 0)) hx hb dX4_judgeWith_153 (by decide) ?_
      obtain ⟨h154, hv, hk⟩ := hk
      refine r_iast C Z hv dX4_judgeWith_154 (fun H locs Z => ?_)
      refine lv_iconst (v := (nI 0)) hx hb dX4_judgeWith_155 (by decide) ?_
      refine lv_istore (lv' := [(4, .int (nI 0)), (0, .ref x0), (1, .int x1), (2, .int x2), (3, .int x3)]) hx hb dX4_judgeWith_156 hl (by decide) rfl (fun ls hl => ?_)
      obtain ⟨n1, hk⟩ := hk
      exact w_X4_judgeWith_158 C hr x0 x1 x2 hk2 n1 (nI 0) h154 _ _ _ (lv_sub hl [1, 2, 3, 0] rfl) Z hk
    · have hk := hk.2 q
      refine lv_iload_n hx hb dX4_judgeWith_42 rfl (lv_at hl 2 rfl) ?_
      refine lv_bipush (v := (nI 12)) hx hb dX4_judgeWith_43 (by decide) ?_
      refine lv_imul hx hb dX4_judgeWith_45 ?_
      refine lv_iload hx hb dX4_judgeWith_46 (lv_at hl 4 rfl) ?_
      refine lv_iadd hx hb dX4_judgeWith_48 ?_
      refine lv_topi (fun y49 ey49 => ?_)
      have hk := hk y49 ey49
      refine lv_istore (lv' := [(5, .int y49), (0, .ref x0), (1, .int x1), (2, .int x2), (3, .int x3), (4, .int x4)]) hx hb dX4_judgeWith_49 hl (by decide) rfl (fun ls hl => ?_)
      refine lv_aload_n hx hb dX4_judgeWith_51 rfl (lv_at hl 1 rfl) ?_
      obtain ⟨v52, hv, hk⟩ := hk
      refine r_get (ci := 4) (k := 8) (T := TX4) (N := 15) C Z hv ku_4 rfl (by decide) tw_175 dX4_judgeWith_52 ?_
      refine lv_iload hx hb dX4_judgeWith_55 (lv_at hl 0 rfl) ?_
      refine lv_aload_n hx hb dX4_judgeWith_57 rfl (lv_at hl 1 rfl) ?_
      obtain ⟨v58, hv, hk⟩ := hk
      refine r_get (ci := 4) (k := 6) (T := TX4) (N := 15) C Z hv ku_4 rfl (by decide) tw_172 dX4_judgeWith_58 ?_
      refine lv_iload hx hb dX4_judgeWith_61 (lv_at hl 0 rfl) ?_
      obtain ⟨v63, hv, hk⟩ := hk
      refine r_iald C Z hv dX4_judgeWith_63 ?_
      refine lv_iload_n hx hb dX4_judgeWith_64 rfl (lv_at hl 2 rfl) ?_
      refine lv_icmp_lt (tgt := 78) hx hb dX4_judgeWith_65 (by decide) (fun q => ?_) (fun q => ?_)
      · have hk := hk.1 q
        refine lv_iconst (v := (nI 0)) hx hb dX4_judgeWith_78 (by decide) ?_
        exact w_X4_judgeWith_79 C hr x0 x1 x2 x3 x4 y49 v52 y49 (nI 0) hk2 ih h _ _ _ (lv_sub hl [1, 2, 3, 4, 5, 0] rfl) Z hk
      · have hk := hk.2 q
        refine lv_aload_n hx hb dX4_judgeWith_68 rfl (lv_at hl 1 rfl) ?_
        obtain ⟨v69, hv, hk⟩ := hk
        refine r_get (ci := 4) (k := 7) (T := TX4) (N := 15) C Z hv ku_4 rfl (by decide) tw_174 dX4_judgeWith_69 ?_
        refine lv_iload hx hb dX4_judgeWith_72 (lv_at hl 0 rfl) ?_
        obtain ⟨v74, hv, hk⟩ := hk
        refine r_iald C Z hv dX4_judgeWith_74 ?_
        refine lv_goto (tgt := 79) hx hb dX4_judgeWith_75 (by decide) ?_
        exact w_X4_judgeWith_79 C hr x0 x1 x2 x3 x4 y49 v52 y49 v74 hk2 ih h _ _ _ (lv_sub hl [1, 2, 3, 4, 5, 0] rfl) Z hk
set_option maxRecDepth 100000 in
set_option maxHeartbeats 4000000 in
theorem w_X4_judgeWith_2 {p : Program} {l : Launch} {e : Env} {s : State} {m : MethodId} {args : Array Value} {below : List Frame} {meth : Method} {c : Code} {g : Gt} {h0 : Hp} (C : Cx g (dm h0) RX4 cX4_judgeWith 6 p s m args meth c) (hr : meth.sig.returnType = none) {Post : Hp → Prop} (x0 : Nat) (x1 : Int32)   : ∀ (n : Nat) (x2 : Int32) (h : Hp) (H : Heap) (locs : List Loc) (ls : Array Slot), lv_has ls 6 [(0, .ref x0), (1, .int x1), (2, .int x2)] → St g (dm h0) s h H locs → wp_X4_judgeWith_2 Post x0 x1 n x2 h → W p l e rmX4_judgeWith s m args below meth c H locs 0 0 (MQ below (Qv g h0 Post) args s 0 0 (dm h0)) (F0 m 2 ls []) := by
  have hx := C.1.1
  have hb := C.1.2.1
  have hml := C.1.2.2.1
  have hown := C.1.2.2.2.1
  have hts := C.1.2.2.2.2
  intro n
  induction n with
  | zero => intro x2 h H locs ls hl Z hk; exact (show False from hk).elim
  | succ n ih =>
    intro x2 h H locs ls hl Z hk
    unfold wp_X4_judgeWith_2 at hk
    refine lv_iload_n hx hb dX4_judgeWith_2 rfl (lv_at hl 2 rfl) ?_
    refine lv_aload_n hx hb dX4_judgeWith_3 rfl (lv_at hl 0 rfl) ?_
    obtain ⟨v4, hv, hk⟩ := hk
    refine r_get (ci := 4) (k := 0) (T := TX4) (N := 15) C Z hv ku_4 rfl (by decide) tw_160 dX4_judgeWith_4 ?_
    obtain ⟨v7, hv, hk⟩ := hk
    refine r_get (ci := 0) (k := 0) (T := TX0) (N := 11) C Z hv ku_0 rfl (by decide) tw_100 dX4_judgeWith_7 ?_
    refine lv_icmp_ge (tgt := 224) hx hb dX4_judgeWith_10 (by decide) (fun q => ?_) (fun q => ?_)
    · have hk := hk.1 q
      exact r_vret C Z hr hk dX4_judgeWith_224
    · have hk := hk.2 q
      refine lv_aload_n hx hb dX4_judgeWith_13 rfl (lv_at hl 0 rfl) ?_
      obtain ⟨v14, hv, hk⟩ := hk
      refine r_get (ci := 4) (k := 0) (T := TX4) (N := 15) C Z hv ku_4 rfl (by decide) tw_160 dX4_judgeWith_14 ?_
      obtain ⟨v17, hv, hk⟩ := hk
      refine r_get (ci := 0) (k := 4) (T := TX0) (N := 11) C Z hv ku_0 rfl (by decide) tw_117 dX4_judgeWith_17 ?_
      refine lv_iload_n hx hb dX4_judgeWith_20 rfl (lv_at hl 2 rfl) ?_
      obtain ⟨v21, hv, hk⟩ := hk
      refine r_iald C Z hv dX4_judgeWith_21 ?_
      refine lv_iconst (v := (nI 2)) hx hb dX4_judgeWith_22 (by decide) ?_
      refine lv_icmp_ne (tgt := 30) hx hb dX4_judgeWith_23 (by decide) (fun q => ?_) (fun q => ?_)
      · have hk := hk.1 q
        refine lv_iconst (v := (nI 0)) hx hb dX4_judgeWith_30 (by decide) ?_
        refine lv_istore_n (lv' := [(3, .int (nI 0)), (0, .ref x0), (1, .int x1), (2, .int x2)]) hx hb dX4_judgeWith_31 rfl hl (by decide) rfl (fun ls hl => ?_)
        refine lv_iconst (v := (nI 0)) hx hb dX4_judgeWith_32 (by decide) ?_
        refine lv_istore (lv' := [(4, .int (nI 0)), (3, .int (nI 0)), (0, .ref x0), (1, .int x1), (2, .int x2)]) hx hb dX4_judgeWith_33 hl (by decide) rfl (fun ls hl => ?_)
        obtain ⟨n1, hk⟩ := hk
        exact w_X4_judgeWith_35 C hr x0 x1 x2 (nI 0) ih n1 (nI 0) h _ _ _ (lv_sub hl [2, 3, 4, 1, 0] rfl) Z hk
      · have hk := hk.2 q
        refine lv_iconst (v := (nI 1)) hx hb dX4_judgeWith_26 (by decide) ?_
        refine lv_goto (tgt := 31) hx hb dX4_judgeWith_27 (by decide) ?_
        refine lv_istore_n (lv' := [(3, .int (nI 1)), (0, .ref x0), (1, .int x1), (2, .int x2)]) hx hb dX4_judgeWith_31 rfl hl (by decide) rfl (fun ls hl => ?_)
        refine lv_iconst (v := (nI 0)) hx hb dX4_judgeWith_32 (by decide) ?_
        refine lv_istore (lv' := [(4, .int (nI 0)), (3, .int (nI 1)), (0, .ref x0), (1, .int x1), (2, .int x2)]) hx hb dX4_judgeWith_33 hl (by decide) rfl (fun ls hl => ?_)
        obtain ⟨n1, hk⟩ := hk
        exact w_X4_judgeWith_35 C hr x0 x1 x2 (nI 1) ih n1 (nI 0) h _ _ _ (lv_sub hl [2, 3, 4, 1, 0] rfl) Z hk
set_option maxRecDepth 100000 in
set_option maxHeartbeats 4000000 in
theorem m_X4_judgeWith (l : Launch) (g : Gt) (h : Hp) (x0 : Nat) (x1 : Int32) (Post : Hp → Prop) (hk : wp_X4_judgeWith x0 x1 Post h) : Met l yX4_judgeWith wzX4_judgeWith rmX4_judgeWith (Pg g h [.ref x0, .int x1]) (Qv g h Post) 0 0 (dm h) := by
  refine Met_of (cc := cX4_judgeWith) (maxL := 6) (ret := none) (by decide) (Nat.le_of_ble_eq_true rfl) (fun p e s m below meth c ls C hr hnm hl Z => ?_)
  have hx := C.1.1
  have hb := C.1.2.1
  have hml := C.1.2.2.1
  have hown := C.1.2.2.2.1
  have hts := C.1.2.2.2.2
  have hl : lv_has ls 6 [(0, .ref x0), (1, .int x1)] := hl
  unfold wp_X4_judgeWith at hk
  generalize s.heap = H at Z ⊢
  generalize ([] : List Loc) = locs at Z ⊢
  refine lv_iconst (v := (nI 0)) hx hb dX4_judgeWith_0 (by decide) ?_
  refine lv_istore_n (lv' := [(2, .int (nI 0)), (0, .ref x0), (1, .int x1)]) hx hb dX4_judgeWith_1 rfl hl (by decide) rfl (fun ls hl => ?_)
  obtain ⟨n1, hk⟩ := hk
  exact w_X4_judgeWith_2 C hr x0 x1 n1 (nI 0) h _ _ _ (lv_sub hl [1, 2, 0] rfl) Z hk
abbrev rmX4_compareWithLast : Room := ({ frames := 1, cells := 0, slots := 0, locals := 21 } : Room)
abbrev wzX4_compareWithLast : List Cond := WS yX4_compareWithLast cX4_compareWithLast 4 none
set_option maxRecDepth 100000 in
set_option maxHeartbeats 4000000 in
theorem w_X4_compareWithLast_37 {p : Program} {l : Launch} {e : Env} {s : State} {m : MethodId} {args : Array Value} {below : List Frame} {meth : Method} {c : Code} {g : Gt} {h0 : Hp} (C : Cx g (dm h0) RX4 cX4_compareWithLast 4 p s m args meth c) (hr : meth.sig.returnType = none) {Post : Hp → Prop} (x0 : Nat) (x1 : Int32) (x2 : Int32)   : ∀ (n : Nat) (x3 : Int32) (h : Hp) (H : Heap) (locs : List Loc) (ls : Array Slot), lv_has ls 4 [(0, .ref x0), (1, .int x1), (2, .int x2), (3, .int x3)] → St g (dm h0) s h H locs → wp_X4_compareWithLast_37 Post x0 x1 x2 n x3 h → W p l e rmX4_compareWithLast s m args below meth c H locs 0 0 (MQ below (Qv g h0 Post) args s 0 0 (dm h0)) (F0 m 37 ls []) := by
  have hx := C.1.1
  have hb := C.1.2.1
  have hml := C.1.2.2.1
  have hown := C.1.2.2.2.1
  have hts := C.1.2.2.2.2
  intro n
  induction n with
  | zero => intro x3 h H locs ls hl Z hk; exact (show False from hk).elim
  | succ n ih =>
    intro x3 h H locs ls hl Z hk
    unfold wp_X4_compareWithLast_37 at hk
    refine lv_iload_n hx hb dX4_compareWithLast_37 rfl (lv_at hl 3 rfl) ?_
    refine lv_aload_n hx hb dX4_compareWithLast_38 rfl (lv_at hl 0 rfl) ?_
    obtain ⟨v39, hv, hk⟩ := hk
    refine r_get (ci := 4) (k := 0) (T := TX4) (N := 15) C Z hv ku_4 rfl (by decide) tw_160 dX4_compareWithLast_39 ?_
    obtain ⟨v42, hv, hk⟩ := hk
    refine r_get (ci := 0) (k := 0) (T := TX0) (N := 11) C Z hv ku_0 rfl (by decide) tw_100 dX4_compareWithLast_42 ?_
    refine lv_icmp_ge (tgt := 93) hx hb dX4_compareWithLast_45 (by decide) (fun q => ?_) (fun q => ?_)
    · have hk := hk.1 q
      exact r_vret C Z hr hk dX4_compareWithLast_93
    · have hk := hk.2 q
      refine lv_aload_n hx hb dX4_compareWithLast_48 rfl (lv_at hl 0 rfl) ?_
      obtain ⟨v49, hv, hk⟩ := hk
      refine r_get (ci := 4) (k := 13) (T := TX4) (N := 15) C Z hv ku_4 rfl (by decide) tw_185 dX4_compareWithLast_49 ?_
      refine lv_iload_n hx hb dX4_compareWithLast_52 rfl (lv_at hl 3 rfl) ?_
      refine lv_iload_n hx hb dX4_compareWithLast_53 rfl (lv_at hl 3 rfl) ?_
      refine lv_iload_n hx hb dX4_compareWithLast_54 rfl (lv_at hl 2 rfl) ?_
      refine lv_icmp_ge (tgt := 85) hx hb dX4_compareWithLast_55 (by decide) (fun q => ?_) (fun q => ?_)
      · have hk := hk.1 q
        refine lv_iconst (v := (nI 0)) hx hb dX4_compareWithLast_85 (by decide) ?_
        obtain ⟨h86, hv, hk⟩ := hk
        refine r_zast C Z hv dX4_compareWithLast_86 (fun H locs Z => ?_)
        obtain ⟨y87, ey87⟩ : ∃ y : Int32, y = x3 + (nI 1) := ⟨_, rfl⟩
        have hk := hk y87 ey87
        refine lv_iinc (v := y87) (lv' := [(3, .int y87), (0, .ref x0), (1, .int x1), (2, .int x2)]) hx hb dX4_compareWithLast_87 hl (k := 3) rfl (by rw [ey87]; rfl) (by decide) rfl (fun ls hl => ?_)
        refine lv_goto (tgt := 37) hx hb dX4_compareWithLast_90 (by decide) ?_
        exact ih y87 h86 _ _ _ (lv_sub hl [1, 2, 3, 0] rfl) Z hk
      · have hk := hk.2 q
        refine lv_aload_n hx hb dX4_compareWithLast_58 rfl (lv_at hl 0 rfl) ?_
        obtain ⟨v59, hv, hk⟩ := hk
        refine r_get (ci := 4) (k := 11) (T := TX4) (N := 15) C Z hv ku_4 rfl (by decide) tw_181 dX4_compareWithLast_59 ?_
        refine lv_iload_n hx hb dX4_compareWithLast_62 rfl (lv_at hl 3 rfl) ?_
        obtain ⟨v63, hv, hk⟩ := hk
        refine r_iald C Z hv dX4_compareWithLast_63 ?_
        refine lv_aload_n hx hb dX4_compareWithLast_64 rfl (lv_at hl 0 rfl) ?_
        obtain ⟨v65, hv, hk⟩ := hk
        refine r_get (ci := 4) (k := 0) (T := TX4) (N := 15) C Z hv ku_4 rfl (by decide) tw_160 dX4_compareWithLast_65 ?_
        obtain ⟨v68, hv, hk⟩ := hk
        refine r_get (ci := 0) (k := 10) (T := TX0) (N := 11) C Z hv ku_0 rfl (by decide) tw_134 dX4_compareWithLast_68 ?_
        refine lv_iload_n hx hb dX4_compareWithLast_71 rfl (lv_at hl 1 rfl) ?_
        refine lv_bipush (v := (nI 40)) hx hb dX4_compareWithLast_72 (by decide) ?_
        refine lv_imul hx hb dX4_compareWithLast_74 ?_
        refine lv_iload_n hx hb dX4_compareWithLast_75 rfl (lv_at hl 3 rfl) ?_
        refine lv_iadd hx hb dX4_compareWithLast_76 ?_
        obtain ⟨v77, hv, hk⟩ := hk
        refine r_iald C Z hv dX4_compareWithLast_77 ?_
        refine lv_icmp_eq (tgt := 85) hx hb dX4_compareWithLast_78 (by decide) (fun q => ?_) (fun q => ?_)
        · have hk := hk.1 q
          refine lv_iconst (v := (nI 0)) hx hb dX4_compareWithLast_85 (by decide) ?_
          obtain ⟨h86, hv, hk⟩ := hk
          refine r_zast C Z hv dX4_compareWithLast_86 (fun H locs Z => ?_)
          obtain ⟨y87, ey87⟩ : ∃ y : Int32, y = x3 + (nI 1) := ⟨_, rfl⟩
          have hk := hk y87 ey87
          refine lv_iinc (v := y87) (lv' := [(3, .int y87), (0, .ref x0), (1, .int x1), (2, .int x2)]) hx hb dX4_compareWithLast_87 hl (k := 3) rfl (by rw [ey87]; rfl) (by decide) rfl (fun ls hl => ?_)
          refine lv_goto (tgt := 37) hx hb dX4_compareWithLast_90 (by decide) ?_
          exact ih y87 h86 _ _ _ (lv_sub hl [1, 2, 3, 0] rfl) Z hk
        · have hk := hk.2 q
          refine lv_iconst (v := (nI 1)) hx hb dX4_compareWithLast_81 (by decide) ?_
          refine lv_goto (tgt := 86) hx hb dX4_compareWithLast_82 (by decide) ?_
          obtain ⟨h86, hv, hk⟩ := hk
          refine r_zast C Z hv dX4_compareWithLast_86 (fun H locs Z => ?_)
          obtain ⟨y87, ey87⟩ : ∃ y : Int32, y = x3 + (nI 1) := ⟨_, rfl⟩
          have hk := hk y87 ey87
          refine lv_iinc (v := y87) (lv' := [(3, .int y87), (0, .ref x0), (1, .int x1), (2, .int x2)]) hx hb dX4_compareWithLast_87 hl (k := 3) rfl (by rw [ey87]; rfl) (by decide) rfl (fun ls hl => ?_)
          refine lv_goto (tgt := 37) hx hb dX4_compareWithLast_90 (by decide) ?_
          exact ih y87 h86 _ _ _ (lv_sub hl [1, 2, 3, 0] rfl) Z hk
set_option maxRecDepth 100000 in
set_option maxHeartbeats 4000000 in
theorem m_X4_compareWithLast (l : Launch) (g : Gt) (h : Hp) (x0 : Nat) (Post : Hp → Prop) (hk : wp_X4_compareWithLast x0 Post h) : Met l yX4_compareWithLast wzX4_compareWithLast rmX4_compareWithLast (Pg g h [.ref x0]) (Qv g h Post) 0 0 (dm h) := by
  refine Met_of (cc := cX4_compareWithLast) (maxL := 4) (ret := none) (by decide) (Nat.le_of_ble_eq_true rfl) (fun p e s m below meth c ls C hr hnm hl Z => ?_)
  have hx := C.1.1
  have hb := C.1.2.1
  have hml := C.1.2.2.1
  have hown := C.1.2.2.2.1
  have hts := C.1.2.2.2.2
  have hl : lv_has ls 4 [(0, .ref x0)] := hl
  unfold wp_X4_compareWithLast at hk
  generalize s.heap = H at Z ⊢
  generalize ([] : List Loc) = locs at Z ⊢
  refine lv_aload_n hx hb dX4_compareWithLast_0 rfl (lv_at hl 0 rfl) ?_
  obtain ⟨v1, hv, hk⟩ := hk
  refine r_get (ci := 4) (k := 0) (T := TX4) (N := 15) C Z hv ku_4 rfl (by decide) tw_160 dX4_compareWithLast_1 ?_
  obtain ⟨v4, hv, hk⟩ := hk
  refine r_get (ci := 0) (k := 1) (T := TX0) (N := 11) C Z hv ku_0 rfl (by decide) tw_105 dX4_compareWithLast_4 ?_
  refine lv_iconst (v := (nI 1)) hx hb dX4_compareWithLast_7 (by decide) ?_
  refine lv_isub hx hb dX4_compareWithLast_8 ?_
  refine lv_topi (fun y9 ey9 => ?_)
  have hk := hk y9 ey9
  refine lv_istore_n (lv' := [(1, .int y9), (0, .ref x0)]) hx hb dX4_compareWithLast_9 rfl hl (by decide) rfl (fun ls hl => ?_)
  refine lv_aload_n hx hb dX4_compareWithLast_10 rfl (lv_at hl 1 rfl) ?_
  obtain ⟨v11, hv, hk⟩ := hk
  refine r_get (ci := 4) (k := 0) (T := TX4) (N := 15) C Z hv ku_4 rfl (by decide) tw_160 dX4_compareWithLast_11 ?_
  refine lv_iload_n hx hb dX4_compareWithLast_14 rfl (lv_at hl 0 rfl) ?_
  obtain ⟨ho, hk⟩ := hk
  refine r_calli Z (r_runV (As := [.int y9]) (rest := []) C Z (m_X0_hasVersion l g h v11 y9 _ hk) ho rfl (cwV 1 C.1.2.2.2.2 (gV tw_476 tw_477 tw_478 tw_60 tw_479) rfl rfl rfl (by decide +kernel) ⟨Nat.le_of_ble_eq_true rfl, Nat.le_of_ble_eq_true rfl⟩) rfl hl.1 rfl (Nat.le_of_ble_eq_true rfl) dX4_compareWithLast_15 ⟨Nat.zero_le _, Nat.zero_le _⟩) (fun r15 h15 H locs hk Z => ?_)
  refine lv_if_eq (tgt := 33) hx hb dX4_compareWithLast_18 (by decide) (fun q => ?_) (fun q => ?_)
  · have hk := hk.1 q
    refine lv_iconst (v := (nI 0)) hx hb dX4_compareWithLast_33 (by decide) ?_
    refine lv_istore_n (lv' := [(2, .int (nI 0)), (1, .int y9), (0, .ref x0)]) hx hb dX4_compareWithLast_34 rfl hl (by decide) rfl (fun ls hl => ?_)
    refine lv_iconst (v := (nI 0)) hx hb dX4_compareWithLast_35 (by decide) ?_
    refine lv_istore_n (lv' := [(3, .int (nI 0)), (2, .int (nI 0)), (1, .int y9), (0, .ref x0)]) hx hb dX4_compareWithLast_36 rfl hl (by decide) rfl (fun ls hl => ?_)
    obtain ⟨n1, hk⟩ := hk
    exact w_X4_compareWithLast_37 C hr x0 y9 (nI 0) n1 (nI 0) h15 _ _ _ (lv_sub hl [3, 2, 1, 0] rfl) Z hk
  · have hk := hk.2 q
    refine lv_aload_n hx hb dX4_compareWithLast_21 rfl (lv_at hl 1 rfl) ?_
    obtain ⟨v22, hv, hk⟩ := hk
    refine r_get (ci := 4) (k := 0) (T := TX4) (N := 15) C Z hv ku_4 rfl (by decide) tw_160 dX4_compareWithLast_22 ?_
    obtain ⟨v25, hv, hk⟩ := hk
    refine r_get (ci := 0) (k := 9) (T := TX0) (N := 11) C Z hv ku_0 rfl (by decide) tw_132 dX4_compareWithLast_25 ?_
    refine lv_iload_n hx hb dX4_compareWithLast_28 rfl (lv_at hl 0 rfl) ?_
    obtain ⟨v29, hv, hk⟩ := hk
    refine r_iald C Z hv dX4_compareWithLast_29 ?_
    refine lv_goto (tgt := 34) hx hb dX4_compareWithLast_30 (by decide) ?_
    refine lv_istore_n (lv' := [(2, .int v29), (1, .int y9), (0, .ref x0)]) hx hb dX4_compareWithLast_34 rfl hl (by decide) rfl (fun ls hl => ?_)
    refine lv_iconst (v := (nI 0)) hx hb dX4_compareWithLast_35 (by decide) ?_
    refine lv_istore_n (lv' := [(3, .int (nI 0)), (2, .int v29), (1, .int y9), (0, .ref x0)]) hx hb dX4_compareWithLast_36 rfl hl (by decide) rfl (fun ls hl => ?_)
    obtain ⟨n1, hk⟩ := hk
    exact w_X4_compareWithLast_37 C hr x0 y9 v29 n1 (nI 0) h15 _ _ _ (lv_sub hl [3, 2, 1, 0] rfl) Z hk
abbrev rmX4_workOut : Room := ({ frames := 3, cells := 0, slots := 0, locals := 67 } : Room)
abbrev wzX4_workOut : List Cond := WS yX4_workOut cX4_workOut 2 none
set_option maxRecDepth 100000 in
set_option maxHeartbeats 4000000 in
theorem w_X4_workOut_37 {p : Program} {l : Launch} {e : Env} {s : State} {m : MethodId} {args : Array Value} {below : List Frame} {meth : Method} {c : Code} {g : Gt} {h0 : Hp} (C : Cx g (dm h0) RX4 cX4_workOut 2 p s m args meth c) (hr : meth.sig.returnType = none) {Post : Hp → Prop} (x0 : Nat)   : ∀ (n : Nat) (x1 : Int32) (h : Hp) (H : Heap) (locs : List Loc) (ls : Array Slot), lv_has ls 2 [(0, .ref x0), (1, .int x1)] → St g (dm h0) s h H locs → wp_X4_workOut_37 Post x0 n x1 h → W p l e rmX4_workOut s m args below meth c H locs 0 0 (MQ below (Qv g h0 Post) args s 0 0 (dm h0)) (F0 m 37 ls []) := by
  have hx := C.1.1
  have hb := C.1.2.1
  have hml := C.1.2.2.1
  have hown := C.1.2.2.2.1
  have hts := C.1.2.2.2.2
  intro n
  induction n with
  | zero => intro x1 h H locs ls hl Z hk; exact (show False from hk).elim
  | succ n ih =>
    intro x1 h H locs ls hl Z hk
    unfold wp_X4_workOut_37 at hk
    refine lv_iload_n hx hb dX4_workOut_37 rfl (lv_at hl 1 rfl) ?_
    refine lv_bipush (v := (nI 12)) hx hb dX4_workOut_38 (by decide) ?_
    refine lv_icmp_ge (tgt := 59) hx hb dX4_workOut_40 (by decide) (fun q => ?_) (fun q => ?_)
    · have hk := hk.1 q
      refine lv_aload_n hx hb dX4_workOut_59 rfl (lv_at hl 0 rfl) ?_
      refine lv_aload_n hx hb dX4_workOut_60 rfl (lv_at hl 0 rfl) ?_
      obtain ⟨v61, hv, hk⟩ := hk
      refine r_get (ci := 4) (k := 0) (T := TX4) (N := 15) C Z hv ku_4 rfl (by decide) tw_160 dX4_workOut_61 ?_
      obtain ⟨v64, hv, hk⟩ := hk
      refine r_get (ci := 0) (k := 8) (T := TX0) (N := 11) C Z hv ku_0 rfl (by decide) tw_128 dX4_workOut_64 ?_
      refine lv_iconst (v := (nI 0)) hx hb dX4_workOut_67 (by decide) ?_
      obtain ⟨v68, hv, hk⟩ := hk
      refine r_iald C Z hv dX4_workOut_68 ?_
      obtain ⟨ho, hk⟩ := hk
      refine r_callv Z (r_runV (As := [.int v68]) (rest := []) C Z (m_X4_judgeWith l g h x0 v68 _ hk) ho rfl (cwV 1 C.1.2.2.2.2 (gV tw_460 tw_462 tw_6 tw_59 tw_463) rfl rfl rfl (by decide +kernel) ⟨Nat.le_of_ble_eq_true rfl, Nat.le_of_ble_eq_true rfl⟩) rfl hl.1 rfl (Nat.le_of_ble_eq_true rfl) dX4_workOut_69 ⟨Nat.zero_le _, Nat.zero_le _⟩) (fun h69 H locs hk Z => ?_)
      refine lv_aload_n hx hb dX4_workOut_72 rfl (lv_at hl 0 rfl) ?_
      obtain ⟨ho, hk⟩ := hk
      refine r_callv Z (r_runV (As := []) (rest := []) C Z (m_X4_compareWithLast l g h69 x0 _ hk) ho rfl (cwV 0 C.1.2.2.2.2 (gV tw_472 tw_474 tw_9 tw_59 tw_475) rfl rfl rfl (by decide +kernel) ⟨Nat.le_of_ble_eq_true rfl, Nat.le_of_ble_eq_true rfl⟩) rfl hl.1 rfl (Nat.le_of_ble_eq_true rfl) dX4_workOut_73 ⟨Nat.zero_le _, Nat.zero_le _⟩) (fun h73 H locs hk Z => ?_)
      exact r_vret C Z hr hk dX4_workOut_76
    · have hk := hk.2 q
      refine lv_aload_n hx hb dX4_workOut_43 rfl (lv_at hl 0 rfl) ?_
      refine lv_iload_n hx hb dX4_workOut_44 rfl (lv_at hl 1 rfl) ?_
      obtain ⟨ho, hk⟩ := hk
      refine r_callv Z (r_runV (As := [.int x1]) (rest := []) C Z (m_X4_growRuns l g h x0 x1 _ hk) ho rfl (cwV 1 C.1.2.2.2.2 (gV tw_442 tw_444 tw_3 tw_59 tw_445) rfl rfl rfl (by decide +kernel) ⟨Nat.le_of_ble_eq_true rfl, Nat.le_of_ble_eq_true rfl⟩) rfl hl.1 rfl (Nat.le_of_ble_eq_true rfl) dX4_workOut_45 ⟨Nat.zero_le _, Nat.zero_le _⟩) (fun h45 H locs hk Z => ?_)
      refine lv_aload_n hx hb dX4_workOut_48 rfl (lv_at hl 0 rfl) ?_
      refine lv_iload_n hx hb dX4_workOut_49 rfl (lv_at hl 1 rfl) ?_
      obtain ⟨ho, hk⟩ := hk
      refine r_callv Z (r_runV (As := [.int x1]) (rest := []) C Z (m_X4_closeRuns l g h45 x0 x1 _ hk) ho rfl (cwV 1 C.1.2.2.2.2 (gV tw_456 tw_458 tw_5 tw_59 tw_459) rfl rfl rfl (by decide +kernel) ⟨Nat.le_of_ble_eq_true rfl, Nat.le_of_ble_eq_true rfl⟩) rfl hl.1 rfl (Nat.le_of_ble_eq_true rfl) dX4_workOut_50 ⟨Nat.zero_le _, Nat.zero_le _⟩) (fun h50 H locs hk Z => ?_)
      obtain ⟨y53, ey53⟩ : ∃ y : Int32, y = x1 + (nI 1) := ⟨_, rfl⟩
      have hk := hk y53 ey53
      refine lv_iinc (v := y53) (lv' := [(1, .int y53), (0, .ref x0)]) hx hb dX4_workOut_53 hl (k := 1) rfl (by rw [ey53]; rfl) (by decide) rfl (fun ls hl => ?_)
      refine lv_goto (tgt := 37) hx hb dX4_workOut_56 (by decide) ?_
      exact ih y53 h50 _ _ _ (lv_sub hl [1, 0] rfl) Z hk
set_option maxRecDepth 100000 in
set_option maxHeartbeats 4000000 in
theorem w_X4_workOut_2 {p : Program} {l : Launch} {e : Env} {s : State} {m : MethodId} {args : Array Value} {below : List Frame} {meth : Method} {c : Code} {g : Gt} {h0 : Hp} (C : Cx g (dm h0) RX4 cX4_workOut 2 p s m args meth c) (hr : meth.sig.returnType = none) {Post : Hp → Prop} (x0 : Nat)   : ∀ (n : Nat) (x1 : Int32) (h : Hp) (H : Heap) (locs : List Loc) (ls : Array Slot), lv_has ls 2 [(0, .ref x0), (1, .int x1)] → St g (dm h0) s h H locs → wp_X4_workOut_2 Post x0 n x1 h → W p l e rmX4_workOut s m args below meth c H locs 0 0 (MQ below (Qv g h0 Post) args s 0 0 (dm h0)) (F0 m 2 ls []) := by
  have hx := C.1.1
  have hb := C.1.2.1
  have hml := C.1.2.2.1
  have hown := C.1.2.2.2.1
  have hts := C.1.2.2.2.2
  intro n
  induction n with
  | zero => intro x1 h H locs ls hl Z hk; exact (show False from hk).elim
  | succ n ih =>
    intro x1 h H locs ls hl Z hk
    unfold wp_X4_workOut_2 at hk
    refine lv_iload_n hx hb dX4_workOut_2 rfl (lv_at hl 1 rfl) ?_
    refine lv_aload_n hx hb dX4_workOut_3 rfl (lv_at hl 0 rfl) ?_
    obtain ⟨v4, hv, hk⟩ := hk
    refine r_get (ci := 4) (k := 0) (T := TX4) (N := 15) C Z hv ku_4 rfl (by decide) tw_160 dX4_workOut_4 ?_
    obtain ⟨v7, hv, hk⟩ := hk
    refine r_get (ci := 0) (k := 0) (T := TX0) (N := 11) C Z hv ku_0 rfl (by decide) tw_100 dX4_workOut_7 ?_
    refine lv_icmp_ge (tgt := 35) hx hb dX4_workOut_10 (by decide) (fun q => ?_) (fun q => ?_)
    · have hk := hk.1 q
      refine lv_iconst (v := (nI 0)) hx hb dX4_workOut_35 (by decide) ?_
      refine lv_istore_n (lv' := [(1, .int (nI 0)), (0, .ref x0)]) hx hb dX4_workOut_36 rfl hl (by decide) rfl (fun ls hl => ?_)
      obtain ⟨n1, hk⟩ := hk
      exact w_X4_workOut_37 C hr x0 n1 (nI 0) h _ _ _ (lv_sub hl [1, 0] rfl) Z hk
    · have hk := hk.2 q
      refine lv_aload_n hx hb dX4_workOut_13 rfl (lv_at hl 0 rfl) ?_
      obtain ⟨v14, hv, hk⟩ := hk
      refine r_get (ci := 4) (k := 1) (T := TX4) (N := 15) C Z hv ku_4 rfl (by decide) tw_163 dX4_workOut_14 ?_
      refine lv_iload_n hx hb dX4_workOut_17 rfl (lv_at hl 1 rfl) ?_
      refine lv_aload_n hx hb dX4_workOut_18 rfl (lv_at hl 0 rfl) ?_
      refine lv_iload_n hx hb dX4_workOut_19 rfl (lv_at hl 1 rfl) ?_
      obtain ⟨ho, hk⟩ := hk
      refine r_calli Z (r_runV (As := [.int x1]) (rest := [.int x1, .ref v14]) C Z (m_X4_previousOf l g h x0 x1 _ hk) ho rfl (cwV 1 C.1.2.2.2.2 (gV tw_431 tw_433 tw_1 tw_59 tw_434) rfl rfl rfl (by decide +kernel) ⟨Nat.le_of_ble_eq_true rfl, Nat.le_of_ble_eq_true rfl⟩) rfl hl.1 rfl (Nat.le_of_ble_eq_true rfl) dX4_workOut_20 ⟨Nat.zero_le _, Nat.zero_le _⟩) (fun r20 h20 H locs hk Z => ?_)
      obtain ⟨h23, hv, hk⟩ := hk
      refine r_iast C Z hv dX4_workOut_23 (fun H locs Z => ?_)
      refine lv_aload_n hx hb dX4_workOut_24 rfl (lv_at hl 0 rfl) ?_
      refine lv_iload_n hx hb dX4_workOut_25 rfl (lv_at hl 1 rfl) ?_
      obtain ⟨ho, hk⟩ := hk
      refine r_callv Z (r_runV (As := [.int x1]) (rest := []) C Z (m_X4_readDigits l g h23 x0 x1 _ hk) ho rfl (cwV 1 C.1.2.2.2.2 (gV tw_435 tw_437 tw_2 tw_59 tw_438) rfl rfl rfl (by decide +kernel) ⟨Nat.le_of_ble_eq_true rfl, Nat.le_of_ble_eq_true rfl⟩) rfl hl.1 rfl (Nat.le_of_ble_eq_true rfl) dX4_workOut_26 ⟨Nat.zero_le _, Nat.zero_le _⟩) (fun h26 H locs hk Z => ?_)
      obtain ⟨y29, ey29⟩ : ∃ y : Int32, y = x1 + (nI 1) := ⟨_, rfl⟩
      have hk := hk y29 ey29
      refine lv_iinc (v := y29) (lv' := [(1, .int y29), (0, .ref x0)]) hx hb dX4_workOut_29 hl (k := 1) rfl (by rw [ey29]; rfl) (by decide) rfl (fun ls hl => ?_)
      refine lv_goto (tgt := 2) hx hb dX4_workOut_32 (by decide) ?_
      exact ih y29 h26 _ _ _ (lv_sub hl [1, 0] rfl) Z hk
set_option maxRecDepth 100000 in
set_option maxHeartbeats 4000000 in
theorem m_X4_workOut (l : Launch) (g : Gt) (h : Hp) (x0 : Nat) (Post : Hp → Prop) (hk : wp_X4_workOut x0 Post h) : Met l yX4_workOut wzX4_workOut rmX4_workOut (Pg g h [.ref x0]) (Qv g h Post) 0 0 (dm h) := by
  refine Met_of (cc := cX4_workOut) (maxL := 2) (ret := none) (by decide) (Nat.le_of_ble_eq_true rfl) (fun p e s m below meth c ls C hr hnm hl Z => ?_)
  have hx := C.1.1
  have hb := C.1.2.1
  have hml := C.1.2.2.1
  have hown := C.1.2.2.2.1
  have hts := C.1.2.2.2.2
  have hl : lv_has ls 2 [(0, .ref x0)] := hl
  unfold wp_X4_workOut at hk
  generalize s.heap = H at Z ⊢
  generalize ([] : List Loc) = locs at Z ⊢
  refine lv_iconst (v := (nI 0)) hx hb dX4_workOut_0 (by decide) ?_
  refine lv_istore_n (lv' := [(1, .int (nI 0)), (0, .ref x0)]) hx hb dX4_workOut_1 rfl hl (by decide) rfl (fun ls hl => ?_)
  obtain ⟨n1, hk⟩ := hk
  exact w_X4_workOut_2 C hr x0 n1 (nI 0) h _ _ _ (lv_sub hl [1, 0] rfl) Z hk
abbrev rmX4_unseenChanging : Room := ({ frames := 0, cells := 0, slots := 0, locals := 0 } : Room)
abbrev wzX4_unseenChanging : List Cond := WS yX4_unseenChanging cX4_unseenChanging 3 (some .int)
set_option maxRecDepth 100000 in
set_option maxHeartbeats 4000000 in
theorem w_X4_unseenChanging_4 {p : Program} {l : Launch} {e : Env} {s : State} {m : MethodId} {args : Array Value} {below : List Frame} {meth : Method} {c : Code} {g : Gt} {h0 : Hp} (C : Cx g (dm h0) RX4 cX4_unseenChanging 3 p s m args meth c) (hr : meth.sig.returnType = (some .int)) {Post : Int32 → Hp → Prop} (x0 : Nat)   : ∀ (n : Nat) (x1 : Int32) (x2 : Int32) (h : Hp) (H : Heap) (locs : List Loc) (ls : Array Slot), lv_has ls 3 [(0, .ref x0), (1, .int x1), (2, .int x2)] → St g (dm h0) s h H locs → wp_X4_unseenChanging_4 Post x0 n x1 x2 h → W p l e rmX4_unseenChanging s m args below meth c H locs 0 0 (MQ below (Qi g h0 Post) args s 0 0 (dm h0)) (F0 m 4 ls []) := by
  have hx := C.1.1
  have hb := C.1.2.1
  have hml := C.1.2.2.1
  have hown := C.1.2.2.2.1
  have hts := C.1.2.2.2.2
  intro n
  induction n with
  | zero => intro x1 x2 h H locs ls hl Z hk; exact (show False from hk).elim
  | succ n ih =>
    intro x1 x2 h H locs ls hl Z hk
    unfold wp_X4_unseenChanging_4 at hk
    refine lv_iload_n hx hb dX4_unseenChanging_4 rfl (lv_at hl 2 rfl) ?_
    refine lv_aload_n hx hb dX4_unseenChanging_5 rfl (lv_at hl 0 rfl) ?_
    obtain ⟨v6, hv, hk⟩ := hk
    refine r_get (ci := 4) (k := 0) (T := TX4) (N := 15) C Z hv ku_4 rfl (by decide) tw_160 dX4_unseenChanging_6 ?_
    obtain ⟨v9, hv, hk⟩ := hk
    refine r_get (ci := 0) (k := 0) (T := TX0) (N := 11) C Z hv ku_0 rfl (by decide) tw_100 dX4_unseenChanging_9 ?_
    refine lv_icmp_ge (tgt := 46) hx hb dX4_unseenChanging_12 (by decide) (fun q => ?_) (fun q => ?_)
    · have hk := hk.1 q
      refine lv_iload_n hx hb dX4_unseenChanging_46 rfl (lv_at hl 1 rfl) ?_
      exact r_iret C Z hr hk dX4_unseenChanging_47
    · have hk := hk.2 q
      refine lv_aload_n hx hb dX4_unseenChanging_15 rfl (lv_at hl 0 rfl) ?_
      obtain ⟨v16, hv, hk⟩ := hk
      refine r_get (ci := 4) (k := 13) (T := TX4) (N := 15) C Z hv ku_4 rfl (by decide) tw_185 dX4_unseenChanging_16 ?_
      refine lv_iload_n hx hb dX4_unseenChanging_19 rfl (lv_at hl 2 rfl) ?_
      obtain ⟨v20, hv, hk⟩ := hk
      refine r_zald C Z hv dX4_unseenChanging_20 ?_
      refine lv_if_eq (tgt := 40) hx hb dX4_unseenChanging_21 (by decide) (fun q => ?_) (fun q => ?_)
      · have hk := hk.1 q
        obtain ⟨y40, ey40⟩ : ∃ y : Int32, y = x2 + (nI 1) := ⟨_, rfl⟩
        have hk := hk y40 ey40
        refine lv_iinc (v := y40) (lv' := [(2, .int y40), (0, .ref x0), (1, .int x1)]) hx hb dX4_unseenChanging_40 hl (k := 2) rfl (by rw [ey40]; rfl) (by decide) rfl (fun ls hl => ?_)
        refine lv_goto (tgt := 4) hx hb dX4_unseenChanging_43 (by decide) ?_
        exact ih x1 y40 h _ _ _ (lv_sub hl [1, 2, 0] rfl) Z hk
      · have hk := hk.2 q
        refine lv_aload_n hx hb dX4_unseenChanging_24 rfl (lv_at hl 0 rfl) ?_
        obtain ⟨v25, hv, hk⟩ := hk
        refine r_get (ci := 4) (k := 0) (T := TX4) (N := 15) C Z hv ku_4 rfl (by decide) tw_160 dX4_unseenChanging_25 ?_
        obtain ⟨v28, hv, hk⟩ := hk
        refine r_get (ci := 0) (k := 4) (T := TX0) (N := 11) C Z hv ku_0 rfl (by decide) tw_117 dX4_unseenChanging_28 ?_
        refine lv_iload_n hx hb dX4_unseenChanging_31 rfl (lv_at hl 2 rfl) ?_
        obtain ⟨v32, hv, hk⟩ := hk
        refine r_iald C Z hv dX4_unseenChanging_32 ?_
        refine lv_iconst (v := (nI 2)) hx hb dX4_unseenChanging_33 (by decide) ?_
        refine lv_icmp_eq (tgt := 40) hx hb dX4_unseenChanging_34 (by decide) (fun q => ?_) (fun q => ?_)
        · have hk := hk.1 q
          obtain ⟨y40, ey40⟩ : ∃ y : Int32, y = x2 + (nI 1) := ⟨_, rfl⟩
          have hk := hk y40 ey40
          refine lv_iinc (v := y40) (lv' := [(2, .int y40), (0, .ref x0), (1, .int x1)]) hx hb dX4_unseenChanging_40 hl (k := 2) rfl (by rw [ey40]; rfl) (by decide) rfl (fun ls hl => ?_)
          refine lv_goto (tgt := 4) hx hb dX4_unseenChanging_43 (by decide) ?_
          exact ih x1 y40 h _ _ _ (lv_sub hl [1, 2, 0] rfl) Z hk
        · have hk := hk.2 q
          obtain ⟨y37, ey37⟩ : ∃ y : Int32, y = x1 + (nI 1) := ⟨_, rfl⟩
          have hk := hk y37 ey37
          refine lv_iinc (v := y37) (lv' := [(1, .int y37), (0, .ref x0), (2, .int x2)]) hx hb dX4_unseenChanging_37 hl (k := 1) rfl (by rw [ey37]; rfl) (by decide) rfl (fun ls hl => ?_)
          obtain ⟨y40, ey40⟩ : ∃ y : Int32, y = x2 + (nI 1) := ⟨_, rfl⟩
          have hk := hk y40 ey40
          refine lv_iinc (v := y40) (lv' := [(2, .int y40), (1, .int y37), (0, .ref x0)]) hx hb dX4_unseenChanging_40 hl (k := 2) rfl (by rw [ey40]; rfl) (by decide) rfl (fun ls hl => ?_)
          refine lv_goto (tgt := 4) hx hb dX4_unseenChanging_43 (by decide) ?_
          exact ih y37 y40 h _ _ _ (lv_sub hl [2, 1, 0] rfl) Z hk
set_option maxRecDepth 100000 in
set_option maxHeartbeats 4000000 in
theorem m_X4_unseenChanging (l : Launch) (g : Gt) (h : Hp) (x0 : Nat) (Post : Int32 → Hp → Prop) (hk : wp_X4_unseenChanging x0 Post h) : Met l yX4_unseenChanging wzX4_unseenChanging rmX4_unseenChanging (Pg g h [.ref x0]) (Qi g h Post) 0 0 (dm h) := by
  refine Met_of (cc := cX4_unseenChanging) (maxL := 3) (ret := (some .int)) (by decide) (Nat.le_of_ble_eq_true rfl) (fun p e s m below meth c ls C hr hnm hl Z => ?_)
  have hx := C.1.1
  have hb := C.1.2.1
  have hml := C.1.2.2.1
  have hown := C.1.2.2.2.1
  have hts := C.1.2.2.2.2
  have hl : lv_has ls 3 [(0, .ref x0)] := hl
  unfold wp_X4_unseenChanging at hk
  generalize s.heap = H at Z ⊢
  generalize ([] : List Loc) = locs at Z ⊢
  refine lv_iconst (v := (nI 0)) hx hb dX4_unseenChanging_0 (by decide) ?_
  refine lv_istore_n (lv' := [(1, .int (nI 0)), (0, .ref x0)]) hx hb dX4_unseenChanging_1 rfl hl (by decide) rfl (fun ls hl => ?_)
  refine lv_iconst (v := (nI 0)) hx hb dX4_unseenChanging_2 (by decide) ?_
  refine lv_istore_n (lv' := [(2, .int (nI 0)), (1, .int (nI 0)), (0, .ref x0)]) hx hb dX4_unseenChanging_3 rfl hl (by decide) rfl (fun ls hl => ?_)
  obtain ⟨n1, hk⟩ := hk
  exact w_X4_unseenChanging_4 C hr x0 n1 (nI 0) (nI 0) h _ _ _ (lv_sub hl [2, 1, 0] rfl) Z hk
abbrev rmX4_cardsChanging : Room := ({ frames := 0, cells := 0, slots := 0, locals := 0 } : Room)
abbrev wzX4_cardsChanging : List Cond := WS yX4_cardsChanging cX4_cardsChanging 3 (some .int)
set_option maxRecDepth 100000 in
set_option maxHeartbeats 4000000 in
theorem w_X4_cardsChanging_4 {p : Program} {l : Launch} {e : Env} {s : State} {m : MethodId} {args : Array Value} {below : List Frame} {meth : Method} {c : Code} {g : Gt} {h0 : Hp} (C : Cx g (dm h0) RX4 cX4_cardsChanging 3 p s m args meth c) (hr : meth.sig.returnType = (some .int)) {Post : Int32 → Hp → Prop} (x0 : Nat)   : ∀ (n : Nat) (x1 : Int32) (x2 : Int32) (h : Hp) (H : Heap) (locs : List Loc) (ls : Array Slot), lv_has ls 3 [(0, .ref x0), (1, .int x1), (2, .int x2)] → St g (dm h0) s h H locs → wp_X4_cardsChanging_4 Post x0 n x1 x2 h → W p l e rmX4_cardsChanging s m args below meth c H locs 0 0 (MQ below (Qi g h0 Post) args s 0 0 (dm h0)) (F0 m 4 ls []) := by
  have hx := C.1.1
  have hb := C.1.2.1
  have hml := C.1.2.2.1
  have hown := C.1.2.2.2.1
  have hts := C.1.2.2.2.2
  intro n
  induction n with
  | zero => intro x1 x2 h H locs ls hl Z hk; exact (show False from hk).elim
  | succ n ih =>
    intro x1 x2 h H locs ls hl Z hk
    unfold wp_X4_cardsChanging_4 at hk
    refine lv_iload_n hx hb dX4_cardsChanging_4 rfl (lv_at hl 2 rfl) ?_
    refine lv_aload_n hx hb dX4_cardsChanging_5 rfl (lv_at hl 0 rfl) ?_
    obtain ⟨v6, hv, hk⟩ := hk
    refine r_get (ci := 4) (k := 0) (T := TX4) (N := 15) C Z hv ku_4 rfl (by decide) tw_160 dX4_cardsChanging_6 ?_
    obtain ⟨v9, hv, hk⟩ := hk
    refine r_get (ci := 0) (k := 0) (T := TX0) (N := 11) C Z hv ku_0 rfl (by decide) tw_100 dX4_cardsChanging_9 ?_
    refine lv_icmp_ge (tgt := 33) hx hb dX4_cardsChanging_12 (by decide) (fun q => ?_) (fun q => ?_)
    · have hk := hk.1 q
      refine lv_iload_n hx hb dX4_cardsChanging_33 rfl (lv_at hl 1 rfl) ?_
      exact r_iret C Z hr hk dX4_cardsChanging_34
    · have hk := hk.2 q
      refine lv_aload_n hx hb dX4_cardsChanging_15 rfl (lv_at hl 0 rfl) ?_
      obtain ⟨v16, hv, hk⟩ := hk
      refine r_get (ci := 4) (k := 13) (T := TX4) (N := 15) C Z hv ku_4 rfl (by decide) tw_185 dX4_cardsChanging_16 ?_
      refine lv_iload_n hx hb dX4_cardsChanging_19 rfl (lv_at hl 2 rfl) ?_
      obtain ⟨v20, hv, hk⟩ := hk
      refine r_zald C Z hv dX4_cardsChanging_20 ?_
      refine lv_if_eq (tgt := 27) hx hb dX4_cardsChanging_21 (by decide) (fun q => ?_) (fun q => ?_)
      · have hk := hk.1 q
        obtain ⟨y27, ey27⟩ : ∃ y : Int32, y = x2 + (nI 1) := ⟨_, rfl⟩
        have hk := hk y27 ey27
        refine lv_iinc (v := y27) (lv' := [(2, .int y27), (0, .ref x0), (1, .int x1)]) hx hb dX4_cardsChanging_27 hl (k := 2) rfl (by rw [ey27]; rfl) (by decide) rfl (fun ls hl => ?_)
        refine lv_goto (tgt := 4) hx hb dX4_cardsChanging_30 (by decide) ?_
        exact ih x1 y27 h _ _ _ (lv_sub hl [1, 2, 0] rfl) Z hk
      · have hk := hk.2 q
        obtain ⟨y24, ey24⟩ : ∃ y : Int32, y = x1 + (nI 1) := ⟨_, rfl⟩
        have hk := hk y24 ey24
        refine lv_iinc (v := y24) (lv' := [(1, .int y24), (0, .ref x0), (2, .int x2)]) hx hb dX4_cardsChanging_24 hl (k := 1) rfl (by rw [ey24]; rfl) (by decide) rfl (fun ls hl => ?_)
        obtain ⟨y27, ey27⟩ : ∃ y : Int32, y = x2 + (nI 1) := ⟨_, rfl⟩
        have hk := hk y27 ey27
        refine lv_iinc (v := y27) (lv' := [(2, .int y27), (1, .int y24), (0, .ref x0)]) hx hb dX4_cardsChanging_27 hl (k := 2) rfl (by rw [ey27]; rfl) (by decide) rfl (fun ls hl => ?_)
        refine lv_goto (tgt := 4) hx hb dX4_cardsChanging_30 (by decide) ?_
        exact ih y24 y27 h _ _ _ (lv_sub hl [2, 1, 0] rfl) Z hk
set_option maxRecDepth 100000 in
set_option maxHeartbeats 4000000 in
theorem m_X4_cardsChanging (l : Launch) (g : Gt) (h : Hp) (x0 : Nat) (Post : Int32 → Hp → Prop) (hk : wp_X4_cardsChanging x0 Post h) : Met l yX4_cardsChanging wzX4_cardsChanging rmX4_cardsChanging (Pg g h [.ref x0]) (Qi g h Post) 0 0 (dm h) := by
  refine Met_of (cc := cX4_cardsChanging) (maxL := 3) (ret := (some .int)) (by decide) (Nat.le_of_ble_eq_true rfl) (fun p e s m below meth c ls C hr hnm hl Z => ?_)
  have hx := C.1.1
  have hb := C.1.2.1
  have hml := C.1.2.2.1
  have hown := C.1.2.2.2.1
  have hts := C.1.2.2.2.2
  have hl : lv_has ls 3 [(0, .ref x0)] := hl
  unfold wp_X4_cardsChanging at hk
  generalize s.heap = H at Z ⊢
  generalize ([] : List Loc) = locs at Z ⊢
  refine lv_iconst (v := (nI 0)) hx hb dX4_cardsChanging_0 (by decide) ?_
  refine lv_istore_n (lv' := [(1, .int (nI 0)), (0, .ref x0)]) hx hb dX4_cardsChanging_1 rfl hl (by decide) rfl (fun ls hl => ?_)
  refine lv_iconst (v := (nI 0)) hx hb dX4_cardsChanging_2 (by decide) ?_
  refine lv_istore_n (lv' := [(2, .int (nI 0)), (1, .int (nI 0)), (0, .ref x0)]) hx hb dX4_cardsChanging_3 rfl hl (by decide) rfl (fun ls hl => ?_)
  obtain ⟨n1, hk⟩ := hk
  exact w_X4_cardsChanging_4 C hr x0 n1 (nI 0) (nI 0) h _ _ _ (lv_sub hl [2, 1, 0] rfl) Z hk
abbrev rmX4_inPool : Room := ({ frames := 0, cells := 0, slots := 0, locals := 0 } : Room)
abbrev wzX4_inPool : List Cond := WS yX4_inPool cX4_inPool 2 (some .boolean)
set_option maxRecDepth 100000 in
set_option maxHeartbeats 4000000 in
theorem m_X4_inPool (l : Launch) (g : Gt) (h : Hp) (x0 : Nat) (x1 : Int32) (Post : Int32 → Hp → Prop) (hk : wp_X4_inPool x0 x1 Post h) : Met l yX4_inPool wzX4_inPool rmX4_inPool (Pg g h [.ref x0, .int x1]) (Qi g h Post) 0 0 (dm h) := by
  refine Met_of (cc := cX4_inPool) (maxL := 2) (ret := (some .boolean)) (by decide) (Nat.le_of_ble_eq_true rfl) (fun p e s m below meth c ls C hr hnm hl Z => ?_)
  have hx := C.1.1
  have hb := C.1.2.1
  have hml := C.1.2.2.1
  have hown := C.1.2.2.2.1
  have hts := C.1.2.2.2.2
  have hl : lv_has ls 2 [(0, .ref x0), (1, .int x1)] := hl
  unfold wp_X4_inPool at hk
  generalize s.heap = H at Z ⊢
  generalize ([] : List Loc) = locs at Z ⊢
  refine lv_iload_n hx hb dX4_inPool_0 rfl (lv_at hl 1 rfl) ?_
  refine lv_if_lt (tgt := 27) hx hb dX4_inPool_1 (by decide) (fun q => ?_) (fun q => ?_)
  · have hk := hk.1 q
    refine lv_iconst (v := (nI 0)) hx hb dX4_inPool_27 (by decide) ?_
    exact r_zret C Z hr (Or.inl rfl) hk dX4_inPool_28
  · have hk := hk.2 q
    refine lv_iload_n hx hb dX4_inPool_4 rfl (lv_at hl 1 rfl) ?_
    refine lv_aload_n hx hb dX4_inPool_5 rfl (lv_at hl 0 rfl) ?_
    obtain ⟨v6, hv, hk⟩ := hk
    refine r_get (ci := 4) (k := 0) (T := TX4) (N := 15) C Z hv ku_4 rfl (by decide) tw_160 dX4_inPool_6 ?_
    obtain ⟨v9, hv, hk⟩ := hk
    refine r_get (ci := 0) (k := 0) (T := TX0) (N := 11) C Z hv ku_0 rfl (by decide) tw_100 dX4_inPool_9 ?_
    refine lv_icmp_ge (tgt := 27) hx hb dX4_inPool_12 (by decide) (fun q => ?_) (fun q => ?_)
    · have hk := hk.1 q
      refine lv_iconst (v := (nI 0)) hx hb dX4_inPool_27 (by decide) ?_
      exact r_zret C Z hr (Or.inl rfl) hk dX4_inPool_28
    · have hk := hk.2 q
      refine lv_aload_n hx hb dX4_inPool_15 rfl (lv_at hl 0 rfl) ?_
      obtain ⟨v16, hv, hk⟩ := hk
      refine r_get (ci := 4) (k := 0) (T := TX4) (N := 15) C Z hv ku_4 rfl (by decide) tw_160 dX4_inPool_16 ?_
      obtain ⟨v19, hv, hk⟩ := hk
      refine r_get (ci := 0) (k := 4) (T := TX0) (N := 11) C Z hv ku_0 rfl (by decide) tw_117 dX4_inPool_19 ?_
      refine lv_iload_n hx hb dX4_inPool_22 rfl (lv_at hl 1 rfl) ?_
      obtain ⟨v23, hv, hk⟩ := hk
      refine r_iald C Z hv dX4_inPool_23 ?_
      refine lv_if_eq (tgt := 29) hx hb dX4_inPool_24 (by decide) (fun q => ?_) (fun q => ?_)
      · have hk := hk.1 q
        refine lv_aload_n hx hb dX4_inPool_29 rfl (lv_at hl 0 rfl) ?_
        obtain ⟨v30, hv, hk⟩ := hk
        refine r_get (ci := 4) (k := 12) (T := TX4) (N := 15) C Z hv ku_4 rfl (by decide) tw_183 dX4_inPool_30 ?_
        refine lv_iload_n hx hb dX4_inPool_33 rfl (lv_at hl 1 rfl) ?_
        obtain ⟨v34, hv, hk⟩ := hk
        refine r_iald C Z hv dX4_inPool_34 ?_
        refine lv_if_ne (tgt := 47) hx hb dX4_inPool_35 (by decide) (fun q => ?_) (fun q => ?_)
        · have hk := hk.1 q
          refine lv_iconst (v := (nI 1)) hx hb dX4_inPool_47 (by decide) ?_
          refine lv_goto (tgt := 52) hx hb dX4_inPool_48 (by decide) ?_
          exact r_zret C Z hr (Or.inr rfl) hk dX4_inPool_52
        · have hk := hk.2 q
          refine lv_aload_n hx hb dX4_inPool_38 rfl (lv_at hl 0 rfl) ?_
          obtain ⟨v39, hv, hk⟩ := hk
          refine r_get (ci := 4) (k := 13) (T := TX4) (N := 15) C Z hv ku_4 rfl (by decide) tw_185 dX4_inPool_39 ?_
          refine lv_iload_n hx hb dX4_inPool_42 rfl (lv_at hl 1 rfl) ?_
          obtain ⟨v43, hv, hk⟩ := hk
          refine r_zald C Z hv dX4_inPool_43 ?_
          refine lv_if_eq (tgt := 51) hx hb dX4_inPool_44 (by decide) (fun q => ?_) (fun q => ?_)
          · have hk := hk.1 q
            refine lv_iconst (v := (nI 0)) hx hb dX4_inPool_51 (by decide) ?_
            exact r_zret C Z hr (Or.inl rfl) hk dX4_inPool_52
          · have hk := hk.2 q
            refine lv_iconst (v := (nI 1)) hx hb dX4_inPool_47 (by decide) ?_
            refine lv_goto (tgt := 52) hx hb dX4_inPool_48 (by decide) ?_
            exact r_zret C Z hr (Or.inr rfl) hk dX4_inPool_52
      · have hk := hk.2 q
        refine lv_iconst (v := (nI 0)) hx hb dX4_inPool_27 (by decide) ?_
        exact r_zret C Z hr (Or.inl rfl) hk dX4_inPool_28
abbrev rmX4_placeInPool : Room := ({ frames := 1, cells := 0, slots := 0, locals := 21 } : Room)
abbrev wzX4_placeInPool : List Cond := WS yX4_placeInPool cX4_placeInPool 4 (some .int)
set_option maxRecDepth 100000 in
set_option maxHeartbeats 4000000 in
theorem w_X4_placeInPool_4 {p : Program} {l : Launch} {e : Env} {s : State} {m : MethodId} {args : Array Value} {below : List Frame} {meth : Method} {c : Code} {g : Gt} {h0 : Hp} (C : Cx g (dm h0) RX4 cX4_placeInPool 4 p s m args meth c) (hr : meth.sig.returnType = (some .int)) {Post : Int32 → Hp → Prop} (x0 : Nat) (x1 : Int32)   : ∀ (n : Nat) (x2 : Int32) (x3 : Int32) (h : Hp) (H : Heap) (locs : List Loc) (ls : Array Slot), lv_has ls 4 [(0, .ref x0), (1, .int x1), (2, .int x2), (3, .int x3)] → St g (dm h0) s h H locs → wp_X4_placeInPool_4 Post x0 x1 n x2 x3 h → W p l e rmX4_placeInPool s m args below meth c H locs 0 0 (MQ below (Qi g h0 Post) args s 0 0 (dm h0)) (F0 m 4 ls []) := by
  have hx := C.1.1
  have hb := C.1.2.1
  have hml := C.1.2.2.1
  have hown := C.1.2.2.2.1
  have hts := C.1.2.2.2.2
  intro n
  induction n with
  | zero => intro x2 x3 h H locs ls hl Z hk; exact (show False from hk).elim
  | succ n ih =>
    intro x2 x3 h H locs ls hl Z hk
    unfold wp_X4_placeInPool_4 at hk
    refine lv_iload_n hx hb dX4_placeInPool_4 rfl (lv_at hl 3 rfl) ?_
    refine lv_iload_n hx hb dX4_placeInPool_5 rfl (lv_at hl 1 rfl) ?_
    refine lv_icmp_ge (tgt := 37) hx hb dX4_placeInPool_6 (by decide) (fun q => ?_) (fun q => ?_)
    · have hk := hk.1 q
      refine lv_iload_n hx hb dX4_placeInPool_37 rfl (lv_at hl 2 rfl) ?_
      exact r_iret C Z hr hk dX4_placeInPool_38
    · have hk := hk.2 q
      refine lv_iload_n hx hb dX4_placeInPool_9 rfl (lv_at hl 3 rfl) ?_
      refine lv_aload_n hx hb dX4_placeInPool_10 rfl (lv_at hl 0 rfl) ?_
      obtain ⟨v11, hv, hk⟩ := hk
      refine r_get (ci := 4) (k := 0) (T := TX4) (N := 15) C Z hv ku_4 rfl (by decide) tw_160 dX4_placeInPool_11 ?_
      obtain ⟨v14, hv, hk⟩ := hk
      refine r_get (ci := 0) (k := 0) (T := TX0) (N := 11) C Z hv ku_0 rfl (by decide) tw_100 dX4_placeInPool_14 ?_
      refine lv_icmp_ge (tgt := 37) hx hb dX4_placeInPool_17 (by decide) (fun q => ?_) (fun q => ?_)
      · have hk := hk.1 q
        refine lv_iload_n hx hb dX4_placeInPool_37 rfl (lv_at hl 2 rfl) ?_
        exact r_iret C Z hr hk dX4_placeInPool_38
      · have hk := hk.2 q
        refine lv_aload_n hx hb dX4_placeInPool_20 rfl (lv_at hl 0 rfl) ?_
        refine lv_iload_n hx hb dX4_placeInPool_21 rfl (lv_at hl 3 rfl) ?_
        obtain ⟨ho, hk⟩ := hk
        refine r_calli Z (r_runV (As := [.int x3]) (rest := []) C Z (m_X4_inPool l g h x0 x3 _ hk) ho rfl (cwV 1 C.1.2.2.2.2 (gV tw_509 tw_510 tw_511 tw_59 tw_512) rfl rfl rfl (by decide +kernel) ⟨Nat.le_of_ble_eq_true rfl, Nat.le_of_ble_eq_true rfl⟩) rfl hl.1 rfl (Nat.le_of_ble_eq_true rfl) dX4_placeInPool_22 ⟨Nat.zero_le _, Nat.zero_le _⟩) (fun r22 h22 H locs hk Z => ?_)
        refine lv_if_eq (tgt := 31) hx hb dX4_placeInPool_25 (by decide) (fun q => ?_) (fun q => ?_)
        · have hk := hk.1 q
          obtain ⟨y31, ey31⟩ : ∃ y : Int32, y = x3 + (nI 1) := ⟨_, rfl⟩
          have hk := hk y31 ey31
          refine lv_iinc (v := y31) (lv' := [(3, .int y31), (0, .ref x0), (1, .int x1), (2, .int x2)]) hx hb dX4_placeInPool_31 hl (k := 3) rfl (by rw [ey31]; rfl) (by decide) rfl (fun ls hl => ?_)
          refine lv_goto (tgt := 4) hx hb dX4_placeInPool_34 (by decide) ?_
          exact ih x2 y31 h22 _ _ _ (lv_sub hl [1, 2, 3, 0] rfl) Z hk
        · have hk := hk.2 q
          obtain ⟨y28, ey28⟩ : ∃ y : Int32, y = x2 + (nI 1) := ⟨_, rfl⟩
          have hk := hk y28 ey28
          refine lv_iinc (v := y28) (lv' := [(2, .int y28), (0, .ref x0), (1, .int x1), (3, .int x3)]) hx hb dX4_placeInPool_28 hl (k := 2) rfl (by rw [ey28]; rfl) (by decide) rfl (fun ls hl => ?_)
          obtain ⟨y31, ey31⟩ : ∃ y : Int32, y = x3 + (nI 1) := ⟨_, rfl⟩
          have hk := hk y31 ey31
          refine lv_iinc (v := y31) (lv' := [(3, .int y31), (2, .int y28), (0, .ref x0), (1, .int x1)]) hx hb dX4_placeInPool_31 hl (k := 3) rfl (by rw [ey31]; rfl) (by decide) rfl (fun ls hl => ?_)
          refine lv_goto (tgt := 4) hx hb dX4_placeInPool_34 (by decide) ?_
          exact ih y28 y31 h22 _ _ _ (lv_sub hl [2, 3, 1, 0] rfl) Z hk
set_option maxRecDepth 100000 in
set_option maxHeartbeats 4000000 in
theorem m_X4_placeInPool (l : Launch) (g : Gt) (h : Hp) (x0 : Nat) (x1 : Int32) (Post : Int32 → Hp → Prop) (hk : wp_X4_placeInPool x0 x1 Post h) : Met l yX4_placeInPool wzX4_placeInPool rmX4_placeInPool (Pg g h [.ref x0, .int x1]) (Qi g h Post) 0 0 (dm h) := by
  refine Met_of (cc := cX4_placeInPool) (maxL := 4) (ret := (some .int)) (by decide) (Nat.le_of_ble_eq_true rfl) (fun p e s m below meth c ls C hr hnm hl Z => ?_)
  have hx := C.1.1
  have hb := C.1.2.1
  have hml := C.1.2.2.1
  have hown := C.1.2.2.2.1
  have hts := C.1.2.2.2.2
  have hl : lv_has ls 4 [(0, .ref x0), (1, .int x1)] := hl
  unfold wp_X4_placeInPool at hk
  generalize s.heap = H at Z ⊢
  generalize ([] : List Loc) = locs at Z ⊢
  refine lv_iconst (v := (nI 0)) hx hb dX4_placeInPool_0 (by decide) ?_
  refine lv_istore_n (lv' := [(2, .int (nI 0)), (0, .ref x0), (1, .int x1)]) hx hb dX4_placeInPool_1 rfl hl (by decide) rfl (fun ls hl => ?_)
  refine lv_iconst (v := (nI 0)) hx hb dX4_placeInPool_2 (by decide) ?_
  refine lv_istore_n (lv' := [(3, .int (nI 0)), (2, .int (nI 0)), (0, .ref x0), (1, .int x1)]) hx hb dX4_placeInPool_3 rfl hl (by decide) rfl (fun ls hl => ?_)
  obtain ⟨n1, hk⟩ := hk
  exact w_X4_placeInPool_4 C hr x0 x1 n1 (nI 0) (nI 0) h _ _ _ (lv_sub hl [2, 3, 1, 0] rfl) Z hk
abbrev rmX4_poolSize : Room := ({ frames := 2, cells := 0, slots := 0, locals := 44 } : Room)
abbrev wzX4_poolSize : List Cond := WS yX4_poolSize cX4_poolSize 1 (some .int)
set_option maxRecDepth 100000 in
set_option maxHeartbeats 4000000 in
theorem m_X4_poolSize (l : Launch) (g : Gt) (h : Hp) (x0 : Nat) (Post : Int32 → Hp → Prop) (hk : wp_X4_poolSize x0 Post h) : Met l yX4_poolSize wzX4_poolSize rmX4_poolSize (Pg g h [.ref x0]) (Qi g h Post) 0 0 (dm h) := by
  refine Met_of (cc := cX4_poolSize) (maxL := 1) (ret := (some .int)) (by decide) (Nat.le_of_ble_eq_true rfl) (fun p e s m below meth c ls C hr hnm hl Z => ?_)
  have hx := C.1.1
  have hb := C.1.2.1
  have hml := C.1.2.2.1
  have hown := C.1.2.2.2.1
  have hts := C.1.2.2.2.2
  have hl : lv_has ls 1 [(0, .ref x0)] := hl
  unfold wp_X4_poolSize at hk
  generalize s.heap = H at Z ⊢
  generalize ([] : List Loc) = locs at Z ⊢
  refine lv_aload_n hx hb dX4_poolSize_0 rfl (lv_at hl 0 rfl) ?_
  refine lv_aload_n hx hb dX4_poolSize_1 rfl (lv_at hl 0 rfl) ?_
  obtain ⟨v2, hv, hk⟩ := hk
  refine r_get (ci := 4) (k := 0) (T := TX4) (N := 15) C Z hv ku_4 rfl (by decide) tw_160 dX4_poolSize_2 ?_
  obtain ⟨v5, hv, hk⟩ := hk
  refine r_get (ci := 0) (k := 0) (T := TX0) (N := 11) C Z hv ku_0 rfl (by decide) tw_100 dX4_poolSize_5 ?_
  obtain ⟨ho, hk⟩ := hk
  refine r_calli Z (r_runV (As := [.int v5]) (rest := []) C Z (m_X4_placeInPool l g h x0 v5 _ hk) ho rfl (cwV 1 C.1.2.2.2.2 (gV tw_505 tw_506 tw_507 tw_59 tw_508) rfl rfl rfl (by decide +kernel) ⟨Nat.le_of_ble_eq_true rfl, Nat.le_of_ble_eq_true rfl⟩) rfl hl.1 rfl (Nat.le_of_ble_eq_true rfl) dX4_poolSize_8 ⟨Nat.zero_le _, Nat.zero_le _⟩) (fun r8 h8 H locs hk Z => ?_)
  exact r_iret C Z hr hk dX4_poolSize_11
abbrev rmX4_poolCard : Room := ({ frames := 1, cells := 0, slots := 0, locals := 21 } : Room)
abbrev wzX4_poolCard : List Cond := WS yX4_poolCard cX4_poolCard 4 (some .int)
set_option maxRecDepth 100000 in
set_option maxHeartbeats 4000000 in
theorem w_X4_poolCard_4 {p : Program} {l : Launch} {e : Env} {s : State} {m : MethodId} {args : Array Value} {below : List Frame} {meth : Method} {c : Code} {g : Gt} {h0 : Hp} (C : Cx g (dm h0) RX4 cX4_poolCard 4 p s m args meth c) (hr : meth.sig.returnType = (some .int)) {Post : Int32 → Hp → Prop} (x0 : Nat) (x1 : Int32)   : ∀ (n : Nat) (x2 : Int32) (x3 : Int32) (h : Hp) (H : Heap) (locs : List Loc) (ls : Array Slot), lv_has ls 4 [(0, .ref x0), (1, .int x1), (2, .int x2), (3, .int x3)] → St g (dm h0) s h H locs → wp_X4_poolCard_4 Post x0 x1 n x2 x3 h → W p l e rmX4_poolCard s m args below meth c H locs 0 0 (MQ below (Qi g h0 Post) args s 0 0 (dm h0)) (F0 m 4 ls []) := by
  have hx := C.1.1
  have hb := C.1.2.1
  have hml := C.1.2.2.1
  have hown := C.1.2.2.2.1
  have hts := C.1.2.2.2.2
  intro n
  induction n with
  | zero => intro x2 x3 h H locs ls hl Z hk; exact (show False from hk).elim
  | succ n ih =>
    intro x2 x3 h H locs ls hl Z hk
    unfold wp_X4_poolCard_4 at hk
    refine lv_iload_n hx hb dX4_poolCard_4 rfl (lv_at hl 3 rfl) ?_
    refine lv_aload_n hx hb dX4_poolCard_5 rfl (lv_at hl 0 rfl) ?_
    obtain ⟨v6, hv, hk⟩ := hk
    refine r_get (ci := 4) (k := 0) (T := TX4) (N := 15) C Z hv ku_4 rfl (by decide) tw_160 dX4_poolCard_6 ?_
    obtain ⟨v9, hv, hk⟩ := hk
    refine r_get (ci := 0) (k := 0) (T := TX0) (N := 11) C Z hv ku_0 rfl (by decide) tw_100 dX4_poolCard_9 ?_
    refine lv_icmp_ge (tgt := 42) hx hb dX4_poolCard_12 (by decide) (fun q => ?_) (fun q => ?_)
    · have hk := hk.1 q
      refine lv_bipush (v := (-9 : Int32)) hx hb dX4_poolCard_42 (by decide) ?_
      exact r_iret C Z hr hk dX4_poolCard_44
    · have hk := hk.2 q
      refine lv_aload_n hx hb dX4_poolCard_15 rfl (lv_at hl 0 rfl) ?_
      refine lv_iload_n hx hb dX4_poolCard_16 rfl (lv_at hl 3 rfl) ?_
      obtain ⟨ho, hk⟩ := hk
      refine r_calli Z (r_runV (As := [.int x3]) (rest := []) C Z (m_X4_inPool l g h x0 x3 _ hk) ho rfl (cwV 1 C.1.2.2.2.2 (gV tw_509 tw_510 tw_511 tw_59 tw_512) rfl rfl rfl (by decide +kernel) ⟨Nat.le_of_ble_eq_true rfl, Nat.le_of_ble_eq_true rfl⟩) rfl hl.1 rfl (Nat.le_of_ble_eq_true rfl) dX4_poolCard_17 ⟨Nat.zero_le _, Nat.zero_le _⟩) (fun r17 h17 H locs hk Z => ?_)
      refine lv_if_ne (tgt := 26) hx hb dX4_poolCard_20 (by decide) (fun q => ?_) (fun q => ?_)
      · have hk := hk.1 q
        refine lv_iload_n hx hb dX4_poolCard_26 rfl (lv_at hl 2 rfl) ?_
        refine lv_iload_n hx hb dX4_poolCard_27 rfl (lv_at hl 1 rfl) ?_
        refine lv_icmp_ne (tgt := 33) hx hb dX4_poolCard_28 (by decide) (fun q => ?_) (fun q => ?_)
        · have hk := hk.1 q
          obtain ⟨y33, ey33⟩ : ∃ y : Int32, y = x2 + (nI 1) := ⟨_, rfl⟩
          have hk := hk y33 ey33
          refine lv_iinc (v := y33) (lv' := [(2, .int y33), (0, .ref x0), (1, .int x1), (3, .int x3)]) hx hb dX4_poolCard_33 hl (k := 2) rfl (by rw [ey33]; rfl) (by decide) rfl (fun ls hl => ?_)
          obtain ⟨y36, ey36⟩ : ∃ y : Int32, y = x3 + (nI 1) := ⟨_, rfl⟩
          have hk := hk y36 ey36
          refine lv_iinc (v := y36) (lv' := [(3, .int y36), (2, .int y33), (0, .ref x0), (1, .int x1)]) hx hb dX4_poolCard_36 hl (k := 3) rfl (by rw [ey36]; rfl) (by decide) rfl (fun ls hl => ?_)
          refine lv_goto (tgt := 4) hx hb dX4_poolCard_39 (by decide) ?_
          exact ih y33 y36 h17 _ _ _ (lv_sub hl [2, 3, 1, 0] rfl) Z hk
        · have hk := hk.2 q
          refine lv_iload_n hx hb dX4_poolCard_31 rfl (lv_at hl 3 rfl) ?_
          exact r_iret C Z hr hk dX4_poolCard_32
      · have hk := hk.2 q
        refine lv_goto (tgt := 36) hx hb dX4_poolCard_23 (by decide) ?_
        obtain ⟨y36, ey36⟩ : ∃ y : Int32, y = x3 + (nI 1) := ⟨_, rfl⟩
        have hk := hk y36 ey36
        refine lv_iinc (v := y36) (lv' := [(3, .int y36), (0, .ref x0), (1, .int x1), (2, .int x2)]) hx hb dX4_poolCard_36 hl (k := 3) rfl (by rw [ey36]; rfl) (by decide) rfl (fun ls hl => ?_)
        refine lv_goto (tgt := 4) hx hb dX4_poolCard_39 (by decide) ?_
        exact ih x2 y36 h17 _ _ _ (lv_sub hl [1, 2, 3, 0] rfl) Z hk
set_option maxRecDepth 100000 in
set_option maxHeartbeats 4000000 in
theorem m_X4_poolCard (l : Launch) (g : Gt) (h : Hp) (x0 : Nat) (x1 : Int32) (Post : Int32 → Hp → Prop) (hk : wp_X4_poolCard x0 x1 Post h) : Met l yX4_poolCard wzX4_poolCard rmX4_poolCard (Pg g h [.ref x0, .int x1]) (Qi g h Post) 0 0 (dm h) := by
  refine Met_of (cc := cX4_poolCard) (maxL := 4) (ret := (some .int)) (by decide) (Nat.le_of_ble_eq_true rfl) (fun p e s m below meth c ls C hr hnm hl Z => ?_)
  have hx := C.1.1
  have hb := C.1.2.1
  have hml := C.1.2.2.1
  have hown := C.1.2.2.2.1
  have hts := C.1.2.2.2.2
  have hl : lv_has ls 4 [(0, .ref x0), (1, .int x1)] := hl
  unfold wp_X4_poolCard at hk
  generalize s.heap = H at Z ⊢
  generalize ([] : List Loc) = locs at Z ⊢
  refine lv_iconst (v := (nI 0)) hx hb dX4_poolCard_0 (by decide) ?_
  refine lv_istore_n (lv' := [(2, .int (nI 0)), (0, .ref x0), (1, .int x1)]) hx hb dX4_poolCard_1 rfl hl (by decide) rfl (fun ls hl => ?_)
  refine lv_iconst (v := (nI 0)) hx hb dX4_poolCard_2 (by decide) ?_
  refine lv_istore_n (lv' := [(3, .int (nI 0)), (2, .int (nI 0)), (0, .ref x0), (1, .int x1)]) hx hb dX4_poolCard_3 rfl hl (by decide) rfl (fun ls hl => ?_)
  obtain ⟨n1, hk⟩ := hk
  exact w_X4_poolCard_4 C hr x0 x1 n1 (nI 0) (nI 0) h _ _ _ (lv_sub hl [2, 3, 1, 0] rfl) Z hk
abbrev rmX4_streaks : Room := ({ frames := 0, cells := 0, slots := 0, locals := 0 } : Room)
abbrev wzX4_streaks : List Cond := WS yX4_streaks cX4_streaks 5 (some .int)
set_option maxRecDepth 100000 in
set_option maxHeartbeats 4000000 in
theorem w_X4_streaks_17 {p : Program} {l : Launch} {e : Env} {s : State} {m : MethodId} {args : Array Value} {below : List Frame} {meth : Method} {c : Code} {g : Gt} {h0 : Hp} (C : Cx g (dm h0) RX4 cX4_streaks 5 p s m args meth c) (hr : meth.sig.returnType = (some .int)) {Post : Int32 → Hp → Prop} (x0 : Nat) (x2 : Int32) {k4 : Int32 → Int32 → Hp → Prop} (hk4 : ∀ (x1 : Int32) (x2 : Int32) (h : Hp) (H : Heap) (locs : List Loc) (ls : Array Slot), lv_has ls 5 [(0, .ref x0), (1, .int x1), (2, .int x2)] → St g (dm h0) s h H locs → k4 x1 x2 h → W p l e rmX4_streaks s m args below meth c H locs 0 0 (MQ below (Qi g h0 Post) args s 0 0 (dm h0)) (F0 m 4 ls [])) : ∀ (n : Nat) (x1 : Int32) (x3 : Int32) (h : Hp) (H : Heap) (locs : List Loc) (ls : Array Slot), lv_has ls 5 [(0, .ref x0), (1, .int x1), (2, .int x2), (3, .int x3)] → St g (dm h0) s h H locs → wp_X4_streaks_17 Post k4 x0 x2 n x1 x3 h → W p l e rmX4_streaks s m args below meth c H locs 0 0 (MQ below (Qi g h0 Post) args s 0 0 (dm h0)) (F0 m 17 ls []) := by
  have hx := C.1.1
  have hb := C.1.2.1
  have hml := C.1.2.2.1
  have hown := C.1.2.2.2.1
  have hts := C.1.2.2.2.2
  intro n
  induction n with
  | zero => intro x1 x3 h H locs ls hl Z hk; exact (show False from hk).elim
  | succ n ih =>
    intro x1 x3 h H locs ls hl Z hk
    unfold wp_X4_streaks_17 at hk
    refine lv_iload_n hx hb dX4_streaks_17 rfl (lv_at hl 3 rfl) ?_
    refine lv_bipush (v := (nI 12)) hx hb dX4_streaks_18 (by decide) ?_
    refine lv_icmp_ge (tgt := 70) hx hb dX4_streaks_20 (by decide) (fun q => ?_) (fun q => ?_)
    · have hk := hk.1 q
      obtain ⟨y70, ey70⟩ : ∃ y : Int32, y = x2 + (nI 1) := ⟨_, rfl⟩
      have hk := hk y70 ey70
      refine lv_iinc (v := y70) (lv' := [(2, .int y70), (0, .ref x0), (1, .int x1), (3, .int x3)]) hx hb dX4_streaks_70 hl (k := 2) rfl (by rw [ey70]; rfl) (by decide) rfl (fun ls hl => ?_)
      refine lv_goto (tgt := 4) hx hb dX4_streaks_73 (by decide) ?_
      exact hk4 x1 y70 h _ _ _ (lv_sub hl [1, 2, 0] rfl) Z hk
    · have hk := hk.2 q
      refine lv_iload_n hx hb dX4_streaks_23 rfl (lv_at hl 2 rfl) ?_
      refine lv_bipush (v := (nI 12)) hx hb dX4_streaks_24 (by decide) ?_
      refine lv_imul hx hb dX4_streaks_26 ?_
      refine lv_iload_n hx hb dX4_streaks_27 rfl (lv_at hl 3 rfl) ?_
      refine lv_iadd hx hb dX4_streaks_28 ?_
      refine lv_topi (fun y29 ey29 => ?_)
      have hk := hk y29 ey29
      refine lv_istore (lv' := [(4, .int y29), (0, .ref x0), (1, .int x1), (2, .int x2), (3, .int x3)]) hx hb dX4_streaks_29 hl (by decide) rfl (fun ls hl => ?_)
      refine lv_aload_n hx hb dX4_streaks_31 rfl (lv_at hl 1 rfl) ?_
      obtain ⟨v32, hv, hk⟩ := hk
      refine r_get (ci := 4) (k := 4) (T := TX4) (N := 15) C Z hv ku_4 rfl (by decide) tw_168 dX4_streaks_32 ?_
      refine lv_iload hx hb dX4_streaks_35 (lv_at hl 0 rfl) ?_
      obtain ⟨v37, hv, hk⟩ := hk
      refine r_iald C Z hv dX4_streaks_37 ?_
      refine lv_iload_n hx hb dX4_streaks_38 rfl (lv_at hl 3 rfl) ?_
      refine lv_icmp_ne (tgt := 64) hx hb dX4_streaks_39 (by decide) (fun q => ?_) (fun q => ?_)
      · have hk := hk.1 q
        obtain ⟨y64, ey64⟩ : ∃ y : Int32, y = x3 + (nI 1) := ⟨_, rfl⟩
        have hk := hk y64 ey64
        refine lv_iinc (v := y64) (lv' := [(3, .int y64), (4, .int y29), (0, .ref x0), (1, .int x1), (2, .int x2)]) hx hb dX4_streaks_64 hl (k := 4) rfl (by rw [ey64]; rfl) (by decide) rfl (fun ls hl => ?_)
        refine lv_goto (tgt := 17) hx hb dX4_streaks_67 (by decide) ?_
        exact ih x1 y64 h _ _ _ (lv_sub hl [2, 3, 4, 0] rfl) Z hk
      · have hk := hk.2 q
        refine lv_aload_n hx hb dX4_streaks_42 rfl (lv_at hl 1 rfl) ?_
        obtain ⟨v43, hv, hk⟩ := hk
        refine r_get (ci := 4) (k := 6) (T := TX4) (N := 15) C Z hv ku_4 rfl (by decide) tw_172 dX4_streaks_43 ?_
        refine lv_iload hx hb dX4_streaks_46 (lv_at hl 0 rfl) ?_
        obtain ⟨v48, hv, hk⟩ := hk
        refine r_iald C Z hv dX4_streaks_48 ?_
        refine lv_aload_n hx hb dX4_streaks_49 rfl (lv_at hl 1 rfl) ?_
        obtain ⟨v50, hv, hk⟩ := hk
        refine r_get (ci := 4) (k := 0) (T := TX4) (N := 15) C Z hv ku_4 rfl (by decide) tw_160 dX4_streaks_50 ?_
        obtain ⟨v53, hv, hk⟩ := hk
        refine r_get (ci := 0) (k := 8) (T := TX0) (N := 11) C Z hv ku_0 rfl (by decide) tw_128 dX4_streaks_53 ?_
        refine lv_iconst (v := (nI 0)) hx hb dX4_streaks_56 (by decide) ?_
        obtain ⟨v57, hv, hk⟩ := hk
        refine r_iald C Z hv dX4_streaks_57 ?_
        refine lv_icmp_lt (tgt := 64) hx hb dX4_streaks_58 (by decide) (fun q => ?_) (fun q => ?_)
        · have hk := hk.1 q
          obtain ⟨y64, ey64⟩ : ∃ y : Int32, y = x3 + (nI 1) := ⟨_, rfl⟩
          have hk := hk y64 ey64
          refine lv_iinc (v := y64) (lv' := [(3, .int y64), (4, .int y29), (0, .ref x0), (1, .int x1), (2, .int x2)]) hx hb dX4_streaks_64 hl (k := 4) rfl (by rw [ey64]; rfl) (by decide) rfl (fun ls hl => ?_)
          refine lv_goto (tgt := 17) hx hb dX4_streaks_67 (by decide) ?_
          exact ih x1 y64 h _ _ _ (lv_sub hl [2, 3, 4, 0] rfl) Z hk
        · have hk := hk.2 q
          obtain ⟨y61, ey61⟩ : ∃ y : Int32, y = x1 + (nI 1) := ⟨_, rfl⟩
          have hk := hk y61 ey61
          refine lv_iinc (v := y61) (lv' := [(1, .int y61), (4, .int y29), (0, .ref x0), (2, .int x2), (3, .int x3)]) hx hb dX4_streaks_61 hl (k := 2) rfl (by rw [ey61]; rfl) (by decide) rfl (fun ls hl => ?_)
          obtain ⟨y64, ey64⟩ : ∃ y : Int32, y = x3 + (nI 1) := ⟨_, rfl⟩
          have hk := hk y64 ey64
          refine lv_iinc (v := y64) (lv' := [(3, .int y64), (1, .int y61), (4, .int y29), (0, .ref x0), (2, .int x2)]) hx hb dX4_streaks_64 hl (k := 4) rfl (by rw [ey64]; rfl) (by decide) rfl (fun ls hl => ?_)
          refine lv_goto (tgt := 17) hx hb dX4_streaks_67 (by decide) ?_
          exact ih y61 y64 h _ _ _ (lv_sub hl [3, 1, 4, 0] rfl) Z hk
set_option maxRecDepth 100000 in
set_option maxHeartbeats 4000000 in
theorem w_X4_streaks_4 {p : Program} {l : Launch} {e : Env} {s : State} {m : MethodId} {args : Array Value} {below : List Frame} {meth : Method} {c : Code} {g : Gt} {h0 : Hp} (C : Cx g (dm h0) RX4 cX4_streaks 5 p s m args meth c) (hr : meth.sig.returnType = (some .int)) {Post : Int32 → Hp → Prop} (x0 : Nat)   : ∀ (n : Nat) (x1 : Int32) (x2 : Int32) (h : Hp) (H : Heap) (locs : List Loc) (ls : Array Slot), lv_has ls 5 [(0, .ref x0), (1, .int x1), (2, .int x2)] → St g (dm h0) s h H locs → wp_X4_streaks_4 Post x0 n x1 x2 h → W p l e rmX4_streaks s m args below meth c H locs 0 0 (MQ below (Qi g h0 Post) args s 0 0 (dm h0)) (F0 m 4 ls []) := by
  have hx := C.1.1
  have hb := C.1.2.1
  have hml := C.1.2.2.1
  have hown := C.1.2.2.2.1
  have hts := C.1.2.2.2.2
  intro n
  induction n with
  | zero => intro x1 x2 h H locs ls hl Z hk; exact (show False from hk).elim
  | succ n ih =>
    intro x1 x2 h H locs ls hl Z hk
    unfold wp_X4_streaks_4 at hk
    refine lv_iload_n hx hb dX4_streaks_4 rfl (lv_at hl 2 rfl) ?_
    refine lv_aload_n hx hb dX4_streaks_5 rfl (lv_at hl 0 rfl) ?_
    obtain ⟨v6, hv, hk⟩ := hk
    refine r_get (ci := 4) (k := 0) (T := TX4) (N := 15) C Z hv ku_4 rfl (by decide) tw_160 dX4_streaks_6 ?_
    obtain ⟨v9, hv, hk⟩ := hk
    refine r_get (ci := 0) (k := 0) (T := TX0) (N := 11) C Z hv ku_0 rfl (by decide) tw_100 dX4_streaks_9 ?_
    refine lv_icmp_ge (tgt := 76) hx hb dX4_streaks_12 (by decide) (fun q => ?_) (fun q => ?_)
    · have hk := hk.1 q
      refine lv_iload_n hx hb dX4_streaks_76 rfl (lv_at hl 1 rfl) ?_
      exact r_iret C Z hr hk dX4_streaks_77
    · have hk := hk.2 q
      refine lv_iconst (v := (nI 0)) hx hb dX4_streaks_15 (by decide) ?_
      refine lv_istore_n (lv' := [(3, .int (nI 0)), (0, .ref x0), (1, .int x1), (2, .int x2)]) hx hb dX4_streaks_16 rfl hl (by decide) rfl (fun ls hl => ?_)
      obtain ⟨n1, hk⟩ := hk
      exact w_X4_streaks_17 C hr x0 x2 ih n1 x1 (nI 0) h _ _ _ (lv_sub hl [1, 2, 3, 0] rfl) Z hk
set_option maxRecDepth 100000 in
set_option maxHeartbeats 4000000 in
theorem m_X4_streaks (l : Launch) (g : Gt) (h : Hp) (x0 : Nat) (Post : Int32 → Hp → Prop) (hk : wp_X4_streaks x0 Post h) : Met l yX4_streaks wzX4_streaks rmX4_streaks (Pg g h [.ref x0]) (Qi g h Post) 0 0 (dm h) := by
  refine Met_of (cc := cX4_streaks) (maxL := 5) (ret := (some .int)) (by decide) (Nat.le_of_ble_eq_true rfl) (fun p e s m below meth c ls C hr hnm hl Z => ?_)
  have hx := C.1.1
  have hb := C.1.2.1
  have hml := C.1.2.2.1
  have hown := C.1.2.2.2.1
  have hts := C.1.2.2.2.2
  have hl : lv_has ls 5 [(0, .ref x0)] := hl
  unfold wp_X4_streaks at hk
  generalize s.heap = H at Z ⊢
  generalize ([] : List Loc) = locs at Z ⊢
  refine lv_iconst (v := (nI 0)) hx hb dX4_streaks_0 (by decide) ?_
  refine lv_istore_n (lv' := [(1, .int (nI 0)), (0, .ref x0)]) hx hb dX4_streaks_1 rfl hl (by decide) rfl (fun ls hl => ?_)
  refine lv_iconst (v := (nI 0)) hx hb dX4_streaks_2 (by decide) ?_
  refine lv_istore_n (lv' := [(2, .int (nI 0)), (1, .int (nI 0)), (0, .ref x0)]) hx hb dX4_streaks_3 rfl hl (by decide) rfl (fun ls hl => ?_)
  obtain ⟨n1, hk⟩ := hk
  exact w_X4_streaks_4 C hr x0 n1 (nI 0) (nI 0) h _ _ _ (lv_sub hl [2, 1, 0] rfl) Z hk
abbrev rmX4_outcomesIn : Room := ({ frames := 2, cells := 0, slots := 0, locals := 43 } : Room)
abbrev wzX4_outcomesIn : List Cond := WS yX4_outcomesIn cX4_outcomesIn 3 (some .int)
set_option maxRecDepth 100000 in
set_option maxHeartbeats 4000000 in
theorem m_X4_outcomesIn (l : Launch) (g : Gt) (h : Hp) (x0 : Nat) (x1 : Int32) (x2 : Int32) (Post : Int32 → Hp → Prop) (hk : wp_X4_outcomesIn x0 x1 x2 Post h) : Met l yX4_outcomesIn wzX4_outcomesIn rmX4_outcomesIn (Pg g h [.ref x0, .int x1, .int x2]) (Qi g h Post) 0 0 (dm h) := by
  refine Met_of (cc := cX4_outcomesIn) (maxL := 3) (ret := (some .int)) (by decide) (Nat.le_of_ble_eq_true rfl) (fun p e s m below meth c ls C hr hnm hl Z => ?_)
  have hx := C.1.1
  have hb := C.1.2.1
  have hml := C.1.2.2.1
  have hown := C.1.2.2.2.1
  have hts := C.1.2.2.2.2
  have hl : lv_has ls 3 [(0, .ref x0), (1, .int x1), (2, .int x2)] := hl
  unfold wp_X4_outcomesIn at hk
  generalize s.heap = H at Z ⊢
  generalize ([] : List Loc) = locs at Z ⊢
  refine lv_aload_n hx hb dX4_outcomesIn_0 rfl (lv_at hl 0 rfl) ?_
  obtain ⟨v1, hv, hk⟩ := hk
  refine r_get (ci := 4) (k := 0) (T := TX4) (N := 15) C Z hv ku_4 rfl (by decide) tw_160 dX4_outcomesIn_1 ?_
  refine lv_iload_n hx hb dX4_outcomesIn_4 rfl (lv_at hl 2 rfl) ?_
  obtain ⟨ho, hk⟩ := hk
  refine r_calli Z (r_runV (As := [.int x2]) (rest := []) C Z (m_X0_hasCard l g h v1 x2 _ hk) ho rfl (cwV 1 C.1.2.2.2.2 (gV tw_768 tw_522 tw_523 tw_60 tw_524) rfl rfl rfl (by decide +kernel) ⟨Nat.le_of_ble_eq_true rfl, Nat.le_of_ble_eq_true rfl⟩) rfl hl.1 rfl (Nat.le_of_ble_eq_true rfl) dX4_outcomesIn_5 ⟨Nat.zero_le _, Nat.zero_le _⟩) (fun r5 h5 H locs hk Z => ?_)
  refine lv_if_ne (tgt := 13) hx hb dX4_outcomesIn_8 (by decide) (fun q => ?_) (fun q => ?_)
  · have hk := hk.1 q
    refine lv_iload_n hx hb dX4_outcomesIn_13 rfl (lv_at hl 1 rfl) ?_
    refine lv_iconst (v := (-1 : Int32)) hx hb dX4_outcomesIn_14 (by decide) ?_
    refine lv_icmp_ne (tgt := 27) hx hb dX4_outcomesIn_15 (by decide) (fun q => ?_) (fun q => ?_)
    · have hk := hk.1 q
      refine lv_aload_n hx hb dX4_outcomesIn_27 rfl (lv_at hl 0 rfl) ?_
      obtain ⟨v28, hv, hk⟩ := hk
      refine r_get (ci := 4) (k := 0) (T := TX4) (N := 15) C Z hv ku_4 rfl (by decide) tw_160 dX4_outcomesIn_28 ?_
      refine lv_iload_n hx hb dX4_outcomesIn_31 rfl (lv_at hl 1 rfl) ?_
      refine lv_iload_n hx hb dX4_outcomesIn_32 rfl (lv_at hl 2 rfl) ?_
      obtain ⟨ho, hk⟩ := hk
      refine r_calli Z (r_runV (As := [.int x1, .int x2]) (rest := []) C Z (m_X0_outcomesIn l g h5 v28 x1 x2 _ hk) ho rfl (cwV 2 C.1.2.2.2.2 (gV tw_769 tw_770 tw_771 tw_60 tw_772) rfl rfl rfl (by decide +kernel) ⟨Nat.le_of_ble_eq_true rfl, Nat.le_of_ble_eq_true rfl⟩) rfl hl.1 rfl (Nat.le_of_ble_eq_true rfl) dX4_outcomesIn_33 ⟨Nat.zero_le _, Nat.zero_le _⟩) (fun r33 h33 H locs hk Z => ?_)
      exact r_iret C Z hr hk dX4_outcomesIn_36
    · have hk := hk.2 q
      refine lv_aload_n hx hb dX4_outcomesIn_18 rfl (lv_at hl 0 rfl) ?_
      obtain ⟨v19, hv, hk⟩ := hk
      refine r_get (ci := 4) (k := 11) (T := TX4) (N := 15) C Z hv ku_4 rfl (by decide) tw_181 dX4_outcomesIn_19 ?_
      refine lv_iload_n hx hb dX4_outcomesIn_22 rfl (lv_at hl 2 rfl) ?_
      obtain ⟨v23, hv, hk⟩ := hk
      refine r_iald C Z hv dX4_outcomesIn_23 ?_
      refine lv_goto (tgt := 36) hx hb dX4_outcomesIn_24 (by decide) ?_
      exact r_iret C Z hr hk dX4_outcomesIn_36
  · have hk := hk.2 q
    refine lv_iconst (v := (nI 0)) hx hb dX4_outcomesIn_11 (by decide) ?_
    exact r_iret C Z hr hk dX4_outcomesIn_12
abbrev rmX4_errorOf : Room := ({ frames := 1, cells := 0, slots := 0, locals := 21 } : Room)
abbrev wzX4_errorOf : List Cond := WS yX4_errorOf cX4_errorOf 7 (some .int)
set_option maxRecDepth 100000 in
set_option maxHeartbeats 4000000 in
theorem w_X4_errorOf_18 {p : Program} {l : Launch} {e : Env} {s : State} {m : MethodId} {args : Array Value} {below : List Frame} {meth : Method} {c : Code} {g : Gt} {h0 : Hp} (C : Cx g (dm h0) RX4 cX4_errorOf 7 p s m args meth c) (hr : meth.sig.returnType = (some .int)) {Post : Int32 → Hp → Prop} (x0 : Nat) (x1 : Int32) (x2 : Int32)   : ∀ (n : Nat) (x3 : Int32) (x4 : Int32) (h : Hp) (H : Heap) (locs : List Loc) (ls : Array Slot), lv_has ls 7 [(0, .ref x0), (1, .int x1), (2, .int x2), (3, .int x3), (4, .int x4)] → St g (dm h0) s h H locs → wp_X4_errorOf_18 Post x0 x1 x2 n x3 x4 h → W p l e rmX4_errorOf s m args below meth c H locs 0 0 (MQ below (Qi g h0 Post) args s 0 0 (dm h0)) (F0 m 18 ls []) := by
  have hx := C.1.1
  have hb := C.1.2.1
  have hml := C.1.2.2.1
  have hown := C.1.2.2.2.1
  have hts := C.1.2.2.2.2
  intro n
  induction n with
  | zero => intro x3 x4 h H locs ls hl Z hk; exact (show False from hk).elim
  | succ n ih =>
    intro x3 x4 h H locs ls hl Z hk
    unfold wp_X4_errorOf_18 at hk
    refine lv_iload hx hb dX4_errorOf_18 (lv_at hl 4 rfl) ?_
    refine lv_bipush (v := (nI 12)) hx hb dX4_errorOf_20 (by decide) ?_
    refine lv_icmp_ge (tgt := 122) hx hb dX4_errorOf_22 (by decide) (fun q => ?_) (fun q => ?_)
    · have hk := hk.1 q
      refine lv_iload_n hx hb dX4_errorOf_122 rfl (lv_at hl 3 rfl) ?_
      exact r_iret C Z hr hk dX4_errorOf_123
    · have hk := hk.2 q
      refine lv_iload_n hx hb dX4_errorOf_25 rfl (lv_at hl 1 rfl) ?_
      refine lv_bipush (v := (nI 12)) hx hb dX4_errorOf_26 (by decide) ?_
      refine lv_imul hx hb dX4_errorOf_28 ?_
      refine lv_iload hx hb dX4_errorOf_29 (lv_at hl 4 rfl) ?_
      refine lv_iadd hx hb dX4_errorOf_31 ?_
      refine lv_topi (fun y32 ey32 => ?_)
      have hk := hk y32 ey32
      refine lv_istore (lv' := [(5, .int y32), (0, .ref x0), (1, .int x1), (2, .int x2), (3, .int x3), (4, .int x4)]) hx hb dX4_errorOf_32 hl (by decide) rfl (fun ls hl => ?_)
      refine lv_aload_n hx hb dX4_errorOf_34 rfl (lv_at hl 1 rfl) ?_
      obtain ⟨v35, hv, hk⟩ := hk
      refine r_get (ci := 4) (k := 2) (T := TX4) (N := 15) C Z hv ku_4 rfl (by decide) tw_164 dX4_errorOf_35 ?_
      refine lv_iload hx hb dX4_errorOf_38 (lv_at hl 0 rfl) ?_
      obtain ⟨v40, hv, hk⟩ := hk
      refine r_iald C Z hv dX4_errorOf_40 ?_
      refine lv_aload_n hx hb dX4_errorOf_41 rfl (lv_at hl 1 rfl) ?_
      obtain ⟨v42, hv, hk⟩ := hk
      refine r_get (ci := 4) (k := 3) (T := TX4) (N := 15) C Z hv ku_4 rfl (by decide) tw_166 dX4_errorOf_42 ?_
      refine lv_iload hx hb dX4_errorOf_45 (lv_at hl 0 rfl) ?_
      obtain ⟨v47, hv, hk⟩ := hk
      refine r_iald C Z hv dX4_errorOf_47 ?_
      refine lv_isub hx hb dX4_errorOf_48 ?_
      refine va_mabs hx hb (hml.trans hl.1.symm) hown (hts _ tw_822) (hts _ tw_823) (hts _ tw_68) (hts _ tw_824) (Nat.le_of_ble_eq_true rfl) (Nat.le_of_ble_eq_true rfl) (Nat.zero_le _) (Nat.zero_le _) dX4_errorOf_49 ?_
      refine lv_topi (fun y52 ey52 => ?_)
      have hk := hk y52 ey52
      refine lv_istore (lv' := [(6, .int y52), (5, .int y32), (0, .ref x0), (1, .int x1), (2, .int x2), (3, .int x3), (4, .int x4)]) hx hb dX4_errorOf_52 hl (by decide) rfl (fun ls hl => ?_)
      refine lv_iload_n hx hb dX4_errorOf_54 rfl (lv_at hl 4 rfl) ?_
      refine lv_if_ne (tgt := 74) hx hb dX4_errorOf_55 (by decide) (fun q => ?_) (fun q => ?_)
      · have hk := hk.1 q
        refine lv_iload_n hx hb dX4_errorOf_74 rfl (lv_at hl 4 rfl) ?_
        refine lv_iconst (v := (nI 1)) hx hb dX4_errorOf_75 (by decide) ?_
        refine lv_icmp_ne (tgt := 87) hx hb dX4_errorOf_76 (by decide) (fun q => ?_) (fun q => ?_)
        · have hk := hk.1 q
          refine lv_iload_n hx hb dX4_errorOf_87 rfl (lv_at hl 5 rfl) ?_
          refine lv_aload_n hx hb dX4_errorOf_88 rfl (lv_at hl 2 rfl) ?_
          obtain ⟨v89, hv, hk⟩ := hk
          refine r_get (ci := 4) (k := 2) (T := TX4) (N := 15) C Z hv ku_4 rfl (by decide) tw_164 dX4_errorOf_89 ?_
          refine lv_iload hx hb dX4_errorOf_92 (lv_at hl 1 rfl) ?_
          obtain ⟨v94, hv, hk⟩ := hk
          refine r_iald C Z hv dX4_errorOf_94 ?_
          refine lv_aload_n hx hb dX4_errorOf_95 rfl (lv_at hl 2 rfl) ?_
          obtain ⟨v96, hv, hk⟩ := hk
          refine r_get (ci := 4) (k := 8) (T := TX4) (N := 15) C Z hv ku_4 rfl (by decide) tw_175 dX4_errorOf_96 ?_
          refine lv_iload hx hb dX4_errorOf_99 (lv_at hl 1 rfl) ?_
          obtain ⟨v101, hv, hk⟩ := hk
          refine r_iald C Z hv dX4_errorOf_101 ?_
          refine lv_isub hx hb dX4_errorOf_102 ?_
          refine lv_aload_n hx hb dX4_errorOf_103 rfl (lv_at hl 2 rfl) ?_
          obtain ⟨v104, hv, hk⟩ := hk
          refine r_get (ci := 4) (k := 3) (T := TX4) (N := 15) C Z hv ku_4 rfl (by decide) tw_166 dX4_errorOf_104 ?_
          refine lv_iload hx hb dX4_errorOf_107 (lv_at hl 1 rfl) ?_
          obtain ⟨v109, hv, hk⟩ := hk
          refine r_iald C Z hv dX4_errorOf_109 ?_
          refine lv_isub hx hb dX4_errorOf_110 ?_
          refine va_mabs hx hb (hml.trans hl.1.symm) hown (hts _ tw_822) (hts _ tw_823) (hts _ tw_68) (hts _ tw_824) (Nat.le_of_ble_eq_true rfl) (Nat.le_of_ble_eq_true rfl) (Nat.zero_le _) (Nat.zero_le _) dX4_errorOf_111 ?_
          refine lv_iadd hx hb dX4_errorOf_114 ?_
          refine lv_topi (fun y115 ey115 => ?_)
          have hk := hk y115 ey115
          refine lv_istore_n (lv' := [(3, .int y115), (6, .int y52), (5, .int y32), (0, .ref x0), (1, .int x1), (2, .int x2), (4, .int x4)]) hx hb dX4_errorOf_115 rfl hl (by decide) rfl (fun ls hl => ?_)
          obtain ⟨y116, ey116⟩ : ∃ y : Int32, y = x4 + (nI 1) := ⟨_, rfl⟩
          have hk := hk y116 ey116
          refine lv_iinc (v := y116) (lv' := [(4, .int y116), (3, .int y115), (6, .int y52), (5, .int y32), (0, .ref x0), (1, .int x1), (2, .int x2)]) hx hb dX4_errorOf_116 hl (k := 6) rfl (by rw [ey116]; rfl) (by decide) rfl (fun ls hl => ?_)
          refine lv_goto (tgt := 18) hx hb dX4_errorOf_119 (by decide) ?_
          exact ih y115 y116 h _ _ _ (lv_sub hl [4, 5, 6, 1, 0] rfl) Z hk
        · have hk := hk.2 q
          refine lv_iload_n hx hb dX4_errorOf_79 rfl (lv_at hl 5 rfl) ?_
          refine lv_iload hx hb dX4_errorOf_80 (lv_at hl 0 rfl) ?_
          refine lv_iadd hx hb dX4_errorOf_82 ?_
          refine lv_topi (fun y83 ey83 => ?_)
          have hk := hk y83 ey83
          refine lv_istore_n (lv' := [(3, .int y83), (6, .int y52), (5, .int y32), (0, .ref x0), (1, .int x1), (2, .int x2), (4, .int x4)]) hx hb dX4_errorOf_83 rfl hl (by decide) rfl (fun ls hl => ?_)
          refine lv_goto (tgt := 116) hx hb dX4_errorOf_84 (by decide) ?_
          obtain ⟨y116, ey116⟩ : ∃ y : Int32, y = x4 + (nI 1) := ⟨_, rfl⟩
          have hk := hk y116 ey116
          refine lv_iinc (v := y116) (lv' := [(4, .int y116), (3, .int y83), (6, .int y52), (5, .int y32), (0, .ref x0), (1, .int x1), (2, .int x2)]) hx hb dX4_errorOf_116 hl (k := 6) rfl (by rw [ey116]; rfl) (by decide) rfl (fun ls hl => ?_)
          refine lv_goto (tgt := 18) hx hb dX4_errorOf_119 (by decide) ?_
          exact ih y83 y116 h _ _ _ (lv_sub hl [4, 5, 6, 1, 0] rfl) Z hk
      · have hk := hk.2 q
        refine lv_iload_n hx hb dX4_errorOf_58 rfl (lv_at hl 5 rfl) ?_
        refine lv_iload hx hb dX4_errorOf_59 (lv_at hl 0 rfl) ?_
        refine lv_if_ne (tgt := 68) hx hb dX4_errorOf_61 (by decide) (fun q => ?_) (fun q => ?_)
        · have hk := hk.1 q
          refine lv_iconst (v := (nI 1)) hx hb dX4_errorOf_68 (by decide) ?_
          refine lv_iadd hx hb dX4_errorOf_69 ?_
          refine lv_topi (fun y70 ey70 => ?_)
          have hk := hk y70 ey70
          refine lv_istore_n (lv' := [(3, .int y70), (6, .int y52), (5, .int y32), (0, .ref x0), (1, .int x1), (2, .int x2), (4, .int x4)]) hx hb dX4_errorOf_70 rfl hl (by decide) rfl (fun ls hl => ?_)
          refine lv_goto (tgt := 116) hx hb dX4_errorOf_71 (by decide) ?_
          obtain ⟨y116, ey116⟩ : ∃ y : Int32, y = x4 + (nI 1) := ⟨_, rfl⟩
          have hk := hk y116 ey116
          refine lv_iinc (v := y116) (lv' := [(4, .int y116), (3, .int y70), (6, .int y52), (5, .int y32), (0, .ref x0), (1, .int x1), (2, .int x2)]) hx hb dX4_errorOf_116 hl (k := 6) rfl (by rw [ey116]; rfl) (by decide) rfl (fun ls hl => ?_)
          refine lv_goto (tgt := 18) hx hb dX4_errorOf_119 (by decide) ?_
          exact ih y70 y116 h _ _ _ (lv_sub hl [4, 5, 6, 1, 0] rfl) Z hk
        · have hk := hk.2 q
          refine lv_iconst (v := (nI 0)) hx hb dX4_errorOf_64 (by decide) ?_
          refine lv_goto (tgt := 69) hx hb dX4_errorOf_65 (by decide) ?_
          refine lv_iadd hx hb dX4_errorOf_69 ?_
          refine lv_topi (fun y70 ey70 => ?_)
          have hk := hk y70 ey70
          refine lv_istore_n (lv' := [(3, .int y70), (6, .int y52), (5, .int y32), (0, .ref x0), (1, .int x1), (2, .int x2), (4, .int x4)]) hx hb dX4_errorOf_70 rfl hl (by decide) rfl (fun ls hl => ?_)
          refine lv_goto (tgt := 116) hx hb dX4_errorOf_71 (by decide) ?_
          obtain ⟨y116, ey116⟩ : ∃ y : Int32, y = x4 + (nI 1) := ⟨_, rfl⟩
          have hk := hk y116 ey116
          refine lv_iinc (v := y116) (lv' := [(4, .int y116), (3, .int y70), (6, .int y52), (5, .int y32), (0, .ref x0), (1, .int x1), (2, .int x2)]) hx hb dX4_errorOf_116 hl (k := 6) rfl (by rw [ey116]; rfl) (by decide) rfl (fun ls hl => ?_)
          refine lv_goto (tgt := 18) hx hb dX4_errorOf_119 (by decide) ?_
          exact ih y70 y116 h _ _ _ (lv_sub hl [4, 5, 6, 1, 0] rfl) Z hk
set_option maxRecDepth 100000 in
set_option maxHeartbeats 4000000 in
theorem m_X4_errorOf (l : Launch) (g : Gt) (h : Hp) (x0 : Nat) (x1 : Int32) (x2 : Int32) (Post : Int32 → Hp → Prop) (hk : wp_X4_errorOf x0 x1 x2 Post h) : Met l yX4_errorOf wzX4_errorOf rmX4_errorOf (Pg g h [.ref x0, .int x1, .int x2]) (Qi g h Post) 0 0 (dm h) := by
  refine Met_of (cc := cX4_errorOf) (maxL := 7) (ret := (some .int)) (by decide) (Nat.le_of_ble_eq_true rfl) (fun p e s m below meth c ls C hr hnm hl Z => ?_)
  have hx := C.1.1
  have hb := C.1.2.1
  have hml := C.1.2.2.1
  have hown := C.1.2.2.2.1
  have hts := C.1.2.2.2.2
  have hl : lv_has ls 7 [(0, .ref x0), (1, .int x1), (2, .int x2)] := hl
  unfold wp_X4_errorOf at hk
  generalize s.heap = H at Z ⊢
  generalize ([] : List Loc) = locs at Z ⊢
  refine lv_aload_n hx hb dX4_errorOf_0 rfl (lv_at hl 0 rfl) ?_
  obtain ⟨v1, hv, hk⟩ := hk
  refine r_get (ci := 4) (k := 0) (T := TX4) (N := 15) C Z hv ku_4 rfl (by decide) tw_160 dX4_errorOf_1 ?_
  refine lv_iload_n hx hb dX4_errorOf_4 rfl (lv_at hl 1 rfl) ?_
  obtain ⟨ho, hk⟩ := hk
  refine r_calli Z (r_runV (As := [.int x1]) (rest := []) C Z (m_X0_hasCard l g h v1 x1 _ hk) ho rfl (cwV 1 C.1.2.2.2.2 (gV tw_768 tw_522 tw_523 tw_60 tw_524) rfl rfl rfl (by decide +kernel) ⟨Nat.le_of_ble_eq_true rfl, Nat.le_of_ble_eq_true rfl⟩) rfl hl.1 rfl (Nat.le_of_ble_eq_true rfl) dX4_errorOf_5 ⟨Nat.zero_le _, Nat.zero_le _⟩) (fun r5 h5 H locs hk Z => ?_)
  refine lv_if_ne (tgt := 13) hx hb dX4_errorOf_8 (by decide) (fun q => ?_) (fun q => ?_)
  · have hk := hk.1 q
    refine lv_iconst (v := (nI 0)) hx hb dX4_errorOf_13 (by decide) ?_
    refine lv_istore_n (lv' := [(3, .int (nI 0)), (0, .ref x0), (1, .int x1), (2, .int x2)]) hx hb dX4_errorOf_14 rfl hl (by decide) rfl (fun ls hl => ?_)
    refine lv_iconst (v := (nI 0)) hx hb dX4_errorOf_15 (by decide) ?_
    refine lv_istore (lv' := [(4, .int (nI 0)), (3, .int (nI 0)), (0, .ref x0), (1, .int x1), (2, .int x2)]) hx hb dX4_errorOf_16 hl (by decide) rfl (fun ls hl => ?_)
    obtain ⟨n1, hk⟩ := hk
    exact w_X4_errorOf_18 C hr x0 x1 x2 n1 (nI 0) (nI 0) h5 _ _ _ (lv_sub hl [2, 3, 4, 1, 0] rfl) Z hk
  · have hk := hk.2 q
    refine lv_iconst (v := (nI 0)) hx hb dX4_errorOf_11 (by decide) ?_
    exact r_iret C Z hr hk dX4_errorOf_12
abbrev rmX4_otherWith : Room := ({ frames := 2, cells := 0, slots := 0, locals := 52 } : Room)
abbrev wzX4_otherWith : List Cond := WS yX4_otherWith cX4_otherWith 4 (some .int)
set_option maxRecDepth 100000 in
set_option maxHeartbeats 4000000 in
theorem w_X4_otherWith_24 {p : Program} {l : Launch} {e : Env} {s : State} {m : MethodId} {args : Array Value} {below : List Frame} {meth : Method} {c : Code} {g : Gt} {h0 : Hp} (C : Cx g (dm h0) RX4 cX4_otherWith 4 p s m args meth c) (hr : meth.sig.returnType = (some .int)) {Post : Int32 → Hp → Prop} (x0 : Nat)   : ∀ (n : Nat) (x2 : Int32) (x3 : Int32) (h : Hp) (H : Heap) (locs : List Loc) (ls : Array Slot), lv_has ls 4 [(0, .ref x0), (2, .int x2), (3, .int x3)] → St g (dm h0) s h H locs → wp_X4_otherWith_24 Post x0 n x2 x3 h → W p l e rmX4_otherWith s m args below meth c H locs 0 0 (MQ below (Qi g h0 Post) args s 0 0 (dm h0)) (F0 m 24 ls []) := by
  have hx := C.1.1
  have hb := C.1.2.1
  have hml := C.1.2.2.1
  have hown := C.1.2.2.2.1
  have hts := C.1.2.2.2.2
  intro n
  induction n with
  | zero => intro x2 x3 h H locs ls hl Z hk; exact (show False from hk).elim
  | succ n ih =>
    intro x2 x3 h H locs ls hl Z hk
    unfold wp_X4_otherWith_24 at hk
    refine lv_iload_n hx hb dX4_otherWith_24 rfl (lv_at hl 2 rfl) ?_
    refine lv_aload_n hx hb dX4_otherWith_25 rfl (lv_at hl 0 rfl) ?_
    obtain ⟨v26, hv, hk⟩ := hk
    refine r_get (ci := 4) (k := 0) (T := TX4) (N := 15) C Z hv ku_4 rfl (by decide) tw_160 dX4_otherWith_26 ?_
    obtain ⟨v29, hv, hk⟩ := hk
    refine r_get (ci := 0) (k := 0) (T := TX0) (N := 11) C Z hv ku_0 rfl (by decide) tw_100 dX4_otherWith_29 ?_
    refine lv_icmp_ge (tgt := 59) hx hb dX4_otherWith_32 (by decide) (fun q => ?_) (fun q => ?_)
    · have hk := hk.1 q
      refine lv_iload_n hx hb dX4_otherWith_59 rfl (lv_at hl 1 rfl) ?_
      exact r_iret C Z hr hk dX4_otherWith_60
    · have hk := hk.2 q
      refine lv_aload_n hx hb dX4_otherWith_35 rfl (lv_at hl 0 rfl) ?_
      obtain ⟨v36, hv, hk⟩ := hk
      refine r_get (ci := 4) (k := 11) (T := TX4) (N := 15) C Z hv ku_4 rfl (by decide) tw_181 dX4_otherWith_36 ?_
      refine lv_iload_n hx hb dX4_otherWith_39 rfl (lv_at hl 2 rfl) ?_
      obtain ⟨v40, hv, hk⟩ := hk
      refine r_iald C Z hv dX4_otherWith_40 ?_
      refine lv_aload_n hx hb dX4_otherWith_41 rfl (lv_at hl 0 rfl) ?_
      obtain ⟨v42, hv, hk⟩ := hk
      refine r_get (ci := 4) (k := 14) (T := TX4) (N := 15) C Z hv ku_4 rfl (by decide) tw_186 dX4_otherWith_42 ?_
      refine lv_iload_n hx hb dX4_otherWith_45 rfl (lv_at hl 2 rfl) ?_
      obtain ⟨v46, hv, hk⟩ := hk
      refine r_iald C Z hv dX4_otherWith_46 ?_
      refine lv_icmp_eq (tgt := 53) hx hb dX4_otherWith_47 (by decide) (fun q => ?_) (fun q => ?_)
      · have hk := hk.1 q
        obtain ⟨y53, ey53⟩ : ∃ y : Int32, y = x3 + (nI 1) := ⟨_, rfl⟩
        have hk := hk y53 ey53
        refine lv_iinc (v := y53) (lv' := [(3, .int y53), (0, .ref x0), (2, .int x2)]) hx hb dX4_otherWith_53 hl (k := 2) rfl (by rw [ey53]; rfl) (by decide) rfl (fun ls hl => ?_)
        refine lv_goto (tgt := 24) hx hb dX4_otherWith_56 (by decide) ?_
        exact ih x2 y53 h _ _ _ (lv_sub hl [1, 2, 0] rfl) Z hk
      · have hk := hk.2 q
        obtain ⟨y50, ey50⟩ : ∃ y : Int32, y = x2 + (nI 1) := ⟨_, rfl⟩
        have hk := hk y50 ey50
        refine lv_iinc (v := y50) (lv' := [(2, .int y50), (0, .ref x0), (3, .int x3)]) hx hb dX4_otherWith_50 hl (k := 1) rfl (by rw [ey50]; rfl) (by decide) rfl (fun ls hl => ?_)
        obtain ⟨y53, ey53⟩ : ∃ y : Int32, y = x3 + (nI 1) := ⟨_, rfl⟩
        have hk := hk y53 ey53
        refine lv_iinc (v := y53) (lv' := [(3, .int y53), (2, .int y50), (0, .ref x0)]) hx hb dX4_otherWith_53 hl (k := 2) rfl (by rw [ey53]; rfl) (by decide) rfl (fun ls hl => ?_)
        refine lv_goto (tgt := 24) hx hb dX4_otherWith_56 (by decide) ?_
        exact ih y50 y53 h _ _ _ (lv_sub hl [2, 1, 0] rfl) Z hk
set_option maxRecDepth 100000 in
set_option maxHeartbeats 4000000 in
theorem m_X4_otherWith (l : Launch) (g : Gt) (h : Hp) (x0 : Nat) (x1 : Int32) (Post : Int32 → Hp → Prop) (hk : wp_X4_otherWith x0 x1 Post h) : Met l yX4_otherWith wzX4_otherWith rmX4_otherWith (Pg g h [.ref x0, .int x1]) (Qi g h Post) 0 0 (dm h) := by
  refine Met_of (cc := cX4_otherWith) (maxL := 4) (ret := (some .int)) (by decide) (Nat.le_of_ble_eq_true rfl) (fun p e s m below meth c ls C hr hnm hl Z => ?_)
  have hx := C.1.1
  have hb := C.1.2.1
  have hml := C.1.2.2.1
  have hown := C.1.2.2.2.1
  have hts := C.1.2.2.2.2
  have hl : lv_has ls 4 [(0, .ref x0), (1, .int x1)] := hl
  unfold wp_X4_otherWith at hk
  generalize s.heap = H at Z ⊢
  generalize ([] : List Loc) = locs at Z ⊢
  refine lv_aload_n hx hb dX4_otherWith_0 rfl (lv_at hl 0 rfl) ?_
  obtain ⟨v1, hv, hk⟩ := hk
  refine r_get (ci := 4) (k := 11) (T := TX4) (N := 15) C Z hv ku_4 rfl (by decide) tw_181 dX4_otherWith_1 ?_
  refine lv_iconst (v := (nI 0)) hx hb dX4_otherWith_4 (by decide) ?_
  refine lv_aload_n hx hb dX4_otherWith_5 rfl (lv_at hl 0 rfl) ?_
  obtain ⟨v6, hv, hk⟩ := hk
  refine r_get (ci := 4) (k := 14) (T := TX4) (N := 15) C Z hv ku_4 rfl (by decide) tw_186 dX4_otherWith_6 ?_
  refine lv_iconst (v := (nI 0)) hx hb dX4_otherWith_9 (by decide) ?_
  refine lv_bipush (v := (nI 40)) hx hb dX4_otherWith_10 (by decide) ?_
  obtain ⟨h12, hv, hk⟩ := hk
  refine r_copyI C Z hv (hml.trans hl.1.symm) (hts _ tw_835) (hts _ tw_370) (hts _ tw_369) (hts _ tw_67) (Nat.le_of_ble_eq_true rfl) (Nat.le_of_ble_eq_true rfl) dX4_otherWith_12 (fun H locs Z => ?_)
  refine lv_aload_n hx hb dX4_otherWith_15 rfl (lv_at hl 0 rfl) ?_
  refine lv_iload_n hx hb dX4_otherWith_16 rfl (lv_at hl 1 rfl) ?_
  obtain ⟨ho, hk⟩ := hk
  refine r_callv Z (r_runV (As := [.int x1]) (rest := []) C Z (m_X4_judgeWith l g h12 x0 x1 _ hk) ho rfl (cwV 1 C.1.2.2.2.2 (gV tw_460 tw_462 tw_6 tw_59 tw_463) rfl rfl rfl (by decide +kernel) ⟨Nat.le_of_ble_eq_true rfl, Nat.le_of_ble_eq_true rfl⟩) rfl hl.1 rfl (Nat.le_of_ble_eq_true rfl) dX4_otherWith_17 ⟨Nat.zero_le _, Nat.zero_le _⟩) (fun h17 H locs hk Z => ?_)
  refine lv_iconst (v := (nI 0)) hx hb dX4_otherWith_20 (by decide) ?_
  refine lv_istore_n (lv' := [(2, .int (nI 0)), (0, .ref x0), (1, .int x1)]) hx hb dX4_otherWith_21 rfl hl (by decide) rfl (fun ls hl => ?_)
  refine lv_iconst (v := (nI 0)) hx hb dX4_otherWith_22 (by decide) ?_
  refine lv_istore_n (lv' := [(3, .int (nI 0)), (2, .int (nI 0)), (0, .ref x0), (1, .int x1)]) hx hb dX4_otherWith_23 rfl hl (by decide) rfl (fun ls hl => ?_)
  obtain ⟨n1, hk⟩ := hk
  exact w_X4_otherWith_24 C hr x0 n1 (nI 0) (nI 0) h17 _ _ _ (lv_sub hl [2, 1, 0] rfl) Z hk
