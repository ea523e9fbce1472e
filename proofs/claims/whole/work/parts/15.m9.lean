abbrev rmX9_in : Room := ({ frames := 0, cells := 0, slots := 0, locals := 0 } : Room)
abbrev wzX9_in : List Cond := WS yX9_in cX9_in 6 (some .boolean)
set_option maxRecDepth 100000 in
set_option maxHeartbeats 4000000 in
theorem m_X9_in (l : Launch) (g : Gt) (h : Hp) (x0 : Int64) (x2 : Int64) (x4 : Int64) (Post : Int32 → Hp → Prop) (hk : wp_X9_in x0 x2 x4 Post h) : Met l yX9_in wzX9_in rmX9_in (Pg g h [.long x0, .long x2, .long x4]) (Qi g h Post) 0 0 (dm h) := by
  refine Met_of (cc := cX9_in) (maxL := 6) (ret := (some .boolean)) (by decide) (Nat.le_of_ble_eq_true rfl) (fun p e s m below meth c ls C hr hnm hl Z => ?_)
  have hx := C.1.1
  have hb := C.1.2.1
  have hml := C.1.2.2.1
  have hown := C.1.2.2.2.1
  have hts := C.1.2.2.2.2
  have hl : lv_has ls 6 [(0, .long x0), (2, .long x2), (4, .long x4)] := hl
  unfold wp_X9_in at hk
  generalize s.heap = H at Z ⊢
  generalize ([] : List Loc) = locs at Z ⊢
  refine lv_lload_n hx hb dX9_in_0 rfl (lv_at hl 0 rfl) ?_
  refine lv_lload_n hx hb dX9_in_1 rfl (lv_at hl 1 rfl) ?_
  refine W.lcmp hx hb dX9_in_2 ?_
  refine lv_if_lt (tgt := 17) hx hb dX9_in_3 (by decide) (fun q => ?_) (fun q => ?_)
  · have hk := hk.1 ((lc_lt x0 x2).mp q)
    refine lv_iconst (v := (nI 0)) hx hb dX9_in_17 (by decide) ?_
    exact r_zret C Z hr (Or.inl rfl) hk dX9_in_18
  · have hk := hk.2 (mt (lc_lt x0 x2).mpr q)
    refine lv_lload_n hx hb dX9_in_6 rfl (lv_at hl 0 rfl) ?_
    refine lv_lload hx hb dX9_in_7 (lv_at hl 2 rfl) ?_
    refine W.lcmp hx hb dX9_in_9 ?_
    refine lv_if_gt (tgt := 17) hx hb dX9_in_10 (by decide) (fun q => ?_) (fun q => ?_)
    · have hk := hk.1 ((lc_gt x0 x4).mp q)
      refine lv_iconst (v := (nI 0)) hx hb dX9_in_17 (by decide) ?_
      exact r_zret C Z hr (Or.inl rfl) hk dX9_in_18
    · have hk := hk.2 (mt (lc_gt x0 x4).mpr q)
      refine lv_iconst (v := (nI 1)) hx hb dX9_in_13 (by decide) ?_
      refine lv_goto (tgt := 18) hx hb dX9_in_14 (by decide) ?_
      exact r_zret C Z hr (Or.inr rfl) hk dX9_in_18
abbrev rmX9_c : Room := ({ frames := 0, cells := 0, slots := 0, locals := 0 } : Room)
abbrev wzX9_c : List Cond := WS yX9_c cX9_c 2 (some .int)
set_option maxRecDepth 100000 in
set_option maxHeartbeats 4000000 in
theorem m_X9_c (l : Launch) (g : Gt) (h : Hp) (x0 : Int32) (x1 : Int32) (Post : Int32 → Hp → Prop) (hk : wp_X9_c x0 x1 Post h) : Met l yX9_c wzX9_c rmX9_c (Pg g h [.int x0, .int x1]) (Qi g h Post) 0 0 (dm h) := by
  refine Met_of (cc := cX9_c) (maxL := 2) (ret := (some .int)) (by decide) (Nat.le_of_ble_eq_true rfl) (fun p e s m below meth c ls C hr hnm hl Z => ?_)
  have hx := C.1.1
  have hb := C.1.2.1
  have hml := C.1.2.2.1
  have hown := C.1.2.2.2.1
  have hts := C.1.2.2.2.2
  have hl : lv_has ls 2 [(0, .int x0), (1, .int x1)] := hl
  unfold wp_X9_c at hk
  generalize s.heap = H at Z ⊢
  generalize ([] : List Loc) = locs at Z ⊢
  refine lv_bipush (v := (nI 9)) hx hb dX9_c_0 (by decide) ?_
  refine lv_iconst (v := (nI 5)) hx hb dX9_c_2 (by decide) ?_
  refine lv_iload_n hx hb dX9_c_3 rfl (lv_at hl 0 rfl) ?_
  refine lv_imul hx hb dX9_c_4 ?_
  refine lv_iadd hx hb dX9_c_5 ?_
  refine lv_iload_n hx hb dX9_c_6 rfl (lv_at hl 1 rfl) ?_
  refine lv_iadd hx hb dX9_c_7 ?_
  exact r_iret C Z hr hk dX9_c_8
abbrev rmX9_isCard : Room := ({ frames := 1, cells := 0, slots := 0, locals := 25 } : Room)
abbrev wzX9_isCard : List Cond := WS yX9_isCard cX9_isCard 2 (some .boolean)
set_option maxRecDepth 100000 in
set_option maxHeartbeats 4000000 in
theorem m_X9_isCard (l : Launch) (g : Gt) (h : Hp) (x0 : Nat) (x1 : Int32) (Post : Int32 → Hp → Prop) (hk : wp_X9_isCard x0 x1 Post h) : Met l yX9_isCard wzX9_isCard rmX9_isCard (Pg g h [.ref x0, .int x1]) (Qi g h Post) 0 0 (dm h) := by
  refine Met_of (cc := cX9_isCard) (maxL := 2) (ret := (some .boolean)) (by decide) (Nat.le_of_ble_eq_true rfl) (fun p e s m below meth c ls C hr hnm hl Z => ?_)
  have hx := C.1.1
  have hb := C.1.2.1
  have hml := C.1.2.2.1
  have hown := C.1.2.2.2.1
  have hts := C.1.2.2.2.2
  have hl : lv_has ls 2 [(0, .ref x0), (1, .int x1)] := hl
  unfold wp_X9_isCard at hk
  generalize s.heap = H at Z ⊢
  generalize ([] : List Loc) = locs at Z ⊢
  refine lv_iload_n hx hb dX9_isCard_0 rfl (lv_at hl 1 rfl) ?_
  refine lv_i2l (v := (Int32.toInt64 x1)) hx hb dX9_isCard_1 rfl ?_
  refine lv_lconst (v := lN 0) hx hb dX9_isCard_2 (by decide) ?_
  refine lv_aload_n hx hb dX9_isCard_3 rfl (lv_at hl 0 rfl) ?_
  obtain ⟨v4, hv, hk⟩ := hk
  refine r_get (ci := 9) (k := 0) (T := TX9) (N := 17) C Z hv ku_9 rfl (by decide) tw_857 dX9_isCard_4 ?_
  refine lv_iconst (v := (nI 0)) hx hb dX9_isCard_7 (by decide) ?_
  obtain ⟨v8, hv, hk⟩ := hk
  refine r_lald C Z hv dX9_isCard_8 ?_
  refine lv_lconst (v := lN 1) hx hb dX9_isCard_9 (by decide) ?_
  refine lv_lsub hx hb dX9_isCard_10 ?_
  refine r_calli Z (r_runS (As := [.long (Int32.toInt64 x1), .long (lN 0), .long (v8 - (lN 1))]) (rest := []) C Z (m_X9_in l g h (Int32.toInt64 x1) (lN 0) (v8 - (lN 1)) _ hk) (va_cwS 3 C.1.2.2.2.2 (gS tw_922 tw_923 tw_66 tw_924) rfl rfl rfl (by decide +kernel) ⟨Nat.le_of_ble_eq_true rfl, Nat.le_of_ble_eq_true rfl⟩) rfl hl.1 rfl (Nat.le_of_ble_eq_true rfl) dX9_isCard_11 ⟨Nat.zero_le _, Nat.zero_le _⟩) (fun r11 h11 H locs hk Z => ?_)
  exact r_zret C Z hr hk.1 hk.2 dX9_isCard_14
abbrev rmX9_isRow : Room := ({ frames := 1, cells := 0, slots := 0, locals := 25 } : Room)
abbrev wzX9_isRow : List Cond := WS yX9_isRow cX9_isRow 2 (some .boolean)
set_option maxRecDepth 100000 in
set_option maxHeartbeats 4000000 in
theorem m_X9_isRow (l : Launch) (g : Gt) (h : Hp) (x0 : Int64) (Post : Int32 → Hp → Prop) (hk : wp_X9_isRow x0 Post h) : Met l yX9_isRow wzX9_isRow rmX9_isRow (Pg g h [.long x0]) (Qi g h Post) 0 0 (dm h) := by
  refine Met_of (cc := cX9_isRow) (maxL := 2) (ret := (some .boolean)) (by decide) (Nat.le_of_ble_eq_true rfl) (fun p e s m below meth c ls C hr hnm hl Z => ?_)
  have hx := C.1.1
  have hb := C.1.2.1
  have hml := C.1.2.2.1
  have hown := C.1.2.2.2.1
  have hts := C.1.2.2.2.2
  have hl : lv_has ls 2 [(0, .long x0)] := hl
  unfold wp_X9_isRow at hk
  generalize s.heap = H at Z ⊢
  generalize ([] : List Loc) = locs at Z ⊢
  refine lv_lload_n hx hb dX9_isRow_0 rfl (lv_at hl 0 rfl) ?_
  refine lv_lconst (v := lN 0) hx hb dX9_isRow_1 (by decide) ?_
  refine lv_ldc2 (v := (lN 999999999999)) hx hb hown (hts _ tw_928) dX9_isRow_2 ?_
  refine r_calli Z (r_runS (As := [.long x0, .long (lN 0), .long (lN 999999999999)]) (rest := []) C Z (m_X9_in l g h x0 (lN 0) (lN 999999999999) _ hk) (va_cwS 3 C.1.2.2.2.2 (gS tw_922 tw_923 tw_66 tw_924) rfl rfl rfl (by decide +kernel) ⟨Nat.le_of_ble_eq_true rfl, Nat.le_of_ble_eq_true rfl⟩) rfl hl.1 rfl (Nat.le_of_ble_eq_true rfl) dX9_isRow_5 ⟨Nat.zero_le _, Nat.zero_le _⟩) (fun r5 h5 H locs hk Z => ?_)
  exact r_zret C Z hr hk.1 hk.2 dX9_isRow_8
abbrev rmX9_digit : Room := ({ frames := 0, cells := 0, slots := 0, locals := 0 } : Room)
abbrev wzX9_digit : List Cond := WS yX9_digit cX9_digit 6 (some .int)
set_option maxRecDepth 100000 in
set_option maxHeartbeats 4000000 in
theorem w_X9_digit_5 {p : Program} {l : Launch} {e : Env} {s : State} {m : MethodId} {args : Array Value} {below : List Frame} {meth : Method} {c : Code} {g : Gt} {h0 : Hp} (C : Cx g (dm h0) RX9 cX9_digit 6 p s m args meth c) (hr : meth.sig.returnType = (some .int)) {Post : Int32 → Hp → Prop}    : ∀ (n : Nat) (x3 : Int64) (x5 : Int32) (h : Hp) (H : Heap) (locs : List Loc) (ls : Array Slot), lv_has ls 6 [(3, .long x3), (5, .int x5)] → St g (dm h0) s h H locs → wp_X9_digit_5 Post  n x3 x5 h → W p l e rmX9_digit s m args below meth c H locs 0 0 (MQ below (Qi g h0 Post) args s 0 0 (dm h0)) (F0 m 5 ls []) := by
  have hx := C.1.1
  have hb := C.1.2.1
  have hml := C.1.2.2.1
  have hown := C.1.2.2.2.1
  have hts := C.1.2.2.2.2
  intro n
  induction n with
  | zero => intro x3 x5 h H locs ls hl Z hk; exact (show False from hk).elim
  | succ n ih =>
    intro x3 x5 h H locs ls hl Z hk
    unfold wp_X9_digit_5 at hk
    refine lv_iload hx hb dX9_digit_5 (lv_at hl 1 rfl) ?_
    refine lv_bipush (v := (nI 11)) hx hb dX9_digit_7 (by decide) ?_
    refine lv_icmp_ge (tgt := 24) hx hb dX9_digit_9 (by decide) (fun q => ?_) (fun q => ?_)
    · have hk := hk.1 q
      refine lv_lload_n hx hb dX9_digit_24 rfl (lv_at hl 0 rfl) ?_
      refine lv_ldc2 (v := (lN 10)) hx hb hown (hts _ tw_1007) dX9_digit_25 ?_
      refine lv_lrem hx hb dX9_digit_28 (by decide) ?_
      refine lv_l2i (v := (Int64.toInt32 (x3 - x3 / (lN 10) * (lN 10)))) hx hb dX9_digit_29 rfl ?_
      exact r_iret C Z hr hk dX9_digit_30
    · have hk := hk.2 q
      refine lv_lload_n hx hb dX9_digit_12 rfl (lv_at hl 0 rfl) ?_
      refine lv_ldc2 (v := (lN 10)) hx hb hown (hts _ tw_1007) dX9_digit_13 ?_
      refine lv_ldiv hx hb dX9_digit_16 (by decide) ?_
      refine lv_topl (fun y17 ey17 => ?_)
      have hk := hk y17 ey17
      refine lv_lstore_n (lv' := [(3, .long y17), (5, .int x5)]) hx hb dX9_digit_17 rfl hl (by decide) rfl (fun ls hl => ?_)
      obtain ⟨y18, ey18⟩ : ∃ y : Int32, y = x5 + (nI 1) := ⟨_, rfl⟩
      have hk := hk y18 ey18
      refine lv_iinc (v := y18) (lv' := [(5, .int y18), (3, .long y17)]) hx hb dX9_digit_18 hl (k := 1) rfl (by rw [ey18]; rfl) (by decide) rfl (fun ls hl => ?_)
      refine lv_goto (tgt := 5) hx hb dX9_digit_21 (by decide) ?_
      exact ih y17 y18 h _ _ _ (lv_sub hl [1, 0] rfl) Z hk
set_option maxRecDepth 100000 in
set_option maxHeartbeats 4000000 in
theorem m_X9_digit (l : Launch) (g : Gt) (h : Hp) (x0 : Int64) (x2 : Int32) (Post : Int32 → Hp → Prop) (hk : wp_X9_digit x0 x2 Post h) : Met l yX9_digit wzX9_digit rmX9_digit (Pg g h [.long x0, .int x2]) (Qi g h Post) 0 0 (dm h) := by
  refine Met_of (cc := cX9_digit) (maxL := 6) (ret := (some .int)) (by decide) (Nat.le_of_ble_eq_true rfl) (fun p e s m below meth c ls C hr hnm hl Z => ?_)
  have hx := C.1.1
  have hb := C.1.2.1
  have hml := C.1.2.2.1
  have hown := C.1.2.2.2.1
  have hts := C.1.2.2.2.2
  have hl : lv_has ls 6 [(0, .long x0), (2, .int x2)] := hl
  unfold wp_X9_digit at hk
  generalize s.heap = H at Z ⊢
  generalize ([] : List Loc) = locs at Z ⊢
  refine lv_lload_n hx hb dX9_digit_0 rfl (lv_at hl 0 rfl) ?_
  refine lv_lstore_n (lv' := [(3, .long x0), (0, .long x0), (2, .int x2)]) hx hb dX9_digit_1 rfl hl (by decide) rfl (fun ls hl => ?_)
  refine lv_iload_n hx hb dX9_digit_2 rfl (lv_at hl 2 rfl) ?_
  refine lv_istore (lv' := [(5, .int x2), (3, .long x0), (0, .long x0), (2, .int x2)]) hx hb dX9_digit_3 hl (by decide) rfl (fun ls hl => ?_)
  obtain ⟨n1, hk⟩ := hk
  exact w_X9_digit_5 C hr  n1 x0 x2 h _ _ _ (lv_sub hl [1, 0] rfl) Z hk
abbrev rmX9_read : Room := ({ frames := 1, cells := 0, slots := 0, locals := 25 } : Room)
abbrev wzX9_read : List Cond := WS yX9_read cX9_read 3 (some .int)
set_option maxRecDepth 100000 in
set_option maxHeartbeats 4000000 in
theorem m_X9_read (l : Launch) (g : Gt) (h : Hp) (x0 : Nat) (x1 : Int32) (x2 : Int32) (Post : Int32 → Hp → Prop) (hk : wp_X9_read x0 x1 x2 Post h) : Met l yX9_read wzX9_read rmX9_read (Pg g h [.ref x0, .int x1, .int x2]) (Qi g h Post) 0 0 (dm h) := by
  refine Met_of (cc := cX9_read) (maxL := 3) (ret := (some .int)) (by decide) (Nat.le_of_ble_eq_true rfl) (fun p e s m below meth c ls C hr hnm hl Z => ?_)
  have hx := C.1.1
  have hb := C.1.2.1
  have hml := C.1.2.2.1
  have hown := C.1.2.2.2.1
  have hts := C.1.2.2.2.2
  have hl : lv_has ls 3 [(0, .ref x0), (1, .int x1), (2, .int x2)] := hl
  unfold wp_X9_read at hk
  generalize s.heap = H at Z ⊢
  generalize ([] : List Loc) = locs at Z ⊢
  refine lv_aload_n hx hb dX9_read_0 rfl (lv_at hl 0 rfl) ?_
  obtain ⟨v1, hv, hk⟩ := hk
  refine r_get (ci := 9) (k := 0) (T := TX9) (N := 17) C Z hv ku_9 rfl (by decide) tw_857 dX9_read_1 ?_
  refine lv_iload_n hx hb dX9_read_4 rfl (lv_at hl 1 rfl) ?_
  refine lv_iconst (v := (nI 1)) hx hb dX9_read_5 (by decide) ?_
  refine r_calli Z (r_runS (As := [.int x1, .int (nI 1)]) (rest := [.ref v1]) C Z (m_X9_c l g h x1 (nI 1) _ hk) (va_cwS 2 C.1.2.2.2.2 (gS tw_930 tw_931 tw_66 tw_932) rfl rfl rfl (by decide +kernel) ⟨Nat.le_of_ble_eq_true rfl, Nat.le_of_ble_eq_true rfl⟩) rfl hl.1 rfl (Nat.le_of_ble_eq_true rfl) dX9_read_6 ⟨Nat.zero_le _, Nat.zero_le _⟩) (fun r6 h6 H locs hk Z => ?_)
  obtain ⟨v9, hv, hk⟩ := hk
  refine r_lald C Z hv dX9_read_9 ?_
  refine lv_iload_n hx hb dX9_read_10 rfl (lv_at hl 2 rfl) ?_
  refine r_calli Z (r_runS (As := [.long v9, .int x2]) (rest := []) C Z (m_X9_digit l g h6 v9 x2 _ hk) (va_cwS 2 C.1.2.2.2.2 (gS tw_1004 tw_1005 tw_66 tw_1006) rfl rfl rfl (by decide +kernel) ⟨Nat.le_of_ble_eq_true rfl, Nat.le_of_ble_eq_true rfl⟩) rfl hl.1 rfl (Nat.le_of_ble_eq_true rfl) dX9_read_11 ⟨Nat.zero_le _, Nat.zero_le _⟩) (fun r11 h11 H locs hk Z => ?_)
  exact r_iret C Z hr hk dX9_read_14
abbrev rmX9_isLooked : Room := ({ frames := 1, cells := 0, slots := 0, locals := 21 } : Room)
abbrev wzX9_isLooked : List Cond := WS yX9_isLooked cX9_isLooked 2 (some .boolean)
set_option maxRecDepth 100000 in
set_option maxHeartbeats 4000000 in
theorem m_X9_isLooked (l : Launch) (g : Gt) (h : Hp) (x0 : Nat) (x1 : Int32) (Post : Int32 → Hp → Prop) (hk : wp_X9_isLooked x0 x1 Post h) : Met l yX9_isLooked wzX9_isLooked rmX9_isLooked (Pg g h [.ref x0, .int x1]) (Qi g h Post) 0 0 (dm h) := by
  refine Met_of (cc := cX9_isLooked) (maxL := 2) (ret := (some .boolean)) (by decide) (Nat.le_of_ble_eq_true rfl) (fun p e s m below meth c ls C hr hnm hl Z => ?_)
  have hx := C.1.1
  have hb := C.1.2.1
  have hml := C.1.2.2.1
  have hown := C.1.2.2.2.1
  have hts := C.1.2.2.2.2
  have hl : lv_has ls 2 [(0, .ref x0), (1, .int x1)] := hl
  unfold wp_X9_isLooked at hk
  generalize s.heap = H at Z ⊢
  generalize ([] : List Loc) = locs at Z ⊢
  refine lv_aload_n hx hb dX9_isLooked_0 rfl (lv_at hl 0 rfl) ?_
  obtain ⟨v1, hv, hk⟩ := hk
  refine r_get (ci := 9) (k := 0) (T := TX9) (N := 17) C Z hv ku_9 rfl (by decide) tw_857 dX9_isLooked_1 ?_
  refine lv_iload_n hx hb dX9_isLooked_4 rfl (lv_at hl 1 rfl) ?_
  refine lv_iconst (v := (nI 3)) hx hb dX9_isLooked_5 (by decide) ?_
  refine r_calli Z (r_runS (As := [.int x1, .int (nI 3)]) (rest := [.ref v1]) C Z (m_X9_c l g h x1 (nI 3) _ hk) (va_cwS 2 C.1.2.2.2.2 (gS tw_930 tw_931 tw_66 tw_932) rfl rfl rfl (by decide +kernel) ⟨Nat.le_of_ble_eq_true rfl, Nat.le_of_ble_eq_true rfl⟩) rfl hl.1 rfl (Nat.le_of_ble_eq_true rfl) dX9_isLooked_6 ⟨Nat.zero_le _, Nat.zero_le _⟩) (fun r6 h6 H locs hk Z => ?_)
  obtain ⟨v9, hv, hk⟩ := hk
  refine r_lald C Z hv dX9_isLooked_9 ?_
  refine lv_ldc2 (v := (lN 2)) hx hb hown (hts _ tw_921) dX9_isLooked_10 ?_
  refine W.lcmp hx hb dX9_isLooked_13 ?_
  refine lv_if_ne (tgt := 21) hx hb dX9_isLooked_14 (by decide) (fun q => ?_) (fun q => ?_)
  · have hk := hk.1 (mt (lc_eq v9 (lN 2)).mpr q)
    refine lv_iconst (v := (nI 0)) hx hb dX9_isLooked_21 (by decide) ?_
    exact r_zret C Z hr (Or.inl rfl) hk dX9_isLooked_22
  · have hk := hk.2 ((lc_eq v9 (lN 2)).mp q)
    refine lv_iconst (v := (nI 1)) hx hb dX9_isLooked_17 (by decide) ?_
    refine lv_goto (tgt := 22) hx hb dX9_isLooked_18 (by decide) ?_
    exact r_zret C Z hr (Or.inr rfl) hk dX9_isLooked_22
abbrev rmX9_keeps : Room := ({ frames := 0, cells := 0, slots := 0, locals := 0 } : Room)
abbrev wzX9_keeps : List Cond := WS yX9_keeps cX9_keeps 2 none
set_option maxRecDepth 100000 in
set_option maxHeartbeats 4000000 in
theorem w_X9_keeps_2 {p : Program} {l : Launch} {e : Env} {s : State} {m : MethodId} {args : Array Value} {below : List Frame} {meth : Method} {c : Code} {g : Gt} {h0 : Hp} (C : Cx g (dm h0) RX9 cX9_keeps 2 p s m args meth c) (hr : meth.sig.returnType = none) {Post : Hp → Prop} (x0 : Nat)   : ∀ (n : Nat) (x1 : Int32) (h : Hp) (H : Heap) (locs : List Loc) (ls : Array Slot), lv_has ls 2 [(0, .ref x0), (1, .int x1)] → St g (dm h0) s h H locs → wp_X9_keeps_2 Post x0 n x1 h → W p l e rmX9_keeps s m args below meth c H locs 0 0 (MQ below (Qv g h0 Post) args s 0 0 (dm h0)) (F0 m 2 ls []) := by
  have hx := C.1.1
  have hb := C.1.2.1
  have hml := C.1.2.2.1
  have hown := C.1.2.2.2.1
  have hts := C.1.2.2.2.2
  intro n
  induction n with
  | zero => intro x1 h H locs ls hl Z hk; exact (show False from hk).elim
  | succ n ih =>
    intro x1 h H locs ls hl Z hk
    unfold wp_X9_keeps_2 at hk
    refine lv_iload_n hx hb dX9_keeps_2 rfl (lv_at hl 1 rfl) ?_
    refine lv_sipush (v := (nI 1367)) hx hb dX9_keeps_3 (by decide) ?_
    refine lv_icmp_ge (tgt := 27) hx hb dX9_keeps_6 (by decide) (fun q => ?_) (fun q => ?_)
    · have hk := hk.1 q
      exact r_vret C Z hr hk dX9_keeps_27
    · have hk := hk.2 q
      refine lv_aload_n hx hb dX9_keeps_9 rfl (lv_at hl 0 rfl) ?_
      obtain ⟨v10, hv, hk⟩ := hk
      refine r_get (ci := 9) (k := 1) (T := TX9) (N := 17) C Z hv ku_9 rfl (by decide) tw_858 dX9_keeps_10 ?_
      refine lv_iload_n hx hb dX9_keeps_13 rfl (lv_at hl 1 rfl) ?_
      refine lv_aload_n hx hb dX9_keeps_14 rfl (lv_at hl 0 rfl) ?_
      obtain ⟨v15, hv, hk⟩ := hk
      refine r_get (ci := 9) (k := 0) (T := TX9) (N := 17) C Z hv ku_9 rfl (by decide) tw_857 dX9_keeps_15 ?_
      refine lv_iload_n hx hb dX9_keeps_18 rfl (lv_at hl 1 rfl) ?_
      obtain ⟨v19, hv, hk⟩ := hk
      refine r_lald C Z hv dX9_keeps_19 ?_
      obtain ⟨h20, hv, hk⟩ := hk
      refine r_last C Z hv dX9_keeps_20 (fun H locs Z => ?_)
      obtain ⟨y21, ey21⟩ : ∃ y : Int32, y = x1 + (nI 1) := ⟨_, rfl⟩
      have hk := hk y21 ey21
      refine lv_iinc (v := y21) (lv' := [(1, .int y21), (0, .ref x0)]) hx hb dX9_keeps_21 hl (k := 1) rfl (by rw [ey21]; rfl) (by decide) rfl (fun ls hl => ?_)
      refine lv_goto (tgt := 2) hx hb dX9_keeps_24 (by decide) ?_
      exact ih y21 h20 _ _ _ (lv_sub hl [1, 0] rfl) Z hk
set_option maxRecDepth 100000 in
set_option maxHeartbeats 4000000 in
theorem m_X9_keeps (l : Launch) (g : Gt) (h : Hp) (x0 : Nat) (Post : Hp → Prop) (hk : wp_X9_keeps x0 Post h) : Met l yX9_keeps wzX9_keeps rmX9_keeps (Pg g h [.ref x0]) (Qv g h Post) 0 0 (dm h) := by
  refine Met_of (cc := cX9_keeps) (maxL := 2) (ret := none) (by decide) (Nat.le_of_ble_eq_true rfl) (fun p e s m below meth c ls C hr hnm hl Z => ?_)
  have hx := C.1.1
  have hb := C.1.2.1
  have hml := C.1.2.2.1
  have hown := C.1.2.2.2.1
  have hts := C.1.2.2.2.2
  have hl : lv_has ls 2 [(0, .ref x0)] := hl
  unfold wp_X9_keeps at hk
  generalize s.heap = H at Z ⊢
  generalize ([] : List Loc) = locs at Z ⊢
  refine lv_iconst (v := (nI 0)) hx hb dX9_keeps_0 (by decide) ?_
  refine lv_istore_n (lv' := [(1, .int (nI 0)), (0, .ref x0)]) hx hb dX9_keeps_1 rfl hl (by decide) rfl (fun ls hl => ?_)
  obtain ⟨n1, hk⟩ := hk
  exact w_X9_keeps_2 C hr x0 n1 (nI 0) h _ _ _ (lv_sub hl [1, 0] rfl) Z hk
abbrev rmX9_acted : Room := ({ frames := 1, cells := 0, slots := 0, locals := 25 } : Room)
abbrev wzX9_acted : List Cond := WS yX9_acted cX9_acted 3 (some .int)
set_option maxRecDepth 100000 in
set_option maxHeartbeats 4000000 in
theorem w_X9_acted_67 {p : Program} {l : Launch} {e : Env} {s : State} {m : MethodId} {args : Array Value} {below : List Frame} {meth : Method} {c : Code} {g : Gt} {h0 : Hp} (C : Cx g (dm h0) RX9 cX9_acted 3 p s m args meth c) (hr : meth.sig.returnType = (some .int)) {Post : Int32 → Hp → Prop} (x0 : Nat) (x1 : Int32)   : ∀ (n : Nat) (x2 : Int32) (h : Hp) (H : Heap) (locs : List Loc) (ls : Array Slot), lv_has ls 3 [(0, .ref x0), (1, .int x1), (2, .int x2)] → St g (dm h0) s h H locs → wp_X9_acted_67 Post x0 x1 n x2 h → W p l e rmX9_acted s m args below meth c H locs 0 0 (MQ below (Qi g h0 Post) args s 0 0 (dm h0)) (F0 m 67 ls []) := by
  have hx := C.1.1
  have hb := C.1.2.1
  have hml := C.1.2.2.1
  have hown := C.1.2.2.2.1
  have hts := C.1.2.2.2.2
  intro n
  induction n with
  | zero => intro x2 h H locs ls hl Z hk; exact (show False from hk).elim
  | succ n ih =>
    intro x2 h H locs ls hl Z hk
    unfold wp_X9_acted_67 at hk
    refine lv_iload_n hx hb dX9_acted_67 rfl (lv_at hl 2 rfl) ?_
    refine lv_sipush (v := (nI 1367)) hx hb dX9_acted_68 (by decide) ?_
    refine lv_icmp_ge (tgt := 101) hx hb dX9_acted_71 (by decide) (fun q => ?_) (fun q => ?_)
    · have hk := hk.1 q
      refine lv_aload_n hx hb dX9_acted_101 rfl (lv_at hl 0 rfl) ?_
      refine lv_dup hx hb dX9_acted_102 rfl ?_
      obtain ⟨v103, hv, hk⟩ := hk
      refine r_get (ci := 9) (k := 3) (T := TX9) (N := 17) C Z hv ku_9 rfl (by decide) tw_860 dX9_acted_103 ?_
      refine lv_iconst (v := (nI 1)) hx hb dX9_acted_106 (by decide) ?_
      refine lv_iadd hx hb dX9_acted_107 ?_
      obtain ⟨h108, hv, hk⟩ := hk
      refine r_put (ci := 9) (k := 3) (T := TX9) (N := 17) C Z hv ku_9 tyX9_ok nmX9 rfl (by decide) tw_860 rfl rfl rfl dX9_acted_108 (fun H locs Z => ?_)
      refine lv_iload_n hx hb dX9_acted_111 rfl (lv_at hl 1 rfl) ?_
      exact r_iret C Z hr hk dX9_acted_112
    · have hk := hk.2 q
      refine lv_aload_n hx hb dX9_acted_74 rfl (lv_at hl 0 rfl) ?_
      obtain ⟨v75, hv, hk⟩ := hk
      refine r_get (ci := 9) (k := 2) (T := TX9) (N := 17) C Z hv ku_9 rfl (by decide) tw_859 dX9_acted_75 ?_
      refine lv_sipush (v := (nI 1367)) hx hb dX9_acted_78 (by decide) ?_
      refine lv_aload_n hx hb dX9_acted_81 rfl (lv_at hl 0 rfl) ?_
      obtain ⟨v82, hv, hk⟩ := hk
      refine r_get (ci := 9) (k := 3) (T := TX9) (N := 17) C Z hv ku_9 rfl (by decide) tw_860 dX9_acted_82 ?_
      refine lv_imul hx hb dX9_acted_85 ?_
      refine lv_iload_n hx hb dX9_acted_86 rfl (lv_at hl 2 rfl) ?_
      refine lv_iadd hx hb dX9_acted_87 ?_
      refine lv_aload_n hx hb dX9_acted_88 rfl (lv_at hl 0 rfl) ?_
      obtain ⟨v89, hv, hk⟩ := hk
      refine r_get (ci := 9) (k := 1) (T := TX9) (N := 17) C Z hv ku_9 rfl (by decide) tw_858 dX9_acted_89 ?_
      refine lv_iload_n hx hb dX9_acted_92 rfl (lv_at hl 2 rfl) ?_
      obtain ⟨v93, hv, hk⟩ := hk
      refine r_lald C Z hv dX9_acted_93 ?_
      obtain ⟨h94, hv, hk⟩ := hk
      refine r_last C Z hv dX9_acted_94 (fun H locs Z => ?_)
      obtain ⟨y95, ey95⟩ : ∃ y : Int32, y = x2 + (nI 1) := ⟨_, rfl⟩
      have hk := hk y95 ey95
      refine lv_iinc (v := y95) (lv' := [(2, .int y95), (0, .ref x0), (1, .int x1)]) hx hb dX9_acted_95 hl (k := 2) rfl (by rw [ey95]; rfl) (by decide) rfl (fun ls hl => ?_)
      refine lv_goto (tgt := 67) hx hb dX9_acted_98 (by decide) ?_
      exact ih y95 h94 _ _ _ (lv_sub hl [1, 2, 0] rfl) Z hk
set_option maxRecDepth 100000 in
set_option maxHeartbeats 4000000 in
theorem w_X9_acted_26 {p : Program} {l : Launch} {e : Env} {s : State} {m : MethodId} {args : Array Value} {below : List Frame} {meth : Method} {c : Code} {g : Gt} {h0 : Hp} (C : Cx g (dm h0) RX9 cX9_acted 3 p s m args meth c) (hr : meth.sig.returnType = (some .int)) {Post : Int32 → Hp → Prop} (x0 : Nat) (x1 : Int32)   : ∀ (n : Nat) (x2 : Int32) (h : Hp) (H : Heap) (locs : List Loc) (ls : Array Slot), lv_has ls 3 [(0, .ref x0), (1, .int x1), (2, .int x2)] → St g (dm h0) s h H locs → wp_X9_acted_26 Post x0 x1 n x2 h → W p l e rmX9_acted s m args below meth c H locs 0 0 (MQ below (Qi g h0 Post) args s 0 0 (dm h0)) (F0 m 26 ls []) := by
  have hx := C.1.1
  have hb := C.1.2.1
  have hml := C.1.2.2.1
  have hown := C.1.2.2.2.1
  have hts := C.1.2.2.2.2
  intro n
  induction n with
  | zero => intro x2 h H locs ls hl Z hk; exact (show False from hk).elim
  | succ n ih =>
    intro x2 h H locs ls hl Z hk
    unfold wp_X9_acted_26 at hk
    refine lv_iload_n hx hb dX9_acted_26 rfl (lv_at hl 2 rfl) ?_
    refine lv_sipush (v := (nI 5468)) hx hb dX9_acted_27 (by decide) ?_
    refine lv_icmp_ge (tgt := 55) hx hb dX9_acted_30 (by decide) (fun q => ?_) (fun q => ?_)
    · have hk := hk.1 q
      refine lv_aload_n hx hb dX9_acted_55 rfl (lv_at hl 0 rfl) ?_
      refine lv_dup hx hb dX9_acted_56 rfl ?_
      obtain ⟨v57, hv, hk⟩ := hk
      refine r_get (ci := 9) (k := 3) (T := TX9) (N := 17) C Z hv ku_9 rfl (by decide) tw_860 dX9_acted_57 ?_
      refine lv_iconst (v := (nI 1)) hx hb dX9_acted_60 (by decide) ?_
      refine lv_isub hx hb dX9_acted_61 ?_
      obtain ⟨h62, hv, hk⟩ := hk
      refine r_put (ci := 9) (k := 3) (T := TX9) (N := 17) C Z hv ku_9 tyX9_ok nmX9 rfl (by decide) tw_860 rfl rfl rfl dX9_acted_62 (fun H locs Z => ?_)
      refine lv_iconst (v := (nI 0)) hx hb dX9_acted_65 (by decide) ?_
      refine lv_istore_n (lv' := [(2, .int (nI 0)), (0, .ref x0), (1, .int x1)]) hx hb dX9_acted_66 rfl hl (by decide) rfl (fun ls hl => ?_)
      obtain ⟨n1, hk⟩ := hk
      exact w_X9_acted_67 C hr x0 x1 n1 (nI 0) h62 _ _ _ (lv_sub hl [1, 2, 0] rfl) Z hk
    · have hk := hk.2 q
      refine lv_aload_n hx hb dX9_acted_33 rfl (lv_at hl 0 rfl) ?_
      obtain ⟨v34, hv, hk⟩ := hk
      refine r_get (ci := 9) (k := 2) (T := TX9) (N := 17) C Z hv ku_9 rfl (by decide) tw_859 dX9_acted_34 ?_
      refine lv_iload_n hx hb dX9_acted_37 rfl (lv_at hl 2 rfl) ?_
      refine lv_aload_n hx hb dX9_acted_38 rfl (lv_at hl 0 rfl) ?_
      obtain ⟨v39, hv, hk⟩ := hk
      refine r_get (ci := 9) (k := 2) (T := TX9) (N := 17) C Z hv ku_9 rfl (by decide) tw_859 dX9_acted_39 ?_
      refine lv_iload_n hx hb dX9_acted_42 rfl (lv_at hl 2 rfl) ?_
      refine lv_sipush (v := (nI 1367)) hx hb dX9_acted_43 (by decide) ?_
      refine lv_iadd hx hb dX9_acted_46 ?_
      obtain ⟨v47, hv, hk⟩ := hk
      refine r_lald C Z hv dX9_acted_47 ?_
      obtain ⟨h48, hv, hk⟩ := hk
      refine r_last C Z hv dX9_acted_48 (fun H locs Z => ?_)
      obtain ⟨y49, ey49⟩ : ∃ y : Int32, y = x2 + (nI 1) := ⟨_, rfl⟩
      have hk := hk y49 ey49
      refine lv_iinc (v := y49) (lv' := [(2, .int y49), (0, .ref x0), (1, .int x1)]) hx hb dX9_acted_49 hl (k := 2) rfl (by rw [ey49]; rfl) (by decide) rfl (fun ls hl => ?_)
      refine lv_goto (tgt := 26) hx hb dX9_acted_52 (by decide) ?_
      exact ih y49 h48 _ _ _ (lv_sub hl [1, 2, 0] rfl) Z hk
set_option maxRecDepth 100000 in
set_option maxHeartbeats 4000000 in
theorem m_X9_acted (l : Launch) (g : Gt) (h : Hp) (x0 : Nat) (x1 : Int32) (Post : Int32 → Hp → Prop) (hk : wp_X9_acted x0 x1 Post h) : Met l yX9_acted wzX9_acted rmX9_acted (Pg g h [.ref x0, .int x1]) (Qi g h Post) 0 0 (dm h) := by
  refine Met_of (cc := cX9_acted) (maxL := 3) (ret := (some .int)) (by decide) (Nat.le_of_ble_eq_true rfl) (fun p e s m below meth c ls C hr hnm hl Z => ?_)
  have hx := C.1.1
  have hb := C.1.2.1
  have hml := C.1.2.2.1
  have hown := C.1.2.2.2.1
  have hts := C.1.2.2.2.2
  have hl : lv_has ls 3 [(0, .ref x0), (1, .int x1)] := hl
  unfold wp_X9_acted at hk
  generalize s.heap = H at Z ⊢
  generalize ([] : List Loc) = locs at Z ⊢
  refine lv_iload_n hx hb dX9_acted_0 rfl (lv_at hl 1 rfl) ?_
  refine lv_i2l (v := (Int32.toInt64 x1)) hx hb dX9_acted_1 rfl ?_
  refine lv_ldc2 (v := (-3 : Int64)) hx hb hown (hts _ tw_937) dX9_acted_2 ?_
  refine lv_ldc2 (v := (-1 : Int64)) hx hb hown (hts _ tw_938) dX9_acted_5 ?_
  refine r_calli Z (r_runS (As := [.long (Int32.toInt64 x1), .long (-3 : Int64), .long (-1 : Int64)]) (rest := []) C Z (m_X9_in l g h (Int32.toInt64 x1) (-3 : Int64) (-1 : Int64) _ hk) (va_cwS 3 C.1.2.2.2.2 (gS tw_922 tw_923 tw_66 tw_924) rfl rfl rfl (by decide +kernel) ⟨Nat.le_of_ble_eq_true rfl, Nat.le_of_ble_eq_true rfl⟩) rfl hl.1 rfl (Nat.le_of_ble_eq_true rfl) dX9_acted_8 ⟨Nat.zero_le _, Nat.zero_le _⟩) (fun r8 h8 H locs hk Z => ?_)
  refine lv_if_eq (tgt := 16) hx hb dX9_acted_11 (by decide) (fun q => ?_) (fun q => ?_)
  · have hk := hk.1 q
    refine lv_aload_n hx hb dX9_acted_16 rfl (lv_at hl 0 rfl) ?_
    obtain ⟨v17, hv, hk⟩ := hk
    refine r_get (ci := 9) (k := 3) (T := TX9) (N := 17) C Z hv ku_9 rfl (by decide) tw_860 dX9_acted_17 ?_
    refine lv_iconst (v := (nI 5)) hx hb dX9_acted_20 (by decide) ?_
    refine lv_icmp_ne (tgt := 65) hx hb dX9_acted_21 (by decide) (fun q => ?_) (fun q => ?_)
    · have hk := hk.1 q
      refine lv_iconst (v := (nI 0)) hx hb dX9_acted_65 (by decide) ?_
      refine lv_istore_n (lv' := [(2, .int (nI 0)), (0, .ref x0), (1, .int x1)]) hx hb dX9_acted_66 rfl hl (by decide) rfl (fun ls hl => ?_)
      obtain ⟨n1, hk⟩ := hk
      exact w_X9_acted_67 C hr x0 x1 n1 (nI 0) h8 _ _ _ (lv_sub hl [1, 2, 0] rfl) Z hk
    · have hk := hk.2 q
      refine lv_iconst (v := (nI 0)) hx hb dX9_acted_24 (by decide) ?_
      refine lv_istore_n (lv' := [(2, .int (nI 0)), (0, .ref x0), (1, .int x1)]) hx hb dX9_acted_25 rfl hl (by decide) rfl (fun ls hl => ?_)
      obtain ⟨n1, hk⟩ := hk
      exact w_X9_acted_26 C hr x0 x1 n1 (nI 0) h8 _ _ _ (lv_sub hl [1, 2, 0] rfl) Z hk
  · have hk := hk.2 q
    refine lv_iload_n hx hb dX9_acted_14 rfl (lv_at hl 1 rfl) ?_
    exact r_iret C Z hr hk dX9_acted_15
abbrev rmX9_goesOn : Room := ({ frames := 2, cells := 0, slots := 0, locals := 47 } : Room)
abbrev wzX9_goesOn : List Cond := WS yX9_goesOn cX9_goesOn 4 (some .boolean)
set_option maxRecDepth 100000 in
set_option maxHeartbeats 4000000 in
theorem m_X9_goesOn (l : Launch) (g : Gt) (h : Hp) (x0 : Nat) (x1 : Int32) (x2 : Int32) (x3 : Int32) (Post : Int32 → Hp → Prop) (hk : wp_X9_goesOn x0 x1 x2 x3 Post h) : Met l yX9_goesOn wzX9_goesOn rmX9_goesOn (Pg g h [.ref x0, .int x1, .int x2, .int x3]) (Qi g h Post) 0 0 (dm h) := by
  refine Met_of (cc := cX9_goesOn) (maxL := 4) (ret := (some .boolean)) (by decide) (Nat.le_of_ble_eq_true rfl) (fun p e s m below meth c ls C hr hnm hl Z => ?_)
  have hx := C.1.1
  have hb := C.1.2.1
  have hml := C.1.2.2.1
  have hown := C.1.2.2.2.1
  have hts := C.1.2.2.2.2
  have hl : lv_has ls 4 [(0, .ref x0), (1, .int x1), (2, .int x2), (3, .int x3)] := hl
  unfold wp_X9_goesOn at hk
  generalize s.heap = H at Z ⊢
  generalize ([] : List Loc) = locs at Z ⊢
  refine lv_aload_n hx hb dX9_goesOn_0 rfl (lv_at hl 0 rfl) ?_
  obtain ⟨v1, hv, hk⟩ := hk
  refine r_get (ci := 9) (k := 0) (T := TX9) (N := 17) C Z hv ku_9 rfl (by decide) tw_857 dX9_goesOn_1 ?_
  refine lv_iload_n hx hb dX9_goesOn_4 rfl (lv_at hl 1 rfl) ?_
  refine lv_iconst (v := (nI 2)) hx hb dX9_goesOn_5 (by decide) ?_
  refine r_calli Z (r_runS (As := [.int x1, .int (nI 2)]) (rest := [.ref v1]) C Z (m_X9_c l g h x1 (nI 2) _ hk) (va_cwS 2 C.1.2.2.2.2 (gS tw_930 tw_931 tw_66 tw_932) rfl rfl rfl (by decide +kernel) ⟨Nat.le_of_ble_eq_true rfl, Nat.le_of_ble_eq_true rfl⟩) rfl hl.1 rfl (Nat.le_of_ble_eq_true rfl) dX9_goesOn_6 ⟨Nat.zero_le _, Nat.zero_le _⟩) (fun r6 h6 H locs hk Z => ?_)
  obtain ⟨v9, hv, hk⟩ := hk
  refine r_lald C Z hv dX9_goesOn_9 ?_
  refine lv_aload_n hx hb dX9_goesOn_10 rfl (lv_at hl 0 rfl) ?_
  obtain ⟨v11, hv, hk⟩ := hk
  refine r_get (ci := 9) (k := 0) (T := TX9) (N := 17) C Z hv ku_9 rfl (by decide) tw_857 dX9_goesOn_11 ?_
  refine lv_iload_n hx hb dX9_goesOn_14 rfl (lv_at hl 2 rfl) ?_
  refine lv_iconst (v := (nI 2)) hx hb dX9_goesOn_15 (by decide) ?_
  refine r_calli Z (r_runS (As := [.int x2, .int (nI 2)]) (rest := [.ref v11, .long v9]) C Z (m_X9_c l g h6 x2 (nI 2) _ hk) (va_cwS 2 C.1.2.2.2.2 (gS tw_930 tw_931 tw_66 tw_932) rfl rfl rfl (by decide +kernel) ⟨Nat.le_of_ble_eq_true rfl, Nat.le_of_ble_eq_true rfl⟩) rfl hl.1 rfl (Nat.le_of_ble_eq_true rfl) dX9_goesOn_16 ⟨Nat.zero_le _, Nat.zero_le _⟩) (fun r16 h16 H locs hk Z => ?_)
  obtain ⟨v19, hv, hk⟩ := hk
  refine r_lald C Z hv dX9_goesOn_19 ?_
  refine W.lcmp hx hb dX9_goesOn_20 ?_
  refine lv_if_ne (tgt := 46) hx hb dX9_goesOn_21 (by decide) (fun q => ?_) (fun q => ?_)
  · have hk := hk.1 (mt (lc_eq v9 v19).mpr q)
    refine lv_iconst (v := (nI 0)) hx hb dX9_goesOn_46 (by decide) ?_
    exact r_zret C Z hr (Or.inl rfl) hk dX9_goesOn_47
  · have hk := hk.2 ((lc_eq v9 v19).mp q)
    refine lv_aload_n hx hb dX9_goesOn_24 rfl (lv_at hl 0 rfl) ?_
    refine lv_iload_n hx hb dX9_goesOn_25 rfl (lv_at hl 1 rfl) ?_
    refine lv_iload_n hx hb dX9_goesOn_26 rfl (lv_at hl 3 rfl) ?_
    obtain ⟨ho, hk⟩ := hk
    refine r_calli Z (r_runV (As := [.int x1, .int x3]) (rest := []) C Z (m_X9_read l g h16 x0 x1 x3 _ hk) ho rfl (cwV 2 C.1.2.2.2.2 (gV tw_1008 tw_1010 tw_28 tw_66 tw_1011) rfl rfl rfl (by decide +kernel) ⟨Nat.le_of_ble_eq_true rfl, Nat.le_of_ble_eq_true rfl⟩) rfl hl.1 rfl (Nat.le_of_ble_eq_true rfl) dX9_goesOn_27 ⟨Nat.zero_le _, Nat.zero_le _⟩) (fun r27 h27 H locs hk Z => ?_)
    refine lv_if_le (tgt := 46) hx hb dX9_goesOn_30 (by decide) (fun q => ?_) (fun q => ?_)
    · have hk := hk.1 q
      refine lv_iconst (v := (nI 0)) hx hb dX9_goesOn_46 (by decide) ?_
      exact r_zret C Z hr (Or.inl rfl) hk dX9_goesOn_47
    · have hk := hk.2 q
      refine lv_aload_n hx hb dX9_goesOn_33 rfl (lv_at hl 0 rfl) ?_
      refine lv_iload_n hx hb dX9_goesOn_34 rfl (lv_at hl 2 rfl) ?_
      refine lv_iload_n hx hb dX9_goesOn_35 rfl (lv_at hl 3 rfl) ?_
      obtain ⟨ho, hk⟩ := hk
      refine r_calli Z (r_runV (As := [.int x2, .int x3]) (rest := []) C Z (m_X9_read l g h27 x0 x2 x3 _ hk) ho rfl (cwV 2 C.1.2.2.2.2 (gV tw_1008 tw_1010 tw_28 tw_66 tw_1011) rfl rfl rfl (by decide +kernel) ⟨Nat.le_of_ble_eq_true rfl, Nat.le_of_ble_eq_true rfl⟩) rfl hl.1 rfl (Nat.le_of_ble_eq_true rfl) dX9_goesOn_36 ⟨Nat.zero_le _, Nat.zero_le _⟩) (fun r36 h36 H locs hk Z => ?_)
      refine lv_if_le (tgt := 46) hx hb dX9_goesOn_39 (by decide) (fun q => ?_) (fun q => ?_)
      · have hk := hk.1 q
        refine lv_iconst (v := (nI 0)) hx hb dX9_goesOn_46 (by decide) ?_
        exact r_zret C Z hr (Or.inl rfl) hk dX9_goesOn_47
      · have hk := hk.2 q
        refine lv_iconst (v := (nI 1)) hx hb dX9_goesOn_42 (by decide) ?_
        refine lv_goto (tgt := 47) hx hb dX9_goesOn_43 (by decide) ?_
        exact r_zret C Z hr (Or.inr rfl) hk dX9_goesOn_47
abbrev rmX9_beside : Room := ({ frames := 1, cells := 0, slots := 0, locals := 21 } : Room)
abbrev wzX9_beside : List Cond := WS yX9_beside cX9_beside 4 (some .int)
set_option maxRecDepth 100000 in
set_option maxHeartbeats 4000000 in
theorem w_X9_beside_4 {p : Program} {l : Launch} {e : Env} {s : State} {m : MethodId} {args : Array Value} {below : List Frame} {meth : Method} {c : Code} {g : Gt} {h0 : Hp} (C : Cx g (dm h0) RX9 cX9_beside 4 p s m args meth c) (hr : meth.sig.returnType = (some .int)) {Post : Int32 → Hp → Prop} (x0 : Nat) (x1 : Int32) (x2 : Int32)   : ∀ (n : Nat) (x3 : Int32) (h : Hp) (H : Heap) (locs : List Loc) (ls : Array Slot), lv_has ls 4 [(0, .ref x0), (1, .int x1), (2, .int x2), (3, .int x3)] → St g (dm h0) s h H locs → wp_X9_beside_4 Post x0 x1 x2 n x3 h → W p l e rmX9_beside s m args below meth c H locs 0 0 (MQ below (Qi g h0 Post) args s 0 0 (dm h0)) (F0 m 4 ls []) := by
  have hx := C.1.1
  have hb := C.1.2.1
  have hml := C.1.2.2.1
  have hown := C.1.2.2.2.1
  have hts := C.1.2.2.2.2
  intro n
  induction n with
  | zero => intro x3 h H locs ls hl Z hk; exact (show False from hk).elim
  | succ n ih =>
    intro x3 h H locs ls hl Z hk
    unfold wp_X9_beside_4 at hk
    refine lv_iload_n hx hb dX9_beside_4 rfl (lv_at hl 3 rfl) ?_
    refine lv_if_lt (tgt := 53) hx hb dX9_beside_5 (by decide) (fun q => ?_) (fun q => ?_)
    · have hk := hk.1 q
      refine lv_bipush (v := (-9 : Int32)) hx hb dX9_beside_53 (by decide) ?_
      exact r_iret C Z hr hk dX9_beside_55
    · have hk := hk.2 q
      refine lv_iload_n hx hb dX9_beside_8 rfl (lv_at hl 3 rfl) ?_
      refine lv_i2l (v := (Int32.toInt64 x3)) hx hb dX9_beside_9 rfl ?_
      refine lv_aload_n hx hb dX9_beside_10 rfl (lv_at hl 0 rfl) ?_
      obtain ⟨v11, hv, hk⟩ := hk
      refine r_get (ci := 9) (k := 0) (T := TX9) (N := 17) C Z hv ku_9 rfl (by decide) tw_857 dX9_beside_11 ?_
      refine lv_iconst (v := (nI 0)) hx hb dX9_beside_14 (by decide) ?_
      obtain ⟨v15, hv, hk⟩ := hk
      refine r_lald C Z hv dX9_beside_15 ?_
      refine W.lcmp hx hb dX9_beside_16 ?_
      refine lv_if_ge (tgt := 53) hx hb dX9_beside_17 (by decide) (fun q => ?_) (fun q => ?_)
      · have hk := hk.1 ((lc_ge (Int32.toInt64 x3) v15).mp q)
        refine lv_bipush (v := (-9 : Int32)) hx hb dX9_beside_53 (by decide) ?_
        exact r_iret C Z hr hk dX9_beside_55
      · have hk := hk.2 (mt (lc_ge (Int32.toInt64 x3) v15).mpr q)
        refine lv_aload_n hx hb dX9_beside_20 rfl (lv_at hl 0 rfl) ?_
        obtain ⟨v21, hv, hk⟩ := hk
        refine r_get (ci := 9) (k := 0) (T := TX9) (N := 17) C Z hv ku_9 rfl (by decide) tw_857 dX9_beside_21 ?_
        refine lv_iload_n hx hb dX9_beside_24 rfl (lv_at hl 3 rfl) ?_
        refine lv_iconst (v := (nI 0)) hx hb dX9_beside_25 (by decide) ?_
        refine r_calli Z (r_runS (As := [.int x3, .int (nI 0)]) (rest := [.ref v21]) C Z (m_X9_c l g h x3 (nI 0) _ hk) (va_cwS 2 C.1.2.2.2.2 (gS tw_930 tw_931 tw_66 tw_932) rfl rfl rfl (by decide +kernel) ⟨Nat.le_of_ble_eq_true rfl, Nat.le_of_ble_eq_true rfl⟩) rfl hl.1 rfl (Nat.le_of_ble_eq_true rfl) dX9_beside_26 ⟨Nat.zero_le _, Nat.zero_le _⟩) (fun r26 h26 H locs hk Z => ?_)
        obtain ⟨v29, hv, hk⟩ := hk
        refine r_lald C Z hv dX9_beside_29 ?_
        refine lv_aload_n hx hb dX9_beside_30 rfl (lv_at hl 0 rfl) ?_
        obtain ⟨v31, hv, hk⟩ := hk
        refine r_get (ci := 9) (k := 0) (T := TX9) (N := 17) C Z hv ku_9 rfl (by decide) tw_857 dX9_beside_31 ?_
        refine lv_iload_n hx hb dX9_beside_34 rfl (lv_at hl 1 rfl) ?_
        refine lv_iconst (v := (nI 0)) hx hb dX9_beside_35 (by decide) ?_
        refine r_calli Z (r_runS (As := [.int x1, .int (nI 0)]) (rest := [.ref v31, .long v29]) C Z (m_X9_c l g h26 x1 (nI 0) _ hk) (va_cwS 2 C.1.2.2.2.2 (gS tw_930 tw_931 tw_66 tw_932) rfl rfl rfl (by decide +kernel) ⟨Nat.le_of_ble_eq_true rfl, Nat.le_of_ble_eq_true rfl⟩) rfl hl.1 rfl (Nat.le_of_ble_eq_true rfl) dX9_beside_36 ⟨Nat.zero_le _, Nat.zero_le _⟩) (fun r36 h36 H locs hk Z => ?_)
        obtain ⟨v39, hv, hk⟩ := hk
        refine r_lald C Z hv dX9_beside_39 ?_
        refine W.lcmp hx hb dX9_beside_40 ?_
        refine lv_if_ne (tgt := 46) hx hb dX9_beside_41 (by decide) (fun q => ?_) (fun q => ?_)
        · have hk := hk.1 (mt (lc_eq v29 v39).mpr q)
          refine lv_iload_n hx hb dX9_beside_46 rfl (lv_at hl 3 rfl) ?_
          refine lv_iload_n hx hb dX9_beside_47 rfl (lv_at hl 2 rfl) ?_
          refine lv_iadd hx hb dX9_beside_48 ?_
          refine lv_topi (fun y49 ey49 => ?_)
          have hk := hk y49 ey49
          refine lv_istore_n (lv' := [(3, .int y49), (0, .ref x0), (1, .int x1), (2, .int x2)]) hx hb dX9_beside_49 rfl hl (by decide) rfl (fun ls hl => ?_)
          refine lv_goto (tgt := 4) hx hb dX9_beside_50 (by decide) ?_
          exact ih y49 h36 _ _ _ (lv_sub hl [1, 2, 3, 0] rfl) Z hk
        · have hk := hk.2 ((lc_eq v29 v39).mp q)
          refine lv_iload_n hx hb dX9_beside_44 rfl (lv_at hl 3 rfl) ?_
          exact r_iret C Z hr hk dX9_beside_45
set_option maxRecDepth 100000 in
set_option maxHeartbeats 4000000 in
theorem m_X9_beside (l : Launch) (g : Gt) (h : Hp) (x0 : Nat) (x1 : Int32) (x2 : Int32) (Post : Int32 → Hp → Prop) (hk : wp_X9_beside x0 x1 x2 Post h) : Met l yX9_beside wzX9_beside rmX9_beside (Pg g h [.ref x0, .int x1, .int x2]) (Qi g h Post) 0 0 (dm h) := by
  refine Met_of (cc := cX9_beside) (maxL := 4) (ret := (some .int)) (by decide) (Nat.le_of_ble_eq_true rfl) (fun p e s m below meth c ls C hr hnm hl Z => ?_)
  have hx := C.1.1
  have hb := C.1.2.1
  have hml := C.1.2.2.1
  have hown := C.1.2.2.2.1
  have hts := C.1.2.2.2.2
  have hl : lv_has ls 4 [(0, .ref x0), (1, .int x1), (2, .int x2)] := hl
  unfold wp_X9_beside at hk
  generalize s.heap = H at Z ⊢
  generalize ([] : List Loc) = locs at Z ⊢
  refine lv_iload_n hx hb dX9_beside_0 rfl (lv_at hl 1 rfl) ?_
  refine lv_iload_n hx hb dX9_beside_1 rfl (lv_at hl 2 rfl) ?_
  refine lv_iadd hx hb dX9_beside_2 ?_
  refine lv_topi (fun y3 ey3 => ?_)
  have hk := hk y3 ey3
  refine lv_istore_n (lv' := [(3, .int y3), (0, .ref x0), (1, .int x1), (2, .int x2)]) hx hb dX9_beside_3 rfl hl (by decide) rfl (fun ls hl => ?_)
  obtain ⟨n1, hk⟩ := hk
  exact w_X9_beside_4 C hr x0 x1 x2 n1 y3 h _ _ _ (lv_sub hl [1, 2, 3, 0] rfl) Z hk
abbrev rmX9_end : Room := ({ frames := 3, cells := 0, slots := 0, locals := 70 } : Room)
abbrev wzX9_end : List Cond := WS yX9_end cX9_end 6 (some .int)
set_option maxRecDepth 100000 in
set_option maxHeartbeats 4000000 in
theorem w_X9_end_12 {p : Program} {l : Launch} {e : Env} {s : State} {m : MethodId} {args : Array Value} {below : List Frame} {meth : Method} {c : Code} {g : Gt} {h0 : Hp} (C : Cx g (dm h0) RX9 cX9_end 6 p s m args meth c) (hr : meth.sig.returnType = (some .int)) {Post : Int32 → Hp → Prop} (x0 : Nat) (x2 : Int32) (x3 : Int32)   : ∀ (n : Nat) (x4 : Int32) (x5 : Int32) (h : Hp) (H : Heap) (locs : List Loc) (ls : Array Slot), lv_has ls 6 [(0, .ref x0), (2, .int x2), (3, .int x3), (4, .int x4), (5, .int x5)] → St g (dm h0) s h H locs → wp_X9_end_12 Post x0 x2 x3 n x4 x5 h → W p l e rmX9_end s m args below meth c H locs 0 0 (MQ below (Qi g h0 Post) args s 0 0 (dm h0)) (F0 m 12 ls []) := by
  have hx := C.1.1
  have hb := C.1.2.1
  have hml := C.1.2.2.1
  have hown := C.1.2.2.2.1
  have hts := C.1.2.2.2.2
  intro n
  induction n with
  | zero => intro x4 x5 h H locs ls hl Z hk; exact (show False from hk).elim
  | succ n ih =>
    intro x4 x5 h H locs ls hl Z hk
    unfold wp_X9_end_12 at hk
    refine lv_iload hx hb dX9_end_12 (lv_at hl 4 rfl) ?_
    refine lv_bipush (v := (-9 : Int32)) hx hb dX9_end_14 (by decide) ?_
    refine lv_icmp_eq (tgt := 47) hx hb dX9_end_16 (by decide) (fun q => ?_) (fun q => ?_)
    · have hk := hk.1 q
      refine lv_iload hx hb dX9_end_47 (lv_at hl 3 rfl) ?_
      exact r_iret C Z hr hk dX9_end_49
    · have hk := hk.2 q
      refine lv_aload_n hx hb dX9_end_19 rfl (lv_at hl 0 rfl) ?_
      refine lv_iload hx hb dX9_end_20 (lv_at hl 3 rfl) ?_
      refine lv_iload hx hb dX9_end_22 (lv_at hl 4 rfl) ?_
      refine lv_iload_n hx hb dX9_end_24 rfl (lv_at hl 1 rfl) ?_
      obtain ⟨ho, hk⟩ := hk
      refine r_calli Z (r_runV (As := [.int x4, .int x5, .int x2]) (rest := []) C Z (m_X9_goesOn l g h x0 x4 x5 x2 _ hk) ho rfl (cwV 3 C.1.2.2.2.2 (gV tw_1024 tw_1026 tw_32 tw_66 tw_1027) rfl rfl rfl (by decide +kernel) ⟨Nat.le_of_ble_eq_true rfl, Nat.le_of_ble_eq_true rfl⟩) rfl hl.1 rfl (Nat.le_of_ble_eq_true rfl) dX9_end_25 ⟨Nat.zero_le _, Nat.zero_le _⟩) (fun r25 h25 H locs hk Z => ?_)
      refine lv_if_eq (tgt := 47) hx hb dX9_end_28 (by decide) (fun q => ?_) (fun q => ?_)
      · have hk := hk.1 q
        refine lv_iload hx hb dX9_end_47 (lv_at hl 3 rfl) ?_
        exact r_iret C Z hr hk dX9_end_49
      · have hk := hk.2 q
        refine lv_iload hx hb dX9_end_31 (lv_at hl 4 rfl) ?_
        refine lv_istore (lv' := [(4, .int x5), (0, .ref x0), (2, .int x2), (3, .int x3), (5, .int x5)]) hx hb dX9_end_33 hl (by decide) rfl (fun ls hl => ?_)
        refine lv_aload_n hx hb dX9_end_35 rfl (lv_at hl 1 rfl) ?_
        refine lv_iload hx hb dX9_end_36 (lv_at hl 0 rfl) ?_
        refine lv_iload_n hx hb dX9_end_38 rfl (lv_at hl 3 rfl) ?_
        obtain ⟨ho, hk⟩ := hk
        refine r_calli Z (r_runV (As := [.int x5, .int x3]) (rest := []) C Z (m_X9_beside l g h25 x0 x5 x3 _ hk) ho rfl (cwV 2 C.1.2.2.2.2 (gV tw_1020 tw_1022 tw_31 tw_66 tw_1023) rfl rfl rfl (by decide +kernel) ⟨Nat.le_of_ble_eq_true rfl, Nat.le_of_ble_eq_true rfl⟩) rfl hl.1 rfl (Nat.le_of_ble_eq_true rfl) dX9_end_39 ⟨Nat.zero_le _, Nat.zero_le _⟩) (fun r39 h39 H locs hk Z => ?_)
        refine lv_istore (lv' := [(5, .int r39), (4, .int x5), (0, .ref x0), (2, .int x2), (3, .int x3)]) hx hb dX9_end_42 hl (by decide) rfl (fun ls hl => ?_)
        refine lv_goto (tgt := 12) hx hb dX9_end_44 (by decide) ?_
        exact ih x5 r39 h39 _ _ _ (lv_sub hl [2, 3, 4, 1, 0] rfl) Z hk
set_option maxRecDepth 100000 in
set_option maxHeartbeats 4000000 in
theorem m_X9_end (l : Launch) (g : Gt) (h : Hp) (x0 : Nat) (x1 : Int32) (x2 : Int32) (x3 : Int32) (Post : Int32 → Hp → Prop) (hk : wp_X9_end x0 x1 x2 x3 Post h) : Met l yX9_end wzX9_end rmX9_end (Pg g h [.ref x0, .int x1, .int x2, .int x3]) (Qi g h Post) 0 0 (dm h) := by
  refine Met_of (cc := cX9_end) (maxL := 6) (ret := (some .int)) (by decide) (Nat.le_of_ble_eq_true rfl) (fun p e s m below meth c ls C hr hnm hl Z => ?_)
  have hx := C.1.1
  have hb := C.1.2.1
  have hml := C.1.2.2.1
  have hown := C.1.2.2.2.1
  have hts := C.1.2.2.2.2
  have hl : lv_has ls 6 [(0, .ref x0), (1, .int x1), (2, .int x2), (3, .int x3)] := hl
  unfold wp_X9_end at hk
  generalize s.heap = H at Z ⊢
  generalize ([] : List Loc) = locs at Z ⊢
  refine lv_iload_n hx hb dX9_end_0 rfl (lv_at hl 1 rfl) ?_
  refine lv_istore (lv' := [(4, .int x1), (0, .ref x0), (1, .int x1), (2, .int x2), (3, .int x3)]) hx hb dX9_end_1 hl (by decide) rfl (fun ls hl => ?_)
  refine lv_aload_n hx hb dX9_end_3 rfl (lv_at hl 1 rfl) ?_
  refine lv_iload hx hb dX9_end_4 (lv_at hl 0 rfl) ?_
  refine lv_iload_n hx hb dX9_end_6 rfl (lv_at hl 4 rfl) ?_
  obtain ⟨ho, hk⟩ := hk
  refine r_calli Z (r_runV (As := [.int x1, .int x3]) (rest := []) C Z (m_X9_beside l g h x0 x1 x3 _ hk) ho rfl (cwV 2 C.1.2.2.2.2 (gV tw_1020 tw_1022 tw_31 tw_66 tw_1023) rfl rfl rfl (by decide +kernel) ⟨Nat.le_of_ble_eq_true rfl, Nat.le_of_ble_eq_true rfl⟩) rfl hl.1 rfl (Nat.le_of_ble_eq_true rfl) dX9_end_7 ⟨Nat.zero_le _, Nat.zero_le _⟩) (fun r7 h7 H locs hk Z => ?_)
  refine lv_istore (lv' := [(5, .int r7), (4, .int x1), (0, .ref x0), (1, .int x1), (2, .int x2), (3, .int x3)]) hx hb dX9_end_10 hl (by decide) rfl (fun ls hl => ?_)
  obtain ⟨n1, hk⟩ := hk
  exact w_X9_end_12 C hr x0 x2 x3 n1 x1 r7 h7 _ _ _ (lv_sub hl [2, 4, 5, 1, 0] rfl) Z hk
abbrev rmX9_runFrom : Room := ({ frames := 4, cells := 0, slots := 0, locals := 95 } : Room)
abbrev wzX9_runFrom : List Cond := WS yX9_runFrom cX9_runFrom 6 (some .int)
set_option maxRecDepth 100000 in
set_option maxHeartbeats 4000000 in
theorem w_X9_runFrom_14 {p : Program} {l : Launch} {e : Env} {s : State} {m : MethodId} {args : Array Value} {below : List Frame} {meth : Method} {c : Code} {g : Gt} {h0 : Hp} (C : Cx g (dm h0) RX9 cX9_runFrom 6 p s m args meth c) (hr : meth.sig.returnType = (some .int)) {Post : Int32 → Hp → Prop} (x0 : Nat) (x3 : Int32)   : ∀ (n : Nat) (x4 : Int32) (x5 : Int32) (h : Hp) (H : Heap) (locs : List Loc) (ls : Array Slot), lv_has ls 6 [(0, .ref x0), (3, .int x3), (4, .int x4), (5, .int x5)] → St g (dm h0) s h H locs → wp_X9_runFrom_14 Post x0 x3 n x4 x5 h → W p l e rmX9_runFrom s m args below meth c H locs 0 0 (MQ below (Qi g h0 Post) args s 0 0 (dm h0)) (F0 m 14 ls []) := by
  have hx := C.1.1
  have hb := C.1.2.1
  have hml := C.1.2.2.1
  have hown := C.1.2.2.2.1
  have hts := C.1.2.2.2.2
  intro n
  induction n with
  | zero => intro x4 x5 h H locs ls hl Z hk; exact (show False from hk).elim
  | succ n ih =>
    intro x4 x5 h H locs ls hl Z hk
    unfold wp_X9_runFrom_14 at hk
    refine lv_iload hx hb dX9_runFrom_14 (lv_at hl 3 rfl) ?_
    refine lv_iload_n hx hb dX9_runFrom_16 rfl (lv_at hl 1 rfl) ?_
    refine lv_icmp_eq (tgt := 35) hx hb dX9_runFrom_17 (by decide) (fun q => ?_) (fun q => ?_)
    · have hk := hk.1 q
      refine lv_iload hx hb dX9_runFrom_35 (lv_at hl 2 rfl) ?_
      exact r_iret C Z hr hk dX9_runFrom_37
    · have hk := hk.2 q
      obtain ⟨y20, ey20⟩ : ∃ y : Int32, y = x4 + (nI 1) := ⟨_, rfl⟩
      have hk := hk y20 ey20
      refine lv_iinc (v := y20) (lv' := [(4, .int y20), (0, .ref x0), (3, .int x3), (5, .int x5)]) hx hb dX9_runFrom_20 hl (k := 2) rfl (by rw [ey20]; rfl) (by decide) rfl (fun ls hl => ?_)
      refine lv_aload_n hx hb dX9_runFrom_23 rfl (lv_at hl 1 rfl) ?_
      refine lv_iload hx hb dX9_runFrom_24 (lv_at hl 3 rfl) ?_
      refine lv_iconst (v := (nI 1)) hx hb dX9_runFrom_26 (by decide) ?_
      obtain ⟨ho, hk⟩ := hk
      refine r_calli Z (r_runV (As := [.int x5, .int (nI 1)]) (rest := []) C Z (m_X9_beside l g h x0 x5 (nI 1) _ hk) ho rfl (cwV 2 C.1.2.2.2.2 (gV tw_1020 tw_1022 tw_31 tw_66 tw_1023) rfl rfl rfl (by decide +kernel) ⟨Nat.le_of_ble_eq_true rfl, Nat.le_of_ble_eq_true rfl⟩) rfl hl.1 rfl (Nat.le_of_ble_eq_true rfl) dX9_runFrom_27 ⟨Nat.zero_le _, Nat.zero_le _⟩) (fun r27 h27 H locs hk Z => ?_)
      refine lv_istore (lv' := [(5, .int r27), (4, .int y20), (0, .ref x0), (3, .int x3)]) hx hb dX9_runFrom_30 hl (by decide) rfl (fun ls hl => ?_)
      refine lv_goto (tgt := 14) hx hb dX9_runFrom_32 (by decide) ?_
      exact ih y20 r27 h27 _ _ _ (lv_sub hl [2, 3, 1, 0] rfl) Z hk
set_option maxRecDepth 100000 in
set_option maxHeartbeats 4000000 in
theorem m_X9_runFrom (l : Launch) (g : Gt) (h : Hp) (x0 : Nat) (x1 : Int32) (x2 : Int32) (Post : Int32 → Hp → Prop) (hk : wp_X9_runFrom x0 x1 x2 Post h) : Met l yX9_runFrom wzX9_runFrom rmX9_runFrom (Pg g h [.ref x0, .int x1, .int x2]) (Qi g h Post) 0 0 (dm h) := by
  refine Met_of (cc := cX9_runFrom) (maxL := 6) (ret := (some .int)) (by decide) (Nat.le_of_ble_eq_true rfl) (fun p e s m below meth c ls C hr hnm hl Z => ?_)
  have hx := C.1.1
  have hb := C.1.2.1
  have hml := C.1.2.2.1
  have hown := C.1.2.2.2.1
  have hts := C.1.2.2.2.2
  have hl : lv_has ls 6 [(0, .ref x0), (1, .int x1), (2, .int x2)] := hl
  unfold wp_X9_runFrom at hk
  generalize s.heap = H at Z ⊢
  generalize ([] : List Loc) = locs at Z ⊢
  refine lv_aload_n hx hb dX9_runFrom_0 rfl (lv_at hl 0 rfl) ?_
  refine lv_iload_n hx hb dX9_runFrom_1 rfl (lv_at hl 1 rfl) ?_
  refine lv_iload_n hx hb dX9_runFrom_2 rfl (lv_at hl 2 rfl) ?_
  refine lv_iconst (v := (nI 1)) hx hb dX9_runFrom_3 (by decide) ?_
  obtain ⟨ho, hk⟩ := hk
  refine r_calli Z (r_runV (As := [.int x1, .int x2, .int (nI 1)]) (rest := []) C Z (m_X9_end l g h x0 x1 x2 (nI 1) _ hk) ho rfl (cwV 3 C.1.2.2.2.2 (gV tw_1016 tw_1018 tw_30 tw_66 tw_1019) rfl rfl rfl (by decide +kernel) ⟨Nat.le_of_ble_eq_true rfl, Nat.le_of_ble_eq_true rfl⟩) rfl hl.1 rfl (Nat.le_of_ble_eq_true rfl) dX9_runFrom_4 ⟨Nat.zero_le _, Nat.zero_le _⟩) (fun r4 h4 H locs hk Z => ?_)
  refine lv_istore_n (lv' := [(3, .int r4), (0, .ref x0), (1, .int x1), (2, .int x2)]) hx hb dX9_runFrom_7 rfl hl (by decide) rfl (fun ls hl => ?_)
  refine lv_iconst (v := (nI 1)) hx hb dX9_runFrom_8 (by decide) ?_
  refine lv_istore (lv' := [(4, .int (nI 1)), (3, .int r4), (0, .ref x0), (1, .int x1), (2, .int x2)]) hx hb dX9_runFrom_9 hl (by decide) rfl (fun ls hl => ?_)
  refine lv_iload_n hx hb dX9_runFrom_11 rfl (lv_at hl 3 rfl) ?_
  refine lv_istore (lv' := [(5, .int x1), (4, .int (nI 1)), (3, .int r4), (0, .ref x0), (1, .int x1), (2, .int x2)]) hx hb dX9_runFrom_12 hl (by decide) rfl (fun ls hl => ?_)
  obtain ⟨n1, hk⟩ := hk
  exact w_X9_runFrom_14 C hr x0 r4 n1 (nI 1) x1 h4 _ _ _ (lv_sub hl [3, 2, 1, 0] rfl) Z hk
abbrev rmX9_least : Room := ({ frames := 0, cells := 0, slots := 0, locals := 0 } : Room)
abbrev wzX9_least : List Cond := WS yX9_least cX9_least 3 (some .int)
set_option maxRecDepth 100000 in
set_option maxHeartbeats 4000000 in
theorem m_X9_least (l : Launch) (g : Gt) (h : Hp) (x0 : Nat) (x1 : Int32) (x2 : Int32) (Post : Int32 → Hp → Prop) (hk : wp_X9_least x0 x1 x2 Post h) : Met l yX9_least wzX9_least rmX9_least (Pg g h [.ref x0, .int x1, .int x2]) (Qi g h Post) 0 0 (dm h) := by
  refine Met_of (cc := cX9_least) (maxL := 3) (ret := (some .int)) (by decide) (Nat.le_of_ble_eq_true rfl) (fun p e s m below meth c ls C hr hnm hl Z => ?_)
  have hx := C.1.1
  have hb := C.1.2.1
  have hml := C.1.2.2.1
  have hown := C.1.2.2.2.1
  have hts := C.1.2.2.2.2
  have hl : lv_has ls 3 [(0, .ref x0), (1, .int x1), (2, .int x2)] := hl
  unfold wp_X9_least at hk
  generalize s.heap = H at Z ⊢
  generalize ([] : List Loc) = locs at Z ⊢
  refine lv_iload_n hx hb dX9_least_0 rfl (lv_at hl 1 rfl) ?_
  refine lv_iload_n hx hb dX9_least_1 rfl (lv_at hl 2 rfl) ?_
  refine lv_icmp_ge (tgt := 9) hx hb dX9_least_2 (by decide) (fun q => ?_) (fun q => ?_)
  · have hk := hk.1 q
    refine lv_iload_n hx hb dX9_least_9 rfl (lv_at hl 2 rfl) ?_
    exact r_iret C Z hr hk dX9_least_10
  · have hk := hk.2 q
    refine lv_iload_n hx hb dX9_least_5 rfl (lv_at hl 1 rfl) ?_
    refine lv_goto (tgt := 10) hx hb dX9_least_6 (by decide) ?_
    exact r_iret C Z hr hk dX9_least_10
abbrev rmX9_dirtBy : Room := ({ frames := 2, cells := 0, slots := 0, locals := 47 } : Room)
abbrev wzX9_dirtBy : List Cond := WS yX9_dirtBy cX9_dirtBy 5 (some .int)
set_option maxRecDepth 100000 in
set_option maxHeartbeats 4000000 in
theorem m_X9_dirtBy (l : Launch) (g : Gt) (h : Hp) (x0 : Nat) (x1 : Int32) (x2 : Int32) (Post : Int32 → Hp → Prop) (hk : wp_X9_dirtBy x0 x1 x2 Post h) : Met l yX9_dirtBy wzX9_dirtBy rmX9_dirtBy (Pg g h [.ref x0, .int x1, .int x2]) (Qi g h Post) 0 0 (dm h) := by
  refine Met_of (cc := cX9_dirtBy) (maxL := 5) (ret := (some .int)) (by decide) (Nat.le_of_ble_eq_true rfl) (fun p e s m below meth c ls C hr hnm hl Z => ?_)
  have hx := C.1.1
  have hb := C.1.2.1
  have hml := C.1.2.2.1
  have hown := C.1.2.2.2.1
  have hts := C.1.2.2.2.2
  have hl : lv_has ls 5 [(0, .ref x0), (1, .int x1), (2, .int x2)] := hl
  unfold wp_X9_dirtBy at hk
  generalize s.heap = H at Z ⊢
  generalize ([] : List Loc) = locs at Z ⊢
  refine lv_aload_n hx hb dX9_dirtBy_0 rfl (lv_at hl 0 rfl) ?_
  refine lv_iload_n hx hb dX9_dirtBy_1 rfl (lv_at hl 1 rfl) ?_
  refine lv_iload_n hx hb dX9_dirtBy_2 rfl (lv_at hl 2 rfl) ?_
  obtain ⟨ho, hk⟩ := hk
  refine r_calli Z (r_runV (As := [.int x1, .int x2]) (rest := []) C Z (m_X9_read l g h x0 x1 x2 _ hk) ho rfl (cwV 2 C.1.2.2.2.2 (gV tw_1008 tw_1010 tw_28 tw_66 tw_1011) rfl rfl rfl (by decide +kernel) ⟨Nat.le_of_ble_eq_true rfl, Nat.le_of_ble_eq_true rfl⟩) rfl hl.1 rfl (Nat.le_of_ble_eq_true rfl) dX9_dirtBy_3 ⟨Nat.zero_le _, Nat.zero_le _⟩) (fun r3 h3 H locs hk Z => ?_)
  refine lv_istore_n (lv' := [(3, .int r3), (0, .ref x0), (1, .int x1), (2, .int x2)]) hx hb dX9_dirtBy_6 rfl hl (by decide) rfl (fun ls hl => ?_)
  refine lv_aload_n hx hb dX9_dirtBy_7 rfl (lv_at hl 1 rfl) ?_
  refine lv_iload_n hx hb dX9_dirtBy_8 rfl (lv_at hl 2 rfl) ?_
  obtain ⟨ho, hk⟩ := hk
  refine r_calli Z (r_runV (As := [.int x1]) (rest := []) C Z (m_X9_isLooked l g h3 x0 x1 _ hk) ho rfl (cwV 1 C.1.2.2.2.2 (gV tw_1000 tw_1002 tw_27 tw_66 tw_1003) rfl rfl rfl (by decide +kernel) ⟨Nat.le_of_ble_eq_true rfl, Nat.le_of_ble_eq_true rfl⟩) rfl hl.1 rfl (Nat.le_of_ble_eq_true rfl) dX9_dirtBy_9 ⟨Nat.zero_le _, Nat.zero_le _⟩) (fun r9 h9 H locs hk Z => ?_)
  refine lv_if_ne (tgt := 17) hx hb dX9_dirtBy_12 (by decide) (fun q => ?_) (fun q => ?_)
  · have hk := hk.1 q
    refine lv_iload_n hx hb dX9_dirtBy_17 rfl (lv_at hl 0 rfl) ?_
    refine lv_aload_n hx hb dX9_dirtBy_18 rfl (lv_at hl 1 rfl) ?_
    obtain ⟨v19, hv, hk⟩ := hk
    refine r_get (ci := 9) (k := 0) (T := TX9) (N := 17) C Z hv ku_9 rfl (by decide) tw_857 dX9_dirtBy_19 ?_
    refine lv_iload_n hx hb dX9_dirtBy_22 rfl (lv_at hl 2 rfl) ?_
    refine lv_iconst (v := (nI 4)) hx hb dX9_dirtBy_23 (by decide) ?_
    refine r_calli Z (r_runS (As := [.int x1, .int (nI 4)]) (rest := [.ref v19, .int r3]) C Z (m_X9_c l g h9 x1 (nI 4) _ hk) (va_cwS 2 C.1.2.2.2.2 (gS tw_930 tw_931 tw_66 tw_932) rfl rfl rfl (by decide +kernel) ⟨Nat.le_of_ble_eq_true rfl, Nat.le_of_ble_eq_true rfl⟩) rfl hl.1 rfl (Nat.le_of_ble_eq_true rfl) dX9_dirtBy_24 ⟨Nat.zero_le _, Nat.zero_le _⟩) (fun r24 h24 H locs hk Z => ?_)
    obtain ⟨v27, hv, hk⟩ := hk
    refine r_lald C Z hv dX9_dirtBy_27 ?_
    refine lv_iload_n hx hb dX9_dirtBy_28 rfl (lv_at hl 3 rfl) ?_
    refine r_calli Z (r_runS (As := [.long v27, .int x2]) (rest := [.int r3]) C Z (m_X9_digit l g h24 v27 x2 _ hk) (va_cwS 2 C.1.2.2.2.2 (gS tw_1004 tw_1005 tw_66 tw_1006) rfl rfl rfl (by decide +kernel) ⟨Nat.le_of_ble_eq_true rfl, Nat.le_of_ble_eq_true rfl⟩) rfl hl.1 rfl (Nat.le_of_ble_eq_true rfl) dX9_dirtBy_29 ⟨Nat.zero_le _, Nat.zero_le _⟩) (fun r29 h29 H locs hk Z => ?_)
    refine lv_isub hx hb dX9_dirtBy_32 ?_
    refine lv_topi (fun y33 ey33 => ?_)
    have hk := hk y33 ey33
    refine lv_istore (lv' := [(4, .int y33), (3, .int r3), (0, .ref x0), (1, .int x1), (2, .int x2)]) hx hb dX9_dirtBy_33 hl (by decide) rfl (fun ls hl => ?_)
    refine lv_iload hx hb dX9_dirtBy_35 (lv_at hl 0 rfl) ?_
    refine lv_if_le (tgt := 45) hx hb dX9_dirtBy_37 (by decide) (fun q => ?_) (fun q => ?_)
    · have hk := hk.1 q
      refine lv_iconst (v := (nI 0)) hx hb dX9_dirtBy_45 (by decide) ?_
      exact r_iret C Z hr hk dX9_dirtBy_46
    · have hk := hk.2 q
      refine lv_iload hx hb dX9_dirtBy_40 (lv_at hl 0 rfl) ?_
      refine lv_goto (tgt := 46) hx hb dX9_dirtBy_42 (by decide) ?_
      exact r_iret C Z hr hk dX9_dirtBy_46
  · have hk := hk.2 q
    refine lv_iload_n hx hb dX9_dirtBy_15 rfl (lv_at hl 0 rfl) ?_
    exact r_iret C Z hr hk dX9_dirtBy_16
abbrev rmX9_dirt : Room := ({ frames := 5, cells := 0, slots := 0, locals := 120 } : Room)
abbrev wzX9_dirt : List Cond := WS yX9_dirt cX9_dirt 8 (some .int)
set_option maxRecDepth 100000 in
set_option maxHeartbeats 4000000 in
theorem w_X9_dirt_66 {p : Program} {l : Launch} {e : Env} {s : State} {m : MethodId} {args : Array Value} {below : List Frame} {meth : Method} {c : Code} {g : Gt} {h0 : Hp} (C : Cx g (dm h0) RX9 cX9_dirt 8 p s m args meth c) (hr : meth.sig.returnType = (some .int)) {Post : Int32 → Hp → Prop} (x0 : Nat) (x2 : Int32) (x5 : Int32)   : ∀ (n : Nat) (x6 : Int32) (x7 : Int32) (h : Hp) (H : Heap) (locs : List Loc) (ls : Array Slot), lv_has ls 8 [(0, .ref x0), (2, .int x2), (5, .int x5), (6, .int x6), (7, .int x7)] → St g (dm h0) s h H locs → wp_X9_dirt_66 Post x0 x2 x5 n x6 x7 h → W p l e rmX9_dirt s m args below meth c H locs 0 0 (MQ below (Qi g h0 Post) args s 0 0 (dm h0)) (F0 m 66 ls []) := by
  have hx := C.1.1
  have hb := C.1.2.1
  have hml := C.1.2.2.1
  have hown := C.1.2.2.2.1
  have hts := C.1.2.2.2.2
  intro n
  induction n with
  | zero => intro x6 x7 h H locs ls hl Z hk; exact (show False from hk).elim
  | succ n ih =>
    intro x6 x7 h H locs ls hl Z hk
    unfold wp_X9_dirt_66 at hk
    refine lv_iload hx hb dX9_dirt_66 (lv_at hl 4 rfl) ?_
    refine lv_iload hx hb dX9_dirt_68 (lv_at hl 2 rfl) ?_
    refine lv_icmp_eq (tgt := 111) hx hb dX9_dirt_70 (by decide) (fun q => ?_) (fun q => ?_)
    · have hk := hk.1 q
      refine lv_iload hx hb dX9_dirt_111 (lv_at hl 3 rfl) ?_
      exact r_iret C Z hr hk dX9_dirt_113
    · have hk := hk.2 q
      refine lv_aload_n hx hb dX9_dirt_73 rfl (lv_at hl 0 rfl) ?_
      refine lv_aload_n hx hb dX9_dirt_74 rfl (lv_at hl 0 rfl) ?_
      refine lv_iload hx hb dX9_dirt_75 (lv_at hl 3 rfl) ?_
      refine lv_aload_n hx hb dX9_dirt_77 rfl (lv_at hl 0 rfl) ?_
      refine lv_iload hx hb dX9_dirt_78 (lv_at hl 4 rfl) ?_
      refine lv_iload_n hx hb dX9_dirt_80 rfl (lv_at hl 1 rfl) ?_
      obtain ⟨ho, hk⟩ := hk
      refine r_calli Z (r_runV (As := [.int x7, .int x2]) (rest := [.int x6, .ref x0, .ref x0]) C Z (m_X9_read l g h x0 x7 x2 _ hk) ho rfl (cwV 2 C.1.2.2.2.2 (gV tw_1008 tw_1010 tw_28 tw_66 tw_1011) rfl rfl rfl (by decide +kernel) ⟨Nat.le_of_ble_eq_true rfl, Nat.le_of_ble_eq_true rfl⟩) rfl hl.1 rfl (Nat.le_of_ble_eq_true rfl) dX9_dirt_81 ⟨Nat.zero_le _, Nat.zero_le _⟩) (fun r81 h81 H locs hk Z => ?_)
      obtain ⟨ho, hk⟩ := hk
      refine r_calli Z (r_runV (As := [.int x6, .int r81]) (rest := [.ref x0]) C Z (m_X9_least l g h81 x0 x6 r81 _ hk) ho rfl (cwV 2 C.1.2.2.2.2 (gV tw_1036 tw_1038 tw_35 tw_66 tw_1039) rfl rfl rfl (by decide +kernel) ⟨Nat.le_of_ble_eq_true rfl, Nat.le_of_ble_eq_true rfl⟩) rfl hl.1 rfl (Nat.le_of_ble_eq_true rfl) dX9_dirt_84 ⟨Nat.zero_le _, Nat.zero_le _⟩) (fun r84 h84 H locs hk Z => ?_)
      refine lv_aload_n hx hb dX9_dirt_87 rfl (lv_at hl 0 rfl) ?_
      refine lv_iload hx hb dX9_dirt_88 (lv_at hl 4 rfl) ?_
      refine lv_iload_n hx hb dX9_dirt_90 rfl (lv_at hl 1 rfl) ?_
      obtain ⟨ho, hk⟩ := hk
      refine r_calli Z (r_runV (As := [.int x7, .int x2]) (rest := [.int r84, .ref x0]) C Z (m_X9_dirtBy l g h84 x0 x7 x2 _ hk) ho rfl (cwV 2 C.1.2.2.2.2 (gV tw_1032 tw_1034 tw_34 tw_66 tw_1035) rfl rfl rfl (by decide +kernel) ⟨Nat.le_of_ble_eq_true rfl, Nat.le_of_ble_eq_true rfl⟩) rfl hl.1 rfl (Nat.le_of_ble_eq_true rfl) dX9_dirt_91 ⟨Nat.zero_le _, Nat.zero_le _⟩) (fun r91 h91 H locs hk Z => ?_)
      obtain ⟨ho, hk⟩ := hk
      refine r_calli Z (r_runV (As := [.int r84, .int r91]) (rest := []) C Z (m_X9_least l g h91 x0 r84 r91 _ hk) ho rfl (cwV 2 C.1.2.2.2.2 (gV tw_1036 tw_1038 tw_35 tw_66 tw_1039) rfl rfl rfl (by decide +kernel) ⟨Nat.le_of_ble_eq_true rfl, Nat.le_of_ble_eq_true rfl⟩) rfl hl.1 rfl (Nat.le_of_ble_eq_true rfl) dX9_dirt_94 ⟨Nat.zero_le _, Nat.zero_le _⟩) (fun r94 h94 H locs hk Z => ?_)
      refine lv_istore (lv' := [(6, .int r94), (0, .ref x0), (2, .int x2), (5, .int x5), (7, .int x7)]) hx hb dX9_dirt_97 hl (by decide) rfl (fun ls hl => ?_)
      refine lv_aload_n hx hb dX9_dirt_99 rfl (lv_at hl 1 rfl) ?_
      refine lv_iload hx hb dX9_dirt_100 (lv_at hl 4 rfl) ?_
      refine lv_iconst (v := (nI 1)) hx hb dX9_dirt_102 (by decide) ?_
      obtain ⟨ho, hk⟩ := hk
      refine r_calli Z (r_runV (As := [.int x7, .int (nI 1)]) (rest := []) C Z (m_X9_beside l g h94 x0 x7 (nI 1) _ hk) ho rfl (cwV 2 C.1.2.2.2.2 (gV tw_1020 tw_1022 tw_31 tw_66 tw_1023) rfl rfl rfl (by decide +kernel) ⟨Nat.le_of_ble_eq_true rfl, Nat.le_of_ble_eq_true rfl⟩) rfl hl.1 rfl (Nat.le_of_ble_eq_true rfl) dX9_dirt_103 ⟨Nat.zero_le _, Nat.zero_le _⟩) (fun r103 h103 H locs hk Z => ?_)
      refine lv_istore (lv' := [(7, .int r103), (6, .int r94), (0, .ref x0), (2, .int x2), (5, .int x5)]) hx hb dX9_dirt_106 hl (by decide) rfl (fun ls hl => ?_)
      refine lv_goto (tgt := 66) hx hb dX9_dirt_108 (by decide) ?_
      exact ih r94 r103 h103 _ _ _ (lv_sub hl [2, 3, 4, 1, 0] rfl) Z hk
set_option maxRecDepth 100000 in
set_option maxHeartbeats 4000000 in
theorem m_X9_dirt (l : Launch) (g : Gt) (h : Hp) (x0 : Nat) (x1 : Int32) (x2 : Int32) (x3 : Int32) (Post : Int32 → Hp → Prop) (hk : wp_X9_dirt x0 x1 x2 x3 Post h) : Met l yX9_dirt wzX9_dirt rmX9_dirt (Pg g h [.ref x0, .int x1, .int x2, .int x3]) (Qi g h Post) 0 0 (dm h) := by
  refine Met_of (cc := cX9_dirt) (maxL := 8) (ret := (some .int)) (by decide) (Nat.le_of_ble_eq_true rfl) (fun p e s m below meth c ls C hr hnm hl Z => ?_)
  have hx := C.1.1
  have hb := C.1.2.1
  have hml := C.1.2.2.1
  have hown := C.1.2.2.2.1
  have hts := C.1.2.2.2.2
  have hl : lv_has ls 8 [(0, .ref x0), (1, .int x1), (2, .int x2), (3, .int x3)] := hl
  unfold wp_X9_dirt at hk
  generalize s.heap = H at Z ⊢
  generalize ([] : List Loc) = locs at Z ⊢
  refine lv_aload_n hx hb dX9_dirt_0 rfl (lv_at hl 0 rfl) ?_
  refine lv_iload_n hx hb dX9_dirt_1 rfl (lv_at hl 1 rfl) ?_
  refine lv_iload_n hx hb dX9_dirt_2 rfl (lv_at hl 2 rfl) ?_
  obtain ⟨ho, hk⟩ := hk
  refine r_calli Z (r_runV (As := [.int x1, .int x2]) (rest := []) C Z (m_X9_read l g h x0 x1 x2 _ hk) ho rfl (cwV 2 C.1.2.2.2.2 (gV tw_1008 tw_1010 tw_28 tw_66 tw_1011) rfl rfl rfl (by decide +kernel) ⟨Nat.le_of_ble_eq_true rfl, Nat.le_of_ble_eq_true rfl⟩) rfl hl.1 rfl (Nat.le_of_ble_eq_true rfl) dX9_dirt_3 ⟨Nat.zero_le _, Nat.zero_le _⟩) (fun r3 h3 H locs hk Z => ?_)
  refine lv_if_ne (tgt := 11) hx hb dX9_dirt_6 (by decide) (fun q => ?_) (fun q => ?_)
  · have hk := hk.1 q
    refine lv_aload_n hx hb dX9_dirt_11 rfl (lv_at hl 0 rfl) ?_
    refine lv_iload_n hx hb dX9_dirt_12 rfl (lv_at hl 1 rfl) ?_
    refine lv_iload_n hx hb dX9_dirt_13 rfl (lv_at hl 2 rfl) ?_
    refine lv_iconst (v := (-1 : Int32)) hx hb dX9_dirt_14 (by decide) ?_
    obtain ⟨ho, hk⟩ := hk
    refine r_calli Z (r_runV (As := [.int x1, .int x2, .int (-1 : Int32)]) (rest := []) C Z (m_X9_end l g h3 x0 x1 x2 (-1 : Int32) _ hk) ho rfl (cwV 3 C.1.2.2.2.2 (gV tw_1016 tw_1018 tw_30 tw_66 tw_1019) rfl rfl rfl (by decide +kernel) ⟨Nat.le_of_ble_eq_true rfl, Nat.le_of_ble_eq_true rfl⟩) rfl hl.1 rfl (Nat.le_of_ble_eq_true rfl) dX9_dirt_15 ⟨Nat.zero_le _, Nat.zero_le _⟩) (fun r15 h15 H locs hk Z => ?_)
    refine lv_istore (lv' := [(4, .int r15), (0, .ref x0), (1, .int x1), (2, .int x2), (3, .int x3)]) hx hb dX9_dirt_18 hl (by decide) rfl (fun ls hl => ?_)
    refine lv_aload_n hx hb dX9_dirt_20 rfl (lv_at hl 1 rfl) ?_
    refine lv_iload hx hb dX9_dirt_21 (lv_at hl 0 rfl) ?_
    refine lv_iload_n hx hb dX9_dirt_23 rfl (lv_at hl 3 rfl) ?_
    obtain ⟨ho, hk⟩ := hk
    refine r_calli Z (r_runV (As := [.int r15, .int x2]) (rest := []) C Z (m_X9_runFrom l g h15 x0 r15 x2 _ hk) ho rfl (cwV 2 C.1.2.2.2.2 (gV tw_1028 tw_1030 tw_33 tw_66 tw_1031) rfl rfl rfl (by decide +kernel) ⟨Nat.le_of_ble_eq_true rfl, Nat.le_of_ble_eq_true rfl⟩) rfl hl.1 rfl (Nat.le_of_ble_eq_true rfl) dX9_dirt_24 ⟨Nat.zero_le _, Nat.zero_le _⟩) (fun r24 h24 H locs hk Z => ?_)
    refine lv_iload_n hx hb dX9_dirt_27 rfl (lv_at hl 4 rfl) ?_
    refine lv_icmp_ge (tgt := 33) hx hb dX9_dirt_28 (by decide) (fun q => ?_) (fun q => ?_)
    · have hk := hk.1 q
      refine lv_aload_n hx hb dX9_dirt_33 rfl (lv_at hl 1 rfl) ?_
      refine lv_iload_n hx hb dX9_dirt_34 rfl (lv_at hl 2 rfl) ?_
      refine lv_iload_n hx hb dX9_dirt_35 rfl (lv_at hl 3 rfl) ?_
      refine lv_iconst (v := (nI 1)) hx hb dX9_dirt_36 (by decide) ?_
      obtain ⟨ho, hk⟩ := hk
      refine r_calli Z (r_runV (As := [.int x1, .int x2, .int (nI 1)]) (rest := []) C Z (m_X9_end l g h24 x0 x1 x2 (nI 1) _ hk) ho rfl (cwV 3 C.1.2.2.2.2 (gV tw_1016 tw_1018 tw_30 tw_66 tw_1019) rfl rfl rfl (by decide +kernel) ⟨Nat.le_of_ble_eq_true rfl, Nat.le_of_ble_eq_true rfl⟩) rfl hl.1 rfl (Nat.le_of_ble_eq_true rfl) dX9_dirt_37 ⟨Nat.zero_le _, Nat.zero_le _⟩) (fun r37 h37 H locs hk Z => ?_)
      refine lv_istore (lv' := [(5, .int r37), (4, .int r15), (0, .ref x0), (1, .int x1), (2, .int x2), (3, .int x3)]) hx hb dX9_dirt_40 hl (by decide) rfl (fun ls hl => ?_)
      refine lv_aload_n hx hb dX9_dirt_42 rfl (lv_at hl 2 rfl) ?_
      refine lv_aload_n hx hb dX9_dirt_43 rfl (lv_at hl 2 rfl) ?_
      refine lv_iload hx hb dX9_dirt_44 (lv_at hl 0 rfl) ?_
      refine lv_iload_n hx hb dX9_dirt_46 rfl (lv_at hl 4 rfl) ?_
      obtain ⟨ho, hk⟩ := hk
      refine r_calli Z (r_runV (As := [.int r37, .int x2]) (rest := [.ref x0]) C Z (m_X9_read l g h37 x0 r37 x2 _ hk) ho rfl (cwV 2 C.1.2.2.2.2 (gV tw_1008 tw_1010 tw_28 tw_66 tw_1011) rfl rfl rfl (by decide +kernel) ⟨Nat.le_of_ble_eq_true rfl, Nat.le_of_ble_eq_true rfl⟩) rfl hl.1 rfl (Nat.le_of_ble_eq_true rfl) dX9_dirt_47 ⟨Nat.zero_le _, Nat.zero_le _⟩) (fun r47 h47 H locs hk Z => ?_)
      refine lv_aload_n hx hb dX9_dirt_50 rfl (lv_at hl 2 rfl) ?_
      refine lv_iload hx hb dX9_dirt_51 (lv_at hl 0 rfl) ?_
      refine lv_iload_n hx hb dX9_dirt_53 rfl (lv_at hl 4 rfl) ?_
      obtain ⟨ho, hk⟩ := hk
      refine r_calli Z (r_runV (As := [.int r37, .int x2]) (rest := [.int r47, .ref x0]) C Z (m_X9_dirtBy l g h47 x0 r37 x2 _ hk) ho rfl (cwV 2 C.1.2.2.2.2 (gV tw_1032 tw_1034 tw_34 tw_66 tw_1035) rfl rfl rfl (by decide +kernel) ⟨Nat.le_of_ble_eq_true rfl, Nat.le_of_ble_eq_true rfl⟩) rfl hl.1 rfl (Nat.le_of_ble_eq_true rfl) dX9_dirt_54 ⟨Nat.zero_le _, Nat.zero_le _⟩) (fun r54 h54 H locs hk Z => ?_)
      obtain ⟨ho, hk⟩ := hk
      refine r_calli Z (r_runV (As := [.int r47, .int r54]) (rest := []) C Z (m_X9_least l g h54 x0 r47 r54 _ hk) ho rfl (cwV 2 C.1.2.2.2.2 (gV tw_1036 tw_1038 tw_35 tw_66 tw_1039) rfl rfl rfl (by decide +kernel) ⟨Nat.le_of_ble_eq_true rfl, Nat.le_of_ble_eq_true rfl⟩) rfl hl.1 rfl (Nat.le_of_ble_eq_true rfl) dX9_dirt_57 ⟨Nat.zero_le _, Nat.zero_le _⟩) (fun r57 h57 H locs hk Z => ?_)
      refine lv_istore (lv' := [(6, .int r57), (5, .int r37), (4, .int r15), (0, .ref x0), (1, .int x1), (2, .int x2), (3, .int x3)]) hx hb dX9_dirt_60 hl (by decide) rfl (fun ls hl => ?_)
      refine lv_iload hx hb dX9_dirt_62 (lv_at hl 2 rfl) ?_
      refine lv_istore (lv' := [(7, .int r15), (6, .int r57), (5, .int r37), (4, .int r15), (0, .ref x0), (1, .int x1), (2, .int x2), (3, .int x3)]) hx hb dX9_dirt_64 hl (by decide) rfl (fun ls hl => ?_)
      obtain ⟨n1, hk⟩ := hk
      exact w_X9_dirt_66 C hr x0 x2 r37 n1 r57 r15 h57 _ _ _ (lv_sub hl [4, 6, 2, 1, 0] rfl) Z hk
    · have hk := hk.2 q
      refine lv_iconst (v := (nI 0)) hx hb dX9_dirt_31 (by decide) ?_
      exact r_iret C Z hr hk dX9_dirt_32
  · have hk := hk.2 q
    refine lv_iconst (v := (nI 0)) hx hb dX9_dirt_9 (by decide) ?_
    exact r_iret C Z hr hk dX9_dirt_10
abbrev rmX9_clear : Room := ({ frames := 6, cells := 0, slots := 0, locals := 147 } : Room)
abbrev wzX9_clear : List Cond := WS yX9_clear cX9_clear 4 (some .int)
set_option maxRecDepth 100000 in
set_option maxHeartbeats 4000000 in
theorem m_X9_clear (l : Launch) (g : Gt) (h : Hp) (x0 : Nat) (x1 : Int32) (x2 : Int32) (x3 : Int32) (Post : Int32 → Hp → Prop) (hk : wp_X9_clear x0 x1 x2 x3 Post h) : Met l yX9_clear wzX9_clear rmX9_clear (Pg g h [.ref x0, .int x1, .int x2, .int x3]) (Qi g h Post) 0 0 (dm h) := by
  refine Met_of (cc := cX9_clear) (maxL := 4) (ret := (some .int)) (by decide) (Nat.le_of_ble_eq_true rfl) (fun p e s m below meth c ls C hr hnm hl Z => ?_)
  have hx := C.1.1
  have hb := C.1.2.1
  have hml := C.1.2.2.1
  have hown := C.1.2.2.2.1
  have hts := C.1.2.2.2.2
  have hl : lv_has ls 4 [(0, .ref x0), (1, .int x1), (2, .int x2), (3, .int x3)] := hl
  unfold wp_X9_clear at hk
  generalize s.heap = H at Z ⊢
  generalize ([] : List Loc) = locs at Z ⊢
  refine lv_aload_n hx hb dX9_clear_0 rfl (lv_at hl 0 rfl) ?_
  refine lv_iload_n hx hb dX9_clear_1 rfl (lv_at hl 1 rfl) ?_
  obtain ⟨ho, hk⟩ := hk
  refine r_calli Z (r_runV (As := [.int x1]) (rest := []) C Z (m_X9_isLooked l g h x0 x1 _ hk) ho rfl (cwV 1 C.1.2.2.2.2 (gV tw_1000 tw_1002 tw_27 tw_66 tw_1003) rfl rfl rfl (by decide +kernel) ⟨Nat.le_of_ble_eq_true rfl, Nat.le_of_ble_eq_true rfl⟩) rfl hl.1 rfl (Nat.le_of_ble_eq_true rfl) dX9_clear_2 ⟨Nat.zero_le _, Nat.zero_le _⟩) (fun r2 h2 H locs hk Z => ?_)
  refine lv_if_eq (tgt := 25) hx hb dX9_clear_5 (by decide) (fun q => ?_) (fun q => ?_)
  · have hk := hk.1 q
    refine lv_aload_n hx hb dX9_clear_25 rfl (lv_at hl 0 rfl) ?_
    refine lv_iload_n hx hb dX9_clear_26 rfl (lv_at hl 1 rfl) ?_
    refine lv_iload_n hx hb dX9_clear_27 rfl (lv_at hl 2 rfl) ?_
    obtain ⟨ho, hk⟩ := hk
    refine r_calli Z (r_runV (As := [.int x1, .int x2]) (rest := []) C Z (m_X9_read l g h2 x0 x1 x2 _ hk) ho rfl (cwV 2 C.1.2.2.2.2 (gV tw_1008 tw_1010 tw_28 tw_66 tw_1011) rfl rfl rfl (by decide +kernel) ⟨Nat.le_of_ble_eq_true rfl, Nat.le_of_ble_eq_true rfl⟩) rfl hl.1 rfl (Nat.le_of_ble_eq_true rfl) dX9_clear_28 ⟨Nat.zero_le _, Nat.zero_le _⟩) (fun r28 h28 H locs hk Z => ?_)
    refine lv_aload_n hx hb dX9_clear_31 rfl (lv_at hl 0 rfl) ?_
    refine lv_iload_n hx hb dX9_clear_32 rfl (lv_at hl 1 rfl) ?_
    refine lv_iload_n hx hb dX9_clear_33 rfl (lv_at hl 2 rfl) ?_
    refine lv_iload_n hx hb dX9_clear_34 rfl (lv_at hl 3 rfl) ?_
    obtain ⟨ho, hk⟩ := hk
    refine r_calli Z (r_runV (As := [.int x1, .int x2, .int x3]) (rest := [.int r28]) C Z (m_X9_dirt l g h28 x0 x1 x2 x3 _ hk) ho rfl (cwV 3 C.1.2.2.2.2 (gV tw_1012 tw_1014 tw_29 tw_66 tw_1015) rfl rfl rfl (by decide +kernel) ⟨Nat.le_of_ble_eq_true rfl, Nat.le_of_ble_eq_true rfl⟩) rfl hl.1 rfl (Nat.le_of_ble_eq_true rfl) dX9_clear_35 ⟨Nat.zero_le _, Nat.zero_le _⟩) (fun r35 h35 H locs hk Z => ?_)
    refine lv_isub hx hb dX9_clear_38 ?_
    exact r_iret C Z hr hk dX9_clear_39
  · have hk := hk.2 q
    refine lv_aload_n hx hb dX9_clear_8 rfl (lv_at hl 0 rfl) ?_
    obtain ⟨v9, hv, hk⟩ := hk
    refine r_get (ci := 9) (k := 0) (T := TX9) (N := 17) C Z hv ku_9 rfl (by decide) tw_857 dX9_clear_9 ?_
    refine lv_iload_n hx hb dX9_clear_12 rfl (lv_at hl 1 rfl) ?_
    refine lv_iconst (v := (nI 4)) hx hb dX9_clear_13 (by decide) ?_
    refine r_calli Z (r_runS (As := [.int x1, .int (nI 4)]) (rest := [.ref v9]) C Z (m_X9_c l g h2 x1 (nI 4) _ hk) (va_cwS 2 C.1.2.2.2.2 (gS tw_930 tw_931 tw_66 tw_932) rfl rfl rfl (by decide +kernel) ⟨Nat.le_of_ble_eq_true rfl, Nat.le_of_ble_eq_true rfl⟩) rfl hl.1 rfl (Nat.le_of_ble_eq_true rfl) dX9_clear_14 ⟨Nat.zero_le _, Nat.zero_le _⟩) (fun r14 h14 H locs hk Z => ?_)
    obtain ⟨v17, hv, hk⟩ := hk
    refine r_lald C Z hv dX9_clear_17 ?_
    refine lv_iload_n hx hb dX9_clear_18 rfl (lv_at hl 2 rfl) ?_
    refine r_calli Z (r_runS (As := [.long v17, .int x2]) (rest := []) C Z (m_X9_digit l g h14 v17 x2 _ hk) (va_cwS 2 C.1.2.2.2.2 (gS tw_1004 tw_1005 tw_66 tw_1006) rfl rfl rfl (by decide +kernel) ⟨Nat.le_of_ble_eq_true rfl, Nat.le_of_ble_eq_true rfl⟩) rfl hl.1 rfl (Nat.le_of_ble_eq_true rfl) dX9_clear_19 ⟨Nat.zero_le _, Nat.zero_le _⟩) (fun r19 h19 H locs hk Z => ?_)
    refine lv_goto (tgt := 39) hx hb dX9_clear_22 (by decide) ?_
    exact r_iret C Z hr hk dX9_clear_39
abbrev rmX9_mark : Room := ({ frames := 7, cells := 0, slots := 0, locals := 170 } : Room)
abbrev wzX9_mark : List Cond := WS yX9_mark cX9_mark 5 (some .int)
set_option maxRecDepth 100000 in
set_option maxHeartbeats 4000000 in
theorem m_X9_mark (l : Launch) (g : Gt) (h : Hp) (x0 : Nat) (x1 : Int32) (x2 : Int32) (x3 : Int32) (Post : Int32 → Hp → Prop) (hk : wp_X9_mark x0 x1 x2 x3 Post h) : Met l yX9_mark wzX9_mark rmX9_mark (Pg g h [.ref x0, .int x1, .int x2, .int x3]) (Qi g h Post) 0 0 (dm h) := by
  refine Met_of (cc := cX9_mark) (maxL := 5) (ret := (some .int)) (by decide) (Nat.le_of_ble_eq_true rfl) (fun p e s m below meth c ls C hr hnm hl Z => ?_)
  have hx := C.1.1
  have hb := C.1.2.1
  have hml := C.1.2.2.1
  have hown := C.1.2.2.2.1
  have hts := C.1.2.2.2.2
  have hl : lv_has ls 5 [(0, .ref x0), (1, .int x1), (2, .int x2), (3, .int x3)] := hl
  unfold wp_X9_mark at hk
  generalize s.heap = H at Z ⊢
  generalize ([] : List Loc) = locs at Z ⊢
  refine lv_aload_n hx hb dX9_mark_0 rfl (lv_at hl 0 rfl) ?_
  refine lv_iload_n hx hb dX9_mark_1 rfl (lv_at hl 1 rfl) ?_
  refine lv_iload_n hx hb dX9_mark_2 rfl (lv_at hl 2 rfl) ?_
  refine lv_iload_n hx hb dX9_mark_3 rfl (lv_at hl 3 rfl) ?_
  obtain ⟨ho, hk⟩ := hk
  refine r_calli Z (r_runV (As := [.int x1, .int x2, .int x3]) (rest := []) C Z (m_X9_clear l g h x0 x1 x2 x3 _ hk) ho rfl (cwV 3 C.1.2.2.2.2 (gV tw_996 tw_998 tw_26 tw_66 tw_999) rfl rfl rfl (by decide +kernel) ⟨Nat.le_of_ble_eq_true rfl, Nat.le_of_ble_eq_true rfl⟩) rfl hl.1 rfl (Nat.le_of_ble_eq_true rfl) dX9_mark_4 ⟨Nat.zero_le _, Nat.zero_le _⟩) (fun r4 h4 H locs hk Z => ?_)
  refine lv_istore (lv' := [(4, .int r4), (0, .ref x0), (1, .int x1), (2, .int x2), (3, .int x3)]) hx hb dX9_mark_7 hl (by decide) rfl (fun ls hl => ?_)
  refine lv_iload hx hb dX9_mark_9 (lv_at hl 0 rfl) ?_
  refine lv_i2l (v := (Int32.toInt64 r4)) hx hb dX9_mark_11 rfl ?_
  refine lv_aload_n hx hb dX9_mark_12 rfl (lv_at hl 1 rfl) ?_
  obtain ⟨v13, hv, hk⟩ := hk
  refine r_get (ci := 9) (k := 0) (T := TX9) (N := 17) C Z hv ku_9 rfl (by decide) tw_857 dX9_mark_13 ?_
  refine lv_iconst (v := (nI 3)) hx hb dX9_mark_16 (by decide) ?_
  obtain ⟨v17, hv, hk⟩ := hk
  refine r_lald C Z hv dX9_mark_17 ?_
  refine W.lcmp hx hb dX9_mark_18 ?_
  refine lv_if_lt (tgt := 26) hx hb dX9_mark_19 (by decide) (fun q => ?_) (fun q => ?_)
  · have hk := hk.1 ((lc_lt (Int32.toInt64 r4) v17).mp q)
    refine lv_aload_n hx hb dX9_mark_26 rfl (lv_at hl 1 rfl) ?_
    refine lv_iload_n hx hb dX9_mark_27 rfl (lv_at hl 2 rfl) ?_
    obtain ⟨ho, hk⟩ := hk
    refine r_calli Z (r_runV (As := [.int x1]) (rest := []) C Z (m_X9_isLooked l g h4 x0 x1 _ hk) ho rfl (cwV 1 C.1.2.2.2.2 (gV tw_1000 tw_1002 tw_27 tw_66 tw_1003) rfl rfl rfl (by decide +kernel) ⟨Nat.le_of_ble_eq_true rfl, Nat.le_of_ble_eq_true rfl⟩) rfl hl.1 rfl (Nat.le_of_ble_eq_true rfl) dX9_mark_28 ⟨Nat.zero_le _, Nat.zero_le _⟩) (fun r28 h28 H locs hk Z => ?_)
    refine lv_if_ne (tgt := 51) hx hb dX9_mark_31 (by decide) (fun q => ?_) (fun q => ?_)
    · have hk := hk.1 q
      refine lv_iconst (v := (nI 0)) hx hb dX9_mark_51 (by decide) ?_
      exact r_iret C Z hr hk dX9_mark_52
    · have hk := hk.2 q
      refine lv_iload hx hb dX9_mark_34 (lv_at hl 0 rfl) ?_
      refine lv_i2l (v := (Int32.toInt64 r4)) hx hb dX9_mark_36 rfl ?_
      refine lv_aload_n hx hb dX9_mark_37 rfl (lv_at hl 1 rfl) ?_
      obtain ⟨v38, hv, hk⟩ := hk
      refine r_get (ci := 9) (k := 0) (T := TX9) (N := 17) C Z hv ku_9 rfl (by decide) tw_857 dX9_mark_38 ?_
      refine lv_iconst (v := (nI 4)) hx hb dX9_mark_41 (by decide) ?_
      obtain ⟨v42, hv, hk⟩ := hk
      refine r_lald C Z hv dX9_mark_42 ?_
      refine W.lcmp hx hb dX9_mark_43 ?_
      refine lv_if_lt (tgt := 51) hx hb dX9_mark_44 (by decide) (fun q => ?_) (fun q => ?_)
      · have hk := hk.1 ((lc_lt (Int32.toInt64 r4) v42).mp q)
        refine lv_iconst (v := (nI 0)) hx hb dX9_mark_51 (by decide) ?_
        exact r_iret C Z hr hk dX9_mark_52
      · have hk := hk.2 (mt (lc_lt (Int32.toInt64 r4) v42).mpr q)
        refine lv_iconst (v := (nI 1)) hx hb dX9_mark_47 (by decide) ?_
        refine lv_goto (tgt := 52) hx hb dX9_mark_48 (by decide) ?_
        exact r_iret C Z hr hk dX9_mark_52
  · have hk := hk.2 (mt (lc_lt (Int32.toInt64 r4) v17).mpr q)
    refine lv_iconst (v := (nI 2)) hx hb dX9_mark_22 (by decide) ?_
    refine lv_goto (tgt := 52) hx hb dX9_mark_23 (by decide) ?_
    exact r_iret C Z hr hk dX9_mark_52
abbrev rmX9_outcomeBy : Room := ({ frames := 8, cells := 0, slots := 0, locals := 194 } : Room)
abbrev wzX9_outcomeBy : List Cond := WS yX9_outcomeBy cX9_outcomeBy 9 (some .int)
set_option maxRecDepth 100000 in
set_option maxHeartbeats 4000000 in
theorem w_X9_outcomeBy_63 {p : Program} {l : Launch} {e : Env} {s : State} {m : MethodId} {args : Array Value} {below : List Frame} {meth : Method} {c : Code} {g : Gt} {h0 : Hp} (C : Cx g (dm h0) RX9 cX9_outcomeBy 9 p s m args meth c) (hr : meth.sig.returnType = (some .int)) {Post : Int32 → Hp → Prop} (x0 : Nat) (x1 : Int32) (x2 : Int32) (x3 : Int32) (x5 : Int32) (x6 : Int32) (x7 : Int32) (x8 : Int32) (s0 : Int32) (s1 : Int32) {k12 : Int32 → Int32 → Int32 → Int32 → Hp → Prop} (hk12 : ∀ (x4 : Int32) (x5 : Int32) (x6 : Int32) (x7 : Int32) (h : Hp) (H : Heap) (locs : List Loc) (ls : Array Slot), lv_has ls 9 [(0, .ref x0), (1, .int x1), (2, .int x2), (3, .int x3), (4, .int x4), (5, .int x5), (6, .int x6), (7, .int x7)] → St g (dm h0) s h H locs → k12 x4 x5 x6 x7 h → W p l e rmX9_outcomeBy s m args below meth c H locs 0 0 (MQ below (Qi g h0 Post) args s 0 0 (dm h0)) (F0 m 12 ls [])) : ∀ (h : Hp) (H : Heap) (locs : List Loc) (ls : Array Slot), lv_has ls 9 [(0, .ref x0), (1, .int x1), (2, .int x2), (3, .int x3), (5, .int x5), (6, .int x6), (7, .int x7), (8, .int x8)] → St g (dm h0) s h H locs → wp_X9_outcomeBy_63 Post k12 x0 x1 x2 x3 x5 x6 x7 x8 s0 s1 h → W p l e rmX9_outcomeBy s m args below meth c H locs 0 0 (MQ below (Qi g h0 Post) args s 0 0 (dm h0)) (F0 m 63 ls [.int s1, .int s0]) := by
  have hx := C.1.1
  have hb := C.1.2.1
  have hml := C.1.2.2.1
  have hown := C.1.2.2.2.1
  have hts := C.1.2.2.2.2
  intro h H locs ls hl Z hk
  unfold wp_X9_outcomeBy_63 at hk
  refine lv_iadd hx hb dX9_outcomeBy_63 ?_
  refine lv_topi (fun y64 ey64 => ?_)
  have hk := hk y64 ey64
  refine lv_istore (lv' := [(4, .int y64), (0, .ref x0), (1, .int x1), (2, .int x2), (3, .int x3), (5, .int x5), (6, .int x6), (7, .int x7), (8, .int x8)]) hx hb dX9_outcomeBy_64 hl (by decide) rfl (fun ls hl => ?_)
  refine lv_iload hx hb dX9_outcomeBy_66 (lv_at hl 8 rfl) ?_
  refine lv_iconst (v := (nI 2)) hx hb dX9_outcomeBy_68 (by decide) ?_
  refine lv_icmp_ne (tgt := 77) hx hb dX9_outcomeBy_69 (by decide) (fun q => ?_) (fun q => ?_)
  · have hk := hk.1 q
    refine lv_iload hx hb dX9_outcomeBy_77 (lv_at hl 5 rfl) ?_
    refine lv_istore (lv' := [(5, .int x5), (4, .int y64), (0, .ref x0), (1, .int x1), (2, .int x2), (3, .int x3), (6, .int x6), (7, .int x7), (8, .int x8)]) hx hb dX9_outcomeBy_79 hl (by decide) rfl (fun ls hl => ?_)
    obtain ⟨y81, ey81⟩ : ∃ y : Int32, y = x7 + (nI 1) := ⟨_, rfl⟩
    have hk := hk y81 ey81
    refine lv_iinc (v := y81) (lv' := [(7, .int y81), (5, .int x5), (4, .int y64), (0, .ref x0), (1, .int x1), (2, .int x2), (3, .int x3), (6, .int x6), (8, .int x8)]) hx hb dX9_outcomeBy_81 hl (k := 7) rfl (by rw [ey81]; rfl) (by decide) rfl (fun ls hl => ?_)
    refine lv_goto (tgt := 12) hx hb dX9_outcomeBy_84 (by decide) ?_
    exact hk12 y64 x5 x6 y81 h _ _ _ (lv_sub hl [3, 4, 5, 6, 2, 1, 7, 0] rfl) Z hk
  · have hk := hk.2 q
    refine lv_iload hx hb dX9_outcomeBy_72 (lv_at hl 7 rfl) ?_
    refine lv_goto (tgt := 79) hx hb dX9_outcomeBy_74 (by decide) ?_
    refine lv_istore (lv' := [(5, .int x7), (4, .int y64), (0, .ref x0), (1, .int x1), (2, .int x2), (3, .int x3), (6, .int x6), (7, .int x7), (8, .int x8)]) hx hb dX9_outcomeBy_79 hl (by decide) rfl (fun ls hl => ?_)
    obtain ⟨y81, ey81⟩ : ∃ y : Int32, y = x7 + (nI 1) := ⟨_, rfl⟩
    have hk := hk y81 ey81
    refine lv_iinc (v := y81) (lv' := [(7, .int y81), (5, .int x7), (4, .int y64), (0, .ref x0), (1, .int x1), (2, .int x2), (3, .int x3), (6, .int x6), (8, .int x8)]) hx hb dX9_outcomeBy_81 hl (k := 7) rfl (by rw [ey81]; rfl) (by decide) rfl (fun ls hl => ?_)
    refine lv_goto (tgt := 12) hx hb dX9_outcomeBy_84 (by decide) ?_
    exact hk12 y64 x7 x6 y81 h _ _ _ (lv_sub hl [3, 4, 5, 6, 2, 1, 7, 0] rfl) Z hk
set_option maxRecDepth 100000 in
set_option maxHeartbeats 4000000 in
theorem w_X9_outcomeBy_12 {p : Program} {l : Launch} {e : Env} {s : State} {m : MethodId} {args : Array Value} {below : List Frame} {meth : Method} {c : Code} {g : Gt} {h0 : Hp} (C : Cx g (dm h0) RX9 cX9_outcomeBy 9 p s m args meth c) (hr : meth.sig.returnType = (some .int)) {Post : Int32 → Hp → Prop} (x0 : Nat) (x1 : Int32) (x2 : Int32) (x3 : Int32)   : ∀ (n : Nat) (x4 : Int32) (x5 : Int32) (x6 : Int32) (x7 : Int32) (h : Hp) (H : Heap) (locs : List Loc) (ls : Array Slot), lv_has ls 9 [(0, .ref x0), (1, .int x1), (2, .int x2), (3, .int x3), (4, .int x4), (5, .int x5), (6, .int x6), (7, .int x7)] → St g (dm h0) s h H locs → wp_X9_outcomeBy_12 Post x0 x1 x2 x3 n x4 x5 x6 x7 h → W p l e rmX9_outcomeBy s m args below meth c H locs 0 0 (MQ below (Qi g h0 Post) args s 0 0 (dm h0)) (F0 m 12 ls []) := by
  have hx := C.1.1
  have hb := C.1.2.1
  have hml := C.1.2.2.1
  have hown := C.1.2.2.2.1
  have hts := C.1.2.2.2.2
  intro n
  induction n with
  | zero => intro x4 x5 x6 x7 h H locs ls hl Z hk; exact (show False from hk).elim
  | succ n ih =>
    intro x4 x5 x6 x7 h H locs ls hl Z hk
    unfold wp_X9_outcomeBy_12 at hk
    refine lv_iload hx hb dX9_outcomeBy_12 (lv_at hl 7 rfl) ?_
    refine lv_iconst (v := (nI 3)) hx hb dX9_outcomeBy_14 (by decide) ?_
    refine lv_icmp_ge (tgt := 87) hx hb dX9_outcomeBy_15 (by decide) (fun q => ?_) (fun q => ?_)
    · have hk := hk.1 q
      refine lv_iload hx hb dX9_outcomeBy_87 (lv_at hl 4 rfl) ?_
      refine lv_iconst (v := (nI 1)) hx hb dX9_outcomeBy_89 (by decide) ?_
      refine lv_icmp_le (tgt := 97) hx hb dX9_outcomeBy_90 (by decide) (fun q => ?_) (fun q => ?_)
      · have hk := hk.1 q
        refine lv_iload hx hb dX9_outcomeBy_97 (lv_at hl 6 rfl) ?_
        refine lv_if_eq (tgt := 106) hx hb dX9_outcomeBy_99 (by decide) (fun q => ?_) (fun q => ?_)
        · have hk := hk.1 q
          refine lv_iload hx hb dX9_outcomeBy_106 (lv_at hl 5 rfl) ?_
          exact r_iret C Z hr hk dX9_outcomeBy_108
        · have hk := hk.2 q
          refine lv_iconst (v := (nI 5)) hx hb dX9_outcomeBy_102 (by decide) ?_
          refine lv_goto (tgt := 108) hx hb dX9_outcomeBy_103 (by decide) ?_
          exact r_iret C Z hr hk dX9_outcomeBy_108
      · have hk := hk.2 q
        refine lv_iconst (v := (nI 4)) hx hb dX9_outcomeBy_93 (by decide) ?_
        refine lv_goto (tgt := 108) hx hb dX9_outcomeBy_94 (by decide) ?_
        exact r_iret C Z hr hk dX9_outcomeBy_108
    · have hk := hk.2 q
      refine lv_aload_n hx hb dX9_outcomeBy_18 rfl (lv_at hl 0 rfl) ?_
      refine lv_iload_n hx hb dX9_outcomeBy_19 rfl (lv_at hl 1 rfl) ?_
      refine lv_iconst (v := (nI 3)) hx hb dX9_outcomeBy_20 (by decide) ?_
      refine lv_iload_n hx hb dX9_outcomeBy_21 rfl (lv_at hl 2 rfl) ?_
      refine lv_imul hx hb dX9_outcomeBy_22 ?_
      refine lv_iload hx hb dX9_outcomeBy_23 (lv_at hl 7 rfl) ?_
      refine lv_iadd hx hb dX9_outcomeBy_25 ?_
      refine lv_iload_n hx hb dX9_outcomeBy_26 rfl (lv_at hl 3 rfl) ?_
      obtain ⟨ho, hk⟩ := hk
      refine r_calli Z (r_runV (As := [.int x1, .int (((nI 3) * x2) + x7), .int x3]) (rest := []) C Z (m_X9_mark l g h x0 x1 (((nI 3) * x2) + x7) x3 _ hk) ho rfl (cwV 3 C.1.2.2.2.2 (gV tw_992 tw_994 tw_25 tw_66 tw_995) rfl rfl rfl (by decide +kernel) ⟨Nat.le_of_ble_eq_true rfl, Nat.le_of_ble_eq_true rfl⟩) rfl hl.1 rfl (Nat.le_of_ble_eq_true rfl) dX9_outcomeBy_27 ⟨Nat.zero_le _, Nat.zero_le _⟩) (fun r27 h27 H locs hk Z => ?_)
      refine lv_istore (lv' := [(8, .int r27), (0, .ref x0), (1, .int x1), (2, .int x2), (3, .int x3), (4, .int x4), (5, .int x5), (6, .int x6), (7, .int x7)]) hx hb dX9_outcomeBy_30 hl (by decide) rfl (fun ls hl => ?_)
      refine lv_iload hx hb dX9_outcomeBy_32 (lv_at hl 7 rfl) ?_
      refine lv_if_ne (tgt := 43) hx hb dX9_outcomeBy_34 (by decide) (fun q => ?_) (fun q => ?_)
      · have hk := hk.1 q
        refine lv_iconst (v := (nI 1)) hx hb dX9_outcomeBy_43 (by decide) ?_
        refine lv_goto (tgt := 48) hx hb dX9_outcomeBy_44 (by decide) ?_
        refine lv_istore (lv' := [(6, .int (nI 1)), (8, .int r27), (0, .ref x0), (1, .int x1), (2, .int x2), (3, .int x3), (4, .int x4), (5, .int x5), (7, .int x7)]) hx hb dX9_outcomeBy_48 hl (by decide) rfl (fun ls hl => ?_)
        refine lv_iload hx hb dX9_outcomeBy_50 (lv_at hl 6 rfl) ?_
        refine lv_iload hx hb dX9_outcomeBy_52 (lv_at hl 1 rfl) ?_
        refine lv_iconst (v := (nI 2)) hx hb dX9_outcomeBy_54 (by decide) ?_
        refine lv_icmp_ne (tgt := 62) hx hb dX9_outcomeBy_55 (by decide) (fun q => ?_) (fun q => ?_)
        · have hk := hk.1 q
          refine lv_iconst (v := (nI 0)) hx hb dX9_outcomeBy_62 (by decide) ?_
          exact w_X9_outcomeBy_63 C hr x0 x1 x2 x3 x5 (nI 1) x7 r27 x4 (nI 0) ih h27 _ _ _ (lv_sub hl [2, 3, 4, 5, 7, 0, 8, 1] rfl) Z hk
        · have hk := hk.2 q
          refine lv_iconst (v := (nI 1)) hx hb dX9_outcomeBy_58 (by decide) ?_
          refine lv_goto (tgt := 63) hx hb dX9_outcomeBy_59 (by decide) ?_
          exact w_X9_outcomeBy_63 C hr x0 x1 x2 x3 x5 (nI 1) x7 r27 x4 (nI 1) ih h27 _ _ _ (lv_sub hl [2, 3, 4, 5, 7, 0, 8, 1] rfl) Z hk
      · have hk := hk.2 q
        refine lv_iload hx hb dX9_outcomeBy_37 (lv_at hl 0 rfl) ?_
        refine lv_iconst (v := (nI 1)) hx hb dX9_outcomeBy_39 (by decide) ?_
        refine lv_icmp_ne (tgt := 47) hx hb dX9_outcomeBy_40 (by decide) (fun q => ?_) (fun q => ?_)
        · have hk := hk.1 q
          refine lv_iconst (v := (nI 0)) hx hb dX9_outcomeBy_47 (by decide) ?_
          refine lv_istore (lv' := [(6, .int (nI 0)), (8, .int r27), (0, .ref x0), (1, .int x1), (2, .int x2), (3, .int x3), (4, .int x4), (5, .int x5), (7, .int x7)]) hx hb dX9_outcomeBy_48 hl (by decide) rfl (fun ls hl => ?_)
          refine lv_iload hx hb dX9_outcomeBy_50 (lv_at hl 6 rfl) ?_
          refine lv_iload hx hb dX9_outcomeBy_52 (lv_at hl 1 rfl) ?_
          refine lv_iconst (v := (nI 2)) hx hb dX9_outcomeBy_54 (by decide) ?_
          refine lv_icmp_ne (tgt := 62) hx hb dX9_outcomeBy_55 (by decide) (fun q => ?_) (fun q => ?_)
          · have hk := hk.1 q
            refine lv_iconst (v := (nI 0)) hx hb dX9_outcomeBy_62 (by decide) ?_
            exact w_X9_outcomeBy_63 C hr x0 x1 x2 x3 x5 (nI 0) x7 r27 x4 (nI 0) ih h27 _ _ _ (lv_sub hl [2, 3, 4, 5, 7, 0, 8, 1] rfl) Z hk
          · have hk := hk.2 q
            refine lv_iconst (v := (nI 1)) hx hb dX9_outcomeBy_58 (by decide) ?_
            refine lv_goto (tgt := 63) hx hb dX9_outcomeBy_59 (by decide) ?_
            exact w_X9_outcomeBy_63 C hr x0 x1 x2 x3 x5 (nI 0) x7 r27 x4 (nI 1) ih h27 _ _ _ (lv_sub hl [2, 3, 4, 5, 7, 0, 8, 1] rfl) Z hk
        · have hk := hk.2 q
          refine lv_iconst (v := (nI 1)) hx hb dX9_outcomeBy_43 (by decide) ?_
          refine lv_goto (tgt := 48) hx hb dX9_outcomeBy_44 (by decide) ?_
          refine lv_istore (lv' := [(6, .int (nI 1)), (8, .int r27), (0, .ref x0), (1, .int x1), (2, .int x2), (3, .int x3), (4, .int x4), (5, .int x5), (7, .int x7)]) hx hb dX9_outcomeBy_48 hl (by decide) rfl (fun ls hl => ?_)
          refine lv_iload hx hb dX9_outcomeBy_50 (lv_at hl 6 rfl) ?_
          refine lv_iload hx hb dX9_outcomeBy_52 (lv_at hl 1 rfl) ?_
          refine lv_iconst (v := (nI 2)) hx hb dX9_outcomeBy_54 (by decide) ?_
          refine lv_icmp_ne (tgt := 62) hx hb dX9_outcomeBy_55 (by decide) (fun q => ?_) (fun q => ?_)
          · have hk := hk.1 q
            refine lv_iconst (v := (nI 0)) hx hb dX9_outcomeBy_62 (by decide) ?_
            exact w_X9_outcomeBy_63 C hr x0 x1 x2 x3 x5 (nI 1) x7 r27 x4 (nI 0) ih h27 _ _ _ (lv_sub hl [2, 3, 4, 5, 7, 0, 8, 1] rfl) Z hk
          · have hk := hk.2 q
            refine lv_iconst (v := (nI 1)) hx hb dX9_outcomeBy_58 (by decide) ?_
            refine lv_goto (tgt := 63) hx hb dX9_outcomeBy_59 (by decide) ?_
            exact w_X9_outcomeBy_63 C hr x0 x1 x2 x3 x5 (nI 1) x7 r27 x4 (nI 1) ih h27 _ _ _ (lv_sub hl [2, 3, 4, 5, 7, 0, 8, 1] rfl) Z hk
set_option maxRecDepth 100000 in
set_option maxHeartbeats 4000000 in
theorem m_X9_outcomeBy (l : Launch) (g : Gt) (h : Hp) (x0 : Nat) (x1 : Int32) (x2 : Int32) (x3 : Int32) (Post : Int32 → Hp → Prop) (hk : wp_X9_outcomeBy x0 x1 x2 x3 Post h) : Met l yX9_outcomeBy wzX9_outcomeBy rmX9_outcomeBy (Pg g h [.ref x0, .int x1, .int x2, .int x3]) (Qi g h Post) 0 0 (dm h) := by
  refine Met_of (cc := cX9_outcomeBy) (maxL := 9) (ret := (some .int)) (by decide) (Nat.le_of_ble_eq_true rfl) (fun p e s m below meth c ls C hr hnm hl Z => ?_)
  have hx := C.1.1
  have hb := C.1.2.1
  have hml := C.1.2.2.1
  have hown := C.1.2.2.2.1
  have hts := C.1.2.2.2.2
  have hl : lv_has ls 9 [(0, .ref x0), (1, .int x1), (2, .int x2), (3, .int x3)] := hl
  unfold wp_X9_outcomeBy at hk
  generalize s.heap = H at Z ⊢
  generalize ([] : List Loc) = locs at Z ⊢
  refine lv_iconst (v := (nI 0)) hx hb dX9_outcomeBy_0 (by decide) ?_
  refine lv_istore (lv' := [(4, .int (nI 0)), (0, .ref x0), (1, .int x1), (2, .int x2), (3, .int x3)]) hx hb dX9_outcomeBy_1 hl (by decide) rfl (fun ls hl => ?_)
  refine lv_iconst (v := (nI 3)) hx hb dX9_outcomeBy_3 (by decide) ?_
  refine lv_istore (lv' := [(5, .int (nI 3)), (4, .int (nI 0)), (0, .ref x0), (1, .int x1), (2, .int x2), (3, .int x3)]) hx hb dX9_outcomeBy_4 hl (by decide) rfl (fun ls hl => ?_)
  refine lv_iconst (v := (nI 0)) hx hb dX9_outcomeBy_6 (by decide) ?_
  refine lv_istore (lv' := [(6, .int (nI 0)), (5, .int (nI 3)), (4, .int (nI 0)), (0, .ref x0), (1, .int x1), (2, .int x2), (3, .int x3)]) hx hb dX9_outcomeBy_7 hl (by decide) rfl (fun ls hl => ?_)
  refine lv_iconst (v := (nI 0)) hx hb dX9_outcomeBy_9 (by decide) ?_
  refine lv_istore (lv' := [(7, .int (nI 0)), (6, .int (nI 0)), (5, .int (nI 3)), (4, .int (nI 0)), (0, .ref x0), (1, .int x1), (2, .int x2), (3, .int x3)]) hx hb dX9_outcomeBy_10 hl (by decide) rfl (fun ls hl => ?_)
  obtain ⟨n1, hk⟩ := hk
  exact w_X9_outcomeBy_12 C hr x0 x1 x2 x3 n1 (nI 0) (nI 3) (nI 0) (nI 0) h _ _ _ (lv_sub hl [4, 5, 6, 7, 3, 2, 1, 0] rfl) Z hk
abbrev rmX9_length : Room := ({ frames := 0, cells := 0, slots := 0, locals := 0 } : Room)
abbrev wzX9_length : List Cond := WS yX9_length cX9_length 1 (some .int)
set_option maxRecDepth 100000 in
set_option maxHeartbeats 4000000 in
theorem m_X9_length (l : Launch) (g : Gt) (h : Hp) (x0 : Nat) (Post : Int32 → Hp → Prop) (hk : wp_X9_length x0 Post h) : Met l yX9_length wzX9_length rmX9_length (Pg g h [.ref x0]) (Qi g h Post) 0 0 (dm h) := by
  refine Met_of (cc := cX9_length) (maxL := 1) (ret := (some .int)) (by decide) (Nat.le_of_ble_eq_true rfl) (fun p e s m below meth c ls C hr hnm hl Z => ?_)
  have hx := C.1.1
  have hb := C.1.2.1
  have hml := C.1.2.2.1
  have hown := C.1.2.2.2.1
  have hts := C.1.2.2.2.2
  have hl : lv_has ls 1 [(0, .ref x0)] := hl
  unfold wp_X9_length at hk
  generalize s.heap = H at Z ⊢
  generalize ([] : List Loc) = locs at Z ⊢
  refine lv_aload_n hx hb dX9_length_0 rfl (lv_at hl 0 rfl) ?_
  obtain ⟨v1, hv, hk⟩ := hk
  refine r_get (ci := 9) (k := 0) (T := TX9) (N := 17) C Z hv ku_9 rfl (by decide) tw_857 dX9_length_1 ?_
  refine lv_iconst (v := (nI 2)) hx hb dX9_length_4 (by decide) ?_
  obtain ⟨v5, hv, hk⟩ := hk
  refine r_lald C Z hv dX9_length_5 ?_
  refine lv_l2i (v := (Int64.toInt32 v5)) hx hb dX9_length_6 rfl ?_
  exact r_iret C Z hr hk dX9_length_7
abbrev rmX9_outcomes : Room := ({ frames := 9, cells := 0, slots := 0, locals := 222 } : Room)
abbrev wzX9_outcomes : List Cond := WS yX9_outcomes cX9_outcomes 6 (some .long)
set_option maxRecDepth 100000 in
set_option maxHeartbeats 4000000 in
theorem w_X9_outcomes_5 {p : Program} {l : Launch} {e : Env} {s : State} {m : MethodId} {args : Array Value} {below : List Frame} {meth : Method} {c : Code} {g : Gt} {h0 : Hp} (C : Cx g (dm h0) RX9 cX9_outcomes 6 p s m args meth c) (hr : meth.sig.returnType = (some .long)) {Post : Int64 → Hp → Prop} (x0 : Nat) (x1 : Int32) (x2 : Int32)   : ∀ (n : Nat) (x3 : Int64) (x5 : Int32) (h : Hp) (H : Heap) (locs : List Loc) (ls : Array Slot), lv_has ls 6 [(0, .ref x0), (1, .int x1), (2, .int x2), (3, .long x3), (5, .int x5)] → St g (dm h0) s h H locs → wp_X9_outcomes_5 Post x0 x1 x2 n x3 x5 h → W p l e rmX9_outcomes s m args below meth c H locs 0 0 (MQ below (Ql g h0 Post) args s 0 0 (dm h0)) (F0 m 5 ls []) := by
  have hx := C.1.1
  have hb := C.1.2.1
  have hml := C.1.2.2.1
  have hown := C.1.2.2.2.1
  have hts := C.1.2.2.2.2
  intro n
  induction n with
  | zero => intro x3 x5 h H locs ls hl Z hk; exact (show False from hk).elim
  | succ n ih =>
    intro x3 x5 h H locs ls hl Z hk
    unfold wp_X9_outcomes_5 at hk
    refine lv_iload hx hb dX9_outcomes_5 (lv_at hl 4 rfl) ?_
    refine lv_if_lt (tgt := 32) hx hb dX9_outcomes_7 (by decide) (fun q => ?_) (fun q => ?_)
    · have hk := hk.1 q
      refine lv_lload_n hx hb dX9_outcomes_32 rfl (lv_at hl 3 rfl) ?_
      exact r_lret C Z hr hk dX9_outcomes_33
    · have hk := hk.2 q
      refine lv_ldc2 (v := (lN 8)) hx hb hown (hts _ tw_987) dX9_outcomes_10 ?_
      refine lv_lload_n hx hb dX9_outcomes_13 rfl (lv_at hl 3 rfl) ?_
      refine lv_lmul hx hb dX9_outcomes_14 ?_
      refine lv_aload_n hx hb dX9_outcomes_15 rfl (lv_at hl 0 rfl) ?_
      refine lv_iload_n hx hb dX9_outcomes_16 rfl (lv_at hl 1 rfl) ?_
      refine lv_iload hx hb dX9_outcomes_17 (lv_at hl 4 rfl) ?_
      refine lv_iload_n hx hb dX9_outcomes_19 rfl (lv_at hl 2 rfl) ?_
      obtain ⟨ho, hk⟩ := hk
      refine r_calli Z (r_runV (As := [.int x1, .int x5, .int x2]) (rest := [.long ((lN 8) * x3)]) C Z (m_X9_outcomeBy l g h x0 x1 x5 x2 _ hk) ho rfl (cwV 3 C.1.2.2.2.2 (gV tw_988 tw_990 tw_24 tw_66 tw_991) rfl rfl rfl (by decide +kernel) ⟨Nat.le_of_ble_eq_true rfl, Nat.le_of_ble_eq_true rfl⟩) rfl hl.1 rfl (Nat.le_of_ble_eq_true rfl) dX9_outcomes_20 ⟨Nat.zero_le _, Nat.zero_le _⟩) (fun r20 h20 H locs hk Z => ?_)
      refine lv_i2l (v := (Int32.toInt64 r20)) hx hb dX9_outcomes_23 rfl ?_
      refine lv_ladd hx hb dX9_outcomes_24 ?_
      refine lv_topl (fun y25 ey25 => ?_)
      have hk := hk y25 ey25
      refine lv_lstore_n (lv' := [(3, .long y25), (0, .ref x0), (1, .int x1), (2, .int x2), (5, .int x5)]) hx hb dX9_outcomes_25 rfl hl (by decide) rfl (fun ls hl => ?_)
      obtain ⟨y26, ey26⟩ : ∃ y : Int32, y = x5 + (-1 : Int32) := ⟨_, rfl⟩
      have hk := hk y26 ey26
      refine lv_iinc (v := y26) (lv' := [(5, .int y26), (3, .long y25), (0, .ref x0), (1, .int x1), (2, .int x2)]) hx hb dX9_outcomes_26 hl (k := 4) rfl (by rw [ey26]; rfl) (by decide) rfl (fun ls hl => ?_)
      refine lv_goto (tgt := 5) hx hb dX9_outcomes_29 (by decide) ?_
      exact ih y25 y26 h20 _ _ _ (lv_sub hl [2, 3, 4, 1, 0] rfl) Z hk
set_option maxRecDepth 100000 in
set_option maxHeartbeats 4000000 in
theorem m_X9_outcomes (l : Launch) (g : Gt) (h : Hp) (x0 : Nat) (x1 : Int32) (x2 : Int32) (Post : Int64 → Hp → Prop) (hk : wp_X9_outcomes x0 x1 x2 Post h) : Met l yX9_outcomes wzX9_outcomes rmX9_outcomes (Pg g h [.ref x0, .int x1, .int x2]) (Ql g h Post) 0 0 (dm h) := by
  refine Met_of (cc := cX9_outcomes) (maxL := 6) (ret := (some .long)) (by decide) (Nat.le_of_ble_eq_true rfl) (fun p e s m below meth c ls C hr hnm hl Z => ?_)
  have hx := C.1.1
  have hb := C.1.2.1
  have hml := C.1.2.2.1
  have hown := C.1.2.2.2.1
  have hts := C.1.2.2.2.2
  have hl : lv_has ls 6 [(0, .ref x0), (1, .int x1), (2, .int x2)] := hl
  unfold wp_X9_outcomes at hk
  generalize s.heap = H at Z ⊢
  generalize ([] : List Loc) = locs at Z ⊢
  refine lv_lconst (v := lN 0) hx hb dX9_outcomes_0 (by decide) ?_
  refine lv_lstore_n (lv' := [(3, .long (lN 0)), (0, .ref x0), (1, .int x1), (2, .int x2)]) hx hb dX9_outcomes_1 rfl hl (by decide) rfl (fun ls hl => ?_)
  refine lv_iconst (v := (nI 3)) hx hb dX9_outcomes_2 (by decide) ?_
  refine lv_istore (lv' := [(5, .int (nI 3)), (3, .long (lN 0)), (0, .ref x0), (1, .int x1), (2, .int x2)]) hx hb dX9_outcomes_3 hl (by decide) rfl (fun ls hl => ?_)
  obtain ⟨n1, hk⟩ := hk
  exact w_X9_outcomes_5 C hr x0 x1 x2 n1 (lN 0) (nI 3) h _ _ _ (lv_sub hl [2, 3, 4, 1, 0] rfl) Z hk
abbrev rmX9_outcomeIn : Room := ({ frames := 0, cells := 0, slots := 0, locals := 0 } : Room)
abbrev wzX9_outcomeIn : List Cond := WS yX9_outcomeIn cX9_outcomeIn 3 (some .int)
set_option maxRecDepth 100000 in
set_option maxHeartbeats 4000000 in
theorem m_X9_outcomeIn (l : Launch) (g : Gt) (h : Hp) (x0 : Int64) (x2 : Int32) (Post : Int32 → Hp → Prop) (hk : wp_X9_outcomeIn x0 x2 Post h) : Met l yX9_outcomeIn wzX9_outcomeIn rmX9_outcomeIn (Pg g h [.long x0, .int x2]) (Qi g h Post) 0 0 (dm h) := by
  refine Met_of (cc := cX9_outcomeIn) (maxL := 3) (ret := (some .int)) (by decide) (Nat.le_of_ble_eq_true rfl) (fun p e s m below meth c ls C hr hnm hl Z => ?_)
  have hx := C.1.1
  have hb := C.1.2.1
  have hml := C.1.2.2.1
  have hown := C.1.2.2.2.1
  have hts := C.1.2.2.2.2
  have hl : lv_has ls 3 [(0, .long x0), (2, .int x2)] := hl
  unfold wp_X9_outcomeIn at hk
  generalize s.heap = H at Z ⊢
  generalize ([] : List Loc) = locs at Z ⊢
  refine lv_lload_n hx hb dX9_outcomeIn_0 rfl (lv_at hl 0 rfl) ?_
  refine lv_iconst (v := (nI 3)) hx hb dX9_outcomeIn_1 (by decide) ?_
  refine lv_iload_n hx hb dX9_outcomeIn_2 rfl (lv_at hl 1 rfl) ?_
  refine lv_imul hx hb dX9_outcomeIn_3 ?_
  refine lv_lshr (v := (x0 >>> (Int32.toInt64 ((nI 3) * x2) &&& 63))) hx hb dX9_outcomeIn_4 rfl ?_
  refine lv_ldc2 (v := (lN 7)) hx hb hown (hts _ tw_1046) dX9_outcomeIn_5 ?_
  refine lv_land hx hb dX9_outcomeIn_8 ?_
  refine lv_l2i (v := (Int64.toInt32 ((x0 >>> (Int32.toInt64 ((nI 3) * x2) &&& 63)) &&& (lN 7)))) hx hb dX9_outcomeIn_9 rfl ?_
  exact r_iret C Z hr hk dX9_outcomeIn_10
abbrev rmX9_differences : Room := ({ frames := 1, cells := 0, slots := 0, locals := 22 } : Room)
abbrev wzX9_differences : List Cond := WS yX9_differences cX9_differences 6 (some .int)
set_option maxRecDepth 100000 in
set_option maxHeartbeats 4000000 in
theorem w_X9_differences_6 {p : Program} {l : Launch} {e : Env} {s : State} {m : MethodId} {args : Array Value} {below : List Frame} {meth : Method} {c : Code} {g : Gt} {h0 : Hp} (C : Cx g (dm h0) RX9 cX9_differences 6 p s m args meth c) (hr : meth.sig.returnType = (some .int)) {Post : Int32 → Hp → Prop} (x0 : Int64) (x2 : Int64)   : ∀ (n : Nat) (x4 : Int32) (x5 : Int32) (h : Hp) (H : Heap) (locs : List Loc) (ls : Array Slot), lv_has ls 6 [(0, .long x0), (2, .long x2), (4, .int x4), (5, .int x5)] → St g (dm h0) s h H locs → wp_X9_differences_6 Post x0 x2 n x4 x5 h → W p l e rmX9_differences s m args below meth c H locs 0 0 (MQ below (Qi g h0 Post) args s 0 0 (dm h0)) (F0 m 6 ls []) := by
  have hx := C.1.1
  have hb := C.1.2.1
  have hml := C.1.2.2.1
  have hown := C.1.2.2.2.1
  have hts := C.1.2.2.2.2
  intro n
  induction n with
  | zero => intro x4 x5 h H locs ls hl Z hk; exact (show False from hk).elim
  | succ n ih =>
    intro x4 x5 h H locs ls hl Z hk
    unfold wp_X9_differences_6 at hk
    refine lv_iload hx hb dX9_differences_6 (lv_at hl 3 rfl) ?_
    refine lv_iconst (v := (nI 4)) hx hb dX9_differences_8 (by decide) ?_
    refine lv_icmp_ge (tgt := 46) hx hb dX9_differences_9 (by decide) (fun q => ?_) (fun q => ?_)
    · have hk := hk.1 q
      refine lv_iload hx hb dX9_differences_46 (lv_at hl 2 rfl) ?_
      exact r_iret C Z hr hk dX9_differences_48
    · have hk := hk.2 q
      refine lv_iload hx hb dX9_differences_12 (lv_at hl 2 rfl) ?_
      refine lv_lload_n hx hb dX9_differences_14 rfl (lv_at hl 0 rfl) ?_
      refine lv_iload hx hb dX9_differences_15 (lv_at hl 3 rfl) ?_
      refine r_calli Z (r_runS (As := [.long x0, .int x5]) (rest := [.int x4]) C Z (m_X9_outcomeIn l g h x0 x5 _ hk) (va_cwS 2 C.1.2.2.2.2 (gS tw_1043 tw_1044 tw_66 tw_1045) rfl rfl rfl (by decide +kernel) ⟨Nat.le_of_ble_eq_true rfl, Nat.le_of_ble_eq_true rfl⟩) rfl hl.1 rfl (Nat.le_of_ble_eq_true rfl) dX9_differences_17 ⟨Nat.zero_le _, Nat.zero_le _⟩) (fun r17 h17 H locs hk Z => ?_)
      refine lv_lload_n hx hb dX9_differences_20 rfl (lv_at hl 1 rfl) ?_
      refine lv_iload hx hb dX9_differences_21 (lv_at hl 3 rfl) ?_
      refine r_calli Z (r_runS (As := [.long x2, .int x5]) (rest := [.int r17, .int x4]) C Z (m_X9_outcomeIn l g h17 x2 x5 _ hk) (va_cwS 2 C.1.2.2.2.2 (gS tw_1043 tw_1044 tw_66 tw_1045) rfl rfl rfl (by decide +kernel) ⟨Nat.le_of_ble_eq_true rfl, Nat.le_of_ble_eq_true rfl⟩) rfl hl.1 rfl (Nat.le_of_ble_eq_true rfl) dX9_differences_23 ⟨Nat.zero_le _, Nat.zero_le _⟩) (fun r23 h23 H locs hk Z => ?_)
      refine lv_icmp_eq (tgt := 36) hx hb dX9_differences_26 (by decide) (fun q => ?_) (fun q => ?_)
      · have hk := hk.1 q
        refine lv_iconst (v := (nI 0)) hx hb dX9_differences_36 (by decide) ?_
        refine lv_ior hx hb dX9_differences_37 ?_
        refine lv_topi (fun y38 ey38 => ?_)
        have hk := hk y38 ey38
        refine lv_istore (lv' := [(4, .int y38), (0, .long x0), (2, .long x2), (5, .int x5)]) hx hb dX9_differences_38 hl (by decide) rfl (fun ls hl => ?_)
        obtain ⟨y40, ey40⟩ : ∃ y : Int32, y = x5 + (nI 1) := ⟨_, rfl⟩
        have hk := hk y40 ey40
        refine lv_iinc (v := y40) (lv' := [(5, .int y40), (4, .int y38), (0, .long x0), (2, .long x2)]) hx hb dX9_differences_40 hl (k := 3) rfl (by rw [ey40]; rfl) (by decide) rfl (fun ls hl => ?_)
        refine lv_goto (tgt := 6) hx hb dX9_differences_43 (by decide) ?_
        exact ih y38 y40 h23 _ _ _ (lv_sub hl [2, 3, 1, 0] rfl) Z hk
      · have hk := hk.2 q
        refine lv_iconst (v := (nI 1)) hx hb dX9_differences_29 (by decide) ?_
        refine lv_iload hx hb dX9_differences_30 (lv_at hl 3 rfl) ?_
        refine lv_ishl hx hb dX9_differences_32 ?_
        refine lv_goto (tgt := 37) hx hb dX9_differences_33 (by decide) ?_
        refine lv_ior hx hb dX9_differences_37 ?_
        refine lv_topi (fun y38 ey38 => ?_)
        have hk := hk y38 ey38
        refine lv_istore (lv' := [(4, .int y38), (0, .long x0), (2, .long x2), (5, .int x5)]) hx hb dX9_differences_38 hl (by decide) rfl (fun ls hl => ?_)
        obtain ⟨y40, ey40⟩ : ∃ y : Int32, y = x5 + (nI 1) := ⟨_, rfl⟩
        have hk := hk y40 ey40
        refine lv_iinc (v := y40) (lv' := [(5, .int y40), (4, .int y38), (0, .long x0), (2, .long x2)]) hx hb dX9_differences_40 hl (k := 3) rfl (by rw [ey40]; rfl) (by decide) rfl (fun ls hl => ?_)
        refine lv_goto (tgt := 6) hx hb dX9_differences_43 (by decide) ?_
        exact ih y38 y40 h23 _ _ _ (lv_sub hl [2, 3, 1, 0] rfl) Z hk
set_option maxRecDepth 100000 in
set_option maxHeartbeats 4000000 in
theorem m_X9_differences (l : Launch) (g : Gt) (h : Hp) (x0 : Int64) (x2 : Int64) (Post : Int32 → Hp → Prop) (hk : wp_X9_differences x0 x2 Post h) : Met l yX9_differences wzX9_differences rmX9_differences (Pg g h [.long x0, .long x2]) (Qi g h Post) 0 0 (dm h) := by
  refine Met_of (cc := cX9_differences) (maxL := 6) (ret := (some .int)) (by decide) (Nat.le_of_ble_eq_true rfl) (fun p e s m below meth c ls C hr hnm hl Z => ?_)
  have hx := C.1.1
  have hb := C.1.2.1
  have hml := C.1.2.2.1
  have hown := C.1.2.2.2.1
  have hts := C.1.2.2.2.2
  have hl : lv_has ls 6 [(0, .long x0), (2, .long x2)] := hl
  unfold wp_X9_differences at hk
  generalize s.heap = H at Z ⊢
  generalize ([] : List Loc) = locs at Z ⊢
  refine lv_iconst (v := (nI 0)) hx hb dX9_differences_0 (by decide) ?_
  refine lv_istore (lv' := [(4, .int (nI 0)), (0, .long x0), (2, .long x2)]) hx hb dX9_differences_1 hl (by decide) rfl (fun ls hl => ?_)
  refine lv_iconst (v := (nI 0)) hx hb dX9_differences_3 (by decide) ?_
  refine lv_istore (lv' := [(5, .int (nI 0)), (4, .int (nI 0)), (0, .long x0), (2, .long x2)]) hx hb dX9_differences_4 hl (by decide) rfl (fun ls hl => ?_)
  obtain ⟨n1, hk⟩ := hk
  exact w_X9_differences_6 C hr x0 x2 n1 (nI 0) (nI 0) h _ _ _ (lv_sub hl [2, 3, 1, 0] rfl) Z hk
abbrev rmX9_v : Room := ({ frames := 0, cells := 0, slots := 0, locals := 0 } : Room)
abbrev wzX9_v : List Cond := WS yX9_v cX9_v 2 (some .int)
set_option maxRecDepth 100000 in
set_option maxHeartbeats 4000000 in
theorem m_X9_v (l : Launch) (g : Gt) (h : Hp) (x0 : Int32) (x1 : Int32) (Post : Int32 → Hp → Prop) (hk : wp_X9_v x0 x1 Post h) : Met l yX9_v wzX9_v rmX9_v (Pg g h [.int x0, .int x1]) (Qi g h Post) 0 0 (dm h) := by
  refine Met_of (cc := cX9_v) (maxL := 2) (ret := (some .int)) (by decide) (Nat.le_of_ble_eq_true rfl) (fun p e s m below meth c ls C hr hnm hl Z => ?_)
  have hx := C.1.1
  have hb := C.1.2.1
  have hml := C.1.2.2.1
  have hown := C.1.2.2.2.1
  have hts := C.1.2.2.2.2
  have hl : lv_has ls 2 [(0, .int x0), (1, .int x1)] := hl
  unfold wp_X9_v at hk
  generalize s.heap = H at Z ⊢
  generalize ([] : List Loc) = locs at Z ⊢
  refine lv_sipush (v := (nI 209)) hx hb dX9_v_0 (by decide) ?_
  refine lv_bipush (v := (nI 41)) hx hb dX9_v_3 (by decide) ?_
  refine lv_iload_n hx hb dX9_v_5 rfl (lv_at hl 0 rfl) ?_
  refine lv_imul hx hb dX9_v_6 ?_
  refine lv_iadd hx hb dX9_v_7 ?_
  refine lv_iload_n hx hb dX9_v_8 rfl (lv_at hl 1 rfl) ?_
  refine lv_iadd hx hb dX9_v_9 ?_
  exact r_iret C Z hr hk dX9_v_10
abbrev rmX9_isVersion : Room := ({ frames := 1, cells := 0, slots := 0, locals := 25 } : Room)
abbrev wzX9_isVersion : List Cond := WS yX9_isVersion cX9_isVersion 2 (some .boolean)
set_option maxRecDepth 100000 in
set_option maxHeartbeats 4000000 in
theorem m_X9_isVersion (l : Launch) (g : Gt) (h : Hp) (x0 : Nat) (x1 : Int32) (Post : Int32 → Hp → Prop) (hk : wp_X9_isVersion x0 x1 Post h) : Met l yX9_isVersion wzX9_isVersion rmX9_isVersion (Pg g h [.ref x0, .int x1]) (Qi g h Post) 0 0 (dm h) := by
  refine Met_of (cc := cX9_isVersion) (maxL := 2) (ret := (some .boolean)) (by decide) (Nat.le_of_ble_eq_true rfl) (fun p e s m below meth c ls C hr hnm hl Z => ?_)
  have hx := C.1.1
  have hb := C.1.2.1
  have hml := C.1.2.2.1
  have hown := C.1.2.2.2.1
  have hts := C.1.2.2.2.2
  have hl : lv_has ls 2 [(0, .ref x0), (1, .int x1)] := hl
  unfold wp_X9_isVersion at hk
  generalize s.heap = H at Z ⊢
  generalize ([] : List Loc) = locs at Z ⊢
  refine lv_iload_n hx hb dX9_isVersion_0 rfl (lv_at hl 1 rfl) ?_
  refine lv_i2l (v := (Int32.toInt64 x1)) hx hb dX9_isVersion_1 rfl ?_
  refine lv_lconst (v := lN 0) hx hb dX9_isVersion_2 (by decide) ?_
  refine lv_aload_n hx hb dX9_isVersion_3 rfl (lv_at hl 0 rfl) ?_
  obtain ⟨v4, hv, hk⟩ := hk
  refine r_get (ci := 9) (k := 0) (T := TX9) (N := 17) C Z hv ku_9 rfl (by decide) tw_857 dX9_isVersion_4 ?_
  refine lv_iconst (v := (nI 1)) hx hb dX9_isVersion_7 (by decide) ?_
  obtain ⟨v8, hv, hk⟩ := hk
  refine r_lald C Z hv dX9_isVersion_8 ?_
  refine lv_lconst (v := lN 1) hx hb dX9_isVersion_9 (by decide) ?_
  refine lv_lsub hx hb dX9_isVersion_10 ?_
  refine r_calli Z (r_runS (As := [.long (Int32.toInt64 x1), .long (lN 0), .long (v8 - (lN 1))]) (rest := []) C Z (m_X9_in l g h (Int32.toInt64 x1) (lN 0) (v8 - (lN 1)) _ hk) (va_cwS 3 C.1.2.2.2.2 (gS tw_922 tw_923 tw_66 tw_924) rfl rfl rfl (by decide +kernel) ⟨Nat.le_of_ble_eq_true rfl, Nat.le_of_ble_eq_true rfl⟩) rfl hl.1 rfl (Nat.le_of_ble_eq_true rfl) dX9_isVersion_11 ⟨Nat.zero_le _, Nat.zero_le _⟩) (fun r11 h11 H locs hk Z => ?_)
  exact r_zret C Z hr hk.1 hk.2 dX9_isVersion_14
abbrev rmX9_changes : Room := ({ frames := 10, cells := 0, slots := 0, locals := 247 } : Room)
abbrev wzX9_changes : List Cond := WS yX9_changes cX9_changes 3 (some .int)
set_option maxRecDepth 100000 in
set_option maxHeartbeats 4000000 in
theorem m_X9_changes (l : Launch) (g : Gt) (h : Hp) (x0 : Nat) (x1 : Int32) (Post : Int32 → Hp → Prop) (hk : wp_X9_changes x0 x1 Post h) : Met l yX9_changes wzX9_changes rmX9_changes (Pg g h [.ref x0, .int x1]) (Qi g h Post) 0 0 (dm h) := by
  refine Met_of (cc := cX9_changes) (maxL := 3) (ret := (some .int)) (by decide) (Nat.le_of_ble_eq_true rfl) (fun p e s m below meth c ls C hr hnm hl Z => ?_)
  have hx := C.1.1
  have hb := C.1.2.1
  have hml := C.1.2.2.1
  have hown := C.1.2.2.2.1
  have hts := C.1.2.2.2.2
  have hl : lv_has ls 3 [(0, .ref x0), (1, .int x1)] := hl
  unfold wp_X9_changes at hk
  generalize s.heap = H at Z ⊢
  generalize ([] : List Loc) = locs at Z ⊢
  refine lv_aload_n hx hb dX9_changes_0 rfl (lv_at hl 0 rfl) ?_
  obtain ⟨v1, hv, hk⟩ := hk
  refine r_get (ci := 9) (k := 0) (T := TX9) (N := 17) C Z hv ku_9 rfl (by decide) tw_857 dX9_changes_1 ?_
  refine lv_iconst (v := (nI 1)) hx hb dX9_changes_4 (by decide) ?_
  obtain ⟨v5, hv, hk⟩ := hk
  refine r_lald C Z hv dX9_changes_5 ?_
  refine lv_l2i (v := (Int64.toInt32 v5)) hx hb dX9_changes_6 rfl ?_
  refine lv_iconst (v := (nI 1)) hx hb dX9_changes_7 (by decide) ?_
  refine lv_isub hx hb dX9_changes_8 ?_
  refine lv_topi (fun y9 ey9 => ?_)
  have hk := hk y9 ey9
  refine lv_istore_n (lv' := [(2, .int y9), (0, .ref x0), (1, .int x1)]) hx hb dX9_changes_9 rfl hl (by decide) rfl (fun ls hl => ?_)
  refine lv_iload_n hx hb dX9_changes_10 rfl (lv_at hl 0 rfl) ?_
  refine lv_if_lt (tgt := 30) hx hb dX9_changes_11 (by decide) (fun q => ?_) (fun q => ?_)
  · have hk := hk.1 q
    refine lv_iconst (v := (nI 0)) hx hb dX9_changes_30 (by decide) ?_
    exact r_iret C Z hr hk dX9_changes_31
  · have hk := hk.2 q
    refine lv_iload_n hx hb dX9_changes_14 rfl (lv_at hl 2 rfl) ?_
    refine lv_i2l (v := (Int32.toInt64 x1)) hx hb dX9_changes_15 rfl ?_
    refine lv_aload_n hx hb dX9_changes_16 rfl (lv_at hl 1 rfl) ?_
    obtain ⟨v17, hv, hk⟩ := hk
    refine r_get (ci := 9) (k := 0) (T := TX9) (N := 17) C Z hv ku_9 rfl (by decide) tw_857 dX9_changes_17 ?_
    refine lv_iload_n hx hb dX9_changes_20 rfl (lv_at hl 0 rfl) ?_
    refine lv_iconst (v := (nI 0)) hx hb dX9_changes_21 (by decide) ?_
    refine r_calli Z (r_runS (As := [.int y9, .int (nI 0)]) (rest := [.ref v17, .long (Int32.toInt64 x1)]) C Z (m_X9_v l g h y9 (nI 0) _ hk) (va_cwS 2 C.1.2.2.2.2 (gS tw_976 tw_977 tw_66 tw_978) rfl rfl rfl (by decide +kernel) ⟨Nat.le_of_ble_eq_true rfl, Nat.le_of_ble_eq_true rfl⟩) rfl hl.1 rfl (Nat.le_of_ble_eq_true rfl) dX9_changes_22 ⟨Nat.zero_le _, Nat.zero_le _⟩) (fun r22 h22 H locs hk Z => ?_)
    obtain ⟨v25, hv, hk⟩ := hk
    refine r_lald C Z hv dX9_changes_25 ?_
    refine W.lcmp hx hb dX9_changes_26 ?_
    refine lv_if_lt (tgt := 32) hx hb dX9_changes_27 (by decide) (fun q => ?_) (fun q => ?_)
    · have hk := hk.1 ((lc_lt (Int32.toInt64 x1) v25).mp q)
      refine lv_aload_n hx hb dX9_changes_32 rfl (lv_at hl 1 rfl) ?_
      refine lv_iload_n hx hb dX9_changes_33 rfl (lv_at hl 2 rfl) ?_
      refine lv_aload_n hx hb dX9_changes_34 rfl (lv_at hl 1 rfl) ?_
      obtain ⟨ho, hk⟩ := hk
      refine r_calli Z (r_runV (As := []) (rest := [.int x1, .ref x0]) C Z (m_X9_length l g h22 x0 _ hk) ho rfl (cwV 0 C.1.2.2.2.2 (gV tw_979 tw_981 tw_22 tw_66 tw_982) rfl rfl rfl (by decide +kernel) ⟨Nat.le_of_ble_eq_true rfl, Nat.le_of_ble_eq_true rfl⟩) rfl hl.1 rfl (Nat.le_of_ble_eq_true rfl) dX9_changes_35 ⟨Nat.zero_le _, Nat.zero_le _⟩) (fun r35 h35 H locs hk Z => ?_)
      obtain ⟨ho, hk⟩ := hk
      refine r_calll Z (r_runV (As := [.int x1, .int r35]) (rest := []) C Z (m_X9_outcomes l g h35 x0 x1 r35 _ hk) ho rfl (cwV 2 C.1.2.2.2.2 (gV tw_983 tw_985 tw_23 tw_66 tw_986) rfl rfl rfl (by decide +kernel) ⟨Nat.le_of_ble_eq_true rfl, Nat.le_of_ble_eq_true rfl⟩) rfl hl.1 rfl (Nat.le_of_ble_eq_true rfl) dX9_changes_38 ⟨Nat.zero_le _, Nat.zero_le _⟩) (fun r38 h38 H locs hk Z => ?_)
      refine lv_aload_n hx hb dX9_changes_41 rfl (lv_at hl 1 rfl) ?_
      obtain ⟨v42, hv, hk⟩ := hk
      refine r_get (ci := 9) (k := 0) (T := TX9) (N := 17) C Z hv ku_9 rfl (by decide) tw_857 dX9_changes_42 ?_
      refine lv_iload_n hx hb dX9_changes_45 rfl (lv_at hl 0 rfl) ?_
      refine lv_iconst (v := (nI 1)) hx hb dX9_changes_46 (by decide) ?_
      refine lv_iload_n hx hb dX9_changes_47 rfl (lv_at hl 2 rfl) ?_
      refine lv_iadd hx hb dX9_changes_48 ?_
      refine r_calli Z (r_runS (As := [.int y9, .int ((nI 1) + x1)]) (rest := [.ref v42, .long r38]) C Z (m_X9_v l g h38 y9 ((nI 1) + x1) _ hk) (va_cwS 2 C.1.2.2.2.2 (gS tw_976 tw_977 tw_66 tw_978) rfl rfl rfl (by decide +kernel) ⟨Nat.le_of_ble_eq_true rfl, Nat.le_of_ble_eq_true rfl⟩) rfl hl.1 rfl (Nat.le_of_ble_eq_true rfl) dX9_changes_49 ⟨Nat.zero_le _, Nat.zero_le _⟩) (fun r49 h49 H locs hk Z => ?_)
      obtain ⟨v52, hv, hk⟩ := hk
      refine r_lald C Z hv dX9_changes_52 ?_
      refine r_calli Z (r_runS (As := [.long r38, .long v52]) (rest := []) C Z (m_X9_differences l g h49 r38 v52 _ hk) (va_cwS 2 C.1.2.2.2.2 (gS tw_1040 tw_1041 tw_66 tw_1042) rfl rfl rfl (by decide +kernel) ⟨Nat.le_of_ble_eq_true rfl, Nat.le_of_ble_eq_true rfl⟩) rfl hl.1 rfl (Nat.le_of_ble_eq_true rfl) dX9_changes_53 ⟨Nat.zero_le _, Nat.zero_le _⟩) (fun r53 h53 H locs hk Z => ?_)
      exact r_iret C Z hr hk dX9_changes_56
    · have hk := hk.2 (mt (lc_lt (Int32.toInt64 x1) v25).mpr q)
      refine lv_iconst (v := (nI 0)) hx hb dX9_changes_30 (by decide) ?_
      exact r_iret C Z hr hk dX9_changes_31
abbrev rmX9_doubtful : Room := ({ frames := 9, cells := 0, slots := 0, locals := 222 } : Room)
abbrev wzX9_doubtful : List Cond := WS yX9_doubtful cX9_doubtful 4 (some .int)
set_option maxRecDepth 100000 in
set_option maxHeartbeats 4000000 in
theorem w_X9_doubtful_4 {p : Program} {l : Launch} {e : Env} {s : State} {m : MethodId} {args : Array Value} {below : List Frame} {meth : Method} {c : Code} {g : Gt} {h0 : Hp} (C : Cx g (dm h0) RX9 cX9_doubtful 4 p s m args meth c) (hr : meth.sig.returnType = (some .int)) {Post : Int32 → Hp → Prop} (x0 : Nat) (x1 : Int32)   : ∀ (n : Nat) (x2 : Int32) (x3 : Int32) (h : Hp) (H : Heap) (locs : List Loc) (ls : Array Slot), lv_has ls 4 [(0, .ref x0), (1, .int x1), (2, .int x2), (3, .int x3)] → St g (dm h0) s h H locs → wp_X9_doubtful_4 Post x0 x1 n x2 x3 h → W p l e rmX9_doubtful s m args below meth c H locs 0 0 (MQ below (Qi g h0 Post) args s 0 0 (dm h0)) (F0 m 4 ls []) := by
  have hx := C.1.1
  have hb := C.1.2.1
  have hml := C.1.2.2.1
  have hown := C.1.2.2.2.1
  have hts := C.1.2.2.2.2
  intro n
  induction n with
  | zero => intro x2 x3 h H locs ls hl Z hk; exact (show False from hk).elim
  | succ n ih =>
    intro x2 x3 h H locs ls hl Z hk
    unfold wp_X9_doubtful_4 at hk
    refine lv_iload_n hx hb dX9_doubtful_4 rfl (lv_at hl 3 rfl) ?_
    refine lv_iconst (v := (nI 4)) hx hb dX9_doubtful_5 (by decide) ?_
    refine lv_icmp_ge (tgt := 39) hx hb dX9_doubtful_6 (by decide) (fun q => ?_) (fun q => ?_)
    · have hk := hk.1 q
      refine lv_iload_n hx hb dX9_doubtful_39 rfl (lv_at hl 2 rfl) ?_
      exact r_iret C Z hr hk dX9_doubtful_40
    · have hk := hk.2 q
      refine lv_iload_n hx hb dX9_doubtful_9 rfl (lv_at hl 2 rfl) ?_
      refine lv_aload_n hx hb dX9_doubtful_10 rfl (lv_at hl 0 rfl) ?_
      refine lv_iload_n hx hb dX9_doubtful_11 rfl (lv_at hl 1 rfl) ?_
      refine lv_iload_n hx hb dX9_doubtful_12 rfl (lv_at hl 3 rfl) ?_
      refine lv_aload_n hx hb dX9_doubtful_13 rfl (lv_at hl 0 rfl) ?_
      obtain ⟨ho, hk⟩ := hk
      refine r_calli Z (r_runV (As := []) (rest := [.int x3, .int x1, .ref x0, .int x2]) C Z (m_X9_length l g h x0 _ hk) ho rfl (cwV 0 C.1.2.2.2.2 (gV tw_979 tw_981 tw_22 tw_66 tw_982) rfl rfl rfl (by decide +kernel) ⟨Nat.le_of_ble_eq_true rfl, Nat.le_of_ble_eq_true rfl⟩) rfl hl.1 rfl (Nat.le_of_ble_eq_true rfl) dX9_doubtful_14 ⟨Nat.zero_le _, Nat.zero_le _⟩) (fun r14 h14 H locs hk Z => ?_)
      obtain ⟨ho, hk⟩ := hk
      refine r_calli Z (r_runV (As := [.int x1, .int x3, .int r14]) (rest := [.int x2]) C Z (m_X9_outcomeBy l g h14 x0 x1 x3 r14 _ hk) ho rfl (cwV 3 C.1.2.2.2.2 (gV tw_988 tw_990 tw_24 tw_66 tw_991) rfl rfl rfl (by decide +kernel) ⟨Nat.le_of_ble_eq_true rfl, Nat.le_of_ble_eq_true rfl⟩) rfl hl.1 rfl (Nat.le_of_ble_eq_true rfl) dX9_doubtful_17 ⟨Nat.zero_le _, Nat.zero_le _⟩) (fun r17 h17 H locs hk Z => ?_)
      refine lv_iconst (v := (nI 5)) hx hb dX9_doubtful_20 (by decide) ?_
      refine lv_icmp_ne (tgt := 30) hx hb dX9_doubtful_21 (by decide) (fun q => ?_) (fun q => ?_)
      · have hk := hk.1 q
        refine lv_iconst (v := (nI 0)) hx hb dX9_doubtful_30 (by decide) ?_
        refine lv_ior hx hb dX9_doubtful_31 ?_
        refine lv_topi (fun y32 ey32 => ?_)
        have hk := hk y32 ey32
        refine lv_istore_n (lv' := [(2, .int y32), (0, .ref x0), (1, .int x1), (3, .int x3)]) hx hb dX9_doubtful_32 rfl hl (by decide) rfl (fun ls hl => ?_)
        obtain ⟨y33, ey33⟩ : ∃ y : Int32, y = x3 + (nI 1) := ⟨_, rfl⟩
        have hk := hk y33 ey33
        refine lv_iinc (v := y33) (lv' := [(3, .int y33), (2, .int y32), (0, .ref x0), (1, .int x1)]) hx hb dX9_doubtful_33 hl (k := 3) rfl (by rw [ey33]; rfl) (by decide) rfl (fun ls hl => ?_)
        refine lv_goto (tgt := 4) hx hb dX9_doubtful_36 (by decide) ?_
        exact ih y32 y33 h17 _ _ _ (lv_sub hl [2, 3, 1, 0] rfl) Z hk
      · have hk := hk.2 q
        refine lv_iconst (v := (nI 1)) hx hb dX9_doubtful_24 (by decide) ?_
        refine lv_iload_n hx hb dX9_doubtful_25 rfl (lv_at hl 3 rfl) ?_
        refine lv_ishl hx hb dX9_doubtful_26 ?_
        refine lv_goto (tgt := 31) hx hb dX9_doubtful_27 (by decide) ?_
        refine lv_ior hx hb dX9_doubtful_31 ?_
        refine lv_topi (fun y32 ey32 => ?_)
        have hk := hk y32 ey32
        refine lv_istore_n (lv' := [(2, .int y32), (0, .ref x0), (1, .int x1), (3, .int x3)]) hx hb dX9_doubtful_32 rfl hl (by decide) rfl (fun ls hl => ?_)
        obtain ⟨y33, ey33⟩ : ∃ y : Int32, y = x3 + (nI 1) := ⟨_, rfl⟩
        have hk := hk y33 ey33
        refine lv_iinc (v := y33) (lv' := [(3, .int y33), (2, .int y32), (0, .ref x0), (1, .int x1)]) hx hb dX9_doubtful_33 hl (k := 3) rfl (by rw [ey33]; rfl) (by decide) rfl (fun ls hl => ?_)
        refine lv_goto (tgt := 4) hx hb dX9_doubtful_36 (by decide) ?_
        exact ih y32 y33 h17 _ _ _ (lv_sub hl [2, 3, 1, 0] rfl) Z hk
set_option maxRecDepth 100000 in
set_option maxHeartbeats 4000000 in
theorem m_X9_doubtful (l : Launch) (g : Gt) (h : Hp) (x0 : Nat) (x1 : Int32) (Post : Int32 → Hp → Prop) (hk : wp_X9_doubtful x0 x1 Post h) : Met l yX9_doubtful wzX9_doubtful rmX9_doubtful (Pg g h [.ref x0, .int x1]) (Qi g h Post) 0 0 (dm h) := by
  refine Met_of (cc := cX9_doubtful) (maxL := 4) (ret := (some .int)) (by decide) (Nat.le_of_ble_eq_true rfl) (fun p e s m below meth c ls C hr hnm hl Z => ?_)
  have hx := C.1.1
  have hb := C.1.2.1
  have hml := C.1.2.2.1
  have hown := C.1.2.2.2.1
  have hts := C.1.2.2.2.2
  have hl : lv_has ls 4 [(0, .ref x0), (1, .int x1)] := hl
  unfold wp_X9_doubtful at hk
  generalize s.heap = H at Z ⊢
  generalize ([] : List Loc) = locs at Z ⊢
  refine lv_iconst (v := (nI 0)) hx hb dX9_doubtful_0 (by decide) ?_
  refine lv_istore_n (lv' := [(2, .int (nI 0)), (0, .ref x0), (1, .int x1)]) hx hb dX9_doubtful_1 rfl hl (by decide) rfl (fun ls hl => ?_)
  refine lv_iconst (v := (nI 0)) hx hb dX9_doubtful_2 (by decide) ?_
  refine lv_istore_n (lv' := [(3, .int (nI 0)), (2, .int (nI 0)), (0, .ref x0), (1, .int x1)]) hx hb dX9_doubtful_3 rfl hl (by decide) rfl (fun ls hl => ?_)
  obtain ⟨n1, hk⟩ := hk
  exact w_X9_doubtful_4 C hr x0 x1 n1 (nI 0) (nI 0) h _ _ _ (lv_sub hl [2, 3, 1, 0] rfl) Z hk
abbrev rmX9_isInPool : Room := ({ frames := 11, cells := 0, slots := 0, locals := 269 } : Room)
abbrev wzX9_isInPool : List Cond := WS yX9_isInPool cX9_isInPool 2 (some .boolean)
set_option maxRecDepth 100000 in
set_option maxHeartbeats 4000000 in
theorem m_X9_isInPool (l : Launch) (g : Gt) (h : Hp) (x0 : Nat) (x1 : Int32) (Post : Int32 → Hp → Prop) (hk : wp_X9_isInPool x0 x1 Post h) : Met l yX9_isInPool wzX9_isInPool rmX9_isInPool (Pg g h [.ref x0, .int x1]) (Qi g h Post) 0 0 (dm h) := by
  refine Met_of (cc := cX9_isInPool) (maxL := 2) (ret := (some .boolean)) (by decide) (Nat.le_of_ble_eq_true rfl) (fun p e s m below meth c ls C hr hnm hl Z => ?_)
  have hx := C.1.1
  have hb := C.1.2.1
  have hml := C.1.2.2.1
  have hown := C.1.2.2.2.1
  have hts := C.1.2.2.2.2
  have hl : lv_has ls 2 [(0, .ref x0), (1, .int x1)] := hl
  unfold wp_X9_isInPool at hk
  generalize s.heap = H at Z ⊢
  generalize ([] : List Loc) = locs at Z ⊢
  refine lv_aload_n hx hb dX9_isInPool_0 rfl (lv_at hl 0 rfl) ?_
  obtain ⟨v1, hv, hk⟩ := hk
  refine r_get (ci := 9) (k := 0) (T := TX9) (N := 17) C Z hv ku_9 rfl (by decide) tw_857 dX9_isInPool_1 ?_
  refine lv_iload_n hx hb dX9_isInPool_4 rfl (lv_at hl 1 rfl) ?_
  refine lv_iconst (v := (nI 3)) hx hb dX9_isInPool_5 (by decide) ?_
  refine r_calli Z (r_runS (As := [.int x1, .int (nI 3)]) (rest := [.ref v1]) C Z (m_X9_c l g h x1 (nI 3) _ hk) (va_cwS 2 C.1.2.2.2.2 (gS tw_930 tw_931 tw_66 tw_932) rfl rfl rfl (by decide +kernel) ⟨Nat.le_of_ble_eq_true rfl, Nat.le_of_ble_eq_true rfl⟩) rfl hl.1 rfl (Nat.le_of_ble_eq_true rfl) dX9_isInPool_6 ⟨Nat.zero_le _, Nat.zero_le _⟩) (fun r6 h6 H locs hk Z => ?_)
  obtain ⟨v9, hv, hk⟩ := hk
  refine r_lald C Z hv dX9_isInPool_9 ?_
  refine lv_lconst (v := lN 0) hx hb dX9_isInPool_10 (by decide) ?_
  refine W.lcmp hx hb dX9_isInPool_11 ?_
  refine lv_if_ne (tgt := 35) hx hb dX9_isInPool_12 (by decide) (fun q => ?_) (fun q => ?_)
  · have hk := hk.1 (mt (lc_eq v9 (lN 0)).mpr q)
    refine lv_iconst (v := (nI 0)) hx hb dX9_isInPool_35 (by decide) ?_
    exact r_zret C Z hr (Or.inl rfl) hk dX9_isInPool_36
  · have hk := hk.2 ((lc_eq v9 (lN 0)).mp q)
    refine lv_aload_n hx hb dX9_isInPool_15 rfl (lv_at hl 0 rfl) ?_
    refine lv_iload_n hx hb dX9_isInPool_16 rfl (lv_at hl 1 rfl) ?_
    obtain ⟨ho, hk⟩ := hk
    refine r_calli Z (r_runV (As := [.int x1]) (rest := []) C Z (m_X9_doubtful l g h6 x0 x1 _ hk) ho rfl (cwV 1 C.1.2.2.2.2 (gV tw_1064 tw_1066 tw_39 tw_66 tw_1067) rfl rfl rfl (by decide +kernel) ⟨Nat.le_of_ble_eq_true rfl, Nat.le_of_ble_eq_true rfl⟩) rfl hl.1 rfl (Nat.le_of_ble_eq_true rfl) dX9_isInPool_17 ⟨Nat.zero_le _, Nat.zero_le _⟩) (fun r17 h17 H locs hk Z => ?_)
    refine lv_if_ne (tgt := 31) hx hb dX9_isInPool_20 (by decide) (fun q => ?_) (fun q => ?_)
    · have hk := hk.1 q
      refine lv_iconst (v := (nI 1)) hx hb dX9_isInPool_31 (by decide) ?_
      refine lv_goto (tgt := 36) hx hb dX9_isInPool_32 (by decide) ?_
      exact r_zret C Z hr (Or.inr rfl) hk dX9_isInPool_36
    · have hk := hk.2 q
      refine lv_aload_n hx hb dX9_isInPool_23 rfl (lv_at hl 0 rfl) ?_
      refine lv_iload_n hx hb dX9_isInPool_24 rfl (lv_at hl 1 rfl) ?_
      obtain ⟨ho, hk⟩ := hk
      refine r_calli Z (r_runV (As := [.int x1]) (rest := []) C Z (m_X9_changes l g h17 x0 x1 _ hk) ho rfl (cwV 1 C.1.2.2.2.2 (gV tw_972 tw_974 tw_21 tw_66 tw_975) rfl rfl rfl (by decide +kernel) ⟨Nat.le_of_ble_eq_true rfl, Nat.le_of_ble_eq_true rfl⟩) rfl hl.1 rfl (Nat.le_of_ble_eq_true rfl) dX9_isInPool_25 ⟨Nat.zero_le _, Nat.zero_le _⟩) (fun r25 h25 H locs hk Z => ?_)
      refine lv_if_eq (tgt := 35) hx hb dX9_isInPool_28 (by decide) (fun q => ?_) (fun q => ?_)
      · have hk := hk.1 q
        refine lv_iconst (v := (nI 0)) hx hb dX9_isInPool_35 (by decide) ?_
        exact r_zret C Z hr (Or.inl rfl) hk dX9_isInPool_36
      · have hk := hk.2 q
        refine lv_iconst (v := (nI 1)) hx hb dX9_isInPool_31 (by decide) ?_
        refine lv_goto (tgt := 36) hx hb dX9_isInPool_32 (by decide) ?_
        exact r_zret C Z hr (Or.inr rfl) hk dX9_isInPool_36
abbrev rmX9_laysPool : Room := ({ frames := 12, cells := 0, slots := 0, locals := 290 } : Room)
abbrev wzX9_laysPool : List Cond := WS yX9_laysPool cX9_laysPool 3 (some .int)
set_option maxRecDepth 100000 in
set_option maxHeartbeats 4000000 in
theorem w_X9_laysPool_4 {p : Program} {l : Launch} {e : Env} {s : State} {m : MethodId} {args : Array Value} {below : List Frame} {meth : Method} {c : Code} {g : Gt} {h0 : Hp} (C : Cx g (dm h0) RX9 cX9_laysPool 3 p s m args meth c) (hr : meth.sig.returnType = (some .int)) {Post : Int32 → Hp → Prop} (x0 : Nat)   : ∀ (n : Nat) (x1 : Int32) (x2 : Int32) (h : Hp) (H : Heap) (locs : List Loc) (ls : Array Slot), lv_has ls 3 [(0, .ref x0), (1, .int x1), (2, .int x2)] → St g (dm h0) s h H locs → wp_X9_laysPool_4 Post x0 n x1 x2 h → W p l e rmX9_laysPool s m args below meth c H locs 0 0 (MQ below (Qi g h0 Post) args s 0 0 (dm h0)) (F0 m 4 ls []) := by
  have hx := C.1.1
  have hb := C.1.2.1
  have hml := C.1.2.2.1
  have hown := C.1.2.2.2.1
  have hts := C.1.2.2.2.2
  intro n
  induction n with
  | zero => intro x1 x2 h H locs ls hl Z hk; exact (show False from hk).elim
  | succ n ih =>
    intro x1 x2 h H locs ls hl Z hk
    unfold wp_X9_laysPool_4 at hk
    refine lv_iload_n hx hb dX9_laysPool_4 rfl (lv_at hl 2 rfl) ?_
    refine lv_i2l (v := (Int32.toInt64 x2)) hx hb dX9_laysPool_5 rfl ?_
    refine lv_aload_n hx hb dX9_laysPool_6 rfl (lv_at hl 0 rfl) ?_
    obtain ⟨v7, hv, hk⟩ := hk
    refine r_get (ci := 9) (k := 0) (T := TX9) (N := 17) C Z hv ku_9 rfl (by decide) tw_857 dX9_laysPool_7 ?_
    refine lv_iconst (v := (nI 0)) hx hb dX9_laysPool_10 (by decide) ?_
    obtain ⟨v11, hv, hk⟩ := hk
    refine r_lald C Z hv dX9_laysPool_11 ?_
    refine W.lcmp hx hb dX9_laysPool_12 ?_
    refine lv_if_ge (tgt := 40) hx hb dX9_laysPool_13 (by decide) (fun q => ?_) (fun q => ?_)
    · have hk := hk.1 ((lc_ge (Int32.toInt64 x2) v11).mp q)
      refine lv_iload_n hx hb dX9_laysPool_40 rfl (lv_at hl 1 rfl) ?_
      exact r_iret C Z hr hk dX9_laysPool_41
    · have hk := hk.2 (mt (lc_ge (Int32.toInt64 x2) v11).mpr q)
      refine lv_aload_n hx hb dX9_laysPool_16 rfl (lv_at hl 0 rfl) ?_
      refine lv_iload_n hx hb dX9_laysPool_17 rfl (lv_at hl 2 rfl) ?_
      obtain ⟨ho, hk⟩ := hk
      refine r_calli Z (r_runV (As := [.int x2]) (rest := []) C Z (m_X9_isInPool l g h x0 x2 _ hk) ho rfl (cwV 1 C.1.2.2.2.2 (gV tw_1060 tw_1062 tw_38 tw_66 tw_1063) rfl rfl rfl (by decide +kernel) ⟨Nat.le_of_ble_eq_true rfl, Nat.le_of_ble_eq_true rfl⟩) rfl hl.1 rfl (Nat.le_of_ble_eq_true rfl) dX9_laysPool_18 ⟨Nat.zero_le _, Nat.zero_le _⟩) (fun r18 h18 H locs hk Z => ?_)
      refine lv_if_eq (tgt := 34) hx hb dX9_laysPool_21 (by decide) (fun q => ?_) (fun q => ?_)
      · have hk := hk.1 q
        obtain ⟨y34, ey34⟩ : ∃ y : Int32, y = x2 + (nI 1) := ⟨_, rfl⟩
        have hk := hk y34 ey34
        refine lv_iinc (v := y34) (lv' := [(2, .int y34), (0, .ref x0), (1, .int x1)]) hx hb dX9_laysPool_34 hl (k := 2) rfl (by rw [ey34]; rfl) (by decide) rfl (fun ls hl => ?_)
        refine lv_goto (tgt := 4) hx hb dX9_laysPool_37 (by decide) ?_
        exact ih x1 y34 h18 _ _ _ (lv_sub hl [1, 2, 0] rfl) Z hk
      · have hk := hk.2 q
        refine lv_aload_n hx hb dX9_laysPool_24 rfl (lv_at hl 0 rfl) ?_
        obtain ⟨v25, hv, hk⟩ := hk
        refine r_get (ci := 9) (k := 4) (T := TX9) (N := 17) C Z hv ku_9 rfl (by decide) tw_861 dX9_laysPool_25 ?_
        refine lv_iload_n hx hb dX9_laysPool_28 rfl (lv_at hl 1 rfl) ?_
        refine lv_iload_n hx hb dX9_laysPool_29 rfl (lv_at hl 2 rfl) ?_
        obtain ⟨h30, hv, hk⟩ := hk
        refine r_iast C Z hv dX9_laysPool_30 (fun H locs Z => ?_)
        obtain ⟨y31, ey31⟩ : ∃ y : Int32, y = x1 + (nI 1) := ⟨_, rfl⟩
        have hk := hk y31 ey31
        refine lv_iinc (v := y31) (lv' := [(1, .int y31), (0, .ref x0), (2, .int x2)]) hx hb dX9_laysPool_31 hl (k := 1) rfl (by rw [ey31]; rfl) (by decide) rfl (fun ls hl => ?_)
        obtain ⟨y34, ey34⟩ : ∃ y : Int32, y = x2 + (nI 1) := ⟨_, rfl⟩
        have hk := hk y34 ey34
        refine lv_iinc (v := y34) (lv' := [(2, .int y34), (1, .int y31), (0, .ref x0)]) hx hb dX9_laysPool_34 hl (k := 2) rfl (by rw [ey34]; rfl) (by decide) rfl (fun ls hl => ?_)
        refine lv_goto (tgt := 4) hx hb dX9_laysPool_37 (by decide) ?_
        exact ih y31 y34 h30 _ _ _ (lv_sub hl [2, 1, 0] rfl) Z hk
set_option maxRecDepth 100000 in
set_option maxHeartbeats 4000000 in
theorem m_X9_laysPool (l : Launch) (g : Gt) (h : Hp) (x0 : Nat) (Post : Int32 → Hp → Prop) (hk : wp_X9_laysPool x0 Post h) : Met l yX9_laysPool wzX9_laysPool rmX9_laysPool (Pg g h [.ref x0]) (Qi g h Post) 0 0 (dm h) := by
  refine Met_of (cc := cX9_laysPool) (maxL := 3) (ret := (some .int)) (by decide) (Nat.le_of_ble_eq_true rfl) (fun p e s m below meth c ls C hr hnm hl Z => ?_)
  have hx := C.1.1
  have hb := C.1.2.1
  have hml := C.1.2.2.1
  have hown := C.1.2.2.2.1
  have hts := C.1.2.2.2.2
  have hl : lv_has ls 3 [(0, .ref x0)] := hl
  unfold wp_X9_laysPool at hk
  generalize s.heap = H at Z ⊢
  generalize ([] : List Loc) = locs at Z ⊢
  refine lv_iconst (v := (nI 0)) hx hb dX9_laysPool_0 (by decide) ?_
  refine lv_istore_n (lv' := [(1, .int (nI 0)), (0, .ref x0)]) hx hb dX9_laysPool_1 rfl hl (by decide) rfl (fun ls hl => ?_)
  refine lv_iconst (v := (nI 0)) hx hb dX9_laysPool_2 (by decide) ?_
  refine lv_istore_n (lv' := [(2, .int (nI 0)), (1, .int (nI 0)), (0, .ref x0)]) hx hb dX9_laysPool_3 rfl hl (by decide) rfl (fun ls hl => ?_)
  obtain ⟨n1, hk⟩ := hk
  exact w_X9_laysPool_4 C hr x0 n1 (nI 0) (nI 0) h _ _ _ (lv_sub hl [2, 1, 0] rfl) Z hk
abbrev rmX9_changing : Room := ({ frames := 11, cells := 0, slots := 0, locals := 269 } : Room)
abbrev wzX9_changing : List Cond := WS yX9_changing cX9_changing 4 (some .int)
set_option maxRecDepth 100000 in
set_option maxHeartbeats 4000000 in
theorem w_X9_changing_4 {p : Program} {l : Launch} {e : Env} {s : State} {m : MethodId} {args : Array Value} {below : List Frame} {meth : Method} {c : Code} {g : Gt} {h0 : Hp} (C : Cx g (dm h0) RX9 cX9_changing 4 p s m args meth c) (hr : meth.sig.returnType = (some .int)) {Post : Int32 → Hp → Prop} (x0 : Nat) (x1 : Int32)   : ∀ (n : Nat) (x2 : Int32) (x3 : Int32) (h : Hp) (H : Heap) (locs : List Loc) (ls : Array Slot), lv_has ls 4 [(0, .ref x0), (1, .int x1), (2, .int x2), (3, .int x3)] → St g (dm h0) s h H locs → wp_X9_changing_4 Post x0 x1 n x2 x3 h → W p l e rmX9_changing s m args below meth c H locs 0 0 (MQ below (Qi g h0 Post) args s 0 0 (dm h0)) (F0 m 4 ls []) := by
  have hx := C.1.1
  have hb := C.1.2.1
  have hml := C.1.2.2.1
  have hown := C.1.2.2.2.1
  have hts := C.1.2.2.2.2
  intro n
  induction n with
  | zero => intro x2 x3 h H locs ls hl Z hk; exact (show False from hk).elim
  | succ n ih =>
    intro x2 x3 h H locs ls hl Z hk
    unfold wp_X9_changing_4 at hk
    refine lv_iload_n hx hb dX9_changing_4 rfl (lv_at hl 3 rfl) ?_
    refine lv_i2l (v := (Int32.toInt64 x3)) hx hb dX9_changing_5 rfl ?_
    refine lv_aload_n hx hb dX9_changing_6 rfl (lv_at hl 0 rfl) ?_
    obtain ⟨v7, hv, hk⟩ := hk
    refine r_get (ci := 9) (k := 0) (T := TX9) (N := 17) C Z hv ku_9 rfl (by decide) tw_857 dX9_changing_7 ?_
    refine lv_iconst (v := (nI 0)) hx hb dX9_changing_10 (by decide) ?_
    obtain ⟨v11, hv, hk⟩ := hk
    refine r_lald C Z hv dX9_changing_11 ?_
    refine W.lcmp hx hb dX9_changing_12 ?_
    refine lv_if_ge (tgt := 50) hx hb dX9_changing_13 (by decide) (fun q => ?_) (fun q => ?_)
    · have hk := hk.1 ((lc_ge (Int32.toInt64 x3) v11).mp q)
      refine lv_iload_n hx hb dX9_changing_50 rfl (lv_at hl 2 rfl) ?_
      exact r_iret C Z hr hk dX9_changing_51
    · have hk := hk.2 (mt (lc_ge (Int32.toInt64 x3) v11).mpr q)
      refine lv_iload_n hx hb dX9_changing_16 rfl (lv_at hl 2 rfl) ?_
      refine lv_aload_n hx hb dX9_changing_17 rfl (lv_at hl 0 rfl) ?_
      refine lv_iload_n hx hb dX9_changing_18 rfl (lv_at hl 3 rfl) ?_
      obtain ⟨ho, hk⟩ := hk
      refine r_calli Z (r_runV (As := [.int x3]) (rest := [.int x2]) C Z (m_X9_changes l g h x0 x3 _ hk) ho rfl (cwV 1 C.1.2.2.2.2 (gV tw_972 tw_974 tw_21 tw_66 tw_975) rfl rfl rfl (by decide +kernel) ⟨Nat.le_of_ble_eq_true rfl, Nat.le_of_ble_eq_true rfl⟩) rfl hl.1 rfl (Nat.le_of_ble_eq_true rfl) dX9_changing_19 ⟨Nat.zero_le _, Nat.zero_le _⟩) (fun r19 h19 H locs hk Z => ?_)
      refine lv_if_eq (tgt := 41) hx hb dX9_changing_22 (by decide) (fun q => ?_) (fun q => ?_)
      · have hk := hk.1 q
        refine lv_iconst (v := (nI 0)) hx hb dX9_changing_41 (by decide) ?_
        refine lv_iadd hx hb dX9_changing_42 ?_
        refine lv_topi (fun y43 ey43 => ?_)
        have hk := hk y43 ey43
        refine lv_istore_n (lv' := [(2, .int y43), (0, .ref x0), (1, .int x1), (3, .int x3)]) hx hb dX9_changing_43 rfl hl (by decide) rfl (fun ls hl => ?_)
        obtain ⟨y44, ey44⟩ : ∃ y : Int32, y = x3 + (nI 1) := ⟨_, rfl⟩
        have hk := hk y44 ey44
        refine lv_iinc (v := y44) (lv' := [(3, .int y44), (2, .int y43), (0, .ref x0), (1, .int x1)]) hx hb dX9_changing_44 hl (k := 3) rfl (by rw [ey44]; rfl) (by decide) rfl (fun ls hl => ?_)
        refine lv_goto (tgt := 4) hx hb dX9_changing_47 (by decide) ?_
        exact ih y43 y44 h19 _ _ _ (lv_sub hl [2, 3, 1, 0] rfl) Z hk
      · have hk := hk.2 q
        refine lv_iload_n hx hb dX9_changing_25 rfl (lv_at hl 1 rfl) ?_
        refine lv_if_eq (tgt := 37) hx hb dX9_changing_26 (by decide) (fun q => ?_) (fun q => ?_)
        · have hk := hk.1 q
          refine lv_iconst (v := (nI 1)) hx hb dX9_changing_37 (by decide) ?_
          refine lv_goto (tgt := 42) hx hb dX9_changing_38 (by decide) ?_
          refine lv_iadd hx hb dX9_changing_42 ?_
          refine lv_topi (fun y43 ey43 => ?_)
          have hk := hk y43 ey43
          refine lv_istore_n (lv' := [(2, .int y43), (0, .ref x0), (1, .int x1), (3, .int x3)]) hx hb dX9_changing_43 rfl hl (by decide) rfl (fun ls hl => ?_)
          obtain ⟨y44, ey44⟩ : ∃ y : Int32, y = x3 + (nI 1) := ⟨_, rfl⟩
          have hk := hk y44 ey44
          refine lv_iinc (v := y44) (lv' := [(3, .int y44), (2, .int y43), (0, .ref x0), (1, .int x1)]) hx hb dX9_changing_44 hl (k := 3) rfl (by rw [ey44]; rfl) (by decide) rfl (fun ls hl => ?_)
          refine lv_goto (tgt := 4) hx hb dX9_changing_47 (by decide) ?_
          exact ih y43 y44 h19 _ _ _ (lv_sub hl [2, 3, 1, 0] rfl) Z hk
        · have hk := hk.2 q
          refine lv_aload_n hx hb dX9_changing_29 rfl (lv_at hl 0 rfl) ?_
          refine lv_iload_n hx hb dX9_changing_30 rfl (lv_at hl 3 rfl) ?_
          obtain ⟨ho, hk⟩ := hk
          refine r_calli Z (r_runV (As := [.int x3]) (rest := [.int x2]) C Z (m_X9_isLooked l g h19 x0 x3 _ hk) ho rfl (cwV 1 C.1.2.2.2.2 (gV tw_1000 tw_1002 tw_27 tw_66 tw_1003) rfl rfl rfl (by decide +kernel) ⟨Nat.le_of_ble_eq_true rfl, Nat.le_of_ble_eq_true rfl⟩) rfl hl.1 rfl (Nat.le_of_ble_eq_true rfl) dX9_changing_31 ⟨Nat.zero_le _, Nat.zero_le _⟩) (fun r31 h31 H locs hk Z => ?_)
          refine lv_if_ne (tgt := 41) hx hb dX9_changing_34 (by decide) (fun q => ?_) (fun q => ?_)
          · have hk := hk.1 q
            refine lv_iconst (v := (nI 0)) hx hb dX9_changing_41 (by decide) ?_
            refine lv_iadd hx hb dX9_changing_42 ?_
            refine lv_topi (fun y43 ey43 => ?_)
            have hk := hk y43 ey43
            refine lv_istore_n (lv' := [(2, .int y43), (0, .ref x0), (1, .int x1), (3, .int x3)]) hx hb dX9_changing_43 rfl hl (by decide) rfl (fun ls hl => ?_)
            obtain ⟨y44, ey44⟩ : ∃ y : Int32, y = x3 + (nI 1) := ⟨_, rfl⟩
            have hk := hk y44 ey44
            refine lv_iinc (v := y44) (lv' := [(3, .int y44), (2, .int y43), (0, .ref x0), (1, .int x1)]) hx hb dX9_changing_44 hl (k := 3) rfl (by rw [ey44]; rfl) (by decide) rfl (fun ls hl => ?_)
            refine lv_goto (tgt := 4) hx hb dX9_changing_47 (by decide) ?_
            exact ih y43 y44 h31 _ _ _ (lv_sub hl [2, 3, 1, 0] rfl) Z hk
          · have hk := hk.2 q
            refine lv_iconst (v := (nI 1)) hx hb dX9_changing_37 (by decide) ?_
            refine lv_goto (tgt := 42) hx hb dX9_changing_38 (by decide) ?_
            refine lv_iadd hx hb dX9_changing_42 ?_
            refine lv_topi (fun y43 ey43 => ?_)
            have hk := hk y43 ey43
            refine lv_istore_n (lv' := [(2, .int y43), (0, .ref x0), (1, .int x1), (3, .int x3)]) hx hb dX9_changing_43 rfl hl (by decide) rfl (fun ls hl => ?_)
            obtain ⟨y44, ey44⟩ : ∃ y : Int32, y = x3 + (nI 1) := ⟨_, rfl⟩
            have hk := hk y44 ey44
            refine lv_iinc (v := y44) (lv' := [(3, .int y44), (2, .int y43), (0, .ref x0), (1, .int x1)]) hx hb dX9_changing_44 hl (k := 3) rfl (by rw [ey44]; rfl) (by decide) rfl (fun ls hl => ?_)
            refine lv_goto (tgt := 4) hx hb dX9_changing_47 (by decide) ?_
            exact ih y43 y44 h31 _ _ _ (lv_sub hl [2, 3, 1, 0] rfl) Z hk
set_option maxRecDepth 100000 in
set_option maxHeartbeats 4000000 in
theorem m_X9_changing (l : Launch) (g : Gt) (h : Hp) (x0 : Nat) (x1 : Int32) (Post : Int32 → Hp → Prop) (hk : wp_X9_changing x0 x1 Post h) : Met l yX9_changing wzX9_changing rmX9_changing (Pg g h [.ref x0, .int x1]) (Qi g h Post) 0 0 (dm h) := by
  refine Met_of (cc := cX9_changing) (maxL := 4) (ret := (some .int)) (by decide) (Nat.le_of_ble_eq_true rfl) (fun p e s m below meth c ls C hr hnm hl Z => ?_)
  have hx := C.1.1
  have hb := C.1.2.1
  have hml := C.1.2.2.1
  have hown := C.1.2.2.2.1
  have hts := C.1.2.2.2.2
  have hl : lv_has ls 4 [(0, .ref x0), (1, .int x1)] := hl
  unfold wp_X9_changing at hk
  generalize s.heap = H at Z ⊢
  generalize ([] : List Loc) = locs at Z ⊢
  refine lv_iconst (v := (nI 0)) hx hb dX9_changing_0 (by decide) ?_
  refine lv_istore_n (lv' := [(2, .int (nI 0)), (0, .ref x0), (1, .int x1)]) hx hb dX9_changing_1 rfl hl (by decide) rfl (fun ls hl => ?_)
  refine lv_iconst (v := (nI 0)) hx hb dX9_changing_2 (by decide) ?_
  refine lv_istore_n (lv' := [(3, .int (nI 0)), (2, .int (nI 0)), (0, .ref x0), (1, .int x1)]) hx hb dX9_changing_3 rfl hl (by decide) rfl (fun ls hl => ?_)
  obtain ⟨n1, hk⟩ := hk
  exact w_X9_changing_4 C hr x0 x1 n1 (nI 0) (nI 0) h _ _ _ (lv_sub hl [2, 3, 1, 0] rfl) Z hk
abbrev rmX9_inState : Room := ({ frames := 1, cells := 0, slots := 0, locals := 21 } : Room)
abbrev wzX9_inState : List Cond := WS yX9_inState cX9_inState 4 (some .int)
set_option maxRecDepth 100000 in
set_option maxHeartbeats 4000000 in
theorem w_X9_inState_4 {p : Program} {l : Launch} {e : Env} {s : State} {m : MethodId} {args : Array Value} {below : List Frame} {meth : Method} {c : Code} {g : Gt} {h0 : Hp} (C : Cx g (dm h0) RX9 cX9_inState 4 p s m args meth c) (hr : meth.sig.returnType = (some .int)) {Post : Int32 → Hp → Prop} (x0 : Nat) (x1 : Int32)   : ∀ (n : Nat) (x2 : Int32) (x3 : Int32) (h : Hp) (H : Heap) (locs : List Loc) (ls : Array Slot), lv_has ls 4 [(0, .ref x0), (1, .int x1), (2, .int x2), (3, .int x3)] → St g (dm h0) s h H locs → wp_X9_inState_4 Post x0 x1 n x2 x3 h → W p l e rmX9_inState s m args below meth c H locs 0 0 (MQ below (Qi g h0 Post) args s 0 0 (dm h0)) (F0 m 4 ls []) := by
  have hx := C.1.1
  have hb := C.1.2.1
  have hml := C.1.2.2.1
  have hown := C.1.2.2.2.1
  have hts := C.1.2.2.2.2
  intro n
  induction n with
  | zero => intro x2 x3 h H locs ls hl Z hk; exact (show False from hk).elim
  | succ n ih =>
    intro x2 x3 h H locs ls hl Z hk
    unfold wp_X9_inState_4 at hk
    refine lv_iload_n hx hb dX9_inState_4 rfl (lv_at hl 3 rfl) ?_
    refine lv_i2l (v := (Int32.toInt64 x3)) hx hb dX9_inState_5 rfl ?_
    refine lv_aload_n hx hb dX9_inState_6 rfl (lv_at hl 0 rfl) ?_
    obtain ⟨v7, hv, hk⟩ := hk
    refine r_get (ci := 9) (k := 0) (T := TX9) (N := 17) C Z hv ku_9 rfl (by decide) tw_857 dX9_inState_7 ?_
    refine lv_iconst (v := (nI 0)) hx hb dX9_inState_10 (by decide) ?_
    obtain ⟨v11, hv, hk⟩ := hk
    refine r_lald C Z hv dX9_inState_11 ?_
    refine W.lcmp hx hb dX9_inState_12 ?_
    refine lv_if_ge (tgt := 46) hx hb dX9_inState_13 (by decide) (fun q => ?_) (fun q => ?_)
    · have hk := hk.1 ((lc_ge (Int32.toInt64 x3) v11).mp q)
      refine lv_iload_n hx hb dX9_inState_46 rfl (lv_at hl 2 rfl) ?_
      exact r_iret C Z hr hk dX9_inState_47
    · have hk := hk.2 (mt (lc_ge (Int32.toInt64 x3) v11).mpr q)
      refine lv_iload_n hx hb dX9_inState_16 rfl (lv_at hl 2 rfl) ?_
      refine lv_aload_n hx hb dX9_inState_17 rfl (lv_at hl 0 rfl) ?_
      obtain ⟨v18, hv, hk⟩ := hk
      refine r_get (ci := 9) (k := 0) (T := TX9) (N := 17) C Z hv ku_9 rfl (by decide) tw_857 dX9_inState_18 ?_
      refine lv_iload_n hx hb dX9_inState_21 rfl (lv_at hl 3 rfl) ?_
      refine lv_iconst (v := (nI 3)) hx hb dX9_inState_22 (by decide) ?_
      refine r_calli Z (r_runS (As := [.int x3, .int (nI 3)]) (rest := [.ref v18, .int x2]) C Z (m_X9_c l g h x3 (nI 3) _ hk) (va_cwS 2 C.1.2.2.2.2 (gS tw_930 tw_931 tw_66 tw_932) rfl rfl rfl (by decide +kernel) ⟨Nat.le_of_ble_eq_true rfl, Nat.le_of_ble_eq_true rfl⟩) rfl hl.1 rfl (Nat.le_of_ble_eq_true rfl) dX9_inState_23 ⟨Nat.zero_le _, Nat.zero_le _⟩) (fun r23 h23 H locs hk Z => ?_)
      obtain ⟨v26, hv, hk⟩ := hk
      refine r_lald C Z hv dX9_inState_26 ?_
      refine lv_iload_n hx hb dX9_inState_27 rfl (lv_at hl 1 rfl) ?_
      refine lv_i2l (v := (Int32.toInt64 x1)) hx hb dX9_inState_28 rfl ?_
      refine W.lcmp hx hb dX9_inState_29 ?_
      refine lv_if_ne (tgt := 37) hx hb dX9_inState_30 (by decide) (fun q => ?_) (fun q => ?_)
      · have hk := hk.1 (mt (lc_eq v26 (Int32.toInt64 x1)).mpr q)
        refine lv_iconst (v := (nI 0)) hx hb dX9_inState_37 (by decide) ?_
        refine lv_iadd hx hb dX9_inState_38 ?_
        refine lv_topi (fun y39 ey39 => ?_)
        have hk := hk y39 ey39
        refine lv_istore_n (lv' := [(2, .int y39), (0, .ref x0), (1, .int x1), (3, .int x3)]) hx hb dX9_inState_39 rfl hl (by decide) rfl (fun ls hl => ?_)
        obtain ⟨y40, ey40⟩ : ∃ y : Int32, y = x3 + (nI 1) := ⟨_, rfl⟩
        have hk := hk y40 ey40
        refine lv_iinc (v := y40) (lv' := [(3, .int y40), (2, .int y39), (0, .ref x0), (1, .int x1)]) hx hb dX9_inState_40 hl (k := 3) rfl (by rw [ey40]; rfl) (by decide) rfl (fun ls hl => ?_)
        refine lv_goto (tgt := 4) hx hb dX9_inState_43 (by decide) ?_
        exact ih y39 y40 h23 _ _ _ (lv_sub hl [2, 3, 1, 0] rfl) Z hk
      · have hk := hk.2 ((lc_eq v26 (Int32.toInt64 x1)).mp q)
        refine lv_iconst (v := (nI 1)) hx hb dX9_inState_33 (by decide) ?_
        refine lv_goto (tgt := 38) hx hb dX9_inState_34 (by decide) ?_
        refine lv_iadd hx hb dX9_inState_38 ?_
        refine lv_topi (fun y39 ey39 => ?_)
        have hk := hk y39 ey39
        refine lv_istore_n (lv' := [(2, .int y39), (0, .ref x0), (1, .int x1), (3, .int x3)]) hx hb dX9_inState_39 rfl hl (by decide) rfl (fun ls hl => ?_)
        obtain ⟨y40, ey40⟩ : ∃ y : Int32, y = x3 + (nI 1) := ⟨_, rfl⟩
        have hk := hk y40 ey40
        refine lv_iinc (v := y40) (lv' := [(3, .int y40), (2, .int y39), (0, .ref x0), (1, .int x1)]) hx hb dX9_inState_40 hl (k := 3) rfl (by rw [ey40]; rfl) (by decide) rfl (fun ls hl => ?_)
        refine lv_goto (tgt := 4) hx hb dX9_inState_43 (by decide) ?_
        exact ih y39 y40 h23 _ _ _ (lv_sub hl [2, 3, 1, 0] rfl) Z hk
set_option maxRecDepth 100000 in
set_option maxHeartbeats 4000000 in
theorem m_X9_inState (l : Launch) (g : Gt) (h : Hp) (x0 : Nat) (x1 : Int32) (Post : Int32 → Hp → Prop) (hk : wp_X9_inState x0 x1 Post h) : Met l yX9_inState wzX9_inState rmX9_inState (Pg g h [.ref x0, .int x1]) (Qi g h Post) 0 0 (dm h) := by
  refine Met_of (cc := cX9_inState) (maxL := 4) (ret := (some .int)) (by decide) (Nat.le_of_ble_eq_true rfl) (fun p e s m below meth c ls C hr hnm hl Z => ?_)
  have hx := C.1.1
  have hb := C.1.2.1
  have hml := C.1.2.2.1
  have hown := C.1.2.2.2.1
  have hts := C.1.2.2.2.2
  have hl : lv_has ls 4 [(0, .ref x0), (1, .int x1)] := hl
  unfold wp_X9_inState at hk
  generalize s.heap = H at Z ⊢
  generalize ([] : List Loc) = locs at Z ⊢
  refine lv_iconst (v := (nI 0)) hx hb dX9_inState_0 (by decide) ?_
  refine lv_istore_n (lv' := [(2, .int (nI 0)), (0, .ref x0), (1, .int x1)]) hx hb dX9_inState_1 rfl hl (by decide) rfl (fun ls hl => ?_)
  refine lv_iconst (v := (nI 0)) hx hb dX9_inState_2 (by decide) ?_
  refine lv_istore_n (lv' := [(3, .int (nI 0)), (2, .int (nI 0)), (0, .ref x0), (1, .int x1)]) hx hb dX9_inState_3 rfl hl (by decide) rfl (fun ls hl => ?_)
  obtain ⟨n1, hk⟩ := hk
  exact w_X9_inState_4 C hr x0 x1 n1 (nI 0) (nI 0) h _ _ _ (lv_sub hl [2, 3, 1, 0] rfl) Z hk
abbrev rmX9_ofMachine : Room := ({ frames := 1, cells := 0, slots := 0, locals := 21 } : Room)
abbrev wzX9_ofMachine : List Cond := WS yX9_ofMachine cX9_ofMachine 4 (some .int)
set_option maxRecDepth 100000 in
set_option maxHeartbeats 4000000 in
theorem w_X9_ofMachine_4 {p : Program} {l : Launch} {e : Env} {s : State} {m : MethodId} {args : Array Value} {below : List Frame} {meth : Method} {c : Code} {g : Gt} {h0 : Hp} (C : Cx g (dm h0) RX9 cX9_ofMachine 4 p s m args meth c) (hr : meth.sig.returnType = (some .int)) {Post : Int32 → Hp → Prop} (x0 : Nat) (x1 : Int32)   : ∀ (n : Nat) (x2 : Int32) (x3 : Int32) (h : Hp) (H : Heap) (locs : List Loc) (ls : Array Slot), lv_has ls 4 [(0, .ref x0), (1, .int x1), (2, .int x2), (3, .int x3)] → St g (dm h0) s h H locs → wp_X9_ofMachine_4 Post x0 x1 n x2 x3 h → W p l e rmX9_ofMachine s m args below meth c H locs 0 0 (MQ below (Qi g h0 Post) args s 0 0 (dm h0)) (F0 m 4 ls []) := by
  have hx := C.1.1
  have hb := C.1.2.1
  have hml := C.1.2.2.1
  have hown := C.1.2.2.2.1
  have hts := C.1.2.2.2.2
  intro n
  induction n with
  | zero => intro x2 x3 h H locs ls hl Z hk; exact (show False from hk).elim
  | succ n ih =>
    intro x2 x3 h H locs ls hl Z hk
    unfold wp_X9_ofMachine_4 at hk
    refine lv_iload_n hx hb dX9_ofMachine_4 rfl (lv_at hl 3 rfl) ?_
    refine lv_i2l (v := (Int32.toInt64 x3)) hx hb dX9_ofMachine_5 rfl ?_
    refine lv_aload_n hx hb dX9_ofMachine_6 rfl (lv_at hl 0 rfl) ?_
    obtain ⟨v7, hv, hk⟩ := hk
    refine r_get (ci := 9) (k := 0) (T := TX9) (N := 17) C Z hv ku_9 rfl (by decide) tw_857 dX9_ofMachine_7 ?_
    refine lv_iconst (v := (nI 0)) hx hb dX9_ofMachine_10 (by decide) ?_
    obtain ⟨v11, hv, hk⟩ := hk
    refine r_lald C Z hv dX9_ofMachine_11 ?_
    refine W.lcmp hx hb dX9_ofMachine_12 ?_
    refine lv_if_ge (tgt := 46) hx hb dX9_ofMachine_13 (by decide) (fun q => ?_) (fun q => ?_)
    · have hk := hk.1 ((lc_ge (Int32.toInt64 x3) v11).mp q)
      refine lv_iload_n hx hb dX9_ofMachine_46 rfl (lv_at hl 2 rfl) ?_
      exact r_iret C Z hr hk dX9_ofMachine_47
    · have hk := hk.2 (mt (lc_ge (Int32.toInt64 x3) v11).mpr q)
      refine lv_iload_n hx hb dX9_ofMachine_16 rfl (lv_at hl 2 rfl) ?_
      refine lv_aload_n hx hb dX9_ofMachine_17 rfl (lv_at hl 0 rfl) ?_
      obtain ⟨v18, hv, hk⟩ := hk
      refine r_get (ci := 9) (k := 0) (T := TX9) (N := 17) C Z hv ku_9 rfl (by decide) tw_857 dX9_ofMachine_18 ?_
      refine lv_iload_n hx hb dX9_ofMachine_21 rfl (lv_at hl 3 rfl) ?_
      refine lv_iconst (v := (nI 0)) hx hb dX9_ofMachine_22 (by decide) ?_
      refine r_calli Z (r_runS (As := [.int x3, .int (nI 0)]) (rest := [.ref v18, .int x2]) C Z (m_X9_c l g h x3 (nI 0) _ hk) (va_cwS 2 C.1.2.2.2.2 (gS tw_930 tw_931 tw_66 tw_932) rfl rfl rfl (by decide +kernel) ⟨Nat.le_of_ble_eq_true rfl, Nat.le_of_ble_eq_true rfl⟩) rfl hl.1 rfl (Nat.le_of_ble_eq_true rfl) dX9_ofMachine_23 ⟨Nat.zero_le _, Nat.zero_le _⟩) (fun r23 h23 H locs hk Z => ?_)
      obtain ⟨v26, hv, hk⟩ := hk
      refine r_lald C Z hv dX9_ofMachine_26 ?_
      refine lv_iload_n hx hb dX9_ofMachine_27 rfl (lv_at hl 1 rfl) ?_
      refine lv_i2l (v := (Int32.toInt64 x1)) hx hb dX9_ofMachine_28 rfl ?_
      refine W.lcmp hx hb dX9_ofMachine_29 ?_
      refine lv_if_ne (tgt := 37) hx hb dX9_ofMachine_30 (by decide) (fun q => ?_) (fun q => ?_)
      · have hk := hk.1 (mt (lc_eq v26 (Int32.toInt64 x1)).mpr q)
        refine lv_iconst (v := (nI 0)) hx hb dX9_ofMachine_37 (by decide) ?_
        refine lv_iadd hx hb dX9_ofMachine_38 ?_
        refine lv_topi (fun y39 ey39 => ?_)
        have hk := hk y39 ey39
        refine lv_istore_n (lv' := [(2, .int y39), (0, .ref x0), (1, .int x1), (3, .int x3)]) hx hb dX9_ofMachine_39 rfl hl (by decide) rfl (fun ls hl => ?_)
        obtain ⟨y40, ey40⟩ : ∃ y : Int32, y = x3 + (nI 1) := ⟨_, rfl⟩
        have hk := hk y40 ey40
        refine lv_iinc (v := y40) (lv' := [(3, .int y40), (2, .int y39), (0, .ref x0), (1, .int x1)]) hx hb dX9_ofMachine_40 hl (k := 3) rfl (by rw [ey40]; rfl) (by decide) rfl (fun ls hl => ?_)
        refine lv_goto (tgt := 4) hx hb dX9_ofMachine_43 (by decide) ?_
        exact ih y39 y40 h23 _ _ _ (lv_sub hl [2, 3, 1, 0] rfl) Z hk
      · have hk := hk.2 ((lc_eq v26 (Int32.toInt64 x1)).mp q)
        refine lv_iconst (v := (nI 1)) hx hb dX9_ofMachine_33 (by decide) ?_
        refine lv_goto (tgt := 38) hx hb dX9_ofMachine_34 (by decide) ?_
        refine lv_iadd hx hb dX9_ofMachine_38 ?_
        refine lv_topi (fun y39 ey39 => ?_)
        have hk := hk y39 ey39
        refine lv_istore_n (lv' := [(2, .int y39), (0, .ref x0), (1, .int x1), (3, .int x3)]) hx hb dX9_ofMachine_39 rfl hl (by decide) rfl (fun ls hl => ?_)
        obtain ⟨y40, ey40⟩ : ∃ y : Int32, y = x3 + (nI 1) := ⟨_, rfl⟩
        have hk := hk y40 ey40
        refine lv_iinc (v := y40) (lv' := [(3, .int y40), (2, .int y39), (0, .ref x0), (1, .int x1)]) hx hb dX9_ofMachine_40 hl (k := 3) rfl (by rw [ey40]; rfl) (by decide) rfl (fun ls hl => ?_)
        refine lv_goto (tgt := 4) hx hb dX9_ofMachine_43 (by decide) ?_
        exact ih y39 y40 h23 _ _ _ (lv_sub hl [2, 3, 1, 0] rfl) Z hk
set_option maxRecDepth 100000 in
set_option maxHeartbeats 4000000 in
theorem m_X9_ofMachine (l : Launch) (g : Gt) (h : Hp) (x0 : Nat) (x1 : Int32) (Post : Int32 → Hp → Prop) (hk : wp_X9_ofMachine x0 x1 Post h) : Met l yX9_ofMachine wzX9_ofMachine rmX9_ofMachine (Pg g h [.ref x0, .int x1]) (Qi g h Post) 0 0 (dm h) := by
  refine Met_of (cc := cX9_ofMachine) (maxL := 4) (ret := (some .int)) (by decide) (Nat.le_of_ble_eq_true rfl) (fun p e s m below meth c ls C hr hnm hl Z => ?_)
  have hx := C.1.1
  have hb := C.1.2.1
  have hml := C.1.2.2.1
  have hown := C.1.2.2.2.1
  have hts := C.1.2.2.2.2
  have hl : lv_has ls 4 [(0, .ref x0), (1, .int x1)] := hl
  unfold wp_X9_ofMachine at hk
  generalize s.heap = H at Z ⊢
  generalize ([] : List Loc) = locs at Z ⊢
  refine lv_iconst (v := (nI 0)) hx hb dX9_ofMachine_0 (by decide) ?_
  refine lv_istore_n (lv' := [(2, .int (nI 0)), (0, .ref x0), (1, .int x1)]) hx hb dX9_ofMachine_1 rfl hl (by decide) rfl (fun ls hl => ?_)
  refine lv_iconst (v := (nI 0)) hx hb dX9_ofMachine_2 (by decide) ?_
  refine lv_istore_n (lv' := [(3, .int (nI 0)), (2, .int (nI 0)), (0, .ref x0), (1, .int x1)]) hx hb dX9_ofMachine_3 rfl hl (by decide) rfl (fun ls hl => ?_)
  obtain ⟨n1, hk⟩ := hk
  exact w_X9_ofMachine_4 C hr x0 x1 n1 (nI 0) (nI 0) h _ _ _ (lv_sub hl [2, 3, 1, 0] rfl) Z hk
abbrev rmX9_scans : Room := ({ frames := 2, cells := 0, slots := 0, locals := 46 } : Room)
abbrev wzX9_scans : List Cond := WS yX9_scans cX9_scans 6 (some .int)
set_option maxRecDepth 100000 in
set_option maxHeartbeats 4000000 in
theorem m_X9_scans (l : Launch) (g : Gt) (h : Hp) (x0 : Nat) (x1 : Int64) (x3 : Int64) (Post : Int32 → Hp → Prop) (hk : wp_X9_scans x0 x1 x3 Post h) : Met l yX9_scans wzX9_scans rmX9_scans (Pg g h [.ref x0, .long x1, .long x3]) (Qi g h Post) 0 0 (dm h) := by
  refine Met_of (cc := cX9_scans) (maxL := 6) (ret := (some .int)) (by decide) (Nat.le_of_ble_eq_true rfl) (fun p e s m below meth c ls C hr hnm hl Z => ?_)
  have hx := C.1.1
  have hb := C.1.2.1
  have hml := C.1.2.2.1
  have hown := C.1.2.2.2.1
  have hts := C.1.2.2.2.2
  have hl : lv_has ls 6 [(0, .ref x0), (1, .long x1), (3, .long x3)] := hl
  unfold wp_X9_scans at hk
  generalize s.heap = H at Z ⊢
  generalize ([] : List Loc) = locs at Z ⊢
  refine lv_lload_n hx hb dX9_scans_0 rfl (lv_at hl 1 rfl) ?_
  refine lv_lconst (v := lN 0) hx hb dX9_scans_1 (by decide) ?_
  refine lv_ldc2 (v := (lN 2)) hx hb hown (hts _ tw_921) dX9_scans_2 ?_
  refine r_calli Z (r_runS (As := [.long x1, .long (lN 0), .long (lN 2)]) (rest := []) C Z (m_X9_in l g h x1 (lN 0) (lN 2) _ hk) (va_cwS 3 C.1.2.2.2.2 (gS tw_922 tw_923 tw_66 tw_924) rfl rfl rfl (by decide +kernel) ⟨Nat.le_of_ble_eq_true rfl, Nat.le_of_ble_eq_true rfl⟩) rfl hl.1 rfl (Nat.le_of_ble_eq_true rfl) dX9_scans_5 ⟨Nat.zero_le _, Nat.zero_le _⟩) (fun r5 h5 H locs hk Z => ?_)
  refine lv_if_eq (tgt := 18) hx hb dX9_scans_8 (by decide) (fun q => ?_) (fun q => ?_)
  · have hk := hk.1 q
    refine lv_iconst (v := (-1 : Int32)) hx hb dX9_scans_18 (by decide) ?_
    exact r_iret C Z hr hk dX9_scans_19
  · have hk := hk.2 q
    refine lv_lload_n hx hb dX9_scans_11 rfl (lv_at hl 2 rfl) ?_
    refine r_calli Z (r_runS (As := [.long x3]) (rest := []) C Z (m_X9_isRow l g h5 x3 _ hk) (va_cwS 1 C.1.2.2.2.2 (gS tw_925 tw_926 tw_66 tw_927) rfl rfl rfl (by decide +kernel) ⟨Nat.le_of_ble_eq_true rfl, Nat.le_of_ble_eq_true rfl⟩) rfl hl.1 rfl (Nat.le_of_ble_eq_true rfl) dX9_scans_12 ⟨Nat.zero_le _, Nat.zero_le _⟩) (fun r12 h12 H locs hk Z => ?_)
    refine lv_if_ne (tgt := 20) hx hb dX9_scans_15 (by decide) (fun q => ?_) (fun q => ?_)
    · have hk := hk.1 q
      refine lv_aload_n hx hb dX9_scans_20 rfl (lv_at hl 0 rfl) ?_
      obtain ⟨v21, hv, hk⟩ := hk
      refine r_get (ci := 9) (k := 0) (T := TX9) (N := 17) C Z hv ku_9 rfl (by decide) tw_857 dX9_scans_21 ?_
      refine lv_iconst (v := (nI 0)) hx hb dX9_scans_24 (by decide) ?_
      obtain ⟨v25, hv, hk⟩ := hk
      refine r_lald C Z hv dX9_scans_25 ?_
      refine lv_ldc2 (v := (lN 40)) hx hb hown (hts _ tw_929) dX9_scans_26 ?_
      refine W.lcmp hx hb dX9_scans_29 ?_
      refine lv_if_ne (tgt := 36) hx hb dX9_scans_30 (by decide) (fun q => ?_) (fun q => ?_)
      · have hk := hk.1 (mt (lc_eq v25 (lN 40)).mpr q)
        refine lv_aload_n hx hb dX9_scans_36 rfl (lv_at hl 0 rfl) ?_
        obtain ⟨v37, hv, hk⟩ := hk
        refine r_get (ci := 9) (k := 0) (T := TX9) (N := 17) C Z hv ku_9 rfl (by decide) tw_857 dX9_scans_37 ?_
        refine lv_iconst (v := (nI 0)) hx hb dX9_scans_40 (by decide) ?_
        obtain ⟨v41, hv, hk⟩ := hk
        refine r_lald C Z hv dX9_scans_41 ?_
        refine lv_l2i (v := (Int64.toInt32 v41)) hx hb dX9_scans_42 rfl ?_
        refine lv_topi (fun y43 ey43 => ?_)
        have hk := hk y43 ey43
        refine lv_istore (lv' := [(5, .int y43), (0, .ref x0), (1, .long x1), (3, .long x3)]) hx hb dX9_scans_43 hl (by decide) rfl (fun ls hl => ?_)
        refine lv_aload_n hx hb dX9_scans_45 rfl (lv_at hl 1 rfl) ?_
        obtain ⟨v46, hv, hk⟩ := hk
        refine r_get (ci := 9) (k := 0) (T := TX9) (N := 17) C Z hv ku_9 rfl (by decide) tw_857 dX9_scans_46 ?_
        refine lv_iload hx hb dX9_scans_49 (lv_at hl 0 rfl) ?_
        refine lv_iconst (v := (nI 0)) hx hb dX9_scans_51 (by decide) ?_
        refine r_calli Z (r_runS (As := [.int y43, .int (nI 0)]) (rest := [.ref v46]) C Z (m_X9_c l g h12 y43 (nI 0) _ hk) (va_cwS 2 C.1.2.2.2.2 (gS tw_930 tw_931 tw_66 tw_932) rfl rfl rfl (by decide +kernel) ⟨Nat.le_of_ble_eq_true rfl, Nat.le_of_ble_eq_true rfl⟩) rfl hl.1 rfl (Nat.le_of_ble_eq_true rfl) dX9_scans_52 ⟨Nat.zero_le _, Nat.zero_le _⟩) (fun r52 h52 H locs hk Z => ?_)
        refine lv_lload_n hx hb dX9_scans_55 rfl (lv_at hl 2 rfl) ?_
        obtain ⟨h56, hv, hk⟩ := hk
        refine r_last C Z hv dX9_scans_56 (fun H locs Z => ?_)
        refine lv_aload_n hx hb dX9_scans_57 rfl (lv_at hl 1 rfl) ?_
        obtain ⟨v58, hv, hk⟩ := hk
        refine r_get (ci := 9) (k := 0) (T := TX9) (N := 17) C Z hv ku_9 rfl (by decide) tw_857 dX9_scans_58 ?_
        refine lv_iload hx hb dX9_scans_61 (lv_at hl 0 rfl) ?_
        refine lv_iconst (v := (nI 1)) hx hb dX9_scans_63 (by decide) ?_
        refine r_calli Z (r_runS (As := [.int y43, .int (nI 1)]) (rest := [.ref v58]) C Z (m_X9_c l g h56 y43 (nI 1) _ hk) (va_cwS 2 C.1.2.2.2.2 (gS tw_930 tw_931 tw_66 tw_932) rfl rfl rfl (by decide +kernel) ⟨Nat.le_of_ble_eq_true rfl, Nat.le_of_ble_eq_true rfl⟩) rfl hl.1 rfl (Nat.le_of_ble_eq_true rfl) dX9_scans_64 ⟨Nat.zero_le _, Nat.zero_le _⟩) (fun r64 h64 H locs hk Z => ?_)
        refine lv_lload_n hx hb dX9_scans_67 rfl (lv_at hl 3 rfl) ?_
        obtain ⟨h68, hv, hk⟩ := hk
        refine r_last C Z hv dX9_scans_68 (fun H locs Z => ?_)
        refine lv_aload_n hx hb dX9_scans_69 rfl (lv_at hl 1 rfl) ?_
        obtain ⟨v70, hv, hk⟩ := hk
        refine r_get (ci := 9) (k := 0) (T := TX9) (N := 17) C Z hv ku_9 rfl (by decide) tw_857 dX9_scans_70 ?_
        refine lv_iload hx hb dX9_scans_73 (lv_at hl 0 rfl) ?_
        refine lv_iconst (v := (nI 2)) hx hb dX9_scans_75 (by decide) ?_
        refine r_calli Z (r_runS (As := [.int y43, .int (nI 2)]) (rest := [.ref v70]) C Z (m_X9_c l g h68 y43 (nI 2) _ hk) (va_cwS 2 C.1.2.2.2.2 (gS tw_930 tw_931 tw_66 tw_932) rfl rfl rfl (by decide +kernel) ⟨Nat.le_of_ble_eq_true rfl, Nat.le_of_ble_eq_true rfl⟩) rfl hl.1 rfl (Nat.le_of_ble_eq_true rfl) dX9_scans_76 ⟨Nat.zero_le _, Nat.zero_le _⟩) (fun r76 h76 H locs hk Z => ?_)
        refine lv_aload_n hx hb dX9_scans_79 rfl (lv_at hl 1 rfl) ?_
        obtain ⟨v80, hv, hk⟩ := hk
        refine r_get (ci := 9) (k := 0) (T := TX9) (N := 17) C Z hv ku_9 rfl (by decide) tw_857 dX9_scans_80 ?_
        refine lv_bipush (v := (nI 6)) hx hb dX9_scans_83 (by decide) ?_
        refine lv_lload_n hx hb dX9_scans_85 rfl (lv_at hl 2 rfl) ?_
        refine lv_l2i (v := (Int64.toInt32 x1)) hx hb dX9_scans_86 rfl ?_
        refine lv_iadd hx hb dX9_scans_87 ?_
        obtain ⟨v88, hv, hk⟩ := hk
        refine r_lald C Z hv dX9_scans_88 ?_
        obtain ⟨h89, hv, hk⟩ := hk
        refine r_last C Z hv dX9_scans_89 (fun H locs Z => ?_)
        refine lv_aload_n hx hb dX9_scans_90 rfl (lv_at hl 1 rfl) ?_
        obtain ⟨v91, hv, hk⟩ := hk
        refine r_get (ci := 9) (k := 0) (T := TX9) (N := 17) C Z hv ku_9 rfl (by decide) tw_857 dX9_scans_91 ?_
        refine lv_iload hx hb dX9_scans_94 (lv_at hl 0 rfl) ?_
        refine lv_iconst (v := (nI 3)) hx hb dX9_scans_96 (by decide) ?_
        refine r_calli Z (r_runS (As := [.int y43, .int (nI 3)]) (rest := [.ref v91]) C Z (m_X9_c l g h89 y43 (nI 3) _ hk) (va_cwS 2 C.1.2.2.2.2 (gS tw_930 tw_931 tw_66 tw_932) rfl rfl rfl (by decide +kernel) ⟨Nat.le_of_ble_eq_true rfl, Nat.le_of_ble_eq_true rfl⟩) rfl hl.1 rfl (Nat.le_of_ble_eq_true rfl) dX9_scans_97 ⟨Nat.zero_le _, Nat.zero_le _⟩) (fun r97 h97 H locs hk Z => ?_)
        refine lv_lconst (v := lN 0) hx hb dX9_scans_100 (by decide) ?_
        obtain ⟨h101, hv, hk⟩ := hk
        refine r_last C Z hv dX9_scans_101 (fun H locs Z => ?_)
        refine lv_aload_n hx hb dX9_scans_102 rfl (lv_at hl 1 rfl) ?_
        obtain ⟨v103, hv, hk⟩ := hk
        refine r_get (ci := 9) (k := 0) (T := TX9) (N := 17) C Z hv ku_9 rfl (by decide) tw_857 dX9_scans_103 ?_
        refine lv_iload hx hb dX9_scans_106 (lv_at hl 0 rfl) ?_
        refine lv_iconst (v := (nI 4)) hx hb dX9_scans_108 (by decide) ?_
        refine r_calli Z (r_runS (As := [.int y43, .int (nI 4)]) (rest := [.ref v103]) C Z (m_X9_c l g h101 y43 (nI 4) _ hk) (va_cwS 2 C.1.2.2.2.2 (gS tw_930 tw_931 tw_66 tw_932) rfl rfl rfl (by decide +kernel) ⟨Nat.le_of_ble_eq_true rfl, Nat.le_of_ble_eq_true rfl⟩) rfl hl.1 rfl (Nat.le_of_ble_eq_true rfl) dX9_scans_109 ⟨Nat.zero_le _, Nat.zero_le _⟩) (fun r109 h109 H locs hk Z => ?_)
        refine lv_lconst (v := lN 0) hx hb dX9_scans_112 (by decide) ?_
        obtain ⟨h113, hv, hk⟩ := hk
        refine r_last C Z hv dX9_scans_113 (fun H locs Z => ?_)
        refine lv_aload_n hx hb dX9_scans_114 rfl (lv_at hl 1 rfl) ?_
        obtain ⟨v115, hv, hk⟩ := hk
        refine r_get (ci := 9) (k := 0) (T := TX9) (N := 17) C Z hv ku_9 rfl (by decide) tw_857 dX9_scans_115 ?_
        refine lv_iconst (v := (nI 0)) hx hb dX9_scans_118 (by decide) ?_
        refine lv_dup2_11 hx hb dX9_scans_119 rfl rfl ?_
        obtain ⟨v120, hv, hk⟩ := hk
        refine r_lald C Z hv dX9_scans_120 ?_
        refine lv_lconst (v := lN 1) hx hb dX9_scans_121 (by decide) ?_
        refine lv_ladd hx hb dX9_scans_122 ?_
        obtain ⟨h123, hv, hk⟩ := hk
        refine r_last C Z hv dX9_scans_123 (fun H locs Z => ?_)
        refine lv_iload hx hb dX9_scans_124 (lv_at hl 0 rfl) ?_
        exact r_iret C Z hr hk dX9_scans_126
      · have hk := hk.2 ((lc_eq v25 (lN 40)).mp q)
        refine lv_bipush (v := (-3 : Int32)) hx hb dX9_scans_33 (by decide) ?_
        exact r_iret C Z hr hk dX9_scans_35
    · have hk := hk.2 q
      refine lv_iconst (v := (-1 : Int32)) hx hb dX9_scans_18 (by decide) ?_
      exact r_iret C Z hr hk dX9_scans_19
abbrev rmX9_cleans : Room := ({ frames := 2, cells := 0, slots := 0, locals := 44 } : Room)
abbrev wzX9_cleans : List Cond := WS yX9_cleans cX9_cleans 3 (some .int)
set_option maxRecDepth 100000 in
set_option maxHeartbeats 4000000 in
theorem m_X9_cleans (l : Launch) (g : Gt) (h : Hp) (x0 : Nat) (x1 : Int64) (Post : Int32 → Hp → Prop) (hk : wp_X9_cleans x0 x1 Post h) : Met l yX9_cleans wzX9_cleans rmX9_cleans (Pg g h [.ref x0, .long x1]) (Qi g h Post) 0 0 (dm h) := by
  refine Met_of (cc := cX9_cleans) (maxL := 3) (ret := (some .int)) (by decide) (Nat.le_of_ble_eq_true rfl) (fun p e s m below meth c ls C hr hnm hl Z => ?_)
  have hx := C.1.1
  have hb := C.1.2.1
  have hml := C.1.2.2.1
  have hown := C.1.2.2.2.1
  have hts := C.1.2.2.2.2
  have hl : lv_has ls 3 [(0, .ref x0), (1, .long x1)] := hl
  unfold wp_X9_cleans at hk
  generalize s.heap = H at Z ⊢
  generalize ([] : List Loc) = locs at Z ⊢
  refine lv_lload_n hx hb dX9_cleans_0 rfl (lv_at hl 1 rfl) ?_
  refine lv_lconst (v := lN 0) hx hb dX9_cleans_1 (by decide) ?_
  refine lv_ldc2 (v := (lN 2)) hx hb hown (hts _ tw_921) dX9_cleans_2 ?_
  refine r_calli Z (r_runS (As := [.long x1, .long (lN 0), .long (lN 2)]) (rest := []) C Z (m_X9_in l g h x1 (lN 0) (lN 2) _ hk) (va_cwS 3 C.1.2.2.2.2 (gS tw_922 tw_923 tw_66 tw_924) rfl rfl rfl (by decide +kernel) ⟨Nat.le_of_ble_eq_true rfl, Nat.le_of_ble_eq_true rfl⟩) rfl hl.1 rfl (Nat.le_of_ble_eq_true rfl) dX9_cleans_5 ⟨Nat.zero_le _, Nat.zero_le _⟩) (fun r5 h5 H locs hk Z => ?_)
  refine lv_if_ne (tgt := 13) hx hb dX9_cleans_8 (by decide) (fun q => ?_) (fun q => ?_)
  · have hk := hk.1 q
    refine lv_aload_n hx hb dX9_cleans_13 rfl (lv_at hl 0 rfl) ?_
    obtain ⟨v14, hv, hk⟩ := hk
    refine r_get (ci := 9) (k := 0) (T := TX9) (N := 17) C Z hv ku_9 rfl (by decide) tw_857 dX9_cleans_14 ?_
    refine lv_bipush (v := (nI 6)) hx hb dX9_cleans_17 (by decide) ?_
    refine lv_lload_n hx hb dX9_cleans_19 rfl (lv_at hl 1 rfl) ?_
    refine lv_l2i (v := (Int64.toInt32 x1)) hx hb dX9_cleans_20 rfl ?_
    refine lv_iadd hx hb dX9_cleans_21 ?_
    refine lv_dup2_11 hx hb dX9_cleans_22 rfl rfl ?_
    obtain ⟨v23, hv, hk⟩ := hk
    refine r_lald C Z hv dX9_cleans_23 ?_
    refine lv_lconst (v := lN 1) hx hb dX9_cleans_24 (by decide) ?_
    refine lv_ladd hx hb dX9_cleans_25 ?_
    obtain ⟨h26, hv, hk⟩ := hk
    refine r_last C Z hv dX9_cleans_26 (fun H locs Z => ?_)
    refine lv_aload_n hx hb dX9_cleans_27 rfl (lv_at hl 0 rfl) ?_
    refine lv_lload_n hx hb dX9_cleans_28 rfl (lv_at hl 1 rfl) ?_
    refine lv_l2i (v := (Int64.toInt32 x1)) hx hb dX9_cleans_29 rfl ?_
    obtain ⟨ho, hk⟩ := hk
    refine r_calli Z (r_runV (As := [.int (Int64.toInt32 x1)]) (rest := []) C Z (m_X9_ofMachine l g h26 x0 (Int64.toInt32 x1) _ hk) ho rfl (cwV 1 C.1.2.2.2.2 (gV tw_947 tw_949 tw_18 tw_66 tw_950) rfl rfl rfl (by decide +kernel) ⟨Nat.le_of_ble_eq_true rfl, Nat.le_of_ble_eq_true rfl⟩) rfl hl.1 rfl (Nat.le_of_ble_eq_true rfl) dX9_cleans_30 ⟨Nat.zero_le _, Nat.zero_le _⟩) (fun r30 h30 H locs hk Z => ?_)
    exact r_iret C Z hr hk dX9_cleans_33
  · have hk := hk.2 q
    refine lv_iconst (v := (-1 : Int32)) hx hb dX9_cleans_11 (by decide) ?_
    exact r_iret C Z hr hk dX9_cleans_12
abbrev rmX9_publishes : Room := ({ frames := 12, cells := 0, slots := 0, locals := 292 } : Room)
abbrev wzX9_publishes : List Cond := WS yX9_publishes cX9_publishes 4 (some .int)
set_option maxRecDepth 100000 in
set_option maxHeartbeats 4000000 in
theorem w_X9_publishes_78 {p : Program} {l : Launch} {e : Env} {s : State} {m : MethodId} {args : Array Value} {below : List Frame} {meth : Method} {c : Code} {g : Gt} {h0 : Hp} (C : Cx g (dm h0) RX9 cX9_publishes 4 p s m args meth c) (hr : meth.sig.returnType = (some .int)) {Post : Int32 → Hp → Prop} (x0 : Nat) (x1 : Int32) (x2 : Int32)   : ∀ (n : Nat) (x3 : Int32) (h : Hp) (H : Heap) (locs : List Loc) (ls : Array Slot), lv_has ls 4 [(0, .ref x0), (1, .int x1), (2, .int x2), (3, .int x3)] → St g (dm h0) s h H locs → wp_X9_publishes_78 Post x0 x1 x2 n x3 h → W p l e rmX9_publishes s m args below meth c H locs 0 0 (MQ below (Qi g h0 Post) args s 0 0 (dm h0)) (F0 m 78 ls []) := by
  have hx := C.1.1
  have hb := C.1.2.1
  have hml := C.1.2.2.1
  have hown := C.1.2.2.2.1
  have hts := C.1.2.2.2.2
  intro n
  induction n with
  | zero => intro x3 h H locs ls hl Z hk; exact (show False from hk).elim
  | succ n ih =>
    intro x3 h H locs ls hl Z hk
    unfold wp_X9_publishes_78 at hk
    refine lv_iload_n hx hb dX9_publishes_78 rfl (lv_at hl 3 rfl) ?_
    refine lv_i2l (v := (Int32.toInt64 x3)) hx hb dX9_publishes_79 rfl ?_
    refine lv_aload_n hx hb dX9_publishes_80 rfl (lv_at hl 0 rfl) ?_
    obtain ⟨v81, hv, hk⟩ := hk
    refine r_get (ci := 9) (k := 0) (T := TX9) (N := 17) C Z hv ku_9 rfl (by decide) tw_857 dX9_publishes_81 ?_
    refine lv_iconst (v := (nI 0)) hx hb dX9_publishes_84 (by decide) ?_
    obtain ⟨v85, hv, hk⟩ := hk
    refine r_lald C Z hv dX9_publishes_85 ?_
    refine W.lcmp hx hb dX9_publishes_86 ?_
    refine lv_if_ge (tgt := 117) hx hb dX9_publishes_87 (by decide) (fun q => ?_) (fun q => ?_)
    · have hk := hk.1 ((lc_ge (Int32.toInt64 x3) v85).mp q)
      refine lv_aload_n hx hb dX9_publishes_117 rfl (lv_at hl 0 rfl) ?_
      obtain ⟨v118, hv, hk⟩ := hk
      refine r_get (ci := 9) (k := 0) (T := TX9) (N := 17) C Z hv ku_9 rfl (by decide) tw_857 dX9_publishes_118 ?_
      refine lv_iconst (v := (nI 1)) hx hb dX9_publishes_121 (by decide) ?_
      refine lv_dup2_11 hx hb dX9_publishes_122 rfl rfl ?_
      obtain ⟨v123, hv, hk⟩ := hk
      refine r_lald C Z hv dX9_publishes_123 ?_
      refine lv_lconst (v := lN 1) hx hb dX9_publishes_124 (by decide) ?_
      refine lv_ladd hx hb dX9_publishes_125 ?_
      obtain ⟨h126, hv, hk⟩ := hk
      refine r_last C Z hv dX9_publishes_126 (fun H locs Z => ?_)
      refine lv_iload_n hx hb dX9_publishes_127 rfl (lv_at hl 1 rfl) ?_
      exact r_iret C Z hr hk dX9_publishes_128
    · have hk := hk.2 (mt (lc_ge (Int32.toInt64 x3) v85).mpr q)
      refine lv_aload_n hx hb dX9_publishes_90 rfl (lv_at hl 0 rfl) ?_
      obtain ⟨v91, hv, hk⟩ := hk
      refine r_get (ci := 9) (k := 0) (T := TX9) (N := 17) C Z hv ku_9 rfl (by decide) tw_857 dX9_publishes_91 ?_
      refine lv_iload_n hx hb dX9_publishes_94 rfl (lv_at hl 2 rfl) ?_
      refine lv_iconst (v := (nI 1)) hx hb dX9_publishes_95 (by decide) ?_
      refine lv_iload_n hx hb dX9_publishes_96 rfl (lv_at hl 3 rfl) ?_
      refine lv_iadd hx hb dX9_publishes_97 ?_
      refine r_calli Z (r_runS (As := [.int x2, .int ((nI 1) + x3)]) (rest := [.ref v91]) C Z (m_X9_v l g h x2 ((nI 1) + x3) _ hk) (va_cwS 2 C.1.2.2.2.2 (gS tw_976 tw_977 tw_66 tw_978) rfl rfl rfl (by decide +kernel) ⟨Nat.le_of_ble_eq_true rfl, Nat.le_of_ble_eq_true rfl⟩) rfl hl.1 rfl (Nat.le_of_ble_eq_true rfl) dX9_publishes_98 ⟨Nat.zero_le _, Nat.zero_le _⟩) (fun r98 h98 H locs hk Z => ?_)
      refine lv_aload_n hx hb dX9_publishes_101 rfl (lv_at hl 0 rfl) ?_
      refine lv_iload_n hx hb dX9_publishes_102 rfl (lv_at hl 3 rfl) ?_
      refine lv_aload_n hx hb dX9_publishes_103 rfl (lv_at hl 0 rfl) ?_
      obtain ⟨ho, hk⟩ := hk
      refine r_calli Z (r_runV (As := []) (rest := [.int x3, .ref x0, .int r98, .ref v91]) C Z (m_X9_length l g h98 x0 _ hk) ho rfl (cwV 0 C.1.2.2.2.2 (gV tw_979 tw_981 tw_22 tw_66 tw_982) rfl rfl rfl (by decide +kernel) ⟨Nat.le_of_ble_eq_true rfl, Nat.le_of_ble_eq_true rfl⟩) rfl hl.1 rfl (Nat.le_of_ble_eq_true rfl) dX9_publishes_104 ⟨Nat.zero_le _, Nat.zero_le _⟩) (fun r104 h104 H locs hk Z => ?_)
      obtain ⟨ho, hk⟩ := hk
      refine r_calll Z (r_runV (As := [.int x3, .int r104]) (rest := [.int r98, .ref v91]) C Z (m_X9_outcomes l g h104 x0 x3 r104 _ hk) ho rfl (cwV 2 C.1.2.2.2.2 (gV tw_983 tw_985 tw_23 tw_66 tw_986) rfl rfl rfl (by decide +kernel) ⟨Nat.le_of_ble_eq_true rfl, Nat.le_of_ble_eq_true rfl⟩) rfl hl.1 rfl (Nat.le_of_ble_eq_true rfl) dX9_publishes_107 ⟨Nat.zero_le _, Nat.zero_le _⟩) (fun r107 h107 H locs hk Z => ?_)
      obtain ⟨h110, hv, hk⟩ := hk
      refine r_last C Z hv dX9_publishes_110 (fun H locs Z => ?_)
      obtain ⟨y111, ey111⟩ : ∃ y : Int32, y = x3 + (nI 1) := ⟨_, rfl⟩
      have hk := hk y111 ey111
      refine lv_iinc (v := y111) (lv' := [(3, .int y111), (0, .ref x0), (1, .int x1), (2, .int x2)]) hx hb dX9_publishes_111 hl (k := 3) rfl (by rw [ey111]; rfl) (by decide) rfl (fun ls hl => ?_)
      refine lv_goto (tgt := 78) hx hb dX9_publishes_114 (by decide) ?_
      exact ih y111 h110 _ _ _ (lv_sub hl [1, 2, 3, 0] rfl) Z hk
set_option maxRecDepth 100000 in
set_option maxHeartbeats 4000000 in
theorem m_X9_publishes (l : Launch) (g : Gt) (h : Hp) (x0 : Nat) (Post : Int32 → Hp → Prop) (hk : wp_X9_publishes x0 Post h) : Met l yX9_publishes wzX9_publishes rmX9_publishes (Pg g h [.ref x0]) (Qi g h Post) 0 0 (dm h) := by
  refine Met_of (cc := cX9_publishes) (maxL := 4) (ret := (some .int)) (by decide) (Nat.le_of_ble_eq_true rfl) (fun p e s m below meth c ls C hr hnm hl Z => ?_)
  have hx := C.1.1
  have hb := C.1.2.1
  have hml := C.1.2.2.1
  have hown := C.1.2.2.2.1
  have hts := C.1.2.2.2.2
  have hl : lv_has ls 4 [(0, .ref x0)] := hl
  unfold wp_X9_publishes at hk
  generalize s.heap = H at Z ⊢
  generalize ([] : List Loc) = locs at Z ⊢
  refine lv_aload_n hx hb dX9_publishes_0 rfl (lv_at hl 0 rfl) ?_
  obtain ⟨v1, hv, hk⟩ := hk
  refine r_get (ci := 9) (k := 0) (T := TX9) (N := 17) C Z hv ku_9 rfl (by decide) tw_857 dX9_publishes_1 ?_
  refine lv_iconst (v := (nI 0)) hx hb dX9_publishes_4 (by decide) ?_
  obtain ⟨v5, hv, hk⟩ := hk
  refine r_lald C Z hv dX9_publishes_5 ?_
  refine lv_lconst (v := lN 0) hx hb dX9_publishes_6 (by decide) ?_
  refine W.lcmp hx hb dX9_publishes_7 ?_
  refine lv_if_eq (tgt := 27) hx hb dX9_publishes_8 (by decide) (fun q => ?_) (fun q => ?_)
  · have hk := hk.1 ((lc_eq v5 (lN 0)).mp q)
    refine lv_bipush (v := (-2 : Int32)) hx hb dX9_publishes_27 (by decide) ?_
    exact r_iret C Z hr hk dX9_publishes_29
  · have hk := hk.2 (mt (lc_eq v5 (lN 0)).mpr q)
    refine lv_aload_n hx hb dX9_publishes_11 rfl (lv_at hl 0 rfl) ?_
    refine lv_iconst (v := (nI 1)) hx hb dX9_publishes_12 (by decide) ?_
    obtain ⟨ho, hk⟩ := hk
    refine r_calli Z (r_runV (As := [.int (nI 1)]) (rest := []) C Z (m_X9_changing l g h x0 (nI 1) _ hk) ho rfl (cwV 1 C.1.2.2.2.2 (gV tw_968 tw_970 tw_20 tw_66 tw_971) rfl rfl rfl (by decide +kernel) ⟨Nat.le_of_ble_eq_true rfl, Nat.le_of_ble_eq_true rfl⟩) rfl hl.1 rfl (Nat.le_of_ble_eq_true rfl) dX9_publishes_13 ⟨Nat.zero_le _, Nat.zero_le _⟩) (fun r13 h13 H locs hk Z => ?_)
    refine lv_i2l (v := (Int32.toInt64 r13)) hx hb dX9_publishes_16 rfl ?_
    refine lv_aload_n hx hb dX9_publishes_17 rfl (lv_at hl 0 rfl) ?_
    obtain ⟨v18, hv, hk⟩ := hk
    refine r_get (ci := 9) (k := 0) (T := TX9) (N := 17) C Z hv ku_9 rfl (by decide) tw_857 dX9_publishes_18 ?_
    refine lv_iconst (v := (nI 5)) hx hb dX9_publishes_21 (by decide) ?_
    obtain ⟨v22, hv, hk⟩ := hk
    refine r_lald C Z hv dX9_publishes_22 ?_
    refine W.lcmp hx hb dX9_publishes_23 ?_
    refine lv_if_le (tgt := 30) hx hb dX9_publishes_24 (by decide) (fun q => ?_) (fun q => ?_)
    · have hk := hk.1 ((lc_le (Int32.toInt64 r13) v22).mp q)
      refine lv_aload_n hx hb dX9_publishes_30 rfl (lv_at hl 0 rfl) ?_
      obtain ⟨v31, hv, hk⟩ := hk
      refine r_get (ci := 9) (k := 0) (T := TX9) (N := 17) C Z hv ku_9 rfl (by decide) tw_857 dX9_publishes_31 ?_
      refine lv_iconst (v := (nI 1)) hx hb dX9_publishes_34 (by decide) ?_
      obtain ⟨v35, hv, hk⟩ := hk
      refine r_lald C Z hv dX9_publishes_35 ?_
      refine lv_ldc2 (v := (lN 6)) hx hb hown (hts _ tw_855) dX9_publishes_36 ?_
      refine W.lcmp hx hb dX9_publishes_39 ?_
      refine lv_if_ne (tgt := 46) hx hb dX9_publishes_40 (by decide) (fun q => ?_) (fun q => ?_)
      · have hk := hk.1 (mt (lc_eq v35 (lN 6)).mpr q)
        refine lv_aload_n hx hb dX9_publishes_46 rfl (lv_at hl 0 rfl) ?_
        refine lv_iconst (v := (nI 0)) hx hb dX9_publishes_47 (by decide) ?_
        obtain ⟨ho, hk⟩ := hk
        refine r_calli Z (r_runV (As := [.int (nI 0)]) (rest := []) C Z (m_X9_changing l g h13 x0 (nI 0) _ hk) ho rfl (cwV 1 C.1.2.2.2.2 (gV tw_968 tw_970 tw_20 tw_66 tw_971) rfl rfl rfl (by decide +kernel) ⟨Nat.le_of_ble_eq_true rfl, Nat.le_of_ble_eq_true rfl⟩) rfl hl.1 rfl (Nat.le_of_ble_eq_true rfl) dX9_publishes_48 ⟨Nat.zero_le _, Nat.zero_le _⟩) (fun r48 h48 H locs hk Z => ?_)
        refine lv_istore_n (lv' := [(1, .int r48), (0, .ref x0)]) hx hb dX9_publishes_51 rfl hl (by decide) rfl (fun ls hl => ?_)
        refine lv_aload_n hx hb dX9_publishes_52 rfl (lv_at hl 1 rfl) ?_
        obtain ⟨v53, hv, hk⟩ := hk
        refine r_get (ci := 9) (k := 0) (T := TX9) (N := 17) C Z hv ku_9 rfl (by decide) tw_857 dX9_publishes_53 ?_
        refine lv_iconst (v := (nI 1)) hx hb dX9_publishes_56 (by decide) ?_
        obtain ⟨v57, hv, hk⟩ := hk
        refine r_lald C Z hv dX9_publishes_57 ?_
        refine lv_l2i (v := (Int64.toInt32 v57)) hx hb dX9_publishes_58 rfl ?_
        refine lv_topi (fun y59 ey59 => ?_)
        have hk := hk y59 ey59
        refine lv_istore_n (lv' := [(2, .int y59), (1, .int r48), (0, .ref x0)]) hx hb dX9_publishes_59 rfl hl (by decide) rfl (fun ls hl => ?_)
        refine lv_aload_n hx hb dX9_publishes_60 rfl (lv_at hl 2 rfl) ?_
        obtain ⟨v61, hv, hk⟩ := hk
        refine r_get (ci := 9) (k := 0) (T := TX9) (N := 17) C Z hv ku_9 rfl (by decide) tw_857 dX9_publishes_61 ?_
        refine lv_iload_n hx hb dX9_publishes_64 rfl (lv_at hl 0 rfl) ?_
        refine lv_iconst (v := (nI 0)) hx hb dX9_publishes_65 (by decide) ?_
        refine r_calli Z (r_runS (As := [.int y59, .int (nI 0)]) (rest := [.ref v61]) C Z (m_X9_v l g h48 y59 (nI 0) _ hk) (va_cwS 2 C.1.2.2.2.2 (gS tw_976 tw_977 tw_66 tw_978) rfl rfl rfl (by decide +kernel) ⟨Nat.le_of_ble_eq_true rfl, Nat.le_of_ble_eq_true rfl⟩) rfl hl.1 rfl (Nat.le_of_ble_eq_true rfl) dX9_publishes_66 ⟨Nat.zero_le _, Nat.zero_le _⟩) (fun r66 h66 H locs hk Z => ?_)
        refine lv_aload_n hx hb dX9_publishes_69 rfl (lv_at hl 2 rfl) ?_
        obtain ⟨v70, hv, hk⟩ := hk
        refine r_get (ci := 9) (k := 0) (T := TX9) (N := 17) C Z hv ku_9 rfl (by decide) tw_857 dX9_publishes_70 ?_
        refine lv_iconst (v := (nI 0)) hx hb dX9_publishes_73 (by decide) ?_
        obtain ⟨v74, hv, hk⟩ := hk
        refine r_lald C Z hv dX9_publishes_74 ?_
        obtain ⟨h75, hv, hk⟩ := hk
        refine r_last C Z hv dX9_publishes_75 (fun H locs Z => ?_)
        refine lv_iconst (v := (nI 0)) hx hb dX9_publishes_76 (by decide) ?_
        refine lv_istore_n (lv' := [(3, .int (nI 0)), (2, .int y59), (1, .int r48), (0, .ref x0)]) hx hb dX9_publishes_77 rfl hl (by decide) rfl (fun ls hl => ?_)
        obtain ⟨n1, hk⟩ := hk
        exact w_X9_publishes_78 C hr x0 r48 y59 n1 (nI 0) h75 _ _ _ (lv_sub hl [3, 2, 1, 0] rfl) Z hk
      · have hk := hk.2 ((lc_eq v35 (lN 6)).mp q)
        refine lv_bipush (v := (-3 : Int32)) hx hb dX9_publishes_43 (by decide) ?_
        exact r_iret C Z hr hk dX9_publishes_45
    · have hk := hk.2 (mt (lc_le (Int32.toInt64 r13) v22).mpr q)
      refine lv_bipush (v := (-2 : Int32)) hx hb dX9_publishes_27 (by decide) ?_
      exact r_iret C Z hr hk dX9_publishes_29
abbrev rmX9_draws : Room := ({ frames := 13, cells := 0, slots := 0, locals := 312 } : Room)
abbrev wzX9_draws : List Cond := WS yX9_draws cX9_draws 11 (some .int)
set_option maxRecDepth 100000 in
set_option maxHeartbeats 4000000 in
theorem w_X9_draws_104 {p : Program} {l : Launch} {e : Env} {s : State} {m : MethodId} {args : Array Value} {below : List Frame} {meth : Method} {c : Code} {g : Gt} {h0 : Hp} (C : Cx g (dm h0) RX9 cX9_draws 11 p s m args meth c) (hr : meth.sig.returnType = (some .int)) {Post : Int32 → Hp → Prop} (x0 : Nat) (x3 : Int64) (x5 : Int32) (x6 : Int64) (x8 : Int32) {k47 : Int32 → Int64 → Int32 → Hp → Prop} (hk47 : ∀ (x5 : Int32) (x6 : Int64) (x8 : Int32) (h : Hp) (H : Heap) (locs : List Loc) (ls : Array Slot), lv_has ls 11 [(0, .ref x0), (3, .long x3), (5, .int x5), (6, .long x6), (8, .int x8)] → St g (dm h0) s h H locs → k47 x5 x6 x8 h → W p l e rmX9_draws s m args below meth c H locs 0 0 (MQ below (Qi g h0 Post) args s 0 0 (dm h0)) (F0 m 47 ls [])) : ∀ (n : Nat) (x10 : Int32) (h : Hp) (H : Heap) (locs : List Loc) (ls : Array Slot), lv_has ls 11 [(0, .ref x0), (3, .long x3), (5, .int x5), (6, .long x6), (8, .int x8), (10, .int x10)] → St g (dm h0) s h H locs → wp_X9_draws_104 Post k47 x0 x3 x5 x6 x8 n x10 h → W p l e rmX9_draws s m args below meth c H locs 0 0 (MQ below (Qi g h0 Post) args s 0 0 (dm h0)) (F0 m 104 ls []) := by
  have hx := C.1.1
  have hb := C.1.2.1
  have hml := C.1.2.2.1
  have hown := C.1.2.2.2.1
  have hts := C.1.2.2.2.2
  intro n
  induction n with
  | zero => intro x10 h H locs ls hl Z hk; exact (show False from hk).elim
  | succ n ih =>
    intro x10 h H locs ls hl Z hk
    unfold wp_X9_draws_104 at hk
    refine lv_iload hx hb dX9_draws_104 (lv_at hl 5 rfl) ?_
    refine lv_iload hx hb dX9_draws_106 (lv_at hl 2 rfl) ?_
    refine lv_icmp_ge (tgt := 133) hx hb dX9_draws_108 (by decide) (fun q => ?_) (fun q => ?_)
    · have hk := hk.1 q
      obtain ⟨y133, ey133⟩ : ∃ y : Int32, y = x8 + (nI 1) := ⟨_, rfl⟩
      have hk := hk y133 ey133
      refine lv_iinc (v := y133) (lv' := [(8, .int y133), (0, .ref x0), (3, .long x3), (5, .int x5), (6, .long x6), (10, .int x10)]) hx hb dX9_draws_133 hl (k := 4) rfl (by rw [ey133]; rfl) (by decide) rfl (fun ls hl => ?_)
      refine lv_goto (tgt := 47) hx hb dX9_draws_136 (by decide) ?_
      exact hk47 x5 x6 y133 h _ _ _ (lv_sub hl [1, 2, 3, 4, 0] rfl) Z hk
    · have hk := hk.2 q
      refine lv_aload_n hx hb dX9_draws_111 rfl (lv_at hl 0 rfl) ?_
      obtain ⟨v112, hv, hk⟩ := hk
      refine r_get (ci := 9) (k := 4) (T := TX9) (N := 17) C Z hv ku_9 rfl (by decide) tw_861 dX9_draws_112 ?_
      refine lv_iload hx hb dX9_draws_115 (lv_at hl 5 rfl) ?_
      refine lv_aload_n hx hb dX9_draws_117 rfl (lv_at hl 0 rfl) ?_
      obtain ⟨v118, hv, hk⟩ := hk
      refine r_get (ci := 9) (k := 4) (T := TX9) (N := 17) C Z hv ku_9 rfl (by decide) tw_861 dX9_draws_118 ?_
      refine lv_iload hx hb dX9_draws_121 (lv_at hl 5 rfl) ?_
      refine lv_iconst (v := (nI 1)) hx hb dX9_draws_123 (by decide) ?_
      refine lv_iadd hx hb dX9_draws_124 ?_
      obtain ⟨v125, hv, hk⟩ := hk
      refine r_iald C Z hv dX9_draws_125 ?_
      obtain ⟨h126, hv, hk⟩ := hk
      refine r_iast C Z hv dX9_draws_126 (fun H locs Z => ?_)
      obtain ⟨y127, ey127⟩ : ∃ y : Int32, y = x10 + (nI 1) := ⟨_, rfl⟩
      have hk := hk y127 ey127
      refine lv_iinc (v := y127) (lv' := [(10, .int y127), (0, .ref x0), (3, .long x3), (5, .int x5), (6, .long x6), (8, .int x8)]) hx hb dX9_draws_127 hl (k := 5) rfl (by rw [ey127]; rfl) (by decide) rfl (fun ls hl => ?_)
      refine lv_goto (tgt := 104) hx hb dX9_draws_130 (by decide) ?_
      exact ih y127 h126 _ _ _ (lv_sub hl [1, 2, 3, 4, 5, 0] rfl) Z hk
set_option maxRecDepth 100000 in
set_option maxHeartbeats 4000000 in
theorem w_X9_draws_47 {p : Program} {l : Launch} {e : Env} {s : State} {m : MethodId} {args : Array Value} {below : List Frame} {meth : Method} {c : Code} {g : Gt} {h0 : Hp} (C : Cx g (dm h0) RX9 cX9_draws 11 p s m args meth c) (hr : meth.sig.returnType = (some .int)) {Post : Int32 → Hp → Prop} (x0 : Nat) (x3 : Int64)   : ∀ (n : Nat) (x5 : Int32) (x6 : Int64) (x8 : Int32) (h : Hp) (H : Heap) (locs : List Loc) (ls : Array Slot), lv_has ls 11 [(0, .ref x0), (3, .long x3), (5, .int x5), (6, .long x6), (8, .int x8)] → St g (dm h0) s h H locs → wp_X9_draws_47 Post x0 x3 n x5 x6 x8 h → W p l e rmX9_draws s m args below meth c H locs 0 0 (MQ below (Qi g h0 Post) args s 0 0 (dm h0)) (F0 m 47 ls []) := by
  have hx := C.1.1
  have hb := C.1.2.1
  have hml := C.1.2.2.1
  have hown := C.1.2.2.2.1
  have hts := C.1.2.2.2.2
  intro n
  induction n with
  | zero => intro x5 x6 x8 h H locs ls hl Z hk; exact (show False from hk).elim
  | succ n ih =>
    intro x5 x6 x8 h H locs ls hl Z hk
    unfold wp_X9_draws_47 at hk
    refine lv_iload hx hb dX9_draws_47 (lv_at hl 4 rfl) ?_
    refine lv_i2l (v := (Int32.toInt64 x8)) hx hb dX9_draws_49 rfl ?_
    refine lv_lload_n hx hb dX9_draws_50 rfl (lv_at hl 1 rfl) ?_
    refine W.lcmp hx hb dX9_draws_51 ?_
    refine lv_if_ge (tgt := 139) hx hb dX9_draws_52 (by decide) (fun q => ?_) (fun q => ?_)
    · have hk := hk.1 ((lc_ge (Int32.toInt64 x8) x3).mp q)
      refine lv_aload_n hx hb dX9_draws_139 rfl (lv_at hl 0 rfl) ?_
      refine lv_iconst (v := (nI 1)) hx hb dX9_draws_140 (by decide) ?_
      obtain ⟨ho, hk⟩ := hk
      refine r_calli Z (r_runV (As := [.int (nI 1)]) (rest := []) C Z (m_X9_inState l g h x0 (nI 1) _ hk) ho rfl (cwV 1 C.1.2.2.2.2 (gV tw_1071 tw_1073 tw_40 tw_66 tw_1074) rfl rfl rfl (by decide +kernel) ⟨Nat.le_of_ble_eq_true rfl, Nat.le_of_ble_eq_true rfl⟩) rfl hl.1 rfl (Nat.le_of_ble_eq_true rfl) dX9_draws_141 ⟨Nat.zero_le _, Nat.zero_le _⟩) (fun r141 h141 H locs hk Z => ?_)
      exact r_iret C Z hr hk dX9_draws_144
    · have hk := hk.2 (mt (lc_ge (Int32.toInt64 x8) x3).mpr q)
      refine lv_ldc2 (v := (lN 75)) hx hb hown (hts _ tw_1068) dX9_draws_55 ?_
      refine lv_lload hx hb dX9_draws_58 (lv_at hl 3 rfl) ?_
      refine lv_lmul hx hb dX9_draws_60 ?_
      refine lv_ldc2 (v := (lN 74)) hx hb hown (hts _ tw_1069) dX9_draws_61 ?_
      refine lv_ladd hx hb dX9_draws_64 ?_
      refine lv_ldc2 (v := (lN 65537)) hx hb hown (hts _ tw_1070) dX9_draws_65 ?_
      refine lv_lrem hx hb dX9_draws_68 (by decide) ?_
      refine lv_topl (fun y69 ey69 => ?_)
      have hk := hk y69 ey69
      refine lv_lstore (lv' := [(6, .long y69), (0, .ref x0), (3, .long x3), (5, .int x5), (8, .int x8)]) hx hb dX9_draws_69 hl (by decide) rfl (fun ls hl => ?_)
      refine lv_lload hx hb dX9_draws_71 (lv_at hl 0 rfl) ?_
      refine lv_iload hx hb dX9_draws_73 (lv_at hl 3 rfl) ?_
      refine lv_i2l (v := (Int32.toInt64 x5)) hx hb dX9_draws_75 rfl ?_
      obtain ⟨hz, hk⟩ := hk
      refine lv_lrem hx hb dX9_draws_76 hz ?_
      refine lv_l2i (v := (Int64.toInt32 (y69 - y69 / (Int32.toInt64 x5) * (Int32.toInt64 x5)))) hx hb dX9_draws_77 rfl ?_
      refine lv_topi (fun y78 ey78 => ?_)
      have hk := hk y78 ey78
      refine lv_istore (lv' := [(9, .int y78), (6, .long y69), (0, .ref x0), (3, .long x3), (5, .int x5), (8, .int x8)]) hx hb dX9_draws_78 hl (by decide) rfl (fun ls hl => ?_)
      refine lv_aload_n hx hb dX9_draws_80 rfl (lv_at hl 2 rfl) ?_
      obtain ⟨v81, hv, hk⟩ := hk
      refine r_get (ci := 9) (k := 0) (T := TX9) (N := 17) C Z hv ku_9 rfl (by decide) tw_857 dX9_draws_81 ?_
      refine lv_aload_n hx hb dX9_draws_84 rfl (lv_at hl 2 rfl) ?_
      obtain ⟨v85, hv, hk⟩ := hk
      refine r_get (ci := 9) (k := 4) (T := TX9) (N := 17) C Z hv ku_9 rfl (by decide) tw_861 dX9_draws_85 ?_
      refine lv_iload hx hb dX9_draws_88 (lv_at hl 0 rfl) ?_
      obtain ⟨v90, hv, hk⟩ := hk
      refine r_iald C Z hv dX9_draws_90 ?_
      refine lv_iconst (v := (nI 3)) hx hb dX9_draws_91 (by decide) ?_
      refine r_calli Z (r_runS (As := [.int v90, .int (nI 3)]) (rest := [.ref v81]) C Z (m_X9_c l g h v90 (nI 3) _ hk) (va_cwS 2 C.1.2.2.2.2 (gS tw_930 tw_931 tw_66 tw_932) rfl rfl rfl (by decide +kernel) ⟨Nat.le_of_ble_eq_true rfl, Nat.le_of_ble_eq_true rfl⟩) rfl hl.1 rfl (Nat.le_of_ble_eq_true rfl) dX9_draws_92 ⟨Nat.zero_le _, Nat.zero_le _⟩) (fun r92 h92 H locs hk Z => ?_)
      refine lv_lconst (v := lN 1) hx hb dX9_draws_95 (by decide) ?_
      obtain ⟨h96, hv, hk⟩ := hk
      refine r_last C Z hv dX9_draws_96 (fun H locs Z => ?_)
      obtain ⟨y97, ey97⟩ : ∃ y : Int32, y = x5 + (-1 : Int32) := ⟨_, rfl⟩
      have hk := hk y97 ey97
      refine lv_iinc (v := y97) (lv' := [(5, .int y97), (9, .int y78), (6, .long y69), (0, .ref x0), (3, .long x3), (8, .int x8)]) hx hb dX9_draws_97 hl (k := 4) rfl (by rw [ey97]; rfl) (by decide) rfl (fun ls hl => ?_)
      refine lv_iload hx hb dX9_draws_100 (lv_at hl 1 rfl) ?_
      refine lv_istore (lv' := [(10, .int y78), (5, .int y97), (9, .int y78), (6, .long y69), (0, .ref x0), (3, .long x3), (8, .int x8)]) hx hb dX9_draws_102 hl (by decide) rfl (fun ls hl => ?_)
      obtain ⟨n1, hk⟩ := hk
      exact w_X9_draws_104 C hr x0 x3 y97 y69 x8 ih n1 y78 h96 _ _ _ (lv_sub hl [4, 5, 1, 3, 6, 0] rfl) Z hk
set_option maxRecDepth 100000 in
set_option maxHeartbeats 4000000 in
theorem m_X9_draws (l : Launch) (g : Gt) (h : Hp) (x0 : Nat) (x1 : Int64) (x3 : Int64) (Post : Int32 → Hp → Prop) (hk : wp_X9_draws x0 x1 x3 Post h) : Met l yX9_draws wzX9_draws rmX9_draws (Pg g h [.ref x0, .long x1, .long x3]) (Qi g h Post) 0 0 (dm h) := by
  refine Met_of (cc := cX9_draws) (maxL := 11) (ret := (some .int)) (by decide) (Nat.le_of_ble_eq_true rfl) (fun p e s m below meth c ls C hr hnm hl Z => ?_)
  have hx := C.1.1
  have hb := C.1.2.1
  have hml := C.1.2.2.1
  have hown := C.1.2.2.2.1
  have hts := C.1.2.2.2.2
  have hl : lv_has ls 11 [(0, .ref x0), (1, .long x1), (3, .long x3)] := hl
  unfold wp_X9_draws at hk
  generalize s.heap = H at Z ⊢
  generalize ([] : List Loc) = locs at Z ⊢
  refine lv_lload_n hx hb dX9_draws_0 rfl (lv_at hl 1 rfl) ?_
  refine lv_lconst (v := lN 0) hx hb dX9_draws_1 (by decide) ?_
  refine lv_ldc2 (v := (lN 65536)) hx hb hown (hts _ tw_1055) dX9_draws_2 ?_
  refine r_calli Z (r_runS (As := [.long x1, .long (lN 0), .long (lN 65536)]) (rest := []) C Z (m_X9_in l g h x1 (lN 0) (lN 65536) _ hk) (va_cwS 3 C.1.2.2.2.2 (gS tw_922 tw_923 tw_66 tw_924) rfl rfl rfl (by decide +kernel) ⟨Nat.le_of_ble_eq_true rfl, Nat.le_of_ble_eq_true rfl⟩) rfl hl.1 rfl (Nat.le_of_ble_eq_true rfl) dX9_draws_5 ⟨Nat.zero_le _, Nat.zero_le _⟩) (fun r5 h5 H locs hk Z => ?_)
  refine lv_if_eq (tgt := 22) hx hb dX9_draws_8 (by decide) (fun q => ?_) (fun q => ?_)
  · have hk := hk.1 q
    refine lv_iconst (v := (-1 : Int32)) hx hb dX9_draws_22 (by decide) ?_
    exact r_iret C Z hr hk dX9_draws_23
  · have hk := hk.2 q
    refine lv_lload_n hx hb dX9_draws_11 rfl (lv_at hl 2 rfl) ?_
    refine lv_lconst (v := lN 1) hx hb dX9_draws_12 (by decide) ?_
    refine lv_ldc2 (v := (lN 40)) hx hb hown (hts _ tw_929) dX9_draws_13 ?_
    refine r_calli Z (r_runS (As := [.long x3, .long (lN 1), .long (lN 40)]) (rest := []) C Z (m_X9_in l g h5 x3 (lN 1) (lN 40) _ hk) (va_cwS 3 C.1.2.2.2.2 (gS tw_922 tw_923 tw_66 tw_924) rfl rfl rfl (by decide +kernel) ⟨Nat.le_of_ble_eq_true rfl, Nat.le_of_ble_eq_true rfl⟩) rfl hl.1 rfl (Nat.le_of_ble_eq_true rfl) dX9_draws_16 ⟨Nat.zero_le _, Nat.zero_le _⟩) (fun r16 h16 H locs hk Z => ?_)
    refine lv_if_ne (tgt := 24) hx hb dX9_draws_19 (by decide) (fun q => ?_) (fun q => ?_)
    · have hk := hk.1 q
      refine lv_aload_n hx hb dX9_draws_24 rfl (lv_at hl 0 rfl) ?_
      obtain ⟨ho, hk⟩ := hk
      refine r_calli Z (r_runV (As := []) (rest := []) C Z (m_X9_laysPool l g h16 x0 _ hk) ho rfl (cwV 0 C.1.2.2.2.2 (gV tw_1056 tw_1058 tw_37 tw_66 tw_1059) rfl rfl rfl (by decide +kernel) ⟨Nat.le_of_ble_eq_true rfl, Nat.le_of_ble_eq_true rfl⟩) rfl hl.1 rfl (Nat.le_of_ble_eq_true rfl) dX9_draws_25 ⟨Nat.zero_le _, Nat.zero_le _⟩) (fun r25 h25 H locs hk Z => ?_)
      refine lv_istore (lv' := [(5, .int r25), (0, .ref x0), (1, .long x1), (3, .long x3)]) hx hb dX9_draws_28 hl (by decide) rfl (fun ls hl => ?_)
      refine lv_iload hx hb dX9_draws_30 (lv_at hl 0 rfl) ?_
      refine lv_i2l (v := (Int32.toInt64 r25)) hx hb dX9_draws_32 rfl ?_
      refine lv_lload_n hx hb dX9_draws_33 rfl (lv_at hl 3 rfl) ?_
      refine W.lcmp hx hb dX9_draws_34 ?_
      refine lv_if_ge (tgt := 41) hx hb dX9_draws_35 (by decide) (fun q => ?_) (fun q => ?_)
      · have hk := hk.1 ((lc_ge (Int32.toInt64 r25) x3).mp q)
        refine lv_lload_n hx hb dX9_draws_41 rfl (lv_at hl 2 rfl) ?_
        refine lv_lstore (lv' := [(6, .long x1), (5, .int r25), (0, .ref x0), (1, .long x1), (3, .long x3)]) hx hb dX9_draws_42 hl (by decide) rfl (fun ls hl => ?_)
        refine lv_iconst (v := (nI 0)) hx hb dX9_draws_44 (by decide) ?_
        refine lv_istore (lv' := [(8, .int (nI 0)), (6, .long x1), (5, .int r25), (0, .ref x0), (1, .long x1), (3, .long x3)]) hx hb dX9_draws_45 hl (by decide) rfl (fun ls hl => ?_)
        obtain ⟨n1, hk⟩ := hk
        exact w_X9_draws_47 C hr x0 x3 n1 r25 x1 (nI 0) h25 _ _ _ (lv_sub hl [3, 5, 2, 1, 0] rfl) Z hk
      · have hk := hk.2 (mt (lc_ge (Int32.toInt64 r25) x3).mpr q)
        refine lv_bipush (v := (-2 : Int32)) hx hb dX9_draws_38 (by decide) ?_
        exact r_iret C Z hr hk dX9_draws_40
    · have hk := hk.2 q
      refine lv_iconst (v := (-1 : Int32)) hx hb dX9_draws_22 (by decide) ?_
      exact r_iret C Z hr hk dX9_draws_23
abbrev rmX9_looks : Room := ({ frames := 10, cells := 0, slots := 0, locals := 247 } : Room)
abbrev wzX9_looks : List Cond := WS yX9_looks cX9_looks 8 (some .int)
set_option maxRecDepth 100000 in
set_option maxHeartbeats 4000000 in
theorem m_X9_looks (l : Launch) (g : Gt) (h : Hp) (x0 : Nat) (x1 : Int64) (x3 : Int64) (Post : Int32 → Hp → Prop) (hk : wp_X9_looks x0 x1 x3 Post h) : Met l yX9_looks wzX9_looks rmX9_looks (Pg g h [.ref x0, .long x1, .long x3]) (Qi g h Post) 0 0 (dm h) := by
  refine Met_of (cc := cX9_looks) (maxL := 8) (ret := (some .int)) (by decide) (Nat.le_of_ble_eq_true rfl) (fun p e s m below meth c ls C hr hnm hl Z => ?_)
  have hx := C.1.1
  have hb := C.1.2.1
  have hml := C.1.2.2.1
  have hown := C.1.2.2.2.1
  have hts := C.1.2.2.2.2
  have hl : lv_has ls 8 [(0, .ref x0), (1, .long x1), (3, .long x3)] := hl
  unfold wp_X9_looks at hk
  generalize s.heap = H at Z ⊢
  generalize ([] : List Loc) = locs at Z ⊢
  refine lv_lload_n hx hb dX9_looks_0 rfl (lv_at hl 1 rfl) ?_
  refine lv_lconst (v := lN 0) hx hb dX9_looks_1 (by decide) ?_
  refine lv_aload_n hx hb dX9_looks_2 rfl (lv_at hl 0 rfl) ?_
  obtain ⟨v3, hv, hk⟩ := hk
  refine r_get (ci := 9) (k := 0) (T := TX9) (N := 17) C Z hv ku_9 rfl (by decide) tw_857 dX9_looks_3 ?_
  refine lv_iconst (v := (nI 0)) hx hb dX9_looks_6 (by decide) ?_
  obtain ⟨v7, hv, hk⟩ := hk
  refine r_lald C Z hv dX9_looks_7 ?_
  refine lv_lconst (v := lN 1) hx hb dX9_looks_8 (by decide) ?_
  refine lv_lsub hx hb dX9_looks_9 ?_
  refine r_calli Z (r_runS (As := [.long x1, .long (lN 0), .long (v7 - (lN 1))]) (rest := []) C Z (m_X9_in l g h x1 (lN 0) (v7 - (lN 1)) _ hk) (va_cwS 3 C.1.2.2.2.2 (gS tw_922 tw_923 tw_66 tw_924) rfl rfl rfl (by decide +kernel) ⟨Nat.le_of_ble_eq_true rfl, Nat.le_of_ble_eq_true rfl⟩) rfl hl.1 rfl (Nat.le_of_ble_eq_true rfl) dX9_looks_10 ⟨Nat.zero_le _, Nat.zero_le _⟩) (fun r10 h10 H locs hk Z => ?_)
  refine lv_if_eq (tgt := 23) hx hb dX9_looks_13 (by decide) (fun q => ?_) (fun q => ?_)
  · have hk := hk.1 q
    refine lv_iconst (v := (-1 : Int32)) hx hb dX9_looks_23 (by decide) ?_
    exact r_iret C Z hr hk dX9_looks_24
  · have hk := hk.2 q
    refine lv_lload_n hx hb dX9_looks_16 rfl (lv_at hl 2 rfl) ?_
    refine r_calli Z (r_runS (As := [.long x3]) (rest := []) C Z (m_X9_isRow l g h10 x3 _ hk) (va_cwS 1 C.1.2.2.2.2 (gS tw_925 tw_926 tw_66 tw_927) rfl rfl rfl (by decide +kernel) ⟨Nat.le_of_ble_eq_true rfl, Nat.le_of_ble_eq_true rfl⟩) rfl hl.1 rfl (Nat.le_of_ble_eq_true rfl) dX9_looks_17 ⟨Nat.zero_le _, Nat.zero_le _⟩) (fun r17 h17 H locs hk Z => ?_)
    refine lv_if_ne (tgt := 25) hx hb dX9_looks_20 (by decide) (fun q => ?_) (fun q => ?_)
    · have hk := hk.1 q
      refine lv_lload_n hx hb dX9_looks_25 rfl (lv_at hl 1 rfl) ?_
      refine lv_l2i (v := (Int64.toInt32 x1)) hx hb dX9_looks_26 rfl ?_
      refine lv_topi (fun y27 ey27 => ?_)
      have hk := hk y27 ey27
      refine lv_istore (lv' := [(5, .int y27), (0, .ref x0), (1, .long x1), (3, .long x3)]) hx hb dX9_looks_27 hl (by decide) rfl (fun ls hl => ?_)
      refine lv_aload_n hx hb dX9_looks_29 rfl (lv_at hl 1 rfl) ?_
      obtain ⟨v30, hv, hk⟩ := hk
      refine r_get (ci := 9) (k := 0) (T := TX9) (N := 17) C Z hv ku_9 rfl (by decide) tw_857 dX9_looks_30 ?_
      refine lv_iload hx hb dX9_looks_33 (lv_at hl 0 rfl) ?_
      refine lv_iconst (v := (nI 3)) hx hb dX9_looks_35 (by decide) ?_
      refine r_calli Z (r_runS (As := [.int y27, .int (nI 3)]) (rest := [.ref v30]) C Z (m_X9_c l g h17 y27 (nI 3) _ hk) (va_cwS 2 C.1.2.2.2.2 (gS tw_930 tw_931 tw_66 tw_932) rfl rfl rfl (by decide +kernel) ⟨Nat.le_of_ble_eq_true rfl, Nat.le_of_ble_eq_true rfl⟩) rfl hl.1 rfl (Nat.le_of_ble_eq_true rfl) dX9_looks_36 ⟨Nat.zero_le _, Nat.zero_le _⟩) (fun r36 h36 H locs hk Z => ?_)
      obtain ⟨v39, hv, hk⟩ := hk
      refine r_lald C Z hv dX9_looks_39 ?_
      refine lv_lconst (v := lN 1) hx hb dX9_looks_40 (by decide) ?_
      refine W.lcmp hx hb dX9_looks_41 ?_
      refine lv_if_eq (tgt := 48) hx hb dX9_looks_42 (by decide) (fun q => ?_) (fun q => ?_)
      · have hk := hk.1 ((lc_eq v39 (lN 1)).mp q)
        refine lv_aload_n hx hb dX9_looks_48 rfl (lv_at hl 1 rfl) ?_
        refine lv_iload hx hb dX9_looks_49 (lv_at hl 0 rfl) ?_
        refine lv_aload_n hx hb dX9_looks_51 rfl (lv_at hl 1 rfl) ?_
        obtain ⟨ho, hk⟩ := hk
        refine r_calli Z (r_runV (As := []) (rest := [.int y27, .ref x0]) C Z (m_X9_length l g h36 x0 _ hk) ho rfl (cwV 0 C.1.2.2.2.2 (gV tw_979 tw_981 tw_22 tw_66 tw_982) rfl rfl rfl (by decide +kernel) ⟨Nat.le_of_ble_eq_true rfl, Nat.le_of_ble_eq_true rfl⟩) rfl hl.1 rfl (Nat.le_of_ble_eq_true rfl) dX9_looks_52 ⟨Nat.zero_le _, Nat.zero_le _⟩) (fun r52 h52 H locs hk Z => ?_)
        obtain ⟨ho, hk⟩ := hk
        refine r_calll Z (r_runV (As := [.int y27, .int r52]) (rest := []) C Z (m_X9_outcomes l g h52 x0 y27 r52 _ hk) ho rfl (cwV 2 C.1.2.2.2.2 (gV tw_983 tw_985 tw_23 tw_66 tw_986) rfl rfl rfl (by decide +kernel) ⟨Nat.le_of_ble_eq_true rfl, Nat.le_of_ble_eq_true rfl⟩) rfl hl.1 rfl (Nat.le_of_ble_eq_true rfl) dX9_looks_55 ⟨Nat.zero_le _, Nat.zero_le _⟩) (fun r55 h55 H locs hk Z => ?_)
        refine lv_lstore (lv' := [(6, .long r55), (5, .int y27), (0, .ref x0), (1, .long x1), (3, .long x3)]) hx hb dX9_looks_58 hl (by decide) rfl (fun ls hl => ?_)
        refine lv_aload_n hx hb dX9_looks_60 rfl (lv_at hl 2 rfl) ?_
        obtain ⟨v61, hv, hk⟩ := hk
        refine r_get (ci := 9) (k := 0) (T := TX9) (N := 17) C Z hv ku_9 rfl (by decide) tw_857 dX9_looks_61 ?_
        refine lv_iload hx hb dX9_looks_64 (lv_at hl 1 rfl) ?_
        refine lv_iconst (v := (nI 3)) hx hb dX9_looks_66 (by decide) ?_
        refine r_calli Z (r_runS (As := [.int y27, .int (nI 3)]) (rest := [.ref v61]) C Z (m_X9_c l g h55 y27 (nI 3) _ hk) (va_cwS 2 C.1.2.2.2.2 (gS tw_930 tw_931 tw_66 tw_932) rfl rfl rfl (by decide +kernel) ⟨Nat.le_of_ble_eq_true rfl, Nat.le_of_ble_eq_true rfl⟩) rfl hl.1 rfl (Nat.le_of_ble_eq_true rfl) dX9_looks_67 ⟨Nat.zero_le _, Nat.zero_le _⟩) (fun r67 h67 H locs hk Z => ?_)
        refine lv_ldc2 (v := (lN 2)) hx hb hown (hts _ tw_921) dX9_looks_70 ?_
        obtain ⟨h73, hv, hk⟩ := hk
        refine r_last C Z hv dX9_looks_73 (fun H locs Z => ?_)
        refine lv_aload_n hx hb dX9_looks_74 rfl (lv_at hl 2 rfl) ?_
        obtain ⟨v75, hv, hk⟩ := hk
        refine r_get (ci := 9) (k := 0) (T := TX9) (N := 17) C Z hv ku_9 rfl (by decide) tw_857 dX9_looks_75 ?_
        refine lv_iload hx hb dX9_looks_78 (lv_at hl 1 rfl) ?_
        refine lv_iconst (v := (nI 4)) hx hb dX9_looks_80 (by decide) ?_
        refine r_calli Z (r_runS (As := [.int y27, .int (nI 4)]) (rest := [.ref v75]) C Z (m_X9_c l g h73 y27 (nI 4) _ hk) (va_cwS 2 C.1.2.2.2.2 (gS tw_930 tw_931 tw_66 tw_932) rfl rfl rfl (by decide +kernel) ⟨Nat.le_of_ble_eq_true rfl, Nat.le_of_ble_eq_true rfl⟩) rfl hl.1 rfl (Nat.le_of_ble_eq_true rfl) dX9_looks_81 ⟨Nat.zero_le _, Nat.zero_le _⟩) (fun r81 h81 H locs hk Z => ?_)
        refine lv_lload_n hx hb dX9_looks_84 rfl (lv_at hl 4 rfl) ?_
        obtain ⟨h85, hv, hk⟩ := hk
        refine r_last C Z hv dX9_looks_85 (fun H locs Z => ?_)
        refine lv_lload hx hb dX9_looks_86 (lv_at hl 0 rfl) ?_
        refine lv_aload_n hx hb dX9_looks_88 rfl (lv_at hl 2 rfl) ?_
        refine lv_iload hx hb dX9_looks_89 (lv_at hl 1 rfl) ?_
        refine lv_aload_n hx hb dX9_looks_91 rfl (lv_at hl 2 rfl) ?_
        obtain ⟨ho, hk⟩ := hk
        refine r_calli Z (r_runV (As := []) (rest := [.int y27, .ref x0, .long r55]) C Z (m_X9_length l g h85 x0 _ hk) ho rfl (cwV 0 C.1.2.2.2.2 (gV tw_979 tw_981 tw_22 tw_66 tw_982) rfl rfl rfl (by decide +kernel) ⟨Nat.le_of_ble_eq_true rfl, Nat.le_of_ble_eq_true rfl⟩) rfl hl.1 rfl (Nat.le_of_ble_eq_true rfl) dX9_looks_92 ⟨Nat.zero_le _, Nat.zero_le _⟩) (fun r92 h92 H locs hk Z => ?_)
        obtain ⟨ho, hk⟩ := hk
        refine r_calll Z (r_runV (As := [.int y27, .int r92]) (rest := [.long r55]) C Z (m_X9_outcomes l g h92 x0 y27 r92 _ hk) ho rfl (cwV 2 C.1.2.2.2.2 (gV tw_983 tw_985 tw_23 tw_66 tw_986) rfl rfl rfl (by decide +kernel) ⟨Nat.le_of_ble_eq_true rfl, Nat.le_of_ble_eq_true rfl⟩) rfl hl.1 rfl (Nat.le_of_ble_eq_true rfl) dX9_looks_95 ⟨Nat.zero_le _, Nat.zero_le _⟩) (fun r95 h95 H locs hk Z => ?_)
        refine r_calli Z (r_runS (As := [.long r55, .long r95]) (rest := []) C Z (m_X9_differences l g h95 r55 r95 _ hk) (va_cwS 2 C.1.2.2.2.2 (gS tw_1040 tw_1041 tw_66 tw_1042) rfl rfl rfl (by decide +kernel) ⟨Nat.le_of_ble_eq_true rfl, Nat.le_of_ble_eq_true rfl⟩) rfl hl.1 rfl (Nat.le_of_ble_eq_true rfl) dX9_looks_98 ⟨Nat.zero_le _, Nat.zero_le _⟩) (fun r98 h98 H locs hk Z => ?_)
        exact r_iret C Z hr hk dX9_looks_101
      · have hk := hk.2 (mt (lc_eq v39 (lN 1)).mpr q)
        refine lv_bipush (v := (-2 : Int32)) hx hb dX9_looks_45 (by decide) ?_
        exact r_iret C Z hr hk dX9_looks_47
    · have hk := hk.2 q
      refine lv_iconst (v := (-1 : Int32)) hx hb dX9_looks_23 (by decide) ?_
      exact r_iret C Z hr hk dX9_looks_24
abbrev rmX9_scan : Room := ({ frames := 3, cells := 0, slots := 0, locals := 71 } : Room)
abbrev wzX9_scan : List Cond := WS yX9_scan cX9_scan 4 (some .int)
set_option maxRecDepth 100000 in
set_option maxHeartbeats 4000000 in
theorem m_X9_scan (l : Launch) (g : Gt) (h : Hp) (x0 : Nat) (x1 : Int32) (x2 : Int64) (Post : Int32 → Hp → Prop) (hk : wp_X9_scan x0 x1 x2 Post h) : Met l yX9_scan wzX9_scan rmX9_scan (Pg g h [.ref x0, .int x1, .long x2]) (Qi g h Post) 0 0 (dm h) := by
  refine Met_of (cc := cX9_scan) (maxL := 4) (ret := (some .int)) (by decide) (Nat.le_of_ble_eq_true rfl) (fun p e s m below meth c ls C hr hnm hl Z => ?_)
  have hx := C.1.1
  have hb := C.1.2.1
  have hml := C.1.2.2.1
  have hown := C.1.2.2.2.1
  have hts := C.1.2.2.2.2
  have hl : lv_has ls 4 [(0, .ref x0), (1, .int x1), (2, .long x2)] := hl
  unfold wp_X9_scan at hk
  generalize s.heap = H at Z ⊢
  generalize ([] : List Loc) = locs at Z ⊢
  refine lv_aload_n hx hb dX9_scan_0 rfl (lv_at hl 0 rfl) ?_
  obtain ⟨ho, hk⟩ := hk
  refine r_callv Z (r_runV (As := []) (rest := []) C Z (m_X9_keeps l g h x0 _ hk) ho rfl (cwV 0 C.1.2.2.2.2 (gV tw_913 tw_915 tw_14 tw_66 tw_916) rfl rfl rfl (by decide +kernel) ⟨Nat.le_of_ble_eq_true rfl, Nat.le_of_ble_eq_true rfl⟩) rfl hl.1 rfl (Nat.le_of_ble_eq_true rfl) dX9_scan_1 ⟨Nat.zero_le _, Nat.zero_le _⟩) (fun h1 H locs hk Z => ?_)
  refine lv_aload_n hx hb dX9_scan_4 rfl (lv_at hl 0 rfl) ?_
  refine lv_aload_n hx hb dX9_scan_5 rfl (lv_at hl 0 rfl) ?_
  refine lv_iload_n hx hb dX9_scan_6 rfl (lv_at hl 1 rfl) ?_
  refine lv_i2l (v := (Int32.toInt64 x1)) hx hb dX9_scan_7 rfl ?_
  refine lv_lload_n hx hb dX9_scan_8 rfl (lv_at hl 2 rfl) ?_
  obtain ⟨ho, hk⟩ := hk
  refine r_calli Z (r_runV (As := [.long (Int32.toInt64 x1), .long x2]) (rest := [.ref x0]) C Z (m_X9_scans l g h1 x0 (Int32.toInt64 x1) x2 _ hk) ho rfl (cwV 2 C.1.2.2.2.2 (gV tw_917 tw_919 tw_15 tw_66 tw_920) rfl rfl rfl (by decide +kernel) ⟨Nat.le_of_ble_eq_true rfl, Nat.le_of_ble_eq_true rfl⟩) rfl hl.1 rfl (Nat.le_of_ble_eq_true rfl) dX9_scan_9 ⟨Nat.zero_le _, Nat.zero_le _⟩) (fun r9 h9 H locs hk Z => ?_)
  obtain ⟨ho, hk⟩ := hk
  refine r_calli Z (r_runV (As := [.int r9]) (rest := []) C Z (m_X9_acted l g h9 x0 r9 _ hk) ho rfl (cwV 1 C.1.2.2.2.2 (gV tw_933 tw_935 tw_16 tw_66 tw_936) rfl rfl rfl (by decide +kernel) ⟨Nat.le_of_ble_eq_true rfl, Nat.le_of_ble_eq_true rfl⟩) rfl hl.1 rfl (Nat.le_of_ble_eq_true rfl) dX9_scan_12 ⟨Nat.zero_le _, Nat.zero_le _⟩) (fun r12 h12 H locs hk Z => ?_)
  exact r_iret C Z hr hk dX9_scan_15
abbrev rmX9_clean : Room := ({ frames := 3, cells := 0, slots := 0, locals := 66 } : Room)
abbrev wzX9_clean : List Cond := WS yX9_clean cX9_clean 2 (some .int)
set_option maxRecDepth 100000 in
set_option maxHeartbeats 4000000 in
theorem m_X9_clean (l : Launch) (g : Gt) (h : Hp) (x0 : Nat) (x1 : Int32) (Post : Int32 → Hp → Prop) (hk : wp_X9_clean x0 x1 Post h) : Met l yX9_clean wzX9_clean rmX9_clean (Pg g h [.ref x0, .int x1]) (Qi g h Post) 0 0 (dm h) := by
  refine Met_of (cc := cX9_clean) (maxL := 2) (ret := (some .int)) (by decide) (Nat.le_of_ble_eq_true rfl) (fun p e s m below meth c ls C hr hnm hl Z => ?_)
  have hx := C.1.1
  have hb := C.1.2.1
  have hml := C.1.2.2.1
  have hown := C.1.2.2.2.1
  have hts := C.1.2.2.2.2
  have hl : lv_has ls 2 [(0, .ref x0), (1, .int x1)] := hl
  unfold wp_X9_clean at hk
  generalize s.heap = H at Z ⊢
  generalize ([] : List Loc) = locs at Z ⊢
  refine lv_aload_n hx hb dX9_clean_0 rfl (lv_at hl 0 rfl) ?_
  obtain ⟨ho, hk⟩ := hk
  refine r_callv Z (r_runV (As := []) (rest := []) C Z (m_X9_keeps l g h x0 _ hk) ho rfl (cwV 0 C.1.2.2.2.2 (gV tw_913 tw_915 tw_14 tw_66 tw_916) rfl rfl rfl (by decide +kernel) ⟨Nat.le_of_ble_eq_true rfl, Nat.le_of_ble_eq_true rfl⟩) rfl hl.1 rfl (Nat.le_of_ble_eq_true rfl) dX9_clean_1 ⟨Nat.zero_le _, Nat.zero_le _⟩) (fun h1 H locs hk Z => ?_)
  refine lv_aload_n hx hb dX9_clean_4 rfl (lv_at hl 0 rfl) ?_
  refine lv_aload_n hx hb dX9_clean_5 rfl (lv_at hl 0 rfl) ?_
  refine lv_iload_n hx hb dX9_clean_6 rfl (lv_at hl 1 rfl) ?_
  refine lv_i2l (v := (Int32.toInt64 x1)) hx hb dX9_clean_7 rfl ?_
  obtain ⟨ho, hk⟩ := hk
  refine r_calli Z (r_runV (As := [.long (Int32.toInt64 x1)]) (rest := [.ref x0]) C Z (m_X9_cleans l g h1 x0 (Int32.toInt64 x1) _ hk) ho rfl (cwV 1 C.1.2.2.2.2 (gV tw_943 tw_945 tw_17 tw_66 tw_946) rfl rfl rfl (by decide +kernel) ⟨Nat.le_of_ble_eq_true rfl, Nat.le_of_ble_eq_true rfl⟩) rfl hl.1 rfl (Nat.le_of_ble_eq_true rfl) dX9_clean_8 ⟨Nat.zero_le _, Nat.zero_le _⟩) (fun r8 h8 H locs hk Z => ?_)
  obtain ⟨ho, hk⟩ := hk
  refine r_calli Z (r_runV (As := [.int r8]) (rest := []) C Z (m_X9_acted l g h8 x0 r8 _ hk) ho rfl (cwV 1 C.1.2.2.2.2 (gV tw_933 tw_935 tw_16 tw_66 tw_936) rfl rfl rfl (by decide +kernel) ⟨Nat.le_of_ble_eq_true rfl, Nat.le_of_ble_eq_true rfl⟩) rfl hl.1 rfl (Nat.le_of_ble_eq_true rfl) dX9_clean_11 ⟨Nat.zero_le _, Nat.zero_le _⟩) (fun r11 h11 H locs hk Z => ?_)
  exact r_iret C Z hr hk dX9_clean_14
abbrev rmX9_isSetting : Room := ({ frames := 1, cells := 0, slots := 0, locals := 25 } : Room)
abbrev wzX9_isSetting : List Cond := WS yX9_isSetting cX9_isSetting 2 (some .boolean)
set_option maxRecDepth 100000 in
set_option maxHeartbeats 4000000 in
theorem m_X9_isSetting (l : Launch) (g : Gt) (h : Hp) (x0 : Int32) (x1 : Int32) (Post : Int32 → Hp → Prop) (hk : wp_X9_isSetting x0 x1 Post h) : Met l yX9_isSetting wzX9_isSetting rmX9_isSetting (Pg g h [.int x0, .int x1]) (Qi g h Post) 0 0 (dm h) := by
  refine Met_of (cc := cX9_isSetting) (maxL := 2) (ret := (some .boolean)) (by decide) (Nat.le_of_ble_eq_true rfl) (fun p e s m below meth c ls C hr hnm hl Z => ?_)
  have hx := C.1.1
  have hb := C.1.2.1
  have hml := C.1.2.2.1
  have hown := C.1.2.2.2.1
  have hts := C.1.2.2.2.2
  have hl : lv_has ls 2 [(0, .int x0), (1, .int x1)] := hl
  unfold wp_X9_isSetting at hk
  generalize s.heap = H at Z ⊢
  generalize ([] : List Loc) = locs at Z ⊢
  refine lv_iload_n hx hb dX9_isSetting_0 rfl (lv_at hl 0 rfl) ?_
  rcases Classical.em (x0 = (nI 0)) with q | q0
  · have hk := hk.1 q
    refine lv_tableIn (tgt := 32) hx hb dX9_isSetting_1 (by rw [q]; decide) (by rw [q]; decide) (by rw [q]; rfl) (by decide) ?_
    refine lv_iload_n hx hb dX9_isSetting_32 rfl (lv_at hl 1 rfl) ?_
    refine lv_i2l (v := (Int32.toInt64 x1)) hx hb dX9_isSetting_33 rfl ?_
    refine lv_ldc2 (v := (lN 2)) hx hb hown (hts _ tw_921) dX9_isSetting_34 ?_
    refine lv_ldc2 (v := (lN 9)) hx hb hown (hts _ tw_958) dX9_isSetting_37 ?_
    refine r_calli Z (r_runS (As := [.long (Int32.toInt64 x1), .long (lN 2), .long (lN 9)]) (rest := []) C Z (m_X9_in l g h (Int32.toInt64 x1) (lN 2) (lN 9) _ hk) (va_cwS 3 C.1.2.2.2.2 (gS tw_922 tw_923 tw_66 tw_924) rfl rfl rfl (by decide +kernel) ⟨Nat.le_of_ble_eq_true rfl, Nat.le_of_ble_eq_true rfl⟩) rfl hl.1 rfl (Nat.le_of_ble_eq_true rfl) dX9_isSetting_40 ⟨Nat.zero_le _, Nat.zero_le _⟩) (fun r40 h40 H locs hk Z => ?_)
    exact r_zret C Z hr hk.1 hk.2 dX9_isSetting_43
  · have hk := hk.2 q0
    rcases Classical.em (x0 = (nI 1)) with q | q1
    · have hk := hk.1 q
      refine lv_tableIn (tgt := 44) hx hb dX9_isSetting_1 (by rw [q]; decide) (by rw [q]; decide) (by rw [q]; rfl) (by decide) ?_
      refine lv_iload_n hx hb dX9_isSetting_44 rfl (lv_at hl 1 rfl) ?_
      refine lv_i2l (v := (Int32.toInt64 x1)) hx hb dX9_isSetting_45 rfl ?_
      refine lv_lconst (v := lN 1) hx hb dX9_isSetting_46 (by decide) ?_
      refine lv_ldc2 (v := (lN 9)) hx hb hown (hts _ tw_958) dX9_isSetting_47 ?_
      refine r_calli Z (r_runS (As := [.long (Int32.toInt64 x1), .long (lN 1), .long (lN 9)]) (rest := []) C Z (m_X9_in l g h (Int32.toInt64 x1) (lN 1) (lN 9) _ hk) (va_cwS 3 C.1.2.2.2.2 (gS tw_922 tw_923 tw_66 tw_924) rfl rfl rfl (by decide +kernel) ⟨Nat.le_of_ble_eq_true rfl, Nat.le_of_ble_eq_true rfl⟩) rfl hl.1 rfl (Nat.le_of_ble_eq_true rfl) dX9_isSetting_50 ⟨Nat.zero_le _, Nat.zero_le _⟩) (fun r50 h50 H locs hk Z => ?_)
      exact r_zret C Z hr hk.1 hk.2 dX9_isSetting_53
    · have hk := hk.2 q1
      rcases Classical.em (x0 = (nI 2)) with q | q2
      · have hk := hk.1 q
        refine lv_tableIn (tgt := 54) hx hb dX9_isSetting_1 (by rw [q]; decide) (by rw [q]; decide) (by rw [q]; rfl) (by decide) ?_
        refine lv_iload_n hx hb dX9_isSetting_54 rfl (lv_at hl 1 rfl) ?_
        refine lv_i2l (v := (Int32.toInt64 x1)) hx hb dX9_isSetting_55 rfl ?_
        refine lv_lconst (v := lN 1) hx hb dX9_isSetting_56 (by decide) ?_
        refine lv_ldc2 (v := (lN 9)) hx hb hown (hts _ tw_958) dX9_isSetting_57 ?_
        refine r_calli Z (r_runS (As := [.long (Int32.toInt64 x1), .long (lN 1), .long (lN 9)]) (rest := []) C Z (m_X9_in l g h (Int32.toInt64 x1) (lN 1) (lN 9) _ hk) (va_cwS 3 C.1.2.2.2.2 (gS tw_922 tw_923 tw_66 tw_924) rfl rfl rfl (by decide +kernel) ⟨Nat.le_of_ble_eq_true rfl, Nat.le_of_ble_eq_true rfl⟩) rfl hl.1 rfl (Nat.le_of_ble_eq_true rfl) dX9_isSetting_60 ⟨Nat.zero_le _, Nat.zero_le _⟩) (fun r60 h60 H locs hk Z => ?_)
        exact r_zret C Z hr hk.1 hk.2 dX9_isSetting_63
      · have hk := hk.2 q2
        rcases Classical.em (x0 = (nI 3)) with q | q3
        · have hk := hk.1 q
          refine lv_tableIn (tgt := 64) hx hb dX9_isSetting_1 (by rw [q]; decide) (by rw [q]; decide) (by rw [q]; rfl) (by decide) ?_
          refine lv_iload_n hx hb dX9_isSetting_64 rfl (lv_at hl 1 rfl) ?_
          refine lv_i2l (v := (Int32.toInt64 x1)) hx hb dX9_isSetting_65 rfl ?_
          refine lv_lconst (v := lN 0) hx hb dX9_isSetting_66 (by decide) ?_
          refine lv_ldc2 (v := (lN 20)) hx hb hown (hts _ tw_959) dX9_isSetting_67 ?_
          refine r_calli Z (r_runS (As := [.long (Int32.toInt64 x1), .long (lN 0), .long (lN 20)]) (rest := []) C Z (m_X9_in l g h (Int32.toInt64 x1) (lN 0) (lN 20) _ hk) (va_cwS 3 C.1.2.2.2.2 (gS tw_922 tw_923 tw_66 tw_924) rfl rfl rfl (by decide +kernel) ⟨Nat.le_of_ble_eq_true rfl, Nat.le_of_ble_eq_true rfl⟩) rfl hl.1 rfl (Nat.le_of_ble_eq_true rfl) dX9_isSetting_70 ⟨Nat.zero_le _, Nat.zero_le _⟩) (fun r70 h70 H locs hk Z => ?_)
          exact r_zret C Z hr hk.1 hk.2 dX9_isSetting_73
        · have hk := hk.2 q3
          refine lv_tableOut (tgt := 74) hx hb dX9_isSetting_1 (by have t0 := ne_toI q0 (show Int32.toInt (nI 0) = (0 : Int) by decide); have t1 := ne_toI q1 (show Int32.toInt (nI 1) = (1 : Int) by decide); have t2 := ne_toI q2 (show Int32.toInt (nI 2) = (2 : Int) by decide); have t3 := ne_toI q3 (show Int32.toInt (nI 3) = (3 : Int) by decide); omega) (by decide) ?_
          refine lv_iconst (v := (nI 0)) hx hb dX9_isSetting_74 (by decide) ?_
          exact r_zret C Z hr (Or.inl rfl) hk dX9_isSetting_75
abbrev rmX9_set : Room := ({ frames := 2, cells := 0, slots := 0, locals := 47 } : Room)
abbrev wzX9_set : List Cond := WS yX9_set cX9_set 4 (some .int)
set_option maxRecDepth 100000 in
set_option maxHeartbeats 4000000 in
theorem m_X9_set (l : Launch) (g : Gt) (h : Hp) (x0 : Nat) (x1 : Int32) (x2 : Int32) (Post : Int32 → Hp → Prop) (hk : wp_X9_set x0 x1 x2 Post h) : Met l yX9_set wzX9_set rmX9_set (Pg g h [.ref x0, .int x1, .int x2]) (Qi g h Post) 0 0 (dm h) := by
  refine Met_of (cc := cX9_set) (maxL := 4) (ret := (some .int)) (by decide) (Nat.le_of_ble_eq_true rfl) (fun p e s m below meth c ls C hr hnm hl Z => ?_)
  have hx := C.1.1
  have hb := C.1.2.1
  have hml := C.1.2.2.1
  have hown := C.1.2.2.2.1
  have hts := C.1.2.2.2.2
  have hl : lv_has ls 4 [(0, .ref x0), (1, .int x1), (2, .int x2)] := hl
  unfold wp_X9_set at hk
  generalize s.heap = H at Z ⊢
  generalize ([] : List Loc) = locs at Z ⊢
  refine lv_iload_n hx hb dX9_set_0 rfl (lv_at hl 1 rfl) ?_
  refine lv_iload_n hx hb dX9_set_1 rfl (lv_at hl 2 rfl) ?_
  refine r_calli Z (r_runS (As := [.int x1, .int x2]) (rest := []) C Z (m_X9_isSetting l g h x1 x2 _ hk) (va_cwS 2 C.1.2.2.2.2 (gS tw_955 tw_956 tw_66 tw_957) rfl rfl rfl (by decide +kernel) ⟨Nat.le_of_ble_eq_true rfl, Nat.le_of_ble_eq_true rfl⟩) rfl hl.1 rfl (Nat.le_of_ble_eq_true rfl) dX9_set_2 ⟨Nat.zero_le _, Nat.zero_le _⟩) (fun r2 h2 H locs hk Z => ?_)
  refine lv_if_ne (tgt := 10) hx hb dX9_set_5 (by decide) (fun q => ?_) (fun q => ?_)
  · have hk := hk.1 q
    refine lv_aload_n hx hb dX9_set_10 rfl (lv_at hl 0 rfl) ?_
    obtain ⟨ho, hk⟩ := hk
    refine r_callv Z (r_runV (As := []) (rest := []) C Z (m_X9_keeps l g h2 x0 _ hk) ho rfl (cwV 0 C.1.2.2.2.2 (gV tw_913 tw_915 tw_14 tw_66 tw_916) rfl rfl rfl (by decide +kernel) ⟨Nat.le_of_ble_eq_true rfl, Nat.le_of_ble_eq_true rfl⟩) rfl hl.1 rfl (Nat.le_of_ble_eq_true rfl) dX9_set_11 ⟨Nat.zero_le _, Nat.zero_le _⟩) (fun h11 H locs hk Z => ?_)
    refine lv_aload_n hx hb dX9_set_14 rfl (lv_at hl 0 rfl) ?_
    obtain ⟨v15, hv, hk⟩ := hk
    refine r_get (ci := 9) (k := 0) (T := TX9) (N := 17) C Z hv ku_9 rfl (by decide) tw_857 dX9_set_15 ?_
    refine lv_iconst (v := (nI 2)) hx hb dX9_set_18 (by decide) ?_
    refine lv_iload_n hx hb dX9_set_19 rfl (lv_at hl 1 rfl) ?_
    refine lv_iadd hx hb dX9_set_20 ?_
    obtain ⟨v21, hv, hk⟩ := hk
    refine r_lald C Z hv dX9_set_21 ?_
    refine lv_l2i (v := (Int64.toInt32 v21)) hx hb dX9_set_22 rfl ?_
    refine lv_topi (fun y23 ey23 => ?_)
    have hk := hk y23 ey23
    refine lv_istore_n (lv' := [(3, .int y23), (0, .ref x0), (1, .int x1), (2, .int x2)]) hx hb dX9_set_23 rfl hl (by decide) rfl (fun ls hl => ?_)
    refine lv_aload_n hx hb dX9_set_24 rfl (lv_at hl 1 rfl) ?_
    obtain ⟨v25, hv, hk⟩ := hk
    refine r_get (ci := 9) (k := 0) (T := TX9) (N := 17) C Z hv ku_9 rfl (by decide) tw_857 dX9_set_25 ?_
    refine lv_iconst (v := (nI 2)) hx hb dX9_set_28 (by decide) ?_
    refine lv_iload_n hx hb dX9_set_29 rfl (lv_at hl 2 rfl) ?_
    refine lv_iadd hx hb dX9_set_30 ?_
    refine lv_iload_n hx hb dX9_set_31 rfl (lv_at hl 3 rfl) ?_
    refine lv_i2l (v := (Int32.toInt64 x2)) hx hb dX9_set_32 rfl ?_
    obtain ⟨h33, hv, hk⟩ := hk
    refine r_last C Z hv dX9_set_33 (fun H locs Z => ?_)
    refine lv_aload_n hx hb dX9_set_34 rfl (lv_at hl 1 rfl) ?_
    refine lv_iload_n hx hb dX9_set_35 rfl (lv_at hl 0 rfl) ?_
    obtain ⟨ho, hk⟩ := hk
    refine r_calli Z (r_runV (As := [.int y23]) (rest := []) C Z (m_X9_acted l g h33 x0 y23 _ hk) ho rfl (cwV 1 C.1.2.2.2.2 (gV tw_933 tw_935 tw_16 tw_66 tw_936) rfl rfl rfl (by decide +kernel) ⟨Nat.le_of_ble_eq_true rfl, Nat.le_of_ble_eq_true rfl⟩) rfl hl.1 rfl (Nat.le_of_ble_eq_true rfl) dX9_set_36 ⟨Nat.zero_le _, Nat.zero_le _⟩) (fun r36 h36 H locs hk Z => ?_)
    exact r_iret C Z hr hk dX9_set_39
  · have hk := hk.2 q
    refine lv_iconst (v := (-1 : Int32)) hx hb dX9_set_8 (by decide) ?_
    exact r_iret C Z hr hk dX9_set_9
abbrev rmX9_publish : Room := ({ frames := 13, cells := 0, slots := 0, locals := 315 } : Room)
abbrev wzX9_publish : List Cond := WS yX9_publish cX9_publish 1 (some .int)
set_option maxRecDepth 100000 in
set_option maxHeartbeats 4000000 in
theorem m_X9_publish (l : Launch) (g : Gt) (h : Hp) (x0 : Nat) (Post : Int32 → Hp → Prop) (hk : wp_X9_publish x0 Post h) : Met l yX9_publish wzX9_publish rmX9_publish (Pg g h [.ref x0]) (Qi g h Post) 0 0 (dm h) := by
  refine Met_of (cc := cX9_publish) (maxL := 1) (ret := (some .int)) (by decide) (Nat.le_of_ble_eq_true rfl) (fun p e s m below meth c ls C hr hnm hl Z => ?_)
  have hx := C.1.1
  have hb := C.1.2.1
  have hml := C.1.2.2.1
  have hown := C.1.2.2.2.1
  have hts := C.1.2.2.2.2
  have hl : lv_has ls 1 [(0, .ref x0)] := hl
  unfold wp_X9_publish at hk
  generalize s.heap = H at Z ⊢
  generalize ([] : List Loc) = locs at Z ⊢
  refine lv_aload_n hx hb dX9_publish_0 rfl (lv_at hl 0 rfl) ?_
  obtain ⟨ho, hk⟩ := hk
  refine r_callv Z (r_runV (As := []) (rest := []) C Z (m_X9_keeps l g h x0 _ hk) ho rfl (cwV 0 C.1.2.2.2.2 (gV tw_913 tw_915 tw_14 tw_66 tw_916) rfl rfl rfl (by decide +kernel) ⟨Nat.le_of_ble_eq_true rfl, Nat.le_of_ble_eq_true rfl⟩) rfl hl.1 rfl (Nat.le_of_ble_eq_true rfl) dX9_publish_1 ⟨Nat.zero_le _, Nat.zero_le _⟩) (fun h1 H locs hk Z => ?_)
  refine lv_aload_n hx hb dX9_publish_4 rfl (lv_at hl 0 rfl) ?_
  refine lv_aload_n hx hb dX9_publish_5 rfl (lv_at hl 0 rfl) ?_
  obtain ⟨ho, hk⟩ := hk
  refine r_calli Z (r_runV (As := []) (rest := [.ref x0]) C Z (m_X9_publishes l g h1 x0 _ hk) ho rfl (cwV 0 C.1.2.2.2.2 (gV tw_964 tw_966 tw_19 tw_66 tw_967) rfl rfl rfl (by decide +kernel) ⟨Nat.le_of_ble_eq_true rfl, Nat.le_of_ble_eq_true rfl⟩) rfl hl.1 rfl (Nat.le_of_ble_eq_true rfl) dX9_publish_6 ⟨Nat.zero_le _, Nat.zero_le _⟩) (fun r6 h6 H locs hk Z => ?_)
  obtain ⟨ho, hk⟩ := hk
  refine r_calli Z (r_runV (As := [.int r6]) (rest := []) C Z (m_X9_acted l g h6 x0 r6 _ hk) ho rfl (cwV 1 C.1.2.2.2.2 (gV tw_933 tw_935 tw_16 tw_66 tw_936) rfl rfl rfl (by decide +kernel) ⟨Nat.le_of_ble_eq_true rfl, Nat.le_of_ble_eq_true rfl⟩) rfl hl.1 rfl (Nat.le_of_ble_eq_true rfl) dX9_publish_9 ⟨Nat.zero_le _, Nat.zero_le _⟩) (fun r9 h9 H locs hk Z => ?_)
  exact r_iret C Z hr hk dX9_publish_12
abbrev rmX9_draw : Room := ({ frames := 14, cells := 0, slots := 0, locals := 342 } : Room)
abbrev wzX9_draw : List Cond := WS yX9_draw cX9_draw 3 (some .int)
set_option maxRecDepth 100000 in
set_option maxHeartbeats 4000000 in
theorem m_X9_draw (l : Launch) (g : Gt) (h : Hp) (x0 : Nat) (x1 : Int32) (x2 : Int32) (Post : Int32 → Hp → Prop) (hk : wp_X9_draw x0 x1 x2 Post h) : Met l yX9_draw wzX9_draw rmX9_draw (Pg g h [.ref x0, .int x1, .int x2]) (Qi g h Post) 0 0 (dm h) := by
  refine Met_of (cc := cX9_draw) (maxL := 3) (ret := (some .int)) (by decide) (Nat.le_of_ble_eq_true rfl) (fun p e s m below meth c ls C hr hnm hl Z => ?_)
  have hx := C.1.1
  have hb := C.1.2.1
  have hml := C.1.2.2.1
  have hown := C.1.2.2.2.1
  have hts := C.1.2.2.2.2
  have hl : lv_has ls 3 [(0, .ref x0), (1, .int x1), (2, .int x2)] := hl
  unfold wp_X9_draw at hk
  generalize s.heap = H at Z ⊢
  generalize ([] : List Loc) = locs at Z ⊢
  refine lv_aload_n hx hb dX9_draw_0 rfl (lv_at hl 0 rfl) ?_
  obtain ⟨ho, hk⟩ := hk
  refine r_callv Z (r_runV (As := []) (rest := []) C Z (m_X9_keeps l g h x0 _ hk) ho rfl (cwV 0 C.1.2.2.2.2 (gV tw_913 tw_915 tw_14 tw_66 tw_916) rfl rfl rfl (by decide +kernel) ⟨Nat.le_of_ble_eq_true rfl, Nat.le_of_ble_eq_true rfl⟩) rfl hl.1 rfl (Nat.le_of_ble_eq_true rfl) dX9_draw_1 ⟨Nat.zero_le _, Nat.zero_le _⟩) (fun h1 H locs hk Z => ?_)
  refine lv_aload_n hx hb dX9_draw_4 rfl (lv_at hl 0 rfl) ?_
  refine lv_aload_n hx hb dX9_draw_5 rfl (lv_at hl 0 rfl) ?_
  refine lv_iload_n hx hb dX9_draw_6 rfl (lv_at hl 1 rfl) ?_
  refine lv_i2l (v := (Int32.toInt64 x1)) hx hb dX9_draw_7 rfl ?_
  refine lv_iload_n hx hb dX9_draw_8 rfl (lv_at hl 2 rfl) ?_
  refine lv_i2l (v := (Int32.toInt64 x2)) hx hb dX9_draw_9 rfl ?_
  obtain ⟨ho, hk⟩ := hk
  refine r_calli Z (r_runV (As := [.long (Int32.toInt64 x1), .long (Int32.toInt64 x2)]) (rest := [.ref x0]) C Z (m_X9_draws l g h1 x0 (Int32.toInt64 x1) (Int32.toInt64 x2) _ hk) ho rfl (cwV 2 C.1.2.2.2.2 (gV tw_1051 tw_1053 tw_36 tw_66 tw_1054) rfl rfl rfl (by decide +kernel) ⟨Nat.le_of_ble_eq_true rfl, Nat.le_of_ble_eq_true rfl⟩) rfl hl.1 rfl (Nat.le_of_ble_eq_true rfl) dX9_draw_10 ⟨Nat.zero_le _, Nat.zero_le _⟩) (fun r10 h10 H locs hk Z => ?_)
  obtain ⟨ho, hk⟩ := hk
  refine r_calli Z (r_runV (As := [.int r10]) (rest := []) C Z (m_X9_acted l g h10 x0 r10 _ hk) ho rfl (cwV 1 C.1.2.2.2.2 (gV tw_933 tw_935 tw_16 tw_66 tw_936) rfl rfl rfl (by decide +kernel) ⟨Nat.le_of_ble_eq_true rfl, Nat.le_of_ble_eq_true rfl⟩) rfl hl.1 rfl (Nat.le_of_ble_eq_true rfl) dX9_draw_13 ⟨Nat.zero_le _, Nat.zero_le _⟩) (fun r13 h13 H locs hk Z => ?_)
  exact r_iret C Z hr hk dX9_draw_16
abbrev rmX9_look : Room := ({ frames := 11, cells := 0, slots := 0, locals := 274 } : Room)
abbrev wzX9_look : List Cond := WS yX9_look cX9_look 4 (some .int)
set_option maxRecDepth 100000 in
set_option maxHeartbeats 4000000 in
theorem m_X9_look (l : Launch) (g : Gt) (h : Hp) (x0 : Nat) (x1 : Int32) (x2 : Int64) (Post : Int32 → Hp → Prop) (hk : wp_X9_look x0 x1 x2 Post h) : Met l yX9_look wzX9_look rmX9_look (Pg g h [.ref x0, .int x1, .long x2]) (Qi g h Post) 0 0 (dm h) := by
  refine Met_of (cc := cX9_look) (maxL := 4) (ret := (some .int)) (by decide) (Nat.le_of_ble_eq_true rfl) (fun p e s m below meth c ls C hr hnm hl Z => ?_)
  have hx := C.1.1
  have hb := C.1.2.1
  have hml := C.1.2.2.1
  have hown := C.1.2.2.2.1
  have hts := C.1.2.2.2.2
  have hl : lv_has ls 4 [(0, .ref x0), (1, .int x1), (2, .long x2)] := hl
  unfold wp_X9_look at hk
  generalize s.heap = H at Z ⊢
  generalize ([] : List Loc) = locs at Z ⊢
  refine lv_aload_n hx hb dX9_look_0 rfl (lv_at hl 0 rfl) ?_
  obtain ⟨ho, hk⟩ := hk
  refine r_callv Z (r_runV (As := []) (rest := []) C Z (m_X9_keeps l g h x0 _ hk) ho rfl (cwV 0 C.1.2.2.2.2 (gV tw_913 tw_915 tw_14 tw_66 tw_916) rfl rfl rfl (by decide +kernel) ⟨Nat.le_of_ble_eq_true rfl, Nat.le_of_ble_eq_true rfl⟩) rfl hl.1 rfl (Nat.le_of_ble_eq_true rfl) dX9_look_1 ⟨Nat.zero_le _, Nat.zero_le _⟩) (fun h1 H locs hk Z => ?_)
  refine lv_aload_n hx hb dX9_look_4 rfl (lv_at hl 0 rfl) ?_
  refine lv_aload_n hx hb dX9_look_5 rfl (lv_at hl 0 rfl) ?_
  refine lv_iload_n hx hb dX9_look_6 rfl (lv_at hl 1 rfl) ?_
  refine lv_i2l (v := (Int32.toInt64 x1)) hx hb dX9_look_7 rfl ?_
  refine lv_lload_n hx hb dX9_look_8 rfl (lv_at hl 2 rfl) ?_
  obtain ⟨ho, hk⟩ := hk
  refine r_calli Z (r_runV (As := [.long (Int32.toInt64 x1), .long x2]) (rest := [.ref x0]) C Z (m_X9_looks l g h1 x0 (Int32.toInt64 x1) x2 _ hk) ho rfl (cwV 2 C.1.2.2.2.2 (gV tw_1079 tw_1081 tw_41 tw_66 tw_1082) rfl rfl rfl (by decide +kernel) ⟨Nat.le_of_ble_eq_true rfl, Nat.le_of_ble_eq_true rfl⟩) rfl hl.1 rfl (Nat.le_of_ble_eq_true rfl) dX9_look_9 ⟨Nat.zero_le _, Nat.zero_le _⟩) (fun r9 h9 H locs hk Z => ?_)
  obtain ⟨ho, hk⟩ := hk
  refine r_calli Z (r_runV (As := [.int r9]) (rest := []) C Z (m_X9_acted l g h9 x0 r9 _ hk) ho rfl (cwV 1 C.1.2.2.2.2 (gV tw_933 tw_935 tw_16 tw_66 tw_936) rfl rfl rfl (by decide +kernel) ⟨Nat.le_of_ble_eq_true rfl, Nat.le_of_ble_eq_true rfl⟩) rfl hl.1 rfl (Nat.le_of_ble_eq_true rfl) dX9_look_12 ⟨Nat.zero_le _, Nat.zero_le _⟩) (fun r12 h12 H locs hk Z => ?_)
  exact r_iret C Z hr hk dX9_look_15
abbrev rmX9_slotAt : Room := ({ frames := 0, cells := 0, slots := 0, locals := 0 } : Room)
abbrev wzX9_slotAt : List Cond := WS yX9_slotAt cX9_slotAt 1 (some .int)
set_option maxRecDepth 100000 in
set_option maxHeartbeats 4000000 in
theorem m_X9_slotAt (l : Launch) (g : Gt) (h : Hp) (x0 : Int32) (Post : Int32 → Hp → Prop) (hk : wp_X9_slotAt x0 Post h) : Met l yX9_slotAt wzX9_slotAt rmX9_slotAt (Pg g h [.int x0]) (Qi g h Post) 0 0 (dm h) := by
  refine Met_of (cc := cX9_slotAt) (maxL := 1) (ret := (some .int)) (by decide) (Nat.le_of_ble_eq_true rfl) (fun p e s m below meth c ls C hr hnm hl Z => ?_)
  have hx := C.1.1
  have hb := C.1.2.1
  have hml := C.1.2.2.1
  have hown := C.1.2.2.2.1
  have hts := C.1.2.2.2.2
  have hl : lv_has ls 1 [(0, .int x0)] := hl
  unfold wp_X9_slotAt at hk
  generalize s.heap = H at Z ⊢
  generalize ([] : List Loc) = locs at Z ⊢
  refine lv_sipush (v := (nI 455)) hx hb dX9_slotAt_0 (by decide) ?_
  refine lv_sipush (v := (nI 456)) hx hb dX9_slotAt_3 (by decide) ?_
  refine lv_iload_n hx hb dX9_slotAt_6 rfl (lv_at hl 0 rfl) ?_
  refine lv_imul hx hb dX9_slotAt_7 ?_
  refine lv_iadd hx hb dX9_slotAt_8 ?_
  exact r_iret C Z hr hk dX9_slotAt_9
abbrev rmX9_take : Room := ({ frames := 2, cells := 0, slots := 0, locals := 47 } : Room)
abbrev wzX9_take : List Cond := WS yX9_take cX9_take 3 (some .int)
set_option maxRecDepth 100000 in
set_option maxHeartbeats 4000000 in
theorem w_X9_take_28 {p : Program} {l : Launch} {e : Env} {s : State} {m : MethodId} {args : Array Value} {below : List Frame} {meth : Method} {c : Code} {g : Gt} {h0 : Hp} (C : Cx g (dm h0) RX9 cX9_take 3 p s m args meth c) (hr : meth.sig.returnType = (some .int)) {Post : Int32 → Hp → Prop} (x0 : Nat) (x1 : Int32)   : ∀ (n : Nat) (x2 : Int32) (h : Hp) (H : Heap) (locs : List Loc) (ls : Array Slot), lv_has ls 3 [(0, .ref x0), (1, .int x1), (2, .int x2)] → St g (dm h0) s h H locs → wp_X9_take_28 Post x0 x1 n x2 h → W p l e rmX9_take s m args below meth c H locs 0 0 (MQ below (Qi g h0 Post) args s 0 0 (dm h0)) (F0 m 28 ls []) := by
  have hx := C.1.1
  have hb := C.1.2.1
  have hml := C.1.2.2.1
  have hown := C.1.2.2.2.1
  have hts := C.1.2.2.2.2
  intro n
  induction n with
  | zero => intro x2 h H locs ls hl Z hk; exact (show False from hk).elim
  | succ n ih =>
    intro x2 h H locs ls hl Z hk
    unfold wp_X9_take_28 at hk
    refine lv_iload_n hx hb dX9_take_28 rfl (lv_at hl 2 rfl) ?_
    refine lv_sipush (v := (nI 455)) hx hb dX9_take_29 (by decide) ?_
    refine lv_icmp_ge (tgt := 60) hx hb dX9_take_32 (by decide) (fun q => ?_) (fun q => ?_)
    · have hk := hk.1 q
      refine lv_aload_n hx hb dX9_take_60 rfl (lv_at hl 0 rfl) ?_
      refine lv_aload_n hx hb dX9_take_61 rfl (lv_at hl 0 rfl) ?_
      obtain ⟨v62, hv, hk⟩ := hk
      refine r_get (ci := 9) (k := 0) (T := TX9) (N := 17) C Z hv ku_9 rfl (by decide) tw_857 dX9_take_62 ?_
      refine lv_iconst (v := (nI 0)) hx hb dX9_take_65 (by decide) ?_
      obtain ⟨v66, hv, hk⟩ := hk
      refine r_lald C Z hv dX9_take_66 ?_
      refine lv_l2i (v := (Int64.toInt32 v66)) hx hb dX9_take_67 rfl ?_
      obtain ⟨ho, hk⟩ := hk
      refine r_calli Z (r_runV (As := [.int (Int64.toInt32 v66)]) (rest := []) C Z (m_X9_acted l g h x0 (Int64.toInt32 v66) _ hk) ho rfl (cwV 1 C.1.2.2.2.2 (gV tw_933 tw_935 tw_16 tw_66 tw_936) rfl rfl rfl (by decide +kernel) ⟨Nat.le_of_ble_eq_true rfl, Nat.le_of_ble_eq_true rfl⟩) rfl hl.1 rfl (Nat.le_of_ble_eq_true rfl) dX9_take_68 ⟨Nat.zero_le _, Nat.zero_le _⟩) (fun r68 h68 H locs hk Z => ?_)
      exact r_iret C Z hr hk dX9_take_71
    · have hk := hk.2 q
      refine lv_aload_n hx hb dX9_take_35 rfl (lv_at hl 0 rfl) ?_
      obtain ⟨v36, hv, hk⟩ := hk
      refine r_get (ci := 9) (k := 0) (T := TX9) (N := 17) C Z hv ku_9 rfl (by decide) tw_857 dX9_take_36 ?_
      refine lv_iload_n hx hb dX9_take_39 rfl (lv_at hl 1 rfl) ?_
      refine r_calli Z (r_runS (As := [.int x1]) (rest := [.ref v36]) C Z (m_X9_slotAt l g h x1 _ hk) (va_cwS 1 C.1.2.2.2.2 (gS tw_1087 tw_1088 tw_66 tw_1089) rfl rfl rfl (by decide +kernel) ⟨Nat.le_of_ble_eq_true rfl, Nat.le_of_ble_eq_true rfl⟩) rfl hl.1 rfl (Nat.le_of_ble_eq_true rfl) dX9_take_40 ⟨Nat.zero_le _, Nat.zero_le _⟩) (fun r40 h40 H locs hk Z => ?_)
      refine lv_iconst (v := (nI 1)) hx hb dX9_take_43 (by decide) ?_
      refine lv_iadd hx hb dX9_take_44 ?_
      refine lv_iload_n hx hb dX9_take_45 rfl (lv_at hl 2 rfl) ?_
      refine lv_iadd hx hb dX9_take_46 ?_
      refine lv_aload_n hx hb dX9_take_47 rfl (lv_at hl 0 rfl) ?_
      obtain ⟨v48, hv, hk⟩ := hk
      refine r_get (ci := 9) (k := 0) (T := TX9) (N := 17) C Z hv ku_9 rfl (by decide) tw_857 dX9_take_48 ?_
      refine lv_iload_n hx hb dX9_take_51 rfl (lv_at hl 2 rfl) ?_
      obtain ⟨v52, hv, hk⟩ := hk
      refine r_lald C Z hv dX9_take_52 ?_
      obtain ⟨h53, hv, hk⟩ := hk
      refine r_last C Z hv dX9_take_53 (fun H locs Z => ?_)
      obtain ⟨y54, ey54⟩ : ∃ y : Int32, y = x2 + (nI 1) := ⟨_, rfl⟩
      have hk := hk y54 ey54
      refine lv_iinc (v := y54) (lv' := [(2, .int y54), (0, .ref x0), (1, .int x1)]) hx hb dX9_take_54 hl (k := 2) rfl (by rw [ey54]; rfl) (by decide) rfl (fun ls hl => ?_)
      refine lv_goto (tgt := 28) hx hb dX9_take_57 (by decide) ?_
      exact ih y54 h53 _ _ _ (lv_sub hl [1, 2, 0] rfl) Z hk
set_option maxRecDepth 100000 in
set_option maxHeartbeats 4000000 in
theorem m_X9_take (l : Launch) (g : Gt) (h : Hp) (x0 : Nat) (x1 : Int32) (Post : Int32 → Hp → Prop) (hk : wp_X9_take x0 x1 Post h) : Met l yX9_take wzX9_take rmX9_take (Pg g h [.ref x0, .int x1]) (Qi g h Post) 0 0 (dm h) := by
  refine Met_of (cc := cX9_take) (maxL := 3) (ret := (some .int)) (by decide) (Nat.le_of_ble_eq_true rfl) (fun p e s m below meth c ls C hr hnm hl Z => ?_)
  have hx := C.1.1
  have hb := C.1.2.1
  have hml := C.1.2.2.1
  have hown := C.1.2.2.2.1
  have hts := C.1.2.2.2.2
  have hl : lv_has ls 3 [(0, .ref x0), (1, .int x1)] := hl
  unfold wp_X9_take at hk
  generalize s.heap = H at Z ⊢
  generalize ([] : List Loc) = locs at Z ⊢
  refine lv_iload_n hx hb dX9_take_0 rfl (lv_at hl 1 rfl) ?_
  refine lv_i2l (v := (Int32.toInt64 x1)) hx hb dX9_take_1 rfl ?_
  refine lv_lconst (v := lN 0) hx hb dX9_take_2 (by decide) ?_
  refine lv_lconst (v := lN 1) hx hb dX9_take_3 (by decide) ?_
  refine r_calli Z (r_runS (As := [.long (Int32.toInt64 x1), .long (lN 0), .long (lN 1)]) (rest := []) C Z (m_X9_in l g h (Int32.toInt64 x1) (lN 0) (lN 1) _ hk) (va_cwS 3 C.1.2.2.2.2 (gS tw_922 tw_923 tw_66 tw_924) rfl rfl rfl (by decide +kernel) ⟨Nat.le_of_ble_eq_true rfl, Nat.le_of_ble_eq_true rfl⟩) rfl hl.1 rfl (Nat.le_of_ble_eq_true rfl) dX9_take_4 ⟨Nat.zero_le _, Nat.zero_le _⟩) (fun r4 h4 H locs hk Z => ?_)
  refine lv_if_ne (tgt := 12) hx hb dX9_take_7 (by decide) (fun q => ?_) (fun q => ?_)
  · have hk := hk.1 q
    refine lv_aload_n hx hb dX9_take_12 rfl (lv_at hl 0 rfl) ?_
    obtain ⟨ho, hk⟩ := hk
    refine r_callv Z (r_runV (As := []) (rest := []) C Z (m_X9_keeps l g h4 x0 _ hk) ho rfl (cwV 0 C.1.2.2.2.2 (gV tw_913 tw_915 tw_14 tw_66 tw_916) rfl rfl rfl (by decide +kernel) ⟨Nat.le_of_ble_eq_true rfl, Nat.le_of_ble_eq_true rfl⟩) rfl hl.1 rfl (Nat.le_of_ble_eq_true rfl) dX9_take_13 ⟨Nat.zero_le _, Nat.zero_le _⟩) (fun h13 H locs hk Z => ?_)
    refine lv_aload_n hx hb dX9_take_16 rfl (lv_at hl 0 rfl) ?_
    obtain ⟨v17, hv, hk⟩ := hk
    refine r_get (ci := 9) (k := 0) (T := TX9) (N := 17) C Z hv ku_9 rfl (by decide) tw_857 dX9_take_17 ?_
    refine lv_iload_n hx hb dX9_take_20 rfl (lv_at hl 1 rfl) ?_
    refine r_calli Z (r_runS (As := [.int x1]) (rest := [.ref v17]) C Z (m_X9_slotAt l g h13 x1 _ hk) (va_cwS 1 C.1.2.2.2.2 (gS tw_1087 tw_1088 tw_66 tw_1089) rfl rfl rfl (by decide +kernel) ⟨Nat.le_of_ble_eq_true rfl, Nat.le_of_ble_eq_true rfl⟩) rfl hl.1 rfl (Nat.le_of_ble_eq_true rfl) dX9_take_21 ⟨Nat.zero_le _, Nat.zero_le _⟩) (fun r21 h21 H locs hk Z => ?_)
    refine lv_lconst (v := lN 1) hx hb dX9_take_24 (by decide) ?_
    obtain ⟨h25, hv, hk⟩ := hk
    refine r_last C Z hv dX9_take_25 (fun H locs Z => ?_)
    refine lv_iconst (v := (nI 0)) hx hb dX9_take_26 (by decide) ?_
    refine lv_istore_n (lv' := [(2, .int (nI 0)), (0, .ref x0), (1, .int x1)]) hx hb dX9_take_27 rfl hl (by decide) rfl (fun ls hl => ?_)
    obtain ⟨n1, hk⟩ := hk
    exact w_X9_take_28 C hr x0 x1 n1 (nI 0) h25 _ _ _ (lv_sub hl [1, 2, 0] rfl) Z hk
  · have hk := hk.2 q
    refine lv_iconst (v := (-1 : Int32)) hx hb dX9_take_10 (by decide) ?_
    exact r_iret C Z hr hk dX9_take_11
abbrev rmX9_restore : Room := ({ frames := 2, cells := 0, slots := 0, locals := 47 } : Room)
abbrev wzX9_restore : List Cond := WS yX9_restore cX9_restore 3 (some .int)
set_option maxRecDepth 100000 in
set_option maxHeartbeats 4000000 in
theorem w_X9_restore_35 {p : Program} {l : Launch} {e : Env} {s : State} {m : MethodId} {args : Array Value} {below : List Frame} {meth : Method} {c : Code} {g : Gt} {h0 : Hp} (C : Cx g (dm h0) RX9 cX9_restore 3 p s m args meth c) (hr : meth.sig.returnType = (some .int)) {Post : Int32 → Hp → Prop} (x0 : Nat) (x1 : Int32)   : ∀ (n : Nat) (x2 : Int32) (h : Hp) (H : Heap) (locs : List Loc) (ls : Array Slot), lv_has ls 3 [(0, .ref x0), (1, .int x1), (2, .int x2)] → St g (dm h0) s h H locs → wp_X9_restore_35 Post x0 x1 n x2 h → W p l e rmX9_restore s m args below meth c H locs 0 0 (MQ below (Qi g h0 Post) args s 0 0 (dm h0)) (F0 m 35 ls []) := by
  have hx := C.1.1
  have hb := C.1.2.1
  have hml := C.1.2.2.1
  have hown := C.1.2.2.2.1
  have hts := C.1.2.2.2.2
  intro n
  induction n with
  | zero => intro x2 h H locs ls hl Z hk; exact (show False from hk).elim
  | succ n ih =>
    intro x2 h H locs ls hl Z hk
    unfold wp_X9_restore_35 at hk
    refine lv_iload_n hx hb dX9_restore_35 rfl (lv_at hl 2 rfl) ?_
    refine lv_sipush (v := (nI 455)) hx hb dX9_restore_36 (by decide) ?_
    refine lv_icmp_ge (tgt := 67) hx hb dX9_restore_39 (by decide) (fun q => ?_) (fun q => ?_)
    · have hk := hk.1 q
      refine lv_aload_n hx hb dX9_restore_67 rfl (lv_at hl 0 rfl) ?_
      refine lv_aload_n hx hb dX9_restore_68 rfl (lv_at hl 0 rfl) ?_
      obtain ⟨v69, hv, hk⟩ := hk
      refine r_get (ci := 9) (k := 0) (T := TX9) (N := 17) C Z hv ku_9 rfl (by decide) tw_857 dX9_restore_69 ?_
      refine lv_iconst (v := (nI 0)) hx hb dX9_restore_72 (by decide) ?_
      obtain ⟨v73, hv, hk⟩ := hk
      refine r_lald C Z hv dX9_restore_73 ?_
      refine lv_l2i (v := (Int64.toInt32 v73)) hx hb dX9_restore_74 rfl ?_
      obtain ⟨ho, hk⟩ := hk
      refine r_calli Z (r_runV (As := [.int (Int64.toInt32 v73)]) (rest := []) C Z (m_X9_acted l g h x0 (Int64.toInt32 v73) _ hk) ho rfl (cwV 1 C.1.2.2.2.2 (gV tw_933 tw_935 tw_16 tw_66 tw_936) rfl rfl rfl (by decide +kernel) ⟨Nat.le_of_ble_eq_true rfl, Nat.le_of_ble_eq_true rfl⟩) rfl hl.1 rfl (Nat.le_of_ble_eq_true rfl) dX9_restore_75 ⟨Nat.zero_le _, Nat.zero_le _⟩) (fun r75 h75 H locs hk Z => ?_)
      exact r_iret C Z hr hk dX9_restore_78
    · have hk := hk.2 q
      refine lv_aload_n hx hb dX9_restore_42 rfl (lv_at hl 0 rfl) ?_
      obtain ⟨v43, hv, hk⟩ := hk
      refine r_get (ci := 9) (k := 0) (T := TX9) (N := 17) C Z hv ku_9 rfl (by decide) tw_857 dX9_restore_43 ?_
      refine lv_iload_n hx hb dX9_restore_46 rfl (lv_at hl 2 rfl) ?_
      refine lv_aload_n hx hb dX9_restore_47 rfl (lv_at hl 0 rfl) ?_
      obtain ⟨v48, hv, hk⟩ := hk
      refine r_get (ci := 9) (k := 0) (T := TX9) (N := 17) C Z hv ku_9 rfl (by decide) tw_857 dX9_restore_48 ?_
      refine lv_iload_n hx hb dX9_restore_51 rfl (lv_at hl 1 rfl) ?_
      refine r_calli Z (r_runS (As := [.int x1]) (rest := [.ref v48, .int x2, .ref v43]) C Z (m_X9_slotAt l g h x1 _ hk) (va_cwS 1 C.1.2.2.2.2 (gS tw_1087 tw_1088 tw_66 tw_1089) rfl rfl rfl (by decide +kernel) ⟨Nat.le_of_ble_eq_true rfl, Nat.le_of_ble_eq_true rfl⟩) rfl hl.1 rfl (Nat.le_of_ble_eq_true rfl) dX9_restore_52 ⟨Nat.zero_le _, Nat.zero_le _⟩) (fun r52 h52 H locs hk Z => ?_)
      refine lv_iconst (v := (nI 1)) hx hb dX9_restore_55 (by decide) ?_
      refine lv_iadd hx hb dX9_restore_56 ?_
      refine lv_iload_n hx hb dX9_restore_57 rfl (lv_at hl 2 rfl) ?_
      refine lv_iadd hx hb dX9_restore_58 ?_
      obtain ⟨v59, hv, hk⟩ := hk
      refine r_lald C Z hv dX9_restore_59 ?_
      obtain ⟨h60, hv, hk⟩ := hk
      refine r_last C Z hv dX9_restore_60 (fun H locs Z => ?_)
      obtain ⟨y61, ey61⟩ : ∃ y : Int32, y = x2 + (nI 1) := ⟨_, rfl⟩
      have hk := hk y61 ey61
      refine lv_iinc (v := y61) (lv' := [(2, .int y61), (0, .ref x0), (1, .int x1)]) hx hb dX9_restore_61 hl (k := 2) rfl (by rw [ey61]; rfl) (by decide) rfl (fun ls hl => ?_)
      refine lv_goto (tgt := 35) hx hb dX9_restore_64 (by decide) ?_
      exact ih y61 h60 _ _ _ (lv_sub hl [1, 2, 0] rfl) Z hk
set_option maxRecDepth 100000 in
set_option maxHeartbeats 4000000 in
theorem m_X9_restore (l : Launch) (g : Gt) (h : Hp) (x0 : Nat) (x1 : Int32) (Post : Int32 → Hp → Prop) (hk : wp_X9_restore x0 x1 Post h) : Met l yX9_restore wzX9_restore rmX9_restore (Pg g h [.ref x0, .int x1]) (Qi g h Post) 0 0 (dm h) := by
  refine Met_of (cc := cX9_restore) (maxL := 3) (ret := (some .int)) (by decide) (Nat.le_of_ble_eq_true rfl) (fun p e s m below meth c ls C hr hnm hl Z => ?_)
  have hx := C.1.1
  have hb := C.1.2.1
  have hml := C.1.2.2.1
  have hown := C.1.2.2.2.1
  have hts := C.1.2.2.2.2
  have hl : lv_has ls 3 [(0, .ref x0), (1, .int x1)] := hl
  unfold wp_X9_restore at hk
  generalize s.heap = H at Z ⊢
  generalize ([] : List Loc) = locs at Z ⊢
  refine lv_iload_n hx hb dX9_restore_0 rfl (lv_at hl 1 rfl) ?_
  refine lv_i2l (v := (Int32.toInt64 x1)) hx hb dX9_restore_1 rfl ?_
  refine lv_lconst (v := lN 0) hx hb dX9_restore_2 (by decide) ?_
  refine lv_lconst (v := lN 1) hx hb dX9_restore_3 (by decide) ?_
  refine r_calli Z (r_runS (As := [.long (Int32.toInt64 x1), .long (lN 0), .long (lN 1)]) (rest := []) C Z (m_X9_in l g h (Int32.toInt64 x1) (lN 0) (lN 1) _ hk) (va_cwS 3 C.1.2.2.2.2 (gS tw_922 tw_923 tw_66 tw_924) rfl rfl rfl (by decide +kernel) ⟨Nat.le_of_ble_eq_true rfl, Nat.le_of_ble_eq_true rfl⟩) rfl hl.1 rfl (Nat.le_of_ble_eq_true rfl) dX9_restore_4 ⟨Nat.zero_le _, Nat.zero_le _⟩) (fun r4 h4 H locs hk Z => ?_)
  refine lv_if_ne (tgt := 12) hx hb dX9_restore_7 (by decide) (fun q => ?_) (fun q => ?_)
  · have hk := hk.1 q
    refine lv_aload_n hx hb dX9_restore_12 rfl (lv_at hl 0 rfl) ?_
    obtain ⟨v13, hv, hk⟩ := hk
    refine r_get (ci := 9) (k := 0) (T := TX9) (N := 17) C Z hv ku_9 rfl (by decide) tw_857 dX9_restore_13 ?_
    refine lv_iload_n hx hb dX9_restore_16 rfl (lv_at hl 1 rfl) ?_
    refine r_calli Z (r_runS (As := [.int x1]) (rest := [.ref v13]) C Z (m_X9_slotAt l g h4 x1 _ hk) (va_cwS 1 C.1.2.2.2.2 (gS tw_1087 tw_1088 tw_66 tw_1089) rfl rfl rfl (by decide +kernel) ⟨Nat.le_of_ble_eq_true rfl, Nat.le_of_ble_eq_true rfl⟩) rfl hl.1 rfl (Nat.le_of_ble_eq_true rfl) dX9_restore_17 ⟨Nat.zero_le _, Nat.zero_le _⟩) (fun r17 h17 H locs hk Z => ?_)
    obtain ⟨v20, hv, hk⟩ := hk
    refine r_lald C Z hv dX9_restore_20 ?_
    refine lv_lconst (v := lN 0) hx hb dX9_restore_21 (by decide) ?_
    refine W.lcmp hx hb dX9_restore_22 ?_
    refine lv_if_ne (tgt := 29) hx hb dX9_restore_23 (by decide) (fun q => ?_) (fun q => ?_)
    · have hk := hk.1 (mt (lc_eq v20 (lN 0)).mpr q)
      refine lv_aload_n hx hb dX9_restore_29 rfl (lv_at hl 0 rfl) ?_
      obtain ⟨ho, hk⟩ := hk
      refine r_callv Z (r_runV (As := []) (rest := []) C Z (m_X9_keeps l g h17 x0 _ hk) ho rfl (cwV 0 C.1.2.2.2.2 (gV tw_913 tw_915 tw_14 tw_66 tw_916) rfl rfl rfl (by decide +kernel) ⟨Nat.le_of_ble_eq_true rfl, Nat.le_of_ble_eq_true rfl⟩) rfl hl.1 rfl (Nat.le_of_ble_eq_true rfl) dX9_restore_30 ⟨Nat.zero_le _, Nat.zero_le _⟩) (fun h30 H locs hk Z => ?_)
      refine lv_iconst (v := (nI 0)) hx hb dX9_restore_33 (by decide) ?_
      refine lv_istore_n (lv' := [(2, .int (nI 0)), (0, .ref x0), (1, .int x1)]) hx hb dX9_restore_34 rfl hl (by decide) rfl (fun ls hl => ?_)
      obtain ⟨n1, hk⟩ := hk
      exact w_X9_restore_35 C hr x0 x1 n1 (nI 0) h30 _ _ _ (lv_sub hl [1, 2, 0] rfl) Z hk
    · have hk := hk.2 ((lc_eq v20 (lN 0)).mp q)
      refine lv_bipush (v := (-2 : Int32)) hx hb dX9_restore_26 (by decide) ?_
      exact r_iret C Z hr hk dX9_restore_28
  · have hk := hk.2 q
    refine lv_iconst (v := (-1 : Int32)) hx hb dX9_restore_10 (by decide) ?_
    exact r_iret C Z hr hk dX9_restore_11
abbrev rmX9_undo : Room := ({ frames := 0, cells := 0, slots := 0, locals := 0 } : Room)
abbrev wzX9_undo : List Cond := WS yX9_undo cX9_undo 2 (some .int)
set_option maxRecDepth 100000 in
set_option maxHeartbeats 4000000 in
theorem w_X9_undo_22 {p : Program} {l : Launch} {e : Env} {s : State} {m : MethodId} {args : Array Value} {below : List Frame} {meth : Method} {c : Code} {g : Gt} {h0 : Hp} (C : Cx g (dm h0) RX9 cX9_undo 2 p s m args meth c) (hr : meth.sig.returnType = (some .int)) {Post : Int32 → Hp → Prop} (x0 : Nat)   : ∀ (n : Nat) (x1 : Int32) (h : Hp) (H : Heap) (locs : List Loc) (ls : Array Slot), lv_has ls 2 [(0, .ref x0), (1, .int x1)] → St g (dm h0) s h H locs → wp_X9_undo_22 Post x0 n x1 h → W p l e rmX9_undo s m args below meth c H locs 0 0 (MQ below (Qi g h0 Post) args s 0 0 (dm h0)) (F0 m 22 ls []) := by
  have hx := C.1.1
  have hb := C.1.2.1
  have hml := C.1.2.2.1
  have hown := C.1.2.2.2.1
  have hts := C.1.2.2.2.2
  intro n
  induction n with
  | zero => intro x1 h H locs ls hl Z hk; exact (show False from hk).elim
  | succ n ih =>
    intro x1 h H locs ls hl Z hk
    unfold wp_X9_undo_22 at hk
    refine lv_iload_n hx hb dX9_undo_22 rfl (lv_at hl 1 rfl) ?_
    refine lv_sipush (v := (nI 1367)) hx hb dX9_undo_23 (by decide) ?_
    refine lv_icmp_ge (tgt := 56) hx hb dX9_undo_26 (by decide) (fun q => ?_) (fun q => ?_)
    · have hk := hk.1 q
      refine lv_aload_n hx hb dX9_undo_56 rfl (lv_at hl 0 rfl) ?_
      obtain ⟨v57, hv, hk⟩ := hk
      refine r_get (ci := 9) (k := 3) (T := TX9) (N := 17) C Z hv ku_9 rfl (by decide) tw_860 dX9_undo_57 ?_
      exact r_iret C Z hr hk dX9_undo_60
    · have hk := hk.2 q
      refine lv_aload_n hx hb dX9_undo_29 rfl (lv_at hl 0 rfl) ?_
      obtain ⟨v30, hv, hk⟩ := hk
      refine r_get (ci := 9) (k := 0) (T := TX9) (N := 17) C Z hv ku_9 rfl (by decide) tw_857 dX9_undo_30 ?_
      refine lv_iload_n hx hb dX9_undo_33 rfl (lv_at hl 1 rfl) ?_
      refine lv_aload_n hx hb dX9_undo_34 rfl (lv_at hl 0 rfl) ?_
      obtain ⟨v35, hv, hk⟩ := hk
      refine r_get (ci := 9) (k := 2) (T := TX9) (N := 17) C Z hv ku_9 rfl (by decide) tw_859 dX9_undo_35 ?_
      refine lv_sipush (v := (nI 1367)) hx hb dX9_undo_38 (by decide) ?_
      refine lv_aload_n hx hb dX9_undo_41 rfl (lv_at hl 0 rfl) ?_
      obtain ⟨v42, hv, hk⟩ := hk
      refine r_get (ci := 9) (k := 3) (T := TX9) (N := 17) C Z hv ku_9 rfl (by decide) tw_860 dX9_undo_42 ?_
      refine lv_imul hx hb dX9_undo_45 ?_
      refine lv_iload_n hx hb dX9_undo_46 rfl (lv_at hl 1 rfl) ?_
      refine lv_iadd hx hb dX9_undo_47 ?_
      obtain ⟨v48, hv, hk⟩ := hk
      refine r_lald C Z hv dX9_undo_48 ?_
      obtain ⟨h49, hv, hk⟩ := hk
      refine r_last C Z hv dX9_undo_49 (fun H locs Z => ?_)
      obtain ⟨y50, ey50⟩ : ∃ y : Int32, y = x1 + (nI 1) := ⟨_, rfl⟩
      have hk := hk y50 ey50
      refine lv_iinc (v := y50) (lv' := [(1, .int y50), (0, .ref x0)]) hx hb dX9_undo_50 hl (k := 1) rfl (by rw [ey50]; rfl) (by decide) rfl (fun ls hl => ?_)
      refine lv_goto (tgt := 22) hx hb dX9_undo_53 (by decide) ?_
      exact ih y50 h49 _ _ _ (lv_sub hl [1, 0] rfl) Z hk
set_option maxRecDepth 100000 in
set_option maxHeartbeats 4000000 in
theorem m_X9_undo (l : Launch) (g : Gt) (h : Hp) (x0 : Nat) (Post : Int32 → Hp → Prop) (hk : wp_X9_undo x0 Post h) : Met l yX9_undo wzX9_undo rmX9_undo (Pg g h [.ref x0]) (Qi g h Post) 0 0 (dm h) := by
  refine Met_of (cc := cX9_undo) (maxL := 2) (ret := (some .int)) (by decide) (Nat.le_of_ble_eq_true rfl) (fun p e s m below meth c ls C hr hnm hl Z => ?_)
  have hx := C.1.1
  have hb := C.1.2.1
  have hml := C.1.2.2.1
  have hown := C.1.2.2.2.1
  have hts := C.1.2.2.2.2
  have hl : lv_has ls 2 [(0, .ref x0)] := hl
  unfold wp_X9_undo at hk
  generalize s.heap = H at Z ⊢
  generalize ([] : List Loc) = locs at Z ⊢
  refine lv_aload_n hx hb dX9_undo_0 rfl (lv_at hl 0 rfl) ?_
  obtain ⟨v1, hv, hk⟩ := hk
  refine r_get (ci := 9) (k := 3) (T := TX9) (N := 17) C Z hv ku_9 rfl (by decide) tw_860 dX9_undo_1 ?_
  refine lv_if_ne (tgt := 10) hx hb dX9_undo_4 (by decide) (fun q => ?_) (fun q => ?_)
  · have hk := hk.1 q
    refine lv_aload_n hx hb dX9_undo_10 rfl (lv_at hl 0 rfl) ?_
    refine lv_dup hx hb dX9_undo_11 rfl ?_
    obtain ⟨v12, hv, hk⟩ := hk
    refine r_get (ci := 9) (k := 3) (T := TX9) (N := 17) C Z hv ku_9 rfl (by decide) tw_860 dX9_undo_12 ?_
    refine lv_iconst (v := (nI 1)) hx hb dX9_undo_15 (by decide) ?_
    refine lv_isub hx hb dX9_undo_16 ?_
    obtain ⟨h17, hv, hk⟩ := hk
    refine r_put (ci := 9) (k := 3) (T := TX9) (N := 17) C Z hv ku_9 tyX9_ok nmX9 rfl (by decide) tw_860 rfl rfl rfl dX9_undo_17 (fun H locs Z => ?_)
    refine lv_iconst (v := (nI 0)) hx hb dX9_undo_20 (by decide) ?_
    refine lv_istore_n (lv' := [(1, .int (nI 0)), (0, .ref x0)]) hx hb dX9_undo_21 rfl hl (by decide) rfl (fun ls hl => ?_)
    obtain ⟨n1, hk⟩ := hk
    exact w_X9_undo_22 C hr x0 n1 (nI 0) h17 _ _ _ (lv_sub hl [1, 0] rfl) Z hk
  · have hk := hk.2 q
    refine lv_bipush (v := (-2 : Int32)) hx hb dX9_undo_7 (by decide) ?_
    exact r_iret C Z hr hk dX9_undo_9
abbrev rmX9_append : Room := ({ frames := 1, cells := 0, slots := 0, locals := 25 } : Room)
abbrev wzX9_append : List Cond := WS yX9_append cX9_append 2 (some .int)
set_option maxRecDepth 100000 in
set_option maxHeartbeats 4000000 in
theorem m_X9_append (l : Launch) (g : Gt) (h : Hp) (x0 : Nat) (x1 : Int32) (Post : Int32 → Hp → Prop) (hk : wp_X9_append x0 x1 Post h) : Met l yX9_append wzX9_append rmX9_append (Pg g h [.ref x0, .int x1]) (Qi g h Post) 0 0 (dm h) := by
  refine Met_of (cc := cX9_append) (maxL := 2) (ret := (some .int)) (by decide) (Nat.le_of_ble_eq_true rfl) (fun p e s m below meth c ls C hr hnm hl Z => ?_)
  have hx := C.1.1
  have hb := C.1.2.1
  have hml := C.1.2.2.1
  have hown := C.1.2.2.2.1
  have hts := C.1.2.2.2.2
  have hl : lv_has ls 2 [(0, .ref x0), (1, .int x1)] := hl
  unfold wp_X9_append at hk
  generalize s.heap = H at Z ⊢
  generalize ([] : List Loc) = locs at Z ⊢
  refine lv_iload_n hx hb dX9_append_0 rfl (lv_at hl 1 rfl) ?_
  refine lv_i2l (v := (Int32.toInt64 x1)) hx hb dX9_append_1 rfl ?_
  refine lv_lconst (v := lN 1) hx hb dX9_append_2 (by decide) ?_
  refine lv_ldc2 (v := (lN 255)) hx hb hown (hts _ tw_1102) dX9_append_3 ?_
  refine r_calli Z (r_runS (As := [.long (Int32.toInt64 x1), .long (lN 1), .long (lN 255)]) (rest := []) C Z (m_X9_in l g h (Int32.toInt64 x1) (lN 1) (lN 255) _ hk) (va_cwS 3 C.1.2.2.2.2 (gS tw_922 tw_923 tw_66 tw_924) rfl rfl rfl (by decide +kernel) ⟨Nat.le_of_ble_eq_true rfl, Nat.le_of_ble_eq_true rfl⟩) rfl hl.1 rfl (Nat.le_of_ble_eq_true rfl) dX9_append_6 ⟨Nat.zero_le _, Nat.zero_le _⟩) (fun r6 h6 H locs hk Z => ?_)
  refine lv_if_ne (tgt := 14) hx hb dX9_append_9 (by decide) (fun q => ?_) (fun q => ?_)
  · have hk := hk.1 q
    refine lv_aload_n hx hb dX9_append_14 rfl (lv_at hl 0 rfl) ?_
    obtain ⟨v15, hv, hk⟩ := hk
    refine r_get (ci := 9) (k := 6) (T := TX9) (N := 17) C Z hv ku_9 rfl (by decide) tw_863 dX9_append_15 ?_
    refine lv_sipush (v := (nI 140)) hx hb dX9_append_18 (by decide) ?_
    refine lv_icmp_ne (tgt := 27) hx hb dX9_append_21 (by decide) (fun q => ?_) (fun q => ?_)
    · have hk := hk.1 q
      refine lv_aload_n hx hb dX9_append_27 rfl (lv_at hl 0 rfl) ?_
      obtain ⟨v28, hv, hk⟩ := hk
      refine r_get (ci := 9) (k := 5) (T := TX9) (N := 17) C Z hv ku_9 rfl (by decide) tw_862 dX9_append_28 ?_
      refine lv_aload_n hx hb dX9_append_31 rfl (lv_at hl 0 rfl) ?_
      obtain ⟨v32, hv, hk⟩ := hk
      refine r_get (ci := 9) (k := 6) (T := TX9) (N := 17) C Z hv ku_9 rfl (by decide) tw_863 dX9_append_32 ?_
      refine lv_iload_n hx hb dX9_append_35 rfl (lv_at hl 1 rfl) ?_
      obtain ⟨h36, hv, hk⟩ := hk
      refine r_iast C Z hv dX9_append_36 (fun H locs Z => ?_)
      refine lv_aload_n hx hb dX9_append_37 rfl (lv_at hl 0 rfl) ?_
      refine lv_dup hx hb dX9_append_38 rfl ?_
      obtain ⟨v39, hv, hk⟩ := hk
      refine r_get (ci := 9) (k := 6) (T := TX9) (N := 17) C Z hv ku_9 rfl (by decide) tw_863 dX9_append_39 ?_
      refine lv_iconst (v := (nI 1)) hx hb dX9_append_42 (by decide) ?_
      refine lv_iadd hx hb dX9_append_43 ?_
      obtain ⟨h44, hv, hk⟩ := hk
      refine r_put (ci := 9) (k := 6) (T := TX9) (N := 17) C Z hv ku_9 tyX9_ok nmX9 rfl (by decide) tw_863 rfl rfl rfl dX9_append_44 (fun H locs Z => ?_)
      refine lv_aload_n hx hb dX9_append_47 rfl (lv_at hl 0 rfl) ?_
      obtain ⟨v48, hv, hk⟩ := hk
      refine r_get (ci := 9) (k := 6) (T := TX9) (N := 17) C Z hv ku_9 rfl (by decide) tw_863 dX9_append_48 ?_
      exact r_iret C Z hr hk dX9_append_51
    · have hk := hk.2 q
      refine lv_bipush (v := (-3 : Int32)) hx hb dX9_append_24 (by decide) ?_
      exact r_iret C Z hr hk dX9_append_26
  · have hk := hk.2 q
    refine lv_iconst (v := (-1 : Int32)) hx hb dX9_append_12 (by decide) ?_
    exact r_iret C Z hr hk dX9_append_13
abbrev rmX9_clearText : Room := ({ frames := 0, cells := 0, slots := 0, locals := 0 } : Room)
abbrev wzX9_clearText : List Cond := WS yX9_clearText cX9_clearText 2 (some .int)
set_option maxRecDepth 100000 in
set_option maxHeartbeats 4000000 in
theorem m_X9_clearText (l : Launch) (g : Gt) (h : Hp) (x0 : Nat) (Post : Int32 → Hp → Prop) (hk : wp_X9_clearText x0 Post h) : Met l yX9_clearText wzX9_clearText rmX9_clearText (Pg g h [.ref x0]) (Qi g h Post) 0 0 (dm h) := by
  refine Met_of (cc := cX9_clearText) (maxL := 2) (ret := (some .int)) (by decide) (Nat.le_of_ble_eq_true rfl) (fun p e s m below meth c ls C hr hnm hl Z => ?_)
  have hx := C.1.1
  have hb := C.1.2.1
  have hml := C.1.2.2.1
  have hown := C.1.2.2.2.1
  have hts := C.1.2.2.2.2
  have hl : lv_has ls 2 [(0, .ref x0)] := hl
  unfold wp_X9_clearText at hk
  generalize s.heap = H at Z ⊢
  generalize ([] : List Loc) = locs at Z ⊢
  refine lv_aload_n hx hb dX9_clearText_0 rfl (lv_at hl 0 rfl) ?_
  obtain ⟨v1, hv, hk⟩ := hk
  refine r_get (ci := 9) (k := 6) (T := TX9) (N := 17) C Z hv ku_9 rfl (by decide) tw_863 dX9_clearText_1 ?_
  refine lv_istore_n (lv' := [(1, .int v1), (0, .ref x0)]) hx hb dX9_clearText_4 rfl hl (by decide) rfl (fun ls hl => ?_)
  refine lv_aload_n hx hb dX9_clearText_5 rfl (lv_at hl 1 rfl) ?_
  refine lv_iconst (v := (nI 0)) hx hb dX9_clearText_6 (by decide) ?_
  obtain ⟨h7, hv, hk⟩ := hk
  refine r_put (ci := 9) (k := 6) (T := TX9) (N := 17) C Z hv ku_9 tyX9_ok nmX9 rfl (by decide) tw_863 rfl rfl rfl dX9_clearText_7 (fun H locs Z => ?_)
  refine lv_iload_n hx hb dX9_clearText_10 rfl (lv_at hl 0 rfl) ?_
  exact r_iret C Z hr hk dX9_clearText_11
abbrev rmX9_next : Room := ({ frames := 0, cells := 0, slots := 0, locals := 0 } : Room)
abbrev wzX9_next : List Cond := WS yX9_next cX9_next 1 (some .int)
set_option maxRecDepth 100000 in
set_option maxHeartbeats 4000000 in
theorem m_X9_next (l : Launch) (g : Gt) (h : Hp) (x0 : Nat) (Post : Int32 → Hp → Prop) (hk : wp_X9_next x0 Post h) : Met l yX9_next wzX9_next rmX9_next (Pg g h [.ref x0]) (Qi g h Post) 0 0 (dm h) := by
  refine Met_of (cc := cX9_next) (maxL := 1) (ret := (some .int)) (by decide) (Nat.le_of_ble_eq_true rfl) (fun p e s m below meth c ls C hr hnm hl Z => ?_)
  have hx := C.1.1
  have hb := C.1.2.1
  have hml := C.1.2.2.1
  have hown := C.1.2.2.2.1
  have hts := C.1.2.2.2.2
  have hl : lv_has ls 1 [(0, .ref x0)] := hl
  unfold wp_X9_next at hk
  generalize s.heap = H at Z ⊢
  generalize ([] : List Loc) = locs at Z ⊢
  refine lv_aload_n hx hb dX9_next_0 rfl (lv_at hl 0 rfl) ?_
  obtain ⟨v1, hv, hk⟩ := hk
  refine r_get (ci := 9) (k := 11) (T := TX9) (N := 17) C Z hv ku_9 rfl (by decide) tw_868 dX9_next_1 ?_
  refine lv_aload_n hx hb dX9_next_4 rfl (lv_at hl 0 rfl) ?_
  obtain ⟨v5, hv, hk⟩ := hk
  refine r_get (ci := 9) (k := 6) (T := TX9) (N := 17) C Z hv ku_9 rfl (by decide) tw_863 dX9_next_5 ?_
  refine lv_icmp_ge (tgt := 23) hx hb dX9_next_8 (by decide) (fun q => ?_) (fun q => ?_)
  · have hk := hk.1 q
    refine lv_bipush (v := (-9 : Int32)) hx hb dX9_next_23 (by decide) ?_
    exact r_iret C Z hr hk dX9_next_25
  · have hk := hk.2 q
    refine lv_aload_n hx hb dX9_next_11 rfl (lv_at hl 0 rfl) ?_
    obtain ⟨v12, hv, hk⟩ := hk
    refine r_get (ci := 9) (k := 5) (T := TX9) (N := 17) C Z hv ku_9 rfl (by decide) tw_862 dX9_next_12 ?_
    refine lv_aload_n hx hb dX9_next_15 rfl (lv_at hl 0 rfl) ?_
    obtain ⟨v16, hv, hk⟩ := hk
    refine r_get (ci := 9) (k := 11) (T := TX9) (N := 17) C Z hv ku_9 rfl (by decide) tw_868 dX9_next_16 ?_
    obtain ⟨v19, hv, hk⟩ := hk
    refine r_iald C Z hv dX9_next_19 ?_
    refine lv_goto (tgt := 25) hx hb dX9_next_20 (by decide) ?_
    exact r_iret C Z hr hk dX9_next_25
abbrev rmX9_isLetter : Room := ({ frames := 1, cells := 0, slots := 0, locals := 25 } : Room)
abbrev wzX9_isLetter : List Cond := WS yX9_isLetter cX9_isLetter 1 (some .boolean)
set_option maxRecDepth 100000 in
set_option maxHeartbeats 4000000 in
theorem m_X9_isLetter (l : Launch) (g : Gt) (h : Hp) (x0 : Int32) (Post : Int32 → Hp → Prop) (hk : wp_X9_isLetter x0 Post h) : Met l yX9_isLetter wzX9_isLetter rmX9_isLetter (Pg g h [.int x0]) (Qi g h Post) 0 0 (dm h) := by
  refine Met_of (cc := cX9_isLetter) (maxL := 1) (ret := (some .boolean)) (by decide) (Nat.le_of_ble_eq_true rfl) (fun p e s m below meth c ls C hr hnm hl Z => ?_)
  have hx := C.1.1
  have hb := C.1.2.1
  have hml := C.1.2.2.1
  have hown := C.1.2.2.2.1
  have hts := C.1.2.2.2.2
  have hl : lv_has ls 1 [(0, .int x0)] := hl
  unfold wp_X9_isLetter at hk
  generalize s.heap = H at Z ⊢
  generalize ([] : List Loc) = locs at Z ⊢
  refine lv_iload_n hx hb dX9_isLetter_0 rfl (lv_at hl 0 rfl) ?_
  refine lv_i2l (v := (Int32.toInt64 x0)) hx hb dX9_isLetter_1 rfl ?_
  refine lv_ldc2 (v := (lN 97)) hx hb hown (hts _ tw_1130) dX9_isLetter_2 ?_
  refine lv_ldc2 (v := (lN 122)) hx hb hown (hts _ tw_1131) dX9_isLetter_5 ?_
  refine r_calli Z (r_runS (As := [.long (Int32.toInt64 x0), .long (lN 97), .long (lN 122)]) (rest := []) C Z (m_X9_in l g h (Int32.toInt64 x0) (lN 97) (lN 122) _ hk) (va_cwS 3 C.1.2.2.2.2 (gS tw_922 tw_923 tw_66 tw_924) rfl rfl rfl (by decide +kernel) ⟨Nat.le_of_ble_eq_true rfl, Nat.le_of_ble_eq_true rfl⟩) rfl hl.1 rfl (Nat.le_of_ble_eq_true rfl) dX9_isLetter_8 ⟨Nat.zero_le _, Nat.zero_le _⟩) (fun r8 h8 H locs hk Z => ?_)
  exact r_zret C Z hr hk.1 hk.2 dX9_isLetter_11
abbrev rmX9_isDigit : Room := ({ frames := 1, cells := 0, slots := 0, locals := 25 } : Room)
abbrev wzX9_isDigit : List Cond := WS yX9_isDigit cX9_isDigit 1 (some .boolean)
set_option maxRecDepth 100000 in
set_option maxHeartbeats 4000000 in
theorem m_X9_isDigit (l : Launch) (g : Gt) (h : Hp) (x0 : Int32) (Post : Int32 → Hp → Prop) (hk : wp_X9_isDigit x0 Post h) : Met l yX9_isDigit wzX9_isDigit rmX9_isDigit (Pg g h [.int x0]) (Qi g h Post) 0 0 (dm h) := by
  refine Met_of (cc := cX9_isDigit) (maxL := 1) (ret := (some .boolean)) (by decide) (Nat.le_of_ble_eq_true rfl) (fun p e s m below meth c ls C hr hnm hl Z => ?_)
  have hx := C.1.1
  have hb := C.1.2.1
  have hml := C.1.2.2.1
  have hown := C.1.2.2.2.1
  have hts := C.1.2.2.2.2
  have hl : lv_has ls 1 [(0, .int x0)] := hl
  unfold wp_X9_isDigit at hk
  generalize s.heap = H at Z ⊢
  generalize ([] : List Loc) = locs at Z ⊢
  refine lv_iload_n hx hb dX9_isDigit_0 rfl (lv_at hl 0 rfl) ?_
  refine lv_i2l (v := (Int32.toInt64 x0)) hx hb dX9_isDigit_1 rfl ?_
  refine lv_ldc2 (v := (lN 48)) hx hb hown (hts _ tw_1146) dX9_isDigit_2 ?_
  refine lv_ldc2 (v := (lN 57)) hx hb hown (hts _ tw_1147) dX9_isDigit_5 ?_
  refine r_calli Z (r_runS (As := [.long (Int32.toInt64 x0), .long (lN 48), .long (lN 57)]) (rest := []) C Z (m_X9_in l g h (Int32.toInt64 x0) (lN 48) (lN 57) _ hk) (va_cwS 3 C.1.2.2.2.2 (gS tw_922 tw_923 tw_66 tw_924) rfl rfl rfl (by decide +kernel) ⟨Nat.le_of_ble_eq_true rfl, Nat.le_of_ble_eq_true rfl⟩) rfl hl.1 rfl (Nat.le_of_ble_eq_true rfl) dX9_isDigit_8 ⟨Nat.zero_le _, Nat.zero_le _⟩) (fun r8 h8 H locs hk Z => ?_)
  exact r_zret C Z hr hk.1 hk.2 dX9_isDigit_11
abbrev rmX9_begins : Room := ({ frames := 1, cells := 0, slots := 0, locals := 20 } : Room)
abbrev wzX9_begins : List Cond := WS yX9_begins cX9_begins 1 none
set_option maxRecDepth 100000 in
set_option maxHeartbeats 4000000 in
theorem w_X9_begins_0 {p : Program} {l : Launch} {e : Env} {s : State} {m : MethodId} {args : Array Value} {below : List Frame} {meth : Method} {c : Code} {g : Gt} {h0 : Hp} (C : Cx g (dm h0) RX9 cX9_begins 1 p s m args meth c) (hr : meth.sig.returnType = none) {Post : Hp → Prop} (x0 : Nat)   : ∀ (n : Nat)  (h : Hp) (H : Heap) (locs : List Loc) (ls : Array Slot), lv_has ls 1 [(0, .ref x0)] → St g (dm h0) s h H locs → wp_X9_begins_0 Post x0 n  h → W p l e rmX9_begins s m args below meth c H locs 0 0 (MQ below (Qv g h0 Post) args s 0 0 (dm h0)) (F0 m 0 ls []) := by
  have hx := C.1.1
  have hb := C.1.2.1
  have hml := C.1.2.2.1
  have hown := C.1.2.2.2.1
  have hts := C.1.2.2.2.2
  intro n
  induction n with
  | zero => intro  h H locs ls hl Z hk; exact (show False from hk).elim
  | succ n ih =>
    intro  h H locs ls hl Z hk
    unfold wp_X9_begins_0 at hk
    refine lv_aload_n hx hb dX9_begins_0 rfl (lv_at hl 0 rfl) ?_
    obtain ⟨ho, hk⟩ := hk
    refine r_calli Z (r_runV (As := []) (rest := []) C Z (m_X9_next l g h x0 _ hk) ho rfl (cwV 0 C.1.2.2.2.2 (gV tw_1115 tw_1117 tw_43 tw_66 tw_1118) rfl rfl rfl (by decide +kernel) ⟨Nat.le_of_ble_eq_true rfl, Nat.le_of_ble_eq_true rfl⟩) rfl hl.1 rfl (Nat.le_of_ble_eq_true rfl) dX9_begins_1 ⟨Nat.zero_le _, Nat.zero_le _⟩) (fun r1 h1 H locs hk Z => ?_)
    refine lv_bipush (v := (nI 32)) hx hb dX9_begins_4 (by decide) ?_
    refine lv_icmp_ne (tgt := 22) hx hb dX9_begins_6 (by decide) (fun q => ?_) (fun q => ?_)
    · have hk := hk.1 q
      refine lv_aload_n hx hb dX9_begins_22 rfl (lv_at hl 0 rfl) ?_
      refine lv_aload_n hx hb dX9_begins_23 rfl (lv_at hl 0 rfl) ?_
      obtain ⟨v24, hv, hk⟩ := hk
      refine r_get (ci := 9) (k := 11) (T := TX9) (N := 17) C Z hv ku_9 rfl (by decide) tw_868 dX9_begins_24 ?_
      obtain ⟨h27, hv, hk⟩ := hk
      refine r_put (ci := 9) (k := 12) (T := TX9) (N := 17) C Z hv ku_9 tyX9_ok nmX9 rfl (by decide) tw_869 rfl rfl rfl dX9_begins_27 (fun H locs Z => ?_)
      exact r_vret C Z hr hk dX9_begins_30
    · have hk := hk.2 q
      refine lv_aload_n hx hb dX9_begins_9 rfl (lv_at hl 0 rfl) ?_
      refine lv_dup hx hb dX9_begins_10 rfl ?_
      obtain ⟨v11, hv, hk⟩ := hk
      refine r_get (ci := 9) (k := 11) (T := TX9) (N := 17) C Z hv ku_9 rfl (by decide) tw_868 dX9_begins_11 ?_
      refine lv_iconst (v := (nI 1)) hx hb dX9_begins_14 (by decide) ?_
      refine lv_iadd hx hb dX9_begins_15 ?_
      obtain ⟨h16, hv, hk⟩ := hk
      refine r_put (ci := 9) (k := 11) (T := TX9) (N := 17) C Z hv ku_9 tyX9_ok nmX9 rfl (by decide) tw_868 rfl rfl rfl dX9_begins_16 (fun H locs Z => ?_)
      refine lv_goto (tgt := 0) hx hb dX9_begins_19 (by decide) ?_
      exact ih h16 _ _ _ (lv_sub hl [0] rfl) Z hk
set_option maxRecDepth 100000 in
set_option maxHeartbeats 4000000 in
theorem m_X9_begins (l : Launch) (g : Gt) (h : Hp) (x0 : Nat) (Post : Hp → Prop) (hk : wp_X9_begins x0 Post h) : Met l yX9_begins wzX9_begins rmX9_begins (Pg g h [.ref x0]) (Qv g h Post) 0 0 (dm h) := by
  refine Met_of (cc := cX9_begins) (maxL := 1) (ret := none) (by decide) (Nat.le_of_ble_eq_true rfl) (fun p e s m below meth c ls C hr hnm hl Z => ?_)
  have hx := C.1.1
  have hb := C.1.2.1
  have hml := C.1.2.2.1
  have hown := C.1.2.2.2.1
  have hts := C.1.2.2.2.2
  have hl : lv_has ls 1 [(0, .ref x0)] := hl
  unfold wp_X9_begins at hk
  generalize s.heap = H at Z ⊢
  generalize ([] : List Loc) = locs at Z ⊢
  refine lv_aload_n hx hb dX9_begins_0 rfl (lv_at hl 0 rfl) ?_
  obtain ⟨ho, hk⟩ := hk
  refine r_calli Z (r_runV (As := []) (rest := []) C Z (m_X9_next l g h x0 _ hk) ho rfl (cwV 0 C.1.2.2.2.2 (gV tw_1115 tw_1117 tw_43 tw_66 tw_1118) rfl rfl rfl (by decide +kernel) ⟨Nat.le_of_ble_eq_true rfl, Nat.le_of_ble_eq_true rfl⟩) rfl hl.1 rfl (Nat.le_of_ble_eq_true rfl) dX9_begins_1 ⟨Nat.zero_le _, Nat.zero_le _⟩) (fun r1 h1 H locs hk Z => ?_)
  refine lv_bipush (v := (nI 32)) hx hb dX9_begins_4 (by decide) ?_
  refine lv_icmp_ne (tgt := 22) hx hb dX9_begins_6 (by decide) (fun q => ?_) (fun q => ?_)
  · have hk := hk.1 q
    refine lv_aload_n hx hb dX9_begins_22 rfl (lv_at hl 0 rfl) ?_
    refine lv_aload_n hx hb dX9_begins_23 rfl (lv_at hl 0 rfl) ?_
    obtain ⟨v24, hv, hk⟩ := hk
    refine r_get (ci := 9) (k := 11) (T := TX9) (N := 17) C Z hv ku_9 rfl (by decide) tw_868 dX9_begins_24 ?_
    obtain ⟨h27, hv, hk⟩ := hk
    refine r_put (ci := 9) (k := 12) (T := TX9) (N := 17) C Z hv ku_9 tyX9_ok nmX9 rfl (by decide) tw_869 rfl rfl rfl dX9_begins_27 (fun H locs Z => ?_)
    exact r_vret C Z hr hk dX9_begins_30
  · have hk := hk.2 q
    refine lv_aload_n hx hb dX9_begins_9 rfl (lv_at hl 0 rfl) ?_
    refine lv_dup hx hb dX9_begins_10 rfl ?_
    obtain ⟨v11, hv, hk⟩ := hk
    refine r_get (ci := 9) (k := 11) (T := TX9) (N := 17) C Z hv ku_9 rfl (by decide) tw_868 dX9_begins_11 ?_
    refine lv_iconst (v := (nI 1)) hx hb dX9_begins_14 (by decide) ?_
    refine lv_iadd hx hb dX9_begins_15 ?_
    obtain ⟨h16, hv, hk⟩ := hk
    refine r_put (ci := 9) (k := 11) (T := TX9) (N := 17) C Z hv ku_9 tyX9_ok nmX9 rfl (by decide) tw_868 rfl rfl rfl dX9_begins_16 (fun H locs Z => ?_)
    refine lv_goto (tgt := 0) hx hb dX9_begins_19 (by decide) ?_
    obtain ⟨n1, hk⟩ := hk
    exact w_X9_begins_0 C hr x0 n1 h16 _ _ _ (lv_sub hl [0] rfl) Z hk
abbrev rmX9_wordNext : Room := ({ frames := 2, cells := 0, slots := 0, locals := 45 } : Room)
abbrev wzX9_wordNext : List Cond := WS yX9_wordNext cX9_wordNext 3 (some .long)
set_option maxRecDepth 100000 in
set_option maxHeartbeats 4000000 in
theorem w_X9_wordNext_6 {p : Program} {l : Launch} {e : Env} {s : State} {m : MethodId} {args : Array Value} {below : List Frame} {meth : Method} {c : Code} {g : Gt} {h0 : Hp} (C : Cx g (dm h0) RX9 cX9_wordNext 3 p s m args meth c) (hr : meth.sig.returnType = (some .long)) {Post : Int64 → Hp → Prop} (x0 : Nat)   : ∀ (n : Nat) (x1 : Int64) (h : Hp) (H : Heap) (locs : List Loc) (ls : Array Slot), lv_has ls 3 [(0, .ref x0), (1, .long x1)] → St g (dm h0) s h H locs → wp_X9_wordNext_6 Post x0 n x1 h → W p l e rmX9_wordNext s m args below meth c H locs 0 0 (MQ below (Ql g h0 Post) args s 0 0 (dm h0)) (F0 m 6 ls []) := by
  have hx := C.1.1
  have hb := C.1.2.1
  have hml := C.1.2.2.1
  have hown := C.1.2.2.2.1
  have hts := C.1.2.2.2.2
  intro n
  induction n with
  | zero => intro x1 h H locs ls hl Z hk; exact (show False from hk).elim
  | succ n ih =>
    intro x1 h H locs ls hl Z hk
    unfold wp_X9_wordNext_6 at hk
    refine lv_aload_n hx hb dX9_wordNext_6 rfl (lv_at hl 0 rfl) ?_
    obtain ⟨ho, hk⟩ := hk
    refine r_calli Z (r_runV (As := []) (rest := []) C Z (m_X9_next l g h x0 _ hk) ho rfl (cwV 0 C.1.2.2.2.2 (gV tw_1115 tw_1117 tw_43 tw_66 tw_1118) rfl rfl rfl (by decide +kernel) ⟨Nat.le_of_ble_eq_true rfl, Nat.le_of_ble_eq_true rfl⟩) rfl hl.1 rfl (Nat.le_of_ble_eq_true rfl) dX9_wordNext_7 ⟨Nat.zero_le _, Nat.zero_le _⟩) (fun r7 h7 H locs hk Z => ?_)
    refine r_calli Z (r_runS (As := [.int r7]) (rest := []) C Z (m_X9_isLetter l g h7 r7 _ hk) (va_cwS 1 C.1.2.2.2.2 (gS tw_1127 tw_1128 tw_66 tw_1129) rfl rfl rfl (by decide +kernel) ⟨Nat.le_of_ble_eq_true rfl, Nat.le_of_ble_eq_true rfl⟩) rfl hl.1 rfl (Nat.le_of_ble_eq_true rfl) dX9_wordNext_10 ⟨Nat.zero_le _, Nat.zero_le _⟩) (fun r10 h10 H locs hk Z => ?_)
    refine lv_if_eq (tgt := 63) hx hb dX9_wordNext_13 (by decide) (fun q => ?_) (fun q => ?_)
    · have hk := hk.1 q
      refine lv_aload_n hx hb dX9_wordNext_63 rfl (lv_at hl 0 rfl) ?_
      obtain ⟨v64, hv, hk⟩ := hk
      refine r_get (ci := 9) (k := 11) (T := TX9) (N := 17) C Z hv ku_9 rfl (by decide) tw_868 dX9_wordNext_64 ?_
      refine lv_aload_n hx hb dX9_wordNext_67 rfl (lv_at hl 0 rfl) ?_
      obtain ⟨v68, hv, hk⟩ := hk
      refine r_get (ci := 9) (k := 12) (T := TX9) (N := 17) C Z hv ku_9 rfl (by decide) tw_869 dX9_wordNext_68 ?_
      refine lv_isub hx hb dX9_wordNext_71 ?_
      refine lv_bipush (v := (nI 8)) hx hb dX9_wordNext_72 (by decide) ?_
      refine lv_icmp_ge (tgt := 81) hx hb dX9_wordNext_74 (by decide) (fun q => ?_) (fun q => ?_)
      · have hk := hk.1 q
        refine lv_lconst (v := lN 0) hx hb dX9_wordNext_81 (by decide) ?_
        exact r_lret C Z hr hk dX9_wordNext_82
      · have hk := hk.2 q
        refine lv_lload_n hx hb dX9_wordNext_77 rfl (lv_at hl 1 rfl) ?_
        refine lv_goto (tgt := 82) hx hb dX9_wordNext_78 (by decide) ?_
        exact r_lret C Z hr hk dX9_wordNext_82
    · have hk := hk.2 q
      refine lv_aload_n hx hb dX9_wordNext_16 rfl (lv_at hl 0 rfl) ?_
      obtain ⟨v17, hv, hk⟩ := hk
      refine r_get (ci := 9) (k := 11) (T := TX9) (N := 17) C Z hv ku_9 rfl (by decide) tw_868 dX9_wordNext_17 ?_
      refine lv_aload_n hx hb dX9_wordNext_20 rfl (lv_at hl 0 rfl) ?_
      obtain ⟨v21, hv, hk⟩ := hk
      refine r_get (ci := 9) (k := 12) (T := TX9) (N := 17) C Z hv ku_9 rfl (by decide) tw_869 dX9_wordNext_21 ?_
      refine lv_isub hx hb dX9_wordNext_24 ?_
      refine lv_bipush (v := (nI 8)) hx hb dX9_wordNext_25 (by decide) ?_
      refine lv_icmp_ge (tgt := 48) hx hb dX9_wordNext_27 (by decide) (fun q => ?_) (fun q => ?_)
      · have hk := hk.1 q
        refine lv_lconst (v := lN 0) hx hb dX9_wordNext_48 (by decide) ?_
        refine lv_lstore_n (lv' := [(1, .long (lN 0)), (0, .ref x0)]) hx hb dX9_wordNext_49 rfl hl (by decide) rfl (fun ls hl => ?_)
        refine lv_aload_n hx hb dX9_wordNext_50 rfl (lv_at hl 1 rfl) ?_
        refine lv_dup hx hb dX9_wordNext_51 rfl ?_
        obtain ⟨v52, hv, hk⟩ := hk
        refine r_get (ci := 9) (k := 11) (T := TX9) (N := 17) C Z hv ku_9 rfl (by decide) tw_868 dX9_wordNext_52 ?_
        refine lv_iconst (v := (nI 1)) hx hb dX9_wordNext_55 (by decide) ?_
        refine lv_iadd hx hb dX9_wordNext_56 ?_
        obtain ⟨h57, hv, hk⟩ := hk
        refine r_put (ci := 9) (k := 11) (T := TX9) (N := 17) C Z hv ku_9 tyX9_ok nmX9 rfl (by decide) tw_868 rfl rfl rfl dX9_wordNext_57 (fun H locs Z => ?_)
        refine lv_goto (tgt := 6) hx hb dX9_wordNext_60 (by decide) ?_
        exact ih (lN 0) h57 _ _ _ (lv_sub hl [1, 0] rfl) Z hk
      · have hk := hk.2 q
        refine lv_ldc2 (v := (lN 32)) hx hb hown (hts _ tw_1132) dX9_wordNext_30 ?_
        refine lv_lload_n hx hb dX9_wordNext_33 rfl (lv_at hl 1 rfl) ?_
        refine lv_lmul hx hb dX9_wordNext_34 ?_
        refine lv_aload_n hx hb dX9_wordNext_35 rfl (lv_at hl 0 rfl) ?_
        obtain ⟨ho, hk⟩ := hk
        refine r_calli Z (r_runV (As := []) (rest := [.long ((lN 32) * x1)]) C Z (m_X9_next l g h10 x0 _ hk) ho rfl (cwV 0 C.1.2.2.2.2 (gV tw_1115 tw_1117 tw_43 tw_66 tw_1118) rfl rfl rfl (by decide +kernel) ⟨Nat.le_of_ble_eq_true rfl, Nat.le_of_ble_eq_true rfl⟩) rfl hl.1 rfl (Nat.le_of_ble_eq_true rfl) dX9_wordNext_36 ⟨Nat.zero_le _, Nat.zero_le _⟩) (fun r36 h36 H locs hk Z => ?_)
        refine lv_i2l (v := (Int32.toInt64 r36)) hx hb dX9_wordNext_39 rfl ?_
        refine lv_ladd hx hb dX9_wordNext_40 ?_
        refine lv_ldc2 (v := (lN 96)) hx hb hown (hts _ tw_1133) dX9_wordNext_41 ?_
        refine lv_lsub hx hb dX9_wordNext_44 ?_
        refine lv_goto (tgt := 49) hx hb dX9_wordNext_45 (by decide) ?_
        refine lv_topl (fun y49 ey49 => ?_)
        have hk := hk y49 ey49
        refine lv_lstore_n (lv' := [(1, .long y49), (0, .ref x0)]) hx hb dX9_wordNext_49 rfl hl (by decide) rfl (fun ls hl => ?_)
        refine lv_aload_n hx hb dX9_wordNext_50 rfl (lv_at hl 1 rfl) ?_
        refine lv_dup hx hb dX9_wordNext_51 rfl ?_
        obtain ⟨v52, hv, hk⟩ := hk
        refine r_get (ci := 9) (k := 11) (T := TX9) (N := 17) C Z hv ku_9 rfl (by decide) tw_868 dX9_wordNext_52 ?_
        refine lv_iconst (v := (nI 1)) hx hb dX9_wordNext_55 (by decide) ?_
        refine lv_iadd hx hb dX9_wordNext_56 ?_
        obtain ⟨h57, hv, hk⟩ := hk
        refine r_put (ci := 9) (k := 11) (T := TX9) (N := 17) C Z hv ku_9 tyX9_ok nmX9 rfl (by decide) tw_868 rfl rfl rfl dX9_wordNext_57 (fun H locs Z => ?_)
        refine lv_goto (tgt := 6) hx hb dX9_wordNext_60 (by decide) ?_
        exact ih y49 h57 _ _ _ (lv_sub hl [1, 0] rfl) Z hk
set_option maxRecDepth 100000 in
set_option maxHeartbeats 4000000 in
theorem m_X9_wordNext (l : Launch) (g : Gt) (h : Hp) (x0 : Nat) (Post : Int64 → Hp → Prop) (hk : wp_X9_wordNext x0 Post h) : Met l yX9_wordNext wzX9_wordNext rmX9_wordNext (Pg g h [.ref x0]) (Ql g h Post) 0 0 (dm h) := by
  refine Met_of (cc := cX9_wordNext) (maxL := 3) (ret := (some .long)) (by decide) (Nat.le_of_ble_eq_true rfl) (fun p e s m below meth c ls C hr hnm hl Z => ?_)
  have hx := C.1.1
  have hb := C.1.2.1
  have hml := C.1.2.2.1
  have hown := C.1.2.2.2.1
  have hts := C.1.2.2.2.2
  have hl : lv_has ls 3 [(0, .ref x0)] := hl
  unfold wp_X9_wordNext at hk
  generalize s.heap = H at Z ⊢
  generalize ([] : List Loc) = locs at Z ⊢
  refine lv_aload_n hx hb dX9_wordNext_0 rfl (lv_at hl 0 rfl) ?_
  obtain ⟨ho, hk⟩ := hk
  refine r_callv Z (r_runV (As := []) (rest := []) C Z (m_X9_begins l g h x0 _ hk) ho rfl (cwV 0 C.1.2.2.2.2 (gV tw_1111 tw_1113 tw_42 tw_66 tw_1114) rfl rfl rfl (by decide +kernel) ⟨Nat.le_of_ble_eq_true rfl, Nat.le_of_ble_eq_true rfl⟩) rfl hl.1 rfl (Nat.le_of_ble_eq_true rfl) dX9_wordNext_1 ⟨Nat.zero_le _, Nat.zero_le _⟩) (fun h1 H locs hk Z => ?_)
  refine lv_lconst (v := lN 0) hx hb dX9_wordNext_4 (by decide) ?_
  refine lv_lstore_n (lv' := [(1, .long (lN 0)), (0, .ref x0)]) hx hb dX9_wordNext_5 rfl hl (by decide) rfl (fun ls hl => ?_)
  obtain ⟨n1, hk⟩ := hk
  exact w_X9_wordNext_6 C hr x0 n1 (lN 0) h1 _ _ _ (lv_sub hl [1, 0] rfl) Z hk
abbrev rmX9_numberNext : Room := ({ frames := 2, cells := 0, slots := 0, locals := 45 } : Room)
abbrev wzX9_numberNext : List Cond := WS yX9_numberNext cX9_numberNext 5 (some .long)
set_option maxRecDepth 100000 in
set_option maxHeartbeats 4000000 in
theorem w_X9_numberNext_15 {p : Program} {l : Launch} {e : Env} {s : State} {m : MethodId} {args : Array Value} {below : List Frame} {meth : Method} {c : Code} {g : Gt} {h0 : Hp} (C : Cx g (dm h0) RX9 cX9_numberNext 5 p s m args meth c) (hr : meth.sig.returnType = (some .long)) {Post : Int64 → Hp → Prop} (x0 : Nat) (x1 : Int32)   : ∀ (n : Nat) (x2 : Int64) (h : Hp) (H : Heap) (locs : List Loc) (ls : Array Slot), lv_has ls 5 [(0, .ref x0), (1, .int x1), (2, .long x2)] → St g (dm h0) s h H locs → wp_X9_numberNext_15 Post x0 x1 n x2 h → W p l e rmX9_numberNext s m args below meth c H locs 0 0 (MQ below (Ql g h0 Post) args s 0 0 (dm h0)) (F0 m 15 ls []) := by
  have hx := C.1.1
  have hb := C.1.2.1
  have hml := C.1.2.2.1
  have hown := C.1.2.2.2.1
  have hts := C.1.2.2.2.2
  intro n
  induction n with
  | zero => intro x2 h H locs ls hl Z hk; exact (show False from hk).elim
  | succ n ih =>
    intro x2 h H locs ls hl Z hk
    unfold wp_X9_numberNext_15 at hk
    refine lv_aload_n hx hb dX9_numberNext_15 rfl (lv_at hl 0 rfl) ?_
    obtain ⟨ho, hk⟩ := hk
    refine r_calli Z (r_runV (As := []) (rest := []) C Z (m_X9_next l g h x0 _ hk) ho rfl (cwV 0 C.1.2.2.2.2 (gV tw_1115 tw_1117 tw_43 tw_66 tw_1118) rfl rfl rfl (by decide +kernel) ⟨Nat.le_of_ble_eq_true rfl, Nat.le_of_ble_eq_true rfl⟩) rfl hl.1 rfl (Nat.le_of_ble_eq_true rfl) dX9_numberNext_16 ⟨Nat.zero_le _, Nat.zero_le _⟩) (fun r16 h16 H locs hk Z => ?_)
    refine r_calli Z (r_runS (As := [.int r16]) (rest := []) C Z (m_X9_isDigit l g h16 r16 _ hk) (va_cwS 1 C.1.2.2.2.2 (gS tw_1143 tw_1144 tw_66 tw_1145) rfl rfl rfl (by decide +kernel) ⟨Nat.le_of_ble_eq_true rfl, Nat.le_of_ble_eq_true rfl⟩) rfl hl.1 rfl (Nat.le_of_ble_eq_true rfl) dX9_numberNext_19 ⟨Nat.zero_le _, Nat.zero_le _⟩) (fun r19 h19 H locs hk Z => ?_)
    refine lv_if_eq (tgt := 72) hx hb dX9_numberNext_22 (by decide) (fun q => ?_) (fun q => ?_)
    · have hk := hk.1 q
      refine lv_aload_n hx hb dX9_numberNext_72 rfl (lv_at hl 0 rfl) ?_
      obtain ⟨v73, hv, hk⟩ := hk
      refine r_get (ci := 9) (k := 11) (T := TX9) (N := 17) C Z hv ku_9 rfl (by decide) tw_868 dX9_numberNext_73 ?_
      refine lv_aload_n hx hb dX9_numberNext_76 rfl (lv_at hl 0 rfl) ?_
      obtain ⟨v77, hv, hk⟩ := hk
      refine r_get (ci := 9) (k := 12) (T := TX9) (N := 17) C Z hv ku_9 rfl (by decide) tw_869 dX9_numberNext_77 ?_
      refine lv_isub hx hb dX9_numberNext_80 ?_
      refine lv_topi (fun y81 ey81 => ?_)
      have hk := hk y81 ey81
      refine lv_istore (lv' := [(4, .int y81), (0, .ref x0), (1, .int x1), (2, .long x2)]) hx hb dX9_numberNext_81 hl (by decide) rfl (fun ls hl => ?_)
      refine lv_aload_n hx hb dX9_numberNext_83 rfl (lv_at hl 1 rfl) ?_
      refine lv_iload_n hx hb dX9_numberNext_84 rfl (lv_at hl 2 rfl) ?_
      refine lv_if_eq (tgt := 103) hx hb dX9_numberNext_85 (by decide) (fun q => ?_) (fun q => ?_)
      · have hk := hk.1 q
        refine lv_iload hx hb dX9_numberNext_103 (lv_at hl 0 rfl) ?_
        refine lv_iconst (v := (nI 1)) hx hb dX9_numberNext_105 (by decide) ?_
        refine lv_icmp_lt (tgt := 135) hx hb dX9_numberNext_106 (by decide) (fun q => ?_) (fun q => ?_)
        · have hk := hk.1 q
          refine lv_iconst (v := (nI 1)) hx hb dX9_numberNext_135 (by decide) ?_
          refine lv_goto (tgt := 140) hx hb dX9_numberNext_136 (by decide) ?_
          obtain ⟨h140, hv, hk⟩ := hk
          refine r_put (ci := 9) (k := 13) (T := TX9) (N := 17) C Z hv ku_9 tyX9_ok nmX9 rfl (by decide) tw_870 rfl (by decide +kernel) (by decide +kernel) dX9_numberNext_140 (fun H locs Z => ?_)
          refine lv_lload_n hx hb dX9_numberNext_143 rfl (lv_at hl 3 rfl) ?_
          exact r_lret C Z hr hk dX9_numberNext_144
        · have hk := hk.2 q
          refine lv_iload hx hb dX9_numberNext_109 (lv_at hl 0 rfl) ?_
          refine lv_iconst (v := (nI 5)) hx hb dX9_numberNext_111 (by decide) ?_
          refine lv_icmp_gt (tgt := 135) hx hb dX9_numberNext_112 (by decide) (fun q => ?_) (fun q => ?_)
          · have hk := hk.1 q
            refine lv_iconst (v := (nI 1)) hx hb dX9_numberNext_135 (by decide) ?_
            refine lv_goto (tgt := 140) hx hb dX9_numberNext_136 (by decide) ?_
            obtain ⟨h140, hv, hk⟩ := hk
            refine r_put (ci := 9) (k := 13) (T := TX9) (N := 17) C Z hv ku_9 tyX9_ok nmX9 rfl (by decide) tw_870 rfl (by decide +kernel) (by decide +kernel) dX9_numberNext_140 (fun H locs Z => ?_)
            refine lv_lload_n hx hb dX9_numberNext_143 rfl (lv_at hl 3 rfl) ?_
            exact r_lret C Z hr hk dX9_numberNext_144
          · have hk := hk.2 q
            refine lv_iload hx hb dX9_numberNext_115 (lv_at hl 0 rfl) ?_
            refine lv_iconst (v := (nI 1)) hx hb dX9_numberNext_117 (by decide) ?_
            refine lv_icmp_le (tgt := 139) hx hb dX9_numberNext_118 (by decide) (fun q => ?_) (fun q => ?_)
            · have hk := hk.1 q
              refine lv_iconst (v := (nI 0)) hx hb dX9_numberNext_139 (by decide) ?_
              obtain ⟨h140, hv, hk⟩ := hk
              refine r_put (ci := 9) (k := 13) (T := TX9) (N := 17) C Z hv ku_9 tyX9_ok nmX9 rfl (by decide) tw_870 rfl (by decide +kernel) (by decide +kernel) dX9_numberNext_140 (fun H locs Z => ?_)
              refine lv_lload_n hx hb dX9_numberNext_143 rfl (lv_at hl 3 rfl) ?_
              exact r_lret C Z hr hk dX9_numberNext_144
            · have hk := hk.2 q
              refine lv_aload_n hx hb dX9_numberNext_121 rfl (lv_at hl 1 rfl) ?_
              obtain ⟨v122, hv, hk⟩ := hk
              refine r_get (ci := 9) (k := 5) (T := TX9) (N := 17) C Z hv ku_9 rfl (by decide) tw_862 dX9_numberNext_122 ?_
              refine lv_aload_n hx hb dX9_numberNext_125 rfl (lv_at hl 1 rfl) ?_
              obtain ⟨v126, hv, hk⟩ := hk
              refine r_get (ci := 9) (k := 12) (T := TX9) (N := 17) C Z hv ku_9 rfl (by decide) tw_869 dX9_numberNext_126 ?_
              obtain ⟨v129, hv, hk⟩ := hk
              refine r_iald C Z hv dX9_numberNext_129 ?_
              refine lv_bipush (v := (nI 48)) hx hb dX9_numberNext_130 (by decide) ?_
              refine lv_icmp_ne (tgt := 139) hx hb dX9_numberNext_132 (by decide) (fun q => ?_) (fun q => ?_)
              · have hk := hk.1 q
                refine lv_iconst (v := (nI 0)) hx hb dX9_numberNext_139 (by decide) ?_
                obtain ⟨h140, hv, hk⟩ := hk
                refine r_put (ci := 9) (k := 13) (T := TX9) (N := 17) C Z hv ku_9 tyX9_ok nmX9 rfl (by decide) tw_870 rfl (by decide +kernel) (by decide +kernel) dX9_numberNext_140 (fun H locs Z => ?_)
                refine lv_lload_n hx hb dX9_numberNext_143 rfl (lv_at hl 3 rfl) ?_
                exact r_lret C Z hr hk dX9_numberNext_144
              · have hk := hk.2 q
                refine lv_iconst (v := (nI 1)) hx hb dX9_numberNext_135 (by decide) ?_
                refine lv_goto (tgt := 140) hx hb dX9_numberNext_136 (by decide) ?_
                obtain ⟨h140, hv, hk⟩ := hk
                refine r_put (ci := 9) (k := 13) (T := TX9) (N := 17) C Z hv ku_9 tyX9_ok nmX9 rfl (by decide) tw_870 rfl (by decide +kernel) (by decide +kernel) dX9_numberNext_140 (fun H locs Z => ?_)
                refine lv_lload_n hx hb dX9_numberNext_143 rfl (lv_at hl 3 rfl) ?_
                exact r_lret C Z hr hk dX9_numberNext_144
      · have hk := hk.2 q
        refine lv_iload hx hb dX9_numberNext_88 (lv_at hl 0 rfl) ?_
        refine lv_bipush (v := (nI 12)) hx hb dX9_numberNext_90 (by decide) ?_
        refine lv_icmp_eq (tgt := 99) hx hb dX9_numberNext_92 (by decide) (fun q => ?_) (fun q => ?_)
        · have hk := hk.1 q
          refine lv_iconst (v := (nI 0)) hx hb dX9_numberNext_99 (by decide) ?_
          refine lv_goto (tgt := 140) hx hb dX9_numberNext_100 (by decide) ?_
          obtain ⟨h140, hv, hk⟩ := hk
          refine r_put (ci := 9) (k := 13) (T := TX9) (N := 17) C Z hv ku_9 tyX9_ok nmX9 rfl (by decide) tw_870 rfl (by decide +kernel) (by decide +kernel) dX9_numberNext_140 (fun H locs Z => ?_)
          refine lv_lload_n hx hb dX9_numberNext_143 rfl (lv_at hl 3 rfl) ?_
          exact r_lret C Z hr hk dX9_numberNext_144
        · have hk := hk.2 q
          refine lv_iconst (v := (nI 1)) hx hb dX9_numberNext_95 (by decide) ?_
          refine lv_goto (tgt := 140) hx hb dX9_numberNext_96 (by decide) ?_
          obtain ⟨h140, hv, hk⟩ := hk
          refine r_put (ci := 9) (k := 13) (T := TX9) (N := 17) C Z hv ku_9 tyX9_ok nmX9 rfl (by decide) tw_870 rfl (by decide +kernel) (by decide +kernel) dX9_numberNext_140 (fun H locs Z => ?_)
          refine lv_lload_n hx hb dX9_numberNext_143 rfl (lv_at hl 3 rfl) ?_
          exact r_lret C Z hr hk dX9_numberNext_144
    · have hk := hk.2 q
      refine lv_aload_n hx hb dX9_numberNext_25 rfl (lv_at hl 0 rfl) ?_
      obtain ⟨v26, hv, hk⟩ := hk
      refine r_get (ci := 9) (k := 11) (T := TX9) (N := 17) C Z hv ku_9 rfl (by decide) tw_868 dX9_numberNext_26 ?_
      refine lv_aload_n hx hb dX9_numberNext_29 rfl (lv_at hl 0 rfl) ?_
      obtain ⟨v30, hv, hk⟩ := hk
      refine r_get (ci := 9) (k := 12) (T := TX9) (N := 17) C Z hv ku_9 rfl (by decide) tw_869 dX9_numberNext_30 ?_
      refine lv_isub hx hb dX9_numberNext_33 ?_
      refine lv_bipush (v := (nI 12)) hx hb dX9_numberNext_34 (by decide) ?_
      refine lv_icmp_ge (tgt := 57) hx hb dX9_numberNext_36 (by decide) (fun q => ?_) (fun q => ?_)
      · have hk := hk.1 q
        refine lv_lload_n hx hb dX9_numberNext_57 rfl (lv_at hl 2 rfl) ?_
        refine lv_lstore_n (lv' := [(2, .long x2), (0, .ref x0), (1, .int x1)]) hx hb dX9_numberNext_58 rfl hl (by decide) rfl (fun ls hl => ?_)
        refine lv_aload_n hx hb dX9_numberNext_59 rfl (lv_at hl 1 rfl) ?_
        refine lv_dup hx hb dX9_numberNext_60 rfl ?_
        obtain ⟨v61, hv, hk⟩ := hk
        refine r_get (ci := 9) (k := 11) (T := TX9) (N := 17) C Z hv ku_9 rfl (by decide) tw_868 dX9_numberNext_61 ?_
        refine lv_iconst (v := (nI 1)) hx hb dX9_numberNext_64 (by decide) ?_
        refine lv_iadd hx hb dX9_numberNext_65 ?_
        obtain ⟨h66, hv, hk⟩ := hk
        refine r_put (ci := 9) (k := 11) (T := TX9) (N := 17) C Z hv ku_9 tyX9_ok nmX9 rfl (by decide) tw_868 rfl rfl rfl dX9_numberNext_66 (fun H locs Z => ?_)
        refine lv_goto (tgt := 15) hx hb dX9_numberNext_69 (by decide) ?_
        exact ih x2 h66 _ _ _ (lv_sub hl [1, 2, 0] rfl) Z hk
      · have hk := hk.2 q
        refine lv_ldc2 (v := (lN 10)) hx hb hown (hts _ tw_1007) dX9_numberNext_39 ?_
        refine lv_lload_n hx hb dX9_numberNext_42 rfl (lv_at hl 2 rfl) ?_
        refine lv_lmul hx hb dX9_numberNext_43 ?_
        refine lv_aload_n hx hb dX9_numberNext_44 rfl (lv_at hl 0 rfl) ?_
        obtain ⟨ho, hk⟩ := hk
        refine r_calli Z (r_runV (As := []) (rest := [.long ((lN 10) * x2)]) C Z (m_X9_next l g h19 x0 _ hk) ho rfl (cwV 0 C.1.2.2.2.2 (gV tw_1115 tw_1117 tw_43 tw_66 tw_1118) rfl rfl rfl (by decide +kernel) ⟨Nat.le_of_ble_eq_true rfl, Nat.le_of_ble_eq_true rfl⟩) rfl hl.1 rfl (Nat.le_of_ble_eq_true rfl) dX9_numberNext_45 ⟨Nat.zero_le _, Nat.zero_le _⟩) (fun r45 h45 H locs hk Z => ?_)
        refine lv_i2l (v := (Int32.toInt64 r45)) hx hb dX9_numberNext_48 rfl ?_
        refine lv_ladd hx hb dX9_numberNext_49 ?_
        refine lv_ldc2 (v := (lN 48)) hx hb hown (hts _ tw_1146) dX9_numberNext_50 ?_
        refine lv_lsub hx hb dX9_numberNext_53 ?_
        refine lv_goto (tgt := 58) hx hb dX9_numberNext_54 (by decide) ?_
        refine lv_topl (fun y58 ey58 => ?_)
        have hk := hk y58 ey58
        refine lv_lstore_n (lv' := [(2, .long y58), (0, .ref x0), (1, .int x1)]) hx hb dX9_numberNext_58 rfl hl (by decide) rfl (fun ls hl => ?_)
        refine lv_aload_n hx hb dX9_numberNext_59 rfl (lv_at hl 1 rfl) ?_
        refine lv_dup hx hb dX9_numberNext_60 rfl ?_
        obtain ⟨v61, hv, hk⟩ := hk
        refine r_get (ci := 9) (k := 11) (T := TX9) (N := 17) C Z hv ku_9 rfl (by decide) tw_868 dX9_numberNext_61 ?_
        refine lv_iconst (v := (nI 1)) hx hb dX9_numberNext_64 (by decide) ?_
        refine lv_iadd hx hb dX9_numberNext_65 ?_
        obtain ⟨h66, hv, hk⟩ := hk
        refine r_put (ci := 9) (k := 11) (T := TX9) (N := 17) C Z hv ku_9 tyX9_ok nmX9 rfl (by decide) tw_868 rfl rfl rfl dX9_numberNext_66 (fun H locs Z => ?_)
        refine lv_goto (tgt := 15) hx hb dX9_numberNext_69 (by decide) ?_
        exact ih y58 h66 _ _ _ (lv_sub hl [1, 2, 0] rfl) Z hk
set_option maxRecDepth 100000 in
set_option maxHeartbeats 4000000 in
theorem m_X9_numberNext (l : Launch) (g : Gt) (h : Hp) (x0 : Nat) (x1 : Int32) (Post : Int64 → Hp → Prop) (hk : wp_X9_numberNext x0 x1 Post h) : Met l yX9_numberNext wzX9_numberNext rmX9_numberNext (Pg g h [.ref x0, .int x1]) (Ql g h Post) 0 0 (dm h) := by
  refine Met_of (cc := cX9_numberNext) (maxL := 5) (ret := (some .long)) (by decide) (Nat.le_of_ble_eq_true rfl) (fun p e s m below meth c ls C hr hnm hl Z => ?_)
  have hx := C.1.1
  have hb := C.1.2.1
  have hml := C.1.2.2.1
  have hown := C.1.2.2.2.1
  have hts := C.1.2.2.2.2
  have hl : lv_has ls 5 [(0, .ref x0), (1, .int x1)] := hl
  unfold wp_X9_numberNext at hk
  generalize s.heap = H at Z ⊢
  generalize ([] : List Loc) = locs at Z ⊢
  refine lv_aload_n hx hb dX9_numberNext_0 rfl (lv_at hl 0 rfl) ?_
  obtain ⟨v1, hv, hk⟩ := hk
  refine r_get (ci := 9) (k := 13) (T := TX9) (N := 17) C Z hv ku_9 rfl (by decide) tw_870 dX9_numberNext_1 ?_
  refine lv_if_eq (tgt := 9) hx hb dX9_numberNext_4 (by decide) (fun q => ?_) (fun q => ?_)
  · have hk := hk.1 q
    refine lv_aload_n hx hb dX9_numberNext_9 rfl (lv_at hl 0 rfl) ?_
    obtain ⟨ho, hk⟩ := hk
    refine r_callv Z (r_runV (As := []) (rest := []) C Z (m_X9_begins l g h x0 _ hk) ho rfl (cwV 0 C.1.2.2.2.2 (gV tw_1111 tw_1113 tw_42 tw_66 tw_1114) rfl rfl rfl (by decide +kernel) ⟨Nat.le_of_ble_eq_true rfl, Nat.le_of_ble_eq_true rfl⟩) rfl hl.1 rfl (Nat.le_of_ble_eq_true rfl) dX9_numberNext_10 ⟨Nat.zero_le _, Nat.zero_le _⟩) (fun h10 H locs hk Z => ?_)
    refine lv_lconst (v := lN 0) hx hb dX9_numberNext_13 (by decide) ?_
    refine lv_lstore_n (lv' := [(2, .long (lN 0)), (0, .ref x0), (1, .int x1)]) hx hb dX9_numberNext_14 rfl hl (by decide) rfl (fun ls hl => ?_)
    obtain ⟨n1, hk⟩ := hk
    exact w_X9_numberNext_15 C hr x0 x1 n1 (lN 0) h10 _ _ _ (lv_sub hl [1, 2, 0] rfl) Z hk
  · have hk := hk.2 q
    refine lv_lconst (v := lN 0) hx hb dX9_numberNext_7 (by decide) ?_
    exact r_lret C Z hr hk dX9_numberNext_8
abbrev rmX9_readsCommand : Room := ({ frames := 3, cells := 0, slots := 0, locals := 69 } : Room)
abbrev wzX9_readsCommand : List Cond := WS yX9_readsCommand cX9_readsCommand 3 (some .long)
set_option maxRecDepth 100000 in
set_option maxHeartbeats 4000000 in
theorem w_X9_readsCommand_121 {p : Program} {l : Launch} {e : Env} {s : State} {m : MethodId} {args : Array Value} {below : List Frame} {meth : Method} {c : Code} {g : Gt} {h0 : Hp} (C : Cx g (dm h0) RX9 cX9_readsCommand 3 p s m args meth c) (hr : meth.sig.returnType = (some .long)) {Post : Int64 → Hp → Prop} (x0 : Nat) (x1 : Int64) (s0 : Nat) (s1 : Int64)   : ∀ (h : Hp) (H : Heap) (locs : List Loc) (ls : Array Slot), lv_has ls 3 [(0, .ref x0), (1, .long x1)] → St g (dm h0) s h H locs → wp_X9_readsCommand_121 Post x0 x1 s0 s1 h → W p l e rmX9_readsCommand s m args below meth c H locs 0 0 (MQ below (Ql g h0 Post) args s 0 0 (dm h0)) (F0 m 121 ls [.long s1, .ref s0]) := by
  have hx := C.1.1
  have hb := C.1.2.1
  have hml := C.1.2.2.1
  have hown := C.1.2.2.2.1
  have hts := C.1.2.2.2.2
  intro h H locs ls hl Z hk
  unfold wp_X9_readsCommand_121 at hk
  obtain ⟨h121, hv, hk⟩ := hk
  refine r_put (ci := 9) (k := 16) (T := TX9) (N := 17) C Z hv ku_9 tyX9_ok nmX9 rfl (by decide) tw_873 rfl rfl rfl dX9_readsCommand_121 (fun H locs Z => ?_)
  refine lv_aload_n hx hb dX9_readsCommand_124 rfl (lv_at hl 0 rfl) ?_
  obtain ⟨v125, hv, hk⟩ := hk
  refine r_get (ci := 9) (k := 13) (T := TX9) (N := 17) C Z hv ku_9 rfl (by decide) tw_870 dX9_readsCommand_125 ?_
  refine lv_if_ne (tgt := 163) hx hb dX9_readsCommand_128 (by decide) (fun q => ?_) (fun q => ?_)
  · have hk := hk.1 q
    refine lv_lload_n hx hb dX9_readsCommand_163 rfl (lv_at hl 1 rfl) ?_
    exact r_lret C Z hr hk dX9_readsCommand_164
  · have hk := hk.2 q
    refine lv_aload_n hx hb dX9_readsCommand_131 rfl (lv_at hl 0 rfl) ?_
    obtain ⟨ho, hk⟩ := hk
    refine r_callv Z (r_runV (As := []) (rest := []) C Z (m_X9_begins l g h121 x0 _ hk) ho rfl (cwV 0 C.1.2.2.2.2 (gV tw_1111 tw_1113 tw_42 tw_66 tw_1114) rfl rfl rfl (by decide +kernel) ⟨Nat.le_of_ble_eq_true rfl, Nat.le_of_ble_eq_true rfl⟩) rfl hl.1 rfl (Nat.le_of_ble_eq_true rfl) dX9_readsCommand_132 ⟨Nat.zero_le _, Nat.zero_le _⟩) (fun h132 H locs hk Z => ?_)
    refine lv_aload_n hx hb dX9_readsCommand_135 rfl (lv_at hl 0 rfl) ?_
    refine lv_aload_n hx hb dX9_readsCommand_136 rfl (lv_at hl 0 rfl) ?_
    obtain ⟨ho, hk⟩ := hk
    refine r_calli Z (r_runV (As := []) (rest := [.ref x0]) C Z (m_X9_next l g h132 x0 _ hk) ho rfl (cwV 0 C.1.2.2.2.2 (gV tw_1115 tw_1117 tw_43 tw_66 tw_1118) rfl rfl rfl (by decide +kernel) ⟨Nat.le_of_ble_eq_true rfl, Nat.le_of_ble_eq_true rfl⟩) rfl hl.1 rfl (Nat.le_of_ble_eq_true rfl) dX9_readsCommand_137 ⟨Nat.zero_le _, Nat.zero_le _⟩) (fun r137 h137 H locs hk Z => ?_)
    refine lv_bipush (v := (nI 59)) hx hb dX9_readsCommand_140 (by decide) ?_
    refine lv_icmp_eq (tgt := 149) hx hb dX9_readsCommand_142 (by decide) (fun q => ?_) (fun q => ?_)
    · have hk := hk.1 q
      refine lv_iconst (v := (nI 0)) hx hb dX9_readsCommand_149 (by decide) ?_
      obtain ⟨h150, hv, hk⟩ := hk
      refine r_put (ci := 9) (k := 13) (T := TX9) (N := 17) C Z hv ku_9 tyX9_ok nmX9 rfl (by decide) tw_870 rfl (by decide +kernel) (by decide +kernel) dX9_readsCommand_150 (fun H locs Z => ?_)
      refine lv_aload_n hx hb dX9_readsCommand_153 rfl (lv_at hl 0 rfl) ?_
      refine lv_dup hx hb dX9_readsCommand_154 rfl ?_
      obtain ⟨v155, hv, hk⟩ := hk
      refine r_get (ci := 9) (k := 11) (T := TX9) (N := 17) C Z hv ku_9 rfl (by decide) tw_868 dX9_readsCommand_155 ?_
      refine lv_iconst (v := (nI 1)) hx hb dX9_readsCommand_158 (by decide) ?_
      refine lv_iadd hx hb dX9_readsCommand_159 ?_
      obtain ⟨h160, hv, hk⟩ := hk
      refine r_put (ci := 9) (k := 11) (T := TX9) (N := 17) C Z hv ku_9 tyX9_ok nmX9 rfl (by decide) tw_868 rfl rfl rfl dX9_readsCommand_160 (fun H locs Z => ?_)
      refine lv_lload_n hx hb dX9_readsCommand_163 rfl (lv_at hl 1 rfl) ?_
      exact r_lret C Z hr hk dX9_readsCommand_164
    · have hk := hk.2 q
      refine lv_iconst (v := (nI 1)) hx hb dX9_readsCommand_145 (by decide) ?_
      refine lv_goto (tgt := 150) hx hb dX9_readsCommand_146 (by decide) ?_
      obtain ⟨h150, hv, hk⟩ := hk
      refine r_put (ci := 9) (k := 13) (T := TX9) (N := 17) C Z hv ku_9 tyX9_ok nmX9 rfl (by decide) tw_870 rfl (by decide +kernel) (by decide +kernel) dX9_readsCommand_150 (fun H locs Z => ?_)
      refine lv_aload_n hx hb dX9_readsCommand_153 rfl (lv_at hl 0 rfl) ?_
      refine lv_dup hx hb dX9_readsCommand_154 rfl ?_
      obtain ⟨v155, hv, hk⟩ := hk
      refine r_get (ci := 9) (k := 11) (T := TX9) (N := 17) C Z hv ku_9 rfl (by decide) tw_868 dX9_readsCommand_155 ?_
      refine lv_iconst (v := (nI 1)) hx hb dX9_readsCommand_158 (by decide) ?_
      refine lv_iadd hx hb dX9_readsCommand_159 ?_
      obtain ⟨h160, hv, hk⟩ := hk
      refine r_put (ci := 9) (k := 11) (T := TX9) (N := 17) C Z hv ku_9 tyX9_ok nmX9 rfl (by decide) tw_868 rfl rfl rfl dX9_readsCommand_160 (fun H locs Z => ?_)
      refine lv_lload_n hx hb dX9_readsCommand_163 rfl (lv_at hl 1 rfl) ?_
      exact r_lret C Z hr hk dX9_readsCommand_164
set_option maxRecDepth 100000 in
set_option maxHeartbeats 4000000 in
theorem w_X9_readsCommand_80 {p : Program} {l : Launch} {e : Env} {s : State} {m : MethodId} {args : Array Value} {below : List Frame} {meth : Method} {c : Code} {g : Gt} {h0 : Hp} (C : Cx g (dm h0) RX9 cX9_readsCommand 3 p s m args meth c) (hr : meth.sig.returnType = (some .long)) {Post : Int64 → Hp → Prop} (x0 : Nat) (x1 : Int64) (s0 : Nat) (s1 : Int64)   : ∀ (h : Hp) (H : Heap) (locs : List Loc) (ls : Array Slot), lv_has ls 3 [(0, .ref x0), (1, .long x1)] → St g (dm h0) s h H locs → wp_X9_readsCommand_80 Post x0 x1 s0 s1 h → W p l e rmX9_readsCommand s m args below meth c H locs 0 0 (MQ below (Ql g h0 Post) args s 0 0 (dm h0)) (F0 m 80 ls [.long s1, .ref s0]) := by
  have hx := C.1.1
  have hb := C.1.2.1
  have hml := C.1.2.2.1
  have hown := C.1.2.2.2.1
  have hts := C.1.2.2.2.2
  intro h H locs ls hl Z hk
  unfold wp_X9_readsCommand_80 at hk
  obtain ⟨h80, hv, hk⟩ := hk
  refine r_put (ci := 9) (k := 15) (T := TX9) (N := 17) C Z hv ku_9 tyX9_ok nmX9 rfl (by decide) tw_872 rfl rfl rfl dX9_readsCommand_80 (fun H locs Z => ?_)
  refine lv_aload_n hx hb dX9_readsCommand_83 rfl (lv_at hl 0 rfl) ?_
  refine lv_lload_n hx hb dX9_readsCommand_84 rfl (lv_at hl 1 rfl) ?_
  refine lv_ldc2 (v := (lN 17887012456)) hx hb hown (hts _ tw_1138) dX9_readsCommand_85 ?_
  refine W.lcmp hx hb dX9_readsCommand_88 ?_
  refine lv_if_eq (tgt := 100) hx hb dX9_readsCommand_89 (by decide) (fun q => ?_) (fun q => ?_)
  · have hk := hk.1 ((lc_eq x1 (lN 17887012456)).mp q)
    refine lv_lconst (v := lN 0) hx hb dX9_readsCommand_100 (by decide) ?_
    refine lv_goto (tgt := 121) hx hb dX9_readsCommand_101 (by decide) ?_
    exact w_X9_readsCommand_121 C hr x0 x1 x0 (lN 0) h80 _ _ _ (lv_sub hl [0, 1] rfl) Z hk
  · have hk := hk.2 (mt (lc_eq x1 (lN 17887012456)).mpr q)
    refine lv_lload_n hx hb dX9_readsCommand_92 rfl (lv_at hl 1 rfl) ?_
    refine lv_ldc2 (v := (lN 3544110)) hx hb hown (hts _ tw_1135) dX9_readsCommand_93 ?_
    refine W.lcmp hx hb dX9_readsCommand_96 ?_
    refine lv_if_ne (tgt := 104) hx hb dX9_readsCommand_97 (by decide) (fun q => ?_) (fun q => ?_)
    · have hk := hk.1 (mt (lc_eq x1 (lN 3544110)).mpr q)
      refine lv_aload_n hx hb dX9_readsCommand_104 rfl (lv_at hl 0 rfl) ?_
      refine lv_lload_n hx hb dX9_readsCommand_105 rfl (lv_at hl 1 rfl) ?_
      refine lv_ldc2 (v := (lN 149559)) hx hb hown (hts _ tw_1136) dX9_readsCommand_106 ?_
      refine W.lcmp hx hb dX9_readsCommand_109 ?_
      refine lv_if_eq (tgt := 117) hx hb dX9_readsCommand_110 (by decide) (fun q => ?_) (fun q => ?_)
      · have hk := hk.1 ((lc_eq x1 (lN 149559)).mp q)
        refine lv_iconst (v := (nI 0)) hx hb dX9_readsCommand_117 (by decide) ?_
        obtain ⟨ho, hk⟩ := hk
        refine r_calll Z (r_runV (As := [.int (nI 0)]) (rest := [.ref x0]) C Z (m_X9_numberNext l g h80 x0 (nI 0) _ hk) ho rfl (cwV 1 C.1.2.2.2.2 (gV tw_1139 tw_1141 tw_46 tw_66 tw_1142) rfl rfl rfl (by decide +kernel) ⟨Nat.le_of_ble_eq_true rfl, Nat.le_of_ble_eq_true rfl⟩) rfl hl.1 rfl (Nat.le_of_ble_eq_true rfl) dX9_readsCommand_118 ⟨Nat.zero_le _, Nat.zero_le _⟩) (fun r118 h118 H locs hk Z => ?_)
        exact w_X9_readsCommand_121 C hr x0 x1 x0 r118 h118 _ _ _ (lv_sub hl [0, 1] rfl) Z hk
      · have hk := hk.2 (mt (lc_eq x1 (lN 149559)).mpr q)
        refine lv_iconst (v := (nI 1)) hx hb dX9_readsCommand_113 (by decide) ?_
        refine lv_goto (tgt := 118) hx hb dX9_readsCommand_114 (by decide) ?_
        obtain ⟨ho, hk⟩ := hk
        refine r_calll Z (r_runV (As := [.int (nI 1)]) (rest := [.ref x0]) C Z (m_X9_numberNext l g h80 x0 (nI 1) _ hk) ho rfl (cwV 1 C.1.2.2.2.2 (gV tw_1139 tw_1141 tw_46 tw_66 tw_1142) rfl rfl rfl (by decide +kernel) ⟨Nat.le_of_ble_eq_true rfl, Nat.le_of_ble_eq_true rfl⟩) rfl hl.1 rfl (Nat.le_of_ble_eq_true rfl) dX9_readsCommand_118 ⟨Nat.zero_le _, Nat.zero_le _⟩) (fun r118 h118 H locs hk Z => ?_)
        exact w_X9_readsCommand_121 C hr x0 x1 x0 r118 h118 _ _ _ (lv_sub hl [0, 1] rfl) Z hk
    · have hk := hk.2 ((lc_eq x1 (lN 3544110)).mp q)
      refine lv_lconst (v := lN 0) hx hb dX9_readsCommand_100 (by decide) ?_
      refine lv_goto (tgt := 121) hx hb dX9_readsCommand_101 (by decide) ?_
      exact w_X9_readsCommand_121 C hr x0 x1 x0 (lN 0) h80 _ _ _ (lv_sub hl [0, 1] rfl) Z hk
set_option maxRecDepth 100000 in
set_option maxHeartbeats 4000000 in
theorem m_X9_readsCommand (l : Launch) (g : Gt) (h : Hp) (x0 : Nat) (Post : Int64 → Hp → Prop) (hk : wp_X9_readsCommand x0 Post h) : Met l yX9_readsCommand wzX9_readsCommand rmX9_readsCommand (Pg g h [.ref x0]) (Ql g h Post) 0 0 (dm h) := by
  refine Met_of (cc := cX9_readsCommand) (maxL := 3) (ret := (some .long)) (by decide) (Nat.le_of_ble_eq_true rfl) (fun p e s m below meth c ls C hr hnm hl Z => ?_)
  have hx := C.1.1
  have hb := C.1.2.1
  have hml := C.1.2.2.1
  have hown := C.1.2.2.2.1
  have hts := C.1.2.2.2.2
  have hl : lv_has ls 3 [(0, .ref x0)] := hl
  unfold wp_X9_readsCommand at hk
  generalize s.heap = H at Z ⊢
  generalize ([] : List Loc) = locs at Z ⊢
  refine lv_aload_n hx hb dX9_readsCommand_0 rfl (lv_at hl 0 rfl) ?_
  obtain ⟨ho, hk⟩ := hk
  refine r_calll Z (r_runV (As := []) (rest := []) C Z (m_X9_wordNext l g h x0 _ hk) ho rfl (cwV 0 C.1.2.2.2.2 (gV tw_1123 tw_1125 tw_45 tw_66 tw_1126) rfl rfl rfl (by decide +kernel) ⟨Nat.le_of_ble_eq_true rfl, Nat.le_of_ble_eq_true rfl⟩) rfl hl.1 rfl (Nat.le_of_ble_eq_true rfl) dX9_readsCommand_1 ⟨Nat.zero_le _, Nat.zero_le _⟩) (fun r1 h1 H locs hk Z => ?_)
  refine lv_lstore_n (lv' := [(1, .long r1), (0, .ref x0)]) hx hb dX9_readsCommand_4 rfl hl (by decide) rfl (fun ls hl => ?_)
  refine lv_aload_n hx hb dX9_readsCommand_5 rfl (lv_at hl 1 rfl) ?_
  refine lv_aload_n hx hb dX9_readsCommand_6 rfl (lv_at hl 1 rfl) ?_
  obtain ⟨v7, hv, hk⟩ := hk
  refine r_get (ci := 9) (k := 12) (T := TX9) (N := 17) C Z hv ku_9 rfl (by decide) tw_869 dX9_readsCommand_7 ?_
  obtain ⟨h10, hv, hk⟩ := hk
  refine r_put (ci := 9) (k := 14) (T := TX9) (N := 17) C Z hv ku_9 tyX9_ok nmX9 rfl (by decide) tw_871 rfl rfl rfl dX9_readsCommand_10 (fun H locs Z => ?_)
  refine lv_aload_n hx hb dX9_readsCommand_13 rfl (lv_at hl 1 rfl) ?_
  refine lv_lload_n hx hb dX9_readsCommand_14 rfl (lv_at hl 0 rfl) ?_
  refine lv_ldc2 (v := (lN 625710)) hx hb hown (hts _ tw_1134) dX9_readsCommand_15 ?_
  refine W.lcmp hx hb dX9_readsCommand_18 ?_
  refine lv_if_eq (tgt := 58) hx hb dX9_readsCommand_19 (by decide) (fun q => ?_) (fun q => ?_)
  · have hk := hk.1 ((lc_eq r1 (lN 625710)).mp q)
    refine lv_iconst (v := (nI 0)) hx hb dX9_readsCommand_58 (by decide) ?_
    obtain ⟨h59, hv, hk⟩ := hk
    refine r_put (ci := 9) (k := 13) (T := TX9) (N := 17) C Z hv ku_9 tyX9_ok nmX9 rfl (by decide) tw_870 rfl (by decide +kernel) (by decide +kernel) dX9_readsCommand_59 (fun H locs Z => ?_)
    refine lv_aload_n hx hb dX9_readsCommand_62 rfl (lv_at hl 1 rfl) ?_
    refine lv_lload_n hx hb dX9_readsCommand_63 rfl (lv_at hl 0 rfl) ?_
    refine lv_ldc2 (v := (lN 17887012456)) hx hb hown (hts _ tw_1138) dX9_readsCommand_64 ?_
    refine W.lcmp hx hb dX9_readsCommand_67 ?_
    refine lv_if_ne (tgt := 75) hx hb dX9_readsCommand_68 (by decide) (fun q => ?_) (fun q => ?_)
    · have hk := hk.1 (mt (lc_eq r1 (lN 17887012456)).mpr q)
      refine lv_aload_n hx hb dX9_readsCommand_75 rfl (lv_at hl 1 rfl) ?_
      refine lv_iconst (v := (nI 0)) hx hb dX9_readsCommand_76 (by decide) ?_
      obtain ⟨ho, hk⟩ := hk
      refine r_calll Z (r_runV (As := [.int (nI 0)]) (rest := [.ref x0]) C Z (m_X9_numberNext l g h59 x0 (nI 0) _ hk) ho rfl (cwV 1 C.1.2.2.2.2 (gV tw_1139 tw_1141 tw_46 tw_66 tw_1142) rfl rfl rfl (by decide +kernel) ⟨Nat.le_of_ble_eq_true rfl, Nat.le_of_ble_eq_true rfl⟩) rfl hl.1 rfl (Nat.le_of_ble_eq_true rfl) dX9_readsCommand_77 ⟨Nat.zero_le _, Nat.zero_le _⟩) (fun r77 h77 H locs hk Z => ?_)
      exact w_X9_readsCommand_80 C hr x0 r1 x0 r77 h77 _ _ _ (lv_sub hl [1, 0] rfl) Z hk
    · have hk := hk.2 ((lc_eq r1 (lN 17887012456)).mp q)
      refine lv_lconst (v := lN 0) hx hb dX9_readsCommand_71 (by decide) ?_
      refine lv_goto (tgt := 80) hx hb dX9_readsCommand_72 (by decide) ?_
      exact w_X9_readsCommand_80 C hr x0 r1 x0 (lN 0) h59 _ _ _ (lv_sub hl [1, 0] rfl) Z hk
  · have hk := hk.2 (mt (lc_eq r1 (lN 625710)).mpr q)
    refine lv_lload_n hx hb dX9_readsCommand_22 rfl (lv_at hl 0 rfl) ?_
    refine lv_ldc2 (v := (lN 3544110)) hx hb hown (hts _ tw_1135) dX9_readsCommand_23 ?_
    refine W.lcmp hx hb dX9_readsCommand_26 ?_
    refine lv_if_eq (tgt := 58) hx hb dX9_readsCommand_27 (by decide) (fun q => ?_) (fun q => ?_)
    · have hk := hk.1 ((lc_eq r1 (lN 3544110)).mp q)
      refine lv_iconst (v := (nI 0)) hx hb dX9_readsCommand_58 (by decide) ?_
      obtain ⟨h59, hv, hk⟩ := hk
      refine r_put (ci := 9) (k := 13) (T := TX9) (N := 17) C Z hv ku_9 tyX9_ok nmX9 rfl (by decide) tw_870 rfl (by decide +kernel) (by decide +kernel) dX9_readsCommand_59 (fun H locs Z => ?_)
      refine lv_aload_n hx hb dX9_readsCommand_62 rfl (lv_at hl 1 rfl) ?_
      refine lv_lload_n hx hb dX9_readsCommand_63 rfl (lv_at hl 0 rfl) ?_
      refine lv_ldc2 (v := (lN 17887012456)) hx hb hown (hts _ tw_1138) dX9_readsCommand_64 ?_
      refine W.lcmp hx hb dX9_readsCommand_67 ?_
      refine lv_if_ne (tgt := 75) hx hb dX9_readsCommand_68 (by decide) (fun q => ?_) (fun q => ?_)
      · have hk := hk.1 (mt (lc_eq r1 (lN 17887012456)).mpr q)
        refine lv_aload_n hx hb dX9_readsCommand_75 rfl (lv_at hl 1 rfl) ?_
        refine lv_iconst (v := (nI 0)) hx hb dX9_readsCommand_76 (by decide) ?_
        obtain ⟨ho, hk⟩ := hk
        refine r_calll Z (r_runV (As := [.int (nI 0)]) (rest := [.ref x0]) C Z (m_X9_numberNext l g h59 x0 (nI 0) _ hk) ho rfl (cwV 1 C.1.2.2.2.2 (gV tw_1139 tw_1141 tw_46 tw_66 tw_1142) rfl rfl rfl (by decide +kernel) ⟨Nat.le_of_ble_eq_true rfl, Nat.le_of_ble_eq_true rfl⟩) rfl hl.1 rfl (Nat.le_of_ble_eq_true rfl) dX9_readsCommand_77 ⟨Nat.zero_le _, Nat.zero_le _⟩) (fun r77 h77 H locs hk Z => ?_)
        exact w_X9_readsCommand_80 C hr x0 r1 x0 r77 h77 _ _ _ (lv_sub hl [1, 0] rfl) Z hk
      · have hk := hk.2 ((lc_eq r1 (lN 17887012456)).mp q)
        refine lv_lconst (v := lN 0) hx hb dX9_readsCommand_71 (by decide) ?_
        refine lv_goto (tgt := 80) hx hb dX9_readsCommand_72 (by decide) ?_
        exact w_X9_readsCommand_80 C hr x0 r1 x0 (lN 0) h59 _ _ _ (lv_sub hl [1, 0] rfl) Z hk
    · have hk := hk.2 (mt (lc_eq r1 (lN 3544110)).mpr q)
      refine lv_lload_n hx hb dX9_readsCommand_30 rfl (lv_at hl 0 rfl) ?_
      refine lv_ldc2 (v := (lN 149559)) hx hb hown (hts _ tw_1136) dX9_readsCommand_31 ?_
      refine W.lcmp hx hb dX9_readsCommand_34 ?_
      refine lv_if_eq (tgt := 58) hx hb dX9_readsCommand_35 (by decide) (fun q => ?_) (fun q => ?_)
      · have hk := hk.1 ((lc_eq r1 (lN 149559)).mp q)
        refine lv_iconst (v := (nI 0)) hx hb dX9_readsCommand_58 (by decide) ?_
        obtain ⟨h59, hv, hk⟩ := hk
        refine r_put (ci := 9) (k := 13) (T := TX9) (N := 17) C Z hv ku_9 tyX9_ok nmX9 rfl (by decide) tw_870 rfl (by decide +kernel) (by decide +kernel) dX9_readsCommand_59 (fun H locs Z => ?_)
        refine lv_aload_n hx hb dX9_readsCommand_62 rfl (lv_at hl 1 rfl) ?_
        refine lv_lload_n hx hb dX9_readsCommand_63 rfl (lv_at hl 0 rfl) ?_
        refine lv_ldc2 (v := (lN 17887012456)) hx hb hown (hts _ tw_1138) dX9_readsCommand_64 ?_
        refine W.lcmp hx hb dX9_readsCommand_67 ?_
        refine lv_if_ne (tgt := 75) hx hb dX9_readsCommand_68 (by decide) (fun q => ?_) (fun q => ?_)
        · have hk := hk.1 (mt (lc_eq r1 (lN 17887012456)).mpr q)
          refine lv_aload_n hx hb dX9_readsCommand_75 rfl (lv_at hl 1 rfl) ?_
          refine lv_iconst (v := (nI 0)) hx hb dX9_readsCommand_76 (by decide) ?_
          obtain ⟨ho, hk⟩ := hk
          refine r_calll Z (r_runV (As := [.int (nI 0)]) (rest := [.ref x0]) C Z (m_X9_numberNext l g h59 x0 (nI 0) _ hk) ho rfl (cwV 1 C.1.2.2.2.2 (gV tw_1139 tw_1141 tw_46 tw_66 tw_1142) rfl rfl rfl (by decide +kernel) ⟨Nat.le_of_ble_eq_true rfl, Nat.le_of_ble_eq_true rfl⟩) rfl hl.1 rfl (Nat.le_of_ble_eq_true rfl) dX9_readsCommand_77 ⟨Nat.zero_le _, Nat.zero_le _⟩) (fun r77 h77 H locs hk Z => ?_)
          exact w_X9_readsCommand_80 C hr x0 r1 x0 r77 h77 _ _ _ (lv_sub hl [1, 0] rfl) Z hk
        · have hk := hk.2 ((lc_eq r1 (lN 17887012456)).mp q)
          refine lv_lconst (v := lN 0) hx hb dX9_readsCommand_71 (by decide) ?_
          refine lv_goto (tgt := 80) hx hb dX9_readsCommand_72 (by decide) ?_
          exact w_X9_readsCommand_80 C hr x0 r1 x0 (lN 0) h59 _ _ _ (lv_sub hl [1, 0] rfl) Z hk
      · have hk := hk.2 (mt (lc_eq r1 (lN 149559)).mpr q)
        refine lv_lload_n hx hb dX9_readsCommand_38 rfl (lv_at hl 0 rfl) ?_
        refine lv_ldc2 (v := (lN 409067)) hx hb hown (hts _ tw_1137) dX9_readsCommand_39 ?_
        refine W.lcmp hx hb dX9_readsCommand_42 ?_
        refine lv_if_eq (tgt := 58) hx hb dX9_readsCommand_43 (by decide) (fun q => ?_) (fun q => ?_)
        · have hk := hk.1 ((lc_eq r1 (lN 409067)).mp q)
          refine lv_iconst (v := (nI 0)) hx hb dX9_readsCommand_58 (by decide) ?_
          obtain ⟨h59, hv, hk⟩ := hk
          refine r_put (ci := 9) (k := 13) (T := TX9) (N := 17) C Z hv ku_9 tyX9_ok nmX9 rfl (by decide) tw_870 rfl (by decide +kernel) (by decide +kernel) dX9_readsCommand_59 (fun H locs Z => ?_)
          refine lv_aload_n hx hb dX9_readsCommand_62 rfl (lv_at hl 1 rfl) ?_
          refine lv_lload_n hx hb dX9_readsCommand_63 rfl (lv_at hl 0 rfl) ?_
          refine lv_ldc2 (v := (lN 17887012456)) hx hb hown (hts _ tw_1138) dX9_readsCommand_64 ?_
          refine W.lcmp hx hb dX9_readsCommand_67 ?_
          refine lv_if_ne (tgt := 75) hx hb dX9_readsCommand_68 (by decide) (fun q => ?_) (fun q => ?_)
          · have hk := hk.1 (mt (lc_eq r1 (lN 17887012456)).mpr q)
            refine lv_aload_n hx hb dX9_readsCommand_75 rfl (lv_at hl 1 rfl) ?_
            refine lv_iconst (v := (nI 0)) hx hb dX9_readsCommand_76 (by decide) ?_
            obtain ⟨ho, hk⟩ := hk
            refine r_calll Z (r_runV (As := [.int (nI 0)]) (rest := [.ref x0]) C Z (m_X9_numberNext l g h59 x0 (nI 0) _ hk) ho rfl (cwV 1 C.1.2.2.2.2 (gV tw_1139 tw_1141 tw_46 tw_66 tw_1142) rfl rfl rfl (by decide +kernel) ⟨Nat.le_of_ble_eq_true rfl, Nat.le_of_ble_eq_true rfl⟩) rfl hl.1 rfl (Nat.le_of_ble_eq_true rfl) dX9_readsCommand_77 ⟨Nat.zero_le _, Nat.zero_le _⟩) (fun r77 h77 H locs hk Z => ?_)
            exact w_X9_readsCommand_80 C hr x0 r1 x0 r77 h77 _ _ _ (lv_sub hl [1, 0] rfl) Z hk
          · have hk := hk.2 ((lc_eq r1 (lN 17887012456)).mp q)
            refine lv_lconst (v := lN 0) hx hb dX9_readsCommand_71 (by decide) ?_
            refine lv_goto (tgt := 80) hx hb dX9_readsCommand_72 (by decide) ?_
            exact w_X9_readsCommand_80 C hr x0 r1 x0 (lN 0) h59 _ _ _ (lv_sub hl [1, 0] rfl) Z hk
        · have hk := hk.2 (mt (lc_eq r1 (lN 409067)).mpr q)
          refine lv_lload_n hx hb dX9_readsCommand_46 rfl (lv_at hl 0 rfl) ?_
          refine lv_ldc2 (v := (lN 17887012456)) hx hb hown (hts _ tw_1138) dX9_readsCommand_47 ?_
          refine W.lcmp hx hb dX9_readsCommand_50 ?_
          refine lv_if_eq (tgt := 58) hx hb dX9_readsCommand_51 (by decide) (fun q => ?_) (fun q => ?_)
          · have hk := hk.1 ((lc_eq r1 (lN 17887012456)).mp q)
            refine lv_iconst (v := (nI 0)) hx hb dX9_readsCommand_58 (by decide) ?_
            obtain ⟨h59, hv, hk⟩ := hk
            refine r_put (ci := 9) (k := 13) (T := TX9) (N := 17) C Z hv ku_9 tyX9_ok nmX9 rfl (by decide) tw_870 rfl (by decide +kernel) (by decide +kernel) dX9_readsCommand_59 (fun H locs Z => ?_)
            refine lv_aload_n hx hb dX9_readsCommand_62 rfl (lv_at hl 1 rfl) ?_
            refine lv_lload_n hx hb dX9_readsCommand_63 rfl (lv_at hl 0 rfl) ?_
            refine lv_ldc2 (v := (lN 17887012456)) hx hb hown (hts _ tw_1138) dX9_readsCommand_64 ?_
            refine W.lcmp hx hb dX9_readsCommand_67 ?_
            refine lv_if_ne (tgt := 75) hx hb dX9_readsCommand_68 (by decide) (fun q => ?_) (fun q => ?_)
            · have hk := hk.1 (mt (lc_eq r1 (lN 17887012456)).mpr q)
              refine lv_aload_n hx hb dX9_readsCommand_75 rfl (lv_at hl 1 rfl) ?_
              refine lv_iconst (v := (nI 0)) hx hb dX9_readsCommand_76 (by decide) ?_
              obtain ⟨ho, hk⟩ := hk
              refine r_calll Z (r_runV (As := [.int (nI 0)]) (rest := [.ref x0]) C Z (m_X9_numberNext l g h59 x0 (nI 0) _ hk) ho rfl (cwV 1 C.1.2.2.2.2 (gV tw_1139 tw_1141 tw_46 tw_66 tw_1142) rfl rfl rfl (by decide +kernel) ⟨Nat.le_of_ble_eq_true rfl, Nat.le_of_ble_eq_true rfl⟩) rfl hl.1 rfl (Nat.le_of_ble_eq_true rfl) dX9_readsCommand_77 ⟨Nat.zero_le _, Nat.zero_le _⟩) (fun r77 h77 H locs hk Z => ?_)
              exact w_X9_readsCommand_80 C hr x0 r1 x0 r77 h77 _ _ _ (lv_sub hl [1, 0] rfl) Z hk
            · have hk := hk.2 ((lc_eq r1 (lN 17887012456)).mp q)
              refine lv_lconst (v := lN 0) hx hb dX9_readsCommand_71 (by decide) ?_
              refine lv_goto (tgt := 80) hx hb dX9_readsCommand_72 (by decide) ?_
              exact w_X9_readsCommand_80 C hr x0 r1 x0 (lN 0) h59 _ _ _ (lv_sub hl [1, 0] rfl) Z hk
          · have hk := hk.2 (mt (lc_eq r1 (lN 17887012456)).mpr q)
            refine lv_iconst (v := (nI 1)) hx hb dX9_readsCommand_54 (by decide) ?_
            refine lv_goto (tgt := 59) hx hb dX9_readsCommand_55 (by decide) ?_
            obtain ⟨h59, hv, hk⟩ := hk
            refine r_put (ci := 9) (k := 13) (T := TX9) (N := 17) C Z hv ku_9 tyX9_ok nmX9 rfl (by decide) tw_870 rfl (by decide +kernel) (by decide +kernel) dX9_readsCommand_59 (fun H locs Z => ?_)
            refine lv_aload_n hx hb dX9_readsCommand_62 rfl (lv_at hl 1 rfl) ?_
            refine lv_lload_n hx hb dX9_readsCommand_63 rfl (lv_at hl 0 rfl) ?_
            refine lv_ldc2 (v := (lN 17887012456)) hx hb hown (hts _ tw_1138) dX9_readsCommand_64 ?_
            refine W.lcmp hx hb dX9_readsCommand_67 ?_
            refine lv_if_ne (tgt := 75) hx hb dX9_readsCommand_68 (by decide) (fun q => ?_) (fun q => ?_)
            · have hk := hk.1 (mt (lc_eq r1 (lN 17887012456)).mpr q)
              refine lv_aload_n hx hb dX9_readsCommand_75 rfl (lv_at hl 1 rfl) ?_
              refine lv_iconst (v := (nI 0)) hx hb dX9_readsCommand_76 (by decide) ?_
              obtain ⟨ho, hk⟩ := hk
              refine r_calll Z (r_runV (As := [.int (nI 0)]) (rest := [.ref x0]) C Z (m_X9_numberNext l g h59 x0 (nI 0) _ hk) ho rfl (cwV 1 C.1.2.2.2.2 (gV tw_1139 tw_1141 tw_46 tw_66 tw_1142) rfl rfl rfl (by decide +kernel) ⟨Nat.le_of_ble_eq_true rfl, Nat.le_of_ble_eq_true rfl⟩) rfl hl.1 rfl (Nat.le_of_ble_eq_true rfl) dX9_readsCommand_77 ⟨Nat.zero_le _, Nat.zero_le _⟩) (fun r77 h77 H locs hk Z => ?_)
              exact w_X9_readsCommand_80 C hr x0 r1 x0 r77 h77 _ _ _ (lv_sub hl [1, 0] rfl) Z hk
            · have hk := hk.2 ((lc_eq r1 (lN 17887012456)).mp q)
              refine lv_lconst (v := lN 0) hx hb dX9_readsCommand_71 (by decide) ?_
              refine lv_goto (tgt := 80) hx hb dX9_readsCommand_72 (by decide) ?_
              exact w_X9_readsCommand_80 C hr x0 r1 x0 (lN 0) h59 _ _ _ (lv_sub hl [1, 0] rfl) Z hk
abbrev rmX9_does : Room := ({ frames := 14, cells := 0, slots := 0, locals := 342 } : Room)
abbrev wzX9_does : List Cond := WS yX9_does cX9_does 3 (some .int)
set_option maxRecDepth 100000 in
set_option maxHeartbeats 4000000 in
theorem m_X9_does (l : Launch) (g : Gt) (h : Hp) (x0 : Nat) (x1 : Int64) (Post : Int32 → Hp → Prop) (hk : wp_X9_does x0 x1 Post h) : Met l yX9_does wzX9_does rmX9_does (Pg g h [.ref x0, .long x1]) (Qi g h Post) 0 0 (dm h) := by
  refine Met_of (cc := cX9_does) (maxL := 3) (ret := (some .int)) (by decide) (Nat.le_of_ble_eq_true rfl) (fun p e s m below meth c ls C hr hnm hl Z => ?_)
  have hx := C.1.1
  have hb := C.1.2.1
  have hml := C.1.2.2.1
  have hown := C.1.2.2.2.1
  have hts := C.1.2.2.2.2
  have hl : lv_has ls 3 [(0, .ref x0), (1, .long x1)] := hl
  unfold wp_X9_does at hk
  generalize s.heap = H at Z ⊢
  generalize ([] : List Loc) = locs at Z ⊢
  refine lv_lload_n hx hb dX9_does_0 rfl (lv_at hl 1 rfl) ?_
  refine lv_ldc2 (v := (lN 625710)) hx hb hown (hts _ tw_1134) dX9_does_1 ?_
  refine W.lcmp hx hb dX9_does_4 ?_
  refine lv_if_ne (tgt := 21) hx hb dX9_does_5 (by decide) (fun q => ?_) (fun q => ?_)
  · have hk := hk.1 (mt (lc_eq x1 (lN 625710)).mpr q)
    refine lv_lload_n hx hb dX9_does_21 rfl (lv_at hl 1 rfl) ?_
    refine lv_ldc2 (v := (lN 3544110)) hx hb hown (hts _ tw_1135) dX9_does_22 ?_
    refine W.lcmp hx hb dX9_does_25 ?_
    refine lv_if_ne (tgt := 38) hx hb dX9_does_26 (by decide) (fun q => ?_) (fun q => ?_)
    · have hk := hk.1 (mt (lc_eq x1 (lN 3544110)).mpr q)
      refine lv_lload_n hx hb dX9_does_38 rfl (lv_at hl 1 rfl) ?_
      refine lv_ldc2 (v := (lN 149559)) hx hb hown (hts _ tw_1136) dX9_does_39 ?_
      refine W.lcmp hx hb dX9_does_42 ?_
      refine lv_if_ne (tgt := 59) hx hb dX9_does_43 (by decide) (fun q => ?_) (fun q => ?_)
      · have hk := hk.1 (mt (lc_eq x1 (lN 149559)).mpr q)
        refine lv_lload_n hx hb dX9_does_59 rfl (lv_at hl 1 rfl) ?_
        refine lv_ldc2 (v := (lN 409067)) hx hb hown (hts _ tw_1137) dX9_does_60 ?_
        refine W.lcmp hx hb dX9_does_63 ?_
        refine lv_if_ne (tgt := 82) hx hb dX9_does_64 (by decide) (fun q => ?_) (fun q => ?_)
        · have hk := hk.1 (mt (lc_eq x1 (lN 409067)).mpr q)
          refine lv_aload_n hx hb dX9_does_82 rfl (lv_at hl 0 rfl) ?_
          obtain ⟨ho, hk⟩ := hk
          refine r_calli Z (r_runV (As := []) (rest := []) C Z (m_X9_publishes l g h x0 _ hk) ho rfl (cwV 0 C.1.2.2.2.2 (gV tw_964 tw_966 tw_19 tw_66 tw_967) rfl rfl rfl (by decide +kernel) ⟨Nat.le_of_ble_eq_true rfl, Nat.le_of_ble_eq_true rfl⟩) rfl hl.1 rfl (Nat.le_of_ble_eq_true rfl) dX9_does_83 ⟨Nat.zero_le _, Nat.zero_le _⟩) (fun r83 h83 H locs hk Z => ?_)
          exact r_iret C Z hr hk dX9_does_86
        · have hk := hk.2 ((lc_eq x1 (lN 409067)).mp q)
          refine lv_aload_n hx hb dX9_does_67 rfl (lv_at hl 0 rfl) ?_
          refine lv_aload_n hx hb dX9_does_68 rfl (lv_at hl 0 rfl) ?_
          obtain ⟨v69, hv, hk⟩ := hk
          refine r_get (ci := 9) (k := 15) (T := TX9) (N := 17) C Z hv ku_9 rfl (by decide) tw_872 dX9_does_69 ?_
          refine lv_aload_n hx hb dX9_does_72 rfl (lv_at hl 0 rfl) ?_
          obtain ⟨v73, hv, hk⟩ := hk
          refine r_get (ci := 9) (k := 16) (T := TX9) (N := 17) C Z hv ku_9 rfl (by decide) tw_873 dX9_does_73 ?_
          obtain ⟨ho, hk⟩ := hk
          refine r_calli Z (r_runV (As := [.long v69, .long v73]) (rest := []) C Z (m_X9_looks l g h x0 v69 v73 _ hk) ho rfl (cwV 2 C.1.2.2.2.2 (gV tw_1079 tw_1081 tw_41 tw_66 tw_1082) rfl rfl rfl (by decide +kernel) ⟨Nat.le_of_ble_eq_true rfl, Nat.le_of_ble_eq_true rfl⟩) rfl hl.1 rfl (Nat.le_of_ble_eq_true rfl) dX9_does_76 ⟨Nat.zero_le _, Nat.zero_le _⟩) (fun r76 h76 H locs hk Z => ?_)
          refine lv_goto (tgt := 86) hx hb dX9_does_79 (by decide) ?_
          exact r_iret C Z hr hk dX9_does_86
      · have hk := hk.2 ((lc_eq x1 (lN 149559)).mp q)
        refine lv_aload_n hx hb dX9_does_46 rfl (lv_at hl 0 rfl) ?_
        refine lv_aload_n hx hb dX9_does_47 rfl (lv_at hl 0 rfl) ?_
        obtain ⟨v48, hv, hk⟩ := hk
        refine r_get (ci := 9) (k := 15) (T := TX9) (N := 17) C Z hv ku_9 rfl (by decide) tw_872 dX9_does_48 ?_
        refine lv_aload_n hx hb dX9_does_51 rfl (lv_at hl 0 rfl) ?_
        obtain ⟨v52, hv, hk⟩ := hk
        refine r_get (ci := 9) (k := 16) (T := TX9) (N := 17) C Z hv ku_9 rfl (by decide) tw_873 dX9_does_52 ?_
        obtain ⟨ho, hk⟩ := hk
        refine r_calli Z (r_runV (As := [.long v48, .long v52]) (rest := []) C Z (m_X9_draws l g h x0 v48 v52 _ hk) ho rfl (cwV 2 C.1.2.2.2.2 (gV tw_1051 tw_1053 tw_36 tw_66 tw_1054) rfl rfl rfl (by decide +kernel) ⟨Nat.le_of_ble_eq_true rfl, Nat.le_of_ble_eq_true rfl⟩) rfl hl.1 rfl (Nat.le_of_ble_eq_true rfl) dX9_does_55 ⟨Nat.zero_le _, Nat.zero_le _⟩) (fun r55 h55 H locs hk Z => ?_)
        exact r_iret C Z hr hk dX9_does_58
    · have hk := hk.2 ((lc_eq x1 (lN 3544110)).mp q)
      refine lv_aload_n hx hb dX9_does_29 rfl (lv_at hl 0 rfl) ?_
      refine lv_aload_n hx hb dX9_does_30 rfl (lv_at hl 0 rfl) ?_
      obtain ⟨v31, hv, hk⟩ := hk
      refine r_get (ci := 9) (k := 15) (T := TX9) (N := 17) C Z hv ku_9 rfl (by decide) tw_872 dX9_does_31 ?_
      obtain ⟨ho, hk⟩ := hk
      refine r_calli Z (r_runV (As := [.long v31]) (rest := []) C Z (m_X9_cleans l g h x0 v31 _ hk) ho rfl (cwV 1 C.1.2.2.2.2 (gV tw_943 tw_945 tw_17 tw_66 tw_946) rfl rfl rfl (by decide +kernel) ⟨Nat.le_of_ble_eq_true rfl, Nat.le_of_ble_eq_true rfl⟩) rfl hl.1 rfl (Nat.le_of_ble_eq_true rfl) dX9_does_34 ⟨Nat.zero_le _, Nat.zero_le _⟩) (fun r34 h34 H locs hk Z => ?_)
      exact r_iret C Z hr hk dX9_does_37
  · have hk := hk.2 ((lc_eq x1 (lN 625710)).mp q)
    refine lv_aload_n hx hb dX9_does_8 rfl (lv_at hl 0 rfl) ?_
    refine lv_aload_n hx hb dX9_does_9 rfl (lv_at hl 0 rfl) ?_
    obtain ⟨v10, hv, hk⟩ := hk
    refine r_get (ci := 9) (k := 15) (T := TX9) (N := 17) C Z hv ku_9 rfl (by decide) tw_872 dX9_does_10 ?_
    refine lv_aload_n hx hb dX9_does_13 rfl (lv_at hl 0 rfl) ?_
    obtain ⟨v14, hv, hk⟩ := hk
    refine r_get (ci := 9) (k := 16) (T := TX9) (N := 17) C Z hv ku_9 rfl (by decide) tw_873 dX9_does_14 ?_
    obtain ⟨ho, hk⟩ := hk
    refine r_calli Z (r_runV (As := [.long v10, .long v14]) (rest := []) C Z (m_X9_scans l g h x0 v10 v14 _ hk) ho rfl (cwV 2 C.1.2.2.2.2 (gV tw_917 tw_919 tw_15 tw_66 tw_920) rfl rfl rfl (by decide +kernel) ⟨Nat.le_of_ble_eq_true rfl, Nat.le_of_ble_eq_true rfl⟩) rfl hl.1 rfl (Nat.le_of_ble_eq_true rfl) dX9_does_17 ⟨Nat.zero_le _, Nat.zero_le _⟩) (fun r17 h17 H locs hk Z => ?_)
    exact r_iret C Z hr hk dX9_does_20
abbrev rmX9_fails : Room := ({ frames := 0, cells := 0, slots := 0, locals := 0 } : Room)
abbrev wzX9_fails : List Cond := WS yX9_fails cX9_fails 6 (some .int)
set_option maxRecDepth 100000 in
set_option maxHeartbeats 4000000 in
theorem w_X9_fails_24 {p : Program} {l : Launch} {e : Env} {s : State} {m : MethodId} {args : Array Value} {below : List Frame} {meth : Method} {c : Code} {g : Gt} {h0 : Hp} (C : Cx g (dm h0) RX9 cX9_fails 6 p s m args meth c) (hr : meth.sig.returnType = (some .int)) {Post : Int32 → Hp → Prop} (x0 : Nat) (x2 : Int32)   : ∀ (n : Nat) (x5 : Int32) (h : Hp) (H : Heap) (locs : List Loc) (ls : Array Slot), lv_has ls 6 [(0, .ref x0), (2, .int x2), (5, .int x5)] → St g (dm h0) s h H locs → wp_X9_fails_24 Post x0 x2 n x5 h → W p l e rmX9_fails s m args below meth c H locs 0 0 (MQ below (Qi g h0 Post) args s 0 0 (dm h0)) (F0 m 24 ls []) := by
  have hx := C.1.1
  have hb := C.1.2.1
  have hml := C.1.2.2.1
  have hown := C.1.2.2.2.1
  have hts := C.1.2.2.2.2
  intro n
  induction n with
  | zero => intro x5 h H locs ls hl Z hk; exact (show False from hk).elim
  | succ n ih =>
    intro x5 h H locs ls hl Z hk
    unfold wp_X9_fails_24 at hk
    refine lv_iload hx hb dX9_fails_24 (lv_at hl 2 rfl) ?_
    refine lv_sipush (v := (nI 1367)) hx hb dX9_fails_26 (by decide) ?_
    refine lv_icmp_ge (tgt := 52) hx hb dX9_fails_29 (by decide) (fun q => ?_) (fun q => ?_)
    · have hk := hk.1 q
      refine lv_sipush (v := (-1000 : Int32)) hx hb dX9_fails_52 (by decide) ?_
      refine lv_iload_n hx hb dX9_fails_55 rfl (lv_at hl 1 rfl) ?_
      refine lv_isub hx hb dX9_fails_56 ?_
      exact r_iret C Z hr hk dX9_fails_57
    · have hk := hk.2 q
      refine lv_aload_n hx hb dX9_fails_32 rfl (lv_at hl 0 rfl) ?_
      obtain ⟨v33, hv, hk⟩ := hk
      refine r_get (ci := 9) (k := 0) (T := TX9) (N := 17) C Z hv ku_9 rfl (by decide) tw_857 dX9_fails_33 ?_
      refine lv_iload hx hb dX9_fails_36 (lv_at hl 2 rfl) ?_
      refine lv_aload_n hx hb dX9_fails_38 rfl (lv_at hl 0 rfl) ?_
      obtain ⟨v39, hv, hk⟩ := hk
      refine r_get (ci := 9) (k := 1) (T := TX9) (N := 17) C Z hv ku_9 rfl (by decide) tw_858 dX9_fails_39 ?_
      refine lv_iload hx hb dX9_fails_42 (lv_at hl 2 rfl) ?_
      obtain ⟨v44, hv, hk⟩ := hk
      refine r_lald C Z hv dX9_fails_44 ?_
      obtain ⟨h45, hv, hk⟩ := hk
      refine r_last C Z hv dX9_fails_45 (fun H locs Z => ?_)
      obtain ⟨y46, ey46⟩ : ∃ y : Int32, y = x5 + (nI 1) := ⟨_, rfl⟩
      have hk := hk y46 ey46
      refine lv_iinc (v := y46) (lv' := [(5, .int y46), (0, .ref x0), (2, .int x2)]) hx hb dX9_fails_46 hl (k := 2) rfl (by rw [ey46]; rfl) (by decide) rfl (fun ls hl => ?_)
      refine lv_goto (tgt := 24) hx hb dX9_fails_49 (by decide) ?_
      exact ih y46 h45 _ _ _ (lv_sub hl [1, 2, 0] rfl) Z hk
set_option maxRecDepth 100000 in
set_option maxHeartbeats 4000000 in
theorem m_X9_fails (l : Launch) (g : Gt) (h : Hp) (x0 : Nat) (x1 : Int32) (x2 : Int32) (x3 : Int32) (x4 : Int32) (Post : Int32 → Hp → Prop) (hk : wp_X9_fails x0 x1 x2 x3 x4 Post h) : Met l yX9_fails wzX9_fails rmX9_fails (Pg g h [.ref x0, .int x1, .int x2, .int x3, .int x4]) (Qi g h Post) 0 0 (dm h) := by
  refine Met_of (cc := cX9_fails) (maxL := 6) (ret := (some .int)) (by decide) (Nat.le_of_ble_eq_true rfl) (fun p e s m below meth c ls C hr hnm hl Z => ?_)
  have hx := C.1.1
  have hb := C.1.2.1
  have hml := C.1.2.2.1
  have hown := C.1.2.2.2.1
  have hts := C.1.2.2.2.2
  have hl : lv_has ls 6 [(0, .ref x0), (1, .int x1), (2, .int x2), (3, .int x3), (4, .int x4)] := hl
  unfold wp_X9_fails at hk
  generalize s.heap = H at Z ⊢
  generalize ([] : List Loc) = locs at Z ⊢
  refine lv_aload_n hx hb dX9_fails_0 rfl (lv_at hl 0 rfl) ?_
  refine lv_iload_n hx hb dX9_fails_1 rfl (lv_at hl 1 rfl) ?_
  obtain ⟨h2, hv, hk⟩ := hk
  refine r_put (ci := 9) (k := 7) (T := TX9) (N := 17) C Z hv ku_9 tyX9_ok nmX9 rfl (by decide) tw_864 rfl rfl rfl dX9_fails_2 (fun H locs Z => ?_)
  refine lv_aload_n hx hb dX9_fails_5 rfl (lv_at hl 0 rfl) ?_
  refine lv_iload_n hx hb dX9_fails_6 rfl (lv_at hl 2 rfl) ?_
  obtain ⟨h7, hv, hk⟩ := hk
  refine r_put (ci := 9) (k := 8) (T := TX9) (N := 17) C Z hv ku_9 tyX9_ok nmX9 rfl (by decide) tw_865 rfl rfl rfl dX9_fails_7 (fun H locs Z => ?_)
  refine lv_aload_n hx hb dX9_fails_10 rfl (lv_at hl 0 rfl) ?_
  refine lv_iload_n hx hb dX9_fails_11 rfl (lv_at hl 3 rfl) ?_
  obtain ⟨h12, hv, hk⟩ := hk
  refine r_put (ci := 9) (k := 9) (T := TX9) (N := 17) C Z hv ku_9 tyX9_ok nmX9 rfl (by decide) tw_866 rfl rfl rfl dX9_fails_12 (fun H locs Z => ?_)
  refine lv_aload_n hx hb dX9_fails_15 rfl (lv_at hl 0 rfl) ?_
  refine lv_iload hx hb dX9_fails_16 (lv_at hl 4 rfl) ?_
  obtain ⟨h18, hv, hk⟩ := hk
  refine r_put (ci := 9) (k := 10) (T := TX9) (N := 17) C Z hv ku_9 tyX9_ok nmX9 rfl (by decide) tw_867 rfl rfl rfl dX9_fails_18 (fun H locs Z => ?_)
  refine lv_iconst (v := (nI 0)) hx hb dX9_fails_21 (by decide) ?_
  refine lv_istore (lv' := [(5, .int (nI 0)), (0, .ref x0), (1, .int x1), (2, .int x2), (3, .int x3), (4, .int x4)]) hx hb dX9_fails_22 hl (by decide) rfl (fun ls hl => ?_)
  obtain ⟨n1, hk⟩ := hk
  exact w_X9_fails_24 C hr x0 x2 n1 (nI 0) h18 _ _ _ (lv_sub hl [1, 3, 0] rfl) Z hk
abbrev rmX9_run : Room := ({ frames := 15, cells := 0, slots := 0, locals := 364 } : Room)
abbrev wzX9_run : List Cond := WS yX9_run cX9_run 5 (some .int)
set_option maxRecDepth 100000 in
set_option maxHeartbeats 4000000 in
theorem w_X9_run_15 {p : Program} {l : Launch} {e : Env} {s : State} {m : MethodId} {args : Array Value} {below : List Frame} {meth : Method} {c : Code} {g : Gt} {h0 : Hp} (C : Cx g (dm h0) RX9 cX9_run 5 p s m args meth c) (hr : meth.sig.returnType = (some .int)) {Post : Int32 → Hp → Prop} (x0 : Nat)   : ∀ (n : Nat) (x1 : Int32) (h : Hp) (H : Heap) (locs : List Loc) (ls : Array Slot), lv_has ls 5 [(0, .ref x0), (1, .int x1)] → St g (dm h0) s h H locs → wp_X9_run_15 Post x0 n x1 h → W p l e rmX9_run s m args below meth c H locs 0 0 (MQ below (Qi g h0 Post) args s 0 0 (dm h0)) (F0 m 15 ls []) := by
  have hx := C.1.1
  have hb := C.1.2.1
  have hml := C.1.2.2.1
  have hown := C.1.2.2.2.1
  have hts := C.1.2.2.2.2
  intro n
  induction n with
  | zero => intro x1 h H locs ls hl Z hk; exact (show False from hk).elim
  | succ n ih =>
    intro x1 h H locs ls hl Z hk
    unfold wp_X9_run_15 at hk
    refine lv_aload_n hx hb dX9_run_15 rfl (lv_at hl 0 rfl) ?_
    obtain ⟨v16, hv, hk⟩ := hk
    refine r_get (ci := 9) (k := 11) (T := TX9) (N := 17) C Z hv ku_9 rfl (by decide) tw_868 dX9_run_16 ?_
    refine lv_aload_n hx hb dX9_run_19 rfl (lv_at hl 0 rfl) ?_
    obtain ⟨v20, hv, hk⟩ := hk
    refine r_get (ci := 9) (k := 6) (T := TX9) (N := 17) C Z hv ku_9 rfl (by decide) tw_863 dX9_run_20 ?_
    refine lv_icmp_ge (tgt := 96) hx hb dX9_run_23 (by decide) (fun q => ?_) (fun q => ?_)
    · have hk := hk.1 q
      refine lv_aload_n hx hb dX9_run_96 rfl (lv_at hl 0 rfl) ?_
      refine lv_iconst (v := (nI 0)) hx hb dX9_run_97 (by decide) ?_
      obtain ⟨h98, hv, hk⟩ := hk
      refine r_put (ci := 9) (k := 6) (T := TX9) (N := 17) C Z hv ku_9 tyX9_ok nmX9 rfl (by decide) tw_863 rfl rfl rfl dX9_run_98 (fun H locs Z => ?_)
      refine lv_aload_n hx hb dX9_run_101 rfl (lv_at hl 0 rfl) ?_
      refine lv_iload_n hx hb dX9_run_102 rfl (lv_at hl 1 rfl) ?_
      obtain ⟨ho, hk⟩ := hk
      refine r_calli Z (r_runV (As := [.int x1]) (rest := []) C Z (m_X9_acted l g h98 x0 x1 _ hk) ho rfl (cwV 1 C.1.2.2.2.2 (gV tw_933 tw_935 tw_16 tw_66 tw_936) rfl rfl rfl (by decide +kernel) ⟨Nat.le_of_ble_eq_true rfl, Nat.le_of_ble_eq_true rfl⟩) rfl hl.1 rfl (Nat.le_of_ble_eq_true rfl) dX9_run_103 ⟨Nat.zero_le _, Nat.zero_le _⟩) (fun r103 h103 H locs hk Z => ?_)
      exact r_iret C Z hr hk dX9_run_106
    · have hk := hk.2 q
      refine lv_aload_n hx hb dX9_run_26 rfl (lv_at hl 0 rfl) ?_
      obtain ⟨ho, hk⟩ := hk
      refine r_calll Z (r_runV (As := []) (rest := []) C Z (m_X9_readsCommand l g h x0 _ hk) ho rfl (cwV 0 C.1.2.2.2.2 (gV tw_1119 tw_1121 tw_44 tw_66 tw_1122) rfl rfl rfl (by decide +kernel) ⟨Nat.le_of_ble_eq_true rfl, Nat.le_of_ble_eq_true rfl⟩) rfl hl.1 rfl (Nat.le_of_ble_eq_true rfl) dX9_run_27 ⟨Nat.zero_le _, Nat.zero_le _⟩) (fun r27 h27 H locs hk Z => ?_)
      refine lv_lstore_n (lv' := [(2, .long r27), (0, .ref x0), (1, .int x1)]) hx hb dX9_run_30 rfl hl (by decide) rfl (fun ls hl => ?_)
      refine lv_aload_n hx hb dX9_run_31 rfl (lv_at hl 1 rfl) ?_
      obtain ⟨v32, hv, hk⟩ := hk
      refine r_get (ci := 9) (k := 13) (T := TX9) (N := 17) C Z hv ku_9 rfl (by decide) tw_870 dX9_run_32 ?_
      refine lv_if_eq (tgt := 51) hx hb dX9_run_35 (by decide) (fun q => ?_) (fun q => ?_)
      · have hk := hk.1 q
        refine lv_aload_n hx hb dX9_run_51 rfl (lv_at hl 1 rfl) ?_
        refine lv_lload_n hx hb dX9_run_52 rfl (lv_at hl 0 rfl) ?_
        obtain ⟨ho, hk⟩ := hk
        refine r_calli Z (r_runV (As := [.long r27]) (rest := []) C Z (m_X9_does l g h27 x0 r27 _ hk) ho rfl (cwV 1 C.1.2.2.2.2 (gV tw_1152 tw_1154 tw_48 tw_66 tw_1155) rfl rfl rfl (by decide +kernel) ⟨Nat.le_of_ble_eq_true rfl, Nat.le_of_ble_eq_true rfl⟩) rfl hl.1 rfl (Nat.le_of_ble_eq_true rfl) dX9_run_53 ⟨Nat.zero_le _, Nat.zero_le _⟩) (fun r53 h53 H locs hk Z => ?_)
        refine lv_istore (lv' := [(4, .int r53), (2, .long r27), (0, .ref x0), (1, .int x1)]) hx hb dX9_run_56 hl (by decide) rfl (fun ls hl => ?_)
        refine lv_iload hx hb dX9_run_58 (lv_at hl 0 rfl) ?_
        refine lv_i2l (v := (Int32.toInt64 r53)) hx hb dX9_run_60 rfl ?_
        refine lv_ldc2 (v := (-3 : Int64)) hx hb hown (hts _ tw_937) dX9_run_61 ?_
        refine lv_ldc2 (v := (-1 : Int64)) hx hb hown (hts _ tw_938) dX9_run_64 ?_
        refine r_calli Z (r_runS (As := [.long (Int32.toInt64 r53), .long (-3 : Int64), .long (-1 : Int64)]) (rest := []) C Z (m_X9_in l g h53 (Int32.toInt64 r53) (-3 : Int64) (-1 : Int64) _ hk) (va_cwS 3 C.1.2.2.2.2 (gS tw_922 tw_923 tw_66 tw_924) rfl rfl rfl (by decide +kernel) ⟨Nat.le_of_ble_eq_true rfl, Nat.le_of_ble_eq_true rfl⟩) rfl hl.1 rfl (Nat.le_of_ble_eq_true rfl) dX9_run_67 ⟨Nat.zero_le _, Nat.zero_le _⟩) (fun r67 h67 H locs hk Z => ?_)
        refine lv_if_eq (tgt := 86) hx hb dX9_run_70 (by decide) (fun q => ?_) (fun q => ?_)
        · have hk := hk.1 q
          obtain ⟨y86, ey86⟩ : ∃ y : Int32, y = x1 + (nI 1) := ⟨_, rfl⟩
          have hk := hk y86 ey86
          refine lv_iinc (v := y86) (lv' := [(1, .int y86), (4, .int r53), (2, .long r27), (0, .ref x0)]) hx hb dX9_run_86 hl (k := 3) rfl (by rw [ey86]; rfl) (by decide) rfl (fun ls hl => ?_)
          refine lv_aload_n hx hb dX9_run_89 rfl (lv_at hl 3 rfl) ?_
          obtain ⟨ho, hk⟩ := hk
          refine r_callv Z (r_runV (As := []) (rest := []) C Z (m_X9_begins l g h67 x0 _ hk) ho rfl (cwV 0 C.1.2.2.2.2 (gV tw_1111 tw_1113 tw_42 tw_66 tw_1114) rfl rfl rfl (by decide +kernel) ⟨Nat.le_of_ble_eq_true rfl, Nat.le_of_ble_eq_true rfl⟩) rfl hl.1 rfl (Nat.le_of_ble_eq_true rfl) dX9_run_90 ⟨Nat.zero_le _, Nat.zero_le _⟩) (fun h90 H locs hk Z => ?_)
          refine lv_goto (tgt := 15) hx hb dX9_run_93 (by decide) ?_
          exact ih y86 h90 _ _ _ (lv_sub hl [3, 0] rfl) Z hk
        · have hk := hk.2 q
          refine lv_aload_n hx hb dX9_run_73 rfl (lv_at hl 2 rfl) ?_
          refine lv_iconst (v := (nI 2)) hx hb dX9_run_74 (by decide) ?_
          refine lv_aload_n hx hb dX9_run_75 rfl (lv_at hl 2 rfl) ?_
          obtain ⟨v76, hv, hk⟩ := hk
          refine r_get (ci := 9) (k := 14) (T := TX9) (N := 17) C Z hv ku_9 rfl (by decide) tw_871 dX9_run_76 ?_
          refine lv_iload_n hx hb dX9_run_79 rfl (lv_at hl 3 rfl) ?_
          refine lv_iload hx hb dX9_run_80 (lv_at hl 0 rfl) ?_
          obtain ⟨ho, hk⟩ := hk
          refine r_calli Z (r_runV (As := [.int (nI 2), .int v76, .int x1, .int r53]) (rest := []) C Z (m_X9_fails l g h67 x0 (nI 2) v76 x1 r53 _ hk) ho rfl (cwV 4 C.1.2.2.2.2 (gV tw_1148 tw_1150 tw_47 tw_66 tw_1151) rfl rfl rfl (by decide +kernel) ⟨Nat.le_of_ble_eq_true rfl, Nat.le_of_ble_eq_true rfl⟩) rfl hl.1 rfl (Nat.le_of_ble_eq_true rfl) dX9_run_82 ⟨Nat.zero_le _, Nat.zero_le _⟩) (fun r82 h82 H locs hk Z => ?_)
          exact r_iret C Z hr hk dX9_run_85
      · have hk := hk.2 q
        refine lv_aload_n hx hb dX9_run_38 rfl (lv_at hl 1 rfl) ?_
        refine lv_iconst (v := (nI 1)) hx hb dX9_run_39 (by decide) ?_
        refine lv_aload_n hx hb dX9_run_40 rfl (lv_at hl 1 rfl) ?_
        obtain ⟨v41, hv, hk⟩ := hk
        refine r_get (ci := 9) (k := 12) (T := TX9) (N := 17) C Z hv ku_9 rfl (by decide) tw_869 dX9_run_41 ?_
        refine lv_iload_n hx hb dX9_run_44 rfl (lv_at hl 2 rfl) ?_
        refine lv_bipush (v := (-9 : Int32)) hx hb dX9_run_45 (by decide) ?_
        obtain ⟨ho, hk⟩ := hk
        refine r_calli Z (r_runV (As := [.int (nI 1), .int v41, .int x1, .int (-9 : Int32)]) (rest := []) C Z (m_X9_fails l g h27 x0 (nI 1) v41 x1 (-9 : Int32) _ hk) ho rfl (cwV 4 C.1.2.2.2.2 (gV tw_1148 tw_1150 tw_47 tw_66 tw_1151) rfl rfl rfl (by decide +kernel) ⟨Nat.le_of_ble_eq_true rfl, Nat.le_of_ble_eq_true rfl⟩) rfl hl.1 rfl (Nat.le_of_ble_eq_true rfl) dX9_run_47 ⟨Nat.zero_le _, Nat.zero_le _⟩) (fun r47 h47 H locs hk Z => ?_)
        exact r_iret C Z hr hk dX9_run_50
set_option maxRecDepth 100000 in
set_option maxHeartbeats 4000000 in
theorem m_X9_run (l : Launch) (g : Gt) (h : Hp) (x0 : Nat) (Post : Int32 → Hp → Prop) (hk : wp_X9_run x0 Post h) : Met l yX9_run wzX9_run rmX9_run (Pg g h [.ref x0]) (Qi g h Post) 0 0 (dm h) := by
  refine Met_of (cc := cX9_run) (maxL := 5) (ret := (some .int)) (by decide) (Nat.le_of_ble_eq_true rfl) (fun p e s m below meth c ls C hr hnm hl Z => ?_)
  have hx := C.1.1
  have hb := C.1.2.1
  have hml := C.1.2.2.1
  have hown := C.1.2.2.2.1
  have hts := C.1.2.2.2.2
  have hl : lv_has ls 5 [(0, .ref x0)] := hl
  unfold wp_X9_run at hk
  generalize s.heap = H at Z ⊢
  generalize ([] : List Loc) = locs at Z ⊢
  refine lv_aload_n hx hb dX9_run_0 rfl (lv_at hl 0 rfl) ?_
  obtain ⟨ho, hk⟩ := hk
  refine r_callv Z (r_runV (As := []) (rest := []) C Z (m_X9_keeps l g h x0 _ hk) ho rfl (cwV 0 C.1.2.2.2.2 (gV tw_913 tw_915 tw_14 tw_66 tw_916) rfl rfl rfl (by decide +kernel) ⟨Nat.le_of_ble_eq_true rfl, Nat.le_of_ble_eq_true rfl⟩) rfl hl.1 rfl (Nat.le_of_ble_eq_true rfl) dX9_run_1 ⟨Nat.zero_le _, Nat.zero_le _⟩) (fun h1 H locs hk Z => ?_)
  refine lv_aload_n hx hb dX9_run_4 rfl (lv_at hl 0 rfl) ?_
  refine lv_iconst (v := (nI 0)) hx hb dX9_run_5 (by decide) ?_
  obtain ⟨h6, hv, hk⟩ := hk
  refine r_put (ci := 9) (k := 11) (T := TX9) (N := 17) C Z hv ku_9 tyX9_ok nmX9 rfl (by decide) tw_868 rfl rfl rfl dX9_run_6 (fun H locs Z => ?_)
  refine lv_iconst (v := (nI 0)) hx hb dX9_run_9 (by decide) ?_
  refine lv_istore_n (lv' := [(1, .int (nI 0)), (0, .ref x0)]) hx hb dX9_run_10 rfl hl (by decide) rfl (fun ls hl => ?_)
  refine lv_aload_n hx hb dX9_run_11 rfl (lv_at hl 1 rfl) ?_
  obtain ⟨ho, hk⟩ := hk
  refine r_callv Z (r_runV (As := []) (rest := []) C Z (m_X9_begins l g h6 x0 _ hk) ho rfl (cwV 0 C.1.2.2.2.2 (gV tw_1111 tw_1113 tw_42 tw_66 tw_1114) rfl rfl rfl (by decide +kernel) ⟨Nat.le_of_ble_eq_true rfl, Nat.le_of_ble_eq_true rfl⟩) rfl hl.1 rfl (Nat.le_of_ble_eq_true rfl) dX9_run_12 ⟨Nat.zero_le _, Nat.zero_le _⟩) (fun h12 H locs hk Z => ?_)
  obtain ⟨n1, hk⟩ := hk
  exact w_X9_run_15 C hr x0 n1 (nI 0) h12 _ _ _ (lv_sub hl [1, 0] rfl) Z hk
abbrev rmX9_failure : Room := ({ frames := 1, cells := 0, slots := 0, locals := 25 } : Room)
abbrev wzX9_failure : List Cond := WS yX9_failure cX9_failure 2 (some .int)
set_option maxRecDepth 100000 in
set_option maxHeartbeats 4000000 in
theorem m_X9_failure (l : Launch) (g : Gt) (h : Hp) (x0 : Nat) (x1 : Int32) (Post : Int32 → Hp → Prop) (hk : wp_X9_failure x0 x1 Post h) : Met l yX9_failure wzX9_failure rmX9_failure (Pg g h [.ref x0, .int x1]) (Qi g h Post) 0 0 (dm h) := by
  refine Met_of (cc := cX9_failure) (maxL := 2) (ret := (some .int)) (by decide) (Nat.le_of_ble_eq_true rfl) (fun p e s m below meth c ls C hr hnm hl Z => ?_)
  have hx := C.1.1
  have hb := C.1.2.1
  have hml := C.1.2.2.1
  have hown := C.1.2.2.2.1
  have hts := C.1.2.2.2.2
  have hl : lv_has ls 2 [(0, .ref x0), (1, .int x1)] := hl
  unfold wp_X9_failure at hk
  generalize s.heap = H at Z ⊢
  generalize ([] : List Loc) = locs at Z ⊢
  refine lv_iload_n hx hb dX9_failure_0 rfl (lv_at hl 1 rfl) ?_
  refine lv_i2l (v := (Int32.toInt64 x1)) hx hb dX9_failure_1 rfl ?_
  refine lv_lconst (v := lN 0) hx hb dX9_failure_2 (by decide) ?_
  refine lv_ldc2 (v := (lN 3)) hx hb hown (hts _ tw_1160) dX9_failure_3 ?_
  refine r_calli Z (r_runS (As := [.long (Int32.toInt64 x1), .long (lN 0), .long (lN 3)]) (rest := []) C Z (m_X9_in l g h (Int32.toInt64 x1) (lN 0) (lN 3) _ hk) (va_cwS 3 C.1.2.2.2.2 (gS tw_922 tw_923 tw_66 tw_924) rfl rfl rfl (by decide +kernel) ⟨Nat.le_of_ble_eq_true rfl, Nat.le_of_ble_eq_true rfl⟩) rfl hl.1 rfl (Nat.le_of_ble_eq_true rfl) dX9_failure_6 ⟨Nat.zero_le _, Nat.zero_le _⟩) (fun r6 h6 H locs hk Z => ?_)
  refine lv_if_ne (tgt := 14) hx hb dX9_failure_9 (by decide) (fun q => ?_) (fun q => ?_)
  · have hk := hk.1 q
    refine lv_aload_n hx hb dX9_failure_14 rfl (lv_at hl 0 rfl) ?_
    obtain ⟨v15, hv, hk⟩ := hk
    refine r_get (ci := 9) (k := 7) (T := TX9) (N := 17) C Z hv ku_9 rfl (by decide) tw_864 dX9_failure_15 ?_
    refine lv_if_ne (tgt := 24) hx hb dX9_failure_18 (by decide) (fun q => ?_) (fun q => ?_)
    · have hk := hk.1 q
      refine lv_iload_n hx hb dX9_failure_24 rfl (lv_at hl 1 rfl) ?_
      refine lv_if_ne (tgt := 35) hx hb dX9_failure_25 (by decide) (fun q => ?_) (fun q => ?_)
      · have hk := hk.1 q
        refine lv_iload_n hx hb dX9_failure_35 rfl (lv_at hl 1 rfl) ?_
        refine lv_iconst (v := (nI 1)) hx hb dX9_failure_36 (by decide) ?_
        refine lv_icmp_ne (tgt := 47) hx hb dX9_failure_37 (by decide) (fun q => ?_) (fun q => ?_)
        · have hk := hk.1 q
          refine lv_iload_n hx hb dX9_failure_47 rfl (lv_at hl 1 rfl) ?_
          refine lv_iconst (v := (nI 2)) hx hb dX9_failure_48 (by decide) ?_
          refine lv_icmp_ne (tgt := 59) hx hb dX9_failure_49 (by decide) (fun q => ?_) (fun q => ?_)
          · have hk := hk.1 q
            refine lv_aload_n hx hb dX9_failure_59 rfl (lv_at hl 0 rfl) ?_
            obtain ⟨v60, hv, hk⟩ := hk
            refine r_get (ci := 9) (k := 10) (T := TX9) (N := 17) C Z hv ku_9 rfl (by decide) tw_867 dX9_failure_60 ?_
            exact r_iret C Z hr hk dX9_failure_63
          · have hk := hk.2 q
            refine lv_aload_n hx hb dX9_failure_52 rfl (lv_at hl 0 rfl) ?_
            obtain ⟨v53, hv, hk⟩ := hk
            refine r_get (ci := 9) (k := 9) (T := TX9) (N := 17) C Z hv ku_9 rfl (by decide) tw_866 dX9_failure_53 ?_
            refine lv_goto (tgt := 63) hx hb dX9_failure_56 (by decide) ?_
            exact r_iret C Z hr hk dX9_failure_63
        · have hk := hk.2 q
          refine lv_aload_n hx hb dX9_failure_40 rfl (lv_at hl 0 rfl) ?_
          obtain ⟨v41, hv, hk⟩ := hk
          refine r_get (ci := 9) (k := 8) (T := TX9) (N := 17) C Z hv ku_9 rfl (by decide) tw_865 dX9_failure_41 ?_
          refine lv_goto (tgt := 63) hx hb dX9_failure_44 (by decide) ?_
          exact r_iret C Z hr hk dX9_failure_63
      · have hk := hk.2 q
        refine lv_aload_n hx hb dX9_failure_28 rfl (lv_at hl 0 rfl) ?_
        obtain ⟨v29, hv, hk⟩ := hk
        refine r_get (ci := 9) (k := 7) (T := TX9) (N := 17) C Z hv ku_9 rfl (by decide) tw_864 dX9_failure_29 ?_
        refine lv_goto (tgt := 63) hx hb dX9_failure_32 (by decide) ?_
        exact r_iret C Z hr hk dX9_failure_63
    · have hk := hk.2 q
      refine lv_bipush (v := (-9 : Int32)) hx hb dX9_failure_21 (by decide) ?_
      exact r_iret C Z hr hk dX9_failure_23
  · have hk := hk.2 q
    refine lv_iconst (v := (-1 : Int32)) hx hb dX9_failure_12 (by decide) ?_
    exact r_iret C Z hr hk dX9_failure_13
abbrev rmX9_streaks : Room := ({ frames := 5, cells := 0, slots := 0, locals := 120 } : Room)
abbrev wzX9_streaks : List Cond := WS yX9_streaks cX9_streaks 6 (some .int)
set_option maxRecDepth 100000 in
set_option maxHeartbeats 4000000 in
theorem w_X9_streaks_58 {p : Program} {l : Launch} {e : Env} {s : State} {m : MethodId} {args : Array Value} {below : List Frame} {meth : Method} {c : Code} {g : Gt} {h0 : Hp} (C : Cx g (dm h0) RX9 cX9_streaks 6 p s m args meth c) (hr : meth.sig.returnType = (some .int)) {Post : Int32 → Hp → Prop} (x0 : Nat) (x1 : Int32) (x2 : Int32) (x3 : Int32) (x4 : Int32) (s0 : Int32) {k4 : Int32 → Int32 → Hp → Prop} (hk4 : ∀ (x1 : Int32) (x2 : Int32) (h : Hp) (H : Heap) (locs : List Loc) (ls : Array Slot), lv_has ls 6 [(0, .ref x0), (1, .int x1), (2, .int x2)] → St g (dm h0) s h H locs → k4 x1 x2 h → W p l e rmX9_streaks s m args below meth c H locs 0 0 (MQ below (Qi g h0 Post) args s 0 0 (dm h0)) (F0 m 4 ls [])) : ∀ (h : Hp) (H : Heap) (locs : List Loc) (ls : Array Slot), lv_has ls 6 [(0, .ref x0), (1, .int x1), (2, .int x2), (3, .int x3), (4, .int x4)] → St g (dm h0) s h H locs → wp_X9_streaks_58 Post k4 x0 x1 x2 x3 x4 s0 h → W p l e rmX9_streaks s m args below meth c H locs 0 0 (MQ below (Qi g h0 Post) args s 0 0 (dm h0)) (F0 m 58 ls [.int s0]) := by
  have hx := C.1.1
  have hb := C.1.2.1
  have hml := C.1.2.2.1
  have hown := C.1.2.2.2.1
  have hts := C.1.2.2.2.2
  intro h H locs ls hl Z hk
  unfold wp_X9_streaks_58 at hk
  refine lv_istore (lv' := [(5, .int s0), (0, .ref x0), (1, .int x1), (2, .int x2), (3, .int x3), (4, .int x4)]) hx hb dX9_streaks_58 hl (by decide) rfl (fun ls hl => ?_)
  refine lv_iload_n hx hb dX9_streaks_60 rfl (lv_at hl 2 rfl) ?_
  refine lv_iload hx hb dX9_streaks_61 (lv_at hl 0 rfl) ?_
  refine lv_if_eq (tgt := 84) hx hb dX9_streaks_63 (by decide) (fun q => ?_) (fun q => ?_)
  · have hk := hk.1 q
    refine lv_iconst (v := (nI 0)) hx hb dX9_streaks_84 (by decide) ?_
    refine lv_iadd hx hb dX9_streaks_85 ?_
    refine lv_topi (fun y86 ey86 => ?_)
    have hk := hk y86 ey86
    refine lv_istore_n (lv' := [(1, .int y86), (5, .int s0), (0, .ref x0), (2, .int x2), (3, .int x3), (4, .int x4)]) hx hb dX9_streaks_86 rfl hl (by decide) rfl (fun ls hl => ?_)
    obtain ⟨y87, ey87⟩ : ∃ y : Int32, y = x2 + (nI 1) := ⟨_, rfl⟩
    have hk := hk y87 ey87
    refine lv_iinc (v := y87) (lv' := [(2, .int y87), (1, .int y86), (5, .int s0), (0, .ref x0), (3, .int x3), (4, .int x4)]) hx hb dX9_streaks_87 hl (k := 3) rfl (by rw [ey87]; rfl) (by decide) rfl (fun ls hl => ?_)
    refine lv_goto (tgt := 4) hx hb dX9_streaks_90 (by decide) ?_
    exact hk4 y86 y87 h _ _ _ (lv_sub hl [3, 1, 0] rfl) Z hk
  · have hk := hk.2 q
    refine lv_aload_n hx hb dX9_streaks_66 rfl (lv_at hl 1 rfl) ?_
    refine lv_iload_n hx hb dX9_streaks_67 rfl (lv_at hl 4 rfl) ?_
    refine lv_iload hx hb dX9_streaks_68 (lv_at hl 5 rfl) ?_
    obtain ⟨ho, hk⟩ := hk
    refine r_calli Z (r_runV (As := [.int x3, .int x4]) (rest := [.int x1]) C Z (m_X9_runFrom l g h x0 x3 x4 _ hk) ho rfl (cwV 2 C.1.2.2.2.2 (gV tw_1028 tw_1030 tw_33 tw_66 tw_1031) rfl rfl rfl (by decide +kernel) ⟨Nat.le_of_ble_eq_true rfl, Nat.le_of_ble_eq_true rfl⟩) rfl hl.1 rfl (Nat.le_of_ble_eq_true rfl) dX9_streaks_70 ⟨Nat.zero_le _, Nat.zero_le _⟩) (fun r70 h70 H locs hk Z => ?_)
    refine lv_aload_n hx hb dX9_streaks_73 rfl (lv_at hl 1 rfl) ?_
    obtain ⟨ho, hk⟩ := hk
    refine r_calli Z (r_runV (As := []) (rest := [.int r70, .int x1]) C Z (m_X9_length l g h70 x0 _ hk) ho rfl (cwV 0 C.1.2.2.2.2 (gV tw_979 tw_981 tw_22 tw_66 tw_982) rfl rfl rfl (by decide +kernel) ⟨Nat.le_of_ble_eq_true rfl, Nat.le_of_ble_eq_true rfl⟩) rfl hl.1 rfl (Nat.le_of_ble_eq_true rfl) dX9_streaks_74 ⟨Nat.zero_le _, Nat.zero_le _⟩) (fun r74 h74 H locs hk Z => ?_)
    refine lv_icmp_lt (tgt := 84) hx hb dX9_streaks_77 (by decide) (fun q => ?_) (fun q => ?_)
    · have hk := hk.1 q
      refine lv_iconst (v := (nI 0)) hx hb dX9_streaks_84 (by decide) ?_
      refine lv_iadd hx hb dX9_streaks_85 ?_
      refine lv_topi (fun y86 ey86 => ?_)
      have hk := hk y86 ey86
      refine lv_istore_n (lv' := [(1, .int y86), (5, .int s0), (0, .ref x0), (2, .int x2), (3, .int x3), (4, .int x4)]) hx hb dX9_streaks_86 rfl hl (by decide) rfl (fun ls hl => ?_)
      obtain ⟨y87, ey87⟩ : ∃ y : Int32, y = x2 + (nI 1) := ⟨_, rfl⟩
      have hk := hk y87 ey87
      refine lv_iinc (v := y87) (lv' := [(2, .int y87), (1, .int y86), (5, .int s0), (0, .ref x0), (3, .int x3), (4, .int x4)]) hx hb dX9_streaks_87 hl (k := 3) rfl (by rw [ey87]; rfl) (by decide) rfl (fun ls hl => ?_)
      refine lv_goto (tgt := 4) hx hb dX9_streaks_90 (by decide) ?_
      exact hk4 y86 y87 h74 _ _ _ (lv_sub hl [3, 1, 0] rfl) Z hk
    · have hk := hk.2 q
      refine lv_iconst (v := (nI 1)) hx hb dX9_streaks_80 (by decide) ?_
      refine lv_goto (tgt := 85) hx hb dX9_streaks_81 (by decide) ?_
      refine lv_iadd hx hb dX9_streaks_85 ?_
      refine lv_topi (fun y86 ey86 => ?_)
      have hk := hk y86 ey86
      refine lv_istore_n (lv' := [(1, .int y86), (5, .int s0), (0, .ref x0), (2, .int x2), (3, .int x3), (4, .int x4)]) hx hb dX9_streaks_86 rfl hl (by decide) rfl (fun ls hl => ?_)
      obtain ⟨y87, ey87⟩ : ∃ y : Int32, y = x2 + (nI 1) := ⟨_, rfl⟩
      have hk := hk y87 ey87
      refine lv_iinc (v := y87) (lv' := [(2, .int y87), (1, .int y86), (5, .int s0), (0, .ref x0), (3, .int x3), (4, .int x4)]) hx hb dX9_streaks_87 hl (k := 3) rfl (by rw [ey87]; rfl) (by decide) rfl (fun ls hl => ?_)
      refine lv_goto (tgt := 4) hx hb dX9_streaks_90 (by decide) ?_
      exact hk4 y86 y87 h74 _ _ _ (lv_sub hl [3, 1, 0] rfl) Z hk
set_option maxRecDepth 100000 in
set_option maxHeartbeats 4000000 in
theorem w_X9_streaks_4 {p : Program} {l : Launch} {e : Env} {s : State} {m : MethodId} {args : Array Value} {below : List Frame} {meth : Method} {c : Code} {g : Gt} {h0 : Hp} (C : Cx g (dm h0) RX9 cX9_streaks 6 p s m args meth c) (hr : meth.sig.returnType = (some .int)) {Post : Int32 → Hp → Prop} (x0 : Nat)   : ∀ (n : Nat) (x1 : Int32) (x2 : Int32) (h : Hp) (H : Heap) (locs : List Loc) (ls : Array Slot), lv_has ls 6 [(0, .ref x0), (1, .int x1), (2, .int x2)] → St g (dm h0) s h H locs → wp_X9_streaks_4 Post x0 n x1 x2 h → W p l e rmX9_streaks s m args below meth c H locs 0 0 (MQ below (Qi g h0 Post) args s 0 0 (dm h0)) (F0 m 4 ls []) := by
  have hx := C.1.1
  have hb := C.1.2.1
  have hml := C.1.2.2.1
  have hown := C.1.2.2.2.1
  have hts := C.1.2.2.2.2
  intro n
  induction n with
  | zero => intro x1 x2 h H locs ls hl Z hk; exact (show False from hk).elim
  | succ n ih =>
    intro x1 x2 h H locs ls hl Z hk
    unfold wp_X9_streaks_4 at hk
    refine lv_iload_n hx hb dX9_streaks_4 rfl (lv_at hl 2 rfl) ?_
    refine lv_i2l (v := (Int32.toInt64 x2)) hx hb dX9_streaks_5 rfl ?_
    refine lv_ldc2 (v := (lN 12)) hx hb hown (hts _ tw_1169) dX9_streaks_6 ?_
    refine lv_aload_n hx hb dX9_streaks_9 rfl (lv_at hl 0 rfl) ?_
    obtain ⟨v10, hv, hk⟩ := hk
    refine r_get (ci := 9) (k := 0) (T := TX9) (N := 17) C Z hv ku_9 rfl (by decide) tw_857 dX9_streaks_10 ?_
    refine lv_iconst (v := (nI 0)) hx hb dX9_streaks_13 (by decide) ?_
    obtain ⟨v14, hv, hk⟩ := hk
    refine r_lald C Z hv dX9_streaks_14 ?_
    refine lv_lmul hx hb dX9_streaks_15 ?_
    refine W.lcmp hx hb dX9_streaks_16 ?_
    refine lv_if_ge (tgt := 93) hx hb dX9_streaks_17 (by decide) (fun q => ?_) (fun q => ?_)
    · have hk := hk.1 ((lc_ge (Int32.toInt64 x2) ((lN 12) * v14)).mp q)
      refine lv_iload_n hx hb dX9_streaks_93 rfl (lv_at hl 1 rfl) ?_
      exact r_iret C Z hr hk dX9_streaks_94
    · have hk := hk.2 (mt (lc_ge (Int32.toInt64 x2) ((lN 12) * v14)).mpr q)
      refine lv_iload_n hx hb dX9_streaks_20 rfl (lv_at hl 2 rfl) ?_
      refine lv_bipush (v := (nI 12)) hx hb dX9_streaks_21 (by decide) ?_
      refine lv_idiv hx hb dX9_streaks_23 (by decide) ?_
      refine lv_topi (fun y24 ey24 => ?_)
      have hk := hk y24 ey24
      refine lv_istore_n (lv' := [(3, .int y24), (0, .ref x0), (1, .int x1), (2, .int x2)]) hx hb dX9_streaks_24 rfl hl (by decide) rfl (fun ls hl => ?_)
      refine lv_iload_n hx hb dX9_streaks_25 rfl (lv_at hl 3 rfl) ?_
      refine lv_bipush (v := (nI 12)) hx hb dX9_streaks_26 (by decide) ?_
      refine lv_irem hx hb dX9_streaks_28 (by decide) ?_
      refine lv_topi (fun y29 ey29 => ?_)
      have hk := hk y29 ey29
      refine lv_istore (lv' := [(4, .int y29), (3, .int y24), (0, .ref x0), (1, .int x1), (2, .int x2)]) hx hb dX9_streaks_29 hl (by decide) rfl (fun ls hl => ?_)
      refine lv_aload_n hx hb dX9_streaks_31 rfl (lv_at hl 2 rfl) ?_
      refine lv_iload_n hx hb dX9_streaks_32 rfl (lv_at hl 1 rfl) ?_
      refine lv_iload hx hb dX9_streaks_33 (lv_at hl 0 rfl) ?_
      obtain ⟨ho, hk⟩ := hk
      refine r_calli Z (r_runV (As := [.int y24, .int y29]) (rest := []) C Z (m_X9_read l g h x0 y24 y29 _ hk) ho rfl (cwV 2 C.1.2.2.2.2 (gV tw_1008 tw_1010 tw_28 tw_66 tw_1011) rfl rfl rfl (by decide +kernel) ⟨Nat.le_of_ble_eq_true rfl, Nat.le_of_ble_eq_true rfl⟩) rfl hl.1 rfl (Nat.le_of_ble_eq_true rfl) dX9_streaks_35 ⟨Nat.zero_le _, Nat.zero_le _⟩) (fun r35 h35 H locs hk Z => ?_)
      refine lv_if_le (tgt := 57) hx hb dX9_streaks_38 (by decide) (fun q => ?_) (fun q => ?_)
      · have hk := hk.1 q
        refine lv_iconst (v := (nI 0)) hx hb dX9_streaks_57 (by decide) ?_
        exact w_X9_streaks_58 C hr x0 x1 x2 y24 y29 (nI 0) ih h35 _ _ _ (lv_sub hl [2, 3, 4, 1, 0] rfl) Z hk
      · have hk := hk.2 q
        refine lv_aload_n hx hb dX9_streaks_41 rfl (lv_at hl 2 rfl) ?_
        refine lv_iload_n hx hb dX9_streaks_42 rfl (lv_at hl 1 rfl) ?_
        refine lv_iload hx hb dX9_streaks_43 (lv_at hl 0 rfl) ?_
        refine lv_iconst (v := (-1 : Int32)) hx hb dX9_streaks_45 (by decide) ?_
        obtain ⟨ho, hk⟩ := hk
        refine r_calli Z (r_runV (As := [.int y24, .int y29, .int (-1 : Int32)]) (rest := []) C Z (m_X9_end l g h35 x0 y24 y29 (-1 : Int32) _ hk) ho rfl (cwV 3 C.1.2.2.2.2 (gV tw_1016 tw_1018 tw_30 tw_66 tw_1019) rfl rfl rfl (by decide +kernel) ⟨Nat.le_of_ble_eq_true rfl, Nat.le_of_ble_eq_true rfl⟩) rfl hl.1 rfl (Nat.le_of_ble_eq_true rfl) dX9_streaks_46 ⟨Nat.zero_le _, Nat.zero_le _⟩) (fun r46 h46 H locs hk Z => ?_)
        refine lv_iload_n hx hb dX9_streaks_49 rfl (lv_at hl 1 rfl) ?_
        refine lv_icmp_ne (tgt := 57) hx hb dX9_streaks_50 (by decide) (fun q => ?_) (fun q => ?_)
        · have hk := hk.1 q
          refine lv_iconst (v := (nI 0)) hx hb dX9_streaks_57 (by decide) ?_
          exact w_X9_streaks_58 C hr x0 x1 x2 y24 y29 (nI 0) ih h46 _ _ _ (lv_sub hl [2, 3, 4, 1, 0] rfl) Z hk
        · have hk := hk.2 q
          refine lv_iconst (v := (nI 1)) hx hb dX9_streaks_53 (by decide) ?_
          refine lv_goto (tgt := 58) hx hb dX9_streaks_54 (by decide) ?_
          exact w_X9_streaks_58 C hr x0 x1 x2 y24 y29 (nI 1) ih h46 _ _ _ (lv_sub hl [2, 3, 4, 1, 0] rfl) Z hk
set_option maxRecDepth 100000 in
set_option maxHeartbeats 4000000 in
theorem m_X9_streaks (l : Launch) (g : Gt) (h : Hp) (x0 : Nat) (Post : Int32 → Hp → Prop) (hk : wp_X9_streaks x0 Post h) : Met l yX9_streaks wzX9_streaks rmX9_streaks (Pg g h [.ref x0]) (Qi g h Post) 0 0 (dm h) := by
  refine Met_of (cc := cX9_streaks) (maxL := 6) (ret := (some .int)) (by decide) (Nat.le_of_ble_eq_true rfl) (fun p e s m below meth c ls C hr hnm hl Z => ?_)
  have hx := C.1.1
  have hb := C.1.2.1
  have hml := C.1.2.2.1
  have hown := C.1.2.2.2.1
  have hts := C.1.2.2.2.2
  have hl : lv_has ls 6 [(0, .ref x0)] := hl
  unfold wp_X9_streaks at hk
  generalize s.heap = H at Z ⊢
  generalize ([] : List Loc) = locs at Z ⊢
  refine lv_iconst (v := (nI 0)) hx hb dX9_streaks_0 (by decide) ?_
  refine lv_istore_n (lv' := [(1, .int (nI 0)), (0, .ref x0)]) hx hb dX9_streaks_1 rfl hl (by decide) rfl (fun ls hl => ?_)
  refine lv_iconst (v := (nI 0)) hx hb dX9_streaks_2 (by decide) ?_
  refine lv_istore_n (lv' := [(2, .int (nI 0)), (1, .int (nI 0)), (0, .ref x0)]) hx hb dX9_streaks_3 rfl hl (by decide) rfl (fun ls hl => ?_)
  obtain ⟨n1, hk⟩ := hk
  exact w_X9_streaks_4 C hr x0 n1 (nI 0) (nI 0) h _ _ _ (lv_sub hl [2, 1, 0] rfl) Z hk
abbrev rmX9_count : Room := ({ frames := 13, cells := 0, slots := 0, locals := 312 } : Room)
abbrev wzX9_count : List Cond := WS yX9_count cX9_count 2 (some .int)
set_option maxRecDepth 100000 in
set_option maxHeartbeats 4000000 in
theorem m_X9_count (l : Launch) (g : Gt) (h : Hp) (x0 : Nat) (x1 : Int32) (Post : Int32 → Hp → Prop) (hk : wp_X9_count x0 x1 Post h) : Met l yX9_count wzX9_count rmX9_count (Pg g h [.ref x0, .int x1]) (Qi g h Post) 0 0 (dm h) := by
  refine Met_of (cc := cX9_count) (maxL := 2) (ret := (some .int)) (by decide) (Nat.le_of_ble_eq_true rfl) (fun p e s m below meth c ls C hr hnm hl Z => ?_)
  have hx := C.1.1
  have hb := C.1.2.1
  have hml := C.1.2.2.1
  have hown := C.1.2.2.2.1
  have hts := C.1.2.2.2.2
  have hl : lv_has ls 2 [(0, .ref x0), (1, .int x1)] := hl
  unfold wp_X9_count at hk
  generalize s.heap = H at Z ⊢
  generalize ([] : List Loc) = locs at Z ⊢
  refine lv_iload_n hx hb dX9_count_0 rfl (lv_at hl 1 rfl) ?_
  rcases Classical.em (x1 = (nI 0)) with q | q0
  · have hk := hk.1 q
    refine lv_tableIn (tgt := 60) hx hb dX9_count_1 (by rw [q]; decide) (by rw [q]; decide) (by rw [q]; rfl) (by decide) ?_
    refine lv_aload_n hx hb dX9_count_60 rfl (lv_at hl 0 rfl) ?_
    obtain ⟨v61, hv, hk⟩ := hk
    refine r_get (ci := 9) (k := 0) (T := TX9) (N := 17) C Z hv ku_9 rfl (by decide) tw_857 dX9_count_61 ?_
    refine lv_iconst (v := (nI 0)) hx hb dX9_count_64 (by decide) ?_
    obtain ⟨v65, hv, hk⟩ := hk
    refine r_lald C Z hv dX9_count_65 ?_
    refine lv_l2i (v := (Int64.toInt32 v65)) hx hb dX9_count_66 rfl ?_
    exact r_iret C Z hr hk dX9_count_67
  · have hk := hk.2 q0
    rcases Classical.em (x1 = (nI 1)) with q | q1
    · have hk := hk.1 q
      refine lv_tableIn (tgt := 68) hx hb dX9_count_1 (by rw [q]; decide) (by rw [q]; decide) (by rw [q]; rfl) (by decide) ?_
      refine lv_aload_n hx hb dX9_count_68 rfl (lv_at hl 0 rfl) ?_
      refine lv_iconst (v := (nI 2)) hx hb dX9_count_69 (by decide) ?_
      obtain ⟨ho, hk⟩ := hk
      refine r_calli Z (r_runV (As := [.int (nI 2)]) (rest := []) C Z (m_X9_inState l g h x0 (nI 2) _ hk) ho rfl (cwV 1 C.1.2.2.2.2 (gV tw_1071 tw_1073 tw_40 tw_66 tw_1074) rfl rfl rfl (by decide +kernel) ⟨Nat.le_of_ble_eq_true rfl, Nat.le_of_ble_eq_true rfl⟩) rfl hl.1 rfl (Nat.le_of_ble_eq_true rfl) dX9_count_70 ⟨Nat.zero_le _, Nat.zero_le _⟩) (fun r70 h70 H locs hk Z => ?_)
      exact r_iret C Z hr hk dX9_count_73
    · have hk := hk.2 q1
      rcases Classical.em (x1 = (nI 2)) with q | q2
      · have hk := hk.1 q
        refine lv_tableIn (tgt := 74) hx hb dX9_count_1 (by rw [q]; decide) (by rw [q]; decide) (by rw [q]; rfl) (by decide) ?_
        refine lv_aload_n hx hb dX9_count_74 rfl (lv_at hl 0 rfl) ?_
        refine lv_iconst (v := (nI 1)) hx hb dX9_count_75 (by decide) ?_
        obtain ⟨ho, hk⟩ := hk
        refine r_calli Z (r_runV (As := [.int (nI 1)]) (rest := []) C Z (m_X9_inState l g h x0 (nI 1) _ hk) ho rfl (cwV 1 C.1.2.2.2.2 (gV tw_1071 tw_1073 tw_40 tw_66 tw_1074) rfl rfl rfl (by decide +kernel) ⟨Nat.le_of_ble_eq_true rfl, Nat.le_of_ble_eq_true rfl⟩) rfl hl.1 rfl (Nat.le_of_ble_eq_true rfl) dX9_count_76 ⟨Nat.zero_le _, Nat.zero_le _⟩) (fun r76 h76 H locs hk Z => ?_)
        exact r_iret C Z hr hk dX9_count_79
      · have hk := hk.2 q2
        rcases Classical.em (x1 = (nI 3)) with q | q3
        · have hk := hk.1 q
          refine lv_tableIn (tgt := 80) hx hb dX9_count_1 (by rw [q]; decide) (by rw [q]; decide) (by rw [q]; rfl) (by decide) ?_
          refine lv_aload_n hx hb dX9_count_80 rfl (lv_at hl 0 rfl) ?_
          obtain ⟨ho, hk⟩ := hk
          refine r_calli Z (r_runV (As := []) (rest := []) C Z (m_X9_laysPool l g h x0 _ hk) ho rfl (cwV 0 C.1.2.2.2.2 (gV tw_1056 tw_1058 tw_37 tw_66 tw_1059) rfl rfl rfl (by decide +kernel) ⟨Nat.le_of_ble_eq_true rfl, Nat.le_of_ble_eq_true rfl⟩) rfl hl.1 rfl (Nat.le_of_ble_eq_true rfl) dX9_count_81 ⟨Nat.zero_le _, Nat.zero_le _⟩) (fun r81 h81 H locs hk Z => ?_)
          exact r_iret C Z hr hk dX9_count_84
        · have hk := hk.2 q3
          rcases Classical.em (x1 = (nI 4)) with q | q4
          · have hk := hk.1 q
            refine lv_tableIn (tgt := 85) hx hb dX9_count_1 (by rw [q]; decide) (by rw [q]; decide) (by rw [q]; rfl) (by decide) ?_
            refine lv_aload_n hx hb dX9_count_85 rfl (lv_at hl 0 rfl) ?_
            obtain ⟨v86, hv, hk⟩ := hk
            refine r_get (ci := 9) (k := 0) (T := TX9) (N := 17) C Z hv ku_9 rfl (by decide) tw_857 dX9_count_86 ?_
            refine lv_iconst (v := (nI 1)) hx hb dX9_count_89 (by decide) ?_
            obtain ⟨v90, hv, hk⟩ := hk
            refine r_lald C Z hv dX9_count_90 ?_
            refine lv_l2i (v := (Int64.toInt32 v90)) hx hb dX9_count_91 rfl ?_
            exact r_iret C Z hr hk dX9_count_92
          · have hk := hk.2 q4
            rcases Classical.em (x1 = (nI 5)) with q | q5
            · have hk := hk.1 q
              refine lv_tableIn (tgt := 93) hx hb dX9_count_1 (by rw [q]; decide) (by rw [q]; decide) (by rw [q]; rfl) (by decide) ?_
              refine lv_aload_n hx hb dX9_count_93 rfl (lv_at hl 0 rfl) ?_
              refine lv_iconst (v := (nI 0)) hx hb dX9_count_94 (by decide) ?_
              obtain ⟨ho, hk⟩ := hk
              refine r_calli Z (r_runV (As := [.int (nI 0)]) (rest := []) C Z (m_X9_changing l g h x0 (nI 0) _ hk) ho rfl (cwV 1 C.1.2.2.2.2 (gV tw_968 tw_970 tw_20 tw_66 tw_971) rfl rfl rfl (by decide +kernel) ⟨Nat.le_of_ble_eq_true rfl, Nat.le_of_ble_eq_true rfl⟩) rfl hl.1 rfl (Nat.le_of_ble_eq_true rfl) dX9_count_95 ⟨Nat.zero_le _, Nat.zero_le _⟩) (fun r95 h95 H locs hk Z => ?_)
              exact r_iret C Z hr hk dX9_count_98
            · have hk := hk.2 q5
              rcases Classical.em (x1 = (nI 6)) with q | q6
              · have hk := hk.1 q
                refine lv_tableIn (tgt := 99) hx hb dX9_count_1 (by rw [q]; decide) (by rw [q]; decide) (by rw [q]; rfl) (by decide) ?_
                refine lv_aload_n hx hb dX9_count_99 rfl (lv_at hl 0 rfl) ?_
                refine lv_iconst (v := (nI 1)) hx hb dX9_count_100 (by decide) ?_
                obtain ⟨ho, hk⟩ := hk
                refine r_calli Z (r_runV (As := [.int (nI 1)]) (rest := []) C Z (m_X9_changing l g h x0 (nI 1) _ hk) ho rfl (cwV 1 C.1.2.2.2.2 (gV tw_968 tw_970 tw_20 tw_66 tw_971) rfl rfl rfl (by decide +kernel) ⟨Nat.le_of_ble_eq_true rfl, Nat.le_of_ble_eq_true rfl⟩) rfl hl.1 rfl (Nat.le_of_ble_eq_true rfl) dX9_count_101 ⟨Nat.zero_le _, Nat.zero_le _⟩) (fun r101 h101 H locs hk Z => ?_)
                exact r_iret C Z hr hk dX9_count_104
              · have hk := hk.2 q6
                rcases Classical.em (x1 = (nI 7)) with q | q7
                · have hk := hk.1 q
                  refine lv_tableIn (tgt := 105) hx hb dX9_count_1 (by rw [q]; decide) (by rw [q]; decide) (by rw [q]; rfl) (by decide) ?_
                  refine lv_aload_n hx hb dX9_count_105 rfl (lv_at hl 0 rfl) ?_
                  obtain ⟨ho, hk⟩ := hk
                  refine r_calli Z (r_runV (As := []) (rest := []) C Z (m_X9_streaks l g h x0 _ hk) ho rfl (cwV 0 C.1.2.2.2.2 (gV tw_1165 tw_1167 tw_49 tw_66 tw_1168) rfl rfl rfl (by decide +kernel) ⟨Nat.le_of_ble_eq_true rfl, Nat.le_of_ble_eq_true rfl⟩) rfl hl.1 rfl (Nat.le_of_ble_eq_true rfl) dX9_count_106 ⟨Nat.zero_le _, Nat.zero_le _⟩) (fun r106 h106 H locs hk Z => ?_)
                  exact r_iret C Z hr hk dX9_count_109
                · have hk := hk.2 q7
                  rcases Classical.em (x1 = (nI 8)) with q | q8
                  · have hk := hk.1 q
                    refine lv_tableIn (tgt := 110) hx hb dX9_count_1 (by rw [q]; decide) (by rw [q]; decide) (by rw [q]; rfl) (by decide) ?_
                    refine lv_aload_n hx hb dX9_count_110 rfl (lv_at hl 0 rfl) ?_
                    obtain ⟨v111, hv, hk⟩ := hk
                    refine r_get (ci := 9) (k := 0) (T := TX9) (N := 17) C Z hv ku_9 rfl (by decide) tw_857 dX9_count_111 ?_
                    refine lv_iconst (v := (nI 0)) hx hb dX9_count_114 (by decide) ?_
                    refine r_calli Z (r_runS (As := [.int (nI 0)]) (rest := [.ref v111]) C Z (m_X9_slotAt l g h (nI 0) _ hk) (va_cwS 1 C.1.2.2.2.2 (gS tw_1087 tw_1088 tw_66 tw_1089) rfl rfl rfl (by decide +kernel) ⟨Nat.le_of_ble_eq_true rfl, Nat.le_of_ble_eq_true rfl⟩) rfl hl.1 rfl (Nat.le_of_ble_eq_true rfl) dX9_count_115 ⟨Nat.zero_le _, Nat.zero_le _⟩) (fun r115 h115 H locs hk Z => ?_)
                    obtain ⟨v118, hv, hk⟩ := hk
                    refine r_lald C Z hv dX9_count_118 ?_
                    refine lv_aload_n hx hb dX9_count_119 rfl (lv_at hl 0 rfl) ?_
                    obtain ⟨v120, hv, hk⟩ := hk
                    refine r_get (ci := 9) (k := 0) (T := TX9) (N := 17) C Z hv ku_9 rfl (by decide) tw_857 dX9_count_120 ?_
                    refine lv_iconst (v := (nI 1)) hx hb dX9_count_123 (by decide) ?_
                    refine r_calli Z (r_runS (As := [.int (nI 1)]) (rest := [.ref v120, .long v118]) C Z (m_X9_slotAt l g h115 (nI 1) _ hk) (va_cwS 1 C.1.2.2.2.2 (gS tw_1087 tw_1088 tw_66 tw_1089) rfl rfl rfl (by decide +kernel) ⟨Nat.le_of_ble_eq_true rfl, Nat.le_of_ble_eq_true rfl⟩) rfl hl.1 rfl (Nat.le_of_ble_eq_true rfl) dX9_count_124 ⟨Nat.zero_le _, Nat.zero_le _⟩) (fun r124 h124 H locs hk Z => ?_)
                    obtain ⟨v127, hv, hk⟩ := hk
                    refine r_lald C Z hv dX9_count_127 ?_
                    refine lv_ladd hx hb dX9_count_128 ?_
                    refine lv_l2i (v := (Int64.toInt32 (v118 + v127))) hx hb dX9_count_129 rfl ?_
                    exact r_iret C Z hr hk dX9_count_130
                  · have hk := hk.2 q8
                    rcases Classical.em (x1 = (nI 9)) with q | q9
                    · have hk := hk.1 q
                      refine lv_tableIn (tgt := 131) hx hb dX9_count_1 (by rw [q]; decide) (by rw [q]; decide) (by rw [q]; rfl) (by decide) ?_
                      refine lv_aload_n hx hb dX9_count_131 rfl (lv_at hl 0 rfl) ?_
                      obtain ⟨v132, hv, hk⟩ := hk
                      refine r_get (ci := 9) (k := 3) (T := TX9) (N := 17) C Z hv ku_9 rfl (by decide) tw_860 dX9_count_132 ?_
                      exact r_iret C Z hr hk dX9_count_135
                    · have hk := hk.2 q9
                      rcases Classical.em (x1 = (nI 10)) with q | q10
                      · have hk := hk.1 q
                        refine lv_tableIn (tgt := 136) hx hb dX9_count_1 (by rw [q]; decide) (by rw [q]; decide) (by rw [q]; rfl) (by decide) ?_
                        refine lv_aload_n hx hb dX9_count_136 rfl (lv_at hl 0 rfl) ?_
                        obtain ⟨v137, hv, hk⟩ := hk
                        refine r_get (ci := 9) (k := 6) (T := TX9) (N := 17) C Z hv ku_9 rfl (by decide) tw_863 dX9_count_137 ?_
                        exact r_iret C Z hr hk dX9_count_140
                      · have hk := hk.2 q10
                        refine lv_tableOut (tgt := 141) hx hb dX9_count_1 (by have t0 := ne_toI q0 (show Int32.toInt (nI 0) = (0 : Int) by decide); have t1 := ne_toI q1 (show Int32.toInt (nI 1) = (1 : Int) by decide); have t2 := ne_toI q2 (show Int32.toInt (nI 2) = (2 : Int) by decide); have t3 := ne_toI q3 (show Int32.toInt (nI 3) = (3 : Int) by decide); have t4 := ne_toI q4 (show Int32.toInt (nI 4) = (4 : Int) by decide); have t5 := ne_toI q5 (show Int32.toInt (nI 5) = (5 : Int) by decide); have t6 := ne_toI q6 (show Int32.toInt (nI 6) = (6 : Int) by decide); have t7 := ne_toI q7 (show Int32.toInt (nI 7) = (7 : Int) by decide); have t8 := ne_toI q8 (show Int32.toInt (nI 8) = (8 : Int) by decide); have t9 := ne_toI q9 (show Int32.toInt (nI 9) = (9 : Int) by decide); have t10 := ne_toI q10 (show Int32.toInt (nI 10) = (10 : Int) by decide); omega) (by decide) ?_
                        refine lv_iload_n hx hb dX9_count_141 rfl (lv_at hl 1 rfl) ?_
                        refine lv_i2l (v := (Int32.toInt64 x1)) hx hb dX9_count_142 rfl ?_
                        refine lv_ldc2 (v := (lN 11)) hx hb hown (hts _ tw_1170) dX9_count_143 ?_
                        refine lv_ldc2 (v := (lN 14)) hx hb hown (hts _ tw_1171) dX9_count_146 ?_
                        refine r_calli Z (r_runS (As := [.long (Int32.toInt64 x1), .long (lN 11), .long (lN 14)]) (rest := []) C Z (m_X9_in l g h (Int32.toInt64 x1) (lN 11) (lN 14) _ hk) (va_cwS 3 C.1.2.2.2.2 (gS tw_922 tw_923 tw_66 tw_924) rfl rfl rfl (by decide +kernel) ⟨Nat.le_of_ble_eq_true rfl, Nat.le_of_ble_eq_true rfl⟩) rfl hl.1 rfl (Nat.le_of_ble_eq_true rfl) dX9_count_149 ⟨Nat.zero_le _, Nat.zero_le _⟩) (fun r149 h149 H locs hk Z => ?_)
                        refine lv_if_eq (tgt := 170) hx hb dX9_count_152 (by decide) (fun q => ?_) (fun q => ?_)
                        · have hk := hk.1 q
                          refine lv_iconst (v := (-1 : Int32)) hx hb dX9_count_170 (by decide) ?_
                          exact r_iret C Z hr hk dX9_count_171
                        · have hk := hk.2 q
                          refine lv_aload_n hx hb dX9_count_155 rfl (lv_at hl 0 rfl) ?_
                          obtain ⟨v156, hv, hk⟩ := hk
                          refine r_get (ci := 9) (k := 0) (T := TX9) (N := 17) C Z hv ku_9 rfl (by decide) tw_857 dX9_count_156 ?_
                          refine lv_iconst (v := (nI 2)) hx hb dX9_count_159 (by decide) ?_
                          refine lv_iload_n hx hb dX9_count_160 rfl (lv_at hl 1 rfl) ?_
                          refine lv_iadd hx hb dX9_count_161 ?_
                          refine lv_bipush (v := (nI 11)) hx hb dX9_count_162 (by decide) ?_
                          refine lv_isub hx hb dX9_count_164 ?_
                          obtain ⟨v165, hv, hk⟩ := hk
                          refine r_lald C Z hv dX9_count_165 ?_
                          refine lv_l2i (v := (Int64.toInt32 v165)) hx hb dX9_count_166 rfl ?_
                          refine lv_goto (tgt := 171) hx hb dX9_count_167 (by decide) ?_
                          exact r_iret C Z hr hk dX9_count_171
abbrev rmX9_placeOf : Room := ({ frames := 1, cells := 0, slots := 0, locals := 21 } : Room)
abbrev wzX9_placeOf : List Cond := WS yX9_placeOf cX9_placeOf 4 (some .int)
set_option maxRecDepth 100000 in
set_option maxHeartbeats 4000000 in
theorem w_X9_placeOf_4 {p : Program} {l : Launch} {e : Env} {s : State} {m : MethodId} {args : Array Value} {below : List Frame} {meth : Method} {c : Code} {g : Gt} {h0 : Hp} (C : Cx g (dm h0) RX9 cX9_placeOf 4 p s m args meth c) (hr : meth.sig.returnType = (some .int)) {Post : Int32 → Hp → Prop} (x0 : Nat) (x1 : Int32)   : ∀ (n : Nat) (x2 : Int32) (x3 : Int32) (h : Hp) (H : Heap) (locs : List Loc) (ls : Array Slot), lv_has ls 4 [(0, .ref x0), (1, .int x1), (2, .int x2), (3, .int x3)] → St g (dm h0) s h H locs → wp_X9_placeOf_4 Post x0 x1 n x2 x3 h → W p l e rmX9_placeOf s m args below meth c H locs 0 0 (MQ below (Qi g h0 Post) args s 0 0 (dm h0)) (F0 m 4 ls []) := by
  have hx := C.1.1
  have hb := C.1.2.1
  have hml := C.1.2.2.1
  have hown := C.1.2.2.2.1
  have hts := C.1.2.2.2.2
  intro n
  induction n with
  | zero => intro x2 x3 h H locs ls hl Z hk; exact (show False from hk).elim
  | succ n ih =>
    intro x2 x3 h H locs ls hl Z hk
    unfold wp_X9_placeOf_4 at hk
    refine lv_iload_n hx hb dX9_placeOf_4 rfl (lv_at hl 3 rfl) ?_
    refine lv_iload_n hx hb dX9_placeOf_5 rfl (lv_at hl 1 rfl) ?_
    refine lv_icmp_ge (tgt := 47) hx hb dX9_placeOf_6 (by decide) (fun q => ?_) (fun q => ?_)
    · have hk := hk.1 q
      refine lv_iload_n hx hb dX9_placeOf_47 rfl (lv_at hl 2 rfl) ?_
      exact r_iret C Z hr hk dX9_placeOf_48
    · have hk := hk.2 q
      refine lv_iload_n hx hb dX9_placeOf_9 rfl (lv_at hl 2 rfl) ?_
      refine lv_aload_n hx hb dX9_placeOf_10 rfl (lv_at hl 0 rfl) ?_
      obtain ⟨v11, hv, hk⟩ := hk
      refine r_get (ci := 9) (k := 0) (T := TX9) (N := 17) C Z hv ku_9 rfl (by decide) tw_857 dX9_placeOf_11 ?_
      refine lv_iload_n hx hb dX9_placeOf_14 rfl (lv_at hl 3 rfl) ?_
      refine lv_iconst (v := (nI 0)) hx hb dX9_placeOf_15 (by decide) ?_
      refine r_calli Z (r_runS (As := [.int x3, .int (nI 0)]) (rest := [.ref v11, .int x2]) C Z (m_X9_c l g h x3 (nI 0) _ hk) (va_cwS 2 C.1.2.2.2.2 (gS tw_930 tw_931 tw_66 tw_932) rfl rfl rfl (by decide +kernel) ⟨Nat.le_of_ble_eq_true rfl, Nat.le_of_ble_eq_true rfl⟩) rfl hl.1 rfl (Nat.le_of_ble_eq_true rfl) dX9_placeOf_16 ⟨Nat.zero_le _, Nat.zero_le _⟩) (fun r16 h16 H locs hk Z => ?_)
      obtain ⟨v19, hv, hk⟩ := hk
      refine r_lald C Z hv dX9_placeOf_19 ?_
      refine lv_aload_n hx hb dX9_placeOf_20 rfl (lv_at hl 0 rfl) ?_
      obtain ⟨v21, hv, hk⟩ := hk
      refine r_get (ci := 9) (k := 0) (T := TX9) (N := 17) C Z hv ku_9 rfl (by decide) tw_857 dX9_placeOf_21 ?_
      refine lv_iload_n hx hb dX9_placeOf_24 rfl (lv_at hl 1 rfl) ?_
      refine lv_iconst (v := (nI 0)) hx hb dX9_placeOf_25 (by decide) ?_
      refine r_calli Z (r_runS (As := [.int x1, .int (nI 0)]) (rest := [.ref v21, .long v19, .int x2]) C Z (m_X9_c l g h16 x1 (nI 0) _ hk) (va_cwS 2 C.1.2.2.2.2 (gS tw_930 tw_931 tw_66 tw_932) rfl rfl rfl (by decide +kernel) ⟨Nat.le_of_ble_eq_true rfl, Nat.le_of_ble_eq_true rfl⟩) rfl hl.1 rfl (Nat.le_of_ble_eq_true rfl) dX9_placeOf_26 ⟨Nat.zero_le _, Nat.zero_le _⟩) (fun r26 h26 H locs hk Z => ?_)
      obtain ⟨v29, hv, hk⟩ := hk
      refine r_lald C Z hv dX9_placeOf_29 ?_
      refine W.lcmp hx hb dX9_placeOf_30 ?_
      refine lv_if_ne (tgt := 38) hx hb dX9_placeOf_31 (by decide) (fun q => ?_) (fun q => ?_)
      · have hk := hk.1 (mt (lc_eq v19 v29).mpr q)
        refine lv_iconst (v := (nI 0)) hx hb dX9_placeOf_38 (by decide) ?_
        refine lv_iadd hx hb dX9_placeOf_39 ?_
        refine lv_topi (fun y40 ey40 => ?_)
        have hk := hk y40 ey40
        refine lv_istore_n (lv' := [(2, .int y40), (0, .ref x0), (1, .int x1), (3, .int x3)]) hx hb dX9_placeOf_40 rfl hl (by decide) rfl (fun ls hl => ?_)
        obtain ⟨y41, ey41⟩ : ∃ y : Int32, y = x3 + (nI 1) := ⟨_, rfl⟩
        have hk := hk y41 ey41
        refine lv_iinc (v := y41) (lv' := [(3, .int y41), (2, .int y40), (0, .ref x0), (1, .int x1)]) hx hb dX9_placeOf_41 hl (k := 3) rfl (by rw [ey41]; rfl) (by decide) rfl (fun ls hl => ?_)
        refine lv_goto (tgt := 4) hx hb dX9_placeOf_44 (by decide) ?_
        exact ih y40 y41 h26 _ _ _ (lv_sub hl [2, 3, 1, 0] rfl) Z hk
      · have hk := hk.2 ((lc_eq v19 v29).mp q)
        refine lv_iconst (v := (nI 1)) hx hb dX9_placeOf_34 (by decide) ?_
        refine lv_goto (tgt := 39) hx hb dX9_placeOf_35 (by decide) ?_
        refine lv_iadd hx hb dX9_placeOf_39 ?_
        refine lv_topi (fun y40 ey40 => ?_)
        have hk := hk y40 ey40
        refine lv_istore_n (lv' := [(2, .int y40), (0, .ref x0), (1, .int x1), (3, .int x3)]) hx hb dX9_placeOf_40 rfl hl (by decide) rfl (fun ls hl => ?_)
        obtain ⟨y41, ey41⟩ : ∃ y : Int32, y = x3 + (nI 1) := ⟨_, rfl⟩
        have hk := hk y41 ey41
        refine lv_iinc (v := y41) (lv' := [(3, .int y41), (2, .int y40), (0, .ref x0), (1, .int x1)]) hx hb dX9_placeOf_41 hl (k := 3) rfl (by rw [ey41]; rfl) (by decide) rfl (fun ls hl => ?_)
        refine lv_goto (tgt := 4) hx hb dX9_placeOf_44 (by decide) ?_
        exact ih y40 y41 h26 _ _ _ (lv_sub hl [2, 3, 1, 0] rfl) Z hk
set_option maxRecDepth 100000 in
set_option maxHeartbeats 4000000 in
theorem m_X9_placeOf (l : Launch) (g : Gt) (h : Hp) (x0 : Nat) (x1 : Int32) (Post : Int32 → Hp → Prop) (hk : wp_X9_placeOf x0 x1 Post h) : Met l yX9_placeOf wzX9_placeOf rmX9_placeOf (Pg g h [.ref x0, .int x1]) (Qi g h Post) 0 0 (dm h) := by
  refine Met_of (cc := cX9_placeOf) (maxL := 4) (ret := (some .int)) (by decide) (Nat.le_of_ble_eq_true rfl) (fun p e s m below meth c ls C hr hnm hl Z => ?_)
  have hx := C.1.1
  have hb := C.1.2.1
  have hml := C.1.2.2.1
  have hown := C.1.2.2.2.1
  have hts := C.1.2.2.2.2
  have hl : lv_has ls 4 [(0, .ref x0), (1, .int x1)] := hl
  unfold wp_X9_placeOf at hk
  generalize s.heap = H at Z ⊢
  generalize ([] : List Loc) = locs at Z ⊢
  refine lv_iconst (v := (nI 0)) hx hb dX9_placeOf_0 (by decide) ?_
  refine lv_istore_n (lv' := [(2, .int (nI 0)), (0, .ref x0), (1, .int x1)]) hx hb dX9_placeOf_1 rfl hl (by decide) rfl (fun ls hl => ?_)
  refine lv_iconst (v := (nI 0)) hx hb dX9_placeOf_2 (by decide) ?_
  refine lv_istore_n (lv' := [(3, .int (nI 0)), (2, .int (nI 0)), (0, .ref x0), (1, .int x1)]) hx hb dX9_placeOf_3 rfl hl (by decide) rfl (fun ls hl => ?_)
  obtain ⟨n1, hk⟩ := hk
  exact w_X9_placeOf_4 C hr x0 x1 n1 (nI 0) (nI 0) h _ _ _ (lv_sub hl [2, 3, 1, 0] rfl) Z hk
abbrev rmX9_card : Room := ({ frames := 12, cells := 0, slots := 0, locals := 290 } : Room)
abbrev wzX9_card : List Cond := WS yX9_card cX9_card 3 (some .int)
set_option maxRecDepth 100000 in
set_option maxHeartbeats 4000000 in
theorem m_X9_card (l : Launch) (g : Gt) (h : Hp) (x0 : Nat) (x1 : Int32) (x2 : Int32) (Post : Int32 → Hp → Prop) (hk : wp_X9_card x0 x1 x2 Post h) : Met l yX9_card wzX9_card rmX9_card (Pg g h [.ref x0, .int x1, .int x2]) (Qi g h Post) 0 0 (dm h) := by
  refine Met_of (cc := cX9_card) (maxL := 3) (ret := (some .int)) (by decide) (Nat.le_of_ble_eq_true rfl) (fun p e s m below meth c ls C hr hnm hl Z => ?_)
  have hx := C.1.1
  have hb := C.1.2.1
  have hml := C.1.2.2.1
  have hown := C.1.2.2.2.1
  have hts := C.1.2.2.2.2
  have hl : lv_has ls 3 [(0, .ref x0), (1, .int x1), (2, .int x2)] := hl
  unfold wp_X9_card at hk
  generalize s.heap = H at Z ⊢
  generalize ([] : List Loc) = locs at Z ⊢
  refine lv_aload_n hx hb dX9_card_0 rfl (lv_at hl 0 rfl) ?_
  refine lv_iload_n hx hb dX9_card_1 rfl (lv_at hl 1 rfl) ?_
  obtain ⟨ho, hk⟩ := hk
  refine r_calli Z (r_runV (As := [.int x1]) (rest := []) C Z (m_X9_isCard l g h x0 x1 _ hk) ho rfl (cwV 1 C.1.2.2.2.2 (gV tw_1176 tw_1178 tw_50 tw_66 tw_1179) rfl rfl rfl (by decide +kernel) ⟨Nat.le_of_ble_eq_true rfl, Nat.le_of_ble_eq_true rfl⟩) rfl hl.1 rfl (Nat.le_of_ble_eq_true rfl) dX9_card_2 ⟨Nat.zero_le _, Nat.zero_le _⟩) (fun r2 h2 H locs hk Z => ?_)
  refine lv_if_ne (tgt := 10) hx hb dX9_card_5 (by decide) (fun q => ?_) (fun q => ?_)
  · have hk := hk.1 q
    refine lv_iload_n hx hb dX9_card_10 rfl (lv_at hl 2 rfl) ?_
    rcases Classical.em (x2 = (nI 0)) with q | q0
    · have hk := hk.1 q
      refine lv_tableIn (tgt := 48) hx hb dX9_card_11 (by rw [q]; decide) (by rw [q]; decide) (by rw [q]; rfl) (by decide) ?_
      refine lv_aload_n hx hb dX9_card_48 rfl (lv_at hl 0 rfl) ?_
      obtain ⟨v49, hv, hk⟩ := hk
      refine r_get (ci := 9) (k := 0) (T := TX9) (N := 17) C Z hv ku_9 rfl (by decide) tw_857 dX9_card_49 ?_
      refine lv_iload_n hx hb dX9_card_52 rfl (lv_at hl 1 rfl) ?_
      refine lv_iconst (v := (nI 0)) hx hb dX9_card_53 (by decide) ?_
      refine r_calli Z (r_runS (As := [.int x1, .int (nI 0)]) (rest := [.ref v49]) C Z (m_X9_c l g h2 x1 (nI 0) _ hk) (va_cwS 2 C.1.2.2.2.2 (gS tw_930 tw_931 tw_66 tw_932) rfl rfl rfl (by decide +kernel) ⟨Nat.le_of_ble_eq_true rfl, Nat.le_of_ble_eq_true rfl⟩) rfl hl.1 rfl (Nat.le_of_ble_eq_true rfl) dX9_card_54 ⟨Nat.zero_le _, Nat.zero_le _⟩) (fun r54 h54 H locs hk Z => ?_)
      obtain ⟨v57, hv, hk⟩ := hk
      refine r_lald C Z hv dX9_card_57 ?_
      refine lv_l2i (v := (Int64.toInt32 v57)) hx hb dX9_card_58 rfl ?_
      exact r_iret C Z hr hk dX9_card_59
    · have hk := hk.2 q0
      rcases Classical.em (x2 = (nI 1)) with q | q1
      · have hk := hk.1 q
        refine lv_tableIn (tgt := 60) hx hb dX9_card_11 (by rw [q]; decide) (by rw [q]; decide) (by rw [q]; rfl) (by decide) ?_
        refine lv_aload_n hx hb dX9_card_60 rfl (lv_at hl 0 rfl) ?_
        refine lv_iload_n hx hb dX9_card_61 rfl (lv_at hl 1 rfl) ?_
        obtain ⟨ho, hk⟩ := hk
        refine r_calli Z (r_runV (As := [.int x1]) (rest := []) C Z (m_X9_placeOf l g h2 x0 x1 _ hk) ho rfl (cwV 1 C.1.2.2.2.2 (gV tw_1180 tw_1182 tw_51 tw_66 tw_1183) rfl rfl rfl (by decide +kernel) ⟨Nat.le_of_ble_eq_true rfl, Nat.le_of_ble_eq_true rfl⟩) rfl hl.1 rfl (Nat.le_of_ble_eq_true rfl) dX9_card_62 ⟨Nat.zero_le _, Nat.zero_le _⟩) (fun r62 h62 H locs hk Z => ?_)
        exact r_iret C Z hr hk dX9_card_65
      · have hk := hk.2 q1
        rcases Classical.em (x2 = (nI 2)) with q | q2
        · have hk := hk.1 q
          refine lv_tableIn (tgt := 66) hx hb dX9_card_11 (by rw [q]; decide) (by rw [q]; decide) (by rw [q]; rfl) (by decide) ?_
          refine lv_aload_n hx hb dX9_card_66 rfl (lv_at hl 0 rfl) ?_
          obtain ⟨v67, hv, hk⟩ := hk
          refine r_get (ci := 9) (k := 0) (T := TX9) (N := 17) C Z hv ku_9 rfl (by decide) tw_857 dX9_card_67 ?_
          refine lv_iload_n hx hb dX9_card_70 rfl (lv_at hl 1 rfl) ?_
          refine lv_iconst (v := (nI 2)) hx hb dX9_card_71 (by decide) ?_
          refine r_calli Z (r_runS (As := [.int x1, .int (nI 2)]) (rest := [.ref v67]) C Z (m_X9_c l g h2 x1 (nI 2) _ hk) (va_cwS 2 C.1.2.2.2.2 (gS tw_930 tw_931 tw_66 tw_932) rfl rfl rfl (by decide +kernel) ⟨Nat.le_of_ble_eq_true rfl, Nat.le_of_ble_eq_true rfl⟩) rfl hl.1 rfl (Nat.le_of_ble_eq_true rfl) dX9_card_72 ⟨Nat.zero_le _, Nat.zero_le _⟩) (fun r72 h72 H locs hk Z => ?_)
          obtain ⟨v75, hv, hk⟩ := hk
          refine r_lald C Z hv dX9_card_75 ?_
          refine lv_l2i (v := (Int64.toInt32 v75)) hx hb dX9_card_76 rfl ?_
          exact r_iret C Z hr hk dX9_card_77
        · have hk := hk.2 q2
          rcases Classical.em (x2 = (nI 3)) with q | q3
          · have hk := hk.1 q
            refine lv_tableIn (tgt := 78) hx hb dX9_card_11 (by rw [q]; decide) (by rw [q]; decide) (by rw [q]; rfl) (by decide) ?_
            refine lv_aload_n hx hb dX9_card_78 rfl (lv_at hl 0 rfl) ?_
            obtain ⟨v79, hv, hk⟩ := hk
            refine r_get (ci := 9) (k := 0) (T := TX9) (N := 17) C Z hv ku_9 rfl (by decide) tw_857 dX9_card_79 ?_
            refine lv_iload_n hx hb dX9_card_82 rfl (lv_at hl 1 rfl) ?_
            refine lv_iconst (v := (nI 3)) hx hb dX9_card_83 (by decide) ?_
            refine r_calli Z (r_runS (As := [.int x1, .int (nI 3)]) (rest := [.ref v79]) C Z (m_X9_c l g h2 x1 (nI 3) _ hk) (va_cwS 2 C.1.2.2.2.2 (gS tw_930 tw_931 tw_66 tw_932) rfl rfl rfl (by decide +kernel) ⟨Nat.le_of_ble_eq_true rfl, Nat.le_of_ble_eq_true rfl⟩) rfl hl.1 rfl (Nat.le_of_ble_eq_true rfl) dX9_card_84 ⟨Nat.zero_le _, Nat.zero_le _⟩) (fun r84 h84 H locs hk Z => ?_)
            obtain ⟨v87, hv, hk⟩ := hk
            refine r_lald C Z hv dX9_card_87 ?_
            refine lv_l2i (v := (Int64.toInt32 v87)) hx hb dX9_card_88 rfl ?_
            exact r_iret C Z hr hk dX9_card_89
          · have hk := hk.2 q3
            rcases Classical.em (x2 = (nI 4)) with q | q4
            · have hk := hk.1 q
              refine lv_tableIn (tgt := 90) hx hb dX9_card_11 (by rw [q]; decide) (by rw [q]; decide) (by rw [q]; rfl) (by decide) ?_
              refine lv_aload_n hx hb dX9_card_90 rfl (lv_at hl 0 rfl) ?_
              refine lv_iload_n hx hb dX9_card_91 rfl (lv_at hl 1 rfl) ?_
              obtain ⟨ho, hk⟩ := hk
              refine r_calli Z (r_runV (As := [.int x1]) (rest := []) C Z (m_X9_doubtful l g h2 x0 x1 _ hk) ho rfl (cwV 1 C.1.2.2.2.2 (gV tw_1064 tw_1066 tw_39 tw_66 tw_1067) rfl rfl rfl (by decide +kernel) ⟨Nat.le_of_ble_eq_true rfl, Nat.le_of_ble_eq_true rfl⟩) rfl hl.1 rfl (Nat.le_of_ble_eq_true rfl) dX9_card_92 ⟨Nat.zero_le _, Nat.zero_le _⟩) (fun r92 h92 H locs hk Z => ?_)
              exact r_iret C Z hr hk dX9_card_95
            · have hk := hk.2 q4
              rcases Classical.em (x2 = (nI 5)) with q | q5
              · have hk := hk.1 q
                refine lv_tableIn (tgt := 96) hx hb dX9_card_11 (by rw [q]; decide) (by rw [q]; decide) (by rw [q]; rfl) (by decide) ?_
                refine lv_aload_n hx hb dX9_card_96 rfl (lv_at hl 0 rfl) ?_
                refine lv_iload_n hx hb dX9_card_97 rfl (lv_at hl 1 rfl) ?_
                obtain ⟨ho, hk⟩ := hk
                refine r_calli Z (r_runV (As := [.int x1]) (rest := []) C Z (m_X9_isInPool l g h2 x0 x1 _ hk) ho rfl (cwV 1 C.1.2.2.2.2 (gV tw_1060 tw_1062 tw_38 tw_66 tw_1063) rfl rfl rfl (by decide +kernel) ⟨Nat.le_of_ble_eq_true rfl, Nat.le_of_ble_eq_true rfl⟩) rfl hl.1 rfl (Nat.le_of_ble_eq_true rfl) dX9_card_98 ⟨Nat.zero_le _, Nat.zero_le _⟩) (fun r98 h98 H locs hk Z => ?_)
                refine lv_if_eq (tgt := 108) hx hb dX9_card_101 (by decide) (fun q => ?_) (fun q => ?_)
                · have hk := hk.1 q
                  refine lv_iconst (v := (nI 0)) hx hb dX9_card_108 (by decide) ?_
                  exact r_iret C Z hr hk dX9_card_109
                · have hk := hk.2 q
                  refine lv_iconst (v := (nI 1)) hx hb dX9_card_104 (by decide) ?_
                  refine lv_goto (tgt := 109) hx hb dX9_card_105 (by decide) ?_
                  exact r_iret C Z hr hk dX9_card_109
              · have hk := hk.2 q5
                refine lv_tableOut (tgt := 110) hx hb dX9_card_11 (by have t0 := ne_toI q0 (show Int32.toInt (nI 0) = (0 : Int) by decide); have t1 := ne_toI q1 (show Int32.toInt (nI 1) = (1 : Int) by decide); have t2 := ne_toI q2 (show Int32.toInt (nI 2) = (2 : Int) by decide); have t3 := ne_toI q3 (show Int32.toInt (nI 3) = (3 : Int) by decide); have t4 := ne_toI q4 (show Int32.toInt (nI 4) = (4 : Int) by decide); have t5 := ne_toI q5 (show Int32.toInt (nI 5) = (5 : Int) by decide); omega) (by decide) ?_
                refine lv_iconst (v := (-1 : Int32)) hx hb dX9_card_110 (by decide) ?_
                exact r_iret C Z hr hk dX9_card_111
  · have hk := hk.2 q
    refine lv_iconst (v := (-1 : Int32)) hx hb dX9_card_8 (by decide) ?_
    exact r_iret C Z hr hk dX9_card_9
abbrev rmX9_isPlace : Room := ({ frames := 1, cells := 0, slots := 0, locals := 25 } : Room)
abbrev wzX9_isPlace : List Cond := WS yX9_isPlace cX9_isPlace 1 (some .boolean)
set_option maxRecDepth 100000 in
set_option maxHeartbeats 4000000 in
theorem m_X9_isPlace (l : Launch) (g : Gt) (h : Hp) (x0 : Int32) (Post : Int32 → Hp → Prop) (hk : wp_X9_isPlace x0 Post h) : Met l yX9_isPlace wzX9_isPlace rmX9_isPlace (Pg g h [.int x0]) (Qi g h Post) 0 0 (dm h) := by
  refine Met_of (cc := cX9_isPlace) (maxL := 1) (ret := (some .boolean)) (by decide) (Nat.le_of_ble_eq_true rfl) (fun p e s m below meth c ls C hr hnm hl Z => ?_)
  have hx := C.1.1
  have hb := C.1.2.1
  have hml := C.1.2.2.1
  have hown := C.1.2.2.2.1
  have hts := C.1.2.2.2.2
  have hl : lv_has ls 1 [(0, .int x0)] := hl
  unfold wp_X9_isPlace at hk
  generalize s.heap = H at Z ⊢
  generalize ([] : List Loc) = locs at Z ⊢
  refine lv_iload_n hx hb dX9_isPlace_0 rfl (lv_at hl 0 rfl) ?_
  refine lv_i2l (v := (Int32.toInt64 x0)) hx hb dX9_isPlace_1 rfl ?_
  refine lv_lconst (v := lN 0) hx hb dX9_isPlace_2 (by decide) ?_
  refine lv_ldc2 (v := (lN 11)) hx hb hown (hts _ tw_1170) dX9_isPlace_3 ?_
  refine r_calli Z (r_runS (As := [.long (Int32.toInt64 x0), .long (lN 0), .long (lN 11)]) (rest := []) C Z (m_X9_in l g h (Int32.toInt64 x0) (lN 0) (lN 11) _ hk) (va_cwS 3 C.1.2.2.2.2 (gS tw_922 tw_923 tw_66 tw_924) rfl rfl rfl (by decide +kernel) ⟨Nat.le_of_ble_eq_true rfl, Nat.le_of_ble_eq_true rfl⟩) rfl hl.1 rfl (Nat.le_of_ble_eq_true rfl) dX9_isPlace_6 ⟨Nat.zero_le _, Nat.zero_le _⟩) (fun r6 h6 H locs hk Z => ?_)
  exact r_zret C Z hr hk.1 hk.2 dX9_isPlace_9
abbrev rmX9_place : Room := ({ frames := 8, cells := 0, slots := 0, locals := 194 } : Room)
abbrev wzX9_place : List Cond := WS yX9_place cX9_place 4 (some .int)
set_option maxRecDepth 100000 in
set_option maxHeartbeats 4000000 in
theorem m_X9_place (l : Launch) (g : Gt) (h : Hp) (x0 : Nat) (x1 : Int32) (x2 : Int32) (x3 : Int32) (Post : Int32 → Hp → Prop) (hk : wp_X9_place x0 x1 x2 x3 Post h) : Met l yX9_place wzX9_place rmX9_place (Pg g h [.ref x0, .int x1, .int x2, .int x3]) (Qi g h Post) 0 0 (dm h) := by
  refine Met_of (cc := cX9_place) (maxL := 4) (ret := (some .int)) (by decide) (Nat.le_of_ble_eq_true rfl) (fun p e s m below meth c ls C hr hnm hl Z => ?_)
  have hx := C.1.1
  have hb := C.1.2.1
  have hml := C.1.2.2.1
  have hown := C.1.2.2.2.1
  have hts := C.1.2.2.2.2
  have hl : lv_has ls 4 [(0, .ref x0), (1, .int x1), (2, .int x2), (3, .int x3)] := hl
  unfold wp_X9_place at hk
  generalize s.heap = H at Z ⊢
  generalize ([] : List Loc) = locs at Z ⊢
  refine lv_aload_n hx hb dX9_place_0 rfl (lv_at hl 0 rfl) ?_
  refine lv_iload_n hx hb dX9_place_1 rfl (lv_at hl 1 rfl) ?_
  obtain ⟨ho, hk⟩ := hk
  refine r_calli Z (r_runV (As := [.int x1]) (rest := []) C Z (m_X9_isCard l g h x0 x1 _ hk) ho rfl (cwV 1 C.1.2.2.2.2 (gV tw_1176 tw_1178 tw_50 tw_66 tw_1179) rfl rfl rfl (by decide +kernel) ⟨Nat.le_of_ble_eq_true rfl, Nat.le_of_ble_eq_true rfl⟩) rfl hl.1 rfl (Nat.le_of_ble_eq_true rfl) dX9_place_2 ⟨Nat.zero_le _, Nat.zero_le _⟩) (fun r2 h2 H locs hk Z => ?_)
  refine lv_if_eq (tgt := 15) hx hb dX9_place_5 (by decide) (fun q => ?_) (fun q => ?_)
  · have hk := hk.1 q
    refine lv_iconst (v := (-1 : Int32)) hx hb dX9_place_15 (by decide) ?_
    exact r_iret C Z hr hk dX9_place_16
  · have hk := hk.2 q
    refine lv_iload_n hx hb dX9_place_8 rfl (lv_at hl 2 rfl) ?_
    refine r_calli Z (r_runS (As := [.int x2]) (rest := []) C Z (m_X9_isPlace l g h2 x2 _ hk) (va_cwS 1 C.1.2.2.2.2 (gS tw_1188 tw_1189 tw_66 tw_1190) rfl rfl rfl (by decide +kernel) ⟨Nat.le_of_ble_eq_true rfl, Nat.le_of_ble_eq_true rfl⟩) rfl hl.1 rfl (Nat.le_of_ble_eq_true rfl) dX9_place_9 ⟨Nat.zero_le _, Nat.zero_le _⟩) (fun r9 h9 H locs hk Z => ?_)
    refine lv_if_ne (tgt := 17) hx hb dX9_place_12 (by decide) (fun q => ?_) (fun q => ?_)
    · have hk := hk.1 q
      refine lv_iload_n hx hb dX9_place_17 rfl (lv_at hl 3 rfl) ?_
      rcases Classical.em (x3 = (nI 0)) with q | q0
      · have hk := hk.1 q
        refine lv_tableIn (tgt := 52) hx hb dX9_place_18 (by rw [q]; decide) (by rw [q]; decide) (by rw [q]; rfl) (by decide) ?_
        refine lv_aload_n hx hb dX9_place_52 rfl (lv_at hl 0 rfl) ?_
        refine lv_iload_n hx hb dX9_place_53 rfl (lv_at hl 1 rfl) ?_
        refine lv_iload_n hx hb dX9_place_54 rfl (lv_at hl 2 rfl) ?_
        obtain ⟨ho, hk⟩ := hk
        refine r_calli Z (r_runV (As := [.int x1, .int x2]) (rest := []) C Z (m_X9_read l g h9 x0 x1 x2 _ hk) ho rfl (cwV 2 C.1.2.2.2.2 (gV tw_1008 tw_1010 tw_28 tw_66 tw_1011) rfl rfl rfl (by decide +kernel) ⟨Nat.le_of_ble_eq_true rfl, Nat.le_of_ble_eq_true rfl⟩) rfl hl.1 rfl (Nat.le_of_ble_eq_true rfl) dX9_place_55 ⟨Nat.zero_le _, Nat.zero_le _⟩) (fun r55 h55 H locs hk Z => ?_)
        exact r_iret C Z hr hk dX9_place_58
      · have hk := hk.2 q0
        rcases Classical.em (x3 = (nI 1)) with q | q1
        · have hk := hk.1 q
          refine lv_tableIn (tgt := 59) hx hb dX9_place_18 (by rw [q]; decide) (by rw [q]; decide) (by rw [q]; rfl) (by decide) ?_
          refine lv_aload_n hx hb dX9_place_59 rfl (lv_at hl 0 rfl) ?_
          refine lv_iload_n hx hb dX9_place_60 rfl (lv_at hl 1 rfl) ?_
          refine lv_iload_n hx hb dX9_place_61 rfl (lv_at hl 2 rfl) ?_
          refine lv_aload_n hx hb dX9_place_62 rfl (lv_at hl 0 rfl) ?_
          obtain ⟨ho, hk⟩ := hk
          refine r_calli Z (r_runV (As := []) (rest := [.int x2, .int x1, .ref x0]) C Z (m_X9_length l g h9 x0 _ hk) ho rfl (cwV 0 C.1.2.2.2.2 (gV tw_979 tw_981 tw_22 tw_66 tw_982) rfl rfl rfl (by decide +kernel) ⟨Nat.le_of_ble_eq_true rfl, Nat.le_of_ble_eq_true rfl⟩) rfl hl.1 rfl (Nat.le_of_ble_eq_true rfl) dX9_place_63 ⟨Nat.zero_le _, Nat.zero_le _⟩) (fun r63 h63 H locs hk Z => ?_)
          obtain ⟨ho, hk⟩ := hk
          refine r_calli Z (r_runV (As := [.int x1, .int x2, .int r63]) (rest := []) C Z (m_X9_dirt l g h63 x0 x1 x2 r63 _ hk) ho rfl (cwV 3 C.1.2.2.2.2 (gV tw_1012 tw_1014 tw_29 tw_66 tw_1015) rfl rfl rfl (by decide +kernel) ⟨Nat.le_of_ble_eq_true rfl, Nat.le_of_ble_eq_true rfl⟩) rfl hl.1 rfl (Nat.le_of_ble_eq_true rfl) dX9_place_66 ⟨Nat.zero_le _, Nat.zero_le _⟩) (fun r66 h66 H locs hk Z => ?_)
          exact r_iret C Z hr hk dX9_place_69
        · have hk := hk.2 q1
          rcases Classical.em (x3 = (nI 2)) with q | q2
          · have hk := hk.1 q
            refine lv_tableIn (tgt := 70) hx hb dX9_place_18 (by rw [q]; decide) (by rw [q]; decide) (by rw [q]; rfl) (by decide) ?_
            refine lv_aload_n hx hb dX9_place_70 rfl (lv_at hl 0 rfl) ?_
            refine lv_iload_n hx hb dX9_place_71 rfl (lv_at hl 1 rfl) ?_
            obtain ⟨ho, hk⟩ := hk
            refine r_calli Z (r_runV (As := [.int x1]) (rest := []) C Z (m_X9_isLooked l g h9 x0 x1 _ hk) ho rfl (cwV 1 C.1.2.2.2.2 (gV tw_1000 tw_1002 tw_27 tw_66 tw_1003) rfl rfl rfl (by decide +kernel) ⟨Nat.le_of_ble_eq_true rfl, Nat.le_of_ble_eq_true rfl⟩) rfl hl.1 rfl (Nat.le_of_ble_eq_true rfl) dX9_place_72 ⟨Nat.zero_le _, Nat.zero_le _⟩) (fun r72 h72 H locs hk Z => ?_)
            refine lv_if_eq (tgt := 95) hx hb dX9_place_75 (by decide) (fun q => ?_) (fun q => ?_)
            · have hk := hk.1 q
              refine lv_bipush (v := (-9 : Int32)) hx hb dX9_place_95 (by decide) ?_
              exact r_iret C Z hr hk dX9_place_97
            · have hk := hk.2 q
              refine lv_aload_n hx hb dX9_place_78 rfl (lv_at hl 0 rfl) ?_
              obtain ⟨v79, hv, hk⟩ := hk
              refine r_get (ci := 9) (k := 0) (T := TX9) (N := 17) C Z hv ku_9 rfl (by decide) tw_857 dX9_place_79 ?_
              refine lv_iload_n hx hb dX9_place_82 rfl (lv_at hl 1 rfl) ?_
              refine lv_iconst (v := (nI 4)) hx hb dX9_place_83 (by decide) ?_
              refine r_calli Z (r_runS (As := [.int x1, .int (nI 4)]) (rest := [.ref v79]) C Z (m_X9_c l g h72 x1 (nI 4) _ hk) (va_cwS 2 C.1.2.2.2.2 (gS tw_930 tw_931 tw_66 tw_932) rfl rfl rfl (by decide +kernel) ⟨Nat.le_of_ble_eq_true rfl, Nat.le_of_ble_eq_true rfl⟩) rfl hl.1 rfl (Nat.le_of_ble_eq_true rfl) dX9_place_84 ⟨Nat.zero_le _, Nat.zero_le _⟩) (fun r84 h84 H locs hk Z => ?_)
              obtain ⟨v87, hv, hk⟩ := hk
              refine r_lald C Z hv dX9_place_87 ?_
              refine lv_iload_n hx hb dX9_place_88 rfl (lv_at hl 2 rfl) ?_
              refine r_calli Z (r_runS (As := [.long v87, .int x2]) (rest := []) C Z (m_X9_digit l g h84 v87 x2 _ hk) (va_cwS 2 C.1.2.2.2.2 (gS tw_1004 tw_1005 tw_66 tw_1006) rfl rfl rfl (by decide +kernel) ⟨Nat.le_of_ble_eq_true rfl, Nat.le_of_ble_eq_true rfl⟩) rfl hl.1 rfl (Nat.le_of_ble_eq_true rfl) dX9_place_89 ⟨Nat.zero_le _, Nat.zero_le _⟩) (fun r89 h89 H locs hk Z => ?_)
              refine lv_goto (tgt := 97) hx hb dX9_place_92 (by decide) ?_
              exact r_iret C Z hr hk dX9_place_97
          · have hk := hk.2 q2
            rcases Classical.em (x3 = (nI 3)) with q | q3
            · have hk := hk.1 q
              refine lv_tableIn (tgt := 98) hx hb dX9_place_18 (by rw [q]; decide) (by rw [q]; decide) (by rw [q]; rfl) (by decide) ?_
              refine lv_aload_n hx hb dX9_place_98 rfl (lv_at hl 0 rfl) ?_
              refine lv_iload_n hx hb dX9_place_99 rfl (lv_at hl 1 rfl) ?_
              refine lv_iload_n hx hb dX9_place_100 rfl (lv_at hl 2 rfl) ?_
              refine lv_aload_n hx hb dX9_place_101 rfl (lv_at hl 0 rfl) ?_
              obtain ⟨ho, hk⟩ := hk
              refine r_calli Z (r_runV (As := []) (rest := [.int x2, .int x1, .ref x0]) C Z (m_X9_length l g h9 x0 _ hk) ho rfl (cwV 0 C.1.2.2.2.2 (gV tw_979 tw_981 tw_22 tw_66 tw_982) rfl rfl rfl (by decide +kernel) ⟨Nat.le_of_ble_eq_true rfl, Nat.le_of_ble_eq_true rfl⟩) rfl hl.1 rfl (Nat.le_of_ble_eq_true rfl) dX9_place_102 ⟨Nat.zero_le _, Nat.zero_le _⟩) (fun r102 h102 H locs hk Z => ?_)
              obtain ⟨ho, hk⟩ := hk
              refine r_calli Z (r_runV (As := [.int x1, .int x2, .int r102]) (rest := []) C Z (m_X9_clear l g h102 x0 x1 x2 r102 _ hk) ho rfl (cwV 3 C.1.2.2.2.2 (gV tw_996 tw_998 tw_26 tw_66 tw_999) rfl rfl rfl (by decide +kernel) ⟨Nat.le_of_ble_eq_true rfl, Nat.le_of_ble_eq_true rfl⟩) rfl hl.1 rfl (Nat.le_of_ble_eq_true rfl) dX9_place_105 ⟨Nat.zero_le _, Nat.zero_le _⟩) (fun r105 h105 H locs hk Z => ?_)
              exact r_iret C Z hr hk dX9_place_108
            · have hk := hk.2 q3
              rcases Classical.em (x3 = (nI 4)) with q | q4
              · have hk := hk.1 q
                refine lv_tableIn (tgt := 109) hx hb dX9_place_18 (by rw [q]; decide) (by rw [q]; decide) (by rw [q]; rfl) (by decide) ?_
                refine lv_aload_n hx hb dX9_place_109 rfl (lv_at hl 0 rfl) ?_
                refine lv_iload_n hx hb dX9_place_110 rfl (lv_at hl 1 rfl) ?_
                refine lv_iload_n hx hb dX9_place_111 rfl (lv_at hl 2 rfl) ?_
                refine lv_aload_n hx hb dX9_place_112 rfl (lv_at hl 0 rfl) ?_
                obtain ⟨ho, hk⟩ := hk
                refine r_calli Z (r_runV (As := []) (rest := [.int x2, .int x1, .ref x0]) C Z (m_X9_length l g h9 x0 _ hk) ho rfl (cwV 0 C.1.2.2.2.2 (gV tw_979 tw_981 tw_22 tw_66 tw_982) rfl rfl rfl (by decide +kernel) ⟨Nat.le_of_ble_eq_true rfl, Nat.le_of_ble_eq_true rfl⟩) rfl hl.1 rfl (Nat.le_of_ble_eq_true rfl) dX9_place_113 ⟨Nat.zero_le _, Nat.zero_le _⟩) (fun r113 h113 H locs hk Z => ?_)
                obtain ⟨ho, hk⟩ := hk
                refine r_calli Z (r_runV (As := [.int x1, .int x2, .int r113]) (rest := []) C Z (m_X9_mark l g h113 x0 x1 x2 r113 _ hk) ho rfl (cwV 3 C.1.2.2.2.2 (gV tw_992 tw_994 tw_25 tw_66 tw_995) rfl rfl rfl (by decide +kernel) ⟨Nat.le_of_ble_eq_true rfl, Nat.le_of_ble_eq_true rfl⟩) rfl hl.1 rfl (Nat.le_of_ble_eq_true rfl) dX9_place_116 ⟨Nat.zero_le _, Nat.zero_le _⟩) (fun r116 h116 H locs hk Z => ?_)
                exact r_iret C Z hr hk dX9_place_119
              · have hk := hk.2 q4
                refine lv_tableOut (tgt := 120) hx hb dX9_place_18 (by have t0 := ne_toI q0 (show Int32.toInt (nI 0) = (0 : Int) by decide); have t1 := ne_toI q1 (show Int32.toInt (nI 1) = (1 : Int) by decide); have t2 := ne_toI q2 (show Int32.toInt (nI 2) = (2 : Int) by decide); have t3 := ne_toI q3 (show Int32.toInt (nI 3) = (3 : Int) by decide); have t4 := ne_toI q4 (show Int32.toInt (nI 4) = (4 : Int) by decide); omega) (by decide) ?_
                refine lv_iconst (v := (-1 : Int32)) hx hb dX9_place_120 (by decide) ?_
                exact r_iret C Z hr hk dX9_place_121
    · have hk := hk.2 q
      refine lv_iconst (v := (-1 : Int32)) hx hb dX9_place_15 (by decide) ?_
      exact r_iret C Z hr hk dX9_place_16
abbrev rmX9_runAt : Room := ({ frames := 5, cells := 0, slots := 0, locals := 120 } : Room)
abbrev wzX9_runAt : List Cond := WS yX9_runAt cX9_runAt 5 (some .int)
set_option maxRecDepth 100000 in
set_option maxHeartbeats 4000000 in
theorem m_X9_runAt (l : Launch) (g : Gt) (h : Hp) (x0 : Nat) (x1 : Int32) (x2 : Int32) (x3 : Int32) (Post : Int32 → Hp → Prop) (hk : wp_X9_runAt x0 x1 x2 x3 Post h) : Met l yX9_runAt wzX9_runAt rmX9_runAt (Pg g h [.ref x0, .int x1, .int x2, .int x3]) (Qi g h Post) 0 0 (dm h) := by
  refine Met_of (cc := cX9_runAt) (maxL := 5) (ret := (some .int)) (by decide) (Nat.le_of_ble_eq_true rfl) (fun p e s m below meth c ls C hr hnm hl Z => ?_)
  have hx := C.1.1
  have hb := C.1.2.1
  have hml := C.1.2.2.1
  have hown := C.1.2.2.2.1
  have hts := C.1.2.2.2.2
  have hl : lv_has ls 5 [(0, .ref x0), (1, .int x1), (2, .int x2), (3, .int x3)] := hl
  unfold wp_X9_runAt at hk
  generalize s.heap = H at Z ⊢
  generalize ([] : List Loc) = locs at Z ⊢
  refine lv_aload_n hx hb dX9_runAt_0 rfl (lv_at hl 0 rfl) ?_
  refine lv_iload_n hx hb dX9_runAt_1 rfl (lv_at hl 1 rfl) ?_
  obtain ⟨ho, hk⟩ := hk
  refine r_calli Z (r_runV (As := [.int x1]) (rest := []) C Z (m_X9_isCard l g h x0 x1 _ hk) ho rfl (cwV 1 C.1.2.2.2.2 (gV tw_1176 tw_1178 tw_50 tw_66 tw_1179) rfl rfl rfl (by decide +kernel) ⟨Nat.le_of_ble_eq_true rfl, Nat.le_of_ble_eq_true rfl⟩) rfl hl.1 rfl (Nat.le_of_ble_eq_true rfl) dX9_runAt_2 ⟨Nat.zero_le _, Nat.zero_le _⟩) (fun r2 h2 H locs hk Z => ?_)
  refine lv_if_eq (tgt := 27) hx hb dX9_runAt_5 (by decide) (fun q => ?_) (fun q => ?_)
  · have hk := hk.1 q
    refine lv_iconst (v := (-1 : Int32)) hx hb dX9_runAt_27 (by decide) ?_
    exact r_iret C Z hr hk dX9_runAt_28
  · have hk := hk.2 q
    refine lv_iload_n hx hb dX9_runAt_8 rfl (lv_at hl 2 rfl) ?_
    refine r_calli Z (r_runS (As := [.int x2]) (rest := []) C Z (m_X9_isPlace l g h2 x2 _ hk) (va_cwS 1 C.1.2.2.2.2 (gS tw_1188 tw_1189 tw_66 tw_1190) rfl rfl rfl (by decide +kernel) ⟨Nat.le_of_ble_eq_true rfl, Nat.le_of_ble_eq_true rfl⟩) rfl hl.1 rfl (Nat.le_of_ble_eq_true rfl) dX9_runAt_9 ⟨Nat.zero_le _, Nat.zero_le _⟩) (fun r9 h9 H locs hk Z => ?_)
    refine lv_if_eq (tgt := 27) hx hb dX9_runAt_12 (by decide) (fun q => ?_) (fun q => ?_)
    · have hk := hk.1 q
      refine lv_iconst (v := (-1 : Int32)) hx hb dX9_runAt_27 (by decide) ?_
      exact r_iret C Z hr hk dX9_runAt_28
    · have hk := hk.2 q
      refine lv_iload_n hx hb dX9_runAt_15 rfl (lv_at hl 3 rfl) ?_
      refine lv_i2l (v := (Int32.toInt64 x3)) hx hb dX9_runAt_16 rfl ?_
      refine lv_lconst (v := lN 0) hx hb dX9_runAt_17 (by decide) ?_
      refine lv_ldc2 (v := (lN 2)) hx hb hown (hts _ tw_921) dX9_runAt_18 ?_
      refine r_calli Z (r_runS (As := [.long (Int32.toInt64 x3), .long (lN 0), .long (lN 2)]) (rest := []) C Z (m_X9_in l g h9 (Int32.toInt64 x3) (lN 0) (lN 2) _ hk) (va_cwS 3 C.1.2.2.2.2 (gS tw_922 tw_923 tw_66 tw_924) rfl rfl rfl (by decide +kernel) ⟨Nat.le_of_ble_eq_true rfl, Nat.le_of_ble_eq_true rfl⟩) rfl hl.1 rfl (Nat.le_of_ble_eq_true rfl) dX9_runAt_21 ⟨Nat.zero_le _, Nat.zero_le _⟩) (fun r21 h21 H locs hk Z => ?_)
      refine lv_if_ne (tgt := 29) hx hb dX9_runAt_24 (by decide) (fun q => ?_) (fun q => ?_)
      · have hk := hk.1 q
        refine lv_aload_n hx hb dX9_runAt_29 rfl (lv_at hl 0 rfl) ?_
        refine lv_iload_n hx hb dX9_runAt_30 rfl (lv_at hl 1 rfl) ?_
        refine lv_iload_n hx hb dX9_runAt_31 rfl (lv_at hl 2 rfl) ?_
        obtain ⟨ho, hk⟩ := hk
        refine r_calli Z (r_runV (As := [.int x1, .int x2]) (rest := []) C Z (m_X9_read l g h21 x0 x1 x2 _ hk) ho rfl (cwV 2 C.1.2.2.2.2 (gV tw_1008 tw_1010 tw_28 tw_66 tw_1011) rfl rfl rfl (by decide +kernel) ⟨Nat.le_of_ble_eq_true rfl, Nat.le_of_ble_eq_true rfl⟩) rfl hl.1 rfl (Nat.le_of_ble_eq_true rfl) dX9_runAt_32 ⟨Nat.zero_le _, Nat.zero_le _⟩) (fun r32 h32 H locs hk Z => ?_)
        refine lv_if_ne (tgt := 41) hx hb dX9_runAt_35 (by decide) (fun q => ?_) (fun q => ?_)
        · have hk := hk.1 q
          refine lv_aload_n hx hb dX9_runAt_41 rfl (lv_at hl 0 rfl) ?_
          refine lv_iload_n hx hb dX9_runAt_42 rfl (lv_at hl 1 rfl) ?_
          refine lv_iload_n hx hb dX9_runAt_43 rfl (lv_at hl 2 rfl) ?_
          refine lv_iconst (v := (-1 : Int32)) hx hb dX9_runAt_44 (by decide) ?_
          obtain ⟨ho, hk⟩ := hk
          refine r_calli Z (r_runV (As := [.int x1, .int x2, .int (-1 : Int32)]) (rest := []) C Z (m_X9_end l g h32 x0 x1 x2 (-1 : Int32) _ hk) ho rfl (cwV 3 C.1.2.2.2.2 (gV tw_1016 tw_1018 tw_30 tw_66 tw_1019) rfl rfl rfl (by decide +kernel) ⟨Nat.le_of_ble_eq_true rfl, Nat.le_of_ble_eq_true rfl⟩) rfl hl.1 rfl (Nat.le_of_ble_eq_true rfl) dX9_runAt_45 ⟨Nat.zero_le _, Nat.zero_le _⟩) (fun r45 h45 H locs hk Z => ?_)
          refine lv_istore (lv' := [(4, .int r45), (0, .ref x0), (1, .int x1), (2, .int x2), (3, .int x3)]) hx hb dX9_runAt_48 hl (by decide) rfl (fun ls hl => ?_)
          refine lv_iload_n hx hb dX9_runAt_50 rfl (lv_at hl 4 rfl) ?_
          refine lv_if_ne (tgt := 59) hx hb dX9_runAt_51 (by decide) (fun q => ?_) (fun q => ?_)
          · have hk := hk.1 q
            refine lv_iload_n hx hb dX9_runAt_59 rfl (lv_at hl 4 rfl) ?_
            refine lv_iconst (v := (nI 1)) hx hb dX9_runAt_60 (by decide) ?_
            refine lv_icmp_ne (tgt := 74) hx hb dX9_runAt_61 (by decide) (fun q => ?_) (fun q => ?_)
            · have hk := hk.1 q
              refine lv_aload_n hx hb dX9_runAt_74 rfl (lv_at hl 1 rfl) ?_
              refine lv_iload hx hb dX9_runAt_75 (lv_at hl 0 rfl) ?_
              refine lv_iload_n hx hb dX9_runAt_77 rfl (lv_at hl 3 rfl) ?_
              obtain ⟨ho, hk⟩ := hk
              refine r_calli Z (r_runV (As := [.int r45, .int x2]) (rest := []) C Z (m_X9_runFrom l g h45 x0 r45 x2 _ hk) ho rfl (cwV 2 C.1.2.2.2.2 (gV tw_1028 tw_1030 tw_33 tw_66 tw_1031) rfl rfl rfl (by decide +kernel) ⟨Nat.le_of_ble_eq_true rfl, Nat.le_of_ble_eq_true rfl⟩) rfl hl.1 rfl (Nat.le_of_ble_eq_true rfl) dX9_runAt_78 ⟨Nat.zero_le _, Nat.zero_le _⟩) (fun r78 h78 H locs hk Z => ?_)
              exact r_iret C Z hr hk dX9_runAt_81
            · have hk := hk.2 q
              refine lv_aload_n hx hb dX9_runAt_64 rfl (lv_at hl 1 rfl) ?_
              refine lv_iload_n hx hb dX9_runAt_65 rfl (lv_at hl 2 rfl) ?_
              refine lv_iload_n hx hb dX9_runAt_66 rfl (lv_at hl 3 rfl) ?_
              refine lv_iconst (v := (nI 1)) hx hb dX9_runAt_67 (by decide) ?_
              obtain ⟨ho, hk⟩ := hk
              refine r_calli Z (r_runV (As := [.int x1, .int x2, .int (nI 1)]) (rest := []) C Z (m_X9_end l g h45 x0 x1 x2 (nI 1) _ hk) ho rfl (cwV 3 C.1.2.2.2.2 (gV tw_1016 tw_1018 tw_30 tw_66 tw_1019) rfl rfl rfl (by decide +kernel) ⟨Nat.le_of_ble_eq_true rfl, Nat.le_of_ble_eq_true rfl⟩) rfl hl.1 rfl (Nat.le_of_ble_eq_true rfl) dX9_runAt_68 ⟨Nat.zero_le _, Nat.zero_le _⟩) (fun r68 h68 H locs hk Z => ?_)
              refine lv_goto (tgt := 81) hx hb dX9_runAt_71 (by decide) ?_
              exact r_iret C Z hr hk dX9_runAt_81
          · have hk := hk.2 q
            refine lv_iload hx hb dX9_runAt_54 (lv_at hl 0 rfl) ?_
            refine lv_goto (tgt := 81) hx hb dX9_runAt_56 (by decide) ?_
            exact r_iret C Z hr hk dX9_runAt_81
        · have hk := hk.2 q
          refine lv_bipush (v := (-9 : Int32)) hx hb dX9_runAt_38 (by decide) ?_
          exact r_iret C Z hr hk dX9_runAt_40
      · have hk := hk.2 q
        refine lv_iconst (v := (-1 : Int32)) hx hb dX9_runAt_27 (by decide) ?_
        exact r_iret C Z hr hk dX9_runAt_28
abbrev rmX9_outcomeOf : Room := ({ frames := 9, cells := 0, slots := 0, locals := 222 } : Room)
abbrev wzX9_outcomeOf : List Cond := WS yX9_outcomeOf cX9_outcomeOf 4 (some .int)
set_option maxRecDepth 100000 in
set_option maxHeartbeats 4000000 in
theorem m_X9_outcomeOf (l : Launch) (g : Gt) (h : Hp) (x0 : Nat) (x1 : Int32) (x2 : Int32) (x3 : Int32) (Post : Int32 → Hp → Prop) (hk : wp_X9_outcomeOf x0 x1 x2 x3 Post h) : Met l yX9_outcomeOf wzX9_outcomeOf rmX9_outcomeOf (Pg g h [.ref x0, .int x1, .int x2, .int x3]) (Qi g h Post) 0 0 (dm h) := by
  refine Met_of (cc := cX9_outcomeOf) (maxL := 4) (ret := (some .int)) (by decide) (Nat.le_of_ble_eq_true rfl) (fun p e s m below meth c ls C hr hnm hl Z => ?_)
  have hx := C.1.1
  have hb := C.1.2.1
  have hml := C.1.2.2.1
  have hown := C.1.2.2.2.1
  have hts := C.1.2.2.2.2
  have hl : lv_has ls 4 [(0, .ref x0), (1, .int x1), (2, .int x2), (3, .int x3)] := hl
  unfold wp_X9_outcomeOf at hk
  generalize s.heap = H at Z ⊢
  generalize ([] : List Loc) = locs at Z ⊢
  refine lv_iload_n hx hb dX9_outcomeOf_0 rfl (lv_at hl 3 rfl) ?_
  refine lv_if_ge (tgt := 15) hx hb dX9_outcomeOf_1 (by decide) (fun q => ?_) (fun q => ?_)
  · have hk := hk.1 q
    refine lv_iload_n hx hb dX9_outcomeOf_15 rfl (lv_at hl 1 rfl) ?_
    refine lv_i2l (v := (Int32.toInt64 x1)) hx hb dX9_outcomeOf_16 rfl ?_
    refine lv_aload_n hx hb dX9_outcomeOf_17 rfl (lv_at hl 0 rfl) ?_
    obtain ⟨v18, hv, hk⟩ := hk
    refine r_get (ci := 9) (k := 0) (T := TX9) (N := 17) C Z hv ku_9 rfl (by decide) tw_857 dX9_outcomeOf_18 ?_
    refine lv_iload_n hx hb dX9_outcomeOf_21 rfl (lv_at hl 3 rfl) ?_
    refine lv_iconst (v := (nI 0)) hx hb dX9_outcomeOf_22 (by decide) ?_
    refine r_calli Z (r_runS (As := [.int x3, .int (nI 0)]) (rest := [.ref v18, .long (Int32.toInt64 x1)]) C Z (m_X9_v l g h x3 (nI 0) _ hk) (va_cwS 2 C.1.2.2.2.2 (gS tw_976 tw_977 tw_66 tw_978) rfl rfl rfl (by decide +kernel) ⟨Nat.le_of_ble_eq_true rfl, Nat.le_of_ble_eq_true rfl⟩) rfl hl.1 rfl (Nat.le_of_ble_eq_true rfl) dX9_outcomeOf_23 ⟨Nat.zero_le _, Nat.zero_le _⟩) (fun r23 h23 H locs hk Z => ?_)
    obtain ⟨v26, hv, hk⟩ := hk
    refine r_lald C Z hv dX9_outcomeOf_26 ?_
    refine W.lcmp hx hb dX9_outcomeOf_27 ?_
    refine lv_if_ge (tgt := 50) hx hb dX9_outcomeOf_28 (by decide) (fun q => ?_) (fun q => ?_)
    · have hk := hk.1 ((lc_ge (Int32.toInt64 x1) v26).mp q)
      refine lv_bipush (v := (-9 : Int32)) hx hb dX9_outcomeOf_50 (by decide) ?_
      exact r_iret C Z hr hk dX9_outcomeOf_52
    · have hk := hk.2 (mt (lc_ge (Int32.toInt64 x1) v26).mpr q)
      refine lv_aload_n hx hb dX9_outcomeOf_31 rfl (lv_at hl 0 rfl) ?_
      obtain ⟨v32, hv, hk⟩ := hk
      refine r_get (ci := 9) (k := 0) (T := TX9) (N := 17) C Z hv ku_9 rfl (by decide) tw_857 dX9_outcomeOf_32 ?_
      refine lv_iload_n hx hb dX9_outcomeOf_35 rfl (lv_at hl 3 rfl) ?_
      refine lv_iconst (v := (nI 1)) hx hb dX9_outcomeOf_36 (by decide) ?_
      refine lv_iload_n hx hb dX9_outcomeOf_37 rfl (lv_at hl 1 rfl) ?_
      refine lv_iadd hx hb dX9_outcomeOf_38 ?_
      refine r_calli Z (r_runS (As := [.int x3, .int ((nI 1) + x1)]) (rest := [.ref v32]) C Z (m_X9_v l g h23 x3 ((nI 1) + x1) _ hk) (va_cwS 2 C.1.2.2.2.2 (gS tw_976 tw_977 tw_66 tw_978) rfl rfl rfl (by decide +kernel) ⟨Nat.le_of_ble_eq_true rfl, Nat.le_of_ble_eq_true rfl⟩) rfl hl.1 rfl (Nat.le_of_ble_eq_true rfl) dX9_outcomeOf_39 ⟨Nat.zero_le _, Nat.zero_le _⟩) (fun r39 h39 H locs hk Z => ?_)
      obtain ⟨v42, hv, hk⟩ := hk
      refine r_lald C Z hv dX9_outcomeOf_42 ?_
      refine lv_iload_n hx hb dX9_outcomeOf_43 rfl (lv_at hl 2 rfl) ?_
      refine r_calli Z (r_runS (As := [.long v42, .int x2]) (rest := []) C Z (m_X9_outcomeIn l g h39 v42 x2 _ hk) (va_cwS 2 C.1.2.2.2.2 (gS tw_1043 tw_1044 tw_66 tw_1045) rfl rfl rfl (by decide +kernel) ⟨Nat.le_of_ble_eq_true rfl, Nat.le_of_ble_eq_true rfl⟩) rfl hl.1 rfl (Nat.le_of_ble_eq_true rfl) dX9_outcomeOf_44 ⟨Nat.zero_le _, Nat.zero_le _⟩) (fun r44 h44 H locs hk Z => ?_)
      refine lv_goto (tgt := 52) hx hb dX9_outcomeOf_47 (by decide) ?_
      exact r_iret C Z hr hk dX9_outcomeOf_52
  · have hk := hk.2 q
    refine lv_aload_n hx hb dX9_outcomeOf_4 rfl (lv_at hl 0 rfl) ?_
    refine lv_iload_n hx hb dX9_outcomeOf_5 rfl (lv_at hl 1 rfl) ?_
    refine lv_iload_n hx hb dX9_outcomeOf_6 rfl (lv_at hl 2 rfl) ?_
    refine lv_aload_n hx hb dX9_outcomeOf_7 rfl (lv_at hl 0 rfl) ?_
    obtain ⟨ho, hk⟩ := hk
    refine r_calli Z (r_runV (As := []) (rest := [.int x2, .int x1, .ref x0]) C Z (m_X9_length l g h x0 _ hk) ho rfl (cwV 0 C.1.2.2.2.2 (gV tw_979 tw_981 tw_22 tw_66 tw_982) rfl rfl rfl (by decide +kernel) ⟨Nat.le_of_ble_eq_true rfl, Nat.le_of_ble_eq_true rfl⟩) rfl hl.1 rfl (Nat.le_of_ble_eq_true rfl) dX9_outcomeOf_8 ⟨Nat.zero_le _, Nat.zero_le _⟩) (fun r8 h8 H locs hk Z => ?_)
    obtain ⟨ho, hk⟩ := hk
    refine r_calli Z (r_runV (As := [.int x1, .int x2, .int r8]) (rest := []) C Z (m_X9_outcomeBy l g h8 x0 x1 x2 r8 _ hk) ho rfl (cwV 3 C.1.2.2.2.2 (gV tw_988 tw_990 tw_24 tw_66 tw_991) rfl rfl rfl (by decide +kernel) ⟨Nat.le_of_ble_eq_true rfl, Nat.le_of_ble_eq_true rfl⟩) rfl hl.1 rfl (Nat.le_of_ble_eq_true rfl) dX9_outcomeOf_11 ⟨Nat.zero_le _, Nat.zero_le _⟩) (fun r11 h11 H locs hk Z => ?_)
    exact r_iret C Z hr hk dX9_outcomeOf_14
abbrev rmX9_isAsked : Room := ({ frames := 2, cells := 0, slots := 0, locals := 46 } : Room)
abbrev wzX9_isAsked : List Cond := WS yX9_isAsked cX9_isAsked 3 (some .boolean)
set_option maxRecDepth 100000 in
set_option maxHeartbeats 4000000 in
theorem m_X9_isAsked (l : Launch) (g : Gt) (h : Hp) (x0 : Nat) (x1 : Int32) (x2 : Int32) (Post : Int32 → Hp → Prop) (hk : wp_X9_isAsked x0 x1 x2 Post h) : Met l yX9_isAsked wzX9_isAsked rmX9_isAsked (Pg g h [.ref x0, .int x1, .int x2]) (Qi g h Post) 0 0 (dm h) := by
  refine Met_of (cc := cX9_isAsked) (maxL := 3) (ret := (some .boolean)) (by decide) (Nat.le_of_ble_eq_true rfl) (fun p e s m below meth c ls C hr hnm hl Z => ?_)
  have hx := C.1.1
  have hb := C.1.2.1
  have hml := C.1.2.2.1
  have hown := C.1.2.2.2.1
  have hts := C.1.2.2.2.2
  have hl : lv_has ls 3 [(0, .ref x0), (1, .int x1), (2, .int x2)] := hl
  unfold wp_X9_isAsked at hk
  generalize s.heap = H at Z ⊢
  generalize ([] : List Loc) = locs at Z ⊢
  refine lv_iload_n hx hb dX9_isAsked_0 rfl (lv_at hl 1 rfl) ?_
  refine lv_i2l (v := (Int32.toInt64 x1)) hx hb dX9_isAsked_1 rfl ?_
  refine lv_lconst (v := lN 0) hx hb dX9_isAsked_2 (by decide) ?_
  refine lv_ldc2 (v := (lN 3)) hx hb hown (hts _ tw_1160) dX9_isAsked_3 ?_
  refine r_calli Z (r_runS (As := [.long (Int32.toInt64 x1), .long (lN 0), .long (lN 3)]) (rest := []) C Z (m_X9_in l g h (Int32.toInt64 x1) (lN 0) (lN 3) _ hk) (va_cwS 3 C.1.2.2.2.2 (gS tw_922 tw_923 tw_66 tw_924) rfl rfl rfl (by decide +kernel) ⟨Nat.le_of_ble_eq_true rfl, Nat.le_of_ble_eq_true rfl⟩) rfl hl.1 rfl (Nat.le_of_ble_eq_true rfl) dX9_isAsked_6 ⟨Nat.zero_le _, Nat.zero_le _⟩) (fun r6 h6 H locs hk Z => ?_)
  refine lv_if_eq (tgt := 29) hx hb dX9_isAsked_9 (by decide) (fun q => ?_) (fun q => ?_)
  · have hk := hk.1 q
    refine lv_iconst (v := (nI 0)) hx hb dX9_isAsked_29 (by decide) ?_
    exact r_zret C Z hr (Or.inl rfl) hk dX9_isAsked_30
  · have hk := hk.2 q
    refine lv_iload_n hx hb dX9_isAsked_12 rfl (lv_at hl 2 rfl) ?_
    refine lv_iconst (v := (-1 : Int32)) hx hb dX9_isAsked_13 (by decide) ?_
    refine lv_icmp_eq (tgt := 25) hx hb dX9_isAsked_14 (by decide) (fun q => ?_) (fun q => ?_)
    · have hk := hk.1 q
      refine lv_iconst (v := (nI 1)) hx hb dX9_isAsked_25 (by decide) ?_
      refine lv_goto (tgt := 30) hx hb dX9_isAsked_26 (by decide) ?_
      exact r_zret C Z hr (Or.inr rfl) hk dX9_isAsked_30
    · have hk := hk.2 q
      refine lv_aload_n hx hb dX9_isAsked_17 rfl (lv_at hl 0 rfl) ?_
      refine lv_iload_n hx hb dX9_isAsked_18 rfl (lv_at hl 2 rfl) ?_
      obtain ⟨ho, hk⟩ := hk
      refine r_calli Z (r_runV (As := [.int x2]) (rest := []) C Z (m_X9_isVersion l g h6 x0 x2 _ hk) ho rfl (cwV 1 C.1.2.2.2.2 (gV tw_1203 tw_1205 tw_53 tw_66 tw_1206) rfl rfl rfl (by decide +kernel) ⟨Nat.le_of_ble_eq_true rfl, Nat.le_of_ble_eq_true rfl⟩) rfl hl.1 rfl (Nat.le_of_ble_eq_true rfl) dX9_isAsked_19 ⟨Nat.zero_le _, Nat.zero_le _⟩) (fun r19 h19 H locs hk Z => ?_)
      refine lv_if_eq (tgt := 29) hx hb dX9_isAsked_22 (by decide) (fun q => ?_) (fun q => ?_)
      · have hk := hk.1 q
        refine lv_iconst (v := (nI 0)) hx hb dX9_isAsked_29 (by decide) ?_
        exact r_zret C Z hr (Or.inl rfl) hk dX9_isAsked_30
      · have hk := hk.2 q
        refine lv_iconst (v := (nI 1)) hx hb dX9_isAsked_25 (by decide) ?_
        refine lv_goto (tgt := 30) hx hb dX9_isAsked_26 (by decide) ?_
        exact r_zret C Z hr (Or.inr rfl) hk dX9_isAsked_30
abbrev rmX9_outcome : Room := ({ frames := 10, cells := 0, slots := 0, locals := 245 } : Room)
abbrev wzX9_outcome : List Cond := WS yX9_outcome cX9_outcome 4 (some .int)
set_option maxRecDepth 100000 in
set_option maxHeartbeats 4000000 in
theorem m_X9_outcome (l : Launch) (g : Gt) (h : Hp) (x0 : Nat) (x1 : Int32) (x2 : Int32) (x3 : Int32) (Post : Int32 → Hp → Prop) (hk : wp_X9_outcome x0 x1 x2 x3 Post h) : Met l yX9_outcome wzX9_outcome rmX9_outcome (Pg g h [.ref x0, .int x1, .int x2, .int x3]) (Qi g h Post) 0 0 (dm h) := by
  refine Met_of (cc := cX9_outcome) (maxL := 4) (ret := (some .int)) (by decide) (Nat.le_of_ble_eq_true rfl) (fun p e s m below meth c ls C hr hnm hl Z => ?_)
  have hx := C.1.1
  have hb := C.1.2.1
  have hml := C.1.2.2.1
  have hown := C.1.2.2.2.1
  have hts := C.1.2.2.2.2
  have hl : lv_has ls 4 [(0, .ref x0), (1, .int x1), (2, .int x2), (3, .int x3)] := hl
  unfold wp_X9_outcome at hk
  generalize s.heap = H at Z ⊢
  generalize ([] : List Loc) = locs at Z ⊢
  refine lv_aload_n hx hb dX9_outcome_0 rfl (lv_at hl 0 rfl) ?_
  refine lv_iload_n hx hb dX9_outcome_1 rfl (lv_at hl 1 rfl) ?_
  obtain ⟨ho, hk⟩ := hk
  refine r_calli Z (r_runV (As := [.int x1]) (rest := []) C Z (m_X9_isCard l g h x0 x1 _ hk) ho rfl (cwV 1 C.1.2.2.2.2 (gV tw_1176 tw_1178 tw_50 tw_66 tw_1179) rfl rfl rfl (by decide +kernel) ⟨Nat.le_of_ble_eq_true rfl, Nat.le_of_ble_eq_true rfl⟩) rfl hl.1 rfl (Nat.le_of_ble_eq_true rfl) dX9_outcome_2 ⟨Nat.zero_le _, Nat.zero_le _⟩) (fun r2 h2 H locs hk Z => ?_)
  refine lv_if_eq (tgt := 27) hx hb dX9_outcome_5 (by decide) (fun q => ?_) (fun q => ?_)
  · have hk := hk.1 q
    refine lv_iconst (v := (-1 : Int32)) hx hb dX9_outcome_27 (by decide) ?_
    exact r_iret C Z hr hk dX9_outcome_28
  · have hk := hk.2 q
    refine lv_aload_n hx hb dX9_outcome_8 rfl (lv_at hl 0 rfl) ?_
    refine lv_iload_n hx hb dX9_outcome_9 rfl (lv_at hl 2 rfl) ?_
    refine lv_iload_n hx hb dX9_outcome_10 rfl (lv_at hl 3 rfl) ?_
    obtain ⟨ho, hk⟩ := hk
    refine r_calli Z (r_runV (As := [.int x2, .int x3]) (rest := []) C Z (m_X9_isAsked l g h2 x0 x2 x3 _ hk) ho rfl (cwV 2 C.1.2.2.2.2 (gV tw_1199 tw_1201 tw_52 tw_66 tw_1202) rfl rfl rfl (by decide +kernel) ⟨Nat.le_of_ble_eq_true rfl, Nat.le_of_ble_eq_true rfl⟩) rfl hl.1 rfl (Nat.le_of_ble_eq_true rfl) dX9_outcome_11 ⟨Nat.zero_le _, Nat.zero_le _⟩) (fun r11 h11 H locs hk Z => ?_)
    refine lv_if_eq (tgt := 27) hx hb dX9_outcome_14 (by decide) (fun q => ?_) (fun q => ?_)
    · have hk := hk.1 q
      refine lv_iconst (v := (-1 : Int32)) hx hb dX9_outcome_27 (by decide) ?_
      exact r_iret C Z hr hk dX9_outcome_28
    · have hk := hk.2 q
      refine lv_aload_n hx hb dX9_outcome_17 rfl (lv_at hl 0 rfl) ?_
      refine lv_iload_n hx hb dX9_outcome_18 rfl (lv_at hl 1 rfl) ?_
      refine lv_iload_n hx hb dX9_outcome_19 rfl (lv_at hl 2 rfl) ?_
      refine lv_iload_n hx hb dX9_outcome_20 rfl (lv_at hl 3 rfl) ?_
      obtain ⟨ho, hk⟩ := hk
      refine r_calli Z (r_runV (As := [.int x1, .int x2, .int x3]) (rest := []) C Z (m_X9_outcomeOf l g h11 x0 x1 x2 x3 _ hk) ho rfl (cwV 3 C.1.2.2.2.2 (gV tw_1207 tw_1209 tw_54 tw_66 tw_1210) rfl rfl rfl (by decide +kernel) ⟨Nat.le_of_ble_eq_true rfl, Nat.le_of_ble_eq_true rfl⟩) rfl hl.1 rfl (Nat.le_of_ble_eq_true rfl) dX9_outcome_21 ⟨Nat.zero_le _, Nat.zero_le _⟩) (fun r21 h21 H locs hk Z => ?_)
      refine lv_goto (tgt := 28) hx hb dX9_outcome_24 (by decide) ?_
      exact r_iret C Z hr hk dX9_outcome_28
abbrev rmX9_tallied : Room := ({ frames := 10, cells := 0, slots := 0, locals := 245 } : Room)
abbrev wzX9_tallied : List Cond := WS yX9_tallied cX9_tallied 8 (some .int)
set_option maxRecDepth 100000 in
set_option maxHeartbeats 4000000 in
theorem w_X9_tallied_48 {p : Program} {l : Launch} {e : Env} {s : State} {m : MethodId} {args : Array Value} {below : List Frame} {meth : Method} {c : Code} {g : Gt} {h0 : Hp} (C : Cx g (dm h0) RX9 cX9_tallied 8 p s m args meth c) (hr : meth.sig.returnType = (some .int)) {Post : Int32 → Hp → Prop} (x0 : Nat) (x1 : Int32) (x2 : Int32) (x3 : Int32) (x4 : Int32) (x5 : Int32) (x6 : Int32) (s0 : Int32) {k6 : Int32 → Int32 → Hp → Prop} (hk6 : ∀ (x5 : Int32) (x6 : Int32) (h : Hp) (H : Heap) (locs : List Loc) (ls : Array Slot), lv_has ls 8 [(0, .ref x0), (1, .int x1), (2, .int x2), (3, .int x3), (4, .int x4), (5, .int x5), (6, .int x6)] → St g (dm h0) s h H locs → k6 x5 x6 h → W p l e rmX9_tallied s m args below meth c H locs 0 0 (MQ below (Qi g h0 Post) args s 0 0 (dm h0)) (F0 m 6 ls [])) : ∀ (h : Hp) (H : Heap) (locs : List Loc) (ls : Array Slot), lv_has ls 8 [(0, .ref x0), (1, .int x1), (2, .int x2), (3, .int x3), (4, .int x4), (5, .int x5), (6, .int x6)] → St g (dm h0) s h H locs → wp_X9_tallied_48 Post k6 x0 x1 x2 x3 x4 x5 x6 s0 h → W p l e rmX9_tallied s m args below meth c H locs 0 0 (MQ below (Qi g h0 Post) args s 0 0 (dm h0)) (F0 m 48 ls [.int s0]) := by
  have hx := C.1.1
  have hb := C.1.2.1
  have hml := C.1.2.2.1
  have hown := C.1.2.2.2.1
  have hts := C.1.2.2.2.2
  intro h H locs ls hl Z hk
  unfold wp_X9_tallied_48 at hk
  refine lv_istore (lv' := [(7, .int s0), (0, .ref x0), (1, .int x1), (2, .int x2), (3, .int x3), (4, .int x4), (5, .int x5), (6, .int x6)]) hx hb dX9_tallied_48 hl (by decide) rfl (fun ls hl => ?_)
  refine lv_iload hx hb dX9_tallied_50 (lv_at hl 6 rfl) ?_
  refine lv_iload hx hb dX9_tallied_52 (lv_at hl 0 rfl) ?_
  refine lv_if_eq (tgt := 73) hx hb dX9_tallied_54 (by decide) (fun q => ?_) (fun q => ?_)
  · have hk := hk.1 q
    refine lv_iconst (v := (nI 0)) hx hb dX9_tallied_73 (by decide) ?_
    refine lv_iadd hx hb dX9_tallied_74 ?_
    refine lv_topi (fun y75 ey75 => ?_)
    have hk := hk y75 ey75
    refine lv_istore (lv' := [(5, .int y75), (7, .int s0), (0, .ref x0), (1, .int x1), (2, .int x2), (3, .int x3), (4, .int x4), (6, .int x6)]) hx hb dX9_tallied_75 hl (by decide) rfl (fun ls hl => ?_)
    obtain ⟨y77, ey77⟩ : ∃ y : Int32, y = x6 + (nI 1) := ⟨_, rfl⟩
    have hk := hk y77 ey77
    refine lv_iinc (v := y77) (lv' := [(6, .int y77), (5, .int y75), (7, .int s0), (0, .ref x0), (1, .int x1), (2, .int x2), (3, .int x3), (4, .int x4)]) hx hb dX9_tallied_77 hl (k := 7) rfl (by rw [ey77]; rfl) (by decide) rfl (fun ls hl => ?_)
    refine lv_goto (tgt := 6) hx hb dX9_tallied_80 (by decide) ?_
    exact hk6 y75 y77 h _ _ _ (lv_sub hl [3, 4, 5, 6, 7, 1, 0] rfl) Z hk
  · have hk := hk.2 q
    refine lv_aload_n hx hb dX9_tallied_57 rfl (lv_at hl 1 rfl) ?_
    refine lv_iload hx hb dX9_tallied_58 (lv_at hl 7 rfl) ?_
    refine lv_iload_n hx hb dX9_tallied_60 rfl (lv_at hl 2 rfl) ?_
    refine lv_iload_n hx hb dX9_tallied_61 rfl (lv_at hl 4 rfl) ?_
    obtain ⟨ho, hk⟩ := hk
    refine r_calli Z (r_runV (As := [.int x6, .int x1, .int x3]) (rest := [.int x5]) C Z (m_X9_outcomeOf l g h x0 x6 x1 x3 _ hk) ho rfl (cwV 3 C.1.2.2.2.2 (gV tw_1207 tw_1209 tw_54 tw_66 tw_1210) rfl rfl rfl (by decide +kernel) ⟨Nat.le_of_ble_eq_true rfl, Nat.le_of_ble_eq_true rfl⟩) rfl hl.1 rfl (Nat.le_of_ble_eq_true rfl) dX9_tallied_62 ⟨Nat.zero_le _, Nat.zero_le _⟩) (fun r62 h62 H locs hk Z => ?_)
    refine lv_iload_n hx hb dX9_tallied_65 rfl (lv_at hl 3 rfl) ?_
    refine lv_icmp_ne (tgt := 73) hx hb dX9_tallied_66 (by decide) (fun q => ?_) (fun q => ?_)
    · have hk := hk.1 q
      refine lv_iconst (v := (nI 0)) hx hb dX9_tallied_73 (by decide) ?_
      refine lv_iadd hx hb dX9_tallied_74 ?_
      refine lv_topi (fun y75 ey75 => ?_)
      have hk := hk y75 ey75
      refine lv_istore (lv' := [(5, .int y75), (7, .int s0), (0, .ref x0), (1, .int x1), (2, .int x2), (3, .int x3), (4, .int x4), (6, .int x6)]) hx hb dX9_tallied_75 hl (by decide) rfl (fun ls hl => ?_)
      obtain ⟨y77, ey77⟩ : ∃ y : Int32, y = x6 + (nI 1) := ⟨_, rfl⟩
      have hk := hk y77 ey77
      refine lv_iinc (v := y77) (lv' := [(6, .int y77), (5, .int y75), (7, .int s0), (0, .ref x0), (1, .int x1), (2, .int x2), (3, .int x3), (4, .int x4)]) hx hb dX9_tallied_77 hl (k := 7) rfl (by rw [ey77]; rfl) (by decide) rfl (fun ls hl => ?_)
      refine lv_goto (tgt := 6) hx hb dX9_tallied_80 (by decide) ?_
      exact hk6 y75 y77 h62 _ _ _ (lv_sub hl [3, 4, 5, 6, 7, 1, 0] rfl) Z hk
    · have hk := hk.2 q
      refine lv_iconst (v := (nI 1)) hx hb dX9_tallied_69 (by decide) ?_
      refine lv_goto (tgt := 74) hx hb dX9_tallied_70 (by decide) ?_
      refine lv_iadd hx hb dX9_tallied_74 ?_
      refine lv_topi (fun y75 ey75 => ?_)
      have hk := hk y75 ey75
      refine lv_istore (lv' := [(5, .int y75), (7, .int s0), (0, .ref x0), (1, .int x1), (2, .int x2), (3, .int x3), (4, .int x4), (6, .int x6)]) hx hb dX9_tallied_75 hl (by decide) rfl (fun ls hl => ?_)
      obtain ⟨y77, ey77⟩ : ∃ y : Int32, y = x6 + (nI 1) := ⟨_, rfl⟩
      have hk := hk y77 ey77
      refine lv_iinc (v := y77) (lv' := [(6, .int y77), (5, .int y75), (7, .int s0), (0, .ref x0), (1, .int x1), (2, .int x2), (3, .int x3), (4, .int x4)]) hx hb dX9_tallied_77 hl (k := 7) rfl (by rw [ey77]; rfl) (by decide) rfl (fun ls hl => ?_)
      refine lv_goto (tgt := 6) hx hb dX9_tallied_80 (by decide) ?_
      exact hk6 y75 y77 h62 _ _ _ (lv_sub hl [3, 4, 5, 6, 7, 1, 0] rfl) Z hk
set_option maxRecDepth 100000 in
set_option maxHeartbeats 4000000 in
theorem w_X9_tallied_6 {p : Program} {l : Launch} {e : Env} {s : State} {m : MethodId} {args : Array Value} {below : List Frame} {meth : Method} {c : Code} {g : Gt} {h0 : Hp} (C : Cx g (dm h0) RX9 cX9_tallied 8 p s m args meth c) (hr : meth.sig.returnType = (some .int)) {Post : Int32 → Hp → Prop} (x0 : Nat) (x1 : Int32) (x2 : Int32) (x3 : Int32) (x4 : Int32)   : ∀ (n : Nat) (x5 : Int32) (x6 : Int32) (h : Hp) (H : Heap) (locs : List Loc) (ls : Array Slot), lv_has ls 8 [(0, .ref x0), (1, .int x1), (2, .int x2), (3, .int x3), (4, .int x4), (5, .int x5), (6, .int x6)] → St g (dm h0) s h H locs → wp_X9_tallied_6 Post x0 x1 x2 x3 x4 n x5 x6 h → W p l e rmX9_tallied s m args below meth c H locs 0 0 (MQ below (Qi g h0 Post) args s 0 0 (dm h0)) (F0 m 6 ls []) := by
  have hx := C.1.1
  have hb := C.1.2.1
  have hml := C.1.2.2.1
  have hown := C.1.2.2.2.1
  have hts := C.1.2.2.2.2
  intro n
  induction n with
  | zero => intro x5 x6 h H locs ls hl Z hk; exact (show False from hk).elim
  | succ n ih =>
    intro x5 x6 h H locs ls hl Z hk
    unfold wp_X9_tallied_6 at hk
    refine lv_iload hx hb dX9_tallied_6 (lv_at hl 6 rfl) ?_
    refine lv_i2l (v := (Int32.toInt64 x6)) hx hb dX9_tallied_8 rfl ?_
    refine lv_aload_n hx hb dX9_tallied_9 rfl (lv_at hl 0 rfl) ?_
    obtain ⟨v10, hv, hk⟩ := hk
    refine r_get (ci := 9) (k := 0) (T := TX9) (N := 17) C Z hv ku_9 rfl (by decide) tw_857 dX9_tallied_10 ?_
    refine lv_iconst (v := (nI 0)) hx hb dX9_tallied_13 (by decide) ?_
    obtain ⟨v14, hv, hk⟩ := hk
    refine r_lald C Z hv dX9_tallied_14 ?_
    refine W.lcmp hx hb dX9_tallied_15 ?_
    refine lv_if_ge (tgt := 83) hx hb dX9_tallied_16 (by decide) (fun q => ?_) (fun q => ?_)
    · have hk := hk.1 ((lc_ge (Int32.toInt64 x6) v14).mp q)
      refine lv_iload hx hb dX9_tallied_83 (lv_at hl 5 rfl) ?_
      exact r_iret C Z hr hk dX9_tallied_85
    · have hk := hk.2 (mt (lc_ge (Int32.toInt64 x6) v14).mpr q)
      refine lv_iload hx hb dX9_tallied_19 (lv_at hl 4 rfl) ?_
      refine lv_iconst (v := (-1 : Int32)) hx hb dX9_tallied_21 (by decide) ?_
      refine lv_icmp_eq (tgt := 43) hx hb dX9_tallied_22 (by decide) (fun q => ?_) (fun q => ?_)
      · have hk := hk.1 q
        refine lv_iconst (v := (nI 1)) hx hb dX9_tallied_43 (by decide) ?_
        refine lv_goto (tgt := 48) hx hb dX9_tallied_44 (by decide) ?_
        exact w_X9_tallied_48 C hr x0 x1 x2 x3 x4 x5 x6 (nI 1) ih h _ _ _ (lv_sub hl [0, 1, 2, 3, 4, 5, 6] rfl) Z hk
      · have hk := hk.2 q
        refine lv_aload_n hx hb dX9_tallied_25 rfl (lv_at hl 0 rfl) ?_
        obtain ⟨v26, hv, hk⟩ := hk
        refine r_get (ci := 9) (k := 0) (T := TX9) (N := 17) C Z hv ku_9 rfl (by decide) tw_857 dX9_tallied_26 ?_
        refine lv_iload hx hb dX9_tallied_29 (lv_at hl 6 rfl) ?_
        refine lv_iconst (v := (nI 0)) hx hb dX9_tallied_31 (by decide) ?_
        refine r_calli Z (r_runS (As := [.int x6, .int (nI 0)]) (rest := [.ref v26]) C Z (m_X9_c l g h x6 (nI 0) _ hk) (va_cwS 2 C.1.2.2.2.2 (gS tw_930 tw_931 tw_66 tw_932) rfl rfl rfl (by decide +kernel) ⟨Nat.le_of_ble_eq_true rfl, Nat.le_of_ble_eq_true rfl⟩) rfl hl.1 rfl (Nat.le_of_ble_eq_true rfl) dX9_tallied_32 ⟨Nat.zero_le _, Nat.zero_le _⟩) (fun r32 h32 H locs hk Z => ?_)
        obtain ⟨v35, hv, hk⟩ := hk
        refine r_lald C Z hv dX9_tallied_35 ?_
        refine lv_iload hx hb dX9_tallied_36 (lv_at hl 4 rfl) ?_
        refine lv_i2l (v := (Int32.toInt64 x4)) hx hb dX9_tallied_38 rfl ?_
        refine W.lcmp hx hb dX9_tallied_39 ?_
        refine lv_if_ne (tgt := 47) hx hb dX9_tallied_40 (by decide) (fun q => ?_) (fun q => ?_)
        · have hk := hk.1 (mt (lc_eq v35 (Int32.toInt64 x4)).mpr q)
          refine lv_iconst (v := (nI 0)) hx hb dX9_tallied_47 (by decide) ?_
          exact w_X9_tallied_48 C hr x0 x1 x2 x3 x4 x5 x6 (nI 0) ih h32 _ _ _ (lv_sub hl [0, 1, 2, 3, 4, 5, 6] rfl) Z hk
        · have hk := hk.2 ((lc_eq v35 (Int32.toInt64 x4)).mp q)
          refine lv_iconst (v := (nI 1)) hx hb dX9_tallied_43 (by decide) ?_
          refine lv_goto (tgt := 48) hx hb dX9_tallied_44 (by decide) ?_
          exact w_X9_tallied_48 C hr x0 x1 x2 x3 x4 x5 x6 (nI 1) ih h32 _ _ _ (lv_sub hl [0, 1, 2, 3, 4, 5, 6] rfl) Z hk
set_option maxRecDepth 100000 in
set_option maxHeartbeats 4000000 in
theorem m_X9_tallied (l : Launch) (g : Gt) (h : Hp) (x0 : Nat) (x1 : Int32) (x2 : Int32) (x3 : Int32) (x4 : Int32) (Post : Int32 → Hp → Prop) (hk : wp_X9_tallied x0 x1 x2 x3 x4 Post h) : Met l yX9_tallied wzX9_tallied rmX9_tallied (Pg g h [.ref x0, .int x1, .int x2, .int x3, .int x4]) (Qi g h Post) 0 0 (dm h) := by
  refine Met_of (cc := cX9_tallied) (maxL := 8) (ret := (some .int)) (by decide) (Nat.le_of_ble_eq_true rfl) (fun p e s m below meth c ls C hr hnm hl Z => ?_)
  have hx := C.1.1
  have hb := C.1.2.1
  have hml := C.1.2.2.1
  have hown := C.1.2.2.2.1
  have hts := C.1.2.2.2.2
  have hl : lv_has ls 8 [(0, .ref x0), (1, .int x1), (2, .int x2), (3, .int x3), (4, .int x4)] := hl
  unfold wp_X9_tallied at hk
  generalize s.heap = H at Z ⊢
  generalize ([] : List Loc) = locs at Z ⊢
  refine lv_iconst (v := (nI 0)) hx hb dX9_tallied_0 (by decide) ?_
  refine lv_istore (lv' := [(5, .int (nI 0)), (0, .ref x0), (1, .int x1), (2, .int x2), (3, .int x3), (4, .int x4)]) hx hb dX9_tallied_1 hl (by decide) rfl (fun ls hl => ?_)
  refine lv_iconst (v := (nI 0)) hx hb dX9_tallied_3 (by decide) ?_
  refine lv_istore (lv' := [(6, .int (nI 0)), (5, .int (nI 0)), (0, .ref x0), (1, .int x1), (2, .int x2), (3, .int x3), (4, .int x4)]) hx hb dX9_tallied_4 hl (by decide) rfl (fun ls hl => ?_)
  obtain ⟨n1, hk⟩ := hk
  exact w_X9_tallied_6 C hr x0 x1 x2 x3 x4 n1 (nI 0) (nI 0) h _ _ _ (lv_sub hl [2, 3, 4, 5, 6, 1, 0] rfl) Z hk
abbrev rmX9_tally : Room := ({ frames := 11, cells := 0, slots := 0, locals := 272 } : Room)
abbrev wzX9_tally : List Cond := WS yX9_tally cX9_tally 6 (some .int)
set_option maxRecDepth 100000 in
set_option maxHeartbeats 4000000 in
theorem m_X9_tally (l : Launch) (g : Gt) (h : Hp) (x0 : Nat) (x1 : Int32) (x2 : Int32) (x3 : Int32) (x4 : Int32) (Post : Int32 → Hp → Prop) (hk : wp_X9_tally x0 x1 x2 x3 x4 Post h) : Met l yX9_tally wzX9_tally rmX9_tally (Pg g h [.ref x0, .int x1, .int x2, .int x3, .int x4]) (Qi g h Post) 0 0 (dm h) := by
  refine Met_of (cc := cX9_tally) (maxL := 6) (ret := (some .int)) (by decide) (Nat.le_of_ble_eq_true rfl) (fun p e s m below meth c ls C hr hnm hl Z => ?_)
  have hx := C.1.1
  have hb := C.1.2.1
  have hml := C.1.2.2.1
  have hown := C.1.2.2.2.1
  have hts := C.1.2.2.2.2
  have hl : lv_has ls 6 [(0, .ref x0), (1, .int x1), (2, .int x2), (3, .int x3), (4, .int x4)] := hl
  unfold wp_X9_tally at hk
  generalize s.heap = H at Z ⊢
  generalize ([] : List Loc) = locs at Z ⊢
  refine lv_aload_n hx hb dX9_tally_0 rfl (lv_at hl 0 rfl) ?_
  refine lv_iload_n hx hb dX9_tally_1 rfl (lv_at hl 1 rfl) ?_
  refine lv_iload_n hx hb dX9_tally_2 rfl (lv_at hl 3 rfl) ?_
  obtain ⟨ho, hk⟩ := hk
  refine r_calli Z (r_runV (As := [.int x1, .int x3]) (rest := []) C Z (m_X9_isAsked l g h x0 x1 x3 _ hk) ho rfl (cwV 2 C.1.2.2.2.2 (gV tw_1199 tw_1201 tw_52 tw_66 tw_1202) rfl rfl rfl (by decide +kernel) ⟨Nat.le_of_ble_eq_true rfl, Nat.le_of_ble_eq_true rfl⟩) rfl hl.1 rfl (Nat.le_of_ble_eq_true rfl) dX9_tally_3 ⟨Nat.zero_le _, Nat.zero_le _⟩) (fun r3 h3 H locs hk Z => ?_)
  refine lv_if_eq (tgt := 40) hx hb dX9_tally_6 (by decide) (fun q => ?_) (fun q => ?_)
  · have hk := hk.1 q
    refine lv_iconst (v := (nI 0)) hx hb dX9_tally_40 (by decide) ?_
    refine lv_istore (lv' := [(5, .int (nI 0)), (0, .ref x0), (1, .int x1), (2, .int x2), (3, .int x3), (4, .int x4)]) hx hb dX9_tally_41 hl (by decide) rfl (fun ls hl => ?_)
    refine lv_iload hx hb dX9_tally_43 (lv_at hl 0 rfl) ?_
    refine lv_if_eq (tgt := 60) hx hb dX9_tally_45 (by decide) (fun q => ?_) (fun q => ?_)
    · have hk := hk.1 q
      refine lv_iconst (v := (-1 : Int32)) hx hb dX9_tally_60 (by decide) ?_
      exact r_iret C Z hr hk dX9_tally_61
    · have hk := hk.2 q
      refine lv_aload_n hx hb dX9_tally_48 rfl (lv_at hl 1 rfl) ?_
      refine lv_iload_n hx hb dX9_tally_49 rfl (lv_at hl 2 rfl) ?_
      refine lv_iload_n hx hb dX9_tally_50 rfl (lv_at hl 3 rfl) ?_
      refine lv_iload_n hx hb dX9_tally_51 rfl (lv_at hl 4 rfl) ?_
      refine lv_iload hx hb dX9_tally_52 (lv_at hl 5 rfl) ?_
      obtain ⟨ho, hk⟩ := hk
      refine r_calli Z (r_runV (As := [.int x1, .int x2, .int x3, .int x4]) (rest := []) C Z (m_X9_tallied l g h3 x0 x1 x2 x3 x4 _ hk) ho rfl (cwV 4 C.1.2.2.2.2 (gV tw_1215 tw_1217 tw_55 tw_66 tw_1218) rfl rfl rfl (by decide +kernel) ⟨Nat.le_of_ble_eq_true rfl, Nat.le_of_ble_eq_true rfl⟩) rfl hl.1 rfl (Nat.le_of_ble_eq_true rfl) dX9_tally_54 ⟨Nat.zero_le _, Nat.zero_le _⟩) (fun r54 h54 H locs hk Z => ?_)
      refine lv_goto (tgt := 61) hx hb dX9_tally_57 (by decide) ?_
      exact r_iret C Z hr hk dX9_tally_61
  · have hk := hk.2 q
    refine lv_iload_n hx hb dX9_tally_9 rfl (lv_at hl 2 rfl) ?_
    refine lv_i2l (v := (Int32.toInt64 x2)) hx hb dX9_tally_10 rfl ?_
    refine lv_lconst (v := lN 0) hx hb dX9_tally_11 (by decide) ?_
    refine lv_ldc2 (v := (lN 5)) hx hb hown (hts _ tw_856) dX9_tally_12 ?_
    refine r_calli Z (r_runS (As := [.long (Int32.toInt64 x2), .long (lN 0), .long (lN 5)]) (rest := []) C Z (m_X9_in l g h3 (Int32.toInt64 x2) (lN 0) (lN 5) _ hk) (va_cwS 3 C.1.2.2.2.2 (gS tw_922 tw_923 tw_66 tw_924) rfl rfl rfl (by decide +kernel) ⟨Nat.le_of_ble_eq_true rfl, Nat.le_of_ble_eq_true rfl⟩) rfl hl.1 rfl (Nat.le_of_ble_eq_true rfl) dX9_tally_15 ⟨Nat.zero_le _, Nat.zero_le _⟩) (fun r15 h15 H locs hk Z => ?_)
    refine lv_if_eq (tgt := 40) hx hb dX9_tally_18 (by decide) (fun q => ?_) (fun q => ?_)
    · have hk := hk.1 q
      refine lv_iconst (v := (nI 0)) hx hb dX9_tally_40 (by decide) ?_
      refine lv_istore (lv' := [(5, .int (nI 0)), (0, .ref x0), (1, .int x1), (2, .int x2), (3, .int x3), (4, .int x4)]) hx hb dX9_tally_41 hl (by decide) rfl (fun ls hl => ?_)
      refine lv_iload hx hb dX9_tally_43 (lv_at hl 0 rfl) ?_
      refine lv_if_eq (tgt := 60) hx hb dX9_tally_45 (by decide) (fun q => ?_) (fun q => ?_)
      · have hk := hk.1 q
        refine lv_iconst (v := (-1 : Int32)) hx hb dX9_tally_60 (by decide) ?_
        exact r_iret C Z hr hk dX9_tally_61
      · have hk := hk.2 q
        refine lv_aload_n hx hb dX9_tally_48 rfl (lv_at hl 1 rfl) ?_
        refine lv_iload_n hx hb dX9_tally_49 rfl (lv_at hl 2 rfl) ?_
        refine lv_iload_n hx hb dX9_tally_50 rfl (lv_at hl 3 rfl) ?_
        refine lv_iload_n hx hb dX9_tally_51 rfl (lv_at hl 4 rfl) ?_
        refine lv_iload hx hb dX9_tally_52 (lv_at hl 5 rfl) ?_
        obtain ⟨ho, hk⟩ := hk
        refine r_calli Z (r_runV (As := [.int x1, .int x2, .int x3, .int x4]) (rest := []) C Z (m_X9_tallied l g h15 x0 x1 x2 x3 x4 _ hk) ho rfl (cwV 4 C.1.2.2.2.2 (gV tw_1215 tw_1217 tw_55 tw_66 tw_1218) rfl rfl rfl (by decide +kernel) ⟨Nat.le_of_ble_eq_true rfl, Nat.le_of_ble_eq_true rfl⟩) rfl hl.1 rfl (Nat.le_of_ble_eq_true rfl) dX9_tally_54 ⟨Nat.zero_le _, Nat.zero_le _⟩) (fun r54 h54 H locs hk Z => ?_)
        refine lv_goto (tgt := 61) hx hb dX9_tally_57 (by decide) ?_
        exact r_iret C Z hr hk dX9_tally_61
    · have hk := hk.2 q
      refine lv_iload hx hb dX9_tally_21 (lv_at hl 4 rfl) ?_
      refine lv_i2l (v := (Int32.toInt64 x4)) hx hb dX9_tally_23 rfl ?_
      refine lv_ldc2 (v := (-1 : Int64)) hx hb hown (hts _ tw_938) dX9_tally_24 ?_
      refine lv_ldc2 (v := (lN 2)) hx hb hown (hts _ tw_921) dX9_tally_27 ?_
      refine r_calli Z (r_runS (As := [.long (Int32.toInt64 x4), .long (-1 : Int64), .long (lN 2)]) (rest := []) C Z (m_X9_in l g h15 (Int32.toInt64 x4) (-1 : Int64) (lN 2) _ hk) (va_cwS 3 C.1.2.2.2.2 (gS tw_922 tw_923 tw_66 tw_924) rfl rfl rfl (by decide +kernel) ⟨Nat.le_of_ble_eq_true rfl, Nat.le_of_ble_eq_true rfl⟩) rfl hl.1 rfl (Nat.le_of_ble_eq_true rfl) dX9_tally_30 ⟨Nat.zero_le _, Nat.zero_le _⟩) (fun r30 h30 H locs hk Z => ?_)
      refine lv_if_eq (tgt := 40) hx hb dX9_tally_33 (by decide) (fun q => ?_) (fun q => ?_)
      · have hk := hk.1 q
        refine lv_iconst (v := (nI 0)) hx hb dX9_tally_40 (by decide) ?_
        refine lv_istore (lv' := [(5, .int (nI 0)), (0, .ref x0), (1, .int x1), (2, .int x2), (3, .int x3), (4, .int x4)]) hx hb dX9_tally_41 hl (by decide) rfl (fun ls hl => ?_)
        refine lv_iload hx hb dX9_tally_43 (lv_at hl 0 rfl) ?_
        refine lv_if_eq (tgt := 60) hx hb dX9_tally_45 (by decide) (fun q => ?_) (fun q => ?_)
        · have hk := hk.1 q
          refine lv_iconst (v := (-1 : Int32)) hx hb dX9_tally_60 (by decide) ?_
          exact r_iret C Z hr hk dX9_tally_61
        · have hk := hk.2 q
          refine lv_aload_n hx hb dX9_tally_48 rfl (lv_at hl 1 rfl) ?_
          refine lv_iload_n hx hb dX9_tally_49 rfl (lv_at hl 2 rfl) ?_
          refine lv_iload_n hx hb dX9_tally_50 rfl (lv_at hl 3 rfl) ?_
          refine lv_iload_n hx hb dX9_tally_51 rfl (lv_at hl 4 rfl) ?_
          refine lv_iload hx hb dX9_tally_52 (lv_at hl 5 rfl) ?_
          obtain ⟨ho, hk⟩ := hk
          refine r_calli Z (r_runV (As := [.int x1, .int x2, .int x3, .int x4]) (rest := []) C Z (m_X9_tallied l g h30 x0 x1 x2 x3 x4 _ hk) ho rfl (cwV 4 C.1.2.2.2.2 (gV tw_1215 tw_1217 tw_55 tw_66 tw_1218) rfl rfl rfl (by decide +kernel) ⟨Nat.le_of_ble_eq_true rfl, Nat.le_of_ble_eq_true rfl⟩) rfl hl.1 rfl (Nat.le_of_ble_eq_true rfl) dX9_tally_54 ⟨Nat.zero_le _, Nat.zero_le _⟩) (fun r54 h54 H locs hk Z => ?_)
          refine lv_goto (tgt := 61) hx hb dX9_tally_57 (by decide) ?_
          exact r_iret C Z hr hk dX9_tally_61
      · have hk := hk.2 q
        refine lv_iconst (v := (nI 1)) hx hb dX9_tally_36 (by decide) ?_
        refine lv_goto (tgt := 41) hx hb dX9_tally_37 (by decide) ?_
        refine lv_istore (lv' := [(5, .int (nI 1)), (0, .ref x0), (1, .int x1), (2, .int x2), (3, .int x3), (4, .int x4)]) hx hb dX9_tally_41 hl (by decide) rfl (fun ls hl => ?_)
        refine lv_iload hx hb dX9_tally_43 (lv_at hl 0 rfl) ?_
        refine lv_if_eq (tgt := 60) hx hb dX9_tally_45 (by decide) (fun q => ?_) (fun q => ?_)
        · have hk := hk.1 q
          refine lv_iconst (v := (-1 : Int32)) hx hb dX9_tally_60 (by decide) ?_
          exact r_iret C Z hr hk dX9_tally_61
        · have hk := hk.2 q
          refine lv_aload_n hx hb dX9_tally_48 rfl (lv_at hl 1 rfl) ?_
          refine lv_iload_n hx hb dX9_tally_49 rfl (lv_at hl 2 rfl) ?_
          refine lv_iload_n hx hb dX9_tally_50 rfl (lv_at hl 3 rfl) ?_
          refine lv_iload_n hx hb dX9_tally_51 rfl (lv_at hl 4 rfl) ?_
          refine lv_iload hx hb dX9_tally_52 (lv_at hl 5 rfl) ?_
          obtain ⟨ho, hk⟩ := hk
          refine r_calli Z (r_runV (As := [.int x1, .int x2, .int x3, .int x4]) (rest := []) C Z (m_X9_tallied l g h30 x0 x1 x2 x3 x4 _ hk) ho rfl (cwV 4 C.1.2.2.2.2 (gV tw_1215 tw_1217 tw_55 tw_66 tw_1218) rfl rfl rfl (by decide +kernel) ⟨Nat.le_of_ble_eq_true rfl, Nat.le_of_ble_eq_true rfl⟩) rfl hl.1 rfl (Nat.le_of_ble_eq_true rfl) dX9_tally_54 ⟨Nat.zero_le _, Nat.zero_le _⟩) (fun r54 h54 H locs hk Z => ?_)
          refine lv_goto (tgt := 61) hx hb dX9_tally_57 (by decide) ?_
          exact r_iret C Z hr hk dX9_tally_61
abbrev rmX9_changed : Room := ({ frames := 2, cells := 0, slots := 0, locals := 47 } : Room)
abbrev wzX9_changed : List Cond := WS yX9_changed cX9_changed 7 (some .int)
set_option maxRecDepth 100000 in
set_option maxHeartbeats 4000000 in
theorem w_X9_changed_109 {p : Program} {l : Launch} {e : Env} {s : State} {m : MethodId} {args : Array Value} {below : List Frame} {meth : Method} {c : Code} {g : Gt} {h0 : Hp} (C : Cx g (dm h0) RX9 cX9_changed 7 p s m args meth c) (hr : meth.sig.returnType = (some .int)) {Post : Int32 → Hp → Prop} (x0 : Nat) (x1 : Int32) (x2 : Int32) (x3 : Int32) (x4 : Int32) (x5 : Int32) (x6 : Int32)  {k30 : Int32 → Int32 → Hp → Prop} (hk30 : ∀ (x4 : Int32) (x5 : Int32) (h : Hp) (H : Heap) (locs : List Loc) (ls : Array Slot), lv_has ls 7 [(0, .ref x0), (1, .int x1), (2, .int x2), (3, .int x3), (4, .int x4), (5, .int x5)] → St g (dm h0) s h H locs → k30 x4 x5 h → W p l e rmX9_changed s m args below meth c H locs 0 0 (MQ below (Qi g h0 Post) args s 0 0 (dm h0)) (F0 m 30 ls [])) : ∀ (h : Hp) (H : Heap) (locs : List Loc) (ls : Array Slot), lv_has ls 7 [(0, .ref x0), (1, .int x1), (2, .int x2), (3, .int x3), (4, .int x4), (5, .int x5), (6, .int x6)] → St g (dm h0) s h H locs → wp_X9_changed_109 Post k30 x0 x1 x2 x3 x4 x5 x6 h → W p l e rmX9_changed s m args below meth c H locs 0 0 (MQ below (Qi g h0 Post) args s 0 0 (dm h0)) (F0 m 109 ls []) := by
  have hx := C.1.1
  have hb := C.1.2.1
  have hml := C.1.2.2.1
  have hown := C.1.2.2.2.1
  have hts := C.1.2.2.2.2
  intro h H locs ls hl Z hk
  unfold wp_X9_changed_109 at hk
  refine lv_iload hx hb dX9_changed_109 (lv_at hl 4 rfl) ?_
  refine lv_iload hx hb dX9_changed_111 (lv_at hl 6 rfl) ?_
  refine lv_if_eq (tgt := 120) hx hb dX9_changed_113 (by decide) (fun q => ?_) (fun q => ?_)
  · have hk := hk.1 q
    refine lv_iconst (v := (nI 0)) hx hb dX9_changed_120 (by decide) ?_
    refine lv_iadd hx hb dX9_changed_121 ?_
    refine lv_topi (fun y122 ey122 => ?_)
    have hk := hk y122 ey122
    refine lv_istore (lv' := [(4, .int y122), (0, .ref x0), (1, .int x1), (2, .int x2), (3, .int x3), (5, .int x5), (6, .int x6)]) hx hb dX9_changed_122 hl (by decide) rfl (fun ls hl => ?_)
    obtain ⟨y124, ey124⟩ : ∃ y : Int32, y = x5 + (nI 1) := ⟨_, rfl⟩
    have hk := hk y124 ey124
    refine lv_iinc (v := y124) (lv' := [(5, .int y124), (4, .int y122), (0, .ref x0), (1, .int x1), (2, .int x2), (3, .int x3), (6, .int x6)]) hx hb dX9_changed_124 hl (k := 5) rfl (by rw [ey124]; rfl) (by decide) rfl (fun ls hl => ?_)
    refine lv_goto (tgt := 30) hx hb dX9_changed_127 (by decide) ?_
    exact hk30 y122 y124 h _ _ _ (lv_sub hl [2, 3, 4, 5, 1, 0] rfl) Z hk
  · have hk := hk.2 q
    refine lv_iconst (v := (nI 1)) hx hb dX9_changed_116 (by decide) ?_
    refine lv_goto (tgt := 121) hx hb dX9_changed_117 (by decide) ?_
    refine lv_iadd hx hb dX9_changed_121 ?_
    refine lv_topi (fun y122 ey122 => ?_)
    have hk := hk y122 ey122
    refine lv_istore (lv' := [(4, .int y122), (0, .ref x0), (1, .int x1), (2, .int x2), (3, .int x3), (5, .int x5), (6, .int x6)]) hx hb dX9_changed_122 hl (by decide) rfl (fun ls hl => ?_)
    obtain ⟨y124, ey124⟩ : ∃ y : Int32, y = x5 + (nI 1) := ⟨_, rfl⟩
    have hk := hk y124 ey124
    refine lv_iinc (v := y124) (lv' := [(5, .int y124), (4, .int y122), (0, .ref x0), (1, .int x1), (2, .int x2), (3, .int x3), (6, .int x6)]) hx hb dX9_changed_124 hl (k := 5) rfl (by rw [ey124]; rfl) (by decide) rfl (fun ls hl => ?_)
    refine lv_goto (tgt := 30) hx hb dX9_changed_127 (by decide) ?_
    exact hk30 y122 y124 h _ _ _ (lv_sub hl [2, 3, 4, 5, 1, 0] rfl) Z hk
set_option maxRecDepth 100000 in
set_option maxHeartbeats 4000000 in
theorem w_X9_changed_30 {p : Program} {l : Launch} {e : Env} {s : State} {m : MethodId} {args : Array Value} {below : List Frame} {meth : Method} {c : Code} {g : Gt} {h0 : Hp} (C : Cx g (dm h0) RX9 cX9_changed 7 p s m args meth c) (hr : meth.sig.returnType = (some .int)) {Post : Int32 → Hp → Prop} (x0 : Nat) (x1 : Int32) (x2 : Int32) (x3 : Int32)   : ∀ (n : Nat) (x4 : Int32) (x5 : Int32) (h : Hp) (H : Heap) (locs : List Loc) (ls : Array Slot), lv_has ls 7 [(0, .ref x0), (1, .int x1), (2, .int x2), (3, .int x3), (4, .int x4), (5, .int x5)] → St g (dm h0) s h H locs → wp_X9_changed_30 Post x0 x1 x2 x3 n x4 x5 h → W p l e rmX9_changed s m args below meth c H locs 0 0 (MQ below (Qi g h0 Post) args s 0 0 (dm h0)) (F0 m 30 ls []) := by
  have hx := C.1.1
  have hb := C.1.2.1
  have hml := C.1.2.2.1
  have hown := C.1.2.2.2.1
  have hts := C.1.2.2.2.2
  intro n
  induction n with
  | zero => intro x4 x5 h H locs ls hl Z hk; exact (show False from hk).elim
  | succ n ih =>
    intro x4 x5 h H locs ls hl Z hk
    unfold wp_X9_changed_30 at hk
    refine lv_iload_n hx hb dX9_changed_30 rfl (lv_at hl 1 rfl) ?_
    refine lv_if_le (tgt := 130) hx hb dX9_changed_31 (by decide) (fun q => ?_) (fun q => ?_)
    · have hk := hk.1 q
      refine lv_bipush (v := (-9 : Int32)) hx hb dX9_changed_130 (by decide) ?_
      exact r_iret C Z hr hk dX9_changed_132
    · have hk := hk.2 q
      refine lv_iload hx hb dX9_changed_34 (lv_at hl 5 rfl) ?_
      refine lv_i2l (v := (Int32.toInt64 x5)) hx hb dX9_changed_36 rfl ?_
      refine lv_aload_n hx hb dX9_changed_37 rfl (lv_at hl 0 rfl) ?_
      obtain ⟨v38, hv, hk⟩ := hk
      refine r_get (ci := 9) (k := 0) (T := TX9) (N := 17) C Z hv ku_9 rfl (by decide) tw_857 dX9_changed_38 ?_
      refine lv_iload_n hx hb dX9_changed_41 rfl (lv_at hl 1 rfl) ?_
      refine lv_iconst (v := (nI 1)) hx hb dX9_changed_42 (by decide) ?_
      refine lv_isub hx hb dX9_changed_43 ?_
      refine lv_iconst (v := (nI 0)) hx hb dX9_changed_44 (by decide) ?_
      refine r_calli Z (r_runS (As := [.int (x1 - (nI 1)), .int (nI 0)]) (rest := [.ref v38, .long (Int32.toInt64 x5)]) C Z (m_X9_v l g h (x1 - (nI 1)) (nI 0) _ hk) (va_cwS 2 C.1.2.2.2.2 (gS tw_976 tw_977 tw_66 tw_978) rfl rfl rfl (by decide +kernel) ⟨Nat.le_of_ble_eq_true rfl, Nat.le_of_ble_eq_true rfl⟩) rfl hl.1 rfl (Nat.le_of_ble_eq_true rfl) dX9_changed_45 ⟨Nat.zero_le _, Nat.zero_le _⟩) (fun r45 h45 H locs hk Z => ?_)
      obtain ⟨v48, hv, hk⟩ := hk
      refine r_lald C Z hv dX9_changed_48 ?_
      refine W.lcmp hx hb dX9_changed_49 ?_
      refine lv_if_ge (tgt := 130) hx hb dX9_changed_50 (by decide) (fun q => ?_) (fun q => ?_)
      · have hk := hk.1 ((lc_ge (Int32.toInt64 x5) v48).mp q)
        refine lv_bipush (v := (-9 : Int32)) hx hb dX9_changed_130 (by decide) ?_
        exact r_iret C Z hr hk dX9_changed_132
      · have hk := hk.2 (mt (lc_ge (Int32.toInt64 x5) v48).mpr q)
        refine lv_aload_n hx hb dX9_changed_53 rfl (lv_at hl 0 rfl) ?_
        obtain ⟨v54, hv, hk⟩ := hk
        refine r_get (ci := 9) (k := 0) (T := TX9) (N := 17) C Z hv ku_9 rfl (by decide) tw_857 dX9_changed_54 ?_
        refine lv_iload_n hx hb dX9_changed_57 rfl (lv_at hl 1 rfl) ?_
        refine lv_iconst (v := (nI 1)) hx hb dX9_changed_58 (by decide) ?_
        refine lv_isub hx hb dX9_changed_59 ?_
        refine lv_iconst (v := (nI 1)) hx hb dX9_changed_60 (by decide) ?_
        refine lv_iload hx hb dX9_changed_61 (lv_at hl 5 rfl) ?_
        refine lv_iadd hx hb dX9_changed_63 ?_
        refine r_calli Z (r_runS (As := [.int (x1 - (nI 1)), .int ((nI 1) + x5)]) (rest := [.ref v54]) C Z (m_X9_v l g h45 (x1 - (nI 1)) ((nI 1) + x5) _ hk) (va_cwS 2 C.1.2.2.2.2 (gS tw_976 tw_977 tw_66 tw_978) rfl rfl rfl (by decide +kernel) ⟨Nat.le_of_ble_eq_true rfl, Nat.le_of_ble_eq_true rfl⟩) rfl hl.1 rfl (Nat.le_of_ble_eq_true rfl) dX9_changed_64 ⟨Nat.zero_le _, Nat.zero_le _⟩) (fun r64 h64 H locs hk Z => ?_)
        obtain ⟨v67, hv, hk⟩ := hk
        refine r_lald C Z hv dX9_changed_67 ?_
        refine lv_aload_n hx hb dX9_changed_68 rfl (lv_at hl 0 rfl) ?_
        obtain ⟨v69, hv, hk⟩ := hk
        refine r_get (ci := 9) (k := 0) (T := TX9) (N := 17) C Z hv ku_9 rfl (by decide) tw_857 dX9_changed_69 ?_
        refine lv_iload_n hx hb dX9_changed_72 rfl (lv_at hl 1 rfl) ?_
        refine lv_iconst (v := (nI 1)) hx hb dX9_changed_73 (by decide) ?_
        refine lv_iload hx hb dX9_changed_74 (lv_at hl 5 rfl) ?_
        refine lv_iadd hx hb dX9_changed_76 ?_
        refine r_calli Z (r_runS (As := [.int x1, .int ((nI 1) + x5)]) (rest := [.ref v69, .long v67]) C Z (m_X9_v l g h64 x1 ((nI 1) + x5) _ hk) (va_cwS 2 C.1.2.2.2.2 (gS tw_976 tw_977 tw_66 tw_978) rfl rfl rfl (by decide +kernel) ⟨Nat.le_of_ble_eq_true rfl, Nat.le_of_ble_eq_true rfl⟩) rfl hl.1 rfl (Nat.le_of_ble_eq_true rfl) dX9_changed_77 ⟨Nat.zero_le _, Nat.zero_le _⟩) (fun r77 h77 H locs hk Z => ?_)
        obtain ⟨v80, hv, hk⟩ := hk
        refine r_lald C Z hv dX9_changed_80 ?_
        refine r_calli Z (r_runS (As := [.long v67, .long v80]) (rest := []) C Z (m_X9_differences l g h77 v67 v80 _ hk) (va_cwS 2 C.1.2.2.2.2 (gS tw_1040 tw_1041 tw_66 tw_1042) rfl rfl rfl (by decide +kernel) ⟨Nat.le_of_ble_eq_true rfl, Nat.le_of_ble_eq_true rfl⟩) rfl hl.1 rfl (Nat.le_of_ble_eq_true rfl) dX9_changed_81 ⟨Nat.zero_le _, Nat.zero_le _⟩) (fun r81 h81 H locs hk Z => ?_)
        refine lv_istore (lv' := [(6, .int r81), (0, .ref x0), (1, .int x1), (2, .int x2), (3, .int x3), (4, .int x4), (5, .int x5)]) hx hb dX9_changed_84 hl (by decide) rfl (fun ls hl => ?_)
        refine lv_iload hx hb dX9_changed_86 (lv_at hl 0 rfl) ?_
        refine lv_if_eq (tgt := 109) hx hb dX9_changed_88 (by decide) (fun q => ?_) (fun q => ?_)
        · have hk := hk.1 q
          exact w_X9_changed_109 C hr x0 x1 x2 x3 x4 x5 r81 ih h81 _ _ _ (lv_sub hl [1, 2, 3, 4, 5, 6, 0] rfl) Z hk
        · have hk := hk.2 q
          refine lv_iload hx hb dX9_changed_91 (lv_at hl 5 rfl) ?_
          refine lv_iload_n hx hb dX9_changed_93 rfl (lv_at hl 3 rfl) ?_
          refine lv_icmp_ne (tgt := 109) hx hb dX9_changed_94 (by decide) (fun q => ?_) (fun q => ?_)
          · have hk := hk.1 q
            exact w_X9_changed_109 C hr x0 x1 x2 x3 x4 x5 r81 ih h81 _ _ _ (lv_sub hl [1, 2, 3, 4, 5, 6, 0] rfl) Z hk
          · have hk := hk.2 q
            refine lv_iload_n hx hb dX9_changed_97 rfl (lv_at hl 4 rfl) ?_
            refine lv_if_ne (tgt := 106) hx hb dX9_changed_98 (by decide) (fun q => ?_) (fun q => ?_)
            · have hk := hk.1 q
              refine lv_iload hx hb dX9_changed_106 (lv_at hl 0 rfl) ?_
              exact r_iret C Z hr hk dX9_changed_108
            · have hk := hk.2 q
              refine lv_iload hx hb dX9_changed_101 (lv_at hl 6 rfl) ?_
              refine lv_goto (tgt := 108) hx hb dX9_changed_103 (by decide) ?_
              exact r_iret C Z hr hk dX9_changed_108
set_option maxRecDepth 100000 in
set_option maxHeartbeats 4000000 in
theorem m_X9_changed (l : Launch) (g : Gt) (h : Hp) (x0 : Nat) (x1 : Int32) (x2 : Int32) (x3 : Int32) (Post : Int32 → Hp → Prop) (hk : wp_X9_changed x0 x1 x2 x3 Post h) : Met l yX9_changed wzX9_changed rmX9_changed (Pg g h [.ref x0, .int x1, .int x2, .int x3]) (Qi g h Post) 0 0 (dm h) := by
  refine Met_of (cc := cX9_changed) (maxL := 7) (ret := (some .int)) (by decide) (Nat.le_of_ble_eq_true rfl) (fun p e s m below meth c ls C hr hnm hl Z => ?_)
  have hx := C.1.1
  have hb := C.1.2.1
  have hml := C.1.2.2.1
  have hown := C.1.2.2.2.1
  have hts := C.1.2.2.2.2
  have hl : lv_has ls 7 [(0, .ref x0), (1, .int x1), (2, .int x2), (3, .int x3)] := hl
  unfold wp_X9_changed at hk
  generalize s.heap = H at Z ⊢
  generalize ([] : List Loc) = locs at Z ⊢
  refine lv_aload_n hx hb dX9_changed_0 rfl (lv_at hl 0 rfl) ?_
  refine lv_iload_n hx hb dX9_changed_1 rfl (lv_at hl 1 rfl) ?_
  obtain ⟨ho, hk⟩ := hk
  refine r_calli Z (r_runV (As := [.int x1]) (rest := []) C Z (m_X9_isVersion l g h x0 x1 _ hk) ho rfl (cwV 1 C.1.2.2.2.2 (gV tw_1203 tw_1205 tw_53 tw_66 tw_1206) rfl rfl rfl (by decide +kernel) ⟨Nat.le_of_ble_eq_true rfl, Nat.le_of_ble_eq_true rfl⟩) rfl hl.1 rfl (Nat.le_of_ble_eq_true rfl) dX9_changed_2 ⟨Nat.zero_le _, Nat.zero_le _⟩) (fun r2 h2 H locs hk Z => ?_)
  refine lv_if_eq (tgt := 22) hx hb dX9_changed_5 (by decide) (fun q => ?_) (fun q => ?_)
  · have hk := hk.1 q
    refine lv_iconst (v := (-1 : Int32)) hx hb dX9_changed_22 (by decide) ?_
    exact r_iret C Z hr hk dX9_changed_23
  · have hk := hk.2 q
    refine lv_iload_n hx hb dX9_changed_8 rfl (lv_at hl 2 rfl) ?_
    refine lv_if_lt (tgt := 22) hx hb dX9_changed_9 (by decide) (fun q => ?_) (fun q => ?_)
    · have hk := hk.1 q
      refine lv_iconst (v := (-1 : Int32)) hx hb dX9_changed_22 (by decide) ?_
      exact r_iret C Z hr hk dX9_changed_23
    · have hk := hk.2 q
      refine lv_iload_n hx hb dX9_changed_12 rfl (lv_at hl 3 rfl) ?_
      refine lv_i2l (v := (Int32.toInt64 x3)) hx hb dX9_changed_13 rfl ?_
      refine lv_lconst (v := lN 0) hx hb dX9_changed_14 (by decide) ?_
      refine lv_lconst (v := lN 1) hx hb dX9_changed_15 (by decide) ?_
      refine r_calli Z (r_runS (As := [.long (Int32.toInt64 x3), .long (lN 0), .long (lN 1)]) (rest := []) C Z (m_X9_in l g h2 (Int32.toInt64 x3) (lN 0) (lN 1) _ hk) (va_cwS 3 C.1.2.2.2.2 (gS tw_922 tw_923 tw_66 tw_924) rfl rfl rfl (by decide +kernel) ⟨Nat.le_of_ble_eq_true rfl, Nat.le_of_ble_eq_true rfl⟩) rfl hl.1 rfl (Nat.le_of_ble_eq_true rfl) dX9_changed_16 ⟨Nat.zero_le _, Nat.zero_le _⟩) (fun r16 h16 H locs hk Z => ?_)
      refine lv_if_ne (tgt := 24) hx hb dX9_changed_19 (by decide) (fun q => ?_) (fun q => ?_)
      · have hk := hk.1 q
        refine lv_iconst (v := (nI 0)) hx hb dX9_changed_24 (by decide) ?_
        refine lv_istore (lv' := [(4, .int (nI 0)), (0, .ref x0), (1, .int x1), (2, .int x2), (3, .int x3)]) hx hb dX9_changed_25 hl (by decide) rfl (fun ls hl => ?_)
        refine lv_iconst (v := (nI 0)) hx hb dX9_changed_27 (by decide) ?_
        refine lv_istore (lv' := [(5, .int (nI 0)), (4, .int (nI 0)), (0, .ref x0), (1, .int x1), (2, .int x2), (3, .int x3)]) hx hb dX9_changed_28 hl (by decide) rfl (fun ls hl => ?_)
        obtain ⟨n1, hk⟩ := hk
        exact w_X9_changed_30 C hr x0 x1 x2 x3 n1 (nI 0) (nI 0) h16 _ _ _ (lv_sub hl [2, 3, 4, 5, 1, 0] rfl) Z hk
      · have hk := hk.2 q
        refine lv_iconst (v := (-1 : Int32)) hx hb dX9_changed_22 (by decide) ?_
        exact r_iret C Z hr hk dX9_changed_23
abbrev rmX9_leader : Room := ({ frames := 11, cells := 0, slots := 0, locals := 272 } : Room)
abbrev wzX9_leader : List Cond := WS yX9_leader cX9_leader 7 (some .int)
set_option maxRecDepth 100000 in
set_option maxHeartbeats 4000000 in
theorem w_X9_leader_101 {p : Program} {l : Launch} {e : Env} {s : State} {m : MethodId} {args : Array Value} {below : List Frame} {meth : Method} {c : Code} {g : Gt} {h0 : Hp} (C : Cx g (dm h0) RX9 cX9_leader 7 p s m args meth c) (hr : meth.sig.returnType = (some .int)) {Post : Int32 → Hp → Prop} (x0 : Nat) (x1 : Int32) (x2 : Int32) (x3 : Int32) (x4 : Int32) (x5 : Int32) (s0 : Int32) {k76 : Int32 → Int32 → Hp → Prop} (hk76 : ∀ (x4 : Int32) (x5 : Int32) (h : Hp) (H : Heap) (locs : List Loc) (ls : Array Slot), lv_has ls 7 [(0, .ref x0), (1, .int x1), (2, .int x2), (3, .int x3), (4, .int x4), (5, .int x5)] → St g (dm h0) s h H locs → k76 x4 x5 h → W p l e rmX9_leader s m args below meth c H locs 0 0 (MQ below (Qi g h0 Post) args s 0 0 (dm h0)) (F0 m 76 ls [])) : ∀ (h : Hp) (H : Heap) (locs : List Loc) (ls : Array Slot), lv_has ls 7 [(0, .ref x0), (1, .int x1), (2, .int x2), (3, .int x3), (4, .int x4), (5, .int x5)] → St g (dm h0) s h H locs → wp_X9_leader_101 Post k76 x0 x1 x2 x3 x4 x5 s0 h → W p l e rmX9_leader s m args below meth c H locs 0 0 (MQ below (Qi g h0 Post) args s 0 0 (dm h0)) (F0 m 101 ls [.int s0]) := by
  have hx := C.1.1
  have hb := C.1.2.1
  have hml := C.1.2.2.1
  have hown := C.1.2.2.2.1
  have hts := C.1.2.2.2.2
  intro h H locs ls hl Z hk
  unfold wp_X9_leader_101 at hk
  refine lv_istore (lv' := [(6, .int s0), (0, .ref x0), (1, .int x1), (2, .int x2), (3, .int x3), (4, .int x4), (5, .int x5)]) hx hb dX9_leader_101 hl (by decide) rfl (fun ls hl => ?_)
  refine lv_iload hx hb dX9_leader_103 (lv_at hl 0 rfl) ?_
  refine lv_iload hx hb dX9_leader_105 (lv_at hl 5 rfl) ?_
  refine lv_icmp_le (tgt := 115) hx hb dX9_leader_107 (by decide) (fun q => ?_) (fun q => ?_)
  · have hk := hk.1 q
    refine lv_iload hx hb dX9_leader_115 (lv_at hl 5 rfl) ?_
    refine lv_istore (lv' := [(4, .int x4), (6, .int s0), (0, .ref x0), (1, .int x1), (2, .int x2), (3, .int x3), (5, .int x5)]) hx hb dX9_leader_117 hl (by decide) rfl (fun ls hl => ?_)
    obtain ⟨y119, ey119⟩ : ∃ y : Int32, y = x5 + (nI 1) := ⟨_, rfl⟩
    have hk := hk y119 ey119
    refine lv_iinc (v := y119) (lv' := [(5, .int y119), (4, .int x4), (6, .int s0), (0, .ref x0), (1, .int x1), (2, .int x2), (3, .int x3)]) hx hb dX9_leader_119 hl (k := 6) rfl (by rw [ey119]; rfl) (by decide) rfl (fun ls hl => ?_)
    refine lv_goto (tgt := 76) hx hb dX9_leader_122 (by decide) ?_
    exact hk76 x4 y119 h _ _ _ (lv_sub hl [3, 4, 5, 6, 1, 0] rfl) Z hk
  · have hk := hk.2 q
    refine lv_iload hx hb dX9_leader_110 (lv_at hl 0 rfl) ?_
    refine lv_goto (tgt := 117) hx hb dX9_leader_112 (by decide) ?_
    refine lv_istore (lv' := [(4, .int s0), (6, .int s0), (0, .ref x0), (1, .int x1), (2, .int x2), (3, .int x3), (5, .int x5)]) hx hb dX9_leader_117 hl (by decide) rfl (fun ls hl => ?_)
    obtain ⟨y119, ey119⟩ : ∃ y : Int32, y = x5 + (nI 1) := ⟨_, rfl⟩
    have hk := hk y119 ey119
    refine lv_iinc (v := y119) (lv' := [(5, .int y119), (4, .int s0), (6, .int s0), (0, .ref x0), (1, .int x1), (2, .int x2), (3, .int x3)]) hx hb dX9_leader_119 hl (k := 6) rfl (by rw [ey119]; rfl) (by decide) rfl (fun ls hl => ?_)
    refine lv_goto (tgt := 76) hx hb dX9_leader_122 (by decide) ?_
    exact hk76 s0 y119 h _ _ _ (lv_sub hl [3, 4, 5, 6, 1, 0] rfl) Z hk
set_option maxRecDepth 100000 in
set_option maxHeartbeats 4000000 in
theorem w_X9_leader_76 {p : Program} {l : Launch} {e : Env} {s : State} {m : MethodId} {args : Array Value} {below : List Frame} {meth : Method} {c : Code} {g : Gt} {h0 : Hp} (C : Cx g (dm h0) RX9 cX9_leader 7 p s m args meth c) (hr : meth.sig.returnType = (some .int)) {Post : Int32 → Hp → Prop} (x0 : Nat) (x1 : Int32) (x2 : Int32) (x3 : Int32)   : ∀ (n : Nat) (x4 : Int32) (x5 : Int32) (h : Hp) (H : Heap) (locs : List Loc) (ls : Array Slot), lv_has ls 7 [(0, .ref x0), (1, .int x1), (2, .int x2), (3, .int x3), (4, .int x4), (5, .int x5)] → St g (dm h0) s h H locs → wp_X9_leader_76 Post x0 x1 x2 x3 n x4 x5 h → W p l e rmX9_leader s m args below meth c H locs 0 0 (MQ below (Qi g h0 Post) args s 0 0 (dm h0)) (F0 m 76 ls []) := by
  have hx := C.1.1
  have hb := C.1.2.1
  have hml := C.1.2.2.1
  have hown := C.1.2.2.2.1
  have hts := C.1.2.2.2.2
  intro n
  induction n with
  | zero => intro x4 x5 h H locs ls hl Z hk; exact (show False from hk).elim
  | succ n ih =>
    intro x4 x5 h H locs ls hl Z hk
    unfold wp_X9_leader_76 at hk
    refine lv_iload hx hb dX9_leader_76 (lv_at hl 5 rfl) ?_
    refine lv_iconst (v := (nI 3)) hx hb dX9_leader_78 (by decide) ?_
    refine lv_icmp_ge (tgt := 125) hx hb dX9_leader_79 (by decide) (fun q => ?_) (fun q => ?_)
    · have hk := hk.1 q
      refine lv_aload_n hx hb dX9_leader_125 rfl (lv_at hl 0 rfl) ?_
      refine lv_iload_n hx hb dX9_leader_126 rfl (lv_at hl 1 rfl) ?_
      refine lv_iload_n hx hb dX9_leader_127 rfl (lv_at hl 3 rfl) ?_
      refine lv_iconst (v := (-1 : Int32)) hx hb dX9_leader_128 (by decide) ?_
      refine lv_iconst (v := (-1 : Int32)) hx hb dX9_leader_129 (by decide) ?_
      obtain ⟨ho, hk⟩ := hk
      refine r_calli Z (r_runV (As := [.int x1, .int x3, .int (-1 : Int32), .int (-1 : Int32)]) (rest := []) C Z (m_X9_tallied l g h x0 x1 x3 (-1 : Int32) (-1 : Int32) _ hk) ho rfl (cwV 4 C.1.2.2.2.2 (gV tw_1215 tw_1217 tw_55 tw_66 tw_1218) rfl rfl rfl (by decide +kernel) ⟨Nat.le_of_ble_eq_true rfl, Nat.le_of_ble_eq_true rfl⟩) rfl hl.1 rfl (Nat.le_of_ble_eq_true rfl) dX9_leader_130 ⟨Nat.zero_le _, Nat.zero_le _⟩) (fun r130 h130 H locs hk Z => ?_)
      refine lv_iload hx hb dX9_leader_133 (lv_at hl 4 rfl) ?_
      refine lv_isub hx hb dX9_leader_135 ?_
      refine lv_topi (fun y136 ey136 => ?_)
      have hk := hk y136 ey136
      refine lv_istore (lv' := [(5, .int y136), (0, .ref x0), (1, .int x1), (2, .int x2), (3, .int x3), (4, .int x4)]) hx hb dX9_leader_136 hl (by decide) rfl (fun ls hl => ?_)
      refine lv_aload_n hx hb dX9_leader_138 rfl (lv_at hl 1 rfl) ?_
      refine lv_iload_n hx hb dX9_leader_139 rfl (lv_at hl 2 rfl) ?_
      refine lv_iconst (v := (nI 5)) hx hb dX9_leader_140 (by decide) ?_
      refine lv_iconst (v := (-1 : Int32)) hx hb dX9_leader_141 (by decide) ?_
      refine lv_iconst (v := (-1 : Int32)) hx hb dX9_leader_142 (by decide) ?_
      obtain ⟨ho, hk⟩ := hk
      refine r_calli Z (r_runV (As := [.int x1, .int (nI 5), .int (-1 : Int32), .int (-1 : Int32)]) (rest := []) C Z (m_X9_tallied l g h130 x0 x1 (nI 5) (-1 : Int32) (-1 : Int32) _ hk) ho rfl (cwV 4 C.1.2.2.2.2 (gV tw_1215 tw_1217 tw_55 tw_66 tw_1218) rfl rfl rfl (by decide +kernel) ⟨Nat.le_of_ble_eq_true rfl, Nat.le_of_ble_eq_true rfl⟩) rfl hl.1 rfl (Nat.le_of_ble_eq_true rfl) dX9_leader_143 ⟨Nat.zero_le _, Nat.zero_le _⟩) (fun r143 h143 H locs hk Z => ?_)
      refine lv_istore (lv' := [(6, .int r143), (5, .int y136), (0, .ref x0), (1, .int x1), (2, .int x2), (3, .int x3), (4, .int x4)]) hx hb dX9_leader_146 hl (by decide) rfl (fun ls hl => ?_)
      refine lv_iload_n hx hb dX9_leader_148 rfl (lv_at hl 4 rfl) ?_
      refine lv_if_ne (tgt := 156) hx hb dX9_leader_149 (by decide) (fun q => ?_) (fun q => ?_)
      · have hk := hk.1 q
        refine lv_iload_n hx hb dX9_leader_156 rfl (lv_at hl 4 rfl) ?_
        refine lv_iconst (v := (nI 1)) hx hb dX9_leader_157 (by decide) ?_
        refine lv_icmp_ne (tgt := 166) hx hb dX9_leader_158 (by decide) (fun q => ?_) (fun q => ?_)
        · have hk := hk.1 q
          refine lv_iload_n hx hb dX9_leader_166 rfl (lv_at hl 4 rfl) ?_
          refine lv_iconst (v := (nI 2)) hx hb dX9_leader_167 (by decide) ?_
          refine lv_icmp_ne (tgt := 176) hx hb dX9_leader_168 (by decide) (fun q => ?_) (fun q => ?_)
          · have hk := hk.1 q
            refine lv_iload hx hb dX9_leader_176 (lv_at hl 1 rfl) ?_
            refine lv_iload hx hb dX9_leader_178 (lv_at hl 0 rfl) ?_
            refine lv_icmp_le (tgt := 187) hx hb dX9_leader_180 (by decide) (fun q => ?_) (fun q => ?_)
            · have hk := hk.1 q
              refine lv_iconst (v := (nI 0)) hx hb dX9_leader_187 (by decide) ?_
              exact r_iret C Z hr hk dX9_leader_188
            · have hk := hk.2 q
              refine lv_iconst (v := (nI 1)) hx hb dX9_leader_183 (by decide) ?_
              refine lv_goto (tgt := 188) hx hb dX9_leader_184 (by decide) ?_
              exact r_iret C Z hr hk dX9_leader_188
          · have hk := hk.2 q
            refine lv_iload hx hb dX9_leader_171 (lv_at hl 0 rfl) ?_
            refine lv_goto (tgt := 188) hx hb dX9_leader_173 (by decide) ?_
            exact r_iret C Z hr hk dX9_leader_188
        · have hk := hk.2 q
          refine lv_iload hx hb dX9_leader_161 (lv_at hl 1 rfl) ?_
          refine lv_goto (tgt := 188) hx hb dX9_leader_163 (by decide) ?_
          exact r_iret C Z hr hk dX9_leader_188
      · have hk := hk.2 q
        refine lv_iload_n hx hb dX9_leader_152 rfl (lv_at hl 5 rfl) ?_
        refine lv_goto (tgt := 188) hx hb dX9_leader_153 (by decide) ?_
        exact r_iret C Z hr hk dX9_leader_188
    · have hk := hk.2 q
      refine lv_iload hx hb dX9_leader_82 (lv_at hl 5 rfl) ?_
      refine lv_iload_n hx hb dX9_leader_84 rfl (lv_at hl 3 rfl) ?_
      refine lv_icmp_ne (tgt := 92) hx hb dX9_leader_85 (by decide) (fun q => ?_) (fun q => ?_)
      · have hk := hk.1 q
        refine lv_aload_n hx hb dX9_leader_92 rfl (lv_at hl 0 rfl) ?_
        refine lv_iload_n hx hb dX9_leader_93 rfl (lv_at hl 1 rfl) ?_
        refine lv_iload hx hb dX9_leader_94 (lv_at hl 5 rfl) ?_
        refine lv_iconst (v := (-1 : Int32)) hx hb dX9_leader_96 (by decide) ?_
        refine lv_iconst (v := (-1 : Int32)) hx hb dX9_leader_97 (by decide) ?_
        obtain ⟨ho, hk⟩ := hk
        refine r_calli Z (r_runV (As := [.int x1, .int x5, .int (-1 : Int32), .int (-1 : Int32)]) (rest := []) C Z (m_X9_tallied l g h x0 x1 x5 (-1 : Int32) (-1 : Int32) _ hk) ho rfl (cwV 4 C.1.2.2.2.2 (gV tw_1215 tw_1217 tw_55 tw_66 tw_1218) rfl rfl rfl (by decide +kernel) ⟨Nat.le_of_ble_eq_true rfl, Nat.le_of_ble_eq_true rfl⟩) rfl hl.1 rfl (Nat.le_of_ble_eq_true rfl) dX9_leader_98 ⟨Nat.zero_le _, Nat.zero_le _⟩) (fun r98 h98 H locs hk Z => ?_)
        exact w_X9_leader_101 C hr x0 x1 x2 x3 x4 x5 r98 ih h98 _ _ _ (lv_sub hl [0, 1, 2, 3, 4, 5] rfl) Z hk
      · have hk := hk.2 q
        refine lv_iconst (v := (nI 0)) hx hb dX9_leader_88 (by decide) ?_
        refine lv_goto (tgt := 101) hx hb dX9_leader_89 (by decide) ?_
        exact w_X9_leader_101 C hr x0 x1 x2 x3 x4 x5 (nI 0) ih h _ _ _ (lv_sub hl [0, 1, 2, 3, 4, 5] rfl) Z hk
set_option maxRecDepth 100000 in
set_option maxHeartbeats 4000000 in
theorem w_X9_leader_31 {p : Program} {l : Launch} {e : Env} {s : State} {m : MethodId} {args : Array Value} {below : List Frame} {meth : Method} {c : Code} {g : Gt} {h0 : Hp} (C : Cx g (dm h0) RX9 cX9_leader 7 p s m args meth c) (hr : meth.sig.returnType = (some .int)) {Post : Int32 → Hp → Prop} (x0 : Nat) (x1 : Int32) (x2 : Int32)   : ∀ (n : Nat) (x3 : Int32) (x4 : Int32) (h : Hp) (H : Heap) (locs : List Loc) (ls : Array Slot), lv_has ls 7 [(0, .ref x0), (1, .int x1), (2, .int x2), (3, .int x3), (4, .int x4)] → St g (dm h0) s h H locs → wp_X9_leader_31 Post x0 x1 x2 n x3 x4 h → W p l e rmX9_leader s m args below meth c H locs 0 0 (MQ below (Qi g h0 Post) args s 0 0 (dm h0)) (F0 m 31 ls []) := by
  have hx := C.1.1
  have hb := C.1.2.1
  have hml := C.1.2.2.1
  have hown := C.1.2.2.2.1
  have hts := C.1.2.2.2.2
  intro n
  induction n with
  | zero => intro x3 x4 h H locs ls hl Z hk; exact (show False from hk).elim
  | succ n ih =>
    intro x3 x4 h H locs ls hl Z hk
    unfold wp_X9_leader_31 at hk
    refine lv_iload hx hb dX9_leader_31 (lv_at hl 4 rfl) ?_
    refine lv_iconst (v := (nI 3)) hx hb dX9_leader_33 (by decide) ?_
    refine lv_icmp_ge (tgt := 70) hx hb dX9_leader_34 (by decide) (fun q => ?_) (fun q => ?_)
    · have hk := hk.1 q
      refine lv_iconst (v := (nI 0)) hx hb dX9_leader_70 (by decide) ?_
      refine lv_istore (lv' := [(4, .int (nI 0)), (0, .ref x0), (1, .int x1), (2, .int x2), (3, .int x3)]) hx hb dX9_leader_71 hl (by decide) rfl (fun ls hl => ?_)
      refine lv_iconst (v := (nI 0)) hx hb dX9_leader_73 (by decide) ?_
      refine lv_istore (lv' := [(5, .int (nI 0)), (4, .int (nI 0)), (0, .ref x0), (1, .int x1), (2, .int x2), (3, .int x3)]) hx hb dX9_leader_74 hl (by decide) rfl (fun ls hl => ?_)
      obtain ⟨n1, hk⟩ := hk
      exact w_X9_leader_76 C hr x0 x1 x2 x3 n1 (nI 0) (nI 0) h _ _ _ (lv_sub hl [2, 3, 4, 5, 1, 0] rfl) Z hk
    · have hk := hk.2 q
      refine lv_aload_n hx hb dX9_leader_37 rfl (lv_at hl 0 rfl) ?_
      refine lv_iload_n hx hb dX9_leader_38 rfl (lv_at hl 1 rfl) ?_
      refine lv_iload hx hb dX9_leader_39 (lv_at hl 4 rfl) ?_
      refine lv_iconst (v := (-1 : Int32)) hx hb dX9_leader_41 (by decide) ?_
      refine lv_iconst (v := (-1 : Int32)) hx hb dX9_leader_42 (by decide) ?_
      obtain ⟨ho, hk⟩ := hk
      refine r_calli Z (r_runV (As := [.int x1, .int x4, .int (-1 : Int32), .int (-1 : Int32)]) (rest := []) C Z (m_X9_tallied l g h x0 x1 x4 (-1 : Int32) (-1 : Int32) _ hk) ho rfl (cwV 4 C.1.2.2.2.2 (gV tw_1215 tw_1217 tw_55 tw_66 tw_1218) rfl rfl rfl (by decide +kernel) ⟨Nat.le_of_ble_eq_true rfl, Nat.le_of_ble_eq_true rfl⟩) rfl hl.1 rfl (Nat.le_of_ble_eq_true rfl) dX9_leader_43 ⟨Nat.zero_le _, Nat.zero_le _⟩) (fun r43 h43 H locs hk Z => ?_)
      refine lv_aload_n hx hb dX9_leader_46 rfl (lv_at hl 0 rfl) ?_
      refine lv_iload_n hx hb dX9_leader_47 rfl (lv_at hl 1 rfl) ?_
      refine lv_iload_n hx hb dX9_leader_48 rfl (lv_at hl 3 rfl) ?_
      refine lv_iconst (v := (-1 : Int32)) hx hb dX9_leader_49 (by decide) ?_
      refine lv_iconst (v := (-1 : Int32)) hx hb dX9_leader_50 (by decide) ?_
      obtain ⟨ho, hk⟩ := hk
      refine r_calli Z (r_runV (As := [.int x1, .int x3, .int (-1 : Int32), .int (-1 : Int32)]) (rest := [.int r43]) C Z (m_X9_tallied l g h43 x0 x1 x3 (-1 : Int32) (-1 : Int32) _ hk) ho rfl (cwV 4 C.1.2.2.2.2 (gV tw_1215 tw_1217 tw_55 tw_66 tw_1218) rfl rfl rfl (by decide +kernel) ⟨Nat.le_of_ble_eq_true rfl, Nat.le_of_ble_eq_true rfl⟩) rfl hl.1 rfl (Nat.le_of_ble_eq_true rfl) dX9_leader_51 ⟨Nat.zero_le _, Nat.zero_le _⟩) (fun r51 h51 H locs hk Z => ?_)
      refine lv_icmp_le (tgt := 62) hx hb dX9_leader_54 (by decide) (fun q => ?_) (fun q => ?_)
      · have hk := hk.1 q
        refine lv_iload_n hx hb dX9_leader_62 rfl (lv_at hl 3 rfl) ?_
        refine lv_istore_n (lv' := [(3, .int x3), (0, .ref x0), (1, .int x1), (2, .int x2), (4, .int x4)]) hx hb dX9_leader_63 rfl hl (by decide) rfl (fun ls hl => ?_)
        obtain ⟨y64, ey64⟩ : ∃ y : Int32, y = x4 + (nI 1) := ⟨_, rfl⟩
        have hk := hk y64 ey64
        refine lv_iinc (v := y64) (lv' := [(4, .int y64), (3, .int x3), (0, .ref x0), (1, .int x1), (2, .int x2)]) hx hb dX9_leader_64 hl (k := 4) rfl (by rw [ey64]; rfl) (by decide) rfl (fun ls hl => ?_)
        refine lv_goto (tgt := 31) hx hb dX9_leader_67 (by decide) ?_
        exact ih x3 y64 h51 _ _ _ (lv_sub hl [2, 3, 4, 1, 0] rfl) Z hk
      · have hk := hk.2 q
        refine lv_iload hx hb dX9_leader_57 (lv_at hl 4 rfl) ?_
        refine lv_goto (tgt := 63) hx hb dX9_leader_59 (by decide) ?_
        refine lv_istore_n (lv' := [(3, .int x4), (0, .ref x0), (1, .int x1), (2, .int x2), (4, .int x4)]) hx hb dX9_leader_63 rfl hl (by decide) rfl (fun ls hl => ?_)
        obtain ⟨y64, ey64⟩ : ∃ y : Int32, y = x4 + (nI 1) := ⟨_, rfl⟩
        have hk := hk y64 ey64
        refine lv_iinc (v := y64) (lv' := [(4, .int y64), (3, .int x4), (0, .ref x0), (1, .int x1), (2, .int x2)]) hx hb dX9_leader_64 hl (k := 4) rfl (by rw [ey64]; rfl) (by decide) rfl (fun ls hl => ?_)
        refine lv_goto (tgt := 31) hx hb dX9_leader_67 (by decide) ?_
        exact ih x4 y64 h51 _ _ _ (lv_sub hl [2, 3, 4, 1, 0] rfl) Z hk
set_option maxRecDepth 100000 in
set_option maxHeartbeats 4000000 in
theorem m_X9_leader (l : Launch) (g : Gt) (h : Hp) (x0 : Nat) (x1 : Int32) (x2 : Int32) (Post : Int32 → Hp → Prop) (hk : wp_X9_leader x0 x1 x2 Post h) : Met l yX9_leader wzX9_leader rmX9_leader (Pg g h [.ref x0, .int x1, .int x2]) (Qi g h Post) 0 0 (dm h) := by
  refine Met_of (cc := cX9_leader) (maxL := 7) (ret := (some .int)) (by decide) (Nat.le_of_ble_eq_true rfl) (fun p e s m below meth c ls C hr hnm hl Z => ?_)
  have hx := C.1.1
  have hb := C.1.2.1
  have hml := C.1.2.2.1
  have hown := C.1.2.2.2.1
  have hts := C.1.2.2.2.2
  have hl : lv_has ls 7 [(0, .ref x0), (1, .int x1), (2, .int x2)] := hl
  unfold wp_X9_leader at hk
  generalize s.heap = H at Z ⊢
  generalize ([] : List Loc) = locs at Z ⊢
  refine lv_iload_n hx hb dX9_leader_0 rfl (lv_at hl 1 rfl) ?_
  refine lv_i2l (v := (Int32.toInt64 x1)) hx hb dX9_leader_1 rfl ?_
  refine lv_lconst (v := lN 0) hx hb dX9_leader_2 (by decide) ?_
  refine lv_ldc2 (v := (lN 3)) hx hb hown (hts _ tw_1160) dX9_leader_3 ?_
  refine r_calli Z (r_runS (As := [.long (Int32.toInt64 x1), .long (lN 0), .long (lN 3)]) (rest := []) C Z (m_X9_in l g h (Int32.toInt64 x1) (lN 0) (lN 3) _ hk) (va_cwS 3 C.1.2.2.2.2 (gS tw_922 tw_923 tw_66 tw_924) rfl rfl rfl (by decide +kernel) ⟨Nat.le_of_ble_eq_true rfl, Nat.le_of_ble_eq_true rfl⟩) rfl hl.1 rfl (Nat.le_of_ble_eq_true rfl) dX9_leader_6 ⟨Nat.zero_le _, Nat.zero_le _⟩) (fun r6 h6 H locs hk Z => ?_)
  refine lv_if_eq (tgt := 24) hx hb dX9_leader_9 (by decide) (fun q => ?_) (fun q => ?_)
  · have hk := hk.1 q
    refine lv_iconst (v := (-1 : Int32)) hx hb dX9_leader_24 (by decide) ?_
    exact r_iret C Z hr hk dX9_leader_25
  · have hk := hk.2 q
    refine lv_iload_n hx hb dX9_leader_12 rfl (lv_at hl 2 rfl) ?_
    refine lv_i2l (v := (Int32.toInt64 x2)) hx hb dX9_leader_13 rfl ?_
    refine lv_lconst (v := lN 0) hx hb dX9_leader_14 (by decide) ?_
    refine lv_ldc2 (v := (lN 3)) hx hb hown (hts _ tw_1160) dX9_leader_15 ?_
    refine r_calli Z (r_runS (As := [.long (Int32.toInt64 x2), .long (lN 0), .long (lN 3)]) (rest := []) C Z (m_X9_in l g h6 (Int32.toInt64 x2) (lN 0) (lN 3) _ hk) (va_cwS 3 C.1.2.2.2.2 (gS tw_922 tw_923 tw_66 tw_924) rfl rfl rfl (by decide +kernel) ⟨Nat.le_of_ble_eq_true rfl, Nat.le_of_ble_eq_true rfl⟩) rfl hl.1 rfl (Nat.le_of_ble_eq_true rfl) dX9_leader_18 ⟨Nat.zero_le _, Nat.zero_le _⟩) (fun r18 h18 H locs hk Z => ?_)
    refine lv_if_ne (tgt := 26) hx hb dX9_leader_21 (by decide) (fun q => ?_) (fun q => ?_)
    · have hk := hk.1 q
      refine lv_iconst (v := (nI 0)) hx hb dX9_leader_26 (by decide) ?_
      refine lv_istore_n (lv' := [(3, .int (nI 0)), (0, .ref x0), (1, .int x1), (2, .int x2)]) hx hb dX9_leader_27 rfl hl (by decide) rfl (fun ls hl => ?_)
      refine lv_iconst (v := (nI 1)) hx hb dX9_leader_28 (by decide) ?_
      refine lv_istore (lv' := [(4, .int (nI 1)), (3, .int (nI 0)), (0, .ref x0), (1, .int x1), (2, .int x2)]) hx hb dX9_leader_29 hl (by decide) rfl (fun ls hl => ?_)
      obtain ⟨n1, hk⟩ := hk
      exact w_X9_leader_31 C hr x0 x1 x2 n1 (nI 0) (nI 1) h18 _ _ _ (lv_sub hl [2, 3, 4, 1, 0] rfl) Z hk
    · have hk := hk.2 q
      refine lv_iconst (v := (-1 : Int32)) hx hb dX9_leader_24 (by decide) ?_
      exact r_iret C Z hr hk dX9_leader_25
abbrev rmX9_size : Room := ({ frames := 0, cells := 0, slots := 0, locals := 0 } : Room)
abbrev wzX9_size : List Cond := WS yX9_size cX9_size 1 (some .int)
set_option maxRecDepth 100000 in
set_option maxHeartbeats 4000000 in
theorem m_X9_size (l : Launch) (g : Gt) (h : Hp) (x0 : Int32) (Post : Int32 → Hp → Prop) (hk : wp_X9_size x0 Post h) : Met l yX9_size wzX9_size rmX9_size (Pg g h [.int x0]) (Qi g h Post) 0 0 (dm h) := by
  refine Met_of (cc := cX9_size) (maxL := 1) (ret := (some .int)) (by decide) (Nat.le_of_ble_eq_true rfl) (fun p e s m below meth c ls C hr hnm hl Z => ?_)
  have hx := C.1.1
  have hb := C.1.2.1
  have hml := C.1.2.2.1
  have hown := C.1.2.2.2.1
  have hts := C.1.2.2.2.2
  have hl : lv_has ls 1 [(0, .int x0)] := hl
  unfold wp_X9_size at hk
  generalize s.heap = H at Z ⊢
  generalize ([] : List Loc) = locs at Z ⊢
  refine lv_iload_n hx hb dX9_size_0 rfl (lv_at hl 0 rfl) ?_
  refine lv_if_ge (tgt := 9) hx hb dX9_size_1 (by decide) (fun q => ?_) (fun q => ?_)
  · have hk := hk.1 q
    refine lv_iload_n hx hb dX9_size_9 rfl (lv_at hl 0 rfl) ?_
    exact r_iret C Z hr hk dX9_size_10
  · have hk := hk.2 q
    refine lv_iload_n hx hb dX9_size_4 rfl (lv_at hl 0 rfl) ?_
    refine lv_ineg hx hb dX9_size_5 ?_
    refine lv_goto (tgt := 10) hx hb dX9_size_6 (by decide) ?_
    exact r_iret C Z hr hk dX9_size_10
abbrev rmX9_error : Room := ({ frames := 6, cells := 0, slots := 0, locals := 147 } : Room)
abbrev wzX9_error : List Cond := WS yX9_error cX9_error 9 (some .int)
set_option maxRecDepth 100000 in
set_option maxHeartbeats 4000000 in
theorem w_X9_error_31 {p : Program} {l : Launch} {e : Env} {s : State} {m : MethodId} {args : Array Value} {below : List Frame} {meth : Method} {c : Code} {g : Gt} {h0 : Hp} (C : Cx g (dm h0) RX9 cX9_error 9 p s m args meth c) (hr : meth.sig.returnType = (some .int)) {Post : Int32 → Hp → Prop} (x0 : Nat) (x1 : Int32) (x2 : Int32)   : ∀ (n : Nat) (x3 : Int32) (x4 : Int32) (h : Hp) (H : Heap) (locs : List Loc) (ls : Array Slot), lv_has ls 9 [(0, .ref x0), (1, .int x1), (2, .int x2), (3, .int x3), (4, .int x4)] → St g (dm h0) s h H locs → wp_X9_error_31 Post x0 x1 x2 n x3 x4 h → W p l e rmX9_error s m args below meth c H locs 0 0 (MQ below (Qi g h0 Post) args s 0 0 (dm h0)) (F0 m 31 ls []) := by
  have hx := C.1.1
  have hb := C.1.2.1
  have hml := C.1.2.2.1
  have hown := C.1.2.2.2.1
  have hts := C.1.2.2.2.2
  intro n
  induction n with
  | zero => intro x3 x4 h H locs ls hl Z hk; exact (show False from hk).elim
  | succ n ih =>
    intro x3 x4 h H locs ls hl Z hk
    unfold wp_X9_error_31 at hk
    refine lv_iload hx hb dX9_error_31 (lv_at hl 4 rfl) ?_
    refine lv_i2l (v := (Int32.toInt64 x4)) hx hb dX9_error_33 rfl ?_
    refine lv_ldc2 (v := (lN 12)) hx hb hown (hts _ tw_1169) dX9_error_34 ?_
    refine lv_aload_n hx hb dX9_error_37 rfl (lv_at hl 0 rfl) ?_
    obtain ⟨v38, hv, hk⟩ := hk
    refine r_get (ci := 9) (k := 0) (T := TX9) (N := 17) C Z hv ku_9 rfl (by decide) tw_857 dX9_error_38 ?_
    refine lv_iconst (v := (nI 0)) hx hb dX9_error_41 (by decide) ?_
    obtain ⟨v42, hv, hk⟩ := hk
    refine r_lald C Z hv dX9_error_42 ?_
    refine lv_lmul hx hb dX9_error_43 ?_
    refine W.lcmp hx hb dX9_error_44 ?_
    refine lv_if_ge (tgt := 176) hx hb dX9_error_45 (by decide) (fun q => ?_) (fun q => ?_)
    · have hk := hk.1 ((lc_ge (Int32.toInt64 x4) ((lN 12) * v42)).mp q)
      refine lv_iload_n hx hb dX9_error_176 rfl (lv_at hl 3 rfl) ?_
      exact r_iret C Z hr hk dX9_error_177
    · have hk := hk.2 (mt (lc_ge (Int32.toInt64 x4) ((lN 12) * v42)).mpr q)
      refine lv_iload hx hb dX9_error_48 (lv_at hl 4 rfl) ?_
      refine lv_bipush (v := (nI 12)) hx hb dX9_error_50 (by decide) ?_
      refine lv_idiv hx hb dX9_error_52 (by decide) ?_
      refine lv_topi (fun y53 ey53 => ?_)
      have hk := hk y53 ey53
      refine lv_istore (lv' := [(5, .int y53), (0, .ref x0), (1, .int x1), (2, .int x2), (3, .int x3), (4, .int x4)]) hx hb dX9_error_53 hl (by decide) rfl (fun ls hl => ?_)
      refine lv_iload hx hb dX9_error_55 (lv_at hl 5 rfl) ?_
      refine lv_bipush (v := (nI 12)) hx hb dX9_error_57 (by decide) ?_
      refine lv_irem hx hb dX9_error_59 (by decide) ?_
      refine lv_topi (fun y60 ey60 => ?_)
      have hk := hk y60 ey60
      refine lv_istore (lv' := [(6, .int y60), (5, .int y53), (0, .ref x0), (1, .int x1), (2, .int x2), (3, .int x3), (4, .int x4)]) hx hb dX9_error_60 hl (by decide) rfl (fun ls hl => ?_)
      refine lv_aload_n hx hb dX9_error_62 rfl (lv_at hl 2 rfl) ?_
      obtain ⟨v63, hv, hk⟩ := hk
      refine r_get (ci := 9) (k := 0) (T := TX9) (N := 17) C Z hv ku_9 rfl (by decide) tw_857 dX9_error_63 ?_
      refine lv_iload hx hb dX9_error_66 (lv_at hl 1 rfl) ?_
      refine lv_iconst (v := (nI 0)) hx hb dX9_error_68 (by decide) ?_
      refine r_calli Z (r_runS (As := [.int y53, .int (nI 0)]) (rest := [.ref v63]) C Z (m_X9_c l g h y53 (nI 0) _ hk) (va_cwS 2 C.1.2.2.2.2 (gS tw_930 tw_931 tw_66 tw_932) rfl rfl rfl (by decide +kernel) ⟨Nat.le_of_ble_eq_true rfl, Nat.le_of_ble_eq_true rfl⟩) rfl hl.1 rfl (Nat.le_of_ble_eq_true rfl) dX9_error_69 ⟨Nat.zero_le _, Nat.zero_le _⟩) (fun r69 h69 H locs hk Z => ?_)
      obtain ⟨v72, hv, hk⟩ := hk
      refine r_lald C Z hv dX9_error_72 ?_
      refine lv_iload_n hx hb dX9_error_73 rfl (lv_at hl 3 rfl) ?_
      refine lv_i2l (v := (Int32.toInt64 x1)) hx hb dX9_error_74 rfl ?_
      refine W.lcmp hx hb dX9_error_75 ?_
      refine lv_if_ne (tgt := 170) hx hb dX9_error_76 (by decide) (fun q => ?_) (fun q => ?_)
      · have hk := hk.1 (mt (lc_eq v72 (Int32.toInt64 x1)).mpr q)
        obtain ⟨y170, ey170⟩ : ∃ y : Int32, y = x4 + (nI 1) := ⟨_, rfl⟩
        have hk := hk y170 ey170
        refine lv_iinc (v := y170) (lv' := [(4, .int y170), (6, .int y60), (5, .int y53), (0, .ref x0), (1, .int x1), (2, .int x2), (3, .int x3)]) hx hb dX9_error_170 hl (k := 6) rfl (by rw [ey170]; rfl) (by decide) rfl (fun ls hl => ?_)
        refine lv_goto (tgt := 31) hx hb dX9_error_173 (by decide) ?_
        exact ih x3 y170 h69 _ _ _ (lv_sub hl [3, 4, 5, 6, 0] rfl) Z hk
      · have hk := hk.2 ((lc_eq v72 (Int32.toInt64 x1)).mp q)
        refine lv_aload_n hx hb dX9_error_79 rfl (lv_at hl 2 rfl) ?_
        refine lv_iload hx hb dX9_error_80 (lv_at hl 1 rfl) ?_
        obtain ⟨ho, hk⟩ := hk
        refine r_calli Z (r_runV (As := [.int y53]) (rest := []) C Z (m_X9_isLooked l g h69 x0 y53 _ hk) ho rfl (cwV 1 C.1.2.2.2.2 (gV tw_1000 tw_1002 tw_27 tw_66 tw_1003) rfl rfl rfl (by decide +kernel) ⟨Nat.le_of_ble_eq_true rfl, Nat.le_of_ble_eq_true rfl⟩) rfl hl.1 rfl (Nat.le_of_ble_eq_true rfl) dX9_error_82 ⟨Nat.zero_le _, Nat.zero_le _⟩) (fun r82 h82 H locs hk Z => ?_)
        refine lv_if_eq (tgt := 170) hx hb dX9_error_85 (by decide) (fun q => ?_) (fun q => ?_)
        · have hk := hk.1 q
          obtain ⟨y170, ey170⟩ : ∃ y : Int32, y = x4 + (nI 1) := ⟨_, rfl⟩
          have hk := hk y170 ey170
          refine lv_iinc (v := y170) (lv' := [(4, .int y170), (6, .int y60), (5, .int y53), (0, .ref x0), (1, .int x1), (2, .int x2), (3, .int x3)]) hx hb dX9_error_170 hl (k := 6) rfl (by rw [ey170]; rfl) (by decide) rfl (fun ls hl => ?_)
          refine lv_goto (tgt := 31) hx hb dX9_error_173 (by decide) ?_
          exact ih x3 y170 h82 _ _ _ (lv_sub hl [3, 4, 5, 6, 0] rfl) Z hk
        · have hk := hk.2 q
          refine lv_aload_n hx hb dX9_error_88 rfl (lv_at hl 2 rfl) ?_
          obtain ⟨v89, hv, hk⟩ := hk
          refine r_get (ci := 9) (k := 0) (T := TX9) (N := 17) C Z hv ku_9 rfl (by decide) tw_857 dX9_error_89 ?_
          refine lv_iload hx hb dX9_error_92 (lv_at hl 1 rfl) ?_
          refine lv_iconst (v := (nI 4)) hx hb dX9_error_94 (by decide) ?_
          refine r_calli Z (r_runS (As := [.int y53, .int (nI 4)]) (rest := [.ref v89]) C Z (m_X9_c l g h82 y53 (nI 4) _ hk) (va_cwS 2 C.1.2.2.2.2 (gS tw_930 tw_931 tw_66 tw_932) rfl rfl rfl (by decide +kernel) ⟨Nat.le_of_ble_eq_true rfl, Nat.le_of_ble_eq_true rfl⟩) rfl hl.1 rfl (Nat.le_of_ble_eq_true rfl) dX9_error_95 ⟨Nat.zero_le _, Nat.zero_le _⟩) (fun r95 h95 H locs hk Z => ?_)
          obtain ⟨v98, hv, hk⟩ := hk
          refine r_lald C Z hv dX9_error_98 ?_
          refine lv_iload hx hb dX9_error_99 (lv_at hl 0 rfl) ?_
          refine r_calli Z (r_runS (As := [.long v98, .int y60]) (rest := []) C Z (m_X9_digit l g h95 v98 y60 _ hk) (va_cwS 2 C.1.2.2.2.2 (gS tw_1004 tw_1005 tw_66 tw_1006) rfl rfl rfl (by decide +kernel) ⟨Nat.le_of_ble_eq_true rfl, Nat.le_of_ble_eq_true rfl⟩) rfl hl.1 rfl (Nat.le_of_ble_eq_true rfl) dX9_error_101 ⟨Nat.zero_le _, Nat.zero_le _⟩) (fun r101 h101 H locs hk Z => ?_)
          refine lv_aload_n hx hb dX9_error_104 rfl (lv_at hl 2 rfl) ?_
          refine lv_iload hx hb dX9_error_105 (lv_at hl 1 rfl) ?_
          refine lv_iload hx hb dX9_error_107 (lv_at hl 0 rfl) ?_
          obtain ⟨ho, hk⟩ := hk
          refine r_calli Z (r_runV (As := [.int y53, .int y60]) (rest := [.int r101]) C Z (m_X9_read l g h101 x0 y53 y60 _ hk) ho rfl (cwV 2 C.1.2.2.2.2 (gV tw_1008 tw_1010 tw_28 tw_66 tw_1011) rfl rfl rfl (by decide +kernel) ⟨Nat.le_of_ble_eq_true rfl, Nat.le_of_ble_eq_true rfl⟩) rfl hl.1 rfl (Nat.le_of_ble_eq_true rfl) dX9_error_109 ⟨Nat.zero_le _, Nat.zero_le _⟩) (fun r109 h109 H locs hk Z => ?_)
          refine lv_isub hx hb dX9_error_112 ?_
          refine lv_topi (fun y113 ey113 => ?_)
          have hk := hk y113 ey113
          refine lv_istore (lv' := [(7, .int y113), (6, .int y60), (5, .int y53), (0, .ref x0), (1, .int x1), (2, .int x2), (3, .int x3), (4, .int x4)]) hx hb dX9_error_113 hl (by decide) rfl (fun ls hl => ?_)
          refine lv_iload hx hb dX9_error_115 (lv_at hl 0 rfl) ?_
          refine lv_aload_n hx hb dX9_error_117 rfl (lv_at hl 3 rfl) ?_
          refine lv_iload hx hb dX9_error_118 (lv_at hl 2 rfl) ?_
          refine lv_iload hx hb dX9_error_120 (lv_at hl 1 rfl) ?_
          refine lv_aload_n hx hb dX9_error_122 rfl (lv_at hl 3 rfl) ?_
          obtain ⟨ho, hk⟩ := hk
          refine r_calli Z (r_runV (As := []) (rest := [.int y60, .int y53, .ref x0, .int y113]) C Z (m_X9_length l g h109 x0 _ hk) ho rfl (cwV 0 C.1.2.2.2.2 (gV tw_979 tw_981 tw_22 tw_66 tw_982) rfl rfl rfl (by decide +kernel) ⟨Nat.le_of_ble_eq_true rfl, Nat.le_of_ble_eq_true rfl⟩) rfl hl.1 rfl (Nat.le_of_ble_eq_true rfl) dX9_error_123 ⟨Nat.zero_le _, Nat.zero_le _⟩) (fun r123 h123 H locs hk Z => ?_)
          obtain ⟨ho, hk⟩ := hk
          refine r_calli Z (r_runV (As := [.int y53, .int y60, .int r123]) (rest := [.int y113]) C Z (m_X9_dirt l g h123 x0 y53 y60 r123 _ hk) ho rfl (cwV 3 C.1.2.2.2.2 (gV tw_1012 tw_1014 tw_29 tw_66 tw_1015) rfl rfl rfl (by decide +kernel) ⟨Nat.le_of_ble_eq_true rfl, Nat.le_of_ble_eq_true rfl⟩) rfl hl.1 rfl (Nat.le_of_ble_eq_true rfl) dX9_error_126 ⟨Nat.zero_le _, Nat.zero_le _⟩) (fun r126 h126 H locs hk Z => ?_)
          refine lv_iadd hx hb dX9_error_129 ?_
          refine lv_topi (fun y130 ey130 => ?_)
          have hk := hk y130 ey130
          refine lv_istore (lv' := [(8, .int y130), (7, .int y113), (6, .int y60), (5, .int y53), (0, .ref x0), (1, .int x1), (2, .int x2), (3, .int x3), (4, .int x4)]) hx hb dX9_error_130 hl (by decide) rfl (fun ls hl => ?_)
          refine lv_iload_n hx hb dX9_error_132 rfl (lv_at hl 7 rfl) ?_
          refine lv_iload_n hx hb dX9_error_133 rfl (lv_at hl 6 rfl) ?_
          refine lv_if_ne (tgt := 150) hx hb dX9_error_134 (by decide) (fun q => ?_) (fun q => ?_)
          · have hk := hk.1 q
            refine lv_iload_n hx hb dX9_error_150 rfl (lv_at hl 6 rfl) ?_
            refine lv_iconst (v := (nI 1)) hx hb dX9_error_151 (by decide) ?_
            refine lv_icmp_ne (tgt := 163) hx hb dX9_error_152 (by decide) (fun q => ?_) (fun q => ?_)
            · have hk := hk.1 q
              refine lv_iload hx hb dX9_error_163 (lv_at hl 0 rfl) ?_
              refine r_calli Z (r_runS (As := [.int y130]) (rest := [.int x3]) C Z (m_X9_size l g h126 y130 _ hk) (va_cwS 1 C.1.2.2.2.2 (gS tw_1231 tw_1232 tw_66 tw_1233) rfl rfl rfl (by decide +kernel) ⟨Nat.le_of_ble_eq_true rfl, Nat.le_of_ble_eq_true rfl⟩) rfl hl.1 rfl (Nat.le_of_ble_eq_true rfl) dX9_error_165 ⟨Nat.zero_le _, Nat.zero_le _⟩) (fun r165 h165 H locs hk Z => ?_)
              refine lv_iadd hx hb dX9_error_168 ?_
              refine lv_topi (fun y169 ey169 => ?_)
              have hk := hk y169 ey169
              refine lv_istore_n (lv' := [(3, .int y169), (8, .int y130), (7, .int y113), (6, .int y60), (5, .int y53), (0, .ref x0), (1, .int x1), (2, .int x2), (4, .int x4)]) hx hb dX9_error_169 rfl hl (by decide) rfl (fun ls hl => ?_)
              obtain ⟨y170, ey170⟩ : ∃ y : Int32, y = x4 + (nI 1) := ⟨_, rfl⟩
              have hk := hk y170 ey170
              refine lv_iinc (v := y170) (lv' := [(4, .int y170), (3, .int y169), (8, .int y130), (7, .int y113), (6, .int y60), (5, .int y53), (0, .ref x0), (1, .int x1), (2, .int x2)]) hx hb dX9_error_170 hl (k := 8) rfl (by rw [ey170]; rfl) (by decide) rfl (fun ls hl => ?_)
              refine lv_goto (tgt := 31) hx hb dX9_error_173 (by decide) ?_
              exact ih y169 y170 h165 _ _ _ (lv_sub hl [6, 7, 8, 1, 0] rfl) Z hk
            · have hk := hk.2 q
              refine lv_iload hx hb dX9_error_155 (lv_at hl 1 rfl) ?_
              refine r_calli Z (r_runS (As := [.int y113]) (rest := [.int x3]) C Z (m_X9_size l g h126 y113 _ hk) (va_cwS 1 C.1.2.2.2.2 (gS tw_1231 tw_1232 tw_66 tw_1233) rfl rfl rfl (by decide +kernel) ⟨Nat.le_of_ble_eq_true rfl, Nat.le_of_ble_eq_true rfl⟩) rfl hl.1 rfl (Nat.le_of_ble_eq_true rfl) dX9_error_157 ⟨Nat.zero_le _, Nat.zero_le _⟩) (fun r157 h157 H locs hk Z => ?_)
              refine lv_goto (tgt := 168) hx hb dX9_error_160 (by decide) ?_
              refine lv_iadd hx hb dX9_error_168 ?_
              refine lv_topi (fun y169 ey169 => ?_)
              have hk := hk y169 ey169
              refine lv_istore_n (lv' := [(3, .int y169), (8, .int y130), (7, .int y113), (6, .int y60), (5, .int y53), (0, .ref x0), (1, .int x1), (2, .int x2), (4, .int x4)]) hx hb dX9_error_169 rfl hl (by decide) rfl (fun ls hl => ?_)
              obtain ⟨y170, ey170⟩ : ∃ y : Int32, y = x4 + (nI 1) := ⟨_, rfl⟩
              have hk := hk y170 ey170
              refine lv_iinc (v := y170) (lv' := [(4, .int y170), (3, .int y169), (8, .int y130), (7, .int y113), (6, .int y60), (5, .int y53), (0, .ref x0), (1, .int x1), (2, .int x2)]) hx hb dX9_error_170 hl (k := 8) rfl (by rw [ey170]; rfl) (by decide) rfl (fun ls hl => ?_)
              refine lv_goto (tgt := 31) hx hb dX9_error_173 (by decide) ?_
              exact ih y169 y170 h157 _ _ _ (lv_sub hl [6, 7, 8, 1, 0] rfl) Z hk
          · have hk := hk.2 q
            refine lv_aload_n hx hb dX9_error_137 rfl (lv_at hl 4 rfl) ?_
            refine lv_iconst (v := (nI 1)) hx hb dX9_error_138 (by decide) ?_
            refine lv_iload hx hb dX9_error_139 (lv_at hl 1 rfl) ?_
            refine r_calli Z (r_runS (As := [.int y113]) (rest := [.int (nI 1), .ref x0, .int x3]) C Z (m_X9_size l g h126 y113 _ hk) (va_cwS 1 C.1.2.2.2.2 (gS tw_1231 tw_1232 tw_66 tw_1233) rfl rfl rfl (by decide +kernel) ⟨Nat.le_of_ble_eq_true rfl, Nat.le_of_ble_eq_true rfl⟩) rfl hl.1 rfl (Nat.le_of_ble_eq_true rfl) dX9_error_141 ⟨Nat.zero_le _, Nat.zero_le _⟩) (fun r141 h141 H locs hk Z => ?_)
            obtain ⟨ho, hk⟩ := hk
            refine r_calli Z (r_runV (As := [.int (nI 1), .int r141]) (rest := [.int x3]) C Z (m_X9_least l g h141 x0 (nI 1) r141 _ hk) ho rfl (cwV 2 C.1.2.2.2.2 (gV tw_1036 tw_1038 tw_35 tw_66 tw_1039) rfl rfl rfl (by decide +kernel) ⟨Nat.le_of_ble_eq_true rfl, Nat.le_of_ble_eq_true rfl⟩) rfl hl.1 rfl (Nat.le_of_ble_eq_true rfl) dX9_error_144 ⟨Nat.zero_le _, Nat.zero_le _⟩) (fun r144 h144 H locs hk Z => ?_)
            refine lv_goto (tgt := 168) hx hb dX9_error_147 (by decide) ?_
            refine lv_iadd hx hb dX9_error_168 ?_
            refine lv_topi (fun y169 ey169 => ?_)
            have hk := hk y169 ey169
            refine lv_istore_n (lv' := [(3, .int y169), (8, .int y130), (7, .int y113), (6, .int y60), (5, .int y53), (0, .ref x0), (1, .int x1), (2, .int x2), (4, .int x4)]) hx hb dX9_error_169 rfl hl (by decide) rfl (fun ls hl => ?_)
            obtain ⟨y170, ey170⟩ : ∃ y : Int32, y = x4 + (nI 1) := ⟨_, rfl⟩
            have hk := hk y170 ey170
            refine lv_iinc (v := y170) (lv' := [(4, .int y170), (3, .int y169), (8, .int y130), (7, .int y113), (6, .int y60), (5, .int y53), (0, .ref x0), (1, .int x1), (2, .int x2)]) hx hb dX9_error_170 hl (k := 8) rfl (by rw [ey170]; rfl) (by decide) rfl (fun ls hl => ?_)
            refine lv_goto (tgt := 31) hx hb dX9_error_173 (by decide) ?_
            exact ih y169 y170 h144 _ _ _ (lv_sub hl [6, 7, 8, 1, 0] rfl) Z hk
set_option maxRecDepth 100000 in
set_option maxHeartbeats 4000000 in
theorem m_X9_error (l : Launch) (g : Gt) (h : Hp) (x0 : Nat) (x1 : Int32) (x2 : Int32) (Post : Int32 → Hp → Prop) (hk : wp_X9_error x0 x1 x2 Post h) : Met l yX9_error wzX9_error rmX9_error (Pg g h [.ref x0, .int x1, .int x2]) (Qi g h Post) 0 0 (dm h) := by
  refine Met_of (cc := cX9_error) (maxL := 9) (ret := (some .int)) (by decide) (Nat.le_of_ble_eq_true rfl) (fun p e s m below meth c ls C hr hnm hl Z => ?_)
  have hx := C.1.1
  have hb := C.1.2.1
  have hml := C.1.2.2.1
  have hown := C.1.2.2.2.1
  have hts := C.1.2.2.2.2
  have hl : lv_has ls 9 [(0, .ref x0), (1, .int x1), (2, .int x2)] := hl
  unfold wp_X9_error at hk
  generalize s.heap = H at Z ⊢
  generalize ([] : List Loc) = locs at Z ⊢
  refine lv_iload_n hx hb dX9_error_0 rfl (lv_at hl 1 rfl) ?_
  refine lv_i2l (v := (Int32.toInt64 x1)) hx hb dX9_error_1 rfl ?_
  refine lv_lconst (v := lN 0) hx hb dX9_error_2 (by decide) ?_
  refine lv_ldc2 (v := (lN 2)) hx hb hown (hts _ tw_921) dX9_error_3 ?_
  refine r_calli Z (r_runS (As := [.long (Int32.toInt64 x1), .long (lN 0), .long (lN 2)]) (rest := []) C Z (m_X9_in l g h (Int32.toInt64 x1) (lN 0) (lN 2) _ hk) (va_cwS 3 C.1.2.2.2.2 (gS tw_922 tw_923 tw_66 tw_924) rfl rfl rfl (by decide +kernel) ⟨Nat.le_of_ble_eq_true rfl, Nat.le_of_ble_eq_true rfl⟩) rfl hl.1 rfl (Nat.le_of_ble_eq_true rfl) dX9_error_6 ⟨Nat.zero_le _, Nat.zero_le _⟩) (fun r6 h6 H locs hk Z => ?_)
  refine lv_if_eq (tgt := 24) hx hb dX9_error_9 (by decide) (fun q => ?_) (fun q => ?_)
  · have hk := hk.1 q
    refine lv_iconst (v := (-1 : Int32)) hx hb dX9_error_24 (by decide) ?_
    exact r_iret C Z hr hk dX9_error_25
  · have hk := hk.2 q
    refine lv_iload_n hx hb dX9_error_12 rfl (lv_at hl 2 rfl) ?_
    refine lv_i2l (v := (Int32.toInt64 x2)) hx hb dX9_error_13 rfl ?_
    refine lv_lconst (v := lN 0) hx hb dX9_error_14 (by decide) ?_
    refine lv_ldc2 (v := (lN 2)) hx hb hown (hts _ tw_921) dX9_error_15 ?_
    refine r_calli Z (r_runS (As := [.long (Int32.toInt64 x2), .long (lN 0), .long (lN 2)]) (rest := []) C Z (m_X9_in l g h6 (Int32.toInt64 x2) (lN 0) (lN 2) _ hk) (va_cwS 3 C.1.2.2.2.2 (gS tw_922 tw_923 tw_66 tw_924) rfl rfl rfl (by decide +kernel) ⟨Nat.le_of_ble_eq_true rfl, Nat.le_of_ble_eq_true rfl⟩) rfl hl.1 rfl (Nat.le_of_ble_eq_true rfl) dX9_error_18 ⟨Nat.zero_le _, Nat.zero_le _⟩) (fun r18 h18 H locs hk Z => ?_)
    refine lv_if_ne (tgt := 26) hx hb dX9_error_21 (by decide) (fun q => ?_) (fun q => ?_)
    · have hk := hk.1 q
      refine lv_iconst (v := (nI 0)) hx hb dX9_error_26 (by decide) ?_
      refine lv_istore_n (lv' := [(3, .int (nI 0)), (0, .ref x0), (1, .int x1), (2, .int x2)]) hx hb dX9_error_27 rfl hl (by decide) rfl (fun ls hl => ?_)
      refine lv_iconst (v := (nI 0)) hx hb dX9_error_28 (by decide) ?_
      refine lv_istore (lv' := [(4, .int (nI 0)), (3, .int (nI 0)), (0, .ref x0), (1, .int x1), (2, .int x2)]) hx hb dX9_error_29 hl (by decide) rfl (fun ls hl => ?_)
      obtain ⟨n1, hk⟩ := hk
      exact w_X9_error_31 C hr x0 x1 x2 n1 (nI 0) (nI 0) h18 _ _ _ (lv_sub hl [2, 3, 4, 1, 0] rfl) Z hk
    · have hk := hk.2 q
      refine lv_iconst (v := (-1 : Int32)) hx hb dX9_error_24 (by decide) ?_
      exact r_iret C Z hr hk dX9_error_25
abbrev rmX9_byLength : Room := ({ frames := 10, cells := 0, slots := 0, locals := 247 } : Room)
abbrev wzX9_byLength : List Cond := WS yX9_byLength cX9_byLength 4 (some .int)
set_option maxRecDepth 100000 in
set_option maxHeartbeats 4000000 in
theorem w_X9_byLength_20 {p : Program} {l : Launch} {e : Env} {s : State} {m : MethodId} {args : Array Value} {below : List Frame} {meth : Method} {c : Code} {g : Gt} {h0 : Hp} (C : Cx g (dm h0) RX9 cX9_byLength 4 p s m args meth c) (hr : meth.sig.returnType = (some .int)) {Post : Int32 → Hp → Prop} (x0 : Nat) (x1 : Int32)   : ∀ (n : Nat) (x2 : Int32) (x3 : Int32) (h : Hp) (H : Heap) (locs : List Loc) (ls : Array Slot), lv_has ls 4 [(0, .ref x0), (1, .int x1), (2, .int x2), (3, .int x3)] → St g (dm h0) s h H locs → wp_X9_byLength_20 Post x0 x1 n x2 x3 h → W p l e rmX9_byLength s m args below meth c H locs 0 0 (MQ below (Qi g h0 Post) args s 0 0 (dm h0)) (F0 m 20 ls []) := by
  have hx := C.1.1
  have hb := C.1.2.1
  have hml := C.1.2.2.1
  have hown := C.1.2.2.2.1
  have hts := C.1.2.2.2.2
  intro n
  induction n with
  | zero => intro x2 x3 h H locs ls hl Z hk; exact (show False from hk).elim
  | succ n ih =>
    intro x2 x3 h H locs ls hl Z hk
    unfold wp_X9_byLength_20 at hk
    refine lv_iload_n hx hb dX9_byLength_20 rfl (lv_at hl 3 rfl) ?_
    refine lv_i2l (v := (Int32.toInt64 x3)) hx hb dX9_byLength_21 rfl ?_
    refine lv_aload_n hx hb dX9_byLength_22 rfl (lv_at hl 0 rfl) ?_
    obtain ⟨v23, hv, hk⟩ := hk
    refine r_get (ci := 9) (k := 0) (T := TX9) (N := 17) C Z hv ku_9 rfl (by decide) tw_857 dX9_byLength_23 ?_
    refine lv_iconst (v := (nI 0)) hx hb dX9_byLength_26 (by decide) ?_
    obtain ⟨v27, hv, hk⟩ := hk
    refine r_lald C Z hv dX9_byLength_27 ?_
    refine W.lcmp hx hb dX9_byLength_28 ?_
    refine lv_if_ge (tgt := 65) hx hb dX9_byLength_29 (by decide) (fun q => ?_) (fun q => ?_)
    · have hk := hk.1 ((lc_ge (Int32.toInt64 x3) v27).mp q)
      refine lv_iload_n hx hb dX9_byLength_65 rfl (lv_at hl 2 rfl) ?_
      exact r_iret C Z hr hk dX9_byLength_66
    · have hk := hk.2 (mt (lc_ge (Int32.toInt64 x3) v27).mpr q)
      refine lv_iload_n hx hb dX9_byLength_32 rfl (lv_at hl 2 rfl) ?_
      refine lv_aload_n hx hb dX9_byLength_33 rfl (lv_at hl 0 rfl) ?_
      refine lv_iload_n hx hb dX9_byLength_34 rfl (lv_at hl 3 rfl) ?_
      refine lv_iload_n hx hb dX9_byLength_35 rfl (lv_at hl 1 rfl) ?_
      obtain ⟨ho, hk⟩ := hk
      refine r_calll Z (r_runV (As := [.int x3, .int x1]) (rest := [.int x2]) C Z (m_X9_outcomes l g h x0 x3 x1 _ hk) ho rfl (cwV 2 C.1.2.2.2.2 (gV tw_983 tw_985 tw_23 tw_66 tw_986) rfl rfl rfl (by decide +kernel) ⟨Nat.le_of_ble_eq_true rfl, Nat.le_of_ble_eq_true rfl⟩) rfl hl.1 rfl (Nat.le_of_ble_eq_true rfl) dX9_byLength_36 ⟨Nat.zero_le _, Nat.zero_le _⟩) (fun r36 h36 H locs hk Z => ?_)
      refine lv_aload_n hx hb dX9_byLength_39 rfl (lv_at hl 0 rfl) ?_
      refine lv_iload_n hx hb dX9_byLength_40 rfl (lv_at hl 3 rfl) ?_
      refine lv_aload_n hx hb dX9_byLength_41 rfl (lv_at hl 0 rfl) ?_
      obtain ⟨ho, hk⟩ := hk
      refine r_calli Z (r_runV (As := []) (rest := [.int x3, .ref x0, .long r36, .int x2]) C Z (m_X9_length l g h36 x0 _ hk) ho rfl (cwV 0 C.1.2.2.2.2 (gV tw_979 tw_981 tw_22 tw_66 tw_982) rfl rfl rfl (by decide +kernel) ⟨Nat.le_of_ble_eq_true rfl, Nat.le_of_ble_eq_true rfl⟩) rfl hl.1 rfl (Nat.le_of_ble_eq_true rfl) dX9_byLength_42 ⟨Nat.zero_le _, Nat.zero_le _⟩) (fun r42 h42 H locs hk Z => ?_)
      obtain ⟨ho, hk⟩ := hk
      refine r_calll Z (r_runV (As := [.int x3, .int r42]) (rest := [.long r36, .int x2]) C Z (m_X9_outcomes l g h42 x0 x3 r42 _ hk) ho rfl (cwV 2 C.1.2.2.2.2 (gV tw_983 tw_985 tw_23 tw_66 tw_986) rfl rfl rfl (by decide +kernel) ⟨Nat.le_of_ble_eq_true rfl, Nat.le_of_ble_eq_true rfl⟩) rfl hl.1 rfl (Nat.le_of_ble_eq_true rfl) dX9_byLength_45 ⟨Nat.zero_le _, Nat.zero_le _⟩) (fun r45 h45 H locs hk Z => ?_)
      refine W.lcmp hx hb dX9_byLength_48 ?_
      refine lv_if_eq (tgt := 56) hx hb dX9_byLength_49 (by decide) (fun q => ?_) (fun q => ?_)
      · have hk := hk.1 ((lc_eq r36 r45).mp q)
        refine lv_iconst (v := (nI 0)) hx hb dX9_byLength_56 (by decide) ?_
        refine lv_iadd hx hb dX9_byLength_57 ?_
        refine lv_topi (fun y58 ey58 => ?_)
        have hk := hk y58 ey58
        refine lv_istore_n (lv' := [(2, .int y58), (0, .ref x0), (1, .int x1), (3, .int x3)]) hx hb dX9_byLength_58 rfl hl (by decide) rfl (fun ls hl => ?_)
        obtain ⟨y59, ey59⟩ : ∃ y : Int32, y = x3 + (nI 1) := ⟨_, rfl⟩
        have hk := hk y59 ey59
        refine lv_iinc (v := y59) (lv' := [(3, .int y59), (2, .int y58), (0, .ref x0), (1, .int x1)]) hx hb dX9_byLength_59 hl (k := 3) rfl (by rw [ey59]; rfl) (by decide) rfl (fun ls hl => ?_)
        refine lv_goto (tgt := 20) hx hb dX9_byLength_62 (by decide) ?_
        exact ih y58 y59 h45 _ _ _ (lv_sub hl [2, 3, 1, 0] rfl) Z hk
      · have hk := hk.2 (mt (lc_eq r36 r45).mpr q)
        refine lv_iconst (v := (nI 1)) hx hb dX9_byLength_52 (by decide) ?_
        refine lv_goto (tgt := 57) hx hb dX9_byLength_53 (by decide) ?_
        refine lv_iadd hx hb dX9_byLength_57 ?_
        refine lv_topi (fun y58 ey58 => ?_)
        have hk := hk y58 ey58
        refine lv_istore_n (lv' := [(2, .int y58), (0, .ref x0), (1, .int x1), (3, .int x3)]) hx hb dX9_byLength_58 rfl hl (by decide) rfl (fun ls hl => ?_)
        obtain ⟨y59, ey59⟩ : ∃ y : Int32, y = x3 + (nI 1) := ⟨_, rfl⟩
        have hk := hk y59 ey59
        refine lv_iinc (v := y59) (lv' := [(3, .int y59), (2, .int y58), (0, .ref x0), (1, .int x1)]) hx hb dX9_byLength_59 hl (k := 3) rfl (by rw [ey59]; rfl) (by decide) rfl (fun ls hl => ?_)
        refine lv_goto (tgt := 20) hx hb dX9_byLength_62 (by decide) ?_
        exact ih y58 y59 h45 _ _ _ (lv_sub hl [2, 3, 1, 0] rfl) Z hk
set_option maxRecDepth 100000 in
set_option maxHeartbeats 4000000 in
theorem m_X9_byLength (l : Launch) (g : Gt) (h : Hp) (x0 : Nat) (x1 : Int32) (Post : Int32 → Hp → Prop) (hk : wp_X9_byLength x0 x1 Post h) : Met l yX9_byLength wzX9_byLength rmX9_byLength (Pg g h [.ref x0, .int x1]) (Qi g h Post) 0 0 (dm h) := by
  refine Met_of (cc := cX9_byLength) (maxL := 4) (ret := (some .int)) (by decide) (Nat.le_of_ble_eq_true rfl) (fun p e s m below meth c ls C hr hnm hl Z => ?_)
  have hx := C.1.1
  have hb := C.1.2.1
  have hml := C.1.2.2.1
  have hown := C.1.2.2.2.1
  have hts := C.1.2.2.2.2
  have hl : lv_has ls 4 [(0, .ref x0), (1, .int x1)] := hl
  unfold wp_X9_byLength at hk
  generalize s.heap = H at Z ⊢
  generalize ([] : List Loc) = locs at Z ⊢
  refine lv_iload_n hx hb dX9_byLength_0 rfl (lv_at hl 1 rfl) ?_
  refine lv_i2l (v := (Int32.toInt64 x1)) hx hb dX9_byLength_1 rfl ?_
  refine lv_ldc2 (v := (lN 2)) hx hb hown (hts _ tw_921) dX9_byLength_2 ?_
  refine lv_ldc2 (v := (lN 9)) hx hb hown (hts _ tw_958) dX9_byLength_5 ?_
  refine r_calli Z (r_runS (As := [.long (Int32.toInt64 x1), .long (lN 2), .long (lN 9)]) (rest := []) C Z (m_X9_in l g h (Int32.toInt64 x1) (lN 2) (lN 9) _ hk) (va_cwS 3 C.1.2.2.2.2 (gS tw_922 tw_923 tw_66 tw_924) rfl rfl rfl (by decide +kernel) ⟨Nat.le_of_ble_eq_true rfl, Nat.le_of_ble_eq_true rfl⟩) rfl hl.1 rfl (Nat.le_of_ble_eq_true rfl) dX9_byLength_8 ⟨Nat.zero_le _, Nat.zero_le _⟩) (fun r8 h8 H locs hk Z => ?_)
  refine lv_if_ne (tgt := 16) hx hb dX9_byLength_11 (by decide) (fun q => ?_) (fun q => ?_)
  · have hk := hk.1 q
    refine lv_iconst (v := (nI 0)) hx hb dX9_byLength_16 (by decide) ?_
    refine lv_istore_n (lv' := [(2, .int (nI 0)), (0, .ref x0), (1, .int x1)]) hx hb dX9_byLength_17 rfl hl (by decide) rfl (fun ls hl => ?_)
    refine lv_iconst (v := (nI 0)) hx hb dX9_byLength_18 (by decide) ?_
    refine lv_istore_n (lv' := [(3, .int (nI 0)), (2, .int (nI 0)), (0, .ref x0), (1, .int x1)]) hx hb dX9_byLength_19 rfl hl (by decide) rfl (fun ls hl => ?_)
    obtain ⟨n1, hk⟩ := hk
    exact w_X9_byLength_20 C hr x0 x1 n1 (nI 0) (nI 0) h8 _ _ _ (lv_sub hl [2, 3, 1, 0] rfl) Z hk
  · have hk := hk.2 q
    refine lv_iconst (v := (-1 : Int32)) hx hb dX9_byLength_14 (by decide) ?_
    exact r_iret C Z hr hk dX9_byLength_15
abbrev rmX9_drawn : Room := ({ frames := 13, cells := 0, slots := 0, locals := 312 } : Room)
abbrev wzX9_drawn : List Cond := WS yX9_drawn cX9_drawn 3 (some .int)
set_option maxRecDepth 100000 in
set_option maxHeartbeats 4000000 in
theorem m_X9_drawn (l : Launch) (g : Gt) (h : Hp) (x0 : Nat) (x1 : Int32) (Post : Int32 → Hp → Prop) (hk : wp_X9_drawn x0 x1 Post h) : Met l yX9_drawn wzX9_drawn rmX9_drawn (Pg g h [.ref x0, .int x1]) (Qi g h Post) 0 0 (dm h) := by
  refine Met_of (cc := cX9_drawn) (maxL := 3) (ret := (some .int)) (by decide) (Nat.le_of_ble_eq_true rfl) (fun p e s m below meth c ls C hr hnm hl Z => ?_)
  have hx := C.1.1
  have hb := C.1.2.1
  have hml := C.1.2.2.1
  have hown := C.1.2.2.2.1
  have hts := C.1.2.2.2.2
  have hl : lv_has ls 3 [(0, .ref x0), (1, .int x1)] := hl
  unfold wp_X9_drawn at hk
  generalize s.heap = H at Z ⊢
  generalize ([] : List Loc) = locs at Z ⊢
  refine lv_iload_n hx hb dX9_drawn_0 rfl (lv_at hl 1 rfl) ?_
  refine lv_i2l (v := (Int32.toInt64 x1)) hx hb dX9_drawn_1 rfl ?_
  refine lv_lconst (v := lN 0) hx hb dX9_drawn_2 (by decide) ?_
  refine lv_ldc2 (v := (lN 65536)) hx hb hown (hts _ tw_1055) dX9_drawn_3 ?_
  refine r_calli Z (r_runS (As := [.long (Int32.toInt64 x1), .long (lN 0), .long (lN 65536)]) (rest := []) C Z (m_X9_in l g h (Int32.toInt64 x1) (lN 0) (lN 65536) _ hk) (va_cwS 3 C.1.2.2.2.2 (gS tw_922 tw_923 tw_66 tw_924) rfl rfl rfl (by decide +kernel) ⟨Nat.le_of_ble_eq_true rfl, Nat.le_of_ble_eq_true rfl⟩) rfl hl.1 rfl (Nat.le_of_ble_eq_true rfl) dX9_drawn_6 ⟨Nat.zero_le _, Nat.zero_le _⟩) (fun r6 h6 H locs hk Z => ?_)
  refine lv_if_ne (tgt := 14) hx hb dX9_drawn_9 (by decide) (fun q => ?_) (fun q => ?_)
  · have hk := hk.1 q
    refine lv_aload_n hx hb dX9_drawn_14 rfl (lv_at hl 0 rfl) ?_
    obtain ⟨ho, hk⟩ := hk
    refine r_calli Z (r_runV (As := []) (rest := []) C Z (m_X9_laysPool l g h6 x0 _ hk) ho rfl (cwV 0 C.1.2.2.2.2 (gV tw_1056 tw_1058 tw_37 tw_66 tw_1059) rfl rfl rfl (by decide +kernel) ⟨Nat.le_of_ble_eq_true rfl, Nat.le_of_ble_eq_true rfl⟩) rfl hl.1 rfl (Nat.le_of_ble_eq_true rfl) dX9_drawn_15 ⟨Nat.zero_le _, Nat.zero_le _⟩) (fun r15 h15 H locs hk Z => ?_)
    refine lv_istore_n (lv' := [(2, .int r15), (0, .ref x0), (1, .int x1)]) hx hb dX9_drawn_18 rfl hl (by decide) rfl (fun ls hl => ?_)
    refine lv_iload_n hx hb dX9_drawn_19 rfl (lv_at hl 0 rfl) ?_
    refine lv_if_ne (tgt := 28) hx hb dX9_drawn_20 (by decide) (fun q => ?_) (fun q => ?_)
    · have hk := hk.1 q
      refine lv_aload_n hx hb dX9_drawn_28 rfl (lv_at hl 1 rfl) ?_
      obtain ⟨v29, hv, hk⟩ := hk
      refine r_get (ci := 9) (k := 4) (T := TX9) (N := 17) C Z hv ku_9 rfl (by decide) tw_861 dX9_drawn_29 ?_
      refine lv_ldc2 (v := (lN 75)) hx hb hown (hts _ tw_1068) dX9_drawn_32 ?_
      refine lv_iload_n hx hb dX9_drawn_35 rfl (lv_at hl 2 rfl) ?_
      refine lv_i2l (v := (Int32.toInt64 x1)) hx hb dX9_drawn_36 rfl ?_
      refine lv_lmul hx hb dX9_drawn_37 ?_
      refine lv_ldc2 (v := (lN 74)) hx hb hown (hts _ tw_1069) dX9_drawn_38 ?_
      refine lv_ladd hx hb dX9_drawn_41 ?_
      refine lv_ldc2 (v := (lN 65537)) hx hb hown (hts _ tw_1070) dX9_drawn_42 ?_
      refine lv_lrem hx hb dX9_drawn_45 (by decide) ?_
      refine lv_iload_n hx hb dX9_drawn_46 rfl (lv_at hl 0 rfl) ?_
      refine lv_i2l (v := (Int32.toInt64 r15)) hx hb dX9_drawn_47 rfl ?_
      obtain ⟨hz, hk⟩ := hk
      refine lv_lrem hx hb dX9_drawn_48 hz ?_
      refine lv_l2i (v := (Int64.toInt32 (((((lN 75) * (Int32.toInt64 x1)) + (lN 74)) - (((lN 75) * (Int32.toInt64 x1)) + (lN 74)) / (lN 65537) * (lN 65537)) - ((((lN 75) * (Int32.toInt64 x1)) + (lN 74)) - (((lN 75) * (Int32.toInt64 x1)) + (lN 74)) / (lN 65537) * (lN 65537)) / (Int32.toInt64 r15) * (Int32.toInt64 r15)))) hx hb dX9_drawn_49 rfl ?_
      obtain ⟨v50, hv, hk⟩ := hk
      refine r_iald C Z hv dX9_drawn_50 ?_
      exact r_iret C Z hr hk dX9_drawn_51
    · have hk := hk.2 q
      refine lv_bipush (v := (-9 : Int32)) hx hb dX9_drawn_23 (by decide) ?_
      refine lv_goto (tgt := 51) hx hb dX9_drawn_25 (by decide) ?_
      exact r_iret C Z hr hk dX9_drawn_51
  · have hk := hk.2 q
    refine lv_iconst (v := (-1 : Int32)) hx hb dX9_drawn_12 (by decide) ?_
    exact r_iret C Z hr hk dX9_drawn_13
abbrev rmX9_seedFor : Room := ({ frames := 13, cells := 0, slots := 0, locals := 312 } : Room)
abbrev wzX9_seedFor : List Cond := WS yX9_seedFor cX9_seedFor 4 (some .int)
set_option maxRecDepth 100000 in
set_option maxHeartbeats 4000000 in
theorem w_X9_seedFor_28 {p : Program} {l : Launch} {e : Env} {s : State} {m : MethodId} {args : Array Value} {below : List Frame} {meth : Method} {c : Code} {g : Gt} {h0 : Hp} (C : Cx g (dm h0) RX9 cX9_seedFor 4 p s m args meth c) (hr : meth.sig.returnType = (some .int)) {Post : Int32 → Hp → Prop} (x0 : Nat) (x1 : Int32) (x2 : Int32)   : ∀ (n : Nat) (x3 : Int32) (h : Hp) (H : Heap) (locs : List Loc) (ls : Array Slot), lv_has ls 4 [(0, .ref x0), (1, .int x1), (2, .int x2), (3, .int x3)] → St g (dm h0) s h H locs → wp_X9_seedFor_28 Post x0 x1 x2 n x3 h → W p l e rmX9_seedFor s m args below meth c H locs 0 0 (MQ below (Qi g h0 Post) args s 0 0 (dm h0)) (F0 m 28 ls []) := by
  have hx := C.1.1
  have hb := C.1.2.1
  have hml := C.1.2.2.1
  have hown := C.1.2.2.2.1
  have hts := C.1.2.2.2.2
  intro n
  induction n with
  | zero => intro x3 h H locs ls hl Z hk; exact (show False from hk).elim
  | succ n ih =>
    intro x3 h H locs ls hl Z hk
    unfold wp_X9_seedFor_28 at hk
    refine lv_aload_n hx hb dX9_seedFor_28 rfl (lv_at hl 0 rfl) ?_
    obtain ⟨v29, hv, hk⟩ := hk
    refine r_get (ci := 9) (k := 4) (T := TX9) (N := 17) C Z hv ku_9 rfl (by decide) tw_861 dX9_seedFor_29 ?_
    refine lv_ldc2 (v := (lN 75)) hx hb hown (hts _ tw_1068) dX9_seedFor_32 ?_
    refine lv_iload_n hx hb dX9_seedFor_35 rfl (lv_at hl 3 rfl) ?_
    refine lv_i2l (v := (Int32.toInt64 x3)) hx hb dX9_seedFor_36 rfl ?_
    refine lv_lmul hx hb dX9_seedFor_37 ?_
    refine lv_ldc2 (v := (lN 74)) hx hb hown (hts _ tw_1069) dX9_seedFor_38 ?_
    refine lv_ladd hx hb dX9_seedFor_41 ?_
    refine lv_ldc2 (v := (lN 65537)) hx hb hown (hts _ tw_1070) dX9_seedFor_42 ?_
    refine lv_lrem hx hb dX9_seedFor_45 (by decide) ?_
    refine lv_iload_n hx hb dX9_seedFor_46 rfl (lv_at hl 2 rfl) ?_
    refine lv_i2l (v := (Int32.toInt64 x2)) hx hb dX9_seedFor_47 rfl ?_
    obtain ⟨hz, hk⟩ := hk
    refine lv_lrem hx hb dX9_seedFor_48 hz ?_
    refine lv_l2i (v := (Int64.toInt32 (((((lN 75) * (Int32.toInt64 x3)) + (lN 74)) - (((lN 75) * (Int32.toInt64 x3)) + (lN 74)) / (lN 65537) * (lN 65537)) - ((((lN 75) * (Int32.toInt64 x3)) + (lN 74)) - (((lN 75) * (Int32.toInt64 x3)) + (lN 74)) / (lN 65537) * (lN 65537)) / (Int32.toInt64 x2) * (Int32.toInt64 x2)))) hx hb dX9_seedFor_49 rfl ?_
    obtain ⟨v50, hv, hk⟩ := hk
    refine r_iald C Z hv dX9_seedFor_50 ?_
    refine lv_iload_n hx hb dX9_seedFor_51 rfl (lv_at hl 1 rfl) ?_
    refine lv_icmp_eq (tgt := 61) hx hb dX9_seedFor_52 (by decide) (fun q => ?_) (fun q => ?_)
    · have hk := hk.1 q
      refine lv_iload_n hx hb dX9_seedFor_61 rfl (lv_at hl 3 rfl) ?_
      exact r_iret C Z hr hk dX9_seedFor_62
    · have hk := hk.2 q
      obtain ⟨y55, ey55⟩ : ∃ y : Int32, y = x3 + (nI 1) := ⟨_, rfl⟩
      have hk := hk y55 ey55
      refine lv_iinc (v := y55) (lv' := [(3, .int y55), (0, .ref x0), (1, .int x1), (2, .int x2)]) hx hb dX9_seedFor_55 hl (k := 3) rfl (by rw [ey55]; rfl) (by decide) rfl (fun ls hl => ?_)
      refine lv_goto (tgt := 28) hx hb dX9_seedFor_58 (by decide) ?_
      exact ih y55 h _ _ _ (lv_sub hl [1, 2, 3, 0] rfl) Z hk
set_option maxRecDepth 100000 in
set_option maxHeartbeats 4000000 in
theorem m_X9_seedFor (l : Launch) (g : Gt) (h : Hp) (x0 : Nat) (x1 : Int32) (Post : Int32 → Hp → Prop) (hk : wp_X9_seedFor x0 x1 Post h) : Met l yX9_seedFor wzX9_seedFor rmX9_seedFor (Pg g h [.ref x0, .int x1]) (Qi g h Post) 0 0 (dm h) := by
  refine Met_of (cc := cX9_seedFor) (maxL := 4) (ret := (some .int)) (by decide) (Nat.le_of_ble_eq_true rfl) (fun p e s m below meth c ls C hr hnm hl Z => ?_)
  have hx := C.1.1
  have hb := C.1.2.1
  have hml := C.1.2.2.1
  have hown := C.1.2.2.2.1
  have hts := C.1.2.2.2.2
  have hl : lv_has ls 4 [(0, .ref x0), (1, .int x1)] := hl
  unfold wp_X9_seedFor at hk
  generalize s.heap = H at Z ⊢
  generalize ([] : List Loc) = locs at Z ⊢
  refine lv_aload_n hx hb dX9_seedFor_0 rfl (lv_at hl 0 rfl) ?_
  refine lv_iload_n hx hb dX9_seedFor_1 rfl (lv_at hl 1 rfl) ?_
  obtain ⟨ho, hk⟩ := hk
  refine r_calli Z (r_runV (As := [.int x1]) (rest := []) C Z (m_X9_isCard l g h x0 x1 _ hk) ho rfl (cwV 1 C.1.2.2.2.2 (gV tw_1176 tw_1178 tw_50 tw_66 tw_1179) rfl rfl rfl (by decide +kernel) ⟨Nat.le_of_ble_eq_true rfl, Nat.le_of_ble_eq_true rfl⟩) rfl hl.1 rfl (Nat.le_of_ble_eq_true rfl) dX9_seedFor_2 ⟨Nat.zero_le _, Nat.zero_le _⟩) (fun r2 h2 H locs hk Z => ?_)
  refine lv_if_ne (tgt := 10) hx hb dX9_seedFor_5 (by decide) (fun q => ?_) (fun q => ?_)
  · have hk := hk.1 q
    refine lv_aload_n hx hb dX9_seedFor_10 rfl (lv_at hl 0 rfl) ?_
    obtain ⟨ho, hk⟩ := hk
    refine r_calli Z (r_runV (As := []) (rest := []) C Z (m_X9_laysPool l g h2 x0 _ hk) ho rfl (cwV 0 C.1.2.2.2.2 (gV tw_1056 tw_1058 tw_37 tw_66 tw_1059) rfl rfl rfl (by decide +kernel) ⟨Nat.le_of_ble_eq_true rfl, Nat.le_of_ble_eq_true rfl⟩) rfl hl.1 rfl (Nat.le_of_ble_eq_true rfl) dX9_seedFor_11 ⟨Nat.zero_le _, Nat.zero_le _⟩) (fun r11 h11 H locs hk Z => ?_)
    refine lv_istore_n (lv' := [(2, .int r11), (0, .ref x0), (1, .int x1)]) hx hb dX9_seedFor_14 rfl hl (by decide) rfl (fun ls hl => ?_)
    refine lv_aload_n hx hb dX9_seedFor_15 rfl (lv_at hl 1 rfl) ?_
    refine lv_iload_n hx hb dX9_seedFor_16 rfl (lv_at hl 2 rfl) ?_
    obtain ⟨ho, hk⟩ := hk
    refine r_calli Z (r_runV (As := [.int x1]) (rest := []) C Z (m_X9_isInPool l g h11 x0 x1 _ hk) ho rfl (cwV 1 C.1.2.2.2.2 (gV tw_1060 tw_1062 tw_38 tw_66 tw_1063) rfl rfl rfl (by decide +kernel) ⟨Nat.le_of_ble_eq_true rfl, Nat.le_of_ble_eq_true rfl⟩) rfl hl.1 rfl (Nat.le_of_ble_eq_true rfl) dX9_seedFor_17 ⟨Nat.zero_le _, Nat.zero_le _⟩) (fun r17 h17 H locs hk Z => ?_)
    refine lv_if_ne (tgt := 26) hx hb dX9_seedFor_20 (by decide) (fun q => ?_) (fun q => ?_)
    · have hk := hk.1 q
      refine lv_iconst (v := (nI 0)) hx hb dX9_seedFor_26 (by decide) ?_
      refine lv_istore_n (lv' := [(3, .int (nI 0)), (2, .int r11), (0, .ref x0), (1, .int x1)]) hx hb dX9_seedFor_27 rfl hl (by decide) rfl (fun ls hl => ?_)
      obtain ⟨n1, hk⟩ := hk
      exact w_X9_seedFor_28 C hr x0 x1 r11 n1 (nI 0) h17 _ _ _ (lv_sub hl [2, 3, 1, 0] rfl) Z hk
    · have hk := hk.2 q
      refine lv_bipush (v := (-9 : Int32)) hx hb dX9_seedFor_23 (by decide) ?_
      exact r_iret C Z hr hk dX9_seedFor_25
  · have hk := hk.2 q
    refine lv_iconst (v := (-1 : Int32)) hx hb dX9_seedFor_8 (by decide) ?_
    exact r_iret C Z hr hk dX9_seedFor_9
