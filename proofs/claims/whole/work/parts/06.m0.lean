def wp_X0_cardsOf_5 (Post : Int32 → Hp → Prop)  (x0 : Nat) (x1 : Int32) (x2 : Int32) : Nat → Int32 → Int32 → Hp → Prop
  | 0, _, _, _ => False
  | n + 1, x3, x4, h => ((x2 ≤ x4 → (Post x3 h)) ∧ (¬ x2 ≤ x4 → (∃ v14 : Int32, gF h x0 0 0 = some (.int v14) ∧ (((v14 ≤ x4 → (Post x3 h)) ∧ (¬ v14 ≤ x4 → (∃ v21 : Nat, gF h x0 0 2 = some (.ref v21) ∧ (∃ v26 : Int32, gI h v21 0 x4 = some v26 ∧ (((¬ v26 = x1 → (∀ y34 : Int32, y34 = x4 + (1 : Int32) → ((wp_X0_cardsOf_5 Post x0 x1 x2 n) x3 y34 h))) ∧ (v26 = x1 → (∀ y31 : Int32, y31 = x3 + (1 : Int32) → (∀ y34 : Int32, y34 = x4 + (1 : Int32) → ((wp_X0_cardsOf_5 Post x0 x1 x2 n) y31 y34 h))))))))))))))
def wp_X0_cardsOf (x0 : Nat) (x1 : Int32) (x2 : Int32) (Post : Int32 → Hp → Prop) (h : Hp) : Prop := ∃ n, wp_X0_cardsOf_5 Post x0 x1 x2 n (0 : Int32) (0 : Int32) h
def wp_X0_hasCard (x0 : Nat) (x1 : Int32) (Post : Int32 → Hp → Prop) (h : Hp) : Prop := ((x1 < 0 → (Post (0 : Int32) h)) ∧ (¬ x1 < 0 → (∃ v6 : Int32, gF h x0 0 0 = some (.int v6) ∧ (((v6 ≤ x1 → (Post (0 : Int32) h)) ∧ (¬ v6 ≤ x1 → (Post (1 : Int32) h)))))))
def wp_X0_copyFrom (x0 : Nat) (x1 : Nat) (Post : Hp → Prop) (h : Hp) : Prop := ∃ v2 : Int32, gF h x1 0 0 = some (.int v2) ∧ (∃ h5, pF h x0 0 0 (.int v2) = some h5 ∧ (∃ v10 : Int32, gF h5 x1 0 1 = some (.int v10) ∧ (∃ h13, pF h5 x0 0 1 (.int v10) = some h13 ∧ (∃ v17 : Nat, gF h13 x1 0 2 = some (.ref v17) ∧ (∃ v22 : Nat, gF h13 x0 0 2 = some (.ref v22) ∧ (∃ h28, cpI h13 v17 (0 : Int32) v22 (0 : Int32) (40 : Int32) = some h28 ∧ (∃ v32 : Nat, gF h28 x1 0 3 = some (.ref v32) ∧ (∃ v37 : Nat, gF h28 x0 0 3 = some (.ref v37) ∧ (∃ h43, cpI h28 v32 (0 : Int32) v37 (0 : Int32) (40 : Int32) = some h43 ∧ (∃ v47 : Nat, gF h43 x1 0 4 = some (.ref v47) ∧ (∃ v52 : Nat, gF h43 x0 0 4 = some (.ref v52) ∧ (∃ h58, cpI h43 v47 (0 : Int32) v52 (0 : Int32) (40 : Int32) = some h58 ∧ (∃ v62 : Nat, gF h58 x1 0 5 = some (.ref v62) ∧ (∃ v67 : Nat, gF h58 x0 0 5 = some (.ref v67) ∧ (∃ h73, cpL h58 v62 (0 : Int32) v67 (0 : Int32) (40 : Int32) = some h73 ∧ (∃ v77 : Nat, gF h73 x1 0 6 = some (.ref v77) ∧ (∃ v82 : Nat, gF h73 x0 0 6 = some (.ref v82) ∧ (∃ h88, cpL h73 v77 (0 : Int32) v82 (0 : Int32) (40 : Int32) = some h88 ∧ (∃ v92 : Nat, gF h88 x1 0 7 = some (.ref v92) ∧ (∃ v97 : Nat, gF h88 x0 0 7 = some (.ref v97) ∧ (∃ h102, cpI h88 v92 (0 : Int32) v97 (0 : Int32) (3 : Int32) = some h102 ∧ (∃ v106 : Nat, gF h102 x1 0 8 = some (.ref v106) ∧ (∃ v111 : Nat, gF h102 x0 0 8 = some (.ref v111) ∧ (∃ h116, cpI h102 v106 (0 : Int32) v111 (0 : Int32) (4 : Int32) = some h116 ∧ (∃ v120 : Nat, gF h116 x1 0 9 = some (.ref v120) ∧ (∃ v125 : Nat, gF h116 x0 0 9 = some (.ref v125) ∧ (∃ h131, cpI h116 v120 (0 : Int32) v125 (0 : Int32) (6 : Int32) = some h131 ∧ (∃ v135 : Nat, gF h131 x1 0 10 = some (.ref v135) ∧ (∃ v140 : Nat, gF h131 x0 0 10 = some (.ref v140) ∧ (∃ h147, cpI h131 v135 (0 : Int32) v140 (0 : Int32) (240 : Int32) = some h147 ∧ (Post h147)))))))))))))))))))))))))))))))
theorem kfX0_cardsOf_9 : Cond.fieldLink RX0 9 (TX0 2).1 (TX0 2).2.1 (TX0 2).2.2.1 ∈ wsX0_cardsOf := List.mem_of_getElem? (i := 2) rfl
theorem kfX0_cardsOf_40 : Cond.fieldLink RX0 40 (TX0 0).1 (TX0 0).2.1 (TX0 0).2.2.1 ∈ wsX0_cardsOf := List.mem_of_getElem? (i := 1) rfl
theorem kuX0_cardsOf_0 : ∀ w ∈ u_ws RX0 TX0 11, w ∈ wsX0_cardsOf := fun w h => List.mem_cons_of_mem _ (List.mem_append_right _ h)
abbrev rmX0_cardsOf : Room := ({ frames := 0, cells := 0, slots := 0, locals := 0 } : Room)
set_option maxRecDepth 100000 in
set_option maxHeartbeats 4000000 in
theorem w_X0_cardsOf_5 {p : Program} {l : Launch} {e : Env} {s : State} {m : MethodId} {args : Array Value} {below : List Frame} {meth : Method} {c : Code} {g : Gt} {h0 : Hp} (C : Cx g (dm h0) RX0 wsX0_cardsOf cX0_cardsOf 5 p s m args meth c) (hr : meth.sig.returnType = (some .int)) {Post : Int32 → Hp → Prop} (x0 : Nat) (x1 : Int32) (x2 : Int32)   : ∀ (n : Nat) (x3 : Int32) (x4 : Int32) (h : Hp) (H : Heap) (locs : List Loc) (ls : Array Slot), lv_has ls 5 [(0, .ref x0), (1, .int x1), (2, .int x2), (3, .int x3), (4, .int x4)] → St g (dm h0) s h H locs → wp_X0_cardsOf_5 Post x0 x1 x2 n x3 x4 h → W p l e rmX0_cardsOf s m args below meth c H locs 0 0 (MQ below (Qi g h0 Post) args s 0 0 (dm h0)) (F0 m 5 ls []) := by
  have hx := C.1.1
  have hb := C.1.2.1
  have hml := C.1.2.2.1
  have hown := C.1.2.2.2.1
  have hts := C.1.2.2.2.2
  intro n
  induction n with
  | zero => intro x3 x4 h H locs ls hl Z hk; exact (show False from hk).elim
  | succ n ih =>
    intro x3 x4 h H locs ls hl Z hk
    unfold wp_X0_cardsOf_5 at hk
    refine lv_iload hx hb dX0_cardsOf_5 (lv_at hl 4 rfl) ?_
    refine lv_iload_n hx hb dX0_cardsOf_7 rfl (lv_at hl 2 rfl) ?_
    refine lv_icmp_ge (tgt := 40) hx hb dX0_cardsOf_8 (by decide) (fun q => ?_) (fun q => ?_)
    · have hk := hk.1 q
      refine lv_iload_n hx hb dX0_cardsOf_40 rfl (lv_at hl 3 rfl) ?_
      exact r_iret C Z hr hk dX0_cardsOf_41
    · have hk := hk.2 q
      refine lv_iload hx hb dX0_cardsOf_11 (lv_at hl 4 rfl) ?_
      refine lv_aload_n hx hb dX0_cardsOf_13 rfl (lv_at hl 0 rfl) ?_
      obtain ⟨v14, hv, hk⟩ := hk
      refine r_get (ci := 0) (k := 0) (T := TX0) (N := 11) C Z hv kuX0_cardsOf_0 rfl (by decide) kfX0_cardsOf_40 dX0_cardsOf_14 ?_
      refine lv_icmp_ge (tgt := 40) hx hb dX0_cardsOf_17 (by decide) (fun q => ?_) (fun q => ?_)
      · have hk := hk.1 q
        refine lv_iload_n hx hb dX0_cardsOf_40 rfl (lv_at hl 3 rfl) ?_
        exact r_iret C Z hr hk dX0_cardsOf_41
      · have hk := hk.2 q
        refine lv_aload_n hx hb dX0_cardsOf_20 rfl (lv_at hl 0 rfl) ?_
        obtain ⟨v21, hv, hk⟩ := hk
        refine r_get (ci := 0) (k := 2) (T := TX0) (N := 11) C Z hv kuX0_cardsOf_0 rfl (by decide) kfX0_cardsOf_9 dX0_cardsOf_21 ?_
        refine lv_iload hx hb dX0_cardsOf_24 (lv_at hl 4 rfl) ?_
        obtain ⟨v26, hv, hk⟩ := hk
        refine r_iald C Z hv dX0_cardsOf_26 ?_
        refine lv_iload_n hx hb dX0_cardsOf_27 rfl (lv_at hl 1 rfl) ?_
        refine lv_icmp_ne (tgt := 34) hx hb dX0_cardsOf_28 (by decide) (fun q => ?_) (fun q => ?_)
        · have hk := hk.1 q
          obtain ⟨y34, ey34⟩ : ∃ y : Int32, y = x4 + (1 : Int32) := ⟨_, rfl⟩
          have hk := hk y34 ey34
          refine lv_iinc (v := y34) (lv' := [(4, .int y34), (0, .ref x0), (1, .int x1), (2, .int x2), (3, .int x3)]) hx hb dX0_cardsOf_34 hl (k := 4) rfl (by rw [ey34]; rfl) (by decide) rfl (fun ls hl => ?_)
          refine lv_goto (tgt := 5) hx hb dX0_cardsOf_37 (by decide) ?_
          exact ih x3 y34 h _ _ _ (lv_sub hl [1, 2, 3, 4, 0] rfl) Z hk
        · have hk := hk.2 q
          obtain ⟨y31, ey31⟩ : ∃ y : Int32, y = x3 + (1 : Int32) := ⟨_, rfl⟩
          have hk := hk y31 ey31
          refine lv_iinc (v := y31) (lv' := [(3, .int y31), (0, .ref x0), (1, .int x1), (2, .int x2), (4, .int x4)]) hx hb dX0_cardsOf_31 hl (k := 3) rfl (by rw [ey31]; rfl) (by decide) rfl (fun ls hl => ?_)
          obtain ⟨y34, ey34⟩ : ∃ y : Int32, y = x4 + (1 : Int32) := ⟨_, rfl⟩
          have hk := hk y34 ey34
          refine lv_iinc (v := y34) (lv' := [(4, .int y34), (3, .int y31), (0, .ref x0), (1, .int x1), (2, .int x2)]) hx hb dX0_cardsOf_34 hl (k := 4) rfl (by rw [ey34]; rfl) (by decide) rfl (fun ls hl => ?_)
          refine lv_goto (tgt := 5) hx hb dX0_cardsOf_37 (by decide) ?_
          exact ih y31 y34 h _ _ _ (lv_sub hl [2, 3, 4, 1, 0] rfl) Z hk
set_option maxRecDepth 100000 in
set_option maxHeartbeats 4000000 in
theorem m_X0_cardsOf (l : Launch) (g : Gt) (h : Hp) (x0 : Nat) (x1 : Int32) (x2 : Int32) (Post : Int32 → Hp → Prop) (hk : wp_X0_cardsOf x0 x1 x2 Post h) : Met l yX0_cardsOf wsX0_cardsOf rmX0_cardsOf (Pg g h [.ref x0, .int x1, .int x2]) (Qi g h Post) 0 0 (dm h) := by
  refine Met_of (cc := cX0_cardsOf) (maxL := 5) (ret := (some .int)) (by decide) rfl (Nat.le_of_ble_eq_true rfl) (fun p e s m below meth c ls C hr hnm hl Z => ?_)
  have hx := C.1.1
  have hb := C.1.2.1
  have hml := C.1.2.2.1
  have hown := C.1.2.2.2.1
  have hts := C.1.2.2.2.2
  have hl : lv_has ls 5 [(0, .ref x0), (1, .int x1), (2, .int x2)] := hl
  unfold wp_X0_cardsOf at hk
  generalize s.heap = H at Z ⊢
  generalize ([] : List Loc) = locs at Z ⊢
  refine lv_iconst (v := 0) hx hb dX0_cardsOf_0 (by decide) ?_
  refine lv_istore_n (lv' := [(3, .int (0 : Int32)), (0, .ref x0), (1, .int x1), (2, .int x2)]) hx hb dX0_cardsOf_1 rfl hl (by decide) rfl (fun ls hl => ?_)
  refine lv_iconst (v := 0) hx hb dX0_cardsOf_2 (by decide) ?_
  refine lv_istore (lv' := [(4, .int (0 : Int32)), (3, .int (0 : Int32)), (0, .ref x0), (1, .int x1), (2, .int x2)]) hx hb dX0_cardsOf_3 hl (by decide) rfl (fun ls hl => ?_)
  obtain ⟨n1, hk⟩ := hk
  exact w_X0_cardsOf_5 C hr x0 x1 x2 n1 (0 : Int32) (0 : Int32) h _ _ _ (lv_sub hl [2, 3, 4, 1, 0] rfl) Z hk
theorem kfX0_hasCard_40 : Cond.fieldLink RX0 40 (TX0 0).1 (TX0 0).2.1 (TX0 0).2.2.1 ∈ wsX0_hasCard := List.mem_of_getElem? (i := 1) rfl
theorem kuX0_hasCard_0 : ∀ w ∈ u_ws RX0 TX0 11, w ∈ wsX0_hasCard := fun w h => List.mem_cons_of_mem _ (List.mem_append_right _ h)
abbrev rmX0_hasCard : Room := ({ frames := 0, cells := 0, slots := 0, locals := 0 } : Room)
set_option maxRecDepth 100000 in
set_option maxHeartbeats 4000000 in
theorem m_X0_hasCard (l : Launch) (g : Gt) (h : Hp) (x0 : Nat) (x1 : Int32) (Post : Int32 → Hp → Prop) (hk : wp_X0_hasCard x0 x1 Post h) : Met l yX0_hasCard wsX0_hasCard rmX0_hasCard (Pg g h [.ref x0, .int x1]) (Qi g h Post) 0 0 (dm h) := by
  refine Met_of (cc := cX0_hasCard) (maxL := 2) (ret := (some .boolean)) (by decide) rfl (Nat.le_of_ble_eq_true rfl) (fun p e s m below meth c ls C hr hnm hl Z => ?_)
  have hx := C.1.1
  have hb := C.1.2.1
  have hml := C.1.2.2.1
  have hown := C.1.2.2.2.1
  have hts := C.1.2.2.2.2
  have hl : lv_has ls 2 [(0, .ref x0), (1, .int x1)] := hl
  unfold wp_X0_hasCard at hk
  generalize s.heap = H at Z ⊢
  generalize ([] : List Loc) = locs at Z ⊢
  refine lv_iload_n hx hb dX0_hasCard_0 rfl (lv_at hl 1 rfl) ?_
  refine lv_if_lt (tgt := 16) hx hb dX0_hasCard_1 (by decide) (fun q => ?_) (fun q => ?_)
  · have hk := hk.1 q
    refine lv_iconst (v := 0) hx hb dX0_hasCard_16 (by decide) ?_
    exact r_zret C Z hr (Or.inl rfl) hk dX0_hasCard_17
  · have hk := hk.2 q
    refine lv_iload_n hx hb dX0_hasCard_4 rfl (lv_at hl 1 rfl) ?_
    refine lv_aload_n hx hb dX0_hasCard_5 rfl (lv_at hl 0 rfl) ?_
    obtain ⟨v6, hv, hk⟩ := hk
    refine r_get (ci := 0) (k := 0) (T := TX0) (N := 11) C Z hv kuX0_hasCard_0 rfl (by decide) kfX0_hasCard_40 dX0_hasCard_6 ?_
    refine lv_icmp_ge (tgt := 16) hx hb dX0_hasCard_9 (by decide) (fun q => ?_) (fun q => ?_)
    · have hk := hk.1 q
      refine lv_iconst (v := 0) hx hb dX0_hasCard_16 (by decide) ?_
      exact r_zret C Z hr (Or.inl rfl) hk dX0_hasCard_17
    · have hk := hk.2 q
      refine lv_iconst (v := 1) hx hb dX0_hasCard_12 (by decide) ?_
      refine lv_goto (tgt := 17) hx hb dX0_hasCard_13 (by decide) ?_
      exact r_zret C Z hr (Or.inr rfl) hk dX0_hasCard_17
theorem kfX0_copyFrom_9 : Cond.fieldLink RX0 9 (TX0 2).1 (TX0 2).2.1 (TX0 2).2.2.1 ∈ wsX0_copyFrom := List.mem_of_getElem? (i := 3) rfl
theorem kfX0_copyFrom_15 : Cond.fieldLink RX0 15 (TX0 3).1 (TX0 3).2.1 (TX0 3).2.2.1 ∈ wsX0_copyFrom := List.mem_of_getElem? (i := 8) rfl
theorem kfX0_copyFrom_18 : Cond.fieldLink RX0 18 (TX0 4).1 (TX0 4).2.1 (TX0 4).2.2.1 ∈ wsX0_copyFrom := List.mem_of_getElem? (i := 9) rfl
theorem kfX0_copyFrom_21 : Cond.fieldLink RX0 21 (TX0 5).1 (TX0 5).2.1 (TX0 5).2.2.1 ∈ wsX0_copyFrom := List.mem_of_getElem? (i := 10) rfl
theorem kfX0_copyFrom_25 : Cond.fieldLink RX0 25 (TX0 6).1 (TX0 6).2.1 (TX0 6).2.2.1 ∈ wsX0_copyFrom := List.mem_of_getElem? (i := 11) rfl
theorem kfX0_copyFrom_28 : Cond.fieldLink RX0 28 (TX0 7).1 (TX0 7).2.1 (TX0 7).2.2.1 ∈ wsX0_copyFrom := List.mem_of_getElem? (i := 12) rfl
theorem kfX0_copyFrom_31 : Cond.fieldLink RX0 31 (TX0 8).1 (TX0 8).2.1 (TX0 8).2.2.1 ∈ wsX0_copyFrom := List.mem_of_getElem? (i := 13) rfl
theorem kfX0_copyFrom_34 : Cond.fieldLink RX0 34 (TX0 9).1 (TX0 9).2.1 (TX0 9).2.2.1 ∈ wsX0_copyFrom := List.mem_of_getElem? (i := 14) rfl
theorem kfX0_copyFrom_37 : Cond.fieldLink RX0 37 (TX0 10).1 (TX0 10).2.1 (TX0 10).2.2.1 ∈ wsX0_copyFrom := List.mem_of_getElem? (i := 15) rfl
theorem kfX0_copyFrom_40 : Cond.fieldLink RX0 40 (TX0 0).1 (TX0 0).2.1 (TX0 0).2.2.1 ∈ wsX0_copyFrom := List.mem_of_getElem? (i := 1) rfl
theorem kfX0_copyFrom_44 : Cond.fieldLink RX0 44 (TX0 1).1 (TX0 1).2.1 (TX0 1).2.2.1 ∈ wsX0_copyFrom := List.mem_of_getElem? (i := 2) rfl
theorem kuX0_copyFrom_0 : ∀ w ∈ u_ws RX0 TX0 11, w ∈ wsX0_copyFrom := fun w h => List.mem_cons_of_mem _ (List.mem_append_right _ h)
abbrev rmX0_copyFrom : Room := ({ frames := 1, cells := 0, slots := 0, locals := 40 } : Room)
set_option maxRecDepth 100000 in
set_option maxHeartbeats 4000000 in
theorem m_X0_copyFrom (l : Launch) (g : Gt) (h : Hp) (x0 : Nat) (x1 : Nat) (Post : Hp → Prop) (hk : wp_X0_copyFrom x0 x1 Post h) : Met l yX0_copyFrom wsX0_copyFrom rmX0_copyFrom (Pg g h [.ref x0, .ref x1]) (Qv g h Post) 0 0 (dm h) := by
  refine Met_of (cc := cX0_copyFrom) (maxL := 2) (ret := none) (by decide) rfl (Nat.le_of_ble_eq_true rfl) (fun p e s m below meth c ls C hr hnm hl Z => ?_)
  have hx := C.1.1
  have hb := C.1.2.1
  have hml := C.1.2.2.1
  have hown := C.1.2.2.2.1
  have hts := C.1.2.2.2.2
  have hl : lv_has ls 2 [(0, .ref x0), (1, .ref x1)] := hl
  unfold wp_X0_copyFrom at hk
  generalize s.heap = H at Z ⊢
  generalize ([] : List Loc) = locs at Z ⊢
  refine lv_aload_n hx hb dX0_copyFrom_0 rfl (lv_at hl 0 rfl) ?_
  refine lv_aload_n hx hb dX0_copyFrom_1 rfl (lv_at hl 1 rfl) ?_
  obtain ⟨v2, hv, hk⟩ := hk
  refine r_get (ci := 0) (k := 0) (T := TX0) (N := 11) C Z hv kuX0_copyFrom_0 rfl (by decide) kfX0_copyFrom_40 dX0_copyFrom_2 ?_
  obtain ⟨h5, hv, hk⟩ := hk
  refine r_put (ci := 0) (k := 0) (T := TX0) (N := 11) C Z hv kuX0_copyFrom_0 tyX0_ok nmX0 rfl (by decide) kfX0_copyFrom_40 rfl rfl rfl dX0_copyFrom_5 (fun H locs Z => ?_)
  refine lv_aload_n hx hb dX0_copyFrom_8 rfl (lv_at hl 0 rfl) ?_
  refine lv_aload_n hx hb dX0_copyFrom_9 rfl (lv_at hl 1 rfl) ?_
  obtain ⟨v10, hv, hk⟩ := hk
  refine r_get (ci := 0) (k := 1) (T := TX0) (N := 11) C Z hv kuX0_copyFrom_0 rfl (by decide) kfX0_copyFrom_44 dX0_copyFrom_10 ?_
  obtain ⟨h13, hv, hk⟩ := hk
  refine r_put (ci := 0) (k := 1) (T := TX0) (N := 11) C Z hv kuX0_copyFrom_0 tyX0_ok nmX0 rfl (by decide) kfX0_copyFrom_44 rfl rfl rfl dX0_copyFrom_13 (fun H locs Z => ?_)
  refine lv_aload_n hx hb dX0_copyFrom_16 rfl (lv_at hl 1 rfl) ?_
  obtain ⟨v17, hv, hk⟩ := hk
  refine r_get (ci := 0) (k := 2) (T := TX0) (N := 11) C Z hv kuX0_copyFrom_0 rfl (by decide) kfX0_copyFrom_9 dX0_copyFrom_17 ?_
  refine lv_iconst (v := 0) hx hb dX0_copyFrom_20 (by decide) ?_
  refine lv_aload_n hx hb dX0_copyFrom_21 rfl (lv_at hl 0 rfl) ?_
  obtain ⟨v22, hv, hk⟩ := hk
  refine r_get (ci := 0) (k := 2) (T := TX0) (N := 11) C Z hv kuX0_copyFrom_0 rfl (by decide) kfX0_copyFrom_9 dX0_copyFrom_22 ?_
  refine lv_iconst (v := 0) hx hb dX0_copyFrom_25 (by decide) ?_
  refine lv_bipush (v := 40) hx hb dX0_copyFrom_26 (by decide) ?_
  obtain ⟨h28, hv, hk⟩ := hk
  refine r_copyI C Z hv (hml.trans hl.1.symm) (hts _ (List.mem_of_getElem? (i := 4) rfl)) (hts _ (show Cond.native arraycopyName ∈ wsX0_copyFrom by decide +kernel)) (hts _ (show Cond.static arraycopyName ∈ wsX0_copyFrom by decide +kernel)) (hts _ (show Cond.initialized "java/lang/System" ∈ wsX0_copyFrom by decide +kernel)) (Nat.le_of_ble_eq_true rfl) (Nat.le_of_ble_eq_true rfl) dX0_copyFrom_28 (fun H locs Z => ?_)
  refine lv_aload_n hx hb dX0_copyFrom_31 rfl (lv_at hl 1 rfl) ?_
  obtain ⟨v32, hv, hk⟩ := hk
  refine r_get (ci := 0) (k := 3) (T := TX0) (N := 11) C Z hv kuX0_copyFrom_0 rfl (by decide) kfX0_copyFrom_15 dX0_copyFrom_32 ?_
  refine lv_iconst (v := 0) hx hb dX0_copyFrom_35 (by decide) ?_
  refine lv_aload_n hx hb dX0_copyFrom_36 rfl (lv_at hl 0 rfl) ?_
  obtain ⟨v37, hv, hk⟩ := hk
  refine r_get (ci := 0) (k := 3) (T := TX0) (N := 11) C Z hv kuX0_copyFrom_0 rfl (by decide) kfX0_copyFrom_15 dX0_copyFrom_37 ?_
  refine lv_iconst (v := 0) hx hb dX0_copyFrom_40 (by decide) ?_
  refine lv_bipush (v := 40) hx hb dX0_copyFrom_41 (by decide) ?_
  obtain ⟨h43, hv, hk⟩ := hk
  refine r_copyI C Z hv (hml.trans hl.1.symm) (hts _ (List.mem_of_getElem? (i := 4) rfl)) (hts _ (show Cond.native arraycopyName ∈ wsX0_copyFrom by decide +kernel)) (hts _ (show Cond.static arraycopyName ∈ wsX0_copyFrom by decide +kernel)) (hts _ (show Cond.initialized "java/lang/System" ∈ wsX0_copyFrom by decide +kernel)) (Nat.le_of_ble_eq_true rfl) (Nat.le_of_ble_eq_true rfl) dX0_copyFrom_43 (fun H locs Z => ?_)
  refine lv_aload_n hx hb dX0_copyFrom_46 rfl (lv_at hl 1 rfl) ?_
  obtain ⟨v47, hv, hk⟩ := hk
  refine r_get (ci := 0) (k := 4) (T := TX0) (N := 11) C Z hv kuX0_copyFrom_0 rfl (by decide) kfX0_copyFrom_18 dX0_copyFrom_47 ?_
  refine lv_iconst (v := 0) hx hb dX0_copyFrom_50 (by decide) ?_
  refine lv_aload_n hx hb dX0_copyFrom_51 rfl (lv_at hl 0 rfl) ?_
  obtain ⟨v52, hv, hk⟩ := hk
  refine r_get (ci := 0) (k := 4) (T := TX0) (N := 11) C Z hv kuX0_copyFrom_0 rfl (by decide) kfX0_copyFrom_18 dX0_copyFrom_52 ?_
  refine lv_iconst (v := 0) hx hb dX0_copyFrom_55 (by decide) ?_
  refine lv_bipush (v := 40) hx hb dX0_copyFrom_56 (by decide) ?_
  obtain ⟨h58, hv, hk⟩ := hk
  refine r_copyI C Z hv (hml.trans hl.1.symm) (hts _ (List.mem_of_getElem? (i := 4) rfl)) (hts _ (show Cond.native arraycopyName ∈ wsX0_copyFrom by decide +kernel)) (hts _ (show Cond.static arraycopyName ∈ wsX0_copyFrom by decide +kernel)) (hts _ (show Cond.initialized "java/lang/System" ∈ wsX0_copyFrom by decide +kernel)) (Nat.le_of_ble_eq_true rfl) (Nat.le_of_ble_eq_true rfl) dX0_copyFrom_58 (fun H locs Z => ?_)
  refine lv_aload_n hx hb dX0_copyFrom_61 rfl (lv_at hl 1 rfl) ?_
  obtain ⟨v62, hv, hk⟩ := hk
  refine r_get (ci := 0) (k := 5) (T := TX0) (N := 11) C Z hv kuX0_copyFrom_0 rfl (by decide) kfX0_copyFrom_21 dX0_copyFrom_62 ?_
  refine lv_iconst (v := 0) hx hb dX0_copyFrom_65 (by decide) ?_
  refine lv_aload_n hx hb dX0_copyFrom_66 rfl (lv_at hl 0 rfl) ?_
  obtain ⟨v67, hv, hk⟩ := hk
  refine r_get (ci := 0) (k := 5) (T := TX0) (N := 11) C Z hv kuX0_copyFrom_0 rfl (by decide) kfX0_copyFrom_21 dX0_copyFrom_67 ?_
  refine lv_iconst (v := 0) hx hb dX0_copyFrom_70 (by decide) ?_
  refine lv_bipush (v := 40) hx hb dX0_copyFrom_71 (by decide) ?_
  obtain ⟨h73, hv, hk⟩ := hk
  refine r_copyL C Z hv (hml.trans hl.1.symm) (hts _ (List.mem_of_getElem? (i := 4) rfl)) (hts _ (show Cond.native arraycopyName ∈ wsX0_copyFrom by decide +kernel)) (hts _ (show Cond.static arraycopyName ∈ wsX0_copyFrom by decide +kernel)) (hts _ (show Cond.initialized "java/lang/System" ∈ wsX0_copyFrom by decide +kernel)) (Nat.le_of_ble_eq_true rfl) (Nat.le_of_ble_eq_true rfl) dX0_copyFrom_73 (fun H locs Z => ?_)
  refine lv_aload_n hx hb dX0_copyFrom_76 rfl (lv_at hl 1 rfl) ?_
  obtain ⟨v77, hv, hk⟩ := hk
  refine r_get (ci := 0) (k := 6) (T := TX0) (N := 11) C Z hv kuX0_copyFrom_0 rfl (by decide) kfX0_copyFrom_25 dX0_copyFrom_77 ?_
  refine lv_iconst (v := 0) hx hb dX0_copyFrom_80 (by decide) ?_
  refine lv_aload_n hx hb dX0_copyFrom_81 rfl (lv_at hl 0 rfl) ?_
  obtain ⟨v82, hv, hk⟩ := hk
  refine r_get (ci := 0) (k := 6) (T := TX0) (N := 11) C Z hv kuX0_copyFrom_0 rfl (by decide) kfX0_copyFrom_25 dX0_copyFrom_82 ?_
  refine lv_iconst (v := 0) hx hb dX0_copyFrom_85 (by decide) ?_
  refine lv_bipush (v := 40) hx hb dX0_copyFrom_86 (by decide) ?_
  obtain ⟨h88, hv, hk⟩ := hk
  refine r_copyL C Z hv (hml.trans hl.1.symm) (hts _ (List.mem_of_getElem? (i := 4) rfl)) (hts _ (show Cond.native arraycopyName ∈ wsX0_copyFrom by decide +kernel)) (hts _ (show Cond.static arraycopyName ∈ wsX0_copyFrom by decide +kernel)) (hts _ (show Cond.initialized "java/lang/System" ∈ wsX0_copyFrom by decide +kernel)) (Nat.le_of_ble_eq_true rfl) (Nat.le_of_ble_eq_true rfl) dX0_copyFrom_88 (fun H locs Z => ?_)
  refine lv_aload_n hx hb dX0_copyFrom_91 rfl (lv_at hl 1 rfl) ?_
  obtain ⟨v92, hv, hk⟩ := hk
  refine r_get (ci := 0) (k := 7) (T := TX0) (N := 11) C Z hv kuX0_copyFrom_0 rfl (by decide) kfX0_copyFrom_28 dX0_copyFrom_92 ?_
  refine lv_iconst (v := 0) hx hb dX0_copyFrom_95 (by decide) ?_
  refine lv_aload_n hx hb dX0_copyFrom_96 rfl (lv_at hl 0 rfl) ?_
  obtain ⟨v97, hv, hk⟩ := hk
  refine r_get (ci := 0) (k := 7) (T := TX0) (N := 11) C Z hv kuX0_copyFrom_0 rfl (by decide) kfX0_copyFrom_28 dX0_copyFrom_97 ?_
  refine lv_iconst (v := 0) hx hb dX0_copyFrom_100 (by decide) ?_
  refine lv_iconst (v := 3) hx hb dX0_copyFrom_101 (by decide) ?_
  obtain ⟨h102, hv, hk⟩ := hk
  refine r_copyI C Z hv (hml.trans hl.1.symm) (hts _ (List.mem_of_getElem? (i := 4) rfl)) (hts _ (show Cond.native arraycopyName ∈ wsX0_copyFrom by decide +kernel)) (hts _ (show Cond.static arraycopyName ∈ wsX0_copyFrom by decide +kernel)) (hts _ (show Cond.initialized "java/lang/System" ∈ wsX0_copyFrom by decide +kernel)) (Nat.le_of_ble_eq_true rfl) (Nat.le_of_ble_eq_true rfl) dX0_copyFrom_102 (fun H locs Z => ?_)
  refine lv_aload_n hx hb dX0_copyFrom_105 rfl (lv_at hl 1 rfl) ?_
  obtain ⟨v106, hv, hk⟩ := hk
  refine r_get (ci := 0) (k := 8) (T := TX0) (N := 11) C Z hv kuX0_copyFrom_0 rfl (by decide) kfX0_copyFrom_31 dX0_copyFrom_106 ?_
  refine lv_iconst (v := 0) hx hb dX0_copyFrom_109 (by decide) ?_
  refine lv_aload_n hx hb dX0_copyFrom_110 rfl (lv_at hl 0 rfl) ?_
  obtain ⟨v111, hv, hk⟩ := hk
  refine r_get (ci := 0) (k := 8) (T := TX0) (N := 11) C Z hv kuX0_copyFrom_0 rfl (by decide) kfX0_copyFrom_31 dX0_copyFrom_111 ?_
  refine lv_iconst (v := 0) hx hb dX0_copyFrom_114 (by decide) ?_
  refine lv_iconst (v := 4) hx hb dX0_copyFrom_115 (by decide) ?_
  obtain ⟨h116, hv, hk⟩ := hk
  refine r_copyI C Z hv (hml.trans hl.1.symm) (hts _ (List.mem_of_getElem? (i := 4) rfl)) (hts _ (show Cond.native arraycopyName ∈ wsX0_copyFrom by decide +kernel)) (hts _ (show Cond.static arraycopyName ∈ wsX0_copyFrom by decide +kernel)) (hts _ (show Cond.initialized "java/lang/System" ∈ wsX0_copyFrom by decide +kernel)) (Nat.le_of_ble_eq_true rfl) (Nat.le_of_ble_eq_true rfl) dX0_copyFrom_116 (fun H locs Z => ?_)
  refine lv_aload_n hx hb dX0_copyFrom_119 rfl (lv_at hl 1 rfl) ?_
  obtain ⟨v120, hv, hk⟩ := hk
  refine r_get (ci := 0) (k := 9) (T := TX0) (N := 11) C Z hv kuX0_copyFrom_0 rfl (by decide) kfX0_copyFrom_34 dX0_copyFrom_120 ?_
  refine lv_iconst (v := 0) hx hb dX0_copyFrom_123 (by decide) ?_
  refine lv_aload_n hx hb dX0_copyFrom_124 rfl (lv_at hl 0 rfl) ?_
  obtain ⟨v125, hv, hk⟩ := hk
  refine r_get (ci := 0) (k := 9) (T := TX0) (N := 11) C Z hv kuX0_copyFrom_0 rfl (by decide) kfX0_copyFrom_34 dX0_copyFrom_125 ?_
  refine lv_iconst (v := 0) hx hb dX0_copyFrom_128 (by decide) ?_
  refine lv_bipush (v := 6) hx hb dX0_copyFrom_129 (by decide) ?_
  obtain ⟨h131, hv, hk⟩ := hk
  refine r_copyI C Z hv (hml.trans hl.1.symm) (hts _ (List.mem_of_getElem? (i := 4) rfl)) (hts _ (show Cond.native arraycopyName ∈ wsX0_copyFrom by decide +kernel)) (hts _ (show Cond.static arraycopyName ∈ wsX0_copyFrom by decide +kernel)) (hts _ (show Cond.initialized "java/lang/System" ∈ wsX0_copyFrom by decide +kernel)) (Nat.le_of_ble_eq_true rfl) (Nat.le_of_ble_eq_true rfl) dX0_copyFrom_131 (fun H locs Z => ?_)
  refine lv_aload_n hx hb dX0_copyFrom_134 rfl (lv_at hl 1 rfl) ?_
  obtain ⟨v135, hv, hk⟩ := hk
  refine r_get (ci := 0) (k := 10) (T := TX0) (N := 11) C Z hv kuX0_copyFrom_0 rfl (by decide) kfX0_copyFrom_37 dX0_copyFrom_135 ?_
  refine lv_iconst (v := 0) hx hb dX0_copyFrom_138 (by decide) ?_
  refine lv_aload_n hx hb dX0_copyFrom_139 rfl (lv_at hl 0 rfl) ?_
  obtain ⟨v140, hv, hk⟩ := hk
  refine r_get (ci := 0) (k := 10) (T := TX0) (N := 11) C Z hv kuX0_copyFrom_0 rfl (by decide) kfX0_copyFrom_37 dX0_copyFrom_140 ?_
  refine lv_iconst (v := 0) hx hb dX0_copyFrom_143 (by decide) ?_
  refine lv_sipush (v := 240) hx hb dX0_copyFrom_144 (by decide) ?_
  obtain ⟨h147, hv, hk⟩ := hk
  refine r_copyI C Z hv (hml.trans hl.1.symm) (hts _ (List.mem_of_getElem? (i := 4) rfl)) (hts _ (show Cond.native arraycopyName ∈ wsX0_copyFrom by decide +kernel)) (hts _ (show Cond.static arraycopyName ∈ wsX0_copyFrom by decide +kernel)) (hts _ (show Cond.initialized "java/lang/System" ∈ wsX0_copyFrom by decide +kernel)) (Nat.le_of_ble_eq_true rfl) (Nat.le_of_ble_eq_true rfl) dX0_copyFrom_147 (fun H locs Z => ?_)
  exact r_vret C Z hr hk dX0_copyFrom_150
