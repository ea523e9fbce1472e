/-! the sign behind a command, a number, on both sides -/
section SM
variable {h : Hp} {z tn : Nat} {X : Nat → Nat} {fl : Nat → Int32} {f5 f6 : Int64} {kv sv : Int32}
theorem c_readSemicolon {K : Int32 → Hp → Prop} {a s k b : Nat} (ht : tn ≤ 140) (hX : ∀ i, i < tn → 1 ≤ X i ∧ X i ≤ 255) (P : PN h z X tn fl f5 f6 kv sv a) (Q : TK X tn a s k b) (hk : ∀ h', (∀ q, q ≠ z + 257 → h' q = h q) → PN h' z X tn fl f5 f6 (nI k) (nI s) b → K (bI (k = 3 ∧ X s = 59)) h') : wp_X3_readSemicolon (z + 256) K h := by
  refine ⟨_, P.2.1, P.2.2.2.2.2.1, c_tok ht hX P.2.2.2.2.2 Q (fun h' fr T => ?_)⟩
  have P' := P.text fr T
  exact ⟨_, P'.2.1, T.1, c_isSemicolon T ht hX Q.k3 (fun e => Q.lt (by omega)) ⟨bI_01 _, hk h' fr P'⟩⟩
/-- a number read by the class: a token, whether it is one, its value -/
theorem c_tokN {K : Int32 → Hp → Prop} {a s k b : Nat} (ht : tn ≤ 140) (hX : ∀ i, i < tn → 1 ≤ X i ∧ X i ≤ 255) (P : PN h z X tn fl f5 f6 kv sv a) (Q : TK X tn a s k b) (hk : K (bI (isN X k s b)) h) (T : TX h (z + 257) X tn (nI k) (nI s) b) : wp_X7_isNumber (z + 257) K h :=
  c_isNumber T ht hX Q.k3 Q.sb.2.1 Q.sb.2.2.1 (fun e => Q.sb.2.2.2 (Q.lt (by omega))) hk
theorem TK.dig {a s k b : Nat} (Q : TK X tn a s k b) (hk : k = 2) : ∀ j, s ≤ j → j < b → 48 ≤ X j ∧ X j ≤ 57 := by
  have R := Q.ru (c := 2) (Or.inr rfl)
  rw [if_pos hk] at R
  exact fun j h1 h2 => kd_2.mp (R.2.2.1 j h1 h2)
theorem nval_lt {s : Nat} : ∀ {m : Nat}, (∀ i, i < m → X (s + i) ≤ 57) → nval X s m < 10 ^ m
  | 0, _ => Nat.one_pos
  | m + 1, hd => by
    have h1 := nval_lt (s := s) (m := m) (fun i hi => hd i (by omega))
    have h2 := hd m (by omega)
    unfold nval
    rw [Nat.pow_succ]
    omega
end SM
section SR2
variable {h : Hp} {M n tn : Nat} {V W P X : Nat → Nat} {e : Nat → Value}
/-- the reference at the sign: s where it is sought -/
theorem e_sem {K : Int64 → Hp → Prop} {x1 v2 : Int64} {a s k b : Nat} (ht : tn ≤ 140) (hX : ∀ i, i < tn → 1 ≤ X i ∧ X i ≤ 255) (R : RR h M V W P n X tn e) (Q : TK X tn a s k b) (ea : e 11 = .int (nI a)) (ew : e 13 = .int (nI 0)) (hk : ∀ h' e', (∀ q, q ≠ M → h' q = h q) → RR h' M V W P n X tn e' → e' 11 = .int (nI (s + 1)) → e' 12 = .int (nI s) → e' 13 = .int (bI (¬ (k = 3 ∧ X s = 59))) → e' 16 = .long v2 → (∀ j, j ≠ 11 → j ≠ 12 → j ≠ 13 → j ≠ 16 → e' j = e j) → K x1 h') : wp_X9_readsCommand_121 K M x1 M v2 h := by
  obtain ⟨h1, p1, o1, R1⟩ := R.fset (k := 16) (by omega) (by omega) (.long v2)
  refine ⟨h1, p1, _, R1.fg (by omega) (by omega) ((ue_n (by omega)).trans ew), tkn rfl ⟨R1.1.1, e_begins R1 ht hX Q.1 ((ue_n (by omega)).trans ea) (fun h2 e2 fr2 R2 x1' x2' x3' => ?_)⟩⟩
  have y13 : e2 13 = .int (nI 0) := (x3' 13 (by omega) (by omega)).trans ((ue_n (by omega)).trans ew)
  have fin : ∀ v : Int32, v = bI (¬ (k = 3 ∧ X s = 59)) → ∃ h150, pF h2 M 9 13 (.int v) = some h150 ∧ (∃ v155 : Int32, gF h150 M 9 11 = some (.int v155) ∧ (∃ h160, pF h150 M 9 11 (.int (v155 + (nI 1))) = some h160 ∧ (K x1 h160))) := by
    intro v ev
    subst ev
    obtain ⟨h3, p3, o3, R3⟩ := R2.fset (k := 13) (by omega) (by omega) (.int (bI (¬ (k = 3 ∧ X s = 59))))
    obtain ⟨h4, p4, o4, R4⟩ := R3.fset (k := 11) (by omega) (by omega) (.int (nI (s + 1)))
    refine ⟨h3, p3, _, R3.fg (by omega) (by omega) ((ue_n (by omega)).trans x1'), h4, (by rw [nI_add]; exact p4), hk h4 _ (fun q hq => (o4 q hq).trans ((o3 q hq).trans ((fr2 q hq).trans (o1 q hq)))) R4 (ue_s _ _ _) ((ue_n (by omega)).trans ((ue_n (by omega)).trans x2')) ((ue_n (by omega)).trans (ue_s _ _ _)) ((ue_n (by omega)).trans ((ue_n (by omega)).trans ((x3' 16 (by omega) (by omega)).trans (ue_s _ _ _)))) (fun j j1 j2 j3 j4 => (ue_n j1).trans ((ue_n j3).trans ((x3' j j1 j2).trans (ue_n j4))))⟩
  have hs := Q.1.2.1
  have k59 : s < tn → X s = 59 → k = 3 := fun h1 h2 => by
    rcases Q.2 with ⟨q, -⟩ | ⟨-, q, -⟩
    · omega
    · rw [q, h2]
      decide
  refine ⟨R2.1.1, e_next R2 ht hs x1' (fun q => sk (by decide) (fin _ (bI_t (show ¬ (k = 3 ∧ X s = 59) from fun u => by have := Q.lt (show 0 < k by omega); omega)).symm)) (fun q => b_eq (by have := hX s q; omega) (by omega) (fun u => fin _ (bI_f (show ¬ ¬ (k = 3 ∧ X s = 59) from fun v => v ⟨k59 q u, u⟩)).symm) (fun u => fin _ (bI_t (show ¬ (k = 3 ∧ X s = 59) from fun v => u v.2)).symm))⟩
theorem e_semW {K : Int64 → Hp → Prop} {x1 v2 : Int64} (R : RR h M V W P n X tn e) (ew : e 13 = .int (nI 1)) (hk : ∀ h' e', (∀ q, q ≠ M → h' q = h q) → RR h' M V W P n X tn e' → e' 16 = .long v2 → (∀ j, j ≠ 16 → e' j = e j) → K x1 h') : wp_X9_readsCommand_121 K M x1 M v2 h := by
  obtain ⟨h1, p1, o1, R1⟩ := R.fset (k := 16) (by omega) (by omega) (.long v2)
  exact ⟨h1, p1, _, R1.fg (by omega) (by omega) ((ue_n (by omega)).trans ew), skn (by decide) (hk h1 _ o1 R1 (ue_s _ _ _) (fun j hj => ue_n hj))⟩
theorem e_numW {K : Int64 → Hp → Prop} {f : Int32} (R : RR h M V W P n X tn e) (ew : e 13 = .int (nI 1)) (hk : K (lN 0) h) : wp_X9_numberNext M f K h :=
  ⟨_, R.fg (by omega) (by omega) ew, sk (by decide) hk⟩
end SR2
