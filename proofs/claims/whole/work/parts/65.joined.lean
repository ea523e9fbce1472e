/-! a run on both sides -/
theorem run_two {tn : Nat} {X : Nat → Nat} (ht : tn ≤ 140) (hX : ∀ i, i < tn → 1 ≤ X i ∧ X i ≤ 255) : ∀ d a, a + d = tn → ∀ N V c s k b, OK N V → N + d < 2 ^ 29 → c ≤ a → TK X tn a s k b →
    (∃ V' c', OK (N + d) V' ∧ (∀ i, 455 ≤ i → V' i = V i) ∧ c' ≤ 140 ∧ rcD X tn V a c V' c' ∧ rrD X tn V s c V' c') ∨ (∃ k1 k2 k3 k4 : Int32, rcF X tn V a c k1 k2 k3 k4 ∧ rrF X tn V s c k1 k2 k3 k4) := by
  intro d
  induction d using Nat.strongRecOn with
  | _ d ih =>
    intro a had N V c s k b ok hN hca Q
    have sb := Q.sb
    by_cases k0 : k = 0
    · have hs : s = tn := by
        rcases Q.2 with ⟨e, -⟩ | ⟨-, e, -⟩
        · exact e
        · have := kd_le (X s); omega
      exact Or.inl ⟨V, c, ok.mono (by omega), fun _ _ => rfl, by omega, rc_end ht hX (by omega) Q k0, rr_end ht hs⟩
    · cases hw : wd X k s b with
      | none => exact Or.inr ⟨_, _, _, _, rc_noword ht hX (by omega) Q (by omega) hw, rr_noword ht hX Q (by omega) hw⟩
      | some w =>
        obtain ⟨w5, k1, -⟩ := wd_some hw
        rcases cmd_two (w := w) (b := b) ht hX w5 sb.2.2.1 with ⟨f, f1, f2, f3⟩ | ⟨v1, v2, p, p1, p2, p3, p4, p5, o1, o2⟩
        · exact Or.inr ⟨_, _, _, _, rc_wrong ht hX (by omega) Q hw f2, rr_wrong ht hX Q hw f3⟩
        · obtain ⟨r, V', hc, t1, t2⟩ := act_cmd ok (by omega) w5 p3 p5 (w := w) (v1 := v1) (v2 := v2)
          obtain ⟨s', k', b', Qp⟩ := tk_ex X tn p p2
          have sl := sb.2.2.2 (Q.lt (by omega))
          have z0' : (nI 0).toInt = 0 := by decide
          rcases hc with ⟨c1, c2, c3⟩ | ⟨c1, c2, c3⟩
          · refine Or.inr ⟨nI 2, nI s, nI c, r, fun h z F fl f5 f6 kv sv K C P hk m hm => ?_, fun h M n W P e K R ty ea hk m hm => ?_⟩
            · obtain ⟨m, rfl⟩ : ∃ m', m = m' + 1 := ⟨m - 1, by omega⟩
              exact rc_go ht hX (by omega) Q hw o1 t1 h z F fl f5 f6 kv sv K C P m (fun h1 F1 _ _ _ _ fr1 C1 P1 => ⟨fun q => by rw [le32, z0'] at q; omega, fun _ => c_fail P1 _ _ _ _ (fun h2 fr2 P2 => hk h2 V' F1 _ _ _ _ _ (fun q q1 q2 q3 => (fr2 q q2).trans (fr1 q q1 q2 q3)) (C1.fr (fun q q1 q2 => fr2 q (by omega))) P2)⟩)
            · obtain ⟨m, rfl⟩ : ∃ m', m = m' + 1 := ⟨m - 1, by omega⟩
              refine rr_go ht hX Q hw o2 Qp t2 h M n W P e K R ea m (fun _ h1 e1 fr1 R1 ty1 => e_fails R1 _ _ _ _ (fun h2 e2 fr2 R2 y1 y2 => hk h2 e2 (fun q q1 q2 q3 => (fr2 q q1 q2).trans (fr1 q q1 q2 q3)) R2 ?_ y1)) (fun q => by omega) c1
              obtain ⟨a1, a2, a3, a4, a5, a6⟩ := ty1
              exact ⟨by rw [y2 11 (by omega)]; exact a1, by rw [y2 12 (by omega)]; exact a2, by rw [y2 13 (by omega)]; exact a3, by rw [y2 14 (by omega)]; exact a4, by rw [y2 15 (by omega)]; exact a5, by rw [y2 16 (by omega)]; exact a6⟩
          · have gC : ∀ (h : Hp) (z : Nat) (F : Nat → Nat → Int32) (fl : Nat → Int32) (f5 f6 : Int64) (kv sv : Int32) (K : Int32 → Hp → Prop), CK h z V F → PN h z X tn fl f5 f6 kv sv a → ∀ m, (∀ h' F' f5 f6 kv sv, (∀ q, (q < z + 3 ∨ z + 27 ≤ q) → q ≠ z + 256 → q ≠ z + 257 → h' q = h q) → CK h' z V' F' → PN h' z X tn fl f5 f6 kv sv p → wp_X3_runWith_9 K (z + 256) (z + 1) m (nI (c + 1)) h') → wp_X3_runWith_9 K (z + 256) (z + 1) (m + 1) (nI c) h := fun h z F fl f5 f6 kv sv K C P m g => rc_go ht hX (by omega) Q hw o1 t1 h z F fl f5 f6 kv sv K C P m (fun h1 F1 _ _ _ _ fr1 C1 P1 => ⟨fun _ => g h1 F1 _ _ _ _ fr1 C1 P1, fun q => absurd (by rw [le32, z0']; exact c1) q⟩)
            rcases ih (tn - p) (by omega) p (by omega) (N + 1) V' (c + 1) s' k' b' c2 (by omega) (by omega) Qp with ⟨V2, c', a1, a2, a3, a4, a5⟩ | ⟨k1, k2, k3, k4, a4, a5⟩
            · refine Or.inl ⟨V2, c', a1.mono (by omega), fun i hi => (a2 i hi).trans (c3 i hi), a3, fun h z F fl f5 f6 kv sv K C P hk m hm => ?_, fun h M n W P e K R ty ea hk m hm => ?_⟩
              · obtain ⟨m, rfl⟩ : ∃ m', m = m' + 1 := ⟨m - 1, by omega⟩
                exact gC h z F fl f5 f6 kv sv K C P m (fun h1 F1 _ _ _ _ fr1 C1 P1 => a4 h1 z F1 _ _ _ _ _ K C1 P1 (fun h2 F2 _ _ _ _ _ fr2 C2 P2 => hk h2 F2 _ _ _ _ _ (fun q q1 q2 q3 => (fr2 q q1 q2 q3).trans (fr1 q q1 q2 q3)) C2 P2) m (by omega))
              · obtain ⟨m, rfl⟩ : ∃ m', m = m' + 1 := ⟨m - 1, by omega⟩
                exact rr_go ht hX Q hw o2 Qp t2 h M n W P e K R ea m (fun q => by omega) (fun _ h1 e1 fr1 R1 ty1 x1 y1 => a5 h1 M n W P e1 K R1 ty1 y1 (fun h2 e2 fr2 R2 ty2 x2 => hk h2 e2 (fun q q1 q2 q3 => (fr2 q q1 q2 q3).trans (fr1 q q1 q2 q3)) R2 ty2 (fun j j1 j2 => (x2 j j1 j2).trans (x1 j j1 j2))) m (by have := Qp.sb; omega)) (by omega)
            · refine Or.inr ⟨k1, k2, k3, k4, fun h z F fl f5 f6 kv sv K C P hk m hm => ?_, fun h M n W P e K R ty ea hk m hm => ?_⟩
              · obtain ⟨m, rfl⟩ : ∃ m', m = m' + 1 := ⟨m - 1, by omega⟩
                exact gC h z F fl f5 f6 kv sv K C P m (fun h1 F1 _ _ _ _ fr1 C1 P1 => a4 h1 z F1 _ _ _ _ _ K C1 P1 (fun h2 V3 F2 _ _ _ _ _ fr2 C2 P2 => hk h2 V3 F2 _ _ _ _ _ (fun q q1 q2 q3 => (fr2 q q1 q2 q3).trans (fr1 q q1 q2 q3)) C2 P2) m (by omega))
              · obtain ⟨m, rfl⟩ : ∃ m', m = m' + 1 := ⟨m - 1, by omega⟩
                exact rr_go ht hX Q hw o2 Qp t2 h M n W P e K R ea m (fun q => by omega) (fun _ h1 e1 fr1 R1 ty1 x1 y1 => a5 h1 M n W P e1 K R1 ty1 y1 (fun h2 e2 fr2 R2 ty2 x2 => hk h2 e2 (fun q q1 q2 q3 => (fr2 q q1 q2 q3).trans (fr1 q q1 q2 q3)) R2 ty2 x2) m (by have := Qp.sb; omega)) (by omega)
