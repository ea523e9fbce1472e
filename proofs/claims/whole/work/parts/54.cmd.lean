/-! a command's tokens, on both sides -/
/-- the token behind place a: it begins at s, its kind k, it ends at b -/
def TK (X : Nat → Nat) (tn a s k b : Nat) : Prop := SK X tn a s ∧ ((s = tn ∧ k = 0 ∧ b = s) ∨ (s < tn ∧ k = kd (X s) ∧ ((k = 3 ∧ b = s + 1) ∨ (k ≠ 3 ∧ RU X tn k (s + 1) b))))
theorem tk_ex (X : Nat → Nat) (tn a : Nat) (ha : a ≤ tn) : ∃ s k b, TK X tn a s k b := by
  obtain ⟨s, S⟩ := sk_ex X tn (tn - a) a (by omega)
  by_cases z : s = tn
  · exact ⟨s, 0, s, S, Or.inl ⟨z, rfl, rfl⟩⟩
  · have hs : s < tn := by have := S.2.1; omega
    by_cases y : kd (X s) = 3
    · exact ⟨s, kd (X s), s + 1, S, Or.inr ⟨hs, rfl, Or.inl ⟨y, rfl⟩⟩⟩
    · obtain ⟨b, R⟩ := ru_ex X tn (kd (X s)) (tn - (s + 1)) (s + 1) (by omega)
      exact ⟨s, kd (X s), b, S, Or.inr ⟨hs, rfl, Or.inr ⟨y, R⟩⟩⟩
theorem TK.k3 {X : Nat → Nat} {tn a s k b : Nat} (Q : TK X tn a s k b) : k ≤ 3 := by
  rcases Q.2 with ⟨-, h, -⟩ | ⟨-, h, -⟩
  · omega
  · rw [h]; exact (kd_le _).2
theorem TK.sb {X : Nat → Nat} {tn a s k b : Nat} (Q : TK X tn a s k b) : a ≤ s ∧ s ≤ b ∧ b ≤ tn ∧ (s < tn → s < b) := by
  have h1 := Q.1.1
  have h2 := Q.1.2.1
  rcases Q.2 with ⟨e, -, h⟩ | ⟨e, -, ⟨-, h⟩ | ⟨-, h⟩⟩
  · omega
  · omega
  · have := h.1; have := h.2.1; omega
theorem TK.lt {X : Nat → Nat} {tn a s k b : Nat} (Q : TK X tn a s k b) (hk : 0 < k) : s < tn := by
  rcases Q.2 with ⟨-, h, -⟩ | ⟨h, -⟩
  · omega
  · exact h
/-- the run of kind c from s on -/
theorem TK.ru {X : Nat → Nat} {tn a s k b c : Nat} (Q : TK X tn a s k b) (hc : c = 1 ∨ c = 2) : RU X tn c s (if k = c then b else s) := by
  by_cases z : k = c
  · rw [if_pos z]
    rcases Q.2 with ⟨-, h, -⟩ | ⟨e, h, ⟨h3, -⟩ | ⟨-, R⟩⟩
    · omega
    · omega
    · rw [z] at R h
      exact R.back h.symm
  · rw [if_neg z]
    refine RU.stop Q.1.2.1 (fun h y => ?_)
    rcases Q.2 with ⟨e, -⟩ | ⟨-, e, -⟩
    · omega
    · exact z (e.trans y)
theorem TK.bad {X : Nat → Nat} {tn a s k b : Nat} (Q : TK X tn a s k b) : ¬ badN X 0 s (if k = 2 then b else s) ↔ isN X k s b := by
  have sb := Q.sb
  by_cases z : k = 2
  · have := Q.lt (by omega)
    rw [if_pos z]
    omega
  · rw [if_neg z]
    omega
theorem TK.badR {X : Nat → Nat} {tn a s k b : Nat} (Q : TK X tn a s k b) : ¬ badN X 1 s (if k = 2 then b else s) ↔ (k = 2 ∧ b - s = 12) := by
  have sb := Q.sb
  by_cases z : k = 2
  · rw [if_pos z]
    omega
  · rw [if_neg z]
    omega
/-- the word a token is -/
def wd (X : Nat → Nat) (k s b : Nat) : Option Nat := if k = 1 ∧ isw X s b 0 then some 0 else if k = 1 ∧ isw X s b 1 then some 1 else if k = 1 ∧ isw X s b 2 then some 2 else if k = 1 ∧ isw X s b 3 then some 3 else if k = 1 ∧ isw X s b 4 then some 4 else none
theorem wd_some {X : Nat → Nat} {k s b w : Nat} (h : wd X k s b = some w) : w < 5 ∧ k = 1 ∧ isw X s b w := by
  unfold wd at h
  repeat' split at h
  all_goals first | cases h | skip
  all_goals (rename_i q; exact ⟨by omega, q⟩)
theorem wd_none {X : Nat → Nat} {k s b w : Nat} (h : wd X k s b = none) (hw : w < 5) : ¬ (k = 1 ∧ isw X s b w) := by
  unfold wd at h
  repeat' split at h
  all_goals first | cases h | skip
  rcases (show w = 0 ∨ w = 1 ∨ w = 2 ∨ w = 3 ∨ w = 4 by omega) with rfl | rfl | rfl | rfl | rfl <;> assumption
theorem wd_wv {X : Nat → Nat} {tn a s k b w : Nat} (Q : TK X tn a s k b) (hw : w < 5) : wv X s (if k = 1 then b else s) = wcode w ↔ wd X k s b = some w := by
  have R := Q.ru (c := 1) (Or.inl rfl)
  rw [wv_iff R hw]
  by_cases z : k = 1
  · rw [if_pos z]
    constructor
    · intro e
      cases h : wd X k s b with
      | none => exact absurd ⟨z, e⟩ (wd_none h hw)
      | some w' =>
        obtain ⟨h1, -, h2⟩ := wd_some h
        rw [isw_one h1 hw h2 e]
    · intro e
      exact (wd_some e).2.2
  · rw [if_neg z]
    constructor
    · intro e
      have := (wl_ok w hw).1
      have := e.1
      omega
    · intro e
      exact absurd (wd_some e).2.1 z
theorem c_tok {K : Hp → Prop} {h : Hp} {t tn a s k b : Nat} {X : Nat → Nat} {kv sv : Int32} (ht : tn ≤ 140) (hX : ∀ i, i < tn → 1 ≤ X i ∧ X i ≤ 255) (T : TX h t X tn kv sv a) (Q : TK X tn a s k b) (hk : ∀ h', (∀ q, q ≠ t → h' q = h q) → TX h' t X tn (nI k) (nI s) b → K h') : wp_X7_readToken t K h := by
  refine c_readToken ht hX Q.1 T (fun e h' fr T' => ?_) (fun e h' b' fr T' r => ?_)
  · rcases Q.2 with ⟨-, h1, h2⟩ | ⟨h1, -⟩
    · rw [h1, h2] at hk
      exact hk h' fr T'
    · omega
  · rcases Q.2 with ⟨h1, -⟩ | ⟨-, h1, h2⟩
    · omega
    · have eb : b' = b := by
        rcases r with ⟨r1, r2⟩ | ⟨r1, r2⟩ <;> rcases h2 with ⟨q1, q2⟩ | ⟨q1, q2⟩
        · omega
        · omega
        · omega
        · rw [h1] at q2
          exact r2.uniq q2
      rw [eb, ← h1] at T'
      exact hk h' fr T'
/-- the Program during a run -/
def PN (h : Hp) (z : Nat) (X : Nat → Nat) (tn : Nat) (fl : Nat → Int32) (f5 f6 : Int64) (kv sv : Int32) (en : Nat) : Prop :=
  isO h (z + 256) 3 ∧ gF h (z + 256) 3 0 = some (.ref (z + 257)) ∧ (∀ k, k < 4 → gF h (z + 256) 3 (k + 1) = some (.int (fl k))) ∧ gF h (z + 256) 3 5 = some (.long f5) ∧ gF h (z + 256) 3 6 = some (.long f6) ∧ TX h (z + 257) X tn kv sv en
section PNs
variable {h h' : Hp} {z tn en : Nat} {X : Nat → Nat} {fl : Nat → Int32} {f5 f6 : Int64} {kv sv : Int32}
theorem PN.text {kv' sv' : Int32} {en' : Nat} (P : PN h z X tn fl f5 f6 kv sv en) (fr : ∀ q, q ≠ z + 257 → h' q = h q) (T : TX h' (z + 257) X tn kv' sv' en') : PN h' z X tn fl f5 f6 kv' sv' en' := by
  obtain ⟨a, b, c, d, e, f⟩ := P
  refine ⟨isO_c (fr _ (by omega)) a, ?_, fun k hk => ?_, ?_, ?_, T⟩
  · rw [gF_c (fr _ (by omega))]; exact b
  · rw [gF_c (fr _ (by omega))]; exact c k hk
  · rw [gF_c (fr _ (by omega))]; exact d
  · rw [gF_c (fr _ (by omega))]; exact e
theorem PN.fr (P : PN h z X tn fl f5 f6 kv sv en) (e : ∀ q, (q = z + 256 ∨ q = z + 257 ∨ q = z + 258) → h' q = h q) : PN h' z X tn fl f5 f6 kv sv en := by
  obtain ⟨a, b, c, d, f, T⟩ := P
  refine ⟨isO_c (e _ (by omega)) a, ?_, fun k hk => ?_, ?_, ?_, T.fr (fun q hq => e q (by omega))⟩
  · rw [gF_c (e _ (by omega))]; exact b
  · rw [gF_c (e _ (by omega))]; exact c k hk
  · rw [gF_c (e _ (by omega))]; exact d
  · rw [gF_c (e _ (by omega))]; exact f
theorem PN.p5 (P : PN h z X tn fl f5 f6 kv sv en) (v : Int64) : ∃ h', pF h (z + 256) 3 5 (.long v) = some h' ∧ (∀ q, q ≠ z + 256 → h' q = h q) ∧ PN h' z X tn fl v f6 kv sv en := by
  obtain ⟨a, b, c, d, f, T⟩ := P
  obtain ⟨h', e, oo, g, io⟩ := pF_w d (.long v)
  refine ⟨h', e, oo, io, ?_, fun k hk => ?_, ?_, ?_, T.fr (fun q hq => oo q (by omega))⟩
  · rw [g 0, if_neg (by omega)]; exact b
  · rw [g (k + 1), if_neg (by omega)]; exact c k hk
  · rw [g 5, if_pos rfl]
  · rw [g 6, if_neg (by omega)]; exact f
theorem PN.p6 (P : PN h z X tn fl f5 f6 kv sv en) (v : Int64) : ∃ h', pF h (z + 256) 3 6 (.long v) = some h' ∧ (∀ q, q ≠ z + 256 → h' q = h q) ∧ PN h' z X tn fl f5 v kv sv en := by
  obtain ⟨a, b, c, d, f, T⟩ := P
  obtain ⟨h', e, oo, g, io⟩ := pF_w f (.long v)
  refine ⟨h', e, oo, io, ?_, fun k hk => ?_, ?_, ?_, T.fr (fun q hq => oo q (by omega))⟩
  · rw [g 0, if_neg (by omega)]; exact b
  · rw [g (k + 1), if_neg (by omega)]; exact c k hk
  · rw [g 5, if_neg (by omega)]; exact d
  · rw [g 6, if_pos rfl]
theorem c_wordHere {K : Int32 → Hp → Prop} {k s b : Nat} (ht : tn ≤ 140) (hX : ∀ i, i < tn → 1 ≤ X i ∧ X i ≤ 255) (P : PN h z X tn fl f5 f6 (nI k) (nI s) b) (hk3 : k ≤ 3) (hsb : s ≤ b) (hb : b ≤ tn) (hk : K (vI (wd X k s b)) h) : wp_X3_wordHere (z + 256) K h := by
  have T := P.2.2.2.2.2
  unfold wd at hk
  refine ⟨_, P.2.1, T.1, c_isWord T ht hX hk3 hsb hb (by omega) (br_b (fun q0 => ⟨_, P.2.1, T.1, c_isWord T ht hX hk3 hsb hb (by omega) (br_b (fun q1 => ⟨_, P.2.1, T.1, c_isWord T ht hX hk3 hsb hb (by omega) (br_b (fun q2 => ⟨_, P.2.1, T.1, c_isWord T ht hX hk3 hsb hb (by omega) (br_b (fun q3 => ⟨_, P.2.1, T.1, c_isWord T ht hX hk3 hsb hb (by omega) (br_b (fun q4 => ?_) (fun q4 => ?_))⟩) (fun q3 => ?_))⟩) (fun q2 => ?_))⟩) (fun q1 => ?_))⟩) (fun q0 => ?_))⟩
  · rw [if_neg q0, if_neg q1, if_neg q2, if_neg q3, if_neg q4] at hk; exact hk
  · rw [if_neg q0, if_neg q1, if_neg q2, if_neg q3, if_pos q4] at hk; exact hk
  · rw [if_neg q0, if_neg q1, if_neg q2, if_pos q3] at hk; exact hk
  · rw [if_neg q0, if_neg q1, if_pos q2] at hk; exact hk
  · rw [if_neg q0, if_pos q1] at hk; exact hk
  · rw [if_pos q0] at hk; exact hk
end PNs
