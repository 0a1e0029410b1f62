/-! Pure: the reference's table does what a table does. -/
theorem s_subLe {a b : Nat} (ha : a < 2 ^ 30) (hb : b < 2 ^ 30) : (nI a - nI b ≤ 0) = (a ≤ b) := by
  rw [Int32.le_iff_toInt_le, pk_sub_toInt ha hb]
  exact propext (by show (a : Int) - b ≤ 0 ↔ a ≤ b; omega)
def rM0 (z : MT) (t : Tb) : Prop := m_many z = nI (tN t) ∧ (∀ i, i < tN t → m_kind z i = nI (tKd t i)) ∧ m_odd z = nI (tOdd t) ∧ m_step z = nI (tStep t) ∧ m_bag z = nI (tBag t) ∧ m_strokes z = tSt t ∧ m_gave z = tGv t ∧ m_threw z = tTh t
theorem rM_0 {z : MT} {t : Tb} (h : rM z t) : rM0 z t := ⟨h.1, fun i hi => (h.2.1 i hi).1, h.2.2⟩
theorem rM_of {z : MT} {t : Tb} (h : rM0 z t) (hs : ∀ i, i < tN t → m_sweets z i = nI (tSw t i)) : rM z t := ⟨h.1, fun i hi => ⟨h.2.1 i hi, hs i hi⟩, h.2.2⟩
theorem q_leftOf {z : MT} {t : Tb} (hr : rM0 z t) (hok : okT t) {c : Nat} (hc : c < tN t) : f_M_leftOf z (nI c) = some (nI (lf t c)) := by
  obtain ⟨h8, -, -, h1, h3, -⟩ := hok
  unfold f_M_leftOf
  rw [hr.1, if_neg (nI_ne0 (by omega) (by omega)), hr.2.2.2.1, nI_add, nI_mod (by omega) (by omega) (by omega)]
  rfl
theorem q_rightOf {z : MT} {t : Tb} (hr : rM0 z t) (hok : okT t) {c : Nat} (hc : c < tN t) : f_M_rightOf z (nI c) = some (nI (rt t c)) := by
  obtain ⟨h8, -, -, h1, h3, -⟩ := hok
  unfold f_M_rightOf
  rw [hr.1, if_neg (nI_ne0 (by omega) (by omega)), hr.2.2.2.1, lI 3, pk_mul, nI_add, pk_sub (by omega), nI_mod (by omega) (by omega) (by omega)]
  rfl
theorem q_givesOf {z : MT} {t : Tb} (hr : rM z t) (hok : okT t) {c : Nat} (hc : c < tN t) : f_M_givesOf z (nI c) = some (nI (gf t c)) := by
  have hn := hok.1
  have hl := lf_lt (t := t) (c := c) (by omega)
  obtain ⟨hk6, hs9⟩ := hok.2.1 c hc
  have hs9' := (hok.2.1 _ hl).2
  obtain ⟨hk, hs⟩ := hr.2.1 c hc
  have hs' := (hr.2.1 _ hl).2
  unfold f_M_givesOf gf
  rw [q_leftOf (rM_0 hr) hok hc, Option.bind_some]
  by_cases hz : lf t c = c
  · simp (disch := omega) only [reduceIte, Nat.reduceEqDiff, Nat.zero_ne_one, Nat.one_ne_zero, lI, s_clamp, s_lt, s_le, s_eq, s_add, s_mul, s_sub, s_div, s_mod, s_leF, s_leT, s_ltF, s_ltT, if_true, if_false, Option.bind_some, or_false, false_or, not_true, not_false_eq_true, hz]
  have hd : (nI (tSw t c) - nI (tSw t (lf t c)) ≤ nI 0) = (tSw t c ≤ tSw t (lf t c)) := s_subLe (by omega) (by omega)
  have e : tKd t c = 0 ∨ tKd t c = 1 ∨ tKd t c = 2 ∨ tKd t c = 3 ∨ tKd t c = 4 ∨ tKd t c = 5 ∨ tKd t c = 6 := by omega
  rcases e with e | e | e | e | e | e | e
  all_goals rw [e] at hk
  all_goals simp only [hz, e, if_false]
  · simp (disch := omega) only [reduceIte, Nat.reduceEqDiff, Nat.zero_ne_one, Nat.one_ne_zero, lI, s_clamp, s_lt, s_le, s_eq, s_add, s_mul, s_sub, s_div, s_mod, s_leF, s_leT, s_ltF, s_ltT, if_true, if_false, Option.bind_some, or_false, false_or, not_true, not_false_eq_true, hk, hs, hs', hz]
  · simp (disch := omega) only [reduceIte, Nat.reduceEqDiff, Nat.zero_ne_one, Nat.one_ne_zero, lI, s_clamp, s_lt, s_le, s_eq, s_add, s_mul, s_sub, s_div, s_mod, s_leF, s_leT, s_ltF, s_ltT, if_true, if_false, Option.bind_some, or_false, false_or, not_true, not_false_eq_true, hk, hs, hs', hz]
  · by_cases hx : tSw t c ≤ tSw t (lf t c)
    · simp (disch := omega) only [reduceIte, Nat.reduceEqDiff, Nat.zero_ne_one, Nat.one_ne_zero, lI, s_clamp, s_lt, s_le, s_eq, s_add, s_mul, s_sub, s_div, s_mod, s_leF, s_leT, s_ltF, s_ltT, if_true, if_false, Option.bind_some, or_false, false_or, not_true, not_false_eq_true, hk, hs, hs', hz, hd, hx]
    · simp (disch := omega) only [reduceIte, Nat.reduceEqDiff, Nat.zero_ne_one, Nat.one_ne_zero, lI, s_clamp, s_lt, s_le, s_eq, s_add, s_mul, s_sub, s_div, s_mod, s_leF, s_leT, s_ltF, s_ltT, if_true, if_false, Option.bind_some, or_false, false_or, not_true, not_false_eq_true, hk, hs, hs', hz, hd, hx]
  · by_cases hx : tSw t c = 0
    · simp (disch := omega) only [reduceIte, Nat.reduceEqDiff, Nat.zero_ne_one, Nat.one_ne_zero, lI, s_clamp, s_lt, s_le, s_eq, s_add, s_mul, s_sub, s_div, s_mod, s_leF, s_leT, s_ltF, s_ltT, if_true, if_false, Option.bind_some, or_false, false_or, not_true, not_false_eq_true, hk, hs, hs', hz, hx]
    · simp (disch := omega) only [reduceIte, Nat.reduceEqDiff, Nat.zero_ne_one, Nat.one_ne_zero, lI, s_clamp, s_lt, s_le, s_eq, s_add, s_mul, s_sub, s_div, s_mod, s_leF, s_leT, s_ltF, s_ltT, if_true, if_false, Option.bind_some, or_false, false_or, not_true, not_false_eq_true, hk, hs, hs', hz, hx]
  · simp (disch := omega) only [reduceIte, Nat.reduceEqDiff, Nat.zero_ne_one, Nat.one_ne_zero, lI, s_clamp, s_lt, s_le, s_eq, s_add, s_mul, s_sub, s_div, s_mod, s_leF, s_leT, s_ltF, s_ltT, if_true, if_false, Option.bind_some, or_false, false_or, not_true, not_false_eq_true, hk, hs, hs', hz]
  · by_cases hx : tSw t c ≤ tSw t (lf t c)
    · simp (disch := omega) only [reduceIte, Nat.reduceEqDiff, Nat.zero_ne_one, Nat.one_ne_zero, lI, s_clamp, s_lt, s_le, s_eq, s_add, s_mul, s_sub, s_div, s_mod, s_leF, s_leT, s_ltF, s_ltT, if_true, if_false, Option.bind_some, or_false, false_or, not_true, not_false_eq_true, hk, hs, hs', hz, hd, hx]
      exact congrArg some (congrArg nI (by omega))
    · simp (disch := omega) only [reduceIte, Nat.reduceEqDiff, Nat.zero_ne_one, Nat.one_ne_zero, lI, s_clamp, s_lt, s_le, s_eq, s_add, s_mul, s_sub, s_div, s_mod, s_leF, s_leT, s_ltF, s_ltT, if_true, if_false, Option.bind_some, or_false, false_or, not_true, not_false_eq_true, hk, hs, hs', hz, hd, hx]
  · by_cases hx : tSw t c < 4
    · simp (disch := omega) only [reduceIte, Nat.reduceEqDiff, Nat.zero_ne_one, Nat.one_ne_zero, lI, s_clamp, s_lt, s_le, s_eq, s_add, s_mul, s_sub, s_div, s_mod, s_leF, s_leT, s_ltF, s_ltT, if_true, if_false, Option.bind_some, or_false, false_or, not_true, not_false_eq_true, hk, hs, hs', hz, hx]
    · simp (disch := omega) only [reduceIte, Nat.reduceEqDiff, Nat.zero_ne_one, Nat.one_ne_zero, lI, s_clamp, s_lt, s_le, s_eq, s_add, s_mul, s_sub, s_div, s_mod, s_leF, s_leT, s_ltF, s_ltT, if_true, if_false, Option.bind_some, or_false, false_or, not_true, not_false_eq_true, hk, hs, hs', hz, hx]
theorem q_held {v : Nat} (hv : v < 2 ^ 31) : f_M_held (nI v) = some (nI (min v 999)) := by
  unfold f_M_held
  rw [lI 999]
  by_cases h : v ≤ 999
  · rw [if_pos ((nI_leI hv (by omega)).mpr h), Nat.min_eq_left h]
  · rw [if_neg (fun q => h ((nI_leI hv (by omega)).mp q)), Nat.min_eq_right (by omega)]
theorem q_once_L2 {t : Tb} (hok : okT t) (k : MT → Option MT) : ∀ (d i fuel : Nat) (z : MT), i + d = tN t → d < fuel → rM z t → (∀ c, c < i → m_gives z c = nI (gf t c)) →
    ∃ z', f_M_goesOnce_L2 k fuel z (nI i) = k z' ∧ rM z' t ∧ (∀ c, c < tN t → m_gives z' c = nI (gf t c)) ∧ m_kept z' = m_kept z := by
  have hn := hok.1
  intro d
  induction d with
  | zero =>
    intro i fuel z hi hf hr hg
    obtain ⟨f, rfl, -⟩ := f_suc hf
    obtain rfl : i = tN t := by omega
    exact ⟨z, by rw [f_M_goesOnce_L2, hr.1, if_pos (nI_le (Nat.le_refl _) (by omega))], hr, hg, rfl⟩
  | succ d ih =>
    intro i fuel z hi hf hr hg
    obtain ⟨f, rfl, hf'⟩ := f_suc hf
    have hlt : i < tN t := by omega
    rw [f_M_goesOnce_L2, hr.1, if_neg (ix_n hlt hn), ← hr.1, q_givesOf hr hok hlt, Option.bind_some, if_neg (ix_b (by omega) (by omega)), ix_k (by omega), nI_1]
    refine ih (i + 1) f _ (by omega) hf' hr ?_
    intro c hc
    show upd (m_gives z) i (nI (gf t i)) c = _
    unfold upd
    by_cases h : c = i
    · rw [if_pos h, h]
    · rw [if_neg h]
      exact hg c (by omega)
theorem q_leftOf_h {z : MT} {t : Tb} (hr : rM0 z t) (hok : okT t) {c : Nat} (hc : c < tN t) (S : Nat → Int32) : f_M_leftOf (m_kind z, S, m_gives z, m_kept z, m_many z, m_odd z, m_step z, m_bag z, m_strokes z, m_gave z, m_threw z, m_isKeeping z, m_cursor z) (nI c) = some (nI (lf t c)) := q_leftOf (z := (m_kind z, S, m_gives z, m_kept z, m_many z, m_odd z, m_step z, m_bag z, m_strokes z, m_gave z, m_threw z, m_isKeeping z, m_cursor z)) hr hok hc
theorem q_rightOf_h {z : MT} {t : Tb} (hr : rM0 z t) (hok : okT t) {c : Nat} (hc : c < tN t) (S : Nat → Int32) : f_M_rightOf (m_kind z, S, m_gives z, m_kept z, m_many z, m_odd z, m_step z, m_bag z, m_strokes z, m_gave z, m_threw z, m_isKeeping z, m_cursor z) (nI c) = some (nI (rt t c)) := q_rightOf (z := (m_kind z, S, m_gives z, m_kept z, m_many z, m_odd z, m_step z, m_bag z, m_strokes z, m_gave z, m_threw z, m_isKeeping z, m_cursor z)) hr hok hc
theorem q_once_L29 {t : Tb} (hok : okT t) (k : MT → Option MT) : ∀ (d i fuel : Nat) (z : MT), i + d = tN t → d < fuel → rM0 z t → (∀ c, c < tN t → m_gives z c = nI (gf t c)) → (∀ c, c < tN t → m_sweets z c = Int32.ofInt (hp t i c)) →
    ∃ z', f_M_goesOnce_L29 k fuel z (nI i) = k z' ∧ rM0 z' t ∧ (∀ c, c < tN t → m_sweets z' c = Int32.ofInt (hp t (tN t) c)) ∧ m_kept z' = m_kept z := by
  have hn := hok.1
  intro d
  induction d with
  | zero =>
    intro i fuel z hi hf hr hg hh
    obtain ⟨f, rfl, -⟩ := f_suc hf
    obtain rfl : i = tN t := by omega
    exact ⟨z, by rw [f_M_goesOnce_L29, hr.1, if_pos (nI_le (Nat.le_refl _) (by omega))], hr, hh, rfl⟩
  | succ d ih =>
    intro i fuel z hi hf hr hg hh
    obtain ⟨f, rfl, hf'⟩ := f_suc hf
    have hlt : i < tN t := by omega
    have hl := lf_lt (t := t) (c := i) (by omega)
    have hrt := rt_lt (t := t) (c := i) (by omega)
    have hk := hr.2.1 i hlt
    have hk6 := (hok.2.1 i hlt).1
    rw [f_M_goesOnce_L29, hr.1, if_neg (ix_n hlt hn), ← hr.1, if_neg (ix_b (by omega) (by omega)), ix_k (by omega), hk, hg i hlt]
    by_cases hb : tKd t i = 1
    · have h1 := u_sub (g := 2 * gf t i) hh hlt
      have h2 := u_add (g := gf t i) h1 hl
      have h3 := u_add (g := gf t i) h2 hrt
      rw [if_pos (by rw [hb]; rfl), lI 2, pk_mul, q_leftOf_h hr hok hlt, Option.bind_some, if_neg (ix_b (by omega) (by omega)), ix_k (by omega), q_rightOf_h hr hok hlt, Option.bind_some, if_neg (ix_b (by omega) (by omega)), ix_k (by omega), nI_1]
      refine ih (i + 1) f _ (by omega) hf' hr hg ?_
      intro c hc
      refine (h3 c hc).trans (congrArg _ ?_)
      simp only [hp, out, hb, if_true, true_and]
    · have h1 := u_sub (g := gf t i) hh hlt
      have h2 := u_add (g := gf t i) h1 hl
      rw [if_neg (by rw [lI 1, nI_eq (by omega) (by omega)]; exact hb), q_leftOf_h hr hok hlt, Option.bind_some, if_neg (ix_b (by omega) (by omega)), ix_k (by omega), nI_1]
      refine ih (i + 1) f _ (by omega) hf' hr hg ?_
      intro c hc
      refine (h2 c hc).trans (congrArg _ ?_)
      simp only [hp, out, hb, if_false, false_and, Int.add_zero]
theorem q_once_L129 {t : Tb} (hok : okT t) (k : MT → Option MT) : ∀ (d i fuel : Nat) (z : MT), i + d = tN t → d < fuel → rM0 z t → (∀ c, c < tN t → m_sweets z c = if c < i then nI (cp t c) else Int32.ofInt (hp t (tN t) c)) →
    ∃ z', f_M_goesOnce_L129 k fuel z (nI i) = k z' ∧ rM z' (setSw t (cp t)) ∧ m_kept z' = m_kept z := by
  have hn := hok.1
  intro d
  induction d with
  | zero =>
    intro i fuel z hi hf hr hh
    obtain ⟨f, rfl, -⟩ := f_suc hf
    obtain rfl : i = tN t := by omega
    refine ⟨z, by rw [f_M_goesOnce_L129, hr.1, if_pos (nI_le (Nat.le_refl _) (by omega))], ⟨hr.1, fun c hc => ⟨hr.2.1 c hc, ?_⟩, hr.2.2⟩, rfl⟩
    have hc' : c < tN t := hc
    rw [hh c hc', if_pos hc']
    rfl
  | succ d ih =>
    intro i fuel z hi hf hr hh
    obtain ⟨f, rfl, hf'⟩ := f_suc hf
    have hlt : i < tN t := by omega
    have hlo := hp_nn (t := t) (tN t) i
    have hhi := hp_hi hok (tN t) i (Nat.le_refl _)
    have hs9 := (hok.2.1 i hlt).2
    obtain ⟨v, hv⟩ : ∃ v : Nat, hp t (tN t) i = v := ⟨_, (Int.toNat_of_nonneg hlo).symm⟩
    have hcp : cp t i = min v 999 := by unfold cp; rw [hv]; rfl
    rw [f_M_goesOnce_L129, hr.1, if_neg (ix_n hlt hn), ← hr.1, if_neg (ix_b (by omega) (by omega)), ix_k (by omega), hh i hlt, if_neg (Nat.lt_irrefl i), hv, ← nI_iI, q_held (by omega), Option.bind_some, nI_1, ← hcp]
    refine ih (i + 1) f _ (by omega) hf' hr ?_
    intro c hc
    show upd (m_sweets z) i (nI (cp t i)) c = _
    unfold upd
    by_cases h : c = i
    · subst h
      rw [if_pos rfl, if_pos (by omega)]
    · rw [if_neg h, hh c hc]
      by_cases h2 : c < i
      · rw [if_pos h2, if_pos (by omega)]
      · rw [if_neg h2, if_neg (by omega)]
theorem q_mends {z : MT} {t : Tb} (hr : rM z t) (hok : okT t) {c : Nat} (hc : c < tN t) : ∃ z', f_M_mends z (nI c) = some z' ∧ rM z' (mdT t c) ∧ m_kept z' = m_kept z := by
  obtain ⟨h8, h2, h3, -, -, h6⟩ := hok
  have h9 := (h2 c hc).2
  obtain ⟨r1, r2, r3, r4, r5, r6, r7, r8⟩ := hr
  have hs := (r2 c hc).2
  unfold f_M_mends mdT
  rw [if_neg (ix_b (show c < 8 by omega) (by omega)), ix_k (by omega), hs, nI_odd (by omega)]
  by_cases hodd : tSw t c % 2 = 1
  · rw [if_neg (by rw [hodd]; decide), if_pos hodd, r3, r5]
    by_cases h0 : tOdd t = 0
    · rw [if_pos (by rw [h0]; rfl), if_pos h0]
      by_cases hb : 0 < tBag t
      · rw [if_neg (nI_nle hb (by omega)), if_pos hb, nI_1, q_held (by omega), Option.bind_some]
        refine ⟨_, rfl, ⟨r1, fun i hi => ⟨(r2 i hi).1, ?_⟩, h0.symm ▸ rfl, r4, pk_sub hb, r6, congrArg (· + 1) r7, r8⟩, rfl⟩
        show upd (m_sweets z) c (nI (min (tSw t c + 1) 999)) i = nI (updN (tSw t) c (min (tSw t c + 1) 999) i)
        unfold upd updN
        by_cases h : i = c
        · rw [if_pos h, if_pos h]
        · rw [if_neg h, if_neg h]
          exact (r2 i hi).2
      · rw [if_pos (by rw [show tBag t = 0 by omega]; decide), if_neg hb]
        exact ⟨z, rfl, ⟨r1, r2, r3, r4, r5, r6, r7, r8⟩, rfl⟩
    · rw [if_neg (by rw [lI 0, nI_eq (by omega) (by omega)]; exact h0), if_neg h0]
      by_cases h1 : tOdd t = 1
      · rw [if_pos (by rw [h1]; rfl), if_pos h1]
        refine ⟨_, rfl, ⟨r1, fun i hi => ⟨(r2 i hi).1, ?_⟩, rfl, r4, rfl, r6, r7, congrArg (· + 1) r8⟩, rfl⟩
        show upd (m_sweets z) c (nI (tSw t c) - 1) i = nI (updN (tSw t) c (tSw t c - 1) i)
        unfold upd updN
        by_cases h : i = c
        · rw [if_pos h, if_pos h]
          exact pk_sub (show 1 ≤ tSw t c by omega)
        · rw [if_neg h, if_neg h]
          exact (r2 i hi).2
      · rw [if_neg (by rw [lI 1, nI_eq (by omega) (by omega)]; exact h1), if_neg h1]
        exact ⟨z, rfl, ⟨r1, r2, r3, r4, r5, r6, r7, r8⟩, rfl⟩
  · rw [if_pos (by rw [show tSw t c % 2 = 0 by omega]; rfl), if_neg hodd]
    exact ⟨z, rfl, ⟨r1, r2, r3, r4, r5, r6, r7, r8⟩, rfl⟩
theorem q_once_L160 {t : Tb} (hok : okT t) : ∀ (d i fuel : Nat) (z : MT), i + d = tN t → d < fuel → rM z (mds t i) →
    ∃ z', f_M_goesOnce_L160 fuel z (nI i) = some z' ∧ rM z' (moreSt (mds t (tN t))) ∧ m_kept z' = m_kept z := by
  have hn := hok.1
  intro d
  induction d with
  | zero =>
    intro i fuel z hi hf hr
    obtain ⟨f, rfl, -⟩ := f_suc hf
    obtain rfl : i = tN t := by omega
    have hc0 : m_many z = nI (tN t) := hr.1.trans (congrArg nI (mds_same t _).1)
    obtain ⟨r1, r2, r3, r4, r5, r6, r7, r8⟩ := hr
    rw [f_M_goesOnce_L160, hc0, if_pos (nI_le (Nat.le_refl _) (by omega))]
    exact ⟨_, rfl, ⟨hc0.symm.trans r1, r2, r3, r4, r5, congrArg (· + 1) r6, r7, r8⟩, rfl⟩
  | succ d ih =>
    intro i fuel z hi hf hr
    obtain ⟨f, rfl, hf'⟩ := f_suc hf
    have hlt : i < tN t := by omega
    have hm := mds_same t i
    have hlt' : i < tN (mds t i) := by rw [hm.1]; exact hlt
    have hokm := mds_ok hok i (by omega)
    have hc0 : m_many z = nI (tN t) := hr.1.trans (congrArg nI hm.1)
    obtain ⟨z1, e1, hr1, hk1⟩ := q_mends hr hokm hlt'
    rw [f_M_goesOnce_L160, hc0, if_neg (ix_n hlt hn), e1, Option.bind_some, nI_1]
    obtain ⟨z2, e2, hr2, hk2⟩ := ih (i + 1) f z1 (by omega) hf' hr1
    exact ⟨z2, e2, hr2, hk2.trans hk1⟩
/-- A STROKE of the reference's table -/
theorem q_once {z : MT} {t : Tb} (hr : rM z t) (hok : okT t) : ∃ z', f_M_goesOnce z = some z' ∧ rM z' (stk t) ∧ m_kept z' = m_kept z := by
  have hn := hok.1
  unfold f_M_goesOnce
  obtain ⟨z1, e1, hr1, hg1, hk1⟩ := q_once_L2 hok (fun z_h_T_4 => f_M_goesOnce_L29 (fun z_h_T_14 => f_M_goesOnce_L129 (fun z_h_T_18 => f_M_goesOnce_L160 FU z_h_T_18 0) FU z_h_T_14 0) FU z_h_T_4 0) (tN t) 0 FU z (Nat.zero_add _) (by unfold FU; omega) hr (fun c hc => absurd hc (Nat.not_lt_zero c))
  obtain ⟨z2, e2, hr2, hh2, hk2⟩ := q_once_L29 hok (fun z_h_T_14 => f_M_goesOnce_L129 (fun z_h_T_18 => f_M_goesOnce_L160 FU z_h_T_18 0) FU z_h_T_14 0) (tN t) 0 FU z1 (Nat.zero_add _) (by unfold FU; omega) (rM_0 hr1) hg1 (fun c hc => by
    rw [(hr1.2.1 c hc).2, nI_iI]
    rfl)
  obtain ⟨z3, e3, hr3, hk3⟩ := q_once_L129 hok (fun z_h_T_18 => f_M_goesOnce_L160 FU z_h_T_18 0) (tN t) 0 FU z2 (Nat.zero_add _) (by unfold FU; omega) hr2 (fun c hc => by
    rw [if_neg (Nat.not_lt_zero c)]
    exact hh2 c hc)
  obtain ⟨z4, e4, hr4, hk4⟩ := q_once_L160 (cp_ok hok) (tN t) 0 FU z3 (Nat.zero_add _) (by unfold FU; omega) hr3
  exact ⟨z4, e1.trans (e2.trans (e3.trans e4)), hr4, hk4.trans (hk3.trans (hk2.trans hk1))⟩
theorem q_goes_L {t : Tb} (hok : okT t) (n : Nat) (hn : n < 2 ^ 31) (g0 : Int32) : ∀ (d i fuel : Nat) (z : MT), i + d = n → d < fuel → rM z (sq t i) →
    ∃ z', f_M_goes_L7 (nI n) g0 fuel z (nI i) = some (tGv (sq t n) - g0, z') ∧ rM z' (sq t n) ∧ m_kept z' = m_kept z := by
  intro d
  induction d with
  | zero =>
    intro i fuel z hi hf hr
    obtain ⟨f, rfl, -⟩ := f_suc hf
    obtain rfl : i = n := by omega
    exact ⟨z, by rw [f_M_goes_L7, if_pos (nI_le (Nat.le_refl _) hn), hr.2.2.2.2.2.2.1], hr, rfl⟩
  | succ d ih =>
    intro i fuel z hi hf hr
    obtain ⟨f, rfl, hf'⟩ := f_suc hf
    obtain ⟨z1, e1, hr1, hk1⟩ := q_once hr (sq_ok hok i)
    obtain ⟨z2, e2, hr2, hk2⟩ := ih (i + 1) f z1 (by omega) hf' hr1
    refine ⟨z2, ?_, hr2, hk2.trans hk1⟩
    rw [f_M_goes_L7, if_neg (nI_ge (by omega) hn), e1, Option.bind_some, nI_1]
    exact e2
theorem q_goes {z : MT} {t : Tb} (hr : rM z t) (hok : okT t) (n : Nat) (hn : n ≤ 1000) : ∃ z', f_M_goes z (nI n) = some (tGv (sq t n) - tGv t, z') ∧ rM z' (sq t n) ∧ m_kept z' = m_kept z := by
  obtain ⟨z', e, h1, h2⟩ := q_goes_L hok n (by omega) (m_gave z) n 0 FU z (Nat.zero_add _) (by unfold FU; omega) hr
  refine ⟨z', ?_, h1, h2⟩
  unfold f_M_goes
  rw [← hr.2.2.2.2.2.2.1]
  exact e
