/-! Pure: the plain calls, on both sides. -/
theorem z10 : ((1 : Int32) = 0) = False := by decide
theorem z40 : ((-4 : Int32) = 0) = False := by decide
theorem z60 : ((-6 : Int32) = 0) = False := by decide
theorem z01 : ((0 : Int32) = 1) = False := by decide
theorem z02 : ((0 : Int32) = 2) = False := by decide
theorem z12 : ((1 : Int32) = 2) = False := by decide
theorem z21 : ((2 : Int32) = 1) = False := by decide
theorem z20 : ((2 : Int32) = 0) = False := by decide
theorem bound_eq (x lo hi : Int32) : f_M_bound x lo hi = f_X_outside x lo hi := rfl
def rf (a b : Nat → Int32) : Prop := ∀ i, 1 ≤ i → i ≤ 6 → a i = b i
theorem rf_upd {a b : Nat → Int32} (h : rf a b) (k : Nat) (h1 : 1 ≤ k) (h6 : k ≤ 6) : rf (upd a k (a k + 1)) (upd b k (b k + 1)) := by
  intro i hi1 hi6
  unfold upd
  split
  · rw [h k h1 h6]
  · exact h i hi1 hi6
theorem no_k {a b : Nat → Int32} (h : rf a b) (x : Int32) (k : Nat) (h1 : 1 ≤ k) (h6 : k ≤ 6) (e1 : ¬ x < (-6)) (e2 : ¬ (-1) < x) (e3 : ¬ (-x) < 0) (e4 : (-x).toNatClampNeg = k) :
    ∃ a' b', f_X_refuse a x = some (x, a') ∧ f_M_no b x = some (x, b') ∧ rf a' b' := by
  refine ⟨upd a k (a k + 1), upd b k (b k + 1), ?_, ?_, rf_upd h k h1 h6⟩
  · unfold f_X_refuse
    rw [if_neg e1, if_neg e2, e4, if_neg (fun q => q.elim e3 (fun q => by omega))]
  · unfold f_M_no
    rw [e4, if_neg (fun q => q.elim e3 (fun q => by omega))]
theorem no1 {a b : Nat → Int32} (h : rf a b) : ∃ a' b', f_X_refuse a (-1) = some (-1, a') ∧ f_M_no b (-1) = some (-1, b') ∧ rf a' b' := no_k h _ 1 (by decide) (by decide) (by decide) (by decide) (by decide) (by decide +kernel)
theorem no2 {a b : Nat → Int32} (h : rf a b) : ∃ a' b', f_X_refuse a (-2) = some (-2, a') ∧ f_M_no b (-2) = some (-2, b') ∧ rf a' b' := no_k h _ 2 (by decide) (by decide) (by decide) (by decide) (by decide) (by decide +kernel)
theorem no3 {a b : Nat → Int32} (h : rf a b) : ∃ a' b', f_X_refuse a (-3) = some (-3, a') ∧ f_M_no b (-3) = some (-3, b') ∧ rf a' b' := no_k h _ 3 (by decide) (by decide) (by decide) (by decide) (by decide) (by decide +kernel)
theorem no4 {a b : Nat → Int32} (h : rf a b) : ∃ a' b', f_X_refuse a (-4) = some (-4, a') ∧ f_M_no b (-4) = some (-4, b') ∧ rf a' b' := no_k h _ 4 (by decide) (by decide) (by decide) (by decide) (by decide) (by decide +kernel)
theorem no6 {a b : Nat → Int32} (h : rf a b) : ∃ a' b', f_X_refuse a (-6) = some (-6, a') ∧ f_M_no b (-6) = some (-6, b') ∧ rf a' b' := no_k h _ 6 (by decide) (by decide) (by decide) (by decide) (by decide) (by decide +kernel)
theorem bd0 (x : Int32) (lo hi : Nat) (h : hi < 2 ^ 31) (hl : lo ≤ hi) : f_X_outside x (nI lo) (nI hi) = some (-4) ∨ f_X_outside x (nI lo) (nI hi) = some (-6) ∨ ∃ n, lo ≤ n ∧ n ≤ hi ∧ x = nI n ∧ f_X_outside x (nI lo) (nI hi) = some 0 := by
  unfold f_X_outside
  by_cases h1 : nI lo ≤ x
  · rw [if_pos h1]
    by_cases h2 : x ≤ nI hi
    · rw [if_pos h2]
      refine Or.inr (Or.inr ?_)
      have a1 := Int32.le_iff_toInt_le.mp h1
      have a2 := Int32.le_iff_toInt_le.mp h2
      rw [nI_toInt (by omega)] at a1
      rw [nI_toInt h] at a2
      refine ⟨x.toInt.toNat, by omega, by omega, ?_, rfl⟩
      apply Int32.toInt_inj.mp
      rw [nI_toInt (by omega)]
      omega
    · rw [if_neg h2]
      exact Or.inr (Or.inl rfl)
  · rw [if_neg h1]
    exact Or.inl rfl
theorem bd (x : Int32) (lo hi : Nat) (h : hi < 2 ^ 31) (hl : lo ≤ hi) : (f_X_outside x (nI lo) (nI hi) = some (-4) ∧ f_M_bound x (nI lo) (nI hi) = some (-4)) ∨ (f_X_outside x (nI lo) (nI hi) = some (-6) ∧ f_M_bound x (nI lo) (nI hi) = some (-6)) ∨ ∃ n, lo ≤ n ∧ n ≤ hi ∧ x = nI n ∧ f_X_outside x (nI lo) (nI hi) = some 0 ∧ f_M_bound x (nI lo) (nI hi) = some 0 := by
  rcases bd0 x lo hi h hl with q | q | ⟨n, a, b, c, q⟩
  · exact Or.inl ⟨q, q⟩
  · exact Or.inr (Or.inl ⟨q, q⟩)
  · exact Or.inr (Or.inr ⟨n, a, b, c, q, q⟩)
theorem ch {now : RS} {T : MT} {t : Tb} (hX : rX now t) (hM : rM T t) (hok : okT t) (x : Int32) : (f_Ring_has now x = some 0 ∧ f_M_isChild T x = some 0) ∨ ∃ c, c < tN t ∧ x = nI c ∧ f_Ring_has now x = some 1 ∧ f_M_isChild T x = some 1 := by
  have hn := hok.1
  unfold f_Ring_has f_M_isChild
  rw [hX.1, hM.1]
  rcases pk_ix x (n := tN t) (by omega) with h | h | ⟨c, hc, rfl⟩
  · rw [if_pos h]
    exact Or.inl ⟨rfl, rfl⟩
  · refine Or.inl ?_
    rw [if_pos h]
    split <;> exact ⟨rfl, rfl⟩
  · refine Or.inr ⟨c, hc, rfl, ?_⟩
    rw [if_neg (nI_pos (by omega)), if_neg (ix_n hc hn)]
    exact ⟨rfl, rfl⟩
theorem e_child {now : RS} {T : MT} {t : Tb} {a b : Nat → Int32} (hX : rX now t) (hM : rM T t) (hok : okT t) (hr : rf a b) (x1 x2 : Int32) : ∃ r a' b', f_X_child now a x1 x2 = some (r, a') ∧ f_M_child T b x1 x2 = some (r, b') ∧ rf a' b' := by
  have hn := hok.1
  unfold f_X_child f_M_child
  rcases ch hX hM hok x1 with ⟨h1, h2⟩ | ⟨c, hc, rfl, h1, h2⟩
  · obtain ⟨a', b', e1, e2, h⟩ := no1 hr
    (simp only [h1, h2, e1, e2, Option.bind_some, reduceIte, or_self, z10, z40, z60, z01, z02, z12, z21, z20]; try simp only [h1, h2, e1, e2, Option.bind_some, reduceIte, or_self, z10, z40, z60, z01, z02, z12, z21, z20])
    exact ⟨_, a', b', rfl, rfl, h⟩
  · have hg := gf_le (t := t) c
    have hs9 := (hok.2.1 c hc).2
    have hk6 := (hok.2.1 c hc).1
    (simp only [h1, h2, p_gift hX hok hc, q_givesOf hM hok hc, (eq_false (nI_pos (show c < 2 ^ 31 by omega)) : (nI (c) < 0) = False), ix_k (show c < 8 by omega), (eq_false (show ¬ 8 ≤ c by omega)), (hX.2.1 c hc).1, (hX.2.1 c hc).2, (hM.2.1 c hc).1, (hM.2.1 c hc).2, Option.bind_some, reduceIte, or_self, z10, z40, z60, z01, z02, z12, z21, z20]; try simp only [h1, h2, p_gift hX hok hc, q_givesOf hM hok hc, (eq_false (nI_pos (show c < 2 ^ 31 by omega)) : (nI (c) < 0) = False), ix_k (show c < 8 by omega), (eq_false (show ¬ 8 ≤ c by omega)), (hX.2.1 c hc).1, (hX.2.1 c hc).2, (hM.2.1 c hc).1, (hM.2.1 c hc).2, Option.bind_some, reduceIte, or_self, z10, z40, z60, z01, z02, z12, z21, z20])
    by_cases c0 : x2 = 0
    · rw [if_pos c0, if_pos c0]
      exact ⟨_, a, b, rfl, rfl, hr⟩
    rw [if_neg c0, if_neg c0]
    by_cases c1 : x2 = 1
    · rw [if_pos c1, if_pos c1]
      exact ⟨_, a, b, rfl, rfl, hr⟩
    rw [if_neg c1, if_neg c1]
    by_cases c2 : x2 = 2
    · rw [if_pos c2, if_pos c2]
      exact ⟨_, a, b, rfl, rfl, hr⟩
    rw [if_neg c2, if_neg c2]
    by_cases c3 : x2 = 3
    · rw [if_pos c3, if_pos c3]
      unfold f_Ring_sides
      (simp only [p_gift hX hok hc, (eq_false (nI_pos (show c < 2 ^ 31 by omega)) : (nI (c) < 0) = False), ix_k (show c < 8 by omega), (eq_false (show ¬ 8 ≤ c by omega)), (hX.2.1 c hc).1, Option.bind_some, reduceIte, or_self, z10, z40, z60, z01, z02, z12, z21, z20]; try simp only [p_gift hX hok hc, (eq_false (nI_pos (show c < 2 ^ 31 by omega)) : (nI (c) < 0) = False), ix_k (show c < 8 by omega), (eq_false (show ¬ 8 ≤ c by omega)), (hX.2.1 c hc).1, Option.bind_some, reduceIte, or_self, z10, z40, z60, z01, z02, z12, z21, z20])
      by_cases g0 : nI (gf t c) = 0
      · rw [if_pos g0, if_pos g0]
        exact ⟨_, a, b, rfl, rfl, hr⟩
      rw [if_neg g0, if_neg g0]
      by_cases g1 : nI (tKd t c) = 1
      · rw [if_pos g1, if_pos g1]
        exact ⟨_, a, b, rfl, rfl, hr⟩
      rw [if_neg g1, if_neg g1]
      exact ⟨_, a, b, rfl, rfl, hr⟩
    rw [if_neg c3, if_neg c3]
    obtain ⟨a', b', e1, e2, h⟩ := no2 hr
    (simp only [e1, e2, Option.bind_some, reduceIte, or_self, z10, z40, z60, z01, z02, z12, z21, z20]; try simp only [e1, e2, Option.bind_some, reduceIte, or_self, z10, z40, z60, z01, z02, z12, z21, z20])
    exact ⟨_, a', b', rfl, rfl, h⟩
theorem e_put {now : RS} {T : MT} {t : Tb} {a b : Nat → Int32} (hX : rX now t) (hM : rM T t) (hok : okT t) (hr : rf a b) (x1 x2 : Int32) : ∃ r now' a' T' b' t', f_X_put now a x1 x2 = some (r, now', a') ∧ f_M_put T b x1 x2 = some (r, T', b') ∧ okT t' ∧ rX now' t' ∧ rM T' t' ∧ m_kept T' = m_kept T ∧ rf a' b' := by
  have hn := hok.1
  unfold f_X_put f_M_put
  rcases ch hX hM hok x1 with ⟨h1, h2⟩ | ⟨c, hc, rfl, h1, h2⟩
  · obtain ⟨a', b', e1, e2, h⟩ := no1 hr
    (simp only [h1, h2, e1, e2, Option.bind_some, reduceIte, or_self, z10, z40, z60, z01, z02, z12, z21, z20]; try simp only [h1, h2, e1, e2, Option.bind_some, reduceIte, or_self, z10, z40, z60, z01, z02, z12, z21, z20])
    exact ⟨_, now, a', T, b', t, rfl, rfl, hok, hX, hM, rfl, h⟩
  rcases (show (f_X_outside x2 0 999 = some (-4) ∧ f_M_bound x2 0 999 = some (-4)) ∨ (f_X_outside x2 0 999 = some (-6) ∧ f_M_bound x2 0 999 = some (-6)) ∨ ∃ n, 0 ≤ n ∧ n ≤ 999 ∧ x2 = nI n ∧ (f_X_outside x2 0 999 = some 0 ∧ f_M_bound x2 0 999 = some 0) from bd x2 0 999 (by decide) (by decide)) with ⟨hB, hB2⟩ | ⟨hB, hB2⟩ | ⟨n, hn0, hn, rfl, hB, hB2⟩
  · obtain ⟨a', b', e1, e2, h⟩ := no4 hr
    (simp only [h1, h2, hB, hB2, e1, e2, Option.bind_some, reduceIte, or_self, z10, z40, z60, z01, z02, z12, z21, z20]; try simp only [h1, h2, hB, hB2, e1, e2, Option.bind_some, reduceIte, or_self, z10, z40, z60, z01, z02, z12, z21, z20])
    exact ⟨_, now, a', T, b', t, rfl, rfl, hok, hX, hM, rfl, h⟩
  · obtain ⟨a', b', e1, e2, h⟩ := no6 hr
    (simp only [h1, h2, hB, hB2, e1, e2, Option.bind_some, reduceIte, or_self, z10, z40, z60, z01, z02, z12, z21, z20]; try simp only [h1, h2, hB, hB2, e1, e2, Option.bind_some, reduceIte, or_self, z10, z40, z60, z01, z02, z12, z21, z20])
    exact ⟨_, now, a', T, b', t, rfl, rfl, hok, hX, hM, rfl, h⟩
  · (simp only [h1, h2, hB, hB2, (eq_false (nI_pos (show c < 2 ^ 31 by omega)) : (nI (c) < 0) = False), ix_k (show c < 8 by omega), (eq_false (show ¬ 8 ≤ c by omega)), (hX.2.1 c hc).2, (hM.2.1 c hc).2, Option.bind_some, reduceIte, or_self, z10, z40, z60, z01, z02, z12, z21, z20]; try simp only [h1, h2, hB, hB2, (eq_false (nI_pos (show c < 2 ^ 31 by omega)) : (nI (c) < 0) = False), ix_k (show c < 8 by omega), (eq_false (show ¬ 8 ≤ c by omega)), (hX.2.1 c hc).2, (hM.2.1 c hc).2, Option.bind_some, reduceIte, or_self, z10, z40, z60, z01, z02, z12, z21, z20])
    refine ⟨_, _, a, _, b, (t.1, t.2.1, updN (tSw t) c n, t.2.2.2), rfl, rfl, ⟨hok.1, fun i hi => ⟨(hok.2.1 i hi).1, ?_⟩, hok.2.2⟩, ⟨hX.1, fun i hi => ⟨(hX.2.1 i hi).1, ?_⟩, hX.2.2⟩, ⟨hM.1, fun i hi => ⟨(hM.2.1 i hi).1, ?_⟩, hM.2.2⟩, rfl, hr⟩
    · show updN (tSw t) c n i ≤ 999
      have := (hok.2.1 i hi).2
      unfold updN
      split <;> omega
    · show upd (r_sweets now) c (nI n) i = nI (updN (tSw t) c n i)
      unfold upd updN
      split
      · rfl
      · exact (hX.2.1 i hi).2
    · show upd (m_sweets T) c (nI n) i = nI (updN (tSw t) c n i)
      unfold upd updN
      split
      · rfl
      · exact (hM.2.1 i hi).2
