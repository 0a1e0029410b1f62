/-! Pure: settings, seats, counts, images, rows, letters told. -/
theorem in02 (x : Int32) : (x < 0 ∧ f_M_isIn x 0 2 = some 0) ∨ (¬ x < 0 ∧ ¬ x ≤ 2 ∧ f_M_isIn x 0 2 = some 0) ∨ ((x = 0 ∨ x = 1 ∨ x = 2) ∧ f_M_isIn x 0 2 = some 1) := by
  unfold f_M_isIn
  by_cases g : x < 0
  · rw [if_pos g]; exact Or.inl ⟨g, rfl⟩
  rw [if_neg g]
  refine Or.inr ?_
  by_cases g1 : x ≤ 2
  · rw [if_neg (Int32.not_lt.mpr g1)]
    refine Or.inr ⟨?_, rfl⟩
    have a1 : ¬ x.toInt < (0 : Int32).toInt := fun q => g (Int32.lt_iff_toInt_lt.mpr q)
    have a2 := Int32.le_iff_toInt_le.mp g1
    have e0 : (0 : Int32).toInt = 0 := by decide
    have e1 : (1 : Int32).toInt = 1 := by decide
    have e2 : (2 : Int32).toInt = 2 := by decide
    rcases (show x.toInt = 0 ∨ x.toInt = 1 ∨ x.toInt = 2 by omega) with q | q | q
    · exact Or.inl (Int32.toInt_inj.mp (q.trans e0.symm))
    · exact Or.inr (Or.inl (Int32.toInt_inj.mp (q.trans e1.symm)))
    · exact Or.inr (Or.inr (Int32.toInt_inj.mp (q.trans e2.symm)))
  · rw [if_pos (Int32.not_le.mp g1)]
    exact Or.inl ⟨g, g1, rfl⟩
theorem kc0 : (0 : Int32).toNatClampNeg = 0 := by decide +kernel
theorem kc1 : (1 : Int32).toNatClampNeg = 1 := by decide +kernel
theorem kc2 : (2 : Int32).toNatClampNeg = 2 := by decide +kernel
theorem b_0 : ((0 : Int32) < 0 ∨ 3 ≤ 0) = False := by decide
theorem b_1 : ((1 : Int32) < 0 ∨ 3 ≤ 1) = False := by decide
theorem b_2 : ((2 : Int32) < 0 ∨ 3 ≤ 2) = False := by decide
theorem n_0 : ((0 : Int32) < 0) = False := by decide
theorem n_1 : ((1 : Int32) < 0) = False := by decide
theorem n_2 : ((2 : Int32) < 0) = False := by decide
theorem l_0 : ((0 : Int32) ≤ 2) = True := by decide
theorem l_1 : ((1 : Int32) ≤ 2) = True := by decide
theorem l_2 : ((2 : Int32) ≤ 2) = True := by decide
theorem sL0 : s_LEAST_SETTING 0 = 0 := rfl
theorem sL1 : s_LEAST_SETTING 1 = 1 := rfl
theorem sL2 : s_LEAST_SETTING 2 = 0 := rfl
theorem sG0 : s_GREATEST_SETTING 0 = 2 := rfl
theorem sG1 : s_GREATEST_SETTING 1 = 3 := rfl
theorem sG2 : s_GREATEST_SETTING 2 = 999 := rfl
theorem e_set {now : RS} {T : MT} {t : Tb} {a b : Nat → Int32} (hX : rX now t) (hM : rM T t) (hok : okT t) (hr : rf a b) (x1 x2 : Int32) : ∃ r now' a' T' b' t', f_X_set now a x1 x2 = some (r, now', a') ∧ f_M_set T b x1 x2 = some (r, T', b') ∧ okT t' ∧ rX now' t' ∧ rM T' t' ∧ m_kept T' = m_kept T ∧ rf a' b' := by
  unfold f_X_set f_M_set
  obtain ⟨o1, o2, o3, o4, o5, o6⟩ := hok
  obtain ⟨u1, u2, u3, u4, u5, u6, u7, u8⟩ := hX
  obtain ⟨v1, v2, v3, v4, v5, v6, v7, v8⟩ := hM
  rcases in02 x1 with ⟨g, p⟩ | ⟨g, g2, p⟩ | ⟨rfl | rfl | rfl, p⟩
  · obtain ⟨a', b', e1, e2, h⟩ := no2 hr
    rw [if_pos g]
    (simp only [p, e1, e2, Option.bind_some, reduceIte, or_self, z10, z40, z60, z01, z02, z12, z21, z20]; try simp only [p, e1, e2, Option.bind_some, reduceIte, or_self, z10, z40, z60, z01, z02, z12, z21, z20])
    exact ⟨_, now, a', T, b', t, rfl, rfl, ⟨o1, o2, o3, o4, o5, o6⟩, ⟨u1, u2, u3, u4, u5, u6, u7, u8⟩, ⟨v1, v2, v3, v4, v5, v6, v7, v8⟩, rfl, h⟩
  · obtain ⟨a', b', e1, e2, h⟩ := no2 hr
    rw [if_neg g, if_neg g2]
    (simp only [p, e1, e2, Option.bind_some, reduceIte, or_self, z10, z40, z60, z01, z02, z12, z21, z20]; try simp only [p, e1, e2, Option.bind_some, reduceIte, or_self, z10, z40, z60, z01, z02, z12, z21, z20])
    exact ⟨_, now, a', T, b', t, rfl, rfl, ⟨o1, o2, o3, o4, o5, o6⟩, ⟨u1, u2, u3, u4, u5, u6, u7, u8⟩, ⟨v1, v2, v3, v4, v5, v6, v7, v8⟩, rfl, h⟩
  · simp only [kc0, b_0, n_0, l_0, sL0, sG0, if_true, if_false]
    rcases (show (f_X_outside x2 0 2 = some (-4) ∧ f_M_bound x2 0 2 = some (-4)) ∨ (f_X_outside x2 0 2 = some (-6) ∧ f_M_bound x2 0 2 = some (-6)) ∨ ∃ n, 0 ≤ n ∧ n ≤ 2 ∧ x2 = nI n ∧ (f_X_outside x2 0 2 = some 0 ∧ f_M_bound x2 0 2 = some 0) from bd x2 0 2 (by decide) (by decide)) with ⟨hB, hB2⟩ | ⟨hB, hB2⟩ | ⟨n, hn0, hn, rfl, hB, hB2⟩
    · obtain ⟨a', b', e1, e2, h⟩ := no4 hr
      (simp only [p, hB, hB2, e1, e2, Option.bind_some, reduceIte, or_self, z10, z40, z60, z01, z02, z12, z21, z20]; try simp only [p, hB, hB2, e1, e2, Option.bind_some, reduceIte, or_self, z10, z40, z60, z01, z02, z12, z21, z20])
      exact ⟨_, now, a', T, b', t, rfl, rfl, ⟨o1, o2, o3, o4, o5, o6⟩, ⟨u1, u2, u3, u4, u5, u6, u7, u8⟩, ⟨v1, v2, v3, v4, v5, v6, v7, v8⟩, rfl, h⟩
    · obtain ⟨a', b', e1, e2, h⟩ := no6 hr
      (simp only [p, hB, hB2, e1, e2, Option.bind_some, reduceIte, or_self, z10, z40, z60, z01, z02, z12, z21, z20]; try simp only [p, hB, hB2, e1, e2, Option.bind_some, reduceIte, or_self, z10, z40, z60, z01, z02, z12, z21, z20])
      exact ⟨_, now, a', T, b', t, rfl, rfl, ⟨o1, o2, o3, o4, o5, o6⟩, ⟨u1, u2, u3, u4, u5, u6, u7, u8⟩, ⟨v1, v2, v3, v4, v5, v6, v7, v8⟩, rfl, h⟩
    · (simp only [p, hB, hB2, u3, v3, Option.bind_some, reduceIte, or_self, z10, z40, z60, z01, z02, z12, z21, z20]; try simp only [p, hB, hB2, u3, v3, Option.bind_some, reduceIte, or_self, z10, z40, z60, z01, z02, z12, z21, z20])
      exact ⟨_, _, a, _, b, (tN t, tKd t, tSw t, n, tStep t, tBag t, tSt t, tGv t, tTh t), rfl, rfl, ⟨o1, o2, hn, o4, o5, o6⟩, ⟨u1, u2, rfl, u4, u5, u6, u7, u8⟩, ⟨v1, v2, rfl, v4, v5, v6, v7, v8⟩, rfl, hr⟩
  · simp only [kc1, b_1, n_1, l_1, sL1, sG1, if_true, if_false]
    rcases (show (f_X_outside x2 1 3 = some (-4) ∧ f_M_bound x2 1 3 = some (-4)) ∨ (f_X_outside x2 1 3 = some (-6) ∧ f_M_bound x2 1 3 = some (-6)) ∨ ∃ n, 1 ≤ n ∧ n ≤ 3 ∧ x2 = nI n ∧ (f_X_outside x2 1 3 = some 0 ∧ f_M_bound x2 1 3 = some 0) from bd x2 1 3 (by decide) (by decide)) with ⟨hB, hB2⟩ | ⟨hB, hB2⟩ | ⟨n, hn0, hn, rfl, hB, hB2⟩
    · obtain ⟨a', b', e1, e2, h⟩ := no4 hr
      (simp only [p, hB, hB2, e1, e2, Option.bind_some, reduceIte, or_self, z10, z40, z60, z01, z02, z12, z21, z20]; try simp only [p, hB, hB2, e1, e2, Option.bind_some, reduceIte, or_self, z10, z40, z60, z01, z02, z12, z21, z20])
      exact ⟨_, now, a', T, b', t, rfl, rfl, ⟨o1, o2, o3, o4, o5, o6⟩, ⟨u1, u2, u3, u4, u5, u6, u7, u8⟩, ⟨v1, v2, v3, v4, v5, v6, v7, v8⟩, rfl, h⟩
    · obtain ⟨a', b', e1, e2, h⟩ := no6 hr
      (simp only [p, hB, hB2, e1, e2, Option.bind_some, reduceIte, or_self, z10, z40, z60, z01, z02, z12, z21, z20]; try simp only [p, hB, hB2, e1, e2, Option.bind_some, reduceIte, or_self, z10, z40, z60, z01, z02, z12, z21, z20])
      exact ⟨_, now, a', T, b', t, rfl, rfl, ⟨o1, o2, o3, o4, o5, o6⟩, ⟨u1, u2, u3, u4, u5, u6, u7, u8⟩, ⟨v1, v2, v3, v4, v5, v6, v7, v8⟩, rfl, h⟩
    · (simp only [p, hB, hB2, u4, v4, Option.bind_some, reduceIte, or_self, z10, z40, z60, z01, z02, z12, z21, z20]; try simp only [p, hB, hB2, u4, v4, Option.bind_some, reduceIte, or_self, z10, z40, z60, z01, z02, z12, z21, z20])
      exact ⟨_, _, a, _, b, (tN t, tKd t, tSw t, tOdd t, n, tBag t, tSt t, tGv t, tTh t), rfl, rfl, ⟨o1, o2, o3, hn0, hn, o6⟩, ⟨u1, u2, u3, rfl, u5, u6, u7, u8⟩, ⟨v1, v2, v3, rfl, v5, v6, v7, v8⟩, rfl, hr⟩
  · simp only [kc2, b_2, n_2, l_2, sL2, sG2, if_true, if_false]
    rcases (show (f_X_outside x2 0 999 = some (-4) ∧ f_M_bound x2 0 999 = some (-4)) ∨ (f_X_outside x2 0 999 = some (-6) ∧ f_M_bound x2 0 999 = some (-6)) ∨ ∃ n, 0 ≤ n ∧ n ≤ 999 ∧ x2 = nI n ∧ (f_X_outside x2 0 999 = some 0 ∧ f_M_bound x2 0 999 = some 0) from bd x2 0 999 (by decide) (by decide)) with ⟨hB, hB2⟩ | ⟨hB, hB2⟩ | ⟨n, hn0, hn, rfl, hB, hB2⟩
    · obtain ⟨a', b', e1, e2, h⟩ := no4 hr
      (simp only [p, hB, hB2, e1, e2, Option.bind_some, reduceIte, or_self, z10, z40, z60, z01, z02, z12, z21, z20]; try simp only [p, hB, hB2, e1, e2, Option.bind_some, reduceIte, or_self, z10, z40, z60, z01, z02, z12, z21, z20])
      exact ⟨_, now, a', T, b', t, rfl, rfl, ⟨o1, o2, o3, o4, o5, o6⟩, ⟨u1, u2, u3, u4, u5, u6, u7, u8⟩, ⟨v1, v2, v3, v4, v5, v6, v7, v8⟩, rfl, h⟩
    · obtain ⟨a', b', e1, e2, h⟩ := no6 hr
      (simp only [p, hB, hB2, e1, e2, Option.bind_some, reduceIte, or_self, z10, z40, z60, z01, z02, z12, z21, z20]; try simp only [p, hB, hB2, e1, e2, Option.bind_some, reduceIte, or_self, z10, z40, z60, z01, z02, z12, z21, z20])
      exact ⟨_, now, a', T, b', t, rfl, rfl, ⟨o1, o2, o3, o4, o5, o6⟩, ⟨u1, u2, u3, u4, u5, u6, u7, u8⟩, ⟨v1, v2, v3, v4, v5, v6, v7, v8⟩, rfl, h⟩
    · (simp only [p, hB, hB2, u5, v5, Option.bind_some, reduceIte, or_self, z10, z40, z60, z01, z02, z12, z21, z20]; try simp only [p, hB, hB2, u5, v5, Option.bind_some, reduceIte, or_self, z10, z40, z60, z01, z02, z12, z21, z20])
      exact ⟨_, _, a, _, b, (tN t, tKd t, tSw t, tOdd t, tStep t, n, tSt t, tGv t, tTh t), rfl, rfl, ⟨o1, o2, o3, o4, o5, hn⟩, ⟨u1, u2, u3, u4, rfl, u6, u7, u8⟩, ⟨v1, v2, v3, v4, rfl, v6, v7, v8⟩, rfl, hr⟩
theorem two {now : RS} {T : MT} {t : Tb} (hX : rX now t) (hM : rM T t) (hok : okT t) (x y : Int32) : (f_X_areTwo now x y = some 0 ∧ f_M_areTwo T x y = some 0) ∨ ∃ c d, c < tN t ∧ d < tN t ∧ c ≠ d ∧ x = nI c ∧ y = nI d ∧ f_X_areTwo now x y = some 1 ∧ f_M_areTwo T x y = some 1 := by
  have hn := hok.1
  unfold f_X_areTwo f_M_areTwo
  rcases ch hX hM hok x with ⟨h1, h2⟩ | ⟨c, hc, rfl, h1, h2⟩
  · (simp only [h1, h2, Option.bind_some, reduceIte, or_self, z10, z40, z60, z01, z02, z12, z21, z20]; try simp only [h1, h2, Option.bind_some, reduceIte, or_self, z10, z40, z60, z01, z02, z12, z21, z20])
    exact Or.inl ⟨trivial, trivial⟩
  rcases ch hX hM hok y with ⟨g1, g2⟩ | ⟨d, hd, rfl, g1, g2⟩
  · (simp only [h1, h2, g1, g2, Option.bind_some, reduceIte, or_self, z10, z40, z60, z01, z02, z12, z21, z20]; try simp only [h1, h2, g1, g2, Option.bind_some, reduceIte, or_self, z10, z40, z60, z01, z02, z12, z21, z20])
    exact Or.inl ⟨trivial, trivial⟩
  (simp only [h1, h2, g1, g2, Option.bind_some, reduceIte, or_self, z10, z40, z60, z01, z02, z12, z21, z20]; try simp only [h1, h2, g1, g2, Option.bind_some, reduceIte, or_self, z10, z40, z60, z01, z02, z12, z21, z20])
  by_cases e : nI c = nI d
  · rw [if_pos e]; exact Or.inl ⟨rfl, rfl⟩
  · rw [if_neg e]
    exact Or.inr ⟨c, d, hc, hd, fun q => e (congrArg nI q), rfl, rfl, rfl, rfl⟩
def swN (f : Nat → Nat) (c d : Nat) : Nat → Nat := updN (updN f c (f d)) d (f c)
theorem sw_rep {n c d : Nat} {F : Nat → Int32} {f : Nat → Nat} (h : ∀ i, i < n → F i = nI (f i)) (hc : c < n) (hd : d < n) : ∀ i, i < n → upd (upd F c (F d)) d (F c) i = nI (swN f c d i) := by
  intro i hi
  unfold swN upd updN
  by_cases h1 : i = d
  · rw [if_pos h1, if_pos h1]; exact h c hc
  rw [if_neg h1, if_neg h1]
  by_cases h2 : i = c
  · rw [if_pos h2, if_pos h2]; exact h d hd
  rw [if_neg h2, if_neg h2]; exact h i hi
theorem sw_le {n c d B : Nat} {f : Nat → Nat} (h : ∀ i, i < n → f i ≤ B) (hc : c < n) (hd : d < n) : ∀ i, i < n → swN f c d i ≤ B := by
  intro i hi
  unfold swN updN
  split
  · exact h c hc
  · split
    · exact h d hd
    · exact h i hi
/-- two change what they have -/
def swS (t : Tb) (c d : Nat) : Tb := setSw t (swN (tSw t) c d)
theorem swS_ok {t : Tb} (hok : okT t) {c d : Nat} (hc : c < tN t) (hd : d < tN t) : okT (swS t c d) := ⟨hok.1, fun i hi => ⟨(hok.2.1 i hi).1, sw_le (fun j hj => (hok.2.1 j hj).2) hc hd i hi⟩, hok.2.2⟩
theorem p_swap {z : RS} {t : Tb} (hX : rX z t) (hok : okT t) {c d : Nat} (hc : c < tN t) (hd : d < tN t) : ∃ z', f_Ring_changeSweets z (nI c) (nI d) = some z' ∧ rX z' (swS t c d) ∧ r_kinds z' = r_kinds z := by
  have hn := hok.1
  unfold f_Ring_changeSweets
  (simp only [(eq_false (nI_pos (show c < 2 ^ 31 by omega)) : (nI (c) < 0) = False), ix_k (show c < 8 by omega), (eq_false (show ¬ 8 ≤ c by omega)), (eq_false (nI_pos (show d < 2 ^ 31 by omega)) : (nI (d) < 0) = False), ix_k (show d < 8 by omega), (eq_false (show ¬ 8 ≤ d by omega)), Option.bind_some, reduceIte, or_self, z10, z40, z60, z01, z02, z12, z21, z20]; try simp only [(eq_false (nI_pos (show c < 2 ^ 31 by omega)) : (nI (c) < 0) = False), ix_k (show c < 8 by omega), (eq_false (show ¬ 8 ≤ c by omega)), (eq_false (nI_pos (show d < 2 ^ 31 by omega)) : (nI (d) < 0) = False), ix_k (show d < 8 by omega), (eq_false (show ¬ 8 ≤ d by omega)), Option.bind_some, reduceIte, or_self, z10, z40, z60, z01, z02, z12, z21, z20])
  exact ⟨_, rfl, ⟨hX.1, fun i hi => ⟨(hX.2.1 i hi).1, sw_rep (fun j hj => (hX.2.1 j hj).2) hc hd i hi⟩, hX.2.2⟩, rfl⟩
theorem q_swap {z : MT} {t : Tb} (hM : rM z t) (hok : okT t) {c d : Nat} (hc : c < tN t) (hd : d < tN t) : ∃ z', f_M_swapsSweets z (nI c) (nI d) = some z' ∧ rM z' (swS t c d) ∧ m_kept z' = m_kept z ∧ m_kind z' = m_kind z := by
  have hn := hok.1
  unfold f_M_swapsSweets
  (simp only [(eq_false (nI_pos (show c < 2 ^ 31 by omega)) : (nI (c) < 0) = False), ix_k (show c < 8 by omega), (eq_false (show ¬ 8 ≤ c by omega)), (eq_false (nI_pos (show d < 2 ^ 31 by omega)) : (nI (d) < 0) = False), ix_k (show d < 8 by omega), (eq_false (show ¬ 8 ≤ d by omega)), Option.bind_some, reduceIte, or_self, z10, z40, z60, z01, z02, z12, z21, z20]; try simp only [(eq_false (nI_pos (show c < 2 ^ 31 by omega)) : (nI (c) < 0) = False), ix_k (show c < 8 by omega), (eq_false (show ¬ 8 ≤ c by omega)), (eq_false (nI_pos (show d < 2 ^ 31 by omega)) : (nI (d) < 0) = False), ix_k (show d < 8 by omega), (eq_false (show ¬ 8 ≤ d by omega)), Option.bind_some, reduceIte, or_self, z10, z40, z60, z01, z02, z12, z21, z20])
  exact ⟨_, rfl, ⟨hM.1, fun i hi => ⟨(hM.2.1 i hi).1, sw_rep (fun j hj => (hM.2.1 j hj).2) hc hd i hi⟩, hM.2.2⟩, rfl, rfl⟩
theorem e_change {now : RS} {T : MT} {t : Tb} {a b : Nat → Int32} (hX : rX now t) (hM : rM T t) (hok : okT t) (hr : rf a b) (x1 x2 : Int32) : ∃ r now' a' T' b' t', f_X_change now a x1 x2 = some (r, now', a') ∧ f_M_change T b x1 x2 = some (r, T', b') ∧ okT t' ∧ rX now' t' ∧ rM T' t' ∧ m_kept T' = m_kept T ∧ rf a' b' := by
  have hn := hok.1
  unfold f_X_change f_M_change
  rcases two hX hM hok x1 x2 with ⟨h1, h2⟩ | ⟨c, d, hc, hd, hcd, rfl, rfl, h1, h2⟩
  · obtain ⟨a', b', e1, e2, h⟩ := no1 hr
    (simp only [h1, h2, e1, e2, Option.bind_some, reduceIte, or_self, z10, z40, z60, z01, z02, z12, z21, z20]; try simp only [h1, h2, e1, e2, Option.bind_some, reduceIte, or_self, z10, z40, z60, z01, z02, z12, z21, z20])
    exact ⟨_, now, a', T, b', t, rfl, rfl, hok, hX, hM, rfl, h⟩
  obtain ⟨z1, e1, r1, k1⟩ := p_swap (z := ((upd (upd (r_kinds now) c ((r_kinds now) d)) d ((r_kinds now) c)), (r_sweets now), (r_settings now), (r_heaps now), (r_children now), (r_strokes now), (r_gave now), (r_threw now))) (t := (t.1, swN (tKd t) c d, t.2.2)) ⟨hX.1, fun i hi => ⟨sw_rep (fun j hj => (hX.2.1 j hj).1) hc hd i hi, (hX.2.1 i hi).2⟩, hX.2.2⟩ ⟨hok.1, fun i hi => ⟨sw_le (fun j hj => (hok.2.1 j hj).1) hc hd i hi, (hok.2.1 i hi).2⟩, hok.2.2⟩ hc hd
  obtain ⟨z2, e2, r2, k2, k3⟩ := q_swap hM hok hc hd
  unfold f_Ring_changeSeats
  (simp only [h1, h2, (eq_false (nI_pos (show c < 2 ^ 31 by omega)) : (nI (c) < 0) = False), ix_k (show c < 8 by omega), (eq_false (show ¬ 8 ≤ c by omega)), (eq_false (nI_pos (show d < 2 ^ 31 by omega)) : (nI (d) < 0) = False), ix_k (show d < 8 by omega), (eq_false (show ¬ 8 ≤ d by omega)), e1, e2, Option.bind_some, reduceIte, or_self, z10, z40, z60, z01, z02, z12, z21, z20]; try simp only [h1, h2, (eq_false (nI_pos (show c < 2 ^ 31 by omega)) : (nI (c) < 0) = False), ix_k (show c < 8 by omega), (eq_false (show ¬ 8 ≤ c by omega)), (eq_false (nI_pos (show d < 2 ^ 31 by omega)) : (nI (d) < 0) = False), ix_k (show d < 8 by omega), (eq_false (show ¬ 8 ≤ d by omega)), e1, e2, Option.bind_some, reduceIte, or_self, z10, z40, z60, z01, z02, z12, z21, z20])
  refine ⟨_, z1, a, _, b, swS (t.1, swN (tKd t) c d, t.2.2) c d, rfl, rfl, ?_, r1, ⟨r2.1, fun i hi => ⟨?_, (r2.2.1 i hi).2⟩, r2.2.2⟩, k2, hr⟩
  · exact ⟨hok.1, fun i hi => ⟨sw_le (fun j hj => (hok.2.1 j hj).1) hc hd i hi, sw_le (fun j hj => (hok.2.1 j hj).2) hc hd i hi⟩, hok.2.2⟩
  · show upd (upd (m_kind z2) c (m_kind z2 d)) d (m_kind z2 c) i = nI (swN (tKd t) c d i)
    rw [k3]
    exact sw_rep (fun j hj => (hM.2.1 j hj).1) hc hd i hi
/-- all SWEETS of the first i -/
def sm (t : Tb) : Nat → Nat
  | 0 => 0
  | i + 1 => sm t i + tSw t i
theorem sm_le {t : Tb} (hok : okT t) : ∀ i, i ≤ tN t → sm t i ≤ 999 * i
  | 0, _ => Nat.zero_le _
  | i + 1, h => by
    have := sm_le hok i (by omega)
    have := (hok.2.1 i (by omega)).2
    show sm t i + tSw t i ≤ _
    omega
def od (t : Tb) : Nat → Nat
  | 0 => 0
  | i + 1 => od t i + tSw t i % 2
theorem p_sum_L {z : RS} {t : Tb} (hX : rX z t) (hok : okT t) : ∀ (d i fuel : Nat), i + d = tN t → d < fuel → f_Ring_allSweets_L4 z fuel (nI (sm t i)) (nI i) = some (nI (sm t (tN t))) := by
  have hn := hok.1
  intro d
  induction d with
  | zero =>
    intro i fuel hi hf
    obtain ⟨f, rfl, -⟩ := f_suc hf
    obtain rfl : i = tN t := by omega
    rw [f_Ring_allSweets_L4, hX.1, if_pos (nI_le (Nat.le_refl _) (by omega))]
  | succ d ih =>
    intro i fuel hi hf
    obtain ⟨f, rfl, hf'⟩ := f_suc hf
    have hlt : i < tN t := by omega
    rw [f_Ring_allSweets_L4, hX.1, if_neg (ix_n hlt hn), if_neg (ix_b (by omega) (by omega)), ix_k (by omega), (hX.2.1 i hlt).2, nI_1, nI_add]
    exact ih (i + 1) f (by omega) hf'
theorem p_sum {z : RS} {t : Tb} (hX : rX z t) (hok : okT t) : f_Ring_allSweets z = some (nI (sm t (tN t))) := by
  have hn := hok.1
  exact p_sum_L hX hok (tN t) 0 FU (Nat.zero_add _) (by unfold FU; omega)
theorem q_sum_L {z : MT} {t : Tb} (hX : rM z t) (hok : okT t) : ∀ (d i fuel : Nat), i + d = tN t → d < fuel → f_M_sum_L4 z fuel (nI (sm t i)) (nI i) = some (nI (sm t (tN t))) := by
  have hn := hok.1
  intro d
  induction d with
  | zero =>
    intro i fuel hi hf
    obtain ⟨f, rfl, -⟩ := f_suc hf
    obtain rfl : i = tN t := by omega
    rw [f_M_sum_L4, hX.1, if_pos (nI_le (Nat.le_refl _) (by omega))]
  | succ d ih =>
    intro i fuel hi hf
    obtain ⟨f, rfl, hf'⟩ := f_suc hf
    have hlt : i < tN t := by omega
    rw [f_M_sum_L4, hX.1, if_neg (ix_n hlt hn), if_neg (ix_b (by omega) (by omega)), ix_k (by omega), (hX.2.1 i hlt).2, nI_1, nI_add]
    exact ih (i + 1) f (by omega) hf'
theorem q_sum {z : MT} {t : Tb} (hX : rM z t) (hok : okT t) : f_M_sum z = some (nI (sm t (tN t))) := by
  have hn := hok.1
  exact q_sum_L hX hok (tN t) 0 FU (Nat.zero_add _) (by unfold FU; omega)
theorem p_odd_L {z : RS} {t : Tb} (hX : rX z t) (hok : okT t) : ∀ (d i fuel : Nat), i + d = tN t → d < fuel → f_Ring_oddHeaps_L4 z fuel (nI (od t i)) (nI i) = some (nI (od t (tN t))) := by
  have hn := hok.1
  intro d
  induction d with
  | zero =>
    intro i fuel hi hf
    obtain ⟨f, rfl, -⟩ := f_suc hf
    obtain rfl : i = tN t := by omega
    rw [f_Ring_oddHeaps_L4, hX.1, if_pos (nI_le (Nat.le_refl _) (by omega))]
  | succ d ih =>
    intro i fuel hi hf
    obtain ⟨f, rfl, hf'⟩ := f_suc hf
    have hlt : i < tN t := by omega
    have h9 := (hok.2.1 i hlt).2
    rw [f_Ring_oddHeaps_L4, hX.1, if_neg (ix_n hlt hn), if_neg (ix_b (by omega) (by omega)), ix_k (by omega), (hX.2.1 i hlt).2, nI_odd (by omega), nI_1, nI_add]
    exact ih (i + 1) f (by omega) hf'
theorem q_odd_L {z : MT} {t : Tb} (hX : rM z t) (hok : okT t) : ∀ (d i fuel : Nat), i + d = tN t → d < fuel → f_M_count_L109 z fuel (nI (od t i)) (nI i) = some (nI (od t (tN t))) := by
  have hn := hok.1
  intro d
  induction d with
  | zero =>
    intro i fuel hi hf
    obtain ⟨f, rfl, -⟩ := f_suc hf
    obtain rfl : i = tN t := by omega
    rw [f_M_count_L109, hX.1, if_pos (nI_le (Nat.le_refl _) (by omega))]
  | succ d ih =>
    intro i fuel hi hf
    obtain ⟨f, rfl, hf'⟩ := f_suc hf
    have hlt : i < tN t := by omega
    have h9 := (hok.2.1 i hlt).2
    rw [f_M_count_L109, hX.1, if_neg (ix_n hlt hn), if_neg (ix_b (by omega) (by omega)), ix_k (by omega), (hX.2.1 i hlt).2, nI_odd (by omega), nI_1, nI_add]
    exact ih (i + 1) f (by omega) hf'
