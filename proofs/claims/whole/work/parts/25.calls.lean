/-! Pure: more calls, on both sides. -/
def BK (T T' : MT) (t : Tb) : Prop := rM T' t ∧ ∀ j, j < 23 → m_kept T' j = m_kept T j
theorem keep1 {z : MT} {t : Tb} (hr : rM z t) (hok : okT t) : ∃ z', f_M_passesAll z 1 1 = some z' ∧ rM z' t ∧ kT (m_kept z') 30 t ∧ ∀ j, j < 30 ∨ 53 ≤ j → m_kept z' j = m_kept z j := q_keep hr hok 1 (by decide)
theorem keep2 {z : MT} {t : Tb} (hr : rM z t) (hok : okT t) : ∃ z', f_M_passesAll z 2 1 = some z' ∧ rM z' t ∧ kT (m_kept z') 60 t ∧ ∀ j, j < 60 ∨ 83 ≤ j → m_kept z' j = m_kept z j := q_keep hr hok 2 (by decide)
theorem keep0 {z : MT} {t : Tb} (hr : rM z t) (hok : okT t) : ∃ z', f_M_passesAll z 0 1 = some z' ∧ rM z' t ∧ kT (m_kept z') 0 t ∧ ∀ j, 23 ≤ j → m_kept z' j = m_kept z j := by
  obtain ⟨z', a, b, c, d⟩ := q_keep hr hok 0 (by decide)
  exact ⟨z', a, b, c, fun j hj => d j (Or.inr (by omega))⟩
theorem back1 {z : MT} {t : Tb} (hk : kT (m_kept z) 30 t) (hok : okT t) : ∃ z', f_M_passesAll z 1 0 = some z' ∧ rM z' t ∧ m_kept z' = m_kept z := q_back 1 (by decide) hk hok
theorem back2 {z : MT} {t : Tb} (hk : kT (m_kept z) 60 t) (hok : okT t) : ∃ z', f_M_passesAll z 2 0 = some z' ∧ rM z' t ∧ m_kept z' = m_kept z := q_back 2 (by decide) hk hok
theorem back0 {z : MT} {t : Tb} (hk : kT (m_kept z) 0 t) (hok : okT t) : ∃ z', f_M_passesAll z 0 0 = some z' ∧ rM z' t ∧ m_kept z' = m_kept z := q_back 0 (by decide) hk hok
/-- keep, n strokes, back -/
theorem q_mind {T : MT} {t : Tb} (hM : rM T t) (hok : okT t) (n : Nat) (hn : n ≤ 1000) : ∃ T1 T2 T3, f_M_passesAll T 1 1 = some T1 ∧ f_M_goes T1 (nI n) = some (tGv (sq t n) - tGv t, T2) ∧ f_M_passesAll T2 1 0 = some T3 ∧ rM T1 t ∧ rM T2 (sq t n) ∧ BK T T3 t := by
  obtain ⟨T1, e1, r1, k1, o1⟩ := keep1 hM hok
  obtain ⟨T2, e2, r2, o2⟩ := q_goes r1 hok n hn
  obtain ⟨T3, e3, r3, o3⟩ := back1 (z := T2) (t := t) (by rw [o2]; exact k1) hok
  exact ⟨T1, T2, T3, e1, e2, e3, r1, r2, r3, fun j hj => by rw [o3, o2]; exact o1 j (by omega)⟩
theorem e_kind {now : RS} {T : MT} {t : Tb} {a b : Nat → Int32} (hX : rX now t) (hM : rM T t) (hok : okT t) (hr : rf a b) (x1 x2 : Int32) : ∃ r now' a' T' b' t', f_X_kind now a x1 x2 = some (r, now', a') ∧ f_M_kind T b x1 x2 = some (r, T', b') ∧ okT t' ∧ rX now' t' ∧ rM T' t' ∧ m_kept T' = m_kept T ∧ rf a' b' := by
  have hn := hok.1
  unfold f_X_kind f_M_kind f_M_isIn
  rcases ch hX hM hok x1 with ⟨h1, h2⟩ | ⟨c, hc, rfl, h1, h2⟩
  · obtain ⟨a', b', e1, e2, h⟩ := no1 hr
    (simp only [h1, h2, e1, e2, Option.bind_some, reduceIte, or_self, z10, z40, z60, z01, z02, z12, z21, z20]; try simp only [h1, h2, e1, e2, Option.bind_some, reduceIte, or_self, z10, z40, z60, z01, z02, z12, z21, z20])
    exact ⟨_, now, a', T, b', t, rfl, rfl, hok, hX, hM, rfl, h⟩
  (simp only [h1, h2, (eq_false (nI_pos (show c < 2 ^ 31 by omega)) : (nI (c) < 0) = False), ix_k (show c < 8 by omega), (eq_false (show ¬ 8 ≤ c by omega)), (hX.2.1 c hc).1, (hM.2.1 c hc).1, Option.bind_some, reduceIte, or_self, z10, z40, z60, z01, z02, z12, z21, z20]; try simp only [h1, h2, (eq_false (nI_pos (show c < 2 ^ 31 by omega)) : (nI (c) < 0) = False), ix_k (show c < 8 by omega), (eq_false (show ¬ 8 ≤ c by omega)), (hX.2.1 c hc).1, (hM.2.1 c hc).1, Option.bind_some, reduceIte, or_self, z10, z40, z60, z01, z02, z12, z21, z20])
  obtain ⟨a', b', e1, e2, h⟩ := no2 hr
  by_cases g0 : x2 < 0
  · rw [if_pos g0, if_pos g0]
    (simp only [e1, e2, Option.bind_some, reduceIte, or_self, z10, z40, z60, z01, z02, z12, z21, z20]; try simp only [e1, e2, Option.bind_some, reduceIte, or_self, z10, z40, z60, z01, z02, z12, z21, z20])
    exact ⟨_, now, a', T, b', t, rfl, rfl, hok, hX, hM, rfl, h⟩
  rw [if_neg g0, if_neg g0]
  have g0' : (0 : Int) ≤ x2.toInt := by
    have h : ¬ x2.toInt < (0 : Int32).toInt := fun q => g0 (Int32.lt_iff_toInt_lt.mpr q)
    rw [Int32.toInt_zero] at h
    omega
  by_cases g6 : x2 ≤ 6
  · have g6' := Int32.le_iff_toInt_le.mp g6
    have h6 : (6 : Int32).toInt = 6 := by decide
    obtain ⟨v, hv6, rfl⟩ : ∃ v : Nat, v ≤ 6 ∧ x2 = nI v := ⟨x2.toInt.toNat, by omega, by
      apply Int32.toInt_inj.mp
      rw [nI_toInt (by omega)]
      omega⟩
    rw [if_pos g6, if_neg (by rw [lI 6, nI_ltI (by omega) (by omega)]; omega)]
    (simp only [h1, Option.bind_some, reduceIte, or_self, z10, z40, z60, z01, z02, z12, z21, z20]; try simp only [h1, Option.bind_some, reduceIte, or_self, z10, z40, z60, z01, z02, z12, z21, z20])
    refine ⟨_, _, a, _, b, (t.1, updN (tKd t) c v, t.2.2), rfl, rfl, ⟨hok.1, fun i hi => ⟨?_, (hok.2.1 i hi).2⟩, hok.2.2⟩, ⟨hX.1, fun i hi => ⟨?_, (hX.2.1 i hi).2⟩, hX.2.2⟩, ⟨hM.1, fun i hi => ⟨?_, (hM.2.1 i hi).2⟩, hM.2.2⟩, rfl, hr⟩
    · show updN (tKd t) c v i ≤ 6
      have := (hok.2.1 i hi).1
      unfold updN
      split <;> omega
    · show upd (r_kinds now) c (nI v) i = nI (updN (tKd t) c v i)
      unfold upd updN
      split
      · rfl
      · exact (hX.2.1 i hi).1
    · show upd (m_kind T) c (nI v) i = nI (updN (tKd t) c v i)
      unfold upd updN
      split
      · rfl
      · exact (hM.2.1 i hi).1
  · have g6' : (6 : Int32) < x2 := Int32.not_le.mp g6
    rw [if_neg g6, if_pos g6']
    (simp only [e1, e2, Option.bind_some, reduceIte, or_self, z10, z40, z60, z01, z02, z12, z21, z20]; try simp only [e1, e2, Option.bind_some, reduceIte, or_self, z10, z40, z60, z01, z02, z12, z21, z20])
    exact ⟨_, now, a', T, b', t, rfl, rfl, hok, hX, hM, rfl, h⟩
theorem e_stroke {now : RS} {T : MT} {t : Tb} {a b : Nat → Int32} (hX : rX now t) (hM : rM T t) (hok : okT t) (hr : rf a b) : ∃ r now' a' T' b' t', f_X_stroke now a = some (r, now', a') ∧ f_M_stroke T b = some (r, T', b') ∧ okT t' ∧ rX now' t' ∧ rM T' t' ∧ m_kept T' = m_kept T ∧ rf a' b' := by
  have hn := hok.1
  unfold f_X_stroke f_M_stroke
  rw [hX.1, hM.1]
  by_cases h0 : tN t = 0
  · obtain ⟨a', b', e1, e2, h⟩ := no3 hr
    rw [h0]
    rw [if_pos nI_0, if_pos nI_0]
    (simp only [e1, e2, Option.bind_some, reduceIte, or_self, z10, z40, z60, z01, z02, z12, z21, z20]; try simp only [e1, e2, Option.bind_some, reduceIte, or_self, z10, z40, z60, z01, z02, z12, z21, z20])
    exact ⟨_, now, a', T, b', t, rfl, rfl, hok, hX, hM, rfl, h⟩
  · rw [if_neg (nI_ne0 (by omega) (by omega)), if_neg (nI_ne0 (by omega) (by omega))]
    obtain ⟨z1, e1, r1⟩ := p_strike hX hok
    obtain ⟨z2, e2, r2, k2⟩ := q_goes hM hok 1 (by decide)
    rw [show f_M_goes T 1 = _ from e2, e1]
    exact ⟨_, z1, a, z2, b, stk t, rfl, rfl, stk_ok hok, r1, r2, k2, hr⟩
/-- a copy, n strokes -/
theorem p_mind (one : RS) {now : RS} {t : Tb} (hX : rX now t) (hok : okT t) (n : Nat) (hn : n ≤ 1000) : ∃ z1 z2, f_Ring_copyFrom one now = some z1 ∧ f_Ring_strikeOften z1 (nI n) = some z2 ∧ rX z1 t ∧ rX z2 (sq t n) := by
  obtain ⟨z1, e1, r1⟩ := p_copyFrom one now hX hok
  obtain ⟨z2, e2, r2⟩ := p_strikeOften r1 hok n hn
  exact ⟨z1, z2, e1, e2, r1, r2⟩
theorem e_run {now one : RS} {T : MT} {t : Tb} {a b : Nat → Int32} (hX : rX now t) (hM : rM T t) (hok : okT t) (hr : rf a b) (x1 x2 : Int32) : ∃ r a' one' T' b', f_X_run now a one x1 x2 = some (r, a', one') ∧ f_M_run T b x1 x2 = some (r, T', b') ∧ BK T T' t ∧ rf a' b' := by
  have hn := hok.1
  unfold f_X_run f_M_run
  rcases ch hX hM hok x1 with ⟨h1, h2⟩ | ⟨c, hc, rfl, h1, h2⟩
  · obtain ⟨a', b', e1, e2, h⟩ := no1 hr
    (simp only [h1, h2, e1, e2, Option.bind_some, reduceIte, or_self, z10, z40, z60, z01, z02, z12, z21, z20]; try simp only [h1, h2, e1, e2, Option.bind_some, reduceIte, or_self, z10, z40, z60, z01, z02, z12, z21, z20])
    exact ⟨_, a', one, T, b', rfl, rfl, ⟨hM, fun _ _ => rfl⟩, h⟩
  rcases (show (f_X_outside x2 0 200 = some (-4) ∧ f_M_bound x2 0 200 = some (-4)) ∨ (f_X_outside x2 0 200 = some (-6) ∧ f_M_bound x2 0 200 = some (-6)) ∨ ∃ n, 0 ≤ n ∧ n ≤ 200 ∧ x2 = nI n ∧ (f_X_outside x2 0 200 = some 0 ∧ f_M_bound x2 0 200 = some 0) from bd x2 0 200 (by decide) (by decide)) with ⟨hB, hB2⟩ | ⟨hB, hB2⟩ | ⟨n, hn0, hn, rfl, hB, hB2⟩
  · obtain ⟨a', b', e1, e2, h⟩ := no4 hr
    (simp only [h1, h2, hB, hB2, e1, e2, Option.bind_some, reduceIte, or_self, z10, z40, z60, z01, z02, z12, z21, z20]; try simp only [h1, h2, hB, hB2, e1, e2, Option.bind_some, reduceIte, or_self, z10, z40, z60, z01, z02, z12, z21, z20])
    exact ⟨_, a', one, T, b', rfl, rfl, ⟨hM, fun _ _ => rfl⟩, h⟩
  · obtain ⟨a', b', e1, e2, h⟩ := no6 hr
    (simp only [h1, h2, hB, hB2, e1, e2, Option.bind_some, reduceIte, or_self, z10, z40, z60, z01, z02, z12, z21, z20]; try simp only [h1, h2, hB, hB2, e1, e2, Option.bind_some, reduceIte, or_self, z10, z40, z60, z01, z02, z12, z21, z20])
    exact ⟨_, a', one, T, b', rfl, rfl, ⟨hM, fun _ _ => rfl⟩, h⟩
  · obtain ⟨z1, z2, f1, f2, -, r2⟩ := p_mind one hX hok n (by omega)
    obtain ⟨T1, T2, T3, g1, g2, g3, -, s2, k3⟩ := q_mind hM hok n (by omega)
    have hc' : c < tN (sq t n) := by rw [(sq_same t n).1]; exact hc
    unfold f_Mind_sweetsBehind
    (simp only [h1, h2, hB, hB2, f1, f2, g1, g2, g3, (eq_false (nI_pos (show c < 2 ^ 31 by omega)) : (nI (c) < 0) = False), ix_k (show c < 8 by omega), (eq_false (show ¬ 8 ≤ c by omega)), (r2.2.1 c hc').2, (s2.2.1 c hc').2, Option.bind_some, reduceIte, or_self, z10, z40, z60, z01, z02, z12, z21, z20]; try simp only [h1, h2, hB, hB2, f1, f2, g1, g2, g3, (eq_false (nI_pos (show c < 2 ^ 31 by omega)) : (nI (c) < 0) = False), ix_k (show c < 8 by omega), (eq_false (show ¬ 8 ≤ c by omega)), (r2.2.1 c hc').2, (s2.2.1 c hc').2, Option.bind_some, reduceIte, or_self, z10, z40, z60, z01, z02, z12, z21, z20])
    exact ⟨_, a, z2, T3, b, rfl, rfl, k3, hr⟩
theorem part01 (x : Int32) : (f_X_isPart x = some 0 ∧ f_M_isIn x 0 1 = some 0) ∨ (x = 0 ∧ f_X_isPart x = some 1 ∧ f_M_isIn x 0 1 = some 1) ∨ (x = 1 ∧ f_X_isPart x = some 1 ∧ f_M_isIn x 0 1 = some 1) := by
  by_cases h0 : x = 0
  · subst h0; exact Or.inr (Or.inl ⟨rfl, by decide, by decide⟩)
  by_cases h1 : x = 1
  · subst h1; exact Or.inr (Or.inr ⟨rfl, by decide, by decide⟩)
  refine Or.inl ?_
  unfold f_X_isPart f_M_isIn
  rw [if_neg h0, if_neg h1]
  refine ⟨rfl, ?_⟩
  by_cases g : x < 0
  · rw [if_pos g]
  rw [if_neg g]
  by_cases g1 : (1 : Int32) < x
  · rw [if_pos g1]
  exfalso
  have a1 : ¬ x.toInt < (0 : Int32).toInt := fun q => g (Int32.lt_iff_toInt_lt.mpr q)
  have a2 : ¬ (1 : Int32).toInt < x.toInt := fun q => g1 (Int32.lt_iff_toInt_lt.mpr q)
  rw [Int32.toInt_zero] at a1
  have e1 : (1 : Int32).toInt = 1 := by decide
  rcases (show x.toInt = 0 ∨ x.toInt = 1 by omega) with q | q
  · exact h0 (Int32.toInt_inj.mp q)
  · exact h1 (Int32.toInt_inj.mp (q.trans e1.symm))
theorem e_given {now one : RS} {T : MT} {t : Tb} {a b : Nat → Int32} (hX : rX now t) (hM : rM T t) (hok : okT t) (hr : rf a b) (x1 x2 : Int32) : ∃ r a' one' T' b', f_X_given now a one x1 x2 = some (r, a', one') ∧ f_M_given T b x1 x2 = some (r, T', b') ∧ BK T T' t ∧ rf a' b' := by
  unfold f_X_given f_M_given
  rcases part01 x2 with ⟨p1, p2⟩ | ⟨rfl, p1, p2⟩ | ⟨rfl, p1, p2⟩
  · obtain ⟨a', b', e1, e2, h⟩ := no2 hr
    (simp only [p1, p2, e1, e2, Option.bind_some, reduceIte, or_self, z10, z40, z60, z01, z02, z12, z21, z20]; try simp only [p1, p2, e1, e2, Option.bind_some, reduceIte, or_self, z10, z40, z60, z01, z02, z12, z21, z20])
    exact ⟨_, a', one, T, b', rfl, rfl, ⟨hM, fun _ _ => rfl⟩, h⟩
  all_goals rcases (show (f_X_outside x1 0 200 = some (-4) ∧ f_M_bound x1 0 200 = some (-4)) ∨ (f_X_outside x1 0 200 = some (-6) ∧ f_M_bound x1 0 200 = some (-6)) ∨ ∃ n, 0 ≤ n ∧ n ≤ 200 ∧ x1 = nI n ∧ (f_X_outside x1 0 200 = some 0 ∧ f_M_bound x1 0 200 = some 0) from bd x1 0 200 (by decide) (by decide)) with ⟨hB, hB2⟩ | ⟨hB, hB2⟩ | ⟨n, hn0, hn, rfl, hB, hB2⟩
  · obtain ⟨a', b', e1, e2, h⟩ := no4 hr
    (simp only [p1, p2, hB, hB2, e1, e2, Option.bind_some, reduceIte, or_self, z10, z40, z60, z01, z02, z12, z21, z20]; try simp only [p1, p2, hB, hB2, e1, e2, Option.bind_some, reduceIte, or_self, z10, z40, z60, z01, z02, z12, z21, z20])
    exact ⟨_, a', one, T, b', rfl, rfl, ⟨hM, fun _ _ => rfl⟩, h⟩
  · obtain ⟨a', b', e1, e2, h⟩ := no6 hr
    (simp only [p1, p2, hB, hB2, e1, e2, Option.bind_some, reduceIte, or_self, z10, z40, z60, z01, z02, z12, z21, z20]; try simp only [p1, p2, hB, hB2, e1, e2, Option.bind_some, reduceIte, or_self, z10, z40, z60, z01, z02, z12, z21, z20])
    exact ⟨_, a', one, T, b', rfl, rfl, ⟨hM, fun _ _ => rfl⟩, h⟩
  · obtain ⟨z1, z2, f1, f2, r1, r2⟩ := p_mind one hX hok n (by omega)
    obtain ⟨T1, T2, T3, g1, g2, g3, s1, s2, k3⟩ := q_mind hM hok n (by omega)
    unfold f_Mind_gaveIn
    (simp only [p1, p2, hB, hB2, f1, f2, g1, g2, g3, r2.2.2.2.2.2.2.1, hX.2.2.2.2.2.2.1, Option.bind_some, reduceIte, or_self, z10, z40, z60, z01, z02, z12, z21, z20]; try simp only [p1, p2, hB, hB2, f1, f2, g1, g2, g3, r2.2.2.2.2.2.2.1, hX.2.2.2.2.2.2.1, Option.bind_some, reduceIte, or_self, z10, z40, z60, z01, z02, z12, z21, z20])
    exact ⟨_, a, z2, T3, b, rfl, rfl, k3, hr⟩
  · obtain ⟨a', b', e1, e2, h⟩ := no4 hr
    (simp only [p1, p2, hB, hB2, e1, e2, Option.bind_some, reduceIte, or_self, z10, z40, z60, z01, z02, z12, z21, z20]; try simp only [p1, p2, hB, hB2, e1, e2, Option.bind_some, reduceIte, or_self, z10, z40, z60, z01, z02, z12, z21, z20])
    exact ⟨_, a', one, T, b', rfl, rfl, ⟨hM, fun _ _ => rfl⟩, h⟩
  · obtain ⟨a', b', e1, e2, h⟩ := no6 hr
    (simp only [p1, p2, hB, hB2, e1, e2, Option.bind_some, reduceIte, or_self, z10, z40, z60, z01, z02, z12, z21, z20]; try simp only [p1, p2, hB, hB2, e1, e2, Option.bind_some, reduceIte, or_self, z10, z40, z60, z01, z02, z12, z21, z20])
    exact ⟨_, a', one, T, b', rfl, rfl, ⟨hM, fun _ _ => rfl⟩, h⟩
  · obtain ⟨z1, z2, f1, f2, r1, r2⟩ := p_mind one hX hok n (by omega)
    obtain ⟨T1, T2, T3, g1, g2, g3, s1, s2, k3⟩ := q_mind hM hok n (by omega)
    unfold f_Mind_threwIn
    (simp only [p1, p2, hB, hB2, f1, f2, g1, g2, g3, r2.2.2.2.2.2.2.2, hX.2.2.2.2.2.2.2, s1.2.2.2.2.2.2.2, s2.2.2.2.2.2.2.2, Option.bind_some, reduceIte, or_self, z10, z40, z60, z01, z02, z12, z21, z20]; try simp only [p1, p2, hB, hB2, f1, f2, g1, g2, g3, r2.2.2.2.2.2.2.2, hX.2.2.2.2.2.2.2, s1.2.2.2.2.2.2.2, s2.2.2.2.2.2.2.2, Option.bind_some, reduceIte, or_self, z10, z40, z60, z01, z02, z12, z21, z20])
    exact ⟨_, a, z2, T3, b, rfl, rfl, k3, hr⟩
