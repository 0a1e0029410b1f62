/-! Pure: JOINED, SEEDS, JUDGED. -/
/-- the first i children of u behind those of t -/
def jn (t u : Tb) : Nat → Tb
  | 0 => t
  | i + 1 => addT (jn t u i) (tKd u i) (tSw u i)
theorem jn_n (t u : Tb) : ∀ i, tN (jn t u i) = tN t + i
  | 0 => rfl
  | i + 1 => by
    show tN (jn t u i) + 1 = _
    rw [jn_n t u i]; omega
theorem jn_gv (t u : Tb) : ∀ i, tGv (jn t u i) = tGv t
  | 0 => rfl
  | i + 1 => jn_gv t u i
theorem jn_ok {t u : Tb} (hok : okT t) (hu : okT u) (h : tN t + tN u ≤ 8) : ∀ i, i ≤ tN u → okT (jn t u i)
  | 0, _ => hok
  | i + 1, hi => addT_ok (jn_ok hok hu h i (by omega)) (by rw [jn_n]; omega) (hu.2.1 i (by omega)).1 (hu.2.1 i (by omega)).2
theorem p_join_L {g : RS} {t u : Tb} (hok : okT t) (hu : okT u) (h : tN t + tN u ≤ 8) (hg : rX g u) (k : RS → Option (Int32 × RS)) : ∀ (d i fuel : Nat) (z : RS), i + d = tN u → d < fuel → rX z (jn t u i) → ∃ z', f_Mind_gaveJoined_L11 g k fuel z (nI i) = k z' ∧ rX z' (jn t u (tN u)) := by
  have hn := hu.1
  intro d
  induction d with
  | zero =>
    intro i fuel z hi hf hr
    obtain ⟨f, rfl, -⟩ := f_suc hf
    obtain rfl : i = tN u := by omega
    exact ⟨z, by rw [f_Mind_gaveJoined_L11, hg.1, if_pos (nI_le (Nat.le_refl _) (by omega))], hr⟩
  | succ d ih =>
    intro i fuel z hi hf hr
    obtain ⟨f, rfl, hf'⟩ := f_suc hf
    have hlt : i < tN u := by omega
    have gb := ix_b (show i < 8 by omega) (show 8 < 2 ^ 31 by omega)
    obtain ⟨z1, e1, r1⟩ := p_seat hr (jn_ok hok hu h i (by omega)) (by rw [jn_n]; omega) (tKd u i) (tSw u i)
    rw [f_Mind_gaveJoined_L11, hg.1, if_neg (ix_n hlt hn), if_neg gb, ix_k (by omega), (hg.2.1 i hlt).1, (hg.2.1 i hlt).2, e1, Option.bind_some, nI_1]
    exact ih (i + 1) f z1 (by omega) hf' r1
theorem q_join_L {t u : Tb} (hok : okT t) (hu : okT u) (h : tN t + tN u ≤ 8) (k : MT → Option (Int32 × MT × (Nat → Int32))) : ∀ (d i fuel : Nat) (z : MT), i + d = tN u → d < fuel → rM z (jn t u i) → kT (m_kept z) 0 u → ∃ z', f_M_joined_L57 k fuel z (nI i) = k z' ∧ rM z' (jn t u (tN u)) ∧ m_kept z' = m_kept z := by
  have hn := hu.1
  intro d
  induction d with
  | zero =>
    intro i fuel z hi hf hr hk
    obtain ⟨f, rfl, -⟩ := f_suc hf
    obtain rfl : i = tN u := by omega
    have e16 : m_kept z 16 = nI (tN u) := hk.2.1
    exact ⟨z, by rw [f_M_joined_L57, e16, if_pos (nI_le (Nat.le_refl _) (by omega))], hr, rfl⟩
  | succ d ih =>
    intro i fuel z hi hf hr hk
    obtain ⟨f, rfl, hf'⟩ := f_suc hf
    have hlt : i < tN u := by omega
    have e16 : m_kept z 16 = nI (tN u) := hk.2.1
    have hj := jn_n t u i
    have ek := hk.1 i hlt
    rw [Nat.zero_add] at ek
    have g1 : ¬ (nI (2 * i) < 0 ∨ 90 ≤ (nI (2 * i)).toNatClampNeg) := ix_b (by omega) (by omega)
    have g2 : ¬ (nI (2 * i + 1) < 0 ∨ 90 ≤ (nI (2 * i + 1)).toNatClampNeg) := ix_b (by omega) (by omega)
    have g3 : ¬ (nI (tN (jn t u i)) < 0 ∨ 8 ≤ (nI (tN (jn t u i))).toNatClampNeg) := ix_b (by omega) (by omega)
    have e2 : (2 : Int32) * nI i = nI (2 * i) := pk_mul 2 i
    rw [f_M_joined_L57, e16, if_neg (nI_ge hlt (by omega)), e2, if_neg g1, hr.1, if_neg g3, nI_1, if_neg g2, nI_clamp (show tN (jn t u i) < 2 ^ 31 by omega), nI_clamp (show 2 * i < 2 ^ 31 by omega), nI_clamp (show 2 * i + 1 < 2 ^ 31 by omega), ek.1, ek.2, nI_1, nI_1]
    refine ih (i + 1) f _ (by omega) hf' ⟨rfl, fun c hc => ?_, hr.2.2⟩ hk
    have hc : c < tN (jn t u i) + 1 := hc
    show upd (m_kind z) (tN (jn t u i)) (nI (tKd u i)) c = nI (updN (tKd (jn t u i)) (tN (jn t u i)) (tKd u i) c) ∧ upd (m_sweets z) (tN (jn t u i)) (nI (tSw u i)) c = nI (updN (tSw (jn t u i)) (tN (jn t u i)) (tSw u i) c)
    unfold upd updN
    by_cases q : c = tN (jn t u i)
    · rw [if_pos q, if_pos q, if_pos q, if_pos q]; exact ⟨rfl, rfl⟩
    · rw [if_neg q, if_neg q, if_neg q, if_neg q]; exact hr.2.1 c (by omega)
theorem sq_gv0 {t : Tb} (h : tN t = 0) : ∀ k, tGv (sq t k) = tGv t
  | 0 => rfl
  | k + 1 => by
    show tGv (stk (sq t k)) = _
    unfold stk
    rw [(sq_same t k).1, h]
    exact sq_gv0 h k
theorem i_ss (x : Int32) : x - x = 0 := by grind
theorem e_joined {now one kept : RS} {T : MT} {t : Tb} {a b : Nat → Int32} {ik hi : Int32} (hX : rX now t) (hM : rM T t) (hok : okT t) (hr : rf a b) (hI : iK ik hi kept (m_kept T)) (x : Int32) : ∃ r a' one' T' b', f_X_joined ik now kept a one x = some (r, a', one') ∧ f_M_joined T hi b x = some (r, T', b') ∧ BK T T' t ∧ rf a' b' := by
  have h8 := hok.1
  obtain ⟨rfl, hI⟩ := hI
  unfold f_X_joined f_M_joined
  obtain ⟨a3, b3, e3, f3, r3⟩ := no3 hr
  rcases (show (f_X_outside x 0 50 = some (-4) ∧ f_M_bound x 0 50 = some (-4)) ∨ (f_X_outside x 0 50 = some (-6) ∧ f_M_bound x 0 50 = some (-6)) ∨ ∃ n, 0 ≤ n ∧ n ≤ 50 ∧ x = nI n ∧ (f_X_outside x 0 50 = some 0 ∧ f_M_bound x 0 50 = some 0) from bd x 0 50 (by decide) (by decide)) with ⟨hB, hB2⟩ | ⟨hB, hB2⟩ | ⟨n, hn0, hn, rfl, hB, hB2⟩
  · obtain ⟨a', b', e1, e2, h⟩ := no4 hr
    rw [hB, Option.bind_some, hB2, Option.bind_some, if_neg (by decide), if_neg (by decide), e1, Option.bind_some, e2, Option.bind_some]
    exact ⟨_, a', one, T, b', rfl, rfl, ⟨hM, fun _ _ => rfl⟩, h⟩
  · obtain ⟨a', b', e1, e2, h⟩ := no6 hr
    rw [hB, Option.bind_some, hB2, Option.bind_some, if_neg (by decide), if_neg (by decide), e1, Option.bind_some, e2, Option.bind_some]
    exact ⟨_, a', one, T, b', rfl, rfl, ⟨hM, fun _ _ => rfl⟩, h⟩
  rw [hB, Option.bind_some, hB2, Option.bind_some, if_pos rfl, if_pos rfl]
  rcases hI with rfl | ⟨rfl, u, hu, ku, hk⟩
  · rw [if_pos rfl, if_pos rfl, e3, Option.bind_some, f3, Option.bind_some]
    exact ⟨_, a3, one, T, b3, rfl, rfl, ⟨hM, fun _ _ => rfl⟩, r3⟩
  have hn := hu.1
  have e16 : m_kept T 16 = nI (tN u) := hk.2.1
  rw [if_neg z10', if_neg z10', hX.1, hM.1, ku.1, e16, nI_add]
  by_cases g : ¬ tN t + tN u ≤ 8
  · have g' : ¬ nI (tN t + tN u) ≤ 8 := fun q => g ((nI_leI (b := 8) (by omega) (by omega)).mp q)
    rw [if_neg g', if_neg g', e3, Option.bind_some, f3, Option.bind_some]
    exact ⟨_, a3, one, T, b3, rfl, rfl, ⟨hM, fun _ _ => rfl⟩, r3⟩
  have g := Decidable.of_not_not g
  have g' : nI (tN t + tN u) ≤ 8 := nI_le (b := 8) g (by omega)
  rw [if_pos g', if_pos g']
  obtain ⟨z1, c1, s1⟩ := p_copyFrom one now hX hok
  obtain ⟨z2, c2, s2⟩ := p_join_L hok hu g ku (fun z_h_one_5 => (f_Ring_strikeOften z_h_one_5 (nI n)).bind fun q6 => some (((r_gave q6) - (r_gave now)), q6)) (tN u) 0 FU z1 (Nat.zero_add _) (by unfold FU; omega) s1
  have ho := jn_ok hok hu g (tN u) (Nat.le_refl _)
  obtain ⟨z3, c3, s3⟩ := p_strikeOften s2 ho n (by omega)
  obtain ⟨T1, d1, u1, k1, o1⟩ := keep1 hM hok
  have hk1 : kT (m_kept T1) 0 u := kT_congr hn hk (fun j _ hj => o1 j (Or.inl (by omega)))
  obtain ⟨T2, d2, u2, o2⟩ := q_join_L hok hu g (fun z_h_T_12 =>
     if (m_many z_h_T_12) = 0 then
      (f_M_passesAll z_h_T_12 1 0).bind fun q16 =>
      some (0, q16, b)
     else
      (f_M_goes z_h_T_12 (nI n)).bind fun q14 =>
      (f_M_passesAll q14.2 1 0).bind fun q15 =>
      some (q14.1, q15, b)) (tN u) 0 FU T1 (Nat.zero_add _) (by unfold FU; omega) u1 hk1
  have hN := jn_n t u (tN u)
  unfold f_Mind_gaveJoined
  rw [nI_0] at c2 d2
  rw [c1, Option.bind_some, c2, d1, Option.bind_some, d2]
  show ∃ r a' one' T' b', ((f_Ring_strikeOften z2 (nI n)).bind fun q6 => some (((r_gave q6) - (r_gave now)), q6)).bind _ = some (r, a', one') ∧ _
  rw [c3, Option.bind_some, Option.bind_some, s3.2.2.2.2.2.2.1, hX.2.2.2.2.2.2.1]
  by_cases h0 : tN t + tN u = 0
  · have e0 : m_many T2 = nI 0 := by rw [u2.1, hN, h0]
    obtain ⟨T3, d3, u3, o3⟩ := back1 (z := T2) (t := t) (by rw [o2]; exact k1) hok
    refine ⟨_, a, z3, T3, b, rfl, ?_, ⟨u3, fun j hj => by rw [o3, o2]; exact o1 j (by omega)⟩, hr⟩
    show (if m_many T2 = 0 then (f_M_passesAll T2 1 0).bind _ else _) = _
    rw [e0, if_pos nI_0, d3, Option.bind_some, sq_gv0 (by rw [hN]; exact h0), jn_gv, i_ss]
  · have e0 : ¬ m_many T2 = 0 := by rw [u2.1, hN]; exact nI_ne0 (by omega) (by omega)
    obtain ⟨T4, d4, u4, o4⟩ := q_goes u2 ho n (by omega)
    obtain ⟨T3, d3, u3, o3⟩ := back1 (z := T4) (t := t) (by rw [o4, o2]; exact k1) hok
    refine ⟨_, a, z3, T3, b, rfl, ?_, ⟨u3, fun j hj => by rw [o3, o4, o2]; exact o1 j (by omega)⟩, hr⟩
    show (if m_many T2 = 0 then (f_M_passesAll T2 1 0).bind _ else (f_M_goes T2 (nI n)).bind _) = _
    rw [if_neg e0, d4, Option.bind_some]
    show (f_M_passesAll T4 1 0).bind _ = _
    rw [d3, Option.bind_some, jn_gv]
-- SEEDS
def dr (s : Int32) (n : Nat) : Nat := (s * 1103515245 + 12345).toBitVec.toNat % 2 ^ 31 / 65536 % n
theorem dr_lt {s : Int32} {n : Nat} (h : 0 < n) : dr s n < n := Nat.mod_lt _ h
theorem dr_eq (s : Int32) {n : Nat} (h : 0 < n) (h8 : n ≤ 8) : ((s * 1103515245 + 12345) &&& 2147483647) / 65536 % nI n = nI (dr s n) := by
  rw [pk_and (s * 1103515245 + 12345) (m := 2147483647) 31 (by decide), show (65536 : Int32) = nI 65536 from rfl, s_div (by omega) (by omega) (by omega), s_mod (by omega) h (by omega)]
  rfl
theorem p_draw (s : Int32) {n : Nat} (h : 0 < n) (h8 : n ≤ 8) : f_Mind_draw s (nI n) = some (nI (dr s n), s * 1103515245 + 12345) := by
  unfold f_Mind_draw
  have g1 : (1 : Int32) ≤ nI n := nI_le (a := 1) h (by omega)
  rw [if_pos g1, if_neg (nI_ne0 h (by omega)), dr_eq s h h8]
theorem q_draw (s : Int32) {n : Nat} (h : 0 < n) (h8 : n ≤ 8) : f_M_draw s (nI n) = some (nI (dr s n), s * 1103515245 + 12345) := by
  unfold f_M_draw
  rw [if_neg (nI_ne0 h (by omega)), dr_eq s h h8]
def lcg (s : Int32) : Int32 := s * 1103515245 + 12345
/-- the table and the seed behind k strokes by seeds -/
def sd (t : Tb) (s : Int32) : Nat → Tb × Int32
  | 0 => (t, s)
  | k + 1 => (stk (swS (sd t s k).1 (dr (sd t s k).2 (tN t)) (dr (lcg (sd t s k).2) (tN t))), lcg (lcg (sd t s k).2))
theorem sd_n (t : Tb) (s : Int32) : ∀ k, tN (sd t s k).1 = tN t
  | 0 => rfl
  | k + 1 => ((stk_same _).1).trans (sd_n t s k)
theorem sd_ok {t : Tb} (hok : okT t) (h : 0 < tN t) (s : Int32) : ∀ k, okT (sd t s k).1
  | 0 => hok
  | k + 1 => stk_ok (swS_ok (sd_ok hok h s k) (by rw [sd_n]; exact dr_lt h) (by rw [sd_n]; exact dr_lt h))
theorem p_seeds_L {now : RS} {t : Tb} (hok : okT t) (h : 0 < tN t) (hX : rX now t) (s : Int32) (n : Nat) (hn : n < 2 ^ 31) : ∀ (d i fuel : Nat) (z : RS), i + d = n → d < fuel → rX z (sd t s i).1 → ∃ s' z', f_Mind_gaveBySeed_L16 now (nI n) fuel (sd t s i).2 z (nI i) = some (tGv (sd t s n).1 - tGv t, s', z') := by
  have h8 := hok.1
  intro d
  induction d with
  | zero =>
    intro i fuel z hi hf hr
    obtain ⟨f, rfl, -⟩ := f_suc hf
    obtain rfl : i = n := by omega
    exact ⟨_, z, by rw [f_Mind_gaveBySeed_L16, if_pos (nI_le (Nat.le_refl _) hn), hr.2.2.2.2.2.2.1, hX.2.2.2.2.2.2.1]⟩
  | succ d ih =>
    intro i fuel z hi hf hr
    obtain ⟨f, rfl, hf'⟩ := f_suc hf
    have hN := sd_n t s i
    have l1 := dr_lt (s := (sd t s i).2) h
    have l2 := dr_lt (s := lcg (sd t s i).2) h
    obtain ⟨z1, e1, r1, -⟩ := p_swap hr (sd_ok hok h s i) (c := dr (sd t s i).2 (tN t)) (d := dr (lcg (sd t s i).2) (tN t)) (by rw [hN]; exact l1) (by rw [hN]; exact l2)
    obtain ⟨z2, e2, r2⟩ := p_strike r1 (swS_ok (sd_ok hok h s i) (by rw [hN]; exact l1) (by rw [hN]; exact l2))
    have d1 := p_draw (sd t s i).2 h h8
    have d2 := p_draw (lcg (sd t s i).2) h h8
    rw [f_Mind_gaveBySeed_L16, if_neg (nI_ge (by omega) hn), hr.1, hN, d1, Option.bind_some]
    show ∃ s' z', (f_Mind_draw (lcg (sd t s i).2) (nI (tN t))).bind _ = _
    rw [d2, Option.bind_some]
    show ∃ s' z', (f_Ring_changeSweets z (nI (dr (sd t s i).2 (tN t))) (nI (dr (lcg (sd t s i).2) (tN t)))).bind _ = _
    rw [e1, Option.bind_some, e2, Option.bind_some, nI_1]
    exact ih (i + 1) f z2 (by omega) hf' r2
theorem i_tel (x y z w : Int32) (h : y = w) : (y - x) + (z - w) = z - x := by subst h; grind
theorem q_seeds_L {t : Tb} (hok : okT t) (h : 0 < tN t) (s : Int32) (n : Nat) (hn : n < 2 ^ 31) (kk : MT → Int32 → Int32 → Option (Int32 × MT × Int32 × (Nat → Int32))) : ∀ (d i fuel : Nat) (z : MT), i + d = n → d < fuel → rM z (sd t s i).1 → ∃ z' s', f_M_seeds_L49 (nI n) kk fuel z (sd t s i).2 (tGv (sd t s i).1 - tGv t) (nI i) = kk z' s' (tGv (sd t s n).1 - tGv t) ∧ m_kept z' = m_kept z := by
  have h8 := hok.1
  intro d
  induction d with
  | zero =>
    intro i fuel z hi hf hr
    obtain ⟨f, rfl, -⟩ := f_suc hf
    obtain rfl : i = n := by omega
    exact ⟨z, _, by rw [f_M_seeds_L49, if_pos (nI_le (Nat.le_refl _) hn)], rfl⟩
  | succ d ih =>
    intro i fuel z hi hf hr
    obtain ⟨f, rfl, hf'⟩ := f_suc hf
    have hN := sd_n t s i
    have l1 := dr_lt (s := (sd t s i).2) h
    have l2 := dr_lt (s := lcg (sd t s i).2) h
    obtain ⟨z1, e1, r1, k1, -⟩ := q_swap hr (sd_ok hok h s i) (c := dr (sd t s i).2 (tN t)) (d := dr (lcg (sd t s i).2) (tN t)) (by rw [hN]; exact l1) (by rw [hN]; exact l2)
    obtain ⟨z2, e2, r2, k2⟩ := q_goes r1 (swS_ok (sd_ok hok h s i) (by rw [hN]; exact l1) (by rw [hN]; exact l2)) 1 (by decide)
    have e2 : f_M_goes z1 1 = _ := e2
    have d1 := q_draw (sd t s i).2 h h8
    have d2 := q_draw (lcg (sd t s i).2) h h8
    rw [f_M_seeds_L49, if_neg (nI_ge (by omega) hn), hr.1, hN, d1, Option.bind_some]
    show ∃ z' s', (f_M_draw (lcg (sd t s i).2) (nI (tN t))).bind _ = _ ∧ _
    rw [d2, Option.bind_some]
    show ∃ z' s', (f_M_swapsSweets z (nI (dr (sd t s i).2 (tN t))) (nI (dr (lcg (sd t s i).2) (tN t)))).bind _ = _ ∧ _
    rw [e1, Option.bind_some, e2, Option.bind_some, nI_1]
    obtain ⟨z', s', e, k⟩ := ih (i + 1) f z2 (by omega) hf' r2
    refine ⟨z', s', ?_, k.trans (k2.trans k1)⟩
    refine Eq.trans ?_ e
    exact congrArg (fun v => f_M_seeds_L49 (nI n) kk f z2 (lcg (lcg (sd t s i).2)) v (nI (i + 1))) (i_tel _ _ _ _ rfl)
theorem orNobody {now : RS} {t : Tb} (hX : rX now t) (hok : okT t) (x lo hi v : Int32) (h : f_X_outside x lo hi = some v) : f_X_outsideOrNobody now x lo hi = some (if v = 0 then (if tN t = 0 then -3 else 0) else v) := by
  have h8 := hok.1
  unfold f_X_outsideOrNobody
  rw [h, Option.bind_some, hX.1]
  by_cases hv : v = 0
  · rw [if_pos hv, if_pos hv]
    by_cases h0 : tN t = 0
    · rw [if_pos h0, h0, if_pos nI_0]
    · rw [if_neg h0, if_neg (nI_ne0 (by omega) (by omega)), hv]
  · rw [if_neg hv, if_neg hv]
theorem e_seeds {now one : RS} {T : MT} {t : Tb} {a b : Nat → Int32} (sx sm : Int32) (hX : rX now t) (hM : rM T t) (hok : okT t) (hr : rf a b) (x1 x2 : Int32) : ∃ r a' sx' one' T' sm' b', f_X_seeds now a sx one x1 x2 = some (r, a', sx', one') ∧ f_M_seeds T sm b x1 x2 = some (r, T', sm', b') ∧ BK T T' t ∧ rf a' b' := by
  have h8 := hok.1
  unfold f_X_seeds f_M_seeds
  rcases (show (f_X_outside x1 1 50 = some (-4) ∧ f_M_bound x1 1 50 = some (-4)) ∨ (f_X_outside x1 1 50 = some (-6) ∧ f_M_bound x1 1 50 = some (-6)) ∨ ∃ n, 1 ≤ n ∧ n ≤ 50 ∧ x1 = nI n ∧ (f_X_outside x1 1 50 = some 0 ∧ f_M_bound x1 1 50 = some 0) from bd x1 1 50 (by decide) (by decide)) with ⟨hB, hB2⟩ | ⟨hB, hB2⟩ | ⟨n, hn0, hn, rfl, hB, hB2⟩
  · obtain ⟨a', b', e1, e2, h⟩ := no4 hr
    rw [orNobody hX hok _ _ _ _ hB, if_neg (by decide), Option.bind_some, if_neg (by decide), hB2, Option.bind_some, if_neg (by decide), e1, Option.bind_some, e2, Option.bind_some]
    exact ⟨_, a', sx, one, T, sm, b', rfl, rfl, ⟨hM, fun _ _ => rfl⟩, h⟩
  · obtain ⟨a', b', e1, e2, h⟩ := no6 hr
    rw [orNobody hX hok _ _ _ _ hB, if_neg (by decide), Option.bind_some, if_neg (by decide), hB2, Option.bind_some, if_neg (by decide), e1, Option.bind_some, e2, Option.bind_some]
    exact ⟨_, a', sx, one, T, sm, b', rfl, rfl, ⟨hM, fun _ _ => rfl⟩, h⟩
  rw [orNobody hX hok _ _ _ _ hB, if_pos rfl, hB2, Option.bind_some, Option.bind_some, if_pos rfl, hM.1]
  by_cases h0 : tN t = 0
  · obtain ⟨a', b', e1, e2, h⟩ := no3 hr
    rw [if_pos h0, if_neg (by decide), h0, if_pos nI_0, e1, Option.bind_some, e2, Option.bind_some]
    exact ⟨_, a', sx, one, T, sm, b', rfl, rfl, ⟨hM, fun _ _ => rfl⟩, h⟩
  · rw [if_neg h0, if_pos rfl, if_neg (nI_ne0 (by omega) (by omega))]
    have hp : 0 < tN t := by omega
    obtain ⟨z1, c1, s1⟩ := p_copyFrom one now hX hok
    obtain ⟨s', z', c2⟩ := p_seeds_L hok hp hX x2 n (by omega) n 0 FU z1 (Nat.zero_add _) (by unfold FU; omega) s1
    obtain ⟨T1, d1, u1, k1, o1⟩ := keep1 hM hok
    obtain ⟨T2, s2, d2, o2⟩ := q_seeds_L hok hp x2 n (by omega) (fun z_h_T_11 z_h_lots_11 x4_11 => (f_M_passesAll z_h_T_11 1 0).bind fun q12 => some (x4_11, q12, z_h_lots_11, b)) n 0 FU T1 (Nat.zero_add _) (by unfold FU; omega) u1
    obtain ⟨T3, d3, u3, o3⟩ := back1 (z := T2) (t := t) (by rw [o2]; exact k1) hok
    have d2 : f_M_seeds_L49 (nI n) (fun z_h_T_11 z_h_lots_11 x4_11 => (f_M_passesAll z_h_T_11 1 0).bind fun q12 => some (x4_11, q12, z_h_lots_11, b)) FU T1 x2 (tGv t - tGv t) (nI 0) = _ := d2
    rw [i_ss] at d2
    have c2 : f_Mind_gaveBySeed_L16 now (nI n) FU x2 z1 (nI 0) = _ := c2
    unfold f_Mind_gaveBySeed
    rw [c1, Option.bind_some, ← nI_0, c2, Option.bind_some, d1, Option.bind_some]
    refine ⟨_, a, s', z', T3, s2, b, rfl, ?_, ⟨u3, fun j hj => by rw [o3, o2]; exact o1 j (by omega)⟩, hr⟩
    refine Eq.trans d2 ?_
    show (f_M_passesAll T2 1 0).bind _ = _
    rw [d3]
    rfl
