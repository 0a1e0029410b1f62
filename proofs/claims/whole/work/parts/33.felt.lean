/-! Pure: JUDGE, FELT, BEGUN. -/
theorem dm1 {i N : Nat} (h : i % N + 1 < N) : (i + 1) % N = i % N + 1 ∧ (i + 1) / N = i / N := by
  have e : i + 1 = (i % N + 1) + N * (i / N) := by have := Nat.mod_add_div i N; omega
  refine ⟨?_, ?_⟩
  · rw [e, Nat.add_mul_mod_self_left, Nat.mod_eq_of_lt h]
  · rw [e, Nat.add_mul_div_left _ _ (by omega), Nat.div_eq_of_lt h, Nat.zero_add]
theorem dm2 {i N : Nat} (h0 : 0 < N) (h : i % N + 1 = N) : (i + 1) % N = 0 ∧ (i + 1) / N = i / N + 1 := by
  have e : i + 1 = 0 + N * (i / N + 1) := by have := Nat.mod_add_div i N; rw [Nat.mul_add]; omega
  refine ⟨?_, ?_⟩
  · rw [e, Nat.add_mul_mod_self_left, Nat.zero_mod]
  · rw [e, Nat.add_mul_div_left _ _ h0, Nat.zero_div, Nat.zero_add]
def jw (t : Tb) (row : Nat → Int32) (i : Nat) : Prop := ¬ row i = nI (tSw (sq t (i / tN t + 1)) (i % tN t))
theorem p_judge_L {t : Tb} (hok : okT t) (h0 : 0 < tN t) (row : Nat → Int32) (n : Nat) (hn : n ≤ 24) : ∀ (d i fuel : Nat) (z : RS), i + d = n → d < fuel → rX z (sq t (if i % tN t = 0 then i / tN t else i / tN t + 1)) → ∃ z', f_Mind_firstWrong_L14 row (nI n) fuel z (nI (i % tN t)) (nI i) = some (fnd (jw t row) d i, z') := by
  have h8 := hok.1
  intro d
  induction d with
  | zero =>
    intro i fuel z hi hf hr
    obtain ⟨f, rfl, -⟩ := f_suc hf
    obtain rfl : i = n := by omega
    exact ⟨z, by rw [f_Mind_firstWrong_L14, if_pos (nI_le (Nat.le_refl _) (by omega))]; rfl⟩
  | succ d ih =>
    intro i fuel z hi hf hr
    obtain ⟨f, rfl, hf'⟩ := f_suc hf
    have hc : i % tN t < tN t := Nat.mod_lt _ h0
    have g1 : ¬ nI n ≤ nI i := nI_ge (by omega) (by omega)
    have g2 : ¬ (24 : Int32) ≤ nI i := nI_ge (a := i) (b := 24) (by omega) (by omega)
    have g3 := ix_b (show i < 24 by omega) (show 24 < 2 ^ 31 by omega)
    have g4 := ix_b (show i % tN t < 8 by omega) (show 8 < 2 ^ 31 by omega)
    have g5 : (nI i).toNatClampNeg = i := nI_clamp (by omega)
    have key : ∀ z1 : RS, rX z1 (sq t (i / tN t + 1)) → ∃ z', (if row i = (r_sweets z1) (i % tN t) then (if (r_children z1) ≤ (nI (i % tN t) + 1) then f_Mind_firstWrong_L14 row (nI n) f z1 0 (nI i + 1) else f_Mind_firstWrong_L14 row (nI n) f z1 (nI (i % tN t) + 1) (nI i + 1)) else some (nI i, z1)) = some (fnd (jw t row) (d + 1) i, z') := by
      intro z1 r1
      have hN := (sq_same t (i / tN t + 1)).1
      rw [(r1.2.1 (i % tN t) (by rw [hN]; exact hc)).2, r1.1, hN]
      by_cases hx : row i = nI (tSw (sq t (i / tN t + 1)) (i % tN t))
      · rw [if_pos hx, fnd_neg (p := jw t row) d (fun q => q hx), nI_1, nI_1]
        by_cases hl : i % tN t + 1 < tN t
        · obtain ⟨m1, m2⟩ := dm1 hl
          rw [if_neg (nI_ge hl (by omega)), ← m1]
          exact ih (i + 1) f z1 (by omega) hf' (by rw [m1, m2, if_neg (by omega)]; exact r1)
        · obtain ⟨m1, m2⟩ := dm2 h0 (show i % tN t + 1 = tN t by omega)
          rw [if_pos (nI_le (by omega) (by omega)), ← nI_0]
          have := ih (i + 1) f z1 (by omega) hf' (by rw [m1, m2, if_pos rfl]; exact r1)
          rw [m1] at this
          exact this
      · rw [if_neg hx, fnd_pos (p := jw t row) d hx]
        exact ⟨z1, rfl⟩
    by_cases hz : i % tN t = 0
    · rw [if_pos hz] at hr
      obtain ⟨z1, e1, r1⟩ := p_strike hr (sq_ok hok _)
      obtain ⟨z', e2⟩ := key z1 r1
      refine ⟨z', ?_⟩
      rw [f_Mind_firstWrong_L14, if_neg g1, if_neg g2, if_pos (show nI (i % tN t) = 0 by rw [hz, nI_0]), e1, Option.bind_some, if_neg g3, if_neg g4, g5, ix_k (show i % tN t < 8 by omega)]
      exact e2
    · rw [if_neg hz] at hr
      obtain ⟨z', e2⟩ := key z hr
      refine ⟨z', ?_⟩
      rw [f_Mind_firstWrong_L14, if_neg g1, if_neg g2, if_neg (nI_ne0 (by omega) (by omega)), if_neg g3, if_neg g4, g5, ix_k (show i % tN t < 8 by omega)]
      exact e2
theorem q_judge_L {T : MT} {t : Tb} (hM : rM T t) (hok : okT t) (h0 : 0 < tN t) (rm : Int32) (b : Nat → Int32) {F row rowM : Nat → Int32} (n : Nat) (hn : n ≤ 24) (hrow : ∀ i, i < n → row i = rowM i) (hF : hT F 25 t) : ∀ (d i fuel : Nat), i + d = n → d < fuel → f_M_judge_L32 T rm b F rowM (nI n) fuel (nI i) = some (fnd (jw t row) d i, T, rm, b, F) := by
  have h8 := hok.1
  intro d
  induction d with
  | zero =>
    intro i fuel hi hf
    obtain ⟨f, rfl, -⟩ := f_suc hf
    obtain rfl : i = n := by omega
    rw [f_M_judge_L32, if_pos (nI_le (Nat.le_refl _) (by omega))]
    rfl
  | succ d ih =>
    intro i fuel hi hf
    obtain ⟨f, rfl, hf'⟩ := f_suc hf
    have hc : i % tN t < tN t := Nat.mod_lt _ h0
    have hq : i / tN t ≤ i := Nat.div_le_self _ _
    have g1 : ¬ nI n ≤ nI i := nI_ge (by omega) (by omega)
    have g3 := ix_b (show i < 24 by omega) (show 24 < 2 ^ 31 by omega)
    have g5 : (nI i).toNatClampNeg = i := nI_clamp (by omega)
    have gx : (9 * (1 + (nI i / nI (tN t)))) + (nI i % nI (tN t)) = nI (9 * (i / tN t + 1) + i % tN t) := by
      rw [s_div (by omega) h0 (by omega), s_mod (by omega) h0 (by omega), ← nI_one, nI_add, nine, Nat.add_comm 1]
    have gb : ¬ (nI (9 * (i / tN t + 1) + i % tN t) < 0 ∨ 1827 ≤ (nI (9 * (i / tN t + 1) + i % tN t)).toNatClampNeg) := ix_b (by omega) (by omega)
    rw [f_M_judge_L32, if_neg g1, if_neg g3, hM.1, if_neg (nI_ne0 (by omega) (by omega)), gx, if_neg gb, g5, nI_clamp (show 9 * (i / tN t + 1) + i % tN t < 2 ^ 31 by omega), hF (i / tN t + 1) (by omega) (i % tN t) (by omega), tr_sw h8 hc, ← hrow i (by omega)]
    by_cases hx : row i = nI (tSw (sq t (i / tN t + 1)) (i % tN t))
    · rw [if_pos hx, fnd_neg (p := jw t row) d (fun q => q hx), nI_1]
      exact ih (i + 1) f (by omega) hf'
    · rw [if_neg hx, fnd_pos (p := jw t row) d hx]
theorem e_judge {now one : RS} {T : MT} {t : Tb} {a b F nums row : Nat → Int32} {nc rm : Int32} (hX : rX now t) (hM : rM T t) (hok : okT t) (hr : rf a b) (hN : iN nc rm nums row) : ∃ r nc' a' one' T' rm' b' F', f_X_judge nc now nums a one = some (r, nc', a', one') ∧ f_M_judge T rm b F row = some (r, T', rm', b', F') ∧ BK T T' t ∧ rf a' b' ∧ iN nc' rm' nums row := by
  have h8 := hok.1
  unfold f_X_judge f_M_judge
  rw [hX.1, hM.1]
  by_cases h0 : tN t = 0
  · obtain ⟨a', b', e1, e2, h⟩ := no3 hr
    rw [h0, if_pos nI_0, if_pos nI_0, e1, Option.bind_some, e2, Option.bind_some]
    exact ⟨_, nc, a', one, T, rm, b', F, rfl, rfl, ⟨hM, fun _ _ => rfl⟩, h, hN⟩
  · obtain ⟨n, hn, rfl, rfl, hrow⟩ := hN
    have g := nI_ne0 (n := tN t) (by omega) (by omega)
    obtain ⟨z1, e1, r1⟩ := p_copyFrom one now hX hok
    obtain ⟨z2, e2⟩ := p_judge_L hok (by omega) nums n hn n 0 FU z1 (Nat.zero_add _) (by unfold FU; omega) (by rw [Nat.zero_mod, if_pos rfl, Nat.zero_div]; exact r1)
    obtain ⟨T1, F1, e4, k4, h4⟩ := q_trail hM hok F 24 (by omega)
    have e4 : f_M_writesTrail T F 24 = _ := e4
    have e5 := q_judge_L k4.1 hok (by omega) 0 b n hn hrow h4 n 0 FU (Nat.zero_add _) (by unfold FU; omega)
    have e2 : f_Mind_firstWrong_L14 nums (nI n) FU z1 (nI (0 % tN t)) (nI 0) = _ := e2
    rw [Nat.zero_mod, nI_0] at e2
    unfold f_Mind_firstWrong
    rw [if_neg g, if_neg g, e1, Option.bind_some, e2, Option.bind_some, e4, Option.bind_some]
    exact ⟨_, 0, a, z2, T1, 0, b, F1, rfl, e5, k4.bk, hr, 0, by omega, rfl, rfl, fun i hi => by omega⟩
