/-! Pure: longs, a common divisor. -/
theorem cmp_ab (x y : Int64) : (lg_cmp x y = 0 ↔ x = y) ∧ (lg_cmp x y < 0 ↔ x < y) := by
  unfold lg_cmp
  by_cases h1 : x > y
  · rw [if_pos h1]
    have g1 : ¬ x = y := fun q => Int64.lt_irrefl (q ▸ h1)
    have g2 : ¬ x < y := fun q => Int64.lt_irrefl (Int64.lt_trans q h1)
    exact ⟨⟨fun q => absurd q (by decide), fun q => absurd q g1⟩, ⟨fun q => absurd q (by decide), fun q => absurd q g2⟩⟩
  · rw [if_neg h1]
    by_cases h2 : x = y
    · rw [if_pos h2]
      have g2 : ¬ x < y := fun q => Int64.lt_irrefl (h2 ▸ q)
      exact ⟨⟨fun _ => h2, fun _ => rfl⟩, ⟨fun q => absurd q (by decide), fun q => absurd q g2⟩⟩
    · rw [if_neg h2]
      have g2 : x < y := by
        rw [Int64.lt_iff_toInt_lt]
        have a1 : ¬ y.toInt < x.toInt := fun q => h1 (Int64.lt_iff_toInt_lt.mpr q)
        have a2 : ¬ x.toInt = y.toInt := fun q => h2 (Int64.toInt_inj.mp q)
        omega
      exact ⟨⟨fun q => absurd q (by decide), fun q => absurd q h2⟩, ⟨fun _ => g2, fun _ => by decide⟩⟩
theorem lN_0 : lN 0 = 0 := rfl
theorem lN_mod {a b : Nat} (ha : a < 2 ^ 63) (h0 : 0 < b) (hb : b < 2 ^ 63) : lN a % lN b = lN (a % b) := by
  apply Int64.toInt_inj.mp
  rw [Int64.toInt_mod, pk_lT ha, pk_lT hb, pk_lT (by have := Nat.mod_lt a h0; omega), Int.tmod_eq_emod_of_nonneg (by omega)]
  omega
theorem lN_ne0 {a : Nat} (h0 : 0 < a) (ha : a < 2 ^ 63) : ¬ lN a = 0 := fun q => by
  have := (pk_lEQ ha (show 0 < 2 ^ 63 by decide)).mp (q.trans lN_0.symm)
  omega
theorem div_L : ∀ (k a b fuel : Nat), b < 2 ^ k → 2 * k < fuel → a < 2 ^ 63 → b < 2 ^ 63 → f_M_divisor_L6 fuel (lN a) (lN b) = some (lN (Nat.gcd a b)) := by
  intro k
  induction k with
  | zero =>
    intro a b fuel hb hf ha hb6
    obtain ⟨f, rfl, -⟩ := f_suc hf
    obtain rfl : b = 0 := by omega
    rw [f_M_divisor_L6, if_pos ((cmp_ab _ _).1.mpr lN_0), Nat.gcd_zero_right]
  | succ k ih =>
    intro a b fuel hb hf ha hb6
    obtain ⟨f, rfl, hf'⟩ := f_suc hf
    obtain ⟨f, rfl, hf''⟩ := f_suc (show 2 * k + 1 < f by omega)
    by_cases b0 : b = 0
    · rw [f_M_divisor_L6, b0, if_pos ((cmp_ab _ _).1.mpr lN_0), Nat.gcd_zero_right]
    · have hbp : 0 < b := by omega
      have hr := Nat.mod_lt a hbp
      have n1 := lN_ne0 hbp hb6
      rw [f_M_divisor_L6, if_neg (fun q => n1 ((cmp_ab _ _).1.mp q)), if_neg n1, lN_mod ha hbp hb6]
      by_cases r0 : a % b = 0
      · rw [f_M_divisor_L6, r0, if_pos ((cmp_ab _ _).1.mpr lN_0), Nat.gcd_comm, Nat.gcd_rec, r0, Nat.gcd_zero_left]
      · have hrp : 0 < a % b := by omega
        have n2 := lN_ne0 hrp (by omega)
        have h2 := Nat.mod_lt b hrp
        have h3 : b % (a % b) + (a % b) ≤ b := by
          have e := Nat.mod_add_div b (a % b)
          have hq : 1 ≤ b / (a % b) := (Nat.one_le_div_iff hrp).mpr (by omega)
          have := Nat.mul_le_mul_left (a % b) hq
          omega
        rw [f_M_divisor_L6, if_neg (fun q => n2 ((cmp_ab _ _).1.mp q)), if_neg n2, lN_mod hb6 hrp (by omega), ih (a % b) (b % (a % b)) f (by rw [Nat.pow_succ] at hb; omega) (by omega) (by omega) (by omega)]
        rw [Nat.gcd_comm a b, Nat.gcd_rec b a, Nat.gcd_comm (a % b) (b % (a % b)), ← Nat.gcd_rec]
theorem q_div {a b : Nat} (ha : a < 2 ^ 63) (hb : b < 2 ^ 63) : f_M_divisor (lN a) (lN b) = some (lN (Nat.gcd a b)) := div_L 63 a b FU hb (by unfold FU; omega) ha hb
theorem p_gcd_L {z : RS} {t : Tb} (hX : rX z t) (hok : okT t) (h0 : 0 < tN t) {s : Nat} (hs : s < 2 ^ 31) : ∀ (x fuel : Nat), x < fuel → x ≤ 8 → Nat.gcd s (tN t) ≤ x → f_Ring_commonDivisor_L10 z (nI s) fuel (nI x) = some (nI (Nat.gcd s (tN t))) := by
  have h8 := hok.1
  have g0 : 0 < Nat.gcd s (tN t) := Nat.gcd_pos_of_pos_right _ h0
  intro x
  induction x with
  | zero => intro fuel hf h8 hx; omega
  | succ x ih =>
    intro fuel hf hx8 hx
    obtain ⟨f, rfl, hf'⟩ := f_suc hf
    rw [f_Ring_commonDivisor_L10, hX.1]
    by_cases h1 : x = 0
    · rw [h1, if_pos (by decide)]
      have : Nat.gcd s (tN t) = 1 := by omega
      rw [this, nI_one]
    · have hback : nI (x + 1) + (-1) = nI x := by rw [← nI_add, nI_one]; grind
      have hnext := fun hne : ¬ Nat.gcd s (tN t) = x + 1 => ih f (by omega) (by omega) (by omega)
      have g1 : ¬ nI (x + 1) ≤ 1 := nI_ge (a := 1) (b := x + 1) (by omega) (by omega)
      rw [if_neg g1, if_neg (nI_ne0 (by omega) (by omega)), s_mod (by omega) (by omega) (by omega), s_mod hs (by omega) (by omega), hback]
      by_cases d1 : tN t % (x + 1) = 0
      · rw [if_pos (by rw [d1, nI_0])]
        by_cases d2 : s % (x + 1) = 0
        · rw [if_pos (by rw [d2, nI_0])]
          have hd : (x + 1) ∣ Nat.gcd s (tN t) := Nat.dvd_gcd (Nat.dvd_of_mod_eq_zero d2) (Nat.dvd_of_mod_eq_zero d1)
          have := Nat.le_of_dvd g0 hd
          rw [show Nat.gcd s (tN t) = x + 1 by omega]
        · rw [if_neg (nI_ne0 (by omega) (by have := Nat.mod_lt s (show 0 < x + 1 by omega); omega))]
          exact hnext fun q => d2 (Nat.mod_eq_zero_of_dvd (q ▸ Nat.gcd_dvd_left s (tN t)))
      · rw [if_neg (nI_ne0 (by omega) (by have := Nat.mod_lt (tN t) (show 0 < x + 1 by omega); omega))]
        exact hnext fun q => d1 (Nat.mod_eq_zero_of_dvd (q ▸ Nat.gcd_dvd_right s (tN t)))
theorem e_mean {now : RS} {T : MT} {t : Tb} {a b : Nat → Int32} (hX : rX now t) (hM : rM T t) (hok : okT t) (hr : rf a b) (x : Int32) : ∃ r a' b', f_X_mean now a x = some (r, a') ∧ f_M_mean T b x = some (r, b') ∧ rf a' b' := by
  have h8 := hok.1
  have hs := sm_le hok (tN t) (Nat.le_refl _)
  unfold f_X_mean f_M_mean
  have main : 0 < tN t → f_Ring_commonDivisor now = some (nI (Nat.gcd (sm t (tN t)) (tN t))) ∧ f_M_divisor ((nI (sm t (tN t))).toInt64) ((m_many T).toInt64) = some (lN (Nat.gcd (sm t (tN t)) (tN t))) ∧ ¬ nI (Nat.gcd (sm t (tN t)) (tN t)) = 0 ∧ jmax (nI (Nat.gcd (sm t (tN t)) (tN t))) 1 = nI (Nat.gcd (sm t (tN t)) (tN t)) := by
    intro h0
    have g0 : 0 < Nat.gcd (sm t (tN t)) (tN t) := Nat.gcd_pos_of_pos_right _ h0
    have g1 : Nat.gcd (sm t (tN t)) (tN t) ≤ tN t := Nat.le_of_dvd h0 (Nat.gcd_dvd_right _ _)
    refine ⟨?_, ?_, nI_ne0 g0 (by omega), if_neg (nI_nlt (b := 1) g0 (by omega))⟩
    · unfold f_Ring_commonDivisor
      rw [p_sum hX hok, Option.bind_some, hX.1]
      exact p_gcd_L hX hok h0 (by omega) (tN t) FU (by unfold FU; omega) h8 g1
    · rw [hM.1, nI_l (by omega), nI_l (by omega)]
      exact q_div (by omega) (by omega)
  rcases part01 x with ⟨h1, h2⟩ | ⟨rfl, h1, h2⟩ | ⟨rfl, h1, h2⟩
  · obtain ⟨a', b', e1, e2, h⟩ := no2 hr
    rw [h1, Option.bind_some, if_pos rfl, h2, Option.bind_some, if_pos rfl, e1, Option.bind_some, e2, Option.bind_some]
    exact ⟨_, a', b', rfl, rfl, h⟩
  all_goals
    rw [h1, Option.bind_some, if_neg z10', h2, Option.bind_some, if_neg z10', hX.1, hM.1]
    by_cases h0 : tN t = 0
    · obtain ⟨a', b', e1, e2, h⟩ := no3 hr
      rw [h0, if_pos nI_0, if_pos nI_0, e1, Option.bind_some, e2, Option.bind_some]
      exact ⟨_, a', b', rfl, rfl, h⟩
    have g := nI_ne0 (n := tN t) (by omega) (by omega)
    obtain ⟨m1, m2, m3, m4⟩ := main (by omega)
    rw [hM.1] at m2
    rw [if_neg g, if_neg g, m1, Option.bind_some, m4]
  · rw [if_pos rfl, if_pos rfl, p_sum hX hok, Option.bind_some, if_neg m3, q_sum hM hok, Option.bind_some, Option.bind_some, m2, Option.bind_some, lN_i, if_neg m3]
    exact ⟨_, a, b, rfl, rfl, hr⟩
  · rw [if_neg z10', if_neg z10', if_neg m3, q_sum hM hok, Option.bind_some, m2, Option.bind_some, lN_i, if_neg m3]
    exact ⟨_, a, b, rfl, rfl, hr⟩
