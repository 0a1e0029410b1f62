/-! Pure: longs, a common divisor. -/
theorem cmp_ab (x y : Int64) : (lg_cmp x y = 0 ↔ x = y) ∧ (lg_cmp x y < 0 ↔ x < y) := by
  unfold lg_cmp
  by_cases h1 : x > y
  · rw [if_pos h1]
    have g1 : ¬ x = y := fun q => Int64.lt_irrefl (q ▸ h1)
    have g2 : ¬ x < y := fun q => Int64.lt_irrefl (Int64.lt_trans q h1)
    exact ⟨⟨fun q => absurd q (by decide), fun q => absurd q g1⟩, ⟨fun q => absurd q (by decide), fun q => absurd q g2⟩⟩
  · rw [if_neg h1]
    by_cases h2 : x = y
    · rw [if_pos h2]
      have g2 : ¬ x < y := fun q => Int64.lt_irrefl (h2 ▸ q)
      exact ⟨⟨fun _ => h2, fun _ => rfl⟩, ⟨fun q => absurd q (by decide), fun q => absurd q g2⟩⟩
    · rw [if_neg h2]
      have g2 : x < y := by
        rw [Int64.lt_iff_toInt_lt]
        have a1 : ¬ y.toInt < x.toInt := fun q => h1 (Int64.lt_iff_toInt_lt.mpr q)
        have a2 : ¬ x.toInt = y.toInt := fun q => h2 (Int64.toInt_inj.mp q)
        omega
      exact ⟨⟨fun q => absurd q (by decide), fun q => absurd q h2⟩, ⟨fun _ => g2, fun _ => by decide⟩⟩
theorem lN_0 : lN 0 = 0 := rfl
theorem lN_mod {a b : Nat} (ha : a < 2 ^ 63) (h0 : 0 < b) (hb : b < 2 ^ 63) : lN a % lN b = lN (a % b) := by
  apply Int64.toInt_inj.mp
  rw [Int64.toInt_mod, pk_lT ha, pk_lT hb, pk_lT (by have := Nat.mod_lt a h0; omega), Int.tmod_eq_emod_of_nonneg (by omega)]
  omega
theorem lN_ne0 {a : Nat} (h0 : 0 < a) (ha : a < 2 ^ 63) : ¬ lN a = 0 := fun q => by
  have := (pk_lEQ ha (show 0 < 2 ^ 63 by decide)).mp (q.trans lN_0.symm)
  omega
theorem p_gcd_L {z : RS} {t : Tb} (hX : rX z t) (hok : okT t) (h0 : 0 < tN t) {s : Nat} (hs : s < 2 ^ 31) : ∀ (x fuel : Nat), x < fuel → x ≤ 8 → Nat.gcd s (tN t) ≤ x → f_Ring_commonDivisor_L10 z (nI s) fuel (nI x) = some (nI (Nat.gcd s (tN t))) := by
  have h8 := hok.1
  have g0 : 0 < Nat.gcd s (tN t) := Nat.gcd_pos_of_pos_right _ h0
  intro x
  induction x with
  | zero => intro fuel hf h8 hx; omega
  | succ x ih =>
    intro fuel hf hx8 hx
    obtain ⟨f, rfl, hf'⟩ := f_suc hf
    rw [f_Ring_commonDivisor_L10, hX.1]
    by_cases h1 : x = 0
    · rw [h1, if_pos (by decide)]
      have : Nat.gcd s (tN t) = 1 := by omega
      rw [this, nI_one]
    · have hback : nI (x + 1) + (-1) = nI x := by rw [← nI_add, nI_one]; grind
      have hnext := fun hne : ¬ Nat.gcd s (tN t) = x + 1 => ih f (by omega) (by omega) (by omega)
      have g1 : ¬ nI (x + 1) ≤ 1 := nI_ge (a := 1) (b := x + 1) (by omega) (by omega)
      rw [if_neg g1, if_neg (nI_ne0 (by omega) (by omega)), s_mod (by omega) (by omega) (by omega), s_mod hs (by omega) (by omega), hback]
      by_cases d1 : tN t % (x + 1) = 0
      · rw [if_pos (by rw [d1, nI_0])]
        by_cases d2 : s % (x + 1) = 0
        · rw [if_pos (by rw [d2, nI_0])]
          have hd : (x + 1) ∣ Nat.gcd s (tN t) := Nat.dvd_gcd (Nat.dvd_of_mod_eq_zero d2) (Nat.dvd_of_mod_eq_zero d1)
          have := Nat.le_of_dvd g0 hd
          rw [show Nat.gcd s (tN t) = x + 1 by omega]
        · rw [if_neg (nI_ne0 (by omega) (by have := Nat.mod_lt s (show 0 < x + 1 by omega); omega))]
          exact hnext fun q => d2 (Nat.mod_eq_zero_of_dvd (q ▸ Nat.gcd_dvd_left s (tN t)))
      · rw [if_neg (nI_ne0 (by omega) (by have := Nat.mod_lt (tN t) (show 0 < x + 1 by omega); omega))]
        exact hnext fun q => d1 (Nat.mod_eq_zero_of_dvd (q ▸ Nat.gcd_dvd_right s (tN t)))
