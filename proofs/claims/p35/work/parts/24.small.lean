/-! Pure: the plain calls, on both sides. -/
theorem z10 : ((1 : Int32) = 0) = False := by decide
theorem z40 : ((-4 : Int32) = 0) = False := by decide
theorem z60 : ((-6 : Int32) = 0) = False := by decide
theorem z01 : ((0 : Int32) = 1) = False := by decide
theorem z02 : ((0 : Int32) = 2) = False := by decide
theorem z12 : ((1 : Int32) = 2) = False := by decide
theorem z21 : ((2 : Int32) = 1) = False := by decide
theorem z20 : ((2 : Int32) = 0) = False := by decide
def rf (a b : Nat → Int32) : Prop := ∀ i, 1 ≤ i → i ≤ 6 → a i = b i
theorem rf_upd {a b : Nat → Int32} (h : rf a b) (k : Nat) (h1 : 1 ≤ k) (h6 : k ≤ 6) : rf (upd a k (a k + 1)) (upd b k (b k + 1)) := by
  intro i hi1 hi6
  unfold upd
  split
  · rw [h k h1 h6]
  · exact h i hi1 hi6
theorem bd0 (x : Int32) (lo hi : Nat) (h : hi < 2 ^ 31) (hl : lo ≤ hi) : f_X_outside x (nI lo) (nI hi) = some (-4) ∨ f_X_outside x (nI lo) (nI hi) = some (-6) ∨ ∃ n, lo ≤ n ∧ n ≤ hi ∧ x = nI n ∧ f_X_outside x (nI lo) (nI hi) = some 0 := by
  unfold f_X_outside
  by_cases h1 : nI lo ≤ x
  · rw [if_pos h1]
    by_cases h2 : x ≤ nI hi
    · rw [if_pos h2]
      refine Or.inr (Or.inr ?_)
      have a1 := Int32.le_iff_toInt_le.mp h1
      have a2 := Int32.le_iff_toInt_le.mp h2
      rw [nI_toInt (by omega)] at a1
      rw [nI_toInt h] at a2
      refine ⟨x.toInt.toNat, by omega, by omega, ?_, rfl⟩
      apply Int32.toInt_inj.mp
      rw [nI_toInt (by omega)]
      omega
    · rw [if_neg h2]
      exact Or.inr (Or.inl rfl)
  · rw [if_neg h1]
    exact Or.inl rfl
