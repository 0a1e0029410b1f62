/-! Pure: settings, seats, counts, images, rows, letters told. -/
theorem kc0 : (0 : Int32).toNatClampNeg = 0 := by decide +kernel
theorem kc1 : (1 : Int32).toNatClampNeg = 1 := by decide +kernel
theorem kc2 : (2 : Int32).toNatClampNeg = 2 := by decide +kernel
theorem b_0 : ((0 : Int32) < 0 ∨ 3 ≤ 0) = False := by decide
theorem b_1 : ((1 : Int32) < 0 ∨ 3 ≤ 1) = False := by decide
theorem b_2 : ((2 : Int32) < 0 ∨ 3 ≤ 2) = False := by decide
theorem n_0 : ((0 : Int32) < 0) = False := by decide
theorem n_1 : ((1 : Int32) < 0) = False := by decide
theorem n_2 : ((2 : Int32) < 0) = False := by decide
theorem l_0 : ((0 : Int32) ≤ 2) = True := by decide
theorem l_1 : ((1 : Int32) ≤ 2) = True := by decide
theorem l_2 : ((2 : Int32) ≤ 2) = True := by decide
theorem sL0 : s_LEAST_SETTING 0 = 0 := rfl
theorem sL1 : s_LEAST_SETTING 1 = 1 := rfl
theorem sL2 : s_LEAST_SETTING 2 = 0 := rfl
theorem sG0 : s_GREATEST_SETTING 0 = 2 := rfl
theorem sG1 : s_GREATEST_SETTING 1 = 3 := rfl
theorem sG2 : s_GREATEST_SETTING 2 = 999 := rfl
def swN (f : Nat → Nat) (c d : Nat) : Nat → Nat := updN (updN f c (f d)) d (f c)
theorem sw_rep {n c d : Nat} {F : Nat → Int32} {f : Nat → Nat} (h : ∀ i, i < n → F i = nI (f i)) (hc : c < n) (hd : d < n) : ∀ i, i < n → upd (upd F c (F d)) d (F c) i = nI (swN f c d i) := by
  intro i hi
  unfold swN upd updN
  by_cases h1 : i = d
  · rw [if_pos h1, if_pos h1]; exact h c hc
  rw [if_neg h1, if_neg h1]
  by_cases h2 : i = c
  · rw [if_pos h2, if_pos h2]; exact h d hd
  rw [if_neg h2, if_neg h2]; exact h i hi
theorem sw_le {n c d B : Nat} {f : Nat → Nat} (h : ∀ i, i < n → f i ≤ B) (hc : c < n) (hd : d < n) : ∀ i, i < n → swN f c d i ≤ B := by
  intro i hi
  unfold swN updN
  split
  · exact h c hc
  · split
    · exact h d hd
    · exact h i hi
/-- all SWEETS of the first i -/
def sm (t : Tb) : Nat → Nat
  | 0 => 0
  | i + 1 => sm t i + tSw t i
theorem sm_le {t : Tb} (hok : okT t) : ∀ i, i ≤ tN t → sm t i ≤ 999 * i
  | 0, _ => Nat.zero_le _
  | i + 1, h => by
    have := sm_le hok i (by omega)
    have := (hok.2.1 i (by omega)).2
    show sm t i + tSw t i ≤ _
    omega
def od (t : Tb) : Nat → Nat
  | 0 => 0
  | i + 1 => od t i + tSw t i % 2
theorem p_sum_L {z : RS} {t : Tb} (hX : rX z t) (hok : okT t) : ∀ (d i fuel : Nat), i + d = tN t → d < fuel → f_Ring_allSweets_L4 z fuel (nI (sm t i)) (nI i) = some (nI (sm t (tN t))) := by
  have hn := hok.1
  intro d
  induction d with
  | zero =>
    intro i fuel hi hf
    obtain ⟨f, rfl, -⟩ := f_suc hf
    obtain rfl : i = tN t := by omega
    rw [f_Ring_allSweets_L4, hX.1, if_pos (nI_le (Nat.le_refl _) (by omega))]
  | succ d ih =>
    intro i fuel hi hf
    obtain ⟨f, rfl, hf'⟩ := f_suc hf
    have hlt : i < tN t := by omega
    rw [f_Ring_allSweets_L4, hX.1, if_neg (ix_n hlt hn), if_neg (ix_b (by omega) (by omega)), ix_k (by omega), (hX.2.1 i hlt).2, nI_1, nI_add]
    exact ih (i + 1) f (by omega) hf'
theorem p_sum {z : RS} {t : Tb} (hX : rX z t) (hok : okT t) : f_Ring_allSweets z = some (nI (sm t (tN t))) := by
  have hn := hok.1
  exact p_sum_L hX hok (tN t) 0 FU (Nat.zero_add _) (by unfold FU; omega)
theorem p_odd_L {z : RS} {t : Tb} (hX : rX z t) (hok : okT t) : ∀ (d i fuel : Nat), i + d = tN t → d < fuel → f_Ring_oddHeaps_L4 z fuel (nI (od t i)) (nI i) = some (nI (od t (tN t))) := by
  have hn := hok.1
  intro d
  induction d with
  | zero =>
    intro i fuel hi hf
    obtain ⟨f, rfl, -⟩ := f_suc hf
    obtain rfl : i = tN t := by omega
    rw [f_Ring_oddHeaps_L4, hX.1, if_pos (nI_le (Nat.le_refl _) (by omega))]
  | succ d ih =>
    intro i fuel hi hf
    obtain ⟨f, rfl, hf'⟩ := f_suc hf
    have hlt : i < tN t := by omega
    have h9 := (hok.2.1 i hlt).2
    rw [f_Ring_oddHeaps_L4, hX.1, if_neg (ix_n hlt hn), if_neg (ix_b (by omega) (by omega)), ix_k (by omega), (hX.2.1 i hlt).2, nI_odd (by omega), nI_1, nI_add]
    exact ih (i + 1) f (by omega) hf'
