/-! Pure: TABLE: letters, digits, numbers. -/
def tx (n : Nat) (V : Nat → Nat) (text tape : Nat → Int32) : Prop := n ≤ 64 ∧ ∀ i, i < n → V i ≤ 255 ∧ text i = nI (V i) ∧ tape i = nI (V i)
abbrev iD (n : Nat) (V : Nat → Nat) (p : Nat) : Prop := p < n ∧ 48 ≤ V p ∧ V p ≤ 57
theorem ixc_up {a b : Int32} : ∀ (n m : Nat) (x r : Int32), f_Lat_indexOfChar_L7 a b n x = some r → f_Lat_indexOfChar_L7 a b (n + m) x = some r
  | 0, _, _, _, h => absurd h (by rw [f_Lat_indexOfChar_L7]; simp)
  | n + 1, m, x, r, h => by
    rw [Nat.add_right_comm, f_Lat_indexOfChar_L7]
    rw [f_Lat_indexOfChar_L7] at h
    by_cases h1 : a ≤ x
    · rw [if_pos h1] at h ⊢; exact h
    · rw [if_neg h1] at h ⊢
      by_cases h2 : x < 0 ∨ 7 ≤ x.toNatClampNeg
      · rw [if_pos h2] at h; exact absurd h (by simp)
      · rw [if_neg h2] at h ⊢
        by_cases h3 : s_text x.toNatClampNeg = b
        · rw [if_pos h3] at h ⊢; exact h
        · rw [if_neg h3] at h ⊢
          exact ixc_up n m (x + 1) r h
theorem p_lt {n : Nat} {V : Nat → Nat} {text tape : Nat → Int32} (h : tx n V text tape) {p : Nat} (hp : p < n) : f_Letters_letterAt (nI n) text (nI p) = some (nI (V p)) := by
  have h64 := h.1
  obtain ⟨hv, ht, -⟩ := h.2 p hp
  unfold f_Letters_letterAt
  rw [if_neg (nI_pos (by omega)), if_neg (nI_ge hp (by omega)), if_neg (ix_b (show p < 64 by omega) (by omega)), nI_clamp (by omega), ht, chr2 hv, if_neg (fun q => q rfl)]
theorem p_dig {v : Nat} (hv : v ≤ 255) : f_Letters_isDigit (nI v) = some (if 48 ≤ v ∧ v ≤ 57 then 1 else 0) := by
  unfold f_Letters_isDigit
  by_cases h1 : 48 ≤ v
  · have g1 : ¬ nI v < 48 := nI_nlt (b := 48) h1 (by omega)
    rw [if_neg g1]
    by_cases h2 : v ≤ 57
    · have g2 : ¬ (57 : Int32) < nI v := nI_nlt (a := 57) h2 (by omega)
      rw [if_neg g2, if_pos ⟨h1, h2⟩]
    · have g2 : (57 : Int32) < nI v := nI_lt (a := 57) (by omega) (by omega)
      rw [if_pos g2, if_neg (fun q => h2 q.2)]
  · have g1 : nI v < 48 := nI_lt (b := 48) (by omega) (by omega)
    rw [if_pos g1, if_neg (fun q => h1 q.1)]
