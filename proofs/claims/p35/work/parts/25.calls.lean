/-! Pure: more calls, on both sides. -/
/-- a copy, n strokes -/
theorem p_mind (one : RS) {now : RS} {t : Tb} (hX : rX now t) (hok : okT t) (n : Nat) (hn : n ≤ 1000) : ∃ z1 z2, f_Ring_copyFrom one now = some z1 ∧ f_Ring_strikeOften z1 (nI n) = some z2 ∧ rX z1 t ∧ rX z2 (sq t n) := by
  obtain ⟨z1, e1, r1⟩ := p_copyFrom one now hX hok
  obtain ⟨z2, e2, r2⟩ := p_strikeOften r1 hok n hn
  exact ⟨z1, z2, e1, e2, r1, r2⟩
