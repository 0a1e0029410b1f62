/-! Pure: the law's table, and all that it asks of it. -/
abbrev zR0 : RS := (fun _ => 0, fun _ => 0, upd (upd (fun _ => 0) 1 1) 2 999, fun _ => 0, 0, 0, 0, 0)
abbrev tb0 : Tb := (0, fun _ => 0, fun _ => 0, 0, 1, 999, 0, 0, 0)
theorem rX0 : rX zR0 tb0 := ⟨rfl, fun i hi => absurd hi (Nat.not_lt_zero i), rfl, rfl, rfl, rfl, rfl, rfl⟩
theorem fr00 : fr0 tb0 0 := ⟨⟨Nat.zero_le _, fun i hi => absurd hi (Nat.not_lt_zero i), Nat.zero_le _, Nat.le_refl _, by decide, Nat.le_refl _⟩, rfl, Nat.le_refl _, rfl, rfl, rfl⟩
theorem table0 (xs : Nat → Int32) {L : Nat} (hL : L < 2 ^ 31) : ∃ q, f_Law_table xs L zR0 0 (fun _ => 0) zR0 (fun _ => 0) 8 60 = some q ∧ f_Law_C17 xs L 0 q.2.1 q.2.2.1 q.2.2.2.1 q.2.2.2.2.1 q.2.2.2.2.2 zR0 zR0 0 (fun _ => 0) (fun _ => 0) q.1 = some 1 := by
  obtain ⟨n, now', text', trial', t, e, hX, ⟨h1, h2, h3, h4, h5, h6⟩, h0, h8, v9, ev9, ej9⟩ := v_table xs hL zR0 (fun _ => 0) (fun _ => 0) rX0 fr00
  subst h2
  exact ⟨_, e, c_17 xs hL hX h1 h0 (by omega) h4 h5 ev9 ej9 0 (nI 0) text' trial' (fun _ => 0) zR0 zR0 0 (fun _ => 0) (fun _ => 0)⟩
