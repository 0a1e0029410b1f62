/-! Pure: TABLE. -/
theorem outN {v lo hi : Nat} (hv : v < 2 ^ 31) (hl : lo < 2 ^ 31) (hh : hi < 2 ^ 31) : f_X_outside (nI v) (nI lo) (nI hi) = some (if lo ≤ v then (if v ≤ hi then 0 else -6) else -4) := by
  unfold f_X_outside
  by_cases h1 : lo ≤ v
  · rw [if_pos h1, if_pos (nI_le h1 hv)]
    by_cases h2 : v ≤ hi
    · rw [if_pos h2, if_pos (nI_le h2 hh)]
    · rw [if_neg h2, if_neg (nI_ge (by omega) hv)]
  · rw [if_neg h1, if_neg (nI_ge (by omega) hl)]
def bagT (u : Tb) (a : Nat) : Tb := (tN u, tKd u, tSw u, tOdd u, tStep u, a, u.2.2.2.2.2.2)
def oddT (u : Tb) (a b : Nat) : Tb := (tN u, tKd u, tSw u, a, b, u.2.2.2.2.2)
theorem bring2 (z : RS) {v : Nat} (hv : v ≤ 999) : f_Letters_bring z 2 (nI v) = some (1, (r_kinds z), (r_sweets z), (upd (r_settings z) 2 (nI v)), (r_heaps z), (r_children z), (r_strokes z), (r_gave z), (r_threw z)) := by
  have o : f_X_outside (nI v) 0 999 = _ := outN (v := v) (lo := 0) (hi := 999) (by omega) (by omega) (by omega)
  unfold f_Letters_bring
  rw [if_neg (by decide), kc2, sL2, sG2, o, if_pos (Nat.zero_le _), if_pos hv, Option.bind_some, if_pos rfl]
theorem bring0 (z : RS) {v : Nat} (hv : v ≤ 9) : f_Letters_bring z 0 (nI v) = if v ≤ 2 then some (1, (r_kinds z), (r_sweets z), (upd (r_settings z) 0 (nI v)), (r_heaps z), (r_children z), (r_strokes z), (r_gave z), (r_threw z)) else some (0, z) := by
  have o : f_X_outside (nI v) 0 2 = _ := outN (v := v) (lo := 0) (hi := 2) (by omega) (by omega) (by omega)
  unfold f_Letters_bring
  rw [if_neg (by decide), kc0, sL0, sG0, o, if_pos (Nat.zero_le _), Option.bind_some]
  by_cases h : v ≤ 2
  · rw [if_pos h, if_pos h, if_pos rfl]
  · rw [if_neg h, if_neg h, if_neg (by decide)]
theorem bring1 (z : RS) {v : Nat} (hv : v ≤ 9) : f_Letters_bring z 1 (nI v) = if 1 ≤ v ∧ v ≤ 3 then some (1, (r_kinds z), (r_sweets z), (upd (r_settings z) 1 (nI v)), (r_heaps z), (r_children z), (r_strokes z), (r_gave z), (r_threw z)) else some (0, z) := by
  have o : f_X_outside (nI v) 1 3 = _ := outN (v := v) (lo := 1) (hi := 3) (by omega) (by omega) (by omega)
  unfold f_Letters_bring
  rw [if_neg (by decide), kc1, sL1, sG1, o, Option.bind_some]
  by_cases h1 : 1 ≤ v
  · rw [if_pos h1]
    by_cases h : v ≤ 3
    · rw [if_pos h, if_pos (show 1 ≤ v ∧ v ≤ 3 from ⟨h1, h⟩), if_pos (show (0 : Int32) = 0 from rfl)]
    · rw [if_neg h, if_neg (show ¬ (1 ≤ v ∧ v ≤ 3) from fun q => h q.2), if_neg (show ¬ (-6 : Int32) = 0 by decide)]
  · rw [if_neg h1, if_neg (show ¬ (1 ≤ v ∧ v ≤ 3) from fun q => h1 q.1), if_neg (show ¬ (-4 : Int32) = 0 by decide)]
theorem p_scan {n : Nat} {V : Nat → Nat} {text tape : Nat → Int32} (h : tx n V text tape) (now : RS) (k : RS → Int32 → Option (Int32 × RS × RS)) (z : RS) (x3 x4 : Int32) {e : Nat} (he : e ≤ n) (hV : ∀ i, i < e → i + 0 < e → True) : ∀ (d i g : Nat), i + d = e → (∀ j, i ≤ j → j < e → V j ≠ 59) → f_Letters_carryOut_L31 (nI n) text now k (g + d) z x3 x4 (nI i) = f_Letters_carryOut_L31 (nI n) text now k g z x3 x4 (nI e) := by
  have h64 := h.1
  intro d
  induction d with
  | zero =>
    intro i g hi _
    rw [show i = e by omega]
    rfl
  | succ d ih =>
    intro i g hi hj
    have hin : i < n := by omega
    have hne : ¬ nI (V i) = 59 := fun q => hj i (Nat.le_refl _) (by omega) ((nI_eq (b := 59) (by have := (h.2 i hin).1; omega) (by omega)).mp q)
    rw [← Nat.add_assoc, f_Letters_carryOut_L31, if_neg (nI_ge hin (by omega)), if_neg (ix_b (show i < 64 by omega) (by omega)), nI_clamp (by omega), (h.2 i hin).2.1, if_neg hne, nI_1]
    exact ih (i + 1) g (by omega) (fun j h1 h2 => hj j (by omega) h2)
