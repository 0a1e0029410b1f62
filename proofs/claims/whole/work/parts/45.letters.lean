/-! Pure: TABLE: letters, digits, numbers. -/
def tx (n : Nat) (V : Nat → Nat) (text tape : Nat → Int32) : Prop := n ≤ 64 ∧ ∀ i, i < n → V i ≤ 255 ∧ text i = nI (V i) ∧ tape i = nI (V i)
abbrev iD (n : Nat) (V : Nat → Nat) (p : Nat) : Prop := p < n ∧ 48 ≤ V p ∧ V p ≤ 57
theorem ixc_up {a b : Int32} : ∀ (n m : Nat) (x r : Int32), f_Lat_indexOfChar_L7 a b n x = some r → f_Lat_indexOfChar_L7 a b (n + m) x = some r
  | 0, _, _, _, h => absurd h (by rw [f_Lat_indexOfChar_L7]; simp)
  | n + 1, m, x, r, h => by
    rw [Nat.add_right_comm, f_Lat_indexOfChar_L7]
    rw [f_Lat_indexOfChar_L7] at h
    by_cases h1 : a ≤ x
    · rw [if_pos h1] at h ⊢; exact h
    · rw [if_neg h1] at h ⊢
      by_cases h2 : x < 0 ∨ 7 ≤ x.toNatClampNeg
      · rw [if_pos h2] at h; exact absurd h (by simp)
      · rw [if_neg h2] at h ⊢
        by_cases h3 : s_text x.toNatClampNeg = b
        · rw [if_pos h3] at h ⊢; exact h
        · rw [if_neg h3] at h ⊢
          exact ixc_up n m (x + 1) r h
theorem ixc_k : ∀ v, v < 256 → f_Lat_indexOfChar_L7 7 ((nI v).toInt8.toInt32) 8 0 = f_M_kindOf (nI v) := by decide +kernel
theorem kd_c : ∀ v, v < 256 → (f_M_kindOf (nI v) = some (-1)) ∨ (¬ v = 59 ∧ ∃ a : Fin 7, f_M_kindOf (nI v) = some (nI a)) := by decide +kernel
theorem kd_s (v : Nat) (hv : v < 256) : ∃ r, f_M_kindOf (nI v) = some r := by
  rcases kd_c v hv with h | ⟨-, a, h⟩ <;> exact ⟨_, h⟩
theorem p_ix {v : Nat} (hv : v ≤ 255) : f_Str_indexOf1 (nI v) = f_M_kindOf (nI v) := by
  obtain ⟨r, hr⟩ := kd_s v (by omega)
  have h1 := (ixc_k v (by omega)).trans hr
  have h2 := ixc_up 8 999992 0 r h1
  have hF : FU = 8 + 999992 := rfl
  rw [← hF] at h2
  have g1 : ¬ nI v < 0 := nI_pos (by omega)
  have g2 : ¬ (255 : Int32) < nI v := nI_nlt (a := 255) hv (by omega)
  have e1 : f_Lat_canEncode (nI v) = some 1 := by
    unfold f_Lat_canEncode
    rw [if_neg g1, if_neg g2]
  have e2 : jmax (0 : Int32) 0 = 0 := by decide
  have e3 : jmin ((7 : Int32) >>> ((0 : Int32) &&& 31)) 7 = 7 := by decide
  have e4 : f_Str_length = some ((7 : Int32) >>> ((0 : Int32) &&& 31)) := rfl
  have e5 : f_Str_isLatin1 = some 1 := rfl
  unfold f_Str_indexOf1 f_Str_indexOf2
  rw [e5, Option.bind_some, if_neg z10', e4, Option.bind_some]
  unfold f_Lat_indexOf
  rw [e1, Option.bind_some, if_neg z10', e2, e3, if_pos (by decide)]
  unfold f_Lat_indexOfChar
  rw [h2, hr]
  rfl
theorem q_nx {n : Nat} {V : Nat → Nat} {text tape : Nat → Int32} (h : tx n V text tape) {p : Nat} (hp : p ≤ 70) : f_M_next (nI n) (nI p) tape = some (if p < n then nI (V p) else -1) := by
  have h64 := h.1
  unfold f_M_next
  by_cases hlt : p < n
  · rw [if_neg (nI_ge hlt (by omega)), if_neg (ix_b (show p < 64 by omega) (by omega)), nI_clamp (by omega), if_pos hlt, (h.2 p hlt).2.2]
  · rw [if_pos (nI_le (by omega) (by omega)), if_neg hlt]
theorem p_lt {n : Nat} {V : Nat → Nat} {text tape : Nat → Int32} (h : tx n V text tape) {p : Nat} (hp : p < n) : f_Letters_letterAt (nI n) text (nI p) = some (nI (V p)) := by
  have h64 := h.1
  obtain ⟨hv, ht, -⟩ := h.2 p hp
  unfold f_Letters_letterAt
  rw [if_neg (nI_pos (by omega)), if_neg (nI_ge hp (by omega)), if_neg (ix_b (show p < 64 by omega) (by omega)), nI_clamp (by omega), ht, chr2 hv, if_neg (fun q => q rfl)]
theorem q_dig {n : Nat} {V : Nat → Nat} {text tape : Nat → Int32} (h : tx n V text tape) (p : Nat) : f_M_isIn (if p < n then nI (V p) else -1) 48 57 = some (if iD n V p then 1 else 0) := by
  unfold f_M_isIn
  by_cases hlt : p < n
  · have hv := (h.2 p hlt).1
    rw [if_pos hlt]
    by_cases h1 : 48 ≤ V p
    · have g1 : ¬ nI (V p) < 48 := nI_nlt (b := 48) h1 (by omega)
      rw [if_neg g1]
      by_cases h2 : V p ≤ 57
      · have g2 : ¬ (57 : Int32) < nI (V p) := nI_nlt (a := 57) h2 (by omega)
        have hD : iD n V p := ⟨hlt, h1, h2⟩
        rw [if_neg g2, if_pos hD]
      · have g2 : (57 : Int32) < nI (V p) := nI_lt (a := 57) (by omega) (by omega)
        have hD : ¬ iD n V p := fun q => h2 q.2.2
        rw [if_pos g2, if_neg hD]
    · have g1 : nI (V p) < 48 := nI_lt (b := 48) (by omega) (by omega)
      have hD : ¬ iD n V p := fun q => h1 q.2.1
      rw [if_pos g1, if_neg hD]
  · have hD : ¬ iD n V p := fun q => hlt q.1
    rw [if_neg hlt, if_neg hD, if_pos (by decide)]
theorem p_dig {v : Nat} (hv : v ≤ 255) : f_Letters_isDigit (nI v) = some (if 48 ≤ v ∧ v ≤ 57 then 1 else 0) := by
  unfold f_Letters_isDigit
  by_cases h1 : 48 ≤ v
  · have g1 : ¬ nI v < 48 := nI_nlt (b := 48) h1 (by omega)
    rw [if_neg g1]
    by_cases h2 : v ≤ 57
    · have g2 : ¬ (57 : Int32) < nI v := nI_nlt (a := 57) h2 (by omega)
      rw [if_neg g2, if_pos ⟨h1, h2⟩]
    · have g2 : (57 : Int32) < nI v := nI_lt (a := 57) (by omega) (by omega)
      rw [if_pos g2, if_neg (fun q => h2 q.2)]
  · have g1 : nI v < 48 := nI_lt (b := 48) (by omega) (by omega)
    rw [if_pos g1, if_neg (fun q => h1 q.1)]
theorem num_L {n : Nat} {V : Nat → Nat} {text tape : Nat → Int32} (h : tx n V text tape) (mx : Nat) (hmx : mx ≤ 3) : ∀ (m j p x fuel : Nat), m + j = mx → m < fuel → x + 1 ≤ 10 ^ j → p + m ≤ 68 →
    ∃ c v, c ≤ m ∧ (∀ i, i < c → iD n V (p + i)) ∧ (c < m → ¬ iD n V (p + c)) ∧ v + 1 ≤ 10 ^ (j + c) ∧ f_M_number_L20 (nI n) tape (nI mx) fuel (nI p) (nI x) (nI j) = some (nI v, nI (p + c)) ∧ ∀ fuel2, c < fuel2 → f_Letters_number_L5 (nI n) text (nI (p + c)) fuel2 (nI x) (nI p) = some (nI v) := by
  intro m
  induction m with
  | zero =>
    intro j p x fuel hj hf hx hp
    obtain ⟨f, rfl, -⟩ := f_suc hf
    obtain rfl : j = mx := by omega
    refine ⟨0, x, Nat.le_refl _, fun i hi => by omega, fun q => by omega, hx, ?_, fun fuel2 h2 => ?_⟩
    · rw [f_M_number_L20, if_pos (nI_le (Nat.le_refl _) (by omega))]
      rfl
    · obtain ⟨f2, rfl, -⟩ := f_suc h2
      rw [f_Letters_number_L5, if_pos (nI_le (by omega) (by omega))]
  | succ m ih =>
    intro j p x fuel hj hf hx hp
    obtain ⟨f, rfl, hf'⟩ := f_suc hf
    have h10 : 10 ^ j ≤ 10 ^ 3 := Nat.pow_le_pow_right (by decide) (by omega)
    have h1000 : 10 ^ 3 = 1000 := by decide
    rw [f_M_number_L20, if_neg (nI_ge (by omega) (by omega)), q_nx h (by omega), Option.bind_some, q_dig h p, Option.bind_some]
    by_cases hD : iD n V p
    · have hv := (h.2 p hD.1).1
      have hd : 48 ≤ V p ∧ V p ≤ 57 := hD.2
      have e : (10 : Int32) * nI x + nI (V p) - 48 = nI (10 * x + V p - 48) := by
        rw [lI 10, pk_mul, nI_add, lI 48, pk_sub (by omega)]
      have e2 : nI x * 10 + nI (V p) - 48 = nI (10 * x + V p - 48) := by
        rw [lI 10, pk_mul, nI_add, lI 48, pk_sub (by omega)]
        exact congrArg nI (by omega)
      obtain ⟨c, v, c1, c2, c3, c4, c5, c6⟩ := ih (j + 1) (p + 1) (10 * x + V p - 48) f (by omega) hf' (by rw [Nat.pow_succ]; omega) (by omega)
      rw [if_pos hD, if_neg z10', Option.bind_some, if_pos hD.1, e, nI_1, nI_1]
      refine ⟨c + 1, v, by omega, fun i hi => ?_, fun q => ?_, ?_, ?_, fun fuel2 h2 => ?_⟩
      · by_cases q : i = 0
        · rw [q]; exact hD
        · have := c2 (i - 1) (by omega)
          rw [show p + 1 + (i - 1) = p + i by omega] at this
          exact this
      · have := c3 (by omega)
        rw [show p + 1 + c = p + (c + 1) by omega] at this
        exact this
      · rw [show j + (c + 1) = j + 1 + c by omega]; exact c4
      · rw [show p + (c + 1) = p + 1 + c by omega]; exact c5
      · obtain ⟨f2, rfl, h2'⟩ := f_suc h2
        rw [f_Letters_number_L5, if_neg (nI_ge (by omega) (by have := h.1; omega)), p_lt h hD.1, Option.bind_some, e2, nI_1, show p + (c + 1) = p + 1 + c by omega]
        exact c6 f2 (by omega)
    · rw [if_neg hD, if_pos rfl]
      refine ⟨0, x, Nat.zero_le _, fun i hi => by omega, fun _ => hD, ?_, rfl, fun fuel2 h2 => ?_⟩
      · exact hx
      · obtain ⟨f2, rfl, -⟩ := f_suc h2
        rw [f_Letters_number_L5, if_pos (nI_le (by omega) (by omega))]
theorem q_number {n : Nat} {V : Nat → Nat} {text tape : Nat → Int32} (h : tx n V text tape) (mx : Nat) (hmx : mx ≤ 3) (h1 : 1 ≤ mx) {p : Nat} (hp : p ≤ 65) : (¬ iD n V p ∧ f_M_number (nI n) (nI p) tape (nI mx) = some (-1, nI p)) ∨ ∃ c v, 1 ≤ c ∧ c ≤ mx ∧ (∀ i, i < c → iD n V (p + i)) ∧ (c < mx → ¬ iD n V (p + c)) ∧ v + 1 ≤ 10 ^ c ∧ f_M_number (nI n) (nI p) tape (nI mx) = some (nI v, nI (p + c)) ∧ f_Letters_number (nI n) text (nI p) (nI (p + c)) = some (nI v) := by
  unfold f_M_number
  rw [q_nx h (by omega), Option.bind_some, q_dig h p, Option.bind_some]
  by_cases hD : iD n V p
  · rw [if_pos hD, if_neg z10']
    obtain ⟨c, v, c1, c2, c3, c4, c5, c6⟩ := num_L h mx hmx mx 0 p 0 FU (by omega) (by unfold FU; omega) (by decide) (by omega)
    have hc : 1 ≤ c := by
      by_cases q : c = 0
      · have := c3 (by omega)
        rw [q] at this
        exact absurd hD this
      · omega
    rw [Nat.zero_add] at c4
    exact Or.inr ⟨c, v, hc, c1, c2, c3, c4, c5, c6 FU (by unfold FU; omega)⟩
  · rw [if_neg hD, if_pos rfl]
    exact Or.inl ⟨hD, rfl⟩
