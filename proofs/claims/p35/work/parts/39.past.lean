/-! Pure: BEFORE: how sweets are kept; digits. -/
def sI (f : Nat → Int) : Nat → Int
  | 0 => 0
  | i + 1 => sI f i + f i
theorem sI_congr {f g : Nat → Int} : ∀ n, (∀ c, c < n → f c = g c) → sI f n = sI g n
  | 0, _ => rfl
  | n + 1, h => by rw [sI, sI, sI_congr n (fun c hc => h c (by omega)), h n (by omega)]
theorem sI_add (f g : Nat → Int) : ∀ n, sI (fun c => f c + g c) n = sI f n + sI g n
  | 0 => rfl
  | n + 1 => by rw [sI, sI, sI, sI_add f g n]; omega
theorem sI_one (x : Nat) (v : Int) : ∀ n, sI (fun c => if c = x then v else 0) n = if x < n then v else 0
  | 0 => rfl
  | n + 1 => by
    rw [sI, sI_one x v n]
    by_cases h : n = x
    · rw [if_pos h, if_neg (by omega), if_pos (by omega)]; omega
    · rw [if_neg h]
      by_cases h2 : x < n
      · rw [if_pos h2, if_pos (by omega)]; omega
      · rw [if_neg h2, if_neg (by omega)]; omega
theorem sI_sm (t : Tb) : ∀ n, (sm t n : Int) = sI (fun c => (tSw t c : Int)) n
  | 0 => rfl
  | n + 1 => by rw [sm, sI, ← sI_sm t n]; omega
theorem hp_sum {t : Tb} (h0 : 0 < tN t) : ∀ i, i ≤ tN t → sI (hp t i) (tN t) = sI (fun c => (tSw t c : Int)) (tN t)
  | 0, _ => rfl
  | i + 1, hi => by
    have hl := lf_lt (t := t) (c := i) h0
    have hr := rt_lt (t := t) (c := i) h0
    have e : hp t (i + 1) = fun c => (((hp t i c + (if c = i then -(out t i : Int) else 0)) + (if c = lf t i then (gf t i : Int) else 0)) + (if c = rt t i then (if tKd t i = 1 then (gf t i : Int) else 0) else 0)) := by
      funext c
      simp only [hp]
      by_cases a1 : c = i <;> by_cases a2 : c = lf t i <;> by_cases a3 : tKd t i = 1 <;> by_cases a4 : c = rt t i <;> simp only [a1, a2, a3, a4, if_true, if_false, and_true, true_and, and_false, false_and] <;> omega
    rw [e, sI_add, sI_add, sI_add, sI_one, sI_one, sI_one, hp_sum h0 i (by omega), if_pos (show i < tN t by omega), if_pos hl, if_pos hr]
    unfold out
    by_cases a3 : tKd t i = 1
    · rw [if_pos a3, if_pos a3]; omega
    · rw [if_neg a3, if_neg a3]; omega
theorem hp_9 {t : Tb} (h9 : ∀ c, c < tN t → tSw t c ≤ 9) : ∀ (i c : Nat), i ≤ tN t → c < tN t → hp t i c ≤ 9 + 18 * i
  | 0, c, _, hc => by have := h9 c hc; show (tSw t c : Int) ≤ _; omega
  | i + 1, c, hi, hc => by
    have h := hp_9 h9 i c (by omega) hc
    have hg := gf_le (t := t) i
    have h9 := h9 i (by omega)
    simp only [hp]
    repeat' split
    all_goals omega
theorem sI_upd (f : Nat → Nat) (k v : Nat) : ∀ n, sI (fun c => (updN f k v c : Int)) n = sI (fun c => (f c : Int)) n + (if k < n then (v : Int) - f k else 0)
  | 0 => rfl
  | n + 1 => by
    rw [sI, sI, sI_upd f k v n]
    unfold updN
    by_cases h : n = k
    · rw [if_pos h, if_neg (by omega), if_pos (by omega), h]; omega
    · rw [if_neg h]
      by_cases h2 : k < n
      · rw [if_pos h2, if_pos (by omega)]; omega
      · rw [if_neg h2, if_neg (by omega)]; omega
theorem mdT_sum {t : Tb} {c : Nat} (h : tSw t c ≤ 999) (n : Nat) : sI (fun j => (tSw (mdT t c) j : Int)) n ≤ sI (fun j => (tSw t j : Int)) n + 1 ∧ sI (fun j => (tSw t j : Int)) n ≤ sI (fun j => (tSw (mdT t c) j : Int)) n + 1 := by
  unfold mdT
  by_cases o : tSw t c % 2 = 1
  · rw [if_pos o]
    by_cases o0 : tOdd t = 0
    · rw [if_pos o0]
      by_cases o1 : 0 < tBag t
      · rw [if_pos o1]
        have e := sI_upd (tSw t) c (min (tSw t c + 1) 999) n
        have e : sI (fun j => (tSw (tN t, tKd t, updN (tSw t) c (min (tSw t c + 1) 999), tOdd t, tStep t, tBag t - 1, tSt t, tGv t + 1, tTh t) j : Int)) n = _ := e
        rw [e]
        split <;> omega
      · rw [if_neg o1]; omega
    · rw [if_neg o0]
      by_cases o1 : tOdd t = 1
      · rw [if_pos o1]
        have e := sI_upd (tSw t) c (tSw t c - 1) n
        have e : sI (fun j => (tSw (tN t, tKd t, updN (tSw t) c (tSw t c - 1), tOdd t, tStep t, tBag t, tSt t, tGv t, tTh t + 1) j : Int)) n = _ := e
        rw [e]
        split <;> omega
      · rw [if_neg o1]; omega
  · rw [if_neg o]; omega
theorem mds_sum {t : Tb} (hok : okT t) (n : Nat) : ∀ c, c ≤ tN t → sI (fun j => (tSw (mds t c) j : Int)) n ≤ sI (fun j => (tSw t j : Int)) n + c ∧ sI (fun j => (tSw t j : Int)) n ≤ sI (fun j => (tSw (mds t c) j : Int)) n + c
  | 0, _ => ⟨by show _ ≤ _ + (0 : Int); rw [Int.add_zero]; exact Int.le_refl _, by show _ ≤ _ + (0 : Int); rw [Int.add_zero]; exact Int.le_refl _⟩
  | c + 1, hc => by
    have h := mds_sum hok n c (by omega)
    have ok := mds_ok hok c (by omega)
    have h2 := mdT_sum (t := mds t c) (c := c) (ok.2.1 c (by rw [(mds_same t c).1]; omega)).2 n
    rw [show mds t (c + 1) = mdT (mds t c) c from rfl]
    omega
/-- what a stroke keeps, where no one comes near 999 -/
theorem stk_sum {t : Tb} (hok : okT t) (h0 : 0 < tN t) (h9 : ∀ c, c < tN t → tSw t c ≤ 9) : sm (stk t) (tN t) ≤ sm t (tN t) + tN t ∧ sm t (tN t) ≤ sm (stk t) (tN t) + tN t := by
  have h8 := hok.1
  have a := mds_sum (cp_ok hok) (tN t) (tN t) (Nat.le_refl _)
  have e1 : sI (fun j => (tSw (setSw t (cp t)) j : Int)) (tN t) = sI (hp t (tN t)) (tN t) := sI_congr _ fun c hc => by
    have q1 := hp_9 h9 (tN t) c (Nat.le_refl _) hc
    have q2 := hp_nn (t := t) (tN t) c
    show ((min (hp t (tN t) c).toNat 999 : Nat) : Int) = hp t (tN t) c
    omega
  rw [e1, hp_sum h0 _ (Nat.le_refl _)] at a
  have e2 : sI (fun j => (tSw (mds (setSw t (cp t)) (tN t)) j : Int)) (tN t) = sm (stk t) (tN t) := (sI_sm (stk t) (tN t)).symm
  rw [e2, ← sI_sm] at a
  omega
theorem sm_congr {t u : Tb} : ∀ n, (∀ c, c < n → tSw t c = tSw u c) → sm t n = sm u n
  | 0, _ => rfl
  | n + 1, h => by rw [sm, sm, sm_congr n (fun c hc => h c (by omega)), h n (by omega)]
/-! what a stroke makes of a heap -/
theorem mdT_ne {v : Tb} {n c : Nat} (h : c ≠ n) : tSw (mdT v n) c = tSw v c := by
  unfold mdT
  repeat' split
  all_goals first | rfl | exact if_neg h
theorem mdT_at (v : Tb) (c : Nat) : tSw (mdT v c) c = tSw v c ∨ (tSw v c % 2 = 1 ∧ (tSw (mdT v c) c = min (tSw v c + 1) 999 ∨ tSw (mdT v c) c = tSw v c - 1)) := by
  unfold mdT
  by_cases o : tSw v c % 2 = 1
  · rw [if_pos o]
    by_cases o0 : tOdd v = 0
    · rw [if_pos o0]
      by_cases o1 : 0 < tBag v
      · rw [if_pos o1]
        exact Or.inr ⟨o, Or.inl (if_pos rfl)⟩
      · rw [if_neg o1]; exact Or.inl rfl
    · rw [if_neg o0]
      by_cases o1 : tOdd v = 1
      · rw [if_pos o1]
        exact Or.inr ⟨o, Or.inr (if_pos rfl)⟩
      · rw [if_neg o1]; exact Or.inl rfl
  · rw [if_neg o]; exact Or.inl rfl
theorem mds_lo (v : Tb) (c : Nat) : ∀ n, n ≤ c → tSw (mds v n) c = tSw v c
  | 0, _ => rfl
  | n + 1, h => (mdT_ne (v := mds v n) (n := n) (c := c) (by omega)).trans (mds_lo v c n (by omega))
theorem mds_hi (v : Tb) (c : Nat) : ∀ n, tSw (mds v (c + 1 + n)) c = tSw (mdT (mds v c) c) c
  | 0 => rfl
  | n + 1 => (mdT_ne (v := mds v (c + 1 + n)) (n := c + 1 + n) (c := c) (by omega)).trans (mds_hi v c n)
theorem jmax_nI {a b : Nat} (ha : a < 2 ^ 31) (hb : b < 2 ^ 31) : jmax (nI a) (nI b) = nI (max a b) := by
  unfold jmax
  by_cases h : a < b
  · rw [if_pos (nI_lt h hb), Nat.max_eq_right (by omega)]
  · rw [if_neg (nI_nlt (by omega) ha), Nat.max_eq_left (by omega)]
theorem jmin_nI {a b : Nat} (ha : a < 2 ^ 31) (hb : b < 2 ^ 31) : jmin (nI a) (nI b) = nI (min a b) := by
  unfold jmin
  by_cases h : b < a
  · rw [if_pos (nI_lt h ha), Nat.min_eq_right (by omega)]
  · rw [if_neg (nI_nlt (by omega) hb), Nat.min_eq_left (by omega)]
