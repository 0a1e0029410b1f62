/-! Pure: what strokes keep, what doublings keep, even heaps. -/
theorem i_al (a b : Int32) : a + b - a = b := by
  rw [Int32.add_comm]
  exact Int32.add_sub_cancel b a
theorem i_z0 (x : Int32) : x + nI 0 = x := by
  rw [nI_0]
  exact Int32.add_zero x
theorem sm_ge {t : Tb} : ∀ n c, c < n → tSw t c ≤ sm t n
  | 0, c, h => absurd h (Nat.not_lt_zero c)
  | n + 1, c, h => by
    show tSw t c ≤ sm t n + tSw t n
    by_cases hc : c = n
    · rw [hc]; omega
    · have := sm_ge (t := t) n c (by omega)
      omega
theorem sI_nn {f : Nat → Int} : ∀ n, (∀ c, 0 ≤ f c) → 0 ≤ sI f n
  | 0, _ => Int.le_refl 0
  | n + 1, h => by
    have a := sI_nn n h
    have b := h n
    rw [sI]; omega
theorem sI_ge {f : Nat → Int} (h : ∀ c, 0 ≤ f c) : ∀ n c, c < n → f c ≤ sI f n
  | 0, c, hc => absurd hc (Nat.not_lt_zero c)
  | n + 1, c, hc => by
    have a := sI_nn n h
    have b := h n
    rw [sI]
    by_cases q : c = n
    · rw [q]; omega
    · have := sI_ge h n c (by omega)
      omega
/-- one heap mended: what comes, what goes -/
theorem mdT_c {t : Tb} {c n : Nat} (hc : c < n) (h9 : tSw t c ≤ 998) : ∃ g h : Nat, tGv (mdT t c) = tGv t + nI g ∧ tTh (mdT t c) = tTh t + nI h ∧ sm (mdT t c) n + h = sm t n + g ∧ g ≤ 1 ∧ (tOdd t ≠ 0 → g = 0) ∧ (tOdd t ≠ 1 → h = 0) := by
  have no : mdT t c = t → ∃ g h : Nat, tGv (mdT t c) = tGv t + nI g ∧ tTh (mdT t c) = tTh t + nI h ∧ sm (mdT t c) n + h = sm t n + g ∧ g ≤ 1 ∧ (tOdd t ≠ 0 → g = 0) ∧ (tOdd t ≠ 1 → h = 0) := fun e => ⟨0, 0, by rw [e, i_z0], by rw [e, i_z0], by rw [e], by omega, fun _ => rfl, fun _ => rfl⟩
  by_cases o : tSw t c % 2 = 1
  · by_cases o0 : tOdd t = 0
    · by_cases o1 : 0 < tBag t
      · have e : mdT t c = (tN t, tKd t, updN (tSw t) c (min (tSw t c + 1) 999), tOdd t, tStep t, tBag t - 1, tSt t, tGv t + 1, tTh t) := by
          unfold mdT
          rw [if_pos o, if_pos o0, if_pos o1]
        have q := sI_upd (tSw t) c (min (tSw t c + 1) 999) n
        rw [if_pos hc] at q
        have q1 := sI_sm t n
        have q2 : (sm (mdT t c) n : Int) = sI (fun j => (updN (tSw t) c (min (tSw t c + 1) 999) j : Int)) n := by
          rw [e]
          exact sI_sm _ n
        refine ⟨1, 0, by rw [e]; rfl, by rw [e, i_z0], by omega, Nat.le_refl _, fun z => absurd o0 z, fun _ => rfl⟩
      · exact no (by unfold mdT; rw [if_pos o, if_pos o0, if_neg o1])
    · by_cases o1 : tOdd t = 1
      · have e : mdT t c = (tN t, tKd t, updN (tSw t) c (tSw t c - 1), tOdd t, tStep t, tBag t, tSt t, tGv t, tTh t + 1) := by
          unfold mdT
          rw [if_pos o, if_neg o0, if_pos o1]
        have q := sI_upd (tSw t) c (tSw t c - 1) n
        rw [if_pos hc] at q
        have q1 := sI_sm t n
        have q2 : (sm (mdT t c) n : Int) = sI (fun j => (updN (tSw t) c (tSw t c - 1) j : Int)) n := by
          rw [e]
          exact sI_sm _ n
        refine ⟨0, 1, by rw [e, i_z0], by rw [e]; rfl, by omega, Nat.zero_le _, fun _ => rfl, fun z => absurd o1 z⟩
      · exact no (by unfold mdT; rw [if_pos o, if_neg o0, if_neg o1])
  · exact no (by unfold mdT; rw [if_neg o])
theorem mds_c {t : Tb} : ∀ c, c ≤ tN t → sm t (tN t) + c ≤ 999 → ∃ g h : Nat, tGv (mds t c) = tGv t + nI g ∧ tTh (mds t c) = tTh t + nI h ∧ sm (mds t c) (tN t) + h = sm t (tN t) + g ∧ g ≤ c ∧ (tOdd t ≠ 0 → g = 0) ∧ (tOdd t ≠ 1 → h = 0)
  | 0, _, _ => ⟨0, 0, by rw [i_z0]; rfl, by rw [i_z0]; rfl, rfl, Nat.le_refl _, fun _ => rfl, fun _ => rfl⟩
  | c + 1, hc, hs => by
    obtain ⟨g, h, a1, a2, a3, a4, a5, a6⟩ := mds_c (t := t) c (by omega) (by omega)
    have hO := (mds_same t c).2.2.1
    have hle := sm_ge (t := mds t c) (tN t) c (by omega)
    obtain ⟨g', h', b1, b2, b3, b4, b5, b6⟩ := mdT_c (t := mds t c) (c := c) (n := tN t) (by omega) (by omega)
    rw [hO] at b5 b6
    refine ⟨g + g', h + h', ?_, ?_, ?_, by omega, fun z => by rw [a5 z, b5 z], fun z => by rw [a6 z, b6 z]⟩
    · show tGv (mdT (mds t c) c) = _
      rw [b1, a1, Int32.add_assoc, nI_add]
    · show tTh (mdT (mds t c) c) = _
      rw [b2, a2, Int32.add_assoc, nI_add]
    · show sm (mdT (mds t c) c) (tN t) + _ = _
      omega
theorem stk_c {t : Tb} (hok : okT t) (h0 : 0 < tN t) (hs : sm t (tN t) + 8 ≤ 999) : ∃ g h : Nat, tGv (stk t) = tGv t + nI g ∧ tTh (stk t) = tTh t + nI h ∧ sm (stk t) (tN t) + h = sm t (tN t) + g ∧ g ≤ 8 ∧ (tOdd t ≠ 0 → g = 0) ∧ (tOdd t ≠ 1 → h = 0) := by
  have h8 := hok.1
  have q1 := hp_sum h0 (tN t) (Nat.le_refl _)
  have q2 := sI_sm t (tN t)
  have q3 : sI (fun j => (tSw (setSw t (cp t)) j : Int)) (tN t) = sI (hp t (tN t)) (tN t) := sI_congr _ fun c hc => by
    have r1 := hp_nn (t := t) (tN t) c
    have r2 := sI_ge (f := hp t (tN t)) (fun c => hp_nn (tN t) c) (tN t) c hc
    show ((min (hp t (tN t) c).toNat 999 : Nat) : Int) = hp t (tN t) c
    omega
  have q4 := sI_sm (setSw t (cp t)) (tN t)
  have q5 : sm (setSw t (cp t)) (tN t) = sm t (tN t) := by omega
  obtain ⟨g, h, a1, a2, a3, a4, a5, a6⟩ := mds_c (t := setSw t (cp t)) (tN t) (Nat.le_refl _) (by
    show sm (setSw t (cp t)) (tN t) + tN t ≤ 999
    omega)
  have a3 : sm (mds (setSw t (cp t)) (tN t)) (tN t) + h = sm (setSw t (cp t)) (tN t) + g := a3
  refine ⟨g, h, a1, a2, ?_, by omega, a5, a6⟩
  rw [q5] at a3
  have e : sm (stk t) (tN t) = sm (mds (setSw t (cp t)) (tN t)) (tN t) := sm_congr _ fun c _ => rfl
  rw [e]
  exact a3
theorem sq_c {t : Tb} (hok : okT t) (h0 : 0 < tN t) : ∀ k, sm t (tN t) + 8 * k ≤ 999 → ∃ g h : Nat, tGv (sq t k) = tGv t + nI g ∧ tTh (sq t k) = tTh t + nI h ∧ sm (sq t k) (tN t) + h = sm t (tN t) + g ∧ g ≤ 8 * k ∧ (tOdd t ≠ 0 → g = 0) ∧ (tOdd t ≠ 1 → h = 0)
  | 0, _ => ⟨0, 0, by rw [i_z0]; rfl, by rw [i_z0]; rfl, rfl, Nat.le_refl _, fun _ => rfl, fun _ => rfl⟩
  | k + 1, hs => by
    obtain ⟨g, h, a1, a2, a3, a4, a5, a6⟩ := sq_c hok h0 k (by omega)
    have hN := (sq_same t k).1
    have hO := (sq_same t k).2.2.1
    obtain ⟨g', h', b1, b2, b3, b4, b5, b6⟩ := stk_c (sq_ok hok k) (by rw [hN]; exact h0) (by rw [hN]; omega)
    rw [hN] at b3
    rw [hO] at b5 b6
    refine ⟨g + g', h + h', ?_, ?_, ?_, by omega, fun z => by rw [a5 z, b5 z], fun z => by rw [a6 z, b6 z]⟩
    · show tGv (stk (sq t k)) = _
      rw [b1, a1, Int32.add_assoc, nI_add]
    · show tTh (stk (sq t k)) = _
      rw [b2, a2, Int32.add_assoc, nI_add]
    · show sm (stk (sq t k)) (tN t) + _ = _
      omega
theorem stk_st (t : Tb) : tSt (stk t) = tSt t + 1 := congrArg (· + 1) (mds_same (setSw t (cp t)) (tN t)).2.2.2.2
theorem sq_st (t : Tb) : ∀ k, tSt (sq t k) = tSt t + nI k
  | 0 => (i_z0 _).symm
  | k + 1 => by
    show tSt (stk (sq t k)) = _
    rw [stk_st, sq_st t k, Int32.add_assoc, nI_1]
/-- where odd heaps are thrown, none is left -/
theorem stk_ev {t : Tb} (h1 : tOdd t = 1) {c : Nat} (hc : c < tN t) : tSw (stk t) c % 2 = 0 := by
  have e : tSw (stk t) c = tSw (mdT (mds (setSw t (cp t)) c) c) c := by
    have := mds_hi (setSw t (cp t)) c (tN t - (c + 1))
    rw [show c + 1 + (tN t - (c + 1)) = tN t by omega] at this
    exact this
  have hO : tOdd (mds (setSw t (cp t)) c) = 1 := (mds_same (setSw t (cp t)) c).2.2.1.trans h1
  rw [e]
  generalize mds (setSw t (cp t)) c = u at hO
  unfold mdT
  by_cases o : tSw u c % 2 = 1
  · rw [if_pos o, if_neg (by rw [hO]; decide), if_pos hO]
    show updN (tSw u) c (tSw u c - 1) c % 2 = 0
    unfold updN
    rw [if_pos rfl]
    omega
  · rw [if_neg o]
    omega
theorem od_0 {t : Tb} : ∀ n, (∀ c, c < n → tSw t c % 2 = 0) → od t n = 0
  | 0, _ => rfl
  | n + 1, h => by
    show od t n + tSw t n % 2 = 0
    rw [od_0 n (fun c hc => h c (by omega)), h n (by omega)]
def sN (f : Nat → Nat) : Nat → Nat
  | 0 => 0
  | n + 1 => sN f n + f n
theorem sN_add (f g : Nat → Nat) : ∀ n, sN (fun c => f c + g c) n = sN f n + sN g n
  | 0 => rfl
  | n + 1 => by rw [sN, sN, sN, sN_add f g n]; omega
theorem sN_sm (t : Tb) : ∀ n, sN (tSw t) n = sm t n
  | 0 => rfl
  | n + 1 => by rw [sN, sm, sN_sm t n]
set_option maxHeartbeats 4000000 in
theorem sN_perm (f : Nat → Nat) {N s : Nat} (h1 : 1 ≤ N) (h8 : N ≤ 8) (s1 : 1 ≤ s) (s3 : s ≤ 3) : sN (fun c => f ((c + 3 * N - s) % N)) N = sN f N := by
  rcases (show s = 1 ∨ s = 2 ∨ s = 3 by omega) with rfl | rfl | rfl <;> rcases (show N = 1 ∨ N = 2 ∨ N = 3 ∨ N = 4 ∨ N = 5 ∨ N = 6 ∨ N = 7 ∨ N = 8 by omega) with rfl | rfl | rfl | rfl | rfl | rfl | rfl | rfl
  all_goals
    simp [sN]
    try omega
theorem cr_sum {t : Tb} (hok : okT t) (h0 : 0 < tN t) : ∀ k, sN (cr t k) (tN t) = 2 ^ k * sm t (tN t)
  | 0 => by
    show sN (tSw t) (tN t) = _
    rw [sN_sm, Nat.pow_zero, Nat.one_mul]
  | k + 1 => by
    have e : sN (cr t (k + 1)) (tN t) = sN (fun c => cr t k c + cr t k (rt t c)) (tN t) := rfl
    have p : sN (fun c => cr t k (rt t c)) (tN t) = sN (cr t k) (tN t) := sN_perm (cr t k) h0 hok.1 hok.2.2.2.1 hok.2.2.2.2.1
    rw [e, sN_add, p, cr_sum hok h0 k, Nat.pow_succ, Nat.mul_assoc, Nat.mul_comm 2, ← Nat.mul_assoc]
    omega
theorem p7 : ∀ h, h < 8 → 128 % 2 ^ (7 - h) = 0 ∧ 128 / 2 ^ (7 - h) = 2 ^ h ∧ 0 < 2 ^ (7 - h) ∧ 2 ^ (7 - h) ≤ 128 := by decide
theorem cr_hv (t : Tb) (c : Nat) : cr t 7 c / 2 ^ hv7 t c * 2 ^ hv7 t c = cr t 7 c := by
  refine Nat.div_mul_cancel ?_
  rw [← gcd_hv0]
  exact Nat.gcd_dvd_left _ _
