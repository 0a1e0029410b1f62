/-! Pure: BEFORE: how sweets are kept; digits. -/
def sI (f : Nat → Int) : Nat → Int
  | 0 => 0
  | i + 1 => sI f i + f i
theorem sI_congr {f g : Nat → Int} : ∀ n, (∀ c, c < n → f c = g c) → sI f n = sI g n
  | 0, _ => rfl
  | n + 1, h => by rw [sI, sI, sI_congr n (fun c hc => h c (by omega)), h n (by omega)]
theorem sI_add (f g : Nat → Int) : ∀ n, sI (fun c => f c + g c) n = sI f n + sI g n
  | 0 => rfl
  | n + 1 => by rw [sI, sI, sI, sI_add f g n]; omega
theorem sI_one (x : Nat) (v : Int) : ∀ n, sI (fun c => if c = x then v else 0) n = if x < n then v else 0
  | 0 => rfl
  | n + 1 => by
    rw [sI, sI_one x v n]
    by_cases h : n = x
    · rw [if_pos h, if_neg (by omega), if_pos (by omega)]; omega
    · rw [if_neg h]
      by_cases h2 : x < n
      · rw [if_pos h2, if_pos (by omega)]; omega
      · rw [if_neg h2, if_neg (by omega)]; omega
theorem sI_sm (t : Tb) : ∀ n, (sm t n : Int) = sI (fun c => (tSw t c : Int)) n
  | 0 => rfl
  | n + 1 => by rw [sm, sI, ← sI_sm t n]; omega
theorem hp_sum {t : Tb} (h0 : 0 < tN t) : ∀ i, i ≤ tN t → sI (hp t i) (tN t) = sI (fun c => (tSw t c : Int)) (tN t)
  | 0, _ => rfl
  | i + 1, hi => by
    have hl := lf_lt (t := t) (c := i) h0
    have hr := rt_lt (t := t) (c := i) h0
    have e : hp t (i + 1) = fun c => (((hp t i c + (if c = i then -(out t i : Int) else 0)) + (if c = lf t i then (gf t i : Int) else 0)) + (if c = rt t i then (if tKd t i = 1 then (gf t i : Int) else 0) else 0)) := by
      funext c
      simp only [hp]
      by_cases a1 : c = i <;> by_cases a2 : c = lf t i <;> by_cases a3 : tKd t i = 1 <;> by_cases a4 : c = rt t i <;> simp only [a1, a2, a3, a4, if_true, if_false, and_true, true_and, and_false, false_and] <;> omega
    rw [e, sI_add, sI_add, sI_add, sI_one, sI_one, sI_one, hp_sum h0 i (by omega), if_pos (show i < tN t by omega), if_pos hl, if_pos hr]
    unfold out
    by_cases a3 : tKd t i = 1
    · rw [if_pos a3, if_pos a3]; omega
    · rw [if_neg a3, if_neg a3]; omega
theorem hp_9 {t : Tb} (h9 : ∀ c, c < tN t → tSw t c ≤ 9) : ∀ (i c : Nat), i ≤ tN t → c < tN t → hp t i c ≤ 9 + 18 * i
  | 0, c, _, hc => by have := h9 c hc; show (tSw t c : Int) ≤ _; omega
  | i + 1, c, hi, hc => by
    have h := hp_9 h9 i c (by omega) hc
    have hg := gf_le (t := t) i
    have h9 := h9 i (by omega)
    simp only [hp]
    repeat' split
    all_goals omega
theorem sI_upd (f : Nat → Nat) (k v : Nat) : ∀ n, sI (fun c => (updN f k v c : Int)) n = sI (fun c => (f c : Int)) n + (if k < n then (v : Int) - f k else 0)
  | 0 => rfl
  | n + 1 => by
    rw [sI, sI, sI_upd f k v n]
    unfold updN
    by_cases h : n = k
    · rw [if_pos h, if_neg (by omega), if_pos (by omega), h]; omega
    · rw [if_neg h]
      by_cases h2 : k < n
      · rw [if_pos h2, if_pos (by omega)]; omega
      · rw [if_neg h2, if_neg (by omega)]; omega
theorem mdT_sum {t : Tb} {c : Nat} (h : tSw t c ≤ 999) (n : Nat) : sI (fun j => (tSw (mdT t c) j : Int)) n ≤ sI (fun j => (tSw t j : Int)) n + 1 ∧ sI (fun j => (tSw t j : Int)) n ≤ sI (fun j => (tSw (mdT t c) j : Int)) n + 1 := by
  unfold mdT
  by_cases o : tSw t c % 2 = 1
  · rw [if_pos o]
    by_cases o0 : tOdd t = 0
    · rw [if_pos o0]
      by_cases o1 : 0 < tBag t
      · rw [if_pos o1]
        have e := sI_upd (tSw t) c (min (tSw t c + 1) 999) n
        have e : sI (fun j => (tSw (tN t, tKd t, updN (tSw t) c (min (tSw t c + 1) 999), tOdd t, tStep t, tBag t - 1, tSt t, tGv t + 1, tTh t) j : Int)) n = _ := e
        rw [e]
        split <;> omega
      · rw [if_neg o1]; omega
    · rw [if_neg o0]
      by_cases o1 : tOdd t = 1
      · rw [if_pos o1]
        have e := sI_upd (tSw t) c (tSw t c - 1) n
        have e : sI (fun j => (tSw (tN t, tKd t, updN (tSw t) c (tSw t c - 1), tOdd t, tStep t, tBag t, tSt t, tGv t, tTh t + 1) j : Int)) n = _ := e
        rw [e]
        split <;> omega
      · rw [if_neg o1]; omega
  · rw [if_neg o]; omega
theorem mds_sum {t : Tb} (hok : okT t) (n : Nat) : ∀ c, c ≤ tN t → sI (fun j => (tSw (mds t c) j : Int)) n ≤ sI (fun j => (tSw t j : Int)) n + c ∧ sI (fun j => (tSw t j : Int)) n ≤ sI (fun j => (tSw (mds t c) j : Int)) n + c
  | 0, _ => ⟨by show _ ≤ _ + (0 : Int); rw [Int.add_zero]; exact Int.le_refl _, by show _ ≤ _ + (0 : Int); rw [Int.add_zero]; exact Int.le_refl _⟩
  | c + 1, hc => by
    have h := mds_sum hok n c (by omega)
    have ok := mds_ok hok c (by omega)
    have h2 := mdT_sum (t := mds t c) (c := c) (ok.2.1 c (by rw [(mds_same t c).1]; omega)).2 n
    rw [show mds t (c + 1) = mdT (mds t c) c from rfl]
    omega
/-- what a stroke keeps, where no one comes near 999 -/
theorem stk_sum {t : Tb} (hok : okT t) (h0 : 0 < tN t) (h9 : ∀ c, c < tN t → tSw t c ≤ 9) : sm (stk t) (tN t) ≤ sm t (tN t) + tN t ∧ sm t (tN t) ≤ sm (stk t) (tN t) + tN t := by
  have h8 := hok.1
  have a := mds_sum (cp_ok hok) (tN t) (tN t) (Nat.le_refl _)
  have e1 : sI (fun j => (tSw (setSw t (cp t)) j : Int)) (tN t) = sI (hp t (tN t)) (tN t) := sI_congr _ fun c hc => by
    have q1 := hp_9 h9 (tN t) c (Nat.le_refl _) hc
    have q2 := hp_nn (t := t) (tN t) c
    show ((min (hp t (tN t) c).toNat 999 : Nat) : Int) = hp t (tN t) c
    omega
  rw [e1, hp_sum h0 _ (Nat.le_refl _)] at a
  have e2 : sI (fun j => (tSw (mds (setSw t (cp t)) (tN t)) j : Int)) (tN t) = sm (stk t) (tN t) := (sI_sm (stk t) (tN t)).symm
  rw [e2, ← sI_sm] at a
  omega
theorem sm_congr {t u : Tb} : ∀ n, (∀ c, c < n → tSw t c = tSw u c) → sm t n = sm u n
  | 0, _ => rfl
  | n + 1, h => by rw [sm, sm, sm_congr n (fun c hc => h c (by omega)), h n (by omega)]
/-- a number, divided so often -/
def xd (B x : Nat) : Nat → Nat
  | 0 => x
  | j + 1 => xd B x j / B
def dg (N B x c : Nat) : Nat := xd B x (N - 1 - c) % B
theorem xd_eq {B x y j : Nat} (h : xd B x j = xd B y j) : ∀ i, xd B x (j + i) = xd B y (j + i)
  | 0 => h
  | i + 1 => by show xd B x (j + i) / B = xd B y (j + i) / B; rw [xd_eq h i]
theorem xd_0 (B : Nat) : ∀ j, xd B 0 j = 0
  | 0 => rfl
  | j + 1 => by show xd B 0 j / B = 0; rw [xd_0 B j, Nat.zero_div]
theorem dg_lt {N B x c : Nat} (h : 0 < B) : dg N B x c < B := Nat.mod_lt _ h
theorem xd_cut {B x N c : Nat} (h : c < N) : xd B x (N - 1 - c) % B = dg N B x c := rfl
theorem adv_L {N k x : Nat} (hN : N ≤ 5) (hk : k ≤ 9) : ∀ (d j fuel : Nat) (W : Nat → Int32), j + d = N → d < fuel → xd (k + 1) (x + 1) j = xd (k + 1) x j + 1 → (∀ c, c < N → W c = if N - 1 - c < j then nI (dg N (k + 1) (x + 1) c) else nI (dg N (k + 1) x c)) → ∃ W', f_Past_advance_L4 (nI k) fuel W (nI d - 1) = some W' ∧ ∀ c, c < N → W' c = nI (dg N (k + 1) (x + 1) c) := by
  intro d
  induction d with
  | zero =>
    intro j fuel W hj hf hx hW
    obtain ⟨f, rfl, -⟩ := f_suc hf
    refine ⟨W, by rw [f_Past_advance_L4, if_pos (by decide)], fun c hc => ?_⟩
    rw [hW c hc, if_pos (by omega)]
  | succ d ih =>
    intro j fuel W hj hf hx hW
    obtain ⟨f, rfl, hf'⟩ := f_suc hf
    have hd5 : d < 5 := by omega
    have e1 : nI (d + 1) - 1 = nI d := pk_sub (a := d + 1) (b := 1) (by omega)
    have hpos : N - 1 - d = j := by omega
    have hWd : W d = nI (xd (k + 1) x j % (k + 1)) := by
      rw [hW d (by omega), if_neg (by omega)]
      unfold dg
      rw [hpos]
    have hlt : xd (k + 1) x j % (k + 1) < k + 1 := Nat.mod_lt _ (by omega)
    have hkc : (nI d).toNatClampNeg = d := nI_clamp (by omega)
    rw [f_Past_advance_L4, e1, if_neg (nI_pos (by omega)), if_neg (ix_b hd5 (by omega)), hkc, hWd]
    by_cases h : k ≤ xd (k + 1) x j % (k + 1)
    · obtain ⟨m1, m2⟩ := dm2 (i := xd (k + 1) x j) (N := k + 1) (by omega) (by omega)
      rw [if_pos (nI_le h (by omega))]
      have e2 : nI d + (-1) = nI d - 1 := by grind
      rw [e2]
      refine ih (j + 1) f _ (by omega) hf' ?_ fun c hc => ?_
      · show xd (k + 1) (x + 1) j / (k + 1) = xd (k + 1) x j / (k + 1) + 1
        rw [hx, m2]
      · unfold upd
        by_cases q : c = d
        · rw [if_pos q, q, if_pos (by omega)]
          unfold dg
          rw [hpos, hx, m1, nI_0]
        · rw [if_neg q, hW c hc]
          by_cases q2 : N - 1 - c < j
          · rw [if_pos q2, if_pos (by omega)]
          · rw [if_neg q2, if_neg (by omega)]
    · obtain ⟨m1, m2⟩ := dm1 (i := xd (k + 1) x j) (N := k + 1) (by omega)
      rw [if_neg (fun q => h ((nI_leI (by omega) (by omega)).mp q)), nI_1]
      refine ⟨_, rfl, fun c hc => ?_⟩
      unfold upd
      by_cases q : c = d
      · rw [if_pos q, q]
        unfold dg
        rw [hpos, hx, m1]
      · rw [if_neg q, hW c hc]
        by_cases q2 : N - 1 - c < j
        · rw [if_pos q2]
        · rw [if_neg q2]
          unfold dg
          have e3 : xd (k + 1) (x + 1) (j + 1) = xd (k + 1) x (j + 1) := by
            show xd (k + 1) (x + 1) j / (k + 1) = xd (k + 1) x j / (k + 1)
            rw [hx, m2]
          have e4 := xd_eq e3 (N - 1 - c - (j + 1))
          rw [show j + 1 + (N - 1 - c - (j + 1)) = N - 1 - c by omega] at e4
          rw [e4]
theorem p_adv_told {N k x : Nat} (hN : N ≤ 5) (hk : k ≤ 9) {W : Nat → Int32} (hW : ∀ c, c < N → W c = nI (dg N (k + 1) x c)) : ∃ W', f_Past_advance W (nI N) (nI k) = some W' ∧ ∀ c, c < N → W' c = nI (dg N (k + 1) (x + 1) c) :=
  adv_L hN hk N 0 FU W (Nat.zero_add _) (by unfold FU; omega) rfl (fun c hc => by rw [if_neg (Nat.not_lt_zero _)]; exact hW c hc)
/-- a table that can have been before -/
def pt (t : Tb) (B x : Nat) : Tb := setSw t (dg (tN t) B x)
def ld (t : Tb) (B x : Nat) : Prop := ∀ c, c < tN t → tSw (stk (pt t B x)) c = tSw t c
theorem pt_ok {t : Tb} (hok : okT t) {k : Nat} (hk : k ≤ 9) (x : Nat) : okT (pt t (k + 1) x) := ok_sw hok fun j _ => by
  have := dg_lt (N := tN t) (B := k + 1) (x := x) (c := j) (by omega)
  omega
theorem ld_sum {t : Tb} (hok : okT t) (h0 : 0 < tN t) {k : Nat} (hk : k ≤ 9) {x : Nat} (h : ld t (k + 1) x) : sm t (tN t) ≤ sm (pt t (k + 1) x) (tN t) + tN t ∧ sm (pt t (k + 1) x) (tN t) ≤ sm t (tN t) + tN t := by
  have a := stk_sum (pt_ok hok hk x) h0 (fun c _ => by
    have := dg_lt (N := tN t) (B := k + 1) (x := x) (c := c) (by omega)
    show dg (tN t) (k + 1) x c ≤ 9
    omega)
  have e : sm (stk (pt t (k + 1) x)) (tN t) = sm t (tN t) := sm_congr _ h
  have a : sm (stk (pt t (k + 1) x)) (tN t) ≤ sm (pt t (k + 1) x) (tN t) + tN t ∧ sm (pt t (k + 1) x) (tN t) ≤ sm (stk (pt t (k + 1) x)) (tN t) + tN t := a
  omega
theorem i_s3 (x y z : Int32) : (x - y) - z = x - (y + z) := by grind
theorem may_L {t u : Tb} {W : Nat → Int32} (hok : okT t) (hu : okT u) (hN5 : tN t ≤ 5) (hN : tN u = tN t) (hW : ∀ c, c < tN t → W c = nI (tSw u c)) : ∀ (d i fuel : Nat), i + d = tN t → d < fuel → ∃ q, f_Past_mayLeadTo_L5 W (nI (tN t)) fuel (nI (sm t (tN t)) - nI (sm u i)) (nI i) = some q ∧ (q = 1 ∨ (q = 0 ∧ ¬ (sm t (tN t) ≤ sm u (tN t) + tN t ∧ sm u (tN t) ≤ sm t (tN t) + tN t))) := by
  have hs := sm_le hok (tN t) (Nat.le_refl _)
  have hs2 := sm_le hu (tN t) (by omega)
  intro d
  induction d with
  | zero =>
    intro i fuel hi hf
    obtain ⟨f, rfl, -⟩ := f_suc hf
    obtain rfl : i = tN t := by omega
    have ti := pk_sub_toInt (a := sm t (tN t)) (b := sm u (tN t)) (by omega) (by omega)
    have tn : (nI (tN t)).toInt = tN t := nI_toInt (by omega)
    have tm : (-(nI (tN t))).toInt = -(tN t : Int) := by
      have e : -(nI (tN t)) = nI 0 - nI (tN t) := by rw [nI_0]; grind
      rw [e, pk_sub_toInt (by omega) (by omega)]
      omega
    rw [f_Past_mayLeadTo_L5, if_pos (nI_le (Nat.le_refl _) (by omega))]
    by_cases h1 : nI (tN t) < nI (sm t (tN t)) - nI (sm u (tN t))
    · rw [if_pos h1]
      rw [Int32.lt_iff_toInt_lt, ti, tn] at h1
      exact ⟨0, rfl, Or.inr ⟨rfl, by omega⟩⟩
    · rw [if_neg h1]
      by_cases h2 : nI (sm t (tN t)) - nI (sm u (tN t)) < -(nI (tN t))
      · rw [if_pos h2]
        rw [Int32.lt_iff_toInt_lt, ti, tm] at h2
        exact ⟨0, rfl, Or.inr ⟨rfl, by omega⟩⟩
      · rw [if_neg h2]
        exact ⟨1, rfl, Or.inl rfl⟩
  | succ d ih =>
    intro i fuel hi hf
    obtain ⟨f, rfl, hf'⟩ := f_suc hf
    have e : nI (sm t (tN t)) - nI (sm u i) - nI (tSw u i) = nI (sm t (tN t)) - nI (sm u (i + 1)) := by rw [i_s3, nI_add]; rfl
    rw [f_Past_mayLeadTo_L5, if_neg (nI_ge (show i < tN t by omega) (by omega)), if_neg (ix_b (show i < 5 by omega) (by omega)), nI_clamp (show i < 2 ^ 31 by omega), hW i (by omega), e, nI_1]
    exact ih (i + 1) f (by omega) hf'
theorem p_may {t u : Tb} {W : Nat → Int32} (hok : okT t) (hu : okT u) (hN5 : tN t ≤ 5) (hN : tN u = tN t) (hW : ∀ c, c < tN t → W c = nI (tSw u c)) : ∃ q, f_Past_mayLeadTo W (nI (sm t (tN t))) (nI (tN t)) = some q ∧ (q = 1 ∨ (q = 0 ∧ ¬ (sm t (tN t) ≤ sm u (tN t) + tN t ∧ sm u (tN t) ≤ sm t (tN t) + tN t))) := by
  have h := may_L hok hu hN5 hN hW (tN t) 0 FU (Nat.zero_add _) (by unfold FU; omega)
  have e : nI (sm t (tN t)) - nI (sm u 0) = nI (sm t (tN t)) := by
    show nI (sm t (tN t)) - nI 0 = _
    rw [nI_0]
    grind
  rw [e] at h
  exact h
