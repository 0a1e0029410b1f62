/-! Pure: BEFORE: how sweets are kept; digits. -/
def sI (f : Nat → Int) : Nat → Int
  | 0 => 0
  | i + 1 => sI f i + f i
theorem sI_congr {f g : Nat → Int} : ∀ n, (∀ c, c < n → f c = g c) → sI f n = sI g n
  | 0, _ => rfl
  | n + 1, h => by rw [sI, sI, sI_congr n (fun c hc => h c (by omega)), h n (by omega)]
theorem sI_add (f g : Nat → Int) : ∀ n, sI (fun c => f c + g c) n = sI f n + sI g n
  | 0 => rfl
  | n + 1 => by rw [sI, sI, sI, sI_add f g n]; omega
theorem sI_one (x : Nat) (v : Int) : ∀ n, sI (fun c => if c = x then v else 0) n = if x < n then v else 0
  | 0 => rfl
  | n + 1 => by
    rw [sI, sI_one x v n]
    by_cases h : n = x
    · rw [if_pos h, if_neg (by omega), if_pos (by omega)]; omega
    · rw [if_neg h]
      by_cases h2 : x < n
      · rw [if_pos h2, if_pos (by omega)]; omega
      · rw [if_neg h2, if_neg (by omega)]; omega
theorem sI_sm (t : Tb) : ∀ n, (sm t n : Int) = sI (fun c => (tSw t c : Int)) n
  | 0 => rfl
  | n + 1 => by rw [sm, sI, ← sI_sm t n]; omega
theorem hp_sum {t : Tb} (h0 : 0 < tN t) : ∀ i, i ≤ tN t → sI (hp t i) (tN t) = sI (fun c => (tSw t c : Int)) (tN t)
  | 0, _ => rfl
  | i + 1, hi => by
    have hl := lf_lt (t := t) (c := i) h0
    have hr := rt_lt (t := t) (c := i) h0
    have e : hp t (i + 1) = fun c => (((hp t i c + (if c = i then -(out t i : Int) else 0)) + (if c = lf t i then (gf t i : Int) else 0)) + (if c = rt t i then (if tKd t i = 1 then (gf t i : Int) else 0) else 0)) := by
      funext c
      simp only [hp]
      by_cases a1 : c = i <;> by_cases a2 : c = lf t i <;> by_cases a3 : tKd t i = 1 <;> by_cases a4 : c = rt t i <;> simp only [a1, a2, a3, a4, if_true, if_false, and_true, true_and, and_false, false_and] <;> omega
    rw [e, sI_add, sI_add, sI_add, sI_one, sI_one, sI_one, hp_sum h0 i (by omega), if_pos (show i < tN t by omega), if_pos hl, if_pos hr]
    unfold out
    by_cases a3 : tKd t i = 1
    · rw [if_pos a3, if_pos a3]; omega
    · rw [if_neg a3, if_neg a3]; omega
theorem hp_9 {t : Tb} (h9 : ∀ c, c < tN t → tSw t c ≤ 9) : ∀ (i c : Nat), i ≤ tN t → c < tN t → hp t i c ≤ 9 + 18 * i
  | 0, c, _, hc => by have := h9 c hc; show (tSw t c : Int) ≤ _; omega
  | i + 1, c, hi, hc => by
    have h := hp_9 h9 i c (by omega) hc
    have hg := gf_le (t := t) i
    have h9 := h9 i (by omega)
    simp only [hp]
    repeat' split
    all_goals omega
theorem sI_upd (f : Nat → Nat) (k v : Nat) : ∀ n, sI (fun c => (updN f k v c : Int)) n = sI (fun c => (f c : Int)) n + (if k < n then (v : Int) - f k else 0)
  | 0 => rfl
  | n + 1 => by
    rw [sI, sI, sI_upd f k v n]
    unfold updN
    by_cases h : n = k
    · rw [if_pos h, if_neg (by omega), if_pos (by omega), h]; omega
    · rw [if_neg h]
      by_cases h2 : k < n
      · rw [if_pos h2, if_pos (by omega)]; omega
      · rw [if_neg h2, if_neg (by omega)]; omega
theorem mdT_sum {t : Tb} {c : Nat} (h : tSw t c ≤ 999) (n : Nat) : sI (fun j => (tSw (mdT t c) j : Int)) n ≤ sI (fun j => (tSw t j : Int)) n + 1 ∧ sI (fun j => (tSw t j : Int)) n ≤ sI (fun j => (tSw (mdT t c) j : Int)) n + 1 := by
  unfold mdT
  by_cases o : tSw t c % 2 = 1
  · rw [if_pos o]
    by_cases o0 : tOdd t = 0
    · rw [if_pos o0]
      by_cases o1 : 0 < tBag t
      · rw [if_pos o1]
        have e := sI_upd (tSw t) c (min (tSw t c + 1) 999) n
        have e : sI (fun j => (tSw (tN t, tKd t, updN (tSw t) c (min (tSw t c + 1) 999), tOdd t, tStep t, tBag t - 1, tSt t, tGv t + 1, tTh t) j : Int)) n = _ := e
        rw [e]
        split <;> omega
      · rw [if_neg o1]; omega
    · rw [if_neg o0]
      by_cases o1 : tOdd t = 1
      · rw [if_pos o1]
        have e := sI_upd (tSw t) c (tSw t c - 1) n
        have e : sI (fun j => (tSw (tN t, tKd t, updN (tSw t) c (tSw t c - 1), tOdd t, tStep t, tBag t, tSt t, tGv t, tTh t + 1) j : Int)) n = _ := e
        rw [e]
        split <;> omega
      · rw [if_neg o1]; omega
  · rw [if_neg o]; omega
theorem mds_sum {t : Tb} (hok : okT t) (n : Nat) : ∀ c, c ≤ tN t → sI (fun j => (tSw (mds t c) j : Int)) n ≤ sI (fun j => (tSw t j : Int)) n + c ∧ sI (fun j => (tSw t j : Int)) n ≤ sI (fun j => (tSw (mds t c) j : Int)) n + c
  | 0, _ => ⟨by show _ ≤ _ + (0 : Int); rw [Int.add_zero]; exact Int.le_refl _, by show _ ≤ _ + (0 : Int); rw [Int.add_zero]; exact Int.le_refl _⟩
  | c + 1, hc => by
    have h := mds_sum hok n c (by omega)
    have ok := mds_ok hok c (by omega)
    have h2 := mdT_sum (t := mds t c) (c := c) (ok.2.1 c (by rw [(mds_same t c).1]; omega)).2 n
    rw [show mds t (c + 1) = mdT (mds t c) c from rfl]
    omega
/-- what a stroke keeps, where no one comes near 999 -/
theorem stk_sum {t : Tb} (hok : okT t) (h0 : 0 < tN t) (h9 : ∀ c, c < tN t → tSw t c ≤ 9) : sm (stk t) (tN t) ≤ sm t (tN t) + tN t ∧ sm t (tN t) ≤ sm (stk t) (tN t) + tN t := by
  have h8 := hok.1
  have a := mds_sum (cp_ok hok) (tN t) (tN t) (Nat.le_refl _)
  have e1 : sI (fun j => (tSw (setSw t (cp t)) j : Int)) (tN t) = sI (hp t (tN t)) (tN t) := sI_congr _ fun c hc => by
    have q1 := hp_9 h9 (tN t) c (Nat.le_refl _) hc
    have q2 := hp_nn (t := t) (tN t) c
    show ((min (hp t (tN t) c).toNat 999 : Nat) : Int) = hp t (tN t) c
    omega
  rw [e1, hp_sum h0 _ (Nat.le_refl _)] at a
  have e2 : sI (fun j => (tSw (mds (setSw t (cp t)) (tN t)) j : Int)) (tN t) = sm (stk t) (tN t) := (sI_sm (stk t) (tN t)).symm
  rw [e2, ← sI_sm] at a
  omega
theorem sm_congr {t u : Tb} : ∀ n, (∀ c, c < n → tSw t c = tSw u c) → sm t n = sm u n
  | 0, _ => rfl
  | n + 1, h => by rw [sm, sm, sm_congr n (fun c hc => h c (by omega)), h n (by omega)]
/-- a number, divided so often -/
def xd (B x : Nat) : Nat → Nat
  | 0 => x
  | j + 1 => xd B x j / B
def dg (N B x c : Nat) : Nat := xd B x (N - 1 - c) % B
theorem xd_eq {B x y j : Nat} (h : xd B x j = xd B y j) : ∀ i, xd B x (j + i) = xd B y (j + i)
  | 0 => h
  | i + 1 => by show xd B x (j + i) / B = xd B y (j + i) / B; rw [xd_eq h i]
theorem xd_0 (B : Nat) : ∀ j, xd B 0 j = 0
  | 0 => rfl
  | j + 1 => by show xd B 0 j / B = 0; rw [xd_0 B j, Nat.zero_div]
theorem dg_lt {N B x c : Nat} (h : 0 < B) : dg N B x c < B := Nat.mod_lt _ h
theorem xd_cut {B x N c : Nat} (h : c < N) : xd B x (N - 1 - c) % B = dg N B x c := rfl
/-- a table that can have been before -/
def pt (t : Tb) (B x : Nat) : Tb := setSw t (dg (tN t) B x)
def ld (t : Tb) (B x : Nat) : Prop := ∀ c, c < tN t → tSw (stk (pt t B x)) c = tSw t c
theorem pt_ok {t : Tb} (hok : okT t) {k : Nat} (hk : k ≤ 9) (x : Nat) : okT (pt t (k + 1) x) := ok_sw hok fun j _ => by
  have := dg_lt (N := tN t) (B := k + 1) (x := x) (c := j) (by omega)
  omega
theorem xd_div (B x : Nat) : ∀ j, xd B x j = x / B ^ j
  | 0 => by rw [Nat.pow_zero, Nat.div_one]; rfl
  | j + 1 => by
    show xd B x j / B = _
    rw [xd_div B x j, Nat.div_div_eq_div_mul, Nat.pow_succ]
/-- the number behind, if its digits from place j on are put as told -/
theorem adv_L {t : Tb} {k x y : Nat} (hN : tN t ≤ 5) (hk : k ≤ 9) : ∀ (d j fuel : Nat) (z : RS), j + d = tN t → d < fuel → xd (k + 1) y j = xd (k + 1) x j + 1 → rX z (setSw t (fun c => if tN t - 1 - c < j then dg (tN t) (k + 1) y c else dg (tN t) (k + 1) x c)) → ∃ q z', f_Past_advance_L2 (nI k) fuel z (nI d - 1) = some (q, z') ∧ ((q = 1 ∧ xd (k + 1) y (tN t) = xd (k + 1) x (tN t) ∧ rX z' (pt t (k + 1) y)) ∨ (q = 0 ∧ xd (k + 1) y (tN t) = xd (k + 1) x (tN t) + 1)) := by
  intro d
  induction d with
  | zero =>
    intro j fuel z hj hf hx hr
    obtain ⟨f, rfl, -⟩ := f_suc hf
    obtain rfl : j = tN t := by omega
    exact ⟨0, z, by rw [f_Past_advance_L2, if_pos (by decide)], Or.inr ⟨rfl, hx⟩⟩
  | succ d ih =>
    intro j fuel z hj hf hx hr
    obtain ⟨f, rfl, hf'⟩ := f_suc hf
    have hd5 : d < 5 := by omega
    have e1 : nI (d + 1) - 1 = nI d := pk_sub (a := d + 1) (b := 1) (by omega)
    have hpos : tN t - 1 - d = j := by omega
    have hS : r_sweets z d = nI (xd (k + 1) x j % (k + 1)) := by
      refine (hr.2.1 d (show d < tN t by omega)).2.trans (congrArg nI ?_)
      show (if tN t - 1 - d < j then dg (tN t) (k + 1) y d else dg (tN t) (k + 1) x d) = _
      rw [if_neg (by omega)]
      unfold dg
      rw [hpos]
    have hlt : xd (k + 1) x j % (k + 1) < k + 1 := Nat.mod_lt _ (by omega)
    have hkc : (nI d).toNatClampNeg = d := nI_clamp (by omega)
    rw [f_Past_advance_L2, e1, if_neg (nI_pos (by omega)), if_neg (ix_b (show d < 8 by omega) (by omega)), hkc, hS]
    by_cases h : k ≤ xd (k + 1) x j % (k + 1)
    · obtain ⟨m1, m2⟩ := dm2 (i := xd (k + 1) x j) (N := k + 1) (by omega) (by omega)
      rw [if_pos (nI_le h (by omega))]
      have e2 : nI d + (-1) = nI d - 1 := by grind
      rw [e2]
      refine ih (j + 1) f _ (by omega) hf' ?_ ⟨hr.1, fun c hc => ⟨(hr.2.1 c hc).1, ?_⟩, hr.2.2⟩
      · show xd (k + 1) y j / (k + 1) = xd (k + 1) x j / (k + 1) + 1
        rw [hx, m2]
      · show upd (r_sweets z) d 0 c = nI (if tN t - 1 - c < j + 1 then dg (tN t) (k + 1) y c else dg (tN t) (k + 1) x c)
        have hc : c < tN t := hc
        unfold upd
        by_cases q : c = d
        · rw [if_pos q, q, if_pos (by omega)]
          unfold dg
          rw [hpos, hx, m1, nI_0]
        · rw [if_neg q]
          refine (hr.2.1 c hc).2.trans (congrArg nI ?_)
          show (if tN t - 1 - c < j then dg (tN t) (k + 1) y c else dg (tN t) (k + 1) x c) = _
          by_cases q2 : tN t - 1 - c < j
          · rw [if_pos q2, if_pos (by omega)]
          · rw [if_neg q2, if_neg (by omega)]
    · obtain ⟨m1, m2⟩ := dm1 (i := xd (k + 1) x j) (N := k + 1) (by omega)
      have e3 : xd (k + 1) y (j + 1) = xd (k + 1) x (j + 1) := by
        show xd (k + 1) y j / (k + 1) = xd (k + 1) x j / (k + 1)
        rw [hx, m2]
      have e4 := xd_eq e3 d
      rw [show j + 1 + d = tN t by omega] at e4
      rw [if_neg (fun q => h ((nI_leI (by omega) (by omega)).mp q)), nI_1]
      refine ⟨1, _, rfl, Or.inl ⟨rfl, e4, hr.1, fun c hc => ⟨(hr.2.1 c hc).1, ?_⟩, hr.2.2⟩⟩
      show upd (r_sweets z) d (nI (xd (k + 1) x j % (k + 1) + 1)) c = nI (dg (tN t) (k + 1) y c)
      have hc : c < tN t := hc
      unfold upd
      by_cases q : c = d
      · rw [if_pos q, q]
        unfold dg
        rw [hpos, hx, m1]
      · rw [if_neg q]
        refine (hr.2.1 c hc).2.trans (congrArg nI ?_)
        show (if tN t - 1 - c < j then dg (tN t) (k + 1) y c else dg (tN t) (k + 1) x c) = _
        by_cases q2 : tN t - 1 - c < j
        · rw [if_pos q2]
        · rw [if_neg q2]
          unfold dg
          have e5 := xd_eq e3 (tN t - 1 - c - (j + 1))
          rw [show j + 1 + (tN t - 1 - c - (j + 1)) = tN t - 1 - c by omega] at e5
          rw [e5]
/-- the next table with other sweets up to place p, where all behind it have none -/
theorem p_advP {t : Tb} {k x p : Nat} (hN : tN t ≤ 5) (hk : k ≤ 9) (hp : p < tN t) (hx : x < (k + 1) ^ tN t) (h0 : x % (k + 1) ^ (tN t - 1 - p) = 0) {z : RS} (hr : rX z (pt t (k + 1) x)) : ∃ q z', f_Past_advance z (nI p) (nI k) = some (q, z') ∧ ((q = 1 ∧ x + (k + 1) ^ (tN t - 1 - p) < (k + 1) ^ tN t ∧ rX z' (pt t (k + 1) (x + (k + 1) ^ (tN t - 1 - p)))) ∨ (q = 0 ∧ (k + 1) ^ tN t ≤ x + (k + 1) ^ (tN t - 1 - p))) := by
  obtain ⟨e, he⟩ : ∃ e, tN t - 1 - p = e := ⟨_, rfl⟩
  rw [he] at h0 ⊢
  have hS : 0 < (k + 1) ^ e := Nat.pow_pos (by omega)
  have hM : 0 < (k + 1) ^ tN t := Nat.pow_pos (by omega)
  have h1 : xd (k + 1) (x + (k + 1) ^ e) e = xd (k + 1) x e + 1 := by
    rw [xd_div, xd_div, Nat.add_div_right _ hS]
  have hlow : ∀ j, j < e → xd (k + 1) (x + (k + 1) ^ e) j % (k + 1) = 0 ∧ xd (k + 1) x j % (k + 1) = 0 := by
    intro j hj
    have es : (k + 1) ^ e = (k + 1) ^ j * ((k + 1) * (k + 1) ^ (e - j - 1)) := by
      rw [← Nat.pow_succ', ← Nat.pow_add]
      exact congrArg ((k + 1) ^ ·) (by omega)
    have hJ : 0 < (k + 1) ^ j := Nat.pow_pos (by omega)
    obtain ⟨a, ha⟩ := Nat.dvd_of_mod_eq_zero h0
    refine ⟨?_, ?_⟩
    · rw [xd_div, show x + (k + 1) ^ e = (k + 1) ^ j * ((k + 1) * ((k + 1) ^ (e - j - 1) * (a + 1))) by rw [ha, show (k + 1) ^ e * a + (k + 1) ^ e = (k + 1) ^ e * (a + 1) from (Nat.mul_succ _ _).symm, es, Nat.mul_assoc, Nat.mul_assoc], Nat.mul_div_cancel_left _ hJ, Nat.mul_mod_right]
    · rw [xd_div, show x = (k + 1) ^ j * ((k + 1) * ((k + 1) ^ (e - j - 1) * a)) by rw [ha, es, Nat.mul_assoc, Nat.mul_assoc], Nat.mul_div_cancel_left _ hJ, Nat.mul_mod_right]
  have hr1 : rX z (setSw t (fun c => if tN t - 1 - c < e then dg (tN t) (k + 1) (x + (k + 1) ^ e) c else dg (tN t) (k + 1) x c)) := ⟨hr.1, fun c hc => ⟨(hr.2.1 c hc).1, by
    refine (hr.2.1 c hc).2.trans (congrArg nI ?_)
    show dg (tN t) (k + 1) x c = (if tN t - 1 - c < e then dg (tN t) (k + 1) (x + (k + 1) ^ e) c else dg (tN t) (k + 1) x c)
    by_cases q : tN t - 1 - c < e
    · rw [if_pos q]
      unfold dg
      rw [(hlow _ q).1, (hlow _ q).2]
    · rw [if_neg q]⟩, hr.2.2⟩
  obtain ⟨q, z', e1, h2⟩ := adv_L (y := x + (k + 1) ^ e) hN hk (p + 1) e FU z (by omega) (by unfold FU; omega) h1 hr1
  have e0 : nI (p + 1) - 1 = nI p := pk_sub (a := p + 1) (b := 1) (by omega)
  rw [e0] at e1
  have hx0 : xd (k + 1) x (tN t) = 0 := by rw [xd_div, Nat.div_eq_of_lt hx]
  refine ⟨q, z', e1, ?_⟩
  rcases h2 with ⟨hq, h2, h3⟩ | ⟨hq, h2⟩
  · refine Or.inl ⟨hq, ?_, h3⟩
    rw [hx0, xd_div] at h2
    rcases (Nat.div_eq_zero_iff).mp h2 with h2 | h2
    · omega
    · exact h2
  · refine Or.inr ⟨hq, ?_⟩
    rw [hx0, xd_div] at h2
    apply Nat.le_of_not_lt
    intro hlt
    rw [Nat.div_eq_of_lt hlt] at h2
    omega
/-! what a stroke makes of a heap -/
theorem rot : ∀ N, N < 9 → ∀ s, s < 4 → ∀ c, c < N → ∀ n, n < N → (c = (n + s) % N ↔ n = (c + 3 * N - s) % N) := by decide +kernel
theorem stepI (f : Nat → Int) (p n : Nat) : (if p < n + 1 then f p else 0) = (if p < n then f p else 0) + (if n = p then f n else 0) := by
  by_cases q : n = p
  · rw [q, if_pos (by omega), if_neg (by omega), if_pos rfl, Int.zero_add]
  · rw [if_neg q, Int.add_zero]
    by_cases q2 : p < n
    · rw [if_pos q2, if_pos (by omega)]
    · rw [if_neg q2, if_neg (by omega)]
theorem if_cg {a b : Prop} [Decidable a] [Decidable b] {x y : Int} (h : a ↔ b) : (if a then x else y) = (if b then x else y) := by
  by_cases q : b
  · rw [if_pos q, if_pos (h.mpr q)]
  · rw [if_neg q, if_neg (fun r => q (h.mp r))]
theorem hp_at_L {u : Tb} (hok : okT u) {c : Nat} (hc : c < tN u) : ∀ n, n ≤ tN u → hp u n c = (tSw u c : Int) - (if c < n then (out u c : Int) else 0) + (if rt u c < n then (gf u (rt u c) : Int) else 0) + (if lf u c < n then (if tKd u (lf u c) = 1 then (gf u (lf u c) : Int) else 0) else 0)
  | 0, _ => by simp [hp]
  | n + 1, hn => by
    have h8 := hok.1
    have h3 := hok.2.2.2.2.1
    have r1 := rot (tN u) (by omega) (tStep u) (by omega) c hc n (by omega)
    have r2 := rot (tN u) (by omega) (tStep u) (by omega) n (by omega) c hc
    have r1 : c = lf u n ↔ n = rt u c := r1
    have r2 : n = lf u c ↔ c = rt u n := r2
    have t1 := stepI (fun i => (out u i : Int)) c n
    have t2 := stepI (fun i => (gf u i : Int)) (rt u c) n
    have t3 := stepI (fun i => if tKd u i = 1 then (gf u i : Int) else 0) (lf u c) n
    have g1 : (if c = n then (out u n : Int) else 0) = (if n = c then (out u n : Int) else 0) := if_cg ⟨Eq.symm, Eq.symm⟩
    have g2 : (if c = lf u n then (gf u n : Int) else 0) = (if n = rt u c then (gf u n : Int) else 0) := if_cg r1
    have g3 : (if tKd u n = 1 ∧ c = rt u n then (gf u n : Int) else 0) = (if n = lf u c then (if tKd u n = 1 then (gf u n : Int) else 0) else 0) := by
      by_cases a : n = lf u c
      · rw [if_pos a]
        exact if_cg ⟨fun q => q.1, fun q => ⟨q, r2.mp a⟩⟩
      · rw [if_neg a, if_neg (fun q => a (r2.mpr q.2))]
    show hp u n c - (if c = n then (out u n : Int) else 0) + (if c = lf u n then (gf u n : Int) else 0) + (if tKd u n = 1 ∧ c = rt u n then (gf u n : Int) else 0) = _
    rw [hp_at_L hok hc n (by omega), g1, g2, g3]
    rw [t1, t2, t3]
    omega
theorem hp_at {u : Tb} (hok : okT u) {c : Nat} (hc : c < tN u) : hp u (tN u) c = (tSw u c : Int) - out u c + gf u (rt u c) + (if tKd u (lf u c) = 1 then (gf u (lf u c) : Int) else 0) := by
  rw [hp_at_L hok hc (tN u) (Nat.le_refl _), if_pos hc, if_pos (rt_lt (by omega)), if_pos (lf_lt (by omega))]
theorem p_heap {z : RS} {u : Tb} (hr : rX z u) (hok : okT u) {c : Nat} (hc : c < tN u) : f_Ring_heapBehindGifts z (nI c) = some (nI (hp u (tN u) c).toNat) := by
  have h8 := hok.1
  have hl := lf_lt (t := u) (c := c) (by omega)
  have hrt := rt_lt (t := u) (c := c) (by omega)
  have hn := hp_nn (t := u) (tN u) c
  have k1 := (hok.2.1 c hc).1
  have k2 := (hok.2.1 _ hl).1
  have hh := hp_at hok hc
  have hcond := ix_b (show lf u c < 8 by omega) (by omega)
  have hv : nI (hp u (tN u) c).toNat = Int32.ofInt (hp u (tN u) c) := by rw [nI_iI, Int.toNat_of_nonneg hn]
  have hf : ∀ x : Int, x = (tSw u c : Int) - out u c + gf u (rt u c) + (if tKd u (lf u c) = 1 then (gf u (lf u c) : Int) else 0) → some (Int32.ofInt x) = some (nI (hp u (tN u) c).toNat) := fun x h => by rw [hv, hh, h]
  have ho1 : tKd u c = 1 → (out u c : Int) = gf u c + gf u c := fun q => by unfold out; rw [if_pos q]; omega
  have ho2 : ¬ tKd u c = 1 → (out u c : Int) = gf u c := fun q => by unfold out; rw [if_neg q]
  unfold f_Ring_heapBehindGifts
  rw [p_leftOf hr hok hc, Option.bind_some, p_gift hr hok hc, Option.bind_some, if_neg (ix_b (show c < 8 by omega) (by omega)), p_rightOf hr hok hc, Option.bind_some, p_gift hr hok hrt, Option.bind_some, ix_k (show c < 8 by omega), (hr.2.1 c hc).1, (hr.2.1 c hc).2]
  by_cases b1 : tKd u c = 1
  · have h1 := ho1 b1
    rw [if_pos (by rw [b1]; rfl), if_neg hcond, ix_k (show lf u c < 8 by omega), (hr.2.1 _ hl).1]
    by_cases b2 : tKd u (lf u c) = 1
    · rw [if_pos (by rw [b2]; rfl), p_gift hr hok hl, Option.bind_some]
      simp only [nI_iI (tSw u c), nI_iI (gf u c), nI_iI (gf u (rt u c)), nI_iI (gf u (lf u c)), ← iI_sub, ← iI_add]
      refine hf _ ?_
      rw [if_pos b2]
      omega
    · rw [if_neg (by rw [lI 1, nI_eq (by omega) (by omega)]; exact b2)]
      simp only [nI_iI (tSw u c), nI_iI (gf u c), nI_iI (gf u (rt u c)), nI_iI (gf u (lf u c)), ← iI_sub, ← iI_add]
      refine hf _ ?_
      rw [if_neg b2]
      omega
  · have h1 := ho2 b1
    rw [if_neg (by rw [lI 1, nI_eq (by omega) (by omega)]; exact b1), if_neg hcond, ix_k (show lf u c < 8 by omega), (hr.2.1 _ hl).1]
    by_cases b2 : tKd u (lf u c) = 1
    · rw [if_pos (by rw [b2]; rfl), p_gift hr hok hl, Option.bind_some]
      simp only [nI_iI (tSw u c), nI_iI (gf u c), nI_iI (gf u (rt u c)), nI_iI (gf u (lf u c)), ← iI_sub, ← iI_add]
      refine hf _ ?_
      rw [if_pos b2]
      omega
    · rw [if_neg (by rw [lI 1, nI_eq (by omega) (by omega)]; exact b2)]
      simp only [nI_iI (tSw u c), nI_iI (gf u c), nI_iI (gf u (rt u c)), nI_iI (gf u (lf u c)), ← iI_sub, ← iI_add]
      refine hf _ ?_
      rw [if_neg b2]
      omega
/-- what a heap may become by the mending -/
def mayB (h s : Nat) : Prop := h = s ∨ (h % 2 = 1 ∧ (s = h + 1 ∨ s + 1 = h))
theorem mdT_ne {v : Tb} {n c : Nat} (h : c ≠ n) : tSw (mdT v n) c = tSw v c := by
  unfold mdT
  repeat' split
  all_goals first | rfl | exact if_neg h
theorem mdT_at (v : Tb) (c : Nat) : tSw (mdT v c) c = tSw v c ∨ (tSw v c % 2 = 1 ∧ (tSw (mdT v c) c = min (tSw v c + 1) 999 ∨ tSw (mdT v c) c = tSw v c - 1)) := by
  unfold mdT
  by_cases o : tSw v c % 2 = 1
  · rw [if_pos o]
    by_cases o0 : tOdd v = 0
    · rw [if_pos o0]
      by_cases o1 : 0 < tBag v
      · rw [if_pos o1]
        exact Or.inr ⟨o, Or.inl (if_pos rfl)⟩
      · rw [if_neg o1]; exact Or.inl rfl
    · rw [if_neg o0]
      by_cases o1 : tOdd v = 1
      · rw [if_pos o1]
        exact Or.inr ⟨o, Or.inr (if_pos rfl)⟩
      · rw [if_neg o1]; exact Or.inl rfl
  · rw [if_neg o]; exact Or.inl rfl
theorem mds_lo (v : Tb) (c : Nat) : ∀ n, n ≤ c → tSw (mds v n) c = tSw v c
  | 0, _ => rfl
  | n + 1, h => (mdT_ne (v := mds v n) (n := n) (c := c) (by omega)).trans (mds_lo v c n (by omega))
theorem mds_hi (v : Tb) (c : Nat) : ∀ n, tSw (mds v (c + 1 + n)) c = tSw (mdT (mds v c) c) c
  | 0 => rfl
  | n + 1 => (mdT_ne (v := mds v (c + 1 + n)) (n := c + 1 + n) (c := c) (by omega)).trans (mds_hi v c n)
theorem stk_may {u : Tb} (h5 : tN u ≤ 5) (h9 : ∀ c, c < tN u → tSw u c ≤ 9) {c : Nat} (hc : c < tN u) : mayB (hp u (tN u) c).toNat (tSw (stk u) c) := by
  have q1 := hp_9 h9 (tN u) c (Nat.le_refl _) hc
  have q2 := hp_nn (t := u) (tN u) c
  have e1 : tSw (stk u) c = tSw (mdT (mds (setSw u (cp u)) c) c) c := by
    have h := mds_hi (setSw u (cp u)) c (tN u - c - 1)
    rw [show c + 1 + (tN u - c - 1) = tN u by omega] at h
    exact h
  have e2 : tSw (mds (setSw u (cp u)) c) c = min (hp u (tN u) c).toNat 999 := mds_lo (setSw u (cp u)) c c (Nat.le_refl _)
  have h := mdT_at (mds (setSw u (cp u)) c) c
  rw [← e1, e2] at h
  unfold mayB
  omega
theorem p_mayB {h s : Nat} (hh : h < 2 ^ 30) (hs : s < 2 ^ 30) : (f_Past_mayBecome (nI h) (nI s) = some 1 ∧ mayB h s) ∨ (f_Past_mayBecome (nI h) (nI s) = some 0 ∧ ¬ mayB h s) := by
  unfold f_Past_mayBecome mayB
  by_cases a : h = s
  · rw [if_pos (congrArg nI a)]
    exact Or.inl ⟨rfl, Or.inl a⟩
  rw [if_neg (fun q => a ((nI_eq (by omega) (by omega)).mp q)), nI_odd (by omega)]
  by_cases o : h % 2 = 1
  · rw [if_pos (by rw [o]; rfl)]
    have hj : ∃ v, jabs (nI s - nI h) = nI v ∧ v < 2 ^ 30 ∧ (v = 1 ↔ (s = h + 1 ∨ s + 1 = h)) := by
      unfold jabs
      by_cases b : h < s
      · rw [pk_sub (show h ≤ s by omega), if_pos (nI_pos' (by omega))]
        exact ⟨s - h, rfl, by omega, by omega⟩
      · have b2 : ¬ 0 ≤ nI s - nI h := by
          rw [Int32.le_iff_toInt_le, pk_sub_toInt hs hh]
          show ¬ (0 : Int) ≤ _
          omega
        have e : 0 - (nI s - nI h) = nI h - nI s := by grind
        rw [if_neg b2, e, pk_sub (show s ≤ h by omega)]
        exact ⟨h - s, rfl, by omega, by omega⟩
    obtain ⟨v, e, hv, hv1⟩ := hj
    rw [e]
    by_cases b : v = 1
    · rw [if_pos (by rw [b]; rfl)]
      exact Or.inl ⟨rfl, Or.inr ⟨o, hv1.mp b⟩⟩
    · rw [if_neg (by rw [lI 1, nI_eq (by omega) (by omega)]; exact b)]
      exact Or.inr ⟨rfl, fun q => q.elim a (fun q => b (hv1.mpr q.2))⟩
  · rw [if_neg (by rw [lI 1, nI_eq (by omega) (by omega)]; exact o)]
    exact Or.inr ⟨rfl, fun q => q.elim a (fun q => o q.1)⟩
/-- the last of those who make the heap of one -/
def la (t : Tb) (c : Nat) : Nat := if tKd t c = 2 ∨ tKd t c = 5 ∨ tKd t (lf t c) = 1 then max (max c (rt t c)) (lf t c) else max c (rt t c)
theorem la_lt {t : Tb} {c : Nat} (hc : c < tN t) : la t c < tN t := by
  have h1 := lf_lt (t := t) (c := c) (by omega)
  have h2 := rt_lt (t := t) (c := c) (by omega)
  unfold la
  split <;> omega
theorem jmax_nI {a b : Nat} (ha : a < 2 ^ 31) (hb : b < 2 ^ 31) : jmax (nI a) (nI b) = nI (max a b) := by
  unfold jmax
  by_cases h : a < b
  · rw [if_pos (nI_lt h hb), Nat.max_eq_right (by omega)]
  · rw [if_neg (nI_nlt (by omega) ha), Nat.max_eq_left (by omega)]
theorem jmin_nI {a b : Nat} (ha : a < 2 ^ 31) (hb : b < 2 ^ 31) : jmin (nI a) (nI b) = nI (min a b) := by
  unfold jmin
  by_cases h : b < a
  · rw [if_pos (nI_lt h ha), Nat.min_eq_right (by omega)]
  · rw [if_neg (nI_nlt (by omega) hb), Nat.min_eq_left (by omega)]
theorem p_last {z : RS} {t : Tb} (hr : rX z t) (hok : okT t) {c : Nat} (hc : c < tN t) : f_Past_lastOfThoseWhoMakeHeapOf z (nI c) = some (nI (la t c)) := by
  have h8 := hok.1
  have hl := lf_lt (t := t) (c := c) (by omega)
  have hrt := rt_lt (t := t) (c := c) (by omega)
  have k1 := (hok.2.1 c hc).1
  have k2 := (hok.2.1 _ hl).1
  unfold f_Past_lastOfThoseWhoMakeHeapOf la
  rw [p_leftOf hr hok hc, Option.bind_some, p_rightOf hr hok hc, Option.bind_some, if_neg (ix_b (show c < 8 by omega) (by omega)), ix_k (show c < 8 by omega), (hr.2.1 c hc).1, if_neg (ix_b (show lf t c < 8 by omega) (by omega)), ix_k (show lf t c < 8 by omega), (hr.2.1 _ hl).1, jmax_nI (by omega) (by omega), jmax_nI (by omega) (by omega)]
  by_cases b1 : tKd t c = 2
  · rw [if_pos (by rw [b1]; rfl), if_pos (Or.inl b1)]
  rw [if_neg (by rw [lI 2, nI_eq (by omega) (by omega)]; exact b1)]
  by_cases b2 : tKd t c = 5
  · rw [if_pos (by rw [b2]; rfl), if_pos (Or.inr (Or.inl b2))]
  rw [if_neg (by rw [lI 5, nI_eq (by omega) (by omega)]; exact b2)]
  by_cases b3 : tKd t (lf t c) = 1
  · rw [if_pos (by rw [b3]; rfl), if_pos (Or.inr (Or.inr b3))]
  · rw [if_neg (by rw [lI 1, nI_eq (by omega) (by omega)]; exact b3), if_neg (fun q => q.elim b1 (fun q => q.elim b2 b3))]
theorem gf_loc {u v : Tb} {c : Nat} (hl : lf u c = lf v c) (hk : tKd u c = tKd v c) (h1 : tSw u c = tSw v c) (h2 : tKd u c = 2 ∨ tKd u c = 5 → tSw u (lf u c) = tSw v (lf v c)) : gf u c = gf v c := by
  by_cases k2 : tKd u c = 2 ∨ tKd u c = 5
  · have h2 := h2 k2
    unfold gf
    rw [← hl] at h2 ⊢
    rw [← hk, ← h1, ← h2]
  · have a2 : ¬ tKd u c = 2 := fun q => k2 (Or.inl q)
    have a5 : ¬ tKd u c = 5 := fun q => k2 (Or.inr q)
    unfold gf
    rw [← hl, ← hk, ← h1]
    simp only [a2, a5, if_false]
/-- it is not to become what is told, if sweets are as these up to la -/
def wr (t : Tb) (B x c : Nat) : Prop := ¬ mayB (hp (pt t B x) (tN t) c).toNat (tSw t c)
theorem hp_loc {t : Tb} (hok : okT t) {k : Nat} (hk : k ≤ 9) {x y c : Nat} (hc : c < tN t) (h : ∀ j, j ≤ la t c → dg (tN t) (k + 1) x j = dg (tN t) (k + 1) y j) : hp (pt t (k + 1) x) (tN t) c = hp (pt t (k + 1) y) (tN t) c := by
  have h8 := hok.1
  have h3 := hok.2.2.2.2.1
  have hrt := rt_lt (t := t) (c := c) (by omega)
  have r1 : rt t c = rt t c ↔ c = lf t (rt t c) := ((rot (tN t) (by omega) (tStep t) (by omega) c hc (rt t c) hrt).symm)
  have hlr : lf t (rt t c) = c := (r1.mp rfl).symm
  have a := hp_at (pt_ok hok hk x) (c := c) hc
  have b := hp_at (pt_ok hok hk y) (c := c) hc
  have hc1 : c ≤ la t c := by unfold la; split <;> omega
  have hc2 : rt t c ≤ la t c := by unfold la; split <;> omega
  have g1 : gf (pt t (k + 1) x) c = gf (pt t (k + 1) y) c := gf_loc rfl rfl (h c hc1) fun q => h (lf t c) (by
    have q : tKd t c = 2 ∨ tKd t c = 5 := q
    unfold la
    rw [if_pos (q.elim Or.inl (fun q => Or.inr (Or.inl q)))]
    omega)
  have g2 : gf (pt t (k + 1) x) (rt t c) = gf (pt t (k + 1) y) (rt t c) := gf_loc rfl rfl (h _ hc2) fun _ => by
    show dg (tN t) (k + 1) x (lf t (rt t c)) = dg (tN t) (k + 1) y (lf t (rt t c))
    rw [hlr]
    exact h c hc1
  have g3 : (if tKd t (lf t c) = 1 then (gf (pt t (k + 1) x) (lf t c) : Int) else 0) = (if tKd t (lf t c) = 1 then (gf (pt t (k + 1) y) (lf t c) : Int) else 0) := by
    by_cases q : tKd t (lf t c) = 1
    · rw [if_pos q, if_pos q]
      refine congrArg (fun n : Nat => (n : Int)) (gf_loc rfl rfl (h _ ?_) fun q2 => ?_)
      · unfold la
        rw [if_pos (Or.inr (Or.inr q))]
        omega
      · have q2 : tKd t (lf t c) = 2 ∨ tKd t (lf t c) = 5 := q2
        omega
    · rw [if_neg q, if_neg q]
  have o1 : out (pt t (k + 1) x) c = out (pt t (k + 1) y) c := by
    unfold out
    rw [g1]
    try rfl
  have a : hp (pt t (k + 1) x) (tN t) c = (dg (tN t) (k + 1) x c : Int) - out (pt t (k + 1) x) c + gf (pt t (k + 1) x) (rt t c) + (if tKd t (lf t c) = 1 then (gf (pt t (k + 1) x) (lf t c) : Int) else 0) := a
  have b : hp (pt t (k + 1) y) (tN t) c = (dg (tN t) (k + 1) y c : Int) - out (pt t (k + 1) y) c + gf (pt t (k + 1) y) (rt t c) + (if tKd t (lf t c) = 1 then (gf (pt t (k + 1) y) (lf t c) : Int) else 0) := b
  rw [a, b, o1, g2, g3, h c hc1]
theorem wr_loc {t : Tb} (hok : okT t) {k : Nat} (hk : k ≤ 9) {x y c : Nat} (hc : c < tN t) (h : ∀ j, j ≤ la t c → dg (tN t) (k + 1) x j = dg (tN t) (k + 1) y j) (hw : wr t (k + 1) x c) : wr t (k + 1) y c := by
  unfold wr at hw ⊢
  rw [← hp_loc hok hk hc h]
  exact hw
theorem wr_ld {t : Tb} (h5 : tN t ≤ 5) {k : Nat} (hk : k ≤ 9) {x c : Nat} (hc : c < tN t) (hw : wr t (k + 1) x c) : ¬ ld t (k + 1) x := by
  intro h
  have a := stk_may (u := pt t (k + 1) x) h5 (fun c _ => by
    have := dg_lt (N := tN t) (B := k + 1) (x := x) (c := c) (by omega)
    show dg (tN t) (k + 1) x c ≤ 9
    omega) (c := c) hc
  rw [h c hc] at a
  exact hw a
