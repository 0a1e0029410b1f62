/-! Pure: BEFORE and BEFOREOF. -/
def lk (u t : Tb) : Prop := okT u ∧ tN u = tN t ∧ (∀ c, c < tN t → tKd u c = tKd t c) ∧ tOdd u = tOdd t ∧ tStep u = tStep t
def dT (u t : Tb) (B x : Nat) : Tb := (tN u, tKd u, dg (tN t) B x, tOdd u, tStep u, tBag t, tSt u, tGv u, tTh u)
theorem dT_ok {u t : Tb} (h : lk u t) (hok : okT t) {k : Nat} (hk : k ≤ 9) (x : Nat) : okT (dT u t (k + 1) x) := ⟨h.1.1, fun i hi => ⟨(h.1.2.1 i hi).1, by
  have := dg_lt (N := tN t) (B := k + 1) (x := x) (c := i) (by omega)
  show dg (tN t) (k + 1) x i ≤ 999
  omega⟩, h.1.2.2.1, h.1.2.2.2.1, h.1.2.2.2.2.1, hok.2.2.2.2.2⟩
theorem dT_agr {u t : Tb} (h : lk u t) (B x : Nat) : agr (dT u t B x) (pt t B x) := ⟨h.2.1, h.2.2.2.1, h.2.2.2.2, rfl, fun c hc => ⟨h.2.2.1 c (h.2.1 ▸ hc), rfl⟩⟩
theorem dT_ld {u t : Tb} (h : lk u t) (B x : Nat) : (∀ c, c < tN (stk (dT u t B x)) → tSw (stk (dT u t B x)) c = tSw t c) ↔ ld t B x := by
  have a := agr_stk (dT_agr h B x)
  have n : tN (stk (dT u t B x)) = tN t := (stk_same _).1.trans h.2.1
  refine ⟨fun q c hc => ?_, fun q c hc => ?_⟩
  · have hc : c < tN (stk (dT u t B x)) := by rw [n]; exact hc
    exact (a.2.2.2.2 c hc).2.symm.trans (q c hc)
  · exact (a.2.2.2.2 c hc).2.trans (q c (by rw [n] at hc; exact hc))
theorem dT_lk {u t : Tb} (h : lk u t) (hok : okT t) {k : Nat} (hk : k ≤ 9) (x : Nat) : lk (stk (dT u t (k + 1) x)) t := by
  obtain ⟨a1, a2, a3, a4⟩ := stk_same (dT u t (k + 1) x)
  exact ⟨stk_ok (dT_ok h hok hk x), a1.trans h.2.1, fun c hc => (congrFun a2 c).trans (h.2.2.1 c hc), a3.trans h.2.2.2.1, a4.trans h.2.2.2.2⟩
def tlM (z : MT) (t : Tb) : Prop := ∃ u, lk u t ∧ rM z u
theorem lk_rf {t : Tb} (hok : okT t) : lk t t := ⟨hok, rfl, fun _ _ => rfl, rfl, rfl⟩
theorem p_leads {now z s : RS} {t : Tb} (hX : rX now t) (hok : okT t) {k : Nat} (hk : k ≤ 9) {x : Nat} (hz : rX z (pt t (k + 1) x)) : ∃ q s', f_Past_leadsTo z s now = some (q, s') ∧ ((q = 1 ∧ ld t (k + 1) x) ∨ (q = 0 ∧ ¬ ld t (k + 1) x)) := by
  obtain ⟨s1, e1, r1⟩ := p_copyFrom s z hz (pt_ok hok hk x)
  obtain ⟨s2, e2, r2⟩ := p_strike r1 (pt_ok hok hk x)
  have n : tN (stk (pt t (k + 1) x)) = tN t := (stk_same _).1
  obtain ⟨q, e3, h3⟩ := p_hasS r2 hX (stk_ok (pt_ok hok hk x)) hok n.symm
  have h3 : (q = 1 ∧ ld t (k + 1) x) ∨ (q = 0 ∧ ¬ ld t (k + 1) x) := by
    rw [n] at h3
    exact h3
  have hq : ¬ ¬ (q = 0 ∨ q = 1) := fun e => e (by rcases h3 with ⟨a, -⟩ | ⟨a, -⟩ <;> simp [a])
  refine ⟨q, s2, ?_, h3⟩
  unfold f_Past_leadsTo
  rw [e1, Option.bind_some, e2, Option.bind_some]
  show (f_Ring_hasSweetsOf s2 now).bind _ = _
  rw [e3, Option.bind_some, if_neg hq]
/-- how many there are; the one behind L of them -/
noncomputable def cn (t : Tb) (B : Nat) : Nat → Nat → Nat → Nat
  | 0, _, m => m
  | d + 1, x, m => @ite _ (ld t B x) (Classical.propDecidable _) (cn t B d (x + 1) (m + 1)) (cn t B d (x + 1) m)
noncomputable def lx (t : Tb) (B L : Nat) : Nat → Nat → Nat → Option Nat
  | 0, _, _ => none
  | d + 1, x, m => @ite _ (ld t B x) (Classical.propDecidable _) (if m = L then some x else lx t B L d (x + 1) (m + 1)) (lx t B L d (x + 1) m)
theorem cn_p {t : Tb} {B d x m : Nat} (h : ld t B x) : cn t B (d + 1) x m = cn t B d (x + 1) (m + 1) := if_pos h
theorem cn_n {t : Tb} {B d x m : Nat} (h : ¬ ld t B x) : cn t B (d + 1) x m = cn t B d (x + 1) m := if_neg h
theorem lx_p {t : Tb} {B L d x m : Nat} (h : ld t B x) : lx t B L (d + 1) x m = if m = L then some x else lx t B L d (x + 1) (m + 1) := if_pos h
theorem lx_n {t : Tb} {B L d x m : Nat} (h : ¬ ld t B x) : lx t B L (d + 1) x m = lx t B L d (x + 1) m := if_neg h
theorem lx_hi {t : Tb} {B L : Nat} : ∀ d x m, L < m → lx t B L d x m = none
  | 0, _, _, _ => rfl
  | d + 1, x, m, h => by
    by_cases q : ld t B x
    · rw [lx_p q, if_neg (by omega), lx_hi d (x + 1) (m + 1) (by omega)]
    · rw [lx_n q, lx_hi d (x + 1) m h]
theorem lx_lo {t : Tb} {B L : Nat} : ∀ d x m, m + d ≤ L → lx t B L d x m = none
  | 0, _, _, _ => rfl
  | d + 1, x, m, h => by
    by_cases q : ld t B x
    · rw [lx_p q, if_neg (by omega), lx_lo d (x + 1) (m + 1) (by omega)]
    · rw [lx_n q, lx_lo d (x + 1) m (by omega)]
theorem cn_skip {t : Tb} {B : Nat} : ∀ s d x m, (∀ y, x ≤ y → y < x + s → ¬ ld t B y) → cn t B (s + d) x m = cn t B d (x + s) m
  | 0, d, x, m, _ => by rw [Nat.zero_add, Nat.add_zero]
  | s + 1, d, x, m, h => by
    rw [show s + 1 + d = (s + d) + 1 by omega, cn_n (h x (Nat.le_refl _) (by omega)), cn_skip s d (x + 1) m (fun y h1 h2 => h y (by omega) (by omega)), show x + 1 + s = x + (s + 1) by omega]
theorem lx_skip {t : Tb} {B L : Nat} : ∀ s d x m, (∀ y, x ≤ y → y < x + s → ¬ ld t B y) → lx t B L (s + d) x m = lx t B L d (x + s) m
  | 0, d, x, m, _ => by rw [Nat.zero_add, Nat.add_zero]
  | s + 1, d, x, m, h => by
    rw [show s + 1 + d = (s + d) + 1 by omega, lx_n (h x (Nat.le_refl _) (by omega)), lx_skip s d (x + 1) m (fun y h1 h2 => h y (by omega) (by omega)), show x + 1 + s = x + (s + 1) by omega]
/-- behind the last of those who make a wrong heap there is none -/
def Jx (t : Tb) (B x : Nat) : Prop := ∀ q, q < tN t → dg (tN t) B x q ≠ 0 → ∀ c, c < tN t → wr t B x c → q ≤ la t c
/-- the least place that shows that no table goes on from there -/
def pl (t : Tb) (B x P : Nat) : Prop := P ≤ tN t ∧ (∀ c, c < tN t → wr t B x c → P ≤ la t c) ∧ (P = tN t ∨ ∃ c, c < tN t ∧ wr t B x c ∧ la t c = P)
theorem p_place_L {now z : RS} {t : Tb} (hX : rX now t) (hok : okT t) (h5 : tN t ≤ 5) {k : Nat} (hk : k ≤ 9) {x : Nat} (hz : rX z (pt t (k + 1) x)) : ∀ (d i fuel P : Nat), i + d = tN t → d < fuel → P ≤ tN t → (∀ c, c < i → wr t (k + 1) x c → P ≤ la t c) → (P = tN t ∨ ∃ c, c < i ∧ wr t (k + 1) x c ∧ la t c = P) → ∃ P', f_Past_placeOfWrong_L10 z now fuel (nI P) (nI i) = some (nI P') ∧ pl t (k + 1) x P' := by
  have h8 := hok.1
  have hc0 : r_children z = nI (tN t) := hz.1
  intro d
  induction d with
  | zero =>
    intro i fuel P hi hf hP h1 h2
    obtain ⟨f, rfl, -⟩ := f_suc hf
    obtain rfl : i = tN t := by omega
    exact ⟨P, by rw [f_Past_placeOfWrong_L10, hc0, if_pos (nI_le (Nat.le_refl _) (by omega))], hP, h1, h2⟩
  | succ d ih =>
    intro i fuel P hi hf hP h1 h2
    obtain ⟨f, rfl, hf'⟩ := f_suc hf
    have hlt : i < tN t := by omega
    have hla := la_lt (t := t) hlt
    have s9 := (hok.2.1 i hlt).2
    have q1 := hp_9 (t := pt t (k + 1) x) (fun c _ => by
      have := dg_lt (N := tN t) (B := k + 1) (x := x) (c := c) (by omega)
      show dg (tN t) (k + 1) x c ≤ 9
      omega) (tN t) i (Nat.le_refl _) hlt
    have eh : f_Ring_heapBehindGifts z (nI i) = some (nI (hp (pt t (k + 1) x) (tN t) i).toNat) := p_heap hz (pt_ok hok hk x) hlt
    rw [f_Past_placeOfWrong_L10, hc0, if_neg (ix_n hlt h8), eh, Option.bind_some, if_neg (ix_b (show i < 8 by omega) (by omega)), ix_k (show i < 8 by omega), (hX.2.1 i hlt).2]
    rcases p_mayB (h := (hp (pt t (k + 1) x) (tN t) i).toNat) (s := tSw t i) (by omega) (by omega) with ⟨e, hm⟩ | ⟨e, hm⟩
    · rw [e, Option.bind_some, if_neg z10', nI_1]
      refine ih (i + 1) f P (by omega) hf' hP (fun c hc hw => ?_) (h2.imp id fun ⟨c, a, b⟩ => ⟨c, by omega, b⟩)
      by_cases q : c = i
      · rw [q] at hw
        exact absurd hm hw
      · exact h1 c (by omega) hw
    · have el : f_Past_lastOfThoseWhoMakeHeapOf z (nI i) = some (nI (la t i)) := p_last hz (pt_ok hok hk x) hlt
      rw [e, Option.bind_some, if_pos rfl, el, Option.bind_some, jmin_nI (by omega) (by omega), nI_1]
      refine ih (i + 1) f (min P (la t i)) (by omega) hf' (by omega) (fun c hc hw => ?_) (Or.inr ?_)
      · by_cases q : c = i
        · rw [q]; omega
        · have := h1 c (by omega) hw
          omega
      · by_cases q : la t i ≤ P
        · exact ⟨i, by omega, hm, by omega⟩
        · rcases h2 with h2 | ⟨c, a, b, e2⟩
          · omega
          · exact ⟨c, by omega, b, by omega⟩
theorem p_place {now z : RS} {t : Tb} (hX : rX now t) (hok : okT t) (h5 : tN t ≤ 5) {k : Nat} (hk : k ≤ 9) {x : Nat} (hz : rX z (pt t (k + 1) x)) : ∃ P, f_Past_placeOfWrong z now = some (nI P) ∧ pl t (k + 1) x P := by
  have hc0 : r_children z = nI (tN t) := hz.1
  have h := p_place_L hX hok h5 hk hz (tN t) 0 FU (tN t) (Nat.zero_add _) (by unfold FU; omega) (Nat.le_refl _) (fun c hc => absurd hc (Nat.not_lt_zero c)) (Or.inl rfl)
  unfold f_Past_placeOfWrong
  rw [hc0]
  exact h
theorem div_same {x y S : Nat} (h0 : x % S = 0) (hS : 0 < S) (h1 : x ≤ y) (h2 : y < x + S) : y / S = x / S := by
  obtain ⟨a, rfl⟩ := Nat.dvd_of_mod_eq_zero h0
  rw [Nat.mul_div_cancel_left a hS]
  refine Nat.div_eq_of_lt_le ?_ ?_
  · rw [Nat.mul_comm]; exact h1
  · rw [Nat.add_mul, Nat.one_mul, Nat.mul_comm]; exact h2
theorem nx_skip {t : Tb} (hok : okT t) (h5 : tN t ≤ 5) {k : Nat} (hk : k ≤ 9) {x P : Nat} (hJ : Jx t (k + 1) x) (hpl : pl t (k + 1) x P) (hP : P < tN t) : x % (k + 1) ^ (tN t - 1 - P) = 0 ∧ ∀ y, x ≤ y → y < x + (k + 1) ^ (tN t - 1 - P) → ¬ ld t (k + 1) y := by
  obtain ⟨-, -, h3⟩ := hpl
  obtain ⟨c, hc, hw, hla⟩ : ∃ c, c < tN t ∧ wr t (k + 1) x c ∧ la t c = P := h3.elim (fun q => by omega) id
  have low : ∀ e, e ≤ tN t - 1 - P → x % (k + 1) ^ e = 0 := by
    intro e
    induction e with
    | zero => intro _; rw [Nat.pow_zero, Nat.mod_one]
    | succ e ih =>
      intro he
      have hd : x / (k + 1) ^ e % (k + 1) = 0 := by
        apply Decidable.byContradiction
        intro hne
        have q := hJ (tN t - 1 - e) (by omega) (by
          unfold dg
          rw [show tN t - 1 - (tN t - 1 - e) = e by omega, xd_div]
          exact hne) c hc hw
        omega
      rw [Nat.pow_succ, Nat.mod_mul, ih (by omega), hd, Nat.mul_zero]
  have h0 := low _ (Nat.le_refl _)
  refine ⟨h0, fun y h1 h2 => wr_ld h5 hk hc (wr_loc hok hk hc (fun j hj => ?_) hw)⟩
  have hS : 0 < (k + 1) ^ (tN t - 1 - P) := Nat.pow_pos (by omega)
  have e := div_same h0 hS h1 h2
  have e : xd (k + 1) y (tN t - 1 - P) = xd (k + 1) x (tN t - 1 - P) := by rw [xd_div, xd_div, e]
  have e := xd_eq e (tN t - 1 - j - (tN t - 1 - P))
  rw [show tN t - 1 - P + (tN t - 1 - j - (tN t - 1 - P)) = tN t - 1 - j by omega] at e
  unfold dg
  rw [e]
theorem nx_same {B e j x y : Nat} (hB : 0 < B) (hy : y = x + B ^ e) (hej : e ≤ j) (hne : y / B ^ j % B ≠ 0) : x / B ^ j / B = y / B ^ j / B := by
  have hJ : 0 < B ^ j := Nat.pow_pos hB
  have hp := Nat.pow_le_pow_right hB hej
  have h1 : x / B ^ j ≤ y / B ^ j := Nat.div_le_div_right (by omega)
  have h2 : y / B ^ j ≤ x / B ^ j + 1 := by
    rw [← Nat.add_div_right x hJ]
    exact Nat.div_le_div_right (by omega)
  by_cases h : y / B ^ j = x / B ^ j
  · rw [h]
  · have h3 : y / B ^ j = x / B ^ j + 1 := by omega
    rw [h3] at hne ⊢
    have hlt := Nat.mod_lt (x / B ^ j) hB
    by_cases q : x / B ^ j % B + 1 < B
    · exact (dm1 q).2.symm
    · exact absurd (dm2 hB (show x / B ^ j % B + 1 = B by omega)).1 hne
theorem low_dg {B e j x : Nat} (hB : 0 < B) (h0 : x % B ^ e = 0) (hj : j < e) : x / B ^ j % B = 0 := by
  obtain ⟨a, ha⟩ := Nat.dvd_of_mod_eq_zero h0
  have hJ : 0 < B ^ j := Nat.pow_pos hB
  have es : B ^ e = B ^ j * (B * B ^ (e - j - 1)) := by
    rw [← Nat.pow_succ', ← Nat.pow_add]
    exact congrArg (B ^ ·) (by omega)
  rw [ha, es, Nat.mul_assoc, Nat.mul_assoc, Nat.mul_div_cancel_left _ hJ, Nat.mul_mod_right]
theorem Jx_next {t : Tb} (hok : okT t) {k : Nat} (hk : k ≤ 9) {x P p : Nat} (hpl : pl t (k + 1) x P) (hpP : p ≤ P) (hpN : p < tN t) (h0 : x % (k + 1) ^ (tN t - 1 - p) = 0) : Jx t (k + 1) (x + (k + 1) ^ (tN t - 1 - p)) := by
  intro q hq hne c hc hw
  apply Nat.le_of_not_lt
  intro hlt
  unfold dg at hne
  rw [xd_div] at hne
  have hej : tN t - 1 - p ≤ tN t - 1 - q := by
    apply Nat.le_of_not_lt
    intro h
    exact hne (low_dg (by omega) (show (x + (k + 1) ^ (tN t - 1 - p)) % (k + 1) ^ (tN t - 1 - p) = 0 by rw [Nat.add_mod_right, h0]) h)
  have hs := nx_same (B := k + 1) (by omega) rfl hej hne
  have e : xd (k + 1) (x + (k + 1) ^ (tN t - 1 - p)) (tN t - 1 - q + 1) = xd (k + 1) x (tN t - 1 - q + 1) := by
    show xd (k + 1) (x + (k + 1) ^ (tN t - 1 - p)) (tN t - 1 - q) / (k + 1) = xd (k + 1) x (tN t - 1 - q) / (k + 1)
    rw [xd_div, xd_div, hs]
  have hwx : wr t (k + 1) x c := wr_loc hok hk hc (fun j hj => by
    have e := xd_eq e (tN t - 1 - j - (tN t - 1 - q + 1))
    rw [show tN t - 1 - q + 1 + (tN t - 1 - j - (tN t - 1 - q + 1)) = tN t - 1 - j by omega] at e
    unfold dg
    rw [e]) hw
  have := hpl.2.1 c hc hwx
  omega
theorem p_find_L {now : RS} {t : Tb} (hX : rX now t) (hok : okT t) (h0 : 0 < tN t) (hN5 : tN t ≤ 5) {k : Nat} (hk : k ≤ 9) {M : Nat} (hM : M ≤ 100000) (hMe : M = (k + 1) ^ tN t) {L : Nat} {x3 : Int32} (hL : ∀ m, m ≤ 200000 → (x3 < nI m ↔ L < m)) : ∀ (n d x i fuel : Nat) (W z : RS) (m : Nat), d ≤ n → x + d = M → 0 < d → d < fuel → i ≤ x → rX W (pt t (k + 1) x) → Jx t (k + 1) x → m ≤ x → m ≤ L →
    ∃ W' z', (∃ y, lx t (k + 1) L d x m = some y ∧ f_Past_find_L68 now (nI k) x3 (nI M) fuel W z (nI m) (nI i) = some (nI (L + 1), W', z') ∧ L ≤ 100000 ∧ ∀ c, c < tN t → r_sweets W' c = nI (dg (tN t) (k + 1) y c)) ∨ (lx t (k + 1) L d x m = none ∧ f_Past_find_L68 now (nI k) x3 (nI M) fuel W z (nI m) (nI i) = some (nI (cn t (k + 1) d x m), W', z') ∧ cn t (k + 1) d x m ≤ L ∧ cn t (k + 1) d x m ≤ 100000) := by
  have h8 := hok.1
  intro n
  induction n with
  | zero => intro d x i fuel W z m hdn hx hd; omega
  | succ n ih =>
    intro d x i fuel W z m hdn hx hd hf hi hW hJ hm hmL
    obtain ⟨f, rfl, hf'⟩ := f_suc hf
    have g1 : ¬ nI M ≤ nI i := nI_ge (by omega) (by omega)
    obtain ⟨P, eP, hpl⟩ := p_place hX hok hN5 hk hW
    have hPN := hpl.1
    have hc0 : r_children W = nI (tN t) := hW.1
    have ep : jmin (nI P) (nI (tN t) - 1) = nI (min P (tN t - 1)) := by
      rw [show nI (tN t) - 1 = nI (tN t - 1) from pk_sub (b := 1) h0, jmin_nI (by omega) (by omega)]
    rw [f_Past_find_L68, if_neg g1, eP, Option.bind_some, hc0, ep]
    by_cases hP : P = tN t
    · have hp' : min P (tN t - 1) = tN t - 1 := by omega
      have es : (k + 1) ^ (tN t - 1 - (tN t - 1)) = 1 := by rw [Nat.sub_self, Nat.pow_zero]
      have h1e : x % (k + 1) ^ (tN t - 1 - (tN t - 1)) = 0 := by rw [es, Nat.mod_one]
      rw [if_pos (congrArg nI hP), hp']
      obtain ⟨q, z1, e1, h1⟩ := p_leads (s := z) hX hok hk hW
      obtain ⟨q2, W2, e2, h2⟩ := p_advP (p := tN t - 1) hN5 hk (by omega) (by omega) h1e hW
      have hJ2 := Jx_next (p := tN t - 1) hok hk hpl (by omega) (by omega) h1e
      rw [es] at h2 hJ2
      obtain ⟨d', rfl⟩ : ∃ d', d = d' + 1 := ⟨d - 1, by omega⟩
      rw [e1]
      simp only [Option.bind_some]
      rcases h1 with ⟨rfl, h1⟩ | ⟨rfl, h1⟩
      · rw [if_neg z10', nI_1, lx_p h1, cn_p h1]
        by_cases hmL2 : m = L
        · have g3 : ¬ nI (m + 1) ≤ x3 := Int32.not_le.mpr ((hL (m + 1) (by omega)).mpr (by omega))
          rw [if_neg g3, if_pos hmL2, hmL2]
          exact ⟨W, z1, Or.inl ⟨x, rfl, rfl, by omega, fun c hc => (hW.2.1 c hc).2⟩⟩
        · have g3 : nI (m + 1) ≤ x3 := Int32.not_lt.mp fun q => by
            have := (hL (m + 1) (by omega)).mp q
            omega
          rw [if_pos g3, if_neg hmL2, e2]
          simp only [Option.bind_some]
          rcases h2 with ⟨rfl, hlt, hW2⟩ | ⟨rfl, hge⟩
          · rw [if_neg z10', nI_1]
            exact ih d' (x + 1) (i + 1) f W2 z1 (m + 1) (by omega) (by omega) (by omega) (by omega) (by omega) hW2 hJ2 (by omega) (by omega)
          · rw [if_pos rfl]
            obtain rfl : d' = 0 := by omega
            exact ⟨W2, z1, Or.inr ⟨rfl, rfl, by show m + 1 ≤ L; omega, by show m + 1 ≤ _; omega⟩⟩
      · rw [if_pos rfl, lx_n h1, cn_n h1, e2]
        simp only [Option.bind_some]
        rcases h2 with ⟨rfl, hlt, hW2⟩ | ⟨rfl, hge⟩
        · rw [if_neg z10', nI_1]
          exact ih d' (x + 1) (i + 1) f W2 z1 m (by omega) (by omega) (by omega) (by omega) (by omega) hW2 hJ2 (by omega) (by omega)
        · rw [if_pos rfl]
          obtain rfl : d' = 0 := by omega
          exact ⟨W2, z1, Or.inr ⟨rfl, rfl, by show m ≤ L; omega, by show m ≤ _; omega⟩⟩
    · have hPlt : P < tN t := by omega
      have hp' : min P (tN t - 1) = P := by omega
      obtain ⟨hz0, hno⟩ := nx_skip hok hN5 hk hJ hpl hPlt
      obtain ⟨q2, W2, e2, h2⟩ := p_advP (p := P) hN5 hk hPlt (by omega) hz0 hW
      have hJ2 := Jx_next (p := P) hok hk hpl (Nat.le_refl _) hPlt hz0
      have hS : 0 < (k + 1) ^ (tN t - 1 - P) := Nat.pow_pos (by omega)
      rw [if_neg (fun q => hP ((nI_eq (by omega) (by omega)).mp q)), hp', e2]
      simp only [Option.bind_some]
      rcases h2 with ⟨rfl, hlt, hW2⟩ | ⟨rfl, hge⟩
      · obtain ⟨d', rfl⟩ : ∃ d', d = (k + 1) ^ (tN t - 1 - P) + d' := ⟨d - (k + 1) ^ (tN t - 1 - P), by omega⟩
        rw [if_neg z10', nI_1, lx_skip _ d' x m hno, cn_skip _ d' x m hno]
        exact ih d' (x + (k + 1) ^ (tN t - 1 - P)) (i + 1) f W2 z m (by omega) (by omega) (by omega) (by omega) (by omega) hW2 hJ2 (by omega) (by omega)
      · have hno2 : ∀ y, x ≤ y → y < x + d → ¬ ld t (k + 1) y := fun y a b => hno y a (by omega)
        have e3 : lx t (k + 1) L d x m = lx t (k + 1) L 0 (x + d) m := lx_skip (L := L) d 0 x m hno2
        have e4 : cn t (k + 1) d x m = cn t (k + 1) 0 (x + d) m := cn_skip d 0 x m hno2
        rw [if_pos rfl, e3, e4]
        exact ⟨W2, z, Or.inr ⟨rfl, rfl, hmL, by show m ≤ _; omega⟩⟩
