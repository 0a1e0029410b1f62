/-! Pure: BEFORE and BEFOREOF. -/
def lk (u t : Tb) : Prop := okT u ∧ tN u = tN t ∧ (∀ c, c < tN t → tKd u c = tKd t c) ∧ tOdd u = tOdd t ∧ tStep u = tStep t
def dT (u t : Tb) (B x : Nat) : Tb := (tN u, tKd u, dg (tN t) B x, tOdd u, tStep u, tBag t, tSt u, tGv u, tTh u)
theorem dT_ok {u t : Tb} (h : lk u t) (hok : okT t) {k : Nat} (hk : k ≤ 9) (x : Nat) : okT (dT u t (k + 1) x) := ⟨h.1.1, fun i hi => ⟨(h.1.2.1 i hi).1, by
  have := dg_lt (N := tN t) (B := k + 1) (x := x) (c := i) (by omega)
  show dg (tN t) (k + 1) x i ≤ 999
  omega⟩, h.1.2.2.1, h.1.2.2.2.1, h.1.2.2.2.2.1, hok.2.2.2.2.2⟩
theorem dT_agr {u t : Tb} (h : lk u t) (B x : Nat) : agr (dT u t B x) (pt t B x) := ⟨h.2.1, h.2.2.2.1, h.2.2.2.2, rfl, fun c hc => ⟨h.2.2.1 c (h.2.1 ▸ hc), rfl⟩⟩
theorem dT_ld {u t : Tb} (h : lk u t) (B x : Nat) : (∀ c, c < tN (stk (dT u t B x)) → tSw (stk (dT u t B x)) c = tSw t c) ↔ ld t B x := by
  have a := agr_stk (dT_agr h B x)
  have n : tN (stk (dT u t B x)) = tN t := (stk_same _).1.trans h.2.1
  refine ⟨fun q c hc => ?_, fun q c hc => ?_⟩
  · have hc : c < tN (stk (dT u t B x)) := by rw [n]; exact hc
    exact (a.2.2.2.2 c hc).2.symm.trans (q c hc)
  · exact (a.2.2.2.2 c hc).2.trans (q c (by rw [n] at hc; exact hc))
theorem dT_lk {u t : Tb} (h : lk u t) (hok : okT t) {k : Nat} (hk : k ≤ 9) (x : Nat) : lk (stk (dT u t (k + 1) x)) t := by
  obtain ⟨a1, a2, a3, a4⟩ := stk_same (dT u t (k + 1) x)
  exact ⟨stk_ok (dT_ok h hok hk x), a1.trans h.2.1, fun c hc => (congrFun a2 c).trans (h.2.2.1 c hc), a3.trans h.2.2.2.1, a4.trans h.2.2.2.2⟩
def tl (z : RS) (t : Tb) : Prop := ∃ u, lk u t ∧ rX z u
def tlM (z : MT) (t : Tb) : Prop := ∃ u, lk u t ∧ rM z u
theorem lk_rf {t : Tb} (hok : okT t) : lk t t := ⟨hok, rfl, fun _ _ => rfl, rfl, rfl⟩
theorem p_leads {now z : RS} {t : Tb} (hX : rX now t) (hok : okT t) (hN5 : tN t ≤ 5) {k : Nat} (hk : k ≤ 9) {x : Nat} {W : Nat → Int32} (hW : ∀ c, c < tN t → W c = nI (dg (tN t) (k + 1) x c)) (hz : tl z t) : ∃ q z', f_Past_leadsTo W z now = some (q, z') ∧ tl z' t ∧ ((q = 1 ∧ ld t (k + 1) x) ∨ (q = 0 ∧ ¬ ld t (k + 1) x)) := by
  obtain ⟨u, hu, hr⟩ := hz
  have g : ¬ (r_children now < 0 ∨ 5 < (r_children now).toNatClampNeg) := by
    rw [hX.1]
    exact fun q => q.elim (nI_pos (by omega)) (by rw [nI_clamp (by omega)]; omega)
  have kc : (r_children now).toNatClampNeg = tN t := by rw [hX.1, nI_clamp (by omega)]
  have r1 : rX ((r_kinds z), (va_cpy W (r_sweets z) 0 0 (tN t)), (upd (r_settings z) 2 ((r_settings now) 2)), (r_heaps z), (r_children z), (r_strokes z), (r_gave z), (r_threw z)) (dT u t (k + 1) x) := ⟨hr.1, fun i hi => ⟨(hr.2.1 i hi).1, by
    have hi' : i < tN t := by rw [← hu.2.1]; exact hi
    show va_cpy W (r_sweets z) 0 0 (tN t) i = nI (dg (tN t) (k + 1) x i)
    rw [pk_cpy_in (Nat.zero_le _) (by omega), Nat.zero_add, Nat.sub_zero, hW i hi']⟩, hr.2.2.1, hr.2.2.2.1, hX.2.2.2.2.1, hr.2.2.2.2.2⟩
  obtain ⟨z2, e2, r2⟩ := p_strike r1 (dT_ok hu hok hk x)
  have n : tN (stk (dT u t (k + 1) x)) = tN t := (stk_same _).1.trans hu.2.1
  obtain ⟨q, e3, h3⟩ := p_hasS r2 hX (stk_ok (dT_ok hu hok hk x)) hok n.symm
  rw [dT_ld hu] at h3
  have hq : ¬ ¬ (q = 0 ∨ q = 1) := fun e => e (by rcases h3 with ⟨a, -⟩ | ⟨a, -⟩ <;> simp [a])
  refine ⟨q, z2, ?_, ⟨_, dT_lk hu hok hk x, r2⟩, h3⟩
  unfold f_Past_leadsTo
  rw [if_neg g, kc, e2, Option.bind_some]
  show (f_Ring_hasSweetsOf z2 now).bind _ = _
  rw [e3, Option.bind_some, if_neg hq]
/-- how many there are; the one behind L of them -/
noncomputable def cn (t : Tb) (B : Nat) : Nat → Nat → Nat → Nat
  | 0, _, m => m
  | d + 1, x, m => @ite _ (ld t B x) (Classical.propDecidable _) (cn t B d (x + 1) (m + 1)) (cn t B d (x + 1) m)
noncomputable def lx (t : Tb) (B L : Nat) : Nat → Nat → Nat → Option Nat
  | 0, _, _ => none
  | d + 1, x, m => @ite _ (ld t B x) (Classical.propDecidable _) (if m = L then some x else lx t B L d (x + 1) (m + 1)) (lx t B L d (x + 1) m)
theorem cn_p {t : Tb} {B d x m : Nat} (h : ld t B x) : cn t B (d + 1) x m = cn t B d (x + 1) (m + 1) := if_pos h
theorem cn_n {t : Tb} {B d x m : Nat} (h : ¬ ld t B x) : cn t B (d + 1) x m = cn t B d (x + 1) m := if_neg h
theorem lx_p {t : Tb} {B L d x m : Nat} (h : ld t B x) : lx t B L (d + 1) x m = if m = L then some x else lx t B L d (x + 1) (m + 1) := if_pos h
theorem lx_n {t : Tb} {B L d x m : Nat} (h : ¬ ld t B x) : lx t B L (d + 1) x m = lx t B L d (x + 1) m := if_neg h
theorem lx_hi {t : Tb} {B L : Nat} : ∀ d x m, L < m → lx t B L d x m = none
  | 0, _, _, _ => rfl
  | d + 1, x, m, h => by
    by_cases q : ld t B x
    · rw [lx_p q, if_neg (by omega), lx_hi d (x + 1) (m + 1) (by omega)]
    · rw [lx_n q, lx_hi d (x + 1) m h]
theorem lx_lo {t : Tb} {B L : Nat} : ∀ d x m, m + d ≤ L → lx t B L d x m = none
  | 0, _, _, _ => rfl
  | d + 1, x, m, h => by
    by_cases q : ld t B x
    · rw [lx_p q, if_neg (by omega), lx_lo d (x + 1) (m + 1) (by omega)]
    · rw [lx_n q, lx_lo d (x + 1) m (by omega)]
theorem p_find_L {now : RS} {t : Tb} (hX : rX now t) (hok : okT t) (h0 : 0 < tN t) (hN5 : tN t ≤ 5) {k : Nat} (hk : k ≤ 9) {M : Nat} (hM : M ≤ 100000) {L : Nat} {x3 : Int32} (hL : ∀ m, m ≤ 200000 → (x3 < nI m ↔ L < m)) : ∀ (d x fuel : Nat) (W : Nat → Int32) (z : RS) (m : Nat), x + d = M → d + 1 < fuel → tl z t → m ≤ x → m ≤ L → (∀ c, c < tN t → W c = nI (dg (tN t) (k + 1) (x - 1) c)) →
    ∃ W' z', (∃ y, lx t (k + 1) L d x m = some y ∧ f_Past_find_L68 now (nI k) x3 (nI M) (nI (sm t (tN t))) fuel W z (nI m) (nI x) = some (nI (L + 1), W', z') ∧ L ≤ 100000 ∧ ∀ c, c < tN t → W' c = nI (dg (tN t) (k + 1) y c)) ∨ (lx t (k + 1) L d x m = none ∧ f_Past_find_L68 now (nI k) x3 (nI M) (nI (sm t (tN t))) fuel W z (nI m) (nI x) = some (nI (cn t (k + 1) d x m), W', z') ∧ cn t (k + 1) d x m ≤ L ∧ cn t (k + 1) d x m ≤ 100000) := by
  intro d
  induction d with
  | zero =>
    intro x fuel W z m hx hf hz hm hmL hW
    obtain ⟨f, rfl, -⟩ := f_suc hf
    obtain rfl : x = M := by omega
    exact ⟨W, z, Or.inr ⟨rfl, by rw [f_Past_find_L68, if_pos (nI_le (Nat.le_refl _) (by omega))]; rfl, hmL, by show m ≤ _; omega⟩⟩
  | succ d ih =>
    intro x fuel W z m hx hf hz hm hmL hW
    obtain ⟨f, rfl, hf'⟩ := f_suc hf
    have g1 : ¬ nI M ≤ nI x := nI_ge (by omega) (by omega)
    have g2 : ¬ x3 < nI m := fun q => by have := (hL m (by omega)).mp q; omega
    have key : ∀ W1 : Nat → Int32, (∀ c, c < tN t → W1 c = nI (dg (tN t) (k + 1) x c)) → ∃ W' z', (∃ y, lx t (k + 1) L (d + 1) x m = some y ∧ ((f_Past_mayLeadTo W1 (nI (sm t (tN t))) (r_children now)).bind fun q10 => if q10 = 0 then f_Past_find_L68 now (nI k) x3 (nI M) (nI (sm t (tN t))) f W1 z (nI m) (nI x + 1) else (f_Past_leadsTo W1 z now).bind fun q12 => if q12.1 = 0 then f_Past_find_L68 now (nI k) x3 (nI M) (nI (sm t (tN t))) f W1 q12.2 (nI m) (nI x + 1) else f_Past_find_L68 now (nI k) x3 (nI M) (nI (sm t (tN t))) f W1 q12.2 (nI m + 1) (nI x + 1)) = some (nI (L + 1), W', z') ∧ L ≤ 100000 ∧ ∀ c, c < tN t → W' c = nI (dg (tN t) (k + 1) y c)) ∨ (lx t (k + 1) L (d + 1) x m = none ∧ ((f_Past_mayLeadTo W1 (nI (sm t (tN t))) (r_children now)).bind fun q10 => if q10 = 0 then f_Past_find_L68 now (nI k) x3 (nI M) (nI (sm t (tN t))) f W1 z (nI m) (nI x + 1) else (f_Past_leadsTo W1 z now).bind fun q12 => if q12.1 = 0 then f_Past_find_L68 now (nI k) x3 (nI M) (nI (sm t (tN t))) f W1 q12.2 (nI m) (nI x + 1) else f_Past_find_L68 now (nI k) x3 (nI M) (nI (sm t (tN t))) f W1 q12.2 (nI m + 1) (nI x + 1)) = some (nI (cn t (k + 1) (d + 1) x m), W', z') ∧ cn t (k + 1) (d + 1) x m ≤ L ∧ cn t (k + 1) (d + 1) x m ≤ 100000) := by
      intro W1 hW1
      obtain ⟨q, e1, h1⟩ := p_may (u := pt t (k + 1) x) hok (pt_ok hok hk x) hN5 rfl hW1
      have hno : ∀ z1 : RS, tl z1 t → ¬ ld t (k + 1) x → _ := fun z1 hz1 hn => ih (x + 1) f W1 z1 m (by omega) (by omega) hz1 (by omega) hmL (by rw [Nat.add_sub_cancel]; exact hW1)
      rw [hX.1, e1]
      simp only [Option.bind_some, nI_1]
      rcases h1 with rfl | ⟨rfl, h1⟩
      · obtain ⟨q, z1, e2, hz1, h2⟩ := p_leads hX hok hN5 hk hW1 hz
        rw [if_neg z10', e2]
        simp only [Option.bind_some]
        rcases h2 with ⟨rfl, h2⟩ | ⟨rfl, h2⟩
        · rw [if_neg z10', lx_p h2, cn_p h2]
          by_cases hmL2 : m = L
          · obtain ⟨f2, rfl, -⟩ := f_suc (d := d) (f := f) (by omega)
            refine ⟨W1, z1, Or.inl ⟨x, if_pos hmL2, ?_, by omega, hW1⟩⟩
            have g3 : x3 < nI (m + 1) := (hL (m + 1) (by omega)).mpr (by omega)
            rw [f_Past_find_L68, if_pos g3, ite_self, hmL2]
          · rw [if_neg hmL2]
            exact ih (x + 1) f W1 z1 (m + 1) (by omega) (by omega) hz1 (by omega) (by omega) (by rw [Nat.add_sub_cancel]; exact hW1)
        · rw [if_pos rfl, lx_n h2, cn_n h2]
          exact ih (x + 1) f W1 z1 m (by omega) (by omega) hz1 (by omega) hmL (by rw [Nat.add_sub_cancel]; exact hW1)
      · have h2 : ¬ ld t (k + 1) x := fun e => h1 (ld_sum hok h0 hk e)
        rw [if_pos rfl, lx_n h2, cn_n h2]
        exact ih (x + 1) f W1 z m (by omega) (by omega) hz (by omega) hmL (by rw [Nat.add_sub_cancel]; exact hW1)
    rw [f_Past_find_L68, if_neg g1, if_neg g2]
    by_cases hx0 : x = 0
    · rw [if_pos (by rw [hx0, nI_0]; decide)]
      exact key W (by rw [hx0] at hW ⊢; exact hW)
    · obtain ⟨W1, e1, hW1⟩ := p_adv_told (x := x - 1) hN5 hk hW
      rw [show x - 1 + 1 = x by omega] at hW1
      have g4 : ¬ nI x ≤ 0 := nI_ge (a := 0) (b := x) (by omega) (by omega)
      rw [if_neg g4, show r_children now = nI (tN t) from hX.1, e1, Option.bind_some, ← show r_children now = nI (tN t) from hX.1]
      exact key W1 hW1
