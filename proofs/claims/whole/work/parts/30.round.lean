/-! Pure: RING. -/
def agr (t u : Tb) : Prop := tN t = tN u ∧ tOdd t = tOdd u ∧ tStep t = tStep u ∧ tBag t = tBag u ∧ ∀ c, c < tN t → tKd t c = tKd u c ∧ tSw t c = tSw u c
theorem agr_lf {t u : Tb} (h : agr t u) (c : Nat) : lf t c = lf u c := by unfold lf; rw [h.1, h.2.2.1]
theorem agr_rt {t u : Tb} (h : agr t u) (c : Nat) : rt t c = rt u c := by unfold rt; rw [h.1, h.2.2.1]
theorem agr_gf {t u : Tb} (h : agr t u) {c : Nat} (hc : c < tN t) : gf t c = gf u c := by
  have hl := lf_lt (t := t) (c := c) (by omega)
  have e1 := h.2.2.2.2 c hc
  have e2 := h.2.2.2.2 _ hl
  unfold gf
  rw [← agr_lf h c, e1.1, e1.2, e2.2]
theorem agr_out {t u : Tb} (h : agr t u) {c : Nat} (hc : c < tN t) : out t c = out u c := by
  unfold out
  rw [agr_gf h hc, (h.2.2.2.2 c hc).1]
theorem agr_hp {t u : Tb} (h : agr t u) : ∀ i, i ≤ tN t → ∀ c, c < tN t → hp t i c = hp u i c
  | 0, _, c, hc => by
    show (tSw t c : Int) = tSw u c
    rw [(h.2.2.2.2 c hc).2]
  | i + 1, hi, c, hc => by
    have e := agr_hp h i (by omega) c hc
    simp only [hp]
    rw [e, agr_out h (show i < tN t by omega), agr_gf h (show i < tN t by omega), agr_lf h, agr_rt h, (h.2.2.2.2 i (by omega)).1]
theorem agr_cp {t u : Tb} (h : agr t u) {c : Nat} (hc : c < tN t) : cp t c = cp u c := by
  unfold cp
  rw [agr_hp h (tN t) (Nat.le_refl _) c hc, h.1]
theorem agr_mdT {t u : Tb} (h : agr t u) {c : Nat} (hc : c < tN t) : agr (mdT t c) (mdT u c) := by
  obtain ⟨h1, h2, h3, h4, h5⟩ := h
  have e := (h5 c hc).2
  unfold mdT
  rw [← e, ← h2, ← h4]
  have hw : ∀ v, ∀ i, i < tN t → tKd t i = tKd u i ∧ updN (tSw t) c v i = updN (tSw u) c v i := by
    intro v i hi
    refine ⟨(h5 i hi).1, ?_⟩
    unfold updN
    rw [(h5 i hi).2]
  repeat' split
  · exact ⟨h1, rfl, h3, rfl, hw _⟩
  · exact ⟨h1, h2, h3, h4, h5⟩
  · exact ⟨h1, rfl, h3, rfl, hw _⟩
  · exact ⟨h1, h2, h3, h4, h5⟩
  · exact ⟨h1, h2, h3, h4, h5⟩
theorem agr_mds {t u : Tb} (h : agr t u) : ∀ c, c ≤ tN t → agr (mds t c) (mds u c)
  | 0, _ => h
  | c + 1, hc => agr_mdT (agr_mds h c (by omega)) (by rw [(mds_same t c).1]; omega)
theorem agr_stk {t u : Tb} (h : agr t u) : agr (stk t) (stk u) := by
  have h0 : agr (setSw t (cp t)) (setSw u (cp u)) := ⟨h.1, h.2.1, h.2.2.1, h.2.2.2.1, fun c hc => ⟨(h.2.2.2.2 c hc).1, agr_cp h hc⟩⟩
  have h1 := agr_mds h0 (tN t) (Nat.le_refl _)
  unfold stk
  rw [← h.1]
  exact h1
theorem agr_sq {t u : Tb} (h : agr t u) : ∀ k, agr (sq t k) (sq u k)
  | 0 => h
  | k + 1 => agr_stk (agr_sq h k)
/-- SWEETS and BAG behind a and behind b are the same -/
def eqR (t : Tb) (a b : Nat) : Prop := tBag (sq t a) = tBag (sq t b) ∧ eqS t a b
theorem eqR_agr {t : Tb} {a b : Nat} : eqR t a b ↔ agr (sq t a) (sq t b) := by
  have A := sq_same t a
  have B := sq_same t b
  refine ⟨fun h => ⟨A.1.trans B.1.symm, A.2.2.1.trans B.2.2.1.symm, A.2.2.2.trans B.2.2.2.symm, h.1, fun c hc => ⟨by rw [A.2.1, B.2.1], h.2 c (by rw [← A.1]; exact hc)⟩⟩, fun h => ⟨h.2.2.2.1, fun c hc => (h.2.2.2.2 c (by rw [A.1]; exact hc)).2⟩⟩
theorem eqR_rf (t : Tb) (a : Nat) : eqR t a a := ⟨rfl, fun _ _ => rfl⟩
theorem eqR_sy {t : Tb} {a b : Nat} (h : eqR t a b) : eqR t b a := ⟨h.1.symm, fun c hc => (h.2 c hc).symm⟩
theorem eqR_tr {t : Tb} {a b c : Nat} (h : eqR t a b) (g : eqR t b c) : eqR t a c := ⟨h.1.trans g.1, fun x hx => (h.2 x hx).trans (g.2 x hx)⟩
theorem eqR_sh {t : Tb} {a b : Nat} (h : eqR t a b) (k : Nat) : eqR t (a + k) (b + k) := by
  have h1 := agr_sq (eqR_agr.mp h) k
  rw [sq_add, sq_add] at h1
  exact eqR_agr.mpr h1
theorem eqR_mul {t : Tb} {i j : Nat} (h : eqR t i (i + j)) : ∀ k, eqR t i (i + k * j)
  | 0 => by rw [Nat.zero_mul]; exact eqR_rf t i
  | k + 1 => by
    have h1 := eqR_mul h k
    have h2 := eqR_sh h1 j
    rw [show i + (k + 1) * j = i + k * j + j by rw [Nat.add_mul]; omega]
    exact eqR_tr h h2
theorem eqR_per {t : Tb} {i j p : Nat} (hj : 0 < j) (hi : i ≤ 100) (h : eqR t i (i + j)) (hp : eqR t 100 (100 + p)) : eqR t i (i + p) := by
  have h1 := eqR_mul h 100
  have hge : 100 ≤ i + 100 * j := by
    have : 100 * 1 ≤ 100 * j := Nat.mul_le_mul_left _ hj
    omega
  obtain ⟨s, hs⟩ : ∃ s, i + 100 * j = 100 + s := ⟨i + 100 * j - 100, by omega⟩
  rw [hs] at h1
  have h2 := eqR_sh hp s
  have h3 := eqR_sh h1 p
  refine eqR_tr h1 (eqR_tr (b := 100 + p + s) h2 ?_)
  rw [show 100 + p + s = 100 + s + p by omega]
  exact eqR_sy h3
theorem tr_eqR {t : Tb} (hok : okT t) {F : Nat → Int32} {n a b : Nat} (hF : hT F n t) (ha : a < n) (hb : b < n) : (∀ k, k < 9 → F (9 * a + k) = F (9 * b + k)) ↔ eqR t a b := by
  have ba := (sq_ok hok a).2.2.2.2.2
  have bb := (sq_ok hok b).2.2.2.2.2
  have hS := tr_eqS hok hF ha hb
  refine ⟨fun h => ⟨?_, hS.mp (fun k hk => h k (by omega))⟩, fun h k hk => ?_⟩
  · have q := h 8 (by omega)
    rw [hF a ha 8 (by omega), hF b hb 8 (by omega), tr_bag, tr_bag] at q
    exact (nI_eq (by omega) (by omega)).mp q
  · by_cases h8 : k = 8
    · rw [h8, hF a ha 8 (by omega), hF b hb 8 (by omega), tr_bag, tr_bag, h.1]
    · exact hS.mpr h.2 k (by omega)
/-- the first j with eqR, from j0 on, or none up to 100 -/
def fst1 (t : Tb) (i j0 j : Nat) : Prop := j0 ≤ j ∧ j ≤ 100 ∧ eqR t i (i + j) ∧ ∀ k, j0 ≤ k → k < j → ¬ eqR t i (i + k)
theorem q_ring_L47 {T : MT} {t : Tb} (hok : okT t) (b : Nat → Int32) {F : Nat → Int32} (hF : hT F 201 t) (x : Int32) {i : Nat} (hi : i ≤ 100) (kk : Option (Int32 × MT × (Nat → Int32) × (Nat → Int32))) : ∀ (d j fuel : Nat), j + d = 101 → d < fuel →
    (∃ j', fst1 t i j j' ∧ f_M_ring_L47 T b F x (nI i) kk fuel (nI j) = some (if x = 0 then nI i else nI j', T, b, F)) ∨ ((∀ k, j ≤ k → k ≤ 100 → ¬ eqR t i (i + k)) ∧ f_M_ring_L47 T b F x (nI i) kk fuel (nI j) = kk) := by
  intro d
  induction d with
  | zero =>
    intro j fuel hj hf
    obtain ⟨f, rfl, -⟩ := f_suc hf
    obtain rfl : j = 101 := by omega
    exact Or.inr ⟨fun k h1 h2 => absurd h2 (by omega), by rw [f_M_ring_L47, if_pos (by decide)]⟩
  | succ d ih =>
    intro j fuel hj hf
    obtain ⟨f, rfl, hf'⟩ := f_suc hf
    have g : ¬ (100 : Int32) < nI j := nI_nlt (a := 100) (by omega) (by omega)
    obtain ⟨q, e, h⟩ := q_same F i (i + j) 9 (by omega) (by omega)
    have hq := tr_eqR hok hF (show i < 201 by omega) (show i + j < 201 by omega)
    have e' : f_M_areSame F (nI i) (nI i + nI j) 9 = some q := by rw [nI_add]; exact e
    rw [f_M_ring_L47, if_neg g, e', Option.bind_some]
    rcases h with ⟨rfl, h⟩ | ⟨rfl, h⟩
    · rw [if_neg z10']
      refine Or.inl ⟨j, ⟨Nat.le_refl _, by omega, hq.mp h, fun k h1 h2 => absurd h1 (by omega)⟩, ?_⟩
      by_cases hx : x = 0
      · rw [if_pos hx, if_pos hx]
      · rw [if_neg hx, if_neg hx]
    · rw [if_pos rfl, nI_1]
      have hn : ¬ eqR t i (i + j) := fun z => h (hq.mpr z)
      rcases ih (j + 1) f (by omega) hf' with ⟨j', ⟨a1, a2, a3, a4⟩, a5⟩ | ⟨a1, a2⟩
      · refine Or.inl ⟨j', ⟨by omega, a2, a3, fun k h1 h2 => ?_⟩, a5⟩
        by_cases hk : k = j
        · rw [hk]; exact hn
        · exact a4 k (by omega) h2
      · refine Or.inr ⟨fun k h1 h2 => ?_, a2⟩
        by_cases hk : k = j
        · rw [hk]; exact hn
        · exact a1 k (by omega) h2
theorem q_ring_L39 {T : MT} {t : Tb} (hok : okT t) (b : Nat → Int32) {F : Nat → Int32} (hF : hT F 201 t) (x : Int32) : ∀ (d i fuel : Nat), i + d = 101 → d < fuel →
    (∃ i' j', i ≤ i' ∧ i' ≤ 100 ∧ fst1 t i' 1 j' ∧ (∀ k, i ≤ k → k < i' → ∀ j, 1 ≤ j → j ≤ 100 → ¬ eqR t k (k + j)) ∧ f_M_ring_L39 T b F x fuel (nI i) = some (if x = 0 then nI i' else nI j', T, b, F)) ∨ ((∀ k, i ≤ k → k ≤ 100 → ∀ j, 1 ≤ j → j ≤ 100 → ¬ eqR t k (k + j)) ∧ f_M_ring_L39 T b F x fuel (nI i) = some (-9, T, b, F)) := by
  intro d
  induction d with
  | zero =>
    intro i fuel hi hf
    obtain ⟨f, rfl, -⟩ := f_suc hf
    obtain rfl : i = 101 := by omega
    exact Or.inr ⟨fun k h1 h2 => absurd h2 (by omega), by rw [f_M_ring_L39, if_pos (by decide)]⟩
  | succ d ih =>
    intro i fuel hi hf
    obtain ⟨f, rfl, hf'⟩ := f_suc hf
    have g : ¬ (100 : Int32) < nI i := nI_nlt (a := 100) (by omega) (by omega)
    rw [f_M_ring_L39, if_neg g]
    rcases q_ring_L47 (T := T) hok b hF x (show i ≤ 100 by omega) (f_M_ring_L39 T b F x f (nI i + 1)) 100 1 FU (by omega) (by unfold FU; omega) with ⟨j', h1, h2⟩ | ⟨h1, h2⟩
    · exact Or.inl ⟨i, j', Nat.le_refl _, by omega, h1, fun k q1 q2 => absurd q1 (by omega), h2⟩
    · have h2 : f_M_ring_L47 T b F x (nI i) (f_M_ring_L39 T b F x f (nI i + 1)) FU 1 = f_M_ring_L39 T b F x f (nI i + 1) := h2
      rw [h2, nI_1]
      rcases ih (i + 1) f (by omega) hf' with ⟨i', j', a1, a2, a3, a4, a5⟩ | ⟨a1, a2⟩
      · refine Or.inl ⟨i', j', by omega, a2, a3, fun k q1 q2 => ?_, a5⟩
        by_cases hk : k = i
        · rw [hk]; exact fun j q3 q4 => h1 j q3 q4
        · exact a4 k (by omega) q2
      · refine Or.inr ⟨fun k q1 q2 => ?_, a2⟩
        by_cases hk : k = i
        · rw [hk]; exact fun j q3 q4 => h1 j q3 q4
        · exact a1 k (by omega) q2
