/-! Pure: RING. -/
def agr (t u : Tb) : Prop := tN t = tN u ∧ tOdd t = tOdd u ∧ tStep t = tStep u ∧ tBag t = tBag u ∧ ∀ c, c < tN t → tKd t c = tKd u c ∧ tSw t c = tSw u c
theorem agr_lf {t u : Tb} (h : agr t u) (c : Nat) : lf t c = lf u c := by unfold lf; rw [h.1, h.2.2.1]
theorem agr_rt {t u : Tb} (h : agr t u) (c : Nat) : rt t c = rt u c := by unfold rt; rw [h.1, h.2.2.1]
theorem agr_gf {t u : Tb} (h : agr t u) {c : Nat} (hc : c < tN t) : gf t c = gf u c := by
  have hl := lf_lt (t := t) (c := c) (by omega)
  have e1 := h.2.2.2.2 c hc
  have e2 := h.2.2.2.2 _ hl
  unfold gf
  rw [← agr_lf h c, e1.1, e1.2, e2.2]
theorem agr_out {t u : Tb} (h : agr t u) {c : Nat} (hc : c < tN t) : out t c = out u c := by
  unfold out
  rw [agr_gf h hc, (h.2.2.2.2 c hc).1]
theorem agr_hp {t u : Tb} (h : agr t u) : ∀ i, i ≤ tN t → ∀ c, c < tN t → hp t i c = hp u i c
  | 0, _, c, hc => by
    show (tSw t c : Int) = tSw u c
    rw [(h.2.2.2.2 c hc).2]
  | i + 1, hi, c, hc => by
    have e := agr_hp h i (by omega) c hc
    simp only [hp]
    rw [e, agr_out h (show i < tN t by omega), agr_gf h (show i < tN t by omega), agr_lf h, agr_rt h, (h.2.2.2.2 i (by omega)).1]
theorem agr_cp {t u : Tb} (h : agr t u) {c : Nat} (hc : c < tN t) : cp t c = cp u c := by
  unfold cp
  rw [agr_hp h (tN t) (Nat.le_refl _) c hc, h.1]
theorem agr_mdT {t u : Tb} (h : agr t u) {c : Nat} (hc : c < tN t) : agr (mdT t c) (mdT u c) := by
  obtain ⟨h1, h2, h3, h4, h5⟩ := h
  have e := (h5 c hc).2
  unfold mdT
  rw [← e, ← h2, ← h4]
  have hw : ∀ v, ∀ i, i < tN t → tKd t i = tKd u i ∧ updN (tSw t) c v i = updN (tSw u) c v i := by
    intro v i hi
    refine ⟨(h5 i hi).1, ?_⟩
    unfold updN
    rw [(h5 i hi).2]
  repeat' split
  · exact ⟨h1, rfl, h3, rfl, hw _⟩
  · exact ⟨h1, h2, h3, h4, h5⟩
  · exact ⟨h1, rfl, h3, rfl, hw _⟩
  · exact ⟨h1, h2, h3, h4, h5⟩
  · exact ⟨h1, h2, h3, h4, h5⟩
theorem agr_mds {t u : Tb} (h : agr t u) : ∀ c, c ≤ tN t → agr (mds t c) (mds u c)
  | 0, _ => h
  | c + 1, hc => agr_mdT (agr_mds h c (by omega)) (by rw [(mds_same t c).1]; omega)
theorem agr_stk {t u : Tb} (h : agr t u) : agr (stk t) (stk u) := by
  have h0 : agr (setSw t (cp t)) (setSw u (cp u)) := ⟨h.1, h.2.1, h.2.2.1, h.2.2.2.1, fun c hc => ⟨(h.2.2.2.2 c hc).1, agr_cp h hc⟩⟩
  have h1 := agr_mds h0 (tN t) (Nat.le_refl _)
  unfold stk
  rw [← h.1]
  exact h1
theorem agr_sq {t u : Tb} (h : agr t u) : ∀ k, agr (sq t k) (sq u k)
  | 0 => h
  | k + 1 => agr_stk (agr_sq h k)
/-- SWEETS and BAG behind a and behind b are the same -/
def eqR (t : Tb) (a b : Nat) : Prop := tBag (sq t a) = tBag (sq t b) ∧ eqS t a b
theorem eqR_agr {t : Tb} {a b : Nat} : eqR t a b ↔ agr (sq t a) (sq t b) := by
  have A := sq_same t a
  have B := sq_same t b
  refine ⟨fun h => ⟨A.1.trans B.1.symm, A.2.2.1.trans B.2.2.1.symm, A.2.2.2.trans B.2.2.2.symm, h.1, fun c hc => ⟨by rw [A.2.1, B.2.1], h.2 c (by rw [← A.1]; exact hc)⟩⟩, fun h => ⟨h.2.2.2.1, fun c hc => (h.2.2.2.2 c (by rw [A.1]; exact hc)).2⟩⟩
theorem eqR_rf (t : Tb) (a : Nat) : eqR t a a := ⟨rfl, fun _ _ => rfl⟩
theorem eqR_sy {t : Tb} {a b : Nat} (h : eqR t a b) : eqR t b a := ⟨h.1.symm, fun c hc => (h.2 c hc).symm⟩
theorem eqR_tr {t : Tb} {a b c : Nat} (h : eqR t a b) (g : eqR t b c) : eqR t a c := ⟨h.1.trans g.1, fun x hx => (h.2 x hx).trans (g.2 x hx)⟩
theorem eqR_sh {t : Tb} {a b : Nat} (h : eqR t a b) (k : Nat) : eqR t (a + k) (b + k) := by
  have h1 := agr_sq (eqR_agr.mp h) k
  rw [sq_add, sq_add] at h1
  exact eqR_agr.mpr h1
theorem eqR_mul {t : Tb} {i j : Nat} (h : eqR t i (i + j)) : ∀ k, eqR t i (i + k * j)
  | 0 => by rw [Nat.zero_mul]; exact eqR_rf t i
  | k + 1 => by
    have h1 := eqR_mul h k
    have h2 := eqR_sh h1 j
    rw [show i + (k + 1) * j = i + k * j + j by rw [Nat.add_mul]; omega]
    exact eqR_tr h h2
theorem eqR_per {t : Tb} {i j p : Nat} (hj : 0 < j) (hi : i ≤ 100) (h : eqR t i (i + j)) (hp : eqR t 100 (100 + p)) : eqR t i (i + p) := by
  have h1 := eqR_mul h 100
  have hge : 100 ≤ i + 100 * j := by
    have : 100 * 1 ≤ 100 * j := Nat.mul_le_mul_left _ hj
    omega
  obtain ⟨s, hs⟩ : ∃ s, i + 100 * j = 100 + s := ⟨i + 100 * j - 100, by omega⟩
  rw [hs] at h1
  have h2 := eqR_sh hp s
  have h3 := eqR_sh h1 p
  refine eqR_tr h1 (eqR_tr (b := 100 + p + s) h2 ?_)
  rw [show 100 + p + s = 100 + s + p by omega]
  exact eqR_sy h3
/-- the first j with eqR, from j0 on, or none up to 100 -/
def fst1 (t : Tb) (i j0 j : Nat) : Prop := j0 ≤ j ∧ j ≤ 100 ∧ eqR t i (i + j) ∧ ∀ k, j0 ≤ k → k < j → ¬ eqR t i (i + k)
theorem p_hasB {z g : RS} {t1 t2 : Tb} (h1 : rX z t1) (h2 : rX g t2) (o1 : okT t1) (o2 : okT t2) (hN : tN t2 = tN t1) : ∃ q, f_Ring_hasSweetsAndBagOf z g = some q ∧ ((q = 1 ∧ tBag t1 = tBag t2 ∧ ∀ c, c < tN t1 → tSw t1 c = tSw t2 c) ∨ (q = 0 ∧ ¬ (tBag t1 = tBag t2 ∧ ∀ c, c < tN t1 → tSw t1 c = tSw t2 c))) := by
  have b1 := o1.2.2.2.2.2
  have b2 := o2.2.2.2.2.2
  obtain ⟨q, e, h⟩ := p_hasS h1 h2 o1 o2 hN
  unfold f_Ring_hasSweetsAndBagOf
  rw [h1.2.2.2.2.1, h2.2.2.2.2.1]
  by_cases hb : tBag t1 = tBag t2
  · rw [if_pos (congrArg nI hb), e, Option.bind_some]
    rcases h with ⟨rfl, h⟩ | ⟨rfl, h⟩
    · exact ⟨1, if_neg z10', Or.inl ⟨rfl, hb, h⟩⟩
    · exact ⟨0, if_pos rfl, Or.inr ⟨rfl, fun z => h z.2⟩⟩
  · rw [if_neg (fun z => hb ((nI_eq (by omega) (by omega)).mp z))]
    exact ⟨0, rfl, Or.inr ⟨rfl, fun z => hb z.1⟩⟩
theorem p_eqR {z g : RS} {t : Tb} {a b : Nat} (h1 : rX z (sq t a)) (h2 : rX g (sq t b)) (hok : okT t) : ∃ q, f_Ring_hasSweetsAndBagOf z g = some q ∧ ((q = 1 ∧ eqR t a b) ∨ (q = 0 ∧ ¬ eqR t a b)) := by
  have A := (sq_same t a).1
  obtain ⟨q, e, h⟩ := p_hasB h1 h2 (sq_ok hok a) (sq_ok hok b) ((sq_same t b).1.trans A.symm)
  refine ⟨q, e, ?_⟩
  rcases h with ⟨h, h3⟩ | ⟨h, h3⟩
  · exact Or.inl ⟨h, h3.1, fun c hc => h3.2 c (by rw [A]; exact hc)⟩
  · exact Or.inr ⟨h, fun z => h3 ⟨z.1, fun c hc => z.2 c (by rw [← A]; exact hc)⟩⟩
theorem p_round_L {t : Tb} (hok : okT t) {one : RS} (h1 : rX one (sq t 100)) : ∀ (d m fuel : Nat) (two : RS), m + d = 101 → 1 ≤ m → d < fuel → rX two (sq t (100 + (m - 1))) →
    (∃ p two', fst1 t 100 m p ∧ f_Mind_roundOf_L30 one fuel two (nI m) = some (nI p, one, two')) ∨ ((∀ k, m ≤ k → k ≤ 100 → ¬ eqR t 100 (100 + k)) ∧ ∃ two', f_Mind_roundOf_L30 one fuel two (nI m) = some (-9, one, two')) := by
  intro d
  induction d with
  | zero =>
    intro m fuel two hm h0 hf h2
    obtain ⟨f, rfl, -⟩ := f_suc hf
    obtain rfl : m = 101 := by omega
    exact Or.inr ⟨fun k h1 h2 => absurd h2 (by omega), two, by rw [f_Mind_roundOf_L30, if_pos (by decide)]⟩
  | succ d ih =>
    intro m fuel two hm h0 hf h2
    obtain ⟨f, rfl, hf'⟩ := f_suc hf
    have g : ¬ (100 : Int32) < nI m := nI_nlt (a := 100) (by omega) (by omega)
    obtain ⟨z1, e1, r1⟩ := p_strike h2 (sq_ok hok _)
    have r1 : rX z1 (sq t (100 + m)) := by
      have := r1
      rw [show 100 + m = 100 + (m - 1) + 1 by omega]
      exact this
    obtain ⟨q, e2, h⟩ := p_eqR r1 h1 hok
    rw [f_Mind_roundOf_L30, if_neg g, e1, Option.bind_some]
    show (∃ p two', fst1 t 100 m p ∧ (f_Ring_hasSweetsAndBagOf z1 one).bind _ = some (nI p, one, two')) ∨ _ ∧ ∃ two', (f_Ring_hasSweetsAndBagOf z1 one).bind _ = some (-9, one, two')
    rw [e2, Option.bind_some]
    rcases h with ⟨rfl, h⟩ | ⟨rfl, h⟩
    · rw [if_neg z10']
      exact Or.inl ⟨m, z1, ⟨Nat.le_refl _, by omega, eqR_sy h, fun k q1 q2 => absurd q1 (by omega)⟩, rfl⟩
    · rw [if_pos rfl, nI_1]
      have hn : ¬ eqR t 100 (100 + m) := fun z => h (eqR_sy z)
      rcases ih (m + 1) f z1 (by omega) (by omega) hf' r1 with ⟨p, w, ⟨a1, a2, a3, a4⟩, a5⟩ | ⟨a1, a2⟩
      · refine Or.inl ⟨p, w, ⟨by omega, a2, a3, fun k q1 q2 => ?_⟩, a5⟩
        by_cases hk : k = m
        · rw [hk]; exact hn
        · exact a4 k (by omega) q2
      · refine Or.inr ⟨fun k q1 q2 => ?_, a2⟩
        by_cases hk : k = m
        · rw [hk]; exact hn
        · exact a1 k (by omega) q2
theorem p_ahead_L {t : Tb} (hok : okT t) (p : Nat) : ∀ (d i fuel : Nat) (one two : RS), i + d = 101 → d < fuel → rX one (sq t i) → rX two (sq t (p + i)) →
    ∃ one' two', f_Mind_aheadOfRound_L26 fuel one two (nI i) = some (fnd (fun n => eqR t (p + n) n) d i, one', two') := by
  intro d
  induction d with
  | zero =>
    intro i fuel one two hi hf _ _
    obtain ⟨f, rfl, -⟩ := f_suc hf
    obtain rfl : i = 101 := by omega
    exact ⟨one, two, by rw [f_Mind_aheadOfRound_L26, if_pos (by decide)]; rfl⟩
  | succ d ih =>
    intro i fuel one two hi hf h1 h2
    obtain ⟨f, rfl, hf'⟩ := f_suc hf
    have g : ¬ (100 : Int32) < nI i := nI_nlt (a := 100) (by omega) (by omega)
    obtain ⟨q, e2, h⟩ := p_eqR h2 h1 hok
    rw [f_Mind_aheadOfRound_L26, if_neg g, e2, Option.bind_some]
    rcases h with ⟨rfl, h⟩ | ⟨rfl, h⟩
    · rw [if_neg z10', fnd_pos (p := fun n => eqR t (p + n) n) d h]
      exact ⟨one, two, rfl⟩
    · obtain ⟨z1, e1, r1⟩ := p_strike h1 (sq_ok hok _)
      obtain ⟨z2, e3, r2⟩ := p_strike h2 (sq_ok hok _)
      rw [if_pos rfl, e1, Option.bind_some, e3, Option.bind_some, fnd_neg (p := fun n => eqR t (p + n) n) d h, nI_1]
      exact ih (i + 1) f z1 z2 (by omega) hf' r1 r2
theorem fnd_is {p : Nat → Prop} {j : Nat} (hp : p j) : ∀ (d i : Nat), i ≤ j → j < i + d → (∀ k, i ≤ k → k < j → ¬ p k) → fnd p d i = nI j := by
  intro d
  induction d with
  | zero => intro i h1 h2 _; omega
  | succ d ih =>
    intro i h1 h2 h3
    by_cases h : i = j
    · rw [h]; exact fnd_pos d hp
    · rw [fnd_neg d (h3 i (Nat.le_refl _) (by omega))]
      exact ih (i + 1) (by omega) (by omega) (fun k a b => h3 k (by omega) b)
theorem n9 {k : Nat} (h : k < 2 ^ 31) : ¬ nI k = (-9 : Int32) := by
  intro q
  have h1 := nI_toInt h
  rw [q] at h1
  have h2 : (-9 : Int32).toInt = -9 := by decide
  omega
theorem l100 : (100 : Int32) = nI 100 := rfl
theorem nI_one : nI 1 = 1 := rfl
