/-! Pure: RING. -/
def agr (t u : Tb) : Prop := tN t = tN u ∧ tOdd t = tOdd u ∧ tStep t = tStep u ∧ tBag t = tBag u ∧ ∀ c, c < tN t → tKd t c = tKd u c ∧ tSw t c = tSw u c
theorem agr_lf {t u : Tb} (h : agr t u) (c : Nat) : lf t c = lf u c := by unfold lf; rw [h.1, h.2.2.1]
theorem agr_rt {t u : Tb} (h : agr t u) (c : Nat) : rt t c = rt u c := by unfold rt; rw [h.1, h.2.2.1]
theorem agr_gf {t u : Tb} (h : agr t u) {c : Nat} (hc : c < tN t) : gf t c = gf u c := by
  have hl := lf_lt (t := t) (c := c) (by omega)
  have e1 := h.2.2.2.2 c hc
  have e2 := h.2.2.2.2 _ hl
  unfold gf
  rw [← agr_lf h c, e1.1, e1.2, e2.2]
theorem agr_out {t u : Tb} (h : agr t u) {c : Nat} (hc : c < tN t) : out t c = out u c := by
  unfold out
  rw [agr_gf h hc, (h.2.2.2.2 c hc).1]
theorem agr_hp {t u : Tb} (h : agr t u) : ∀ i, i ≤ tN t → ∀ c, c < tN t → hp t i c = hp u i c
  | 0, _, c, hc => by
    show (tSw t c : Int) = tSw u c
    rw [(h.2.2.2.2 c hc).2]
  | i + 1, hi, c, hc => by
    have e := agr_hp h i (by omega) c hc
    simp only [hp]
    rw [e, agr_out h (show i < tN t by omega), agr_gf h (show i < tN t by omega), agr_lf h, agr_rt h, (h.2.2.2.2 i (by omega)).1]
theorem agr_cp {t u : Tb} (h : agr t u) {c : Nat} (hc : c < tN t) : cp t c = cp u c := by
  unfold cp
  rw [agr_hp h (tN t) (Nat.le_refl _) c hc, h.1]
theorem agr_mdT {t u : Tb} (h : agr t u) {c : Nat} (hc : c < tN t) : agr (mdT t c) (mdT u c) := by
  obtain ⟨h1, h2, h3, h4, h5⟩ := h
  have e := (h5 c hc).2
  unfold mdT
  rw [← e, ← h2, ← h4]
  have hw : ∀ v, ∀ i, i < tN t → tKd t i = tKd u i ∧ updN (tSw t) c v i = updN (tSw u) c v i := by
    intro v i hi
    refine ⟨(h5 i hi).1, ?_⟩
    unfold updN
    rw [(h5 i hi).2]
  repeat' split
  · exact ⟨h1, rfl, h3, rfl, hw _⟩
  · exact ⟨h1, h2, h3, h4, h5⟩
  · exact ⟨h1, rfl, h3, rfl, hw _⟩
  · exact ⟨h1, h2, h3, h4, h5⟩
  · exact ⟨h1, h2, h3, h4, h5⟩
theorem agr_mds {t u : Tb} (h : agr t u) : ∀ c, c ≤ tN t → agr (mds t c) (mds u c)
  | 0, _ => h
  | c + 1, hc => agr_mdT (agr_mds h c (by omega)) (by rw [(mds_same t c).1]; omega)
theorem agr_stk {t u : Tb} (h : agr t u) : agr (stk t) (stk u) := by
  have h0 : agr (setSw t (cp t)) (setSw u (cp u)) := ⟨h.1, h.2.1, h.2.2.1, h.2.2.2.1, fun c hc => ⟨(h.2.2.2.2 c hc).1, agr_cp h hc⟩⟩
  have h1 := agr_mds h0 (tN t) (Nat.le_refl _)
  unfold stk
  rw [← h.1]
  exact h1
theorem agr_sq {t u : Tb} (h : agr t u) : ∀ k, agr (sq t k) (sq u k)
  | 0 => h
  | k + 1 => agr_stk (agr_sq h k)
/-- SWEETS and BAG behind a and behind b are the same -/
def eqR (t : Tb) (a b : Nat) : Prop := tBag (sq t a) = tBag (sq t b) ∧ eqS t a b
theorem eqR_agr {t : Tb} {a b : Nat} : eqR t a b ↔ agr (sq t a) (sq t b) := by
  have A := sq_same t a
  have B := sq_same t b
  refine ⟨fun h => ⟨A.1.trans B.1.symm, A.2.2.1.trans B.2.2.1.symm, A.2.2.2.trans B.2.2.2.symm, h.1, fun c hc => ⟨by rw [A.2.1, B.2.1], h.2 c (by rw [← A.1]; exact hc)⟩⟩, fun h => ⟨h.2.2.2.1, fun c hc => (h.2.2.2.2 c (by rw [A.1]; exact hc)).2⟩⟩
theorem eqR_rf (t : Tb) (a : Nat) : eqR t a a := ⟨rfl, fun _ _ => rfl⟩
theorem eqR_sy {t : Tb} {a b : Nat} (h : eqR t a b) : eqR t b a := ⟨h.1.symm, fun c hc => (h.2 c hc).symm⟩
theorem eqR_tr {t : Tb} {a b c : Nat} (h : eqR t a b) (g : eqR t b c) : eqR t a c := ⟨h.1.trans g.1, fun x hx => (h.2 x hx).trans (g.2 x hx)⟩
theorem eqR_sh {t : Tb} {a b : Nat} (h : eqR t a b) (k : Nat) : eqR t (a + k) (b + k) := by
  have h1 := agr_sq (eqR_agr.mp h) k
  rw [sq_add, sq_add] at h1
  exact eqR_agr.mpr h1
theorem eqR_mul {t : Tb} {i j : Nat} (h : eqR t i (i + j)) : ∀ k, eqR t i (i + k * j)
  | 0 => by rw [Nat.zero_mul]; exact eqR_rf t i
  | k + 1 => by
    have h1 := eqR_mul h k
    have h2 := eqR_sh h1 j
    rw [show i + (k + 1) * j = i + k * j + j by rw [Nat.add_mul]; omega]
    exact eqR_tr h h2
theorem eqR_per {t : Tb} {i j p : Nat} (hj : 0 < j) (hi : i ≤ 100) (h : eqR t i (i + j)) (hp : eqR t 100 (100 + p)) : eqR t i (i + p) := by
  have h1 := eqR_mul h 100
  have hge : 100 ≤ i + 100 * j := by
    have : 100 * 1 ≤ 100 * j := Nat.mul_le_mul_left _ hj
    omega
  obtain ⟨s, hs⟩ : ∃ s, i + 100 * j = 100 + s := ⟨i + 100 * j - 100, by omega⟩
  rw [hs] at h1
  have h2 := eqR_sh hp s
  have h3 := eqR_sh h1 p
  refine eqR_tr h1 (eqR_tr (b := 100 + p + s) h2 ?_)
  rw [show 100 + p + s = 100 + s + p by omega]
  exact eqR_sy h3
theorem tr_eqR {t : Tb} (hok : okT t) {F : Nat → Int32} {n a b : Nat} (hF : hT F n t) (ha : a < n) (hb : b < n) : (∀ k, k < 9 → F (9 * a + k) = F (9 * b + k)) ↔ eqR t a b := by
  have ba := (sq_ok hok a).2.2.2.2.2
  have bb := (sq_ok hok b).2.2.2.2.2
  have hS := tr_eqS hok hF ha hb
  refine ⟨fun h => ⟨?_, hS.mp (fun k hk => h k (by omega))⟩, fun h k hk => ?_⟩
  · have q := h 8 (by omega)
    rw [hF a ha 8 (by omega), hF b hb 8 (by omega), tr_bag, tr_bag] at q
    exact (nI_eq (by omega) (by omega)).mp q
  · by_cases h8 : k = 8
    · rw [h8, hF a ha 8 (by omega), hF b hb 8 (by omega), tr_bag, tr_bag, h.1]
    · exact hS.mpr h.2 k (by omega)
/-- the first j with eqR, from j0 on, or none up to 100 -/
def fst1 (t : Tb) (i j0 j : Nat) : Prop := j0 ≤ j ∧ j ≤ 100 ∧ eqR t i (i + j) ∧ ∀ k, j0 ≤ k → k < j → ¬ eqR t i (i + k)
theorem q_ring_L47 {T : MT} {t : Tb} (hok : okT t) (b : Nat → Int32) {F : Nat → Int32} (hF : hT F 201 t) (x : Int32) {i : Nat} (hi : i ≤ 100) (kk : Option (Int32 × MT × (Nat → Int32) × (Nat → Int32))) : ∀ (d j fuel : Nat), j + d = 101 → d < fuel →
    (∃ j', fst1 t i j j' ∧ f_M_ring_L47 T b F x (nI i) kk fuel (nI j) = some (if x = 0 then nI i else nI j', T, b, F)) ∨ ((∀ k, j ≤ k → k ≤ 100 → ¬ eqR t i (i + k)) ∧ f_M_ring_L47 T b F x (nI i) kk fuel (nI j) = kk) := by
  intro d
  induction d with
  | zero =>
    intro j fuel hj hf
    obtain ⟨f, rfl, -⟩ := f_suc hf
    obtain rfl : j = 101 := by omega
    exact Or.inr ⟨fun k h1 h2 => absurd h2 (by omega), by rw [f_M_ring_L47, if_pos (by decide)]⟩
  | succ d ih =>
    intro j fuel hj hf
    obtain ⟨f, rfl, hf'⟩ := f_suc hf
    have g : ¬ (100 : Int32) < nI j := nI_nlt (a := 100) (by omega) (by omega)
    obtain ⟨q, e, h⟩ := q_same F i (i + j) 9 (by omega) (by omega)
    have hq := tr_eqR hok hF (show i < 201 by omega) (show i + j < 201 by omega)
    have e' : f_M_areSame F (nI i) (nI i + nI j) 9 = some q := by rw [nI_add]; exact e
    rw [f_M_ring_L47, if_neg g, e', Option.bind_some]
    rcases h with ⟨rfl, h⟩ | ⟨rfl, h⟩
    · rw [if_neg z10']
      refine Or.inl ⟨j, ⟨Nat.le_refl _, by omega, hq.mp h, fun k h1 h2 => absurd h1 (by omega)⟩, ?_⟩
      by_cases hx : x = 0
      · rw [if_pos hx, if_pos hx]
      · rw [if_neg hx, if_neg hx]
    · rw [if_pos rfl, nI_1]
      have hn : ¬ eqR t i (i + j) := fun z => h (hq.mpr z)
      rcases ih (j + 1) f (by omega) hf' with ⟨j', ⟨a1, a2, a3, a4⟩, a5⟩ | ⟨a1, a2⟩
      · refine Or.inl ⟨j', ⟨by omega, a2, a3, fun k h1 h2 => ?_⟩, a5⟩
        by_cases hk : k = j
        · rw [hk]; exact hn
        · exact a4 k (by omega) h2
      · refine Or.inr ⟨fun k h1 h2 => ?_, a2⟩
        by_cases hk : k = j
        · rw [hk]; exact hn
        · exact a1 k (by omega) h2
theorem q_ring_L39 {T : MT} {t : Tb} (hok : okT t) (b : Nat → Int32) {F : Nat → Int32} (hF : hT F 201 t) (x : Int32) : ∀ (d i fuel : Nat), i + d = 101 → d < fuel →
    (∃ i' j', i ≤ i' ∧ i' ≤ 100 ∧ fst1 t i' 1 j' ∧ (∀ k, i ≤ k → k < i' → ∀ j, 1 ≤ j → j ≤ 100 → ¬ eqR t k (k + j)) ∧ f_M_ring_L39 T b F x fuel (nI i) = some (if x = 0 then nI i' else nI j', T, b, F)) ∨ ((∀ k, i ≤ k → k ≤ 100 → ∀ j, 1 ≤ j → j ≤ 100 → ¬ eqR t k (k + j)) ∧ f_M_ring_L39 T b F x fuel (nI i) = some (-9, T, b, F)) := by
  intro d
  induction d with
  | zero =>
    intro i fuel hi hf
    obtain ⟨f, rfl, -⟩ := f_suc hf
    obtain rfl : i = 101 := by omega
    exact Or.inr ⟨fun k h1 h2 => absurd h2 (by omega), by rw [f_M_ring_L39, if_pos (by decide)]⟩
  | succ d ih =>
    intro i fuel hi hf
    obtain ⟨f, rfl, hf'⟩ := f_suc hf
    have g : ¬ (100 : Int32) < nI i := nI_nlt (a := 100) (by omega) (by omega)
    rw [f_M_ring_L39, if_neg g]
    rcases q_ring_L47 (T := T) hok b hF x (show i ≤ 100 by omega) (f_M_ring_L39 T b F x f (nI i + 1)) 100 1 FU (by omega) (by unfold FU; omega) with ⟨j', h1, h2⟩ | ⟨h1, h2⟩
    · exact Or.inl ⟨i, j', Nat.le_refl _, by omega, h1, fun k q1 q2 => absurd q1 (by omega), h2⟩
    · have h2 : f_M_ring_L47 T b F x (nI i) (f_M_ring_L39 T b F x f (nI i + 1)) FU 1 = f_M_ring_L39 T b F x f (nI i + 1) := h2
      rw [h2, nI_1]
      rcases ih (i + 1) f (by omega) hf' with ⟨i', j', a1, a2, a3, a4, a5⟩ | ⟨a1, a2⟩
      · refine Or.inl ⟨i', j', by omega, a2, a3, fun k q1 q2 => ?_, a5⟩
        by_cases hk : k = i
        · rw [hk]; exact fun j q3 q4 => h1 j q3 q4
        · exact a4 k (by omega) q2
      · refine Or.inr ⟨fun k q1 q2 => ?_, a2⟩
        by_cases hk : k = i
        · rw [hk]; exact fun j q3 q4 => h1 j q3 q4
        · exact a1 k (by omega) q2
theorem p_hasB {z g : RS} {t1 t2 : Tb} (h1 : rX z t1) (h2 : rX g t2) (o1 : okT t1) (o2 : okT t2) (hN : tN t2 = tN t1) : ∃ q, f_Ring_hasSweetsAndBagOf z g = some q ∧ ((q = 1 ∧ tBag t1 = tBag t2 ∧ ∀ c, c < tN t1 → tSw t1 c = tSw t2 c) ∨ (q = 0 ∧ ¬ (tBag t1 = tBag t2 ∧ ∀ c, c < tN t1 → tSw t1 c = tSw t2 c))) := by
  have b1 := o1.2.2.2.2.2
  have b2 := o2.2.2.2.2.2
  obtain ⟨q, e, h⟩ := p_hasS h1 h2 o1 o2 hN
  unfold f_Ring_hasSweetsAndBagOf
  rw [h1.2.2.2.2.1, h2.2.2.2.2.1]
  by_cases hb : tBag t1 = tBag t2
  · rw [if_pos (congrArg nI hb), e, Option.bind_some]
    rcases h with ⟨rfl, h⟩ | ⟨rfl, h⟩
    · exact ⟨1, if_neg z10', Or.inl ⟨rfl, hb, h⟩⟩
    · exact ⟨0, if_pos rfl, Or.inr ⟨rfl, fun z => h z.2⟩⟩
  · rw [if_neg (fun z => hb ((nI_eq (by omega) (by omega)).mp z))]
    exact ⟨0, rfl, Or.inr ⟨rfl, fun z => hb z.1⟩⟩
theorem p_eqR {z g : RS} {t : Tb} {a b : Nat} (h1 : rX z (sq t a)) (h2 : rX g (sq t b)) (hok : okT t) : ∃ q, f_Ring_hasSweetsAndBagOf z g = some q ∧ ((q = 1 ∧ eqR t a b) ∨ (q = 0 ∧ ¬ eqR t a b)) := by
  have A := (sq_same t a).1
  obtain ⟨q, e, h⟩ := p_hasB h1 h2 (sq_ok hok a) (sq_ok hok b) ((sq_same t b).1.trans A.symm)
  refine ⟨q, e, ?_⟩
  rcases h with ⟨h, h3⟩ | ⟨h, h3⟩
  · exact Or.inl ⟨h, h3.1, fun c hc => h3.2 c (by rw [A]; exact hc)⟩
  · exact Or.inr ⟨h, fun z => h3 ⟨z.1, fun c hc => z.2 c (by rw [← A]; exact hc)⟩⟩
theorem p_round_L {t : Tb} (hok : okT t) {one : RS} (h1 : rX one (sq t 100)) : ∀ (d m fuel : Nat) (two : RS), m + d = 101 → 1 ≤ m → d < fuel → rX two (sq t (100 + (m - 1))) →
    (∃ p two', fst1 t 100 m p ∧ f_Mind_roundOf_L30 one fuel two (nI m) = some (nI p, one, two')) ∨ ((∀ k, m ≤ k → k ≤ 100 → ¬ eqR t 100 (100 + k)) ∧ ∃ two', f_Mind_roundOf_L30 one fuel two (nI m) = some (-9, one, two')) := by
  intro d
  induction d with
  | zero =>
    intro m fuel two hm h0 hf h2
    obtain ⟨f, rfl, -⟩ := f_suc hf
    obtain rfl : m = 101 := by omega
    exact Or.inr ⟨fun k h1 h2 => absurd h2 (by omega), two, by rw [f_Mind_roundOf_L30, if_pos (by decide)]⟩
  | succ d ih =>
    intro m fuel two hm h0 hf h2
    obtain ⟨f, rfl, hf'⟩ := f_suc hf
    have g : ¬ (100 : Int32) < nI m := nI_nlt (a := 100) (by omega) (by omega)
    obtain ⟨z1, e1, r1⟩ := p_strike h2 (sq_ok hok _)
    have r1 : rX z1 (sq t (100 + m)) := by
      have := r1
      rw [show 100 + m = 100 + (m - 1) + 1 by omega]
      exact this
    obtain ⟨q, e2, h⟩ := p_eqR r1 h1 hok
    rw [f_Mind_roundOf_L30, if_neg g, e1, Option.bind_some]
    show (∃ p two', fst1 t 100 m p ∧ (f_Ring_hasSweetsAndBagOf z1 one).bind _ = some (nI p, one, two')) ∨ _ ∧ ∃ two', (f_Ring_hasSweetsAndBagOf z1 one).bind _ = some (-9, one, two')
    rw [e2, Option.bind_some]
    rcases h with ⟨rfl, h⟩ | ⟨rfl, h⟩
    · rw [if_neg z10']
      exact Or.inl ⟨m, z1, ⟨Nat.le_refl _, by omega, eqR_sy h, fun k q1 q2 => absurd q1 (by omega)⟩, rfl⟩
    · rw [if_pos rfl, nI_1]
      have hn : ¬ eqR t 100 (100 + m) := fun z => h (eqR_sy z)
      rcases ih (m + 1) f z1 (by omega) (by omega) hf' r1 with ⟨p, w, ⟨a1, a2, a3, a4⟩, a5⟩ | ⟨a1, a2⟩
      · refine Or.inl ⟨p, w, ⟨by omega, a2, a3, fun k q1 q2 => ?_⟩, a5⟩
        by_cases hk : k = m
        · rw [hk]; exact hn
        · exact a4 k (by omega) q2
      · refine Or.inr ⟨fun k q1 q2 => ?_, a2⟩
        by_cases hk : k = m
        · rw [hk]; exact hn
        · exact a1 k (by omega) q2
theorem p_ahead_L {t : Tb} (hok : okT t) (p : Nat) : ∀ (d i fuel : Nat) (one two : RS), i + d = 101 → d < fuel → rX one (sq t i) → rX two (sq t (p + i)) →
    ∃ one' two', f_Mind_aheadOfRound_L26 fuel one two (nI i) = some (fnd (fun n => eqR t (p + n) n) d i, one', two') := by
  intro d
  induction d with
  | zero =>
    intro i fuel one two hi hf _ _
    obtain ⟨f, rfl, -⟩ := f_suc hf
    obtain rfl : i = 101 := by omega
    exact ⟨one, two, by rw [f_Mind_aheadOfRound_L26, if_pos (by decide)]; rfl⟩
  | succ d ih =>
    intro i fuel one two hi hf h1 h2
    obtain ⟨f, rfl, hf'⟩ := f_suc hf
    have g : ¬ (100 : Int32) < nI i := nI_nlt (a := 100) (by omega) (by omega)
    obtain ⟨q, e2, h⟩ := p_eqR h2 h1 hok
    rw [f_Mind_aheadOfRound_L26, if_neg g, e2, Option.bind_some]
    rcases h with ⟨rfl, h⟩ | ⟨rfl, h⟩
    · rw [if_neg z10', fnd_pos (p := fun n => eqR t (p + n) n) d h]
      exact ⟨one, two, rfl⟩
    · obtain ⟨z1, e1, r1⟩ := p_strike h1 (sq_ok hok _)
      obtain ⟨z2, e3, r2⟩ := p_strike h2 (sq_ok hok _)
      rw [if_pos rfl, e1, Option.bind_some, e3, Option.bind_some, fnd_neg (p := fun n => eqR t (p + n) n) d h, nI_1]
      exact ih (i + 1) f z1 z2 (by omega) hf' r1 r2
theorem fnd_is {p : Nat → Prop} {j : Nat} (hp : p j) : ∀ (d i : Nat), i ≤ j → j < i + d → (∀ k, i ≤ k → k < j → ¬ p k) → fnd p d i = nI j := by
  intro d
  induction d with
  | zero => intro i h1 h2 _; omega
  | succ d ih =>
    intro i h1 h2 h3
    by_cases h : i = j
    · rw [h]; exact fnd_pos d hp
    · rw [fnd_neg d (h3 i (Nat.le_refl _) (by omega))]
      exact ih (i + 1) (by omega) (by omega) (fun k a b => h3 k (by omega) b)
theorem n9 {k : Nat} (h : k < 2 ^ 31) : ¬ nI k = (-9 : Int32) := by
  intro q
  have h1 := nI_toInt h
  rw [q] at h1
  have h2 : (-9 : Int32).toInt = -9 := by decide
  omega
theorem l100 : (100 : Int32) = nI 100 := rfl
theorem nI_one : nI 1 = 1 := rfl
theorem e_ring {now one two : RS} {T : MT} {t : Tb} {a b F : Nat → Int32} (hX : rX now t) (hM : rM T t) (hok : okT t) (hr : rf a b) (x : Int32) : ∃ r a' one' two' T' b' F', f_X_ring now a one two x = some (r, a', one', two') ∧ f_M_ring T b F x = some (r, T', b', F') ∧ BK T T' t ∧ rf a' b' := by
  have hn := hok.1
  unfold f_X_ring f_M_ring
  rw [hX.1, hM.1]
  have hno3 : tN t = 0 → ∃ r a' one' two' T' b' F', (f_X_refuse a (-3)).bind (fun q8 => some (q8.1, q8.2, one, two)) = some (r, a', one', two') ∧ (f_M_no b (-3)).bind (fun q11 => some (q11.1, T, q11.2, F)) = some (r, T', b', F') ∧ BK T T' t ∧ rf a' b' := by
    intro _
    obtain ⟨a', b', e1, e2, h⟩ := no3 hr
    rw [e1, Option.bind_some, e2, Option.bind_some]
    exact ⟨_, a', one, two, T, b', F, rfl, rfl, ⟨hM, fun _ _ => rfl⟩, h⟩
  have main : ∀ (hx : x = 0 ∨ x = 1), 0 < tN t → ∃ r a' one' two' T' b' F', ((f_Mind_roundOf one two now).bind fun q4 => if q4.1 = (-9) then some (q4.1, a, q4.2.1, q4.2.2) else if x = 1 then some (q4.1, a, q4.2.1, q4.2.2) else (f_Mind_aheadOfRound q4.2.1 q4.2.2 now q4.1).bind fun q7 => some (q7.1, a, q7.2.1, q7.2.2)) = some (r, a', one', two') ∧ ((f_M_writesTrail T F 200).bind fun q4 => f_M_ring_L39 q4.1 b q4.2 x FU 0) = some (r, T', b', F') ∧ BK T T' t ∧ rf a' b' := by
    intro hx h0
    obtain ⟨T1, F1, e4, k4, h4⟩ := q_trail hM hok F 200 (by omega)
    rw [l200, e4, Option.bind_some]
    obtain ⟨z1, z2, e1, e2, r1, r2⟩ := p_mind one hX hok 100 (by omega)
    obtain ⟨z3, e3, r3⟩ := p_copyFrom two z2 r2 (sq_ok hok 100)
    unfold f_Mind_roundOf
    rw [e1, Option.bind_some, l100, e2, Option.bind_some, e3, Option.bind_some]
    have hMr := q_ring_L39 (T := T1) hok b h4 x 101 0 FU (by omega) (by unfold FU; omega)
    rcases p_round_L hok r2 100 1 FU z3 (by omega) (by omega) (by unfold FU; omega) r3 with ⟨p, w, ⟨a1, a2, a3, a4⟩, a5⟩ | ⟨a1, w, a2⟩
    · have a5 : f_Mind_roundOf_L30 z2 FU z3 1 = some (nI p, z2, w) := a5
      rw [a5, Option.bind_some]
      have hp1 : 1 ≤ p := a1
      have hex : ∀ k, k ≤ 100 → ∀ j, 1 ≤ j → j ≤ 100 → eqR t k (k + j) → eqR t k (k + p) := fun k hk j hj _ he => eqR_per hj hk he a3
      rcases hMr with ⟨i', j', b1, b2, ⟨c1, c2, c3, c4⟩, b4, b5⟩ | ⟨b1, b2⟩
      · have hip := hex i' b2 j' c1 c2 c3
        have hjp : j' = p := by
          rcases Nat.lt_trichotomy j' p with h | h | h
          · have q := eqR_sh c3 (100 - i')
            rw [show i' + (100 - i') = 100 by omega, show i' + j' + (100 - i') = 100 + j' by omega] at q
            exact absurd q (a4 j' c1 h)
          · exact h
          · exact absurd hip (c4 p hp1 h)
        have g9 : ¬ nI p = (-9 : Int32) := n9 (by omega)
        rcases hx with rfl | rfl
        · obtain ⟨z4, f1, s1⟩ := p_copyFrom z2 now hX hok
          obtain ⟨z5, f2, s2⟩ := p_copyFrom w now hX hok
          obtain ⟨z6, f3, s3⟩ := p_strikeOften s2 hok p (by omega)
          obtain ⟨o', w', f4⟩ := p_ahead_L hok p 101 0 FU z4 z6 (by omega) (by unfold FU; omega) s1 s3
          have hf : fnd (fun n => eqR t (p + n) n) 101 0 = nI i' := fnd_is (p := fun n => eqR t (p + n) n) (by
            show eqR t (p + i') i'
            rw [Nat.add_comm]
            exact eqR_sy hip) 101 0 (by omega) (by omega) (fun k q1 q2 q3 => b4 k q1 q2 p hp1 a2 (by
            have q3 : eqR t (p + k) k := q3
            rw [Nat.add_comm] at q3
            exact eqR_sy q3))
          unfold f_Mind_aheadOfRound
          rw [if_neg g9, if_neg (by decide), f1, Option.bind_some, f2, Option.bind_some, f3, Option.bind_some, ← nI_0, f4, Option.bind_some, hf]
          refine ⟨_, a, o', w', T1, b, F1, rfl, ?_, k4.bk, hr⟩
          rw [if_pos rfl] at b5
          exact b5
        · rw [if_neg g9, if_pos rfl]
          refine ⟨_, a, z2, w, T1, b, F1, rfl, ?_, k4.bk, hr⟩
          rw [if_neg (by decide), hjp] at b5
          exact b5
      · exact absurd a3 (b1 100 (by omega) (by omega) p hp1 a2)
    · have a2 : f_Mind_roundOf_L30 z2 FU z3 1 = some (-9, z2, w) := a2
      rw [a2, Option.bind_some, if_pos rfl]
      rcases hMr with ⟨i', j', b1, b2, ⟨c1, c2, c3, c4⟩, b4, b5⟩ | ⟨b1, b2⟩
      · have q := eqR_sh c3 (100 - i')
        rw [show i' + (100 - i') = 100 by omega, show i' + j' + (100 - i') = 100 + j' by omega] at q
        exact absurd q (a1 j' c1 c2)
      · exact ⟨_, a, z2, w, T1, b, F1, rfl, b2, k4.bk, hr⟩
  rcases part01 x with ⟨p1, p2⟩ | ⟨hx, p1, p2⟩ | ⟨hx, p1, p2⟩
  · obtain ⟨a', b', e1, e2, h⟩ := no2 hr
    rw [p1, Option.bind_some, if_pos rfl, p2, Option.bind_some, if_pos rfl, e1, Option.bind_some, e2, Option.bind_some]
    exact ⟨_, a', one, two, T, b', F, rfl, rfl, ⟨hM, fun _ _ => rfl⟩, h⟩
  all_goals
    rw [p1, Option.bind_some, if_neg z10', p2, Option.bind_some, if_neg z10']
    by_cases h0 : tN t = 0
    · rw [h0, if_pos nI_0, if_pos nI_0]
      exact hno3 h0
    · have g := nI_ne0 (n := tN t) (by omega) (by omega)
      rw [if_neg g, if_neg g]
      exact main (by first | exact Or.inl hx | exact Or.inr hx) (by omega)
