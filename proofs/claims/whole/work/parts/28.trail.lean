/-! Pure: the reference's trail; searches for the first number. -/
def BK2 (T T' : MT) (t : Tb) : Prop := rM T' t ∧ ∀ j, j < 30 ∨ 53 ≤ j → m_kept T' j = m_kept T j
theorem BK2.bk {T T' : MT} {t : Tb} (h : BK2 T T' t) : BK T T' t := ⟨h.1, fun j hj => h.2 j (Or.inl (by omega))⟩
noncomputable def fnd (p : Nat → Prop) : Nat → Nat → Int32
  | 0, _ => -9
  | d + 1, i => @ite _ (p i) (Classical.propDecidable (p i)) (nI i) (fnd p d (i + 1))
theorem fnd_pos {p : Nat → Prop} {i : Nat} (d : Nat) (h : p i) : fnd p (d + 1) i = nI i := if_pos h
theorem fnd_neg {p : Nat → Prop} {i : Nat} (d : Nat) (h : ¬ p i) : fnd p (d + 1) i = fnd p d (i + 1) := if_neg h
def tr (t : Tb) (k c : Nat) : Int32 := if c = 8 then nI (tBag (sq t k)) else if c < tN t then nI (tSw (sq t k) c) else 0
def hT (trail : Nat → Int32) (n : Nat) (t : Tb) : Prop := ∀ k, k < n → ∀ c, c ≤ 8 → trail (9 * k + c) = tr t k c
theorem nine (k c : Nat) : (9 : Int32) * nI k + nI c = nI (9 * k + c) := by rw [lI 9, pk_mul, nI_add]
theorem nine8 (k : Nat) : (9 : Int32) * nI k + 8 = nI (9 * k + 8) := nine k 8
theorem nine0 (k : Nat) : (9 : Int32) * nI k = nI (9 * k) := by rw [lI 9, pk_mul]
theorem q_row_L15 {z : MT} {t : Tb} {k : Nat} (hk : k ≤ 201) (hr : rM z (sq t k)) (hok : okT t) (kk : (Nat → Int32) → Option (MT × (Nat → Int32))) (F0 : Nat → Int32) : ∀ (d i fuel : Nat) (F : Nat → Int32), i + d = 8 → d < fuel → (∀ j, j < 9 * k → F j = F0 j) → (∀ c, c < i → F (9 * k + c) = tr t k c) →
    ∃ F', f_M_writesTrail_L15 z (nI k) kk fuel F (nI i) = kk F' ∧ (∀ j, j < 9 * k → F' j = F0 j) ∧ ∀ c, c < 8 → F' (9 * k + c) = tr t k c := by
  have hn := hok.1
  have hN := (sq_same t k).1
  intro d
  induction d with
  | zero =>
    intro i fuel F hi hf ho hv
    obtain ⟨f, rfl, -⟩ := f_suc hf
    obtain rfl : i = 8 := by omega
    exact ⟨F, by rw [f_M_writesTrail_L15, if_pos (by decide)], ho, hv⟩
  | succ d ih =>
    intro i fuel F hi hf ho hv
    obtain ⟨f, rfl, hf'⟩ := f_suc hf
    have g8 : ¬ (8 : Int32) ≤ nI i := nI_ge (b := 8) (by omega) (by omega)
    have gb : ¬ (nI (9 * k + i) < 0 ∨ 1827 ≤ (nI (9 * k + i)).toNatClampNeg) := ix_b (by omega) (by omega)
    have step : ∀ v : Int32, v = tr t k i → ∃ F', f_M_writesTrail_L15 z (nI k) kk f (upd F (9 * k + i) v) (nI i + 1) = kk F' ∧ (∀ j, j < 9 * k → F' j = F0 j) ∧ ∀ c, c < 8 → F' (9 * k + c) = tr t k c := by
      intro v hv'
      rw [nI_1]
      refine ih (i + 1) f _ (by omega) hf' (fun j hj => ?_) (fun c hc => ?_)
      · unfold upd
        rw [if_neg (by omega)]
        exact ho j hj
      · unfold upd
        by_cases h : c = i
        · rw [if_pos (by omega), h]; exact hv'
        · rw [if_neg (by omega)]; exact hv c (by omega)
    rw [f_M_writesTrail_L15, if_neg g8, hr.1, hN, nine, if_neg gb, if_neg gb, nI_clamp (by omega), ix_k (show i < 8 by omega)]
    by_cases hc : i < tN t
    · have gi : ¬ (nI i < 0 ∨ 8 ≤ i) := fun q => q.elim (nI_pos (by omega)) (fun q => by omega)
      rw [if_neg (ix_n hc hn), if_neg gi]
      refine step _ ?_
      rw [(hr.2.1 i (by rw [hN]; exact hc)).2]
      unfold tr
      rw [if_neg (by omega), if_pos hc]
    · rw [if_pos (nI_le (by omega) (by omega))]
      refine step _ ?_
      unfold tr
      rw [if_neg (by omega), if_neg hc]
theorem q_trail_L8 {t : Tb} (hok : okT t) (n : Nat) (hn : n ≤ 201) (kk : MT → (Nat → Int32) → Option (MT × (Nat → Int32))) : ∀ (d i fuel : Nat) (z : MT) (F : Nat → Int32), i + d = n → d + 1 < fuel → rM z (sq t i) → hT F i t →
    ∃ z' F', f_M_writesTrail_L8 (nI n) kk fuel z F (nI i) = kk z' F' ∧ rM z' (sq t n) ∧ m_kept z' = m_kept z ∧ hT F' (n + 1) t := by
  intro d
  induction d with
  | zero =>
    intro i fuel z F hi hf hr hh
    obtain ⟨f, rfl, hf1⟩ := f_suc (show 0 < fuel by omega)
    obtain ⟨f, rfl, -⟩ := f_suc (show 0 < f by omega)
    obtain rfl : i = n := by omega
    obtain ⟨F1, e1, o1, v1⟩ := q_row_L15 hn hr hok (fun z_h_trail_8 =>
      if ((9 * nI i) + 8) < 0 ∨ 1827 ≤ ((9 * nI i) + 8).toNatClampNeg then none else
      if nI i ≤ nI i then
       f_M_writesTrail_L8 (nI i) kk (f + 1) z (upd z_h_trail_8 ((9 * nI i) + 8).toNatClampNeg (m_bag z)) (nI i + 1)
      else
       (f_M_goesOnce z).bind fun q11 =>
       f_M_writesTrail_L8 (nI i) kk (f + 1) q11 (upd z_h_trail_8 ((9 * nI i) + 8).toNatClampNeg (m_bag z)) (nI i + 1)) F 8 0 FU F (by omega) (by unfold FU; omega) (fun _ _ => rfl) (fun c hc => absurd hc (Nat.not_lt_zero c))
    have gb : ¬ (nI (9 * i + 8) < 0 ∨ 1827 ≤ (nI (9 * i + 8)).toNatClampNeg) := ix_b (by omega) (by omega)
    refine ⟨z, upd F1 (9 * i + 8) (m_bag z), ?_, hr, rfl, ?_⟩
    · rw [f_M_writesTrail_L8, if_neg (nI_nlt (Nat.le_refl _) (by omega))]
      refine e1.trans ?_
      simp only [nine8]
      rw [if_neg gb, if_pos (nI_le (Nat.le_refl _) (by omega)), nI_clamp (by omega), nI_1, f_M_writesTrail_L8, if_pos (nI_lt (by omega) (by omega))]
    · intro k hk c hc
      unfold upd
      by_cases h : k = i
      · subst h
        by_cases h8 : c = 8
        · rw [if_pos (by omega), hr.2.2.2.2.1]
          unfold tr
          rw [if_pos h8]
        · rw [if_neg (by omega)]
          exact v1 c (by omega)
      · rw [if_neg (by omega), o1 _ (by omega)]
        exact hh k (by omega) c hc
  | succ d ih =>
    intro i fuel z F hi hf hr hh
    obtain ⟨f, rfl, hf1⟩ := f_suc (show 0 < fuel by omega)
    obtain ⟨F1, e1, o1, v1⟩ := q_row_L15 (show i ≤ 201 by omega) hr hok (fun z_h_trail_8 =>
      if ((9 * nI i) + 8) < 0 ∨ 1827 ≤ ((9 * nI i) + 8).toNatClampNeg then none else
      if nI n ≤ nI i then
       f_M_writesTrail_L8 (nI n) kk f z (upd z_h_trail_8 ((9 * nI i) + 8).toNatClampNeg (m_bag z)) (nI i + 1)
      else
       (f_M_goesOnce z).bind fun q11 =>
       f_M_writesTrail_L8 (nI n) kk f q11 (upd z_h_trail_8 ((9 * nI i) + 8).toNatClampNeg (m_bag z)) (nI i + 1)) F 8 0 FU F (by omega) (by unfold FU; omega) (fun _ _ => rfl) (fun c hc => absurd hc (Nat.not_lt_zero c))
    have gb : ¬ (nI (9 * i + 8) < 0 ∨ 1827 ≤ (nI (9 * i + 8)).toNatClampNeg) := ix_b (by omega) (by omega)
    obtain ⟨z1, e2, r1, k1⟩ := q_once hr (sq_ok hok i)
    obtain ⟨z2, F2, e3, r3, k3, h3⟩ := ih (i + 1) f z1 (upd F1 (9 * i + 8) (m_bag z)) (by omega) (by omega) r1 (by
      intro k hk c hc
      unfold upd
      by_cases h : k = i
      · subst h
        by_cases h8 : c = 8
        · rw [if_pos (by omega), hr.2.2.2.2.1]
          unfold tr
          rw [if_pos h8]
        · rw [if_neg (by omega)]
          exact v1 c (by omega)
      · rw [if_neg (by omega), o1 _ (by omega)]
        exact hh k (by omega) c hc)
    refine ⟨z2, F2, ?_, r3, k3.trans k1, h3⟩
    rw [f_M_writesTrail_L8, if_neg (nI_nlt (by omega) (by omega))]
    refine e1.trans ?_
    simp only [nine8]
    rw [if_neg gb, if_neg (nI_ge (by omega) (by omega)), e2, Option.bind_some, nI_clamp (by omega), nI_1]
    exact e3
theorem q_trail {T : MT} {t : Tb} (hM : rM T t) (hok : okT t) (F : Nat → Int32) (n : Nat) (hn : n ≤ 201) : ∃ T' F', f_M_writesTrail T F (nI n) = some (T', F') ∧ BK2 T T' t ∧ hT F' (n + 1) t := by
  obtain ⟨T1, e1, r1, k1, o1⟩ := keep1 hM hok
  obtain ⟨T2, F2, e2, r2, o2, h2⟩ := q_trail_L8 hok n hn (fun z_h_T_12 z_h_trail_12 => (f_M_passesAll z_h_T_12 1 0).bind fun q13 => some (q13, z_h_trail_12)) n 0 FU T1 F (Nat.zero_add _) (by unfold FU; omega) r1 (fun k hk => absurd hk (Nat.not_lt_zero k))
  obtain ⟨T3, e3, r3, o3⟩ := back1 (z := T2) (t := t) (by rw [o2]; exact k1) hok
  refine ⟨T3, F2, ?_, ⟨r3, fun j hj => by rw [o3, o2]; exact o1 j hj⟩, h2⟩
  unfold f_M_writesTrail
  rw [e1, Option.bind_some]
  refine e2.trans ?_
  show (f_M_passesAll T2 1 0).bind _ = _
  rw [e3]
  rfl
theorem q_same_L3 {F : Nat → Int32} {a b m : Nat} (ha : 9 * a + m ≤ 1827) (hb : 9 * b + m ≤ 1827) : ∀ (d i fuel : Nat), i + d = m → d < fuel → (∀ k, k < i → F (9 * a + k) = F (9 * b + k)) →
    ∃ q, f_M_areSame_L3 F (nI a) (nI b) (nI m) fuel (nI i) = some q ∧ ((q = 1 ∧ ∀ k, k < m → F (9 * a + k) = F (9 * b + k)) ∨ (q = 0 ∧ ¬ ∀ k, k < m → F (9 * a + k) = F (9 * b + k))) := by
  intro d
  induction d with
  | zero =>
    intro i fuel hi hf hv
    obtain ⟨f, rfl, -⟩ := f_suc hf
    obtain rfl : i = m := by omega
    exact ⟨1, by rw [f_M_areSame_L3, if_pos (nI_le (Nat.le_refl _) (by omega))], Or.inl ⟨rfl, hv⟩⟩
  | succ d ih =>
    intro i fuel hi hf hv
    obtain ⟨f, rfl, hf'⟩ := f_suc hf
    have g1 : ¬ (nI (9 * a + i) < 0 ∨ 1827 ≤ (nI (9 * a + i)).toNatClampNeg) := ix_b (by omega) (by omega)
    have g2 : ¬ (nI (9 * b + i) < 0 ∨ 1827 ≤ (nI (9 * b + i)).toNatClampNeg) := ix_b (by omega) (by omega)
    rw [f_M_areSame_L3, if_neg (nI_ge (by omega) (by omega)), nine, nine, if_neg g1, if_neg g2, nI_clamp (by omega), nI_clamp (by omega), nI_1]
    by_cases h : F (9 * a + i) = F (9 * b + i)
    · rw [if_pos h]
      refine ih (i + 1) f (by omega) hf' (fun k hk => ?_)
      by_cases hki : k = i
      · rw [hki]; exact h
      · exact hv k (by omega)
    · rw [if_neg h]
      exact ⟨0, rfl, Or.inr ⟨rfl, fun q => h (q i (by omega))⟩⟩
theorem q_same (F : Nat → Int32) (a b m : Nat) (ha : 9 * a + m ≤ 1827) (hb : 9 * b + m ≤ 1827) : ∃ q, f_M_areSame F (nI a) (nI b) (nI m) = some q ∧ ((q = 1 ∧ ∀ k, k < m → F (9 * a + k) = F (9 * b + k)) ∨ (q = 0 ∧ ¬ ∀ k, k < m → F (9 * a + k) = F (9 * b + k))) :=
  q_same_L3 ha hb m 0 FU (Nat.zero_add _) (by unfold FU; omega) (fun k hk => absurd hk (Nat.not_lt_zero k))
theorem tr_sw {t : Tb} {k c : Nat} (hn : tN t ≤ 8) (hc : c < tN t) : tr t k c = nI (tSw (sq t k) c) := by
  unfold tr
  rw [if_neg (show ¬ c = 8 by omega), if_pos hc]
theorem tr_z {t : Tb} {k c : Nat} (h8 : c ≠ 8) (hc : ¬ c < tN t) : tr t k c = 0 := by
  unfold tr
  rw [if_neg h8, if_neg hc]
theorem tr_bag (t : Tb) (k : Nat) : tr t k 8 = nI (tBag (sq t k)) := if_pos rfl
theorem sw9 {t : Tb} (hok : okT t) (k : Nat) {c : Nat} (hc : c < tN t) : tSw (sq t k) c ≤ 999 := ((sq_ok hok k).2.1 c (by rw [(sq_same t k).1]; exact hc)).2
/-- the SWEETS behind a and behind b are the same -/
def eqS (t : Tb) (a b : Nat) : Prop := ∀ c, c < tN t → tSw (sq t a) c = tSw (sq t b) c
theorem tr_eqS {t : Tb} (hok : okT t) {F : Nat → Int32} {n a b : Nat} (hF : hT F n t) (ha : a < n) (hb : b < n) : (∀ k, k < 8 → F (9 * a + k) = F (9 * b + k)) ↔ eqS t a b := by
  have hn := hok.1
  refine ⟨fun h c hc => ?_, fun h k hk => ?_⟩
  · have q := h c (by omega)
    rw [hF a ha c (by omega), hF b hb c (by omega), tr_sw hn hc, tr_sw hn hc] at q
    have h1 := sw9 hok a hc
    have h2 := sw9 hok b hc
    exact (nI_eq (by omega) (by omega)).mp q
  · rw [hF a ha k (by omega), hF b hb k (by omega)]
    by_cases hc : k < tN t
    · rw [tr_sw hn hc, tr_sw hn hc, h k hc]
    · rw [tr_z (by omega) hc, tr_z (by omega) hc]
theorem q_rests_L {T : MT} {t : Tb} (hok : okT t) (b : Nat → Int32) {F : Nat → Int32} (hF : hT F 202 t) : ∀ (d i fuel : Nat), i + d = 201 → d < fuel → f_M_rests_L23 T b F fuel (nI i) = some (fnd (fun n => eqS t n (n + 1)) d i, T, b, F) := by
  intro d
  induction d with
  | zero =>
    intro i fuel hi hf
    obtain ⟨f, rfl, -⟩ := f_suc hf
    obtain rfl : i = 201 := by omega
    rw [f_M_rests_L23, if_pos (by decide)]
    rfl
  | succ d ih =>
    intro i fuel hi hf
    obtain ⟨f, rfl, hf'⟩ := f_suc hf
    obtain ⟨q, e, h⟩ := q_same F i (i + 1) 8 (by omega) (by omega)
    have e : f_M_areSame F (nI i) (nI (i + 1)) 8 = some q := e
    have g : ¬ (200 : Int32) < nI i := nI_nlt (a := 200) (by omega) (by omega)
    rw [f_M_rests_L23, if_neg g, nI_1, e, Option.bind_some]
    rcases h with ⟨rfl, h⟩ | ⟨rfl, h⟩
    · rw [if_neg z10', fnd_pos (p := fun n => eqS t n (n + 1)) d ((tr_eqS hok hF (by omega) (by omega)).mp h)]
    · rw [if_pos rfl, fnd_neg (p := fun n => eqS t n (n + 1)) d (fun q => h ((tr_eqS hok hF (by omega) (by omega)).mpr q))]
      exact ih (i + 1) f (by omega) hf'
theorem p_hasS_L {z g : RS} {t1 t2 : Tb} (h1 : rX z t1) (h2 : rX g t2) (o1 : okT t1) (o2 : okT t2) (hN : tN t2 = tN t1) : ∀ (d i fuel : Nat), i + d = tN t1 → d < fuel → (∀ c, c < i → tSw t1 c = tSw t2 c) →
    ∃ q, f_Ring_hasSweetsOf_L2 z g fuel (nI i) = some q ∧ ((q = 1 ∧ ∀ c, c < tN t1 → tSw t1 c = tSw t2 c) ∨ (q = 0 ∧ ¬ ∀ c, c < tN t1 → tSw t1 c = tSw t2 c)) := by
  have hn := o1.1
  intro d
  induction d with
  | zero =>
    intro i fuel hi hf hv
    obtain ⟨f, rfl, -⟩ := f_suc hf
    obtain rfl : i = tN t1 := by omega
    exact ⟨1, by rw [f_Ring_hasSweetsOf_L2, h1.1, if_pos (nI_le (Nat.le_refl _) (by omega))], Or.inl ⟨rfl, hv⟩⟩
  | succ d ih =>
    intro i fuel hi hf hv
    obtain ⟨f, rfl, hf'⟩ := f_suc hf
    have hlt : i < tN t1 := by omega
    have a1 := (o1.2.1 i hlt).2
    have a2 := (o2.2.1 i (by omega)).2
    rw [f_Ring_hasSweetsOf_L2, h1.1, if_neg (ix_n hlt hn), if_neg (ix_b (show i < 8 by omega) (by omega)), ix_k (by omega), (h1.2.1 i hlt).2, (h2.2.1 i (by omega)).2, nI_1]
    by_cases h : tSw t1 i = tSw t2 i
    · rw [if_pos (congrArg nI h)]
      refine ih (i + 1) f (by omega) hf' (fun k hk => ?_)
      by_cases hki : k = i
      · rw [hki]; exact h
      · exact hv k (by omega)
    · rw [if_neg (fun q => h ((nI_eq (by omega) (by omega)).mp q))]
      exact ⟨0, rfl, Or.inr ⟨rfl, fun q => h (q i hlt)⟩⟩
theorem p_hasS {z g : RS} {t1 t2 : Tb} (h1 : rX z t1) (h2 : rX g t2) (o1 : okT t1) (o2 : okT t2) (hN : tN t2 = tN t1) : ∃ q, f_Ring_hasSweetsOf z g = some q ∧ ((q = 1 ∧ ∀ c, c < tN t1 → tSw t1 c = tSw t2 c) ∨ (q = 0 ∧ ¬ ∀ c, c < tN t1 → tSw t1 c = tSw t2 c)) := by
  have hn := o1.1
  exact p_hasS_L h1 h2 o1 o2 hN (tN t1) 0 FU (Nat.zero_add _) (by unfold FU; omega) (fun c hc => absurd hc (Nat.not_lt_zero c))
theorem p_rests_L {t : Tb} (hok : okT t) : ∀ (d i fuel : Nat) (one two : RS), i + d = 201 → d < fuel → rX one (sq t i) → rX two (sq t i) →
    ∃ one' two', f_Mind_restsBehind_L18 fuel one two (nI i) = some (fnd (fun n => eqS t n (n + 1)) d i, one', two') := by
  intro d
  induction d with
  | zero =>
    intro i fuel one two hi hf _ _
    obtain ⟨f, rfl, -⟩ := f_suc hf
    obtain rfl : i = 201 := by omega
    rw [f_Mind_restsBehind_L18, if_pos (by decide)]
    exact ⟨one, two, rfl⟩
  | succ d ih =>
    intro i fuel one two hi hf h1 h2
    obtain ⟨f, rfl, hf'⟩ := f_suc hf
    have g : ¬ (200 : Int32) < nI i := nI_nlt (a := 200) (by omega) (by omega)
    obtain ⟨z1, e1, r1⟩ := p_strike h2 (sq_ok hok i)
    obtain ⟨q, e2, h⟩ := p_hasS r1 h1 (stk_ok (sq_ok hok i)) (sq_ok hok i) ((stk_same _).1.symm)
    obtain ⟨z3, e3, r3⟩ := p_copyFrom one z1 r1 (stk_ok (sq_ok hok i))
    have hN : tN (stk (sq t i)) = tN t := (sq_same t (i + 1)).1
    rw [f_Mind_restsBehind_L18, if_neg g, e1, Option.bind_some]
    simp only [e2, Option.bind_some, e3]
    rcases h with ⟨rfl, h⟩ | ⟨rfl, h⟩
    · rw [if_neg z10', fnd_pos d (fun c hc => (h c (by rw [hN]; exact hc)).symm)]
      exact ⟨one, z1, rfl⟩
    · rw [if_pos rfl, fnd_neg d (fun q => h (fun c hc => (q c (by rw [← hN]; exact hc)).symm)), nI_1]
      exact ih (i + 1) f z3 z1 (by omega) hf' r3 r1
theorem l201 : (201 : Int32) = nI 201 := rfl
theorem l200 : (200 : Int32) = nI 200 := rfl
theorem w1 {T T1 : MT} {t : Tb} (hok : okT t) (b F1 : Nat → Int32) (h4 : hT F1 (201 + 1) t) : f_M_rests_L23 T1 b F1 FU (nI 0) = some (fnd (fun n => eqS t n (n + 1)) 201 0, T1, b, F1) := q_rests_L (T := T1) hok b h4 201 0 FU (by omega) (by unfold FU; omega)
theorem w2 {t : Tb} {z1 z2 : RS} (hok : okT t) (r1 : rX z1 t) (r2 : rX z2 t) : ∃ one' two', f_Mind_restsBehind_L18 FU z1 z2 (nI 0) = some (fnd (fun n => eqS t n (n + 1)) 201 0, one', two') := p_rests_L hok 201 0 FU z1 z2 (by omega) (by unfold FU; omega) r1 r2
theorem w3 {t : Tb} {T : MT} {F : Nat → Int32} (hok : okT t) (hM : rM T t) : ∃ T' F', f_M_writesTrail T F (nI 201) = some (T', F') ∧ BK2 T T' t ∧ hT F' 202 t := q_trail hM hok F 201 (by omega)
theorem w4 {t : Tb} {T : MT} {F : Nat → Int32} (hok : okT t) (hM : rM T t) : ∃ T' F', f_M_writesTrail T F 201 = some (T', F') ∧ BK2 T T' t ∧ hT F' 202 t := by
  rw [l201]
  exact w3 hok hM
theorem e_rests {now one two : RS} {T : MT} {t : Tb} {a b F : Nat → Int32} (hX : rX now t) (hM : rM T t) (hok : okT t) (hr : rf a b) : ∃ r a' one' two' T' b' F', f_X_rests now a one two = some (r, a', one', two') ∧ f_M_rests T b F = some (r, T', b', F') ∧ BK T T' t ∧ rf a' b' := by
  have hn := hok.1
  unfold f_X_rests f_M_rests f_Mind_restsBehind
  rw [hX.1, hM.1]
  by_cases h0 : tN t = 0
  · obtain ⟨a', b', e1, e2, h⟩ := no3 hr
    rw [h0, if_pos nI_0, if_pos nI_0]
    (simp only [e1, e2, Option.bind_some, reduceIte, or_self, z10, z40, z60, z01, z02, z12, z21, z20]; try simp only [e1, e2, Option.bind_some, reduceIte, or_self, z10, z40, z60, z01, z02, z12, z21, z20])
    exact ⟨_, a', one, two, T, b', F, rfl, rfl, ⟨hM, fun _ _ => rfl⟩, h⟩
  · have g := nI_ne0 (n := tN t) (by omega) (by omega)
    rw [if_neg g, if_neg g]
    obtain ⟨z1, e1, r1⟩ := p_copyFrom one now hX hok
    obtain ⟨z2, e2, r2⟩ := p_copyFrom two now hX hok
    obtain ⟨o', w', e3⟩ := w2 hok r1 r2
    obtain ⟨T1, F1, e4, k4, h4⟩ := w4 (F := F) hok hM
    have e5 := w1 (T := T) (T1 := T1) hok b F1 h4
    rw [e1, Option.bind_some, e2, Option.bind_some, ← nI_0, e3, Option.bind_some, e4, Option.bind_some]
    refine ⟨_, a, o', w', T1, b, F1, rfl, ?_, k4.bk, hr⟩
    exact e5
