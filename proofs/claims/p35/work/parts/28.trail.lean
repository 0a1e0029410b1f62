/-! Pure: the reference's trail; searches for the first number. -/
noncomputable def fnd (p : Nat → Prop) : Nat → Nat → Int32
  | 0, _ => -9
  | d + 1, i => @ite _ (p i) (Classical.propDecidable (p i)) (nI i) (fnd p d (i + 1))
theorem fnd_pos {p : Nat → Prop} {i : Nat} (d : Nat) (h : p i) : fnd p (d + 1) i = nI i := if_pos h
theorem fnd_neg {p : Nat → Prop} {i : Nat} (d : Nat) (h : ¬ p i) : fnd p (d + 1) i = fnd p d (i + 1) := if_neg h
theorem nine (k c : Nat) : (9 : Int32) * nI k + nI c = nI (9 * k + c) := by rw [lI 9, pk_mul, nI_add]
theorem nine8 (k : Nat) : (9 : Int32) * nI k + 8 = nI (9 * k + 8) := nine k 8
theorem nine0 (k : Nat) : (9 : Int32) * nI k = nI (9 * k) := by rw [lI 9, pk_mul]
theorem sw9 {t : Tb} (hok : okT t) (k : Nat) {c : Nat} (hc : c < tN t) : tSw (sq t k) c ≤ 999 := ((sq_ok hok k).2.1 c (by rw [(sq_same t k).1]; exact hc)).2
/-- the SWEETS behind a and behind b are the same -/
def eqS (t : Tb) (a b : Nat) : Prop := ∀ c, c < tN t → tSw (sq t a) c = tSw (sq t b) c
theorem p_hasS_L {z g : RS} {t1 t2 : Tb} (h1 : rX z t1) (h2 : rX g t2) (o1 : okT t1) (o2 : okT t2) (hN : tN t2 = tN t1) : ∀ (d i fuel : Nat), i + d = tN t1 → d < fuel → (∀ c, c < i → tSw t1 c = tSw t2 c) →
    ∃ q, f_Ring_hasSweetsOf_L2 z g fuel (nI i) = some q ∧ ((q = 1 ∧ ∀ c, c < tN t1 → tSw t1 c = tSw t2 c) ∨ (q = 0 ∧ ¬ ∀ c, c < tN t1 → tSw t1 c = tSw t2 c)) := by
  have hn := o1.1
  intro d
  induction d with
  | zero =>
    intro i fuel hi hf hv
    obtain ⟨f, rfl, -⟩ := f_suc hf
    obtain rfl : i = tN t1 := by omega
    exact ⟨1, by rw [f_Ring_hasSweetsOf_L2, h1.1, if_pos (nI_le (Nat.le_refl _) (by omega))], Or.inl ⟨rfl, hv⟩⟩
  | succ d ih =>
    intro i fuel hi hf hv
    obtain ⟨f, rfl, hf'⟩ := f_suc hf
    have hlt : i < tN t1 := by omega
    have a1 := (o1.2.1 i hlt).2
    have a2 := (o2.2.1 i (by omega)).2
    rw [f_Ring_hasSweetsOf_L2, h1.1, if_neg (ix_n hlt hn), if_neg (ix_b (show i < 8 by omega) (by omega)), ix_k (by omega), (h1.2.1 i hlt).2, (h2.2.1 i (by omega)).2, nI_1]
    by_cases h : tSw t1 i = tSw t2 i
    · rw [if_pos (congrArg nI h)]
      refine ih (i + 1) f (by omega) hf' (fun k hk => ?_)
      by_cases hki : k = i
      · rw [hki]; exact h
      · exact hv k (by omega)
    · rw [if_neg (fun q => h ((nI_eq (by omega) (by omega)).mp q))]
      exact ⟨0, rfl, Or.inr ⟨rfl, fun q => h (q i hlt)⟩⟩
theorem p_hasS {z g : RS} {t1 t2 : Tb} (h1 : rX z t1) (h2 : rX g t2) (o1 : okT t1) (o2 : okT t2) (hN : tN t2 = tN t1) : ∃ q, f_Ring_hasSweetsOf z g = some q ∧ ((q = 1 ∧ ∀ c, c < tN t1 → tSw t1 c = tSw t2 c) ∨ (q = 0 ∧ ¬ ∀ c, c < tN t1 → tSw t1 c = tSw t2 c)) := by
  have hn := o1.1
  exact p_hasS_L h1 h2 o1 o2 hN (tN t1) 0 FU (Nat.zero_add _) (by unfold FU; omega) (fun c hc => absurd hc (Nat.not_lt_zero c))
theorem p_rests_L {t : Tb} (hok : okT t) : ∀ (d i fuel : Nat) (one two : RS), i + d = 201 → d < fuel → rX one (sq t i) → rX two (sq t i) →
    ∃ one' two', f_Mind_restsBehind_L18 fuel one two (nI i) = some (fnd (fun n => eqS t n (n + 1)) d i, one', two') := by
  intro d
  induction d with
  | zero =>
    intro i fuel one two hi hf _ _
    obtain ⟨f, rfl, -⟩ := f_suc hf
    obtain rfl : i = 201 := by omega
    rw [f_Mind_restsBehind_L18, if_pos (by decide)]
    exact ⟨one, two, rfl⟩
  | succ d ih =>
    intro i fuel one two hi hf h1 h2
    obtain ⟨f, rfl, hf'⟩ := f_suc hf
    have g : ¬ (200 : Int32) < nI i := nI_nlt (a := 200) (by omega) (by omega)
    obtain ⟨z1, e1, r1⟩ := p_strike h2 (sq_ok hok i)
    obtain ⟨q, e2, h⟩ := p_hasS r1 h1 (stk_ok (sq_ok hok i)) (sq_ok hok i) ((stk_same _).1.symm)
    obtain ⟨z3, e3, r3⟩ := p_copyFrom one z1 r1 (stk_ok (sq_ok hok i))
    have hN : tN (stk (sq t i)) = tN t := (sq_same t (i + 1)).1
    rw [f_Mind_restsBehind_L18, if_neg g, e1, Option.bind_some]
    simp only [e2, Option.bind_some, e3]
    rcases h with ⟨rfl, h⟩ | ⟨rfl, h⟩
    · rw [if_neg z10', fnd_pos d (fun c hc => (h c (by rw [hN]; exact hc)).symm)]
      exact ⟨one, z1, rfl⟩
    · rw [if_pos rfl, fnd_neg d (fun q => h (fun c hc => (q c (by rw [← hN]; exact hc)).symm)), nI_1]
      exact ih (i + 1) f z3 z1 (by omega) hf' r3 r1
theorem l201 : (201 : Int32) = nI 201 := rfl
theorem l200 : (200 : Int32) = nI 200 := rfl
theorem w2 {t : Tb} {z1 z2 : RS} (hok : okT t) (r1 : rX z1 t) (r2 : rX z2 t) : ∃ one' two', f_Mind_restsBehind_L18 FU z1 z2 (nI 0) = some (fnd (fun n => eqS t n (n + 1)) 201 0, one', two') := p_rests_L hok 201 0 FU z1 z2 (by omega) (by unfold FU; omega) r1 r2
