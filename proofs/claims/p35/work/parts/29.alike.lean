/-! Pure: ALIKE, MEET, BEGUN, FELT. -/
def alk (t : Tb) : Prop := ∀ c, c < tN t → tSw t c = tSw t 0
theorem p_alk_L {z : RS} {t : Tb} (hX : rX z t) (hok : okT t) : ∀ (d i fuel : Nat), i + d = tN t → 1 ≤ i → d < fuel → (∀ c, c < i → tSw t c = tSw t 0) → ∃ q, f_Ring_allHaveAlike_L2 z fuel (nI i) = some q ∧ ((q = 1 ∧ alk t) ∨ (q = 0 ∧ ¬ alk t)) := by
  have hn := hok.1
  intro d
  induction d with
  | zero =>
    intro i fuel hi h1 hf hv
    obtain ⟨f, rfl, -⟩ := f_suc hf
    obtain rfl : i = tN t := by omega
    exact ⟨1, by rw [f_Ring_allHaveAlike_L2, hX.1, if_pos (nI_le (Nat.le_refl _) (by omega))], Or.inl ⟨rfl, hv⟩⟩
  | succ d ih =>
    intro i fuel hi h1 hf hv
    obtain ⟨f, rfl, hf'⟩ := f_suc hf
    have hlt : i < tN t := by omega
    have a1 := (hok.2.1 i hlt).2
    have a0 := (hok.2.1 0 (by omega)).2
    rw [f_Ring_allHaveAlike_L2, hX.1, if_neg (ix_n hlt hn), if_neg (ix_b (show i < 8 by omega) (by omega)), ix_k (by omega), (hX.2.1 i hlt).2, (hX.2.1 0 (by omega)).2, nI_1]
    by_cases h : tSw t i = tSw t 0
    · rw [if_pos (congrArg nI h)]
      refine ih (i + 1) f (by omega) (by omega) hf' (fun c hc => ?_)
      by_cases hci : c = i
      · rw [hci]; exact h
      · exact hv c (by omega)
    · rw [if_neg (fun q => h ((nI_eq (by omega) (by omega)).mp q))]
      exact ⟨0, rfl, Or.inr ⟨rfl, fun q => h (q i hlt)⟩⟩
theorem p_alk {z : RS} {t : Tb} (hX : rX z t) (hok : okT t) (h0 : 0 < tN t) : ∃ q, f_Ring_allHaveAlike z = some q ∧ ((q = 1 ∧ alk t) ∨ (q = 0 ∧ ¬ alk t)) := by
  have hn := hok.1
  exact p_alk_L hX hok (tN t - 1) 1 FU (by omega) (by omega) (by unfold FU; omega) (fun c hc => by rw [show c = 0 by omega])
theorem p_within_L {t : Tb} (hok : okT t) (h0 : 0 < tN t) (n : Nat) (hn : n ≤ 200) : ∀ (d i fuel : Nat) (z : RS), i + d = n + 1 → d < fuel → rX z (sq t i) → ∃ z', f_Mind_alikeWithin_L2 (nI n) fuel z (nI i) = some (fnd (fun k => alk (sq t k)) d i, z') := by
  intro d
  induction d with
  | zero =>
    intro i fuel z hi hf hr
    obtain ⟨f, rfl, -⟩ := f_suc hf
    exact ⟨z, by rw [f_Mind_alikeWithin_L2, if_pos (nI_lt (by omega) (by omega))]; rfl⟩
  | succ d ih =>
    intro i fuel z hi hf hr
    obtain ⟨f, rfl, hf'⟩ := f_suc hf
    obtain ⟨q, e, h⟩ := p_alk hr (sq_ok hok i) (by rw [(sq_same t i).1]; exact h0)
    rw [f_Mind_alikeWithin_L2, if_neg (nI_nlt (by omega) (by omega)), e, Option.bind_some]
    rcases h with ⟨rfl, h⟩ | ⟨rfl, h⟩
    · rw [if_neg z10', fnd_pos (p := fun k => alk (sq t k)) d h]
      exact ⟨z, rfl⟩
    · obtain ⟨z1, e1, r1⟩ := p_strike hr (sq_ok hok i)
      rw [if_pos rfl, e1, Option.bind_some, fnd_neg (p := fun k => alk (sq t k)) d h, nI_1]
      exact ih (i + 1) f z1 (by omega) hf' r1
theorem p_within {t : Tb} (hok : okT t) (h0 : 0 < tN t) (n : Nat) (hn : n ≤ 200) (z : RS) (hr : rX z t) : ∃ z', f_Mind_alikeWithin z (nI n) = some (fnd (fun k => alk (sq t k)) (n + 1) 0, z') :=
  p_within_L hok h0 n hn (n + 1) 0 FU z (by omega) (by unfold FU; omega) hr
theorem p_meet_L {t : Tb} (hok : okT t) {c d' : Nat} (hc : c < tN t) (hd : d' < tN t) : ∀ (d i fuel : Nat) (z : RS), i + d = 201 → d < fuel → rX z (sq t i) → ∃ z', f_Mind_meetBehind_L11 (nI c) (nI d') fuel z (nI i) = some (fnd (fun k => tSw (sq t k) c = tSw (sq t k) d') d i, z') := by
  have hn := hok.1
  intro d
  induction d with
  | zero =>
    intro i fuel z hi hf hr
    obtain ⟨f, rfl, -⟩ := f_suc hf
    obtain rfl : i = 201 := by omega
    exact ⟨z, by rw [f_Mind_meetBehind_L11, if_pos (by decide)]; rfl⟩
  | succ d ih =>
    intro i fuel z hi hf hr
    obtain ⟨f, rfl, hf'⟩ := f_suc hf
    have g : ¬ (200 : Int32) < nI i := nI_nlt (a := 200) (by omega) (by omega)
    have hN := (sq_same t i).1
    have gc := ix_b (show c < 8 by omega) (show 8 < 2 ^ 31 by omega)
    have gd := ix_b (show d' < 8 by omega) (show 8 < 2 ^ 31 by omega)
    have a1 := sw9 hok i hc
    have a2 := sw9 hok i hd
    rw [f_Mind_meetBehind_L11, if_neg g, if_neg gc, if_neg gd, ix_k (show c < 8 by omega), ix_k (show d' < 8 by omega), (hr.2.1 c (by rw [hN]; exact hc)).2, (hr.2.1 d' (by rw [hN]; exact hd)).2]
    by_cases h : tSw (sq t i) c = tSw (sq t i) d'
    · rw [if_pos (congrArg nI h), fnd_pos (p := fun k => tSw (sq t k) c = tSw (sq t k) d') d h]
      exact ⟨z, rfl⟩
    · obtain ⟨z1, e1, r1⟩ := p_strike hr (sq_ok hok i)
      rw [if_neg (fun q => h ((nI_eq (by omega) (by omega)).mp q)), e1, Option.bind_some, fnd_neg (p := fun k => tSw (sq t k) c = tSw (sq t k) d') d h, nI_1]
      exact ih (i + 1) f z1 (by omega) hf' r1
