/-! Pure: ALIKE, MEET, BEGUN, FELT. -/
def alk (t : Tb) : Prop := ∀ c, c < tN t → tSw t c = tSw t 0
theorem p_alk_L {z : RS} {t : Tb} (hX : rX z t) (hok : okT t) : ∀ (d i fuel : Nat), i + d = tN t → 1 ≤ i → d < fuel → (∀ c, c < i → tSw t c = tSw t 0) → ∃ q, f_Ring_allHaveAlike_L2 z fuel (nI i) = some q ∧ ((q = 1 ∧ alk t) ∨ (q = 0 ∧ ¬ alk t)) := by
  have hn := hok.1
  intro d
  induction d with
  | zero =>
    intro i fuel hi h1 hf hv
    obtain ⟨f, rfl, -⟩ := f_suc hf
    obtain rfl : i = tN t := by omega
    exact ⟨1, by rw [f_Ring_allHaveAlike_L2, hX.1, if_pos (nI_le (Nat.le_refl _) (by omega))], Or.inl ⟨rfl, hv⟩⟩
  | succ d ih =>
    intro i fuel hi h1 hf hv
    obtain ⟨f, rfl, hf'⟩ := f_suc hf
    have hlt : i < tN t := by omega
    have a1 := (hok.2.1 i hlt).2
    have a0 := (hok.2.1 0 (by omega)).2
    rw [f_Ring_allHaveAlike_L2, hX.1, if_neg (ix_n hlt hn), if_neg (ix_b (show i < 8 by omega) (by omega)), ix_k (by omega), (hX.2.1 i hlt).2, (hX.2.1 0 (by omega)).2, nI_1]
    by_cases h : tSw t i = tSw t 0
    · rw [if_pos (congrArg nI h)]
      refine ih (i + 1) f (by omega) (by omega) hf' (fun c hc => ?_)
      by_cases hci : c = i
      · rw [hci]; exact h
      · exact hv c (by omega)
    · rw [if_neg (fun q => h ((nI_eq (by omega) (by omega)).mp q))]
      exact ⟨0, rfl, Or.inr ⟨rfl, fun q => h (q i hlt)⟩⟩
theorem p_alk {z : RS} {t : Tb} (hX : rX z t) (hok : okT t) (h0 : 0 < tN t) : ∃ q, f_Ring_allHaveAlike z = some q ∧ ((q = 1 ∧ alk t) ∨ (q = 0 ∧ ¬ alk t)) := by
  have hn := hok.1
  exact p_alk_L hX hok (tN t - 1) 1 FU (by omega) (by omega) (by unfold FU; omega) (fun c hc => by rw [show c = 0 by omega])
theorem q_alk_L {T : MT} {t : Tb} {F : Nat → Int32} {m k : Nat} (hX : rM T t) (hok : okT t) (hF : hT F m t) (hk : k < m) (hm : m ≤ 202) : ∀ (d i fuel : Nat), i + d = tN t → 1 ≤ i → d < fuel → (∀ c, c < i → tSw (sq t k) c = tSw (sq t k) 0) → ∃ q, f_M_areAlike_L2 T F (nI k) fuel (nI i) = some q ∧ ((q = 1 ∧ alk (sq t k)) ∨ (q = 0 ∧ ¬ alk (sq t k))) := by
  have hn := hok.1
  have hN := (sq_same t k).1
  intro d
  induction d with
  | zero =>
    intro i fuel hi h1 hf hv
    obtain ⟨f, rfl, -⟩ := f_suc hf
    obtain rfl : i = tN t := by omega
    exact ⟨1, by rw [f_M_areAlike_L2, hX.1, if_pos (nI_le (Nat.le_refl _) (by omega))], Or.inl ⟨rfl, fun c hc => hv c (by rw [← hN]; exact hc)⟩⟩
  | succ d ih =>
    intro i fuel hi h1 hf hv
    obtain ⟨f, rfl, hf'⟩ := f_suc hf
    have hlt : i < tN t := by omega
    have a1 := sw9 hok k hlt
    have a0 := sw9 hok k (show 0 < tN t by omega)
    have g1 : ¬ (nI (9 * k + i) < 0 ∨ 1827 ≤ (nI (9 * k + i)).toNatClampNeg) := ix_b (by omega) (by omega)
    have g2 : ¬ (nI (9 * k) < 0 ∨ 1827 ≤ (nI (9 * k)).toNatClampNeg) := ix_b (by omega) (by omega)
    rw [f_M_areAlike_L2, hX.1, if_neg (ix_n hlt hn), nine, nine0, if_neg g1, if_neg g2, nI_clamp (by omega), nI_clamp (by omega), hF k hk i (by omega), show F (9 * k) = tr t k 0 from hF k hk 0 (by omega), tr_sw hn hlt, tr_sw hn (show 0 < tN t by omega), nI_1]
    by_cases h : tSw (sq t k) i = tSw (sq t k) 0
    · rw [if_pos (congrArg nI h)]
      refine ih (i + 1) f (by omega) (by omega) hf' (fun c hc => ?_)
      by_cases hci : c = i
      · rw [hci]; exact h
      · exact hv c (by omega)
    · rw [if_neg (fun q => h ((nI_eq (by omega) (by omega)).mp q))]
      exact ⟨0, rfl, Or.inr ⟨rfl, fun q => h (q i (by rw [hN]; exact hlt))⟩⟩
theorem q_alk {T : MT} {t : Tb} {F : Nat → Int32} {m k : Nat} (hX : rM T t) (hok : okT t) (hF : hT F m t) (hk : k < m) (hm : m ≤ 202) (h0 : 0 < tN t) : ∃ q, f_M_areAlike T F (nI k) = some q ∧ ((q = 1 ∧ alk (sq t k)) ∨ (q = 0 ∧ ¬ alk (sq t k))) := by
  have hn := hok.1
  exact q_alk_L hX hok hF hk hm (tN t - 1) 1 FU (by omega) (by omega) (by unfold FU; omega) (fun c hc => by rw [show c = 0 by omega])
theorem p_within_L {t : Tb} (hok : okT t) (h0 : 0 < tN t) (n : Nat) (hn : n ≤ 200) : ∀ (d i fuel : Nat) (z : RS), i + d = n + 1 → d < fuel → rX z (sq t i) → ∃ z', f_Mind_alikeWithin_L2 (nI n) fuel z (nI i) = some (fnd (fun k => alk (sq t k)) d i, z') := by
  intro d
  induction d with
  | zero =>
    intro i fuel z hi hf hr
    obtain ⟨f, rfl, -⟩ := f_suc hf
    exact ⟨z, by rw [f_Mind_alikeWithin_L2, if_pos (nI_lt (by omega) (by omega))]; rfl⟩
  | succ d ih =>
    intro i fuel z hi hf hr
    obtain ⟨f, rfl, hf'⟩ := f_suc hf
    obtain ⟨q, e, h⟩ := p_alk hr (sq_ok hok i) (by rw [(sq_same t i).1]; exact h0)
    rw [f_Mind_alikeWithin_L2, if_neg (nI_nlt (by omega) (by omega)), e, Option.bind_some]
    rcases h with ⟨rfl, h⟩ | ⟨rfl, h⟩
    · rw [if_neg z10', fnd_pos (p := fun k => alk (sq t k)) d h]
      exact ⟨z, rfl⟩
    · obtain ⟨z1, e1, r1⟩ := p_strike hr (sq_ok hok i)
      rw [if_pos rfl, e1, Option.bind_some, fnd_neg (p := fun k => alk (sq t k)) d h, nI_1]
      exact ih (i + 1) f z1 (by omega) hf' r1
theorem p_within {t : Tb} (hok : okT t) (h0 : 0 < tN t) (n : Nat) (hn : n ≤ 200) (z : RS) (hr : rX z t) : ∃ z', f_Mind_alikeWithin z (nI n) = some (fnd (fun k => alk (sq t k)) (n + 1) 0, z') :=
  p_within_L hok h0 n hn (n + 1) 0 FU z (by omega) (by unfold FU; omega) hr
theorem q_first_L {T : MT} {t : Tb} {F : Nat → Int32} (hX : rM T t) (hok : okT t) (h0 : 0 < tN t) (n : Nat) (hn : n ≤ 200) (hF : hT F (n + 1) t) : ∀ (d i fuel : Nat), i + d = n + 1 → d < fuel → f_M_firstAlike_L7 T F (nI n) fuel (nI i) = some (fnd (fun k => alk (sq t k)) d i, T, F) := by
  intro d
  induction d with
  | zero =>
    intro i fuel hi hf
    obtain ⟨f, rfl, -⟩ := f_suc hf
    rw [f_M_firstAlike_L7, if_pos (nI_lt (by omega) (by omega))]
    rfl
  | succ d ih =>
    intro i fuel hi hf
    obtain ⟨f, rfl, hf'⟩ := f_suc hf
    obtain ⟨q, e, h⟩ := q_alk hX hok hF (show i < n + 1 by omega) (by omega) h0
    rw [f_M_firstAlike_L7, if_neg (nI_nlt (by omega) (by omega)), e, Option.bind_some]
    rcases h with ⟨rfl, h⟩ | ⟨rfl, h⟩
    · rw [if_neg z10', fnd_pos (p := fun k => alk (sq t k)) d h]
    · rw [if_pos rfl, fnd_neg (p := fun k => alk (sq t k)) d h, nI_1]
      exact ih (i + 1) f (by omega) hf'
theorem q_first {T : MT} {t : Tb} (hX : rM T t) (hok : okT t) (h0 : 0 < tN t) (F : Nat → Int32) (n : Nat) (hn : n ≤ 200) : ∃ T' F', f_M_firstAlike T F (nI n) = some (fnd (fun k => alk (sq t k)) (n + 1) 0, T', F') ∧ BK2 T T' t := by
  obtain ⟨T1, F1, e4, k4, h4⟩ := q_trail hX hok F n (by omega)
  have e5 := q_first_L k4.1 hok h0 n hn h4 (n + 1) 0 FU (by omega) (by unfold FU; omega)
  refine ⟨T1, F1, ?_, k4⟩
  unfold f_M_firstAlike
  rw [e4, Option.bind_some]
  exact e5
theorem e_alike {now one : RS} {T : MT} {t : Tb} {a b F : Nat → Int32} (hX : rX now t) (hM : rM T t) (hok : okT t) (hr : rf a b) : ∃ r a' one' T' b' F', f_X_alike now a one = some (r, a', one') ∧ f_M_alike T b F = some (r, T', b', F') ∧ BK T T' t ∧ rf a' b' := by
  have hn := hok.1
  unfold f_X_alike f_M_alike
  rw [hX.1, hM.1]
  by_cases h0 : tN t = 0
  · obtain ⟨a', b', e1, e2, h⟩ := no3 hr
    rw [h0, if_pos nI_0, if_pos nI_0]
    (simp only [e1, e2, Option.bind_some, reduceIte, or_self, z10, z40, z60, z01, z02, z12, z21, z20]; try simp only [e1, e2, Option.bind_some, reduceIte, or_self, z10, z40, z60, z01, z02, z12, z21, z20])
    exact ⟨_, a', one, T, b', F, rfl, rfl, ⟨hM, fun _ _ => rfl⟩, h⟩
  · have g := nI_ne0 (n := tN t) (by omega) (by omega)
    rw [if_neg g, if_neg g]
    obtain ⟨z1, e1, r1⟩ := p_copyFrom one now hX hok
    obtain ⟨o', e3⟩ := p_within hok (by omega) 200 (by omega) z1 r1
    obtain ⟨T1, F1, e4, k4⟩ := q_first hM hok (by omega) F 200 (by omega)
    unfold f_Mind_alikeBehind
    rw [l200, e1, Option.bind_some, e3, Option.bind_some, Option.bind_some, e4, Option.bind_some]
    exact ⟨_, a, o', T1, b, F1, rfl, rfl, k4.bk, hr⟩
theorem p_meet_L {t : Tb} (hok : okT t) {c d' : Nat} (hc : c < tN t) (hd : d' < tN t) : ∀ (d i fuel : Nat) (z : RS), i + d = 201 → d < fuel → rX z (sq t i) → ∃ z', f_Mind_meetBehind_L11 (nI c) (nI d') fuel z (nI i) = some (fnd (fun k => tSw (sq t k) c = tSw (sq t k) d') d i, z') := by
  have hn := hok.1
  intro d
  induction d with
  | zero =>
    intro i fuel z hi hf hr
    obtain ⟨f, rfl, -⟩ := f_suc hf
    obtain rfl : i = 201 := by omega
    exact ⟨z, by rw [f_Mind_meetBehind_L11, if_pos (by decide)]; rfl⟩
  | succ d ih =>
    intro i fuel z hi hf hr
    obtain ⟨f, rfl, hf'⟩ := f_suc hf
    have g : ¬ (200 : Int32) < nI i := nI_nlt (a := 200) (by omega) (by omega)
    have hN := (sq_same t i).1
    have gc := ix_b (show c < 8 by omega) (show 8 < 2 ^ 31 by omega)
    have gd := ix_b (show d' < 8 by omega) (show 8 < 2 ^ 31 by omega)
    have a1 := sw9 hok i hc
    have a2 := sw9 hok i hd
    rw [f_Mind_meetBehind_L11, if_neg g, if_neg gc, if_neg gd, ix_k (show c < 8 by omega), ix_k (show d' < 8 by omega), (hr.2.1 c (by rw [hN]; exact hc)).2, (hr.2.1 d' (by rw [hN]; exact hd)).2]
    by_cases h : tSw (sq t i) c = tSw (sq t i) d'
    · rw [if_pos (congrArg nI h), fnd_pos (p := fun k => tSw (sq t k) c = tSw (sq t k) d') d h]
      exact ⟨z, rfl⟩
    · obtain ⟨z1, e1, r1⟩ := p_strike hr (sq_ok hok i)
      rw [if_neg (fun q => h ((nI_eq (by omega) (by omega)).mp q)), e1, Option.bind_some, fnd_neg (p := fun k => tSw (sq t k) c = tSw (sq t k) d') d h, nI_1]
      exact ih (i + 1) f z1 (by omega) hf' r1
theorem q_meet_L {T : MT} {t : Tb} (hok : okT t) (b : Nat → Int32) {F : Nat → Int32} (hF : hT F 201 t) {c d' : Nat} (hc : c < tN t) (hd : d' < tN t) : ∀ (d i fuel : Nat), i + d = 201 → d < fuel → f_M_meet_L24 T b F (nI c) (nI d') fuel (nI i) = some (fnd (fun k => tSw (sq t k) c = tSw (sq t k) d') d i, T, b, F) := by
  have hn := hok.1
  intro d
  induction d with
  | zero =>
    intro i fuel hi hf
    obtain ⟨f, rfl, -⟩ := f_suc hf
    obtain rfl : i = 201 := by omega
    rw [f_M_meet_L24, if_pos (by decide)]
    rfl
  | succ d ih =>
    intro i fuel hi hf
    obtain ⟨f, rfl, hf'⟩ := f_suc hf
    have g : ¬ (200 : Int32) < nI i := nI_nlt (a := 200) (by omega) (by omega)
    have gc : ¬ (nI (9 * i + c) < 0 ∨ 1827 ≤ (nI (9 * i + c)).toNatClampNeg) := ix_b (by omega) (by omega)
    have gd : ¬ (nI (9 * i + d') < 0 ∨ 1827 ≤ (nI (9 * i + d')).toNatClampNeg) := ix_b (by omega) (by omega)
    have a1 := sw9 hok i hc
    have a2 := sw9 hok i hd
    rw [f_M_meet_L24, if_neg g, nine, nine, if_neg gc, if_neg gd, nI_clamp (show 9 * i + c < 2 ^ 31 by omega), nI_clamp (show 9 * i + d' < 2 ^ 31 by omega), hF i (by omega) c (by omega), hF i (by omega) d' (by omega), tr_sw hn hc, tr_sw hn hd]
    by_cases h : tSw (sq t i) c = tSw (sq t i) d'
    · rw [if_pos (congrArg nI h), fnd_pos (p := fun k => tSw (sq t k) c = tSw (sq t k) d') d h]
    · rw [if_neg (fun q => h ((nI_eq (by omega) (by omega)).mp q)), fnd_neg (p := fun k => tSw (sq t k) c = tSw (sq t k) d') d h, nI_1]
      exact ih (i + 1) f (by omega) hf'
theorem e_meet {now one : RS} {T : MT} {t : Tb} {a b F : Nat → Int32} (hX : rX now t) (hM : rM T t) (hok : okT t) (hr : rf a b) (x1 x2 : Int32) : ∃ r a' one' T' b' F', f_X_meet now a one x1 x2 = some (r, a', one') ∧ f_M_meet T b F x1 x2 = some (r, T', b', F') ∧ BK T T' t ∧ rf a' b' := by
  have hn := hok.1
  unfold f_X_meet f_M_meet
  rcases two hX hM hok x1 x2 with ⟨h1, h2⟩ | ⟨c, d, hc, hd, hcd, rfl, rfl, h1, h2⟩
  · obtain ⟨a', b', e1, e2, h⟩ := no1 hr
    rw [h1, Option.bind_some, if_pos rfl, h2, Option.bind_some, if_pos rfl, e1, Option.bind_some, e2, Option.bind_some]
    exact ⟨_, a', one, T, b', F, rfl, rfl, ⟨hM, fun _ _ => rfl⟩, h⟩
  · obtain ⟨z1, e1, r1⟩ := p_copyFrom one now hX hok
    obtain ⟨o', e3⟩ := p_meet_L hok hc hd 201 0 FU z1 (by omega) (by unfold FU; omega) r1
    obtain ⟨T1, F1, e4, k4, h4⟩ := q_trail hM hok F 200 (by omega)
    have e5 := q_meet_L (T := T1) hok b h4 hc hd 201 0 FU (by omega) (by unfold FU; omega)
    unfold f_Mind_meetBehind
    rw [l200, h1, Option.bind_some, if_neg z10', h2, Option.bind_some, if_neg z10', e1, Option.bind_some, ← nI_0, e3, Option.bind_some, e4, Option.bind_some]
    exact ⟨_, a, o', T1, b, F1, rfl, e5, k4.bk, hr⟩
