/-! Pure: what each call answers, where it is not refused. -/
theorem outZ {v lo hi : Nat} (h1 : lo ≤ v) (h2 : v ≤ hi) (hh : hi < 2 ^ 31) : f_X_outside (nI v) (nI lo) (nI hi) = some 0 := by
  rw [outN (by omega) (by omega) hh, if_pos h1, if_pos h2]
theorem hasN {now : RS} {t : Tb} (hX : rX now t) (hok : okT t) {c : Nat} (hc : c < tN t) : f_Ring_has now (nI c) = some 1 := by
  have hn := hok.1
  unfold f_Ring_has
  rw [hX.1, if_neg (nI_pos (by omega)), if_neg (ix_n hc hn)]
theorem part0 : f_X_isPart 0 = some 1 := rfl
theorem part1 : f_X_isPart 1 = some 1 := by decide
theorem v_run {now : RS} {t : Tb} (a : Nat → Int32) (one : RS) (hX : rX now t) (hok : okT t) {c n : Nat} (hc : c < tN t) (hn : n ≤ 200) : ∃ one', f_X_run now a one (nI c) (nI n) = some (nI (tSw (sq t n) c), a, one') := by
  have h8 := hok.1
  have hB : f_X_outside (nI n) 0 200 = some 0 := outZ (lo := 0) (hi := 200) (Nat.zero_le _) hn (by decide)
  have h1 := hasN hX hok hc
  obtain ⟨z1, z2, f1, f2, -, r2⟩ := p_mind one hX hok n (by omega)
  have hc' : c < tN (sq t n) := by rw [(sq_same t n).1]; exact hc
  unfold f_X_run f_Mind_sweetsBehind
  (simp only [h1, hB, f1, f2, (eq_false (nI_pos (show c < 2 ^ 31 by omega)) : (nI (c) < 0) = False), ix_k (show c < 8 by omega), (eq_false (show ¬ 8 ≤ c by omega)), (r2.2.1 c hc').2, Option.bind_some, reduceIte, or_self, z10, z40, z60, z01, z02, z12, z21, z20]; try simp only [h1, hB, f1, f2, (eq_false (nI_pos (show c < 2 ^ 31 by omega)) : (nI (c) < 0) = False), ix_k (show c < 8 by omega), (eq_false (show ¬ 8 ≤ c by omega)), (r2.2.1 c hc').2, Option.bind_some, reduceIte, or_self, z10, z40, z60, z01, z02, z12, z21, z20])
  exact ⟨z2, rfl⟩
theorem v_giv0 {now : RS} {t : Tb} (a : Nat → Int32) (one : RS) (hX : rX now t) (hok : okT t) {n : Nat} (hn : n ≤ 200) : ∃ one', f_X_given now a one (nI n) 0 = some (tGv (sq t n) - tGv t, a, one') := by
  have hB : f_X_outside (nI n) 0 200 = some 0 := outZ (lo := 0) (hi := 200) (Nat.zero_le _) hn (by decide)
  obtain ⟨z1, z2, f1, f2, -, r2⟩ := p_mind one hX hok n (by omega)
  unfold f_X_given f_Mind_gaveIn
  (simp only [part0, hB, f1, f2, r2.2.2.2.2.2.2.1, hX.2.2.2.2.2.2.1, Option.bind_some, reduceIte, or_self, z10, z40, z60, z01, z02, z12, z21, z20]; try simp only [part0, hB, f1, f2, r2.2.2.2.2.2.2.1, hX.2.2.2.2.2.2.1, Option.bind_some, reduceIte, or_self, z10, z40, z60, z01, z02, z12, z21, z20])
  exact ⟨z2, rfl⟩
theorem v_giv1 {now : RS} {t : Tb} (a : Nat → Int32) (one : RS) (hX : rX now t) (hok : okT t) {n : Nat} (hn : n ≤ 200) : ∃ one', f_X_given now a one (nI n) 1 = some (tTh (sq t n) - tTh t, a, one') := by
  have hB : f_X_outside (nI n) 0 200 = some 0 := outZ (lo := 0) (hi := 200) (Nat.zero_le _) hn (by decide)
  obtain ⟨z1, z2, f1, f2, -, r2⟩ := p_mind one hX hok n (by omega)
  unfold f_X_given f_Mind_threwIn
  (simp only [part1, hB, f1, f2, r2.2.2.2.2.2.2.2, hX.2.2.2.2.2.2.2, Option.bind_some, reduceIte, or_self, z10, z40, z60, z01, z02, z12, z21, z20]; try simp only [part1, hB, f1, f2, r2.2.2.2.2.2.2.2, hX.2.2.2.2.2.2.2, Option.bind_some, reduceIte, or_self, z10, z40, z60, z01, z02, z12, z21, z20])
  exact ⟨z2, rfl⟩
theorem v_rests {now : RS} {t : Tb} (a : Nat → Int32) (one two : RS) (hX : rX now t) (hok : okT t) (h0 : 0 < tN t) : ∃ o' w', f_X_rests now a one two = some (fnd (fun n => eqS t n (n + 1)) 201 0, a, o', w') := by
  have hn := hok.1
  unfold f_X_rests f_Mind_restsBehind
  obtain ⟨z1, e1, r1⟩ := p_copyFrom one now hX hok
  obtain ⟨z2, e2, r2⟩ := p_copyFrom two now hX hok
  obtain ⟨o', w', e3⟩ := w2 hok r1 r2
  rw [hX.1, if_neg (nI_ne0 h0 (by omega)), e1, Option.bind_some, e2, Option.bind_some, ← nI_0, e3, Option.bind_some]
  exact ⟨o', w', rfl⟩
theorem v_alike {now : RS} {t : Tb} (a : Nat → Int32) (one : RS) (hX : rX now t) (hok : okT t) (h0 : 0 < tN t) : ∃ o', f_X_alike now a one = some (fnd (fun k => alk (sq t k)) 201 0, a, o') := by
  have hn := hok.1
  unfold f_X_alike f_Mind_alikeBehind
  obtain ⟨z1, e1, r1⟩ := p_copyFrom one now hX hok
  obtain ⟨o', e3⟩ := p_within hok h0 200 (by omega) z1 r1
  rw [hX.1, if_neg (nI_ne0 h0 (by omega)), l200, e1, Option.bind_some, e3, Option.bind_some]
  exact ⟨o', rfl⟩
theorem v_meet {now : RS} {t : Tb} (a : Nat → Int32) (one : RS) (hX : rX now t) (hok : okT t) {c d : Nat} (hc : c < tN t) (hd : d < tN t) (hcd : c ≠ d) : ∃ o', f_X_meet now a one (nI c) (nI d) = some (fnd (fun k => tSw (sq t k) c = tSw (sq t k) d) 201 0, a, o') := by
  have hn := hok.1
  have h1 : f_X_areTwo now (nI c) (nI d) = some 1 := by
    unfold f_X_areTwo
    rw [hasN hX hok hc, Option.bind_some, if_neg z10', hasN hX hok hd, Option.bind_some, if_neg z10', if_neg (fun q => hcd ((nI_eq (by omega) (by omega)).mp q))]
  obtain ⟨z1, e1, r1⟩ := p_copyFrom one now hX hok
  obtain ⟨o', e3⟩ := p_meet_L hok hc hd 201 0 FU z1 (by omega) (by unfold FU; omega) r1
  unfold f_X_meet f_Mind_meetBehind
  rw [h1, Option.bind_some, if_neg z10', e1, Option.bind_some, ← nI_0, e3, Option.bind_some]
  exact ⟨o', rfl⟩
/-- what is found first, or nothing -/
theorem fnd_or (p : Nat → Prop) : ∀ d i, fnd p d i = -9 ∨ ∃ j, i ≤ j ∧ j < i + d ∧ p j ∧ (∀ k, i ≤ k → k < j → ¬ p k) ∧ fnd p d i = nI j
  | 0, _ => Or.inl rfl
  | d + 1, i => by
    by_cases h : p i
    · exact Or.inr ⟨i, Nat.le_refl _, by omega, h, fun k a b => absurd a (by omega), fnd_pos d h⟩
    · rw [fnd_neg d h]
      rcases fnd_or p d (i + 1) with e | ⟨j, a1, a2, a3, a4, a5⟩
      · exact Or.inl e
      · refine Or.inr ⟨j, by omega, by omega, a3, fun k q1 q2 => ?_, a5⟩
        by_cases hk : k = i
        · rw [hk]; exact h
        · exact a4 k (by omega) q2
theorem fst_uq {t : Tb} {i j0 p q : Nat} (hp : fst1 t i j0 p) (hq : fst1 t i j0 q) : p = q := by
  obtain ⟨a1, a2, a3, a4⟩ := hp
  obtain ⟨b1, b2, b3, b4⟩ := hq
  rcases Nat.lt_trichotomy p q with h | h | h
  · exact absurd a3 (b4 p a1 h)
  · exact h
  · exact absurd b3 (a4 q b1 h)
theorem v_ro {now : RS} {t : Tb} (one two : RS) (hX : rX now t) (hok : okT t) : ∃ one' two', (∃ p, fst1 t 100 1 p ∧ f_Mind_roundOf one two now = some (nI p, one', two')) ∨ ((∀ k, 1 ≤ k → k ≤ 100 → ¬ eqR t 100 (100 + k)) ∧ f_Mind_roundOf one two now = some (-9, one', two')) := by
  obtain ⟨z1, z2, e1, e2, r1, r2⟩ := p_mind one hX hok 100 (by omega)
  obtain ⟨z3, e3, r3⟩ := p_copyFrom two z2 r2 (sq_ok hok 100)
  unfold f_Mind_roundOf
  rw [e1, Option.bind_some, l100, e2, Option.bind_some, e3, Option.bind_some]
  rcases p_round_L hok r2 100 1 FU z3 (by omega) (by omega) (by unfold FU; omega) r3 with ⟨p, w, a, a5⟩ | ⟨a1, w, a2⟩
  · exact ⟨z2, w, Or.inl ⟨p, a, a5⟩⟩
  · exact ⟨z2, w, Or.inr ⟨a1, a2⟩⟩
theorem v_ring1 {now : RS} {t : Tb} (a : Nat → Int32) (one two : RS) (hX : rX now t) (hok : okT t) (h0 : 0 < tN t) : ∃ r one' two', f_X_ring now a one two 1 = some (r, a, one', two') ∧ ∀ p, fst1 t 100 1 p → r = nI p := by
  have hn := hok.1
  obtain ⟨one', two', h⟩ := v_ro one two hX hok
  unfold f_X_ring
  rw [part1, Option.bind_some, if_neg z10', hX.1, if_neg (nI_ne0 h0 (by omega))]
  rcases h with ⟨p, hp, e⟩ | ⟨hn', e⟩
  · have g9 : ¬ nI p = (-9 : Int32) := n9 (by have := hp.2.1; omega)
    rw [e, Option.bind_some, if_neg g9, if_pos rfl]
    exact ⟨_, one', two', rfl, fun q hq => congrArg nI (fst_uq hp hq)⟩
  · rw [e, Option.bind_some, if_pos rfl]
    exact ⟨_, one', two', rfl, fun q hq => absurd hq.2.2.1 (hn' q hq.1 hq.2.1)⟩
theorem v_ring0 {now : RS} {t : Tb} (a : Nat → Int32) (one two : RS) (hX : rX now t) (hok : okT t) (h0 : 0 < tN t) : ∃ r one' two', f_X_ring now a one two 0 = some (r, a, one', two') ∧ (r = -9 ∨ ∃ i p, r = nI i ∧ i ≤ 100 ∧ fst1 t 100 1 p ∧ eqR t (p + i) i) := by
  have hn := hok.1
  obtain ⟨one', two', h⟩ := v_ro one two hX hok
  unfold f_X_ring
  rw [part0, Option.bind_some, if_neg z10', hX.1, if_neg (nI_ne0 h0 (by omega))]
  rcases h with ⟨p, hp, e⟩ | ⟨hn', e⟩
  · have hp2 := hp.2.1
    have g9 : ¬ nI p = (-9 : Int32) := n9 (by omega)
    obtain ⟨z4, f1, s1⟩ := p_copyFrom one' now hX hok
    obtain ⟨z5, f2, s2⟩ := p_copyFrom two' now hX hok
    obtain ⟨z6, f3, s3⟩ := p_strikeOften s2 hok p (by omega)
    obtain ⟨o', w', f4⟩ := p_ahead_L hok p 101 0 FU z4 z6 (by omega) (by unfold FU; omega) s1 s3
    unfold f_Mind_aheadOfRound
    rw [e, Option.bind_some, if_neg g9, if_neg (by decide), f1, Option.bind_some, f2, Option.bind_some, f3, Option.bind_some, ← nI_0, f4, Option.bind_some]
    refine ⟨_, o', w', rfl, ?_⟩
    rcases fnd_or (fun n => eqR t (p + n) n) 101 0 with q | ⟨j, b1, b2, b3, -, b5⟩
    · exact Or.inl q
    · exact Or.inr ⟨j, p, b5, by omega, hp, b3⟩
  · rw [e, Option.bind_some, if_pos rfl]
    exact ⟨_, one', two', rfl, Or.inl rfl⟩
theorem v_tk {now : RS} {t : Tb} (hX : rX now t) (hok : okT t) (dd : Int32) (A B : Nat → Int64) : ∃ A' B', f_Crumbs_take dd A B now 7 = some (nI 7, A', B') ∧ rC A' t 7 := by
  obtain ⟨A0, g1, rA0⟩ := p_begin hX hok dd A
  obtain ⟨A1, B1, g2, rA1⟩ := p_take_L hX hok 7 (by omega) 7 0 FU A0 B (Nat.zero_add _) (by unfold FU; omega) rA0
  have g2 : f_Crumbs_take_L7 now 7 FU 0 A0 B 0 = _ := g2
  unfold f_Crumbs_take
  rw [g1, Option.bind_some, g2]
  exact ⟨A1, B1, rfl, rA1⟩
abbrev hv7 (t : Tb) (c : Nat) : Nat := hvF (cr t 7 c) 7 0
theorem hv7_le (t : Tb) (c : Nat) : hv7 t c ≤ 7 := by
  have := hvF_le (cr t 7 c) 7 0
  omega
theorem v_hv {t : Tb} (hok : okT t) {A : Nat → Int64} (hA : rC A t 7) {c : Nat} (hc : c < tN t) : f_Crumbs_halvings (nI 7) A (nI c) = some (nI (hv7 t c)) := by
  have h8 := hok.1
  have h30 := cr_20 hok (show 7 ≤ 20 by omega) hc
  exact p_hv_L (by omega) (hA c hc) (by omega) (by omega) 7 0 FU (Nat.zero_add _) (by unfold FU; omega)
theorem v_cr1 {now : RS} {t : Tb} (a : Nat → Int32) (hX : rX now t) (hok : okT t) (dd : Int32) (A B : Nat → Int64) {c : Nat} (hc : c < tN t) : ∃ dd' A' B', f_X_crumbs now a dd A B (nI c) 7 1 = some (lN (2 ^ (7 - hv7 t c)), a, dd', A', B') := by
  have hl := hv7_le t c
  obtain ⟨A1, B1, e, hA⟩ := v_tk hX hok dd A B
  have e2 : f_Crumbs_below (nI 7) A1 (nI c) = some (lN (2 ^ (7 - hv7 t c))) := by
    unfold f_Crumbs_below
    rw [v_hv hok hA hc, Option.bind_some, s_sub hl, sh_l _ (by omega)]
  have hB : f_X_outside 7 0 20 = some 0 := by decide
  unfold f_X_crumbs
  rw [hB, Option.bind_some, hasN hX hok hc, Option.bind_some, if_neg z10', part1, Option.bind_some, if_neg z10', if_pos rfl, e, Option.bind_some, if_neg z10', e2, Option.bind_some]
  exact ⟨_, A1, B1, rfl⟩
theorem v_cr0 {now : RS} {t : Tb} (a : Nat → Int32) (hX : rX now t) (hok : okT t) (dd : Int32) (A B : Nat → Int64) {c : Nat} (hc : c < tN t) : ∃ dd' A' B', f_X_crumbs now a dd A B (nI c) 7 0 = some (lN (cr t 7 c / 2 ^ hv7 t c), a, dd', A', B') := by
  have h8 := hok.1
  have hl := hv7_le t c
  have h30 := cr_20 hok (show 7 ≤ 20 by omega) hc
  obtain ⟨A1, B1, e, hA⟩ := v_tk hX hok dd A B
  have e2 : f_Crumbs_above (nI 7) A1 (nI c) = some (lN (cr t 7 c / 2 ^ hv7 t c)) := by
    unfold f_Crumbs_above
    rw [if_neg (ix_b (show c < 8 by omega) (by omega)), v_hv hok hA hc, Option.bind_some, ix_k (by omega), hA c hc, sh_r (by omega) (by omega)]
  have hB : f_X_outside 7 0 20 = some 0 := by decide
  unfold f_X_crumbs
  rw [hB, Option.bind_some, hasN hX hok hc, Option.bind_some, if_neg z10', part0, Option.bind_some, if_neg z10', if_pos rfl, e, Option.bind_some, if_pos rfl, e2, Option.bind_some]
  exact ⟨_, A1, B1, rfl⟩
abbrev gd8 (t : Tb) : Nat := Nat.gcd (sm t (tN t)) (tN t)
theorem v_gcd {now : RS} {t : Tb} (hX : rX now t) (hok : okT t) (h0 : 0 < tN t) : f_Ring_commonDivisor now = some (nI (gd8 t)) ∧ jmax (nI (gd8 t)) 1 = nI (gd8 t) ∧ 0 < gd8 t ∧ gd8 t ≤ 8 := by
  have h8 := hok.1
  have hs := sm_le hok (tN t) (Nat.le_refl _)
  have g0 : 0 < gd8 t := Nat.gcd_pos_of_pos_right _ h0
  have g1 : gd8 t ≤ tN t := Nat.le_of_dvd h0 (Nat.gcd_dvd_right _ _)
  refine ⟨?_, if_neg (nI_nlt (b := 1) g0 (by omega)), g0, by omega⟩
  unfold f_Ring_commonDivisor
  rw [p_sum hX hok, Option.bind_some, hX.1]
  exact p_gcd_L hX hok h0 (by omega) (tN t) FU (by unfold FU; omega) h8 g1
theorem v_mean0 {now : RS} {t : Tb} (a : Nat → Int32) (hX : rX now t) (hok : okT t) (h0 : 0 < tN t) : f_X_mean now a 0 = some (nI (sm t (tN t) / gd8 t), a) := by
  have h8 := hok.1
  have hs := sm_le hok (tN t) (Nat.le_refl _)
  obtain ⟨m1, m2, m3, m4⟩ := v_gcd hX hok h0
  unfold f_X_mean
  rw [part0, Option.bind_some, if_neg z10', hX.1, if_neg (nI_ne0 h0 (by omega)), m1, Option.bind_some, if_pos rfl, p_sum hX hok, Option.bind_some, m2, if_neg (nI_ne0 m3 (by omega)), s_div (by omega) m3 (by omega)]
theorem v_mean1 {now : RS} {t : Tb} (a : Nat → Int32) (hX : rX now t) (hok : okT t) (h0 : 0 < tN t) : f_X_mean now a 1 = some (nI (tN t / gd8 t), a) := by
  have h8 := hok.1
  obtain ⟨m1, m2, m3, m4⟩ := v_gcd hX hok h0
  unfold f_X_mean
  rw [part1, Option.bind_some, if_neg z10', hX.1, if_neg (nI_ne0 h0 (by omega)), m1, Option.bind_some, if_neg z10', m2, if_neg (nI_ne0 m3 (by omega)), s_div (by omega) m3 (by omega)]
abbrev sd3 (t : Tb) (c : Nat) : Nat := if gf t c = 0 then 0 else if tKd t c = 1 then 2 else 1
theorem v_ch1 {now : RS} {t : Tb} (a : Nat → Int32) (hX : rX now t) (hok : okT t) {c : Nat} (hc : c < tN t) : f_X_child now a (nI c) 1 = some (nI (tSw t c), a) := by
  have h8 := hok.1
  unfold f_X_child
  rw [hasN hX hok hc, Option.bind_some, if_neg z10', if_neg z10', if_pos rfl, if_neg (ix_b (show c < 8 by omega) (by omega)), ix_k (by omega), (hX.2.1 c hc).2]
theorem v_ch2 {now : RS} {t : Tb} (a : Nat → Int32) (hX : rX now t) (hok : okT t) {c : Nat} (hc : c < tN t) : f_X_child now a (nI c) 2 = some (nI (gf t c), a) := by
  unfold f_X_child
  rw [hasN hX hok hc, Option.bind_some, if_neg z10', if_neg (by decide), if_neg (by decide), if_pos rfl, p_gift hX hok hc, Option.bind_some]
theorem v_ch3 {now : RS} {t : Tb} (a : Nat → Int32) (hX : rX now t) (hok : okT t) {c : Nat} (hc : c < tN t) : f_X_child now a (nI c) 3 = some (nI (sd3 t c), a) := by
  have h8 := hok.1
  have hg := gf_le (t := t) c
  have hs9 := (hok.2.1 c hc).2
  have hk6 := (hok.2.1 c hc).1
  have e : f_Ring_sides now (nI c) = some (nI (sd3 t c)) := by
    unfold f_Ring_sides sd3
    rw [p_gift hX hok hc, Option.bind_some]
    by_cases g0 : gf t c = 0
    · rw [if_pos (by rw [g0]; rfl), if_pos g0]; rfl
    · rw [if_neg (nI_ne0 (by omega) (by omega)), if_neg g0, if_neg (ix_b (show c < 8 by omega) (by omega)), ix_k (by omega), (hX.2.1 c hc).1]
      by_cases g1 : tKd t c = 1
      · rw [if_pos (by rw [g1]; rfl), if_pos g1]; rfl
      · have g2 : ¬ nI (tKd t c) = 1 := fun q => g1 ((nI_eq (b := 1) (by omega) (by omega)).mp q)
        rw [if_neg g2, if_neg g1]; rfl
  unfold f_X_child
  rw [hasN hX hok hc, Option.bind_some, if_neg z10', if_neg (by decide), if_neg (by decide), if_neg (by decide), if_pos rfl, e, Option.bind_some]
theorem v_cnt1 {now : RS} {t : Tb} (nc len : Int32) (a : Nat → Int32) (hX : rX now t) (hok : okT t) : f_X_count nc now len a 1 = some (nI (sm t (tN t))) := by
  unfold f_X_count
  rw [if_neg z10', if_pos rfl, p_sum hX hok, Option.bind_some]
theorem v_cnt2 {now : RS} {t : Tb} (nc len : Int32) (a : Nat → Int32) (hX : rX now t) : f_X_count nc now len a 2 = some (tSt t) := by
  unfold f_X_count
  rw [if_neg (by decide), if_neg (by decide), if_pos rfl, hX.2.2.2.2.2.1]
theorem v_cnt3 {now : RS} {t : Tb} (nc len : Int32) (a : Nat → Int32) (hX : rX now t) : f_X_count nc now len a 3 = some (tGv t) := by
  unfold f_X_count
  rw [if_neg (by decide), if_neg (by decide), if_neg (by decide), if_pos rfl, hX.2.2.2.2.2.2.1]
theorem v_cnt7 {now : RS} {t : Tb} (nc len : Int32) (a : Nat → Int32) (hX : rX now t) (hok : okT t) : f_X_count nc now len a 7 = some (nI (od t (tN t))) := by
  have hn := hok.1
  have ho : f_Ring_oddHeaps now = some (nI (od t (tN t))) := p_odd_L hX hok (tN t) 0 FU (Nat.zero_add _) (by unfold FU; omega)
  unfold f_X_count
  rw [if_neg (by decide), if_neg (by decide), if_neg (by decide), if_neg (by decide), if_neg (by decide), if_neg (by decide), if_neg (by decide), if_pos rfl, ho, Option.bind_some]
theorem v_stroke {now : RS} {t : Tb} (a : Nat → Int32) (hX : rX now t) (hok : okT t) (h0 : 0 < tN t) : ∃ z, f_X_stroke now a = some (tGv (stk t) - tGv t, z, a) ∧ rX z (stk t) := by
  have hn := hok.1
  obtain ⟨z1, e1, r1⟩ := p_strike hX hok
  unfold f_X_stroke
  rw [hX.1, if_neg (nI_ne0 h0 (by omega)), e1, Option.bind_some]
  exact ⟨z1, rfl, r1⟩
theorem v_set0 {now : RS} {t : Tb} (a : Nat → Int32) (hX : rX now t) (hok : okT t) {v : Nat} (hv : v ≤ 2) : ∃ r z, f_X_set now a 0 (nI v) = some (r, z, a) ∧ rX z (tN t, tKd t, tSw t, v, tStep t, tBag t, tSt t, tGv t, tTh t) := by
  have hB : f_X_outside (nI v) 0 2 = some 0 := outZ (lo := 0) (hi := 2) (Nat.zero_le _) hv (by decide)
  obtain ⟨u1, u2, u3, u4, u5, u6, u7, u8⟩ := hX
  unfold f_X_set
  simp only [kc0, b_0, n_0, l_0, sL0, sG0, if_true, if_false]
  (simp only [hB, u3, Option.bind_some, reduceIte, or_self, z10, z40, z60, z01, z02, z12, z21, z20]; try simp only [hB, u3, Option.bind_some, reduceIte, or_self, z10, z40, z60, z01, z02, z12, z21, z20])
  exact ⟨_, _, rfl, u1, u2, rfl, u4, u5, u6, u7, u8⟩
theorem v_set1 {now : RS} {t : Tb} (a : Nat → Int32) (hX : rX now t) (hok : okT t) {v : Nat} (h1 : 1 ≤ v) (hv : v ≤ 3) : ∃ r z, f_X_set now a 1 (nI v) = some (r, z, a) ∧ rX z (tN t, tKd t, tSw t, tOdd t, v, tBag t, tSt t, tGv t, tTh t) := by
  have hB : f_X_outside (nI v) 1 3 = some 0 := outZ (lo := 1) (hi := 3) h1 hv (by decide)
  obtain ⟨u1, u2, u3, u4, u5, u6, u7, u8⟩ := hX
  unfold f_X_set
  simp only [kc1, b_1, n_1, l_1, sL1, sG1, if_true, if_false]
  (simp only [hB, u4, Option.bind_some, reduceIte, or_self, z10, z40, z60, z01, z02, z12, z21, z20]; try simp only [hB, u4, Option.bind_some, reduceIte, or_self, z10, z40, z60, z01, z02, z12, z21, z20])
  exact ⟨_, _, rfl, u1, u2, u3, rfl, u5, u6, u7, u8⟩
theorem v_set2 {now : RS} {t : Tb} (a : Nat → Int32) (hX : rX now t) (hok : okT t) {v : Nat} (hv : v ≤ 999) : ∃ r z, f_X_set now a 2 (nI v) = some (r, z, a) ∧ rX z (tN t, tKd t, tSw t, tOdd t, tStep t, v, tSt t, tGv t, tTh t) := by
  have hB : f_X_outside (nI v) 0 999 = some 0 := outZ (lo := 0) (hi := 999) (Nat.zero_le _) hv (by decide)
  obtain ⟨u1, u2, u3, u4, u5, u6, u7, u8⟩ := hX
  unfold f_X_set
  simp only [kc2, b_2, n_2, l_2, sL2, sG2, if_true, if_false]
  (simp only [hB, u5, Option.bind_some, reduceIte, or_self, z10, z40, z60, z01, z02, z12, z21, z20]; try simp only [hB, u5, Option.bind_some, reduceIte, or_self, z10, z40, z60, z01, z02, z12, z21, z20])
  exact ⟨_, _, rfl, u1, u2, u3, u4, rfl, u6, u7, u8⟩
theorem v_feed (a text : Nat → Int32) {l v : Nat} (hl : l < 64) (hv : v ≤ 255) : ∃ r, f_X_feed (nI l) text a (nI v) = some (r, nI (l + 1), upd text l (nI v), a) := by
  have g1 : nI l < 64 := nI_lt (b := 64) hl (by omega)
  have g3 : ¬ (nI l < 0 ∨ 64 ≤ (nI l).toNatClampNeg) := ix_b hl (by omega)
  have g4 : ¬ (64 : Int32) ≤ nI l := nI_ge (b := 64) hl (by omega)
  unfold f_X_feed
  rw [if_pos (nI_pos' (by omega)), if_neg (by rw [lI 255, nI_ltI (by omega) (by omega)]; omega), chr hv, if_pos g1]
  unfold f_Letters_add
  rw [chr2 hv, if_neg g4, if_neg g3, nI_clamp (by omega), nI_1, Option.bind_some]
  exact ⟨_, rfl⟩
