/-! Pure: counts, images, rows, letters told. -/
def iK (ik hi : Int32) (kept : RS) (K : Nat → Int32) : Prop := ik = hi ∧ (ik = 0 ∨ (ik = 1 ∧ ∃ ti, okT ti ∧ rX kept ti ∧ kT K 0 ti))
theorem iK_keep {ik hi : Int32} {kept : RS} {K K' : Nat → Int32} (h : iK ik hi kept K) (he : ∀ j, j < 23 → K' j = K j) : iK ik hi kept K' := by
  obtain ⟨h1, h2⟩ := h
  refine ⟨h1, ?_⟩
  rcases h2 with h | ⟨h, ti, a, b, c⟩
  · exact Or.inl h
  · exact Or.inr ⟨h, ti, a, b, kT_congr a.1 c (fun j _ hj => he j (by omega))⟩
def iL (len taped : Int32) (text tape : Nat → Int32) : Prop := ∃ n, n ≤ 64 ∧ len = nI n ∧ taped = nI n ∧ ∀ i, i < n → ∃ v, v ≤ 255 ∧ text i = nI v ∧ tape i = nI v
def iN (nc rm : Int32) (nums row : Nat → Int32) : Prop := ∃ n, n ≤ 24 ∧ nc = nI n ∧ rm = nI n ∧ ∀ i, i < n → nums i = row i
theorem z10' : ¬ (1 : Int32) = 0 := by decide
theorem e_image {now kept : RS} {T : MT} {t : Tb} (ik hi : Int32) (hX : rX now t) (hM : rM T t) (hok : okT t) : ∃ r kept' T', f_X_image ik now kept = some (r, 1, kept') ∧ f_M_image T hi = some (r, T', 1) ∧ rM T' t ∧ iK 1 1 kept' (m_kept T') := by
  obtain ⟨z1, e1, r1⟩ := p_copyFrom kept now hX hok
  obtain ⟨T1, e2, r2, k2, -⟩ := keep0 hM hok
  unfold f_X_image f_M_image
  (simp only [e1, e2, hX.1, r2.1, Option.bind_some, reduceIte, or_self, z10, z40, z60, z01, z02, z12, z21, z20]; try simp only [e1, e2, hX.1, r2.1, Option.bind_some, reduceIte, or_self, z10, z40, z60, z01, z02, z12, z21, z20])
  exact ⟨_, z1, T1, rfl, rfl, r2, rfl, Or.inr ⟨rfl, t, hok, r1, k2⟩⟩
theorem e_restore {now kept : RS} {T : MT} {t : Tb} {a b : Nat → Int32} {ik hi : Int32} (hX : rX now t) (hM : rM T t) (hok : okT t) (hr : rf a b) (hi1 : iK ik hi kept (m_kept T)) : ∃ r now' a' T' b' t', f_X_restore ik now kept a = some (r, now', a') ∧ f_M_restore T hi b = some (r, T', b') ∧ okT t' ∧ rX now' t' ∧ rM T' t' ∧ m_kept T' = m_kept T ∧ rf a' b' := by
  obtain ⟨rfl, h2⟩ := hi1
  unfold f_X_restore f_M_restore
  rcases h2 with rfl | ⟨rfl, ti, q1, q2, q3⟩
  · obtain ⟨a', b', e1, e2, h⟩ := no3 hr
    (simp only [e1, e2, Option.bind_some, reduceIte, or_self, z10, z40, z60, z01, z02, z12, z21, z20]; try simp only [e1, e2, Option.bind_some, reduceIte, or_self, z10, z40, z60, z01, z02, z12, z21, z20])
    exact ⟨_, now, a', T, b', t, rfl, rfl, hok, hX, hM, rfl, h⟩
  · obtain ⟨z1, e1, r1⟩ := p_copyFrom now kept q2 q1
    obtain ⟨T1, e2, r2, k2⟩ := back0 q3 q1
    (simp only [e1, e2, r1.1, r2.1, Option.bind_some, reduceIte, or_self, z10, z40, z60, z01, z02, z12, z21, z20]; try simp only [e1, e2, r1.1, r2.1, Option.bind_some, reduceIte, or_self, z10, z40, z60, z01, z02, z12, z21, z20])
    exact ⟨_, z1, a, T1, b, ti, rfl, rfl, q1, r1, r2, k2, hr⟩
theorem cnt11 {x : Int32} (h : x = 0 ∨ x = 1 ∨ x = 2 ∨ x = 3 ∨ x = 4 ∨ x = 5 ∨ x = 6 ∨ x = 7) : f_M_isIn x 11 16 = some 0 := by
  rcases h with rfl | rfl | rfl | rfl | rfl | rfl | rfl | rfl <;> decide
theorem e_count {now : RS} {T : MT} {t : Tb} {a b : Nat → Int32} (hX : rX now t) (hM : rM T t) (hok : okT t) (hr : rf a b) {nc rm len taped : Int32} (h1 : nc = rm) (h2 : len = taped) (x : Int32) : ∃ r, f_X_count nc now len a x = some r ∧ f_M_count T taped rm b x = some r := by
  have hn := hok.1
  subst h1 h2
  unfold f_X_count f_M_count
  have hs := p_sum hX hok
  have hs' := q_sum hM hok
  have ho : f_Ring_oddHeaps now = some (nI (od t (tN t))) := p_odd_L hX hok (tN t) 0 FU (Nat.zero_add _) (by unfold FU; omega)
  have ho' : f_M_count_L109 T FU 0 0 = some (nI (od t (tN t))) := q_odd_L hM hok (tN t) 0 FU (Nat.zero_add _) (by unfold FU; omega)
  rw [hs, hs', ho, ho', hX.1, hM.1, hX.2.2.2.2.2.1, hM.2.2.2.2.2.1, hX.2.2.2.2.2.2.1, hM.2.2.2.2.2.2.1, hX.2.2.2.2.2.2.2, hM.2.2.2.2.2.2.2]
  simp only [Option.bind_some]
  by_cases c0 : x = 0
  · subst c0
    exact ⟨_, rfl, rfl⟩
  by_cases c1 : x = 1
  · subst c1
    exact ⟨_, rfl, rfl⟩
  by_cases c2 : x = 2
  · subst c2
    exact ⟨_, rfl, rfl⟩
  by_cases c3 : x = 3
  · subst c3
    exact ⟨_, rfl, rfl⟩
  by_cases c4 : x = 4
  · subst c4
    exact ⟨_, rfl, rfl⟩
  by_cases c5 : x = 5
  · subst c5
    exact ⟨_, rfl, rfl⟩
  by_cases c6 : x = 6
  · subst c6
    exact ⟨_, rfl, rfl⟩
  by_cases c7 : x = 7
  · subst c7
    exact ⟨_, rfl, rfl⟩
  rw [if_neg c0, if_neg c0, if_neg c1, if_neg c1, if_neg c2, if_neg c2, if_neg c3, if_neg c3, if_neg c4, if_neg c4, if_neg c5, if_neg c5, if_neg c6, if_neg c6, if_neg c7, if_neg c7]
  unfold f_M_isIn
  by_cases g : x < 11
  · rw [if_pos g, if_pos g, Option.bind_some, if_pos rfl]
    exact ⟨_, rfl, rfl⟩
  rw [if_neg g, if_neg g]
  by_cases g2 : (16 : Int32) < x
  · rw [if_pos g2, if_pos g2, Option.bind_some, if_pos rfl]
    exact ⟨_, rfl, rfl⟩
  rw [if_neg g2, if_neg g2]
  have a1 : ¬ x.toInt < (11 : Int32).toInt := fun q => g (Int32.lt_iff_toInt_lt.mpr q)
  have a2 : ¬ (16 : Int32).toInt < x.toInt := fun q => g2 (Int32.lt_iff_toInt_lt.mpr q)
  have e1 : (11 : Int32).toInt = 11 := by decide
  have e2 : (16 : Int32).toInt = 16 := by decide
  obtain ⟨v, hv1, hv2, rfl⟩ : ∃ v : Nat, 11 ≤ v ∧ v ≤ 16 ∧ x = nI v := ⟨x.toInt.toNat, by omega, by omega, by
    apply Int32.toInt_inj.mp
    rw [nI_toInt (by omega)]
    omega⟩
  have e3 : nI v - 10 = nI (v - 10) := pk_sub (show 10 ≤ v by omega)
  have hb : ¬ (nI (v - 10) < 0 ∨ 7 ≤ (nI (v - 10)).toNatClampNeg) := ix_b (by omega) (by omega)
  rw [e3, Option.bind_some, if_neg z10', if_neg hb, if_neg hb, nI_clamp (by omega), hr (v - 10) (by omega) (by omega)]
  exact ⟨_, rfl, rfl⟩
theorem e_row {nc rm : Int32} {nums row a b : Nat → Int32} (hr : rf a b) (hN : iN nc rm nums row) (x : Int32) : ∃ r nc' nums' a' rm' b' row', f_X_row nc nums a x = some (r, nc', nums', a') ∧ f_M_row rm b row x = some (r, rm', b', row') ∧ iN nc' rm' nums' row' ∧ rf a' b' := by
  obtain ⟨n, h24, rfl, rfl, hv⟩ := hN
  unfold f_X_row f_M_row
  rcases (show (f_X_outside x 0 999 = some (-4) ∧ f_M_bound x 0 999 = some (-4)) ∨ (f_X_outside x 0 999 = some (-6) ∧ f_M_bound x 0 999 = some (-6)) ∨ ∃ k, 0 ≤ k ∧ k ≤ 999 ∧ x = nI k ∧ f_X_outside x 0 999 = some 0 ∧ f_M_bound x 0 999 = some 0 from bd x 0 999 (by decide) (by decide)) with ⟨hB, hB2⟩ | ⟨hB, hB2⟩ | ⟨k, hn0, hk, rfl, hB, hB2⟩
  · obtain ⟨a', b', e1, e2, h⟩ := no4 hr
    (simp only [hB, hB2, e1, e2, Option.bind_some, reduceIte, or_self, z10, z40, z60, z01, z02, z12, z21, z20]; try simp only [hB, hB2, e1, e2, Option.bind_some, reduceIte, or_self, z10, z40, z60, z01, z02, z12, z21, z20])
    exact ⟨_, nI n, nums, a', nI n, b', row, rfl, rfl, ⟨n, h24, rfl, rfl, hv⟩, h⟩
  · obtain ⟨a', b', e1, e2, h⟩ := no6 hr
    (simp only [hB, hB2, e1, e2, Option.bind_some, reduceIte, or_self, z10, z40, z60, z01, z02, z12, z21, z20]; try simp only [hB, hB2, e1, e2, Option.bind_some, reduceIte, or_self, z10, z40, z60, z01, z02, z12, z21, z20])
    exact ⟨_, nI n, nums, a', nI n, b', row, rfl, rfl, ⟨n, h24, rfl, rfl, hv⟩, h⟩
  · (simp only [hB, hB2, Option.bind_some, reduceIte, or_self, z10, z40, z60, z01, z02, z12, z21, z20]; try simp only [hB, hB2, Option.bind_some, reduceIte, or_self, z10, z40, z60, z01, z02, z12, z21, z20])
    by_cases hn : n = 24
    · obtain ⟨a', b', e1, e2, h⟩ := no6 hr
      subst hn
      rw [if_neg (by decide), if_pos (by decide)]
      (simp only [e1, e2, Option.bind_some, reduceIte, or_self, z10, z40, z60, z01, z02, z12, z21, z20]; try simp only [e1, e2, Option.bind_some, reduceIte, or_self, z10, z40, z60, z01, z02, z12, z21, z20])
      exact ⟨_, nI 24, nums, a', nI 24, b', row, rfl, rfl, ⟨24, h24, rfl, rfl, hv⟩, h⟩
    · have g1 : nI n < 24 := nI_lt (b := 24) (by omega) (by omega)
      have g2 : ¬ nI n = 24 := fun q => hn ((nI_eq (b := 24) (by omega) (by omega)).mp q)
      have g3 : ¬ (nI n < 0 ∨ 24 ≤ (nI n).toNatClampNeg) := ix_b (by omega) (by omega)
      rw [if_pos g1, if_neg g2, if_neg g3, if_neg g3, nI_clamp (by omega), nI_1]
      refine ⟨_, _, _, a, _, b, _, rfl, rfl, ⟨n + 1, by omega, rfl, rfl, fun i hi => ?_⟩, hr⟩
      show upd nums n (nI k) i = upd row n (nI k) i
      unfold upd
      by_cases h : i = n
      · rw [if_pos h, if_pos h]
      · rw [if_neg h, if_neg h]
        exact hv i (by omega)
theorem chr {v : Nat} (hv : v ≤ 255) : ((nI v).toUInt32 % 65536).toInt32 = nI v := by
  rw [pk_char]
  refine congrArg nI ?_
  have h : (nI v).toBitVec.toNat = v := by
    show (BitVec.ofNat 32 v).toNat = v
    rw [BitVec.toNat_ofNat]
    omega
  rw [h]
  omega
theorem chr2 {v : Nat} (hv : v ≤ 255) : vp_nar .char (nI v) = nI v := by
  have h := pk_vc (nI v)
  rw [chr hv] at h
  exact h
theorem e_feed {len taped : Int32} {text tape a b : Nat → Int32} (hr : rf a b) (hL : iL len taped text tape) (x : Int32) : ∃ r len' text' a' taped' b' tape', f_X_feed len text a x = some (r, len', text', a') ∧ f_M_feed taped b tape x = some (r, taped', b', tape') ∧ iL len' taped' text' tape' ∧ rf a' b' := by
  obtain ⟨n, h64, rfl, rfl, hv⟩ := hL
  unfold f_X_feed f_M_feed
  have hL' : iL (nI n) (nI n) text tape := ⟨n, h64, rfl, rfl, hv⟩
  have e0 : f_X_outside x 0 255 = if (0 : Int32) ≤ x then (if x ≤ 255 then some 0 else some (-6)) else some (-4) := rfl
  rcases (show (f_X_outside x 0 255 = some (-4) ∧ f_M_bound x 0 255 = some (-4)) ∨ (f_X_outside x 0 255 = some (-6) ∧ f_M_bound x 0 255 = some (-6)) ∨ ∃ k, 0 ≤ k ∧ k ≤ 255 ∧ x = nI k ∧ f_X_outside x 0 255 = some 0 ∧ f_M_bound x 0 255 = some 0 from bd x 0 255 (by decide) (by decide)) with ⟨hB, hB2⟩ | ⟨hB, hB2⟩ | ⟨k, hn0, hk, rfl, hB, hB2⟩
  · obtain ⟨a', b', e1, e2, h⟩ := no4 hr
    rw [hB] at e0
    have g : ¬ (0 : Int32) ≤ x := by
      intro g
      rw [if_pos g] at e0
      split at e0 <;> exact absurd e0 (by decide)
    rw [if_neg g]
    (simp only [hB2, e1, e2, Option.bind_some, reduceIte, or_self, z10, z40, z60, z01, z02, z12, z21, z20]; try simp only [hB2, e1, e2, Option.bind_some, reduceIte, or_self, z10, z40, z60, z01, z02, z12, z21, z20])
    exact ⟨_, _, text, a', _, b', tape, rfl, rfl, hL', h⟩
  · obtain ⟨a', b', e1, e2, h⟩ := no6 hr
    rw [hB] at e0
    have g : (0 : Int32) ≤ x := by
      apply Decidable.of_not_not
      intro g
      rw [if_neg g] at e0
      exact absurd e0 (by decide)
    have g2 : ¬ x ≤ 255 := by
      intro g2
      rw [if_pos g, if_pos g2] at e0
      exact absurd e0 (by decide)
    rw [if_pos g, if_pos (Int32.not_le.mp g2)]
    (simp only [hB2, e1, e2, Option.bind_some, reduceIte, or_self, z10, z40, z60, z01, z02, z12, z21, z20]; try simp only [hB2, e1, e2, Option.bind_some, reduceIte, or_self, z10, z40, z60, z01, z02, z12, z21, z20])
    exact ⟨_, _, text, a', _, b', tape, rfl, rfl, hL', h⟩
  · rw [if_pos (nI_pos' (by omega)), if_neg (by rw [lI 255, nI_ltI (by omega) (by omega)]; omega), chr hk]
    unfold f_Letters_add
    rw [chr2 hk]
    by_cases hn : n = 64
    · obtain ⟨a', b', e1, e2, h⟩ := no6 hr
      subst hn
      rw [if_neg (by decide), hB2, Option.bind_some, if_pos rfl, if_pos (by decide)]
      (simp only [e1, e2, Option.bind_some, reduceIte, or_self, z10, z40, z60, z01, z02, z12, z21, z20]; try simp only [e1, e2, Option.bind_some, reduceIte, or_self, z10, z40, z60, z01, z02, z12, z21, z20])
      exact ⟨_, _, text, a', _, b', tape, rfl, rfl, hL', h⟩
    · have g1 : nI n < 64 := nI_lt (b := 64) (by omega) (by omega)
      have g2 : ¬ nI n = 64 := fun q => hn ((nI_eq (b := 64) (by omega) (by omega)).mp q)
      have g3 : ¬ (nI n < 0 ∨ 64 ≤ (nI n).toNatClampNeg) := ix_b (by omega) (by omega)
      have g4 : ¬ (64 : Int32) ≤ nI n := nI_ge (b := 64) (by omega) (by omega)
      rw [if_pos g1, if_neg g4, if_neg g3, hB2, Option.bind_some, Option.bind_some, if_pos rfl, if_neg g2, if_neg g3, nI_clamp (by omega), nI_1]
      refine ⟨_, _, _, a, _, b, _, rfl, rfl, ⟨n + 1, by omega, rfl, rfl, fun i hi => ?_⟩, hr⟩
      show ∃ v, v ≤ 255 ∧ upd text n (nI k) i = nI v ∧ upd tape n (nI k) i = nI v
      unfold upd
      by_cases h : i = n
      · rw [if_pos h, if_pos h]
        exact ⟨k, hk, rfl, rfl⟩
      · rw [if_neg h, if_neg h]
        exact hv i (by omega)
