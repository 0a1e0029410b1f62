/-! Pure: the class's ring does what a table does. -/
theorem p_leftOf {z : RS} {t : Tb} (hr : rX z t) (hok : okT t) {c : Nat} (hc : c < tN t) : f_Ring_leftOf z (nI c) = some (nI (lf t c)) := by
  obtain ⟨h8, -, -, h1, h3, -⟩ := hok
  unfold f_Ring_leftOf
  rw [hr.1, if_neg (nI_ne0 (by omega) (by omega)), hr.2.2.2.1, nI_add, nI_mod (by omega) (by omega) (by omega)]
  rfl
theorem p_rightOf {z : RS} {t : Tb} (hr : rX z t) (hok : okT t) {c : Nat} (hc : c < tN t) : f_Ring_rightOf z (nI c) = some (nI (rt t c)) := by
  obtain ⟨h8, -, -, h1, h3, -⟩ := hok
  unfold f_Ring_rightOf
  rw [hr.1, if_neg (nI_ne0 (by omega) (by omega)), hr.2.2.2.1, lI 3, pk_mul, nI_add, pk_sub (by omega), nI_mod (by omega) (by omega) (by omega)]
  rfl
theorem p_gift {z : RS} {t : Tb} (hr : rX z t) (hok : okT t) {c : Nat} (hc : c < tN t) : f_Ring_gift z (nI c) = some (nI (gf t c)) := by
  have hn := hok.1
  have hl := lf_lt (t := t) (c := c) (by omega)
  obtain ⟨hk6, hs9⟩ := hok.2.1 c hc
  have hs9' := (hok.2.1 _ hl).2
  obtain ⟨hk, hs⟩ := hr.2.1 c hc
  have hs' := (hr.2.1 _ hl).2
  unfold f_Ring_gift gf
  rw [p_leftOf hr hok hc, Option.bind_some]
  by_cases hz : lf t c = c
  · simp (disch := omega) only [reduceIte, Nat.reduceEqDiff, Nat.zero_ne_one, Nat.one_ne_zero, lI, s_clamp, s_lt, s_le, s_eq, s_add, s_mul, s_sub, s_div, s_mod, s_leF, s_leT, s_ltF, s_ltT, if_true, if_false, Option.bind_some, or_false, false_or, not_true, not_false_eq_true, hz]
  have e : tKd t c = 0 ∨ tKd t c = 1 ∨ tKd t c = 2 ∨ tKd t c = 3 ∨ tKd t c = 4 ∨ tKd t c = 5 ∨ tKd t c = 6 := by omega
  rcases e with e | e | e | e | e | e | e
  all_goals rw [e] at hk
  all_goals simp only [hz, e, if_false]
  · simp (disch := omega) only [reduceIte, Nat.reduceEqDiff, Nat.zero_ne_one, Nat.one_ne_zero, lI, s_clamp, s_lt, s_le, s_eq, s_add, s_mul, s_sub, s_div, s_mod, s_leF, s_leT, s_ltF, s_ltT, if_true, if_false, Option.bind_some, or_false, false_or, not_true, not_false_eq_true, hk, hs, hs', hz]
  · simp (disch := omega) only [reduceIte, Nat.reduceEqDiff, Nat.zero_ne_one, Nat.one_ne_zero, lI, s_clamp, s_lt, s_le, s_eq, s_add, s_mul, s_sub, s_div, s_mod, s_leF, s_leT, s_ltF, s_ltT, if_true, if_false, Option.bind_some, or_false, false_or, not_true, not_false_eq_true, hk, hs, hs', hz]
  · by_cases hx : tSw t c ≤ tSw t (lf t c)
    · simp (disch := omega) only [reduceIte, Nat.reduceEqDiff, Nat.zero_ne_one, Nat.one_ne_zero, lI, s_clamp, s_lt, s_le, s_eq, s_add, s_mul, s_sub, s_div, s_mod, s_leF, s_leT, s_ltF, s_ltT, if_true, if_false, Option.bind_some, or_false, false_or, not_true, not_false_eq_true, hk, hs, hs', hz, hx]
    · simp (disch := omega) only [reduceIte, Nat.reduceEqDiff, Nat.zero_ne_one, Nat.one_ne_zero, lI, s_clamp, s_lt, s_le, s_eq, s_add, s_mul, s_sub, s_div, s_mod, s_leF, s_leT, s_ltF, s_ltT, if_true, if_false, Option.bind_some, or_false, false_or, not_true, not_false_eq_true, hk, hs, hs', hz, hx]
  · by_cases hx : tSw t c ≤ 0
    · simp (disch := omega) only [reduceIte, Nat.reduceEqDiff, Nat.zero_ne_one, Nat.one_ne_zero, lI, s_clamp, s_lt, s_le, s_eq, s_add, s_mul, s_sub, s_div, s_mod, s_leF, s_leT, s_ltF, s_ltT, if_true, if_false, Option.bind_some, or_false, false_or, not_true, not_false_eq_true, hk, hs, hs', hz, hx]
      exact congrArg some (congrArg nI (by omega))
    · simp (disch := omega) only [reduceIte, Nat.reduceEqDiff, Nat.zero_ne_one, Nat.one_ne_zero, lI, s_clamp, s_lt, s_le, s_eq, s_add, s_mul, s_sub, s_div, s_mod, s_leF, s_leT, s_ltF, s_ltT, if_true, if_false, Option.bind_some, or_false, false_or, not_true, not_false_eq_true, hk, hs, hs', hz, hx]
  · simp (disch := omega) only [reduceIte, Nat.reduceEqDiff, Nat.zero_ne_one, Nat.one_ne_zero, lI, s_clamp, s_lt, s_le, s_eq, s_add, s_mul, s_sub, s_div, s_mod, s_leF, s_leT, s_ltF, s_ltT, if_true, if_false, Option.bind_some, or_false, false_or, not_true, not_false_eq_true, hk, hs, hs', hz]
  · by_cases hx : tSw t c ≤ tSw t (lf t c)
    · simp (disch := omega) only [reduceIte, Nat.reduceEqDiff, Nat.zero_ne_one, Nat.one_ne_zero, lI, s_clamp, s_lt, s_le, s_eq, s_add, s_mul, s_sub, s_div, s_mod, s_leF, s_leT, s_ltF, s_ltT, if_true, if_false, Option.bind_some, or_false, false_or, not_true, not_false_eq_true, hk, hs, hs', hz, hx]
      exact congrArg some (congrArg nI (by omega))
    · simp (disch := omega) only [reduceIte, Nat.reduceEqDiff, Nat.zero_ne_one, Nat.one_ne_zero, lI, s_clamp, s_lt, s_le, s_eq, s_add, s_mul, s_sub, s_div, s_mod, s_leF, s_leT, s_ltF, s_ltT, if_true, if_false, Option.bind_some, or_false, false_or, not_true, not_false_eq_true, hk, hs, hs', hz, hx]
  · by_cases hx : tSw t c < 4
    · simp (disch := omega) only [reduceIte, Nat.reduceEqDiff, Nat.zero_ne_one, Nat.one_ne_zero, lI, s_clamp, s_lt, s_le, s_eq, s_add, s_mul, s_sub, s_div, s_mod, s_leF, s_leT, s_ltF, s_ltT, if_true, if_false, Option.bind_some, or_false, false_or, not_true, not_false_eq_true, hk, hs, hs', hz, hx]
    · simp (disch := omega) only [reduceIte, Nat.reduceEqDiff, Nat.zero_ne_one, Nat.one_ne_zero, lI, s_clamp, s_lt, s_le, s_eq, s_add, s_mul, s_sub, s_div, s_mod, s_leF, s_leT, s_ltF, s_ltT, if_true, if_false, Option.bind_some, or_false, false_or, not_true, not_false_eq_true, hk, hs, hs', hz, hx]
theorem iI_add (a b : Int) : Int32.ofInt (a + b) = Int32.ofInt a + Int32.ofInt b := by simp
theorem iI_sub (a b : Int) : Int32.ofInt (a - b) = Int32.ofInt a - Int32.ofInt b := by simp
theorem iI_nI (a : Int) (n : Nat) : Int32.ofInt a + nI n = Int32.ofInt (a + n) := by rw [nI_iI, iI_add]
theorem iI_nI' (a : Int) (n : Nat) : Int32.ofInt a - nI n = Int32.ofInt (a - n) := by rw [nI_iI, iI_sub]
theorem u_add {n x g : Nat} {H : Nat → Int32} {A : Nat → Int} (hH : ∀ c, c < n → H c = Int32.ofInt (A c)) (hx : x < n) : ∀ c, c < n → upd H x (H x + nI g) c = Int32.ofInt (A c + (if c = x then (g : Int) else 0)) := by
  intro c hc
  unfold upd
  by_cases h : c = x
  · subst h
    rw [if_pos rfl, if_pos rfl, hH c hc, iI_nI]
  · rw [if_neg h, if_neg h, hH c hc, Int.add_zero]
theorem u_sub {n x g : Nat} {H : Nat → Int32} {A : Nat → Int} (hH : ∀ c, c < n → H c = Int32.ofInt (A c)) (hx : x < n) : ∀ c, c < n → upd H x (H x - nI g) c = Int32.ofInt (A c - (if c = x then (g : Int) else 0)) := by
  intro c hc
  unfold upd
  by_cases h : c = x
  · subst h
    rw [if_pos rfl, if_pos rfl, hH c hc, iI_nI']
  · rw [if_neg h, if_neg h, hH c hc, Int.sub_zero]
theorem p_leftOf_h {z : RS} {t : Tb} (hr : rX z t) (hok : okT t) {c : Nat} (hc : c < tN t) (H : Nat → Int32) : f_Ring_leftOf (r_kinds z, r_sweets z, r_settings z, H, r_children z, r_strokes z, r_gave z, r_threw z) (nI c) = some (nI (lf t c)) := p_leftOf (z := (r_kinds z, r_sweets z, r_settings z, H, r_children z, r_strokes z, r_gave z, r_threw z)) hr hok hc
theorem p_rightOf_h {z : RS} {t : Tb} (hr : rX z t) (hok : okT t) {c : Nat} (hc : c < tN t) (H : Nat → Int32) : f_Ring_rightOf (r_kinds z, r_sweets z, r_settings z, H, r_children z, r_strokes z, r_gave z, r_threw z) (nI c) = some (nI (rt t c)) := p_rightOf (z := (r_kinds z, r_sweets z, r_settings z, H, r_children z, r_strokes z, r_gave z, r_threw z)) hr hok hc
theorem p_handOn_L17 {t : Tb} (hok : okT t) (k : RS → Option RS) : ∀ (d i fuel : Nat) (z : RS), i + d = tN t → d < fuel → rX z t → (∀ c, c < tN t → r_heaps z c = Int32.ofInt (hp t i c)) →
    ∃ z', f_Ring_handOn_L17 k fuel z (nI i) = k z' ∧ rX z' t ∧ ∀ c, c < tN t → r_heaps z' c = Int32.ofInt (hp t (tN t) c) := by
  have hn := hok.1
  intro d
  induction d with
  | zero =>
    intro i fuel z hi hf hr hh
    obtain ⟨f, rfl, -⟩ := f_suc hf
    have hi' : i = tN t := by omega
    subst hi'
    refine ⟨z, ?_, hr, hh⟩
    rw [f_Ring_handOn_L17, hr.1, if_pos (nI_le (Nat.le_refl _) (by omega))]
  | succ d ih =>
    intro i fuel z hi hf hr hh
    obtain ⟨f, rfl, hf'⟩ := f_suc hf
    have hlt : i < tN t := by omega
    have hl := lf_lt (t := t) (c := i) (by omega)
    have hrt := rt_lt (t := t) (c := i) (by omega)
    have hk := (hr.2.1 i hlt).1
    have hk6 := (hok.2.1 i hlt).1
    rw [f_Ring_handOn_L17, hr.1, if_neg (ix_n hlt hn), p_gift hr hok hlt, Option.bind_some, if_neg (ix_b (by omega) (by omega)), ← hr.1, p_leftOf_h hr hok hlt, Option.bind_some, if_neg (ix_b (by omega) (by omega)), ix_k (by omega), ix_k (by omega), hk]
    have h1 := u_sub (g := gf t i) hh hlt
    have h2 := u_add (g := gf t i) h1 hl
    by_cases hb : tKd t i = 1
    · have h3 := u_sub (g := gf t i) h2 hlt
      have h4 := u_add (g := gf t i) h3 hrt
      rw [if_pos (by rw [hb]; rfl), p_rightOf_h hr hok hlt, Option.bind_some, if_neg (ix_b (by omega) (by omega)), ix_k (by omega), nI_1]
      refine ih (i + 1) f _ (by omega) hf' hr ?_
      intro c hc
      refine (h4 c hc).trans (congrArg _ ?_)
      simp only [hp, out, hb, if_true, true_and]
      repeat' split
      all_goals omega
    · rw [if_neg (by rw [lI 1, nI_eq (by omega) (by omega)]; exact hb), nI_1]
      refine ih (i + 1) f _ (by omega) hf' hr ?_
      intro c hc
      refine (h2 c hc).trans (congrArg _ ?_)
      simp only [hp, out, hb, if_false, false_and]
      repeat' split
      all_goals omega
theorem p_handOn_L97 {t : Tb} (hok : okT t) : ∀ (d i fuel : Nat) (z : RS), i + d = tN t → d < fuel → rX z (setSw t (fun c => if c < i then cp t c else tSw t c)) → (∀ c, c < tN t → r_heaps z c = Int32.ofInt (hp t (tN t) c)) →
    ∃ z', f_Ring_handOn_L97 fuel z (nI i) = some z' ∧ rX z' (setSw t (cp t)) := by
  have hn := hok.1
  intro d
  induction d with
  | zero =>
    intro i fuel z hi hf hr hh
    obtain ⟨f, rfl, -⟩ := f_suc hf
    refine ⟨z, ?_, hr.1, fun c hc => ?_, hr.2.2⟩
    · have hc0 : r_children z = nI (tN t) := hr.1
      rw [f_Ring_handOn_L97, hc0, if_pos (nI_le (show tN t ≤ i by omega) (by omega))]
    · have h := hr.2.1 c hc
      refine ⟨h.1, h.2.trans (congrArg nI ?_)⟩
      show (if c < i then cp t c else tSw t c) = cp t c
      rw [if_pos (by have : c < tN t := hc; omega)]
  | succ d ih =>
    intro i fuel z hi hf hr hh
    obtain ⟨f, rfl, hf'⟩ := f_suc hf
    have hlt : i < tN t := by omega
    have hc0 : r_children z = nI (tN t) := hr.1
    rw [f_Ring_handOn_L97, hc0, if_neg (ix_n hlt hn), ← hc0, if_neg (ix_b (by omega) (by omega)), ix_k (by omega), nI_1, hh i hlt]
    have hlo := hp_nn (t := t) (tN t) i
    have hhi := hp_hi hok (tN t) i (Nat.le_refl _)
    have hs9 := (hok.2.1 i hlt).2
    obtain ⟨v, hv⟩ : ∃ v : Nat, hp t (tN t) i = v := ⟨_, (Int.toNat_of_nonneg hlo).symm⟩
    have hm : jmin (Int32.ofInt (hp t (tN t) i)) 999 = nI (cp t i) := by
      unfold jmin cp
      rw [hv, ← nI_iI, lI 999]
      have hvl : v < 2 ^ 31 := by omega
      by_cases h : 999 < v
      · rw [if_pos ((nI_ltI (by omega) hvl).mpr h)]
        exact congrArg nI (by omega)
      · rw [if_neg (fun q => h ((nI_ltI (by omega) hvl).mp q))]
        exact congrArg nI (by omega)
    rw [hm]
    refine ih (i + 1) f _ (by omega) hf' ⟨hr.1, fun c hc => ⟨(hr.2.1 c hc).1, ?_⟩, hr.2.2⟩ hh
    show upd (r_sweets z) i (nI (cp t i)) c = nI (if c < i + 1 then cp t c else tSw t c)
    unfold upd
    by_cases h : c = i
    · subst h
      rw [if_pos rfl, if_pos (by omega)]
    · rw [if_neg h, (hr.2.1 c hc).2]
      show nI (if c < i then cp t c else tSw t c) = _
      refine congrArg nI ?_
      by_cases h2 : c < i
      · rw [if_pos h2, if_pos (by omega)]
      · rw [if_neg h2, if_neg (by omega)]
theorem p_handOn {z : RS} {t : Tb} (hr : rX z t) (hok : okT t) : ∃ z', f_Ring_handOn z = some z' ∧ rX z' (setSw t (cp t)) := by
  have hn := hok.1
  unfold f_Ring_handOn
  obtain ⟨z1, e1, hr1, hh1⟩ := p_handOn_L17 hok (fun z_h_9 => f_Ring_handOn_L97 FU z_h_9 0) (tN t) 0 FU ((r_kinds z), (r_sweets z), (r_settings z), (va_cpy (r_sweets z) (r_heaps z) 0 0 8), (r_children z), (r_strokes z), (r_gave z), (r_threw z)) (by omega) (by unfold FU; omega) hr (fun c hc => by
    show va_cpy (r_sweets z) (r_heaps z) 0 0 8 c = _
    rw [pk_cpy_in (by omega) (by omega)]
    show r_sweets z (0 + (c - 0)) = Int32.ofInt (tSw t c)
    rw [show 0 + (c - 0) = c by omega, (hr.2.1 c hc).2, nI_iI])
  obtain ⟨z2, e2, hr2⟩ := p_handOn_L97 hok (tN t) 0 FU z1 (by omega) (by unfold FU; omega) ⟨hr1.1, fun c hc => by
    show _ ∧ _ = nI (if c < 0 then cp t c else tSw t c)
    rw [if_neg (by omega)]
    exact hr1.2.1 c hc, hr1.2.2⟩ hh1
  exact ⟨z2, e1.trans e2, hr2⟩
/-- what stays and what is within bounds while heaps are mended -/
theorem mdT_same (t : Tb) (c : Nat) : tN (mdT t c) = tN t ∧ tKd (mdT t c) = tKd t ∧ tOdd (mdT t c) = tOdd t ∧ tStep (mdT t c) = tStep t ∧ tSt (mdT t c) = tSt t := by
  unfold mdT
  repeat' split
  all_goals exact ⟨rfl, rfl, rfl, rfl, rfl⟩
theorem mdT_ok {t : Tb} (hok : okT t) (c : Nat) (hc : c < tN t) : okT (mdT t c) := by
  obtain ⟨h1, h2, h3, h4, h5, h6⟩ := hok
  have h9 := (h2 c hc).2
  unfold mdT
  repeat' split
  · refine ⟨h1, fun i hi => ⟨(h2 i hi).1, ?_⟩, h3, h4, h5, ?_⟩
    · show updN (tSw t) c (min (tSw t c + 1) 999) i ≤ 999
      have := (h2 i hi).2
      unfold updN
      split <;> omega
    · show tBag t - 1 ≤ 999
      omega
  · exact ⟨h1, h2, h3, h4, h5, h6⟩
  · refine ⟨h1, fun i hi => ⟨(h2 i hi).1, ?_⟩, h3, h4, h5, h6⟩
    show updN (tSw t) c (tSw t c - 1) i ≤ 999
    have := (h2 i hi).2
    unfold updN
    split <;> omega
  · exact ⟨h1, h2, h3, h4, h5, h6⟩
  · exact ⟨h1, h2, h3, h4, h5, h6⟩
theorem mds_same (t : Tb) : ∀ c, tN (mds t c) = tN t ∧ tKd (mds t c) = tKd t ∧ tOdd (mds t c) = tOdd t ∧ tStep (mds t c) = tStep t ∧ tSt (mds t c) = tSt t
  | 0 => ⟨rfl, rfl, rfl, rfl, rfl⟩
  | c + 1 => by
    obtain ⟨a1, a2, a3, a4, a5⟩ := mds_same t c
    obtain ⟨b1, b2, b3, b4, b5⟩ := mdT_same (mds t c) c
    exact ⟨b1.trans a1, b2.trans a2, b3.trans a3, b4.trans a4, b5.trans a5⟩
theorem mds_ok {t : Tb} (hok : okT t) : ∀ c, c ≤ tN t → okT (mds t c)
  | 0, _ => hok
  | c + 1, hc => mdT_ok (mds_ok hok c (by omega)) c (by rw [(mds_same t c).1]; omega)
theorem cp_ok {t : Tb} (hok : okT t) : okT (setSw t (cp t)) := ⟨hok.1, fun i hi => ⟨(hok.2.1 i hi).1, Nat.min_le_right _ _⟩, hok.2.2⟩
theorem stk_same (t : Tb) : tN (stk t) = tN t ∧ tKd (stk t) = tKd t ∧ tOdd (stk t) = tOdd t ∧ tStep (stk t) = tStep t := by
  obtain ⟨a1, a2, a3, a4, -⟩ := mds_same (setSw t (cp t)) (tN t)
  exact ⟨a1, a2, a3, a4⟩
theorem stk_ok {t : Tb} (hok : okT t) : okT (stk t) := by
  have h := mds_ok (cp_ok hok) (tN t) (Nat.le_refl _)
  exact ⟨h.1, h.2.1, h.2.2⟩
theorem sq_same (t : Tb) : ∀ k, tN (sq t k) = tN t ∧ tKd (sq t k) = tKd t ∧ tOdd (sq t k) = tOdd t ∧ tStep (sq t k) = tStep t
  | 0 => ⟨rfl, rfl, rfl, rfl⟩
  | k + 1 => by
    obtain ⟨a1, a2, a3, a4⟩ := sq_same t k
    obtain ⟨b1, b2, b3, b4⟩ := stk_same (sq t k)
    exact ⟨b1.trans a1, b2.trans a2, b3.trans a3, b4.trans a4⟩
theorem sq_ok {t : Tb} (hok : okT t) : ∀ k, okT (sq t k)
  | 0 => hok
  | k + 1 => stk_ok (sq_ok hok k)
theorem sq_add (t : Tb) (a : Nat) : ∀ b, sq (sq t a) b = sq t (a + b)
  | 0 => rfl
  | b + 1 => by
    show stk (sq (sq t a) b) = stk (sq t (a + b))
    rw [sq_add t a b]
theorem p_mend {z : RS} {t : Tb} (hr : rX z t) (hok : okT t) {c : Nat} (hc : c < tN t) (hodd : tSw t c % 2 = 1) : ∃ z', f_Ring_mend z (nI c) = some z' ∧ rX z' (mdT t c) := by
  obtain ⟨h8, h2, h3, -, -, h6⟩ := hok
  have h9 := (h2 c hc).2
  obtain ⟨r1, r2, r3, r4, r5, r6, r7, r8⟩ := hr
  have hs := (r2 c hc).2
  unfold f_Ring_mend mdT
  rw [if_pos hodd, r3, r5]
  by_cases h0 : tOdd t = 0
  · rw [if_pos (by rw [h0]; rfl), if_pos h0]
    by_cases hb : 0 < tBag t
    · rw [if_neg (nI_nle hb (by omega)), if_pos hb, if_neg (ix_b (show c < 8 by omega) (by omega)), ix_k (by omega), hs]
      refine ⟨_, rfl, r1, fun i hi => ⟨(r2 i hi).1, ?_⟩, r3, r4, ?_, r6, ?_, r8⟩
      · show upd (r_sweets z) c (jmin (nI (tSw t c) + 1) 999) i = nI (updN (tSw t) c (min (tSw t c + 1) 999) i)
        unfold upd updN
        by_cases h : i = c
        · rw [if_pos h, if_pos h, nI_1]
          unfold jmin
          rw [lI 999]
          by_cases hq : 999 < tSw t c + 1
          · rw [if_pos ((nI_ltI (by omega) (by omega)).mpr hq)]
            exact congrArg nI (by omega)
          · rw [if_neg (fun q => hq ((nI_ltI (by omega) (by omega)).mp q))]
            exact congrArg nI (by omega)
        · rw [if_neg h, if_neg h]
          exact (r2 i hi).2
      · show upd (r_settings z) 2 (nI (tBag t) - 1) 2 = nI (tBag t - 1)
        unfold upd
        rw [if_pos rfl]
        exact pk_sub hb
      · show r_gave z + 1 = tGv t + 1
        rw [r7]
    · rw [if_pos (by rw [show tBag t = 0 by omega]; decide), if_neg hb]
      exact ⟨z, rfl, r1, r2, r3, r4, r5, r6, r7, r8⟩
  · rw [if_neg (by rw [lI 0, nI_eq (by omega) (by omega)]; exact h0), if_neg h0]
    by_cases h1 : tOdd t = 1
    · rw [if_pos (by rw [h1]; rfl), if_pos h1, if_neg (ix_b (show c < 8 by omega) (by omega)), ix_k (by omega), hs]
      refine ⟨_, rfl, r1, fun i hi => ⟨(r2 i hi).1, ?_⟩, r3, r4, r5, r6, r7, ?_⟩
      · show upd (r_sweets z) c (nI (tSw t c) - 1) i = nI (updN (tSw t) c (tSw t c - 1) i)
        unfold upd updN
        by_cases h : i = c
        · rw [if_pos h, if_pos h]
          exact pk_sub (show 1 ≤ tSw t c by omega)
        · rw [if_neg h, if_neg h]
          exact (r2 i hi).2
      · show r_threw z + 1 = tTh t + 1
        rw [r8]
    · rw [if_neg (by rw [lI 1, nI_eq (by omega) (by omega)]; exact h1), if_neg h1]
      exact ⟨z, rfl, r1, r2, r3, r4, r5, r6, r7, r8⟩
theorem p_strike_L11 {t : Tb} (hok : okT t) (g0 : Int32) : ∀ (d i fuel : Nat) (z : RS), i + d = tN t → d < fuel → rX z (mds t i) →
    ∃ z', f_Ring_strike_L11 g0 fuel z (nI i) = some (tGv (mds t (tN t)) - g0, z') ∧ rX z' (moreSt (mds t (tN t))) := by
  have hn := hok.1
  intro d
  induction d with
  | zero =>
    intro i fuel z hi hf hr
    obtain ⟨f, rfl, -⟩ := f_suc hf
    obtain rfl : i = tN t := by omega
    have hc0 : r_children z = nI (tN t) := hr.1.trans (congrArg nI (mds_same t _).1)
    obtain ⟨r1, r2, r3, r4, r5, r6, r7, r8⟩ := hr
    refine ⟨_, by rw [f_Ring_strike_L11, hc0, if_pos (nI_le (Nat.le_refl _) (by omega)), r7], ?_⟩
    exact ⟨hc0.symm.trans r1, r2, r3, r4, r5, congrArg (· + 1) r6, rfl, r8⟩
  | succ d ih =>
    intro i fuel z hi hf hr
    obtain ⟨f, rfl, hf'⟩ := f_suc hf
    have hlt : i < tN t := by omega
    have hm := mds_same t i
    have hlt' : i < tN (mds t i) := by rw [hm.1]; exact hlt
    have hokm := mds_ok hok i (by omega)
    have hc0 : r_children z = nI (tN t) := hr.1.trans (congrArg nI hm.1)
    have hs := (hr.2.1 i hlt').2
    have hs9 := (hokm.2.1 i hlt').2
    rw [f_Ring_strike_L11, hc0, if_neg (ix_n hlt hn), if_neg (ix_b (by omega) (by omega)), ix_k (by omega), hs, nI_odd (by omega), nI_1]
    by_cases ho : tSw (mds t i) i % 2 = 1
    · obtain ⟨z1, e1, hr1⟩ := p_mend hr hokm hlt' ho
      rw [if_pos (by rw [ho]; rfl), e1, Option.bind_some]
      exact ih (i + 1) f z1 (by omega) hf' hr1
    · rw [if_neg (by rw [lI 1, nI_eq (by omega) (by omega)]; exact ho)]
      refine ih (i + 1) f z (by omega) hf' ?_
      show rX z (mdT (mds t i) i)
      unfold mdT
      rw [if_neg ho]
      exact hr
/-- A STROKE of the class's ring -/
theorem p_strike {z : RS} {t : Tb} (hr : rX z t) (hok : okT t) : ∃ z', f_Ring_strike z = some (tGv (stk t) - tGv t, z') ∧ rX z' (stk t) := by
  obtain ⟨z1, e1, hr1⟩ := p_handOn hr hok
  have hn := hok.1
  obtain ⟨z2, e2, hr2⟩ := p_strike_L11 (cp_ok hok) (r_gave z) (tN t) 0 FU z1 (Nat.zero_add _) (by unfold FU; omega) hr1
  refine ⟨z2, ?_, hr2⟩
  unfold f_Ring_strike
  rw [e1, Option.bind_some]
  refine e2.trans ?_
  rw [hr.2.2.2.2.2.2.1]
  rfl
theorem p_strikeOften_L {t : Tb} (hok : okT t) (n : Nat) (hn : n < 2 ^ 31) : ∀ (d i fuel : Nat) (z : RS), i + d = n → d < fuel → rX z (sq t i) →
    ∃ z', f_Ring_strikeOften_L2 (nI n) fuel z (nI i) = some z' ∧ rX z' (sq t n) := by
  intro d
  induction d with
  | zero =>
    intro i fuel z hi hf hr
    obtain ⟨f, rfl, -⟩ := f_suc hf
    obtain rfl : i = n := by omega
    exact ⟨z, by rw [f_Ring_strikeOften_L2, if_pos (nI_le (Nat.le_refl _) hn)], hr⟩
  | succ d ih =>
    intro i fuel z hi hf hr
    obtain ⟨f, rfl, hf'⟩ := f_suc hf
    obtain ⟨z1, e1, hr1⟩ := p_strike hr (sq_ok hok i)
    obtain ⟨z2, e2, hr2⟩ := ih (i + 1) f z1 (by omega) hf' hr1
    refine ⟨z2, ?_, hr2⟩
    rw [f_Ring_strikeOften_L2, if_neg (nI_ge (by omega) hn), e1, Option.bind_some, nI_1]
    exact e2
theorem p_strikeOften {z : RS} {t : Tb} (hr : rX z t) (hok : okT t) (n : Nat) (hn : n ≤ 1000) : ∃ z', f_Ring_strikeOften z (nI n) = some z' ∧ rX z' (sq t n) :=
  p_strikeOften_L hok n (by omega) n 0 FU z (Nat.zero_add _) (by unfold FU; omega) hr
theorem p_copyFrom (z g : RS) {t : Tb} (hr : rX g t) (hok : okT t) : ∃ z', f_Ring_copyFrom z g = some z' ∧ rX z' t := by
  obtain ⟨r1, r2, r3, r4, r5, r6, r7, r8⟩ := hr
  have hn := hok.1
  refine ⟨_, rfl, r1, fun i hi => ?_, ?_, ?_, ?_, r6, r7, r8⟩
  · have h8 : i < 8 := by omega
    refine ⟨?_, ?_⟩
    · show va_cpy (r_kinds g) (r_kinds z) 0 0 8 i = _
      rw [pk_cpy_in (by omega) (by omega), show 0 + (i - 0) = i by omega]
      exact (r2 i hi).1
    · show va_cpy (r_sweets g) (r_sweets z) 0 0 8 i = _
      rw [pk_cpy_in (by omega) (by omega), show 0 + (i - 0) = i by omega]
      exact (r2 i hi).2
  · show va_cpy (r_settings g) (r_settings z) 0 0 3 0 = _
    rw [pk_cpy_in (by omega) (by omega)]
    exact r3
  · show va_cpy (r_settings g) (r_settings z) 0 0 3 1 = _
    rw [pk_cpy_in (by omega) (by omega)]
    exact r4
  · show va_cpy (r_settings g) (r_settings z) 0 0 3 2 = _
    rw [pk_cpy_in (by omega) (by omega)]
    exact r5
