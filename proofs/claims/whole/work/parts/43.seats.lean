/-! Pure: SEATS and SEAT. -/
def st (t : Tb) (l : List Nat) : Tb := (tN t, (fun i => tKd t (gl l i)), (fun i => tSw t (gl l i)), t.2.2.2)
theorem st_ok {t : Tb} (hok : okT t) {l : List Nat} (hv : ∀ i, i < tN t → gl l i < tN t) : okT (st t l) := ⟨hok.1, fun i hi => hok.2.1 _ (hv i hi), hok.2.2⟩
/-- the number of a way -/
def vl (t : Tb) (n : Nat) (w : Nat) (l : List Nat) : Int32 := if w = 2 then nI (tSw (sq (st t l) n) 0) else tGv (sq (st t l) n) - tGv t
theorem p_num_L {now : RS} {t : Tb} (hX : rX now t) (hN6 : tN t ≤ 6) {A : Nat → Int32} {l : List Nat} (hA : aR A l) (hl : l.length = tN t) (hv : ∀ i, i < tN t → gl l i < tN t) (k : RS → Option (Int32 × RS)) : ∀ (d i fuel : Nat) (z : RS), i + d = tN t → d < fuel → rX z (tN t, (fun j => if j < i then tKd t (gl l j) else tKd t j), (fun j => if j < i then tSw t (gl l j) else tSw t j), t.2.2.2) → ∃ z', f_Seating_numberOfOrder_L11 A now k fuel z (nI i) = k z' ∧ rX z' (st t l) := by
  intro d
  induction d with
  | zero =>
    intro i fuel z hi hf hr
    obtain ⟨f, rfl, -⟩ := f_suc hf
    obtain rfl : i = tN t := by omega
    refine ⟨z, by rw [f_Seating_numberOfOrder_L11, hX.1, if_pos (nI_le (Nat.le_refl _) (by omega))], hr.1, fun j hj => ?_, hr.2.2⟩
    have hj' : j < tN t := hj
    have q := hr.2.1 j hj
    have q : r_kinds z j = nI (if j < tN t then tKd t (gl l j) else tKd t j) ∧ r_sweets z j = nI (if j < tN t then tSw t (gl l j) else tSw t j) := q
    rw [if_pos hj', if_pos hj'] at q
    exact q
  | succ d ih =>
    intro i fuel z hi hf hr
    obtain ⟨f, rfl, hf'⟩ := f_suc hf
    have hlt : i < tN t := by omega
    have hg := hv i hlt
    have g6 : ¬ (6 : Int32) ≤ nI i := nI_ge (a := i) (b := 6) (by omega) (by omega)
    rw [f_Seating_numberOfOrder_L11, hX.1, if_neg (nI_ge hlt (by omega)), if_neg g6, if_neg (ix_b (show i < 6 by omega) (by omega)), ix_k (show i < 8 by omega), hA i (by omega), if_neg (ix_b (show gl l i < 8 by omega) (by omega)), if_neg (fun q => q.elim (nI_pos (by omega)) (by omega)), ix_k (show gl l i < 8 by omega), (hX.2.1 _ hg).1, (hX.2.1 _ hg).2, nI_1]
    refine ih (i + 1) f _ (by omega) hf' ⟨hr.1, fun j hj => ?_, hr.2.2⟩
    have q := hr.2.1 j hj
    have q : r_kinds z j = nI (if j < i then tKd t (gl l j) else tKd t j) ∧ r_sweets z j = nI (if j < i then tSw t (gl l j) else tSw t j) := q
    show upd (r_kinds z) i (nI (tKd t (gl l i))) j = nI (if j < i + 1 then tKd t (gl l j) else tKd t j) ∧ upd (r_sweets z) i (nI (tSw t (gl l i))) j = nI (if j < i + 1 then tSw t (gl l j) else tSw t j)
    unfold upd
    by_cases e : j = i
    · rw [if_pos e, if_pos e, if_pos (by omega), if_pos (by omega), e]
      exact ⟨rfl, rfl⟩
    · rw [if_neg e, if_neg e, q.1, q.2]
      by_cases e2 : j < i
      · rw [if_pos e2, if_pos e2, if_pos (by omega), if_pos (by omega)]; exact ⟨rfl, rfl⟩
      · rw [if_neg e2, if_neg e2, if_neg (by omega), if_neg (by omega)]; exact ⟨rfl, rfl⟩
theorem w012 {x : Int32} {w : Nat} (hx : x = nI w) (hw : w ≤ 2) : (x = 0 ↔ w = 0) ∧ (x = 1 ↔ w = 1) ∧ (x = 2 ↔ w = 2) := by
  rw [hx]
  exact ⟨nI_eq (b := 0) (by omega) (by omega), nI_eq (b := 1) (by omega) (by omega), nI_eq (b := 2) (by omega) (by omega)⟩
theorem p_num {now : RS} {t : Tb} (hX : rX now t) (hok : okT t) (h0 : 0 < tN t) (hN6 : tN t ≤ 6) {A : Nat → Int32} {l : List Nat} (hA : aR A l) (hg : gd (tN t) l = true) (z : RS) {n w : Nat} (hn : n ≤ 50) (hw : w ≤ 2) : ∃ z', f_Seating_numberOfOrder A z now (nI n) (nI w) = some (vl t n w l, z') := by
  obtain ⟨hl, hv⟩ := gl_lt hg
  obtain ⟨c0, c1, c2⟩ := w012 (w := w) rfl hw
  obtain ⟨z1, e1, r1⟩ := p_copyFrom z now hX hok
  obtain ⟨z2, e2, r2⟩ := p_num_L hX hN6 hA hl hv (fun z_h_trial_7 =>
  (f_Ring_strikeOften z_h_trial_7 (nI n)).bind fun q8 =>
  if nI w = 0 then
   some (((r_gave q8) - (r_gave now)), q8)
  else
   if nI w = 1 then
    some (((r_gave q8) - (r_gave now)), q8)
   else
    some (((r_sweets q8) 0), q8)) (tN t) 0 FU z1 (Nat.zero_add _) (by unfold FU; omega) (by
      refine ⟨r1.1, fun j hj => ?_, r1.2.2⟩
      show r_kinds z1 j = nI (if j < 0 then tKd t (gl l j) else tKd t j) ∧ r_sweets z1 j = nI (if j < 0 then tSw t (gl l j) else tSw t j)
      rw [if_neg (Nat.not_lt_zero _), if_neg (Nat.not_lt_zero _)]
      exact r1.2.1 j hj)
  have e2 : f_Seating_numberOfOrder_L11 A now _ FU z1 0 = _ := e2
  obtain ⟨z3, e3, r3⟩ := p_strikeOften r2 (st_ok hok hv) n (by omega)
  have s0 := (r3.2.1 0 (by rw [(sq_same (st t l) n).1]; exact h0)).2
  have sg := r3.2.2.2.2.2.2.1
  have ng := hX.2.2.2.2.2.2.1
  refine ⟨z3, ?_⟩
  unfold f_Seating_numberOfOrder
  rw [e1, Option.bind_some]
  refine Eq.trans e2 ?_
  show (f_Ring_strikeOften z2 (nI n)).bind _ = _
  rw [e3]
  simp only [Option.bind_some]
  unfold vl
  by_cases w0 : w = 0
  · rw [if_pos (c0.mpr w0), if_neg (by omega), sg, ng]
  · rw [if_neg (fun q => w0 (c0.mp q))]
    by_cases w1 : w = 1
    · rw [if_pos (c1.mpr w1), if_neg (by omega), sg, ng]
    · rw [if_neg (fun q => w1 (c1.mp q)), if_pos (by omega), s0]
theorem q_num_L {t : Tb} (hok : okT t) (hN6 : tN t ≤ 6) {A : Nat → Int32} {l : List Nat} (hA : aR A l) (hl : l.length = tN t) (hv : ∀ i, i < tN t → gl l i < tN t) (K : Nat → Int32) (hK : kT K 30 t) (k : MT → Option (Int32 × MT)) : ∀ (d i fuel : Nat) (z : MT), i + d = tN t → d < fuel → m_kept z = K → rM z (tN t, (fun j => if j < i then tKd t (gl l j) else tKd t j), (fun j => if j < i then tSw t (gl l j) else tSw t j), t.2.2.2) → ∃ z', f_M_seated_L8 A k fuel z (nI i) = k z' ∧ rM z' (st t l) ∧ m_kept z' = K := by
  intro d
  induction d with
  | zero =>
    intro i fuel z hi hf hk hr
    obtain ⟨f, rfl, -⟩ := f_suc hf
    obtain rfl : i = tN t := by omega
    have hmany : m_many z = nI (tN t) := hr.1
    refine ⟨z, by rw [f_M_seated_L8, hmany, if_pos (nI_le (Nat.le_refl _) (by omega))], ⟨hr.1, fun j hj => ?_, hr.2.2⟩, hk⟩
    have hj' : j < tN t := hj
    have q := hr.2.1 j hj
    have q : m_kind z j = nI (if j < tN t then tKd t (gl l j) else tKd t j) ∧ m_sweets z j = nI (if j < tN t then tSw t (gl l j) else tSw t j) := q
    rw [if_pos hj', if_pos hj'] at q
    exact q
  | succ d ih =>
    intro i fuel z hi hf hk hr
    obtain ⟨f, rfl, hf'⟩ := f_suc hf
    have hlt : i < tN t := by omega
    have hg := hv i hlt
    have hmany : m_many z = nI (tN t) := hr.1
    have e1 : (30 : Int32) + 2 * nI (gl l i) = nI (30 + 2 * gl l i) := by rw [lI 30, lI 2, pk_mul, nI_add]
    rw [f_M_seated_L8, hmany, if_neg (nI_ge hlt (by omega)), if_neg (ix_b (show i < 8 by omega) (by omega)), ix_k (show i < 8 by omega), hA i (by omega), e1, if_neg (ix_b (show 30 + 2 * gl l i < 90 by omega) (by omega)), nI_1, if_neg (ix_b (show 30 + 2 * gl l i + 1 < 90 by omega) (by omega)), nI_clamp (show 30 + 2 * gl l i < 2 ^ 31 by omega), nI_clamp (show 30 + 2 * gl l i + 1 < 2 ^ 31 by omega), hk, (hK.1 _ hg).1, (hK.1 _ hg).2, nI_1, ← hmany]
    refine ih (i + 1) f _ (by omega) hf' rfl ⟨hr.1, fun j hj => ?_, hr.2.2⟩
    have q := hr.2.1 j hj
    have q : m_kind z j = nI (if j < i then tKd t (gl l j) else tKd t j) ∧ m_sweets z j = nI (if j < i then tSw t (gl l j) else tSw t j) := q
    show upd (m_kind z) i (nI (tKd t (gl l i))) j = nI (if j < i + 1 then tKd t (gl l j) else tKd t j) ∧ upd (m_sweets z) i (nI (tSw t (gl l i))) j = nI (if j < i + 1 then tSw t (gl l j) else tSw t j)
    unfold upd
    by_cases e : j = i
    · rw [if_pos e, if_pos e, if_pos (by omega), if_pos (by omega), e]
      exact ⟨rfl, rfl⟩
    · rw [if_neg e, if_neg e, q.1, q.2]
      by_cases e2 : j < i
      · rw [if_pos e2, if_pos e2, if_pos (by omega), if_pos (by omega)]; exact ⟨rfl, rfl⟩
      · rw [if_neg e2, if_neg e2, if_neg (by omega), if_neg (by omega)]; exact ⟨rfl, rfl⟩
/-- the reference's one way: slot 1 holds the table of now, and stays -/
theorem q_num {T : MT} {t : Tb} (hM : rM T t) (hK : kT (m_kept T) 30 t) (hok : okT t) (h0 : 0 < tN t) (hN6 : tN t ≤ 6) {A : Nat → Int32} {l : List Nat} (hA : aR A l) (hg : gd (tN t) l = true) {n w : Nat} (hn : n ≤ 50) (hw : w ≤ 2) : ∃ T', f_M_seated T A (nI n) (nI w) = some (vl t n w l, T') ∧ rM T' t ∧ ∀ j, j < 60 → m_kept T' j = m_kept T j := by
  obtain ⟨hl, hv⟩ := gl_lt hg
  obtain ⟨c0, c1, c2⟩ := w012 (w := w) rfl hw
  obtain ⟨T1, e1, r1, k1, o1⟩ := keep2 hM hok
  have hK1 : kT (m_kept T1) 30 t := kT_congr (by omega) hK (fun j h1 h2 => o1 j (by omega))
  obtain ⟨z2, e2, r2, k2⟩ := q_num_L hok hN6 hA hl hv (m_kept T1) hK1 (fun z_h_T_6 =>
  (f_M_goes z_h_T_6 (nI n)).bind fun q7 =>
  if nI w = 2 then
   (f_M_passesAll q7.2 2 0).bind fun q10 =>
   some (((m_sweets q7.2) 0), q10)
  else
   (f_M_passesAll q7.2 2 0).bind fun q9 =>
   some (q7.1, q9)) (tN t) 0 FU T1 (Nat.zero_add _) (by unfold FU; omega) rfl (by
      refine ⟨r1.1, fun j hj => ?_, r1.2.2⟩
      show m_kind T1 j = nI (if j < 0 then tKd t (gl l j) else tKd t j) ∧ m_sweets T1 j = nI (if j < 0 then tSw t (gl l j) else tSw t j)
      rw [if_neg (Nat.not_lt_zero _), if_neg (Nat.not_lt_zero _)]
      exact r1.2.1 j hj)
  have e2 : f_M_seated_L8 A _ FU T1 0 = _ := e2
  obtain ⟨z3, e3, r3, k3⟩ := q_goes r2 (st_ok hok hv) n (by omega)
  have s0 := (r3.2.1 0 (by rw [(sq_same (st t l) n).1]; exact h0)).2
  obtain ⟨z4, e4, r4, k4⟩ := back2 (z := z3) (t := t) (by rw [k3, k2]; exact k1) hok
  refine ⟨z4, ?_, r4, fun j hj => by rw [k4, k3, k2]; exact o1 j (by omega)⟩
  unfold f_M_seated
  rw [e1, Option.bind_some]
  refine Eq.trans e2 ?_
  show (f_M_goes z2 (nI n)).bind _ = _
  rw [e3]
  simp only [Option.bind_some]
  unfold vl
  rw [e4]
  simp only [Option.bind_some]
  by_cases w2 : w = 2
  · rw [if_pos (c2.mpr w2), if_pos w2, s0]
  · rw [if_neg (fun q => w2 (c2.mp q)), if_neg w2]
    rfl
