/-! Pure: BEGUN. -/
theorem fnd_neg9 {p : Nat → Prop} : ∀ (d i : Nat), i + d < 2 ^ 31 → (fnd p d i = -9 ∧ fnd p d i < 0) ∨ (¬ fnd p d i = -9 ∧ ¬ fnd p d i < 0)
  | 0, _, _ => Or.inl ⟨rfl, (by decide : (-9 : Int32) < 0)⟩
  | d + 1, i, h => by
    by_cases hp : p i
    · rw [fnd_pos (p := p) d hp]
      exact Or.inr ⟨n9 (by omega), nI_pos (by omega)⟩
    · rw [fnd_neg (p := p) d hp]
      exact fnd_neg9 d (i + 1) (by omega)
def bgS (s : Nat → Nat) (k i : Nat) : Nat → Nat := fun j => if 1 ≤ j ∧ j < i then k else s j
def bg (t : Tb) (k : Nat) : Tb := setSw t (fun j => if j = 0 then tSw t 0 else k)
theorem bg_ok {t : Tb} (hok : okT t) (h0 : 0 < tN t) {k : Nat} (hk : k ≤ 999) : okT (bg t k) := ok_sw hok fun j hj => by
  have := (hok.2.1 0 h0).2
  show (if j = 0 then tSw t 0 else k) ≤ 999
  split <;> omega
theorem bgS_up {s : Nat → Nat} {k i : Nat} (hi : 1 ≤ i) {A : Nat → Int32} {j : Nat} (h : A j = nI (bgS s k i j)) : upd A i (nI k) j = nI (bgS s k (i + 1) j) := by
  unfold upd bgS
  unfold bgS at h
  by_cases q : j = i
  · rw [if_pos q, if_pos (by omega)]
  · rw [if_neg q, h]
    by_cases q2 : 1 ≤ j ∧ j < i
    · rw [if_pos q2, if_pos (by omega)]
    · rw [if_neg q2, if_neg (by omega)]
theorem bgS_end {t : Tb} {s : Nat → Nat} (h0 : 0 < tN t) (hs : s 0 = tSw t 0) (k : Nat) : ∀ j, j < tN t → bgS s k (tN t) j = (if j = 0 then tSw t 0 else k) := by
  intro j hj
  unfold bgS
  by_cases q : j = 0
  · rw [if_neg (by omega), if_pos q, q, hs]
  · rw [if_pos (by omega), if_neg q]
theorem p_bg_L {t : Tb} (hok : okT t) (h0 : 0 < tN t) (s : Nat → Nat) (hs : s 0 = tSw t 0) (v : Nat) (k : RS → Option (Int32 × RS)) : ∀ (d i fuel : Nat) (z : RS), i + d = tN t → 1 ≤ i → d < fuel → rX z (setSw t (bgS s v i)) → ∃ z', f_Mind_leastBegun_L19 (nI v) k fuel z (nI i) = k z' ∧ rX z' (bg t v) := by
  have hn := hok.1
  intro d
  induction d with
  | zero =>
    intro i fuel z hi h1 hf hr
    obtain ⟨f, rfl, -⟩ := f_suc hf
    obtain rfl : i = tN t := by omega
    have hch : r_children z = nI (tN t) := hr.1
    have hle : r_children z ≤ nI (tN t) := by rw [hch]; exact nI_le (Nat.le_refl _) (by omega)
    exact ⟨z, by rw [f_Mind_leastBegun_L19, if_pos hle], rX_sw hr (bgS_end h0 hs v)⟩
  | succ d ih =>
    intro i fuel z hi h1 hf hr
    obtain ⟨f, rfl, hf'⟩ := f_suc hf
    have g : ¬ r_children z ≤ nI i := by rw [hr.1]; exact ix_n (show i < tN t by omega) hn
    rw [f_Mind_leastBegun_L19, if_neg g, if_neg (ix_b (show i < 8 by omega) (by omega)), ix_k (show i < 8 by omega), nI_1]
    exact ih (i + 1) f _ (by omega) (by omega) hf' ⟨hr.1, fun j hj => ⟨(hr.2.1 j hj).1, bgS_up h1 (hr.2.1 j hj).2⟩, hr.2.2⟩
theorem q_bg_L {t : Tb} (hok : okT t) (h0 : 0 < tN t) (s : Nat → Nat) (hs : s 0 = tSw t 0) (v : Nat) (k : MT → Option (Int32 × MT × (Nat → Int32) × (Nat → Int32))) : ∀ (d i fuel : Nat) (z : MT), i + d = tN t → 1 ≤ i → d < fuel → rM z (setSw t (bgS s v i)) → ∃ z', f_M_begun_L58 (nI v) k fuel z (nI i) = k z' ∧ rM z' (bg t v) ∧ m_kept z' = m_kept z := by
  have hn := hok.1
  intro d
  induction d with
  | zero =>
    intro i fuel z hi h1 hf hr
    obtain ⟨f, rfl, -⟩ := f_suc hf
    obtain rfl : i = tN t := by omega
    have hch : m_many z = nI (tN t) := hr.1
    have hle : m_many z ≤ nI (tN t) := by rw [hch]; exact nI_le (Nat.le_refl _) (by omega)
    exact ⟨z, by rw [f_M_begun_L58, if_pos hle], rM_sw hr (bgS_end h0 hs v), rfl⟩
  | succ d ih =>
    intro i fuel z hi h1 hf hr
    obtain ⟨f, rfl, hf'⟩ := f_suc hf
    have g : ¬ m_many z ≤ nI i := by rw [hr.1]; exact ix_n (show i < tN t by omega) hn
    rw [f_M_begun_L58, if_neg g, if_neg (ix_b (show i < 8 by omega) (by omega)), ix_k (show i < 8 by omega), nI_1]
    exact ih (i + 1) f _ (by omega) (by omega) hf' ⟨hr.1, fun j hj => ⟨(hr.2.1 j hj).1, bgS_up h1 (hr.2.1 j hj).2⟩, hr.2.2⟩
theorem bgS_1 {s : Nat → Nat} (k : Nat) : bgS s k 1 = s := by
  funext j
  unfold bgS
  rw [if_neg (by omega)]
def gA (t : Tb) (n k : Nat) : Prop := ¬ fnd (fun m => alk (sq (bg t k) m)) (n + 1) 0 = -9
theorem p_begun_L {now : RS} {t : Tb} (hX : rX now t) (hok : okT t) (h0 : 0 < tN t) (n : Nat) (hn : n ≤ 50) : ∀ (d i fuel : Nat) (z : RS), i + d = 100 → d < fuel → ∃ z', f_Mind_leastBegun_L2 now (nI n) fuel z (nI i) = some (fnd (gA t n) d i, z') := by
  have h8 := hok.1
  intro d
  induction d with
  | zero =>
    intro i fuel z hi hf
    obtain ⟨f, rfl, -⟩ := f_suc hf
    obtain rfl : i = 100 := by omega
    exact ⟨z, by rw [f_Mind_leastBegun_L2, if_pos (by decide)]; rfl⟩
  | succ d ih =>
    intro i fuel z hi hf
    obtain ⟨f, rfl, hf'⟩ := f_suc hf
    have g : ¬ (99 : Int32) < nI i := nI_nlt (a := 99) (by omega) (by omega)
    obtain ⟨z1, e1, r1⟩ := p_copyFrom z now hX hok
    obtain ⟨z2, e2, r2⟩ := p_bg_L hok h0 (tSw t) rfl i (fun z_h_one_5 => (f_Mind_alikeWithin z_h_one_5 (nI n)).bind fun q6 => if q6.1 = (-9) then f_Mind_leastBegun_L2 now (nI n) f q6.2 (nI i + 1) else some (nI i, q6.2)) (tN t - 1) 1 FU z1 (by omega) (by omega) (by unfold FU; omega) (by rw [bgS_1]; exact r1)
    obtain ⟨z3, e3⟩ := p_within (t := bg t i) (bg_ok hok h0 (by omega)) h0 n (by omega) z2 r2
    have e2 : f_Mind_leastBegun_L19 (nI i) _ FU z1 1 = _ := e2
    rw [f_Mind_leastBegun_L2, if_neg g, e1, Option.bind_some, e2, e3, Option.bind_some]
    by_cases hx : fnd (fun m => alk (sq (bg t i) m)) (n + 1) 0 = -9
    · rw [if_pos hx, fnd_neg (p := gA t n) d (fun q => q hx), nI_1]
      exact ih (i + 1) f z3 (by omega) hf'
    · rw [if_neg hx, fnd_pos (p := gA t n) d hx]
      exact ⟨z3, rfl⟩
theorem q_begun_L {t : Tb} (hok : okT t) (h0 : 0 < tN t) (n : Nat) (hn : n ≤ 50) (kk : MT → (Nat → Int32) → Int32 → Option (Int32 × MT × (Nat → Int32) × (Nat → Int32))) (K : Nat → Int32) : ∀ (d i fuel : Nat) (s : Nat → Nat) (z : MT) (F : Nat → Int32), i + d = 100 → d + 1 < fuel → s 0 = tSw t 0 → rM z (setSw t s) → (∀ j, j < 30 ∨ 53 ≤ j → m_kept z j = K j) → ∃ z' F', f_M_begun_L44 (nI n) kk fuel z F (-9) (nI i) = kk z' F' (fnd (gA t n) d i) ∧ ∀ j, j < 30 ∨ 53 ≤ j → m_kept z' j = K j := by
  have h8 := hok.1
  intro d
  induction d with
  | zero =>
    intro i fuel s z F hi hf hs hr hK
    obtain ⟨f, rfl, -⟩ := f_suc hf
    obtain rfl : i = 100 := by omega
    exact ⟨z, F, by rw [f_M_begun_L44, if_pos (by decide)]; rfl, hK⟩
  | succ d ih =>
    intro i fuel s z F hi hf hs hr hK
    obtain ⟨f, rfl, hf'⟩ := f_suc hf
    have g : ¬ (100 : Int32) ≤ nI i := nI_ge (b := 100) (by omega) (by omega)
    have g9 : ¬ (0 : Int32) ≤ -9 := by decide
    obtain ⟨z2, e2, r2, k2⟩ := q_bg_L hok h0 s hs i (fun z_h_T_10 =>
     (f_M_firstAlike z_h_T_10 F (nI n)).bind fun q11 =>
     if q11.1 < 0 then
      f_M_begun_L44 (nI n) kk f q11.2.1 q11.2.2 (-9) (nI i + 1)
     else
      f_M_begun_L44 (nI n) kk f q11.2.1 q11.2.2 (nI i) (nI i + 1)) (tN t - 1) 1 FU z (by omega) (by omega) (by unfold FU; omega) (by rw [bgS_1]; exact hr)
    obtain ⟨z3, F3, e3, k3⟩ := q_first (t := bg t i) r2 (bg_ok hok h0 (by omega)) h0 F n (by omega)
    have e2 : f_M_begun_L58 (nI i) _ FU z 1 = _ := e2
    have hK3 : ∀ j, j < 30 ∨ 53 ≤ j → m_kept z3 j = K j := fun j hj => by rw [k3.2 j hj, k2]; exact hK j hj
    rw [f_M_begun_L44, if_neg g, if_neg g9, e2, e3, Option.bind_some]
    rcases fnd_neg9 (p := fun m => alk (sq (bg t i) m)) (n + 1) 0 (by omega) with ⟨hx, hy⟩ | ⟨hx, hy⟩
    · rw [if_pos hy, fnd_neg (p := gA t n) d (fun q => q hx), nI_1]
      exact ih (i + 1) f (fun j => if j = 0 then tSw t 0 else i) z3 F3 (by omega) (by omega) (if_pos rfl) k3.1 hK3
    · rw [if_neg hy, fnd_pos (p := gA t n) d hx, nI_1]
      obtain ⟨f2, rfl, -⟩ := f_suc (d := d) (f := f) (by omega)
      have gp : (0 : Int32) ≤ nI i := nI_pos' (by omega)
      refine ⟨z3, F3, ?_, hK3⟩
      show f_M_begun_L44 (nI n) kk (f2 + 1) z3 F3 (nI i) (nI (i + 1)) = _
      rw [f_M_begun_L44]
      by_cases hl : (100 : Int32) ≤ nI (i + 1)
      · rw [if_pos hl]
      · rw [if_neg hl, if_pos gp]
theorem e_begun {now one : RS} {T : MT} {t : Tb} {a b F : Nat → Int32} (hX : rX now t) (hM : rM T t) (hok : okT t) (hr : rf a b) (x : Int32) : ∃ r a' one' T' b' F', f_X_begun now a one x = some (r, a', one') ∧ f_M_begun T b F x = some (r, T', b', F') ∧ BK T T' t ∧ rf a' b' := by
  have h8 := hok.1
  unfold f_X_begun f_M_begun
  rcases (show (f_X_outside x 0 50 = some (-4) ∧ f_M_bound x 0 50 = some (-4)) ∨ (f_X_outside x 0 50 = some (-6) ∧ f_M_bound x 0 50 = some (-6)) ∨ ∃ n, 0 ≤ n ∧ n ≤ 50 ∧ x = nI n ∧ (f_X_outside x 0 50 = some 0 ∧ f_M_bound x 0 50 = some 0) from bd x 0 50 (by decide) (by decide)) with ⟨hB, hB2⟩ | ⟨hB, hB2⟩ | ⟨n, hn0, hn, rfl, hB, hB2⟩
  · obtain ⟨a', b', e1, e2, h⟩ := no4 hr
    rw [orNobody hX hok _ _ _ _ hB, if_neg (by decide), Option.bind_some, if_neg (by decide), hB2, Option.bind_some, if_neg (by decide), e1, Option.bind_some, e2, Option.bind_some]
    exact ⟨_, a', one, T, b', F, rfl, rfl, ⟨hM, fun _ _ => rfl⟩, h⟩
  · obtain ⟨a', b', e1, e2, h⟩ := no6 hr
    rw [orNobody hX hok _ _ _ _ hB, if_neg (by decide), Option.bind_some, if_neg (by decide), hB2, Option.bind_some, if_neg (by decide), e1, Option.bind_some, e2, Option.bind_some]
    exact ⟨_, a', one, T, b', F, rfl, rfl, ⟨hM, fun _ _ => rfl⟩, h⟩
  rw [orNobody hX hok _ _ _ _ hB, if_pos rfl, hB2, Option.bind_some, Option.bind_some, if_pos rfl, hM.1]
  by_cases h0 : tN t = 0
  · obtain ⟨a', b', e1, e2, h⟩ := no3 hr
    rw [if_pos h0, if_neg (by decide), h0, if_pos nI_0, e1, Option.bind_some, e2, Option.bind_some]
    exact ⟨_, a', one, T, b', F, rfl, rfl, ⟨hM, fun _ _ => rfl⟩, h⟩
  · rw [if_neg h0, if_pos rfl, if_neg (nI_ne0 (by omega) (by omega))]
    have hp : 0 < tN t := by omega
    obtain ⟨z1, c1⟩ := p_begun_L hX hok hp n (by omega) 100 0 FU one (by omega) (by unfold FU; omega)
    have c1 : f_Mind_leastBegun_L2 now (nI n) FU one 0 = _ := c1
    obtain ⟨T1, d1, u1, k1, o1⟩ := keep2 hM hok
    obtain ⟨T2, F2, d2, o2⟩ := q_begun_L hok hp n (by omega) (fun z_h_T_13 z_h_trail_13 x3_13 => (f_M_passesAll z_h_T_13 2 0).bind fun q14 => some (x3_13, q14, b, z_h_trail_13)) (m_kept T1) 100 0 FU (tSw t) T1 F (by omega) (by unfold FU; omega) rfl u1 (fun _ _ => rfl)
    obtain ⟨T3, d3, u3, o3⟩ := back2 (z := T2) (t := t) (kT_congr h8 k1 (fun j h1 h2 => o2 j (Or.inr (by omega)))) hok
    have d2 : f_M_begun_L44 (nI n) _ FU T1 F (-9) 0 = _ := d2
    unfold f_Mind_leastBegun
    rw [c1, Option.bind_some, d1, Option.bind_some]
    refine ⟨_, a, z1, T3, b, F2, rfl, ?_, ⟨u3, fun j hj => by rw [o3, o2 j (Or.inl (by omega)), o1 j (Or.inl (by omega))]⟩, hr⟩
    refine Eq.trans d2 ?_
    show (f_M_passesAll T2 2 0).bind _ = _
    rw [d3]
    rfl
