/-! Pure: FELT. -/
theorem rX_sw {z : RS} {t : Tb} {f g : Nat → Nat} (h : rX z (setSw t f)) (hfg : ∀ j, j < tN t → f j = g j) : rX z (setSw t g) := ⟨h.1, fun i hi => ⟨(h.2.1 i hi).1, (h.2.1 i hi).2.trans (congrArg nI (hfg i hi))⟩, h.2.2⟩
theorem rM_sw {z : MT} {t : Tb} {f g : Nat → Nat} (h : rM z (setSw t f)) (hfg : ∀ j, j < tN t → f j = g j) : rM z (setSw t g) := ⟨h.1, fun i hi => ⟨(h.2.1 i hi).1, (h.2.1 i hi).2.trans (congrArg nI (hfg i hi))⟩, h.2.2⟩
theorem ok_sw {t : Tb} (hok : okT t) {f : Nat → Nat} (h : ∀ j, j < tN t → f j ≤ 999) : okT (setSw t f) := ⟨hok.1, fun i hi => ⟨(hok.2.1 i hi).1, h i hi⟩, hok.2.2⟩
def mo (t : Tb) (d : Nat) : Tb := setSw t (updN (tSw t) d (min (tSw t d + 1) 999))
theorem mo_ok {t : Tb} (hok : okT t) (d : Nat) : okT (mo t d) := ok_sw hok fun j hj => by
  have := (hok.2.1 j hj).2
  unfold updN
  split <;> omega
def fw (t u : Tb) (c k : Nat) : Prop := ¬ tSw (sq t k) c = tSw (sq u k) c
theorem p_felt_L {t u : Tb} (hok : okT t) (hu : okT u) (hN : tN u = tN t) {c : Nat} (hc : c < tN t) : ∀ (d i fuel : Nat) (z y : RS), i + d = 51 → d < fuel → rX z (sq t i) → rX y (sq u i) → ∃ z' y', f_Mind_feltBehind_L45 (nI c) fuel z y (nI i) = some (fnd (fw t u c) d i, z', y') := by
  have hn := hok.1
  intro d
  induction d with
  | zero =>
    intro i fuel z y hi hf hr hs
    obtain ⟨f, rfl, -⟩ := f_suc hf
    obtain rfl : i = 51 := by omega
    exact ⟨z, y, by rw [f_Mind_feltBehind_L45, if_pos (by decide)]; rfl⟩
  | succ d ih =>
    intro i fuel z y hi hf hr hs
    obtain ⟨f, rfl, hf'⟩ := f_suc hf
    have g : ¬ (50 : Int32) < nI i := nI_nlt (a := 50) (by omega) (by omega)
    have gc := ix_b (show c < 8 by omega) (show 8 < 2 ^ 31 by omega)
    have a1 := sw9 hok i hc
    have a2 := sw9 hu i (c := c) (by omega)
    rw [f_Mind_feltBehind_L45, if_neg g, if_neg gc, ix_k (show c < 8 by omega), (hr.2.1 c (by rw [(sq_same t i).1]; exact hc)).2, (hs.2.1 c (by rw [(sq_same u i).1, hN]; exact hc)).2]
    by_cases h : tSw (sq t i) c = tSw (sq u i) c
    · obtain ⟨z1, e1, r1⟩ := p_strike hr (sq_ok hok i)
      obtain ⟨y1, e2, r2⟩ := p_strike hs (sq_ok hu i)
      rw [if_pos (congrArg nI h), fnd_neg (p := fw t u c) d (fun q => q h), e1, Option.bind_some, e2, Option.bind_some, nI_1]
      exact ih (i + 1) f z1 y1 (by omega) hf' r1 r2
    · rw [if_neg (fun q => h ((nI_eq (by omega) (by omega)).mp q)), fnd_pos (p := fw t u c) d h]
      exact ⟨z, y, rfl⟩
theorem q_felt_L30 {t : Tb} (hn : tN t ≤ 8) {F : Nat → Int32} (hF : hT F 51 t) {c : Nat} (hc : c < tN t) (k : (Nat → Int32) → Option (Int32 × MT × (Nat → Int32) × (Nat → Int32) × (Nat → Int32))) : ∀ (d i fuel : Nat) (W : Nat → Int32), i + d = 51 → d < fuel → (∀ j, j < i → W j = nI (tSw (sq t j) c)) → ∃ W', f_M_felt_L30 F (nI c) k fuel W (nI i) = k W' ∧ ∀ j, j < 51 → W' j = nI (tSw (sq t j) c) := by
  intro d
  induction d with
  | zero =>
    intro i fuel W hi hf hW
    obtain ⟨f, rfl, -⟩ := f_suc hf
    obtain rfl : i = 51 := by omega
    exact ⟨W, by rw [f_M_felt_L30, if_pos (by decide)], hW⟩
  | succ d ih =>
    intro i fuel W hi hf hW
    obtain ⟨f, rfl, hf'⟩ := f_suc hf
    have g : ¬ (50 : Int32) < nI i := nI_nlt (a := 50) (by omega) (by omega)
    have gc : ¬ (nI (9 * i + c) < 0 ∨ 1827 ≤ (nI (9 * i + c)).toNatClampNeg) := ix_b (by omega) (by omega)
    have gi := ix_b (show i < 51 by omega) (show 51 < 2 ^ 31 by omega)
    rw [f_M_felt_L30, if_neg g, nine, if_neg gc, if_neg gi, nI_clamp (show 9 * i + c < 2 ^ 31 by omega), nI_clamp (show i < 2 ^ 31 by omega), hF i (by omega) c (by omega), tr_sw hn hc, nI_1]
    refine ih (i + 1) f _ (by omega) hf' ?_
    intro j hj
    unfold upd
    by_cases q : j = i
    · rw [if_pos q, q]
    · rw [if_neg q]
      exact hW j (by omega)
theorem q_felt_L94 {t u : Tb} (T : MT) (b : Nat → Int32) (hok : okT t) (hu : okT u) (hN : tN u = tN t) {F W : Nat → Int32} (hF : hT F 51 u) {c : Nat} (hc : c < tN t) (hW : ∀ j, j < 51 → W j = nI (tSw (sq t j) c)) : ∀ (d i fuel : Nat), i + d = 51 → d < fuel → f_M_felt_L94 T b F W (nI c) fuel (nI i) = some (fnd (fw t u c) d i, T, b, F, W) := by
  have hn := hok.1
  intro d
  induction d with
  | zero =>
    intro i fuel hi hf
    obtain ⟨f, rfl, -⟩ := f_suc hf
    obtain rfl : i = 51 := by omega
    rw [f_M_felt_L94, if_pos (by decide)]
    rfl
  | succ d ih =>
    intro i fuel hi hf
    obtain ⟨f, rfl, hf'⟩ := f_suc hf
    have g : ¬ (50 : Int32) < nI i := nI_nlt (a := 50) (by omega) (by omega)
    have gc : ¬ (nI (9 * i + c) < 0 ∨ 1827 ≤ (nI (9 * i + c)).toNatClampNeg) := ix_b (by omega) (by omega)
    have gi := ix_b (show i < 51 by omega) (show 51 < 2 ^ 31 by omega)
    have a1 := sw9 hok i hc
    have a2 := sw9 hu i (c := c) (by omega)
    rw [f_M_felt_L94, if_neg g, nine, if_neg gc, if_neg gi, nI_clamp (show 9 * i + c < 2 ^ 31 by omega), nI_clamp (show i < 2 ^ 31 by omega), hF i (by omega) c (by omega), tr_sw (by omega) (show c < tN u by omega), hW i (by omega)]
    by_cases h : tSw (sq t i) c = tSw (sq u i) c
    · rw [if_pos (congrArg nI h.symm), fnd_neg (p := fw t u c) d (fun q => q h), nI_1]
      exact ih (i + 1) f (by omega) hf'
    · rw [if_neg (fun q => h ((nI_eq (by omega) (by omega)).mp q).symm), fnd_pos (p := fw t u c) d h]
theorem jmin_n {v : Nat} (hv : v < 2 ^ 31) : jmin (nI v) 999 = nI (min v 999) := by
  unfold jmin
  rw [lI 999]
  by_cases h : v ≤ 999
  · rw [if_neg (nI_nlt (a := 999) (b := v) h (by omega)), Nat.min_eq_left h]
  · rw [if_pos (nI_lt (a := 999) (b := v) (by omega) hv), Nat.min_eq_right (by omega)]
theorem e_felt {now one two : RS} {T : MT} {t : Tb} {a b F W : Nat → Int32} (hX : rX now t) (hM : rM T t) (hok : okT t) (hr : rf a b) (x1 x2 : Int32) : ∃ r a' one' two' T' b' F' W', f_X_felt now a one two x1 x2 = some (r, a', one', two') ∧ f_M_felt T b F W x1 x2 = some (r, T', b', F', W') ∧ BK T T' t ∧ rf a' b' := by
  have hn := hok.1
  unfold f_X_felt f_M_felt
  rcases ch hX hM hok x1 with ⟨h1, h2⟩ | ⟨c, hc, rfl, h1, h2⟩
  · obtain ⟨a', b', e1, e2, h⟩ := no1 hr
    rw [h1, Option.bind_some, if_pos rfl, h2, Option.bind_some, if_pos rfl, e1, Option.bind_some, e2, Option.bind_some]
    exact ⟨_, a', one, two, T, b', F, W, rfl, rfl, ⟨hM, fun _ _ => rfl⟩, h⟩
  rcases ch hX hM hok x2 with ⟨h3, h4⟩ | ⟨d, hd, rfl, h3, h4⟩
  · obtain ⟨a', b', e1, e2, h⟩ := no1 hr
    rw [h1, Option.bind_some, if_neg z10', h2, Option.bind_some, if_neg z10', h3, Option.bind_some, if_pos rfl, h4, Option.bind_some, if_pos rfl, e1, Option.bind_some, e2, Option.bind_some]
    exact ⟨_, a', one, two, T, b', F, W, rfl, rfl, ⟨hM, fun _ _ => rfl⟩, h⟩
  have s9 := (hok.2.1 d hd).2
  have gd := ix_b (show d < 8 by omega) (show 8 < 2 ^ 31 by omega)
  have kd := ix_k (show d < 8 by omega)
  obtain ⟨z1, e1, r1⟩ := p_copyFrom one now hX hok
  obtain ⟨z2, e2, r2⟩ := p_copyFrom two now hX hok
  have r3 : rX ((r_kinds z2), (upd (r_sweets z2) d (nI (min (tSw t d + 1) 999))), (r_settings z2), (r_heaps z2), (r_children z2), (r_strokes z2), (r_gave z2), (r_threw z2)) (mo t d) := ⟨r2.1, fun i hi => ⟨(r2.2.1 i hi).1, by
    show upd (r_sweets z2) d (nI (min (tSw t d + 1) 999)) i = nI (updN (tSw t) d (min (tSw t d + 1) 999) i)
    unfold upd updN
    split
    · rfl
    · exact (r2.2.1 i hi).2⟩, r2.2.2⟩
  obtain ⟨z', y', e3⟩ := p_felt_L (t := t) (u := mo t d) hok (mo_ok hok d) rfl hc 51 0 FU z1 _ (by omega) (by unfold FU; omega) r1 r3
  have e3 : f_Mind_feltBehind_L45 (nI c) FU z1 _ 0 = _ := e3
  obtain ⟨T1, F1, e4, k4, h5⟩ := q_trail hM hok F 50 (by omega)
  have e4 : f_M_writesTrail T F 50 = _ := e4
  have r6 : rM ((m_kind T1), (upd (m_sweets T1) d (nI (min (tSw t d + 1) 999))), (m_gives T1), (m_kept T1), (m_many T1), (m_odd T1), (m_step T1), (m_bag T1), (m_strokes T1), (m_gave T1), (m_threw T1), (m_isKeeping T1), (m_cursor T1)) (mo t d) := ⟨k4.1.1, fun i hi => ⟨(k4.1.2.1 i hi).1, by
    show upd (m_sweets T1) d (nI (min (tSw t d + 1) 999)) i = nI (updN (tSw t) d (min (tSw t d + 1) 999) i)
    unfold upd updN
    split
    · rfl
    · exact (k4.1.2.1 i hi).2⟩, k4.1.2.2⟩
  obtain ⟨T2, F2, e7, k7, h8⟩ := q_trail r6 (mo_ok hok d) F1 50 (by omega)
  have e7 : f_M_writesTrail _ F1 50 = _ := e7
  have hs2 := (r2.2.1 d hd).2
  have hs1 := (k4.1.2.1 d hd).2
  have hold := q_held (show tSw t d + 1 < 2 ^ 31 by omega)
  have r9 : rM ((m_kind T2), (upd (m_sweets T2) d (nI (tSw t d))), (m_gives T2), (m_kept T2), (m_many T2), (m_odd T2), (m_step T2), (m_bag T2), (m_strokes T2), (m_gave T2), (m_threw T2), (m_isKeeping T2), (m_cursor T2)) t := ⟨k7.1.1, fun i hi => ⟨(k7.1.2.1 i hi).1, by
    show upd (m_sweets T2) d (nI (tSw t d)) i = nI (tSw t i)
    have q := (k7.1.2.1 i hi).2
    have q : m_sweets T2 i = nI (updN (tSw t) d (min (tSw t d + 1) 999) i) := q
    unfold upd
    by_cases h : i = d
    · rw [if_pos h, h]
    · rw [if_neg h, q]
      unfold updN
      rw [if_neg h]⟩, k7.1.2.2⟩
  unfold f_Mind_feltBehind
  rw [h1, Option.bind_some, if_neg z10', h3, Option.bind_some, if_neg z10', e1, Option.bind_some, e2, Option.bind_some, if_neg gd, kd, hs2, nI_1, jmin_n (show tSw t d + 1 < 2 ^ 31 by omega), e3, Option.bind_some]
  rw [h2, Option.bind_some, if_neg z10', h4, Option.bind_some, if_neg z10', e4, Option.bind_some]
  obtain ⟨W', e8, hW⟩ := q_felt_L30 (t := t) hn h5 hc (fun z_h_without_10 =>
    if nI d < 0 ∨ 8 ≤ d then none else
    (f_M_held (((m_sweets T1) d) + 1)).bind fun q12 =>
    (f_M_writesTrail ((m_kind T1), (upd (m_sweets T1) d q12), (m_gives T1), (m_kept T1), (m_many T1), (m_odd T1), (m_step T1), (m_bag T1), (m_strokes T1), (m_gave T1), (m_threw T1), (m_isKeeping T1), (m_cursor T1)) F1 50).bind fun q13 =>
    f_M_felt_L94 ((m_kind q13.1), (upd (m_sweets q13.1) d ((m_sweets T1) d)), (m_gives q13.1), (m_kept q13.1), (m_many q13.1), (m_odd q13.1), (m_step q13.1), (m_bag q13.1), (m_strokes q13.1), (m_gave q13.1), (m_threw q13.1), (m_isKeeping q13.1), (m_cursor q13.1)) b q13.2 z_h_without_10 (nI c) FU 0) 51 0 FU W (by omega) (by unfold FU; omega) (fun j hj => by omega)
  have e9 := q_felt_L94 (t := t) (u := mo t d) ((m_kind T2), (upd (m_sweets T2) d (nI (tSw t d))), (m_gives T2), (m_kept T2), (m_many T2), (m_odd T2), (m_step T2), (m_bag T2), (m_strokes T2), (m_gave T2), (m_threw T2), (m_isKeeping T2), (m_cursor T2)) b hok (mo_ok hok d) rfl h8 hc hW 51 0 FU (by omega) (by unfold FU; omega)
  refine ⟨_, a, z', y', _, b, F2, W', rfl, ?_, ⟨r9, fun j hj => (k7.2 j (Or.inl (by omega))).trans (k4.2 j (Or.inl (by omega)))⟩, hr⟩
  have gd' : ¬ (nI d < 0 ∨ 8 ≤ d) := fun q => q.elim (nI_pos (by omega)) (by omega)
  refine Eq.trans e8 ?_
  show (if nI d < 0 ∨ 8 ≤ d then none else (f_M_held (((m_sweets T1) d) + 1)).bind _) = _
  rw [if_neg gd', hs1, nI_1, hold, Option.bind_some]
  show (f_M_writesTrail _ F1 50).bind _ = _
  rw [e7, Option.bind_some]
  exact e9
