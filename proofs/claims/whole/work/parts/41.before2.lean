/-! Pure: BEFORE and BEFOREOF, the reference and the calls. -/
theorem xd_le (B x : Nat) : ∀ j, xd B x j ≤ x
  | 0 => Nat.le_refl _
  | j + 1 => Nat.le_trans (Nat.div_le_self _ _) (xd_le B x j)
theorem q_dig_L {u : Tb} {N k x : Nat} (hNu : tN u = N) (hN : N ≤ 5) (hk : k ≤ 9) (hx : x ≤ 100000) (kk : MT → (Nat → Int32) → Option (MT × Int32 × Int32 × (Nat → Int32) × (Nat → Int32))) (K : Nat → Int32) : ∀ (d j fuel : Nat) (z : MT) (S : Nat → Int32), j + d = N → d < fuel → rM0 z u → m_kept z = K → (∀ c, c < N → N - 1 - c < j → m_sweets z c = nI (dg N (k + 1) x c) ∧ S c = nI (dg N (k + 1) x c)) → ∃ z' S', f_M_findBefore_L88 (nI k) kk fuel z S (nI (xd (k + 1) x j)) (nI d - 1) = kk z' S' ∧ rM0 z' u ∧ m_kept z' = K ∧ ∀ c, c < N → m_sweets z' c = nI (dg N (k + 1) x c) ∧ S' c = nI (dg N (k + 1) x c) := by
  intro d
  induction d with
  | zero =>
    intro j fuel z S hj hf hr hK hS
    obtain ⟨f, rfl, -⟩ := f_suc hf
    exact ⟨z, S, by rw [f_M_findBefore_L88, if_pos (by decide)], hr, hK, fun c hc => hS c hc (by omega)⟩
  | succ d ih =>
    intro j fuel z S hj hf hr hK hS
    obtain ⟨f, rfl, hf'⟩ := f_suc hf
    have e1 : nI (d + 1) - 1 = nI d := pk_sub (a := d + 1) (b := 1) (by omega)
    have hpos : N - 1 - d = j := by omega
    have hq := xd_le (k + 1) x j
    have e2 : nI d + (-1) = nI d - 1 := by grind
    have hkc : (nI d).toNatClampNeg = d := nI_clamp (by omega)
    have hu : upd S d (nI (xd (k + 1) x j % (k + 1))) d = nI (xd (k + 1) x j % (k + 1)) := if_pos rfl
    rw [f_M_findBefore_L88, e1, if_neg (nI_pos (by omega)), nI_1, if_neg (nI_ne0 (by omega) (by omega)), if_neg (ix_b (show d < 8 by omega) (by omega)), hkc, s_mod (by omega) (by omega) (by omega), s_div (by omega) (by omega) (by omega), hu, e2]
    refine ih (j + 1) f _ _ (by omega) hf' hr hK fun c hc hcj => ?_
    show upd (m_sweets z) d (nI (xd (k + 1) x j % (k + 1))) c = _ ∧ upd S d (nI (xd (k + 1) x j % (k + 1))) c = _
    unfold upd
    by_cases q : c = d
    · rw [if_pos q, if_pos q, q]
      unfold dg
      rw [hpos]
      exact ⟨rfl, rfl⟩
    · rw [if_neg q, if_neg q]
      exact hS c hc (by omega)
theorem q_cmp_L {z : MT} {u t : Tb} {G : Nat → Int32} (hr : rM z u) (hu : okT u) (hok : okT t) (hN : tN u = tN t) (hG : ∀ c, c < tN t → G c = nI (tSw t c)) (kk : Int32 → Option (MT × Int32 × Int32 × (Nat → Int32) × (Nat → Int32))) : ∀ (d i fuel : Nat) (v : Int32), i + d = tN t → d < fuel → ((v = 1 ∧ ∀ c, c < i → tSw u c = tSw t c) ∨ (v = 0 ∧ ¬ ∀ c, c < i → tSw u c = tSw t c)) → ∃ v', f_M_findBefore_L150 z G kk fuel v (nI i) = kk v' ∧ ((v' = 1 ∧ ∀ c, c < tN t → tSw u c = tSw t c) ∨ (v' = 0 ∧ ¬ ∀ c, c < tN t → tSw u c = tSw t c)) := by
  have h8 := hok.1
  intro d
  induction d with
  | zero =>
    intro i fuel v hi hf hv
    obtain ⟨f, rfl, -⟩ := f_suc hf
    obtain rfl : i = tN t := by omega
    exact ⟨v, by rw [f_M_findBefore_L150, hr.1, hN, if_pos (nI_le (Nat.le_refl _) (by omega))], hv⟩
  | succ d ih =>
    intro i fuel v hi hf hv
    obtain ⟨f, rfl, hf'⟩ := f_suc hf
    have hlt : i < tN t := by omega
    have s1 := (hu.2.1 i (by omega)).2
    have s2 := (hok.2.1 i hlt).2
    rw [f_M_findBefore_L150, hr.1, hN, if_neg (ix_n hlt h8)]
    rcases hv with ⟨rfl, hv⟩ | ⟨rfl, hv⟩
    · rw [if_neg z10', if_neg (ix_b (show i < 8 by omega) (by omega)), ix_k (show i < 8 by omega), (hr.2.1 i (by omega)).2, hG i hlt, nI_1]
      by_cases h : tSw u i = tSw t i
      · rw [if_pos (congrArg nI h)]
        refine ih (i + 1) f 1 (by omega) hf' (Or.inl ⟨rfl, fun c hc => ?_⟩)
        by_cases q : c = i
        · rw [q]; exact h
        · exact hv c (by omega)
      · rw [if_neg (fun q => h ((nI_eq (by omega) (by omega)).mp q))]
        exact ih (i + 1) f 0 (by omega) hf' (Or.inr ⟨rfl, fun q => h (q i (by omega))⟩)
    · rw [if_pos rfl, nI_1]
      exact ih (i + 1) f 0 (by omega) hf' (Or.inr ⟨rfl, fun q => hv fun c hc => q c (by omega)⟩)
def fdE (t : Tb) (B : Nat) (c : Nat) (o : Option Nat) (fd : Int32) : Int32 := match o with
  | none => fd
  | some y => nI (dg (tN t) B y c)
theorem q_find_L {t : Tb} (hok : okT t) (h0 : 0 < tN t) (hN5 : tN t ≤ 5) {k : Nat} (hk : k ≤ 9) {M : Nat} (hM : M ≤ 100000) {L : Nat} {x3 : Int32} (hL : ∀ m, m ≤ 200000 → (nI m = x3 ↔ m = L)) {G : Nat → Int32} (hG : ∀ c, c < tN t → G c = nI (tSw t c)) {e : Nat} (he : e < tN t) (kk : MT → Int32 → Int32 → (Nat → Int32) → Option (MT × Int32 × Int32 × (Nat → Int32) × (Nat → Int32))) (K : Nat → Int32) : ∀ (d x fuel : Nat) (z : MT) (m : Nat) (fd : Int32) (S : Nat → Int32), x + d = M → d < fuel → tlM z t → m_kept z = K → m ≤ x →
    ∃ z' S', f_M_findBefore_L69 G (nI k) (nI e) x3 (nI M) (nI (tBag t)) kk fuel z (nI m) fd S (nI x) = kk z' (nI (cn t (k + 1) d x m)) (fdE t (k + 1) e (lx t (k + 1) L d x m) fd) S' ∧ m_kept z' = K := by
  have h8 := hok.1
  intro d
  induction d with
  | zero =>
    intro x fuel z m fd S hx hf hz hK hm
    obtain ⟨f, rfl, -⟩ := f_suc hf
    obtain rfl : x = M := by omega
    exact ⟨z, S, by rw [f_M_findBefore_L69, if_pos (nI_le (Nat.le_refl _) (by omega))]; rfl, hK⟩
  | succ d ih =>
    intro x fuel z m fd S hx hf hz hK hm
    obtain ⟨f, rfl, hf'⟩ := f_suc hf
    obtain ⟨u, hu, hr⟩ := hz
    have g1 : ¬ nI M ≤ nI x := nI_ge (by omega) (by omega)
    have hmany : m_many z = nI (tN t) := hr.1.trans (congrArg nI hu.2.1)
    have body : ∀ (z1 : MT) (S1 : Nat → Int32), rM0 z1 u → m_kept z1 = K → (∀ c, c < tN t → m_sweets z1 c = nI (dg (tN t) (k + 1) x c) ∧ S1 c = nI (dg (tN t) (k + 1) x c)) → ∃ z' S', ((f_M_goesOnce ((m_kind z1), (m_sweets z1), (m_gives z1), (m_kept z1), (m_many z1), (m_odd z1), (m_step z1), nI (tBag t), (m_strokes z1), (m_gave z1), (m_threw z1), (m_isKeeping z1), (m_cursor z1))).bind fun q10 => f_M_findBefore_L150 q10 G (fun x8_15 => if x8_15 = 0 then f_M_findBefore_L69 G (nI k) (nI e) x3 (nI M) (nI (tBag t)) kk f q10 (nI m) fd S1 (nI x + 1) else if nI m = x3 then if nI e < 0 ∨ 8 ≤ (nI e).toNatClampNeg then none else f_M_findBefore_L69 G (nI k) (nI e) x3 (nI M) (nI (tBag t)) kk f q10 (nI m + 1) (S1 (nI e).toNatClampNeg) S1 (nI x + 1) else f_M_findBefore_L69 G (nI k) (nI e) x3 (nI M) (nI (tBag t)) kk f q10 (nI m + 1) fd S1 (nI x + 1)) FU 1 0) = kk z' (nI (cn t (k + 1) (d + 1) x m)) (fdE t (k + 1) e (lx t (k + 1) L (d + 1) x m) fd) S' ∧ m_kept z' = K := by
      intro z1 S1 r1 hK1 hS1
      have r2 : rM ((m_kind z1), (m_sweets z1), (m_gives z1), (m_kept z1), (m_many z1), (m_odd z1), (m_step z1), nI (tBag t), (m_strokes z1), (m_gave z1), (m_threw z1), (m_isKeeping z1), (m_cursor z1)) (dT u t (k + 1) x) := ⟨r1.1, fun i hi => ⟨r1.2.1 i hi, (hS1 i (by rw [← hu.2.1]; exact hi)).1⟩, r1.2.2.1, r1.2.2.2.1, rfl, r1.2.2.2.2.2⟩
      obtain ⟨z2, e2, r3, k3⟩ := q_once r2 (dT_ok hu hok hk x)
      have n : tN (stk (dT u t (k + 1) x)) = tN t := (stk_same _).1.trans hu.2.1
      have k3 : m_kept z2 = K := k3.trans hK1
      obtain ⟨v, e4, hv⟩ := q_cmp_L r3 (stk_ok (dT_ok hu hok hk x)) hok n hG (fun x8_15 => if x8_15 = 0 then f_M_findBefore_L69 G (nI k) (nI e) x3 (nI M) (nI (tBag t)) kk f z2 (nI m) fd S1 (nI x + 1) else if nI m = x3 then if nI e < 0 ∨ 8 ≤ (nI e).toNatClampNeg then none else f_M_findBefore_L69 G (nI k) (nI e) x3 (nI M) (nI (tBag t)) kk f z2 (nI m + 1) (S1 (nI e).toNatClampNeg) S1 (nI x + 1) else f_M_findBefore_L69 G (nI k) (nI e) x3 (nI M) (nI (tBag t)) kk f z2 (nI m + 1) fd S1 (nI x + 1)) (tN t) 0 FU 1 (Nat.zero_add _) (by unfold FU; omega) (Or.inl ⟨rfl, fun c hc => by omega⟩)
      have e4 : f_M_findBefore_L150 z2 G _ FU 1 0 = _ := e4
      have hl := dT_ld hu (k + 1) x
      rw [n] at hl
      rw [hl] at hv
      have tz : tlM z2 t := ⟨_, dT_lk hu hok hk x, r3⟩
      rw [e2]
      simp only [Option.bind_some]
      rw [e4]
      rcases hv with ⟨rfl, h2⟩ | ⟨rfl, h2⟩
      · rw [if_neg z10', cn_p h2, lx_p h2]
        by_cases hmL : m = L
        · rw [if_pos ((hL m (by omega)).mpr hmL), if_neg (ix_b (show e < 8 by omega) (by omega)), ix_k (show e < 8 by omega), (hS1 e he).2, nI_1, nI_1, if_pos hmL]
          obtain ⟨z', S', e5, k5⟩ := ih (x + 1) f z2 (m + 1) (nI (dg (tN t) (k + 1) x e)) S1 (by omega) (by omega) tz k3 (by omega)
          rw [lx_hi d (x + 1) (m + 1) (by omega)] at e5
          exact ⟨z', S', e5, k5⟩
        · rw [if_neg (fun q => hmL ((hL m (by omega)).mp q)), nI_1, nI_1, if_neg hmL]
          exact ih (x + 1) f z2 (m + 1) fd S1 (by omega) (by omega) tz k3 (by omega)
      · rw [if_pos rfl, cn_n h2, lx_n h2, nI_1]
        exact ih (x + 1) f z2 m fd S1 (by omega) (by omega) tz k3 (by omega)
    obtain ⟨z1, S1, e1, r1, k1, h1⟩ := q_dig_L (x := x) hu.2.1 hN5 hk (by omega) (fun z_h_T_9 z_h_start_9 =>
    (f_M_goesOnce ((m_kind z_h_T_9), (m_sweets z_h_T_9), (m_gives z_h_T_9), (m_kept z_h_T_9), (m_many z_h_T_9), (m_odd z_h_T_9), (m_step z_h_T_9), nI (tBag t), (m_strokes z_h_T_9), (m_gave z_h_T_9), (m_threw z_h_T_9), (m_isKeeping z_h_T_9), (m_cursor z_h_T_9))).bind fun q10 =>
    f_M_findBefore_L150 q10 G (fun x8_15 =>
     if x8_15 = 0 then
      f_M_findBefore_L69 G (nI k) (nI e) x3 (nI M) (nI (tBag t)) kk f q10 (nI m) fd z_h_start_9 (nI x + 1)
     else
      if nI m = x3 then
       if nI e < 0 ∨ 8 ≤ (nI e).toNatClampNeg then none else
       f_M_findBefore_L69 G (nI k) (nI e) x3 (nI M) (nI (tBag t)) kk f q10 (nI m + 1) (z_h_start_9 (nI e).toNatClampNeg) z_h_start_9 (nI x + 1)
      else
       f_M_findBefore_L69 G (nI k) (nI e) x3 (nI M) (nI (tBag t)) kk f q10 (nI m + 1) fd z_h_start_9 (nI x + 1)) FU 1 0) K (tN t) 0 FU z S (Nat.zero_add _) (by unfold FU; omega) (rM_0 hr) hK (fun c hc q => by omega)
    obtain ⟨z', S', e2, k2⟩ := body z1 S1 r1 k1 h1
    refine ⟨z', S', ?_, k2⟩
    rw [f_M_findBefore_L69, if_neg g1, hmany]
    exact e1.trans e2
theorem pow_hi {k N : Nat} (hk : k ≤ 9) (hN : N ≤ 5) : (k + 1) ^ N ≤ 100000 := Nat.le_trans (Nat.pow_le_pow_left (show k + 1 ≤ 10 by omega) N) (Nat.le_trans (Nat.pow_le_pow_right (by decide) hN) (by decide))
theorem p_tab_L {t : Tb} (hN5 : tN t ≤ 5) (k : Nat) (kk : RS → Int32 → Option (Int32 × RS × RS)) : ∀ (d i fuel : Nat) (z : RS), i + d = tN t → d < fuel → rX z (setSw t (fun c => if c < i then 0 else tSw t c)) → ∃ z', f_Past_find_L28 (nI k) kk fuel z (nI ((k + 1) ^ i)) (nI i) = kk z' (nI ((k + 1) ^ tN t)) ∧ rX z' (pt t (k + 1) 0) := by
  intro d
  induction d with
  | zero =>
    intro i fuel z hi hf hr
    obtain ⟨f, rfl, -⟩ := f_suc hf
    obtain rfl : i = tN t := by omega
    have hc0 : r_children z = nI (tN t) := hr.1
    refine ⟨z, by rw [f_Past_find_L28, hc0, if_pos (nI_le (Nat.le_refl _) (by omega))], hr.1, fun c hc => ⟨(hr.2.1 c hc).1, (hr.2.1 c hc).2.trans (congrArg nI ?_)⟩, hr.2.2⟩
    have hc : c < tN t := hc
    show (if c < tN t then 0 else tSw t c) = dg (tN t) (k + 1) 0 c
    unfold dg
    rw [if_pos hc, xd_0, Nat.zero_mod]
  | succ d ih =>
    intro i fuel z hi hf hr
    obtain ⟨f, rfl, hf'⟩ := f_suc hf
    have hc0 : r_children z = nI (tN t) := hr.1
    rw [f_Past_find_L28, hc0, if_neg (nI_ge (show i < tN t by omega) (by omega)), if_neg (ix_b (show i < 8 by omega) (by omega)), ix_k (show i < 8 by omega), nI_1, nI_1, pk_mul, ← Nat.pow_succ]
    refine ih (i + 1) f _ (by omega) hf' ⟨rfl, fun c hc => ⟨(hr.2.1 c hc).1, ?_⟩, hr.2.2⟩
    show upd (r_sweets z) i 0 c = nI (if c < i + 1 then 0 else tSw t c)
    unfold upd
    by_cases q : c = i
    · rw [if_pos q, if_pos (by omega), nI_0]
    · rw [if_neg q]
      refine (hr.2.1 c hc).2.trans (congrArg nI ?_)
      show (if c < i then 0 else tSw t c) = _
      by_cases q2 : c < i
      · rw [if_pos q2, if_pos (by omega)]
      · rw [if_neg q2, if_neg (by omega)]
theorem q_tab_L {z : MT} {t : Tb} (hM : rM z t) (hN5 : tN t ≤ 5) (k : Nat) (kk : (Nat → Int32) → Int32 → Option (MT × Int32 × Int32 × (Nat → Int32) × (Nat → Int32))) : ∀ (d i fuel : Nat) (G : Nat → Int32), i + d = tN t → d < fuel → (∀ c, c < i → G c = nI (tSw t c)) → ∃ G', f_M_findBefore_L23 z (nI k) kk fuel G (nI ((k + 1) ^ i)) (nI i) = kk G' (nI ((k + 1) ^ tN t)) ∧ ∀ c, c < tN t → G' c = nI (tSw t c) := by
  intro d
  induction d with
  | zero =>
    intro i fuel W hi hf hW
    obtain ⟨f, rfl, -⟩ := f_suc hf
    obtain rfl : i = tN t := by omega
    exact ⟨W, by rw [f_M_findBefore_L23, hM.1, if_pos (nI_le (Nat.le_refl _) (by omega))], hW⟩
  | succ d ih =>
    intro i fuel W hi hf hW
    obtain ⟨f, rfl, hf'⟩ := f_suc hf
    rw [f_M_findBefore_L23, hM.1, if_neg (nI_ge (show i < tN t by omega) (by omega)), if_neg (ix_b (show i < 8 by omega) (by omega)), ix_k (show i < 8 by omega), (hM.2.1 i (by omega)).2, nI_1, nI_1, pk_mul, ← Nat.pow_succ]
    refine ih (i + 1) f _ (by omega) hf' fun c hc => ?_
    unfold upd
    by_cases q : c = i
    · rw [if_pos q, q]
    · rw [if_neg q]; exact hW c (by omega)
theorem p_past {now z : RS} {t : Tb} (hX : rX now t) (hok : okT t) (h0 : 0 < tN t) (hN5 : tN t ≤ 5) {k : Nat} (hk : k ≤ 9) {L : Nat} {x3 : Int32} (hL : ∀ m, m ≤ 200000 → (x3 < nI m ↔ L < m)) (W : RS) :
    ∃ W' z', (∃ y, lx t (k + 1) L ((k + 1) ^ tN t) 0 0 = some y ∧ f_Past_find W z now (nI k) x3 = some (nI (L + 1), W', z') ∧ L ≤ 100000 ∧ ∀ c, c < tN t → r_sweets W' c = nI (dg (tN t) (k + 1) y c)) ∨ (lx t (k + 1) L ((k + 1) ^ tN t) 0 0 = none ∧ f_Past_find W z now (nI k) x3 = some (nI (cn t (k + 1) ((k + 1) ^ tN t) 0 0), W', z') ∧ cn t (k + 1) ((k + 1) ^ tN t) 0 0 ≤ L ∧ cn t (k + 1) ((k + 1) ^ tN t) 0 0 ≤ 100000) := by
  have hp := pow_hi hk hN5
  have hpos : 0 < (k + 1) ^ tN t := Nat.pow_pos (by omega)
  obtain ⟨W1, c1, r1⟩ := p_copyFrom W now hX hok
  obtain ⟨W2, e1, r2⟩ := p_tab_L hN5 k (fun z_h_told_5 x5_5 => f_Past_find_L68 now (nI k) x3 x5_5 FU z_h_told_5 z 0 0) (tN t) 0 FU W1 (Nat.zero_add _) (by unfold FU; omega) ⟨r1.1, fun c hc => ⟨(r1.2.1 c hc).1, (r1.2.1 c hc).2.trans (congrArg nI (show tSw t c = (if c < 0 then 0 else tSw t c) from (if_neg (Nat.not_lt_zero c)).symm))⟩, r1.2.2⟩
  have e1 : f_Past_find_L28 (nI k) _ FU W1 1 0 = _ := e1
  have hJ : Jx t (k + 1) 0 := fun q _ hne => by
    unfold dg at hne
    rw [xd_0, Nat.zero_mod] at hne
    exact absurd rfl hne
  obtain ⟨W', z', h⟩ := p_find_L hX hok h0 hN5 hk hp rfl hL ((k + 1) ^ tN t) ((k + 1) ^ tN t) 0 0 FU W2 z 0 (Nat.le_refl _) (Nat.zero_add _) hpos (by unfold FU; omega) (Nat.le_refl _) r2 hJ (Nat.le_refl _) (Nat.zero_le _)
  have e0 : f_Past_find W z now (nI k) x3 = f_Past_find_L68 now (nI k) x3 (nI ((k + 1) ^ tN t)) FU W2 z (nI 0) (nI 0) := by
    unfold f_Past_find
    have g5 : nI (tN t) ≤ 5 := nI_le (b := 5) hN5 (by omega)
    rw [hX.1, if_pos g5, c1, Option.bind_some, e1, nI_0]
  rw [e0]
  exact ⟨W', z', h⟩
theorem q_past {T : MT} {t : Tb} (hM : rM T t) (hok : okT t) (h0 : 0 < tN t) (hN5 : tN t ≤ 5) {k : Nat} (hk : k ≤ 9) {L : Nat} {x3 : Int32} (hL : ∀ m, m ≤ 200000 → (nI m = x3 ↔ m = L)) (bm fd : Int32) (G S : Nat → Int32) {e : Nat} (he : e < tN t) : ∃ T' G' S', f_M_findBefore T bm fd G S (nI k) (nI e) x3 = some (T', nI (cn t (k + 1) ((k + 1) ^ tN t) 0 0), fdE t (k + 1) e (lx t (k + 1) L ((k + 1) ^ tN t) 0 0) (-9), G', S') ∧ BK T T' t := by
  have hp := pow_hi hk hN5
  obtain ⟨T1, d1, u1, k1, o1⟩ := keep1 hM hok
  obtain ⟨G1, e1, h1⟩ := q_tab_L u1 hN5 k (fun z_h_goal_4 x4_4 => f_M_findBefore_L69 z_h_goal_4 (nI k) (nI e) x3 x4_4 (m_bag T1) (fun z_h_T_19 z_h_beforeMany_19 z_h_found_19 z_h_start_19 => (f_M_passesAll z_h_T_19 1 0).bind fun q20 => some (q20, z_h_beforeMany_19, z_h_found_19, z_h_goal_4, z_h_start_19)) FU T1 0 (-9) S 0) (tN t) 0 FU G (Nat.zero_add _) (by unfold FU; omega) (fun c hc => by omega)
  have e1 : f_M_findBefore_L23 T1 (nI k) _ FU G 1 0 = _ := e1
  obtain ⟨T2, S2, e2, k2⟩ := q_find_L hok h0 hN5 hk hp hL h1 he (fun z_h_T_19 z_h_beforeMany_19 z_h_found_19 z_h_start_19 => (f_M_passesAll z_h_T_19 1 0).bind fun q20 => some (q20, z_h_beforeMany_19, z_h_found_19, G1, z_h_start_19)) (m_kept T1) ((k + 1) ^ tN t) 0 FU T1 0 (-9) S (Nat.zero_add _) (by unfold FU; omega) ⟨t, lk_rf hok, u1⟩ rfl (Nat.le_refl _)
  have e2 : f_M_findBefore_L69 G1 (nI k) (nI e) x3 (nI ((k + 1) ^ tN t)) (nI (tBag t)) _ FU T1 0 (-9) S 0 = _ := e2
  obtain ⟨T3, d3, u3, o3⟩ := back1 (z := T2) (t := t) (by rw [k2]; exact k1) hok
  refine ⟨T3, G1, S2, ?_, u3, fun j hj => by rw [o3, k2]; exact o1 j (by omega)⟩
  unfold f_M_findBefore
  rw [d1, Option.bind_some, e1]
  show f_M_findBefore_L69 G1 (nI k) (nI e) x3 (nI ((k + 1) ^ tN t)) (m_bag T1) _ FU T1 0 (-9) S 0 = _
  rw [u1.2.2.2.2.1]
  refine Eq.trans e2 ?_
  show (f_M_passesAll T2 1 0).bind _ = _
  rw [d3]
  rfl
theorem out9 (x : Int32) : (¬ 0 ≤ x ∧ x < 0 ∧ f_X_outside x 0 9 = some (-4)) ∨ (0 ≤ x ∧ ¬ x < 0 ∧ 9 < x ∧ f_X_outside x 0 9 = some (-6)) ∨ ∃ k, k ≤ 9 ∧ x = nI k ∧ f_X_outside x 0 9 = some 0 := by
  unfold f_X_outside
  by_cases h1 : 0 ≤ x
  · have h1' : ¬ x < 0 := fun q => by
      rw [Int32.lt_iff_toInt_lt] at q
      rw [Int32.le_iff_toInt_le] at h1
      omega
    by_cases h2 : x ≤ 9
    · have a1 := Int32.le_iff_toInt_le.mp h1
      have a2 := Int32.le_iff_toInt_le.mp h2
      have a1 : 0 ≤ x.toInt := a1
      have a2 : x.toInt ≤ 9 := a2
      refine Or.inr (Or.inr ⟨x.toInt.toNat, by omega, ?_, by rw [if_pos h1, if_pos h2]⟩)
      apply Int32.toInt_inj.mp
      rw [nI_toInt (by omega)]
      omega
    · have h3 : 9 < x := by
        rw [Int32.lt_iff_toInt_lt]
        have : ¬ x.toInt ≤ (9 : Int32).toInt := fun q => h2 (Int32.le_iff_toInt_le.mpr q)
        omega
      exact Or.inr (Or.inl ⟨h1, h1', h3, by rw [if_pos h1, if_neg h2]⟩)
  · have h3 : x < 0 := by
      rw [Int32.lt_iff_toInt_lt]
      have : ¬ (0 : Int32).toInt ≤ x.toInt := fun q => h1 (Int32.le_iff_toInt_le.mpr q)
      omega
    exact Or.inl ⟨h1, h3, by rw [if_neg h1]⟩
theorem orMany {now : RS} {t : Tb} (hX : rX now t) (hok : okT t) (x lo hi v : Int32) (m : Nat) (hm : m ≤ 8) (h : f_X_outside x 0 hi = some v) : f_X_outsideOrMany now x hi (nI m) = some (if v = 0 then (if tN t ≤ m then 0 else -6) else v) := by
  have h8 := hok.1
  unfold f_X_outsideOrMany
  rw [h, Option.bind_some, hX.1]
  by_cases hv : v = 0
  · rw [if_pos hv, if_pos hv]
    by_cases h0 : tN t ≤ m
    · rw [if_pos h0, if_pos (nI_le h0 (by omega)), hv]
    · rw [if_neg h0, if_neg (nI_ge (by omega) (by omega))]
  · rw [if_neg hv, if_neg hv]
theorem orM5 {now : RS} {t : Tb} (hX : rX now t) (hok : okT t) (x hi v : Int32) (h : f_X_outside x 0 hi = some v) : f_X_outsideOrMany now x hi 5 = some (if v = 0 then (if tN t ≤ 5 then 0 else -6) else v) := orMany hX hok x 0 hi v 5 (by decide) h
theorem q_notB {T : MT} {t : Tb} (hM : rM T t) (hok : okT t) {k : Nat} (hk : k ≤ 9) : f_M_notBefore T (nI k) = some (if tN t ≤ 5 then 0 else -6) := by
  have h8 := hok.1
  have g : ¬ (9 : Int32) < nI k := nI_nlt (a := 9) hk (by omega)
  unfold f_M_notBefore
  rw [if_neg g, hM.1]
  by_cases h0 : tN t ≤ 5
  · have g5 : nI (tN t) ≤ 5 := nI_le (b := 5) h0 (by omega)
    rw [if_pos h0, if_pos g5]
  · have g5 : ¬ nI (tN t) ≤ 5 := nI_ge (a := 5) (b := tN t) (by omega) (by omega)
    rw [if_neg h0, if_neg g5]
theorem q_notB9 {T : MT} {x : Int32} (h : 9 < x) : f_M_notBefore T x = some (-6) := by
  unfold f_M_notBefore
  rw [if_pos h]
theorem e_before {now z : RS} {T : MT} {t : Tb} {a b : Nat → Int32} (W : RS) (bm fd : Int32) (G S : Nat → Int32) (hX : rX now t) (hM : rM T t) (hok : okT t) (hr : rf a b) (x : Int32) : ∃ r a' W' z' T' bm' fd' b' G' S', f_X_before now a W z x = some (r, a', W', z') ∧ f_M_before T bm fd b G S x = some (r, T', bm', fd', b', G', S') ∧ BK T T' t ∧ rf a' b' := by
  have h8 := hok.1
  unfold f_X_before f_M_before
  rcases out9 x with ⟨g1, g2, ho⟩ | ⟨g1, g2, g3, ho⟩ | ⟨k, hk, rfl, ho⟩
  · obtain ⟨a', b', e1, e2, h⟩ := no4 hr
    rw [orM5 hX hok _ _ _ ho, if_neg (by decide), Option.bind_some, if_neg (by decide), if_neg g1, e1, Option.bind_some, e2, Option.bind_some]
    exact ⟨_, a', W, z, T, bm, fd, b', G, S, rfl, rfl, ⟨hM, fun _ _ => rfl⟩, h⟩
  · obtain ⟨a', b', e1, e2, h⟩ := no6 hr
    rw [orM5 hX hok _ _ _ ho, if_neg (by decide), Option.bind_some, if_neg (by decide), if_pos g1, q_notB9 g3, Option.bind_some, if_neg (by decide), e1, Option.bind_some, e2, Option.bind_some]
    exact ⟨_, a', W, z, T, bm, fd, b', G, S, rfl, rfl, ⟨hM, fun _ _ => rfl⟩, h⟩
  have g1 : 0 ≤ nI k := nI_pos' (by omega)
  rw [orM5 hX hok _ _ _ ho, if_pos rfl, Option.bind_some, if_pos g1, q_notB hM hok hk, Option.bind_some]
  by_cases h5 : tN t ≤ 5
  · rw [if_pos h5, if_pos rfl, if_pos rfl, hX.1, hM.1]
    by_cases h0 : tN t = 0
    · obtain ⟨a', b', e1, e2, h⟩ := no3 hr
      rw [h0, if_pos nI_0, if_pos nI_0, e1, Option.bind_some, e2, Option.bind_some]
      exact ⟨_, a', W, z, T, bm, fd, b', G, S, rfl, rfl, ⟨hM, fun _ _ => rfl⟩, h⟩
    · have g := nI_ne0 (n := tN t) (by omega) (by omega)
      have hp := pow_hi hk h5
      have hL : ∀ m, m ≤ 200000 → ((2147483647 : Int32) < nI m ↔ 2147483647 < m) := fun m hm => ⟨fun q => absurd q (nI_nlt (a := 2147483647) (by omega) (by omega)), fun q => by omega⟩
      obtain ⟨W', z', ⟨y, -, -, hbad, -⟩ | ⟨-, e1, -, -⟩⟩ := p_past (z := z) hX hok (by omega) h5 hk hL W
      · omega
      · obtain ⟨T', G', S', e2, k2⟩ := q_past hM hok (by omega) h5 hk (L := 300000) (x3 := -1) (fun m hm => ⟨fun q => absurd (q ▸ nI_pos' (show m < 2 ^ 31 by omega)) (by decide), fun q => by omega⟩) bm fd G S (e := 0) (by omega)
        have e2 : f_M_findBefore T bm fd G S (nI k) 0 (-1) = _ := e2
        rw [if_neg g, if_neg g, e1, Option.bind_some, e2, Option.bind_some]
        exact ⟨_, a, W', z', T', _, _, b, G', S', rfl, rfl, k2, hr⟩
  · obtain ⟨a', b', e1, e2, h⟩ := no6 hr
    rw [if_neg h5, if_neg (by decide), if_neg (by decide), e1, Option.bind_some, e2, Option.bind_some]
    exact ⟨_, a', W, z, T, bm, fd, b', G, S, rfl, rfl, ⟨hM, fun _ _ => rfl⟩, h⟩
theorem e_beforeOf {now z : RS} {T : MT} {t : Tb} {a b : Nat → Int32} (W : RS) (bm fd : Int32) (G S : Nat → Int32) (hX : rX now t) (hM : rM T t) (hok : okT t) (hr : rf a b) (x1 x2 x3 : Int32) : ∃ r a' W' z' T' bm' fd' b' G' S', f_X_beforeOf now a W z x1 x2 x3 = some (r, a', W', z') ∧ f_M_beforeOf T bm fd b G S x1 x2 x3 = some (r, T', bm', fd', b', G', S') ∧ BK T T' t ∧ rf a' b' := by
  have h8 := hok.1
  have hom : ∃ v, f_X_outsideOrMany now x2 9 5 = some v := by
    rcases out9 x2 with ⟨-, -, ho⟩ | ⟨-, -, -, ho⟩ | ⟨k, hk, rfl, ho⟩ <;> exact ⟨_, orM5 hX hok _ _ _ ho⟩
  unfold f_X_beforeOf f_M_beforeOf
  rcases ch hX hM hok x1 with ⟨h1, h2⟩ | ⟨c, hc, rfl, h1, h2⟩
  · obtain ⟨a', b', e1, e2, h⟩ := no1 hr
    obtain ⟨v, hv⟩ := hom
    rw [hv, Option.bind_some, h1, Option.bind_some, if_pos rfl, h2, Option.bind_some, if_pos rfl, e1, Option.bind_some, e2, Option.bind_some]
    exact ⟨_, a', W, z, T, bm, fd, b', G, S, rfl, rfl, ⟨hM, fun _ _ => rfl⟩, h⟩
  by_cases hi : 0 ≤ x3
  · rcases out9 x2 with ⟨g1, g2, ho⟩ | ⟨g1, g2, g3, ho⟩ | ⟨k, hk, rfl, ho⟩
    · obtain ⟨a', b', e1, e2, h⟩ := no4 hr
      rw [orM5 hX hok _ _ _ ho, if_neg (by decide), Option.bind_some, h1, Option.bind_some, if_neg z10', h2, Option.bind_some, if_neg z10', if_pos hi, if_neg (by decide), if_pos g2, e1, Option.bind_some, e2, Option.bind_some]
      exact ⟨_, a', W, z, T, bm, fd, b', G, S, rfl, rfl, ⟨hM, fun _ _ => rfl⟩, h⟩
    · obtain ⟨a', b', e1, e2, h⟩ := no6 hr
      rw [orM5 hX hok _ _ _ ho, if_neg (by decide), Option.bind_some, h1, Option.bind_some, if_neg z10', h2, Option.bind_some, if_neg z10', if_pos hi, if_neg (by decide), if_neg g2, if_pos hi, q_notB9 g3, Option.bind_some, if_neg (by decide), e1, Option.bind_some, e2, Option.bind_some]
      exact ⟨_, a', W, z, T, bm, fd, b', G, S, rfl, rfl, ⟨hM, fun _ _ => rfl⟩, h⟩
    have g1 : ¬ nI k < 0 := nI_pos (by omega)
    rw [orM5 hX hok _ _ _ ho, if_pos rfl, Option.bind_some, h1, Option.bind_some, if_neg z10', h2, Option.bind_some, if_neg z10', if_pos hi, if_neg g1, if_pos hi, q_notB hM hok hk, Option.bind_some]
    by_cases h5 : tN t ≤ 5
    · rw [if_pos h5, if_pos rfl, if_pos rfl]
      obtain ⟨L, hL31, rfl⟩ : ∃ L, L < 2 ^ 31 ∧ x3 = nI L := by
        have a1 := Int32.le_iff_toInt_le.mp hi
        have a1 : 0 ≤ x3.toInt := a1
        have a2 : x3.toInt < 2 ^ 31 := x3.toInt_lt
        refine ⟨x3.toInt.toNat, by omega, ?_⟩
        apply Int32.toInt_inj.mp
        rw [nI_toInt (by omega)]
        omega
      have hp := pow_hi hk h5
      obtain ⟨T', G', S', e2, k2⟩ := q_past hM hok (by omega) h5 hk (L := L) (x3 := nI L) (fun m hm => nI_eq (by omega) hL31) bm fd G S hc
      obtain ⟨W', z', ⟨y, hy, e1, hy5, hW⟩ | ⟨hn, e1, hle, hle5⟩⟩ := p_past (z := z) hX hok (by omega) h5 hk (L := L) (x3 := nI L) (fun m hm => nI_ltI hL31 (by omega)) W
      · have g3 : ¬ nI (L + 1) ≤ nI L := nI_ge (by omega) (by omega)
        rw [hy] at e2
        refine ⟨nI (dg (tN t) (k + 1) y c), a, W', z', T', _, _, b, G', S', ?_, by rw [e2]; rfl, k2, hr⟩
        rw [e1, Option.bind_some, if_neg g3, if_neg (ix_b (show c < 8 by omega) (by omega)), nI_clamp (show c < 2 ^ 31 by omega)]
        show some (r_sweets W' c, _) = _
        rw [hW c hc]
      · have g3 : nI (cn t (k + 1) ((k + 1) ^ tN t) 0 0) ≤ nI L := nI_le hle hL31
        rw [hn] at e2
        refine ⟨-9, a, W', z', T', _, _, b, G', S', ?_, by rw [e2]; rfl, k2, hr⟩
        rw [e1, Option.bind_some, if_pos g3]
    · obtain ⟨a', b', e1, e2, h⟩ := no6 hr
      rw [if_neg h5, if_neg (by decide), if_neg (by decide), e1, Option.bind_some, e2, Option.bind_some]
      exact ⟨_, a', W, z, T, bm, fd, b', G, S, rfl, rfl, ⟨hM, fun _ _ => rfl⟩, h⟩
  · obtain ⟨v, hv⟩ := hom
    obtain ⟨a', b', e1, e2, h⟩ := no4 hr
    refine ⟨-4, a', W, z, T, bm, fd, b', G, S, ?_, ?_, ⟨hM, fun _ _ => rfl⟩, h⟩
    · rw [hv, Option.bind_some, h1, Option.bind_some, if_neg z10', if_neg hi, e1]
      rfl
    · rw [h2, Option.bind_some, if_neg z10', if_neg hi, e2, Option.bind_some, ite_self]
