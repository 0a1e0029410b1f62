/-! Pure: CRUMBS and NEAR, the calls. -/
theorem sh_l : ∀ k, k < 21 → (1 : Int64) <<< ((nI k).toInt64 &&& 63) = lN (2 ^ k) := by decide +kernel
theorem sh_k : ∀ k, k < 21 → ((nI k).toInt64 &&& 63) = lN k := by decide +kernel
theorem sh_r {m k : Nat} (hm : m < 2 ^ 62) (hk : k < 21) : lN m >>> ((nI k).toInt64 &&& 63) = lN (m / 2 ^ k) := by
  rw [sh_k k hk]
  apply Int64.toInt_inj.mp
  have hq : m / 2 ^ k ≤ m := Nat.div_le_self _ _
  have e : (lN k).toBitVec.smod 64 = BitVec.ofNat 64 k := (show ∀ k, k < 21 → (lN k).toBitVec.smod 64 = BitVec.ofNat 64 k by decide +kernel) k hk
  have e2 : (BitVec.ofNat 64 k).toNat = k := by rw [BitVec.toNat_ofNat]; exact Nat.mod_eq_of_lt (by omega)
  rw [pk_lT (show m / 2 ^ k < 2 ^ 63 by omega)]
  show (lN m >>> lN k).toBitVec.toInt = _
  rw [Int64.toBitVec_shiftRight, e]
  show ((lN m).toBitVec.sshiftRight (BitVec.ofNat 64 k).toNat).toInt = _
  rw [BitVec.toInt_sshiftRight, e2]
  have e3 : (lN m).toBitVec.toInt = (m : Int) := pk_lT (show m < 2 ^ 63 by omega)
  rw [e3, Int.shiftRight_eq_div_pow]
  exact (Int.natCast_ediv m (2 ^ k)).symm
theorem sh_m {s k : Nat} (hk : k < 21) : lN s <<< ((nI k).toInt64 &&& 63) = lN s * lN (2 ^ k) := by
  rw [sh_k k hk]
  apply Int64.toBitVec_inj.mp
  have e : (lN k).toBitVec.smod 64 = BitVec.ofNat 64 k := (show ∀ k, k < 21 → (lN k).toBitVec.smod 64 = BitVec.ofNat 64 k by decide +kernel) k hk
  have e2 : (BitVec.ofNat 64 k).toNat = k := by rw [BitVec.toNat_ofNat]; exact Nat.mod_eq_of_lt (by omega)
  rw [Int64.toBitVec_shiftLeft, e]
  show (lN s).toBitVec <<< (BitVec.ofNat 64 k).toNat = _
  rw [e2, lN_mul]
  apply BitVec.eq_of_toNat_eq
  rw [BitVec.toNat_shiftLeft]
  show (BitVec.ofNat 64 s).toNat <<< k % 2 ^ 64 = (BitVec.ofNat 64 (s * 2 ^ k)).toNat
  rw [BitVec.toNat_ofNat, BitVec.toNat_ofNat, Nat.shiftLeft_eq, Nat.mod_mul_mod]
/-- how often a number can be halved, d more than i looked at -/
def hvF (m : Nat) : Nat → Nat → Nat
  | 0, i => i
  | d + 1, i => if m / 2 ^ i % 2 = 0 then hvF m d (i + 1) else i
theorem hvF_le (m : Nat) : ∀ d i, hvF m d i ≤ i + d
  | 0, _ => Nat.le_refl _
  | d + 1, i => by
    have := hvF_le m d (i + 1)
    show (if m / 2 ^ i % 2 = 0 then hvF m d (i + 1) else i) ≤ _
    split <;> omega
theorem gcd_odd {o : Nat} (h : o % 2 = 1) : ∀ k, Nat.gcd o (2 ^ k) = 1
  | 0 => Nat.gcd_one_right o
  | k + 1 => by
    have hc : Nat.Coprime o 2 := by
      show Nat.gcd o 2 = 1
      rw [Nat.gcd_comm, Nat.gcd_rec, h]
      exact Nat.gcd_one_left 2
    exact Nat.Coprime.pow_right (k + 1) hc
theorem gcd_hv (m : Nat) : ∀ d i, (2 ^ i ∣ m) → Nat.gcd m (2 ^ (i + d)) = 2 ^ hvF m d i
  | 0, i, h => Nat.gcd_eq_right h
  | d + 1, i, h => by
    obtain ⟨o, ho⟩ := h
    have hp : 0 < 2 ^ i := Nat.pow_pos (by decide)
    have hq : m / 2 ^ i = o := by rw [ho, Nat.mul_div_cancel_left _ hp]
    show _ = 2 ^ (if m / 2 ^ i % 2 = 0 then hvF m d (i + 1) else i)
    rw [hq]
    by_cases h2 : o % 2 = 0
    · rw [if_pos h2, ← gcd_hv m d (i + 1) ⟨o / 2, by rw [ho, Nat.pow_succ, Nat.mul_assoc]; congr 1; omega⟩, Nat.add_right_comm, Nat.add_assoc]
    · rw [if_neg h2, ho, Nat.pow_add, Nat.gcd_mul_left, gcd_odd (by omega), Nat.mul_one]
theorem gcd_hv0 (m n : Nat) : Nat.gcd m (2 ^ n) = 2 ^ hvF m n 0 := by
  have := gcd_hv m n 0 (by simp)
  rw [Nat.zero_add] at this
  exact this
theorem p_hv_L {A : Nat → Int64} {c m n : Nat} (hc : c < 8) (hA : A c = lN m) (hm : m < 2 ^ 62) (hn : n ≤ 20) : ∀ (d i fuel : Nat), i + d = n → d < fuel → f_Crumbs_halvings_L2 (nI n) A (nI c) fuel (nI i) = some (nI (hvF m d i)) := by
  intro d
  induction d with
  | zero =>
    intro i fuel hi hf
    obtain ⟨f, rfl, -⟩ := f_suc hf
    obtain rfl : i = n := by omega
    rw [f_Crumbs_halvings_L2, if_pos (nI_le (Nat.le_refl _) (by omega))]
    rfl
  | succ d ih =>
    intro i fuel hi hf
    obtain ⟨f, rfl, hf'⟩ := f_suc hf
    have hq : m / 2 ^ i ≤ m := Nat.div_le_self _ _
    have e : lN (m / 2 ^ i) % 2 = lN (m / 2 ^ i % 2) := lN_mod (b := 2) (by omega) (by decide) (by decide)
    rw [f_Crumbs_halvings_L2, if_neg (nI_ge (by omega) (by omega)), if_neg (ix_b hc (by omega)), ix_k hc, hA, sh_r hm (by omega), e]
    show _ = some (nI (if m / 2 ^ i % 2 = 0 then hvF m d (i + 1) else i))
    by_cases h : m / 2 ^ i % 2 = 0
    · rw [if_pos ((cmp_ab _ _).1.mpr (by rw [h, lN_0])), if_pos h, nI_1]
      exact ih (i + 1) f (by omega) hf'
    · rw [if_neg (fun q => lN_ne0 (by omega) (by omega) ((cmp_ab _ _).1.mp q)), if_neg h]
theorem p_take_L {z : RS} {t : Tb} (hX : rX z t) (hok : okT t) (n : Nat) (hn : n ≤ 20) : ∀ (d i fuel : Nat) (A B : Nat → Int64), i + d = n → d < fuel → rC A t i → ∃ A' B', f_Crumbs_take_L7 z (nI n) fuel (nI i) A B (nI i) = some (nI n, A', B') ∧ rC A' t n := by
  intro d
  induction d with
  | zero =>
    intro i fuel A B hi hf hA
    obtain ⟨f, rfl, -⟩ := f_suc hf
    obtain rfl : i = n := by omega
    exact ⟨A, B, by rw [f_Crumbs_take_L7, if_pos (nI_le (Nat.le_refl _) (by omega))], hA⟩
  | succ d ih =>
    intro i fuel A B hi hf hA
    obtain ⟨f, rfl, hf'⟩ := f_suc hf
    obtain ⟨A1, B1, e1, h1⟩ := p_adv hX hok hA (nI i) B
    rw [f_Crumbs_take_L7, if_neg (nI_ge (by omega) (by omega)), e1, Option.bind_some, nI_1]
    exact ih (i + 1) f A1 B1 (by omega) hf' h1
theorem q_crum_L {z : MT} {t : Tb} (hX : rM z t) (hok : okT t) (n : Nat) (hn : n ≤ 20) (k : (Nat → Int64) → (Nat → Int64) → Int64 → Option (Int64 × (Nat → Int32) × (Nat → Int64) × (Nat → Int64))) : ∀ (d i fuel : Nat) (A B : Nat → Int64), i + d = n → d < fuel → rC A t i → ∃ A' B', f_M_crumbs_L61 z (nI n) k fuel A B (lN (2 ^ i)) (nI i) = k A' B' (lN (2 ^ n)) ∧ rC A' t n := by
  intro d
  induction d with
  | zero =>
    intro i fuel A B hi hf hA
    obtain ⟨f, rfl, -⟩ := f_suc hf
    obtain rfl : i = n := by omega
    exact ⟨A, B, by rw [f_M_crumbs_L61, if_pos (nI_le (Nat.le_refl _) (by omega))], hA⟩
  | succ d ih =>
    intro i fuel A B hi hf hA
    obtain ⟨f, rfl, hf'⟩ := f_suc hf
    obtain ⟨A1, B1, e1, h1⟩ := q_hal hX hok hA B
    have e : lN (2 ^ i) * 2 = lN (2 ^ (i + 1)) := lN_mul (2 ^ i) 2
    rw [f_M_crumbs_L61, if_neg (nI_ge (by omega) (by omega)), e1, Option.bind_some, nI_1, e]
    exact ih (i + 1) f A1 B1 (by omega) hf' h1
theorem ll_k {a b : Nat → Int32} (h : rf a b) (x : Int32) (k : Nat) (h1 : 1 ≤ k) (h6 : k ≤ 6) (e1 : ¬ x < (-6)) (e2 : ¬ (-1) < x) (e3 : ¬ (-x) < 0) (e4 : (-x).toNatClampNeg = k) :
    ∃ a' b', f_X_refuse a x = some (x, a') ∧ f_M_lowest b x = some (4000000000000000000 - x.toInt64, b') ∧ rf a' b' := by
  refine ⟨upd a k (a k + 1), upd b k (b k + 1), ?_, ?_, rf_upd h k h1 h6⟩
  · unfold f_X_refuse
    rw [if_neg e1, if_neg e2, e4, if_neg (fun q => q.elim e3 (fun q => by omega))]
  · unfold f_M_lowest
    rw [e4, if_neg (fun q => q.elim e3 (fun q => by omega))]
theorem ll1 {a b : Nat → Int32} (h : rf a b) : ∃ a' b', f_X_refuse a (-1) = some (-1, a') ∧ f_M_lowest b (-1) = some (4000000000000000000 - (-1 : Int32).toInt64, b') ∧ rf a' b' := ll_k h _ 1 (by decide) (by decide) (by decide) (by decide) (by decide) (by decide +kernel)
theorem ll2 {a b : Nat → Int32} (h : rf a b) : ∃ a' b', f_X_refuse a (-2) = some (-2, a') ∧ f_M_lowest b (-2) = some (4000000000000000000 - (-2 : Int32).toInt64, b') ∧ rf a' b' := ll_k h _ 2 (by decide) (by decide) (by decide) (by decide) (by decide) (by decide +kernel)
theorem ll4 {a b : Nat → Int32} (h : rf a b) : ∃ a' b', f_X_refuse a (-4) = some (-4, a') ∧ f_M_lowest b (-4) = some (4000000000000000000 - (-4 : Int32).toInt64, b') ∧ rf a' b' := ll_k h _ 4 (by decide) (by decide) (by decide) (by decide) (by decide) (by decide +kernel)
theorem ll6 {a b : Nat → Int32} (h : rf a b) : ∃ a' b', f_X_refuse a (-6) = some (-6, a') ∧ f_M_lowest b (-6) = some (4000000000000000000 - (-6 : Int32).toInt64, b') ∧ rf a' b' := ll_k h _ 6 (by decide) (by decide) (by decide) (by decide) (by decide) (by decide +kernel)
theorem e_crumbs {now : RS} {T : MT} {t : Tb} {a b : Nat → Int32} (dd : Int32) (A B C D : Nat → Int64) (hX : rX now t) (hM : rM T t) (hok : okT t) (hr : rf a b) (x1 x2 x3 : Int32) : ∃ r a' dd' A' B' b' C' D', f_X_crumbs now a dd A B x1 x2 x3 = some (r, a', dd', A', B') ∧ f_M_crumbs T b C D x1 x2 x3 = some (r, b', C', D') ∧ rf a' b' := by
  have h8 := hok.1
  unfold f_X_crumbs f_M_crumbs
  have ho : ∃ v, f_X_outside x2 0 20 = some v := by
    unfold f_X_outside
    split
    · split <;> exact ⟨_, rfl⟩
    · exact ⟨_, rfl⟩
  rcases ch hX hM hok x1 with ⟨h1, h2⟩ | ⟨c, hc, rfl, h1, h2⟩
  · obtain ⟨a', b', e1, e2, h⟩ := ll1 hr
    obtain ⟨v, hv⟩ := ho
    rw [hv, Option.bind_some, h1, Option.bind_some, if_pos rfl, h2, Option.bind_some, if_pos rfl, e1, Option.bind_some, e2, Option.bind_some]
    exact ⟨_, a', dd, A, B, b', C, D, rfl, rfl, h⟩
  rcases part01 x3 with ⟨h3, h4⟩ | hp
  · obtain ⟨a', b', e1, e2, h⟩ := ll2 hr
    obtain ⟨v, hv⟩ := ho
    rw [hv, Option.bind_some, h1, Option.bind_some, if_neg z10', h2, Option.bind_some, if_neg z10', h3, Option.bind_some, if_pos rfl, h4, Option.bind_some, if_pos rfl, e1, Option.bind_some, e2, Option.bind_some]
    exact ⟨_, a', dd, A, B, b', C, D, rfl, rfl, h⟩
  have h3 : f_X_isPart x3 = some 1 := by rcases hp with ⟨-, q, -⟩ | ⟨-, q, -⟩ <;> exact q
  have h4 : f_M_isIn x3 0 1 = some 1 := by rcases hp with ⟨-, -, q⟩ | ⟨-, -, q⟩ <;> exact q
  rcases (show (f_X_outside x2 0 20 = some (-4) ∧ f_M_bound x2 0 20 = some (-4)) ∨ (f_X_outside x2 0 20 = some (-6) ∧ f_M_bound x2 0 20 = some (-6)) ∨ ∃ n, 0 ≤ n ∧ n ≤ 20 ∧ x2 = nI n ∧ (f_X_outside x2 0 20 = some 0 ∧ f_M_bound x2 0 20 = some 0) from bd x2 0 20 (by decide) (by decide)) with ⟨hB, hB2⟩ | ⟨hB, hB2⟩ | ⟨n, hn0, hn, rfl, hB, hB2⟩
  · obtain ⟨a', b', e1, e2, h⟩ := ll4 hr
    rw [hB, Option.bind_some, h1, Option.bind_some, if_neg z10', h2, Option.bind_some, if_neg z10', h3, Option.bind_some, if_neg z10', if_neg (by decide), h4, Option.bind_some, if_neg z10', hB2, Option.bind_some, if_neg (by decide), e1, Option.bind_some, e2, Option.bind_some]
    exact ⟨_, a', dd, A, B, b', C, D, rfl, rfl, h⟩
  · obtain ⟨a', b', e1, e2, h⟩ := ll6 hr
    rw [hB, Option.bind_some, h1, Option.bind_some, if_neg z10', h2, Option.bind_some, if_neg z10', h3, Option.bind_some, if_neg z10', if_neg (by decide), h4, Option.bind_some, if_neg z10', hB2, Option.bind_some, if_neg (by decide), e1, Option.bind_some, e2, Option.bind_some]
    exact ⟨_, a', dd, A, B, b', C, D, rfl, rfl, h⟩
  obtain ⟨A0, g1, rA0⟩ := p_begin hX hok dd A
  obtain ⟨A1, B1, g2, rA1⟩ := p_take_L hX hok n hn n 0 FU A0 B (Nat.zero_add _) (by unfold FU; omega) rA0
  have g2 : f_Crumbs_take_L7 now (nI n) FU 0 A0 B 0 = _ := g2
  obtain ⟨C0, g3, rC0⟩ := q_begin hM hok C
  obtain ⟨C1, D1, g4, rC1⟩ := q_crum_L hM hok n hn (fun z_h_crumb_10 z_h_nextCrumb_10 x5_10 =>
     if x3 = 0 then
      if nI c < 0 ∨ 8 ≤ (nI c).toNatClampNeg then none else
      (f_M_divisor (z_h_crumb_10 (nI c).toNatClampNeg) x5_10).bind fun q16 =>
      if q16 = 0 then none else
      some (((z_h_crumb_10 (nI c).toNatClampNeg) / q16), b, z_h_crumb_10, z_h_nextCrumb_10)
     else
      if nI c < 0 ∨ 8 ≤ (nI c).toNatClampNeg then none else
      (f_M_divisor (z_h_crumb_10 (nI c).toNatClampNeg) x5_10).bind fun q13 =>
      if q13 = 0 then none else
      some ((x5_10 / q13), b, z_h_crumb_10, z_h_nextCrumb_10)) n 0 FU C0 D (Nat.zero_add _) (by unfold FU; omega) rC0
  have g4 : f_M_crumbs_L61 T (nI n) _ FU C0 D 1 0 = _ := g4
  have hc8 : c < 8 := by omega
  have gb := ix_b hc8 (show 8 < 2 ^ 31 by omega)
  have kc := ix_k hc8
  have h30 := cr_20 hok hn hc
  have hp20 : 2 ^ n ≤ 2 ^ 20 := Nat.pow_le_pow_right (by decide) hn
  have hhv := hvF_le (cr t n c) n 0
  have hph : 0 < 2 ^ hvF (cr t n c) n 0 := Nat.pow_pos (by decide)
  have hph2 : 2 ^ hvF (cr t n c) n 0 ≤ 2 ^ 20 := Nat.pow_le_pow_right (by decide) (by omega)
  have g5 : f_Crumbs_halvings (nI n) A1 (nI c) = some (nI (hvF (cr t n c) n 0)) := p_hv_L hc8 (rA1 c hc) (by omega) hn n 0 FU (Nat.zero_add _) (by unfold FU; omega)
  have g6 : f_M_divisor (C1 c) (lN (2 ^ n)) = some (lN (2 ^ hvF (cr t n c) n 0)) := by
    rw [rC1 c hc, q_div (by omega) (by omega), gcd_hv0]
  have g7 := lN_ne0 hph (show 2 ^ hvF (cr t n c) n 0 < 2 ^ 63 by omega)
  rw [hB, Option.bind_some, h1, Option.bind_some, if_neg z10', h2, Option.bind_some, if_neg z10', h3, Option.bind_some, if_neg z10', if_pos rfl, h4, Option.bind_some, if_neg z10', hB2, Option.bind_some, if_pos rfl, g3, Option.bind_some]
  unfold f_Crumbs_take
  rw [g1, Option.bind_some, g2, Option.bind_some]
  rcases hp with ⟨rfl, -, -⟩ | ⟨rfl, -, -⟩
  · refine ⟨lN (cr t n c / 2 ^ hvF (cr t n c) n 0), a, nI n, A1, B1, b, C1, D1, ?_, ?_, hr⟩
    · rw [if_pos rfl]
      unfold f_Crumbs_above
      rw [if_neg gb, g5, Option.bind_some, Option.bind_some, kc]
      show some (A1 c >>> ((nI (hvF (cr t n c) n 0)).toInt64 &&& 63), a, nI n, A1, B1) = _
      rw [rA1 c hc, sh_r (by omega) (by omega)]
    · refine Eq.trans g4 ?_
      show (if (0 : Int32) = 0 then (if nI c < 0 ∨ 8 ≤ (nI c).toNatClampNeg then none else (f_M_divisor (C1 (nI c).toNatClampNeg) (lN (2 ^ n))).bind _) else _) = _
      rw [if_pos rfl, if_neg gb, kc, g6, Option.bind_some, if_neg g7, rC1 c hc, pk_lDiv (by omega) hph (by omega)]
  · refine ⟨lN (2 ^ n / 2 ^ hvF (cr t n c) n 0), a, nI n, A1, B1, b, C1, D1, ?_, ?_, hr⟩
    · rw [if_neg z10']
      unfold f_Crumbs_below
      rw [g5, Option.bind_some, Option.bind_some, s_sub (by omega), sh_l _ (by omega), Nat.pow_div (by omega) (by decide)]
    · refine Eq.trans g4 ?_
      show (if (1 : Int32) = 0 then _ else (if nI c < 0 ∨ 8 ≤ (nI c).toNatClampNeg then none else (f_M_divisor (C1 (nI c).toNatClampNeg) (lN (2 ^ n))).bind _)) = _
      rw [if_neg z10', if_neg gb, kc, g6, Option.bind_some, if_neg g7, pk_lDiv (by omega) hph (by omega)]
theorem jabs_c (D : Int64) : (0 ≤ lg_cmp D 0 → jabsL D = D) ∧ (¬ 0 ≤ lg_cmp D 0 → jabsL D = -D) := by
  have hc := (cmp_ab D 0).2
  unfold jabsL
  refine ⟨fun h => ?_, fun h => ?_⟩
  · by_cases q : 0 < D
    · rw [if_pos q]
    · have h2 : ¬ D < 0 := fun e => by
        have := hc.mpr e
        rw [Int32.lt_iff_toInt_lt] at this
        rw [Int32.le_iff_toInt_le] at h
        omega
      have h3 : D = 0 := by
        apply Int64.toInt_inj.mp
        rw [Int64.lt_iff_toInt_lt] at q h2
        omega
      rw [if_neg q, h3]
      rfl
  · have h2 : D < 0 := hc.mp (by
      rw [Int32.lt_iff_toInt_lt]
      rw [Int32.le_iff_toInt_le] at h
      omega)
    rw [if_neg (fun q => Int64.lt_irrefl (Int64.lt_trans q h2))]
abbrev nr (t : Tb) (x : Int32) (n i : Nat) : Prop := lg_cmp ((jabsL (lN (cr t n i) * lN (tN t) - lN (sm t (tN t)) * lN (2 ^ n))) * x.toInt64) (lN (tN t) * lN (2 ^ n)) < 0
def nrF (t : Tb) (x : Int32) (n : Nat) : Nat → Nat → Int32
  | 0, _ => 1
  | d + 1, i => if nr t x n i then nrF t x n d (i + 1) else 0
theorem p_near1_L {z : RS} {t : Tb} (hX : rX z t) (hok : okT t) (x : Int32) {n : Nat} {A : Nat → Int64} (hA : rC A t n) : ∀ (d i fuel : Nat), i + d = tN t → d < fuel → f_Crumbs_allAreNear_L26 A z x (lN (sm t (tN t)) * lN (2 ^ n)) (lN (tN t) * lN (2 ^ n)) fuel (nI i) = some (nrF t x n d i) := by
  have hn := hok.1
  intro d
  induction d with
  | zero =>
    intro i fuel hi hf
    obtain ⟨f, rfl, -⟩ := f_suc hf
    obtain rfl : i = tN t := by omega
    rw [f_Crumbs_allAreNear_L26, hX.1, if_pos (nI_le (Nat.le_refl _) (by omega))]
    rfl
  | succ d ih =>
    intro i fuel hi hf
    obtain ⟨f, rfl, hf'⟩ := f_suc hf
    have hlt : i < tN t := by omega
    rw [f_Crumbs_allAreNear_L26, hX.1, if_neg (ix_n hlt hn), if_neg (ix_b (show i < 8 by omega) (by omega)), ix_k (show i < 8 by omega), hA i hlt, nI_l (show tN t < 2 ^ 31 by omega), nI_1]
    show _ = some (if nr t x n i then nrF t x n d (i + 1) else 0)
    by_cases h : nr t x n i
    · rw [if_pos h, if_pos h]
      exact ih (i + 1) f (by omega) hf'
    · rw [if_neg h, if_neg h]
theorem q_near1_L {z : MT} {t : Tb} (hX : rM z t) (hok : okT t) (x : Int32) {n : Nat} {A : Nat → Int64} (hA : rC A t n) : ∀ (d i fuel : Nat), i + d = tN t → d < fuel → f_M_areNear_L3 z A (lN (2 ^ n)) x fuel (nI i) = some (nrF t x n d i) := by
  have hn := hok.1
  have hs := sm_le hok (tN t) (Nat.le_refl _)
  intro d
  induction d with
  | zero =>
    intro i fuel hi hf
    obtain ⟨f, rfl, -⟩ := f_suc hf
    obtain rfl : i = tN t := by omega
    rw [f_M_areNear_L3, hX.1, if_pos (nI_le (Nat.le_refl _) (by omega))]
    rfl
  | succ d ih =>
    intro i fuel hi hf
    obtain ⟨f, rfl, hf'⟩ := f_suc hf
    have hlt : i < tN t := by omega
    have hj := jabs_c (lN (cr t n i) * lN (tN t) - lN (sm t (tN t)) * lN (2 ^ n))
    rw [f_M_areNear_L3, hX.1, if_neg (ix_n hlt hn), if_neg (ix_b (show i < 8 by omega) (by omega)), q_sum hX hok, Option.bind_some, ix_k (show i < 8 by omega), hA i hlt, nI_l (show tN t < 2 ^ 31 by omega), nI_l (show sm t (tN t) < 2 ^ 31 by omega), nI_1]
    show _ = some (if nr t x n i then nrF t x n d (i + 1) else 0)
    by_cases hp : 0 ≤ lg_cmp (lN (cr t n i) * lN (tN t) - lN (sm t (tN t)) * lN (2 ^ n)) 0
    · rw [if_pos hp]
      have hE : nr t x n i = (lg_cmp ((lN (cr t n i) * lN (tN t) - lN (sm t (tN t)) * lN (2 ^ n)) * x.toInt64) (lN (tN t) * lN (2 ^ n)) < 0) := by
        unfold nr
        rw [hj.1 hp]
      by_cases h : lg_cmp ((lN (cr t n i) * lN (tN t) - lN (sm t (tN t)) * lN (2 ^ n)) * x.toInt64) (lN (tN t) * lN (2 ^ n)) < 0
      · have h' : nr t x n i := hE.symm ▸ h
        rw [if_pos h, if_pos h']
        exact ih (i + 1) f (by omega) hf'
      · have h' : ¬ nr t x n i := fun q => h (hE ▸ q)
        rw [if_neg h, if_neg h']
    · rw [if_neg hp]
      have hE : nr t x n i = (lg_cmp (-(lN (cr t n i) * lN (tN t) - lN (sm t (tN t)) * lN (2 ^ n)) * x.toInt64) (lN (tN t) * lN (2 ^ n)) < 0) := by
        unfold nr
        rw [hj.2 hp]
      by_cases h : lg_cmp (-(lN (cr t n i) * lN (tN t) - lN (sm t (tN t)) * lN (2 ^ n)) * x.toInt64) (lN (tN t) * lN (2 ^ n)) < 0
      · have h' : nr t x n i := hE.symm ▸ h
        rw [if_pos h, if_pos h']
        exact ih (i + 1) f (by omega) hf'
      · have h' : ¬ nr t x n i := fun q => h (hE ▸ q)
        rw [if_neg h, if_neg h']
def nE (t : Tb) (x : Int32) (n : Nat) : Prop := ¬ nrF t x n (tN t) 0 = 0
theorem p_near_L {z : RS} {t : Tb} (hX : rX z t) (hok : okT t) (x : Int32) : ∀ (d i fuel : Nat) (A B : Nat → Int64), i + d = 21 → d < fuel → rC A t i → ∃ v A' B', f_Crumbs_nearBehind_L7 z x fuel (nI i) A B (nI i) = some (fnd (nE t x) d i, v, A', B') := by
  have hn := hok.1
  have hs := sm_le hok (tN t) (Nat.le_refl _)
  intro d
  induction d with
  | zero =>
    intro i fuel A B hi hf hA
    obtain ⟨f, rfl, -⟩ := f_suc hf
    obtain rfl : i = 21 := by omega
    exact ⟨nI 21, A, B, by rw [f_Crumbs_nearBehind_L7, if_pos (by decide)]; rfl⟩
  | succ d ih =>
    intro i fuel A B hi hf hA
    obtain ⟨f, rfl, hf'⟩ := f_suc hf
    have g : ¬ (20 : Int32) < nI i := nI_nlt (a := 20) (by omega) (by omega)
    have e1 : f_Crumbs_allAreNear (nI i) A z x = some (nrF t x i (tN t) 0) := by
      unfold f_Crumbs_allAreNear
      rw [p_sum hX hok, Option.bind_some, hX.1, nI_l (show tN t < 2 ^ 31 by omega), nI_l (show sm t (tN t) < 2 ^ 31 by omega), sh_m (by omega), sh_m (by omega)]
      exact p_near1_L hX hok x hA (tN t) 0 FU (Nat.zero_add _) (by unfold FU; omega)
    rw [f_Crumbs_nearBehind_L7, if_neg g, e1, Option.bind_some]
    by_cases h : nrF t x i (tN t) 0 = 0
    · obtain ⟨A1, B1, e2, h2⟩ := p_adv hX hok hA (nI i) B
      rw [if_pos h, e2, Option.bind_some, nI_1, fnd_neg (p := nE t x) d (fun q => q h)]
      exact ih (i + 1) f A1 B1 (by omega) hf' h2
    · rw [if_neg h, fnd_pos (p := nE t x) d h]
      exact ⟨_, _, _, rfl⟩
theorem q_near_L {z : MT} {t : Tb} (hX : rM z t) (hok : okT t) (b : Nat → Int32) (x : Int32) : ∀ (d i fuel : Nat) (A B : Nat → Int64), i + d = 21 → d < fuel → rC A t i → ∃ A' B', f_M_near_L41 z b x fuel A B (lN (2 ^ i)) (nI i) = some (fnd (nE t x) d i, b, A', B') := by
  have hn := hok.1
  intro d
  induction d with
  | zero =>
    intro i fuel A B hi hf hA
    obtain ⟨f, rfl, -⟩ := f_suc hf
    obtain rfl : i = 21 := by omega
    exact ⟨A, B, by rw [f_M_near_L41, if_pos (by decide)]; rfl⟩
  | succ d ih =>
    intro i fuel A B hi hf hA
    obtain ⟨f, rfl, hf'⟩ := f_suc hf
    have g : ¬ (20 : Int32) < nI i := nI_nlt (a := 20) (by omega) (by omega)
    have e1 : f_M_areNear z A (lN (2 ^ i)) x = some (nrF t x i (tN t) 0) := q_near1_L hX hok x hA (tN t) 0 FU (Nat.zero_add _) (by unfold FU; omega)
    have e : lN (2 ^ i) * 2 = lN (2 ^ (i + 1)) := lN_mul (2 ^ i) 2
    rw [f_M_near_L41, if_neg g, e1, Option.bind_some]
    by_cases h : nrF t x i (tN t) 0 = 0
    · obtain ⟨A1, B1, e2, h2⟩ := q_hal hX hok hA B
      rw [if_pos h, e2, Option.bind_some, nI_1, e, fnd_neg (p := nE t x) d (fun q => q h)]
      exact ih (i + 1) f A1 B1 (by omega) hf' h2
    · rw [if_neg h, fnd_pos (p := nE t x) d h]
      exact ⟨_, _, rfl⟩
theorem e_near {now : RS} {T : MT} {t : Tb} {a b : Nat → Int32} (dd : Int32) (A B C D : Nat → Int64) (hX : rX now t) (hM : rM T t) (hok : okT t) (hr : rf a b) (x : Int32) : ∃ r a' dd' A' B' b' C' D', f_X_near now a dd A B x = some (r, a', dd', A', B') ∧ f_M_near T b C D x = some (r, b', C', D') ∧ rf a' b' := by
  have h8 := hok.1
  unfold f_X_near f_M_near
  rcases (show (f_X_outside x 1 99 = some (-4) ∧ f_M_bound x 1 99 = some (-4)) ∨ (f_X_outside x 1 99 = some (-6) ∧ f_M_bound x 1 99 = some (-6)) ∨ ∃ n, 1 ≤ n ∧ n ≤ 99 ∧ x = nI n ∧ (f_X_outside x 1 99 = some 0 ∧ f_M_bound x 1 99 = some 0) from bd x 1 99 (by decide) (by decide)) with ⟨hB, hB2⟩ | ⟨hB, hB2⟩ | ⟨n, hn0, hn, rfl, hB, hB2⟩
  · obtain ⟨a', b', e1, e2, h⟩ := no4 hr
    rw [orNobody hX hok _ _ _ _ hB, if_neg (by decide), Option.bind_some, if_neg (by decide), hB2, Option.bind_some, if_neg (by decide), e1, Option.bind_some, e2, Option.bind_some]
    exact ⟨_, a', dd, A, B, b', C, D, rfl, rfl, h⟩
  · obtain ⟨a', b', e1, e2, h⟩ := no6 hr
    rw [orNobody hX hok _ _ _ _ hB, if_neg (by decide), Option.bind_some, if_neg (by decide), hB2, Option.bind_some, if_neg (by decide), e1, Option.bind_some, e2, Option.bind_some]
    exact ⟨_, a', dd, A, B, b', C, D, rfl, rfl, h⟩
  rw [orNobody hX hok _ _ _ _ hB, if_pos rfl, hB2, Option.bind_some, Option.bind_some, if_pos rfl, hM.1]
  by_cases h0 : tN t = 0
  · obtain ⟨a', b', e1, e2, h⟩ := no3 hr
    rw [if_pos h0, if_neg (by decide), h0, if_pos nI_0, e1, Option.bind_some, e2, Option.bind_some]
    exact ⟨_, a', dd, A, B, b', C, D, rfl, rfl, h⟩
  · rw [if_neg h0, if_pos rfl, if_neg (nI_ne0 (by omega) (by omega))]
    obtain ⟨A0, g1, rA0⟩ := p_begin hX hok dd A
    obtain ⟨v, A1, B1, g2⟩ := p_near_L hX hok (nI n) 21 0 FU A0 B (by omega) (by unfold FU; omega) rA0
    have g2 : f_Crumbs_nearBehind_L7 now (nI n) FU 0 A0 B 0 = _ := g2
    obtain ⟨C0, g3, rC0⟩ := q_begin hM hok C
    obtain ⟨C1, D1, g4⟩ := q_near_L hM hok b (nI n) 21 0 FU C0 D (by omega) (by unfold FU; omega) rC0
    have g4 : f_M_near_L41 T b (nI n) FU C0 D 1 0 = _ := g4
    unfold f_Crumbs_nearBehind
    rw [g1, Option.bind_some, g2, Option.bind_some, g3, Option.bind_some]
    exact ⟨_, a, v, A1, B1, b, C1, D1, rfl, g4, hr⟩
