/-! Pure: CRUMBS and NEAR, the calls. -/
theorem sh_l : ∀ k, k < 21 → (1 : Int64) <<< ((nI k).toInt64 &&& 63) = lN (2 ^ k) := by decide +kernel
theorem sh_k : ∀ k, k < 21 → ((nI k).toInt64 &&& 63) = lN k := by decide +kernel
theorem sh_r {m k : Nat} (hm : m < 2 ^ 62) (hk : k < 21) : lN m >>> ((nI k).toInt64 &&& 63) = lN (m / 2 ^ k) := by
  rw [sh_k k hk]
  apply Int64.toInt_inj.mp
  have hq : m / 2 ^ k ≤ m := Nat.div_le_self _ _
  have e : (lN k).toBitVec.smod 64 = BitVec.ofNat 64 k := (show ∀ k, k < 21 → (lN k).toBitVec.smod 64 = BitVec.ofNat 64 k by decide +kernel) k hk
  have e2 : (BitVec.ofNat 64 k).toNat = k := by rw [BitVec.toNat_ofNat]; exact Nat.mod_eq_of_lt (by omega)
  rw [pk_lT (show m / 2 ^ k < 2 ^ 63 by omega)]
  show (lN m >>> lN k).toBitVec.toInt = _
  rw [Int64.toBitVec_shiftRight, e]
  show ((lN m).toBitVec.sshiftRight (BitVec.ofNat 64 k).toNat).toInt = _
  rw [BitVec.toInt_sshiftRight, e2]
  have e3 : (lN m).toBitVec.toInt = (m : Int) := pk_lT (show m < 2 ^ 63 by omega)
  rw [e3, Int.shiftRight_eq_div_pow]
  exact (Int.natCast_ediv m (2 ^ k)).symm
theorem sh_m {s k : Nat} (hk : k < 21) : lN s <<< ((nI k).toInt64 &&& 63) = lN s * lN (2 ^ k) := by
  rw [sh_k k hk]
  apply Int64.toBitVec_inj.mp
  have e : (lN k).toBitVec.smod 64 = BitVec.ofNat 64 k := (show ∀ k, k < 21 → (lN k).toBitVec.smod 64 = BitVec.ofNat 64 k by decide +kernel) k hk
  have e2 : (BitVec.ofNat 64 k).toNat = k := by rw [BitVec.toNat_ofNat]; exact Nat.mod_eq_of_lt (by omega)
  rw [Int64.toBitVec_shiftLeft, e]
  show (lN s).toBitVec <<< (BitVec.ofNat 64 k).toNat = _
  rw [e2, lN_mul]
  apply BitVec.eq_of_toNat_eq
  rw [BitVec.toNat_shiftLeft]
  show (BitVec.ofNat 64 s).toNat <<< k % 2 ^ 64 = (BitVec.ofNat 64 (s * 2 ^ k)).toNat
  rw [BitVec.toNat_ofNat, BitVec.toNat_ofNat, Nat.shiftLeft_eq, Nat.mod_mul_mod]
/-- how often a number can be halved, d more than i looked at -/
def hvF (m : Nat) : Nat → Nat → Nat
  | 0, i => i
  | d + 1, i => if m / 2 ^ i % 2 = 0 then hvF m d (i + 1) else i
theorem hvF_le (m : Nat) : ∀ d i, hvF m d i ≤ i + d
  | 0, _ => Nat.le_refl _
  | d + 1, i => by
    have := hvF_le m d (i + 1)
    show (if m / 2 ^ i % 2 = 0 then hvF m d (i + 1) else i) ≤ _
    split <;> omega
theorem gcd_odd {o : Nat} (h : o % 2 = 1) : ∀ k, Nat.gcd o (2 ^ k) = 1
  | 0 => Nat.gcd_one_right o
  | k + 1 => by
    have hc : Nat.Coprime o 2 := by
      show Nat.gcd o 2 = 1
      rw [Nat.gcd_comm, Nat.gcd_rec, h]
      exact Nat.gcd_one_left 2
    exact Nat.Coprime.pow_right (k + 1) hc
theorem gcd_hv (m : Nat) : ∀ d i, (2 ^ i ∣ m) → Nat.gcd m (2 ^ (i + d)) = 2 ^ hvF m d i
  | 0, i, h => Nat.gcd_eq_right h
  | d + 1, i, h => by
    obtain ⟨o, ho⟩ := h
    have hp : 0 < 2 ^ i := Nat.pow_pos (by decide)
    have hq : m / 2 ^ i = o := by rw [ho, Nat.mul_div_cancel_left _ hp]
    show _ = 2 ^ (if m / 2 ^ i % 2 = 0 then hvF m d (i + 1) else i)
    rw [hq]
    by_cases h2 : o % 2 = 0
    · rw [if_pos h2, ← gcd_hv m d (i + 1) ⟨o / 2, by rw [ho, Nat.pow_succ, Nat.mul_assoc]; congr 1; omega⟩, Nat.add_right_comm, Nat.add_assoc]
    · rw [if_neg h2, ho, Nat.pow_add, Nat.gcd_mul_left, gcd_odd (by omega), Nat.mul_one]
theorem gcd_hv0 (m n : Nat) : Nat.gcd m (2 ^ n) = 2 ^ hvF m n 0 := by
  have := gcd_hv m n 0 (by simp)
  rw [Nat.zero_add] at this
  exact this
theorem p_hv_L {A : Nat → Int64} {c m n : Nat} (hc : c < 8) (hA : A c = lN m) (hm : m < 2 ^ 62) (hn : n ≤ 20) : ∀ (d i fuel : Nat), i + d = n → d < fuel → f_Crumbs_halvings_L2 (nI n) A (nI c) fuel (nI i) = some (nI (hvF m d i)) := by
  intro d
  induction d with
  | zero =>
    intro i fuel hi hf
    obtain ⟨f, rfl, -⟩ := f_suc hf
    obtain rfl : i = n := by omega
    rw [f_Crumbs_halvings_L2, if_pos (nI_le (Nat.le_refl _) (by omega))]
    rfl
  | succ d ih =>
    intro i fuel hi hf
    obtain ⟨f, rfl, hf'⟩ := f_suc hf
    have hq : m / 2 ^ i ≤ m := Nat.div_le_self _ _
    have e : lN (m / 2 ^ i) % 2 = lN (m / 2 ^ i % 2) := lN_mod (b := 2) (by omega) (by decide) (by decide)
    rw [f_Crumbs_halvings_L2, if_neg (nI_ge (by omega) (by omega)), if_neg (ix_b hc (by omega)), ix_k hc, hA, sh_r hm (by omega), e]
    show _ = some (nI (if m / 2 ^ i % 2 = 0 then hvF m d (i + 1) else i))
    by_cases h : m / 2 ^ i % 2 = 0
    · rw [if_pos ((cmp_ab _ _).1.mpr (by rw [h, lN_0])), if_pos h, nI_1]
      exact ih (i + 1) f (by omega) hf'
    · rw [if_neg (fun q => lN_ne0 (by omega) (by omega) ((cmp_ab _ _).1.mp q)), if_neg h]
theorem p_take_L {z : RS} {t : Tb} (hX : rX z t) (hok : okT t) (n : Nat) (hn : n ≤ 20) : ∀ (d i fuel : Nat) (A B : Nat → Int64), i + d = n → d < fuel → rC A t i → ∃ A' B', f_Crumbs_take_L7 z (nI n) fuel (nI i) A B (nI i) = some (nI n, A', B') ∧ rC A' t n := by
  intro d
  induction d with
  | zero =>
    intro i fuel A B hi hf hA
    obtain ⟨f, rfl, -⟩ := f_suc hf
    obtain rfl : i = n := by omega
    exact ⟨A, B, by rw [f_Crumbs_take_L7, if_pos (nI_le (Nat.le_refl _) (by omega))], hA⟩
  | succ d ih =>
    intro i fuel A B hi hf hA
    obtain ⟨f, rfl, hf'⟩ := f_suc hf
    obtain ⟨A1, B1, e1, h1⟩ := p_adv hX hok hA (nI i) B
    rw [f_Crumbs_take_L7, if_neg (nI_ge (by omega) (by omega)), e1, Option.bind_some, nI_1]
    exact ih (i + 1) f A1 B1 (by omega) hf' h1
theorem jabs_c (D : Int64) : (0 ≤ lg_cmp D 0 → jabsL D = D) ∧ (¬ 0 ≤ lg_cmp D 0 → jabsL D = -D) := by
  have hc := (cmp_ab D 0).2
  unfold jabsL
  refine ⟨fun h => ?_, fun h => ?_⟩
  · by_cases q : 0 < D
    · rw [if_pos q]
    · have h2 : ¬ D < 0 := fun e => by
        have := hc.mpr e
        rw [Int32.lt_iff_toInt_lt] at this
        rw [Int32.le_iff_toInt_le] at h
        omega
      have h3 : D = 0 := by
        apply Int64.toInt_inj.mp
        rw [Int64.lt_iff_toInt_lt] at q h2
        omega
      rw [if_neg q, h3]
      rfl
  · have h2 : D < 0 := hc.mp (by
      rw [Int32.lt_iff_toInt_lt]
      rw [Int32.le_iff_toInt_le] at h
      omega)
    rw [if_neg (fun q => Int64.lt_irrefl (Int64.lt_trans q h2))]
abbrev nr (t : Tb) (x : Int32) (n i : Nat) : Prop := lg_cmp ((jabsL (lN (cr t n i) * lN (tN t) - lN (sm t (tN t)) * lN (2 ^ n))) * x.toInt64) (lN (tN t) * lN (2 ^ n)) < 0
def nrF (t : Tb) (x : Int32) (n : Nat) : Nat → Nat → Int32
  | 0, _ => 1
  | d + 1, i => if nr t x n i then nrF t x n d (i + 1) else 0
def nE (t : Tb) (x : Int32) (n : Nat) : Prop := ¬ nrF t x n (tN t) 0 = 0
