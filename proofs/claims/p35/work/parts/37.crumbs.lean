/-! Pure: CRUMBS and NEAR. -/
theorem fa_litL' (n : Nat) : (OfNat.ofNat n : Int64) = lN n := rfl
theorem lfrt_all : ∀ N, N < 9 → ∀ s, s < 4 → ∀ c, c < N → 1 ≤ s → ((c + 3 * N - s) % N + s) % N = c ∧ ((c + s) % N + 3 * N - s) % N = c := by decide +kernel
theorem lfrt {t : Tb} (hok : okT t) {c : Nat} (hc : c < tN t) : lf t (rt t c) = c ∧ rt t (lf t c) = c := by
  obtain ⟨h8, -, -, h1, h3, -⟩ := hok
  exact lfrt_all (tN t) (by omega) (tStep t) (by omega) c hc h1
def cr (t : Tb) : Nat → Nat → Nat
  | 0, c => tSw t c
  | n + 1, c => cr t n c + cr t n (rt t c)
theorem cr_le {t : Tb} (hok : okT t) : ∀ n c, c < tN t → cr t n c ≤ 999 * 2 ^ n
  | 0, c, h => by have := (hok.2.1 c h).2; show tSw t c ≤ 999 * 1; omega
  | n + 1, c, h => by
    have a := cr_le hok n c h
    have b := cr_le hok n (rt t c) (rt_lt (by omega))
    show cr t n c + cr t n (rt t c) ≤ _
    rw [Nat.pow_succ]
    omega
theorem cr_20 {t : Tb} (hok : okT t) {n : Nat} (hn : n ≤ 20) {c : Nat} (h : c < tN t) : cr t n c < 2 ^ 30 := by
  have a := cr_le hok n c h
  have b : 2 ^ n ≤ 2 ^ 20 := Nat.pow_le_pow_right (by decide) hn
  omega
def rC (A : Nat → Int64) (t : Tb) (n : Nat) : Prop := ∀ c, c < tN t → A c = lN (cr t n c)
theorem uL_c (A : Nat → Int64) (i j : Nat) (v : Int64) : vp_updL A i v j = if j = i then v else A j := rfl
theorem p_begin_L {z : RS} {t : Tb} (hX : rX z t) (hok : okT t) (dd : Int32) : ∀ (d i fuel : Nat) (A : Nat → Int64), i + d = tN t → d < fuel → (∀ c, c < i → A c = lN (cr t 0 c)) → ∃ A', f_Crumbs_begin_L7 dd z fuel A (nI i) = some (dd, A') ∧ rC A' t 0 := by
  have hn := hok.1
  intro d
  induction d with
  | zero =>
    intro i fuel A hi hf hA
    obtain ⟨f, rfl, -⟩ := f_suc hf
    obtain rfl : i = tN t := by omega
    exact ⟨A, by rw [f_Crumbs_begin_L7, hX.1, if_pos (nI_le (Nat.le_refl _) (by omega))], hA⟩
  | succ d ih =>
    intro i fuel A hi hf hA
    obtain ⟨f, rfl, hf'⟩ := f_suc hf
    have hlt : i < tN t := by omega
    have h9 := (hok.2.1 i hlt).2
    rw [f_Crumbs_begin_L7, hX.1, if_neg (ix_n hlt hn), if_neg (ix_b (show i < 8 by omega) (by omega)), ix_k (show i < 8 by omega), (hX.2.1 i hlt).2, nI_l (by omega), nI_1]
    refine ih (i + 1) f _ (by omega) hf' fun c hc => ?_
    rw [uL_c]
    by_cases q : c = i
    · rw [if_pos q, q]; rfl
    · rw [if_neg q]; exact hA c (by omega)
theorem p_begin {z : RS} {t : Tb} (hX : rX z t) (hok : okT t) (dd : Int32) (A : Nat → Int64) : ∃ A', f_Crumbs_begin dd A z = some (0, A') ∧ rC A' t 0 := p_begin_L hX hok 0 (tN t) 0 FU A (Nat.zero_add _) (by have := hok.1; unfold FU; omega) (fun c hc => by omega)
theorem p_adv_L {z : RS} {t : Tb} (hX : rX z t) (hok : okT t) {n : Nat} {A : Nat → Int64} (hA : rC A t n) (k : (Nat → Int64) → Option (Int32 × (Nat → Int64) × (Nat → Int64))) : ∀ (d i fuel : Nat) (B : Nat → Int64), i + d = tN t → d < fuel → (∀ c, c < i → B c = lN (cr t (n + 1) c)) → ∃ B', f_Crumbs_advance_L2 A z k fuel B (nI i) = k B' ∧ rC B' t (n + 1) := by
  have hn := hok.1
  intro d
  induction d with
  | zero =>
    intro i fuel B hi hf hB
    obtain ⟨f, rfl, -⟩ := f_suc hf
    obtain rfl : i = tN t := by omega
    exact ⟨B, by rw [f_Crumbs_advance_L2, hX.1, if_pos (nI_le (Nat.le_refl _) (by omega))], hB⟩
  | succ d ih =>
    intro i fuel B hi hf hB
    obtain ⟨f, rfl, hf'⟩ := f_suc hf
    have hlt : i < tN t := by omega
    have hr := rt_lt (t := t) (c := i) (by omega)
    rw [f_Crumbs_advance_L2, hX.1, if_neg (ix_n hlt hn), if_neg (ix_b (show i < 8 by omega) (by omega)), p_rightOf hX hok hlt, Option.bind_some, if_neg (ix_b (show rt t i < 8 by omega) (by omega)), ix_k (show i < 8 by omega), ix_k (show rt t i < 8 by omega), hA i hlt, hA _ hr, lN_add, nI_1]
    refine ih (i + 1) f _ (by omega) hf' fun c hc => ?_
    rw [uL_c]
    by_cases q : c = i
    · rw [if_pos q, q]; rfl
    · rw [if_neg q]; exact hB c (by omega)
theorem p_adv {z : RS} {t : Tb} (hX : rX z t) (hok : okT t) {n : Nat} {A : Nat → Int64} (hA : rC A t n) (dd : Int32) (B : Nat → Int64) : ∃ A' B', f_Crumbs_advance dd A B z = some (dd + 1, A', B') ∧ rC A' t (n + 1) := by
  have hn := hok.1
  obtain ⟨B', e, hB⟩ := p_adv_L hX hok hA (fun z_h_next_5 => some ((dd + 1), (va_cpy z_h_next_5 A 0 0 8), z_h_next_5)) (tN t) 0 FU B (Nat.zero_add _) (by unfold FU; omega) (fun c hc => by omega)
  refine ⟨va_cpy B' A 0 0 8, B', e, fun c hc => ?_⟩
  rw [pk_cpy_in (Nat.zero_le _) (by omega), Nat.zero_add, Nat.sub_zero]
  exact hB c hc
/-- the reference's halving, when the first i children have been gone through the second time -/
def hv (t : Tb) (n i c : Nat) : Nat := if lf t c = c then 2 * cr t n c else cr t n c + (if rt t c < i then cr t n (rt t c) else 0)
theorem hv_end {t : Tb} (hok : okT t) (n : Nat) {c : Nat} (hc : c < tN t) : hv t n (tN t) c = cr t (n + 1) c := by
  have hr := rt_lt (t := t) (c := c) (by omega)
  unfold hv
  show _ = cr t n c + cr t n (rt t c)
  by_cases h : lf t c = c
  · have h2 : rt t c = c := by have := (lfrt hok hc).2; rw [h] at this; exact this
    rw [if_pos h, h2]; omega
  · rw [if_neg h, if_pos hr]
