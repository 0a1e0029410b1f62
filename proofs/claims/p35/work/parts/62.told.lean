/-! Pure: the law's table: a cell, a pick, six letters told, a child, all children. -/
theorem msk (v : Int32) : ∃ m, m < 2 ^ 31 ∧ v &&& 2147483647 = nI m := by
  have e := Nat.and_two_pow_sub_one_eq_mod v.toBitVec.toNat 31
  have hm : v.toBitVec.toNat % 2 ^ 31 < 2 ^ 31 := Nat.mod_lt _ (by decide)
  refine ⟨v.toBitVec.toNat % 2 ^ 31, hm, ?_⟩
  apply Int32.toBitVec_inj.mp
  apply BitVec.eq_of_toNat_eq
  rw [Int32.toBitVec_and, BitVec.toNat_and]
  show v.toBitVec.toNat &&& (2 ^ 31 - 1) = (BitVec.ofNat 32 (v.toBitVec.toNat % 2 ^ 31)).toNat
  rw [BitVec.toNat_ofNat, e]
  omega
theorem pick_k (v : Int32) {n : Nat} (h0 : 0 < n) (hn : n < 2 ^ 31) : ∃ j, j < n ∧ f_Law_pick v (nI n) = some (nI j) := by
  obtain ⟨m, hm, e⟩ := msk v
  unfold f_Law_pick
  rw [if_neg (nI_ne0 h0 hn), e, s_mod hm h0 hn]
  exact ⟨m % n, Nat.mod_lt _ h0, rfl⟩
theorem cell_k (xs : Nat → Int32) {L k : Nat} (hL : L < 2 ^ 31) (hk : k < 2 ^ 31) : ∃ v, f_Law_cell xs L (nI k) = some v := by
  unfold f_Law_cell
  by_cases h : L ≤ k
  · rw [if_pos (nI_le h hk)]
    exact ⟨_, rfl⟩
  · rw [if_neg (nI_ge (by omega) hL), if_neg (ix_b (by omega) hL)]
    exact ⟨_, rfl⟩
def kN (k : Nat) : Nat := if k = 0 then 104 else if k = 1 then 98 else if k = 2 then 114 else if k = 3 then 100 else if k = 4 then 110 else if k = 5 then 112 else 115
theorem kN_k : ∀ k, k < 7 → (upd (upd (upd (upd (upd (upd (upd (fun _ => 0) 0 104) 1 98) 2 114) 3 100) 4 110) 5 112) 6 115) k = nI (kN k) := by decide +kernel
theorem kN_le : ∀ k, k < 7 → kN k ≤ 255 ∧ kN k ≠ 59 := by decide
theorem ixk7 : ∀ k, k < 7 → f_Lat_indexOfChar_L7 7 ((nI (kN k)).toInt8.toInt32) 8 0 = some (nI k) := by decide +kernel
theorem ixk {k : Nat} (hk : k < 7) : f_Str_indexOf1 (nI (kN k)) = some (nI k) := by
  have hv := (kN_le k hk).1
  have h1 := ixk7 k hk
  have h2 := ixc_up 8 999992 0 _ h1
  have hF : FU = 8 + 999992 := rfl
  rw [← hF] at h2
  have g1 : ¬ nI (kN k) < 0 := nI_pos (by omega)
  have g2 : ¬ (255 : Int32) < nI (kN k) := nI_nlt (a := 255) hv (by omega)
  have e1 : f_Lat_canEncode (nI (kN k)) = some 1 := by
    unfold f_Lat_canEncode
    rw [if_neg g1, if_neg g2]
  have e2 : jmax (0 : Int32) 0 = 0 := by decide
  have e3 : jmin ((7 : Int32) >>> ((0 : Int32) &&& 31)) 7 = 7 := by decide
  have e4 : f_Str_length = some ((7 : Int32) >>> ((0 : Int32) &&& 31)) := rfl
  have e5 : f_Str_isLatin1 = some 1 := rfl
  unfold f_Str_indexOf1 f_Str_indexOf2
  rw [e5, Option.bind_some, if_neg z10', e4, Option.bind_some]
  unfold f_Lat_indexOf
  rw [e1, Option.bind_some, if_neg z10', e2, e3, if_pos (by decide)]
  unfold f_Lat_indexOfChar
  rw [h2]
  rfl
/-- the six letters of a child -/
def VL (k s : Nat) (j : Nat) : Nat := if j = 0 then 99 else if j = 1 then kN k else if j = 2 then 48 + s / 100 else if j = 3 then 48 + s / 10 % 10 else if j = 4 then 48 + s % 10 else 59
theorem VL_le {k s : Nat} (hk : k < 7) (hs : s ≤ 999) (j : Nat) : VL k s j ≤ 255 ∧ (j < 5 → VL k s j ≠ 59) := by
  have := kN_le k hk
  unfold VL
  repeat' split
  all_goals omega
theorem VL_tx {k s : Nat} (hk : k < 7) (hs : s ≤ 999) {text : Nat → Int32} (hT : ∀ j, j < 6 → text j = nI (VL k s j)) : tx 6 (VL k s) text text := ⟨by omega, fun i hi => ⟨(VL_le hk hs i).1, hT i hi, hT i hi⟩⟩
theorem six_form {k s : Nat} (hk : k < 7) (hs : s ≤ 999) {text : Nat → Int32} (hT : ∀ j, j < 6 → text j = nI (VL k s j)) : f_Letters_placeOfBadForm (nI 6) text = some (-1) := by
  have h := VL_tx hk hs hT
  have hkv := (kN_le k hk).1
  have b0 : f_Letters_behind 0 (nI (VL k s 0)) = some 1 := by
    show f_Letters_behind 0 (nI 99) = some 1
    rw [bh_0 (by decide)]; rfl
  have b1 : f_Letters_behind 1 (nI (VL k s 1)) = some 2 := by
    show f_Letters_behind 1 (nI (kN k)) = some 2
    unfold f_Letters_behind
    rw [if_neg z10', if_pos rfl, ixk hk, Option.bind_some, if_neg (nI_pos (by omega))]
  have b2 : f_Letters_behind 2 (nI (VL k s 2)) = some 3 := (bh_d (v := 48 + s / 100) (by omega) (by omega)).1
  have b3 : f_Letters_behind 3 (nI (VL k s 3)) = some 4 := (bh_d (v := 48 + s / 10 % 10) (by omega) (by omega)).2.1
  have b4 : f_Letters_behind 4 (nI (VL k s 4)) = some 5 := (bh_d (v := 48 + s % 10) (by omega) (by omega)).2.2.1
  have b5 : f_Letters_behind 5 (nI (VL k s 5)) = some 0 := by
    show f_Letters_behind 5 (nI 59) = some 0
    rw [bh_5 (by decide)]; rfl
  have s0 : ∀ f, f_Letters_placeOfBadForm_L4 (nI 6) text (f + 1) 0 (nI 0) = f_Letters_placeOfBadForm_L4 (nI 6) text f 1 (nI 1) := fun f => (a_step h (i := 0) (by omega) b0 f).trans (if_neg (by decide))
  have s1 : ∀ f, f_Letters_placeOfBadForm_L4 (nI 6) text (f + 1) 1 (nI 1) = f_Letters_placeOfBadForm_L4 (nI 6) text f 2 (nI 2) := fun f => (a_step h (i := 1) (by omega) b1 f).trans (if_neg (by decide))
  have s2 : ∀ f, f_Letters_placeOfBadForm_L4 (nI 6) text (f + 1) 2 (nI 2) = f_Letters_placeOfBadForm_L4 (nI 6) text f 3 (nI 3) := fun f => (a_step h (i := 2) (by omega) b2 f).trans (if_neg (by decide))
  have s3 : ∀ f, f_Letters_placeOfBadForm_L4 (nI 6) text (f + 1) 3 (nI 3) = f_Letters_placeOfBadForm_L4 (nI 6) text f 4 (nI 4) := fun f => (a_step h (i := 3) (by omega) b3 f).trans (if_neg (by decide))
  have s4 : ∀ f, f_Letters_placeOfBadForm_L4 (nI 6) text (f + 1) 4 (nI 4) = f_Letters_placeOfBadForm_L4 (nI 6) text f 5 (nI 5) := fun f => (a_step h (i := 4) (by omega) b4 f).trans (if_neg (by decide))
  have s5 : ∀ f, f_Letters_placeOfBadForm_L4 (nI 6) text (f + 1) 5 (nI 5) = f_Letters_placeOfBadForm_L4 (nI 6) text f 0 (nI 6) := fun f => (a_step h (i := 5) (by omega) b5 f).trans (if_neg (by decide))
  have s6 : ∀ f, f_Letters_placeOfBadForm_L4 (nI 6) text (f + 1) 0 (nI 6) = some (-1) := fun f => by
    rw [f_Letters_placeOfBadForm_L4, if_pos (nI_le (Nat.le_refl _) (by omega)), if_neg (by decide), if_pos rfl]
  unfold f_Letters_placeOfBadForm
  have hF : FU = 999993 + 1 + 1 + 1 + 1 + 1 + 1 + 1 := rfl
  rw [hF]
  exact (s0 _).trans ((s1 _).trans ((s2 _).trans ((s3 _).trans ((s4 _).trans ((s5 _).trans (s6 _))))))
theorem six_num {k s : Nat} (hk : k < 7) (hs : s ≤ 999) {text : Nat → Int32} (hT : ∀ j, j < 6 → text j = nI (VL k s j)) : f_Letters_number (nI 6) text (nI 2) (nI 5) = some (nI s) := by
  have h := VL_tx hk hs hT
  have one : ∀ (f x i d : Nat), i < 5 → VL k s i = 48 + d → x ≤ 99 → d ≤ 9 → f_Letters_number_L5 (nI 6) text (nI 5) (f + 1) (nI x) (nI i) = f_Letters_number_L5 (nI 6) text (nI 5) f (nI (x * 10 + d)) (nI (i + 1)) := by
    intro f x i d hi hd hx h9
    rw [f_Letters_number_L5, if_neg (nI_ge (by omega) (by omega)), p_lt h (show i < 6 by omega), Option.bind_some, hd, lI 10, pk_mul, nI_add, lI 48, pk_sub (by omega), nI_1, show x * 10 + (48 + d) - 48 = x * 10 + d by omega]
  have t0 : ∀ f, f_Letters_number_L5 (nI 6) text (nI 5) (f + 1) (nI 0) (nI 2) = f_Letters_number_L5 (nI 6) text (nI 5) f (nI (s / 100)) (nI 3) := fun f => by
    rw [one f 0 2 (s / 100) (by omega) rfl (by omega) (by omega), Nat.zero_mul, Nat.zero_add]
  have t1 : ∀ f, f_Letters_number_L5 (nI 6) text (nI 5) (f + 1) (nI (s / 100)) (nI 3) = f_Letters_number_L5 (nI 6) text (nI 5) f (nI (s / 10)) (nI 4) := fun f => by
    rw [one f (s / 100) 3 (s / 10 % 10) (by omega) rfl (by omega) (by omega), show s / 100 * 10 + s / 10 % 10 = s / 10 by omega]
  have t2 : ∀ f, f_Letters_number_L5 (nI 6) text (nI 5) (f + 1) (nI (s / 10)) (nI 4) = f_Letters_number_L5 (nI 6) text (nI 5) f (nI s) (nI 5) := fun f => by
    rw [one f (s / 10) 4 (s % 10) (by omega) rfl (by omega) (by omega), show s / 10 * 10 + s % 10 = s by omega]
  have t3 : ∀ f, f_Letters_number_L5 (nI 6) text (nI 5) (f + 1) (nI s) (nI 5) = some (nI s) := fun f => by
    rw [f_Letters_number_L5, if_pos (nI_le (Nat.le_refl _) (by omega))]
  unfold f_Letters_number
  have hF : FU = 999996 + 1 + 1 + 1 + 1 := rfl
  rw [hF]
  exact (t0 _).trans ((t1 _).trans ((t2 _).trans (t3 _)))
theorem six_tab {now : RS} (trial : RS) {t : Tb} (hX : rX now t) (hok : okT t) (hlt : tN t < 8) {k s : Nat} (hk : k < 7) (hs : s ≤ 999) {text : Nat → Int32} (hT : ∀ j, j < 6 → text j = nI (VL k s j)) : ∃ r now' tr', f_X_table now (nI 6) text trial = some (r, now', 0, tr') ∧ rX now' (addT t k s) := by
  have h := VL_tx hk hs hT
  obtain ⟨z3, e3, r3⟩ := p_copyFrom trial now hX hok
  obtain ⟨z4, e4, r4⟩ := p_seat r3 hok hlt k s
  have ok4 := addT_ok hok hlt (show k ≤ 6 by omega) hs
  obtain ⟨z5, e5, r5⟩ := p_copyFrom now z4 r4 ok4
  have q0 : f_Letters_letterAt (nI 6) text 0 = some 99 := p_lt h (p := 0) (by omega)
  have q1 : f_Letters_letterAt (nI 6) text (0 + 1) = some (nI (kN k)) := by
    rw [show (0 : Int32) + 1 = nI 1 by decide]
    exact p_lt h (p := 1) (by omega)
  have q2 : f_Letters_number (nI 6) text (0 + 2) (nI 5) = some (nI s) := by
    rw [show (0 : Int32) + 2 = nI 2 by decide]
    exact six_num hk hs hT
  have c1 : f_Letters_carryOutOne (nI 6) text z3 0 (nI 5) = some (1, z4) := by
    unfold f_Letters_carryOutOne
    rw [q0, Option.bind_some, if_pos rfl, q1, Option.bind_some, ixk hk, Option.bind_some, q2, Option.bind_some, e4, Option.bind_some, if_neg (fun z => z (Or.inr rfl))]
  have sc := p_scan h now (fun z_h_trial_9 x3_9 => (f_Ring_copyFrom now z_h_trial_9).bind fun q10 => some (x3_9, z_h_trial_9, q10)) z3 0 0 (e := 5) (by omega) (fun _ _ _ => trivial) 5 0 999995 rfl (fun j _ hj => (VL_le hk hs j).2 hj)
  have hF : FU = 999995 + 5 := rfl
  rw [← hF] at sc
  have sc : f_Letters_carryOut_L31 (nI 6) text now (fun z_h_trial_9 x3_9 => (f_Ring_copyFrom now z_h_trial_9).bind fun q10 => some (x3_9, z_h_trial_9, q10)) FU z3 0 0 0 = _ := sc
  have hF2 : (999995 : Nat) = 999993 + 1 + 1 := rfl
  have h5 : text 5 = 59 := hT 5 (by omega)
  unfold f_X_table f_Letters_carryOut
  rw [six_form hk hs hT, Option.bind_some, if_pos (by decide), e3, Option.bind_some, sc, hF2, f_Letters_carryOut_L31, if_neg (nI_ge (by omega) (by omega)), if_neg (ix_b (show 5 < 64 by omega) (by omega)), nI_clamp (by omega), if_pos h5, c1, Option.bind_some, if_neg z10', nI_1, f_Letters_carryOut_L31, if_pos (nI_le (Nat.le_refl _) (by omega))]
  show ∃ r now' tr', (((f_Ring_copyFrom now z4).bind fun q10 => some ((0 : Int32) + 1, z4, q10)).bind fun q1 => some (q1.1, q1.2.2, (0 : Int32), q1.2.1)) = some (r, now', 0, tr') ∧ rX now' (addT t k s)
  rw [e5, Option.bind_some, Option.bind_some]
  exact ⟨_, z5, z4, rfl, r5⟩
theorem told_L {G : Nat → Int32} {V : Nat → Nat} (hG : ∀ j, j < 6 → G j = nI (V j)) (hV : ∀ j, V j ≤ 255) (a : Nat → Int32) (K : Int32 → (Nat → Int32) → (Nat → Int32) → Option (Int32 × RS × Int32 × (Nat → Int32) × RS × (Nat → Int32))) : ∀ (d i fuel : Nat) (text : Nat → Int32), i + d = 6 → d < fuel → (∀ j, j < i → text j = nI (V j)) → ∃ text', f_Law_told_L8 G 6 K fuel (nI i) text a (nI i) = K (nI 6) text' a ∧ ∀ j, j < 6 → text' j = nI (V j) := by
  intro d
  induction d with
  | zero =>
    intro i fuel text hi hf hv
    obtain ⟨f, rfl, -⟩ := f_suc hf
    obtain rfl : i = 6 := by omega
    exact ⟨text, by rw [f_Law_told_L8, if_pos (by decide)], hv⟩
  | succ d ih =>
    intro i fuel text hi hf hv
    obtain ⟨f, rfl, hf'⟩ := f_suc hf
    have g : ¬ (6 : Int32) ≤ nI i := nI_ge (b := 6) (by omega) (by omega)
    obtain ⟨r, e⟩ := v_feed a text (l := i) (by omega) (hV i)
    rw [f_Law_told_L8, if_neg g, if_neg (ix_b (show i < 6 by omega) (by omega)), nI_clamp (by omega), hG i (by omega), e, Option.bind_some, nI_1]
    refine ih (i + 1) f (upd text i (nI (V i))) (by omega) hf' (fun j hj => ?_)
    unfold upd
    by_cases q : j = i
    · rw [if_pos q, q]
    · rw [if_neg q]
      exact hv j (by omega)
theorem v_told {now : RS} (trial : RS) {t : Tb} (hX : rX now t) (hok : okT t) (hlt : tN t < 8) {k s : Nat} (hk : k < 7) (hs : s ≤ 999) (text a : Nat → Int32) {G : Nat → Int32} (hG : ∀ j, j < 6 → G j = nI (VL k s j)) : ∃ r now' text' tr', f_Law_told now (nI 0) text trial a G = some (r, now', nI 0, text', tr', a) ∧ rX now' (addT t k s) := by
  obtain ⟨text', e, hT⟩ := told_L hG (fun j => (VL_le hk hs j).1) a (fun z_g0_letters_length_4 z_g0_letters_text_4 z_g0_refusals_4 =>
    (f_X_table now z_g0_letters_length_4 z_g0_letters_text_4 trial).bind fun q5 =>
    some (q5.1, q5.2.1, q5.2.2.1, z_g0_letters_text_4, q5.2.2.2, z_g0_refusals_4)) 6 0 FU text (by omega) (by unfold FU; omega) (fun j hj => absurd hj (Nat.not_lt_zero j))
  obtain ⟨r, now', tr', e2, r2⟩ := six_tab trial hX hok hlt hk hs hT
  unfold f_Law_told
  refine ⟨r, now', text', tr', ?_, r2⟩
  refine Eq.trans e ?_
  rw [e2, Option.bind_some]
  rfl
theorem v_child {now : RS} (trial : RS) {t : Tb} (hX : rX now t) (hok : okT t) (hlt : tN t < 8) {k s : Nat} (hk : k < 7) (hs : s ≤ 999) (text a : Nat → Int32) : ∃ r now' text' tr', f_Law_child now (nI 0) text trial a (nI k) (nI s) = some (r, now', nI 0, text', tr', a) ∧ rX now' (addT t k s) := by
  have hc : (nI k).toNatClampNeg = k := nI_clamp (by omega)
  have d1 : (48 : Int32) + nI s / 100 = nI (48 + s / 100) := by
    rw [lI 100, s_div (by omega) (by omega) (by omega), lI 48, nI_add]
  have d2 : (48 : Int32) + nI s / 10 % 10 = nI (48 + s / 10 % 10) := by
    rw [lI 10, s_div (by omega) (by omega) (by omega), s_mod (by omega) (by omega) (by omega), lI 48, nI_add]
  have d3 : (48 : Int32) + nI s % 10 = nI (48 + s % 10) := by
    rw [lI 10, s_mod (by omega) (by omega) (by omega), lI 48, nI_add]
  unfold f_Law_child
  rw [if_neg (ix_b (show k < 7 by omega) (by omega)), hc, kN_k k hk, d1, d2, d3]
  obtain ⟨r, now', text', tr', e, r2⟩ := v_told trial hX hok hlt hk hs text a (G := upd (upd (upd (upd (upd (upd (fun _ => 0) 0 99) 1 (nI (kN k))) 2 (nI (48 + s / 100))) 3 (nI (48 + s / 10 % 10))) 4 (nI (48 + s % 10))) 5 59) (fun j hj => by
    rcases (show j = 0 ∨ j = 1 ∨ j = 2 ∨ j = 3 ∨ j = 4 ∨ j = 5 by omega) with rfl | rfl | rfl | rfl | rfl | rfl <;> rfl)
  rw [e, Option.bind_some]
  exact ⟨r, now', text', tr', rfl, r2⟩
/-- what holds of the table while the law makes it -/
def fr0 (t : Tb) (i : Nat) : Prop := okT t ∧ tN t = i ∧ sm t i ≤ 59 * i ∧ tSt t = 0 ∧ tGv t = 0 ∧ tTh t = 0
theorem fr0_add {t : Tb} {i k s : Nat} (h : fr0 t i) (h8 : i < 8) (hk : k < 7) (hs : s < 60) : fr0 (addT t k s) (i + 1) := by
  obtain ⟨a1, a2, a3, a4, a5, a6⟩ := h
  refine ⟨addT_ok a1 (by omega) (by omega) (by omega), congrArg (· + 1) a2, ?_, a4, a5, a6⟩
  show sm (addT t k s) i + updN (tSw t) (tN t) s i ≤ _
  have e : sm (addT t k s) i = sm t i := sm_congr i fun c hc => by
    show updN (tSw t) (tN t) s c = tSw t c
    unfold updN
    rw [if_neg (by omega)]
  have e2 : updN (tSw t) (tN t) s i = s := by
    unfold updN
    rw [if_pos a2.symm]
  rw [e, e2]
  omega
theorem tab_L (xs : Nat → Int32) {L n : Nat} (hL : L < 2 ^ 31) (hn : n ≤ 8) (a : Nat → Int32) (K : RS → Int32 → (Nat → Int32) → RS → (Nat → Int32) → Option (Int32 × RS × Int32 × (Nat → Int32) × RS × (Nat → Int32))) : ∀ (d i fuel : Nat) (now : RS) (text : Nat → Int32) (trial : RS) (t : Tb), i + d = n → d < fuel → rX now t → fr0 t i → ∃ now' text' trial' t', f_Law_table_L16 xs L 60 (nI n) K fuel now (nI 0) text trial a (nI i) = K now' (nI 0) text' trial' a ∧ rX now' t' ∧ fr0 t' n := by
  intro d
  induction d with
  | zero =>
    intro i fuel now text trial t hi hf hX h
    obtain ⟨f, rfl, -⟩ := f_suc hf
    obtain rfl : i = n := by omega
    exact ⟨now, text, trial, t, by rw [f_Law_table_L16, if_pos (nI_le (Nat.le_refl _) (by omega))], hX, h⟩
  | succ d ih =>
    intro i fuel now text trial t hi hf hX h
    obtain ⟨f, rfl, hf'⟩ := f_suc hf
    have e1 : (1 : Int32) + nI i = nI (1 + i) := nI_add 1 i
    have hlt : tN t < 8 := by rw [h.2.1]; omega
    obtain ⟨v, ev⟩ := cell_k xs (k := 1 + i) hL (by omega)
    obtain ⟨j, hj, ej⟩ := pick_k v (n := 3) (by omega) (by omega)
    have ej : f_Law_pick v 3 = some (nI j) := ej
    obtain ⟨j1, hj1, ej1⟩ := pick_k (v >>> (5 &&& 31)) (n := 60) (by omega) (by omega)
    have ej1 : f_Law_pick (v >>> (5 &&& 31)) 60 = some (nI j1) := ej1
    obtain ⟨j2, hj2, ej2⟩ := pick_k (v >>> (2 &&& 31)) (n := 7) (by omega) (by omega)
    have ej2 : f_Law_pick (v >>> (2 &&& 31)) 7 = some (nI j2) := ej2
    rw [f_Law_table_L16, if_neg (nI_ge (by omega) (by omega)), e1, ev, Option.bind_some, ej, Option.bind_some]
    by_cases q : nI j = 0
    · obtain ⟨r, now', text', tr', e, r2⟩ := v_child trial hX h.1 hlt (show 0 < 7 by omega) (show j1 ≤ 999 by omega) text a
      have e : f_Law_child now (nI 0) text trial a 0 (nI j1) = _ := e
      rw [if_pos q, Option.bind_some, ej1, Option.bind_some, e, Option.bind_some, nI_1]
      exact ih (i + 1) f now' text' tr' (addT t 0 j1) (by omega) hf' r2 (fr0_add h (by omega) (by omega) hj1)
    · obtain ⟨r, now', text', tr', e, r2⟩ := v_child trial hX h.1 hlt hj2 (show j1 ≤ 999 by omega) text a
      rw [if_neg q, Option.bind_some, ej2, Option.bind_some, Option.bind_some, ej1, Option.bind_some, e, Option.bind_some, nI_1]
      exact ih (i + 1) f now' text' tr' (addT t j2 j1) (by omega) hf' r2 (fr0_add h (by omega) hj2 hj1)
theorem v_table (xs : Nat → Int32) {L : Nat} (hL : L < 2 ^ 31) {now : RS} (trial : RS) (text a : Nat → Int32) {t0 : Tb} (hX : rX now t0) (h0 : fr0 t0 0) : ∃ (n : Nat) (now' : RS) (text' : Nat → Int32) (trial' : RS) (t : Tb), f_Law_table xs L now (nI 0) text trial a 8 60 = some (nI n, now', nI 0, text', trial', a) ∧ rX now' t ∧ fr0 t n ∧ 0 < n ∧ n ≤ 8 ∧ ∃ v9, f_Law_cell xs L 9 = some v9 ∧ f_Law_pick v9 3 = some (nI (tOdd t)) := by
  obtain ⟨v0, ev0⟩ := cell_k xs (k := 0) hL (by omega)
  have ev0 : f_Law_cell xs L 0 = some v0 := ev0
  obtain ⟨j0, hj0, ej0⟩ := pick_k v0 (n := 8) (by omega) (by omega)
  have ej0 : f_Law_pick v0 8 = some (nI j0) := ej0
  obtain ⟨v9, ev9⟩ := cell_k xs (k := 9) hL (by omega)
  have ev9 : f_Law_cell xs L 9 = some v9 := ev9
  obtain ⟨j9, hj9, ej9⟩ := pick_k v9 (n := 3) (by omega) (by omega)
  have ej9 : f_Law_pick v9 3 = some (nI j9) := ej9
  obtain ⟨v10, ev10⟩ := cell_k xs (k := 10) hL (by omega)
  have ev10 : f_Law_cell xs L 10 = some v10 := ev10
  obtain ⟨j10, hj10, ej10⟩ := pick_k v10 (n := 3) (by omega) (by omega)
  have ej10 : f_Law_pick v10 3 = some (nI j10) := ej10
  obtain ⟨v11, ev11⟩ := cell_k xs (k := 11) hL (by omega)
  have ev11 : f_Law_cell xs L 11 = some v11 := ev11
  obtain ⟨j11, hj11, ej11⟩ := pick_k v11 (n := 3) (by omega) (by omega)
  have ej11 : f_Law_pick v11 3 = some (nI j11) := ej11
  obtain ⟨j12, hj12, ej12⟩ := pick_k (v11 >>> (2 &&& 31)) (n := 30) (by omega) (by omega)
  have ej12 : f_Law_pick (v11 >>> (2 &&& 31)) 30 = some (nI j12) := ej12
  have e1 : (1 : Int32) + nI j0 = nI (1 + j0) := nI_add 1 j0
  have e10 : (1 : Int32) + nI j10 = nI (1 + j10) := nI_add 1 j10
  unfold f_Law_table
  rw [ev0, Option.bind_some, ej0, Option.bind_some, e1, ← nI_0]
  obtain ⟨now1, text1, trial1, t1, eL, r1, ⟨a1, a2, a3, a4, a5, a6⟩⟩ := tab_L xs hL (show 1 + j0 ≤ 8 by omega) a (fun z_g0_now_15 z_g0_letters_length_15 z_g0_letters_text_15 z_g0_letters_trial_15 z_g0_refusals_15 =>
  (f_Law_cell xs L 9).bind fun q16 =>
  (f_Law_pick q16 3).bind fun q17 =>
  (f_X_set z_g0_now_15 z_g0_refusals_15 0 q17).bind fun q18 =>
  (f_Law_cell xs L 10).bind fun q19 =>
  (f_Law_pick q19 3).bind fun q20 =>
  (f_X_set q18.2.1 q18.2.2 1 (1 + q20)).bind fun q21 =>
  (f_Law_cell xs L 11).bind fun q22 =>
  (f_Law_pick q22 3).bind fun q23 =>
  if q23 = 0 then
   (f_Law_cell xs L 11).bind fun q25 =>
   (f_Law_pick (q25 >>> (2 &&& 31)) 30).bind fun q26 =>
   (f_X_set q21.2.1 q21.2.2 2 q26).bind fun q27 =>
   some ((nI (1 + j0)), q27.2.1, z_g0_letters_length_15, z_g0_letters_text_15, z_g0_letters_trial_15, q27.2.2)
  else
   some ((nI (1 + j0)), q21.2.1, z_g0_letters_length_15, z_g0_letters_text_15, z_g0_letters_trial_15, q21.2.2)) (1 + j0) 0 9 now text trial t0 (by omega) (by omega) hX h0
  refine ⟨1 + j0, ?_⟩
  obtain ⟨b1, b2, b3, b4, b5, b6⟩ := a1
  obtain ⟨r2, now2, s2, x2⟩ := v_set0 a r1 ⟨b1, b2, b3, b4, b5, b6⟩ (show j9 ≤ 2 by omega)
  have k2 : okT (tN t1, tKd t1, tSw t1, j9, tStep t1, tBag t1, tSt t1, tGv t1, tTh t1) := ⟨b1, b2, by show j9 ≤ 2; omega, b4, b5, b6⟩
  obtain ⟨r3, now3, s3, x3⟩ := v_set1 a x2 k2 (show 1 ≤ 1 + j10 by omega) (show 1 + j10 ≤ 3 by omega)
  have k3 : okT (tN t1, tKd t1, tSw t1, j9, 1 + j10, tBag t1, tSt t1, tGv t1, tTh t1) := ⟨b1, b2, by show j9 ≤ 2; omega, by show 1 ≤ 1 + j10; omega, by show 1 + j10 ≤ 3; omega, b6⟩
  have smc : ∀ (o s b : Nat) (w : Int32 × Int32 × Int32), sm (tN t1, tKd t1, tSw t1, o, s, b, w) (1 + j0) = sm t1 (1 + j0) := fun o s b w => sm_congr _ fun c _ => rfl
  by_cases q : nI j11 = 0
  · obtain ⟨r4, now4, s4, x4⟩ := v_set2 a x3 k3 (show j12 ≤ 999 by omega)
    refine ⟨now4, text1, trial1, _, ?_, x4, ⟨⟨b1, b2, by show j9 ≤ 2; omega, by show 1 ≤ 1 + j10; omega, by show 1 + j10 ≤ 3; omega, by show j12 ≤ 999; omega⟩, a2, ?_, a4, a5, a6⟩, by omega, by omega, v9, ev9, ej9⟩
    · refine Eq.trans eL ?_
      rw [ev9, Option.bind_some, ej9, Option.bind_some, s2, Option.bind_some, ev10, Option.bind_some, ej10, Option.bind_some, e10, s3, Option.bind_some, ev11, Option.bind_some, ej11, Option.bind_some, if_pos q, Option.bind_some, ej12, Option.bind_some, s4, Option.bind_some]
    · show sm (tN t1, tKd t1, tSw t1, j9, 1 + j10, j12, tSt t1, tGv t1, tTh t1) (1 + j0) ≤ _
      rw [smc]; exact a3
  · refine ⟨now3, text1, trial1, _, ?_, x3, ⟨k3, a2, ?_, a4, a5, a6⟩, by omega, by omega, v9, ev9, ej9⟩
    · refine Eq.trans eL ?_
      rw [ev9, Option.bind_some, ej9, Option.bind_some, s2, Option.bind_some, ev10, Option.bind_some, ej10, Option.bind_some, e10, s3, Option.bind_some, ev11, Option.bind_some, ej11, Option.bind_some, if_neg q]
    · show sm (tN t1, tKd t1, tSw t1, j9, 1 + j10, tBag t1, tSt t1, tGv t1, tTh t1) (1 + j0) ≤ _
      rw [smc]; exact a3
