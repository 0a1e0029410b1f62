/-! Pure: SEATS and SEAT, the loops and the calls. -/
abbrev cd (w : Nat) (v v' : Int32) : Prop := (w = 0 ∧ v ≤ v') ∨ (¬ w = 0 ∧ v' ≤ v)
def bt (t : Tb) (n w : Nat) : Nat → List Nat → Int32 → List Nat → Int32 × List Nat
  | 0, _, v, bl => (v, bl)
  | f + 1, l, v, bl => match nx (tN t) l with
    | none => (v, bl)
    | some l' => if cd w v (vl t n w l') then bt t n w f l' v bl else bt t n w f l' (vl t n w l') l'
theorem bt_none {t : Tb} {n w : Nat} {l : List Nat} (h : nx (tN t) l = none) (v : Int32) (bl : List Nat) : ∀ d, bt t n w d l v bl = (v, bl)
  | 0 => rfl
  | d + 1 => by rw [bt, h]
theorem bt_some {t : Tb} {n w : Nat} {l l' : List Nat} (h : nx (tN t) l = some l') (v : Int32) (bl : List Nat) (d : Nat) : bt t n w (d + 1) l v bl = if cd w v (vl t n w l') then bt t n w d l' v bl else bt t n w d l' (vl t n w l') l' := by rw [bt, h]
theorem chk_gd {n d : Nat} {l : List Nat} (h : chk n (d + 1) l = true) : gd n l = true := by
  rw [chk, Bool.and_eq_true] at h
  exact h.1
theorem chk_some {n d : Nat} {l l' : List Nat} (h : chk n (d + 1) l = true) (hn : nx n l = some l') : ∃ e, d = e + 1 ∧ chk n d l' = true := by
  rw [chk, Bool.and_eq_true, hn] at h
  have h2 : chk n d l' = true := h.2
  cases d with
  | zero => exact absurd h2 (by simp [chk])
  | succ e => exact ⟨e, rfl, h2⟩
theorem p_best_L {now : RS} {t : Tb} (hX : rX now t) (hok : okT t) (h0 : 0 < tN t) (hN6 : tN t ≤ 6) {n w : Nat} (hn : n ≤ 50) (hw : w ≤ 2) : ∀ (d fuel : Nat) (B A : Nat → Int32) (z : RS) (l : List Nat) (v : Int32) (bl : List Nat), d ≤ 119 → d < fuel → chk (tN t) (d + 1) l = true → aR A l → (∀ i, i < tN t → B i = nI (gl bl i)) →
    ∃ B' A' z', f_Seating_best_L63 now (nI n) (nI w) (nI (tN t)) fuel B A z v (nI (120 - d)) = some ((bt t n w d l v bl).1, B', A', z') ∧ ∀ i, i < tN t → B' i = nI (gl (bt t n w d l v bl).2 i) := by
  obtain ⟨c0, c1, c2⟩ := w012 (w := w) rfl hw
  intro d
  induction d with
  | zero =>
    intro fuel B A z l v bl hd hf hc hA hB
    obtain ⟨f, rfl, -⟩ := f_suc hf
    exact ⟨B, A, z, by rw [f_Seating_best_L63, if_pos (by decide)]; rfl, hB⟩
  | succ d ih =>
    intro fuel B A z l v bl hd hf hc hA hB
    obtain ⟨f, rfl, hf'⟩ := f_suc hf
    have g : ¬ (120 : Int32) ≤ nI (120 - (d + 1)) := nI_ge (b := 120) (by omega) (by omega)
    rw [f_Seating_best_L63, if_neg g]
    rcases p_next (by omega) hN6 hA (chk_gd hc) with ⟨h1, A', e1⟩ | ⟨l', A', h1, e1, hA'⟩
    · rw [e1, Option.bind_some, if_pos rfl, bt_none h1]
      exact ⟨B, A', z, rfl, hB⟩
    · obtain ⟨-, -, hc'⟩ := chk_some hc h1
      obtain ⟨z2, e2⟩ := p_num hX hok h0 hN6 hA' (chk_gd hc') z hn hw
      have hw1 : nI (120 - (d + 1)) + 1 = nI (120 - d) := by rw [nI_1]; exact congrArg nI (by omega)
      have gb : ¬ (nI (tN t) < 0 ∨ 6 < (nI (tN t)).toNatClampNeg) := fun q => q.elim (nI_pos (by omega)) (by rw [nI_clamp (by omega)]; omega)
      have hB2 : ∀ i, i < tN t → va_cpy A' B 0 0 (nI (tN t)).toNatClampNeg i = nI (gl l' i) := fun i hi => by
        rw [nI_clamp (by omega), pk_cpy_in (Nat.zero_le _) (by omega), Nat.zero_add, Nat.sub_zero]
        exact hA' i (by rw [(gl_lt (chk_gd hc')).1]; exact hi)
      rw [e1, Option.bind_some, if_neg z10', e2, Option.bind_some, hw1, if_neg gb, bt_some h1]
      by_cases w0 : w = 0
      · rw [if_pos (c0.mpr w0)]
        by_cases hv : v ≤ vl t n w l'
        · rw [if_pos hv, if_pos (Or.inl ⟨w0, hv⟩)]
          exact ih f B A' z2 l' v bl (by omega) (by omega) hc' hA' hB
        · rw [if_neg hv, if_neg (fun q => q.elim (fun q => hv q.2) (fun q => q.1 w0))]
          exact ih f _ A' z2 l' _ l' (by omega) (by omega) hc' hA' hB2
      · rw [if_neg (fun q => w0 (c0.mp q))]
        by_cases hv : vl t n w l' ≤ v
        · rw [if_pos hv, if_pos (Or.inr ⟨w0, hv⟩)]
          exact ih f B A' z2 l' v bl (by omega) (by omega) hc' hA' hB
        · rw [if_neg hv, if_neg (fun q => q.elim (fun q => w0 q.1) (fun q => hv q.2))]
          exact ih f _ A' z2 l' _ l' (by omega) (by omega) hc' hA' hB2
theorem q_cp_L {T : MT} {N : Nat} (hT : m_many T = nI N) (hN : N ≤ 6) (A : Nat → Int32) (k : (Nat → Int32) → Option (Int32 × MT × (Nat → Int32) × (Nat → Int32))) : ∀ (d i fuel : Nat) (B : Nat → Int32), i + d = N → d < fuel → (∀ j, j < i → B j = A j) → ∃ B', f_M_findSeats_L80 T A k fuel B (nI i) = k B' ∧ ∀ j, j < N → B' j = A j := by
  intro d
  induction d with
  | zero =>
    intro i fuel B hi hf hB
    obtain ⟨f, rfl, -⟩ := f_suc hf
    obtain rfl : i = N := by omega
    exact ⟨B, by rw [f_M_findSeats_L80, hT, if_pos (nI_le (Nat.le_refl _) (by omega))], hB⟩
  | succ d ih =>
    intro i fuel B hi hf hB
    obtain ⟨f, rfl, hf'⟩ := f_suc hf
    rw [f_M_findSeats_L80, hT, if_neg (nI_ge (by omega) (by omega)), if_neg (ix_b (show i < 8 by omega) (by omega)), ix_k (show i < 8 by omega), nI_1]
    refine ih (i + 1) f _ (by omega) hf' fun j hj => ?_
    unfold upd
    by_cases q : j = i
    · rw [if_pos q, q]
    · rw [if_neg q]; exact hB j (by omega)
theorem q_cont {t : Tb} (hok : okT t) (h0 : 0 < tN t) (hN6 : tN t ≤ 6) {n w : Nat} (hn : n ≤ 50) (hw : w ≤ 2) (K : Nat → Int32) (kk : MT → (Nat → Int32) → (Nat → Int32) → Int32 → Option (Int32 × MT × (Nat → Int32) × (Nat → Int32))) : ∀ (d f : Nat) (T : MT) (B A : Nat → Int32) (l : List Nat) (v : Int32) (bl : List Nat), d + 1 < f → chk (tN t) (d + 1) l = true → aR A l → (∀ i, i < tN t → B i = nI (gl bl i)) → rM T t → kT (m_kept T) 30 t → (∀ j, j < 23 → m_kept T j = K j) →
    ∃ T' A' B', ((f_M_nextSeats T A).bind fun q => f_M_findSeats_L37 (nI n) (nI w) kk f T q.2 B v 0 q.1) = kk T' A' B' (bt t n w d l v bl).1 ∧ (∀ i, i < tN t → B' i = nI (gl (bt t n w d l v bl).2 i)) ∧ kT (m_kept T') 30 t ∧ ∀ j, j < 23 → m_kept T' j = K j := by
  obtain ⟨c0, c1, c2⟩ := w012 (w := w) rfl hw
  intro d
  induction d with
  | zero =>
    intro f T B A l v bl hf hc hA hB hM hK hK2
    rcases q_next hM.1 (by omega) hN6 hA (chk_gd hc) with ⟨h1, A', e1⟩ | ⟨l', A', h1, e1, hA'⟩
    · obtain ⟨f, rfl, -⟩ := f_suc (d := 0) (f := f) (by omega)
      rw [e1, Option.bind_some, f_M_findSeats_L37, if_pos rfl]
      exact ⟨T, A', B, rfl, hB, hK, hK2⟩
    · obtain ⟨e, he, -⟩ := chk_some hc h1
      omega
  | succ d ih =>
    intro f T B A l v bl hf hc hA hB hM hK hK2
    obtain ⟨f, rfl, hf'⟩ := f_suc hf
    rcases q_next hM.1 (by omega) hN6 hA (chk_gd hc) with ⟨h1, A', e1⟩ | ⟨l', A', h1, e1, hA'⟩
    · rw [e1, Option.bind_some, f_M_findSeats_L37, if_pos rfl, bt_none h1]
      exact ⟨T, A', B, rfl, hB, hK, hK2⟩
    · obtain ⟨-, -, hc'⟩ := chk_some hc h1
      obtain ⟨T2, e2, r2, o2⟩ := q_num hM hK hok h0 hN6 hA' (chk_gd hc') hn hw
      have hK' : kT (m_kept T2) 30 t := kT_congr (by omega) hK (fun j h1 h2 => o2 j (by omega))
      have hK2' : ∀ j, j < 23 → m_kept T2 j = K j := fun j hj => (o2 j (by omega)).trans (hK2 j hj)
      have hl' := (gl_lt (chk_gd hc')).1
      have fin : ∀ v' : Int32, ∃ T' A'' B', f_M_findSeats_L80 T2 A' (fun z_h_bestSits_19 => (f_M_nextSeats T2 A').bind fun q20 => f_M_findSeats_L37 (nI n) (nI w) kk f T2 q20.2 z_h_bestSits_19 v' 0 q20.1) FU B 0 = kk T' A'' B' (bt t n w d l' v' l').1 ∧ (∀ i, i < tN t → B' i = nI (gl (bt t n w d l' v' l').2 i)) ∧ kT (m_kept T') 30 t ∧ ∀ j, j < 23 → m_kept T' j = K j := by
        intro v'
        obtain ⟨B2, e3, h3⟩ := q_cp_L r2.1 hN6 A' (fun z_h_bestSits_19 => (f_M_nextSeats T2 A').bind fun q20 => f_M_findSeats_L37 (nI n) (nI w) kk f T2 q20.2 z_h_bestSits_19 v' 0 q20.1) (tN t) 0 FU B (Nat.zero_add _) (by unfold FU; omega) (fun j hj => by omega)
        have e3 : f_M_findSeats_L80 T2 A' _ FU B 0 = _ := e3
        obtain ⟨T', A'', B', e4, h4⟩ := ih f T2 B2 A' l' v' l' (by omega) hc' hA' (fun i hi => (h3 i hi).trans (hA' i (by omega))) r2 hK' hK2'
        exact ⟨T', A'', B', e3.trans e4, h4⟩
      rw [e1, Option.bind_some, f_M_findSeats_L37, if_neg z10', e2, Option.bind_some, if_pos rfl, bt_some h1]
      by_cases w0 : w = 0
      · rw [if_pos (c0.mpr w0)]
        by_cases hv : v ≤ vl t n w l'
        · rw [if_pos hv, if_pos (Or.inl ⟨w0, hv⟩)]
          exact ih f T2 B A' l' v bl (by omega) hc' hA' hB r2 hK' hK2'
        · rw [if_neg hv, if_neg (fun q => q.elim (fun q => hv q.2) (fun q => q.1 w0))]
          exact fin _
      · rw [if_neg (fun q => w0 (c0.mp q))]
        by_cases hv : vl t n w l' ≤ v
        · rw [if_pos hv, if_pos (Or.inr ⟨w0, hv⟩)]
          exact ih f T2 B A' l' v bl (by omega) hc' hA' hB r2 hK' hK2'
        · rw [if_neg hv, if_neg (fun q => q.elim (fun q => w0 q.1) (fun q => hv q.2))]
          exact fin _
theorem gl_range {N i : Nat} (h : i < N) : gl (List.range N) i = i := by
  unfold gl
  rw [List.getD_eq_getElem?_getD, List.getElem?_range h]
  rfl
theorem p_id_L {N : Nat} (hN : N ≤ 6) (k : (Nat → Int32) → Option (Int32 × (Nat → Int32) × (Nat → Int32) × RS)) : ∀ (d i fuel : Nat) (A : Nat → Int32), i + d = N → d < fuel → (∀ j, j < i → A j = nI j) → ∃ A', f_Seating_best_L14 (nI N) k fuel A (nI i) = k A' ∧ ∀ j, j < N → A' j = nI j := by
  intro d
  induction d with
  | zero =>
    intro i fuel B hi hf hB
    obtain ⟨f, rfl, -⟩ := f_suc hf
    obtain rfl : i = N := by omega
    exact ⟨B, by rw [f_Seating_best_L14, if_pos (nI_le (Nat.le_refl _) (by omega))], hB⟩
  | succ d ih =>
    intro i fuel B hi hf hB
    obtain ⟨f, rfl, hf'⟩ := f_suc hf
    rw [f_Seating_best_L14, if_neg (nI_ge (by omega) (by omega)), if_neg (ix_b (show i < 6 by omega) (by omega)), ix_k (show i < 8 by omega), nI_1]
    refine ih (i + 1) f _ (by omega) hf' fun j hj => ?_
    unfold upd
    by_cases q : j = i
    · rw [if_pos q, q]
    · rw [if_neg q]; exact hB j (by omega)
theorem q_id_L {T : MT} {N : Nat} (hT : m_many T = nI N) (hN : N ≤ 6) (k : (Nat → Int32) → Option (Int32 × MT × (Nat → Int32) × (Nat → Int32))) : ∀ (d i fuel : Nat) (A : Nat → Int32), i + d = N → d < fuel → (∀ j, j < i → A j = nI j) → ∃ A', f_M_findSeats_L8 T k fuel A (nI i) = k A' ∧ ∀ j, j < N → A' j = nI j := by
  intro d
  induction d with
  | zero =>
    intro i fuel B hi hf hB
    obtain ⟨f, rfl, -⟩ := f_suc hf
    obtain rfl : i = N := by omega
    exact ⟨B, by rw [f_M_findSeats_L8, hT, if_pos (nI_le (Nat.le_refl _) (by omega))], hB⟩
  | succ d ih =>
    intro i fuel B hi hf hB
    obtain ⟨f, rfl, hf'⟩ := f_suc hf
    rw [f_M_findSeats_L8, hT, if_neg (nI_ge (by omega) (by omega)), if_neg (ix_b (show i < 8 by omega) (by omega)), ix_k (show i < 8 by omega), nI_1]
    refine ih (i + 1) f _ (by omega) hf' fun j hj => ?_
    unfold upd
    by_cases q : j = i
    · rw [if_pos q, q]
    · rw [if_neg q]; exact hB j (by omega)
theorem aR_id {A : Nat → Int32} {N : Nat} (h : ∀ j, j < N → A j = nI j) : aR A (List.range N) := fun i hi => by
  rw [List.length_range] at hi
  rw [h i hi, gl_range hi]
noncomputable def bw (t : Tb) (n w : Nat) : Int32 × List Nat := bt t n w 119 (List.range (tN t)) (vl t n w (List.range (tN t))) (List.range (tN t))
theorem p_best {now : RS} {t : Tb} (hX : rX now t) (hok : okT t) (h0 : 0 < tN t) (hN6 : tN t ≤ 6) {n w : Nat} (hn : n ≤ 50) (hw : w ≤ 2) (B A : Nat → Int32) (z : RS) : ∃ B' A' z', f_Seating_best B A z now (nI n) (nI w) = some ((bw t n w).1, B', A', z') ∧ ∀ i, i < tN t → B' i = nI (gl (bw t n w).2 i) := by
  have hc := chk_all (tN t) (by omega) (by omega)
  have j6 : jmin (nI (tN t)) 6 = nI (tN t) := if_neg (nI_nlt (a := 6) (b := tN t) hN6 (by omega))
  have gb : ¬ (nI (tN t) < 0 ∨ 6 < (nI (tN t)).toNatClampNeg) := fun q => q.elim (nI_pos (by omega)) (by rw [nI_clamp (by omega)]; omega)
  obtain ⟨A1, e1, h1⟩ := p_id_L hN6 (fun z_h_order_3 =>
  (f_Seating_numberOfOrder z_h_order_3 z now (nI n) (nI w)).bind fun q4 =>
  if (nI (tN t)) < 0 ∨ 6 < (nI (tN t)).toNatClampNeg then none else
  f_Seating_best_L63 now (nI n) (nI w) (nI (tN t)) FU (va_cpy z_h_order_3 B 0 0 (nI (tN t)).toNatClampNeg) z_h_order_3 q4.2 q4.1 1) (tN t) 0 FU A (Nat.zero_add _) (by unfold FU; omega) (fun j hj => by omega)
  have e1 : f_Seating_best_L14 (nI (tN t)) _ FU A 0 = _ := e1
  have hA := aR_id h1
  obtain ⟨z2, e2⟩ := p_num hX hok h0 hN6 hA (chk_gd hc) z hn hw
  have hB2 : ∀ i, i < tN t → va_cpy A1 B 0 0 (nI (tN t)).toNatClampNeg i = nI (gl (List.range (tN t)) i) := fun i hi => by
    rw [nI_clamp (by omega), pk_cpy_in (Nat.zero_le _) (by omega), Nat.zero_add, Nat.sub_zero, gl_range hi]
    exact h1 i hi
  obtain ⟨B', A', z', e3, h3⟩ := p_best_L hX hok h0 hN6 hn hw 119 FU _ A1 z2 (List.range (tN t)) (vl t n w (List.range (tN t))) (List.range (tN t)) (Nat.le_refl _) (by unfold FU; omega) hc hA hB2
  have e3 : f_Seating_best_L63 now (nI n) (nI w) (nI (tN t)) FU _ A1 z2 _ 1 = _ := e3
  refine ⟨B', A', z', ?_, h3⟩
  unfold f_Seating_best
  rw [hX.1, j6]
  refine Eq.trans e1 ?_
  show (f_Seating_numberOfOrder A1 z now (nI n) (nI w)).bind _ = _
  rw [e2, Option.bind_some, if_neg gb]
  exact e3
theorem q_best {T : MT} {t : Tb} (hM : rM T t) (hok : okT t) (h0 : 0 < tN t) (hN6 : tN t ≤ 6) {n w : Nat} (hn : n ≤ 50) (hw : w ≤ 2) (A B : Nat → Int32) : ∃ T' A' B', f_M_findSeats T A B (nI n) (nI w) = some ((bw t n w).1, T', A', B') ∧ (∀ i, i < tN t → B' i = nI (gl (bw t n w).2 i)) ∧ BK T T' t := by
  have hc := chk_all (tN t) (by omega) (by omega)
  obtain ⟨T1, d1, u1, k1, o1⟩ := keep1 hM hok
  obtain ⟨A1, e1, h1⟩ := q_id_L u1.1 hN6 (fun z_h_sits_4 =>
  f_M_findSeats_L37 (nI n) (nI w) (fun z_h_T_21 z_h_sits_21 z_h_bestSits_21 x3_21 =>
   (f_M_passesAll z_h_T_21 1 0).bind fun q22 =>
   some (x3_21, q22, z_h_sits_21, z_h_bestSits_21)) FU T1 z_h_sits_4 B 0 1 1) (tN t) 0 FU A (Nat.zero_add _) (by unfold FU; omega) (fun j hj => by omega)
  have e1 : f_M_findSeats_L8 T1 _ FU A 0 = _ := e1
  have hA := aR_id h1
  obtain ⟨T2, e2, r2, o2⟩ := q_num u1 k1 hok h0 hN6 hA (chk_gd hc) hn hw
  have hK' : kT (m_kept T2) 30 t := kT_congr (by omega) k1 (fun j h1 h2 => o2 j (by omega))
  obtain ⟨f, hf, hf'⟩ := FU_lt (d := 200) (by omega)
  obtain ⟨B2, e3, h3⟩ := q_cp_L r2.1 hN6 A1 (fun z_h_bestSits_10 => (f_M_nextSeats T2 A1).bind fun q11 => f_M_findSeats_L37 (nI n) (nI w) (fun z_h_T_21 z_h_sits_21 z_h_bestSits_21 x3_21 =>
   (f_M_passesAll z_h_T_21 1 0).bind fun q22 =>
   some (x3_21, q22, z_h_sits_21, z_h_bestSits_21)) f T2 q11.2 z_h_bestSits_10 (vl t n w (List.range (tN t))) 0 q11.1) (tN t) 0 FU B (Nat.zero_add _) (by unfold FU; omega) (fun j hj => by omega)
  have e3 : f_M_findSeats_L80 T2 A1 _ FU B 0 = _ := e3
  obtain ⟨T3, A3, B3, e4, h4, k4, o4⟩ := q_cont hok h0 hN6 hn hw (m_kept T1) (fun z_h_T_21 z_h_sits_21 z_h_bestSits_21 x3_21 =>
   (f_M_passesAll z_h_T_21 1 0).bind fun q22 =>
   some (x3_21, q22, z_h_sits_21, z_h_bestSits_21)) 119 f T2 B2 A1 (List.range (tN t)) (vl t n w (List.range (tN t))) (List.range (tN t)) (by omega) hc hA (fun i hi => (h3 i hi).trans (hA i (by rw [List.length_range]; exact hi))) r2 hK' (fun j hj => o2 j (by omega))
  obtain ⟨T4, d4, u4, o5⟩ := back1 (z := T3) (t := t) k4 hok
  refine ⟨T4, A3, B3, ?_, h4, u4, fun j hj => by rw [o5, o4 j hj]; exact o1 j (by omega)⟩
  unfold f_M_findSeats
  rw [d1, Option.bind_some]
  refine Eq.trans e1 ?_
  show f_M_findSeats_L37 (nI n) (nI w) _ FU T1 A1 B 0 1 1 = _
  rw [hf, f_M_findSeats_L37, if_neg z10', e2, Option.bind_some, if_neg z10']
  refine Eq.trans e3 (Eq.trans e4 ?_)
  show (f_M_passesAll T3 1 0).bind _ = _
  rw [d4]
  rfl
theorem out50 (x : Int32) : (¬ 0 ≤ x ∧ x < 0 ∧ f_X_outside x 0 50 = some (-4)) ∨ (0 ≤ x ∧ ¬ x < 0 ∧ 50 < x ∧ f_X_outside x 0 50 = some (-6)) ∨ ∃ k, k ≤ 50 ∧ x = nI k ∧ f_X_outside x 0 50 = some 0 := by
  unfold f_X_outside
  by_cases h1 : 0 ≤ x
  · have h1' : ¬ x < 0 := fun q => by
      rw [Int32.lt_iff_toInt_lt] at q
      rw [Int32.le_iff_toInt_le] at h1
      omega
    by_cases h2 : x ≤ 50
    · have a1 := Int32.le_iff_toInt_le.mp h1
      have a2 := Int32.le_iff_toInt_le.mp h2
      have a1 : 0 ≤ x.toInt := a1
      have a2 : x.toInt ≤ 50 := a2
      refine Or.inr (Or.inr ⟨x.toInt.toNat, by omega, ?_, by rw [if_pos h1, if_pos h2]⟩)
      apply Int32.toInt_inj.mp
      rw [nI_toInt (by omega)]
      omega
    · have h3 : 50 < x := by
        rw [Int32.lt_iff_toInt_lt]
        have : ¬ x.toInt ≤ (50 : Int32).toInt := fun q => h2 (Int32.le_iff_toInt_le.mpr q)
        omega
      exact Or.inr (Or.inl ⟨h1, h1', h3, by rw [if_pos h1, if_neg h2]⟩)
  · have h3 : x < 0 := by
      rw [Int32.lt_iff_toInt_lt]
      have : ¬ (0 : Int32).toInt ≤ x.toInt := fun q => h1 (Int32.le_iff_toInt_le.mpr q)
      omega
    exact Or.inl ⟨h1, h3, by rw [if_neg h1]⟩
theorem orM6 {now : RS} {t : Tb} (hX : rX now t) (hok : okT t) (x hi v : Int32) (h : f_X_outside x 0 hi = some v) : f_X_outsideOrMany now x hi 6 = some (if v = 0 then (if tN t ≤ 6 then 0 else -6) else v) := orMany hX hok x 0 hi v 6 (by decide) h
theorem what3 (x : Int32) : ((x < 0 ∨ ¬ x < 0 ∧ ¬ x ≤ 2) ∧ f_M_isIn x 0 2 = some 0) ∨ ∃ w, w ≤ 2 ∧ x = nI w ∧ ¬ x < 0 ∧ x ≤ 2 ∧ f_M_isIn x 0 2 = some 1 := by
  rcases in02 x with ⟨h, e⟩ | ⟨h, h2, e⟩ | ⟨h, e⟩
  · exact Or.inl ⟨Or.inl h, e⟩
  · exact Or.inl ⟨Or.inr ⟨h, h2⟩, e⟩
  · rcases h with rfl | rfl | rfl
    · exact Or.inr ⟨0, by omega, rfl, by decide, by decide, e⟩
    · exact Or.inr ⟨1, by omega, rfl, by decide, by decide, e⟩
    · exact Or.inr ⟨2, by omega, rfl, by decide, by decide, e⟩
theorem ref_w {now : RS} {x1 x2 x3 : Int32} (h : x2 < 0 ∨ ¬ x2 < 0 ∧ ¬ x2 ≤ 2) : f_X_refusalOfSeats now x1 x2 x3 = some (-2) := by
  unfold f_X_refusalOfSeats
  rcases h with h | ⟨h, h2⟩
  · rw [if_pos h]
  · rw [if_neg h, if_neg h2]
theorem ref_i {now : RS} {x1 x2 x3 : Int32} (h : ¬ x2 < 0) (h2 : x2 ≤ 2) (h3 : ¬ 0 ≤ x3) : f_X_refusalOfSeats now x1 x2 x3 = some (-4) := by
  unfold f_X_refusalOfSeats
  rw [if_neg h, if_pos h2, if_neg h3]
theorem ref_n {now : RS} {t : Tb} (hX : rX now t) (hok : okT t) {x1 x2 x3 v : Int32} (h : ¬ x2 < 0) (h2 : x2 ≤ 2) (h3 : 0 ≤ x3) (ho : f_X_outside x1 0 50 = some v) (hv : ¬ v = 0) : f_X_refusalOfSeats now x1 x2 x3 = some v := by
  unfold f_X_refusalOfSeats
  rw [if_neg h, if_pos h2, if_pos h3, orM6 hX hok _ _ _ ho, if_neg hv, Option.bind_some, if_neg hv]
theorem ref_0 {now : RS} {t : Tb} (hX : rX now t) (hok : okT t) {x1 x2 x3 : Int32} (h : ¬ x2 < 0) (h2 : x2 ≤ 2) (h3 : 0 ≤ x3) (ho : f_X_outside x1 0 50 = some 0) : f_X_refusalOfSeats now x1 x2 x3 = some (if tN t ≤ 6 then (if tN t = 0 then -3 else 0) else -6) := by
  have h8 := hok.1
  unfold f_X_refusalOfSeats
  rw [if_neg h, if_pos h2, if_pos h3, orM6 hX hok _ _ _ ho, if_pos rfl, Option.bind_some]
  by_cases h6 : tN t ≤ 6
  · rw [if_pos h6, if_pos rfl, if_pos h6, hX.1]
    by_cases h0 : tN t = 0
    · rw [if_pos h0, h0, if_pos nI_0]
    · rw [if_neg h0, if_neg (nI_ne0 (by omega) (by omega))]
  · rw [if_neg h6, if_neg (by decide), if_neg h6]
theorem e_seats {now z : RS} {T : MT} {t : Tb} {a b : Nat → Int32} (B A C D : Nat → Int32) (hX : rX now t) (hM : rM T t) (hok : okT t) (hr : rf a b) (x1 x2 : Int32) : ∃ r a' B' A' z' T' b' C' D', f_X_seats now a B A z x1 x2 = some (r, a', B', A', z') ∧ f_M_seats T b C D x1 x2 = some (r, T', b', C', D') ∧ BK T T' t ∧ rf a' b' := by
  have h8 := hok.1
  unfold f_X_seats f_M_seats
  rcases what3 x2 with ⟨hw, e0⟩ | ⟨w, hw, rfl, w1, w2, e0⟩
  · obtain ⟨a', b', e1, e2, h⟩ := no2 hr
    rw [ref_w hw, Option.bind_some, if_neg (by decide), e0, Option.bind_some, if_pos rfl, e1, Option.bind_some, e2, Option.bind_some]
    exact ⟨_, a', B, A, z, T, b', C, D, rfl, rfl, ⟨hM, fun _ _ => rfl⟩, h⟩
  rcases out50 x1 with ⟨g1, g2, ho⟩ | ⟨g1, g2, g3, ho⟩ | ⟨n, hn, rfl, ho⟩
  · obtain ⟨a', b', e1, e2, h⟩ := no4 hr
    rw [ref_n hX hok w1 w2 (by decide) ho (by decide), Option.bind_some, if_neg (by decide), e0, Option.bind_some, if_neg z10', if_neg g1, e1, Option.bind_some, e2, Option.bind_some]
    exact ⟨_, a', B, A, z, T, b', C, D, rfl, rfl, ⟨hM, fun _ _ => rfl⟩, h⟩
  · obtain ⟨a', b', e1, e2, h⟩ := no6 hr
    rw [ref_n hX hok w1 w2 (by decide) ho (by decide), Option.bind_some, if_neg (by decide), e0, Option.bind_some, if_neg z10', if_pos g1, if_pos g3, e1, Option.bind_some, e2, Option.bind_some]
    exact ⟨_, a', B, A, z, T, b', C, D, rfl, rfl, ⟨hM, fun _ _ => rfl⟩, h⟩
  have g1 : 0 ≤ nI n := nI_pos' (by omega)
  have g3 : ¬ (50 : Int32) < nI n := nI_nlt (a := 50) hn (by omega)
  rw [ref_0 hX hok w1 w2 (by decide) ho, Option.bind_some, e0, Option.bind_some, if_neg z10', if_pos g1, if_neg g3, hM.1]
  by_cases h6 : tN t ≤ 6
  · have g6 : nI (tN t) ≤ 6 := nI_le (b := 6) h6 (by omega)
    rw [if_pos h6, if_pos g6]
    by_cases h0 : tN t = 0
    · obtain ⟨a', b', e1, e2, h⟩ := no3 hr
      rw [if_pos h0, if_neg (by decide), h0, if_pos nI_0, e1, Option.bind_some, e2, Option.bind_some]
      exact ⟨_, a', B, A, z, T, b', C, D, rfl, rfl, ⟨hM, fun _ _ => rfl⟩, h⟩
    · obtain ⟨B', A', z', e1, h1⟩ := p_best hX hok (by omega) h6 hn hw B A z
      obtain ⟨T', C', D', e2, h2, k2⟩ := q_best hM hok (by omega) h6 hn hw C D
      rw [if_neg h0, if_pos rfl, if_neg (nI_ne0 (by omega) (by omega)), e1, Option.bind_some, e2, Option.bind_some]
      exact ⟨_, a, B', A', z', T', b, C', D', rfl, rfl, k2, hr⟩
  · have g6 : ¬ nI (tN t) ≤ 6 := nI_ge (a := 6) (b := tN t) (by omega) (by omega)
    obtain ⟨a', b', e1, e2, h⟩ := no6 hr
    rw [if_neg h6, if_neg g6, if_neg (by decide), e1, Option.bind_some, e2, Option.bind_some]
    exact ⟨_, a', B, A, z, T, b', C, D, rfl, rfl, ⟨hM, fun _ _ => rfl⟩, h⟩
theorem e_seat {now z : RS} {T : MT} {t : Tb} {a b : Nat → Int32} (B A C D : Nat → Int32) (hX : rX now t) (hM : rM T t) (hok : okT t) (hr : rf a b) (x1 x2 x3 : Int32) : ∃ r a' B' A' z' T' b' C' D', f_X_seat now a B A z x1 x2 x3 = some (r, a', B', A', z') ∧ f_M_seat T b C D x1 x2 x3 = some (r, T', b', C', D') ∧ BK T T' t ∧ rf a' b' := by
  have h8 := hok.1
  unfold f_X_seat f_M_seat
  rcases what3 x2 with ⟨hw, e0⟩ | ⟨w, hw, rfl, w1, w2, e0⟩
  · obtain ⟨a', b', e1, e2, h⟩ := no2 hr
    rw [ref_w hw, Option.bind_some, if_neg (by decide), e0, Option.bind_some, if_pos rfl, e1, Option.bind_some, e2, Option.bind_some]
    exact ⟨_, a', B, A, z, T, b', C, D, rfl, rfl, ⟨hM, fun _ _ => rfl⟩, h⟩
  by_cases hi : 0 ≤ x3
  · rcases out50 x1 with ⟨g1, g2, ho⟩ | ⟨g1, g2, g3, ho⟩ | ⟨n, hn, rfl, ho⟩
    · obtain ⟨a', b', e1, e2, h⟩ := no4 hr
      rw [ref_n hX hok w1 w2 hi ho (by decide), Option.bind_some, if_neg (by decide), e0, Option.bind_some, if_neg z10', if_pos g2, e1, Option.bind_some, e2, Option.bind_some]
      exact ⟨_, a', B, A, z, T, b', C, D, rfl, rfl, ⟨hM, fun _ _ => rfl⟩, h⟩
    · obtain ⟨a', b', e1, e2, h⟩ := no6 hr
      rw [ref_n hX hok w1 w2 hi ho (by decide), Option.bind_some, if_neg (by decide), e0, Option.bind_some, if_neg z10', if_neg g2, if_pos hi, if_pos g3, e1, Option.bind_some, e2, Option.bind_some]
      exact ⟨_, a', B, A, z, T, b', C, D, rfl, rfl, ⟨hM, fun _ _ => rfl⟩, h⟩
    have g1 : ¬ nI n < 0 := nI_pos (by omega)
    have g3 : ¬ (50 : Int32) < nI n := nI_nlt (a := 50) hn (by omega)
    rw [ref_0 hX hok w1 w2 hi ho, Option.bind_some, e0, Option.bind_some, if_neg z10', if_neg g1, if_pos hi, if_neg g3, hM.1]
    by_cases h6 : tN t ≤ 6
    · have g6 : nI (tN t) ≤ 6 := nI_le (b := 6) h6 (by omega)
      rw [if_pos h6, if_pos g6]
      by_cases h0 : tN t = 0
      · obtain ⟨a', b', e1, e2, h⟩ := no3 hr
        rw [if_pos h0, if_neg (by decide), h0, if_pos nI_0, e1, Option.bind_some, e2, Option.bind_some]
        exact ⟨_, a', B, A, z, T, b', C, D, rfl, rfl, ⟨hM, fun _ _ => rfl⟩, h⟩
      · obtain ⟨T', C', D', e2, h2, k2⟩ := q_best hM hok (by omega) h6 hn hw C D
        obtain ⟨i, hi31, rfl⟩ : ∃ i, i < 2 ^ 31 ∧ x3 = nI i := by
          have a1 := Int32.le_iff_toInt_le.mp hi
          have a1 : 0 ≤ x3.toInt := a1
          have a2 : x3.toInt < 2 ^ 31 := x3.toInt_lt
          refine ⟨x3.toInt.toNat, by omega, ?_⟩
          apply Int32.toInt_inj.mp
          rw [nI_toInt (by omega)]
          omega
        rw [if_neg h0, if_pos rfl, if_neg (nI_ne0 (by omega) (by omega)), hX.1, e2, Option.bind_some]
        have hmany : m_many T' = nI (tN t) := k2.1.1
        by_cases hlt : i < tN t
        · obtain ⟨B', A', z', e1, h1⟩ := p_best hX hok (by omega) h6 hn hw B A z
          have g7 : ¬ m_many T' ≤ nI i := by rw [hmany]; exact nI_ge hlt (by omega)
          rw [if_pos (nI_lt hlt (by omega)), e1, Option.bind_some, if_neg (ix_b (show i < 6 by omega) (by omega)), if_neg g7, if_neg (ix_b (show i < 8 by omega) (by omega)), ix_k (show i < 8 by omega)]
          refine ⟨nI (gl (bw t n w).2 i), a, B', A', z', T', b, C', D', ?_, ?_, k2, hr⟩
          · show some (B' i, _) = _
            rw [h1 i hlt]
          · show some (D' i, _) = _
            rw [h2 i hlt]
        · have g7 : m_many T' ≤ nI i := by rw [hmany]; exact nI_le (by omega) hi31
          rw [if_neg (nI_nlt (by omega) (by omega)), if_pos g7]
          exact ⟨_, a, B, A, z, T', b, C', D', rfl, rfl, k2, hr⟩
    · have g6 : ¬ nI (tN t) ≤ 6 := nI_ge (a := 6) (b := tN t) (by omega) (by omega)
      obtain ⟨a', b', e1, e2, h⟩ := no6 hr
      rw [if_neg h6, if_neg g6, if_neg (by decide), e1, Option.bind_some, e2, Option.bind_some]
      exact ⟨_, a', B, A, z, T, b', C, D, rfl, rfl, ⟨hM, fun _ _ => rfl⟩, h⟩
  · obtain ⟨a', b', e1, e2, h⟩ := no4 hr
    refine ⟨-4, a', B, A, z, T, b', C, D, ?_, ?_, ⟨hM, fun _ _ => rfl⟩, h⟩
    · rw [ref_i w1 w2 hi, Option.bind_some, if_neg (by decide), e1]
      rfl
    · rw [e0, Option.bind_some, if_neg z10', if_neg hi, e2, Option.bind_some, ite_self]
