/-! Pure: what the reference puts away and takes back. -/
def kT (K : Nat → Int32) (b : Nat) (t : Tb) : Prop := (∀ i, i < tN t → K (b + 2 * i) = nI (tKd t i) ∧ K (b + 2 * i + 1) = nI (tSw t i)) ∧ K (b + 16) = nI (tN t) ∧ K (b + 17) = nI (tOdd t) ∧ K (b + 18) = nI (tStep t) ∧ K (b + 19) = nI (tBag t) ∧ K (b + 20) = tSt t ∧ K (b + 21) = tGv t ∧ K (b + 22) = tTh t
theorem kT_congr {K K' : Nat → Int32} {b : Nat} {t : Tb} (hn : tN t ≤ 8) (h : kT K b t) (he : ∀ j, b ≤ j → j < b + 23 → K' j = K j) : kT K' b t := by
  obtain ⟨h1, h2, h3, h4, h5, h6, h7, h8⟩ := h
  refine ⟨fun i hi => ⟨(he _ (by omega) (by omega)).trans (h1 i hi).1, (he _ (by omega) (by omega)).trans (h1 i hi).2⟩, (he _ (by omega) (by omega)).trans h2, (he _ (by omega) (by omega)).trans h3, (he _ (by omega) (by omega)).trans h4, (he _ (by omega) (by omega)).trans h5, (he _ (by omega) (by omega)).trans h6, (he _ (by omega) (by omega)).trans h7, (he _ (by omega) (by omega)).trans h8⟩
/-- the same but for gives, kept and the two marks -/
def sT (z' z : MT) : Prop := (∀ j, m_kind z' j = m_kind z j) ∧ (∀ j, m_sweets z' j = m_sweets z j) ∧ m_many z' = m_many z ∧ m_odd z' = m_odd z ∧ m_step z' = m_step z ∧ m_bag z' = m_bag z ∧ m_strokes z' = m_strokes z ∧ m_gave z' = m_gave z ∧ m_threw z' = m_threw z
theorem sT_rM {z' z : MT} {t : Tb} (h : sT z' z) (hr : rM z t) : rM z' t := by
  obtain ⟨a1, a2, a3, a4, a5, a6, a7, a8, a9⟩ := h
  obtain ⟨r1, r2, r3, r4, r5, r6, r7, r8⟩ := hr
  exact ⟨a3.trans r1, fun i hi => ⟨(a1 i).trans (r2 i hi).1, (a2 i).trans (r2 i hi).2⟩, a4.trans r3, a5.trans r4, a6.trans r5, a7.trans r6, a8.trans r7, a9.trans r8⟩
theorem q_one1 {z : MT} {c : Nat} (hk : m_isKeeping z = 1) (hc : m_cursor z = nI c) (h : c < 90) (v : Int32) : f_M_passOne z v = some (v, (m_kind z, m_sweets z, m_gives z, upd (m_kept z) c v, m_many z, m_odd z, m_step z, m_bag z, m_strokes z, m_gave z, m_threw z, m_isKeeping z, nI (c + 1))) := by
  unfold f_M_passOne
  rw [hk, if_neg (by decide), hc, if_neg (ix_b h (by omega)), nI_clamp (by omega), nI_1]
theorem q_one0 {z : MT} {c : Nat} (hk : m_isKeeping z = 0) (hc : m_cursor z = nI c) (h : c < 90) (v : Int32) : f_M_passOne z v = some (m_kept z c, (m_kind z, m_sweets z, m_gives z, m_kept z, m_many z, m_odd z, m_step z, m_bag z, m_strokes z, m_gave z, m_threw z, m_isKeeping z, nI (c + 1))) := by
  unfold f_M_passOne
  rw [hk, if_pos rfl, hc, if_neg (ix_b h (by omega)), nI_clamp (by omega), nI_1]
theorem bS {α β : Type} {a : Option α} {q : α} {k : α → Option β} {r : Option β} (h : a = some q) (hk : k q = r) : a.bind k = r := by rw [h]; exact hk
theorem upd_id (f : Nat → Int32) (i j : Nat) : upd f i (f i) j = f j := by
  unfold upd
  split
  · rename_i h; rw [h]
  · rfl
theorem q_keep_L {b : Nat} (hb : b ≤ 60) (k : MT → Option MT) (z0 : MT) : ∀ (d i fuel : Nat) (z : MT), i + d = 8 → d < fuel → sT z z0 → m_isKeeping z = 1 → m_cursor z = nI (b + 2 * i) → (∀ j, j < b ∨ b + 2 * i ≤ j → m_kept z j = m_kept z0 j) → (∀ c, c < i → m_kept z (b + 2 * c) = m_kind z0 c ∧ m_kept z (b + 2 * c + 1) = m_sweets z0 c) →
    ∃ z', f_M_passesAll_L15 k fuel z (nI i) = k z' ∧ sT z' z0 ∧ m_isKeeping z' = 1 ∧ m_cursor z' = nI (b + 16) ∧ (∀ j, j < b ∨ b + 16 ≤ j → m_kept z' j = m_kept z0 j) ∧ ∀ c, c < 8 → m_kept z' (b + 2 * c) = m_kind z0 c ∧ m_kept z' (b + 2 * c + 1) = m_sweets z0 c := by
  intro d
  induction d with
  | zero =>
    intro i fuel z hi hf hs hk hc ho hv
    obtain ⟨f, rfl, -⟩ := f_suc hf
    obtain rfl : i = 8 := by omega
    exact ⟨z, by rw [f_M_passesAll_L15, if_pos (by decide)], hs, hk, hc, ho, hv⟩
  | succ d ih =>
    intro i fuel z hi hf hs hk hc ho hv
    obtain ⟨f, rfl, hf'⟩ := f_suc hf
    have hlt : i < 8 := by omega
    obtain ⟨s1, s2, s3⟩ := hs
    have g1 : ∀ j, j < b ∨ b + 2 * (i + 1) ≤ j → upd (upd (m_kept z) (b + 2 * i) (m_kind z i)) (b + 2 * i + 1) (m_sweets z i) j = m_kept z0 j := by
      intro j hj
      unfold upd
      rw [if_neg (by omega), if_neg (by omega)]
      exact ho j (by omega)
    have g2 : ∀ c, c < i + 1 → upd (upd (m_kept z) (b + 2 * i) (m_kind z i)) (b + 2 * i + 1) (m_sweets z i) (b + 2 * c) = m_kind z0 c ∧ upd (upd (m_kept z) (b + 2 * i) (m_kind z i)) (b + 2 * i + 1) (m_sweets z i) (b + 2 * c + 1) = m_sweets z0 c := by
      intro c hc'
      unfold upd
      by_cases h : c = i
      · subst h
        rw [if_neg (by omega), if_pos rfl, if_pos rfl]
        exact ⟨s1 c, s2 c⟩
      · rw [if_neg (by omega), if_neg (by omega), if_neg (by omega), if_neg (by omega)]
        exact hv c (by omega)
    obtain ⟨z', e, rest⟩ := ih (i + 1) f (upd (m_kind z) i (m_kind z i), upd (m_sweets z) i (m_sweets z i), m_gives z, upd (upd (m_kept z) (b + 2 * i) (m_kind z i)) (b + 2 * i + 1) (m_sweets z i), m_many z, m_odd z, m_step z, m_bag z, m_strokes z, m_gave z, m_threw z, m_isKeeping z, nI (b + 2 * i + 1 + 1)) (by omega) hf' ⟨fun j => (upd_id (m_kind z) i j).trans (s1 j), fun j => (upd_id (m_sweets z) i j).trans (s2 j), s3⟩ hk rfl g1 g2
    · refine ⟨z', ?_, rest⟩
      rw [f_M_passesAll_L15, if_neg (by rw [lI 8, nI_leI (by omega) (by omega)]; omega), if_neg (ix_b hlt (by omega)), ix_k hlt, nI_1]
      refine bS (q_one1 (by exact hk) hc (by omega) _) ?_
      exact bS (q_one1 (by exact hk) rfl (by omega) _) e
def f_passTail (z_h_T_6 : MT) : Option MT :=
    (f_M_passOne z_h_T_6 (m_many z_h_T_6)).bind fun q7 =>
    (f_M_passOne ((m_kind q7.2), (m_sweets q7.2), (m_gives q7.2), (m_kept q7.2), q7.1, (m_odd q7.2), (m_step q7.2), (m_bag q7.2), (m_strokes q7.2), (m_gave q7.2), (m_threw q7.2), (m_isKeeping q7.2), (m_cursor q7.2)) (m_odd q7.2)).bind fun q8 =>
    (f_M_passOne ((m_kind q8.2), (m_sweets q8.2), (m_gives q8.2), (m_kept q8.2), (m_many q8.2), q8.1, (m_step q8.2), (m_bag q8.2), (m_strokes q8.2), (m_gave q8.2), (m_threw q8.2), (m_isKeeping q8.2), (m_cursor q8.2)) (m_step q8.2)).bind fun q9 =>
    (f_M_passOne ((m_kind q9.2), (m_sweets q9.2), (m_gives q9.2), (m_kept q9.2), (m_many q9.2), (m_odd q9.2), q9.1, (m_bag q9.2), (m_strokes q9.2), (m_gave q9.2), (m_threw q9.2), (m_isKeeping q9.2), (m_cursor q9.2)) (m_bag q9.2)).bind fun q10 =>
    (f_M_passOne ((m_kind q10.2), (m_sweets q10.2), (m_gives q10.2), (m_kept q10.2), (m_many q10.2), (m_odd q10.2), (m_step q10.2), q10.1, (m_strokes q10.2), (m_gave q10.2), (m_threw q10.2), (m_isKeeping q10.2), (m_cursor q10.2)) (m_strokes q10.2)).bind fun q11 =>
    (f_M_passOne ((m_kind q11.2), (m_sweets q11.2), (m_gives q11.2), (m_kept q11.2), (m_many q11.2), (m_odd q11.2), (m_step q11.2), (m_bag q11.2), q11.1, (m_gave q11.2), (m_threw q11.2), (m_isKeeping q11.2), (m_cursor q11.2)) (m_gave q11.2)).bind fun q12 =>
    (f_M_passOne ((m_kind q12.2), (m_sweets q12.2), (m_gives q12.2), (m_kept q12.2), (m_many q12.2), (m_odd q12.2), (m_step q12.2), (m_bag q12.2), (m_strokes q12.2), q12.1, (m_threw q12.2), (m_isKeeping q12.2), (m_cursor q12.2)) (m_threw q12.2)).bind fun q13 =>
    some ((m_kind q13.2), (m_sweets q13.2), (m_gives q13.2), (m_kept q13.2), (m_many q13.2), (m_odd q13.2), (m_step q13.2), (m_bag q13.2), (m_strokes q13.2), (m_gave q13.2), q13.1, (m_isKeeping q13.2), (m_cursor q13.2))
theorem q_passes (z : MT) (w x : Int32) (hx : x = 0 ∨ x = 1) : f_M_passesAll z w x = f_M_passesAll_L15 f_passTail FU (m_kind z, m_sweets z, m_gives z, m_kept z, m_many z, m_odd z, m_step z, m_bag z, m_strokes z, m_gave z, m_threw z, x, 30 * w) 0 := by
  unfold f_M_passesAll
  rw [if_neg (fun q => q hx)]
  rfl
theorem q_tail1 {z : MT} {b : Nat} (hb : b ≤ 60) (k1 : m_isKeeping z = 1) (c1 : m_cursor z = nI (b + 16)) : f_passTail z = some (m_kind z, m_sweets z, m_gives z, upd (upd (upd (upd (upd (upd (upd (m_kept z) (b + 16) (m_many z)) (b + 17) (m_odd z)) (b + 18) (m_step z)) (b + 19) (m_bag z)) (b + 20) (m_strokes z)) (b + 21) (m_gave z)) (b + 22) (m_threw z), m_many z, m_odd z, m_step z, m_bag z, m_strokes z, m_gave z, m_threw z, m_isKeeping z, nI (b + 23)) := by
  unfold f_passTail
  refine bS (q_one1 k1 c1 (by omega) _) ?_
  refine bS (q_one1 (by exact k1) rfl (by omega) _) ?_
  refine bS (q_one1 (by exact k1) rfl (by omega) _) ?_
  refine bS (q_one1 (by exact k1) rfl (by omega) _) ?_
  refine bS (q_one1 (by exact k1) rfl (by omega) _) ?_
  refine bS (q_one1 (by exact k1) rfl (by omega) _) ?_
  exact bS (q_one1 (by exact k1) rfl (by omega) _) rfl
theorem q_tail0 {z : MT} {b : Nat} (hb : b ≤ 60) (k1 : m_isKeeping z = 0) (c1 : m_cursor z = nI (b + 16)) : f_passTail z = some (m_kind z, m_sweets z, m_gives z, m_kept z, m_kept z (b + 16), m_kept z (b + 17), m_kept z (b + 18), m_kept z (b + 19), m_kept z (b + 20), m_kept z (b + 21), m_kept z (b + 22), m_isKeeping z, nI (b + 23)) := by
  unfold f_passTail
  refine bS (q_one0 k1 c1 (by omega) _) ?_
  refine bS (q_one0 (by exact k1) rfl (by omega) _) ?_
  refine bS (q_one0 (by exact k1) rfl (by omega) _) ?_
  refine bS (q_one0 (by exact k1) rfl (by omega) _) ?_
  refine bS (q_one0 (by exact k1) rfl (by omega) _) ?_
  refine bS (q_one0 (by exact k1) rfl (by omega) _) ?_
  exact bS (q_one0 (by exact k1) rfl (by omega) _) rfl
theorem q_keep {z : MT} {t : Tb} (hr : rM z t) (hok : okT t) (w : Nat) (hw : w ≤ 2) : ∃ z', f_M_passesAll z (nI w) 1 = some z' ∧ rM z' t ∧ kT (m_kept z') (30 * w) t ∧ ∀ j, j < 30 * w ∨ 30 * w + 23 ≤ j → m_kept z' j = m_kept z j := by
  have hn := hok.1
  rw [q_passes z _ _ (Or.inr rfl), lI 30, pk_mul]
  generalize hb : 30 * w = b
  have hb6 : b ≤ 60 := by omega
  obtain ⟨z1, e1, s1, k1, c1, o1, v1⟩ := q_keep_L hb6 f_passTail z 8 0 FU ((m_kind z), (m_sweets z), (m_gives z), (m_kept z), (m_many z), (m_odd z), (m_step z), (m_bag z), (m_strokes z), (m_gave z), (m_threw z), 1, nI b) (by omega) (by unfold FU; omega) ⟨fun _ => rfl, fun _ => rfl, rfl, rfl, rfl, rfl, rfl, rfl, rfl⟩ rfl rfl (fun _ _ => rfl) (fun c hc => absurd hc (Nat.not_lt_zero c))
  obtain ⟨a1, a2, a3, a4, a5, a6, a7, a8, a9⟩ := s1
  obtain ⟨r1, r2, r3, r4, r5, r6, r7, r8⟩ := hr
  refine ⟨_, e1.trans (q_tail1 hb6 k1 c1), sT_rM (z := z) ⟨a1, a2, a3, a4, a5, a6, a7, a8, a9⟩ ⟨r1, r2, r3, r4, r5, r6, r7, r8⟩, ?_, fun j hj => ?_⟩
  · refine ⟨fun i hi => ?_, ?_, ?_, ?_, ?_, ?_, ?_, ?_⟩
    · show upd (upd (upd (upd (upd (upd (upd (m_kept z1) (b + 16) (m_many z1)) (b + 17) (m_odd z1)) (b + 18) (m_step z1)) (b + 19) (m_bag z1)) (b + 20) (m_strokes z1)) (b + 21) (m_gave z1)) (b + 22) (m_threw z1) (b + 2 * i) = _ ∧ upd (upd (upd (upd (upd (upd (upd (m_kept z1) (b + 16) (m_many z1)) (b + 17) (m_odd z1)) (b + 18) (m_step z1)) (b + 19) (m_bag z1)) (b + 20) (m_strokes z1)) (b + 21) (m_gave z1)) (b + 22) (m_threw z1) (b + 2 * i + 1) = _
      have h := v1 i (by omega)
      unfold upd
      repeat rw [if_neg (by omega)]
      exact ⟨h.1.trans (r2 i hi).1, h.2.trans (r2 i hi).2⟩
    all_goals
      show upd (upd (upd (upd (upd (upd (upd (m_kept z1) (b + 16) (m_many z1)) (b + 17) (m_odd z1)) (b + 18) (m_step z1)) (b + 19) (m_bag z1)) (b + 20) (m_strokes z1)) (b + 21) (m_gave z1)) (b + 22) (m_threw z1) _ = _
      unfold upd
      repeat rw [if_neg (by omega)]
      rw [if_pos rfl]
    · exact a3.trans r1
    · exact a4.trans r3
    · exact a5.trans r4
    · exact a6.trans r5
    · exact a7.trans r6
    · exact a8.trans r7
    · exact a9.trans r8
  · show upd (upd (upd (upd (upd (upd (upd (m_kept z1) (b + 16) (m_many z1)) (b + 17) (m_odd z1)) (b + 18) (m_step z1)) (b + 19) (m_bag z1)) (b + 20) (m_strokes z1)) (b + 21) (m_gave z1)) (b + 22) (m_threw z1) j = _
    unfold upd
    repeat rw [if_neg (by omega)]
    exact o1 j (by omega)
theorem q_back_L {b : Nat} (hb : b ≤ 60) (k : MT → Option MT) (K : Nat → Int32) : ∀ (d i fuel : Nat) (z : MT), i + d = 8 → d < fuel → m_isKeeping z = 0 → m_cursor z = nI (b + 2 * i) → m_kept z = K → (∀ c, c < i → m_kind z c = K (b + 2 * c) ∧ m_sweets z c = K (b + 2 * c + 1)) →
    ∃ z', f_M_passesAll_L15 k fuel z (nI i) = k z' ∧ m_isKeeping z' = 0 ∧ m_cursor z' = nI (b + 16) ∧ m_kept z' = K ∧ ∀ c, c < 8 → m_kind z' c = K (b + 2 * c) ∧ m_sweets z' c = K (b + 2 * c + 1) := by
  intro d
  induction d with
  | zero =>
    intro i fuel z hi hf hk hc ho hv
    obtain ⟨f, rfl, -⟩ := f_suc hf
    obtain rfl : i = 8 := by omega
    exact ⟨z, by rw [f_M_passesAll_L15, if_pos (by decide)], hk, hc, ho, hv⟩
  | succ d ih =>
    intro i fuel z hi hf hk hc ho hv
    obtain ⟨f, rfl, hf'⟩ := f_suc hf
    have hlt : i < 8 := by omega
    have g2 : ∀ c, c < i + 1 → upd (m_kind z) i (m_kept z (b + 2 * i)) c = K (b + 2 * c) ∧ upd (m_sweets z) i (m_kept z (b + 2 * i + 1)) c = K (b + 2 * c + 1) := by
      intro c hc'
      unfold upd
      by_cases h : c = i
      · subst h
        rw [if_pos rfl, if_pos rfl, ho]
        exact ⟨rfl, rfl⟩
      · rw [if_neg h, if_neg h]
        exact hv c (by omega)
    obtain ⟨z', e, rest⟩ := ih (i + 1) f (upd (m_kind z) i (m_kept z (b + 2 * i)), upd (m_sweets z) i (m_kept z (b + 2 * i + 1)), m_gives z, m_kept z, m_many z, m_odd z, m_step z, m_bag z, m_strokes z, m_gave z, m_threw z, m_isKeeping z, nI (b + 2 * i + 1 + 1)) (by omega) hf' hk rfl ho g2
    · refine ⟨z', ?_, rest⟩
      rw [f_M_passesAll_L15, if_neg (by rw [lI 8, nI_leI (by omega) (by omega)]; omega), if_neg (ix_b hlt (by omega)), ix_k hlt, nI_1]
      refine bS (q_one0 hk hc (by omega) _) ?_
      exact bS (q_one0 (by exact hk) rfl (by omega) _) e
theorem q_back {z : MT} {t : Tb} (w : Nat) (hw : w ≤ 2) (hk : kT (m_kept z) (30 * w) t) (hok : okT t) : ∃ z', f_M_passesAll z (nI w) 0 = some z' ∧ rM z' t ∧ m_kept z' = m_kept z := by
  have hn := hok.1
  rw [q_passes z _ _ (Or.inl rfl), lI 30, pk_mul]
  have hb6 : 30 * w ≤ 60 := by omega
  generalize 30 * w = b at hk hb6 ⊢
  obtain ⟨z1, e1, k1, c1, o1, v1⟩ := q_back_L hb6 f_passTail (m_kept z) 8 0 FU ((m_kind z), (m_sweets z), (m_gives z), (m_kept z), (m_many z), (m_odd z), (m_step z), (m_bag z), (m_strokes z), (m_gave z), (m_threw z), 0, nI b) (by omega) (by unfold FU; omega) rfl rfl rfl (fun c hc => absurd hc (Nat.not_lt_zero c))
  obtain ⟨h1, h2, h3, h4, h5, h6, h7, h8⟩ := hk
  refine ⟨_, e1.trans (q_tail0 hb6 k1 c1), ⟨?_, fun i hi => ?_, ?_, ?_, ?_, ?_, ?_, ?_⟩, o1⟩
  · exact (congrFun o1 _).trans h2
  · have h := v1 i (by omega)
    exact ⟨h.1.trans (h1 i hi).1, h.2.trans (h1 i hi).2⟩
  · exact (congrFun o1 _).trans h3
  · exact (congrFun o1 _).trans h4
  · exact (congrFun o1 _).trans h5
  · exact (congrFun o1 _).trans h6
  · exact (congrFun o1 _).trans h7
  · exact (congrFun o1 _).trans h8
