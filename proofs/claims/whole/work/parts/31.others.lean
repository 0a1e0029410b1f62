/-! Pure: HIDES, JOINED, NEWLY. -/
theorem lo_k {a b : Nat → Int32} (h : rf a b) (x : Int32) (k : Nat) (h1 : 1 ≤ k) (h6 : k ≤ 6) (e1 : ¬ x < (-6)) (e2 : ¬ (-1) < x) (e3 : ¬ (-x) < 0) (e4 : (-x).toNatClampNeg = k) :
    ∃ a' b', f_X_refuse a x = some (x, a') ∧ f_M_lower b x = some (1000000000 - x, b') ∧ rf a' b' := by
  refine ⟨upd a k (a k + 1), upd b k (b k + 1), ?_, ?_, rf_upd h k h1 h6⟩
  · unfold f_X_refuse
    rw [if_neg e1, if_neg e2, e4, if_neg (fun q => q.elim e3 (fun q => by omega))]
  · unfold f_M_lower
    rw [e4, if_neg (fun q => q.elim e3 (fun q => by omega))]
theorem lo1 {a b : Nat → Int32} (h : rf a b) : ∃ a' b', f_X_refuse a (-1) = some (-1, a') ∧ f_M_lower b (-1) = some (1000000000 - -1, b') ∧ rf a' b' := lo_k h _ 1 (by decide) (by decide) (by decide) (by decide) (by decide) (by decide +kernel)
theorem lo4 {a b : Nat → Int32} (h : rf a b) : ∃ a' b', f_X_refuse a (-4) = some (-4, a') ∧ f_M_lower b (-4) = some (1000000000 - -4, b') ∧ rf a' b' := lo_k h _ 4 (by decide) (by decide) (by decide) (by decide) (by decide) (by decide +kernel)
theorem lo6 {a b : Nat → Int32} (h : rf a b) : ∃ a' b', f_X_refuse a (-6) = some (-6, a') ∧ f_M_lower b (-6) = some (1000000000 - -6, b') ∧ rf a' b' := lo_k h _ 6 (by decide) (by decide) (by decide) (by decide) (by decide) (by decide +kernel)
theorem i_subsub (x y w : Int32) : (x - w) - (y - w) = x - y := by
  first
  | grind
  | (apply Int32.toBitVec.inj
     simp
     rw [BitVec.sub_eq_add_neg, BitVec.sub_eq_add_neg, BitVec.sub_eq_add_neg, BitVec.sub_eq_add_neg, BitVec.neg_add, BitVec.sub_eq_add_neg, BitVec.neg_neg, BitVec.add_comm (-y.toBitVec), ← BitVec.add_assoc, BitVec.add_assoc x.toBitVec, BitVec.add_left_neg, BitVec.add_zero])
/-- one of another kind -/
def withK (t : Tb) (c k : Nat) : Tb := (t.1, updN (tKd t) c k, t.2.2)
theorem withK_ok {t : Tb} (hok : okT t) (c : Nat) {k : Nat} (hk : k ≤ 6) : okT (withK t c k) := ⟨hok.1, fun i hi => ⟨by
  show updN (tKd t) c k i ≤ 6
  have := (hok.2.1 i hi).1
  unfold updN
  split <;> omega, (hok.2.1 i hi).2⟩, hok.2.2⟩
theorem p_others {now one two : RS} {t : Tb} (hX : rX now t) (hok : okT t) {c : Nat} (hc : c < tN t) (k : Nat) (hk : k ≤ 6) (n : Nat) (hn : n ≤ 1000) : ∃ o' w', f_Mind_othersMore one two now (nI c) (nI k) (nI n) = some ((nI (sm (sq (withK t c k) n) (tN t)) - nI (tSw (sq (withK t c k) n) c)) - (nI (sm (sq t n) (tN t)) - nI (tSw (sq t n) c)), o', w') := by
  have h8 := hok.1
  obtain ⟨z1, e1, r1⟩ := p_copyFrom one now hX hok
  obtain ⟨z2, e2, r2⟩ := p_copyFrom two now hX hok
  have r3 : rX ((upd (r_kinds z2) c (nI k)), (r_sweets z2), (r_settings z2), (r_heaps z2), (r_children z2), (r_strokes z2), (r_gave z2), (r_threw z2)) (withK t c k) := ⟨r2.1, fun i hi => ⟨by
    show upd (r_kinds z2) c (nI k) i = nI (updN (tKd t) c k i)
    unfold upd updN
    split
    · rfl
    · exact (r2.2.1 i hi).1, (r2.2.1 i hi).2⟩, r2.2.2⟩
  obtain ⟨z4, e4, r4⟩ := p_strikeOften r1 hok n hn
  obtain ⟨z5, e5, r5⟩ := p_strikeOften r3 (withK_ok hok c hk) n hn
  have s4 := p_sum r4 (sq_ok hok n)
  have s5 := p_sum r5 (sq_ok (withK_ok hok c hk) n)
  have n4 := (sq_same t n).1
  have n5 := (sq_same (withK t c k) n).1
  have n5 : tN (sq (withK t c k) n) = tN t := n5
  have g := ix_b (show c < 8 by omega) (show 8 < 2 ^ 31 by omega)
  refine ⟨z4, z5, ?_⟩
  unfold f_Mind_othersMore
  rw [e1, Option.bind_some, e2, Option.bind_some, if_neg g, ix_k (show c < 8 by omega), e4, Option.bind_some, e5, Option.bind_some, s4, Option.bind_some, s5, Option.bind_some, (r4.2.1 c (by rw [n4]; exact hc)).2, (r5.2.1 c (by rw [n5]; exact hc)).2, n4, n5]
theorem q_others {T : MT} {t : Tb} (hM : rM T t) (hok : okT t) {c : Nat} (hc : c < tN t) (n : Nat) (hn : n ≤ 1000) : ∃ T', f_M_othersBehind T (nI c) (nI n) = some (nI (sm (sq t n) (tN t)) - nI (tSw (sq t n) c), T') ∧ BK2 T T' t := by
  have h8 := hok.1
  obtain ⟨T1, e1, r1, k1, o1⟩ := keep1 hM hok
  obtain ⟨T2, e2, r2, o2⟩ := q_goes r1 hok n hn
  obtain ⟨T3, e3, r3, o3⟩ := back1 (z := T2) (t := t) (by rw [o2]; exact k1) hok
  have s2 := q_sum r2 (sq_ok hok n)
  have n2 := (sq_same t n).1
  have g := ix_b (show c < 8 by omega) (show 8 < 2 ^ 31 by omega)
  refine ⟨T3, ?_, r3, fun j hj => by rw [o3, o2]; exact o1 j hj⟩
  unfold f_M_othersBehind
  rw [e1, Option.bind_some, e2, Option.bind_some]
  show (f_M_sum T2).bind _ = _
  rw [s2, Option.bind_some, if_neg g, e3, Option.bind_some, ix_k (show c < 8 by omega), (r2.2.1 c (by rw [n2]; exact hc)).2, n2]
theorem e_hides {now one two : RS} {T : MT} {t : Tb} {a b : Nat → Int32} (hX : rX now t) (hM : rM T t) (hok : okT t) (hr : rf a b) (x1 x2 x3 : Int32) : ∃ r a' one' two' T' b', f_X_hides now a one two x1 x2 x3 = some (r, a', one', two') ∧ f_M_hides T b x1 x2 x3 = some (r, T', b') ∧ BK T T' t ∧ rf a' b' := by
  have h8 := hok.1
  unfold f_X_hides f_M_hides
  rcases ch hX hM hok x1 with ⟨h1, h2⟩ | ⟨c, hc, rfl, h1, h2⟩
  · obtain ⟨a', b', e1, e2, h⟩ := lo1 hr
    (simp only [h1, h2, e1, e2, Option.bind_some, reduceIte, or_self, z10, z40, z60, z01, z02, z12, z21, z20]; try simp only [h1, h2, e1, e2, Option.bind_some, reduceIte, or_self, z10, z40, z60, z01, z02, z12, z21, z20])
    exact ⟨_, a', one, two, T, b', rfl, rfl, ⟨hM, fun _ _ => rfl⟩, h⟩
  rcases (show (f_X_outside x2 0 50 = some (-4) ∧ f_M_bound x2 0 50 = some (-4)) ∨ (f_X_outside x2 0 50 = some (-6) ∧ f_M_bound x2 0 50 = some (-6)) ∨ ∃ n, 0 ≤ n ∧ n ≤ 50 ∧ x2 = nI n ∧ (f_X_outside x2 0 50 = some 0 ∧ f_M_bound x2 0 50 = some 0) from bd x2 0 50 (by decide) (by decide)) with ⟨hB, hB2⟩ | ⟨hB, hB2⟩ | ⟨n, hn0, hn, rfl, hB, hB2⟩
  · obtain ⟨a', b', e1, e2, h⟩ := lo4 hr
    (simp only [h1, h2, hB, hB2, e1, e2, Option.bind_some, reduceIte, or_self, z10, z40, z60, z01, z02, z12, z21, z20]; try simp only [h1, h2, hB, hB2, e1, e2, Option.bind_some, reduceIte, or_self, z10, z40, z60, z01, z02, z12, z21, z20])
    exact ⟨_, a', one, two, T, b', rfl, rfl, ⟨hM, fun _ _ => rfl⟩, h⟩
  · obtain ⟨a', b', e1, e2, h⟩ := lo6 hr
    (simp only [h1, h2, hB, hB2, e1, e2, Option.bind_some, reduceIte, or_self, z10, z40, z60, z01, z02, z12, z21, z20]; try simp only [h1, h2, hB, hB2, e1, e2, Option.bind_some, reduceIte, or_self, z10, z40, z60, z01, z02, z12, z21, z20])
    exact ⟨_, a', one, two, T, b', rfl, rfl, ⟨hM, fun _ _ => rfl⟩, h⟩
  have g := ix_b (show c < 8 by omega) (show 8 < 2 ^ 31 by omega)
  obtain ⟨T1, e1, k1⟩ := q_others hM hok hc n (by omega)
  have key : ∀ k : Nat, k ≤ 6 → ∃ T2 : MT, f_M_othersBehind ((upd (m_kind T1) c (nI k)), (m_sweets T1), (m_gives T1), (m_kept T1), (m_many T1), (m_odd T1), (m_step T1), (m_bag T1), (m_strokes T1), (m_gave T1), (m_threw T1), (m_isKeeping T1), (m_cursor T1)) (nI c) (nI n) = some (nI (sm (sq (withK t c k) n) (tN t)) - nI (tSw (sq (withK t c k) n) c), T2) ∧ BK T ((upd (m_kind T2) c (m_kind T1 c)), (m_sweets T2), (m_gives T2), (m_kept T2), (m_many T2), (m_odd T2), (m_step T2), (m_bag T2), (m_strokes T2), (m_gave T2), (m_threw T2), (m_isKeeping T2), (m_cursor T2)) t := by
    intro k hk
    obtain ⟨T2, f1, k2⟩ := q_others (T := ((upd (m_kind T1) c (nI k)), (m_sweets T1), (m_gives T1), (m_kept T1), (m_many T1), (m_odd T1), (m_step T1), (m_bag T1), (m_strokes T1), (m_gave T1), (m_threw T1), (m_isKeeping T1), (m_cursor T1))) (t := withK t c k) ⟨k1.1.1, fun i hi => ⟨by
      show upd (m_kind T1) c (nI k) i = nI (updN (tKd t) c k i)
      unfold upd updN
      split
      · rfl
      · exact (k1.1.2.1 i hi).1, (k1.1.2.1 i hi).2⟩, k1.1.2.2⟩ (withK_ok hok c hk) hc n (by omega)
    refine ⟨T2, f1, ⟨k2.1.1, fun i hi => ⟨?_, (k2.1.2.1 i hi).2⟩, k2.1.2.2⟩, fun j hj => ?_⟩
    · show upd (m_kind T2) c (m_kind T1 c) i = nI (tKd t i)
      unfold upd
      by_cases h : i = c
      · rw [if_pos h, h]; exact (k1.1.2.1 c hc).1
      · rw [if_neg h]
        have q := (k2.1.2.1 i hi).1
        have q : m_kind T2 i = nI (updN (tKd t) c k i) := q
        rw [q]
        unfold updN
        rw [if_neg h]
    · exact (k2.2 j (Or.inl (by omega))).trans (k1.2 j (Or.inl (by omega)))
  by_cases h3 : x3 = 0
  · obtain ⟨T2, f1, f2⟩ := key 3 (by omega)
    have f1 : f_M_othersBehind ((upd (m_kind T1) c 3), (m_sweets T1), (m_gives T1), (m_kept T1), (m_many T1), (m_odd T1), (m_step T1), (m_bag T1), (m_strokes T1), (m_gave T1), (m_threw T1), (m_isKeeping T1), (m_cursor T1)) (nI c) (nI n) = _ := f1
    obtain ⟨o', w', e5⟩ := p_others (one := one) (two := two) hX hok hc 3 (by omega) n (by omega)
    have e5 : f_Mind_othersMore one two now (nI c) 3 (nI n) = _ := e5
    rw [h1, Option.bind_some, if_neg z10', h2, Option.bind_some, if_neg z10', hB, Option.bind_some, if_pos rfl, hB2, Option.bind_some, if_pos rfl, if_pos h3, e5, Option.bind_some, e1, Option.bind_some, if_neg g, if_pos h3]
    simp only [ix_k (show c < 8 by omega)]
    rw [f1, Option.bind_some]
    exact ⟨_, a, o', w', _, b, rfl, rfl, f2, hr⟩
  · obtain ⟨T2, f1, f2⟩ := key 4 (by omega)
    have f1 : f_M_othersBehind ((upd (m_kind T1) c 4), (m_sweets T1), (m_gives T1), (m_kept T1), (m_many T1), (m_odd T1), (m_step T1), (m_bag T1), (m_strokes T1), (m_gave T1), (m_threw T1), (m_isKeeping T1), (m_cursor T1)) (nI c) (nI n) = _ := f1
    obtain ⟨o', w', e5⟩ := p_others (one := one) (two := two) hX hok hc 4 (by omega) n (by omega)
    have e5 : f_Mind_othersMore one two now (nI c) 4 (nI n) = _ := e5
    rw [h1, Option.bind_some, if_neg z10', h2, Option.bind_some, if_neg z10', hB, Option.bind_some, if_pos rfl, hB2, Option.bind_some, if_pos rfl, if_neg h3, e5, Option.bind_some, e1, Option.bind_some, if_neg g, if_neg h3]
    simp only [ix_k (show c < 8 by omega)]
    rw [f1, Option.bind_some]
    exact ⟨_, a, o', w', _, b, rfl, rfl, f2, hr⟩
/-- a child more in the last place -/
def addT (t : Tb) (k s : Nat) : Tb := (tN t + 1, updN (tKd t) (tN t) k, updN (tSw t) (tN t) s, t.2.2.2)
theorem addT_ok {t : Tb} (hok : okT t) (h : tN t < 8) {k s : Nat} (hk : k ≤ 6) (hs : s ≤ 999) : okT (addT t k s) := ⟨h, fun i hi => by
  have hi : i < tN t + 1 := hi
  show updN (tKd t) (tN t) k i ≤ 6 ∧ updN (tSw t) (tN t) s i ≤ 999
  unfold updN
  by_cases q : i = tN t
  · rw [if_pos q, if_pos q]; exact ⟨hk, hs⟩
  · rw [if_neg q, if_neg q]; exact hok.2.1 i (by omega), hok.2.2⟩
theorem p_seat {z : RS} {t : Tb} (hX : rX z t) (hok : okT t) (h : tN t < 8) (k s : Nat) : ∃ z', f_Ring_seatLast z (nI k) (nI s) = some (1, z') ∧ rX z' (addT t k s) := by
  have g : ¬ (nI (tN t) < 0 ∨ 8 ≤ (nI (tN t)).toNatClampNeg) := ix_b h (by omega)
  have g1 : nI (tN t) < 8 := nI_lt (b := 8) h (by omega)
  unfold f_Ring_seatLast
  rw [hX.1, if_pos g1, if_neg g, ix_k h, nI_1]
  refine ⟨_, rfl, rfl, fun i hi => ?_, hX.2.2⟩
  have hi : i < tN t + 1 := hi
  show upd (r_kinds z) (tN t) (nI k) i = nI (updN (tKd t) (tN t) k i) ∧ upd (r_sweets z) (tN t) (nI s) i = nI (updN (tSw t) (tN t) s i)
  unfold upd updN
  by_cases q : i = tN t
  · rw [if_pos q, if_pos q, if_pos q, if_pos q]; exact ⟨rfl, rfl⟩
  · rw [if_neg q, if_neg q, if_neg q, if_neg q]; exact hX.2.1 i (by omega)
theorem e_newly {now one two : RS} {T : MT} {t : Tb} {a b : Nat → Int32} (hX : rX now t) (hM : rM T t) (hok : okT t) (hr : rf a b) (x1 x2 : Int32) : ∃ r a' one' two' T' b', f_X_newly now a one two x1 x2 = some (r, a', one', two') ∧ f_M_newly T b x1 x2 = some (r, T', b') ∧ BK T T' t ∧ rf a' b' := by
  have h8 := hok.1
  unfold f_X_newly f_M_newly
  obtain ⟨a4, b4, e4, f4, r4⟩ := lo4 hr
  obtain ⟨a6, b6, e6, f6, r6⟩ := lo6 hr
  by_cases g1 : x1 < 0
  · rw [if_pos g1, if_pos g1, e4, Option.bind_some, f4, Option.bind_some]
    exact ⟨_, a4, one, two, T, b4, rfl, rfl, ⟨hM, fun _ _ => rfl⟩, r4⟩
  rw [if_neg g1, if_neg g1]
  by_cases g2 : ¬ 0 ≤ x2
  · rw [if_neg g2, if_neg g2, e4, Option.bind_some, f4, Option.bind_some]
    exact ⟨_, a4, one, two, T, b4, rfl, rfl, ⟨hM, fun _ _ => rfl⟩, r4⟩
  have g2 := Decidable.of_not_not g2
  rw [if_pos g2, if_pos g2]
  by_cases g3 : (999 : Int32) < x1
  · rw [if_pos g3, if_pos g3, e6, Option.bind_some, f6, Option.bind_some]
    exact ⟨_, a6, one, two, T, b6, rfl, rfl, ⟨hM, fun _ _ => rfl⟩, r6⟩
  rw [if_neg g3, if_neg g3]
  by_cases g4 : (50 : Int32) < x2
  · rw [if_pos g4, if_pos g4, e6, Option.bind_some, f6, Option.bind_some]
    exact ⟨_, a6, one, two, T, b6, rfl, rfl, ⟨hM, fun _ _ => rfl⟩, r6⟩
  rw [if_neg g4, if_neg g4, hX.1, hM.1]
  obtain ⟨s, hs, rfl⟩ := nI_of2 (M := 999) (n := 999) (by decide) g1 (Int32.not_lt.mp g3)
  obtain ⟨n, hn, rfl⟩ := nI_of2 (M := 50) (n := 50) (by decide) (Int32.not_lt.mpr g2) (Int32.not_lt.mp g4)
  by_cases g5 : tN t = 8
  · rw [if_neg (by rw [g5]; decide), if_pos (by rw [g5]; rfl), e6, Option.bind_some, f6, Option.bind_some]
    exact ⟨_, a6, one, two, T, b6, rfl, rfl, ⟨hM, fun _ _ => rfl⟩, r6⟩
  have hlt : tN t < 8 := by omega
  have q1 : nI (tN t) < 8 := nI_lt (b := 8) hlt (by omega)
  have q2 : ¬ nI (tN t) = 8 := fun z => g5 ((nI_eq (b := 8) (by omega) (by omega)).mp z)
  rw [if_pos q1, if_neg q2]
  have hok' := addT_ok hok hlt (show 0 ≤ 6 by omega) hs
  obtain ⟨z1, c1, r1⟩ := p_copyFrom one now hX hok
  obtain ⟨z2, c2, r2⟩ := p_copyFrom two now hX hok
  obtain ⟨z3, c3, r3⟩ := p_seat r2 hok hlt 0 s
  have c3 : f_Ring_seatLast z2 0 (nI s) = some (1, z3) := c3
  obtain ⟨z4, c4, s4⟩ := p_strikeOften r1 hok n (by omega)
  obtain ⟨z5, c5, s5⟩ := p_strikeOften r3 hok' n (by omega)
  obtain ⟨T1, d1, u1, k1, o1⟩ := keep1 hM hok
  obtain ⟨T2, d2, u2, o2⟩ := q_goes u1 hok n (by omega)
  obtain ⟨T3, d3, u3, o3⟩ := back1 (z := T2) (t := t) (by rw [o2]; exact k1) hok
  have gb : ¬ (nI (tN t) < 0 ∨ 8 ≤ (nI (tN t)).toNatClampNeg) := ix_b hlt (by omega)
  obtain ⟨T4, d4, u4, o4⟩ := q_goes (z := ((upd (m_kind T3) (tN t) 0), (upd (m_sweets T3) (tN t) (nI s)), (m_gives T3), (m_kept T3), (nI (tN t + 1)), (m_odd T3), (m_step T3), (m_bag T3), (m_strokes T3), (m_gave T3), (m_threw T3), (m_isKeeping T3), (m_cursor T3))) (t := addT t 0 s) ⟨rfl, fun i hi => by
    have hi : i < tN t + 1 := hi
    show upd (m_kind T3) (tN t) 0 i = nI (updN (tKd t) (tN t) 0 i) ∧ upd (m_sweets T3) (tN t) (nI s) i = nI (updN (tSw t) (tN t) s i)
    unfold upd updN
    by_cases q : i = tN t
    · rw [if_pos q, if_pos q, if_pos q, if_pos q]; exact ⟨rfl, rfl⟩
    · rw [if_neg q, if_neg q, if_neg q, if_neg q]; exact u3.2.1 i (by omega), u3.2.2⟩ hok' n (by omega)
  have hk3 : kT (m_kept T3) 30 t := by rw [o3, o2]; exact k1
  obtain ⟨T5, d5, u5, o5⟩ := back1 (z := T4) (t := t) (by rw [o4]; exact hk3) hok
  unfold f_Mind_gaveMore
  rw [c1, Option.bind_some, c2, Option.bind_some, c3, Option.bind_some, c4, Option.bind_some, c5, Option.bind_some, Option.bind_some, d1, Option.bind_some, d2, Option.bind_some]
  have e : ∀ k : MT → Option (Int32 × MT × (Nat → Int32)), (f_M_passesAll (tGv (sq t n) - tGv t, T2).2 1 0).bind k = k T3 := fun k => by
    show (f_M_passesAll T2 1 0).bind k = k T3
    rw [d3]; rfl
  rw [e, u3.1, if_neg gb, ix_k hlt, nI_1, d4, Option.bind_some]
  have e' : ∀ k : MT → Option (Int32 × MT × (Nat → Int32)), (f_M_passesAll (tGv (sq (addT t 0 s) n) - tGv (addT t 0 s), T4).2 1 0).bind k = k T5 := fun k => by
    show (f_M_passesAll T4 1 0).bind k = k T5
    rw [d5]; rfl
  rw [e', s5.2.2.2.2.2.2.1, s4.2.2.2.2.2.2.1]
  refine ⟨_, a, z4, z5, T5, b, rfl, ?_, ⟨u5, fun j hj => ?_⟩, hr⟩
  · exact congrArg some (congrArg (fun v => (v, T5, b)) (i_subsub _ _ _))
  · rw [o5, o4]
    show m_kept T3 j = m_kept T j
    rw [o3, o2]
    exact o1 j (by omega)
