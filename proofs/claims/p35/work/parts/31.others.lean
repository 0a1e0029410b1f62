/-! Pure: HIDES, JOINED, NEWLY. -/
theorem i_subsub (x y w : Int32) : (x - w) - (y - w) = x - y := by
  first
  | grind
  | (apply Int32.toBitVec.inj
     simp
     rw [BitVec.sub_eq_add_neg, BitVec.sub_eq_add_neg, BitVec.sub_eq_add_neg, BitVec.sub_eq_add_neg, BitVec.neg_add, BitVec.sub_eq_add_neg, BitVec.neg_neg, BitVec.add_comm (-y.toBitVec), ← BitVec.add_assoc, BitVec.add_assoc x.toBitVec, BitVec.add_left_neg, BitVec.add_zero])
/-- one of another kind -/
def withK (t : Tb) (c k : Nat) : Tb := (t.1, updN (tKd t) c k, t.2.2)
theorem withK_ok {t : Tb} (hok : okT t) (c : Nat) {k : Nat} (hk : k ≤ 6) : okT (withK t c k) := ⟨hok.1, fun i hi => ⟨by
  show updN (tKd t) c k i ≤ 6
  have := (hok.2.1 i hi).1
  unfold updN
  split <;> omega, (hok.2.1 i hi).2⟩, hok.2.2⟩
/-- a child more in the last place -/
def addT (t : Tb) (k s : Nat) : Tb := (tN t + 1, updN (tKd t) (tN t) k, updN (tSw t) (tN t) s, t.2.2.2)
theorem addT_ok {t : Tb} (hok : okT t) (h : tN t < 8) {k s : Nat} (hk : k ≤ 6) (hs : s ≤ 999) : okT (addT t k s) := ⟨h, fun i hi => by
  have hi : i < tN t + 1 := hi
  show updN (tKd t) (tN t) k i ≤ 6 ∧ updN (tSw t) (tN t) s i ≤ 999
  unfold updN
  by_cases q : i = tN t
  · rw [if_pos q, if_pos q]; exact ⟨hk, hs⟩
  · rw [if_neg q, if_neg q]; exact hok.2.1 i (by omega), hok.2.2⟩
theorem p_seat {z : RS} {t : Tb} (hX : rX z t) (hok : okT t) (h : tN t < 8) (k s : Nat) : ∃ z', f_Ring_seatLast z (nI k) (nI s) = some (1, z') ∧ rX z' (addT t k s) := by
  have g : ¬ (nI (tN t) < 0 ∨ 8 ≤ (nI (tN t)).toNatClampNeg) := ix_b h (by omega)
  have g1 : nI (tN t) < 8 := nI_lt (b := 8) h (by omega)
  unfold f_Ring_seatLast
  rw [hX.1, if_pos g1, if_neg g, ix_k h, nI_1]
  refine ⟨_, rfl, rfl, fun i hi => ?_, hX.2.2⟩
  have hi : i < tN t + 1 := hi
  show upd (r_kinds z) (tN t) (nI k) i = nI (updN (tKd t) (tN t) k i) ∧ upd (r_sweets z) (tN t) (nI s) i = nI (updN (tSw t) (tN t) s i)
  unfold upd updN
  by_cases q : i = tN t
  · rw [if_pos q, if_pos q, if_pos q, if_pos q]; exact ⟨rfl, rfl⟩
  · rw [if_neg q, if_neg q, if_neg q, if_neg q]; exact hX.2.1 i (by omega)
