/-! Pure: what the reference puts away and takes back. -/
def kT (K : Nat → Int32) (b : Nat) (t : Tb) : Prop := (∀ i, i < tN t → K (b + 2 * i) = nI (tKd t i) ∧ K (b + 2 * i + 1) = nI (tSw t i)) ∧ K (b + 16) = nI (tN t) ∧ K (b + 17) = nI (tOdd t) ∧ K (b + 18) = nI (tStep t) ∧ K (b + 19) = nI (tBag t) ∧ K (b + 20) = tSt t ∧ K (b + 21) = tGv t ∧ K (b + 22) = tTh t
theorem kT_congr {K K' : Nat → Int32} {b : Nat} {t : Tb} (hn : tN t ≤ 8) (h : kT K b t) (he : ∀ j, b ≤ j → j < b + 23 → K' j = K j) : kT K' b t := by
  obtain ⟨h1, h2, h3, h4, h5, h6, h7, h8⟩ := h
  refine ⟨fun i hi => ⟨(he _ (by omega) (by omega)).trans (h1 i hi).1, (he _ (by omega) (by omega)).trans (h1 i hi).2⟩, (he _ (by omega) (by omega)).trans h2, (he _ (by omega) (by omega)).trans h3, (he _ (by omega) (by omega)).trans h4, (he _ (by omega) (by omega)).trans h5, (he _ (by omega) (by omega)).trans h6, (he _ (by omega) (by omega)).trans h7, (he _ (by omega) (by omega)).trans h8⟩
theorem bS {α β : Type} {a : Option α} {q : α} {k : α → Option β} {r : Option β} (h : a = some q) (hk : k q = r) : a.bind k = r := by rw [h]; exact hk
theorem upd_id (f : Nat → Int32) (i j : Nat) : upd f i (f i) j = f j := by
  unfold upd
  split
  · rename_i h; rw [h]
  · rfl
