/-! Pure: counts, images, rows, letters told. -/
def iK (ik hi : Int32) (kept : RS) (K : Nat → Int32) : Prop := ik = hi ∧ (ik = 0 ∨ (ik = 1 ∧ ∃ ti, okT ti ∧ rX kept ti ∧ kT K 0 ti))
theorem iK_keep {ik hi : Int32} {kept : RS} {K K' : Nat → Int32} (h : iK ik hi kept K) (he : ∀ j, j < 23 → K' j = K j) : iK ik hi kept K' := by
  obtain ⟨h1, h2⟩ := h
  refine ⟨h1, ?_⟩
  rcases h2 with h | ⟨h, ti, a, b, c⟩
  · exact Or.inl h
  · exact Or.inr ⟨h, ti, a, b, kT_congr a.1 c (fun j _ hj => he j (by omega))⟩
def iL (len taped : Int32) (text tape : Nat → Int32) : Prop := ∃ n, n ≤ 64 ∧ len = nI n ∧ taped = nI n ∧ ∀ i, i < n → ∃ v, v ≤ 255 ∧ text i = nI v ∧ tape i = nI v
def iN (nc rm : Int32) (nums row : Nat → Int32) : Prop := ∃ n, n ≤ 24 ∧ nc = nI n ∧ rm = nI n ∧ ∀ i, i < n → nums i = row i
theorem z10' : ¬ (1 : Int32) = 0 := by decide
theorem chr {v : Nat} (hv : v ≤ 255) : ((nI v).toUInt32 % 65536).toInt32 = nI v := by
  rw [pk_char]
  refine congrArg nI ?_
  have h : (nI v).toBitVec.toNat = v := by
    show (BitVec.ofNat 32 v).toNat = v
    rw [BitVec.toNat_ofNat]
    omega
  rw [h]
  omega
theorem chr2 {v : Nat} (hv : v ≤ 255) : vp_nar .char (nI v) = nI v := by
  have h := pk_vc (nI v)
  rw [chr hv] at h
  exact h
