/-! Pure: TABLE. -/
def arr (n : Nat) (V : Nat → Nat) (text A B C D : Nat → Int32) : List (Nat × Nat × Nat × Nat) → Nat → Nat → Prop
  | [], p, _ => p = n
  | (q, c, a, b) :: r, p, s => gS n V text p q c a b ∧ A s = nI c ∧ B s = nI p ∧ C s = nI a ∧ D s = nI b ∧ arr n V text A B C D r q (s + 1)
theorem q_L12 {n : Nat} {V : Nat → Nat} {text tape : Nat → Int32} (h : tx n V text tape) (k : Int32 → Int32 → (Nat → Int32) → (Nat → Int32) → (Nat → Int32) → (Nat → Int32) → Int32 → Option (Int32 × MT × Int32 × Int32 × Int32 × (Nat → Int32) × (Nat → Int32) × (Nat → Int32) × (Nat → Int32))) : ∀ (d p s fuel : Nat) (A B C D : Nat → Int32), n - p ≤ d → p ≤ n → d + 2 ≤ fuel → 3 * s ≤ p → (s = 0 → p = 0) →
    (∃ e s' A' B' C' D', f_M_table_L12 (nI n) tape k fuel (nI p) (nI s) A B C D 1 = k (nI e) s' A' B' C' D' 0 ∧ e < 2 ^ 31 ∧ ∀ fuel2, n - p + 1 ≤ fuel2 → f_Letters_placeOfBadForm_L4 (nI n) text fuel2 0 (nI p) = some (nI e)) ∨
    (∃ L A' B' C' D', f_M_table_L12 (nI n) tape k fuel (nI p) (nI s) A B C D 1 = k (nI n) (nI (s + L.length)) A' B' C' D' 1 ∧ same4 s A B C D A' B' C' D' ∧ arr n V text A' B' C' D' L p s ∧ s + L.length ≤ 21 ∧ ∀ fuel2, n - p + 1 ≤ fuel2 → f_Letters_placeOfBadForm_L4 (nI n) text fuel2 0 (nI p) = some (-1)) := by
  have h64 := h.1
  intro d
  induction d with
  | zero => sorry
  | succ d ih => sorry
theorem outN {v lo hi : Nat} (hv : v < 2 ^ 31) (hl : lo < 2 ^ 31) (hh : hi < 2 ^ 31) : f_X_outside (nI v) (nI lo) (nI hi) = some (if lo ≤ v then (if v ≤ hi then 0 else -6) else -4) := by
  unfold f_X_outside
  by_cases h1 : lo ≤ v
  · rw [if_pos h1, if_pos (nI_le h1 hv)]
    by_cases h2 : v ≤ hi
    · rw [if_pos h2, if_pos (nI_le h2 hh)]
    · rw [if_neg h2, if_neg (nI_ge (by omega) hv)]
  · rw [if_neg h1, if_neg (nI_ge (by omega) hl)]
def bagT (u : Tb) (a : Nat) : Tb := (tN u, tKd u, tSw u, tOdd u, tStep u, a, u.2.2.2.2.2.2)
def oddT (u : Tb) (a b : Nat) : Tb := (tN u, tKd u, tSw u, a, b, u.2.2.2.2.2)
def ef (u : Tb) (c a b : Nat) : Option Tb := if c = 99 then (if tN u < 8 then some (addT u a b) else none) else if c = 103 then some (bagT u a) else if a ≤ 2 ∧ 1 ≤ b ∧ b ≤ 3 then some (oddT u a b) else none
theorem ef99 (u : Tb) (a b : Nat) : ef u 99 a b = if tN u < 8 then some (addT u a b) else none := if_pos rfl
theorem ef103 (u : Tb) (a b : Nat) : ef u 103 a b = some (bagT u a) := rfl
theorem ef108 (u : Tb) (a b : Nat) : ef u 108 a b = if a ≤ 2 ∧ 1 ≤ b ∧ b ≤ 3 then some (oddT u a b) else none := rfl
theorem ef_ok {n : Nat} {V : Nat → Nat} {text : Nat → Int32} {p q c a b : Nat} (hg : gS n V text p q c a b) {u u' : Tb} (hu : okT u) (he : ef u c a b = some u') : okT u' := by
  obtain ⟨-, -, -, -, -, hg⟩ := hg
  unfold ef at he
  rcases hg with ⟨rfl, ha, hb, -, -⟩ | ⟨rfl, ha, -⟩ | ⟨rfl, ha, hb, -, -⟩
  · rw [if_pos rfl] at he
    by_cases h8 : tN u < 8
    · rw [if_pos h8] at he
      cases he
      exact addT_ok hu h8 ha hb
    · rw [if_neg h8] at he; exact absurd he (by simp)
  · rw [if_neg (by decide), if_pos rfl] at he
    cases he
    exact ⟨hu.1, hu.2.1, hu.2.2.1, hu.2.2.2.1, hu.2.2.2.2.1, ha⟩
  · rw [if_neg (by decide), if_neg (by decide)] at he
    by_cases h3 : a ≤ 2 ∧ 1 ≤ b ∧ b ≤ 3
    · rw [if_pos h3] at he
      cases he
      exact ⟨hu.1, hu.2.1, h3.1, h3.2.1, h3.2.2, hu.2.2.2.2.2⟩
    · rw [if_neg h3] at he; exact absurd he (by simp)
theorem bring2 (z : RS) {v : Nat} (hv : v ≤ 999) : f_Letters_bring z 2 (nI v) = some (1, (r_kinds z), (r_sweets z), (upd (r_settings z) 2 (nI v)), (r_heaps z), (r_children z), (r_strokes z), (r_gave z), (r_threw z)) := by
  have o : f_X_outside (nI v) 0 999 = _ := outN (v := v) (lo := 0) (hi := 999) (by omega) (by omega) (by omega)
  unfold f_Letters_bring
  rw [if_neg (by decide), kc2, sL2, sG2, o, if_pos (Nat.zero_le _), if_pos hv, Option.bind_some, if_pos rfl]
theorem bring0 (z : RS) {v : Nat} (hv : v ≤ 9) : f_Letters_bring z 0 (nI v) = if v ≤ 2 then some (1, (r_kinds z), (r_sweets z), (upd (r_settings z) 0 (nI v)), (r_heaps z), (r_children z), (r_strokes z), (r_gave z), (r_threw z)) else some (0, z) := by
  have o : f_X_outside (nI v) 0 2 = _ := outN (v := v) (lo := 0) (hi := 2) (by omega) (by omega) (by omega)
  unfold f_Letters_bring
  rw [if_neg (by decide), kc0, sL0, sG0, o, if_pos (Nat.zero_le _), Option.bind_some]
  by_cases h : v ≤ 2
  · rw [if_pos h, if_pos h, if_pos rfl]
  · rw [if_neg h, if_neg h, if_neg (by decide)]
theorem bring1 (z : RS) {v : Nat} (hv : v ≤ 9) : f_Letters_bring z 1 (nI v) = if 1 ≤ v ∧ v ≤ 3 then some (1, (r_kinds z), (r_sweets z), (upd (r_settings z) 1 (nI v)), (r_heaps z), (r_children z), (r_strokes z), (r_gave z), (r_threw z)) else some (0, z) := by
  have o : f_X_outside (nI v) 1 3 = _ := outN (v := v) (lo := 1) (hi := 3) (by omega) (by omega) (by omega)
  unfold f_Letters_bring
  rw [if_neg (by decide), kc1, sL1, sG1, o, Option.bind_some]
  by_cases h1 : 1 ≤ v
  · rw [if_pos h1]
    by_cases h : v ≤ 3
    · rw [if_pos h, if_pos (show 1 ≤ v ∧ v ≤ 3 from ⟨h1, h⟩), if_pos (show (0 : Int32) = 0 from rfl)]
    · rw [if_neg h, if_neg (show ¬ (1 ≤ v ∧ v ≤ 3) from fun q => h q.2), if_neg (show ¬ (-6 : Int32) = 0 by decide)]
  · rw [if_neg h1, if_neg (show ¬ (1 ≤ v ∧ v ≤ 3) from fun q => h1 q.1), if_neg (show ¬ (-4 : Int32) = 0 by decide)]
theorem p_one {n : Nat} {V : Nat → Nat} {text tape : Nat → Int32} (h : tx n V text tape) {p q c a b : Nat} (hg : gS n V text p q c a b) {z : RS} {u : Tb} (hX : rX z u) (hu : okT u) : ∃ v z', f_Letters_carryOutOne (nI n) text z (nI p) (nI (q - 1)) = some (v, z') ∧ ((v = 1 ∧ ∃ u', ef u c a b = some u' ∧ rX z' u') ∨ (v = 0 ∧ ef u c a b = none)) := by
  have h64 := h.1
  obtain ⟨g1, g2, g3, g4, g5, hg⟩ := hg
  have z01' : ¬ ¬ ((1 : Int32) = 0 ∨ (1 : Int32) = 1) := fun q => q (Or.inr rfl)
  have z00' : ¬ ¬ ((0 : Int32) = 0 ∨ (0 : Int32) = 1) := fun q => q (Or.inl rfl)
  have e1 : nI p + 1 = nI (p + 1) := nI_1 p
  have e2 : nI p + 2 = nI (p + 2) := nI_add p 2
  unfold f_Letters_carryOutOne
  rw [p_lt h (show p < n by omega), Option.bind_some, g5, e1, e2]
  rcases hg with ⟨rfl, ha, hb, ek, en⟩ | ⟨rfl, ha, en⟩ | ⟨rfl, ha, hb, en, em⟩
  · have k : nI 99 = (99 : Int32) := rfl
    rw [if_pos k, p_lt h (show p + 1 < n by omega), Option.bind_some, p_ix (h.2 _ (show p + 1 < n by omega)).1, ek, Option.bind_some, en, Option.bind_some, ef99]
    by_cases h8 : tN u < 8
    · obtain ⟨z', e, r⟩ := p_seat hX hu h8 a b
      rw [e, Option.bind_some, if_neg z01', if_pos h8]
      exact ⟨1, z', rfl, Or.inl ⟨rfl, _, rfl, r⟩⟩
    · have g : ¬ r_children z < 8 := by rw [hX.1]; exact nI_nlt (a := tN u) (b := 8) (by omega) (by have := hu.1; omega)
      have e : f_Ring_seatLast z (nI a) (nI b) = some (0, z) := by
        unfold f_Ring_seatLast
        rw [if_neg g]
      rw [e, Option.bind_some, if_neg z00', if_neg h8]
      exact ⟨0, z, rfl, Or.inr ⟨rfl, rfl⟩⟩
  · have k1 : ¬ nI 103 = (99 : Int32) := by decide
    have k : nI 103 = (103 : Int32) := rfl
    rw [if_neg k1, if_pos k, en, Option.bind_some, bring2 z ha, Option.bind_some, if_neg z01', ef103]
    exact ⟨1, _, rfl, Or.inl ⟨rfl, _, rfl, ⟨hX.1, hX.2.1, hX.2.2.1, hX.2.2.2.1, rfl, hX.2.2.2.2.2⟩⟩⟩
  · have k1 : ¬ nI 108 = (99 : Int32) := by decide
    have k2 : ¬ nI 108 = (103 : Int32) := by decide
    have k : nI 108 = (108 : Int32) := rfl
    rw [if_neg k1, if_neg k2, if_pos k, en, Option.bind_some, bring0 z ha, ef108]
    by_cases h2 : a ≤ 2
    · rw [if_pos h2, Option.bind_some, if_neg z10', em, Option.bind_some, bring1 _ hb]
      by_cases h3 : 1 ≤ b ∧ b ≤ 3
      · rw [if_pos h3, Option.bind_some, if_neg z10', if_pos ⟨h2, h3⟩]
        exact ⟨1, _, rfl, Or.inl ⟨rfl, _, rfl, ⟨hX.1, hX.2.1, rfl, rfl, hX.2.2.2.2.1, hX.2.2.2.2.2⟩⟩⟩
      · rw [if_neg h3, Option.bind_some, if_pos rfl, if_neg (fun q => h3 q.2)]
        exact ⟨0, _, rfl, Or.inr ⟨rfl, rfl⟩⟩
    · rw [if_neg h2, Option.bind_some, if_pos rfl, if_neg (fun q => h2 q.1)]
      exact ⟨0, _, rfl, Or.inr ⟨rfl, rfl⟩⟩
theorem q_comes {n : Nat} {V : Nat → Nat} {text : Nat → Int32} {p q c a b : Nat} (hg : gS n V text p q c a b) {A C D : Nat → Int32} {i : Nat} (hi : i < 32) (hA : A i = nI c) (hC : C i = nI a) (hD : D i = nI b) {T : MT} {u : Tb} (hM : rM T u) (hu : okT u) : ∃ v T', f_M_comes T A C D (nI i) = some (v, T') ∧ m_kept T' = m_kept T ∧ ((v = 1 ∧ ∃ u', ef u c a b = some u' ∧ rM T' u') ∨ (v = 0 ∧ ef u c a b = none)) := by
  obtain ⟨g1, g2, g3, g4, g5, hg⟩ := hg
  unfold f_M_comes
  rw [if_neg (ix_b hi (by omega)), nI_clamp (by omega), hA, hC, hD]
  rcases hg with ⟨rfl, ha, hb, -, -⟩ | ⟨rfl, ha, -⟩ | ⟨rfl, ha, hb, -, -⟩
  · have k1 : ¬ nI 99 = (103 : Int32) := by decide
    have k2 : ¬ nI 99 = (108 : Int32) := by decide
    rw [if_neg k1, if_neg k2, ef99, hM.1]
    by_cases h8 : tN u < 8
    · have g : ¬ nI (tN u) = 8 := fun q => by have := (nI_eq (b := 8) (show tN u < 2 ^ 31 by omega) (by omega)).mp q; omega
      rw [if_neg g, if_neg (ix_b h8 (by omega)), ix_k h8, if_pos h8, nI_1]
      refine ⟨1, _, rfl, rfl, Or.inl ⟨rfl, _, rfl, ⟨rfl, fun j hj => ?_, hM.2.2⟩⟩⟩
      have hj : j < tN u + 1 := hj
      show upd (m_kind T) (tN u) (nI a) j = nI (updN (tKd u) (tN u) a j) ∧ upd (m_sweets T) (tN u) (nI b) j = nI (updN (tSw u) (tN u) b j)
      unfold upd updN
      by_cases e : j = tN u
      · rw [if_pos e, if_pos e, if_pos e, if_pos e]; exact ⟨rfl, rfl⟩
      · rw [if_neg e, if_neg e, if_neg e, if_neg e]; exact hM.2.1 j (by omega)
    · have h8' : tN u = 8 := by have := hu.1; omega
      have g : nI (tN u) = 8 := congrArg nI h8'
      rw [if_pos g, if_neg h8]
      exact ⟨0, T, rfl, rfl, Or.inr ⟨rfl, rfl⟩⟩
  · have k : nI 103 = (103 : Int32) := rfl
    rw [if_pos k, ef103]
    exact ⟨1, _, rfl, rfl, Or.inl ⟨rfl, _, rfl, ⟨hM.1, hM.2.1, hM.2.2.1, hM.2.2.2.1, rfl, hM.2.2.2.2.2⟩⟩⟩
  · have k1 : ¬ nI 108 = (103 : Int32) := by decide
    have k : nI 108 = (108 : Int32) := rfl
    rw [if_neg k1, if_pos k, ef108]
    by_cases h2 : a ≤ 2
    · have g : ¬ (3 : Int32) ≤ nI a := nI_ge (b := 3) (by omega) (by omega)
      have e : f_M_isIn (nI b) 1 3 = some (if 1 ≤ b ∧ b ≤ 3 then 1 else 0) := by
        unfold f_M_isIn
        by_cases q1 : 1 ≤ b
        · have w1 : ¬ nI b < 1 := nI_nlt (b := 1) q1 (by omega)
          rw [if_neg w1]
          by_cases q2 : b ≤ 3
          · have w2 : ¬ (3 : Int32) < nI b := nI_nlt (a := 3) q2 (by omega)
            rw [if_neg w2, if_pos ⟨q1, q2⟩]
          · have w2 : (3 : Int32) < nI b := nI_lt (a := 3) (by omega) (by omega)
            rw [if_pos w2, if_neg (fun q => q2 q.2)]
        · have w1 : nI b < 1 := nI_lt (b := 1) (by omega) (by omega)
          rw [if_pos w1, if_neg (fun q => q1 q.1)]
      rw [if_neg g, e, Option.bind_some]
      by_cases h3 : 1 ≤ b ∧ b ≤ 3
      · rw [if_pos h3, if_neg z10', if_pos ⟨h2, h3⟩]
        exact ⟨1, _, rfl, rfl, Or.inl ⟨rfl, _, rfl, ⟨hM.1, hM.2.1, rfl, rfl, hM.2.2.2.2⟩⟩⟩
      · rw [if_neg h3, if_pos rfl, if_neg (fun q => h3 q.2)]
        exact ⟨0, _, rfl, rfl, Or.inr ⟨rfl, rfl⟩⟩
    · have g : (3 : Int32) ≤ nI a := nI_le (a := 3) (by omega) (by omega)
      rw [if_pos g, if_neg (fun q => h2 q.1)]
      exact ⟨0, _, rfl, rfl, Or.inr ⟨rfl, rfl⟩⟩
