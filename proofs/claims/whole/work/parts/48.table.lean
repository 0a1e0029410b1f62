/-! Pure: TABLE. -/
def arr (n : Nat) (V : Nat → Nat) (text A B C D : Nat → Int32) : List (Nat × Nat × Nat × Nat) → Nat → Nat → Prop
  | [], p, _ => p = n
  | (q, c, a, b) :: r, p, s => gS n V text p q c a b ∧ A s = nI c ∧ B s = nI p ∧ C s = nI a ∧ D s = nI b ∧ arr n V text A B C D r q (s + 1)
theorem q_L12e {n : Nat} {V : Nat → Nat} {text tape : Nat → Int32} (h : tx n V text tape) (k : Int32 → Int32 → (Nat → Int32) → (Nat → Int32) → (Nat → Int32) → (Nat → Int32) → Int32 → Option (Int32 × MT × Int32 × Int32 × Int32 × (Nat → Int32) × (Nat → Int32) × (Nat → Int32) × (Nat → Int32))) (p s fuel : Nat) (A B C D : Nat → Int32) (hp : p = n) (hf : 2 ≤ fuel) (hs : 3 * s ≤ p) (hs0 : s = 0 → p = 0) :
    (∃ e s' A' B' C' D', f_M_table_L12 (nI n) tape k fuel (nI p) (nI s) A B C D 1 = k (nI e) s' A' B' C' D' 0 ∧ e ≤ 70 ∧ ∀ fuel2, n - p + 1 ≤ fuel2 → f_Letters_placeOfBadForm_L4 (nI n) text fuel2 0 (nI p) = some (nI e)) ∨
    (∃ L A' B' C' D', f_M_table_L12 (nI n) tape k fuel (nI p) (nI s) A B C D 1 = k (nI n) (nI (s + L.length)) A' B' C' D' 1 ∧ same4 s A B C D A' B' C' D' ∧ arr n V text A' B' C' D' L p s ∧ s + L.length ≤ 21 ∧ ∀ fuel2, n - p + 1 ≤ fuel2 → f_Letters_placeOfBadForm_L4 (nI n) text fuel2 0 (nI p) = some (-1)) := by
  have h64 := h.1
  obtain ⟨f, rfl, -⟩ := f_suc (d := 1) (f := fuel) (by omega)
  have g : ¬ nI p < nI n := nI_nlt (by omega) (by omega)
  rw [f_M_table_L12, if_neg z10', if_neg g]
  by_cases s0 : s = 0
  · have p0 := hs0 s0
    rw [if_pos (show nI s = 0 by rw [s0, nI_0])]
    rcases stm h (show p ≤ n by omega) (show s < 32 by omega) A B C D with ⟨e, A', B', C', D', e1, he70, ha⟩ | ⟨q, c, a, b, A', B', C', D', e1, hsm, m1, m2, m3, m4, hg, ha⟩
    · obtain ⟨f, rfl, -⟩ := f_suc (d := 0) (f := f) (by omega)
      refine Or.inl ⟨e, nI s + 0, A', B', C', D', ?_, he70, ha (Or.inr (by omega))⟩
      rw [e1, Option.bind_some, if_pos rfl, f_M_table_L12, if_pos rfl]
    · have := hg.1
      have := hg.2.1
      omega
  · rw [if_neg (nI_ne0 (by omega) (by omega))]
    refine Or.inr ⟨[], A, B, C, D, by rw [hp]; rfl, fun i hi => ⟨rfl, rfl, rfl, rfl⟩, hp, by show s + 0 ≤ 21; omega, fun fuel2 hf2 => ?_⟩
    obtain ⟨f2, rfl, -⟩ := f_suc (d := 0) (f := fuel2) (by omega)
    have g0 : ¬ nI n ≤ 0 := nI_ge (a := 0) (b := n) (by omega) (by omega)
    rw [hp, f_Letters_placeOfBadForm_L4, if_pos (nI_le (Nat.le_refl _) (by omega)), if_neg g0, if_pos rfl]
theorem q_L12 {n : Nat} {V : Nat → Nat} {text tape : Nat → Int32} (h : tx n V text tape) (k : Int32 → Int32 → (Nat → Int32) → (Nat → Int32) → (Nat → Int32) → (Nat → Int32) → Int32 → Option (Int32 × MT × Int32 × Int32 × Int32 × (Nat → Int32) × (Nat → Int32) × (Nat → Int32) × (Nat → Int32))) : ∀ (d p s fuel : Nat) (A B C D : Nat → Int32), n - p ≤ d → p ≤ n → d + 2 ≤ fuel → 3 * s ≤ p → (s = 0 → p = 0) →
    (∃ e s' A' B' C' D', f_M_table_L12 (nI n) tape k fuel (nI p) (nI s) A B C D 1 = k (nI e) s' A' B' C' D' 0 ∧ e ≤ 70 ∧ ∀ fuel2, n - p + 1 ≤ fuel2 → f_Letters_placeOfBadForm_L4 (nI n) text fuel2 0 (nI p) = some (nI e)) ∨
    (∃ L A' B' C' D', f_M_table_L12 (nI n) tape k fuel (nI p) (nI s) A B C D 1 = k (nI n) (nI (s + L.length)) A' B' C' D' 1 ∧ same4 s A B C D A' B' C' D' ∧ arr n V text A' B' C' D' L p s ∧ s + L.length ≤ 21 ∧ ∀ fuel2, n - p + 1 ≤ fuel2 → f_Letters_placeOfBadForm_L4 (nI n) text fuel2 0 (nI p) = some (-1)) := by
  have h64 := h.1
  intro d
  induction d with
  | zero =>
    intro p s fuel A B C D hd hp hf hs hs0
    obtain rfl : p = n := by omega
    exact q_L12e h k p s fuel A B C D rfl hf hs hs0
  | succ d ih =>
    intro p s fuel A B C D hd hp hf hs hs0
    by_cases hlt : p < n
    · obtain ⟨f, rfl, -⟩ := f_suc (d := d + 2) (f := fuel) (by omega)
      have glt : nI p < nI n := nI_lt hlt (by omega)
      rw [f_M_table_L12, if_neg z10', if_pos glt]
      rcases stm h hp (show s < 32 by omega) A B C D with ⟨e, A', B', C', D', e1, he70, ha⟩ | ⟨q, c, a, b, A', B', C', D', e1, hsm, m1, m2, m3, m4, hg, ha⟩
      · obtain ⟨f, rfl, -⟩ := f_suc (d := 0) (f := f) (by omega)
        have hap := ha (Or.inl hlt) FU (by unfold FU; omega)
        refine Or.inl ⟨e, nI s + 0, A', B', C', D', ?_, he70, ha (Or.inl hlt)⟩
        rw [e1, Option.bind_some, if_pos rfl, f_M_table_L12, if_pos rfl]
      · have hq := hg.1
        have hq2 := hg.2.1
        rw [e1, Option.bind_some, if_neg z10', nI_1]
        rcases ih q (s + 1) f A' B' C' D' (by omega) hq2 (by omega) (by omega) (fun e => by omega) with ⟨e, s', A2, B2, C2, D2, e2, he70, h2⟩ | ⟨L, A2, B2, C2, D2, e2, hsm2, harr, hL, h2⟩
        · refine Or.inl ⟨e, s', A2, B2, C2, D2, e2, he70, fun fuel2 hf2 => ?_⟩
          obtain ⟨f3, hf3, e3⟩ := ha fuel2 hf2
          rw [e3]
          exact h2 f3 hf3
        · refine Or.inr ⟨(q, c, a, b) :: L, A2, B2, C2, D2, ?_, fun i hi => ?_, ?_, ?_, fun fuel2 hf2 => ?_⟩
          · refine e2.trans ?_
            rw [List.length_cons, show s + 1 + L.length = s + (L.length + 1) by omega]
          · have w1 := hsm2 i (by omega)
            have w2 := hsm i hi
            exact ⟨w1.1.trans w2.1, w1.2.1.trans w2.2.1, w1.2.2.1.trans w2.2.2.1, w1.2.2.2.trans w2.2.2.2⟩
          · have w1 := hsm2 s (by omega)
            exact ⟨hg, w1.1.trans m1, w1.2.1.trans m2, w1.2.2.1.trans m3, w1.2.2.2.trans m4, harr⟩
          · rw [List.length_cons]; omega
          · obtain ⟨f3, hf3, e3⟩ := ha fuel2 hf2
            rw [e3]
            exact h2 f3 hf3
    · obtain rfl : p = n := by omega
      exact q_L12e h k p s fuel A B C D rfl (by omega) hs hs0
theorem outN {v lo hi : Nat} (hv : v < 2 ^ 31) (hl : lo < 2 ^ 31) (hh : hi < 2 ^ 31) : f_X_outside (nI v) (nI lo) (nI hi) = some (if lo ≤ v then (if v ≤ hi then 0 else -6) else -4) := by
  unfold f_X_outside
  by_cases h1 : lo ≤ v
  · rw [if_pos h1, if_pos (nI_le h1 hv)]
    by_cases h2 : v ≤ hi
    · rw [if_pos h2, if_pos (nI_le h2 hh)]
    · rw [if_neg h2, if_neg (nI_ge (by omega) hv)]
  · rw [if_neg h1, if_neg (nI_ge (by omega) hl)]
def bagT (u : Tb) (a : Nat) : Tb := (tN u, tKd u, tSw u, tOdd u, tStep u, a, u.2.2.2.2.2.2)
def oddT (u : Tb) (a b : Nat) : Tb := (tN u, tKd u, tSw u, a, b, u.2.2.2.2.2)
def ef (u : Tb) (c a b : Nat) : Option Tb := if c = 99 then (if tN u < 8 then some (addT u a b) else none) else if c = 103 then some (bagT u a) else if a ≤ 2 ∧ 1 ≤ b ∧ b ≤ 3 then some (oddT u a b) else none
theorem ef99 (u : Tb) (a b : Nat) : ef u 99 a b = if tN u < 8 then some (addT u a b) else none := if_pos rfl
theorem ef103 (u : Tb) (a b : Nat) : ef u 103 a b = some (bagT u a) := rfl
theorem ef108 (u : Tb) (a b : Nat) : ef u 108 a b = if a ≤ 2 ∧ 1 ≤ b ∧ b ≤ 3 then some (oddT u a b) else none := rfl
theorem ef_ok {n : Nat} {V : Nat → Nat} {text : Nat → Int32} {p q c a b : Nat} (hg : gS n V text p q c a b) {u u' : Tb} (hu : okT u) (he : ef u c a b = some u') : okT u' := by
  obtain ⟨-, -, -, -, -, hg⟩ := hg
  unfold ef at he
  rcases hg with ⟨rfl, ha, hb, -, -⟩ | ⟨rfl, ha, -⟩ | ⟨rfl, ha, hb, -, -⟩
  · rw [if_pos rfl] at he
    by_cases h8 : tN u < 8
    · rw [if_pos h8] at he
      cases he
      exact addT_ok hu h8 ha hb
    · rw [if_neg h8] at he; exact absurd he (by simp)
  · rw [if_neg (by decide), if_pos rfl] at he
    cases he
    exact ⟨hu.1, hu.2.1, hu.2.2.1, hu.2.2.2.1, hu.2.2.2.2.1, ha⟩
  · rw [if_neg (by decide), if_neg (by decide)] at he
    by_cases h3 : a ≤ 2 ∧ 1 ≤ b ∧ b ≤ 3
    · rw [if_pos h3] at he
      cases he
      exact ⟨hu.1, hu.2.1, h3.1, h3.2.1, h3.2.2, hu.2.2.2.2.2⟩
    · rw [if_neg h3] at he; exact absurd he (by simp)
theorem bring2 (z : RS) {v : Nat} (hv : v ≤ 999) : f_Letters_bring z 2 (nI v) = some (1, (r_kinds z), (r_sweets z), (upd (r_settings z) 2 (nI v)), (r_heaps z), (r_children z), (r_strokes z), (r_gave z), (r_threw z)) := by
  have o : f_X_outside (nI v) 0 999 = _ := outN (v := v) (lo := 0) (hi := 999) (by omega) (by omega) (by omega)
  unfold f_Letters_bring
  rw [if_neg (by decide), kc2, sL2, sG2, o, if_pos (Nat.zero_le _), if_pos hv, Option.bind_some, if_pos rfl]
theorem bring0 (z : RS) {v : Nat} (hv : v ≤ 9) : f_Letters_bring z 0 (nI v) = if v ≤ 2 then some (1, (r_kinds z), (r_sweets z), (upd (r_settings z) 0 (nI v)), (r_heaps z), (r_children z), (r_strokes z), (r_gave z), (r_threw z)) else some (0, z) := by
  have o : f_X_outside (nI v) 0 2 = _ := outN (v := v) (lo := 0) (hi := 2) (by omega) (by omega) (by omega)
  unfold f_Letters_bring
  rw [if_neg (by decide), kc0, sL0, sG0, o, if_pos (Nat.zero_le _), Option.bind_some]
  by_cases h : v ≤ 2
  · rw [if_pos h, if_pos h, if_pos rfl]
  · rw [if_neg h, if_neg h, if_neg (by decide)]
theorem bring1 (z : RS) {v : Nat} (hv : v ≤ 9) : f_Letters_bring z 1 (nI v) = if 1 ≤ v ∧ v ≤ 3 then some (1, (r_kinds z), (r_sweets z), (upd (r_settings z) 1 (nI v)), (r_heaps z), (r_children z), (r_strokes z), (r_gave z), (r_threw z)) else some (0, z) := by
  have o : f_X_outside (nI v) 1 3 = _ := outN (v := v) (lo := 1) (hi := 3) (by omega) (by omega) (by omega)
  unfold f_Letters_bring
  rw [if_neg (by decide), kc1, sL1, sG1, o, Option.bind_some]
  by_cases h1 : 1 ≤ v
  · rw [if_pos h1]
    by_cases h : v ≤ 3
    · rw [if_pos h, if_pos (show 1 ≤ v ∧ v ≤ 3 from ⟨h1, h⟩), if_pos (show (0 : Int32) = 0 from rfl)]
    · rw [if_neg h, if_neg (show ¬ (1 ≤ v ∧ v ≤ 3) from fun q => h q.2), if_neg (show ¬ (-6 : Int32) = 0 by decide)]
  · rw [if_neg h1, if_neg (show ¬ (1 ≤ v ∧ v ≤ 3) from fun q => h1 q.1), if_neg (show ¬ (-4 : Int32) = 0 by decide)]
theorem p_one {n : Nat} {V : Nat → Nat} {text tape : Nat → Int32} (h : tx n V text tape) {p q c a b : Nat} (hg : gS n V text p q c a b) {z : RS} {u : Tb} (hX : rX z u) (hu : okT u) : ∃ v z', f_Letters_carryOutOne (nI n) text z (nI p) (nI (q - 1)) = some (v, z') ∧ ((v = 1 ∧ ∃ u', ef u c a b = some u' ∧ rX z' u') ∨ (v = 0 ∧ ef u c a b = none)) := by
  have h64 := h.1
  obtain ⟨g1, g2, g3, g4, g5, hg⟩ := hg
  have z01' : ¬ ¬ ((1 : Int32) = 0 ∨ (1 : Int32) = 1) := fun q => q (Or.inr rfl)
  have z00' : ¬ ¬ ((0 : Int32) = 0 ∨ (0 : Int32) = 1) := fun q => q (Or.inl rfl)
  have e1 : nI p + 1 = nI (p + 1) := nI_1 p
  have e2 : nI p + 2 = nI (p + 2) := nI_add p 2
  unfold f_Letters_carryOutOne
  rw [p_lt h (show p < n by omega), Option.bind_some, g5, e1, e2]
  rcases hg with ⟨rfl, ha, hb, ek, en⟩ | ⟨rfl, ha, en⟩ | ⟨rfl, ha, hb, en, em⟩
  · have k : nI 99 = (99 : Int32) := rfl
    rw [if_pos k, p_lt h (show p + 1 < n by omega), Option.bind_some, p_ix (h.2 _ (show p + 1 < n by omega)).1, ek, Option.bind_some, en, Option.bind_some, ef99]
    by_cases h8 : tN u < 8
    · obtain ⟨z', e, r⟩ := p_seat hX hu h8 a b
      rw [e, Option.bind_some, if_neg z01', if_pos h8]
      exact ⟨1, z', rfl, Or.inl ⟨rfl, _, rfl, r⟩⟩
    · have g : ¬ r_children z < 8 := by rw [hX.1]; exact nI_nlt (a := tN u) (b := 8) (by omega) (by have := hu.1; omega)
      have e : f_Ring_seatLast z (nI a) (nI b) = some (0, z) := by
        unfold f_Ring_seatLast
        rw [if_neg g]
      rw [e, Option.bind_some, if_neg z00', if_neg h8]
      exact ⟨0, z, rfl, Or.inr ⟨rfl, rfl⟩⟩
  · have k1 : ¬ nI 103 = (99 : Int32) := by decide
    have k : nI 103 = (103 : Int32) := rfl
    rw [if_neg k1, if_pos k, en, Option.bind_some, bring2 z ha, Option.bind_some, if_neg z01', ef103]
    exact ⟨1, _, rfl, Or.inl ⟨rfl, _, rfl, ⟨hX.1, hX.2.1, hX.2.2.1, hX.2.2.2.1, rfl, hX.2.2.2.2.2⟩⟩⟩
  · have k1 : ¬ nI 108 = (99 : Int32) := by decide
    have k2 : ¬ nI 108 = (103 : Int32) := by decide
    have k : nI 108 = (108 : Int32) := rfl
    rw [if_neg k1, if_neg k2, if_pos k, en, Option.bind_some, bring0 z ha, ef108]
    by_cases h2 : a ≤ 2
    · rw [if_pos h2, Option.bind_some, if_neg z10', em, Option.bind_some, bring1 _ hb]
      by_cases h3 : 1 ≤ b ∧ b ≤ 3
      · rw [if_pos h3, Option.bind_some, if_neg z10', if_pos ⟨h2, h3⟩]
        exact ⟨1, _, rfl, Or.inl ⟨rfl, _, rfl, ⟨hX.1, hX.2.1, rfl, rfl, hX.2.2.2.2.1, hX.2.2.2.2.2⟩⟩⟩
      · rw [if_neg h3, Option.bind_some, if_pos rfl, if_neg (fun q => h3 q.2)]
        exact ⟨0, _, rfl, Or.inr ⟨rfl, rfl⟩⟩
    · rw [if_neg h2, Option.bind_some, if_pos rfl, if_neg (fun q => h2 q.1)]
      exact ⟨0, _, rfl, Or.inr ⟨rfl, rfl⟩⟩
theorem q_comes {n : Nat} {V : Nat → Nat} {text : Nat → Int32} {p q c a b : Nat} (hg : gS n V text p q c a b) {A C D : Nat → Int32} {i : Nat} (hi : i < 32) (hA : A i = nI c) (hC : C i = nI a) (hD : D i = nI b) {T : MT} {u : Tb} (hM : rM T u) (hu : okT u) : ∃ v T', f_M_comes T A C D (nI i) = some (v, T') ∧ m_kept T' = m_kept T ∧ ((v = 1 ∧ ∃ u', ef u c a b = some u' ∧ rM T' u') ∨ (v = 0 ∧ ef u c a b = none)) := by
  obtain ⟨g1, g2, g3, g4, g5, hg⟩ := hg
  unfold f_M_comes
  rw [if_neg (ix_b hi (by omega)), nI_clamp (by omega), hA, hC, hD]
  rcases hg with ⟨rfl, ha, hb, -, -⟩ | ⟨rfl, ha, -⟩ | ⟨rfl, ha, hb, -, -⟩
  · have k1 : ¬ nI 99 = (103 : Int32) := by decide
    have k2 : ¬ nI 99 = (108 : Int32) := by decide
    rw [if_neg k1, if_neg k2, ef99, hM.1]
    by_cases h8 : tN u < 8
    · have g : ¬ nI (tN u) = 8 := fun q => by have := (nI_eq (b := 8) (show tN u < 2 ^ 31 by omega) (by omega)).mp q; omega
      rw [if_neg g, if_neg (ix_b h8 (by omega)), ix_k h8, if_pos h8, nI_1]
      refine ⟨1, _, rfl, rfl, Or.inl ⟨rfl, _, rfl, ⟨rfl, fun j hj => ?_, hM.2.2⟩⟩⟩
      have hj : j < tN u + 1 := hj
      show upd (m_kind T) (tN u) (nI a) j = nI (updN (tKd u) (tN u) a j) ∧ upd (m_sweets T) (tN u) (nI b) j = nI (updN (tSw u) (tN u) b j)
      unfold upd updN
      by_cases e : j = tN u
      · rw [if_pos e, if_pos e, if_pos e, if_pos e]; exact ⟨rfl, rfl⟩
      · rw [if_neg e, if_neg e, if_neg e, if_neg e]; exact hM.2.1 j (by omega)
    · have h8' : tN u = 8 := by have := hu.1; omega
      have g : nI (tN u) = 8 := congrArg nI h8'
      rw [if_pos g, if_neg h8]
      exact ⟨0, T, rfl, rfl, Or.inr ⟨rfl, rfl⟩⟩
  · have k : nI 103 = (103 : Int32) := rfl
    rw [if_pos k, ef103]
    exact ⟨1, _, rfl, rfl, Or.inl ⟨rfl, _, rfl, ⟨hM.1, hM.2.1, hM.2.2.1, hM.2.2.2.1, rfl, hM.2.2.2.2.2⟩⟩⟩
  · have k1 : ¬ nI 108 = (103 : Int32) := by decide
    have k : nI 108 = (108 : Int32) := rfl
    rw [if_neg k1, if_pos k, ef108]
    by_cases h2 : a ≤ 2
    · have g : ¬ (3 : Int32) ≤ nI a := nI_ge (b := 3) (by omega) (by omega)
      have e : f_M_isIn (nI b) 1 3 = some (if 1 ≤ b ∧ b ≤ 3 then 1 else 0) := by
        unfold f_M_isIn
        by_cases q1 : 1 ≤ b
        · have w1 : ¬ nI b < 1 := nI_nlt (b := 1) q1 (by omega)
          rw [if_neg w1]
          by_cases q2 : b ≤ 3
          · have w2 : ¬ (3 : Int32) < nI b := nI_nlt (a := 3) q2 (by omega)
            rw [if_neg w2, if_pos ⟨q1, q2⟩]
          · have w2 : (3 : Int32) < nI b := nI_lt (a := 3) (by omega) (by omega)
            rw [if_pos w2, if_neg (fun q => q2 q.2)]
        · have w1 : nI b < 1 := nI_lt (b := 1) (by omega) (by omega)
          rw [if_pos w1, if_neg (fun q => q1 q.1)]
      rw [if_neg g, e, Option.bind_some]
      by_cases h3 : 1 ≤ b ∧ b ≤ 3
      · rw [if_pos h3, if_neg z10', if_pos ⟨h2, h3⟩]
        exact ⟨1, _, rfl, rfl, Or.inl ⟨rfl, _, rfl, ⟨hM.1, hM.2.1, rfl, rfl, hM.2.2.2.2⟩⟩⟩
      · rw [if_neg h3, if_pos rfl, if_neg (fun q => h3 q.2)]
        exact ⟨0, _, rfl, rfl, Or.inr ⟨rfl, rfl⟩⟩
    · have g : (3 : Int32) ≤ nI a := nI_le (a := 3) (by omega) (by omega)
      rw [if_pos g, if_neg (fun q => h2 q.1)]
      exact ⟨0, _, rfl, rfl, Or.inr ⟨rfl, rfl⟩⟩
/-- to carry out all: the table behind, or where it fails -/
def rn : List (Nat × Nat × Nat × Nat) → Nat → Nat → Tb → Sum Tb (Nat × Nat)
  | [], _, _, u => .inl u
  | (q, c, a, b) :: r, p, s, u => match ef u c a b with
    | none => .inr (p, s)
    | some u' => rn r q (s + 1) u'
theorem p_scan {n : Nat} {V : Nat → Nat} {text tape : Nat → Int32} (h : tx n V text tape) (now : RS) (k : RS → Int32 → Option (Int32 × RS × RS)) (z : RS) (x3 x4 : Int32) {e : Nat} (he : e ≤ n) (hV : ∀ i, i < e → i + 0 < e → True) : ∀ (d i g : Nat), i + d = e → (∀ j, i ≤ j → j < e → V j ≠ 59) → f_Letters_carryOut_L31 (nI n) text now k (g + d) z x3 x4 (nI i) = f_Letters_carryOut_L31 (nI n) text now k g z x3 x4 (nI e) := by
  have h64 := h.1
  intro d
  induction d with
  | zero =>
    intro i g hi _
    rw [show i = e by omega]
    rfl
  | succ d ih =>
    intro i g hi hj
    have hin : i < n := by omega
    have hne : ¬ nI (V i) = 59 := fun q => hj i (Nat.le_refl _) (by omega) ((nI_eq (b := 59) (by have := (h.2 i hin).1; omega) (by omega)).mp q)
    rw [← Nat.add_assoc, f_Letters_carryOut_L31, if_neg (nI_ge hin (by omega)), if_neg (ix_b (show i < 64 by omega) (by omega)), nI_clamp (by omega), (h.2 i hin).2.1, if_neg hne, nI_1]
    exact ih (i + 1) g (by omega) (fun j h1 h2 => hj j (by omega) h2)
theorem p_L31 {n : Nat} {V : Nat → Nat} {text tape : Nat → Int32} (h : tx n V text tape) {A B C D : Nat → Int32} (now : RS) (k : RS → Int32 → Option (Int32 × RS × RS)) : ∀ (L : List (Nat × Nat × Nat × Nat)) (p s fuel : Nat) (z : RS) (u : Tb), arr n V text A B C D L p s → p ≤ n → n - p + 1 ≤ fuel → rX z u → okT u →
    ∃ z', (∃ u', rn L p s u = .inl u' ∧ okT u' ∧ rX z' u' ∧ f_Letters_carryOut_L31 (nI n) text now k fuel z (nI s) (nI p) (nI p) = k z' (nI (s + L.length))) ∨ (∃ pj sj, rn L p s u = .inr (pj, sj) ∧ f_Letters_carryOut_L31 (nI n) text now k fuel z (nI s) (nI p) (nI p) = some ((-2000) - nI pj, z', now)) := by
  have h64 := h.1
  intro L
  induction L with
  | nil =>
    intro p s fuel z u ha hp hf hX hu
    obtain rfl : p = n := ha
    obtain ⟨f, rfl, -⟩ := f_suc (d := 0) (f := fuel) (by omega)
    exact ⟨z, Or.inl ⟨u, rfl, hu, hX, by rw [f_Letters_carryOut_L31, if_pos (nI_le (Nat.le_refl _) (by omega))]; rfl⟩⟩
  | cons x L ih =>
    intro p s fuel z u ha hp hf hX hu
    obtain ⟨q, c, a, b⟩ := x
    obtain ⟨hg, m1, m2, m3, m4, har⟩ := ha
    have hq := hg.1
    have hqn := hg.2.1
    have h59 := hg.2.2.1
    obtain ⟨g, hfg, hgn⟩ : ∃ g, fuel = (g + 1) + (q - 1 - p) ∧ n - q + 1 ≤ g := ⟨fuel - 1 - (q - 1 - p), by omega, by omega⟩
    have e59 : nI (V (q - 1)) = 59 := congrArg nI h59
    have es := p_scan h now k z (nI s) (nI p) (e := q - 1) (by omega) (fun _ _ _ => trivial) (q - 1 - p) p (g + 1) (by omega) (fun j h1 h2 => hg.2.2.2.1 j h1 (by omega))
    obtain ⟨v, z', e1, h1⟩ := p_one h hg hX hu
    have eq1 : nI (q - 1) + 1 = nI q := by rw [nI_1, show q - 1 + 1 = q by omega]
    rw [hfg, es, f_Letters_carryOut_L31, if_neg (nI_ge (show q - 1 < n by omega) (by omega)), if_neg (ix_b (show q - 1 < 64 by omega) (by omega)), nI_clamp (show q - 1 < 2 ^ 31 by omega), (h.2 (q - 1) (by omega)).2.1, if_pos e59, e1, Option.bind_some, eq1]
    rcases h1 with ⟨rfl, u', he, hX'⟩ | ⟨rfl, he⟩
    · obtain ⟨z2, h2⟩ := ih q (s + 1) g z' u' har hqn hgn hX' (ef_ok hg hu he)
      have er : rn ((q, c, a, b) :: L) p s u = rn L q (s + 1) u' := by rw [rn, he]
      refine ⟨z2, ?_⟩
      rw [if_neg z10', nI_1, er, List.length_cons, show s + (L.length + 1) = s + 1 + L.length by omega]
      exact h2
    · have er : rn ((q, c, a, b) :: L) p s u = .inr (p, s) := by rw [rn, he]
      rw [if_pos rfl]
      exact ⟨z', Or.inr ⟨p, s, er, rfl⟩⟩
theorem q_L86 {n : Nat} {V : Nat → Nat} {text : Nat → Int32} {A B C D : Nat → Int32} (taped at' : Int32) (kk : MT → Int32 → Option (Int32 × MT × Int32 × Int32 × Int32 × (Nat → Int32) × (Nat → Int32) × (Nat → Int32) × (Nat → Int32))) (S : Nat) (hS : S ≤ 21) : ∀ (L : List (Nat × Nat × Nat × Nat)) (p s fuel : Nat) (T : MT) (u : Tb), arr n V text A B C D L p s → s + L.length = S → L.length < fuel → rM T u → okT u →
    ∃ T', m_kept T' = m_kept T ∧ ((∃ u', rn L p s u = .inl u' ∧ rM T' u' ∧ f_M_table_L86 taped at' (nI S) A B C D kk fuel T (nI s) = some (nI S, T', taped, at', nI S, A, B, C, D)) ∨ (∃ pj sj, rn L p s u = .inr (pj, sj) ∧ sj < 32 ∧ B sj = nI pj ∧ f_M_table_L86 taped at' (nI S) A B C D kk fuel T (nI s) = kk T' (nI sj))) := by
  intro L
  induction L with
  | nil =>
    intro p s fuel T u ha hs hf hM hu
    obtain ⟨f, rfl, -⟩ := f_suc hf
    have hs : s + 0 = S := hs
    exact ⟨T, rfl, Or.inl ⟨u, rfl, hM, by rw [f_M_table_L86, if_pos (nI_le (by omega) (by omega))]⟩⟩
  | cons x L ih =>
    intro p s fuel T u ha hs hf hM hu
    obtain ⟨f, rfl, hf'⟩ := f_suc hf
    obtain ⟨q, c, a, b⟩ := x
    obtain ⟨hg, m1, m2, m3, m4, har⟩ := ha
    rw [List.length_cons] at hs hf'
    obtain ⟨v, T1, e1, k1, h1⟩ := q_comes hg (show s < 32 by omega) m1 m3 m4 hM hu
    rw [f_M_table_L86, if_neg (nI_ge (by omega) (by omega)), e1, Option.bind_some]
    rcases h1 with ⟨rfl, u', he, hM'⟩ | ⟨rfl, he⟩
    · obtain ⟨T2, k2, h2⟩ := ih q (s + 1) f T1 u' har (by omega) (by omega) hM' (ef_ok hg hu he)
      have er : rn ((q, c, a, b) :: L) p s u = rn L q (s + 1) u' := by rw [rn, he]
      refine ⟨T2, k2.trans k1, ?_⟩
      rw [if_neg z10', nI_1, er]
      exact h2
    · have er : rn ((q, c, a, b) :: L) p s u = .inr (p, s) := by rw [rn, he]
      rw [if_pos rfl]
      exact ⟨T1, k1, Or.inr ⟨p, s, er, by omega, m2, rfl⟩⟩
theorem e_table {now tr : RS} {T : MT} {t : Tb} {len taped : Int32} {text tape : Nat → Int32} (at0 st0 : Int32) (A B C D : Nat → Int32) (hX : rX now t) (hM : rM T t) (hok : okT t) (hL : iL len taped text tape) : ∃ r now' tr' T' at' st' A' B' C' D' t', f_X_table now len text tr = some (r, now', 0, tr') ∧ f_M_table T taped at0 st0 tape A B C D = some (r, T', 0, at', st', A', B', C', D') ∧ okT t' ∧ rX now' t' ∧ rM T' t' ∧ ∀ j, j < 23 → m_kept T' j = m_kept T j := by
  obtain ⟨n, hn, rfl, rfl, hv⟩ := hL
  have h : tx n (fun i => (text i).toNatClampNeg) text tape := ⟨hn, fun i hi => by
    obtain ⟨v, hv, e1, e2⟩ := hv i hi
    have e : (text i).toNatClampNeg = v := by rw [e1]; exact nI_clamp (by omega)
    show (text i).toNatClampNeg ≤ 255 ∧ text i = nI (text i).toNatClampNeg ∧ tape i = nI (text i).toNatClampNeg
    rw [e]
    exact ⟨hv, e1, e2⟩⟩
  have hF : 66 ≤ FU := by unfold FU; omega
  obtain ⟨T1, d1, u1, k1, o1⟩ := keep1 hM hok
  unfold f_X_table f_Letters_carryOut f_Letters_placeOfBadForm f_M_table
  rcases q_L12 h (fun z_h_at_8 z_h_statements_8 z_h_letter_8 z_h_letterAt_8 z_h_one_8 z_h_two_8 x1_8 =>
  if x1_8 = 0 then
   some (((-1000) - z_h_at_8), T, 0, z_h_at_8, z_h_statements_8, z_h_letter_8, z_h_letterAt_8, z_h_one_8, z_h_two_8)
  else
   (f_M_passesAll T 1 1).bind fun q10 =>
   f_M_table_L86 0 z_h_at_8 z_h_statements_8 z_h_letter_8 z_h_letterAt_8 z_h_one_8 z_h_two_8 (fun z_h_T_14 x2_14 =>
    (f_M_passesAll z_h_T_14 1 0).bind fun q15 =>
    if x2_14 < 0 ∨ 32 ≤ x2_14.toNatClampNeg then none else
    some (((-2000) - (z_h_letterAt_8 x2_14.toNatClampNeg)), q15, 0, z_h_at_8, z_h_statements_8, z_h_letter_8, z_h_letterAt_8, z_h_one_8, z_h_two_8)) FU q10 0) 64 0 0 FU A B C D (by omega) (Nat.zero_le _) hF (by omega) (fun _ => rfl) with ⟨e, s', A', B', C', D', e1, he70, ha⟩ | ⟨L, A', B', C', D', e1, -, har, hL, ha⟩
  · have e1 : f_M_table_L12 (nI n) tape _ FU 0 0 A B C D 1 = _ := e1
    have e2 := ha FU (by omega)
    have e2 : f_Letters_placeOfBadForm_L4 (nI n) text FU 0 0 = some (nI e) := e2
    refine ⟨(-1000) - nI e, now, tr, T, nI e, s', A', B', C', D', t, ?_, Eq.trans e1 (if_pos rfl), hok, hX, hM, fun _ _ => rfl⟩
    rw [e2, Option.bind_some, if_neg (nI_pos (by omega)), Option.bind_some]
  · have e1 : f_M_table_L12 (nI n) tape _ FU 0 0 A B C D 1 = _ := e1
    have e2 := ha FU (by omega)
    have e2 : f_Letters_placeOfBadForm_L4 (nI n) text FU 0 0 = some (-1) := e2
    rw [Nat.zero_add] at e1 hL
    obtain ⟨z1, c1, r1⟩ := p_copyFrom tr now hX hok
    obtain ⟨z2, h2⟩ := p_L31 h now (fun z_h_trial_9 x3_9 => (f_Ring_copyFrom now z_h_trial_9).bind fun q10 => some (x3_9, z_h_trial_9, q10)) L 0 0 FU z1 t har (Nat.zero_le _) (by omega) r1 hok
    obtain ⟨T2, k2, h3⟩ := q_L86 0 (nI n) (fun z_h_T_14 x2_14 =>
    (f_M_passesAll z_h_T_14 1 0).bind fun q15 =>
    if x2_14 < 0 ∨ 32 ≤ x2_14.toNatClampNeg then none else
    some (((-2000) - (B' x2_14.toNatClampNeg)), q15, 0, nI n, nI L.length, A', B', C', D')) L.length hL L 0 0 FU T1 t har (Nat.zero_add _) (by omega) u1 hok
    rw [Nat.zero_add] at h2
    have eM : f_M_table_L12 (nI n) tape (fun z_h_at_8 z_h_statements_8 z_h_letter_8 z_h_letterAt_8 z_h_one_8 z_h_two_8 x1_8 =>
  if x1_8 = 0 then
   some (((-1000) - z_h_at_8), T, 0, z_h_at_8, z_h_statements_8, z_h_letter_8, z_h_letterAt_8, z_h_one_8, z_h_two_8)
  else
   (f_M_passesAll T 1 1).bind fun q10 =>
   f_M_table_L86 0 z_h_at_8 z_h_statements_8 z_h_letter_8 z_h_letterAt_8 z_h_one_8 z_h_two_8 (fun z_h_T_14 x2_14 =>
    (f_M_passesAll z_h_T_14 1 0).bind fun q15 =>
    if x2_14 < 0 ∨ 32 ≤ x2_14.toNatClampNeg then none else
    some (((-2000) - (z_h_letterAt_8 x2_14.toNatClampNeg)), q15, 0, z_h_at_8, z_h_statements_8, z_h_letter_8, z_h_letterAt_8, z_h_one_8, z_h_two_8)) FU q10 0) FU 0 0 A B C D 1 = f_M_table_L86 0 (nI n) (nI L.length) A' B' C' D' (fun z_h_T_14 x2_14 =>
    (f_M_passesAll z_h_T_14 1 0).bind fun q15 =>
    if x2_14 < 0 ∨ 32 ≤ x2_14.toNatClampNeg then none else
    some (((-2000) - (B' x2_14.toNatClampNeg)), q15, 0, nI n, nI L.length, A', B', C', D')) FU T1 0 := by
      refine Eq.trans e1 ?_
      show (if (1 : Int32) = 0 then _ else (f_M_passesAll T 1 1).bind _) = _
      rw [if_neg z10', d1]
      rfl
    rw [e2, Option.bind_some, if_pos (by decide), c1, Option.bind_some, eM]
    rcases h2 with ⟨u', er, hu', hX', e3⟩ | ⟨pj, sj, er, e3⟩
    · have e3 : f_Letters_carryOut_L31 (nI n) text now _ FU z1 0 0 0 = _ := e3
      rcases h3 with ⟨u2, er2, hM2, e4⟩ | ⟨pj, sj, er2, -⟩
      · have e4 : f_M_table_L86 0 (nI n) (nI L.length) A' B' C' D' _ FU T1 0 = _ := e4
        rw [er] at er2
        cases er2
        obtain ⟨z3, c3, r3⟩ := p_copyFrom now z2 hX' hu'
        refine ⟨nI L.length, z3, z2, T2, nI n, nI L.length, A', B', C', D', u', ?_, e4, hu', r3, hM2, fun j hj => by rw [k2]; exact o1 j (by omega)⟩
        rw [e3]
        show ((f_Ring_copyFrom now z2).bind _).bind _ = _
        rw [c3]
        rfl
      · rw [er] at er2
        exact absurd er2 (by simp)
    · have e3 : f_Letters_carryOut_L31 (nI n) text now _ FU z1 0 0 0 = _ := e3
      rcases h3 with ⟨u2, er2, -, -⟩ | ⟨pj2, sj2, er2, hs32, hB, e4⟩
      · rw [er] at er2
        exact absurd er2 (by simp)
      · have e4 : f_M_table_L86 0 (nI n) (nI L.length) A' B' C' D' _ FU T1 0 = _ := e4
        rw [er] at er2
        cases er2
        obtain ⟨T3, d3, u3, o3⟩ := back1 (z := T2) (t := t) (by rw [k2]; exact k1) hok
        refine ⟨(-2000) - nI pj, now, z2, T3, nI n, nI L.length, A', B', C', D', t, ?_, ?_, hok, hX, u3, fun j hj => by rw [o3, k2]; exact o1 j (by omega)⟩
        · rw [e3]
          rfl
        · refine Eq.trans e4 ?_
          show (f_M_passesAll T2 1 0).bind _ = _
          rw [d3, Option.bind_some, if_neg (ix_b hs32 (by omega)), nI_clamp (by omega), hB]
