/-! Pure: TABLE: whether letters are a table, on both sides. -/
theorem bh_d {v : Nat} (hv : v ≤ 255) (hd : 48 ≤ v ∧ v ≤ 57) : f_Letters_behind 2 (nI v) = some 3 ∧ f_Letters_behind 3 (nI v) = some 4 ∧ f_Letters_behind 4 (nI v) = some 5 ∧ f_Letters_behind 6 (nI v) = some 7 ∧ f_Letters_behind 7 (nI v) = some 5 := by
  have e := p_dig hv
  rw [if_pos hd] at e
  unfold f_Letters_behind
  refine ⟨?_, ?_, ?_, ?_, ?_⟩
  · rw [if_neg (by decide), if_neg (by decide), if_pos rfl, e, Option.bind_some, if_neg z10']
  · rw [if_neg (by decide), if_neg (by decide), if_neg (by decide), if_pos rfl, e, Option.bind_some, if_neg z10']
  · rw [if_neg (by decide), if_neg (by decide), if_neg (by decide), if_neg (by decide), if_pos rfl, e, Option.bind_some, if_neg z10']
  · rw [if_neg (by decide), if_neg (by decide), if_neg (by decide), if_neg (by decide), if_neg (by decide), if_neg (by decide), if_pos rfl, e, Option.bind_some, if_neg z10']
  · rw [if_neg (by decide), if_neg (by decide), if_neg (by decide), if_neg (by decide), if_neg (by decide), if_neg (by decide), if_neg (by decide), if_pos rfl, e, Option.bind_some, if_neg z10']
theorem bh_e (v : Nat) (hv : v ≤ 255) : f_Letters_behindEnd (nI v) = some (if v = 59 then 0 else -1) := by
  unfold f_Letters_behindEnd
  by_cases h : v = 59
  · have g : nI v = 59 := congrArg nI h
    rw [if_pos h, if_pos g]
  · have g : ¬ nI v = 59 := fun q => h ((nI_eq (b := 59) (by omega) (by omega)).mp q)
    rw [if_neg h, if_neg g]
theorem bh_n {v : Nat} (hv : v ≤ 255) (hd : ¬ (48 ≤ v ∧ v ≤ 57)) : f_Letters_behind 2 (nI v) = some (-1) ∧ f_Letters_behind 3 (nI v) = some (if v = 59 then 0 else -1) ∧ f_Letters_behind 4 (nI v) = some (if v = 59 then 0 else -1) ∧ f_Letters_behind 6 (nI v) = some (-1) ∧ f_Letters_behind 7 (nI v) = some (-1) := by
  have e := p_dig hv
  have e2 := bh_e v hv
  rw [if_neg hd] at e
  unfold f_Letters_behind
  refine ⟨?_, ?_, ?_, ?_, ?_⟩
  · rw [if_neg (by decide), if_neg (by decide), if_pos rfl, e, Option.bind_some, if_pos rfl]
  · rw [if_neg (by decide), if_neg (by decide), if_neg (by decide), if_pos rfl, e, Option.bind_some, if_pos rfl, e2, Option.bind_some]
  · rw [if_neg (by decide), if_neg (by decide), if_neg (by decide), if_neg (by decide), if_pos rfl, e, Option.bind_some, if_pos rfl, e2, Option.bind_some]
  · rw [if_neg (by decide), if_neg (by decide), if_neg (by decide), if_neg (by decide), if_neg (by decide), if_neg (by decide), if_pos rfl, e, Option.bind_some, if_pos rfl]
  · rw [if_neg (by decide), if_neg (by decide), if_neg (by decide), if_neg (by decide), if_neg (by decide), if_neg (by decide), if_neg (by decide), if_pos rfl, e, Option.bind_some, if_pos rfl]
theorem bh_5 {v : Nat} (hv : v ≤ 255) : f_Letters_behind 5 (nI v) = some (if v = 59 then 0 else -1) := by
  unfold f_Letters_behind
  rw [if_neg (by decide), if_neg (by decide), if_neg (by decide), if_neg (by decide), if_neg (by decide), if_pos rfl, bh_e v hv, Option.bind_some]
theorem a_step {n : Nat} {V : Nat → Nat} {text tape : Nat → Int32} (h : tx n V text tape) {i : Nat} (hi : i < n) {s q : Int32} (e : f_Letters_behind s (nI (V i)) = some q) (f : Nat) : f_Letters_placeOfBadForm_L4 (nI n) text (f + 1) s (nI i) = if q = -1 then some (nI i) else f_Letters_placeOfBadForm_L4 (nI n) text f q (nI (i + 1)) := by
  have h64 := h.1
  rw [f_Letters_placeOfBadForm_L4, if_neg (nI_ge hi (by omega)), if_neg (ix_b (show i < 64 by omega) (by omega)), nI_clamp (by omega), (h.2 i hi).2.1, e, Option.bind_some, nI_1]
theorem a_end {n : Nat} {V : Nat → Nat} {text tape : Nat → Int32} (h : tx n V text tape) {s : Int32} (hs : ¬ s = 0) (f : Nat) : f_Letters_placeOfBadForm_L4 (nI n) text (f + 1) s (nI n) = some (nI n) := by
  have h64 := h.1
  rw [f_Letters_placeOfBadForm_L4, if_pos (nI_le (Nat.le_refl _) (by omega)), if_neg hs, ite_self]
theorem a_d {n : Nat} {V : Nat → Nat} {text tape : Nat → Int32} (h : tx n V text tape) {i : Nat} (hi : iD n V i) (fuel : Nat) (hf : n - i + 1 ≤ fuel) (s s' : Int32) (hs : (s = 2 ∧ s' = 3) ∨ (s = 3 ∧ s' = 4) ∨ (s = 4 ∧ s' = 5) ∨ (s = 6 ∧ s' = 7) ∨ (s = 7 ∧ s' = 5)) : ∃ fuel', n - (i + 1) + 1 ≤ fuel' ∧ f_Letters_placeOfBadForm_L4 (nI n) text fuel s (nI i) = f_Letters_placeOfBadForm_L4 (nI n) text fuel' s' (nI (i + 1)) := by
  obtain ⟨f, rfl, -⟩ := f_suc (d := n - i) (f := fuel) (by omega)
  have hv := (h.2 i hi.1).1
  obtain ⟨b2, b3, b4, b6, b7⟩ := bh_d hv hi.2
  refine ⟨f, by have := hi.1; omega, ?_⟩
  rcases hs with ⟨rfl, rfl⟩ | ⟨rfl, rfl⟩ | ⟨rfl, rfl⟩ | ⟨rfl, rfl⟩ | ⟨rfl, rfl⟩
  · rw [a_step h hi.1 b2, if_neg (by decide)]
  · rw [a_step h hi.1 b3, if_neg (by decide)]
  · rw [a_step h hi.1 b4, if_neg (by decide)]
  · rw [a_step h hi.1 b6, if_neg (by decide)]
  · rw [a_step h hi.1 b7, if_neg (by decide)]
theorem a_nd {n : Nat} {V : Nat → Nat} {text tape : Nat → Int32} (h : tx n V text tape) {i : Nat} (hi : ¬ iD n V i) (hn : i ≤ n) (fuel : Nat) (hf : n - i + 1 ≤ fuel) (s : Int32) (hs : s = 2 ∨ s = 6 ∨ s = 7) : f_Letters_placeOfBadForm_L4 (nI n) text fuel s (nI i) = some (nI i) := by
  obtain ⟨f, rfl, -⟩ := f_suc (d := n - i) (f := fuel) (by omega)
  by_cases hlt : i < n
  · have hv := (h.2 i hlt).1
    obtain ⟨b2, b3, b4, b6, b7⟩ := bh_n hv (fun q => hi ⟨hlt, q⟩)
    rcases hs with rfl | rfl | rfl
    · rw [a_step h hlt b2, if_pos rfl]
    · rw [a_step h hlt b6, if_pos rfl]
    · rw [a_step h hlt b7, if_pos rfl]
  · obtain rfl : i = n := by omega
    rcases hs with rfl | rfl | rfl <;> exact a_end h (by decide) f
theorem a_tail {n : Nat} {V : Nat → Nat} {text tape : Nat → Int32} (h : tx n V text tape) {i : Nat} (hn : i ≤ n) (fuel : Nat) (hf : n - i + 1 ≤ fuel) (s : Int32) (hs : (s = 3 ∧ ¬ iD n V i) ∨ (s = 4 ∧ ¬ iD n V i) ∨ s = 5) : (i < n ∧ V i = 59 → ∃ fuel', n - (i + 1) + 1 ≤ fuel' ∧ f_Letters_placeOfBadForm_L4 (nI n) text fuel s (nI i) = f_Letters_placeOfBadForm_L4 (nI n) text fuel' 0 (nI (i + 1))) ∧ (¬ (i < n ∧ V i = 59) → f_Letters_placeOfBadForm_L4 (nI n) text fuel s (nI i) = some (nI i)) := by
  obtain ⟨f, rfl, -⟩ := f_suc (d := n - i) (f := fuel) (by omega)
  by_cases hlt : i < n
  · have hv := (h.2 i hlt).1
    have e : f_Letters_behind s (nI (V i)) = some (if V i = 59 then 0 else -1) := by
      rcases hs with ⟨rfl, hd⟩ | ⟨rfl, hd⟩ | rfl
      · exact (bh_n hv (fun q => hd ⟨hlt, q⟩)).2.1
      · exact (bh_n hv (fun q => hd ⟨hlt, q⟩)).2.2.1
      · exact bh_5 hv
    refine ⟨fun q => ⟨f, by omega, ?_⟩, fun q => ?_⟩
    · rw [a_step h hlt e, if_pos q.2, if_neg (by decide)]
    · rw [a_step h hlt e, if_neg (fun e => q ⟨hlt, e⟩), if_pos rfl]
  · obtain rfl : i = n := by omega
    refine ⟨fun q => absurd q.1 hlt, fun _ => a_end h ?_ f⟩
    rcases hs with ⟨rfl, -⟩ | ⟨rfl, -⟩ | rfl <;> decide
theorem a_num {n : Nat} {V : Nat → Nat} {text tape : Nat → Int32} (h : tx n V text tape) {p c : Nat} (h1 : 1 ≤ c) (h3 : c ≤ 3) (hD : ∀ i, i < c → iD n V (p + i)) (hN : c < 3 → ¬ iD n V (p + c)) (fuel : Nat) (hf : n - p + 1 ≤ fuel) : (p + c < n ∧ V (p + c) = 59 → ∃ fuel', n - (p + c + 1) + 1 ≤ fuel' ∧ f_Letters_placeOfBadForm_L4 (nI n) text fuel 2 (nI p) = f_Letters_placeOfBadForm_L4 (nI n) text fuel' 0 (nI (p + c + 1))) ∧ (¬ (p + c < n ∧ V (p + c) = 59) → f_Letters_placeOfBadForm_L4 (nI n) text fuel 2 (nI p) = some (nI (p + c))) := by
  have d0 := hD 0 (by omega)
  obtain ⟨f1, g1, e1⟩ := a_d h d0 fuel hf 2 3 (Or.inl ⟨rfl, rfl⟩)
  have e1 : f_Letters_placeOfBadForm_L4 (nI n) text fuel 2 (nI p) = f_Letters_placeOfBadForm_L4 (nI n) text f1 3 (nI (p + 1)) := e1
  have l0 : p < n := d0.1
  rw [e1]
  by_cases c1 : c = 1
  · rw [c1]
    exact a_tail h (by omega) f1 g1 3 (Or.inl ⟨rfl, by have := hN (by omega); rw [c1] at this; exact this⟩)
  · have d1 := hD 1 (by omega)
    have l1 : p + 1 < n := d1.1
    obtain ⟨f2, g2, e2⟩ := a_d h d1 f1 g1 3 4 (Or.inr (Or.inl ⟨rfl, rfl⟩))
    rw [e2]
    by_cases c2 : c = 2
    · rw [c2]
      exact a_tail h (by omega) f2 g2 4 (Or.inr (Or.inl ⟨rfl, by have := hN (by omega); rw [c2] at this; exact this⟩))
    · obtain rfl : c = 3 := by omega
      have d2 := hD 2 (by omega)
      have l2 : p + 2 < n := d2.1
      obtain ⟨f3, g3, e3⟩ := a_d h (i := p + 1 + 1) d2 f2 g2 4 5 (Or.inr (Or.inr (Or.inl ⟨rfl, rfl⟩)))
      rw [e3]
      exact a_tail h (i := p + 3) (by omega) f3 g3 5 (Or.inr (Or.inr rfl))
theorem bh_0 {v : Nat} (hv : v ≤ 255) : f_Letters_behind 0 (nI v) = some (if v = 99 then 1 else if v = 103 then 2 else if v = 108 then 6 else -1) := by
  have g : ∀ k : Nat, k < 256 → ((nI v = nI k) ↔ v = k) := fun k hk => nI_eq (by omega) (by omega)
  have e : f_Letters_behindStart (nI v) = some (if v = 99 then 1 else if v = 103 then 2 else if v = 108 then 6 else -1) := by
    unfold f_Letters_behindStart
    by_cases h1 : v = 99
    · have k0 : nI v = 99 := congrArg nI h1
      rw [if_pos h1, if_pos k0]
    · have k1 : ¬ nI v = 99 := fun q => h1 ((g 99 (by omega)).mp q)
      rw [if_neg h1, if_neg k1]
      by_cases h2 : v = 103
      · have k0 : nI v = 103 := congrArg nI h2
        rw [if_pos h2, if_pos k0]
      · have k2 : ¬ nI v = 103 := fun q => h2 ((g 103 (by omega)).mp q)
        rw [if_neg h2, if_neg k2]
        by_cases h3 : v = 108
        · have k0 : nI v = 108 := congrArg nI h3
          rw [if_pos h3, if_pos k0]
        · have k3 : ¬ nI v = 108 := fun q => h3 ((g 108 (by omega)).mp q)
          rw [if_neg h3, if_neg k3]
  unfold f_Letters_behind
  rw [if_pos rfl, e, Option.bind_some]
