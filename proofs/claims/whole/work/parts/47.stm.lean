/-! Pure: TABLE: one STATEMENT, on both sides. -/
def gS (n : Nat) (V : Nat → Nat) (text : Nat → Int32) (p q c a b : Nat) : Prop := p + 3 ≤ q ∧ q ≤ n ∧ V (q - 1) = 59 ∧ (∀ i, p ≤ i → i + 1 < q → V i ≠ 59) ∧ V p = c ∧
  ((c = 99 ∧ a ≤ 6 ∧ b ≤ 999 ∧ f_M_kindOf (nI (V (p + 1))) = some (nI a) ∧ f_Letters_number (nI n) text (nI (p + 2)) (nI (q - 1)) = some (nI b)) ∨ (c = 103 ∧ a ≤ 999 ∧ f_Letters_number (nI n) text (nI (p + 1)) (nI (q - 1)) = some (nI a)) ∨ (c = 108 ∧ a ≤ 9 ∧ b ≤ 9 ∧ f_Letters_number (nI n) text (nI (p + 1)) (nI (p + 2)) = some (nI a) ∧ f_Letters_number (nI n) text (nI (p + 2)) (nI (q - 1)) = some (nI b)))
theorem upd_s (f : Nat → Int32) (k : Nat) (v : Int32) : upd f k v k = v := if_pos rfl
theorem upd_ne (f : Nat → Int32) {k j : Nat} (v : Int32) (h : ¬ j = k) : upd f k v j = f j := if_neg h
theorem nx59 {n i : Nat} {V : Nat → Nat} (hv : i < n → V i ≤ 255) : ((if i < n then nI (V i) else -1) = (59 : Int32)) = (i < n ∧ V i = 59) := by
  by_cases h : i < n
  · have := hv h
    rw [if_pos h]
    exact propext ⟨fun q => ⟨h, (nI_eq (b := 59) (by omega) (by omega)).mp q⟩, fun q => congrArg nI q.2⟩
  · rw [if_neg h]
    exact propext ⟨fun q => absurd q (by decide), fun q => absurd q.1 h⟩
/-- the arrays up to the s-th stay -/
def same4 (s : Nat) (A B C D A' B' C' D' : Nat → Int32) : Prop := ∀ i, i < s → A' i = A i ∧ B' i = B i ∧ C' i = C i ∧ D' i = D i
theorem stm {n : Nat} {V : Nat → Nat} {text tape : Nat → Int32} (h : tx n V text tape) {p s : Nat} (hp : p ≤ n) (hs : s < 32) (A B C D : Nat → Int32) :
    (∃ e A' B' C' D', f_M_statement (nI n) (nI p) (nI s) tape A B C D = some (0, nI e, A', B', C', D') ∧ e ≤ 70 ∧ ((p < n ∨ n = 0) → ∀ fuel, n - p + 1 ≤ fuel → f_Letters_placeOfBadForm_L4 (nI n) text fuel 0 (nI p) = some (nI e))) ∨
    (∃ q c a b A' B' C' D', f_M_statement (nI n) (nI p) (nI s) tape A B C D = some (1, nI q, A', B', C', D') ∧ same4 s A B C D A' B' C' D' ∧ A' s = nI c ∧ B' s = nI p ∧ C' s = nI a ∧ D' s = nI b ∧ gS n V text p q c a b ∧ ∀ fuel, n - p + 1 ≤ fuel → ∃ fuel', n - q + 1 ≤ fuel' ∧ f_Letters_placeOfBadForm_L4 (nI n) text fuel 0 (nI p) = f_Letters_placeOfBadForm_L4 (nI n) text fuel' 0 (nI q)) := by
  have h64 := h.1
  have gs : ¬ (nI s < 0 ∨ 32 ≤ (nI s).toNatClampNeg) := ix_b hs (by omega)
  have ks : (nI s).toNatClampNeg = s := nI_clamp (by omega)
  have sm4 : ∀ (v1 v2 v3 v4 : Int32), same4 s A B C D (upd A s v1) (upd B s v2) (upd C s v3) (upd D s v4) := fun v1 v2 v3 v4 i hi => ⟨upd_ne A v1 (by omega), upd_ne B v2 (by omega), upd_ne C v3 (by omega), upd_ne D v4 (by omega)⟩
  unfold f_M_statement
  rw [q_nx h (by omega), Option.bind_some]
  by_cases hlt : p < n
  · rw [if_pos hlt]
    have hv := (h.2 p hlt).1
    have b0 := bh_0 hv
    by_cases c1 : V p = 99
    · have k1 : nI (V p) = 99 := congrArg nI c1
      rw [if_pos k1, if_neg gs, ks, nI_1, q_nx h (by omega), Option.bind_some]
      rw [if_pos c1] at b0
      have kr : ∃ r, f_M_kindOf (if p + 1 < n then nI (V (p + 1)) else -1) = some r ∧ ((r = -1 ∧ ∀ fuel, n - p + 1 ≤ fuel → f_Letters_placeOfBadForm_L4 (nI n) text fuel 0 (nI p) = some (nI (p + 1))) ∨ ∃ a, a ≤ 6 ∧ r = nI a ∧ p + 1 < n ∧ ¬ V (p + 1) = 59 ∧ f_M_kindOf (nI (V (p + 1))) = some (nI a) ∧ ∀ fuel, n - p + 1 ≤ fuel → ∃ fuel', n - (p + 2) + 1 ≤ fuel' ∧ f_Letters_placeOfBadForm_L4 (nI n) text fuel 0 (nI p) = f_Letters_placeOfBadForm_L4 (nI n) text fuel' 2 (nI (p + 2))) := by
        by_cases l1 : p + 1 < n
        · have hv1 := (h.2 (p + 1) l1).1
          rw [if_pos l1]
          rcases kd_c (V (p + 1)) (by omega) with e | ⟨n59, a, e⟩
          · refine ⟨-1, e, Or.inl ⟨rfl, fun fuel hf => ?_⟩⟩
            obtain ⟨f, rfl, -⟩ := f_suc (d := 0) (f := fuel) (by omega)
            obtain ⟨f, rfl, -⟩ := f_suc (d := 0) (f := f) (by omega)
            have b1 := bh_1 hv1 e
            rw [if_pos (by decide)] at b1
            rw [a_step h hlt b0, if_neg (by decide), a_step h l1 b1, if_pos rfl]
          · have ha := a.2
            refine ⟨nI a, e, Or.inr ⟨a, by omega, rfl, l1, n59, e, fun fuel hf => ?_⟩⟩
            obtain ⟨f, rfl, -⟩ := f_suc (d := 0) (f := fuel) (by omega)
            obtain ⟨f, rfl, -⟩ := f_suc (d := 0) (f := f) (by omega)
            have b1 := bh_1 hv1 e
            rw [if_neg (nI_pos (by omega))] at b1
            refine ⟨f, by omega, ?_⟩
            rw [a_step h hlt b0, if_neg (by decide), a_step h l1 b1, if_neg (by decide)]
        · rw [if_neg l1]
          refine ⟨-1, by decide, Or.inl ⟨rfl, fun fuel hf => ?_⟩⟩
          obtain ⟨f, rfl, -⟩ := f_suc (d := 0) (f := fuel) (by omega)
          obtain ⟨f, rfl, -⟩ := f_suc (d := 0) (f := f) (by omega)
          have hpn : p + 1 = n := by omega
          rw [a_step h hlt b0, if_neg (by decide), hpn]
          exact a_end h (by decide) f
      obtain ⟨r, er, hr⟩ := kr
      rw [er, Option.bind_some, upd_s]
      rcases hr with ⟨rfl, hA⟩ | ⟨a, ha, rfl, l1, n59, ek, hA⟩
      · rw [if_neg (by decide)]
        exact Or.inl ⟨p + 1, _, _, _, _, rfl, by omega, fun _ => hA⟩
      · rw [if_pos (nI_pos' (by omega)), nI_1]
        rcases q_number h 3 (by omega) (by omega) (p := p + 2) (by omega) with ⟨nd, en⟩ | ⟨c, v, h1, h3, hD, hN, hv10, en, en2⟩
        · have en : f_M_number (nI n) (nI (p + 1 + 1)) tape 3 = _ := en
          rw [en, Option.bind_some, upd_s, if_neg (show ¬ (0 : Int32) ≤ -1 by decide)]
          refine Or.inl ⟨p + 2, _, _, _, _, rfl, by omega, fun _ fuel hf => ?_⟩
          obtain ⟨f', hf', e'⟩ := hA fuel hf
          rw [e']
          exact a_nd h nd (by omega) f' hf' 2 (Or.inl rfl)
        · have en : f_M_number (nI n) (nI (p + 1 + 1)) tape 3 = _ := en
          have h10 : 10 ^ c ≤ 10 ^ 3 := Nat.pow_le_pow_right (by decide) h3
          have h1000 : 10 ^ 3 = 1000 := by decide
          have dl := hD (c - 1) (by omega)
          have dln : p + 2 + (c - 1) < n := dl.1
          rw [en, Option.bind_some, upd_s, if_pos (nI_pos' (show v < 2 ^ 31 by omega)), q_nx h (show p + 2 + c ≤ 70 by omega), Option.bind_some]
          by_cases q : p + 2 + c < n ∧ V (p + 2 + c) = 59
          · have q' : (if p + 2 + c < n then nI (V (p + 2 + c)) else -1) = (59 : Int32) := by rw [nx59 (fun hh => (h.2 _ hh).1)]; exact q
            rw [if_pos q', nI_1]
            refine Or.inr ⟨p + 2 + c + 1, 99, a, v, _, _, _, _, rfl, sm4 _ _ _ _, (upd_s _ _ _).trans k1, upd_s _ _ _, upd_s _ _ _, upd_s _ _ _, ⟨by omega, by omega, q.2, fun i h1 h2 => ?_, c1, Or.inl ⟨rfl, ha, by omega, ek, en2⟩⟩, fun fuel hf => ?_⟩
            · by_cases i0 : i = p
              · rw [i0, c1]; decide
              · by_cases i1 : i = p + 1
                · rw [i1]; exact n59
                · have := hD (i - (p + 2)) (by omega)
                  rw [show p + 2 + (i - (p + 2)) = i by omega] at this
                  have := this.2
                  omega
            · obtain ⟨f', hf', e'⟩ := hA fuel hf
              obtain ⟨f2, hf2, e2⟩ := (a_num h h1 h3 hD hN f' hf').1 q
              exact ⟨f2, hf2, e'.trans e2⟩
          · have q' : ¬ (if p + 2 + c < n then nI (V (p + 2 + c)) else -1) = (59 : Int32) := by rw [nx59 (fun hh => (h.2 _ hh).1)]; exact q
            rw [if_neg q']
            refine Or.inl ⟨p + 2 + c, _, _, _, _, rfl, by omega, fun _ fuel hf => ?_⟩
            obtain ⟨f', hf', e'⟩ := hA fuel hf
            rw [e']
            exact (a_num h h1 h3 hD hN f' hf').2 q
    · have k1 : ¬ nI (V p) = 99 := fun q => c1 ((nI_eq (b := 99) (by omega) (by omega)).mp q)
      rw [if_neg k1]
      rw [if_neg c1] at b0
      by_cases c2 : V p = 108
      · have k2 : nI (V p) = 108 := congrArg nI c2
        rw [if_pos k2, if_neg gs, ks, nI_1]
        rw [if_neg (by omega), if_pos c2] at b0
        have hA : ∀ fuel, n - p + 1 ≤ fuel → ∃ fuel', n - (p + 1) + 1 ≤ fuel' ∧ f_Letters_placeOfBadForm_L4 (nI n) text fuel 0 (nI p) = f_Letters_placeOfBadForm_L4 (nI n) text fuel' 6 (nI (p + 1)) := fun fuel hf => by
          obtain ⟨f, rfl, -⟩ := f_suc (d := 0) (f := fuel) (by omega)
          exact ⟨f, by omega, by rw [a_step h hlt b0, if_neg (by decide)]⟩
        rcases q_number h 1 (by omega) (by omega) (p := p + 1) (by omega) with ⟨nd, en⟩ | ⟨c, v, h1, h3, hD, hN, hv10, en, en2⟩
        · have en : f_M_number (nI n) (nI (p + 1)) tape 1 = _ := en
          rw [en, Option.bind_some, upd_s, if_neg (show ¬ (0 : Int32) ≤ -1 by decide)]
          refine Or.inl ⟨p + 1, _, _, _, _, rfl, by omega, fun _ fuel hf => ?_⟩
          obtain ⟨f', hf', e'⟩ := hA fuel hf
          rw [e']
          exact a_nd h nd (by omega) f' hf' 6 (Or.inr (Or.inl rfl))
        · obtain rfl : c = 1 := by omega
          have en : f_M_number (nI n) (nI (p + 1)) tape 1 = some (nI v, nI (p + 2)) := en
          have en2 : f_Letters_number (nI n) text (nI (p + 1)) (nI (p + 2)) = some (nI v) := en2
          have d0 : iD n V (p + 1) := hD 0 (by omega)
          have l0 := d0.1
          have hA2 : ∀ fuel, n - p + 1 ≤ fuel → ∃ fuel', n - (p + 2) + 1 ≤ fuel' ∧ f_Letters_placeOfBadForm_L4 (nI n) text fuel 0 (nI p) = f_Letters_placeOfBadForm_L4 (nI n) text fuel' 7 (nI (p + 2)) := fun fuel hf => by
            obtain ⟨f', hf', e'⟩ := hA fuel hf
            obtain ⟨f2, hf2, e2⟩ := a_d h d0 f' hf' 6 7 (Or.inr (Or.inr (Or.inr (Or.inl ⟨rfl, rfl⟩))))
            exact ⟨f2, hf2, e'.trans e2⟩
          rw [en, Option.bind_some, upd_s, if_pos (nI_pos' (show v < 2 ^ 31 by omega))]
          rcases q_number h 1 (by omega) (by omega) (p := p + 2) (by omega) with ⟨nd, em⟩ | ⟨c, w, g1, g3, gD, gN, hw10, em, em2⟩
          · have em : f_M_number (nI n) (nI (p + 2)) tape 1 = _ := em
            rw [em, Option.bind_some, upd_s, if_neg (show ¬ (0 : Int32) ≤ -1 by decide)]
            refine Or.inl ⟨p + 2, _, _, _, _, rfl, by omega, fun _ fuel hf => ?_⟩
            obtain ⟨f', hf', e'⟩ := hA2 fuel hf
            rw [e']
            exact a_nd h nd (by omega) f' hf' 7 (Or.inr (Or.inr rfl))
          · obtain rfl : c = 1 := by omega
            have em : f_M_number (nI n) (nI (p + 2)) tape 1 = some (nI w, nI (p + 3)) := em
            have em2 : f_Letters_number (nI n) text (nI (p + 2)) (nI (p + 3)) = some (nI w) := em2
            have d1 : iD n V (p + 2) := gD 0 (by omega)
            have l1 := d1.1
            have hA3 : ∀ fuel, n - p + 1 ≤ fuel → ∃ fuel', n - (p + 3) + 1 ≤ fuel' ∧ f_Letters_placeOfBadForm_L4 (nI n) text fuel 0 (nI p) = f_Letters_placeOfBadForm_L4 (nI n) text fuel' 5 (nI (p + 3)) := fun fuel hf => by
              obtain ⟨f', hf', e'⟩ := hA2 fuel hf
              obtain ⟨f2, hf2, e2⟩ := a_d h d1 f' hf' 7 5 (Or.inr (Or.inr (Or.inr (Or.inr ⟨rfl, rfl⟩))))
              exact ⟨f2, hf2, e'.trans e2⟩
            rw [em, Option.bind_some, upd_s, if_pos (nI_pos' (show w < 2 ^ 31 by omega)), q_nx h (show p + 3 ≤ 70 by omega), Option.bind_some]
            by_cases q : p + 3 < n ∧ V (p + 3) = 59
            · have q' : (if p + 3 < n then nI (V (p + 3)) else -1) = (59 : Int32) := by rw [nx59 (fun hh => (h.2 _ hh).1)]; exact q
              rw [if_pos q', nI_1]
              refine Or.inr ⟨p + 3 + 1, 108, v, w, _, _, _, _, rfl, sm4 _ _ _ _, (upd_s _ _ _).trans k2, upd_s _ _ _, upd_s _ _ _, upd_s _ _ _, ⟨by omega, by omega, q.2, fun i h1 h2 => ?_, c2, Or.inr (Or.inr ⟨rfl, by omega, by omega, en2, em2⟩)⟩, fun fuel hf => ?_⟩
              · by_cases i0 : i = p
                · rw [i0, c2]; decide
                · by_cases i1 : i = p + 1
                  · rw [i1]
                    have := d0.2
                    omega
                  · have i2 : i = p + 2 := by omega
                    rw [i2]
                    have := d1.2
                    omega
              · obtain ⟨f', hf', e'⟩ := hA3 fuel hf
                obtain ⟨f2, hf2, e2⟩ := (a_tail h (by omega) f' hf' 5 (Or.inr (Or.inr rfl))).1 q
                exact ⟨f2, hf2, e'.trans e2⟩
            · have q' : ¬ (if p + 3 < n then nI (V (p + 3)) else -1) = (59 : Int32) := by rw [nx59 (fun hh => (h.2 _ hh).1)]; exact q
              rw [if_neg q']
              refine Or.inl ⟨p + 3, _, _, _, _, rfl, by omega, fun _ fuel hf => ?_⟩
              obtain ⟨f', hf', e'⟩ := hA3 fuel hf
              rw [e']
              exact (a_tail h (by omega) f' hf' 5 (Or.inr (Or.inr rfl))).2 q
      · have k2 : ¬ nI (V p) = 108 := fun q => c2 ((nI_eq (b := 108) (by omega) (by omega)).mp q)
        rw [if_neg k2]
        by_cases c3 : V p = 103
        · have k3 : nI (V p) = 103 := congrArg nI c3
          rw [if_pos k3, if_neg gs, ks, nI_1]
          rw [if_pos c3] at b0
          have hA : ∀ fuel, n - p + 1 ≤ fuel → ∃ fuel', n - (p + 1) + 1 ≤ fuel' ∧ f_Letters_placeOfBadForm_L4 (nI n) text fuel 0 (nI p) = f_Letters_placeOfBadForm_L4 (nI n) text fuel' 2 (nI (p + 1)) := fun fuel hf => by
            obtain ⟨f, rfl, -⟩ := f_suc (d := 0) (f := fuel) (by omega)
            exact ⟨f, by omega, by rw [a_step h hlt b0, if_neg (by decide)]⟩
          rcases q_number h 3 (by omega) (by omega) (p := p + 1) (by omega) with ⟨nd, en⟩ | ⟨c, v, h1, h3, hD, hN, hv10, en, en2⟩
          · have en : f_M_number (nI n) (nI (p + 1)) tape 3 = _ := en
            rw [en, Option.bind_some, upd_s, if_neg (show ¬ (0 : Int32) ≤ -1 by decide)]
            refine Or.inl ⟨p + 1, _, _, _, _, rfl, by omega, fun _ fuel hf => ?_⟩
            obtain ⟨f', hf', e'⟩ := hA fuel hf
            rw [e']
            exact a_nd h nd (by omega) f' hf' 2 (Or.inl rfl)
          · have en : f_M_number (nI n) (nI (p + 1)) tape 3 = _ := en
            have h10 : 10 ^ c ≤ 10 ^ 3 := Nat.pow_le_pow_right (by decide) h3
            have h1000 : 10 ^ 3 = 1000 := by decide
            have dl := hD (c - 1) (by omega)
            have dln : p + 1 + (c - 1) < n := dl.1
            rw [en, Option.bind_some, upd_s, if_pos (nI_pos' (show v < 2 ^ 31 by omega)), upd_s, if_pos (by decide), q_nx h (show p + 1 + c ≤ 70 by omega), Option.bind_some]
            by_cases q : p + 1 + c < n ∧ V (p + 1 + c) = 59
            · have q' : (if p + 1 + c < n then nI (V (p + 1 + c)) else -1) = (59 : Int32) := by rw [nx59 (fun hh => (h.2 _ hh).1)]; exact q
              rw [if_pos q', nI_1]
              refine Or.inr ⟨p + 1 + c + 1, 103, v, 0, _, _, _, _, rfl, sm4 _ _ _ _, (upd_s _ _ _).trans k3, upd_s _ _ _, upd_s _ _ _, upd_s _ _ _, ⟨by omega, by omega, q.2, fun i h1 h2 => ?_, c3, Or.inr (Or.inl ⟨rfl, by omega, en2⟩)⟩, fun fuel hf => ?_⟩
              · by_cases i0 : i = p
                · rw [i0, c3]; decide
                · have := hD (i - (p + 1)) (by omega)
                  rw [show p + 1 + (i - (p + 1)) = i by omega] at this
                  have := this.2
                  omega
              · obtain ⟨f', hf', e'⟩ := hA fuel hf
                obtain ⟨f2, hf2, e2⟩ := (a_num h h1 h3 hD hN f' hf').1 q
                exact ⟨f2, hf2, e'.trans e2⟩
            · have q' : ¬ (if p + 1 + c < n then nI (V (p + 1 + c)) else -1) = (59 : Int32) := by rw [nx59 (fun hh => (h.2 _ hh).1)]; exact q
              rw [if_neg q']
              refine Or.inl ⟨p + 1 + c, _, _, _, _, rfl, by omega, fun _ fuel hf => ?_⟩
              obtain ⟨f', hf', e'⟩ := hA fuel hf
              rw [e']
              exact (a_num h h1 h3 hD hN f' hf').2 q
        · have k3 : ¬ nI (V p) = 103 := fun q => c3 ((nI_eq (b := 103) (by omega) (by omega)).mp q)
          rw [if_neg k3]
          rw [if_neg c3, if_neg c2] at b0
          refine Or.inl ⟨p, _, _, _, _, rfl, by omega, fun _ fuel hf => ?_⟩
          obtain ⟨f, rfl, -⟩ := f_suc (d := 0) (f := fuel) (by omega)
          rw [a_step h hlt b0, if_pos rfl]
  · rw [if_neg hlt, if_neg (by decide), if_neg (by decide), if_neg (by decide)]
    refine Or.inl ⟨p, _, _, _, _, rfl, by omega, fun hh fuel hf => ?_⟩
    have n0 : n = 0 := by omega
    have p0 : p = 0 := by omega
    obtain ⟨f, rfl, -⟩ := f_suc (d := 0) (f := fuel) (by omega)
    rw [n0, p0, f_Letters_placeOfBadForm_L4, if_pos (by decide), if_pos (by decide)]
