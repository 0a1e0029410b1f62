/-! Pure: SEATS: the next order. -/
def gl (l : List Nat) (i : Nat) : Nat := l.getD i 0
def sw2 (l : List Nat) (a b : Nat) : List Nat := (l.set a (gl l b)).set b (gl l a)
def rz (l : List Nat) : Nat → Nat
  | 0 => 0
  | i + 1 => if gl l (i + 1) ≤ gl l (i + 2) then i + 1 else rz l i
def gz (l : List Nat) (r : Nat) : Nat → Nat
  | 0 => 0
  | j + 1 => if j + 1 ≤ r then j + 1 else if gl l r ≤ gl l (j + 1) then j + 1 else gz l r j
def rv : Nat → List Nat → Nat → Nat → List Nat
  | 0, l, _, _ => l
  | f + 1, l, a, b => if b ≤ a then l else rv f (sw2 l a b) (a + 1) (b - 1)
def nx (n : Nat) (l : List Nat) : Option (List Nat) :=
  if n < 2 then none else if rz l (n - 2) = 0 then none else some (rv 8 (sw2 l (rz l (n - 2)) (gz l (rz l (n - 2)) (n - 1))) (rz l (n - 2) + 1) (n - 1))
def gd (n : Nat) (l : List Nat) : Bool := l.length == n && l.all (fun v => decide (v < n))
def chk (n : Nat) : Nat → List Nat → Bool
  | 0, _ => false
  | f + 1, l => gd n l && (match nx n l with | none => true | some l' => chk n f l')
theorem chk_all : ∀ n, n < 7 → 1 ≤ n → chk n 120 (List.range n) = true := by decide +kernel
def aR (A : Nat → Int32) (l : List Nat) : Prop := ∀ i, i < l.length → A i = nI (gl l i)
theorem gl_lt {n : Nat} {l : List Nat} (h : gd n l = true) : l.length = n ∧ ∀ i, i < n → gl l i < n := by
  unfold gd at h
  rw [Bool.and_eq_true, beq_iff_eq, List.all_eq_true] at h
  refine ⟨h.1, fun i hi => ?_⟩
  have hi' : i < l.length := by omega
  have e : gl l i = l[i] := by unfold gl; simp [List.getD_eq_getElem?_getD, hi']
  rw [e]
  exact of_decide_eq_true (h.2 _ (List.getElem_mem hi'))
theorem sw2_len (l : List Nat) (a b : Nat) : (sw2 l a b).length = l.length := by unfold sw2; simp
theorem gl_sw2 {l : List Nat} {a b : Nat} (ha : a < l.length) (hb : b < l.length) (i : Nat) : gl (sw2 l a b) i = if i = b then gl l a else if i = a then gl l b else gl l i := by
  unfold sw2
  show ((l.set a (gl l b)).set b (gl l a)).getD i 0 = _
  rw [List.getD_eq_getElem?_getD, List.getElem?_set, List.getElem?_set]
  by_cases h1 : i = b
  · simp [h1, hb]
  · rw [if_neg (fun q => h1 q.symm), if_neg h1]
    by_cases h2 : i = a
    · simp [h2, ha]
    · rw [if_neg (fun q => h2 q.symm), if_neg h2]
      rfl
theorem aR_sw {A : Nat → Int32} {l : List Nat} (h : aR A l) {a b : Nat} (ha : a < l.length) (hb : b < l.length) : aR (upd (upd A a (A b)) b (A a)) (sw2 l a b) := by
  intro i hi
  rw [sw2_len] at hi
  rw [gl_sw2 ha hb]
  unfold upd
  by_cases h1 : i = b
  · rw [if_pos h1, if_pos h1, h a ha]
  · rw [if_neg h1, if_neg h1]
    by_cases h2 : i = a
    · rw [if_pos h2, if_pos h2, h b hb]
    · rw [if_neg h2, if_neg h2, h i hi]
theorem rz_le (l : List Nat) : ∀ i, rz l i ≤ i
  | 0 => Nat.le_refl _
  | i + 1 => by
    have := rz_le l i
    show (if gl l (i + 1) ≤ gl l (i + 2) then i + 1 else rz l i) ≤ _
    split <;> omega
theorem rz_up (l : List Nat) : ∀ i, 0 < rz l i → gl l (rz l i) ≤ gl l (rz l i + 1)
  | 0, h => absurd h (Nat.lt_irrefl _)
  | i + 1, h => by
    by_cases q : gl l (i + 1) ≤ gl l (i + 2)
    · rw [show rz l (i + 1) = i + 1 from if_pos q]; exact q
    · have e : rz l (i + 1) = rz l i := if_neg q
      rw [e] at h ⊢
      exact rz_up l i h
theorem gz_le (l : List Nat) (r : Nat) : ∀ j, gz l r j ≤ j
  | 0 => Nat.le_refl _
  | j + 1 => by
    have := gz_le l r j
    show (if j + 1 ≤ r then j + 1 else if gl l r ≤ gl l (j + 1) then j + 1 else gz l r j) ≤ _
    split
    · omega
    · split <;> omega
theorem i_m1 (i : Nat) : nI (i + 1) + (-1) = nI i := pk_m1 i
theorem i_l0 {i : Nat} (hi : i < 8) : ¬ nI (i + 1) ≤ 0 := nI_ge (a := 0) (b := i + 1) (by omega) (by omega)
theorem p_rz {A : Nat → Int32} {l : List Nat} {n : Nat} (hn : n ≤ 6) (hA : aR A l) (hl : l.length = n) (hv : ∀ i, i < n → gl l i < n) (k : Int32 → Option (Int32 × (Nat → Int32))) : ∀ i fuel, i < fuel → i + 1 < n → f_Seating_goToNextOrder_L4 A k fuel (nI i) = k (nI (rz l i)) := by
  intro i
  induction i with
  | zero =>
    intro fuel hf hi
    obtain ⟨f, rfl, -⟩ := f_suc hf
    rw [f_Seating_goToNextOrder_L4, if_pos (by decide)]
    rfl
  | succ i ih =>
    intro fuel hf hi
    obtain ⟨f, rfl, hf'⟩ := f_suc hf
    have v1 := hv (i + 1) (by omega)
    have v2 := hv (i + 2) (by omega)
    rw [f_Seating_goToNextOrder_L4, if_neg (i_l0 (by omega)), if_neg (ix_b (show i + 1 < 6 by omega) (by omega)), nI_1, if_neg (ix_b (show i + 1 + 1 < 6 by omega) (by omega)), ix_k (show i + 1 < 8 by omega), ix_k (show i + 1 + 1 < 8 by omega), hA (i + 1) (by omega), hA (i + 1 + 1) (by omega), i_m1]
    show _ = k (nI (if gl l (i + 1) ≤ gl l (i + 2) then i + 1 else rz l i))
    by_cases h : gl l (i + 1) ≤ gl l (i + 2)
    · rw [if_pos (nI_le h (by omega)), if_pos h]
    · rw [if_neg (fun q => h ((nI_leI (by omega) (by omega)).mp q)), if_neg h]
      exact ih f (by omega) (by omega)
theorem q_rz {A : Nat → Int32} {l : List Nat} {n : Nat} (hn : n ≤ 6) (hA : aR A l) (hl : l.length = n) (hv : ∀ i, i < n → gl l i < n) (k : Int32 → Option (Int32 × (Nat → Int32))) : ∀ i fuel, i < fuel → i + 1 < n → f_M_nextSeats_L7 A k fuel (nI i) = k (nI (rz l i)) := by
  intro i
  induction i with
  | zero =>
    intro fuel hf hi
    obtain ⟨f, rfl, -⟩ := f_suc hf
    rw [f_M_nextSeats_L7, if_pos (by decide)]
    rfl
  | succ i ih =>
    intro fuel hf hi
    obtain ⟨f, rfl, hf'⟩ := f_suc hf
    have v1 := hv (i + 1) (by omega)
    have v2 := hv (i + 2) (by omega)
    rw [f_M_nextSeats_L7, if_neg (i_l0 (by omega)), if_neg (ix_b (show i + 1 < 8 by omega) (by omega)), nI_1, if_neg (ix_b (show i + 1 + 1 < 8 by omega) (by omega)), ix_k (show i + 1 < 8 by omega), ix_k (show i + 1 + 1 < 8 by omega), hA (i + 1) (by omega), hA (i + 1 + 1) (by omega), i_m1]
    show _ = k (nI (if gl l (i + 1) ≤ gl l (i + 2) then i + 1 else rz l i))
    by_cases h : gl l (i + 1) ≤ gl l (i + 2)
    · rw [if_pos (nI_le h (by omega)), if_pos h]
    · rw [if_neg (fun q => h ((nI_leI (by omega) (by omega)).mp q)), if_neg h]
      exact ih f (by omega) (by omega)
theorem p_gz {A : Nat → Int32} {l : List Nat} {n r : Nat} (hn : n ≤ 6) (hA : aR A l) (hl : l.length = n) (hv : ∀ i, i < n → gl l i < n) (hr : r < n) (k : Int32 → Option (Int32 × (Nat → Int32))) : ∀ j fuel, j < fuel → j < n → f_Seating_goToNextOrder_L41 A (nI r) k fuel (nI j) = k (nI (gz l r j)) := by
  intro j
  induction j with
  | zero =>
    intro fuel hf hi
    obtain ⟨f, rfl, -⟩ := f_suc hf
    rw [f_Seating_goToNextOrder_L41, if_pos (nI_le (Nat.zero_le _) (by omega))]
    rfl
  | succ j ih =>
    intro fuel hf hi
    obtain ⟨f, rfl, hf'⟩ := f_suc hf
    have v1 := hv (j + 1) (by omega)
    have v2 := hv r hr
    rw [f_Seating_goToNextOrder_L41]
    show _ = k (nI (if j + 1 ≤ r then j + 1 else if gl l r ≤ gl l (j + 1) then j + 1 else gz l r j))
    by_cases h0 : j + 1 ≤ r
    · rw [if_pos (nI_le h0 (by omega)), if_pos h0]
    · rw [if_neg (nI_ge (by omega) (by omega)), if_neg h0, if_neg (ix_b (show j + 1 < 6 by omega) (by omega)), if_neg (ix_b (show r < 6 by omega) (by omega)), ix_k (show j + 1 < 8 by omega), ix_k (show r < 8 by omega), hA (j + 1) (by omega), hA r (by omega), i_m1]
      by_cases h : gl l r ≤ gl l (j + 1)
      · rw [if_pos (nI_le h (by omega)), if_pos h]
      · rw [if_neg (fun q => h ((nI_leI (by omega) (by omega)).mp q)), if_neg h]
        exact ih f (by omega) (by omega)
theorem q_gz {A : Nat → Int32} {l : List Nat} {n r : Nat} (hn : n ≤ 6) (hA : aR A l) (hl : l.length = n) (hv : ∀ i, i < n → gl l i < n) (hup : gl l r ≤ gl l (r + 1)) (k : Int32 → Option (Int32 × (Nat → Int32))) : ∀ j fuel, j < fuel → r < j → j < n → f_M_nextSeats_L47 A (nI r) k fuel (nI j) = k (nI (gz l r j)) := by
  intro j
  induction j with
  | zero => intro fuel hf hr hi; omega
  | succ j ih =>
    intro fuel hf hr hi
    obtain ⟨f, rfl, hf'⟩ := f_suc hf
    have v1 := hv (j + 1) (by omega)
    have v2 := hv r (by omega)
    rw [f_M_nextSeats_L47]
    show _ = k (nI (if j + 1 ≤ r then j + 1 else if gl l r ≤ gl l (j + 1) then j + 1 else gz l r j))
    rw [if_neg (ix_b (show j + 1 < 8 by omega) (by omega)), if_neg (ix_b (show r < 8 by omega) (by omega)), ix_k (show j + 1 < 8 by omega), ix_k (show r < 8 by omega), hA (j + 1) (by omega), hA r (by omega), i_m1, if_neg (show ¬ j + 1 ≤ r by omega)]
    by_cases h : gl l r ≤ gl l (j + 1)
    · rw [if_pos (nI_le h (by omega)), if_pos h]
    · rw [if_neg (fun q => h ((nI_leI (by omega) (by omega)).mp q)), if_neg h]
      have : ¬ j = r := fun e => h (e ▸ hup)
      exact ih f (by omega) (by omega) (by omega)
theorem p_rv {n : Nat} (hn : n ≤ 6) : ∀ (g a b fuel : Nat) (A : Nat → Int32) (l : List Nat), b ≤ a + g → g < fuel → l.length = n → aR A l → b < n → a ≤ n → ∃ A', f_Seating_goToNextOrder_L83 fuel A (nI a) (nI b) = some (1, A') ∧ aR A' (rv g l a b) := by
  intro g
  induction g with
  | zero =>
    intro a b fuel A l hb hf hl hA hbn han
    obtain ⟨f, rfl, -⟩ := f_suc hf
    exact ⟨A, by rw [f_Seating_goToNextOrder_L83, if_pos (nI_le (by omega) (by omega))], hA⟩
  | succ g ih =>
    intro a b fuel A l hb hf hl hA hbn han
    obtain ⟨f, rfl, hf'⟩ := f_suc hf
    rw [f_Seating_goToNextOrder_L83]
    by_cases h : b ≤ a
    · exact ⟨A, by rw [if_pos (nI_le h (by omega))], by rw [show rv (g + 1) l a b = l from if_pos h]; exact hA⟩
    · obtain ⟨b', rfl⟩ : ∃ b', b = b' + 1 := ⟨b - 1, by omega⟩
      have e : f_Seating_changePlaces A (nI a) (nI (b' + 1)) = some (upd (upd A a (A (b' + 1))) (b' + 1) (A a)) := by
        unfold f_Seating_changePlaces
        rw [if_neg (ix_b (show a < 6 by omega) (by omega)), if_neg (ix_b (show b' + 1 < 6 by omega) (by omega)), ix_k (show a < 8 by omega), ix_k (show b' + 1 < 8 by omega)]
      rw [if_neg (nI_ge (by omega) (by omega)), e, Option.bind_some, nI_1, i_m1, show rv (g + 1) l a (b' + 1) = rv g (sw2 l a (b' + 1)) (a + 1) b' from if_neg h]
      exact ih (a + 1) b' f _ _ (by omega) (by omega) (by rw [sw2_len, hl]) (aR_sw hA (by omega) (by omega)) (by omega) (by omega)
theorem q_rv {n : Nat} (hn : n ≤ 6) : ∀ (g a b fuel : Nat) (A : Nat → Int32) (l : List Nat), b ≤ a + g → g < fuel → l.length = n → aR A l → b < n → a ≤ n → ∃ A', f_M_nextSeats_L107 fuel A (nI a) (nI b) = some (1, A') ∧ aR A' (rv g l a b) := by
  intro g
  induction g with
  | zero =>
    intro a b fuel A l hb hf hl hA hbn han
    obtain ⟨f, rfl, -⟩ := f_suc hf
    exact ⟨A, by rw [f_M_nextSeats_L107, if_pos (nI_le (by omega) (by omega))], hA⟩
  | succ g ih =>
    intro a b fuel A l hb hf hl hA hbn han
    obtain ⟨f, rfl, hf'⟩ := f_suc hf
    rw [f_M_nextSeats_L107]
    by_cases h : b ≤ a
    · exact ⟨A, by rw [if_pos (nI_le h (by omega))], by rw [show rv (g + 1) l a b = l from if_pos h]; exact hA⟩
    · obtain ⟨b', rfl⟩ : ∃ b', b = b' + 1 := ⟨b - 1, by omega⟩
      rw [if_neg (nI_ge (by omega) (by omega)), if_neg (ix_b (show a < 8 by omega) (by omega)), if_neg (ix_b (show b' + 1 < 8 by omega) (by omega)), ix_k (show a < 8 by omega), ix_k (show b' + 1 < 8 by omega), nI_1, i_m1, show rv (g + 1) l a (b' + 1) = rv g (sw2 l a (b' + 1)) (a + 1) b' from if_neg h]
      exact ih (a + 1) b' f _ _ (by omega) (by omega) (by rw [sw2_len, hl]) (aR_sw hA (by omega) (by omega)) (by omega) (by omega)
theorem rv_len : ∀ g l a b, (rv g l a b).length = l.length
  | 0, _, _, _ => rfl
  | g + 1, l, a, b => by
    show (if b ≤ a then l else rv g (sw2 l a b) (a + 1) (b - 1)).length = _
    split
    · rfl
    · rw [rv_len, sw2_len]
theorem p_next {A : Nat → Int32} {l : List Nat} {n : Nat} (h1 : 1 ≤ n) (hn : n ≤ 6) (hA : aR A l) (hg : gd n l = true) : (nx n l = none ∧ ∃ A', f_Seating_goToNextOrder A (nI n) = some (0, A')) ∨ ∃ l' A', nx n l = some l' ∧ f_Seating_goToNextOrder A (nI n) = some (1, A') ∧ aR A' l' := by
  obtain ⟨hl, hv⟩ := gl_lt hg
  unfold f_Seating_goToNextOrder nx
  by_cases h2 : n < 2
  · obtain rfl : n = 1 := by omega
    refine Or.inl ⟨if_pos (by omega), A, ?_⟩
    have e : nI 1 - 2 = (-1 : Int32) := by decide
    obtain ⟨f, hf, -⟩ := FU_lt (d := 0) (by omega)
    rw [e, hf, f_Seating_goToNextOrder_L4, if_pos (by decide), if_neg (by decide)]
  · have e2 : nI n - 2 = nI (n - 2) := pk_sub (a := n) (b := 2) (by omega)
    have e1 : nI n - 1 = nI (n - 1) := pk_sub (a := n) (b := 1) (by omega)
    have hr := rz_le l (n - 2)
    rw [e1, e2, p_rz hn hA hl hv _ (n - 2) FU (by unfold FU; omega) (by omega), if_neg h2]
    by_cases h0 : rz l (n - 2) = 0
    · rw [if_pos h0]
      refine Or.inl ⟨rfl, A, ?_⟩
      rw [h0, if_neg (by decide)]
    · rw [if_neg h0]
      have hp : 0 < nI (rz l (n - 2)) := nI_lt (a := 0) (by omega) (by omega)
      have hgz := gz_le l (rz l (n - 2)) (n - 1)
      have e : f_Seating_changePlaces A (nI (rz l (n - 2))) (nI (gz l (rz l (n - 2)) (n - 1))) = some (upd (upd A (rz l (n - 2)) (A (gz l (rz l (n - 2)) (n - 1)))) (gz l (rz l (n - 2)) (n - 1)) (A (rz l (n - 2)))) := by
        unfold f_Seating_changePlaces
        rw [if_neg (ix_b (show rz l (n - 2) < 6 by omega) (by omega)), if_neg (ix_b (show gz l (rz l (n - 2)) (n - 1) < 6 by omega) (by omega)), ix_k (show rz l (n - 2) < 8 by omega), ix_k (show gz l (rz l (n - 2)) (n - 1) < 8 by omega)]
      obtain ⟨A', e3, hA'⟩ := p_rv hn 8 (rz l (n - 2) + 1) (n - 1) FU _ _ (by omega) (by unfold FU; omega) (by rw [sw2_len, hl]) (aR_sw hA (a := rz l (n - 2)) (b := gz l (rz l (n - 2)) (n - 1)) (by omega) (by omega)) (by omega) (by omega)
      refine Or.inr ⟨_, A', rfl, ?_, hA'⟩
      rw [if_pos hp, p_gz hn hA hl hv (by omega) _ (n - 1) FU (by unfold FU; omega) (by omega), e, Option.bind_some, nI_1]
      exact e3
theorem q_next {z : MT} {A : Nat → Int32} {l : List Nat} {n : Nat} (hz : m_many z = nI n) (h1 : 1 ≤ n) (hn : n ≤ 6) (hA : aR A l) (hg : gd n l = true) : (nx n l = none ∧ ∃ A', f_M_nextSeats z A = some (0, A')) ∨ ∃ l' A', nx n l = some l' ∧ f_M_nextSeats z A = some (1, A') ∧ aR A' l' := by
  obtain ⟨hl, hv⟩ := gl_lt hg
  unfold f_M_nextSeats nx
  rw [hz]
  by_cases h2 : n < 2
  · obtain rfl : n = 1 := by omega
    refine Or.inl ⟨if_pos (by omega), A, ?_⟩
    have e : nI 1 - 2 = (-1 : Int32) := by decide
    obtain ⟨f, hf, -⟩ := FU_lt (d := 0) (by omega)
    rw [e, hf, f_M_nextSeats_L7, if_pos (by decide), if_neg (by decide)]
  · have e2 : nI n - 2 = nI (n - 2) := pk_sub (a := n) (b := 2) (by omega)
    have e1 : nI n - 1 = nI (n - 1) := pk_sub (a := n) (b := 1) (by omega)
    have hr := rz_le l (n - 2)
    rw [e1, e2, q_rz hn hA hl hv _ (n - 2) FU (by unfold FU; omega) (by omega), if_neg h2]
    by_cases h0 : rz l (n - 2) = 0
    · rw [if_pos h0]
      refine Or.inl ⟨rfl, A, ?_⟩
      rw [h0, if_neg (by decide)]
    · rw [if_neg h0]
      have hp : 0 < nI (rz l (n - 2)) := nI_lt (a := 0) (by omega) (by omega)
      have hgz := gz_le l (rz l (n - 2)) (n - 1)
      have hup := rz_up l (n - 2) (by omega)
      obtain ⟨A', e3, hA'⟩ := q_rv hn 8 (rz l (n - 2) + 1) (n - 1) FU _ _ (by omega) (by unfold FU; omega) (by rw [sw2_len, hl]) (aR_sw hA (a := rz l (n - 2)) (b := gz l (rz l (n - 2)) (n - 1)) (by omega) (by omega)) (by omega) (by omega)
      refine Or.inr ⟨_, A', rfl, ?_, hA'⟩
      rw [if_pos hp, q_gz hn hA hl hv hup _ (n - 1) FU (by unfold FU; omega) (by omega) (by omega), if_neg (ix_b (show rz l (n - 2) < 8 by omega) (by omega)), if_neg (ix_b (show gz l (rz l (n - 2)) (n - 1) < 8 by omega) (by omega)), ix_k (show rz l (n - 2) < 8 by omega), ix_k (show gz l (rz l (n - 2)) (n - 1) < 8 by omega), nI_1]
      exact e3
