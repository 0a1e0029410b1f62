/-! Pure: tables as plain numbers, and what a stroke is. -/
theorem lI (n : Nat) : (OfNat.ofNat n : Int32) = nI n := rfl
theorem nI_mod {a d : Nat} (ha : a < 2 ^ 31) (h0 : 0 < d) (hd : d < 2 ^ 31) : nI a % nI d = nI (a % d) := by rw [← x_remE]; exact pk_rem ha h0 hd
theorem nI_half {a : Nat} (ha : a < 2 ^ 31) : nI a / 2 = nI (a / 2) := pk_div ha (by decide) (by decide)
theorem nI_quarter {a : Nat} (ha : a < 2 ^ 31) : nI a / 4 = nI (a / 4) := pk_div ha (by decide) (by decide)
theorem nI_odd {a : Nat} (ha : a < 2 ^ 31) : nI a % 2 = nI (a % 2) := nI_mod ha (by decide) (by decide)
theorem nI_iI (n : Nat) : nI n = Int32.ofInt (n : Int) := (Int32.ofInt_eq_ofNat).symm
theorem ix_n {i n : Nat} (h : i < n) (hn : n ≤ 8) : ¬ nI n ≤ nI i := nI_ge h (by omega)
theorem ix_k {i : Nat} (h : i < 8) : (nI i).toNatClampNeg = i := nI_clamp (by omega)
theorem ix_b {i N : Nat} (h : i < N) (hN : N < 2 ^ 31) : ¬ (nI i < 0 ∨ N ≤ (nI i).toNatClampNeg) := nI_in h hN
theorem FU_lt {d : Nat} (h : d < 1000000) : ∃ f, FU = f + 1 ∧ d ≤ f := ⟨999999, rfl, by omega⟩
theorem f_suc {d f : Nat} (h : d < f) : ∃ g, f = g + 1 ∧ d ≤ g := ⟨f - 1, by omega, by omega⟩
-- rows for simp, whose side conditions omega closes
theorem s_clamp {i : Nat} (h : i < 2 ^ 31) : (nI i).toNatClampNeg = i := nI_clamp h
theorem s_lt {a b : Nat} (ha : a < 2 ^ 31) (hb : b < 2 ^ 31) : (nI a < nI b) = (a < b) := propext (nI_ltI ha hb)
theorem s_le {a b : Nat} (ha : a < 2 ^ 31) (hb : b < 2 ^ 31) : (nI a ≤ nI b) = (a ≤ b) := propext (nI_leI ha hb)
theorem s_eq {a b : Nat} (ha : a < 2 ^ 31) (hb : b < 2 ^ 31) : (nI a = nI b) = (a = b) := propext (nI_eq ha hb)
theorem s_add (a b : Nat) : nI a + nI b = nI (a + b) := nI_add a b
theorem s_mul (a b : Nat) : nI a * nI b = nI (a * b) := pk_mul a b
theorem s_sub {a b : Nat} (h : b ≤ a) : nI a - nI b = nI (a - b) := pk_sub h
theorem s_div {a d : Nat} (ha : a < 2 ^ 31) (h0 : 0 < d) (hd : d < 2 ^ 31) : nI a / nI d = nI (a / d) := pk_div ha h0 hd
theorem s_mod {a d : Nat} (ha : a < 2 ^ 31) (h0 : 0 < d) (hd : d < 2 ^ 31) : nI a % nI d = nI (a % d) := nI_mod ha h0 hd
theorem s_leF {a b : Nat} (h : b < a) : (a ≤ b) = False := eq_false (by omega)
theorem s_leT {a b : Nat} (h : a ≤ b) : (a ≤ b) = True := eq_true (by omega)
theorem s_ltF {a b : Nat} (h : b ≤ a) : (a < b) = False := eq_false (by omega)
theorem s_ltT {a b : Nat} (h : a < b) : (a < b) = True := eq_true (by omega)
-- a table: how many; kinds; sweets; odd; step; bag; strokes; gave; threw
abbrev Tb : Type := Nat × (Nat → Nat) × (Nat → Nat) × Nat × Nat × Nat × Int32 × Int32 × Int32
abbrev tN (t : Tb) : Nat := t.1
abbrev tKd (t : Tb) : Nat → Nat := t.2.1
abbrev tSw (t : Tb) : Nat → Nat := t.2.2.1
abbrev tOdd (t : Tb) : Nat := t.2.2.2.1
abbrev tStep (t : Tb) : Nat := t.2.2.2.2.1
abbrev tBag (t : Tb) : Nat := t.2.2.2.2.2.1
abbrev tSt (t : Tb) : Int32 := t.2.2.2.2.2.2.1
abbrev tGv (t : Tb) : Int32 := t.2.2.2.2.2.2.2.1
abbrev tTh (t : Tb) : Int32 := t.2.2.2.2.2.2.2.2
def updN (f : Nat → Nat) (k v : Nat) : Nat → Nat := fun j => if j = k then v else f j
def okT (t : Tb) : Prop := tN t ≤ 8 ∧ (∀ i, i < tN t → tKd t i ≤ 6 ∧ tSw t i ≤ 999) ∧ tOdd t ≤ 2 ∧ 1 ≤ tStep t ∧ tStep t ≤ 3 ∧ tBag t ≤ 999
def rX (r : RS) (t : Tb) : Prop := r_children r = nI (tN t) ∧ (∀ i, i < tN t → r_kinds r i = nI (tKd t i) ∧ r_sweets r i = nI (tSw t i)) ∧ r_settings r 0 = nI (tOdd t) ∧ r_settings r 1 = nI (tStep t) ∧ r_settings r 2 = nI (tBag t) ∧ r_strokes r = tSt t ∧ r_gave r = tGv t ∧ r_threw r = tTh t
def lf (t : Tb) (c : Nat) : Nat := (c + tStep t) % tN t
def rt (t : Tb) (c : Nat) : Nat := (c + 3 * tN t - tStep t) % tN t
/-- what a child gives to one side -/
def gf (t : Tb) (c : Nat) : Nat :=
  if lf t c = c then 0 else if tKd t c = 0 then tSw t c / 2 else if tKd t c = 1 then tSw t c / 4 else if tKd t c = 2 then (if tSw t (lf t c) < tSw t c then tSw t c / 2 else 0)
  else if tKd t c = 3 then (tSw t c - 1) / 2 else if tKd t c = 5 then (tSw t c - tSw t (lf t c)) / 2 else if tKd t c = 6 then (if tSw t c < 4 then 0 else (tSw t c - 1) / 2) else 0
def out (t : Tb) (c : Nat) : Nat := if tKd t c = 1 then 2 * gf t c else gf t c
/-- heaps when the first i children have given -/
def hp (t : Tb) : Nat → Nat → Int
  | 0 => fun c => tSw t c
  | i + 1 => fun c => hp t i c - (if c = i then (out t i : Int) else 0) + (if c = lf t i then (gf t i : Int) else 0) + (if tKd t i = 1 ∧ c = rt t i then (gf t i : Int) else 0)
def cp (t : Tb) (c : Nat) : Nat := min (hp t (tN t) c).toNat 999
def setSw (t : Tb) (f : Nat → Nat) : Tb := (t.1, t.2.1, f, t.2.2.2)
def mdT (t : Tb) (c : Nat) : Tb :=
  if tSw t c % 2 = 1 then
    (if tOdd t = 0 then (if 0 < tBag t then (tN t, tKd t, updN (tSw t) c (min (tSw t c + 1) 999), tOdd t, tStep t, tBag t - 1, tSt t, tGv t + 1, tTh t) else t)
     else if tOdd t = 1 then (tN t, tKd t, updN (tSw t) c (tSw t c - 1), tOdd t, tStep t, tBag t, tSt t, tGv t, tTh t + 1) else t)
  else t
def mds (t : Tb) : Nat → Tb
  | 0 => t
  | c + 1 => mdT (mds t c) c
def moreSt (t : Tb) : Tb := (tN t, tKd t, tSw t, tOdd t, tStep t, tBag t, tSt t + 1, tGv t, tTh t)
def stk (t : Tb) : Tb := moreSt (mds (setSw t (cp t)) (tN t))
def sq (t : Tb) : Nat → Tb
  | 0 => t
  | k + 1 => stk (sq t k)
theorem lf_lt {t : Tb} {c : Nat} (h : 0 < tN t) : lf t c < tN t := Nat.mod_lt _ h
theorem rt_lt {t : Tb} {c : Nat} (h : 0 < tN t) : rt t c < tN t := Nat.mod_lt _ h
theorem gf_le {t : Tb} (c : Nat) : gf t c ≤ tSw t c := by
  unfold gf
  repeat' split
  all_goals omega
theorem out_le {t : Tb} (c : Nat) : out t c ≤ tSw t c := by
  unfold out
  split
  · rename_i h
    have : gf t c ≤ tSw t c / 4 := by
      unfold gf
      rw [h]
      repeat' split
      all_goals first | omega | contradiction
    omega
  · exact gf_le c
theorem hp_lo {t : Tb} : ∀ (i c : Nat), (if c < i then 0 else (tSw t c : Int)) ≤ hp t i c
  | 0, c => by simp [hp]
  | i + 1, c => by
    have h := hp_lo (t := t) i c
    have ho := out_le (t := t) i
    simp only [hp]
    have hpos : 0 ≤ (if c < i then 0 else (tSw t c : Int)) - 0 := by split <;> omega
    by_cases h1 : c = i
    · subst h1
      simp only [Nat.lt_irrefl, if_false, Nat.lt_succ_self, if_true] at h ⊢
      repeat' split
      all_goals omega
    · have h2 : (c < i + 1) = (c < i) := by rw [eq_iff_iff]; omega
      simp only [h1, if_false, h2]
      repeat' split at *
      all_goals omega
theorem hp_nn {t : Tb} (i c : Nat) : 0 ≤ hp t i c := by
  have h := hp_lo (t := t) i c
  split at h <;> omega
theorem hp_hi {t : Tb} (hok : okT t) : ∀ (i c : Nat), i ≤ tN t → hp t i c ≤ tSw t c + 2000 * i
  | 0, c, _ => by simp [hp]
  | i + 1, c, hi => by
    have h := hp_hi hok i c (by omega)
    have hg := gf_le (t := t) i
    have h9 := (hok.2.1 i (by omega)).2
    simp only [hp]
    repeat' split
    all_goals omega
