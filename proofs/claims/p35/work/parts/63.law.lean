/-! Pure: what the law asks, loop by loop. -/
section LAW
variable {now : RS} {t : Tb}
theorem l_55 (hX : rX now t) (hok : okT t) {k : Nat} (hk : k ≤ 200) (a : Nat → Int32) {K : (Nat → Int32) → RS → Int32 → Option Int32} {r : Option Int32} (hK : ∀ one', K a one' (nI (sm (sq t k) (tN t))) = r) : ∀ (d i fuel : Nat) (one : RS), i + d = tN t → d < fuel → f_Law_law_L55 now (nI (tN t)) (nI k) K fuel a one (nI (sm (sq t k) i)) (nI i) = r := by
  have h8 := hok.1
  intro d
  induction d with
  | zero =>
    intro i fuel one hi hf
    obtain ⟨f, rfl, -⟩ := f_suc hf
    obtain rfl : i = tN t := by omega
    rw [f_Law_law_L55, if_pos (nI_le (Nat.le_refl _) (by omega))]
    exact hK one
  | succ d ih =>
    intro i fuel one hi hf
    obtain ⟨f, rfl, hf'⟩ := f_suc hf
    obtain ⟨o', e⟩ := v_run a one hX hok (show i < tN t by omega) hk
    rw [f_Law_law_L55, if_neg (nI_ge (by omega) (by omega)), e, Option.bind_some]
    show f_Law_law_L55 now (nI (tN t)) (nI k) K f a o' (nI (sm (sq t k) i) + nI (tSw (sq t k) i)) (nI i + 1) = r
    rw [nI_add, nI_1]
    exact ih (i + 1) f o' (by omega) hf'
theorem l_162 (hX : rX now t) (hok : okT t) {q : Nat} (hq : q < 200) (he : eqS t q (q + 1)) (a : Nat → Int32) {K : (Nat → Int32) → RS → Option Int32} {r : Option Int32} (hK : ∀ one', K a one' = r) : ∀ (d i fuel : Nat) (one : RS), i + d = tN t → d < fuel → f_Law_law_L162 now (nI (tN t)) (nI q) K fuel a one (nI i) = r := by
  have h8 := hok.1
  intro d
  induction d with
  | zero =>
    intro i fuel one hi hf
    obtain ⟨f, rfl, -⟩ := f_suc hf
    obtain rfl : i = tN t := by omega
    rw [f_Law_law_L162, if_pos (nI_le (Nat.le_refl _) (by omega))]
    exact hK one
  | succ d ih =>
    intro i fuel one hi hf
    obtain ⟨f, rfl, hf'⟩ := f_suc hf
    have hlt : i < tN t := by omega
    obtain ⟨o1, e1⟩ := v_run a one hX hok hlt (show q ≤ 200 by omega)
    obtain ⟨o2, e2⟩ := v_run a o1 hX hok hlt (show q + 1 ≤ 200 by omega)
    rw [f_Law_law_L162, if_neg (nI_ge (by omega) (by omega)), e1, Option.bind_some]
    show (f_X_run now a o1 (nI i) (nI q + 1)).bind _ = r
    rw [nI_1, e2, Option.bind_some]
    show (if nI (tSw (sq t q) i) = nI (tSw (sq t (q + 1)) i) then f_Law_law_L162 now (nI (tN t)) (nI q) K f a o2 (nI i + 1) else some 0) = r
    rw [if_pos (congrArg nI (he i hlt)), nI_1]
    exact ih (i + 1) f o2 (by omega) hf'
theorem l_200n {x2 x8 x9 : Int32} (h : x8 < 0) (a : Nat → Int32) (one : RS) (K : (Nat → Int32) → RS → Option Int32) (f : Nat) : f_Law_law_L200 now x2 x8 K (f + 1) a one x9 = K a one := by
  rw [f_Law_law_L200, if_pos h]
  split <;> rfl
theorem fnd_le {p : Nat → Prop} {j : Nat} (hp : p j) : ∀ d i, i ≤ j → j < i + d → ∃ j', i ≤ j' ∧ j' ≤ j ∧ fnd p d i = nI j'
  | 0, i, h1, h2 => by omega
  | d + 1, i, h1, h2 => by
    by_cases h : p i
    · exact ⟨i, Nat.le_refl _, h1, fnd_pos d h⟩
    · rw [fnd_neg d h]
      have hne : i ≠ j := fun q => h (q ▸ hp)
      obtain ⟨j', a1, a2, a3⟩ := fnd_le hp d (i + 1) (by omega) (by omega)
      exact ⟨j', by omega, a2, a3⟩
theorem l_200 (hX : rX now t) (hok : okT t) {q : Nat} (hq : q ≤ 200) (he : alk (sq t q)) (a : Nat → Int32) {K : (Nat → Int32) → RS → Option Int32} {r : Option Int32} (hK : ∀ one', K a one' = r) : ∀ (d i fuel : Nat) (one : RS), i + d = tN t → d < fuel → f_Law_law_L200 now (nI (tN t)) (nI q) K fuel a one (nI i) = r := by
  have h8 := hok.1
  intro d
  induction d with
  | zero =>
    intro i fuel one hi hf
    obtain ⟨f, rfl, -⟩ := f_suc hf
    obtain rfl : i = tN t := by omega
    rw [f_Law_law_L200, if_pos (nI_le (Nat.le_refl _) (by omega))]
    exact hK one
  | succ d ih =>
    intro i fuel one hi hf
    obtain ⟨f, rfl, hf'⟩ := f_suc hf
    have hlt : i < tN t := by omega
    have hN := (sq_same t q).1
    obtain ⟨o1, e1⟩ := v_run a one hX hok hlt hq
    obtain ⟨o2, e2⟩ := v_run a o1 hX hok (show 0 < tN t by omega) hq
    have e2 : f_X_run now a o1 0 (nI q) = _ := e2
    have ha : tSw (sq t q) i = tSw (sq t q) 0 := he i (by rw [hN]; exact hlt)
    rw [f_Law_law_L200, if_neg (nI_ge (by omega) (by omega)), if_neg (nI_pos (by omega)), e1, Option.bind_some]
    show (f_X_run now a o1 0 (nI q)).bind _ = r
    rw [e2, Option.bind_some]
    show (if nI (tSw (sq t q) i) = nI (tSw (sq t q) 0) then (if nI i ≤ 0 then f_Law_law_L200 now (nI (tN t)) (nI q) K f a o2 (nI i + 1) else (f_X_meet now a o2 0 (nI i)).bind _) else some 0) = r
    rw [if_pos (congrArg nI ha)]
    by_cases h0 : i = 0
    · rw [if_pos (by rw [h0]; decide), nI_1]
      exact ih (i + 1) f o2 (by omega) hf'
    · have g : ¬ nI i ≤ 0 := nI_ge (b := i) (a := 0) (by omega) (by omega)
      obtain ⟨o3, e3⟩ := v_meet a o2 hX hok (show 0 < tN t by omega) hlt (fun z => h0 z.symm)
      have e3 : f_X_meet now a o2 0 (nI i) = _ := e3
      obtain ⟨o4, e4⟩ := v_meet a o3 hX hok (show 0 < tN t by omega) hlt (fun z => h0 z.symm)
      have e4 : f_X_meet now a o3 0 (nI i) = _ := e4
      obtain ⟨j', -, b2, b3⟩ := fnd_le (p := fun k => tSw (sq t k) 0 = tSw (sq t k) i) (j := q) ha.symm 201 0 (Nat.zero_le _) (by omega)
      rw [b3] at e3 e4
      rw [if_neg g, e3, Option.bind_some]
      show (if nI j' < 0 then some 0 else (f_X_meet now a o3 0 (nI i)).bind _) = r
      rw [if_neg (nI_pos (by omega)), e4, Option.bind_some]
      show (if nI j' ≤ nI q then f_Law_law_L200 now (nI (tN t)) (nI q) K f a o4 (nI i + 1) else some 0) = r
      rw [if_pos (nI_le b2 (by omega)), nI_1]
      exact ih (i + 1) f o4 (by omega) hf'
theorem l_276n {x2 x9 x10 : Int32} (h : x9 < 0) (a : Nat → Int32) (one two : RS) (K : (Nat → Int32) → RS → RS → Option Int32) (f : Nat) : f_Law_law_L276 now x2 x9 K (f + 1) a one two x10 = K a one two := by
  rw [f_Law_law_L276, if_pos h]
  split <;> rfl
theorem l_276 (hX : rX now t) (hok : okT t) {q p : Nat} (hq : q ≤ 100) (hp : fst1 t 100 1 p) (he : eqR t (p + q) q) (a : Nat → Int32) {K : (Nat → Int32) → RS → RS → Option Int32} {r : Option Int32} (hK : ∀ one' two', K a one' two' = r) : ∀ (d i fuel : Nat) (one two : RS), i + d = tN t → d < fuel → f_Law_law_L276 now (nI (tN t)) (nI q) K fuel a one two (nI i) = r := by
  have h8 := hok.1
  have hp2 := hp.2.1
  intro d
  induction d with
  | zero =>
    intro i fuel one two hi hf
    obtain ⟨f, rfl, -⟩ := f_suc hf
    obtain rfl : i = tN t := by omega
    rw [f_Law_law_L276, if_pos (nI_le (Nat.le_refl _) (by omega))]
    exact hK one two
  | succ d ih =>
    intro i fuel one two hi hf
    obtain ⟨f, rfl, hf'⟩ := f_suc hf
    have hlt : i < tN t := by omega
    obtain ⟨o1, e1⟩ := v_run a one hX hok hlt (show q ≤ 200 by omega)
    obtain ⟨rr, o2, w2, e2, hr⟩ := v_ring1 a o1 two hX hok (by omega)
    obtain rfl := hr p hp
    obtain ⟨o3, e3⟩ := v_run a o2 hX hok hlt (show q + p ≤ 200 by omega)
    have hs : tSw (sq t q) i = tSw (sq t (q + p)) i := by
      have := he.2 i hlt
      rw [Nat.add_comm] at this
      exact this.symm
    rw [f_Law_law_L276, if_neg (nI_ge (by omega) (by omega)), if_neg (nI_pos (by omega)), e1, Option.bind_some]
    show (f_X_ring now a o1 two 1).bind _ = r
    rw [e2, Option.bind_some]
    show (f_X_run now a o2 (nI i) (nI q + nI p)).bind _ = r
    rw [nI_add, e3, Option.bind_some]
    show (if nI (tSw (sq t q) i) = nI (tSw (sq t (q + p)) i) then f_Law_law_L276 now (nI (tN t)) (nI q) K f a o3 w2 (nI i + 1) else some 0) = r
    rw [if_pos (congrArg nI hs), nI_1]
    exact ih (i + 1) f o3 w2 (by omega) hf'
theorem l_333 (hX : rX now t) (hok : okT t) (a : Nat → Int32) {K : (Nat → Int32) → Int32 → (Nat → Int64) → (Nat → Int64) → Int64 → Option Int32} {r : Option Int32} (hK : ∀ dd A B, K a dd A B (lN (sN (cr t 7) (tN t))) = r) : ∀ (d i fuel : Nat) (dd : Int32) (A B : Nat → Int64), i + d = tN t → d < fuel → f_Law_law_L333 now (nI (tN t)) K fuel a dd A B (lN (sN (cr t 7) i)) (nI i) = r := by
  have h8 := hok.1
  intro d
  induction d with
  | zero =>
    intro i fuel dd A B hi hf
    obtain ⟨f, rfl, -⟩ := f_suc hf
    obtain rfl : i = tN t := by omega
    rw [f_Law_law_L333, if_pos (nI_le (Nat.le_refl _) (by omega))]
    exact hK dd A B
  | succ d ih =>
    intro i fuel dd A B hi hf
    obtain ⟨f, rfl, hf'⟩ := f_suc hf
    have hlt : i < tN t := by omega
    obtain ⟨d1, A1, B1, e1⟩ := v_cr1 a hX hok dd A B hlt
    obtain ⟨d2, A2, B2, e2⟩ := v_cr0 a hX hok d1 A1 B1 hlt
    have hl := hv7_le t i
    obtain ⟨m1, m2, m3, m4⟩ := p7 (hv7 t i) (by omega)
    have g1 : (128 : Int64) % lN (2 ^ (7 - hv7 t i)) = 0 := by
      have := lN_mod (a := 128) (b := 2 ^ (7 - hv7 t i)) (by decide) m3 (by omega)
      rw [m1] at this
      exact this
    have g2 : (128 : Int64) / lN (2 ^ (7 - hv7 t i)) = lN (2 ^ hv7 t i) := by
      have := pk_lDiv (a := 128) (b := 2 ^ (7 - hv7 t i)) (by decide) m3 (by omega)
      rw [m2] at this
      exact this
    rw [f_Law_law_L333, if_neg (nI_ge (by omega) (by omega)), e1, Option.bind_some]
    show (if lN (2 ^ (7 - hv7 t i)) = 0 then none else if lg_cmp (128 % lN (2 ^ (7 - hv7 t i))) 0 = 0 then (f_X_crumbs now a d1 A1 B1 (nI i) 7 0).bind _ else some 0) = r
    rw [if_neg (lN_ne0 m3 (by omega)), if_pos ((cmp_ab _ _).1.mpr g1), e2, Option.bind_some]
    show f_Law_law_L333 now (nI (tN t)) K f a d2 A2 B2 (lN (sN (cr t 7) i) + lN (cr t 7 i / 2 ^ hv7 t i) * (128 / lN (2 ^ (7 - hv7 t i)))) (nI i + 1) = r
    rw [g2, lN_mul, cr_hv, lN_add, nI_1]
    exact ih (i + 1) f d2 A2 B2 (by omega) hf'
theorem gf_sd (t : Tb) (c : Nat) : gf t c * max 1 (sd3 t c) ≤ tSw t c := by
  have h := out_le (t := t) c
  unfold out at h
  show gf t c * max 1 (if gf t c = 0 then 0 else if tKd t c = 1 then 2 else 1) ≤ tSw t c
  by_cases h0 : gf t c = 0
  · rw [h0, Nat.zero_mul]
    exact Nat.zero_le _
  · rw [if_neg h0]
    by_cases h1 : tKd t c = 1
    · rw [if_pos h1] at h ⊢
      rw [show max 1 2 = 2 from rfl]
      omega
    · rw [if_neg h1] at h ⊢
      rw [show max 1 1 = 1 from rfl]
      omega
theorem l_431 (hX : rX now t) (hok : okT t) (a : Nat → Int32) {K : (Nat → Int32) → Option Int32} {r : Option Int32} (hK : K a = r) : ∀ (d i fuel : Nat), i + d = tN t → d < fuel → f_Law_law_L431 now (nI (tN t)) K fuel a (nI i) = r := by
  have h8 := hok.1
  intro d
  induction d with
  | zero =>
    intro i fuel hi hf
    obtain ⟨f, rfl, -⟩ := f_suc hf
    obtain rfl : i = tN t := by omega
    rw [f_Law_law_L431, if_pos (nI_le (Nat.le_refl _) (by omega))]
    exact hK
  | succ d ih =>
    intro i fuel hi hf
    obtain ⟨f, rfl, hf'⟩ := f_suc hf
    have hlt : i < tN t := by omega
    have s9 := (hok.2.1 i hlt).2
    have hg := gf_le (t := t) i
    have hm := gf_sd t i
    have h3 : sd3 t i ≤ 2 := by
      show (if gf t i = 0 then 0 else if tKd t i = 1 then 2 else 1) ≤ 2
      split
      · omega
      · split <;> omega
    have hj : jmax 1 (nI (sd3 t i)) = nI (max 1 (sd3 t i)) := jmax_nI (a := 1) (b := sd3 t i) (by omega) (by omega)
    rw [f_Law_law_L431, if_neg (nI_ge (by omega) (by omega)), v_ch2 a hX hok hlt, Option.bind_some]
    show (if nI (gf t i) < 0 then some 0 else (f_X_child now a (nI i) 2).bind _) = r
    rw [if_neg (nI_pos (by omega)), v_ch2 a hX hok hlt, Option.bind_some]
    show (f_X_child now a (nI i) 3).bind _ = r
    rw [v_ch3 a hX hok hlt, Option.bind_some]
    show (f_X_child now a (nI i) 1).bind _ = r
    rw [v_ch1 a hX hok hlt, Option.bind_some]
    show (if nI (gf t i) * jmax 1 (nI (sd3 t i)) ≤ nI (tSw t i) then f_Law_law_L431 now (nI (tN t)) K f a (nI i + 1) else some 0) = r
    rw [hj, pk_mul, if_pos (nI_le hm (by omega)), nI_1]
    exact ih (i + 1) f (by omega) hf'
end LAW
theorem l_421 {t : Tb} (hok : okT t) (h0 : 0 < tN t) (nc len : Int32) (a : Nat → Int32) {k : Nat} (hk : k ≤ 200) {K : RS → (Nat → Int32) → Int32 → Option Int32} {r : Option Int32} (hK : ∀ now', rX now' (sq t k) → K now' a (tGv (sq t k) - tGv t) = r) : ∀ (d i fuel : Nat) (now : RS), i + d = k → d < fuel → rX now (sq t i) → f_Law_law_L421 nc len (nI (tN t)) (nI (tOdd t)) (nI k) K fuel now a (tGv (sq t i) - tGv t) (nI i) = r := by
  have h8 := hok.1
  have o2 := hok.2.2.1
  intro d
  induction d with
  | zero =>
    intro i fuel now hi hf hX
    obtain ⟨f, rfl, -⟩ := f_suc hf
    obtain rfl : i = k := by omega
    rw [f_Law_law_L421, if_pos (nI_le (Nat.le_refl _) (by omega))]
    exact hK now hX
  | succ d ih =>
    intro i fuel now hi hf hX
    obtain ⟨f, rfl, hf'⟩ := f_suc hf
    have hN := (sq_same t i).1
    have hO := (sq_same t i).2.2.1
    have oki := sq_ok hok i
    have oks := sq_ok hok (i + 1)
    obtain ⟨z, e, rz⟩ := v_stroke a hX oki (by rw [hN]; exact h0)
    have rz : rX z (sq t (i + 1)) := rz
    rw [f_Law_law_L421, if_neg (nI_ge (by omega) (by omega))]
    have go : ∀ {K2 : (Nat → Int32) → Option Int32} {r2 : Option Int32}, K2 a = r2 → f_Law_law_L431 now (nI (tN t)) K2 FU a 0 = r2 := fun {K2 r2} h => by
      have q := l_431 (now := now) (t := sq t i) hX oki a (K := K2) (r := r2) h (tN (sq t i)) 0 FU (Nat.zero_add _) (by rw [hN]; unfold FU; omega)
      rw [hN] at q
      exact q
    refine go ?_
    show (f_X_stroke now a).bind _ = r
    rw [e, Option.bind_some]
    have hsum : tGv (sq t i) - tGv t + (tGv (stk (sq t i)) - tGv (sq t i)) = tGv (sq t (i + 1)) - tGv t := by
      show tGv (sq t i) - tGv t + (tGv (sq t (i + 1)) - tGv (sq t i)) = tGv (sq t (i + 1)) - tGv t
      grind
    have fin : f_Law_law_L421 nc len (nI (tN t)) (nI (tOdd t)) (nI k) K f z a (tGv (sq t i) - tGv t + (tGv (stk (sq t i)) - tGv (sq t i))) (nI i + 1) = r := by
      rw [hsum, nI_1]
      exact ih (i + 1) f z (by omega) hf' rz
    show (if nI (tOdd t) = 1 then (f_X_count nc z len a 7).bind _ else f_Law_law_L421 nc len (nI (tN t)) (nI (tOdd t)) (nI k) K f z a (tGv (sq t i) - tGv t + (tGv (stk (sq t i)) - tGv (sq t i))) (nI i + 1)) = r
    by_cases h1 : nI (tOdd t) = 1
    · have h1' : tOdd t = 1 := (nI_eq (b := 1) (by omega) (by omega)).mp h1
      have ev : od (sq t (i + 1)) (tN (sq t (i + 1))) = 0 := od_0 _ fun c hc => by
        have hc' : c < tN (sq t i) := by
          rw [(sq_same t (i + 1)).1] at hc
          rw [hN]; exact hc
        exact stk_ev (t := sq t i) (hO.trans h1') hc'
      have cn := v_cnt7 nc len a rz oks
      rw [ev] at cn
      rw [if_pos h1, cn, Option.bind_some, if_pos nI_0]
      exact fin
    · rw [if_neg h1]
      exact fin
theorem c_415 {now : RS} {t : Tb} (hX : rX now t) (hok : okT t) (h0 : 0 < tN t) (hs : tSt t = 0) (hg : tGv t = 0) {k : Nat} (hk : k ≤ 200) (nc len : Int32) (text : Nat → Int32) (trial : RS) (a : Nat → Int32) (one two : RS) (dd : Int32) (A B : Nat → Int64) : f_Law_C415 nc now len text trial a one two dd A B (nI (tN t)) (nI (tOdd t)) (nI k) (nI (sm (sq t k) (tN t))) = some 1 := by
  have hN := (sq_same t k).1
  have okk := sq_ok hok k
  unfold f_Law_C415
  have st : (0 : Int32) = tGv (sq t 0) - tGv t := by
    show (0 : Int32) = tGv t - tGv t
    rw [hg]; rfl
  have key : ∀ now', rX now' (sq t k) → ((f_X_count nc now' len a 1).bind fun q60 => if q60 = nI (sm (sq t k) (tN t)) then (f_X_count nc now' len a 3).bind fun q62 => if q62 = tGv (sq t k) - tGv t then (f_X_count nc now' len a 2).bind fun q64 => if q64 = nI k then some 1 else some 0 else some 0 else some 0) = some (1 : Int32) := by
    intro now' r'
    rw [v_cnt1 nc len a r' okk, Option.bind_some, hN, if_pos rfl, v_cnt3 nc len a r', Option.bind_some, hg, if_pos (by grind), v_cnt2 nc len a r', Option.bind_some, sq_st, hs, if_pos (by grind)]
  have main := l_421 hok h0 nc len a hk (K := fun z_x_now_59 z_x_refusals_59 x13_59 =>
    (f_X_count nc z_x_now_59 len z_x_refusals_59 1).bind fun q60 =>
    if q60 = nI (sm (sq t k) (tN t)) then
     (f_X_count nc z_x_now_59 len z_x_refusals_59 3).bind fun q62 =>
     if q62 = x13_59 then
      (f_X_count nc z_x_now_59 len z_x_refusals_59 2).bind fun q64 =>
      if q64 = nI k then
       some 1
      else
       some 0
     else
      some 0
    else
     some 0) (r := some 1) (fun now' r' => key now' r') k 0 FU now (Nat.zero_add _) (by unfold FU; omega) hX
  rw [← st] at main
  exact main
theorem c_320 {now : RS} {t : Tb} (hX : rX now t) (hok : okT t) (h0 : 0 < tN t) (hs : tSt t = 0) (hg : tGv t = 0) {k : Nat} (hk : k ≤ 200) (nc len : Int32) (text : Nat → Int32) (trial : RS) (a : Nat → Int32) (one two : RS) (dd : Int32) (A B : Nat → Int64) : f_Law_C320 nc now len text trial a one two dd A B (nI (tN t)) (nI (tOdd t)) (nI k) (nI (sm (sq t k) (tN t))) = some 1 := by
  have h8 := hok.1
  have hsm := sm_le hok (tN t) (Nat.le_refl _)
  unfold f_Law_C320
  rw [v_mean1 a hX hok h0, Option.bind_some]
  refine l_333 hX hok a (fun dd A B => ?_) (tN t) 0 FU dd A B (Nat.zero_add _) (by unfold FU; omega)
  show (f_X_mean now a 0).bind _ = some 1
  rw [v_mean0 a hX hok h0, Option.bind_some]
  have g0 : 0 < gd8 t := Nat.gcd_pos_of_pos_right _ h0
  have d1 : gd8 t ∣ sm t (tN t) := Nat.gcd_dvd_left _ _
  have d2 : gd8 t ∣ tN t := Nat.gcd_dvd_right _ _
  have q1 : sm t (tN t) / gd8 t ≤ sm t (tN t) := Nat.div_le_self _ _
  have q2 : tN t / gd8 t ≤ tN t := Nat.div_le_self _ _
  have e : sN (cr t 7) (tN t) * (tN t / gd8 t) = 128 * tN t * (sm t (tN t) / gd8 t) := by
    rw [cr_sum hok h0 7]
    obtain ⟨s', hs'⟩ := d1
    obtain ⟨n', hn'⟩ := d2
    have r1 : sm t (tN t) / gd8 t = s' := Nat.div_eq_of_eq_mul_right g0 hs'
    have r2 : tN t / gd8 t = n' := Nat.div_eq_of_eq_mul_right g0 hn'
    rw [r1, r2, Nat.mul_assoc, Nat.mul_assoc]
    have : sm t (tN t) * n' = tN t * s' := by
      have p1 : sm t (tN t) * n' = gd8 t * s' * n' := congrArg (· * n') hs'
      have p2 : tN t * s' = gd8 t * n' * s' := congrArg (· * s') hn'
      rw [p1, p2, Nat.mul_assoc, Nat.mul_assoc, Nat.mul_comm s' n']
    rw [this]
  have e2 : lN (sN (cr t 7) (tN t)) * (nI (tN t / gd8 t)).toInt64 = 128 * (nI (tN t)).toInt64 * (nI (sm t (tN t) / gd8 t)).toInt64 := by
    rw [nI_l (by omega), nI_l (by omega), nI_l (by omega), lN_mul, e, show (128 : Int64) = lN 128 from rfl, lN_mul, lN_mul]
  show (if lg_cmp (lN (sN (cr t 7) (tN t)) * (nI (tN t / gd8 t)).toInt64) (128 * (nI (tN t)).toInt64 * (nI (sm t (tN t) / gd8 t)).toInt64) = 0 then f_Law_C415 nc now len text trial a one two dd A B (nI (tN t)) (nI (tOdd t)) (nI k) (nI (sm (sq t k) (tN t))) else some 0) = some 1
  rw [if_pos ((cmp_ab _ _).1.mpr e2)]
  exact c_415 hX hok h0 hs hg hk nc len text trial a one two dd A B
theorem c_266 {now : RS} {t : Tb} (hX : rX now t) (hok : okT t) (h0 : 0 < tN t) (hs : tSt t = 0) (hg : tGv t = 0) {k : Nat} (hk : k ≤ 200) (nc len : Int32) (text : Nat → Int32) (trial : RS) (a : Nat → Int32) (one two : RS) (dd : Int32) (A B : Nat → Int64) : f_Law_C266 nc now len text trial a one two dd A B (nI (tN t)) (nI (tOdd t)) (nI k) (nI (sm (sq t k) (tN t))) = some 1 := by
  have h8 := hok.1
  unfold f_Law_C266
  obtain ⟨r, o1, w1, e, hr⟩ := v_ring0 a one two hX hok h0
  rw [e, Option.bind_some]
  have fin : ∀ o w, f_Law_C320 nc now len text trial a o w dd A B (nI (tN t)) (nI (tOdd t)) (nI k) (nI (sm (sq t k) (tN t))) = some 1 := fun o w => c_320 hX hok h0 hs hg hk nc len text trial a o w dd A B
  rcases hr with rfl | ⟨i, p, rfl, hi, hp, he⟩
  · have hF : FU = 999999 + 1 := rfl
    rw [hF]
    refine (l_276n (now := now) (x9 := -9) (by decide) a o1 w1 _ 999999).trans ?_
    exact fin o1 w1
  · refine l_276 hX hok hi hp he a (fun o w => ?_) (tN t) 0 FU o1 w1 (Nat.zero_add _) (by unfold FU; omega)
    exact fin o w
theorem c_197 {now : RS} {t : Tb} (hX : rX now t) (hok : okT t) (h0 : 0 < tN t) (hs : tSt t = 0) (hg : tGv t = 0) {k : Nat} (hk : k ≤ 200) (nc len : Int32) (text : Nat → Int32) (trial : RS) (a : Nat → Int32) (one two : RS) (dd : Int32) (A B : Nat → Int64) : f_Law_C197 nc now len text trial a one two dd A B (nI (tN t)) (nI (tOdd t)) (nI k) (nI (sm (sq t k) (tN t))) (fnd (fun k => alk (sq t k)) 201 0) = some 1 := by
  have h8 := hok.1
  unfold f_Law_C197
  have fin : ∀ o, f_Law_C266 nc now len text trial a o two dd A B (nI (tN t)) (nI (tOdd t)) (nI k) (nI (sm (sq t k) (tN t))) = some 1 := fun o => c_266 hX hok h0 hs hg hk nc len text trial a o two dd A B
  rcases fnd_or (fun k => alk (sq t k)) 201 0 with e | ⟨j, -, b2, b3, -, e⟩
  · have hF : FU = 999999 + 1 := rfl
    rw [e, hF]
    refine (l_200n (now := now) (by decide) a one _ 999999).trans ?_
    exact fin one
  · rw [e]
    refine l_200 hX hok (show j ≤ 200 by omega) b3 a (fun o => ?_) (tN t) 0 FU one (Nat.zero_add _) (by unfold FU; omega)
    exact fin o
theorem c_134 {now : RS} {t : Tb} (hX : rX now t) (hok : okT t) (h0 : 0 < tN t) (hs : tSt t = 0) (hg : tGv t = 0) {k : Nat} (hk : k ≤ 200) (nc len : Int32) (text : Nat → Int32) (trial : RS) (a : Nat → Int32) (one two : RS) (dd : Int32) (A B : Nat → Int64) : f_Law_C134 nc now len text trial a one two dd A B (nI (tN t)) (nI (tOdd t)) (nI k) (nI (sm (sq t k) (tN t))) = some 1 := by
  have h8 := hok.1
  unfold f_Law_C134
  obtain ⟨o1, w1, e1⟩ := v_rests a one two hX hok h0
  obtain ⟨o2, e2⟩ := v_alike a o1 hX hok h0
  rw [e1, Option.bind_some]
  show (f_X_alike now a o1).bind _ = some 1
  rw [e2, Option.bind_some]
  have fin : ∀ o, f_Law_C197 nc now len text trial a o w1 dd A B (nI (tN t)) (nI (tOdd t)) (nI k) (nI (sm (sq t k) (tN t))) (fnd (fun k => alk (sq t k)) 201 0) = some 1 := fun o => c_197 hX hok h0 hs hg hk nc len text trial a o w1 dd A B
  show (if fnd (fun n => eqS t n (n + 1)) 201 0 < 0 then f_Law_C197 nc now len text trial a o2 w1 dd A B (nI (tN t)) (nI (tOdd t)) (nI k) (nI (sm (sq t k) (tN t))) (fnd (fun k => alk (sq t k)) 201 0) else if 200 ≤ fnd (fun n => eqS t n (n + 1)) 201 0 then f_Law_C197 nc now len text trial a o2 w1 dd A B (nI (tN t)) (nI (tOdd t)) (nI k) (nI (sm (sq t k) (tN t))) (fnd (fun k => alk (sq t k)) 201 0) else f_Law_law_L162 now (nI (tN t)) (fnd (fun n => eqS t n (n + 1)) 201 0) (fun z_x_refusals_71 z_x_mind_one_71 => f_Law_C197 nc now len text trial z_x_refusals_71 z_x_mind_one_71 w1 dd A B (nI (tN t)) (nI (tOdd t)) (nI k) (nI (sm (sq t k) (tN t))) (fnd (fun k => alk (sq t k)) 201 0)) FU a o2 0) = some 1
  rcases fnd_or (fun n => eqS t n (n + 1)) 201 0 with e | ⟨j, -, b2, b3, -, e⟩
  · rw [e, if_pos (by decide)]
    exact fin o2
  · rw [e, if_neg (nI_pos (by omega))]
    by_cases h2 : 200 ≤ j
    · have g : (200 : Int32) ≤ nI j := nI_le (a := 200) h2 (by omega)
      rw [if_pos g]
      exact fin o2
    · have g : ¬ (200 : Int32) ≤ nI j := nI_ge (b := 200) (by omega) (by omega)
      rw [if_neg g]
      refine l_162 hX hok (show j < 200 by omega) b3 a (fun o => ?_) (tN t) 0 FU o2 (Nat.zero_add _) (by unfold FU; omega)
      exact fin o
theorem c_17 (xs : Nat → Int32) {L : Nat} (hL : L < 2 ^ 31) {now : RS} {t : Tb} (hX : rX now t) (hok : okT t) (h0 : 0 < tN t) (hm : sm t (tN t) ≤ 472) (hs : tSt t = 0) (hg : tGv t = 0) {v9 : Int32} (ev9 : f_Law_cell xs L 9 = some v9) (ej9 : f_Law_pick v9 3 = some (nI (tOdd t))) (nc len : Int32) (text : Nat → Int32) (trial : RS) (a : Nat → Int32) (one two : RS) (dd : Int32) (A B : Nat → Int64) : f_Law_C17 xs L nc now len text trial a one two dd A B (nI (tN t)) = some 1 := by
  have h8 := hok.1
  have o2 := hok.2.2.1
  obtain ⟨v13, ev13⟩ := cell_k xs (k := 13) hL (by omega)
  have ev13 : f_Law_cell xs L 13 = some v13 := ev13
  obtain ⟨k, hk, ek⟩ := pick_k v13 (n := 40) (by omega) (by omega)
  have ek : f_Law_pick v13 40 = some (nI k) := ek
  obtain ⟨g, h, c1, c2, c3, c4, c5, c6⟩ := sq_c hok h0 k (by omega)
  have dg : tGv (sq t k) - tGv t = nI g := by rw [c1]; exact i_al _ _
  have dh : tTh (sq t k) - tTh t = nI h := by rw [c2]; exact i_al _ _
  unfold f_Law_C17
  rw [ev9, Option.bind_some, ej9, Option.bind_some, v_cnt1 nc len a hX hok, Option.bind_some, ev13, Option.bind_some, ek, Option.bind_some]
  refine l_55 hX hok (show k ≤ 200 by omega) a (fun o1 => ?_) (tN t) 0 FU one (Nat.zero_add _) (by unfold FU; omega)
  obtain ⟨p2, e2⟩ := v_giv0 a o1 hX hok (show k ≤ 200 by omega)
  obtain ⟨p3, e3⟩ := v_giv1 a p2 hX hok (show k ≤ 200 by omega)
  obtain ⟨p4, e4⟩ := v_giv1 a p3 hX hok (show k ≤ 200 by omega)
  obtain ⟨p5, e5⟩ := v_giv0 a p3 hX hok (show k ≤ 200 by omega)
  obtain ⟨p6, e6⟩ := v_giv1 a p5 hX hok (show k ≤ 200 by omega)
  rw [dg] at e2 e5
  rw [dh] at e3 e4 e6
  have fin : ∀ o, f_Law_C134 nc now len text trial a o two dd A B (nI (tN t)) (nI (tOdd t)) (nI k) (nI (sm (sq t k) (tN t))) = some 1 := fun o => c_134 hX hok h0 hs hg (by omega) nc len text trial a o two dd A B
  have es : nI (sm (sq t k) (tN t)) = nI (sm t (tN t)) + nI g - nI h := by
    rw [nI_add, ← c3, ← nI_add]
    exact (Int32.add_sub_cancel _ _).symm
  show (f_X_given now a o1 (nI k) 0).bind _ = some 1
  rw [e2, Option.bind_some]
  show (f_X_given now a p2 (nI k) 1).bind _ = some 1
  rw [e3, Option.bind_some]
  show (if nI (sm (sq t k) (tN t)) = nI (sm t (tN t)) + nI g - nI h then (if nI (tOdd t) = 0 then (f_X_given now a p3 (nI k) 1).bind _ else (f_X_given now a p3 (nI k) 0).bind _) else some 0) = some 1
  rw [if_pos es]
  by_cases q0 : nI (tOdd t) = 0
  · have t0 : tOdd t = 0 := (nI_eq (b := 0) (by omega) (by omega)).mp q0
    have hh : h = 0 := c6 (by omega)
    rw [hh] at e4
    rw [if_pos q0, e4, Option.bind_some]
    show (if nI 0 = 0 then f_Law_C134 nc now len text trial a p4 two dd A B (nI (tN t)) (nI (tOdd t)) (nI k) (nI (sm (sq t k) (tN t))) else some 0) = some 1
    rw [if_pos nI_0]
    exact fin p4
  · have t0 : tOdd t ≠ 0 := fun z => q0 (by rw [z]; rfl)
    have hh : g = 0 := c5 t0
    rw [hh] at e5
    rw [if_neg q0, e5, Option.bind_some]
    show (if nI 0 = 0 then (if nI (tOdd t) = 1 then f_Law_C134 nc now len text trial a p5 two dd A B (nI (tN t)) (nI (tOdd t)) (nI k) (nI (sm (sq t k) (tN t))) else (f_X_given now a p5 (nI k) 1).bind _) else some 0) = some 1
    rw [if_pos nI_0]
    by_cases q1 : nI (tOdd t) = 1
    · rw [if_pos q1]
      exact fin p5
    · have t1 : tOdd t ≠ 1 := fun z => q1 (by rw [z]; rfl)
      have hh : h = 0 := c6 t1
      rw [hh] at e6
      rw [if_neg q1, e6, Option.bind_some]
      show (if nI 0 = 0 then f_Law_C134 nc now len text trial a p6 two dd A B (nI (tN t)) (nI (tOdd t)) (nI k) (nI (sm (sq t k) (tN t))) else some 0) = some 1
      rw [if_pos nI_0]
      exact fin p6
