/-! What stands beside the worlds, out of the Statement's own premises. -/
theorem lx_word {args : Array Value} {s : State} {w : Cond} (hts : ∀ w ∈ lw_tbl, w.before args s = true) (i : Nat) (h : tables_1[i]? = some w) : w.before args s = true := hts _ (List.mem_append_right _ (List.mem_of_getElem? h))
theorem lx_arr {args : Array Value} {s : State} {ty : FieldType} (h : (Cond.arrayClass ty).before args s = true) : ∃ cA : ClassId, ArrOfT s cA ty ∧ s.vm.findClass ("[" ++ ty.toString) = some cA := by
  obtain ⟨c, k, comp, h1, h2, h3⟩ := Cond.arrayClass_spec (args := args) (first := s) (o := none) (s := s) (idx := []) h
  exact ⟨c, fun n z => ⟨fun k h => (by cases h), k, h2, comp, h3⟩, h1⟩
abbrev TmL : Term := .static "HalfToTheLeft" "LEAST_SETTING" "[I"
abbrev TmG : Term := .static "HalfToTheLeft" "GREATEST_SETTING" "[I"
abbrev TmS : Term := .string "HalfToTheLeft$Letters" 46
abbrev TmV : Term := .field TmS "java/lang/String" "value" "[B"
set_option maxHeartbeats 4000000 in
set_option maxRecDepth 100000 in
theorem lx_env {b : Nat} {s : State} (hts : ∀ w ∈ lw_tbl, w.before #[Value.ref b] s = true) (hgv : (Jvm.Cond.and given_1 narrow_1).before #[Value.ref b] s = true) : ∃ tL tG tS tV : Nat, xEv tL tG tS tV (fun q : Nat => s.heap.size ≤ q) s s.heap := by
  have hs := flat_of_before _ hgv
  have hA0 : ∀ a : Nat, a < s.heap.size → ¬ (fun q : Nat => s.heap.size ≤ q) a := fun a h => Nat.not_le.mpr h
  have tab : ∀ (tm : Term) (j : Nat) (z : Int32), (Cond.eq (.elem tm (.int (Int32.ofNat j))) (.int z)).before #[Value.ref b] s = true → (Term.elem tm (.int (Int32.ofNat j))).eval #[Value.ref b] s none [] s = some (.int z) := fun tm j z h => va_eqt h
  have qL0 := tab TmL 0 0 (hs _ (by decide +kernel))
  have qL1 := tab TmL 1 1 (hs _ (by decide +kernel))
  have qL2 := tab TmL 2 0 (hs _ (by decide +kernel))
  obtain ⟨tL, hvL, hTL⟩ := va_Tof (tm := TmL) (ty := .int) (N := 3) (f := fun k => .int (s_LEAST_SETTING k)) (by decide) (hs _ (by decide +kernel)) (va_eqt (hs (.eq (.length TmL) (.int 3)) (by decide +kernel))) (fun j hj => by rcases (show j = 0 ∨ j = 1 ∨ j = 2 by omega) with rfl | rfl | rfl; exact qL0; exact qL1; exact qL2) hA0
  have qG0 := tab TmG 0 2 (hs _ (by decide +kernel))
  have qG1 := tab TmG 1 3 (hs _ (by decide +kernel))
  have qG2 := tab TmG 2 999 (hs _ (by decide +kernel))
  obtain ⟨tG, hvG, hTG⟩ := va_Tof (tm := TmG) (ty := .int) (N := 3) (f := fun k => .int (s_GREATEST_SETTING k)) (by decide) (hs _ (by decide +kernel)) (va_eqt (hs (.eq (.length TmG) (.int 3)) (by decide +kernel))) (fun j hj => by rcases (show j = 0 ∨ j = 1 ∨ j = 2 by omega) with rfl | rfl | rfl; exact qG0; exact qG1; exact qG2) hA0
  obtain ⟨tS, cS, cellS, kS, hvS, -⟩ := Cond.exactly_spec (args := #[Value.ref b]) (first := s) (o := none) (s := s) (idx := []) (t := TmS) (cls := "java/lang/String") (hs _ (by decide +kernel))
  have qV0 := tab TmV 0 104 (hs _ (by decide +kernel))
  have qV1 := tab TmV 1 98 (hs _ (by decide +kernel))
  have qV2 := tab TmV 2 114 (hs _ (by decide +kernel))
  have qV3 := tab TmV 3 100 (hs _ (by decide +kernel))
  have qV4 := tab TmV 4 110 (hs _ (by decide +kernel))
  have qV5 := tab TmV 5 112 (hs _ (by decide +kernel))
  have qV6 := tab TmV 6 115 (hs _ (by decide +kernel))
  obtain ⟨tV, hvV, hTV⟩ := va_Tof (tm := TmV) (ty := .byte) (N := 7) (f := fun k => .int (s_text k)) (by decide) (hs _ (by decide +kernel)) (va_eqt (hs (.eq (.length TmV) (.int 7)) (by decide +kernel))) (fun j hj => by rcases (show j = 0 ∨ j = 1 ∨ j = 2 ∨ j = 3 ∨ j = 4 ∨ j = 5 ∨ j = 6 by omega) with rfl | rfl | rfl | rfl | rfl | rfl | rfl; exact qV0; exact qV1; exact qV2; exact qV3; exact qV4; exact qV5; exact qV6) hA0
  refine ⟨tL, tG, tS, tV, va_Zref (lx_word hts 542 (by decide +kernel)) (lx_word hts 1 (by decide +kernel)) hvL hA0, hTL, va_Zref (lx_word hts 544 (by decide +kernel)) (lx_word hts 1 (by decide +kernel)) hvG hA0, hTG, va_Zof (lx_word hts 445 (by decide +kernel)) (lx_word hts 8 (by decide +kernel)) (va_eqi (hs _ (by decide +kernel))) hA0, va_Oof (t := TmS) (hs _ (by decide +kernel)) hvS hA0, vk_OFof (t := TmS) hvS (va_eqt (hs _ (by decide +kernel))) hA0, vk_OFof (t := TmS) hvS hvV hA0, hTV, vk_R.of (lx_word hts 431 (by decide +kernel)) hvS, ?_, ?_, ?_⟩
  · exact va_Nw.of rfl (lx_word hts 545 (by decide +kernel))
  · exact va_Nw.of rfl (lx_word hts 541 (by decide +kernel))
  · exact va_Nw.of rfl (lx_word hts 543 (by decide +kernel))
