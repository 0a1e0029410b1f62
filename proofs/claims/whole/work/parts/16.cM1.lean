/-! Contracts: M1. Printed by wip/whole/gen. -/
abbrev w_M_no (cI cJ cC : ClassId) (a_h a_h_refused a_h_kind a_h_sweets a_h_gives a_h_tape a_h_letter a_h_letterAt a_h_one a_h_two a_h_kept a_h_trail a_h_crumb a_h_nextCrumb a_h_goal a_h_start a_h_sits a_h_bestSits a_h_without a_h_row : Nat) (y_h_many : Int32) (y_h_odd : Int32) (y_h_step : Int32) (y_h_bag : Int32) (y_h_strokes : Int32) (y_h_gave : Int32) (y_h_threw : Int32) (y_h_taped : Int32) (y_h_at : Int32) (y_h_statements : Int32) (y_h_hasImage : Int32) (y_h_isKeeping : Int32) (y_h_cursor : Int32) (y_h_beforeMany : Int32) (y_h_found : Int32) (y_h_lots : Int32) (y_h_rowMany : Int32) (p_h_refused : (Nat → Int32)) : va_W := [(a_h, .inr (7, [.ref a_h_refused, .ref a_h_kind, .ref a_h_sweets, .ref a_h_gives, .int y_h_many, .int y_h_odd, .int y_h_step, .int y_h_bag, .int y_h_strokes, .int y_h_gave, .int y_h_threw, .ref a_h_tape, .ref a_h_letter, .ref a_h_letterAt, .ref a_h_one, .ref a_h_two, .int y_h_taped, .int y_h_at, .int y_h_statements, .ref a_h_kept, .int y_h_hasImage, .int y_h_isKeeping, .int y_h_cursor, .ref a_h_trail, .ref a_h_crumb, .ref a_h_nextCrumb, .ref a_h_goal, .ref a_h_start, .int y_h_beforeMany, .int y_h_found, .ref a_h_sits, .ref a_h_bestSits, .ref a_h_without, .int y_h_lots, .ref a_h_row, .int y_h_rowMany])), (a_h_refused, .inl (cI, (7, .inl p_h_refused)))]
theorem d_M_no_0 : decode b_M_no 0 = .ok (.aload_n 0, 1) := by decide +kernel
theorem d_M_no_1 : decode b_M_no 1 = .ok (.getfield 7, 3) := by decide +kernel
theorem d_M_no_4 : decode b_M_no 4 = .ok (.iload_n 1, 1) := by decide +kernel
theorem d_M_no_5 : decode b_M_no 5 = .ok (.ineg, 1) := by decide +kernel
theorem d_M_no_6 : decode b_M_no 6 = .ok (.dup2, 1) := by decide +kernel
theorem d_M_no_7 : decode b_M_no 7 = .ok (.iaload, 1) := by decide +kernel
theorem d_M_no_8 : decode b_M_no 8 = .ok (.iconst 1, 1) := by decide +kernel
theorem d_M_no_9 : decode b_M_no 9 = .ok (.iadd, 1) := by decide +kernel
theorem d_M_no_10 : decode b_M_no 10 = .ok (.iastore, 1) := by decide +kernel
theorem d_M_no_11 : decode b_M_no 11 = .ok (.iload_n 1, 1) := by decide +kernel
theorem d_M_no_12 : decode b_M_no 12 = .ok (.ireturn, 1) := by decide +kernel
set_option maxHeartbeats 4000000 in
set_option maxRecDepth 100000 in
theorem c_M_no {l : Launch} {D : va_G} {cI cJ cC : ClassId} (a_h a_h_refused a_h_kind a_h_sweets a_h_gives a_h_tape a_h_letter a_h_letterAt a_h_one a_h_two a_h_kept a_h_trail a_h_crumb a_h_nextCrumb a_h_goal a_h_start a_h_sits a_h_bestSits a_h_without a_h_row : Nat) (y_h_many : Int32) (y_h_odd : Int32) (y_h_step : Int32) (y_h_bag : Int32) (y_h_strokes : Int32) (y_h_gave : Int32) (y_h_threw : Int32) (y_h_taped : Int32) (y_h_at : Int32) (y_h_statements : Int32) (y_h_hasImage : Int32) (y_h_isKeeping : Int32) (y_h_cursor : Int32) (y_h_beforeMany : Int32) (y_h_found : Int32) (y_h_lots : Int32) (y_h_rowMany : Int32) {z_h_refused : (Nat → Int32)} {x1 : Int32} {q : Int32 × (Nat → Int32)} (hf : f_M_no z_h_refused x1 = some q) : xI l y_M_no b_M_no 2 .int 0 0 D (tyK cI cJ cC) xE0 [.ref a_h, .int x1] (w_M_no cI cJ cC a_h a_h_refused a_h_kind a_h_sweets a_h_gives a_h_tape a_h_letter a_h_letterAt a_h_one a_h_two a_h_kept a_h_trail a_h_crumb a_h_nextCrumb a_h_goal a_h_start a_h_sits a_h_bestSits a_h_without a_h_row y_h_many y_h_odd y_h_step y_h_bag y_h_strokes y_h_gave y_h_threw y_h_taped y_h_at y_h_statements y_h_hasImage y_h_isKeeping y_h_cursor y_h_beforeMany y_h_found y_h_lots y_h_rowMany z_h_refused) q.1 (w_M_no cI cJ cC a_h a_h_refused a_h_kind a_h_sweets a_h_gives a_h_tape a_h_letter a_h_letterAt a_h_one a_h_two a_h_kept a_h_trail a_h_crumb a_h_nextCrumb a_h_goal a_h_start a_h_sits a_h_bestSits a_h_without a_h_row y_h_many y_h_odd y_h_step y_h_bag y_h_strokes y_h_gave y_h_threw y_h_taped y_h_at y_h_statements y_h_hasImage y_h_isKeeping y_h_cursor y_h_beforeMany y_h_found y_h_lots y_h_rowMany q.2) := by
  refine xI_of (by decide) (Nat.le_of_ble_eq_true rfl) ?_
  intro p e s m args below meth c A Q hx hb hml hown hT hA hP hD hK hS hE hret ls hl
  have hown : s.vm.findClass R_M = some m.cls := hown
  have hl : lv_has ls 2 [(0, .ref a_h), (1, .int x1)] := hl
  unfold f_M_no at hf
  refine lv_aload_n hx hb d_M_no_0 rfl (lv_at hl 0 rfl) ?_
  refine va_get hx hb hT i_M hown hK hP 0 rfl rfl 0 (Nat.le_of_ble_eq_true rfl) (hT _ k_758) (fun _ h => h) rfl d_M_no_1 ?_
  refine lv_iload_n hx hb d_M_no_4 rfl (lv_at hl 1 rfl) ?_
  refine lv_ineg hx hb d_M_no_5 ?_
  refine lv_dup2_11 hx hb d_M_no_6 rfl rfl ?_
  obtain ⟨c1, hf⟩ := io_n hf
  refine x_iald hx hb hK hP 1 0 rfl rfl (j := (-x1).toNatClampNeg) rfl c1 d_M_no_7 ?_
  refine lv_iconst (v := 1) hx hb d_M_no_8 (by decide) ?_
  refine lv_iadd hx hb d_M_no_9 ?_
  refine x_iast hx hb hK hP hD hS 1 0 rfl rfl (j := (-x1).toNatClampNeg) rfl c1 d_M_no_10 (fun H locs hP hD hS => ?_)
  have hP : va_P D classes (w_M_no cI cJ cC a_h a_h_refused a_h_kind a_h_sweets a_h_gives a_h_tape a_h_letter a_h_letterAt a_h_one a_h_two a_h_kept a_h_trail a_h_crumb a_h_nextCrumb a_h_goal a_h_start a_h_sits a_h_bestSits a_h_without a_h_row y_h_many y_h_odd y_h_step y_h_bag y_h_strokes y_h_gave y_h_threw y_h_taped y_h_at y_h_statements y_h_hasImage y_h_isKeeping y_h_cursor y_h_beforeMany y_h_found y_h_lots y_h_rowMany (upd z_h_refused (-x1).toNatClampNeg ((z_h_refused (-x1).toNatClampNeg) + 1))) H := hP
  have hD : va_D A (w_M_no cI cJ cC a_h a_h_refused a_h_kind a_h_sweets a_h_gives a_h_tape a_h_letter a_h_letterAt a_h_one a_h_two a_h_kept a_h_trail a_h_crumb a_h_nextCrumb a_h_goal a_h_start a_h_sits a_h_bestSits a_h_without a_h_row y_h_many y_h_odd y_h_step y_h_bag y_h_strokes y_h_gave y_h_threw y_h_taped y_h_at y_h_statements y_h_hasImage y_h_isKeeping y_h_cursor y_h_beforeMany y_h_found y_h_lots y_h_rowMany (upd z_h_refused (-x1).toNatClampNeg ((z_h_refused (-x1).toNatClampNeg) + 1))) := hD
  refine lv_iload_n hx hb d_M_no_11 rfl (lv_at hl 1 rfl) ?_
  have hq := Option.some.inj hf
  subst hq
  exact hret _ _ _ _ _ d_M_no_12 rfl rfl hP hD hS
abbrev w_M_lower (cI cJ cC : ClassId) (a_h a_h_refused a_h_kind a_h_sweets a_h_gives a_h_tape a_h_letter a_h_letterAt a_h_one a_h_two a_h_kept a_h_trail a_h_crumb a_h_nextCrumb a_h_goal a_h_start a_h_sits a_h_bestSits a_h_without a_h_row : Nat) (y_h_many : Int32) (y_h_odd : Int32) (y_h_step : Int32) (y_h_bag : Int32) (y_h_strokes : Int32) (y_h_gave : Int32) (y_h_threw : Int32) (y_h_taped : Int32) (y_h_at : Int32) (y_h_statements : Int32) (y_h_hasImage : Int32) (y_h_isKeeping : Int32) (y_h_cursor : Int32) (y_h_beforeMany : Int32) (y_h_found : Int32) (y_h_lots : Int32) (y_h_rowMany : Int32) (p_h_refused : (Nat → Int32)) : va_W := [(a_h, .inr (7, [.ref a_h_refused, .ref a_h_kind, .ref a_h_sweets, .ref a_h_gives, .int y_h_many, .int y_h_odd, .int y_h_step, .int y_h_bag, .int y_h_strokes, .int y_h_gave, .int y_h_threw, .ref a_h_tape, .ref a_h_letter, .ref a_h_letterAt, .ref a_h_one, .ref a_h_two, .int y_h_taped, .int y_h_at, .int y_h_statements, .ref a_h_kept, .int y_h_hasImage, .int y_h_isKeeping, .int y_h_cursor, .ref a_h_trail, .ref a_h_crumb, .ref a_h_nextCrumb, .ref a_h_goal, .ref a_h_start, .int y_h_beforeMany, .int y_h_found, .ref a_h_sits, .ref a_h_bestSits, .ref a_h_without, .int y_h_lots, .ref a_h_row, .int y_h_rowMany])), (a_h_refused, .inl (cI, (7, .inl p_h_refused)))]
theorem d_M_lower_0 : decode b_M_lower 0 = .ok (.aload_n 0, 1) := by decide +kernel
theorem d_M_lower_1 : decode b_M_lower 1 = .ok (.getfield 7, 3) := by decide +kernel
theorem d_M_lower_4 : decode b_M_lower 4 = .ok (.iload_n 1, 1) := by decide +kernel
theorem d_M_lower_5 : decode b_M_lower 5 = .ok (.ineg, 1) := by decide +kernel
theorem d_M_lower_6 : decode b_M_lower 6 = .ok (.dup2, 1) := by decide +kernel
theorem d_M_lower_7 : decode b_M_lower 7 = .ok (.iaload, 1) := by decide +kernel
theorem d_M_lower_8 : decode b_M_lower 8 = .ok (.iconst 1, 1) := by decide +kernel
theorem d_M_lower_9 : decode b_M_lower 9 = .ok (.iadd, 1) := by decide +kernel
theorem d_M_lower_10 : decode b_M_lower 10 = .ok (.iastore, 1) := by decide +kernel
theorem d_M_lower_11 : decode b_M_lower 11 = .ok (.ldc 75, 2) := by decide +kernel
theorem d_M_lower_13 : decode b_M_lower 13 = .ok (.iload_n 1, 1) := by decide +kernel
theorem d_M_lower_14 : decode b_M_lower 14 = .ok (.isub, 1) := by decide +kernel
theorem d_M_lower_15 : decode b_M_lower 15 = .ok (.ireturn, 1) := by decide +kernel
set_option maxHeartbeats 4000000 in
set_option maxRecDepth 100000 in
theorem c_M_lower {l : Launch} {D : va_G} {cI cJ cC : ClassId} (a_h a_h_refused a_h_kind a_h_sweets a_h_gives a_h_tape a_h_letter a_h_letterAt a_h_one a_h_two a_h_kept a_h_trail a_h_crumb a_h_nextCrumb a_h_goal a_h_start a_h_sits a_h_bestSits a_h_without a_h_row : Nat) (y_h_many : Int32) (y_h_odd : Int32) (y_h_step : Int32) (y_h_bag : Int32) (y_h_strokes : Int32) (y_h_gave : Int32) (y_h_threw : Int32) (y_h_taped : Int32) (y_h_at : Int32) (y_h_statements : Int32) (y_h_hasImage : Int32) (y_h_isKeeping : Int32) (y_h_cursor : Int32) (y_h_beforeMany : Int32) (y_h_found : Int32) (y_h_lots : Int32) (y_h_rowMany : Int32) {z_h_refused : (Nat → Int32)} {x1 : Int32} {q : Int32 × (Nat → Int32)} (hf : f_M_lower z_h_refused x1 = some q) : xI l y_M_lower b_M_lower 2 .int 0 0 D (tyK cI cJ cC) xE0 [.ref a_h, .int x1] (w_M_lower cI cJ cC a_h a_h_refused a_h_kind a_h_sweets a_h_gives a_h_tape a_h_letter a_h_letterAt a_h_one a_h_two a_h_kept a_h_trail a_h_crumb a_h_nextCrumb a_h_goal a_h_start a_h_sits a_h_bestSits a_h_without a_h_row y_h_many y_h_odd y_h_step y_h_bag y_h_strokes y_h_gave y_h_threw y_h_taped y_h_at y_h_statements y_h_hasImage y_h_isKeeping y_h_cursor y_h_beforeMany y_h_found y_h_lots y_h_rowMany z_h_refused) q.1 (w_M_lower cI cJ cC a_h a_h_refused a_h_kind a_h_sweets a_h_gives a_h_tape a_h_letter a_h_letterAt a_h_one a_h_two a_h_kept a_h_trail a_h_crumb a_h_nextCrumb a_h_goal a_h_start a_h_sits a_h_bestSits a_h_without a_h_row y_h_many y_h_odd y_h_step y_h_bag y_h_strokes y_h_gave y_h_threw y_h_taped y_h_at y_h_statements y_h_hasImage y_h_isKeeping y_h_cursor y_h_beforeMany y_h_found y_h_lots y_h_rowMany q.2) := by
  refine xI_of (by decide) (Nat.le_of_ble_eq_true rfl) ?_
  intro p e s m args below meth c A Q hx hb hml hown hT hA hP hD hK hS hE hret ls hl
  have hown : s.vm.findClass R_M = some m.cls := hown
  have hl : lv_has ls 2 [(0, .ref a_h), (1, .int x1)] := hl
  unfold f_M_lower at hf
  refine lv_aload_n hx hb d_M_lower_0 rfl (lv_at hl 0 rfl) ?_
  refine va_get hx hb hT i_M hown hK hP 0 rfl rfl 0 (Nat.le_of_ble_eq_true rfl) (hT _ k_758) (fun _ h => h) rfl d_M_lower_1 ?_
  refine lv_iload_n hx hb d_M_lower_4 rfl (lv_at hl 1 rfl) ?_
  refine lv_ineg hx hb d_M_lower_5 ?_
  refine lv_dup2_11 hx hb d_M_lower_6 rfl rfl ?_
  obtain ⟨c1, hf⟩ := io_n hf
  refine x_iald hx hb hK hP 1 0 rfl rfl (j := (-x1).toNatClampNeg) rfl c1 d_M_lower_7 ?_
  refine lv_iconst (v := 1) hx hb d_M_lower_8 (by decide) ?_
  refine lv_iadd hx hb d_M_lower_9 ?_
  refine x_iast hx hb hK hP hD hS 1 0 rfl rfl (j := (-x1).toNatClampNeg) rfl c1 d_M_lower_10 (fun H locs hP hD hS => ?_)
  have hP : va_P D classes (w_M_lower cI cJ cC a_h a_h_refused a_h_kind a_h_sweets a_h_gives a_h_tape a_h_letter a_h_letterAt a_h_one a_h_two a_h_kept a_h_trail a_h_crumb a_h_nextCrumb a_h_goal a_h_start a_h_sits a_h_bestSits a_h_without a_h_row y_h_many y_h_odd y_h_step y_h_bag y_h_strokes y_h_gave y_h_threw y_h_taped y_h_at y_h_statements y_h_hasImage y_h_isKeeping y_h_cursor y_h_beforeMany y_h_found y_h_lots y_h_rowMany (upd z_h_refused (-x1).toNatClampNeg ((z_h_refused (-x1).toNatClampNeg) + 1))) H := hP
  have hD : va_D A (w_M_lower cI cJ cC a_h a_h_refused a_h_kind a_h_sweets a_h_gives a_h_tape a_h_letter a_h_letterAt a_h_one a_h_two a_h_kept a_h_trail a_h_crumb a_h_nextCrumb a_h_goal a_h_start a_h_sits a_h_bestSits a_h_without a_h_row y_h_many y_h_odd y_h_step y_h_bag y_h_strokes y_h_gave y_h_threw y_h_taped y_h_at y_h_statements y_h_hasImage y_h_isKeeping y_h_cursor y_h_beforeMany y_h_found y_h_lots y_h_rowMany (upd z_h_refused (-x1).toNatClampNeg ((z_h_refused (-x1).toNatClampNeg) + 1))) := hD
  refine lv_ldc (v := 1000000000) hx hb hown (hT _ k_1104) d_M_lower_11 ?_
  refine lv_iload_n hx hb d_M_lower_13 rfl (lv_at hl 1 rfl) ?_
  refine lv_isub hx hb d_M_lower_14 ?_
  have hq := Option.some.inj hf
  subst hq
  exact hret _ _ _ _ _ d_M_lower_15 rfl rfl hP hD hS
abbrev w_M_lowest (cI cJ cC : ClassId) (a_h a_h_refused a_h_kind a_h_sweets a_h_gives a_h_tape a_h_letter a_h_letterAt a_h_one a_h_two a_h_kept a_h_trail a_h_crumb a_h_nextCrumb a_h_goal a_h_start a_h_sits a_h_bestSits a_h_without a_h_row : Nat) (y_h_many : Int32) (y_h_odd : Int32) (y_h_step : Int32) (y_h_bag : Int32) (y_h_strokes : Int32) (y_h_gave : Int32) (y_h_threw : Int32) (y_h_taped : Int32) (y_h_at : Int32) (y_h_statements : Int32) (y_h_hasImage : Int32) (y_h_isKeeping : Int32) (y_h_cursor : Int32) (y_h_beforeMany : Int32) (y_h_found : Int32) (y_h_lots : Int32) (y_h_rowMany : Int32) (p_h_refused : (Nat → Int32)) : va_W := [(a_h, .inr (7, [.ref a_h_refused, .ref a_h_kind, .ref a_h_sweets, .ref a_h_gives, .int y_h_many, .int y_h_odd, .int y_h_step, .int y_h_bag, .int y_h_strokes, .int y_h_gave, .int y_h_threw, .ref a_h_tape, .ref a_h_letter, .ref a_h_letterAt, .ref a_h_one, .ref a_h_two, .int y_h_taped, .int y_h_at, .int y_h_statements, .ref a_h_kept, .int y_h_hasImage, .int y_h_isKeeping, .int y_h_cursor, .ref a_h_trail, .ref a_h_crumb, .ref a_h_nextCrumb, .ref a_h_goal, .ref a_h_start, .int y_h_beforeMany, .int y_h_found, .ref a_h_sits, .ref a_h_bestSits, .ref a_h_without, .int y_h_lots, .ref a_h_row, .int y_h_rowMany])), (a_h_refused, .inl (cI, (7, .inl p_h_refused)))]
theorem d_M_lowest_0 : decode b_M_lowest 0 = .ok (.aload_n 0, 1) := by decide +kernel
theorem d_M_lowest_1 : decode b_M_lowest 1 = .ok (.getfield 7, 3) := by decide +kernel
theorem d_M_lowest_4 : decode b_M_lowest 4 = .ok (.iload_n 1, 1) := by decide +kernel
theorem d_M_lowest_5 : decode b_M_lowest 5 = .ok (.ineg, 1) := by decide +kernel
theorem d_M_lowest_6 : decode b_M_lowest 6 = .ok (.dup2, 1) := by decide +kernel
theorem d_M_lowest_7 : decode b_M_lowest 7 = .ok (.iaload, 1) := by decide +kernel
theorem d_M_lowest_8 : decode b_M_lowest 8 = .ok (.iconst 1, 1) := by decide +kernel
theorem d_M_lowest_9 : decode b_M_lowest 9 = .ok (.iadd, 1) := by decide +kernel
theorem d_M_lowest_10 : decode b_M_lowest 10 = .ok (.iastore, 1) := by decide +kernel
theorem d_M_lowest_11 : decode b_M_lowest 11 = .ok (.ldc2_w 76, 3) := by decide +kernel
theorem d_M_lowest_14 : decode b_M_lowest 14 = .ok (.iload_n 1, 1) := by decide +kernel
theorem d_M_lowest_15 : decode b_M_lowest 15 = .ok (.i2l, 1) := by decide +kernel
theorem d_M_lowest_16 : decode b_M_lowest 16 = .ok (.lsub, 1) := by decide +kernel
theorem d_M_lowest_17 : decode b_M_lowest 17 = .ok (.lreturn, 1) := by decide +kernel
set_option maxHeartbeats 4000000 in
set_option maxRecDepth 100000 in
theorem c_M_lowest {l : Launch} {D : va_G} {cI cJ cC : ClassId} (a_h a_h_refused a_h_kind a_h_sweets a_h_gives a_h_tape a_h_letter a_h_letterAt a_h_one a_h_two a_h_kept a_h_trail a_h_crumb a_h_nextCrumb a_h_goal a_h_start a_h_sits a_h_bestSits a_h_without a_h_row : Nat) (y_h_many : Int32) (y_h_odd : Int32) (y_h_step : Int32) (y_h_bag : Int32) (y_h_strokes : Int32) (y_h_gave : Int32) (y_h_threw : Int32) (y_h_taped : Int32) (y_h_at : Int32) (y_h_statements : Int32) (y_h_hasImage : Int32) (y_h_isKeeping : Int32) (y_h_cursor : Int32) (y_h_beforeMany : Int32) (y_h_found : Int32) (y_h_lots : Int32) (y_h_rowMany : Int32) {z_h_refused : (Nat → Int32)} {x1 : Int32} {q : Int64 × (Nat → Int32)} (hf : f_M_lowest z_h_refused x1 = some q) : xL l y_M_lowest b_M_lowest 2 .long 0 0 D (tyK cI cJ cC) xE0 [.ref a_h, .int x1] (w_M_lowest cI cJ cC a_h a_h_refused a_h_kind a_h_sweets a_h_gives a_h_tape a_h_letter a_h_letterAt a_h_one a_h_two a_h_kept a_h_trail a_h_crumb a_h_nextCrumb a_h_goal a_h_start a_h_sits a_h_bestSits a_h_without a_h_row y_h_many y_h_odd y_h_step y_h_bag y_h_strokes y_h_gave y_h_threw y_h_taped y_h_at y_h_statements y_h_hasImage y_h_isKeeping y_h_cursor y_h_beforeMany y_h_found y_h_lots y_h_rowMany z_h_refused) q.1 (w_M_lowest cI cJ cC a_h a_h_refused a_h_kind a_h_sweets a_h_gives a_h_tape a_h_letter a_h_letterAt a_h_one a_h_two a_h_kept a_h_trail a_h_crumb a_h_nextCrumb a_h_goal a_h_start a_h_sits a_h_bestSits a_h_without a_h_row y_h_many y_h_odd y_h_step y_h_bag y_h_strokes y_h_gave y_h_threw y_h_taped y_h_at y_h_statements y_h_hasImage y_h_isKeeping y_h_cursor y_h_beforeMany y_h_found y_h_lots y_h_rowMany q.2) := by
  refine xL_of (by decide) (Nat.le_of_ble_eq_true rfl) ?_
  intro p e s m args below meth c A Q hx hb hml hown hT hA hP hD hK hS hE hret ls hl
  have hown : s.vm.findClass R_M = some m.cls := hown
  have hl : lv_has ls 2 [(0, .ref a_h), (1, .int x1)] := hl
  unfold f_M_lowest at hf
  refine lv_aload_n hx hb d_M_lowest_0 rfl (lv_at hl 0 rfl) ?_
  refine va_get hx hb hT i_M hown hK hP 0 rfl rfl 0 (Nat.le_of_ble_eq_true rfl) (hT _ k_758) (fun _ h => h) rfl d_M_lowest_1 ?_
  refine lv_iload_n hx hb d_M_lowest_4 rfl (lv_at hl 1 rfl) ?_
  refine lv_ineg hx hb d_M_lowest_5 ?_
  refine lv_dup2_11 hx hb d_M_lowest_6 rfl rfl ?_
  obtain ⟨c1, hf⟩ := io_n hf
  refine x_iald hx hb hK hP 1 0 rfl rfl (j := (-x1).toNatClampNeg) rfl c1 d_M_lowest_7 ?_
  refine lv_iconst (v := 1) hx hb d_M_lowest_8 (by decide) ?_
  refine lv_iadd hx hb d_M_lowest_9 ?_
  refine x_iast hx hb hK hP hD hS 1 0 rfl rfl (j := (-x1).toNatClampNeg) rfl c1 d_M_lowest_10 (fun H locs hP hD hS => ?_)
  have hP : va_P D classes (w_M_lowest cI cJ cC a_h a_h_refused a_h_kind a_h_sweets a_h_gives a_h_tape a_h_letter a_h_letterAt a_h_one a_h_two a_h_kept a_h_trail a_h_crumb a_h_nextCrumb a_h_goal a_h_start a_h_sits a_h_bestSits a_h_without a_h_row y_h_many y_h_odd y_h_step y_h_bag y_h_strokes y_h_gave y_h_threw y_h_taped y_h_at y_h_statements y_h_hasImage y_h_isKeeping y_h_cursor y_h_beforeMany y_h_found y_h_lots y_h_rowMany (upd z_h_refused (-x1).toNatClampNeg ((z_h_refused (-x1).toNatClampNeg) + 1))) H := hP
  have hD : va_D A (w_M_lowest cI cJ cC a_h a_h_refused a_h_kind a_h_sweets a_h_gives a_h_tape a_h_letter a_h_letterAt a_h_one a_h_two a_h_kept a_h_trail a_h_crumb a_h_nextCrumb a_h_goal a_h_start a_h_sits a_h_bestSits a_h_without a_h_row y_h_many y_h_odd y_h_step y_h_bag y_h_strokes y_h_gave y_h_threw y_h_taped y_h_at y_h_statements y_h_hasImage y_h_isKeeping y_h_cursor y_h_beforeMany y_h_found y_h_lots y_h_rowMany (upd z_h_refused (-x1).toNatClampNeg ((z_h_refused (-x1).toNatClampNeg) + 1))) := hD
  refine lv_ldc2 (v := 4000000000000000000) hx hb hown (hT _ k_1031) d_M_lowest_11 ?_
  refine lv_iload_n hx hb d_M_lowest_14 rfl (lv_at hl 1 rfl) ?_
  refine lv_i2l (v := (x1.toInt64)) hx hb d_M_lowest_15 rfl ?_
  refine lv_lsub hx hb d_M_lowest_16 ?_
  have hq := Option.some.inj hf
  subst hq
  exact hret _ _ _ _ _ d_M_lowest_17 rfl hP hD hS
theorem d_M_isIn_0 : decode b_M_isIn 0 = .ok (.iload_n 0, 1) := by decide +kernel
theorem d_M_isIn_1 : decode b_M_isIn 1 = .ok (.iload_n 1, 1) := by decide +kernel
theorem d_M_isIn_2 : decode b_M_isIn 2 = .ok (.if_icmp .lt 12, 3) := by decide +kernel
theorem d_M_isIn_5 : decode b_M_isIn 5 = .ok (.iload_n 0, 1) := by decide +kernel
theorem d_M_isIn_6 : decode b_M_isIn 6 = .ok (.iload_n 2, 1) := by decide +kernel
theorem d_M_isIn_7 : decode b_M_isIn 7 = .ok (.if_icmp .gt 7, 3) := by decide +kernel
theorem d_M_isIn_10 : decode b_M_isIn 10 = .ok (.iconst 1, 1) := by decide +kernel
theorem d_M_isIn_11 : decode b_M_isIn 11 = .ok (.goto 4, 3) := by decide +kernel
theorem d_M_isIn_14 : decode b_M_isIn 14 = .ok (.iconst 0, 1) := by decide +kernel
theorem d_M_isIn_15 : decode b_M_isIn 15 = .ok (.ireturn, 1) := by decide +kernel
set_option maxHeartbeats 4000000 in
set_option maxRecDepth 100000 in
theorem c_M_isIn {l : Launch} {D : va_G} {cI cJ cC : ClassId} {x0 : Int32} {x1 : Int32} {x2 : Int32} {q : Int32} (hf : f_M_isIn x0 x1 x2 = some q) : xI l y_M_isIn b_M_isIn 3 .boolean 0 0 D (tyK cI cJ cC) xE0 [.int x0, .int x1, .int x2] [] q [] := by
  refine xI_of (by decide) (Nat.le_of_ble_eq_true rfl) ?_
  intro p e s m args below meth c A Q hx hb hml hown hT hA hP hD hK hS hE hret ls hl
  have hown : s.vm.findClass R_M = some m.cls := hown
  have hl : lv_has ls 3 [(0, .int x0), (1, .int x1), (2, .int x2)] := hl
  unfold f_M_isIn at hf
  refine lv_iload_n hx hb d_M_isIn_0 rfl (lv_at hl 0 rfl) ?_
  refine lv_iload_n hx hb d_M_isIn_1 rfl (lv_at hl 1 rfl) ?_
  refine lv_icmp_lt (tgt := 14) hx hb d_M_isIn_2 (by decide) (fun c1 => ?_) (fun c1 => ?_)
  · have hf := io_t hf c1
    refine lv_iconst (v := 0) hx hb d_M_isIn_14 (by decide) ?_
    have hq := Option.some.inj hf
    subst hq
    exact hret _ _ _ _ _ d_M_isIn_15 (by decide) rfl hP hD hS
  · have hf := io_f hf c1
    refine lv_iload_n hx hb d_M_isIn_5 rfl (lv_at hl 0 rfl) ?_
    refine lv_iload_n hx hb d_M_isIn_6 rfl (lv_at hl 2 rfl) ?_
    refine lv_icmp_gt (tgt := 14) hx hb d_M_isIn_7 (by decide) (fun c2 => ?_) (fun c2 => ?_)
    · have hf := io_t hf c2
      refine lv_iconst (v := 0) hx hb d_M_isIn_14 (by decide) ?_
      have hq := Option.some.inj hf
      subst hq
      exact hret _ _ _ _ _ d_M_isIn_15 (by decide) rfl hP hD hS
    · have hf := io_f hf c2
      refine lv_iconst (v := 1) hx hb d_M_isIn_10 (by decide) ?_
      refine lv_goto (tgt := 15) hx hb d_M_isIn_11 (by decide) ?_
      have hq := Option.some.inj hf
      subst hq
      exact hret _ _ _ _ _ d_M_isIn_15 (by decide) rfl hP hD hS
theorem d_M_bound_0 : decode b_M_bound 0 = .ok (.iload_n 0, 1) := by decide +kernel
theorem d_M_bound_1 : decode b_M_bound 1 = .ok (.iload_n 1, 1) := by decide +kernel
theorem d_M_bound_2 : decode b_M_bound 2 = .ok (.if_icmp .ge 8, 3) := by decide +kernel
theorem d_M_bound_5 : decode b_M_bound 5 = .ok (.bipush (-4), 2) := by decide +kernel
theorem d_M_bound_7 : decode b_M_bound 7 = .ok (.goto 14, 3) := by decide +kernel
theorem d_M_bound_10 : decode b_M_bound 10 = .ok (.iload_n 0, 1) := by decide +kernel
theorem d_M_bound_11 : decode b_M_bound 11 = .ok (.iload_n 2, 1) := by decide +kernel
theorem d_M_bound_12 : decode b_M_bound 12 = .ok (.if_icmp .le 8, 3) := by decide +kernel
theorem d_M_bound_15 : decode b_M_bound 15 = .ok (.bipush (-6), 2) := by decide +kernel
theorem d_M_bound_17 : decode b_M_bound 17 = .ok (.goto 4, 3) := by decide +kernel
theorem d_M_bound_20 : decode b_M_bound 20 = .ok (.iconst 0, 1) := by decide +kernel
theorem d_M_bound_21 : decode b_M_bound 21 = .ok (.ireturn, 1) := by decide +kernel
set_option maxHeartbeats 4000000 in
set_option maxRecDepth 100000 in
theorem c_M_bound {l : Launch} {D : va_G} {cI cJ cC : ClassId} {x0 : Int32} {x1 : Int32} {x2 : Int32} {q : Int32} (hf : f_M_bound x0 x1 x2 = some q) : xI l y_M_bound b_M_bound 3 .int 0 0 D (tyK cI cJ cC) xE0 [.int x0, .int x1, .int x2] [] q [] := by
  refine xI_of (by decide) (Nat.le_of_ble_eq_true rfl) ?_
  intro p e s m args below meth c A Q hx hb hml hown hT hA hP hD hK hS hE hret ls hl
  have hown : s.vm.findClass R_M = some m.cls := hown
  have hl : lv_has ls 3 [(0, .int x0), (1, .int x1), (2, .int x2)] := hl
  unfold f_M_bound at hf
  refine lv_iload_n hx hb d_M_bound_0 rfl (lv_at hl 0 rfl) ?_
  refine lv_iload_n hx hb d_M_bound_1 rfl (lv_at hl 1 rfl) ?_
  refine lv_icmp_ge (tgt := 10) hx hb d_M_bound_2 (by decide) (fun c1 => ?_) (fun c1 => ?_)
  · have hf := io_t hf c1
    refine lv_iload_n hx hb d_M_bound_10 rfl (lv_at hl 0 rfl) ?_
    refine lv_iload_n hx hb d_M_bound_11 rfl (lv_at hl 2 rfl) ?_
    refine lv_icmp_le (tgt := 20) hx hb d_M_bound_12 (by decide) (fun c2 => ?_) (fun c2 => ?_)
    · have hf := io_t hf c2
      refine lv_iconst (v := 0) hx hb d_M_bound_20 (by decide) ?_
      have hq := Option.some.inj hf
      subst hq
      exact hret _ _ _ _ _ d_M_bound_21 rfl rfl hP hD hS
    · have hf := io_f hf c2
      refine lv_bipush (v := (-6)) hx hb d_M_bound_15 (by decide) ?_
      refine lv_goto (tgt := 21) hx hb d_M_bound_17 (by decide) ?_
      have hq := Option.some.inj hf
      subst hq
      exact hret _ _ _ _ _ d_M_bound_21 rfl rfl hP hD hS
  · have hf := io_f hf c1
    refine lv_bipush (v := (-4)) hx hb d_M_bound_5 (by decide) ?_
    refine lv_goto (tgt := 21) hx hb d_M_bound_7 (by decide) ?_
    have hq := Option.some.inj hf
    subst hq
    exact hret _ _ _ _ _ d_M_bound_21 rfl rfl hP hD hS
abbrev w_M_isChild (cI cJ cC : ClassId) (a_h a_h_refused a_h_kind a_h_sweets a_h_gives a_h_tape a_h_letter a_h_letterAt a_h_one a_h_two a_h_kept a_h_trail a_h_crumb a_h_nextCrumb a_h_goal a_h_start a_h_sits a_h_bestSits a_h_without a_h_row : Nat) (y_h_taped : Int32) (y_h_at : Int32) (y_h_statements : Int32) (y_h_hasImage : Int32) (y_h_beforeMany : Int32) (y_h_found : Int32) (y_h_lots : Int32) (y_h_rowMany : Int32) (p_h_many : Int32) (p_h_odd : Int32) (p_h_step : Int32) (p_h_bag : Int32) (p_h_strokes : Int32) (p_h_gave : Int32) (p_h_threw : Int32) (p_h_isKeeping : Int32) (p_h_cursor : Int32) : va_W := [(a_h, .inr (7, [.ref a_h_refused, .ref a_h_kind, .ref a_h_sweets, .ref a_h_gives, .int p_h_many, .int p_h_odd, .int p_h_step, .int p_h_bag, .int p_h_strokes, .int p_h_gave, .int p_h_threw, .ref a_h_tape, .ref a_h_letter, .ref a_h_letterAt, .ref a_h_one, .ref a_h_two, .int y_h_taped, .int y_h_at, .int y_h_statements, .ref a_h_kept, .int y_h_hasImage, .int p_h_isKeeping, .int p_h_cursor, .ref a_h_trail, .ref a_h_crumb, .ref a_h_nextCrumb, .ref a_h_goal, .ref a_h_start, .int y_h_beforeMany, .int y_h_found, .ref a_h_sits, .ref a_h_bestSits, .ref a_h_without, .int y_h_lots, .ref a_h_row, .int y_h_rowMany]))]
theorem d_M_isChild_0 : decode b_M_isChild 0 = .ok (.iload_n 1, 1) := by decide +kernel
theorem d_M_isChild_1 : decode b_M_isChild 1 = .ok (.ifCond .lt 15, 3) := by decide +kernel
theorem d_M_isChild_4 : decode b_M_isChild 4 = .ok (.iload_n 1, 1) := by decide +kernel
theorem d_M_isChild_5 : decode b_M_isChild 5 = .ok (.aload_n 0, 1) := by decide +kernel
theorem d_M_isChild_6 : decode b_M_isChild 6 = .ok (.getfield 78, 3) := by decide +kernel
theorem d_M_isChild_9 : decode b_M_isChild 9 = .ok (.if_icmp .ge 7, 3) := by decide +kernel
theorem d_M_isChild_12 : decode b_M_isChild 12 = .ok (.iconst 1, 1) := by decide +kernel
theorem d_M_isChild_13 : decode b_M_isChild 13 = .ok (.goto 4, 3) := by decide +kernel
theorem d_M_isChild_16 : decode b_M_isChild 16 = .ok (.iconst 0, 1) := by decide +kernel
theorem d_M_isChild_17 : decode b_M_isChild 17 = .ok (.ireturn, 1) := by decide +kernel
set_option maxHeartbeats 4000000 in
set_option maxRecDepth 100000 in
theorem c_M_isChild {l : Launch} {D : va_G} {cI cJ cC : ClassId} (a_h a_h_refused a_h_kind a_h_sweets a_h_gives a_h_tape a_h_letter a_h_letterAt a_h_one a_h_two a_h_kept a_h_trail a_h_crumb a_h_nextCrumb a_h_goal a_h_start a_h_sits a_h_bestSits a_h_without a_h_row : Nat) (y_h_taped : Int32) (y_h_at : Int32) (y_h_statements : Int32) (y_h_hasImage : Int32) (y_h_beforeMany : Int32) (y_h_found : Int32) (y_h_lots : Int32) (y_h_rowMany : Int32) {z_h_T : MT} {x1 : Int32} {q : Int32} (hf : f_M_isChild z_h_T x1 = some q) : xI l y_M_isChild b_M_isChild 2 .boolean 0 0 D (tyK cI cJ cC) xE0 [.ref a_h, .int x1] (w_M_isChild cI cJ cC a_h a_h_refused a_h_kind a_h_sweets a_h_gives a_h_tape a_h_letter a_h_letterAt a_h_one a_h_two a_h_kept a_h_trail a_h_crumb a_h_nextCrumb a_h_goal a_h_start a_h_sits a_h_bestSits a_h_without a_h_row y_h_taped y_h_at y_h_statements y_h_hasImage y_h_beforeMany y_h_found y_h_lots y_h_rowMany (m_many z_h_T) (m_odd z_h_T) (m_step z_h_T) (m_bag z_h_T) (m_strokes z_h_T) (m_gave z_h_T) (m_threw z_h_T) (m_isKeeping z_h_T) (m_cursor z_h_T)) q (w_M_isChild cI cJ cC a_h a_h_refused a_h_kind a_h_sweets a_h_gives a_h_tape a_h_letter a_h_letterAt a_h_one a_h_two a_h_kept a_h_trail a_h_crumb a_h_nextCrumb a_h_goal a_h_start a_h_sits a_h_bestSits a_h_without a_h_row y_h_taped y_h_at y_h_statements y_h_hasImage y_h_beforeMany y_h_found y_h_lots y_h_rowMany (m_many z_h_T) (m_odd z_h_T) (m_step z_h_T) (m_bag z_h_T) (m_strokes z_h_T) (m_gave z_h_T) (m_threw z_h_T) (m_isKeeping z_h_T) (m_cursor z_h_T)) := by
  refine xI_of (by decide) (Nat.le_of_ble_eq_true rfl) ?_
  intro p e s m args below meth c A Q hx hb hml hown hT hA hP hD hK hS hE hret ls hl
  have hown : s.vm.findClass R_M = some m.cls := hown
  have hl : lv_has ls 2 [(0, .ref a_h), (1, .int x1)] := hl
  unfold f_M_isChild at hf
  refine lv_iload_n hx hb d_M_isChild_0 rfl (lv_at hl 1 rfl) ?_
  refine lv_if_lt (tgt := 16) hx hb d_M_isChild_1 (by decide) (fun c1 => ?_) (fun c1 => ?_)
  · have hf := io_t hf c1
    refine lv_iconst (v := 0) hx hb d_M_isChild_16 (by decide) ?_
    have hq := Option.some.inj hf
    subst hq
    exact hret _ _ _ _ _ d_M_isChild_17 (by decide) rfl hP hD hS
  · have hf := io_f hf c1
    refine lv_iload_n hx hb d_M_isChild_4 rfl (lv_at hl 1 rfl) ?_
    refine lv_aload_n hx hb d_M_isChild_5 rfl (lv_at hl 0 rfl) ?_
    refine va_get hx hb hT i_M hown hK hP 0 rfl rfl 4 (Nat.le_of_ble_eq_true rfl) (hT _ k_762) (fun _ h => h) rfl d_M_isChild_6 ?_
    refine lv_icmp_ge (tgt := 16) hx hb d_M_isChild_9 (by decide) (fun c2 => ?_) (fun c2 => ?_)
    · have hf := io_t hf c2
      refine lv_iconst (v := 0) hx hb d_M_isChild_16 (by decide) ?_
      have hq := Option.some.inj hf
      subst hq
      exact hret _ _ _ _ _ d_M_isChild_17 (by decide) rfl hP hD hS
    · have hf := io_f hf c2
      refine lv_iconst (v := 1) hx hb d_M_isChild_12 (by decide) ?_
      refine lv_goto (tgt := 17) hx hb d_M_isChild_13 (by decide) ?_
      have hq := Option.some.inj hf
      subst hq
      exact hret _ _ _ _ _ d_M_isChild_17 (by decide) rfl hP hD hS
abbrev w_M_feed (cI cJ cC : ClassId) (a_h a_h_refused a_h_kind a_h_sweets a_h_gives a_h_tape a_h_letter a_h_letterAt a_h_one a_h_two a_h_kept a_h_trail a_h_crumb a_h_nextCrumb a_h_goal a_h_start a_h_sits a_h_bestSits a_h_without a_h_row : Nat) (y_h_many : Int32) (y_h_odd : Int32) (y_h_step : Int32) (y_h_bag : Int32) (y_h_strokes : Int32) (y_h_gave : Int32) (y_h_threw : Int32) (y_h_at : Int32) (y_h_statements : Int32) (y_h_hasImage : Int32) (y_h_isKeeping : Int32) (y_h_cursor : Int32) (y_h_beforeMany : Int32) (y_h_found : Int32) (y_h_lots : Int32) (y_h_rowMany : Int32) (p_h_taped : Int32) (p_h_refused : (Nat → Int32)) (p_h_tape : (Nat → Int32)) : va_W := [(a_h, .inr (7, [.ref a_h_refused, .ref a_h_kind, .ref a_h_sweets, .ref a_h_gives, .int y_h_many, .int y_h_odd, .int y_h_step, .int y_h_bag, .int y_h_strokes, .int y_h_gave, .int y_h_threw, .ref a_h_tape, .ref a_h_letter, .ref a_h_letterAt, .ref a_h_one, .ref a_h_two, .int p_h_taped, .int y_h_at, .int y_h_statements, .ref a_h_kept, .int y_h_hasImage, .int y_h_isKeeping, .int y_h_cursor, .ref a_h_trail, .ref a_h_crumb, .ref a_h_nextCrumb, .ref a_h_goal, .ref a_h_start, .int y_h_beforeMany, .int y_h_found, .ref a_h_sits, .ref a_h_bestSits, .ref a_h_without, .int y_h_lots, .ref a_h_row, .int y_h_rowMany])), (a_h_refused, .inl (cI, (7, .inl p_h_refused))), (a_h_tape, .inl (cI, (64, .inl p_h_tape)))]
theorem d_M_feed_0 : decode b_M_feed 0 = .ok (.iload_n 1, 1) := by decide +kernel
theorem d_M_feed_1 : decode b_M_feed 1 = .ok (.iconst 0, 1) := by decide +kernel
theorem d_M_feed_2 : decode b_M_feed 2 = .ok (.sipush 255, 3) := by decide +kernel
theorem d_M_feed_5 : decode b_M_feed 5 = .ok (.invokestatic 81, 3) := by decide +kernel
theorem d_M_feed_8 : decode b_M_feed 8 = .ok (.istore_n 2, 1) := by decide +kernel
theorem d_M_feed_9 : decode b_M_feed 9 = .ok (.iload_n 2, 1) := by decide +kernel
theorem d_M_feed_10 : decode b_M_feed 10 = .ok (.ifCond .ne 15, 3) := by decide +kernel
theorem d_M_feed_13 : decode b_M_feed 13 = .ok (.aload_n 0, 1) := by decide +kernel
theorem d_M_feed_14 : decode b_M_feed 14 = .ok (.getfield 85, 3) := by decide +kernel
theorem d_M_feed_17 : decode b_M_feed 17 = .ok (.bipush 64, 2) := by decide +kernel
theorem d_M_feed_19 : decode b_M_feed 19 = .ok (.if_icmp .ne 6, 3) := by decide +kernel
theorem d_M_feed_22 : decode b_M_feed 22 = .ok (.bipush (-6), 2) := by decide +kernel
theorem d_M_feed_24 : decode b_M_feed 24 = .ok (.istore_n 2, 1) := by decide +kernel
theorem d_M_feed_25 : decode b_M_feed 25 = .ok (.iload_n 2, 1) := by decide +kernel
theorem d_M_feed_26 : decode b_M_feed 26 = .ok (.ifCond .eq 9, 3) := by decide +kernel
theorem d_M_feed_29 : decode b_M_feed 29 = .ok (.aload_n 0, 1) := by decide +kernel
theorem d_M_feed_30 : decode b_M_feed 30 = .ok (.iload_n 2, 1) := by decide +kernel
theorem d_M_feed_31 : decode b_M_feed 31 = .ok (.invokevirtual 88, 3) := by decide +kernel
theorem d_M_feed_34 : decode b_M_feed 34 = .ok (.ireturn, 1) := by decide +kernel
theorem d_M_feed_35 : decode b_M_feed 35 = .ok (.aload_n 0, 1) := by decide +kernel
theorem d_M_feed_36 : decode b_M_feed 36 = .ok (.getfield 29, 3) := by decide +kernel
theorem d_M_feed_39 : decode b_M_feed 39 = .ok (.aload_n 0, 1) := by decide +kernel
theorem d_M_feed_40 : decode b_M_feed 40 = .ok (.getfield 85, 3) := by decide +kernel
theorem d_M_feed_43 : decode b_M_feed 43 = .ok (.iload_n 1, 1) := by decide +kernel
theorem d_M_feed_44 : decode b_M_feed 44 = .ok (.iastore, 1) := by decide +kernel
theorem d_M_feed_45 : decode b_M_feed 45 = .ok (.aload_n 0, 1) := by decide +kernel
theorem d_M_feed_46 : decode b_M_feed 46 = .ok (.dup, 1) := by decide +kernel
theorem d_M_feed_47 : decode b_M_feed 47 = .ok (.getfield 85, 3) := by decide +kernel
theorem d_M_feed_50 : decode b_M_feed 50 = .ok (.iconst 1, 1) := by decide +kernel
theorem d_M_feed_51 : decode b_M_feed 51 = .ok (.iadd, 1) := by decide +kernel
theorem d_M_feed_52 : decode b_M_feed 52 = .ok (.putfield 85, 3) := by decide +kernel
theorem d_M_feed_55 : decode b_M_feed 55 = .ok (.aload_n 0, 1) := by decide +kernel
theorem d_M_feed_56 : decode b_M_feed 56 = .ok (.getfield 85, 3) := by decide +kernel
theorem d_M_feed_59 : decode b_M_feed 59 = .ok (.ireturn, 1) := by decide +kernel
set_option maxHeartbeats 4000000 in
set_option maxRecDepth 100000 in
theorem c_M_feed {l : Launch} {D : va_G} {cI cJ cC : ClassId} (a_h a_h_refused a_h_kind a_h_sweets a_h_gives a_h_tape a_h_letter a_h_letterAt a_h_one a_h_two a_h_kept a_h_trail a_h_crumb a_h_nextCrumb a_h_goal a_h_start a_h_sits a_h_bestSits a_h_without a_h_row : Nat) (y_h_many : Int32) (y_h_odd : Int32) (y_h_step : Int32) (y_h_bag : Int32) (y_h_strokes : Int32) (y_h_gave : Int32) (y_h_threw : Int32) (y_h_at : Int32) (y_h_statements : Int32) (y_h_hasImage : Int32) (y_h_isKeeping : Int32) (y_h_cursor : Int32) (y_h_beforeMany : Int32) (y_h_found : Int32) (y_h_lots : Int32) (y_h_rowMany : Int32) {z_h_taped : Int32} {z_h_refused : (Nat → Int32)} {z_h_tape : (Nat → Int32)} {x1 : Int32} {q : Int32 × Int32 × (Nat → Int32) × (Nat → Int32)} (hf : f_M_feed z_h_taped z_h_refused z_h_tape x1 = some q) : xI l y_M_feed b_M_feed 3 .int 1 22 D (tyK cI cJ cC) xE0 [.ref a_h, .int x1] (w_M_feed cI cJ cC a_h a_h_refused a_h_kind a_h_sweets a_h_gives a_h_tape a_h_letter a_h_letterAt a_h_one a_h_two a_h_kept a_h_trail a_h_crumb a_h_nextCrumb a_h_goal a_h_start a_h_sits a_h_bestSits a_h_without a_h_row y_h_many y_h_odd y_h_step y_h_bag y_h_strokes y_h_gave y_h_threw y_h_at y_h_statements y_h_hasImage y_h_isKeeping y_h_cursor y_h_beforeMany y_h_found y_h_lots y_h_rowMany z_h_taped z_h_refused z_h_tape) q.1 (w_M_feed cI cJ cC a_h a_h_refused a_h_kind a_h_sweets a_h_gives a_h_tape a_h_letter a_h_letterAt a_h_one a_h_two a_h_kept a_h_trail a_h_crumb a_h_nextCrumb a_h_goal a_h_start a_h_sits a_h_bestSits a_h_without a_h_row y_h_many y_h_odd y_h_step y_h_bag y_h_strokes y_h_gave y_h_threw y_h_at y_h_statements y_h_hasImage y_h_isKeeping y_h_cursor y_h_beforeMany y_h_found y_h_lots y_h_rowMany q.2.1 q.2.2.1 q.2.2.2) := by
  refine xI_of (by decide) (Nat.le_of_ble_eq_true rfl) ?_
  intro p e s m args below meth c A Q hx hb hml hown hT hA hP hD hK hS hE hret ls hl
  have hown : s.vm.findClass R_M = some m.cls := hown
  have hl : lv_has ls 3 [(0, .ref a_h), (1, .int x1)] := hl
  unfold f_M_feed at hf
  refine lv_iload_n hx hb d_M_feed_0 rfl (lv_at hl 1 rfl) ?_
  refine lv_iconst (v := 0) hx hb d_M_feed_1 (by decide) ?_
  refine lv_sipush (v := 255) hx hb d_M_feed_2 (by decide) ?_
  obtain ⟨q1, hq1, hf⟩ := io_b hf
  refine xcSI (wc := []) (wc' := []) (ws' := (w_M_feed cI cJ cC a_h a_h_refused a_h_kind a_h_sweets a_h_gives a_h_tape a_h_letter a_h_letterAt a_h_one a_h_two a_h_kept a_h_trail a_h_crumb a_h_nextCrumb a_h_goal a_h_start a_h_sits a_h_bestSits a_h_without a_h_row y_h_many y_h_odd y_h_step y_h_bag y_h_strokes y_h_gave y_h_threw y_h_at y_h_statements y_h_hasImage y_h_isKeeping y_h_cursor y_h_beforeMany y_h_found y_h_lots y_h_rowMany z_h_taped z_h_refused z_h_tape)) (As := [.int x1, .int 0, .int 255]) (rest := []) hx hb hml hown hT (c_M_bound hq1) k_871 k_872 k_8 k_873 hd_M_bound ⟨Nat.le_of_ble_eq_true rfl, Nat.le_of_ble_eq_true rfl⟩ xE0_ok trivial hA hK hP hD hS [] [0, 1, 2] [0, 1, 2] rfl rfl rfl rfl rfl rfl rfl hl.1 rfl (Nat.le_of_ble_eq_true rfl) ⟨Nat.zero_le _, Nat.zero_le _⟩ d_M_feed_5 (fun H locs hP hD hS => ?_)
  refine lv_istore_n (lv' := [(2, .int q1), (0, .ref a_h), (1, .int x1)]) hx hb d_M_feed_8 rfl hl (by decide) rfl (fun ls hl => ?_)
  refine lv_iload_n hx hb d_M_feed_9 rfl (lv_at hl 0 rfl) ?_
  refine lv_if_ne (tgt := 25) hx hb d_M_feed_10 (by decide) (fun c2 => ?_) (fun c2 => ?_)
  · have hf := io_f hf c2
    refine lv_iload_n hx hb d_M_feed_25 rfl (lv_at hl 0 rfl) ?_
    refine lv_if_eq (tgt := 35) hx hb d_M_feed_26 (by decide) (fun c => absurd c c2) (fun _ => ?_)
    refine lv_aload_n hx hb d_M_feed_29 rfl (lv_at hl 1 rfl) ?_
    refine lv_iload_n hx hb d_M_feed_30 rfl (lv_at hl 0 rfl) ?_
    obtain ⟨q3, hq3, hf⟩ := io_b hf
    refine xcVI (wc := (w_M_no cI cJ cC a_h a_h_refused a_h_kind a_h_sweets a_h_gives a_h_tape a_h_letter a_h_letterAt a_h_one a_h_two a_h_kept a_h_trail a_h_crumb a_h_nextCrumb a_h_goal a_h_start a_h_sits a_h_bestSits a_h_without a_h_row y_h_many y_h_odd y_h_step y_h_bag y_h_strokes y_h_gave y_h_threw z_h_taped y_h_at y_h_statements y_h_hasImage y_h_isKeeping y_h_cursor y_h_beforeMany y_h_found y_h_lots y_h_rowMany z_h_refused)) (wc' := (w_M_no cI cJ cC a_h a_h_refused a_h_kind a_h_sweets a_h_gives a_h_tape a_h_letter a_h_letterAt a_h_one a_h_two a_h_kept a_h_trail a_h_crumb a_h_nextCrumb a_h_goal a_h_start a_h_sits a_h_bestSits a_h_without a_h_row y_h_many y_h_odd y_h_step y_h_bag y_h_strokes y_h_gave y_h_threw z_h_taped y_h_at y_h_statements y_h_hasImage y_h_isKeeping y_h_cursor y_h_beforeMany y_h_found y_h_lots y_h_rowMany q3.2)) (ws' := (w_M_feed cI cJ cC a_h a_h_refused a_h_kind a_h_sweets a_h_gives a_h_tape a_h_letter a_h_letterAt a_h_one a_h_two a_h_kept a_h_trail a_h_crumb a_h_nextCrumb a_h_goal a_h_start a_h_sits a_h_bestSits a_h_without a_h_row y_h_many y_h_odd y_h_step y_h_bag y_h_strokes y_h_gave y_h_threw y_h_at y_h_statements y_h_hasImage y_h_isKeeping y_h_cursor y_h_beforeMany y_h_found y_h_lots y_h_rowMany z_h_taped q3.2 z_h_tape)) (As := [.int q1]) (rest := []) hx hb hml hown hT (c_M_no (z_h_refused := z_h_refused) a_h a_h_refused a_h_kind a_h_sweets a_h_gives a_h_tape a_h_letter a_h_letterAt a_h_one a_h_two a_h_kept a_h_trail a_h_crumb a_h_nextCrumb a_h_goal a_h_start a_h_sits a_h_bestSits a_h_without a_h_row y_h_many y_h_odd y_h_step y_h_bag y_h_strokes y_h_gave y_h_threw z_h_taped y_h_at y_h_statements y_h_hasImage y_h_isKeeping y_h_cursor y_h_beforeMany y_h_found y_h_lots y_h_rowMany hq3) k_874 k_876 ks_24 k_8 k_877 hd_M_no ⟨Nat.le_of_ble_eq_true rfl, Nat.le_of_ble_eq_true rfl⟩ xE0_ok trivial hA hK hP hD hS [0, 1] [2] [1, 2, 0] rfl rfl rfl rfl rfl rfl rfl rfl rfl rfl hl.1 rfl (Nat.le_of_ble_eq_true rfl) ⟨Nat.zero_le _, Nat.zero_le _⟩ d_M_feed_31 (fun H locs hP hD hS => ?_)
    have hq := Option.some.inj hf
    subst hq
    exact hret _ _ _ _ _ d_M_feed_34 rfl rfl hP hD hS
  · have hf := io_t hf c2
    refine lv_aload_n hx hb d_M_feed_13 rfl (lv_at hl 1 rfl) ?_
    refine va_get hx hb hT i_M hown hK hP 0 rfl rfl 16 (Nat.le_of_ble_eq_true rfl) (hT _ k_774) (fun _ h => h) rfl d_M_feed_14 ?_
    refine lv_bipush (v := 64) hx hb d_M_feed_17 (by decide) ?_
    refine lv_icmp_ne (tgt := 25) hx hb d_M_feed_19 (by decide) (fun c4 => ?_) (fun c4 => ?_)
    · have hf := io_f hf c4
      refine lv_iload_n hx hb d_M_feed_25 rfl (lv_at hl 0 rfl) ?_
      refine lv_if_eq (tgt := 35) hx hb d_M_feed_26 (by decide) (fun _ => ?_) (fun c => absurd c2 c)
      refine lv_aload_n hx hb d_M_feed_35 rfl (lv_at hl 1 rfl) ?_
      refine va_get hx hb hT i_M hown hK hP 0 rfl rfl 11 (Nat.le_of_ble_eq_true rfl) (hT _ k_769) (fun _ h => h) rfl d_M_feed_36 ?_
      refine lv_aload_n hx hb d_M_feed_39 rfl (lv_at hl 1 rfl) ?_
      refine va_get hx hb hT i_M hown hK hP 0 rfl rfl 16 (Nat.le_of_ble_eq_true rfl) (hT _ k_774) (fun _ h => h) rfl d_M_feed_40 ?_
      refine lv_iload_n hx hb d_M_feed_43 rfl (lv_at hl 2 rfl) ?_
      obtain ⟨c5, hf⟩ := io_n hf
      refine x_iast hx hb hK hP hD hS 2 0 rfl rfl (j := z_h_taped.toNatClampNeg) rfl c5 d_M_feed_44 (fun H locs hP hD hS => ?_)
      have hP : va_P D classes (w_M_feed cI cJ cC a_h a_h_refused a_h_kind a_h_sweets a_h_gives a_h_tape a_h_letter a_h_letterAt a_h_one a_h_two a_h_kept a_h_trail a_h_crumb a_h_nextCrumb a_h_goal a_h_start a_h_sits a_h_bestSits a_h_without a_h_row y_h_many y_h_odd y_h_step y_h_bag y_h_strokes y_h_gave y_h_threw y_h_at y_h_statements y_h_hasImage y_h_isKeeping y_h_cursor y_h_beforeMany y_h_found y_h_lots y_h_rowMany z_h_taped z_h_refused (upd z_h_tape z_h_taped.toNatClampNeg x1)) H := hP
      have hD : va_D A (w_M_feed cI cJ cC a_h a_h_refused a_h_kind a_h_sweets a_h_gives a_h_tape a_h_letter a_h_letterAt a_h_one a_h_two a_h_kept a_h_trail a_h_crumb a_h_nextCrumb a_h_goal a_h_start a_h_sits a_h_bestSits a_h_without a_h_row y_h_many y_h_odd y_h_step y_h_bag y_h_strokes y_h_gave y_h_threw y_h_at y_h_statements y_h_hasImage y_h_isKeeping y_h_cursor y_h_beforeMany y_h_found y_h_lots y_h_rowMany z_h_taped z_h_refused (upd z_h_tape z_h_taped.toNatClampNeg x1)) := hD
      refine lv_aload_n hx hb d_M_feed_45 rfl (lv_at hl 1 rfl) ?_
      refine lv_dup hx hb d_M_feed_46 rfl ?_
      refine va_get hx hb hT i_M hown hK hP 0 rfl rfl 16 (Nat.le_of_ble_eq_true rfl) (hT _ k_774) (fun _ h => h) rfl d_M_feed_47 ?_
      refine lv_iconst (v := 1) hx hb d_M_feed_50 (by decide) ?_
      refine lv_iadd hx hb d_M_feed_51 ?_
      refine va_put (ty := .int) hx hb hT i_M t_M t_M_ok n_M hown hK hP hD hS 0 rfl rfl 16 (Nat.le_of_ble_eq_true rfl) (hT _ k_774) (fun _ h => h) rfl rfl rfl rfl (Nat.le_of_ble_eq_true rfl) d_M_feed_52 (fun H locs hP hD hS => ?_)
      have hP : va_P D classes (w_M_feed cI cJ cC a_h a_h_refused a_h_kind a_h_sweets a_h_gives a_h_tape a_h_letter a_h_letterAt a_h_one a_h_two a_h_kept a_h_trail a_h_crumb a_h_nextCrumb a_h_goal a_h_start a_h_sits a_h_bestSits a_h_without a_h_row y_h_many y_h_odd y_h_step y_h_bag y_h_strokes y_h_gave y_h_threw y_h_at y_h_statements y_h_hasImage y_h_isKeeping y_h_cursor y_h_beforeMany y_h_found y_h_lots y_h_rowMany (z_h_taped + 1) z_h_refused (upd z_h_tape z_h_taped.toNatClampNeg x1)) H := hP
      have hD : va_D A (w_M_feed cI cJ cC a_h a_h_refused a_h_kind a_h_sweets a_h_gives a_h_tape a_h_letter a_h_letterAt a_h_one a_h_two a_h_kept a_h_trail a_h_crumb a_h_nextCrumb a_h_goal a_h_start a_h_sits a_h_bestSits a_h_without a_h_row y_h_many y_h_odd y_h_step y_h_bag y_h_strokes y_h_gave y_h_threw y_h_at y_h_statements y_h_hasImage y_h_isKeeping y_h_cursor y_h_beforeMany y_h_found y_h_lots y_h_rowMany (z_h_taped + 1) z_h_refused (upd z_h_tape z_h_taped.toNatClampNeg x1)) := hD
      refine lv_aload_n hx hb d_M_feed_55 rfl (lv_at hl 1 rfl) ?_
      refine va_get hx hb hT i_M hown hK hP 0 rfl rfl 16 (Nat.le_of_ble_eq_true rfl) (hT _ k_774) (fun _ h => h) rfl d_M_feed_56 ?_
      have hq := Option.some.inj hf
      subst hq
      exact hret _ _ _ _ _ d_M_feed_59 rfl rfl hP hD hS
    · have hf := io_t hf c4
      refine lv_bipush (v := (-6)) hx hb d_M_feed_22 (by decide) ?_
      refine lv_istore_n (lv' := [(2, .int (-6)), (0, .ref a_h), (1, .int x1)]) hx hb d_M_feed_24 rfl hl (by decide) rfl (fun ls hl => ?_)
      refine lv_iload_n hx hb d_M_feed_25 rfl (lv_at hl 0 rfl) ?_
      refine lv_if_eq (tgt := 35) hx hb d_M_feed_26 (by decide) (fun c => absurd c (show ¬ ((-6) : Int32) = 0 from by decide +kernel)) (fun _ => ?_)
      refine lv_aload_n hx hb d_M_feed_29 rfl (lv_at hl 1 rfl) ?_
      refine lv_iload_n hx hb d_M_feed_30 rfl (lv_at hl 0 rfl) ?_
      obtain ⟨q6, hq6, hf⟩ := io_b hf
      refine xcVI (wc := (w_M_no cI cJ cC a_h a_h_refused a_h_kind a_h_sweets a_h_gives a_h_tape a_h_letter a_h_letterAt a_h_one a_h_two a_h_kept a_h_trail a_h_crumb a_h_nextCrumb a_h_goal a_h_start a_h_sits a_h_bestSits a_h_without a_h_row y_h_many y_h_odd y_h_step y_h_bag y_h_strokes y_h_gave y_h_threw z_h_taped y_h_at y_h_statements y_h_hasImage y_h_isKeeping y_h_cursor y_h_beforeMany y_h_found y_h_lots y_h_rowMany z_h_refused)) (wc' := (w_M_no cI cJ cC a_h a_h_refused a_h_kind a_h_sweets a_h_gives a_h_tape a_h_letter a_h_letterAt a_h_one a_h_two a_h_kept a_h_trail a_h_crumb a_h_nextCrumb a_h_goal a_h_start a_h_sits a_h_bestSits a_h_without a_h_row y_h_many y_h_odd y_h_step y_h_bag y_h_strokes y_h_gave y_h_threw z_h_taped y_h_at y_h_statements y_h_hasImage y_h_isKeeping y_h_cursor y_h_beforeMany y_h_found y_h_lots y_h_rowMany q6.2)) (ws' := (w_M_feed cI cJ cC a_h a_h_refused a_h_kind a_h_sweets a_h_gives a_h_tape a_h_letter a_h_letterAt a_h_one a_h_two a_h_kept a_h_trail a_h_crumb a_h_nextCrumb a_h_goal a_h_start a_h_sits a_h_bestSits a_h_without a_h_row y_h_many y_h_odd y_h_step y_h_bag y_h_strokes y_h_gave y_h_threw y_h_at y_h_statements y_h_hasImage y_h_isKeeping y_h_cursor y_h_beforeMany y_h_found y_h_lots y_h_rowMany z_h_taped q6.2 z_h_tape)) (As := [.int (-6)]) (rest := []) hx hb hml hown hT (c_M_no (z_h_refused := z_h_refused) a_h a_h_refused a_h_kind a_h_sweets a_h_gives a_h_tape a_h_letter a_h_letterAt a_h_one a_h_two a_h_kept a_h_trail a_h_crumb a_h_nextCrumb a_h_goal a_h_start a_h_sits a_h_bestSits a_h_without a_h_row y_h_many y_h_odd y_h_step y_h_bag y_h_strokes y_h_gave y_h_threw z_h_taped y_h_at y_h_statements y_h_hasImage y_h_isKeeping y_h_cursor y_h_beforeMany y_h_found y_h_lots y_h_rowMany hq6) k_874 k_876 ks_24 k_8 k_877 hd_M_no ⟨Nat.le_of_ble_eq_true rfl, Nat.le_of_ble_eq_true rfl⟩ xE0_ok trivial hA hK hP hD hS [0, 1] [2] [1, 2, 0] rfl rfl rfl rfl rfl rfl rfl rfl rfl rfl hl.1 rfl (Nat.le_of_ble_eq_true rfl) ⟨Nat.zero_le _, Nat.zero_le _⟩ d_M_feed_31 (fun H locs hP hD hS => ?_)
      have hq := Option.some.inj hf
      subst hq
      exact hret _ _ _ _ _ d_M_feed_34 rfl rfl hP hD hS
abbrev w_M_next (cI cJ cC : ClassId) (a_h a_h_refused a_h_kind a_h_sweets a_h_gives a_h_tape a_h_letter a_h_letterAt a_h_one a_h_two a_h_kept a_h_trail a_h_crumb a_h_nextCrumb a_h_goal a_h_start a_h_sits a_h_bestSits a_h_without a_h_row : Nat) (y_h_many : Int32) (y_h_odd : Int32) (y_h_step : Int32) (y_h_bag : Int32) (y_h_strokes : Int32) (y_h_gave : Int32) (y_h_threw : Int32) (y_h_statements : Int32) (y_h_hasImage : Int32) (y_h_isKeeping : Int32) (y_h_cursor : Int32) (y_h_beforeMany : Int32) (y_h_found : Int32) (y_h_lots : Int32) (y_h_rowMany : Int32) (p_h_taped : Int32) (p_h_at : Int32) (p_h_tape : (Nat → Int32)) : va_W := [(a_h, .inr (7, [.ref a_h_refused, .ref a_h_kind, .ref a_h_sweets, .ref a_h_gives, .int y_h_many, .int y_h_odd, .int y_h_step, .int y_h_bag, .int y_h_strokes, .int y_h_gave, .int y_h_threw, .ref a_h_tape, .ref a_h_letter, .ref a_h_letterAt, .ref a_h_one, .ref a_h_two, .int p_h_taped, .int p_h_at, .int y_h_statements, .ref a_h_kept, .int y_h_hasImage, .int y_h_isKeeping, .int y_h_cursor, .ref a_h_trail, .ref a_h_crumb, .ref a_h_nextCrumb, .ref a_h_goal, .ref a_h_start, .int y_h_beforeMany, .int y_h_found, .ref a_h_sits, .ref a_h_bestSits, .ref a_h_without, .int y_h_lots, .ref a_h_row, .int y_h_rowMany])), (a_h_tape, .inl (cI, (64, .inl p_h_tape)))]
theorem d_M_next_0 : decode b_M_next 0 = .ok (.aload_n 0, 1) := by decide +kernel
theorem d_M_next_1 : decode b_M_next 1 = .ok (.getfield 92, 3) := by decide +kernel
theorem d_M_next_4 : decode b_M_next 4 = .ok (.aload_n 0, 1) := by decide +kernel
theorem d_M_next_5 : decode b_M_next 5 = .ok (.getfield 85, 3) := by decide +kernel
theorem d_M_next_8 : decode b_M_next 8 = .ok (.if_icmp .ge 15, 3) := by decide +kernel
theorem d_M_next_11 : decode b_M_next 11 = .ok (.aload_n 0, 1) := by decide +kernel
theorem d_M_next_12 : decode b_M_next 12 = .ok (.getfield 29, 3) := by decide +kernel
theorem d_M_next_15 : decode b_M_next 15 = .ok (.aload_n 0, 1) := by decide +kernel
theorem d_M_next_16 : decode b_M_next 16 = .ok (.getfield 92, 3) := by decide +kernel
theorem d_M_next_19 : decode b_M_next 19 = .ok (.iaload, 1) := by decide +kernel
theorem d_M_next_20 : decode b_M_next 20 = .ok (.goto 4, 3) := by decide +kernel
theorem d_M_next_23 : decode b_M_next 23 = .ok (.iconst (-1), 1) := by decide +kernel
theorem d_M_next_24 : decode b_M_next 24 = .ok (.ireturn, 1) := by decide +kernel
set_option maxHeartbeats 4000000 in
set_option maxRecDepth 100000 in
theorem c_M_next {l : Launch} {D : va_G} {cI cJ cC : ClassId} (a_h a_h_refused a_h_kind a_h_sweets a_h_gives a_h_tape a_h_letter a_h_letterAt a_h_one a_h_two a_h_kept a_h_trail a_h_crumb a_h_nextCrumb a_h_goal a_h_start a_h_sits a_h_bestSits a_h_without a_h_row : Nat) (y_h_many : Int32) (y_h_odd : Int32) (y_h_step : Int32) (y_h_bag : Int32) (y_h_strokes : Int32) (y_h_gave : Int32) (y_h_threw : Int32) (y_h_statements : Int32) (y_h_hasImage : Int32) (y_h_isKeeping : Int32) (y_h_cursor : Int32) (y_h_beforeMany : Int32) (y_h_found : Int32) (y_h_lots : Int32) (y_h_rowMany : Int32) {z_h_taped : Int32} {z_h_at : Int32} {z_h_tape : (Nat → Int32)} {q : Int32} (hf : f_M_next z_h_taped z_h_at z_h_tape = some q) : xI l y_M_next b_M_next 1 .int 0 0 D (tyK cI cJ cC) xE0 [.ref a_h] (w_M_next cI cJ cC a_h a_h_refused a_h_kind a_h_sweets a_h_gives a_h_tape a_h_letter a_h_letterAt a_h_one a_h_two a_h_kept a_h_trail a_h_crumb a_h_nextCrumb a_h_goal a_h_start a_h_sits a_h_bestSits a_h_without a_h_row y_h_many y_h_odd y_h_step y_h_bag y_h_strokes y_h_gave y_h_threw y_h_statements y_h_hasImage y_h_isKeeping y_h_cursor y_h_beforeMany y_h_found y_h_lots y_h_rowMany z_h_taped z_h_at z_h_tape) q (w_M_next cI cJ cC a_h a_h_refused a_h_kind a_h_sweets a_h_gives a_h_tape a_h_letter a_h_letterAt a_h_one a_h_two a_h_kept a_h_trail a_h_crumb a_h_nextCrumb a_h_goal a_h_start a_h_sits a_h_bestSits a_h_without a_h_row y_h_many y_h_odd y_h_step y_h_bag y_h_strokes y_h_gave y_h_threw y_h_statements y_h_hasImage y_h_isKeeping y_h_cursor y_h_beforeMany y_h_found y_h_lots y_h_rowMany z_h_taped z_h_at z_h_tape) := by
  refine xI_of (by decide) (Nat.le_of_ble_eq_true rfl) ?_
  intro p e s m args below meth c A Q hx hb hml hown hT hA hP hD hK hS hE hret ls hl
  have hown : s.vm.findClass R_M = some m.cls := hown
  have hl : lv_has ls 1 [(0, .ref a_h)] := hl
  unfold f_M_next at hf
  refine lv_aload_n hx hb d_M_next_0 rfl (lv_at hl 0 rfl) ?_
  refine va_get hx hb hT i_M hown hK hP 0 rfl rfl 17 (Nat.le_of_ble_eq_true rfl) (hT _ k_775) (fun _ h => h) rfl d_M_next_1 ?_
  refine lv_aload_n hx hb d_M_next_4 rfl (lv_at hl 0 rfl) ?_
  refine va_get hx hb hT i_M hown hK hP 0 rfl rfl 16 (Nat.le_of_ble_eq_true rfl) (hT _ k_774) (fun _ h => h) rfl d_M_next_5 ?_
  refine lv_icmp_ge (tgt := 23) hx hb d_M_next_8 (by decide) (fun c1 => ?_) (fun c1 => ?_)
  · have hf := io_t hf c1
    refine lv_iconst (v := (-1)) hx hb d_M_next_23 (by decide) ?_
    have hq := Option.some.inj hf
    subst hq
    exact hret _ _ _ _ _ d_M_next_24 rfl rfl hP hD hS
  · have hf := io_f hf c1
    refine lv_aload_n hx hb d_M_next_11 rfl (lv_at hl 0 rfl) ?_
    refine va_get hx hb hT i_M hown hK hP 0 rfl rfl 11 (Nat.le_of_ble_eq_true rfl) (hT _ k_769) (fun _ h => h) rfl d_M_next_12 ?_
    refine lv_aload_n hx hb d_M_next_15 rfl (lv_at hl 0 rfl) ?_
    refine va_get hx hb hT i_M hown hK hP 0 rfl rfl 17 (Nat.le_of_ble_eq_true rfl) (hT _ k_775) (fun _ h => h) rfl d_M_next_16 ?_
    obtain ⟨c2, hf⟩ := io_n hf
    refine x_iald hx hb hK hP 1 0 rfl rfl (j := z_h_at.toNatClampNeg) rfl c2 d_M_next_19 ?_
    refine lv_goto (tgt := 24) hx hb d_M_next_20 (by decide) ?_
    have hq := Option.some.inj hf
    subst hq
    exact hret _ _ _ _ _ d_M_next_24 rfl rfl hP hD hS
abbrev w_M_number (cI cJ cC : ClassId) (a_h a_h_refused a_h_kind a_h_sweets a_h_gives a_h_tape a_h_letter a_h_letterAt a_h_one a_h_two a_h_kept a_h_trail a_h_crumb a_h_nextCrumb a_h_goal a_h_start a_h_sits a_h_bestSits a_h_without a_h_row : Nat) (y_h_many : Int32) (y_h_odd : Int32) (y_h_step : Int32) (y_h_bag : Int32) (y_h_strokes : Int32) (y_h_gave : Int32) (y_h_threw : Int32) (y_h_statements : Int32) (y_h_hasImage : Int32) (y_h_isKeeping : Int32) (y_h_cursor : Int32) (y_h_beforeMany : Int32) (y_h_found : Int32) (y_h_lots : Int32) (y_h_rowMany : Int32) (p_h_taped : Int32) (p_h_at : Int32) (p_h_tape : (Nat → Int32)) : va_W := [(a_h, .inr (7, [.ref a_h_refused, .ref a_h_kind, .ref a_h_sweets, .ref a_h_gives, .int y_h_many, .int y_h_odd, .int y_h_step, .int y_h_bag, .int y_h_strokes, .int y_h_gave, .int y_h_threw, .ref a_h_tape, .ref a_h_letter, .ref a_h_letterAt, .ref a_h_one, .ref a_h_two, .int p_h_taped, .int p_h_at, .int y_h_statements, .ref a_h_kept, .int y_h_hasImage, .int y_h_isKeeping, .int y_h_cursor, .ref a_h_trail, .ref a_h_crumb, .ref a_h_nextCrumb, .ref a_h_goal, .ref a_h_start, .int y_h_beforeMany, .int y_h_found, .ref a_h_sits, .ref a_h_bestSits, .ref a_h_without, .int y_h_lots, .ref a_h_row, .int y_h_rowMany])), (a_h_tape, .inl (cI, (64, .inl p_h_tape)))]
theorem d_M_number_0 : decode b_M_number 0 = .ok (.aload_n 0, 1) := by decide +kernel
theorem d_M_number_1 : decode b_M_number 1 = .ok (.invokevirtual 95, 3) := by decide +kernel
theorem d_M_number_4 : decode b_M_number 4 = .ok (.bipush 48, 2) := by decide +kernel
theorem d_M_number_6 : decode b_M_number 6 = .ok (.bipush 57, 2) := by decide +kernel
theorem d_M_number_8 : decode b_M_number 8 = .ok (.invokestatic 99, 3) := by decide +kernel
theorem d_M_number_11 : decode b_M_number 11 = .ok (.ifCond .ne 5, 3) := by decide +kernel
theorem d_M_number_14 : decode b_M_number 14 = .ok (.iconst (-1), 1) := by decide +kernel
theorem d_M_number_15 : decode b_M_number 15 = .ok (.ireturn, 1) := by decide +kernel
theorem d_M_number_16 : decode b_M_number 16 = .ok (.iconst 0, 1) := by decide +kernel
theorem d_M_number_17 : decode b_M_number 17 = .ok (.istore_n 2, 1) := by decide +kernel
theorem d_M_number_18 : decode b_M_number 18 = .ok (.iconst 0, 1) := by decide +kernel
theorem d_M_number_19 : decode b_M_number 19 = .ok (.istore_n 3, 1) := by decide +kernel
theorem d_M_number_20 : decode b_M_number 20 = .ok (.iload_n 3, 1) := by decide +kernel
theorem d_M_number_21 : decode b_M_number 21 = .ok (.iload_n 1, 1) := by decide +kernel
theorem d_M_number_22 : decode b_M_number 22 = .ok (.if_icmp .ge 46, 3) := by decide +kernel
theorem d_M_number_25 : decode b_M_number 25 = .ok (.aload_n 0, 1) := by decide +kernel
theorem d_M_number_26 : decode b_M_number 26 = .ok (.invokevirtual 95, 3) := by decide +kernel
theorem d_M_number_29 : decode b_M_number 29 = .ok (.bipush 48, 2) := by decide +kernel
theorem d_M_number_31 : decode b_M_number 31 = .ok (.bipush 57, 2) := by decide +kernel
theorem d_M_number_33 : decode b_M_number 33 = .ok (.invokestatic 99, 3) := by decide +kernel
theorem d_M_number_36 : decode b_M_number 36 = .ok (.ifCond .eq 32, 3) := by decide +kernel
theorem d_M_number_39 : decode b_M_number 39 = .ok (.bipush 10, 2) := by decide +kernel
theorem d_M_number_41 : decode b_M_number 41 = .ok (.iload_n 2, 1) := by decide +kernel
theorem d_M_number_42 : decode b_M_number 42 = .ok (.imul, 1) := by decide +kernel
theorem d_M_number_43 : decode b_M_number 43 = .ok (.aload_n 0, 1) := by decide +kernel
theorem d_M_number_44 : decode b_M_number 44 = .ok (.invokevirtual 95, 3) := by decide +kernel
theorem d_M_number_47 : decode b_M_number 47 = .ok (.iadd, 1) := by decide +kernel
theorem d_M_number_48 : decode b_M_number 48 = .ok (.bipush 48, 2) := by decide +kernel
theorem d_M_number_50 : decode b_M_number 50 = .ok (.isub, 1) := by decide +kernel
theorem d_M_number_51 : decode b_M_number 51 = .ok (.istore_n 2, 1) := by decide +kernel
theorem d_M_number_52 : decode b_M_number 52 = .ok (.aload_n 0, 1) := by decide +kernel
theorem d_M_number_53 : decode b_M_number 53 = .ok (.dup, 1) := by decide +kernel
theorem d_M_number_54 : decode b_M_number 54 = .ok (.getfield 92, 3) := by decide +kernel
theorem d_M_number_57 : decode b_M_number 57 = .ok (.iconst 1, 1) := by decide +kernel
theorem d_M_number_58 : decode b_M_number 58 = .ok (.iadd, 1) := by decide +kernel
theorem d_M_number_59 : decode b_M_number 59 = .ok (.putfield 92, 3) := by decide +kernel
theorem d_M_number_62 : decode b_M_number 62 = .ok (.iinc 3 1, 3) := by decide +kernel
theorem d_M_number_65 : decode b_M_number 65 = .ok (.goto (-45), 3) := by decide +kernel
theorem d_M_number_68 : decode b_M_number 68 = .ok (.iload_n 2, 1) := by decide +kernel
theorem d_M_number_69 : decode b_M_number 69 = .ok (.ireturn, 1) := by decide +kernel
set_option maxHeartbeats 4000000 in
set_option maxRecDepth 100000 in
theorem c_M_number {l : Launch} {D : va_G} {cI cJ cC : ClassId} (a_h a_h_refused a_h_kind a_h_sweets a_h_gives a_h_tape a_h_letter a_h_letterAt a_h_one a_h_two a_h_kept a_h_trail a_h_crumb a_h_nextCrumb a_h_goal a_h_start a_h_sits a_h_bestSits a_h_without a_h_row : Nat) (y_h_many : Int32) (y_h_odd : Int32) (y_h_step : Int32) (y_h_bag : Int32) (y_h_strokes : Int32) (y_h_gave : Int32) (y_h_threw : Int32) (y_h_statements : Int32) (y_h_hasImage : Int32) (y_h_isKeeping : Int32) (y_h_cursor : Int32) (y_h_beforeMany : Int32) (y_h_found : Int32) (y_h_lots : Int32) (y_h_rowMany : Int32) {z_h_taped : Int32} {z_h_at : Int32} {z_h_tape : (Nat → Int32)} {x1 : Int32} {q : Int32 × Int32} (hf : f_M_number z_h_taped z_h_at z_h_tape x1 = some q) : xI l y_M_number b_M_number 4 .int 1 22 D (tyK cI cJ cC) xE0 [.ref a_h, .int x1] (w_M_number cI cJ cC a_h a_h_refused a_h_kind a_h_sweets a_h_gives a_h_tape a_h_letter a_h_letterAt a_h_one a_h_two a_h_kept a_h_trail a_h_crumb a_h_nextCrumb a_h_goal a_h_start a_h_sits a_h_bestSits a_h_without a_h_row y_h_many y_h_odd y_h_step y_h_bag y_h_strokes y_h_gave y_h_threw y_h_statements y_h_hasImage y_h_isKeeping y_h_cursor y_h_beforeMany y_h_found y_h_lots y_h_rowMany z_h_taped z_h_at z_h_tape) q.1 (w_M_number cI cJ cC a_h a_h_refused a_h_kind a_h_sweets a_h_gives a_h_tape a_h_letter a_h_letterAt a_h_one a_h_two a_h_kept a_h_trail a_h_crumb a_h_nextCrumb a_h_goal a_h_start a_h_sits a_h_bestSits a_h_without a_h_row y_h_many y_h_odd y_h_step y_h_bag y_h_strokes y_h_gave y_h_threw y_h_statements y_h_hasImage y_h_isKeeping y_h_cursor y_h_beforeMany y_h_found y_h_lots y_h_rowMany z_h_taped q.2 z_h_tape) := by
  refine xI_of (by decide) (Nat.le_of_ble_eq_true rfl) ?_
  intro p e s m args below meth c A Q hx hb hml hown hT hA hP hD hK hS hE hret ls hl
  have hown : s.vm.findClass R_M = some m.cls := hown
  have hl : lv_has ls 4 [(0, .ref a_h), (1, .int x1)] := hl
  unfold f_M_number at hf
  have L20 : ∀ (n : Nat) (z_h_at : Int32) (x2 : Int32) (x3 : Int32) (H : Heap) (locs : List Loc) (ls : Array Slot), f_M_number_L20 z_h_taped z_h_tape x1 n z_h_at x2 x3 = some q → va_P D classes (w_M_number cI cJ cC a_h a_h_refused a_h_kind a_h_sweets a_h_gives a_h_tape a_h_letter a_h_letterAt a_h_one a_h_two a_h_kept a_h_trail a_h_crumb a_h_nextCrumb a_h_goal a_h_start a_h_sits a_h_bestSits a_h_without a_h_row y_h_many y_h_odd y_h_step y_h_bag y_h_strokes y_h_gave y_h_threw y_h_statements y_h_hasImage y_h_isKeeping y_h_cursor y_h_beforeMany y_h_found y_h_lots y_h_rowMany z_h_taped z_h_at z_h_tape) H → va_D A (w_M_number cI cJ cC a_h a_h_refused a_h_kind a_h_sweets a_h_gives a_h_tape a_h_letter a_h_letterAt a_h_one a_h_two a_h_kept a_h_trail a_h_crumb a_h_nextCrumb a_h_goal a_h_start a_h_sits a_h_bestSits a_h_without a_h_row y_h_many y_h_odd y_h_step y_h_bag y_h_strokes y_h_gave y_h_threw y_h_statements y_h_hasImage y_h_isKeeping y_h_cursor y_h_beforeMany y_h_found y_h_lots y_h_rowMany z_h_taped z_h_at z_h_tape) → va_S A s.heap H locs → lv_has ls 4 [(0, .ref a_h), (1, .int x1), (2, .int x2), (3, .int x3)] → W p l e (xRm 1 22) s m args below meth c H locs 0 0 Q (F0 m 20 ls []) := by
    intro n
    induction n with
    | zero => intro z_h_at x2 x3 H locs ls hf hP hD hS hl; exact nomatch (show (none : Option (Int32 × Int32)) = some q from hf)
    | succ n ih =>
      intro z_h_at x2 x3 H locs ls hf hP hD hS hl
      refine lv_iload_n hx hb d_M_number_20 rfl (lv_at hl 3 rfl) ?_
      refine lv_iload_n hx hb d_M_number_21 rfl (lv_at hl 1 rfl) ?_
      refine lv_icmp_ge (tgt := 68) hx hb d_M_number_22 (by decide) (fun c4 => ?_) (fun c4 => ?_)
      · have hf := io_t hf c4
        refine lv_iload_n hx hb d_M_number_68 rfl (lv_at hl 2 rfl) ?_
        have hq := Option.some.inj hf
        subst hq
        exact hret _ _ _ _ _ d_M_number_69 rfl rfl hP hD hS
      · have hf := io_f hf c4
        refine lv_aload_n hx hb d_M_number_25 rfl (lv_at hl 0 rfl) ?_
        obtain ⟨q5, hq5, hf⟩ := io_b hf
        refine xcVI (wc := (w_M_next cI cJ cC a_h a_h_refused a_h_kind a_h_sweets a_h_gives a_h_tape a_h_letter a_h_letterAt a_h_one a_h_two a_h_kept a_h_trail a_h_crumb a_h_nextCrumb a_h_goal a_h_start a_h_sits a_h_bestSits a_h_without a_h_row y_h_many y_h_odd y_h_step y_h_bag y_h_strokes y_h_gave y_h_threw y_h_statements y_h_hasImage y_h_isKeeping y_h_cursor y_h_beforeMany y_h_found y_h_lots y_h_rowMany z_h_taped z_h_at z_h_tape)) (wc' := (w_M_next cI cJ cC a_h a_h_refused a_h_kind a_h_sweets a_h_gives a_h_tape a_h_letter a_h_letterAt a_h_one a_h_two a_h_kept a_h_trail a_h_crumb a_h_nextCrumb a_h_goal a_h_start a_h_sits a_h_bestSits a_h_without a_h_row y_h_many y_h_odd y_h_step y_h_bag y_h_strokes y_h_gave y_h_threw y_h_statements y_h_hasImage y_h_isKeeping y_h_cursor y_h_beforeMany y_h_found y_h_lots y_h_rowMany z_h_taped z_h_at z_h_tape)) (ws' := (w_M_number cI cJ cC a_h a_h_refused a_h_kind a_h_sweets a_h_gives a_h_tape a_h_letter a_h_letterAt a_h_one a_h_two a_h_kept a_h_trail a_h_crumb a_h_nextCrumb a_h_goal a_h_start a_h_sits a_h_bestSits a_h_without a_h_row y_h_many y_h_odd y_h_step y_h_bag y_h_strokes y_h_gave y_h_threw y_h_statements y_h_hasImage y_h_isKeeping y_h_cursor y_h_beforeMany y_h_found y_h_lots y_h_rowMany z_h_taped z_h_at z_h_tape)) (As := []) (rest := []) hx hb hml hown hT (c_M_next (z_h_taped := z_h_taped) (z_h_at := z_h_at) (z_h_tape := z_h_tape) a_h a_h_refused a_h_kind a_h_sweets a_h_gives a_h_tape a_h_letter a_h_letterAt a_h_one a_h_two a_h_kept a_h_trail a_h_crumb a_h_nextCrumb a_h_goal a_h_start a_h_sits a_h_bestSits a_h_without a_h_row y_h_many y_h_odd y_h_step y_h_bag y_h_strokes y_h_gave y_h_threw y_h_statements y_h_hasImage y_h_isKeeping y_h_cursor y_h_beforeMany y_h_found y_h_lots y_h_rowMany hq5) k_886 k_888 ks_26 k_8 k_889 hd_M_next ⟨Nat.le_of_ble_eq_true rfl, Nat.le_of_ble_eq_true rfl⟩ xE0_ok trivial hA hK hP hD hS [0, 1] [] [0, 1] rfl rfl rfl rfl rfl rfl rfl rfl rfl rfl hl.1 rfl (Nat.le_of_ble_eq_true rfl) ⟨Nat.zero_le _, Nat.zero_le _⟩ d_M_number_26 (fun H locs hP hD hS => ?_)
        refine lv_bipush (v := 48) hx hb d_M_number_29 (by decide) ?_
        refine lv_bipush (v := 57) hx hb d_M_number_31 (by decide) ?_
        obtain ⟨q6, hq6, hf⟩ := io_b hf
        refine xcSI (wc := []) (wc' := []) (ws' := (w_M_number cI cJ cC a_h a_h_refused a_h_kind a_h_sweets a_h_gives a_h_tape a_h_letter a_h_letterAt a_h_one a_h_two a_h_kept a_h_trail a_h_crumb a_h_nextCrumb a_h_goal a_h_start a_h_sits a_h_bestSits a_h_without a_h_row y_h_many y_h_odd y_h_step y_h_bag y_h_strokes y_h_gave y_h_threw y_h_statements y_h_hasImage y_h_isKeeping y_h_cursor y_h_beforeMany y_h_found y_h_lots y_h_rowMany z_h_taped z_h_at z_h_tape)) (As := [.int q5, .int 48, .int 57]) (rest := []) hx hb hml hown hT (c_M_isIn hq6) k_897 k_898 k_8 k_899 hd_M_isIn ⟨Nat.le_of_ble_eq_true rfl, Nat.le_of_ble_eq_true rfl⟩ xE0_ok trivial hA hK hP hD hS [] [0, 1] [0, 1] rfl rfl rfl rfl rfl rfl rfl hl.1 rfl (Nat.le_of_ble_eq_true rfl) ⟨Nat.zero_le _, Nat.zero_le _⟩ d_M_number_33 (fun H locs hP hD hS => ?_)
        refine lv_if_eq (tgt := 68) hx hb d_M_number_36 (by decide) (fun c7 => ?_) (fun c7 => ?_)
        · have hf := io_t hf c7
          refine lv_iload_n hx hb d_M_number_68 rfl (lv_at hl 2 rfl) ?_
          have hq := Option.some.inj hf
          subst hq
          exact hret _ _ _ _ _ d_M_number_69 rfl rfl hP hD hS
        · have hf := io_f hf c7
          refine lv_bipush (v := 10) hx hb d_M_number_39 (by decide) ?_
          refine lv_iload_n hx hb d_M_number_41 rfl (lv_at hl 2 rfl) ?_
          refine lv_imul hx hb d_M_number_42 ?_
          refine lv_aload_n hx hb d_M_number_43 rfl (lv_at hl 0 rfl) ?_
          obtain ⟨q8, hq8, hf⟩ := io_b hf
          refine xcVI (wc := (w_M_next cI cJ cC a_h a_h_refused a_h_kind a_h_sweets a_h_gives a_h_tape a_h_letter a_h_letterAt a_h_one a_h_two a_h_kept a_h_trail a_h_crumb a_h_nextCrumb a_h_goal a_h_start a_h_sits a_h_bestSits a_h_without a_h_row y_h_many y_h_odd y_h_step y_h_bag y_h_strokes y_h_gave y_h_threw y_h_statements y_h_hasImage y_h_isKeeping y_h_cursor y_h_beforeMany y_h_found y_h_lots y_h_rowMany z_h_taped z_h_at z_h_tape)) (wc' := (w_M_next cI cJ cC a_h a_h_refused a_h_kind a_h_sweets a_h_gives a_h_tape a_h_letter a_h_letterAt a_h_one a_h_two a_h_kept a_h_trail a_h_crumb a_h_nextCrumb a_h_goal a_h_start a_h_sits a_h_bestSits a_h_without a_h_row y_h_many y_h_odd y_h_step y_h_bag y_h_strokes y_h_gave y_h_threw y_h_statements y_h_hasImage y_h_isKeeping y_h_cursor y_h_beforeMany y_h_found y_h_lots y_h_rowMany z_h_taped z_h_at z_h_tape)) (ws' := (w_M_number cI cJ cC a_h a_h_refused a_h_kind a_h_sweets a_h_gives a_h_tape a_h_letter a_h_letterAt a_h_one a_h_two a_h_kept a_h_trail a_h_crumb a_h_nextCrumb a_h_goal a_h_start a_h_sits a_h_bestSits a_h_without a_h_row y_h_many y_h_odd y_h_step y_h_bag y_h_strokes y_h_gave y_h_threw y_h_statements y_h_hasImage y_h_isKeeping y_h_cursor y_h_beforeMany y_h_found y_h_lots y_h_rowMany z_h_taped z_h_at z_h_tape)) (As := []) (rest := [.int (10 * x2)]) hx hb hml hown hT (c_M_next (z_h_taped := z_h_taped) (z_h_at := z_h_at) (z_h_tape := z_h_tape) a_h a_h_refused a_h_kind a_h_sweets a_h_gives a_h_tape a_h_letter a_h_letterAt a_h_one a_h_two a_h_kept a_h_trail a_h_crumb a_h_nextCrumb a_h_goal a_h_start a_h_sits a_h_bestSits a_h_without a_h_row y_h_many y_h_odd y_h_step y_h_bag y_h_strokes y_h_gave y_h_threw y_h_statements y_h_hasImage y_h_isKeeping y_h_cursor y_h_beforeMany y_h_found y_h_lots y_h_rowMany hq8) k_886 k_888 ks_26 k_8 k_889 hd_M_next ⟨Nat.le_of_ble_eq_true rfl, Nat.le_of_ble_eq_true rfl⟩ xE0_ok trivial hA hK hP hD hS [0, 1] [] [0, 1] rfl rfl rfl rfl rfl rfl rfl rfl rfl rfl hl.1 rfl (Nat.le_of_ble_eq_true rfl) ⟨Nat.zero_le _, Nat.zero_le _⟩ d_M_number_44 (fun H locs hP hD hS => ?_)
          refine lv_iadd hx hb d_M_number_47 ?_
          refine lv_bipush (v := 48) hx hb d_M_number_48 (by decide) ?_
          refine lv_isub hx hb d_M_number_50 ?_
          refine lv_istore_n (lv' := [(2, .int (((10 * x2) + q8) - 48)), (0, .ref a_h), (1, .int x1), (3, .int x3)]) hx hb d_M_number_51 rfl hl (by decide) rfl (fun ls hl => ?_)
          refine lv_aload_n hx hb d_M_number_52 rfl (lv_at hl 1 rfl) ?_
          refine lv_dup hx hb d_M_number_53 rfl ?_
          refine va_get hx hb hT i_M hown hK hP 0 rfl rfl 17 (Nat.le_of_ble_eq_true rfl) (hT _ k_775) (fun _ h => h) rfl d_M_number_54 ?_
          refine lv_iconst (v := 1) hx hb d_M_number_57 (by decide) ?_
          refine lv_iadd hx hb d_M_number_58 ?_
          refine va_put (ty := .int) hx hb hT i_M t_M t_M_ok n_M hown hK hP hD hS 0 rfl rfl 17 (Nat.le_of_ble_eq_true rfl) (hT _ k_775) (fun _ h => h) rfl rfl rfl rfl (Nat.le_of_ble_eq_true rfl) d_M_number_59 (fun H locs hP hD hS => ?_)
          have hP : va_P D classes (w_M_number cI cJ cC a_h a_h_refused a_h_kind a_h_sweets a_h_gives a_h_tape a_h_letter a_h_letterAt a_h_one a_h_two a_h_kept a_h_trail a_h_crumb a_h_nextCrumb a_h_goal a_h_start a_h_sits a_h_bestSits a_h_without a_h_row y_h_many y_h_odd y_h_step y_h_bag y_h_strokes y_h_gave y_h_threw y_h_statements y_h_hasImage y_h_isKeeping y_h_cursor y_h_beforeMany y_h_found y_h_lots y_h_rowMany z_h_taped (z_h_at + 1) z_h_tape) H := hP
          have hD : va_D A (w_M_number cI cJ cC a_h a_h_refused a_h_kind a_h_sweets a_h_gives a_h_tape a_h_letter a_h_letterAt a_h_one a_h_two a_h_kept a_h_trail a_h_crumb a_h_nextCrumb a_h_goal a_h_start a_h_sits a_h_bestSits a_h_without a_h_row y_h_many y_h_odd y_h_step y_h_bag y_h_strokes y_h_gave y_h_threw y_h_statements y_h_hasImage y_h_isKeeping y_h_cursor y_h_beforeMany y_h_found y_h_lots y_h_rowMany z_h_taped (z_h_at + 1) z_h_tape) := hD
          refine lv_iinc (v := (x3 + 1)) (lv' := [(3, .int (x3 + 1)), (2, .int (((10 * x2) + q8) - 48)), (0, .ref a_h), (1, .int x1)]) hx hb d_M_number_62 hl (k := 3) rfl (by rfl) (by decide) rfl (fun ls hl => ?_)
          refine lv_goto (tgt := 20) hx hb d_M_number_65 (by decide) ?_
          exact ih (z_h_at + 1) (((10 * x2) + q8) - 48) (x3 + 1) _ _ _ hf hP hD hS (lv_sub hl [2, 3, 1, 0] rfl)
  refine lv_aload_n hx hb d_M_number_0 rfl (lv_at hl 0 rfl) ?_
  obtain ⟨q1, hq1, hf⟩ := io_b hf
  refine xcVI (wc := (w_M_next cI cJ cC a_h a_h_refused a_h_kind a_h_sweets a_h_gives a_h_tape a_h_letter a_h_letterAt a_h_one a_h_two a_h_kept a_h_trail a_h_crumb a_h_nextCrumb a_h_goal a_h_start a_h_sits a_h_bestSits a_h_without a_h_row y_h_many y_h_odd y_h_step y_h_bag y_h_strokes y_h_gave y_h_threw y_h_statements y_h_hasImage y_h_isKeeping y_h_cursor y_h_beforeMany y_h_found y_h_lots y_h_rowMany z_h_taped z_h_at z_h_tape)) (wc' := (w_M_next cI cJ cC a_h a_h_refused a_h_kind a_h_sweets a_h_gives a_h_tape a_h_letter a_h_letterAt a_h_one a_h_two a_h_kept a_h_trail a_h_crumb a_h_nextCrumb a_h_goal a_h_start a_h_sits a_h_bestSits a_h_without a_h_row y_h_many y_h_odd y_h_step y_h_bag y_h_strokes y_h_gave y_h_threw y_h_statements y_h_hasImage y_h_isKeeping y_h_cursor y_h_beforeMany y_h_found y_h_lots y_h_rowMany z_h_taped z_h_at z_h_tape)) (ws' := (w_M_number cI cJ cC a_h a_h_refused a_h_kind a_h_sweets a_h_gives a_h_tape a_h_letter a_h_letterAt a_h_one a_h_two a_h_kept a_h_trail a_h_crumb a_h_nextCrumb a_h_goal a_h_start a_h_sits a_h_bestSits a_h_without a_h_row y_h_many y_h_odd y_h_step y_h_bag y_h_strokes y_h_gave y_h_threw y_h_statements y_h_hasImage y_h_isKeeping y_h_cursor y_h_beforeMany y_h_found y_h_lots y_h_rowMany z_h_taped z_h_at z_h_tape)) (As := []) (rest := []) hx hb hml hown hT (c_M_next (z_h_taped := z_h_taped) (z_h_at := z_h_at) (z_h_tape := z_h_tape) a_h a_h_refused a_h_kind a_h_sweets a_h_gives a_h_tape a_h_letter a_h_letterAt a_h_one a_h_two a_h_kept a_h_trail a_h_crumb a_h_nextCrumb a_h_goal a_h_start a_h_sits a_h_bestSits a_h_without a_h_row y_h_many y_h_odd y_h_step y_h_bag y_h_strokes y_h_gave y_h_threw y_h_statements y_h_hasImage y_h_isKeeping y_h_cursor y_h_beforeMany y_h_found y_h_lots y_h_rowMany hq1) k_886 k_888 ks_26 k_8 k_889 hd_M_next ⟨Nat.le_of_ble_eq_true rfl, Nat.le_of_ble_eq_true rfl⟩ xE0_ok trivial hA hK hP hD hS [0, 1] [] [0, 1] rfl rfl rfl rfl rfl rfl rfl rfl rfl rfl hl.1 rfl (Nat.le_of_ble_eq_true rfl) ⟨Nat.zero_le _, Nat.zero_le _⟩ d_M_number_1 (fun H locs hP hD hS => ?_)
  refine lv_bipush (v := 48) hx hb d_M_number_4 (by decide) ?_
  refine lv_bipush (v := 57) hx hb d_M_number_6 (by decide) ?_
  obtain ⟨q2, hq2, hf⟩ := io_b hf
  refine xcSI (wc := []) (wc' := []) (ws' := (w_M_number cI cJ cC a_h a_h_refused a_h_kind a_h_sweets a_h_gives a_h_tape a_h_letter a_h_letterAt a_h_one a_h_two a_h_kept a_h_trail a_h_crumb a_h_nextCrumb a_h_goal a_h_start a_h_sits a_h_bestSits a_h_without a_h_row y_h_many y_h_odd y_h_step y_h_bag y_h_strokes y_h_gave y_h_threw y_h_statements y_h_hasImage y_h_isKeeping y_h_cursor y_h_beforeMany y_h_found y_h_lots y_h_rowMany z_h_taped z_h_at z_h_tape)) (As := [.int q1, .int 48, .int 57]) (rest := []) hx hb hml hown hT (c_M_isIn hq2) k_897 k_898 k_8 k_899 hd_M_isIn ⟨Nat.le_of_ble_eq_true rfl, Nat.le_of_ble_eq_true rfl⟩ xE0_ok trivial hA hK hP hD hS [] [0, 1] [0, 1] rfl rfl rfl rfl rfl rfl rfl hl.1 rfl (Nat.le_of_ble_eq_true rfl) ⟨Nat.zero_le _, Nat.zero_le _⟩ d_M_number_8 (fun H locs hP hD hS => ?_)
  refine lv_if_ne (tgt := 16) hx hb d_M_number_11 (by decide) (fun c3 => ?_) (fun c3 => ?_)
  · have hf := io_f hf c3
    refine lv_iconst (v := 0) hx hb d_M_number_16 (by decide) ?_
    refine lv_istore_n (lv' := [(2, .int 0), (0, .ref a_h), (1, .int x1)]) hx hb d_M_number_17 rfl hl (by decide) rfl (fun ls hl => ?_)
    refine lv_iconst (v := 0) hx hb d_M_number_18 (by decide) ?_
    refine lv_istore_n (lv' := [(3, .int 0), (2, .int 0), (0, .ref a_h), (1, .int x1)]) hx hb d_M_number_19 rfl hl (by decide) rfl (fun ls hl => ?_)
    exact L20 FU z_h_at 0 0 _ _ _ hf hP hD hS (lv_sub hl [2, 3, 1, 0] rfl)
  · have hf := io_t hf c3
    refine lv_iconst (v := (-1)) hx hb d_M_number_14 (by decide) ?_
    have hq := Option.some.inj hf
    subst hq
    exact hret _ _ _ _ _ d_M_number_15 rfl rfl hP hD hS
theorem d_M_kindOf_0 : decode b_M_kindOf 0 = .ok (.iload_n 0, 1) := by decide +kernel
theorem d_M_kindOf_1 : decode b_M_kindOf 1 = .ok (.tableswitch 102 98 115 #[89, 102, 93, 102, 102, 102, 87, 102, 102, 102, 102, 102, 95, 102, 97, 102, 91, 99], 87) := by decide +kernel
theorem d_M_kindOf_88 : decode b_M_kindOf 88 = .ok (.iconst 0, 1) := by decide +kernel
theorem d_M_kindOf_89 : decode b_M_kindOf 89 = .ok (.ireturn, 1) := by decide +kernel
theorem d_M_kindOf_90 : decode b_M_kindOf 90 = .ok (.iconst 1, 1) := by decide +kernel
theorem d_M_kindOf_91 : decode b_M_kindOf 91 = .ok (.ireturn, 1) := by decide +kernel
theorem d_M_kindOf_92 : decode b_M_kindOf 92 = .ok (.iconst 2, 1) := by decide +kernel
theorem d_M_kindOf_93 : decode b_M_kindOf 93 = .ok (.ireturn, 1) := by decide +kernel
theorem d_M_kindOf_94 : decode b_M_kindOf 94 = .ok (.iconst 3, 1) := by decide +kernel
theorem d_M_kindOf_95 : decode b_M_kindOf 95 = .ok (.ireturn, 1) := by decide +kernel
theorem d_M_kindOf_96 : decode b_M_kindOf 96 = .ok (.iconst 4, 1) := by decide +kernel
theorem d_M_kindOf_97 : decode b_M_kindOf 97 = .ok (.ireturn, 1) := by decide +kernel
theorem d_M_kindOf_98 : decode b_M_kindOf 98 = .ok (.iconst 5, 1) := by decide +kernel
theorem d_M_kindOf_99 : decode b_M_kindOf 99 = .ok (.ireturn, 1) := by decide +kernel
theorem d_M_kindOf_100 : decode b_M_kindOf 100 = .ok (.bipush 6, 2) := by decide +kernel
theorem d_M_kindOf_102 : decode b_M_kindOf 102 = .ok (.ireturn, 1) := by decide +kernel
theorem d_M_kindOf_103 : decode b_M_kindOf 103 = .ok (.iconst (-1), 1) := by decide +kernel
theorem d_M_kindOf_104 : decode b_M_kindOf 104 = .ok (.ireturn, 1) := by decide +kernel
set_option maxHeartbeats 4000000 in
set_option maxRecDepth 100000 in
theorem c_M_kindOf {l : Launch} {D : va_G} {cI cJ cC : ClassId} {x0 : Int32} {q : Int32} (hf : f_M_kindOf x0 = some q) : xI l y_M_kindOf b_M_kindOf 1 .int 0 0 D (tyK cI cJ cC) xE0 [.int x0] [] q [] := by
  refine xI_of (by decide) (Nat.le_of_ble_eq_true rfl) ?_
  intro p e s m args below meth c A Q hx hb hml hown hT hA hP hD hK hS hE hret ls hl
  have hown : s.vm.findClass R_M = some m.cls := hown
  have hl : lv_has ls 1 [(0, .int x0)] := hl
  unfold f_M_kindOf at hf
  refine lv_iload_n hx hb d_M_kindOf_0 rfl (lv_at hl 0 rfl) ?_
  rcases Decidable.em (x0 = 98) with c1 | c1
  · have hf := io_t hf c1
    refine lv_tableIn (off := 89) (tgt := 90) hx hb d_M_kindOf_1 (by rw [c1]; decide +kernel) (by rw [c1]; decide +kernel) (by rw [c1]; rfl) (by decide) ?_
    refine lv_iconst (v := 1) hx hb d_M_kindOf_90 (by decide) ?_
    have hq := Option.some.inj hf
    subst hq
    exact hret _ _ _ _ _ d_M_kindOf_91 rfl rfl hP hD hS
  · have hf := io_f hf c1
    rcases Decidable.em (x0 = 99) with c2 | c2
    · have hf := io_t hf c2
      refine lv_tableIn (off := 102) (tgt := 103) hx hb d_M_kindOf_1 (by rw [c2]; decide +kernel) (by rw [c2]; decide +kernel) (by rw [c2]; rfl) (by decide) ?_
      refine lv_iconst (v := (-1)) hx hb d_M_kindOf_103 (by decide) ?_
      have hq := Option.some.inj hf
      subst hq
      exact hret _ _ _ _ _ d_M_kindOf_104 rfl rfl hP hD hS
    · have hf := io_f hf c2
      rcases Decidable.em (x0 = 100) with c3 | c3
      · have hf := io_t hf c3
        refine lv_tableIn (off := 93) (tgt := 94) hx hb d_M_kindOf_1 (by rw [c3]; decide +kernel) (by rw [c3]; decide +kernel) (by rw [c3]; rfl) (by decide) ?_
        refine lv_iconst (v := 3) hx hb d_M_kindOf_94 (by decide) ?_
        have hq := Option.some.inj hf
        subst hq
        exact hret _ _ _ _ _ d_M_kindOf_95 rfl rfl hP hD hS
      · have hf := io_f hf c3
        rcases Decidable.em (x0 = 101) with c4 | c4
        · have hf := io_t hf c4
          refine lv_tableIn (off := 102) (tgt := 103) hx hb d_M_kindOf_1 (by rw [c4]; decide +kernel) (by rw [c4]; decide +kernel) (by rw [c4]; rfl) (by decide) ?_
          refine lv_iconst (v := (-1)) hx hb d_M_kindOf_103 (by decide) ?_
          have hq := Option.some.inj hf
          subst hq
          exact hret _ _ _ _ _ d_M_kindOf_104 rfl rfl hP hD hS
        · have hf := io_f hf c4
          rcases Decidable.em (x0 = 102) with c5 | c5
          · have hf := io_t hf c5
            refine lv_tableIn (off := 102) (tgt := 103) hx hb d_M_kindOf_1 (by rw [c5]; decide +kernel) (by rw [c5]; decide +kernel) (by rw [c5]; rfl) (by decide) ?_
            refine lv_iconst (v := (-1)) hx hb d_M_kindOf_103 (by decide) ?_
            have hq := Option.some.inj hf
            subst hq
            exact hret _ _ _ _ _ d_M_kindOf_104 rfl rfl hP hD hS
          · have hf := io_f hf c5
            rcases Decidable.em (x0 = 103) with c6 | c6
            · have hf := io_t hf c6
              refine lv_tableIn (off := 102) (tgt := 103) hx hb d_M_kindOf_1 (by rw [c6]; decide +kernel) (by rw [c6]; decide +kernel) (by rw [c6]; rfl) (by decide) ?_
              refine lv_iconst (v := (-1)) hx hb d_M_kindOf_103 (by decide) ?_
              have hq := Option.some.inj hf
              subst hq
              exact hret _ _ _ _ _ d_M_kindOf_104 rfl rfl hP hD hS
            · have hf := io_f hf c6
              rcases Decidable.em (x0 = 104) with c7 | c7
              · have hf := io_t hf c7
                refine lv_tableIn (off := 87) (tgt := 88) hx hb d_M_kindOf_1 (by rw [c7]; decide +kernel) (by rw [c7]; decide +kernel) (by rw [c7]; rfl) (by decide) ?_
                refine lv_iconst (v := 0) hx hb d_M_kindOf_88 (by decide) ?_
                have hq := Option.some.inj hf
                subst hq
                exact hret _ _ _ _ _ d_M_kindOf_89 rfl rfl hP hD hS
              · have hf := io_f hf c7
                rcases Decidable.em (x0 = 105) with c8 | c8
                · have hf := io_t hf c8
                  refine lv_tableIn (off := 102) (tgt := 103) hx hb d_M_kindOf_1 (by rw [c8]; decide +kernel) (by rw [c8]; decide +kernel) (by rw [c8]; rfl) (by decide) ?_
                  refine lv_iconst (v := (-1)) hx hb d_M_kindOf_103 (by decide) ?_
                  have hq := Option.some.inj hf
                  subst hq
                  exact hret _ _ _ _ _ d_M_kindOf_104 rfl rfl hP hD hS
                · have hf := io_f hf c8
                  rcases Decidable.em (x0 = 106) with c9 | c9
                  · have hf := io_t hf c9
                    refine lv_tableIn (off := 102) (tgt := 103) hx hb d_M_kindOf_1 (by rw [c9]; decide +kernel) (by rw [c9]; decide +kernel) (by rw [c9]; rfl) (by decide) ?_
                    refine lv_iconst (v := (-1)) hx hb d_M_kindOf_103 (by decide) ?_
                    have hq := Option.some.inj hf
                    subst hq
                    exact hret _ _ _ _ _ d_M_kindOf_104 rfl rfl hP hD hS
                  · have hf := io_f hf c9
                    rcases Decidable.em (x0 = 107) with c10 | c10
                    · have hf := io_t hf c10
                      refine lv_tableIn (off := 102) (tgt := 103) hx hb d_M_kindOf_1 (by rw [c10]; decide +kernel) (by rw [c10]; decide +kernel) (by rw [c10]; rfl) (by decide) ?_
                      refine lv_iconst (v := (-1)) hx hb d_M_kindOf_103 (by decide) ?_
                      have hq := Option.some.inj hf
                      subst hq
                      exact hret _ _ _ _ _ d_M_kindOf_104 rfl rfl hP hD hS
                    · have hf := io_f hf c10
                      rcases Decidable.em (x0 = 108) with c11 | c11
                      · have hf := io_t hf c11
                        refine lv_tableIn (off := 102) (tgt := 103) hx hb d_M_kindOf_1 (by rw [c11]; decide +kernel) (by rw [c11]; decide +kernel) (by rw [c11]; rfl) (by decide) ?_
                        refine lv_iconst (v := (-1)) hx hb d_M_kindOf_103 (by decide) ?_
                        have hq := Option.some.inj hf
                        subst hq
                        exact hret _ _ _ _ _ d_M_kindOf_104 rfl rfl hP hD hS
                      · have hf := io_f hf c11
                        rcases Decidable.em (x0 = 109) with c12 | c12
                        · have hf := io_t hf c12
                          refine lv_tableIn (off := 102) (tgt := 103) hx hb d_M_kindOf_1 (by rw [c12]; decide +kernel) (by rw [c12]; decide +kernel) (by rw [c12]; rfl) (by decide) ?_
                          refine lv_iconst (v := (-1)) hx hb d_M_kindOf_103 (by decide) ?_
                          have hq := Option.some.inj hf
                          subst hq
                          exact hret _ _ _ _ _ d_M_kindOf_104 rfl rfl hP hD hS
                        · have hf := io_f hf c12
                          rcases Decidable.em (x0 = 110) with c13 | c13
                          · have hf := io_t hf c13
                            refine lv_tableIn (off := 95) (tgt := 96) hx hb d_M_kindOf_1 (by rw [c13]; decide +kernel) (by rw [c13]; decide +kernel) (by rw [c13]; rfl) (by decide) ?_
                            refine lv_iconst (v := 4) hx hb d_M_kindOf_96 (by decide) ?_
                            have hq := Option.some.inj hf
                            subst hq
                            exact hret _ _ _ _ _ d_M_kindOf_97 rfl rfl hP hD hS
                          · have hf := io_f hf c13
                            rcases Decidable.em (x0 = 111) with c14 | c14
                            · have hf := io_t hf c14
                              refine lv_tableIn (off := 102) (tgt := 103) hx hb d_M_kindOf_1 (by rw [c14]; decide +kernel) (by rw [c14]; decide +kernel) (by rw [c14]; rfl) (by decide) ?_
                              refine lv_iconst (v := (-1)) hx hb d_M_kindOf_103 (by decide) ?_
                              have hq := Option.some.inj hf
                              subst hq
                              exact hret _ _ _ _ _ d_M_kindOf_104 rfl rfl hP hD hS
                            · have hf := io_f hf c14
                              rcases Decidable.em (x0 = 112) with c15 | c15
                              · have hf := io_t hf c15
                                refine lv_tableIn (off := 97) (tgt := 98) hx hb d_M_kindOf_1 (by rw [c15]; decide +kernel) (by rw [c15]; decide +kernel) (by rw [c15]; rfl) (by decide) ?_
                                refine lv_iconst (v := 5) hx hb d_M_kindOf_98 (by decide) ?_
                                have hq := Option.some.inj hf
                                subst hq
                                exact hret _ _ _ _ _ d_M_kindOf_99 rfl rfl hP hD hS
                              · have hf := io_f hf c15
                                rcases Decidable.em (x0 = 113) with c16 | c16
                                · have hf := io_t hf c16
                                  refine lv_tableIn (off := 102) (tgt := 103) hx hb d_M_kindOf_1 (by rw [c16]; decide +kernel) (by rw [c16]; decide +kernel) (by rw [c16]; rfl) (by decide) ?_
                                  refine lv_iconst (v := (-1)) hx hb d_M_kindOf_103 (by decide) ?_
                                  have hq := Option.some.inj hf
                                  subst hq
                                  exact hret _ _ _ _ _ d_M_kindOf_104 rfl rfl hP hD hS
                                · have hf := io_f hf c16
                                  rcases Decidable.em (x0 = 114) with c17 | c17
                                  · have hf := io_t hf c17
                                    refine lv_tableIn (off := 91) (tgt := 92) hx hb d_M_kindOf_1 (by rw [c17]; decide +kernel) (by rw [c17]; decide +kernel) (by rw [c17]; rfl) (by decide) ?_
                                    refine lv_iconst (v := 2) hx hb d_M_kindOf_92 (by decide) ?_
                                    have hq := Option.some.inj hf
                                    subst hq
                                    exact hret _ _ _ _ _ d_M_kindOf_93 rfl rfl hP hD hS
                                  · have hf := io_f hf c17
                                    rcases Decidable.em (x0 = 115) with c18 | c18
                                    · have hf := io_t hf c18
                                      refine lv_tableIn (off := 99) (tgt := 100) hx hb d_M_kindOf_1 (by rw [c18]; decide +kernel) (by rw [c18]; decide +kernel) (by rw [c18]; rfl) (by decide) ?_
                                      refine lv_bipush (v := 6) hx hb d_M_kindOf_100 (by decide) ?_
                                      have hq := Option.some.inj hf
                                      subst hq
                                      exact hret _ _ _ _ _ d_M_kindOf_102 rfl rfl hP hD hS
                                    · have hf := io_f hf c18
                                      refine lv_tableOut (tgt := 103) hx hb d_M_kindOf_1 (by have e0 := lv_neT (a := 98) c1 (by decide +kernel); have e1 := lv_neT (a := 99) c2 (by decide +kernel); have e2 := lv_neT (a := 100) c3 (by decide +kernel); have e3 := lv_neT (a := 101) c4 (by decide +kernel); have e4 := lv_neT (a := 102) c5 (by decide +kernel); have e5 := lv_neT (a := 103) c6 (by decide +kernel); have e6 := lv_neT (a := 104) c7 (by decide +kernel); have e7 := lv_neT (a := 105) c8 (by decide +kernel); have e8 := lv_neT (a := 106) c9 (by decide +kernel); have e9 := lv_neT (a := 107) c10 (by decide +kernel); have e10 := lv_neT (a := 108) c11 (by decide +kernel); have e11 := lv_neT (a := 109) c12 (by decide +kernel); have e12 := lv_neT (a := 110) c13 (by decide +kernel); have e13 := lv_neT (a := 111) c14 (by decide +kernel); have e14 := lv_neT (a := 112) c15 (by decide +kernel); have e15 := lv_neT (a := 113) c16 (by decide +kernel); have e16 := lv_neT (a := 114) c17 (by decide +kernel); have e17 := lv_neT (a := 115) c18 (by decide +kernel); omega) (by decide) ?_
                                      refine lv_iconst (v := (-1)) hx hb d_M_kindOf_103 (by decide) ?_
                                      have hq := Option.some.inj hf
                                      subst hq
                                      exact hret _ _ _ _ _ d_M_kindOf_104 rfl rfl hP hD hS
abbrev w_M_statement (cI cJ cC : ClassId) (a_h a_h_refused a_h_kind a_h_sweets a_h_gives a_h_tape a_h_letter a_h_letterAt a_h_one a_h_two a_h_kept a_h_trail a_h_crumb a_h_nextCrumb a_h_goal a_h_start a_h_sits a_h_bestSits a_h_without a_h_row : Nat) (y_h_many : Int32) (y_h_odd : Int32) (y_h_step : Int32) (y_h_bag : Int32) (y_h_strokes : Int32) (y_h_gave : Int32) (y_h_threw : Int32) (y_h_hasImage : Int32) (y_h_isKeeping : Int32) (y_h_cursor : Int32) (y_h_beforeMany : Int32) (y_h_found : Int32) (y_h_lots : Int32) (y_h_rowMany : Int32) (p_h_taped : Int32) (p_h_at : Int32) (p_h_statements : Int32) (p_h_tape : (Nat → Int32)) (p_h_letter : (Nat → Int32)) (p_h_letterAt : (Nat → Int32)) (p_h_one : (Nat → Int32)) (p_h_two : (Nat → Int32)) : va_W := [(a_h, .inr (7, [.ref a_h_refused, .ref a_h_kind, .ref a_h_sweets, .ref a_h_gives, .int y_h_many, .int y_h_odd, .int y_h_step, .int y_h_bag, .int y_h_strokes, .int y_h_gave, .int y_h_threw, .ref a_h_tape, .ref a_h_letter, .ref a_h_letterAt, .ref a_h_one, .ref a_h_two, .int p_h_taped, .int p_h_at, .int p_h_statements, .ref a_h_kept, .int y_h_hasImage, .int y_h_isKeeping, .int y_h_cursor, .ref a_h_trail, .ref a_h_crumb, .ref a_h_nextCrumb, .ref a_h_goal, .ref a_h_start, .int y_h_beforeMany, .int y_h_found, .ref a_h_sits, .ref a_h_bestSits, .ref a_h_without, .int y_h_lots, .ref a_h_row, .int y_h_rowMany])), (a_h_tape, .inl (cI, (64, .inl p_h_tape))), (a_h_letter, .inl (cI, (32, .inl p_h_letter))), (a_h_letterAt, .inl (cI, (32, .inl p_h_letterAt))), (a_h_one, .inl (cI, (32, .inl p_h_one))), (a_h_two, .inl (cI, (32, .inl p_h_two)))]
theorem d_M_statement_0 : decode b_M_statement 0 = .ok (.aload_n 0, 1) := by decide +kernel
theorem d_M_statement_1 : decode b_M_statement 1 = .ok (.getfield 103, 3) := by decide +kernel
theorem d_M_statement_4 : decode b_M_statement 4 = .ok (.istore_n 1, 1) := by decide +kernel
theorem d_M_statement_5 : decode b_M_statement 5 = .ok (.aload_n 0, 1) := by decide +kernel
theorem d_M_statement_6 : decode b_M_statement 6 = .ok (.invokevirtual 95, 3) := by decide +kernel
theorem d_M_statement_9 : decode b_M_statement 9 = .ok (.istore_n 2, 1) := by decide +kernel
theorem d_M_statement_10 : decode b_M_statement 10 = .ok (.iload_n 2, 1) := by decide +kernel
theorem d_M_statement_11 : decode b_M_statement 11 = .ok (.bipush 99, 2) := by decide +kernel
theorem d_M_statement_13 : decode b_M_statement 13 = .ok (.if_icmp .eq 17, 3) := by decide +kernel
theorem d_M_statement_16 : decode b_M_statement 16 = .ok (.iload_n 2, 1) := by decide +kernel
theorem d_M_statement_17 : decode b_M_statement 17 = .ok (.bipush 108, 2) := by decide +kernel
theorem d_M_statement_19 : decode b_M_statement 19 = .ok (.if_icmp .eq 11, 3) := by decide +kernel
theorem d_M_statement_22 : decode b_M_statement 22 = .ok (.iload_n 2, 1) := by decide +kernel
theorem d_M_statement_23 : decode b_M_statement 23 = .ok (.bipush 103, 2) := by decide +kernel
theorem d_M_statement_25 : decode b_M_statement 25 = .ok (.if_icmp .eq 5, 3) := by decide +kernel
theorem d_M_statement_28 : decode b_M_statement 28 = .ok (.iconst 0, 1) := by decide +kernel
theorem d_M_statement_29 : decode b_M_statement 29 = .ok (.ireturn, 1) := by decide +kernel
theorem d_M_statement_30 : decode b_M_statement 30 = .ok (.aload_n 0, 1) := by decide +kernel
theorem d_M_statement_31 : decode b_M_statement 31 = .ok (.getfield 32, 3) := by decide +kernel
theorem d_M_statement_34 : decode b_M_statement 34 = .ok (.iload_n 1, 1) := by decide +kernel
theorem d_M_statement_35 : decode b_M_statement 35 = .ok (.iload_n 2, 1) := by decide +kernel
theorem d_M_statement_36 : decode b_M_statement 36 = .ok (.iastore, 1) := by decide +kernel
theorem d_M_statement_37 : decode b_M_statement 37 = .ok (.aload_n 0, 1) := by decide +kernel
theorem d_M_statement_38 : decode b_M_statement 38 = .ok (.getfield 35, 3) := by decide +kernel
theorem d_M_statement_41 : decode b_M_statement 41 = .ok (.iload_n 1, 1) := by decide +kernel
theorem d_M_statement_42 : decode b_M_statement 42 = .ok (.aload_n 0, 1) := by decide +kernel
theorem d_M_statement_43 : decode b_M_statement 43 = .ok (.getfield 92, 3) := by decide +kernel
theorem d_M_statement_46 : decode b_M_statement 46 = .ok (.iastore, 1) := by decide +kernel
theorem d_M_statement_47 : decode b_M_statement 47 = .ok (.aload_n 0, 1) := by decide +kernel
theorem d_M_statement_48 : decode b_M_statement 48 = .ok (.dup, 1) := by decide +kernel
theorem d_M_statement_49 : decode b_M_statement 49 = .ok (.getfield 92, 3) := by decide +kernel
theorem d_M_statement_52 : decode b_M_statement 52 = .ok (.iconst 1, 1) := by decide +kernel
theorem d_M_statement_53 : decode b_M_statement 53 = .ok (.iadd, 1) := by decide +kernel
theorem d_M_statement_54 : decode b_M_statement 54 = .ok (.putfield 92, 3) := by decide +kernel
theorem d_M_statement_57 : decode b_M_statement 57 = .ok (.iload_n 2, 1) := by decide +kernel
theorem d_M_statement_58 : decode b_M_statement 58 = .ok (.bipush 99, 2) := by decide +kernel
theorem d_M_statement_60 : decode b_M_statement 60 = .ok (.if_icmp .ne 59, 3) := by decide +kernel
theorem d_M_statement_63 : decode b_M_statement 63 = .ok (.aload_n 0, 1) := by decide +kernel
theorem d_M_statement_64 : decode b_M_statement 64 = .ok (.getfield 38, 3) := by decide +kernel
theorem d_M_statement_67 : decode b_M_statement 67 = .ok (.iload_n 1, 1) := by decide +kernel
theorem d_M_statement_68 : decode b_M_statement 68 = .ok (.aload_n 0, 1) := by decide +kernel
theorem d_M_statement_69 : decode b_M_statement 69 = .ok (.invokevirtual 95, 3) := by decide +kernel
theorem d_M_statement_72 : decode b_M_statement 72 = .ok (.invokestatic 106, 3) := by decide +kernel
theorem d_M_statement_75 : decode b_M_statement 75 = .ok (.iastore, 1) := by decide +kernel
theorem d_M_statement_76 : decode b_M_statement 76 = .ok (.aload_n 0, 1) := by decide +kernel
theorem d_M_statement_77 : decode b_M_statement 77 = .ok (.getfield 38, 3) := by decide +kernel
theorem d_M_statement_80 : decode b_M_statement 80 = .ok (.iload_n 1, 1) := by decide +kernel
theorem d_M_statement_81 : decode b_M_statement 81 = .ok (.iaload, 1) := by decide +kernel
theorem d_M_statement_82 : decode b_M_statement 82 = .ok (.ifCond .ge 5, 3) := by decide +kernel
theorem d_M_statement_85 : decode b_M_statement 85 = .ok (.iconst 0, 1) := by decide +kernel
theorem d_M_statement_86 : decode b_M_statement 86 = .ok (.ireturn, 1) := by decide +kernel
theorem d_M_statement_87 : decode b_M_statement 87 = .ok (.aload_n 0, 1) := by decide +kernel
theorem d_M_statement_88 : decode b_M_statement 88 = .ok (.dup, 1) := by decide +kernel
theorem d_M_statement_89 : decode b_M_statement 89 = .ok (.getfield 92, 3) := by decide +kernel
theorem d_M_statement_92 : decode b_M_statement 92 = .ok (.iconst 1, 1) := by decide +kernel
theorem d_M_statement_93 : decode b_M_statement 93 = .ok (.iadd, 1) := by decide +kernel
theorem d_M_statement_94 : decode b_M_statement 94 = .ok (.putfield 92, 3) := by decide +kernel
theorem d_M_statement_97 : decode b_M_statement 97 = .ok (.aload_n 0, 1) := by decide +kernel
theorem d_M_statement_98 : decode b_M_statement 98 = .ok (.getfield 41, 3) := by decide +kernel
theorem d_M_statement_101 : decode b_M_statement 101 = .ok (.iload_n 1, 1) := by decide +kernel
theorem d_M_statement_102 : decode b_M_statement 102 = .ok (.aload_n 0, 1) := by decide +kernel
theorem d_M_statement_103 : decode b_M_statement 103 = .ok (.iconst 3, 1) := by decide +kernel
theorem d_M_statement_104 : decode b_M_statement 104 = .ok (.invokevirtual 109, 3) := by decide +kernel
theorem d_M_statement_107 : decode b_M_statement 107 = .ok (.iastore, 1) := by decide +kernel
theorem d_M_statement_108 : decode b_M_statement 108 = .ok (.aload_n 0, 1) := by decide +kernel
theorem d_M_statement_109 : decode b_M_statement 109 = .ok (.getfield 41, 3) := by decide +kernel
theorem d_M_statement_112 : decode b_M_statement 112 = .ok (.iload_n 1, 1) := by decide +kernel
theorem d_M_statement_113 : decode b_M_statement 113 = .ok (.iaload, 1) := by decide +kernel
theorem d_M_statement_114 : decode b_M_statement 114 = .ok (.ifCond .ge 69, 3) := by decide +kernel
theorem d_M_statement_117 : decode b_M_statement 117 = .ok (.iconst 0, 1) := by decide +kernel
theorem d_M_statement_118 : decode b_M_statement 118 = .ok (.ireturn, 1) := by decide +kernel
theorem d_M_statement_119 : decode b_M_statement 119 = .ok (.aload_n 0, 1) := by decide +kernel
theorem d_M_statement_120 : decode b_M_statement 120 = .ok (.getfield 38, 3) := by decide +kernel
theorem d_M_statement_123 : decode b_M_statement 123 = .ok (.iload_n 1, 1) := by decide +kernel
theorem d_M_statement_124 : decode b_M_statement 124 = .ok (.aload_n 0, 1) := by decide +kernel
theorem d_M_statement_125 : decode b_M_statement 125 = .ok (.iload_n 2, 1) := by decide +kernel
theorem d_M_statement_126 : decode b_M_statement 126 = .ok (.bipush 108, 2) := by decide +kernel
theorem d_M_statement_128 : decode b_M_statement 128 = .ok (.if_icmp .ne 7, 3) := by decide +kernel
theorem d_M_statement_131 : decode b_M_statement 131 = .ok (.iconst 1, 1) := by decide +kernel
theorem d_M_statement_132 : decode b_M_statement 132 = .ok (.goto 4, 3) := by decide +kernel
theorem d_M_statement_135 : decode b_M_statement 135 = .ok (.iconst 3, 1) := by decide +kernel
theorem d_M_statement_136 : decode b_M_statement 136 = .ok (.invokevirtual 109, 3) := by decide +kernel
theorem d_M_statement_139 : decode b_M_statement 139 = .ok (.iastore, 1) := by decide +kernel
theorem d_M_statement_140 : decode b_M_statement 140 = .ok (.aload_n 0, 1) := by decide +kernel
theorem d_M_statement_141 : decode b_M_statement 141 = .ok (.getfield 38, 3) := by decide +kernel
theorem d_M_statement_144 : decode b_M_statement 144 = .ok (.iload_n 1, 1) := by decide +kernel
theorem d_M_statement_145 : decode b_M_statement 145 = .ok (.iaload, 1) := by decide +kernel
theorem d_M_statement_146 : decode b_M_statement 146 = .ok (.ifCond .ge 5, 3) := by decide +kernel
theorem d_M_statement_149 : decode b_M_statement 149 = .ok (.iconst 0, 1) := by decide +kernel
theorem d_M_statement_150 : decode b_M_statement 150 = .ok (.ireturn, 1) := by decide +kernel
theorem d_M_statement_151 : decode b_M_statement 151 = .ok (.aload_n 0, 1) := by decide +kernel
theorem d_M_statement_152 : decode b_M_statement 152 = .ok (.getfield 41, 3) := by decide +kernel
theorem d_M_statement_155 : decode b_M_statement 155 = .ok (.iload_n 1, 1) := by decide +kernel
theorem d_M_statement_156 : decode b_M_statement 156 = .ok (.iload_n 2, 1) := by decide +kernel
theorem d_M_statement_157 : decode b_M_statement 157 = .ok (.bipush 108, 2) := by decide +kernel
theorem d_M_statement_159 : decode b_M_statement 159 = .ok (.if_icmp .ne 11, 3) := by decide +kernel
theorem d_M_statement_162 : decode b_M_statement 162 = .ok (.aload_n 0, 1) := by decide +kernel
theorem d_M_statement_163 : decode b_M_statement 163 = .ok (.iconst 1, 1) := by decide +kernel
theorem d_M_statement_164 : decode b_M_statement 164 = .ok (.invokevirtual 109, 3) := by decide +kernel
theorem d_M_statement_167 : decode b_M_statement 167 = .ok (.goto 4, 3) := by decide +kernel
theorem d_M_statement_170 : decode b_M_statement 170 = .ok (.iconst 0, 1) := by decide +kernel
theorem d_M_statement_171 : decode b_M_statement 171 = .ok (.iastore, 1) := by decide +kernel
theorem d_M_statement_172 : decode b_M_statement 172 = .ok (.aload_n 0, 1) := by decide +kernel
theorem d_M_statement_173 : decode b_M_statement 173 = .ok (.getfield 41, 3) := by decide +kernel
theorem d_M_statement_176 : decode b_M_statement 176 = .ok (.iload_n 1, 1) := by decide +kernel
theorem d_M_statement_177 : decode b_M_statement 177 = .ok (.iaload, 1) := by decide +kernel
theorem d_M_statement_178 : decode b_M_statement 178 = .ok (.ifCond .ge 5, 3) := by decide +kernel
theorem d_M_statement_181 : decode b_M_statement 181 = .ok (.iconst 0, 1) := by decide +kernel
theorem d_M_statement_182 : decode b_M_statement 182 = .ok (.ireturn, 1) := by decide +kernel
theorem d_M_statement_183 : decode b_M_statement 183 = .ok (.aload_n 0, 1) := by decide +kernel
theorem d_M_statement_184 : decode b_M_statement 184 = .ok (.invokevirtual 95, 3) := by decide +kernel
theorem d_M_statement_187 : decode b_M_statement 187 = .ok (.bipush 59, 2) := by decide +kernel
theorem d_M_statement_189 : decode b_M_statement 189 = .ok (.if_icmp .eq 5, 3) := by decide +kernel
theorem d_M_statement_192 : decode b_M_statement 192 = .ok (.iconst 0, 1) := by decide +kernel
theorem d_M_statement_193 : decode b_M_statement 193 = .ok (.ireturn, 1) := by decide +kernel
theorem d_M_statement_194 : decode b_M_statement 194 = .ok (.aload_n 0, 1) := by decide +kernel
theorem d_M_statement_195 : decode b_M_statement 195 = .ok (.dup, 1) := by decide +kernel
theorem d_M_statement_196 : decode b_M_statement 196 = .ok (.getfield 92, 3) := by decide +kernel
theorem d_M_statement_199 : decode b_M_statement 199 = .ok (.iconst 1, 1) := by decide +kernel
theorem d_M_statement_200 : decode b_M_statement 200 = .ok (.iadd, 1) := by decide +kernel
theorem d_M_statement_201 : decode b_M_statement 201 = .ok (.putfield 92, 3) := by decide +kernel
theorem d_M_statement_204 : decode b_M_statement 204 = .ok (.iconst 1, 1) := by decide +kernel
theorem d_M_statement_205 : decode b_M_statement 205 = .ok (.ireturn, 1) := by decide +kernel
set_option maxHeartbeats 4000000 in
set_option maxRecDepth 100000 in
theorem c_M_statement {l : Launch} {D : va_G} {cI cJ cC : ClassId} (a_h a_h_refused a_h_kind a_h_sweets a_h_gives a_h_tape a_h_letter a_h_letterAt a_h_one a_h_two a_h_kept a_h_trail a_h_crumb a_h_nextCrumb a_h_goal a_h_start a_h_sits a_h_bestSits a_h_without a_h_row : Nat) (y_h_many : Int32) (y_h_odd : Int32) (y_h_step : Int32) (y_h_bag : Int32) (y_h_strokes : Int32) (y_h_gave : Int32) (y_h_threw : Int32) (y_h_hasImage : Int32) (y_h_isKeeping : Int32) (y_h_cursor : Int32) (y_h_beforeMany : Int32) (y_h_found : Int32) (y_h_lots : Int32) (y_h_rowMany : Int32) {z_h_taped : Int32} {z_h_at : Int32} {z_h_statements : Int32} {z_h_tape : (Nat → Int32)} {z_h_letter : (Nat → Int32)} {z_h_letterAt : (Nat → Int32)} {z_h_one : (Nat → Int32)} {z_h_two : (Nat → Int32)} {q : Int32 × Int32 × (Nat → Int32) × (Nat → Int32) × (Nat → Int32) × (Nat → Int32)} (hf : f_M_statement z_h_taped z_h_at z_h_statements z_h_tape z_h_letter z_h_letterAt z_h_one z_h_two = some q) : xI l y_M_statement b_M_statement 3 .boolean 2 45 D (tyK cI cJ cC) xE0 [.ref a_h] (w_M_statement cI cJ cC a_h a_h_refused a_h_kind a_h_sweets a_h_gives a_h_tape a_h_letter a_h_letterAt a_h_one a_h_two a_h_kept a_h_trail a_h_crumb a_h_nextCrumb a_h_goal a_h_start a_h_sits a_h_bestSits a_h_without a_h_row y_h_many y_h_odd y_h_step y_h_bag y_h_strokes y_h_gave y_h_threw y_h_hasImage y_h_isKeeping y_h_cursor y_h_beforeMany y_h_found y_h_lots y_h_rowMany z_h_taped z_h_at z_h_statements z_h_tape z_h_letter z_h_letterAt z_h_one z_h_two) q.1 (w_M_statement cI cJ cC a_h a_h_refused a_h_kind a_h_sweets a_h_gives a_h_tape a_h_letter a_h_letterAt a_h_one a_h_two a_h_kept a_h_trail a_h_crumb a_h_nextCrumb a_h_goal a_h_start a_h_sits a_h_bestSits a_h_without a_h_row y_h_many y_h_odd y_h_step y_h_bag y_h_strokes y_h_gave y_h_threw y_h_hasImage y_h_isKeeping y_h_cursor y_h_beforeMany y_h_found y_h_lots y_h_rowMany z_h_taped q.2.1 z_h_statements z_h_tape q.2.2.1 q.2.2.2.1 q.2.2.2.2.1 q.2.2.2.2.2) := by
  refine xI_of (by decide) (Nat.le_of_ble_eq_true rfl) ?_
  intro p e s m args below meth c A Q hx hb hml hown hT hA hP hD hK hS hE hret ls hl
  have hown : s.vm.findClass R_M = some m.cls := hown
  have hl : lv_has ls 3 [(0, .ref a_h)] := hl
  unfold f_M_statement at hf
  refine lv_aload_n hx hb d_M_statement_0 rfl (lv_at hl 0 rfl) ?_
  refine va_get hx hb hT i_M hown hK hP 0 rfl rfl 18 (Nat.le_of_ble_eq_true rfl) (hT _ k_776) (fun _ h => h) rfl d_M_statement_1 ?_
  refine lv_istore_n (lv' := [(1, .int z_h_statements), (0, .ref a_h)]) hx hb d_M_statement_4 rfl hl (by decide) rfl (fun ls hl => ?_)
  refine lv_aload_n hx hb d_M_statement_5 rfl (lv_at hl 1 rfl) ?_
  obtain ⟨q1, hq1, hf⟩ := io_b hf
  refine xcVI (wc := (w_M_next cI cJ cC a_h a_h_refused a_h_kind a_h_sweets a_h_gives a_h_tape a_h_letter a_h_letterAt a_h_one a_h_two a_h_kept a_h_trail a_h_crumb a_h_nextCrumb a_h_goal a_h_start a_h_sits a_h_bestSits a_h_without a_h_row y_h_many y_h_odd y_h_step y_h_bag y_h_strokes y_h_gave y_h_threw z_h_statements y_h_hasImage y_h_isKeeping y_h_cursor y_h_beforeMany y_h_found y_h_lots y_h_rowMany z_h_taped z_h_at z_h_tape)) (wc' := (w_M_next cI cJ cC a_h a_h_refused a_h_kind a_h_sweets a_h_gives a_h_tape a_h_letter a_h_letterAt a_h_one a_h_two a_h_kept a_h_trail a_h_crumb a_h_nextCrumb a_h_goal a_h_start a_h_sits a_h_bestSits a_h_without a_h_row y_h_many y_h_odd y_h_step y_h_bag y_h_strokes y_h_gave y_h_threw z_h_statements y_h_hasImage y_h_isKeeping y_h_cursor y_h_beforeMany y_h_found y_h_lots y_h_rowMany z_h_taped z_h_at z_h_tape)) (ws' := (w_M_statement cI cJ cC a_h a_h_refused a_h_kind a_h_sweets a_h_gives a_h_tape a_h_letter a_h_letterAt a_h_one a_h_two a_h_kept a_h_trail a_h_crumb a_h_nextCrumb a_h_goal a_h_start a_h_sits a_h_bestSits a_h_without a_h_row y_h_many y_h_odd y_h_step y_h_bag y_h_strokes y_h_gave y_h_threw y_h_hasImage y_h_isKeeping y_h_cursor y_h_beforeMany y_h_found y_h_lots y_h_rowMany z_h_taped z_h_at z_h_statements z_h_tape z_h_letter z_h_letterAt z_h_one z_h_two)) (As := []) (rest := []) hx hb hml hown hT (c_M_next (z_h_taped := z_h_taped) (z_h_at := z_h_at) (z_h_tape := z_h_tape) a_h a_h_refused a_h_kind a_h_sweets a_h_gives a_h_tape a_h_letter a_h_letterAt a_h_one a_h_two a_h_kept a_h_trail a_h_crumb a_h_nextCrumb a_h_goal a_h_start a_h_sits a_h_bestSits a_h_without a_h_row y_h_many y_h_odd y_h_step y_h_bag y_h_strokes y_h_gave y_h_threw z_h_statements y_h_hasImage y_h_isKeeping y_h_cursor y_h_beforeMany y_h_found y_h_lots y_h_rowMany hq1) k_886 k_888 ks_26 k_8 k_889 hd_M_next ⟨Nat.le_of_ble_eq_true rfl, Nat.le_of_ble_eq_true rfl⟩ xE0_ok trivial hA hK hP hD hS [0, 1] [2, 3, 4, 5] [4, 5, 0, 1, 2, 3] rfl rfl rfl rfl rfl rfl rfl rfl rfl rfl hl.1 rfl (Nat.le_of_ble_eq_true rfl) ⟨Nat.zero_le _, Nat.zero_le _⟩ d_M_statement_6 (fun H locs hP hD hS => ?_)
  refine lv_istore_n (lv' := [(2, .int q1), (1, .int z_h_statements), (0, .ref a_h)]) hx hb d_M_statement_9 rfl hl (by decide) rfl (fun ls hl => ?_)
  refine lv_iload_n hx hb d_M_statement_10 rfl (lv_at hl 0 rfl) ?_
  refine lv_bipush (v := 99) hx hb d_M_statement_11 (by decide) ?_
  refine lv_icmp_eq (tgt := 30) hx hb d_M_statement_13 (by decide) (fun c2 => ?_) (fun c2 => ?_)
  · have hf := io_t hf c2
    refine lv_aload_n hx hb d_M_statement_30 rfl (lv_at hl 2 rfl) ?_
    refine va_get hx hb hT i_M hown hK hP 0 rfl rfl 12 (Nat.le_of_ble_eq_true rfl) (hT _ k_770) (fun _ h => h) rfl d_M_statement_31 ?_
    refine lv_iload_n hx hb d_M_statement_34 rfl (lv_at hl 1 rfl) ?_
    refine lv_iload_n hx hb d_M_statement_35 rfl (lv_at hl 0 rfl) ?_
    obtain ⟨c3, hf⟩ := io_n hf
    refine x_iast hx hb hK hP hD hS 2 0 rfl rfl (j := z_h_statements.toNatClampNeg) rfl c3 d_M_statement_36 (fun H locs hP hD hS => ?_)
    have hP : va_P D classes (w_M_statement cI cJ cC a_h a_h_refused a_h_kind a_h_sweets a_h_gives a_h_tape a_h_letter a_h_letterAt a_h_one a_h_two a_h_kept a_h_trail a_h_crumb a_h_nextCrumb a_h_goal a_h_start a_h_sits a_h_bestSits a_h_without a_h_row y_h_many y_h_odd y_h_step y_h_bag y_h_strokes y_h_gave y_h_threw y_h_hasImage y_h_isKeeping y_h_cursor y_h_beforeMany y_h_found y_h_lots y_h_rowMany z_h_taped z_h_at z_h_statements z_h_tape (upd z_h_letter z_h_statements.toNatClampNeg q1) z_h_letterAt z_h_one z_h_two) H := hP
    have hD : va_D A (w_M_statement cI cJ cC a_h a_h_refused a_h_kind a_h_sweets a_h_gives a_h_tape a_h_letter a_h_letterAt a_h_one a_h_two a_h_kept a_h_trail a_h_crumb a_h_nextCrumb a_h_goal a_h_start a_h_sits a_h_bestSits a_h_without a_h_row y_h_many y_h_odd y_h_step y_h_bag y_h_strokes y_h_gave y_h_threw y_h_hasImage y_h_isKeeping y_h_cursor y_h_beforeMany y_h_found y_h_lots y_h_rowMany z_h_taped z_h_at z_h_statements z_h_tape (upd z_h_letter z_h_statements.toNatClampNeg q1) z_h_letterAt z_h_one z_h_two) := hD
    refine lv_aload_n hx hb d_M_statement_37 rfl (lv_at hl 2 rfl) ?_
    refine va_get hx hb hT i_M hown hK hP 0 rfl rfl 13 (Nat.le_of_ble_eq_true rfl) (hT _ k_771) (fun _ h => h) rfl d_M_statement_38 ?_
    refine lv_iload_n hx hb d_M_statement_41 rfl (lv_at hl 1 rfl) ?_
    refine lv_aload_n hx hb d_M_statement_42 rfl (lv_at hl 2 rfl) ?_
    refine va_get hx hb hT i_M hown hK hP 0 rfl rfl 17 (Nat.le_of_ble_eq_true rfl) (hT _ k_775) (fun _ h => h) rfl d_M_statement_43 ?_
    refine x_iast hx hb hK hP hD hS 3 0 rfl rfl (j := z_h_statements.toNatClampNeg) rfl c3 d_M_statement_46 (fun H locs hP hD hS => ?_)
    have hP : va_P D classes (w_M_statement cI cJ cC a_h a_h_refused a_h_kind a_h_sweets a_h_gives a_h_tape a_h_letter a_h_letterAt a_h_one a_h_two a_h_kept a_h_trail a_h_crumb a_h_nextCrumb a_h_goal a_h_start a_h_sits a_h_bestSits a_h_without a_h_row y_h_many y_h_odd y_h_step y_h_bag y_h_strokes y_h_gave y_h_threw y_h_hasImage y_h_isKeeping y_h_cursor y_h_beforeMany y_h_found y_h_lots y_h_rowMany z_h_taped z_h_at z_h_statements z_h_tape (upd z_h_letter z_h_statements.toNatClampNeg q1) (upd z_h_letterAt z_h_statements.toNatClampNeg z_h_at) z_h_one z_h_two) H := hP
    have hD : va_D A (w_M_statement cI cJ cC a_h a_h_refused a_h_kind a_h_sweets a_h_gives a_h_tape a_h_letter a_h_letterAt a_h_one a_h_two a_h_kept a_h_trail a_h_crumb a_h_nextCrumb a_h_goal a_h_start a_h_sits a_h_bestSits a_h_without a_h_row y_h_many y_h_odd y_h_step y_h_bag y_h_strokes y_h_gave y_h_threw y_h_hasImage y_h_isKeeping y_h_cursor y_h_beforeMany y_h_found y_h_lots y_h_rowMany z_h_taped z_h_at z_h_statements z_h_tape (upd z_h_letter z_h_statements.toNatClampNeg q1) (upd z_h_letterAt z_h_statements.toNatClampNeg z_h_at) z_h_one z_h_two) := hD
    refine lv_aload_n hx hb d_M_statement_47 rfl (lv_at hl 2 rfl) ?_
    refine lv_dup hx hb d_M_statement_48 rfl ?_
    refine va_get hx hb hT i_M hown hK hP 0 rfl rfl 17 (Nat.le_of_ble_eq_true rfl) (hT _ k_775) (fun _ h => h) rfl d_M_statement_49 ?_
    refine lv_iconst (v := 1) hx hb d_M_statement_52 (by decide) ?_
    refine lv_iadd hx hb d_M_statement_53 ?_
    refine va_put (ty := .int) hx hb hT i_M t_M t_M_ok n_M hown hK hP hD hS 0 rfl rfl 17 (Nat.le_of_ble_eq_true rfl) (hT _ k_775) (fun _ h => h) rfl rfl rfl rfl (Nat.le_of_ble_eq_true rfl) d_M_statement_54 (fun H locs hP hD hS => ?_)
    have hP : va_P D classes (w_M_statement cI cJ cC a_h a_h_refused a_h_kind a_h_sweets a_h_gives a_h_tape a_h_letter a_h_letterAt a_h_one a_h_two a_h_kept a_h_trail a_h_crumb a_h_nextCrumb a_h_goal a_h_start a_h_sits a_h_bestSits a_h_without a_h_row y_h_many y_h_odd y_h_step y_h_bag y_h_strokes y_h_gave y_h_threw y_h_hasImage y_h_isKeeping y_h_cursor y_h_beforeMany y_h_found y_h_lots y_h_rowMany z_h_taped (z_h_at + 1) z_h_statements z_h_tape (upd z_h_letter z_h_statements.toNatClampNeg q1) (upd z_h_letterAt z_h_statements.toNatClampNeg z_h_at) z_h_one z_h_two) H := hP
    have hD : va_D A (w_M_statement cI cJ cC a_h a_h_refused a_h_kind a_h_sweets a_h_gives a_h_tape a_h_letter a_h_letterAt a_h_one a_h_two a_h_kept a_h_trail a_h_crumb a_h_nextCrumb a_h_goal a_h_start a_h_sits a_h_bestSits a_h_without a_h_row y_h_many y_h_odd y_h_step y_h_bag y_h_strokes y_h_gave y_h_threw y_h_hasImage y_h_isKeeping y_h_cursor y_h_beforeMany y_h_found y_h_lots y_h_rowMany z_h_taped (z_h_at + 1) z_h_statements z_h_tape (upd z_h_letter z_h_statements.toNatClampNeg q1) (upd z_h_letterAt z_h_statements.toNatClampNeg z_h_at) z_h_one z_h_two) := hD
    refine lv_iload_n hx hb d_M_statement_57 rfl (lv_at hl 0 rfl) ?_
    refine lv_bipush (v := 99) hx hb d_M_statement_58 (by decide) ?_
    refine lv_icmp_ne (tgt := 119) hx hb d_M_statement_60 (by decide) (fun c => absurd c2 c) (fun _ => ?_)
    refine lv_aload_n hx hb d_M_statement_63 rfl (lv_at hl 2 rfl) ?_
    refine va_get hx hb hT i_M hown hK hP 0 rfl rfl 14 (Nat.le_of_ble_eq_true rfl) (hT _ k_772) (fun _ h => h) rfl d_M_statement_64 ?_
    refine lv_iload_n hx hb d_M_statement_67 rfl (lv_at hl 1 rfl) ?_
    refine lv_aload_n hx hb d_M_statement_68 rfl (lv_at hl 2 rfl) ?_
    obtain ⟨q4, hq4, hf⟩ := io_b hf
    refine xcVI (wc := (w_M_next cI cJ cC a_h a_h_refused a_h_kind a_h_sweets a_h_gives a_h_tape a_h_letter a_h_letterAt a_h_one a_h_two a_h_kept a_h_trail a_h_crumb a_h_nextCrumb a_h_goal a_h_start a_h_sits a_h_bestSits a_h_without a_h_row y_h_many y_h_odd y_h_step y_h_bag y_h_strokes y_h_gave y_h_threw z_h_statements y_h_hasImage y_h_isKeeping y_h_cursor y_h_beforeMany y_h_found y_h_lots y_h_rowMany z_h_taped (z_h_at + 1) z_h_tape)) (wc' := (w_M_next cI cJ cC a_h a_h_refused a_h_kind a_h_sweets a_h_gives a_h_tape a_h_letter a_h_letterAt a_h_one a_h_two a_h_kept a_h_trail a_h_crumb a_h_nextCrumb a_h_goal a_h_start a_h_sits a_h_bestSits a_h_without a_h_row y_h_many y_h_odd y_h_step y_h_bag y_h_strokes y_h_gave y_h_threw z_h_statements y_h_hasImage y_h_isKeeping y_h_cursor y_h_beforeMany y_h_found y_h_lots y_h_rowMany z_h_taped (z_h_at + 1) z_h_tape)) (ws' := (w_M_statement cI cJ cC a_h a_h_refused a_h_kind a_h_sweets a_h_gives a_h_tape a_h_letter a_h_letterAt a_h_one a_h_two a_h_kept a_h_trail a_h_crumb a_h_nextCrumb a_h_goal a_h_start a_h_sits a_h_bestSits a_h_without a_h_row y_h_many y_h_odd y_h_step y_h_bag y_h_strokes y_h_gave y_h_threw y_h_hasImage y_h_isKeeping y_h_cursor y_h_beforeMany y_h_found y_h_lots y_h_rowMany z_h_taped (z_h_at + 1) z_h_statements z_h_tape (upd z_h_letter z_h_statements.toNatClampNeg q1) (upd z_h_letterAt z_h_statements.toNatClampNeg z_h_at) z_h_one z_h_two)) (As := []) (rest := [.int z_h_statements, .ref a_h_one]) hx hb hml hown hT (c_M_next (z_h_taped := z_h_taped) (z_h_at := (z_h_at + 1)) (z_h_tape := z_h_tape) a_h a_h_refused a_h_kind a_h_sweets a_h_gives a_h_tape a_h_letter a_h_letterAt a_h_one a_h_two a_h_kept a_h_trail a_h_crumb a_h_nextCrumb a_h_goal a_h_start a_h_sits a_h_bestSits a_h_without a_h_row y_h_many y_h_odd y_h_step y_h_bag y_h_strokes y_h_gave y_h_threw z_h_statements y_h_hasImage y_h_isKeeping y_h_cursor y_h_beforeMany y_h_found y_h_lots y_h_rowMany hq4) k_886 k_888 ks_26 k_8 k_889 hd_M_next ⟨Nat.le_of_ble_eq_true rfl, Nat.le_of_ble_eq_true rfl⟩ xE0_ok trivial hA hK hP hD hS [0, 1] [2, 3, 4, 5] [4, 5, 0, 1, 2, 3] rfl rfl rfl rfl rfl rfl rfl rfl rfl rfl hl.1 rfl (Nat.le_of_ble_eq_true rfl) ⟨Nat.zero_le _, Nat.zero_le _⟩ d_M_statement_69 (fun H locs hP hD hS => ?_)
    obtain ⟨q5, hq5, hf⟩ := io_b hf
    refine xcSI (wc := []) (wc' := []) (ws' := (w_M_statement cI cJ cC a_h a_h_refused a_h_kind a_h_sweets a_h_gives a_h_tape a_h_letter a_h_letterAt a_h_one a_h_two a_h_kept a_h_trail a_h_crumb a_h_nextCrumb a_h_goal a_h_start a_h_sits a_h_bestSits a_h_without a_h_row y_h_many y_h_odd y_h_step y_h_bag y_h_strokes y_h_gave y_h_threw y_h_hasImage y_h_isKeeping y_h_cursor y_h_beforeMany y_h_found y_h_lots y_h_rowMany z_h_taped (z_h_at + 1) z_h_statements z_h_tape (upd z_h_letter z_h_statements.toNatClampNeg q1) (upd z_h_letterAt z_h_statements.toNatClampNeg z_h_at) z_h_one z_h_two)) (As := [.int q4]) (rest := [.int z_h_statements, .ref a_h_one]) hx hb hml hown hT (c_M_kindOf hq5) k_890 k_891 k_8 k_892 hd_M_kindOf ⟨Nat.le_of_ble_eq_true rfl, Nat.le_of_ble_eq_true rfl⟩ xE0_ok trivial hA hK hP hD hS [] [0, 1, 2, 3, 4, 5] [0, 1, 2, 3, 4, 5] rfl rfl rfl rfl rfl rfl rfl hl.1 rfl (Nat.le_of_ble_eq_true rfl) ⟨Nat.zero_le _, Nat.zero_le _⟩ d_M_statement_72 (fun H locs hP hD hS => ?_)
    refine x_iast hx hb hK hP hD hS 4 0 rfl rfl (j := z_h_statements.toNatClampNeg) rfl c3 d_M_statement_75 (fun H locs hP hD hS => ?_)
    have hP : va_P D classes (w_M_statement cI cJ cC a_h a_h_refused a_h_kind a_h_sweets a_h_gives a_h_tape a_h_letter a_h_letterAt a_h_one a_h_two a_h_kept a_h_trail a_h_crumb a_h_nextCrumb a_h_goal a_h_start a_h_sits a_h_bestSits a_h_without a_h_row y_h_many y_h_odd y_h_step y_h_bag y_h_strokes y_h_gave y_h_threw y_h_hasImage y_h_isKeeping y_h_cursor y_h_beforeMany y_h_found y_h_lots y_h_rowMany z_h_taped (z_h_at + 1) z_h_statements z_h_tape (upd z_h_letter z_h_statements.toNatClampNeg q1) (upd z_h_letterAt z_h_statements.toNatClampNeg z_h_at) (upd z_h_one z_h_statements.toNatClampNeg q5) z_h_two) H := hP
    have hD : va_D A (w_M_statement cI cJ cC a_h a_h_refused a_h_kind a_h_sweets a_h_gives a_h_tape a_h_letter a_h_letterAt a_h_one a_h_two a_h_kept a_h_trail a_h_crumb a_h_nextCrumb a_h_goal a_h_start a_h_sits a_h_bestSits a_h_without a_h_row y_h_many y_h_odd y_h_step y_h_bag y_h_strokes y_h_gave y_h_threw y_h_hasImage y_h_isKeeping y_h_cursor y_h_beforeMany y_h_found y_h_lots y_h_rowMany z_h_taped (z_h_at + 1) z_h_statements z_h_tape (upd z_h_letter z_h_statements.toNatClampNeg q1) (upd z_h_letterAt z_h_statements.toNatClampNeg z_h_at) (upd z_h_one z_h_statements.toNatClampNeg q5) z_h_two) := hD
    refine lv_aload_n hx hb d_M_statement_76 rfl (lv_at hl 2 rfl) ?_
    refine va_get hx hb hT i_M hown hK hP 0 rfl rfl 14 (Nat.le_of_ble_eq_true rfl) (hT _ k_772) (fun _ h => h) rfl d_M_statement_77 ?_
    refine lv_iload_n hx hb d_M_statement_80 rfl (lv_at hl 1 rfl) ?_
    refine x_iald hx hb hK hP 4 0 rfl rfl (j := z_h_statements.toNatClampNeg) rfl c3 d_M_statement_81 ?_
    refine lv_if_ge (tgt := 87) hx hb d_M_statement_82 (by decide) (fun c6 => ?_) (fun c6 => ?_)
    · have hf := io_t hf c6
      refine lv_aload_n hx hb d_M_statement_87 rfl (lv_at hl 2 rfl) ?_
      refine lv_dup hx hb d_M_statement_88 rfl ?_
      refine va_get hx hb hT i_M hown hK hP 0 rfl rfl 17 (Nat.le_of_ble_eq_true rfl) (hT _ k_775) (fun _ h => h) rfl d_M_statement_89 ?_
      refine lv_iconst (v := 1) hx hb d_M_statement_92 (by decide) ?_
      refine lv_iadd hx hb d_M_statement_93 ?_
      refine va_put (ty := .int) hx hb hT i_M t_M t_M_ok n_M hown hK hP hD hS 0 rfl rfl 17 (Nat.le_of_ble_eq_true rfl) (hT _ k_775) (fun _ h => h) rfl rfl rfl rfl (Nat.le_of_ble_eq_true rfl) d_M_statement_94 (fun H locs hP hD hS => ?_)
      have hP : va_P D classes (w_M_statement cI cJ cC a_h a_h_refused a_h_kind a_h_sweets a_h_gives a_h_tape a_h_letter a_h_letterAt a_h_one a_h_two a_h_kept a_h_trail a_h_crumb a_h_nextCrumb a_h_goal a_h_start a_h_sits a_h_bestSits a_h_without a_h_row y_h_many y_h_odd y_h_step y_h_bag y_h_strokes y_h_gave y_h_threw y_h_hasImage y_h_isKeeping y_h_cursor y_h_beforeMany y_h_found y_h_lots y_h_rowMany z_h_taped ((z_h_at + 1) + 1) z_h_statements z_h_tape (upd z_h_letter z_h_statements.toNatClampNeg q1) (upd z_h_letterAt z_h_statements.toNatClampNeg z_h_at) (upd z_h_one z_h_statements.toNatClampNeg q5) z_h_two) H := hP
      have hD : va_D A (w_M_statement cI cJ cC a_h a_h_refused a_h_kind a_h_sweets a_h_gives a_h_tape a_h_letter a_h_letterAt a_h_one a_h_two a_h_kept a_h_trail a_h_crumb a_h_nextCrumb a_h_goal a_h_start a_h_sits a_h_bestSits a_h_without a_h_row y_h_many y_h_odd y_h_step y_h_bag y_h_strokes y_h_gave y_h_threw y_h_hasImage y_h_isKeeping y_h_cursor y_h_beforeMany y_h_found y_h_lots y_h_rowMany z_h_taped ((z_h_at + 1) + 1) z_h_statements z_h_tape (upd z_h_letter z_h_statements.toNatClampNeg q1) (upd z_h_letterAt z_h_statements.toNatClampNeg z_h_at) (upd z_h_one z_h_statements.toNatClampNeg q5) z_h_two) := hD
      refine lv_aload_n hx hb d_M_statement_97 rfl (lv_at hl 2 rfl) ?_
      refine va_get hx hb hT i_M hown hK hP 0 rfl rfl 15 (Nat.le_of_ble_eq_true rfl) (hT _ k_773) (fun _ h => h) rfl d_M_statement_98 ?_
      refine lv_iload_n hx hb d_M_statement_101 rfl (lv_at hl 1 rfl) ?_
      refine lv_aload_n hx hb d_M_statement_102 rfl (lv_at hl 2 rfl) ?_
      refine lv_iconst (v := 3) hx hb d_M_statement_103 (by decide) ?_
      obtain ⟨q7, hq7, hf⟩ := io_b hf
      refine xcVI (wc := (w_M_number cI cJ cC a_h a_h_refused a_h_kind a_h_sweets a_h_gives a_h_tape a_h_letter a_h_letterAt a_h_one a_h_two a_h_kept a_h_trail a_h_crumb a_h_nextCrumb a_h_goal a_h_start a_h_sits a_h_bestSits a_h_without a_h_row y_h_many y_h_odd y_h_step y_h_bag y_h_strokes y_h_gave y_h_threw z_h_statements y_h_hasImage y_h_isKeeping y_h_cursor y_h_beforeMany y_h_found y_h_lots y_h_rowMany z_h_taped ((z_h_at + 1) + 1) z_h_tape)) (wc' := (w_M_number cI cJ cC a_h a_h_refused a_h_kind a_h_sweets a_h_gives a_h_tape a_h_letter a_h_letterAt a_h_one a_h_two a_h_kept a_h_trail a_h_crumb a_h_nextCrumb a_h_goal a_h_start a_h_sits a_h_bestSits a_h_without a_h_row y_h_many y_h_odd y_h_step y_h_bag y_h_strokes y_h_gave y_h_threw z_h_statements y_h_hasImage y_h_isKeeping y_h_cursor y_h_beforeMany y_h_found y_h_lots y_h_rowMany z_h_taped q7.2 z_h_tape)) (ws' := (w_M_statement cI cJ cC a_h a_h_refused a_h_kind a_h_sweets a_h_gives a_h_tape a_h_letter a_h_letterAt a_h_one a_h_two a_h_kept a_h_trail a_h_crumb a_h_nextCrumb a_h_goal a_h_start a_h_sits a_h_bestSits a_h_without a_h_row y_h_many y_h_odd y_h_step y_h_bag y_h_strokes y_h_gave y_h_threw y_h_hasImage y_h_isKeeping y_h_cursor y_h_beforeMany y_h_found y_h_lots y_h_rowMany z_h_taped q7.2 z_h_statements z_h_tape (upd z_h_letter z_h_statements.toNatClampNeg q1) (upd z_h_letterAt z_h_statements.toNatClampNeg z_h_at) (upd z_h_one z_h_statements.toNatClampNeg q5) z_h_two)) (As := [.int 3]) (rest := [.int z_h_statements, .ref a_h_two]) hx hb hml hown hT (c_M_number (z_h_taped := z_h_taped) (z_h_at := ((z_h_at + 1) + 1)) (z_h_tape := z_h_tape) a_h a_h_refused a_h_kind a_h_sweets a_h_gives a_h_tape a_h_letter a_h_letterAt a_h_one a_h_two a_h_kept a_h_trail a_h_crumb a_h_nextCrumb a_h_goal a_h_start a_h_sits a_h_bestSits a_h_without a_h_row y_h_many y_h_odd y_h_step y_h_bag y_h_strokes y_h_gave y_h_threw z_h_statements y_h_hasImage y_h_isKeeping y_h_cursor y_h_beforeMany y_h_found y_h_lots y_h_rowMany hq7) k_893 k_895 ks_27 k_8 k_896 hd_M_number ⟨Nat.le_of_ble_eq_true rfl, Nat.le_of_ble_eq_true rfl⟩ xE0_ok trivial hA hK hP hD hS [0, 1] [2, 3, 4, 5] [4, 5, 0, 1, 2, 3] rfl rfl rfl rfl rfl rfl rfl rfl rfl rfl hl.1 rfl (Nat.le_of_ble_eq_true rfl) ⟨Nat.zero_le _, Nat.zero_le _⟩ d_M_statement_104 (fun H locs hP hD hS => ?_)
      refine x_iast hx hb hK hP hD hS 5 0 rfl rfl (j := z_h_statements.toNatClampNeg) rfl c3 d_M_statement_107 (fun H locs hP hD hS => ?_)
      have hP : va_P D classes (w_M_statement cI cJ cC a_h a_h_refused a_h_kind a_h_sweets a_h_gives a_h_tape a_h_letter a_h_letterAt a_h_one a_h_two a_h_kept a_h_trail a_h_crumb a_h_nextCrumb a_h_goal a_h_start a_h_sits a_h_bestSits a_h_without a_h_row y_h_many y_h_odd y_h_step y_h_bag y_h_strokes y_h_gave y_h_threw y_h_hasImage y_h_isKeeping y_h_cursor y_h_beforeMany y_h_found y_h_lots y_h_rowMany z_h_taped q7.2 z_h_statements z_h_tape (upd z_h_letter z_h_statements.toNatClampNeg q1) (upd z_h_letterAt z_h_statements.toNatClampNeg z_h_at) (upd z_h_one z_h_statements.toNatClampNeg q5) (upd z_h_two z_h_statements.toNatClampNeg q7.1)) H := hP
      have hD : va_D A (w_M_statement cI cJ cC a_h a_h_refused a_h_kind a_h_sweets a_h_gives a_h_tape a_h_letter a_h_letterAt a_h_one a_h_two a_h_kept a_h_trail a_h_crumb a_h_nextCrumb a_h_goal a_h_start a_h_sits a_h_bestSits a_h_without a_h_row y_h_many y_h_odd y_h_step y_h_bag y_h_strokes y_h_gave y_h_threw y_h_hasImage y_h_isKeeping y_h_cursor y_h_beforeMany y_h_found y_h_lots y_h_rowMany z_h_taped q7.2 z_h_statements z_h_tape (upd z_h_letter z_h_statements.toNatClampNeg q1) (upd z_h_letterAt z_h_statements.toNatClampNeg z_h_at) (upd z_h_one z_h_statements.toNatClampNeg q5) (upd z_h_two z_h_statements.toNatClampNeg q7.1)) := hD
      refine lv_aload_n hx hb d_M_statement_108 rfl (lv_at hl 2 rfl) ?_
      refine va_get hx hb hT i_M hown hK hP 0 rfl rfl 15 (Nat.le_of_ble_eq_true rfl) (hT _ k_773) (fun _ h => h) rfl d_M_statement_109 ?_
      refine lv_iload_n hx hb d_M_statement_112 rfl (lv_at hl 1 rfl) ?_
      refine x_iald hx hb hK hP 5 0 rfl rfl (j := z_h_statements.toNatClampNeg) rfl c3 d_M_statement_113 ?_
      refine lv_if_ge (tgt := 183) hx hb d_M_statement_114 (by decide) (fun c8 => ?_) (fun c8 => ?_)
      · have hf := io_t hf c8
        refine lv_aload_n hx hb d_M_statement_183 rfl (lv_at hl 2 rfl) ?_
        obtain ⟨q9, hq9, hf⟩ := io_b hf
        refine xcVI (wc := (w_M_next cI cJ cC a_h a_h_refused a_h_kind a_h_sweets a_h_gives a_h_tape a_h_letter a_h_letterAt a_h_one a_h_two a_h_kept a_h_trail a_h_crumb a_h_nextCrumb a_h_goal a_h_start a_h_sits a_h_bestSits a_h_without a_h_row y_h_many y_h_odd y_h_step y_h_bag y_h_strokes y_h_gave y_h_threw z_h_statements y_h_hasImage y_h_isKeeping y_h_cursor y_h_beforeMany y_h_found y_h_lots y_h_rowMany z_h_taped q7.2 z_h_tape)) (wc' := (w_M_next cI cJ cC a_h a_h_refused a_h_kind a_h_sweets a_h_gives a_h_tape a_h_letter a_h_letterAt a_h_one a_h_two a_h_kept a_h_trail a_h_crumb a_h_nextCrumb a_h_goal a_h_start a_h_sits a_h_bestSits a_h_without a_h_row y_h_many y_h_odd y_h_step y_h_bag y_h_strokes y_h_gave y_h_threw z_h_statements y_h_hasImage y_h_isKeeping y_h_cursor y_h_beforeMany y_h_found y_h_lots y_h_rowMany z_h_taped q7.2 z_h_tape)) (ws' := (w_M_statement cI cJ cC a_h a_h_refused a_h_kind a_h_sweets a_h_gives a_h_tape a_h_letter a_h_letterAt a_h_one a_h_two a_h_kept a_h_trail a_h_crumb a_h_nextCrumb a_h_goal a_h_start a_h_sits a_h_bestSits a_h_without a_h_row y_h_many y_h_odd y_h_step y_h_bag y_h_strokes y_h_gave y_h_threw y_h_hasImage y_h_isKeeping y_h_cursor y_h_beforeMany y_h_found y_h_lots y_h_rowMany z_h_taped q7.2 z_h_statements z_h_tape (upd z_h_letter z_h_statements.toNatClampNeg q1) (upd z_h_letterAt z_h_statements.toNatClampNeg z_h_at) (upd z_h_one z_h_statements.toNatClampNeg q5) (upd z_h_two z_h_statements.toNatClampNeg q7.1))) (As := []) (rest := []) hx hb hml hown hT (c_M_next (z_h_taped := z_h_taped) (z_h_at := q7.2) (z_h_tape := z_h_tape) a_h a_h_refused a_h_kind a_h_sweets a_h_gives a_h_tape a_h_letter a_h_letterAt a_h_one a_h_two a_h_kept a_h_trail a_h_crumb a_h_nextCrumb a_h_goal a_h_start a_h_sits a_h_bestSits a_h_without a_h_row y_h_many y_h_odd y_h_step y_h_bag y_h_strokes y_h_gave y_h_threw z_h_statements y_h_hasImage y_h_isKeeping y_h_cursor y_h_beforeMany y_h_found y_h_lots y_h_rowMany hq9) k_886 k_888 ks_26 k_8 k_889 hd_M_next ⟨Nat.le_of_ble_eq_true rfl, Nat.le_of_ble_eq_true rfl⟩ xE0_ok trivial hA hK hP hD hS [0, 1] [2, 3, 4, 5] [4, 5, 0, 1, 2, 3] rfl rfl rfl rfl rfl rfl rfl rfl rfl rfl hl.1 rfl (Nat.le_of_ble_eq_true rfl) ⟨Nat.zero_le _, Nat.zero_le _⟩ d_M_statement_184 (fun H locs hP hD hS => ?_)
        refine lv_bipush (v := 59) hx hb d_M_statement_187 (by decide) ?_
        refine lv_icmp_eq (tgt := 194) hx hb d_M_statement_189 (by decide) (fun c10 => ?_) (fun c10 => ?_)
        · have hf := io_t hf c10
          refine lv_aload_n hx hb d_M_statement_194 rfl (lv_at hl 2 rfl) ?_
          refine lv_dup hx hb d_M_statement_195 rfl ?_
          refine va_get hx hb hT i_M hown hK hP 0 rfl rfl 17 (Nat.le_of_ble_eq_true rfl) (hT _ k_775) (fun _ h => h) rfl d_M_statement_196 ?_
          refine lv_iconst (v := 1) hx hb d_M_statement_199 (by decide) ?_
          refine lv_iadd hx hb d_M_statement_200 ?_
          refine va_put (ty := .int) hx hb hT i_M t_M t_M_ok n_M hown hK hP hD hS 0 rfl rfl 17 (Nat.le_of_ble_eq_true rfl) (hT _ k_775) (fun _ h => h) rfl rfl rfl rfl (Nat.le_of_ble_eq_true rfl) d_M_statement_201 (fun H locs hP hD hS => ?_)
          have hP : va_P D classes (w_M_statement cI cJ cC a_h a_h_refused a_h_kind a_h_sweets a_h_gives a_h_tape a_h_letter a_h_letterAt a_h_one a_h_two a_h_kept a_h_trail a_h_crumb a_h_nextCrumb a_h_goal a_h_start a_h_sits a_h_bestSits a_h_without a_h_row y_h_many y_h_odd y_h_step y_h_bag y_h_strokes y_h_gave y_h_threw y_h_hasImage y_h_isKeeping y_h_cursor y_h_beforeMany y_h_found y_h_lots y_h_rowMany z_h_taped (q7.2 + 1) z_h_statements z_h_tape (upd z_h_letter z_h_statements.toNatClampNeg q1) (upd z_h_letterAt z_h_statements.toNatClampNeg z_h_at) (upd z_h_one z_h_statements.toNatClampNeg q5) (upd z_h_two z_h_statements.toNatClampNeg q7.1)) H := hP
          have hD : va_D A (w_M_statement cI cJ cC a_h a_h_refused a_h_kind a_h_sweets a_h_gives a_h_tape a_h_letter a_h_letterAt a_h_one a_h_two a_h_kept a_h_trail a_h_crumb a_h_nextCrumb a_h_goal a_h_start a_h_sits a_h_bestSits a_h_without a_h_row y_h_many y_h_odd y_h_step y_h_bag y_h_strokes y_h_gave y_h_threw y_h_hasImage y_h_isKeeping y_h_cursor y_h_beforeMany y_h_found y_h_lots y_h_rowMany z_h_taped (q7.2 + 1) z_h_statements z_h_tape (upd z_h_letter z_h_statements.toNatClampNeg q1) (upd z_h_letterAt z_h_statements.toNatClampNeg z_h_at) (upd z_h_one z_h_statements.toNatClampNeg q5) (upd z_h_two z_h_statements.toNatClampNeg q7.1)) := hD
          refine lv_iconst (v := 1) hx hb d_M_statement_204 (by decide) ?_
          have hq := Option.some.inj hf
          subst hq
          exact hret _ _ _ _ _ d_M_statement_205 (by decide) rfl hP hD hS
        · have hf := io_f hf c10
          refine lv_iconst (v := 0) hx hb d_M_statement_192 (by decide) ?_
          have hq := Option.some.inj hf
          subst hq
          exact hret _ _ _ _ _ d_M_statement_193 (by decide) rfl hP hD hS
      · have hf := io_f hf c8
        refine lv_iconst (v := 0) hx hb d_M_statement_117 (by decide) ?_
        have hq := Option.some.inj hf
        subst hq
        exact hret _ _ _ _ _ d_M_statement_118 (by decide) rfl hP hD hS
    · have hf := io_f hf c6
      refine lv_iconst (v := 0) hx hb d_M_statement_85 (by decide) ?_
      have hq := Option.some.inj hf
      subst hq
      exact hret _ _ _ _ _ d_M_statement_86 (by decide) rfl hP hD hS
  · have hf := io_f hf c2
    refine lv_iload_n hx hb d_M_statement_16 rfl (lv_at hl 0 rfl) ?_
    refine lv_bipush (v := 108) hx hb d_M_statement_17 (by decide) ?_
    refine lv_icmp_eq (tgt := 30) hx hb d_M_statement_19 (by decide) (fun c11 => ?_) (fun c11 => ?_)
    · have hf := io_t hf c11
      refine lv_aload_n hx hb d_M_statement_30 rfl (lv_at hl 2 rfl) ?_
      refine va_get hx hb hT i_M hown hK hP 0 rfl rfl 12 (Nat.le_of_ble_eq_true rfl) (hT _ k_770) (fun _ h => h) rfl d_M_statement_31 ?_
      refine lv_iload_n hx hb d_M_statement_34 rfl (lv_at hl 1 rfl) ?_
      refine lv_iload_n hx hb d_M_statement_35 rfl (lv_at hl 0 rfl) ?_
      obtain ⟨c12, hf⟩ := io_n hf
      refine x_iast hx hb hK hP hD hS 2 0 rfl rfl (j := z_h_statements.toNatClampNeg) rfl c12 d_M_statement_36 (fun H locs hP hD hS => ?_)
      have hP : va_P D classes (w_M_statement cI cJ cC a_h a_h_refused a_h_kind a_h_sweets a_h_gives a_h_tape a_h_letter a_h_letterAt a_h_one a_h_two a_h_kept a_h_trail a_h_crumb a_h_nextCrumb a_h_goal a_h_start a_h_sits a_h_bestSits a_h_without a_h_row y_h_many y_h_odd y_h_step y_h_bag y_h_strokes y_h_gave y_h_threw y_h_hasImage y_h_isKeeping y_h_cursor y_h_beforeMany y_h_found y_h_lots y_h_rowMany z_h_taped z_h_at z_h_statements z_h_tape (upd z_h_letter z_h_statements.toNatClampNeg q1) z_h_letterAt z_h_one z_h_two) H := hP
      have hD : va_D A (w_M_statement cI cJ cC a_h a_h_refused a_h_kind a_h_sweets a_h_gives a_h_tape a_h_letter a_h_letterAt a_h_one a_h_two a_h_kept a_h_trail a_h_crumb a_h_nextCrumb a_h_goal a_h_start a_h_sits a_h_bestSits a_h_without a_h_row y_h_many y_h_odd y_h_step y_h_bag y_h_strokes y_h_gave y_h_threw y_h_hasImage y_h_isKeeping y_h_cursor y_h_beforeMany y_h_found y_h_lots y_h_rowMany z_h_taped z_h_at z_h_statements z_h_tape (upd z_h_letter z_h_statements.toNatClampNeg q1) z_h_letterAt z_h_one z_h_two) := hD
      refine lv_aload_n hx hb d_M_statement_37 rfl (lv_at hl 2 rfl) ?_
      refine va_get hx hb hT i_M hown hK hP 0 rfl rfl 13 (Nat.le_of_ble_eq_true rfl) (hT _ k_771) (fun _ h => h) rfl d_M_statement_38 ?_
      refine lv_iload_n hx hb d_M_statement_41 rfl (lv_at hl 1 rfl) ?_
      refine lv_aload_n hx hb d_M_statement_42 rfl (lv_at hl 2 rfl) ?_
      refine va_get hx hb hT i_M hown hK hP 0 rfl rfl 17 (Nat.le_of_ble_eq_true rfl) (hT _ k_775) (fun _ h => h) rfl d_M_statement_43 ?_
      refine x_iast hx hb hK hP hD hS 3 0 rfl rfl (j := z_h_statements.toNatClampNeg) rfl c12 d_M_statement_46 (fun H locs hP hD hS => ?_)
      have hP : va_P D classes (w_M_statement cI cJ cC a_h a_h_refused a_h_kind a_h_sweets a_h_gives a_h_tape a_h_letter a_h_letterAt a_h_one a_h_two a_h_kept a_h_trail a_h_crumb a_h_nextCrumb a_h_goal a_h_start a_h_sits a_h_bestSits a_h_without a_h_row y_h_many y_h_odd y_h_step y_h_bag y_h_strokes y_h_gave y_h_threw y_h_hasImage y_h_isKeeping y_h_cursor y_h_beforeMany y_h_found y_h_lots y_h_rowMany z_h_taped z_h_at z_h_statements z_h_tape (upd z_h_letter z_h_statements.toNatClampNeg q1) (upd z_h_letterAt z_h_statements.toNatClampNeg z_h_at) z_h_one z_h_two) H := hP
      have hD : va_D A (w_M_statement cI cJ cC a_h a_h_refused a_h_kind a_h_sweets a_h_gives a_h_tape a_h_letter a_h_letterAt a_h_one a_h_two a_h_kept a_h_trail a_h_crumb a_h_nextCrumb a_h_goal a_h_start a_h_sits a_h_bestSits a_h_without a_h_row y_h_many y_h_odd y_h_step y_h_bag y_h_strokes y_h_gave y_h_threw y_h_hasImage y_h_isKeeping y_h_cursor y_h_beforeMany y_h_found y_h_lots y_h_rowMany z_h_taped z_h_at z_h_statements z_h_tape (upd z_h_letter z_h_statements.toNatClampNeg q1) (upd z_h_letterAt z_h_statements.toNatClampNeg z_h_at) z_h_one z_h_two) := hD
      refine lv_aload_n hx hb d_M_statement_47 rfl (lv_at hl 2 rfl) ?_
      refine lv_dup hx hb d_M_statement_48 rfl ?_
      refine va_get hx hb hT i_M hown hK hP 0 rfl rfl 17 (Nat.le_of_ble_eq_true rfl) (hT _ k_775) (fun _ h => h) rfl d_M_statement_49 ?_
      refine lv_iconst (v := 1) hx hb d_M_statement_52 (by decide) ?_
      refine lv_iadd hx hb d_M_statement_53 ?_
      refine va_put (ty := .int) hx hb hT i_M t_M t_M_ok n_M hown hK hP hD hS 0 rfl rfl 17 (Nat.le_of_ble_eq_true rfl) (hT _ k_775) (fun _ h => h) rfl rfl rfl rfl (Nat.le_of_ble_eq_true rfl) d_M_statement_54 (fun H locs hP hD hS => ?_)
      have hP : va_P D classes (w_M_statement cI cJ cC a_h a_h_refused a_h_kind a_h_sweets a_h_gives a_h_tape a_h_letter a_h_letterAt a_h_one a_h_two a_h_kept a_h_trail a_h_crumb a_h_nextCrumb a_h_goal a_h_start a_h_sits a_h_bestSits a_h_without a_h_row y_h_many y_h_odd y_h_step y_h_bag y_h_strokes y_h_gave y_h_threw y_h_hasImage y_h_isKeeping y_h_cursor y_h_beforeMany y_h_found y_h_lots y_h_rowMany z_h_taped (z_h_at + 1) z_h_statements z_h_tape (upd z_h_letter z_h_statements.toNatClampNeg q1) (upd z_h_letterAt z_h_statements.toNatClampNeg z_h_at) z_h_one z_h_two) H := hP
      have hD : va_D A (w_M_statement cI cJ cC a_h a_h_refused a_h_kind a_h_sweets a_h_gives a_h_tape a_h_letter a_h_letterAt a_h_one a_h_two a_h_kept a_h_trail a_h_crumb a_h_nextCrumb a_h_goal a_h_start a_h_sits a_h_bestSits a_h_without a_h_row y_h_many y_h_odd y_h_step y_h_bag y_h_strokes y_h_gave y_h_threw y_h_hasImage y_h_isKeeping y_h_cursor y_h_beforeMany y_h_found y_h_lots y_h_rowMany z_h_taped (z_h_at + 1) z_h_statements z_h_tape (upd z_h_letter z_h_statements.toNatClampNeg q1) (upd z_h_letterAt z_h_statements.toNatClampNeg z_h_at) z_h_one z_h_two) := hD
      refine lv_iload_n hx hb d_M_statement_57 rfl (lv_at hl 0 rfl) ?_
      refine lv_bipush (v := 99) hx hb d_M_statement_58 (by decide) ?_
      refine lv_icmp_ne (tgt := 119) hx hb d_M_statement_60 (by decide) (fun _ => ?_) (fun c => absurd c (show ¬ q1 = 99 from fun z => absurd (c11.symm.trans z) (by decide)))
      refine lv_aload_n hx hb d_M_statement_119 rfl (lv_at hl 2 rfl) ?_
      refine va_get hx hb hT i_M hown hK hP 0 rfl rfl 14 (Nat.le_of_ble_eq_true rfl) (hT _ k_772) (fun _ h => h) rfl d_M_statement_120 ?_
      refine lv_iload_n hx hb d_M_statement_123 rfl (lv_at hl 1 rfl) ?_
      refine lv_aload_n hx hb d_M_statement_124 rfl (lv_at hl 2 rfl) ?_
      refine lv_iload_n hx hb d_M_statement_125 rfl (lv_at hl 0 rfl) ?_
      refine lv_bipush (v := 108) hx hb d_M_statement_126 (by decide) ?_
      refine lv_icmp_ne (tgt := 135) hx hb d_M_statement_128 (by decide) (fun c => absurd c11 c) (fun _ => ?_)
      refine lv_iconst (v := 1) hx hb d_M_statement_131 (by decide) ?_
      refine lv_goto (tgt := 136) hx hb d_M_statement_132 (by decide) ?_
      obtain ⟨q13, hq13, hf⟩ := io_b hf
      refine xcVI (wc := (w_M_number cI cJ cC a_h a_h_refused a_h_kind a_h_sweets a_h_gives a_h_tape a_h_letter a_h_letterAt a_h_one a_h_two a_h_kept a_h_trail a_h_crumb a_h_nextCrumb a_h_goal a_h_start a_h_sits a_h_bestSits a_h_without a_h_row y_h_many y_h_odd y_h_step y_h_bag y_h_strokes y_h_gave y_h_threw z_h_statements y_h_hasImage y_h_isKeeping y_h_cursor y_h_beforeMany y_h_found y_h_lots y_h_rowMany z_h_taped (z_h_at + 1) z_h_tape)) (wc' := (w_M_number cI cJ cC a_h a_h_refused a_h_kind a_h_sweets a_h_gives a_h_tape a_h_letter a_h_letterAt a_h_one a_h_two a_h_kept a_h_trail a_h_crumb a_h_nextCrumb a_h_goal a_h_start a_h_sits a_h_bestSits a_h_without a_h_row y_h_many y_h_odd y_h_step y_h_bag y_h_strokes y_h_gave y_h_threw z_h_statements y_h_hasImage y_h_isKeeping y_h_cursor y_h_beforeMany y_h_found y_h_lots y_h_rowMany z_h_taped q13.2 z_h_tape)) (ws' := (w_M_statement cI cJ cC a_h a_h_refused a_h_kind a_h_sweets a_h_gives a_h_tape a_h_letter a_h_letterAt a_h_one a_h_two a_h_kept a_h_trail a_h_crumb a_h_nextCrumb a_h_goal a_h_start a_h_sits a_h_bestSits a_h_without a_h_row y_h_many y_h_odd y_h_step y_h_bag y_h_strokes y_h_gave y_h_threw y_h_hasImage y_h_isKeeping y_h_cursor y_h_beforeMany y_h_found y_h_lots y_h_rowMany z_h_taped q13.2 z_h_statements z_h_tape (upd z_h_letter z_h_statements.toNatClampNeg q1) (upd z_h_letterAt z_h_statements.toNatClampNeg z_h_at) z_h_one z_h_two)) (As := [.int 1]) (rest := [.int z_h_statements, .ref a_h_one]) hx hb hml hown hT (c_M_number (z_h_taped := z_h_taped) (z_h_at := (z_h_at + 1)) (z_h_tape := z_h_tape) a_h a_h_refused a_h_kind a_h_sweets a_h_gives a_h_tape a_h_letter a_h_letterAt a_h_one a_h_two a_h_kept a_h_trail a_h_crumb a_h_nextCrumb a_h_goal a_h_start a_h_sits a_h_bestSits a_h_without a_h_row y_h_many y_h_odd y_h_step y_h_bag y_h_strokes y_h_gave y_h_threw z_h_statements y_h_hasImage y_h_isKeeping y_h_cursor y_h_beforeMany y_h_found y_h_lots y_h_rowMany hq13) k_893 k_895 ks_27 k_8 k_896 hd_M_number ⟨Nat.le_of_ble_eq_true rfl, Nat.le_of_ble_eq_true rfl⟩ xE0_ok trivial hA hK hP hD hS [0, 1] [2, 3, 4, 5] [4, 5, 0, 1, 2, 3] rfl rfl rfl rfl rfl rfl rfl rfl rfl rfl hl.1 rfl (Nat.le_of_ble_eq_true rfl) ⟨Nat.zero_le _, Nat.zero_le _⟩ d_M_statement_136 (fun H locs hP hD hS => ?_)
      refine x_iast hx hb hK hP hD hS 4 0 rfl rfl (j := z_h_statements.toNatClampNeg) rfl c12 d_M_statement_139 (fun H locs hP hD hS => ?_)
      have hP : va_P D classes (w_M_statement cI cJ cC a_h a_h_refused a_h_kind a_h_sweets a_h_gives a_h_tape a_h_letter a_h_letterAt a_h_one a_h_two a_h_kept a_h_trail a_h_crumb a_h_nextCrumb a_h_goal a_h_start a_h_sits a_h_bestSits a_h_without a_h_row y_h_many y_h_odd y_h_step y_h_bag y_h_strokes y_h_gave y_h_threw y_h_hasImage y_h_isKeeping y_h_cursor y_h_beforeMany y_h_found y_h_lots y_h_rowMany z_h_taped q13.2 z_h_statements z_h_tape (upd z_h_letter z_h_statements.toNatClampNeg q1) (upd z_h_letterAt z_h_statements.toNatClampNeg z_h_at) (upd z_h_one z_h_statements.toNatClampNeg q13.1) z_h_two) H := hP
      have hD : va_D A (w_M_statement cI cJ cC a_h a_h_refused a_h_kind a_h_sweets a_h_gives a_h_tape a_h_letter a_h_letterAt a_h_one a_h_two a_h_kept a_h_trail a_h_crumb a_h_nextCrumb a_h_goal a_h_start a_h_sits a_h_bestSits a_h_without a_h_row y_h_many y_h_odd y_h_step y_h_bag y_h_strokes y_h_gave y_h_threw y_h_hasImage y_h_isKeeping y_h_cursor y_h_beforeMany y_h_found y_h_lots y_h_rowMany z_h_taped q13.2 z_h_statements z_h_tape (upd z_h_letter z_h_statements.toNatClampNeg q1) (upd z_h_letterAt z_h_statements.toNatClampNeg z_h_at) (upd z_h_one z_h_statements.toNatClampNeg q13.1) z_h_two) := hD
      refine lv_aload_n hx hb d_M_statement_140 rfl (lv_at hl 2 rfl) ?_
      refine va_get hx hb hT i_M hown hK hP 0 rfl rfl 14 (Nat.le_of_ble_eq_true rfl) (hT _ k_772) (fun _ h => h) rfl d_M_statement_141 ?_
      refine lv_iload_n hx hb d_M_statement_144 rfl (lv_at hl 1 rfl) ?_
      refine x_iald hx hb hK hP 4 0 rfl rfl (j := z_h_statements.toNatClampNeg) rfl c12 d_M_statement_145 ?_
      refine lv_if_ge (tgt := 151) hx hb d_M_statement_146 (by decide) (fun c14 => ?_) (fun c14 => ?_)
      · have hf := io_t hf c14
        refine lv_aload_n hx hb d_M_statement_151 rfl (lv_at hl 2 rfl) ?_
        refine va_get hx hb hT i_M hown hK hP 0 rfl rfl 15 (Nat.le_of_ble_eq_true rfl) (hT _ k_773) (fun _ h => h) rfl d_M_statement_152 ?_
        refine lv_iload_n hx hb d_M_statement_155 rfl (lv_at hl 1 rfl) ?_
        refine lv_iload_n hx hb d_M_statement_156 rfl (lv_at hl 0 rfl) ?_
        refine lv_bipush (v := 108) hx hb d_M_statement_157 (by decide) ?_
        refine lv_icmp_ne (tgt := 170) hx hb d_M_statement_159 (by decide) (fun c => absurd c11 c) (fun _ => ?_)
        refine lv_aload_n hx hb d_M_statement_162 rfl (lv_at hl 2 rfl) ?_
        refine lv_iconst (v := 1) hx hb d_M_statement_163 (by decide) ?_
        obtain ⟨q15, hq15, hf⟩ := io_b hf
        refine xcVI (wc := (w_M_number cI cJ cC a_h a_h_refused a_h_kind a_h_sweets a_h_gives a_h_tape a_h_letter a_h_letterAt a_h_one a_h_two a_h_kept a_h_trail a_h_crumb a_h_nextCrumb a_h_goal a_h_start a_h_sits a_h_bestSits a_h_without a_h_row y_h_many y_h_odd y_h_step y_h_bag y_h_strokes y_h_gave y_h_threw z_h_statements y_h_hasImage y_h_isKeeping y_h_cursor y_h_beforeMany y_h_found y_h_lots y_h_rowMany z_h_taped q13.2 z_h_tape)) (wc' := (w_M_number cI cJ cC a_h a_h_refused a_h_kind a_h_sweets a_h_gives a_h_tape a_h_letter a_h_letterAt a_h_one a_h_two a_h_kept a_h_trail a_h_crumb a_h_nextCrumb a_h_goal a_h_start a_h_sits a_h_bestSits a_h_without a_h_row y_h_many y_h_odd y_h_step y_h_bag y_h_strokes y_h_gave y_h_threw z_h_statements y_h_hasImage y_h_isKeeping y_h_cursor y_h_beforeMany y_h_found y_h_lots y_h_rowMany z_h_taped q15.2 z_h_tape)) (ws' := (w_M_statement cI cJ cC a_h a_h_refused a_h_kind a_h_sweets a_h_gives a_h_tape a_h_letter a_h_letterAt a_h_one a_h_two a_h_kept a_h_trail a_h_crumb a_h_nextCrumb a_h_goal a_h_start a_h_sits a_h_bestSits a_h_without a_h_row y_h_many y_h_odd y_h_step y_h_bag y_h_strokes y_h_gave y_h_threw y_h_hasImage y_h_isKeeping y_h_cursor y_h_beforeMany y_h_found y_h_lots y_h_rowMany z_h_taped q15.2 z_h_statements z_h_tape (upd z_h_letter z_h_statements.toNatClampNeg q1) (upd z_h_letterAt z_h_statements.toNatClampNeg z_h_at) (upd z_h_one z_h_statements.toNatClampNeg q13.1) z_h_two)) (As := [.int 1]) (rest := [.int z_h_statements, .ref a_h_two]) hx hb hml hown hT (c_M_number (z_h_taped := z_h_taped) (z_h_at := q13.2) (z_h_tape := z_h_tape) a_h a_h_refused a_h_kind a_h_sweets a_h_gives a_h_tape a_h_letter a_h_letterAt a_h_one a_h_two a_h_kept a_h_trail a_h_crumb a_h_nextCrumb a_h_goal a_h_start a_h_sits a_h_bestSits a_h_without a_h_row y_h_many y_h_odd y_h_step y_h_bag y_h_strokes y_h_gave y_h_threw z_h_statements y_h_hasImage y_h_isKeeping y_h_cursor y_h_beforeMany y_h_found y_h_lots y_h_rowMany hq15) k_893 k_895 ks_27 k_8 k_896 hd_M_number ⟨Nat.le_of_ble_eq_true rfl, Nat.le_of_ble_eq_true rfl⟩ xE0_ok trivial hA hK hP hD hS [0, 1] [2, 3, 4, 5] [4, 5, 0, 1, 2, 3] rfl rfl rfl rfl rfl rfl rfl rfl rfl rfl hl.1 rfl (Nat.le_of_ble_eq_true rfl) ⟨Nat.zero_le _, Nat.zero_le _⟩ d_M_statement_164 (fun H locs hP hD hS => ?_)
        refine lv_goto (tgt := 171) hx hb d_M_statement_167 (by decide) ?_
        refine x_iast hx hb hK hP hD hS 5 0 rfl rfl (j := z_h_statements.toNatClampNeg) rfl c12 d_M_statement_171 (fun H locs hP hD hS => ?_)
        have hP : va_P D classes (w_M_statement cI cJ cC a_h a_h_refused a_h_kind a_h_sweets a_h_gives a_h_tape a_h_letter a_h_letterAt a_h_one a_h_two a_h_kept a_h_trail a_h_crumb a_h_nextCrumb a_h_goal a_h_start a_h_sits a_h_bestSits a_h_without a_h_row y_h_many y_h_odd y_h_step y_h_bag y_h_strokes y_h_gave y_h_threw y_h_hasImage y_h_isKeeping y_h_cursor y_h_beforeMany y_h_found y_h_lots y_h_rowMany z_h_taped q15.2 z_h_statements z_h_tape (upd z_h_letter z_h_statements.toNatClampNeg q1) (upd z_h_letterAt z_h_statements.toNatClampNeg z_h_at) (upd z_h_one z_h_statements.toNatClampNeg q13.1) (upd z_h_two z_h_statements.toNatClampNeg q15.1)) H := hP
        have hD : va_D A (w_M_statement cI cJ cC a_h a_h_refused a_h_kind a_h_sweets a_h_gives a_h_tape a_h_letter a_h_letterAt a_h_one a_h_two a_h_kept a_h_trail a_h_crumb a_h_nextCrumb a_h_goal a_h_start a_h_sits a_h_bestSits a_h_without a_h_row y_h_many y_h_odd y_h_step y_h_bag y_h_strokes y_h_gave y_h_threw y_h_hasImage y_h_isKeeping y_h_cursor y_h_beforeMany y_h_found y_h_lots y_h_rowMany z_h_taped q15.2 z_h_statements z_h_tape (upd z_h_letter z_h_statements.toNatClampNeg q1) (upd z_h_letterAt z_h_statements.toNatClampNeg z_h_at) (upd z_h_one z_h_statements.toNatClampNeg q13.1) (upd z_h_two z_h_statements.toNatClampNeg q15.1)) := hD
        refine lv_aload_n hx hb d_M_statement_172 rfl (lv_at hl 2 rfl) ?_
        refine va_get hx hb hT i_M hown hK hP 0 rfl rfl 15 (Nat.le_of_ble_eq_true rfl) (hT _ k_773) (fun _ h => h) rfl d_M_statement_173 ?_
        refine lv_iload_n hx hb d_M_statement_176 rfl (lv_at hl 1 rfl) ?_
        refine x_iald hx hb hK hP 5 0 rfl rfl (j := z_h_statements.toNatClampNeg) rfl c12 d_M_statement_177 ?_
        refine lv_if_ge (tgt := 183) hx hb d_M_statement_178 (by decide) (fun c16 => ?_) (fun c16 => ?_)
        · have hf := io_t hf c16
          refine lv_aload_n hx hb d_M_statement_183 rfl (lv_at hl 2 rfl) ?_
          obtain ⟨q17, hq17, hf⟩ := io_b hf
          refine xcVI (wc := (w_M_next cI cJ cC a_h a_h_refused a_h_kind a_h_sweets a_h_gives a_h_tape a_h_letter a_h_letterAt a_h_one a_h_two a_h_kept a_h_trail a_h_crumb a_h_nextCrumb a_h_goal a_h_start a_h_sits a_h_bestSits a_h_without a_h_row y_h_many y_h_odd y_h_step y_h_bag y_h_strokes y_h_gave y_h_threw z_h_statements y_h_hasImage y_h_isKeeping y_h_cursor y_h_beforeMany y_h_found y_h_lots y_h_rowMany z_h_taped q15.2 z_h_tape)) (wc' := (w_M_next cI cJ cC a_h a_h_refused a_h_kind a_h_sweets a_h_gives a_h_tape a_h_letter a_h_letterAt a_h_one a_h_two a_h_kept a_h_trail a_h_crumb a_h_nextCrumb a_h_goal a_h_start a_h_sits a_h_bestSits a_h_without a_h_row y_h_many y_h_odd y_h_step y_h_bag y_h_strokes y_h_gave y_h_threw z_h_statements y_h_hasImage y_h_isKeeping y_h_cursor y_h_beforeMany y_h_found y_h_lots y_h_rowMany z_h_taped q15.2 z_h_tape)) (ws' := (w_M_statement cI cJ cC a_h a_h_refused a_h_kind a_h_sweets a_h_gives a_h_tape a_h_letter a_h_letterAt a_h_one a_h_two a_h_kept a_h_trail a_h_crumb a_h_nextCrumb a_h_goal a_h_start a_h_sits a_h_bestSits a_h_without a_h_row y_h_many y_h_odd y_h_step y_h_bag y_h_strokes y_h_gave y_h_threw y_h_hasImage y_h_isKeeping y_h_cursor y_h_beforeMany y_h_found y_h_lots y_h_rowMany z_h_taped q15.2 z_h_statements z_h_tape (upd z_h_letter z_h_statements.toNatClampNeg q1) (upd z_h_letterAt z_h_statements.toNatClampNeg z_h_at) (upd z_h_one z_h_statements.toNatClampNeg q13.1) (upd z_h_two z_h_statements.toNatClampNeg q15.1))) (As := []) (rest := []) hx hb hml hown hT (c_M_next (z_h_taped := z_h_taped) (z_h_at := q15.2) (z_h_tape := z_h_tape) a_h a_h_refused a_h_kind a_h_sweets a_h_gives a_h_tape a_h_letter a_h_letterAt a_h_one a_h_two a_h_kept a_h_trail a_h_crumb a_h_nextCrumb a_h_goal a_h_start a_h_sits a_h_bestSits a_h_without a_h_row y_h_many y_h_odd y_h_step y_h_bag y_h_strokes y_h_gave y_h_threw z_h_statements y_h_hasImage y_h_isKeeping y_h_cursor y_h_beforeMany y_h_found y_h_lots y_h_rowMany hq17) k_886 k_888 ks_26 k_8 k_889 hd_M_next ⟨Nat.le_of_ble_eq_true rfl, Nat.le_of_ble_eq_true rfl⟩ xE0_ok trivial hA hK hP hD hS [0, 1] [2, 3, 4, 5] [4, 5, 0, 1, 2, 3] rfl rfl rfl rfl rfl rfl rfl rfl rfl rfl hl.1 rfl (Nat.le_of_ble_eq_true rfl) ⟨Nat.zero_le _, Nat.zero_le _⟩ d_M_statement_184 (fun H locs hP hD hS => ?_)
          refine lv_bipush (v := 59) hx hb d_M_statement_187 (by decide) ?_
          refine lv_icmp_eq (tgt := 194) hx hb d_M_statement_189 (by decide) (fun c18 => ?_) (fun c18 => ?_)
          · have hf := io_t hf c18
            refine lv_aload_n hx hb d_M_statement_194 rfl (lv_at hl 2 rfl) ?_
            refine lv_dup hx hb d_M_statement_195 rfl ?_
            refine va_get hx hb hT i_M hown hK hP 0 rfl rfl 17 (Nat.le_of_ble_eq_true rfl) (hT _ k_775) (fun _ h => h) rfl d_M_statement_196 ?_
            refine lv_iconst (v := 1) hx hb d_M_statement_199 (by decide) ?_
            refine lv_iadd hx hb d_M_statement_200 ?_
            refine va_put (ty := .int) hx hb hT i_M t_M t_M_ok n_M hown hK hP hD hS 0 rfl rfl 17 (Nat.le_of_ble_eq_true rfl) (hT _ k_775) (fun _ h => h) rfl rfl rfl rfl (Nat.le_of_ble_eq_true rfl) d_M_statement_201 (fun H locs hP hD hS => ?_)
            have hP : va_P D classes (w_M_statement cI cJ cC a_h a_h_refused a_h_kind a_h_sweets a_h_gives a_h_tape a_h_letter a_h_letterAt a_h_one a_h_two a_h_kept a_h_trail a_h_crumb a_h_nextCrumb a_h_goal a_h_start a_h_sits a_h_bestSits a_h_without a_h_row y_h_many y_h_odd y_h_step y_h_bag y_h_strokes y_h_gave y_h_threw y_h_hasImage y_h_isKeeping y_h_cursor y_h_beforeMany y_h_found y_h_lots y_h_rowMany z_h_taped (q15.2 + 1) z_h_statements z_h_tape (upd z_h_letter z_h_statements.toNatClampNeg q1) (upd z_h_letterAt z_h_statements.toNatClampNeg z_h_at) (upd z_h_one z_h_statements.toNatClampNeg q13.1) (upd z_h_two z_h_statements.toNatClampNeg q15.1)) H := hP
            have hD : va_D A (w_M_statement cI cJ cC a_h a_h_refused a_h_kind a_h_sweets a_h_gives a_h_tape a_h_letter a_h_letterAt a_h_one a_h_two a_h_kept a_h_trail a_h_crumb a_h_nextCrumb a_h_goal a_h_start a_h_sits a_h_bestSits a_h_without a_h_row y_h_many y_h_odd y_h_step y_h_bag y_h_strokes y_h_gave y_h_threw y_h_hasImage y_h_isKeeping y_h_cursor y_h_beforeMany y_h_found y_h_lots y_h_rowMany z_h_taped (q15.2 + 1) z_h_statements z_h_tape (upd z_h_letter z_h_statements.toNatClampNeg q1) (upd z_h_letterAt z_h_statements.toNatClampNeg z_h_at) (upd z_h_one z_h_statements.toNatClampNeg q13.1) (upd z_h_two z_h_statements.toNatClampNeg q15.1)) := hD
            refine lv_iconst (v := 1) hx hb d_M_statement_204 (by decide) ?_
            have hq := Option.some.inj hf
            subst hq
            exact hret _ _ _ _ _ d_M_statement_205 (by decide) rfl hP hD hS
          · have hf := io_f hf c18
            refine lv_iconst (v := 0) hx hb d_M_statement_192 (by decide) ?_
            have hq := Option.some.inj hf
            subst hq
            exact hret _ _ _ _ _ d_M_statement_193 (by decide) rfl hP hD hS
        · have hf := io_f hf c16
          refine lv_iconst (v := 0) hx hb d_M_statement_181 (by decide) ?_
          have hq := Option.some.inj hf
          subst hq
          exact hret _ _ _ _ _ d_M_statement_182 (by decide) rfl hP hD hS
      · have hf := io_f hf c14
        refine lv_iconst (v := 0) hx hb d_M_statement_149 (by decide) ?_
        have hq := Option.some.inj hf
        subst hq
        exact hret _ _ _ _ _ d_M_statement_150 (by decide) rfl hP hD hS
    · have hf := io_f hf c11
      refine lv_iload_n hx hb d_M_statement_22 rfl (lv_at hl 0 rfl) ?_
      refine lv_bipush (v := 103) hx hb d_M_statement_23 (by decide) ?_
      refine lv_icmp_eq (tgt := 30) hx hb d_M_statement_25 (by decide) (fun c19 => ?_) (fun c19 => ?_)
      · have hf := io_t hf c19
        refine lv_aload_n hx hb d_M_statement_30 rfl (lv_at hl 2 rfl) ?_
        refine va_get hx hb hT i_M hown hK hP 0 rfl rfl 12 (Nat.le_of_ble_eq_true rfl) (hT _ k_770) (fun _ h => h) rfl d_M_statement_31 ?_
        refine lv_iload_n hx hb d_M_statement_34 rfl (lv_at hl 1 rfl) ?_
        refine lv_iload_n hx hb d_M_statement_35 rfl (lv_at hl 0 rfl) ?_
        obtain ⟨c20, hf⟩ := io_n hf
        refine x_iast hx hb hK hP hD hS 2 0 rfl rfl (j := z_h_statements.toNatClampNeg) rfl c20 d_M_statement_36 (fun H locs hP hD hS => ?_)
        have hP : va_P D classes (w_M_statement cI cJ cC a_h a_h_refused a_h_kind a_h_sweets a_h_gives a_h_tape a_h_letter a_h_letterAt a_h_one a_h_two a_h_kept a_h_trail a_h_crumb a_h_nextCrumb a_h_goal a_h_start a_h_sits a_h_bestSits a_h_without a_h_row y_h_many y_h_odd y_h_step y_h_bag y_h_strokes y_h_gave y_h_threw y_h_hasImage y_h_isKeeping y_h_cursor y_h_beforeMany y_h_found y_h_lots y_h_rowMany z_h_taped z_h_at z_h_statements z_h_tape (upd z_h_letter z_h_statements.toNatClampNeg q1) z_h_letterAt z_h_one z_h_two) H := hP
        have hD : va_D A (w_M_statement cI cJ cC a_h a_h_refused a_h_kind a_h_sweets a_h_gives a_h_tape a_h_letter a_h_letterAt a_h_one a_h_two a_h_kept a_h_trail a_h_crumb a_h_nextCrumb a_h_goal a_h_start a_h_sits a_h_bestSits a_h_without a_h_row y_h_many y_h_odd y_h_step y_h_bag y_h_strokes y_h_gave y_h_threw y_h_hasImage y_h_isKeeping y_h_cursor y_h_beforeMany y_h_found y_h_lots y_h_rowMany z_h_taped z_h_at z_h_statements z_h_tape (upd z_h_letter z_h_statements.toNatClampNeg q1) z_h_letterAt z_h_one z_h_two) := hD
        refine lv_aload_n hx hb d_M_statement_37 rfl (lv_at hl 2 rfl) ?_
        refine va_get hx hb hT i_M hown hK hP 0 rfl rfl 13 (Nat.le_of_ble_eq_true rfl) (hT _ k_771) (fun _ h => h) rfl d_M_statement_38 ?_
        refine lv_iload_n hx hb d_M_statement_41 rfl (lv_at hl 1 rfl) ?_
        refine lv_aload_n hx hb d_M_statement_42 rfl (lv_at hl 2 rfl) ?_
        refine va_get hx hb hT i_M hown hK hP 0 rfl rfl 17 (Nat.le_of_ble_eq_true rfl) (hT _ k_775) (fun _ h => h) rfl d_M_statement_43 ?_
        refine x_iast hx hb hK hP hD hS 3 0 rfl rfl (j := z_h_statements.toNatClampNeg) rfl c20 d_M_statement_46 (fun H locs hP hD hS => ?_)
        have hP : va_P D classes (w_M_statement cI cJ cC a_h a_h_refused a_h_kind a_h_sweets a_h_gives a_h_tape a_h_letter a_h_letterAt a_h_one a_h_two a_h_kept a_h_trail a_h_crumb a_h_nextCrumb a_h_goal a_h_start a_h_sits a_h_bestSits a_h_without a_h_row y_h_many y_h_odd y_h_step y_h_bag y_h_strokes y_h_gave y_h_threw y_h_hasImage y_h_isKeeping y_h_cursor y_h_beforeMany y_h_found y_h_lots y_h_rowMany z_h_taped z_h_at z_h_statements z_h_tape (upd z_h_letter z_h_statements.toNatClampNeg q1) (upd z_h_letterAt z_h_statements.toNatClampNeg z_h_at) z_h_one z_h_two) H := hP
        have hD : va_D A (w_M_statement cI cJ cC a_h a_h_refused a_h_kind a_h_sweets a_h_gives a_h_tape a_h_letter a_h_letterAt a_h_one a_h_two a_h_kept a_h_trail a_h_crumb a_h_nextCrumb a_h_goal a_h_start a_h_sits a_h_bestSits a_h_without a_h_row y_h_many y_h_odd y_h_step y_h_bag y_h_strokes y_h_gave y_h_threw y_h_hasImage y_h_isKeeping y_h_cursor y_h_beforeMany y_h_found y_h_lots y_h_rowMany z_h_taped z_h_at z_h_statements z_h_tape (upd z_h_letter z_h_statements.toNatClampNeg q1) (upd z_h_letterAt z_h_statements.toNatClampNeg z_h_at) z_h_one z_h_two) := hD
        refine lv_aload_n hx hb d_M_statement_47 rfl (lv_at hl 2 rfl) ?_
        refine lv_dup hx hb d_M_statement_48 rfl ?_
        refine va_get hx hb hT i_M hown hK hP 0 rfl rfl 17 (Nat.le_of_ble_eq_true rfl) (hT _ k_775) (fun _ h => h) rfl d_M_statement_49 ?_
        refine lv_iconst (v := 1) hx hb d_M_statement_52 (by decide) ?_
        refine lv_iadd hx hb d_M_statement_53 ?_
        refine va_put (ty := .int) hx hb hT i_M t_M t_M_ok n_M hown hK hP hD hS 0 rfl rfl 17 (Nat.le_of_ble_eq_true rfl) (hT _ k_775) (fun _ h => h) rfl rfl rfl rfl (Nat.le_of_ble_eq_true rfl) d_M_statement_54 (fun H locs hP hD hS => ?_)
        have hP : va_P D classes (w_M_statement cI cJ cC a_h a_h_refused a_h_kind a_h_sweets a_h_gives a_h_tape a_h_letter a_h_letterAt a_h_one a_h_two a_h_kept a_h_trail a_h_crumb a_h_nextCrumb a_h_goal a_h_start a_h_sits a_h_bestSits a_h_without a_h_row y_h_many y_h_odd y_h_step y_h_bag y_h_strokes y_h_gave y_h_threw y_h_hasImage y_h_isKeeping y_h_cursor y_h_beforeMany y_h_found y_h_lots y_h_rowMany z_h_taped (z_h_at + 1) z_h_statements z_h_tape (upd z_h_letter z_h_statements.toNatClampNeg q1) (upd z_h_letterAt z_h_statements.toNatClampNeg z_h_at) z_h_one z_h_two) H := hP
        have hD : va_D A (w_M_statement cI cJ cC a_h a_h_refused a_h_kind a_h_sweets a_h_gives a_h_tape a_h_letter a_h_letterAt a_h_one a_h_two a_h_kept a_h_trail a_h_crumb a_h_nextCrumb a_h_goal a_h_start a_h_sits a_h_bestSits a_h_without a_h_row y_h_many y_h_odd y_h_step y_h_bag y_h_strokes y_h_gave y_h_threw y_h_hasImage y_h_isKeeping y_h_cursor y_h_beforeMany y_h_found y_h_lots y_h_rowMany z_h_taped (z_h_at + 1) z_h_statements z_h_tape (upd z_h_letter z_h_statements.toNatClampNeg q1) (upd z_h_letterAt z_h_statements.toNatClampNeg z_h_at) z_h_one z_h_two) := hD
        refine lv_iload_n hx hb d_M_statement_57 rfl (lv_at hl 0 rfl) ?_
        refine lv_bipush (v := 99) hx hb d_M_statement_58 (by decide) ?_
        refine lv_icmp_ne (tgt := 119) hx hb d_M_statement_60 (by decide) (fun _ => ?_) (fun c => absurd c (show ¬ q1 = 99 from fun z => absurd (c19.symm.trans z) (by decide)))
        refine lv_aload_n hx hb d_M_statement_119 rfl (lv_at hl 2 rfl) ?_
        refine va_get hx hb hT i_M hown hK hP 0 rfl rfl 14 (Nat.le_of_ble_eq_true rfl) (hT _ k_772) (fun _ h => h) rfl d_M_statement_120 ?_
        refine lv_iload_n hx hb d_M_statement_123 rfl (lv_at hl 1 rfl) ?_
        refine lv_aload_n hx hb d_M_statement_124 rfl (lv_at hl 2 rfl) ?_
        refine lv_iload_n hx hb d_M_statement_125 rfl (lv_at hl 0 rfl) ?_
        refine lv_bipush (v := 108) hx hb d_M_statement_126 (by decide) ?_
        refine lv_icmp_ne (tgt := 135) hx hb d_M_statement_128 (by decide) (fun _ => ?_) (fun c => absurd c (show ¬ q1 = 108 from fun z => absurd (c19.symm.trans z) (by decide)))
        refine lv_iconst (v := 3) hx hb d_M_statement_135 (by decide) ?_
        obtain ⟨q21, hq21, hf⟩ := io_b hf
        refine xcVI (wc := (w_M_number cI cJ cC a_h a_h_refused a_h_kind a_h_sweets a_h_gives a_h_tape a_h_letter a_h_letterAt a_h_one a_h_two a_h_kept a_h_trail a_h_crumb a_h_nextCrumb a_h_goal a_h_start a_h_sits a_h_bestSits a_h_without a_h_row y_h_many y_h_odd y_h_step y_h_bag y_h_strokes y_h_gave y_h_threw z_h_statements y_h_hasImage y_h_isKeeping y_h_cursor y_h_beforeMany y_h_found y_h_lots y_h_rowMany z_h_taped (z_h_at + 1) z_h_tape)) (wc' := (w_M_number cI cJ cC a_h a_h_refused a_h_kind a_h_sweets a_h_gives a_h_tape a_h_letter a_h_letterAt a_h_one a_h_two a_h_kept a_h_trail a_h_crumb a_h_nextCrumb a_h_goal a_h_start a_h_sits a_h_bestSits a_h_without a_h_row y_h_many y_h_odd y_h_step y_h_bag y_h_strokes y_h_gave y_h_threw z_h_statements y_h_hasImage y_h_isKeeping y_h_cursor y_h_beforeMany y_h_found y_h_lots y_h_rowMany z_h_taped q21.2 z_h_tape)) (ws' := (w_M_statement cI cJ cC a_h a_h_refused a_h_kind a_h_sweets a_h_gives a_h_tape a_h_letter a_h_letterAt a_h_one a_h_two a_h_kept a_h_trail a_h_crumb a_h_nextCrumb a_h_goal a_h_start a_h_sits a_h_bestSits a_h_without a_h_row y_h_many y_h_odd y_h_step y_h_bag y_h_strokes y_h_gave y_h_threw y_h_hasImage y_h_isKeeping y_h_cursor y_h_beforeMany y_h_found y_h_lots y_h_rowMany z_h_taped q21.2 z_h_statements z_h_tape (upd z_h_letter z_h_statements.toNatClampNeg q1) (upd z_h_letterAt z_h_statements.toNatClampNeg z_h_at) z_h_one z_h_two)) (As := [.int 3]) (rest := [.int z_h_statements, .ref a_h_one]) hx hb hml hown hT (c_M_number (z_h_taped := z_h_taped) (z_h_at := (z_h_at + 1)) (z_h_tape := z_h_tape) a_h a_h_refused a_h_kind a_h_sweets a_h_gives a_h_tape a_h_letter a_h_letterAt a_h_one a_h_two a_h_kept a_h_trail a_h_crumb a_h_nextCrumb a_h_goal a_h_start a_h_sits a_h_bestSits a_h_without a_h_row y_h_many y_h_odd y_h_step y_h_bag y_h_strokes y_h_gave y_h_threw z_h_statements y_h_hasImage y_h_isKeeping y_h_cursor y_h_beforeMany y_h_found y_h_lots y_h_rowMany hq21) k_893 k_895 ks_27 k_8 k_896 hd_M_number ⟨Nat.le_of_ble_eq_true rfl, Nat.le_of_ble_eq_true rfl⟩ xE0_ok trivial hA hK hP hD hS [0, 1] [2, 3, 4, 5] [4, 5, 0, 1, 2, 3] rfl rfl rfl rfl rfl rfl rfl rfl rfl rfl hl.1 rfl (Nat.le_of_ble_eq_true rfl) ⟨Nat.zero_le _, Nat.zero_le _⟩ d_M_statement_136 (fun H locs hP hD hS => ?_)
        refine x_iast hx hb hK hP hD hS 4 0 rfl rfl (j := z_h_statements.toNatClampNeg) rfl c20 d_M_statement_139 (fun H locs hP hD hS => ?_)
        have hP : va_P D classes (w_M_statement cI cJ cC a_h a_h_refused a_h_kind a_h_sweets a_h_gives a_h_tape a_h_letter a_h_letterAt a_h_one a_h_two a_h_kept a_h_trail a_h_crumb a_h_nextCrumb a_h_goal a_h_start a_h_sits a_h_bestSits a_h_without a_h_row y_h_many y_h_odd y_h_step y_h_bag y_h_strokes y_h_gave y_h_threw y_h_hasImage y_h_isKeeping y_h_cursor y_h_beforeMany y_h_found y_h_lots y_h_rowMany z_h_taped q21.2 z_h_statements z_h_tape (upd z_h_letter z_h_statements.toNatClampNeg q1) (upd z_h_letterAt z_h_statements.toNatClampNeg z_h_at) (upd z_h_one z_h_statements.toNatClampNeg q21.1) z_h_two) H := hP
        have hD : va_D A (w_M_statement cI cJ cC a_h a_h_refused a_h_kind a_h_sweets a_h_gives a_h_tape a_h_letter a_h_letterAt a_h_one a_h_two a_h_kept a_h_trail a_h_crumb a_h_nextCrumb a_h_goal a_h_start a_h_sits a_h_bestSits a_h_without a_h_row y_h_many y_h_odd y_h_step y_h_bag y_h_strokes y_h_gave y_h_threw y_h_hasImage y_h_isKeeping y_h_cursor y_h_beforeMany y_h_found y_h_lots y_h_rowMany z_h_taped q21.2 z_h_statements z_h_tape (upd z_h_letter z_h_statements.toNatClampNeg q1) (upd z_h_letterAt z_h_statements.toNatClampNeg z_h_at) (upd z_h_one z_h_statements.toNatClampNeg q21.1) z_h_two) := hD
        refine lv_aload_n hx hb d_M_statement_140 rfl (lv_at hl 2 rfl) ?_
        refine va_get hx hb hT i_M hown hK hP 0 rfl rfl 14 (Nat.le_of_ble_eq_true rfl) (hT _ k_772) (fun _ h => h) rfl d_M_statement_141 ?_
        refine lv_iload_n hx hb d_M_statement_144 rfl (lv_at hl 1 rfl) ?_
        refine x_iald hx hb hK hP 4 0 rfl rfl (j := z_h_statements.toNatClampNeg) rfl c20 d_M_statement_145 ?_
        refine lv_if_ge (tgt := 151) hx hb d_M_statement_146 (by decide) (fun c22 => ?_) (fun c22 => ?_)
        · have hf := io_t hf c22
          refine lv_aload_n hx hb d_M_statement_151 rfl (lv_at hl 2 rfl) ?_
          refine va_get hx hb hT i_M hown hK hP 0 rfl rfl 15 (Nat.le_of_ble_eq_true rfl) (hT _ k_773) (fun _ h => h) rfl d_M_statement_152 ?_
          refine lv_iload_n hx hb d_M_statement_155 rfl (lv_at hl 1 rfl) ?_
          refine lv_iload_n hx hb d_M_statement_156 rfl (lv_at hl 0 rfl) ?_
          refine lv_bipush (v := 108) hx hb d_M_statement_157 (by decide) ?_
          refine lv_icmp_ne (tgt := 170) hx hb d_M_statement_159 (by decide) (fun _ => ?_) (fun c => absurd c (show ¬ q1 = 108 from fun z => absurd (c19.symm.trans z) (by decide)))
          refine lv_iconst (v := 0) hx hb d_M_statement_170 (by decide) ?_
          refine x_iast hx hb hK hP hD hS 5 0 rfl rfl (j := z_h_statements.toNatClampNeg) rfl c20 d_M_statement_171 (fun H locs hP hD hS => ?_)
          have hP : va_P D classes (w_M_statement cI cJ cC a_h a_h_refused a_h_kind a_h_sweets a_h_gives a_h_tape a_h_letter a_h_letterAt a_h_one a_h_two a_h_kept a_h_trail a_h_crumb a_h_nextCrumb a_h_goal a_h_start a_h_sits a_h_bestSits a_h_without a_h_row y_h_many y_h_odd y_h_step y_h_bag y_h_strokes y_h_gave y_h_threw y_h_hasImage y_h_isKeeping y_h_cursor y_h_beforeMany y_h_found y_h_lots y_h_rowMany z_h_taped q21.2 z_h_statements z_h_tape (upd z_h_letter z_h_statements.toNatClampNeg q1) (upd z_h_letterAt z_h_statements.toNatClampNeg z_h_at) (upd z_h_one z_h_statements.toNatClampNeg q21.1) (upd z_h_two z_h_statements.toNatClampNeg 0)) H := hP
          have hD : va_D A (w_M_statement cI cJ cC a_h a_h_refused a_h_kind a_h_sweets a_h_gives a_h_tape a_h_letter a_h_letterAt a_h_one a_h_two a_h_kept a_h_trail a_h_crumb a_h_nextCrumb a_h_goal a_h_start a_h_sits a_h_bestSits a_h_without a_h_row y_h_many y_h_odd y_h_step y_h_bag y_h_strokes y_h_gave y_h_threw y_h_hasImage y_h_isKeeping y_h_cursor y_h_beforeMany y_h_found y_h_lots y_h_rowMany z_h_taped q21.2 z_h_statements z_h_tape (upd z_h_letter z_h_statements.toNatClampNeg q1) (upd z_h_letterAt z_h_statements.toNatClampNeg z_h_at) (upd z_h_one z_h_statements.toNatClampNeg q21.1) (upd z_h_two z_h_statements.toNatClampNeg 0)) := hD
          refine lv_aload_n hx hb d_M_statement_172 rfl (lv_at hl 2 rfl) ?_
          refine va_get hx hb hT i_M hown hK hP 0 rfl rfl 15 (Nat.le_of_ble_eq_true rfl) (hT _ k_773) (fun _ h => h) rfl d_M_statement_173 ?_
          refine lv_iload_n hx hb d_M_statement_176 rfl (lv_at hl 1 rfl) ?_
          refine x_iald hx hb hK hP 5 0 rfl rfl (j := z_h_statements.toNatClampNeg) rfl c20 d_M_statement_177 ?_
          refine lv_if_ge (tgt := 183) hx hb d_M_statement_178 (by decide) (fun c23 => ?_) (fun c23 => ?_)
          · have hf := io_t hf c23
            refine lv_aload_n hx hb d_M_statement_183 rfl (lv_at hl 2 rfl) ?_
            obtain ⟨q24, hq24, hf⟩ := io_b hf
            refine xcVI (wc := (w_M_next cI cJ cC a_h a_h_refused a_h_kind a_h_sweets a_h_gives a_h_tape a_h_letter a_h_letterAt a_h_one a_h_two a_h_kept a_h_trail a_h_crumb a_h_nextCrumb a_h_goal a_h_start a_h_sits a_h_bestSits a_h_without a_h_row y_h_many y_h_odd y_h_step y_h_bag y_h_strokes y_h_gave y_h_threw z_h_statements y_h_hasImage y_h_isKeeping y_h_cursor y_h_beforeMany y_h_found y_h_lots y_h_rowMany z_h_taped q21.2 z_h_tape)) (wc' := (w_M_next cI cJ cC a_h a_h_refused a_h_kind a_h_sweets a_h_gives a_h_tape a_h_letter a_h_letterAt a_h_one a_h_two a_h_kept a_h_trail a_h_crumb a_h_nextCrumb a_h_goal a_h_start a_h_sits a_h_bestSits a_h_without a_h_row y_h_many y_h_odd y_h_step y_h_bag y_h_strokes y_h_gave y_h_threw z_h_statements y_h_hasImage y_h_isKeeping y_h_cursor y_h_beforeMany y_h_found y_h_lots y_h_rowMany z_h_taped q21.2 z_h_tape)) (ws' := (w_M_statement cI cJ cC a_h a_h_refused a_h_kind a_h_sweets a_h_gives a_h_tape a_h_letter a_h_letterAt a_h_one a_h_two a_h_kept a_h_trail a_h_crumb a_h_nextCrumb a_h_goal a_h_start a_h_sits a_h_bestSits a_h_without a_h_row y_h_many y_h_odd y_h_step y_h_bag y_h_strokes y_h_gave y_h_threw y_h_hasImage y_h_isKeeping y_h_cursor y_h_beforeMany y_h_found y_h_lots y_h_rowMany z_h_taped q21.2 z_h_statements z_h_tape (upd z_h_letter z_h_statements.toNatClampNeg q1) (upd z_h_letterAt z_h_statements.toNatClampNeg z_h_at) (upd z_h_one z_h_statements.toNatClampNeg q21.1) (upd z_h_two z_h_statements.toNatClampNeg 0))) (As := []) (rest := []) hx hb hml hown hT (c_M_next (z_h_taped := z_h_taped) (z_h_at := q21.2) (z_h_tape := z_h_tape) a_h a_h_refused a_h_kind a_h_sweets a_h_gives a_h_tape a_h_letter a_h_letterAt a_h_one a_h_two a_h_kept a_h_trail a_h_crumb a_h_nextCrumb a_h_goal a_h_start a_h_sits a_h_bestSits a_h_without a_h_row y_h_many y_h_odd y_h_step y_h_bag y_h_strokes y_h_gave y_h_threw z_h_statements y_h_hasImage y_h_isKeeping y_h_cursor y_h_beforeMany y_h_found y_h_lots y_h_rowMany hq24) k_886 k_888 ks_26 k_8 k_889 hd_M_next ⟨Nat.le_of_ble_eq_true rfl, Nat.le_of_ble_eq_true rfl⟩ xE0_ok trivial hA hK hP hD hS [0, 1] [2, 3, 4, 5] [4, 5, 0, 1, 2, 3] rfl rfl rfl rfl rfl rfl rfl rfl rfl rfl hl.1 rfl (Nat.le_of_ble_eq_true rfl) ⟨Nat.zero_le _, Nat.zero_le _⟩ d_M_statement_184 (fun H locs hP hD hS => ?_)
            refine lv_bipush (v := 59) hx hb d_M_statement_187 (by decide) ?_
            refine lv_icmp_eq (tgt := 194) hx hb d_M_statement_189 (by decide) (fun c25 => ?_) (fun c25 => ?_)
            · have hf := io_t hf c25
              refine lv_aload_n hx hb d_M_statement_194 rfl (lv_at hl 2 rfl) ?_
              refine lv_dup hx hb d_M_statement_195 rfl ?_
              refine va_get hx hb hT i_M hown hK hP 0 rfl rfl 17 (Nat.le_of_ble_eq_true rfl) (hT _ k_775) (fun _ h => h) rfl d_M_statement_196 ?_
              refine lv_iconst (v := 1) hx hb d_M_statement_199 (by decide) ?_
              refine lv_iadd hx hb d_M_statement_200 ?_
              refine va_put (ty := .int) hx hb hT i_M t_M t_M_ok n_M hown hK hP hD hS 0 rfl rfl 17 (Nat.le_of_ble_eq_true rfl) (hT _ k_775) (fun _ h => h) rfl rfl rfl rfl (Nat.le_of_ble_eq_true rfl) d_M_statement_201 (fun H locs hP hD hS => ?_)
              have hP : va_P D classes (w_M_statement cI cJ cC a_h a_h_refused a_h_kind a_h_sweets a_h_gives a_h_tape a_h_letter a_h_letterAt a_h_one a_h_two a_h_kept a_h_trail a_h_crumb a_h_nextCrumb a_h_goal a_h_start a_h_sits a_h_bestSits a_h_without a_h_row y_h_many y_h_odd y_h_step y_h_bag y_h_strokes y_h_gave y_h_threw y_h_hasImage y_h_isKeeping y_h_cursor y_h_beforeMany y_h_found y_h_lots y_h_rowMany z_h_taped (q21.2 + 1) z_h_statements z_h_tape (upd z_h_letter z_h_statements.toNatClampNeg q1) (upd z_h_letterAt z_h_statements.toNatClampNeg z_h_at) (upd z_h_one z_h_statements.toNatClampNeg q21.1) (upd z_h_two z_h_statements.toNatClampNeg 0)) H := hP
              have hD : va_D A (w_M_statement cI cJ cC a_h a_h_refused a_h_kind a_h_sweets a_h_gives a_h_tape a_h_letter a_h_letterAt a_h_one a_h_two a_h_kept a_h_trail a_h_crumb a_h_nextCrumb a_h_goal a_h_start a_h_sits a_h_bestSits a_h_without a_h_row y_h_many y_h_odd y_h_step y_h_bag y_h_strokes y_h_gave y_h_threw y_h_hasImage y_h_isKeeping y_h_cursor y_h_beforeMany y_h_found y_h_lots y_h_rowMany z_h_taped (q21.2 + 1) z_h_statements z_h_tape (upd z_h_letter z_h_statements.toNatClampNeg q1) (upd z_h_letterAt z_h_statements.toNatClampNeg z_h_at) (upd z_h_one z_h_statements.toNatClampNeg q21.1) (upd z_h_two z_h_statements.toNatClampNeg 0)) := hD
              refine lv_iconst (v := 1) hx hb d_M_statement_204 (by decide) ?_
              have hq := Option.some.inj hf
              subst hq
              exact hret _ _ _ _ _ d_M_statement_205 (by decide) rfl hP hD hS
            · have hf := io_f hf c25
              refine lv_iconst (v := 0) hx hb d_M_statement_192 (by decide) ?_
              have hq := Option.some.inj hf
              subst hq
              exact hret _ _ _ _ _ d_M_statement_193 (by decide) rfl hP hD hS
          · have hf := io_f hf c23
            refine lv_iconst (v := 0) hx hb d_M_statement_181 (by decide) ?_
            have hq := Option.some.inj hf
            subst hq
            exact hret _ _ _ _ _ d_M_statement_182 (by decide) rfl hP hD hS
        · have hf := io_f hf c22
          refine lv_iconst (v := 0) hx hb d_M_statement_149 (by decide) ?_
          have hq := Option.some.inj hf
          subst hq
          exact hret _ _ _ _ _ d_M_statement_150 (by decide) rfl hP hD hS
      · have hf := io_f hf c19
        refine lv_iconst (v := 0) hx hb d_M_statement_28 (by decide) ?_
        have hq := Option.some.inj hf
        subst hq
        exact hret _ _ _ _ _ d_M_statement_29 (by decide) rfl hP hD hS
abbrev w_M_comes (cI cJ cC : ClassId) (a_h a_h_refused a_h_kind a_h_sweets a_h_gives a_h_tape a_h_letter a_h_letterAt a_h_one a_h_two a_h_kept a_h_trail a_h_crumb a_h_nextCrumb a_h_goal a_h_start a_h_sits a_h_bestSits a_h_without a_h_row : Nat) (y_h_taped : Int32) (y_h_at : Int32) (y_h_statements : Int32) (y_h_hasImage : Int32) (y_h_beforeMany : Int32) (y_h_found : Int32) (y_h_lots : Int32) (y_h_rowMany : Int32) (p_h_many : Int32) (p_h_odd : Int32) (p_h_step : Int32) (p_h_bag : Int32) (p_h_strokes : Int32) (p_h_gave : Int32) (p_h_threw : Int32) (p_h_isKeeping : Int32) (p_h_cursor : Int32) (p_h_kind : (Nat → Int32)) (p_h_sweets : (Nat → Int32)) (p_h_gives : (Nat → Int32)) (p_h_letter : (Nat → Int32)) (p_h_one : (Nat → Int32)) (p_h_two : (Nat → Int32)) (p_h_kept : (Nat → Int32)) : va_W := [(a_h, .inr (7, [.ref a_h_refused, .ref a_h_kind, .ref a_h_sweets, .ref a_h_gives, .int p_h_many, .int p_h_odd, .int p_h_step, .int p_h_bag, .int p_h_strokes, .int p_h_gave, .int p_h_threw, .ref a_h_tape, .ref a_h_letter, .ref a_h_letterAt, .ref a_h_one, .ref a_h_two, .int y_h_taped, .int y_h_at, .int y_h_statements, .ref a_h_kept, .int y_h_hasImage, .int p_h_isKeeping, .int p_h_cursor, .ref a_h_trail, .ref a_h_crumb, .ref a_h_nextCrumb, .ref a_h_goal, .ref a_h_start, .int y_h_beforeMany, .int y_h_found, .ref a_h_sits, .ref a_h_bestSits, .ref a_h_without, .int y_h_lots, .ref a_h_row, .int y_h_rowMany])), (a_h_kind, .inl (cI, (8, .inl p_h_kind))), (a_h_sweets, .inl (cI, (8, .inl p_h_sweets))), (a_h_gives, .inl (cI, (8, .inl p_h_gives))), (a_h_letter, .inl (cI, (32, .inl p_h_letter))), (a_h_one, .inl (cI, (32, .inl p_h_one))), (a_h_two, .inl (cI, (32, .inl p_h_two))), (a_h_kept, .inl (cI, (90, .inl p_h_kept)))]
theorem d_M_comes_0 : decode b_M_comes 0 = .ok (.aload_n 0, 1) := by decide +kernel
theorem d_M_comes_1 : decode b_M_comes 1 = .ok (.getfield 32, 3) := by decide +kernel
theorem d_M_comes_4 : decode b_M_comes 4 = .ok (.iload_n 1, 1) := by decide +kernel
theorem d_M_comes_5 : decode b_M_comes 5 = .ok (.iaload, 1) := by decide +kernel
theorem d_M_comes_6 : decode b_M_comes 6 = .ok (.bipush 103, 2) := by decide +kernel
theorem d_M_comes_8 : decode b_M_comes 8 = .ok (.if_icmp .ne 15, 3) := by decide +kernel
theorem d_M_comes_11 : decode b_M_comes 11 = .ok (.aload_n 0, 1) := by decide +kernel
theorem d_M_comes_12 : decode b_M_comes 12 = .ok (.aload_n 0, 1) := by decide +kernel
theorem d_M_comes_13 : decode b_M_comes 13 = .ok (.getfield 38, 3) := by decide +kernel
theorem d_M_comes_16 : decode b_M_comes 16 = .ok (.iload_n 1, 1) := by decide +kernel
theorem d_M_comes_17 : decode b_M_comes 17 = .ok (.iaload, 1) := by decide +kernel
theorem d_M_comes_18 : decode b_M_comes 18 = .ok (.putfield 26, 3) := by decide +kernel
theorem d_M_comes_21 : decode b_M_comes 21 = .ok (.iconst 1, 1) := by decide +kernel
theorem d_M_comes_22 : decode b_M_comes 22 = .ok (.ireturn, 1) := by decide +kernel
theorem d_M_comes_23 : decode b_M_comes 23 = .ok (.aload_n 0, 1) := by decide +kernel
theorem d_M_comes_24 : decode b_M_comes 24 = .ok (.getfield 32, 3) := by decide +kernel
theorem d_M_comes_27 : decode b_M_comes 27 = .ok (.iload_n 1, 1) := by decide +kernel
theorem d_M_comes_28 : decode b_M_comes 28 = .ok (.iaload, 1) := by decide +kernel
theorem d_M_comes_29 : decode b_M_comes 29 = .ok (.bipush 108, 2) := by decide +kernel
theorem d_M_comes_31 : decode b_M_comes 31 = .ok (.if_icmp .ne 53, 3) := by decide +kernel
theorem d_M_comes_34 : decode b_M_comes 34 = .ok (.aload_n 0, 1) := by decide +kernel
theorem d_M_comes_35 : decode b_M_comes 35 = .ok (.aload_n 0, 1) := by decide +kernel
theorem d_M_comes_36 : decode b_M_comes 36 = .ok (.getfield 38, 3) := by decide +kernel
theorem d_M_comes_39 : decode b_M_comes 39 = .ok (.iload_n 1, 1) := by decide +kernel
theorem d_M_comes_40 : decode b_M_comes 40 = .ok (.iaload, 1) := by decide +kernel
theorem d_M_comes_41 : decode b_M_comes 41 = .ok (.putfield 112, 3) := by decide +kernel
theorem d_M_comes_44 : decode b_M_comes 44 = .ok (.aload_n 0, 1) := by decide +kernel
theorem d_M_comes_45 : decode b_M_comes 45 = .ok (.aload_n 0, 1) := by decide +kernel
theorem d_M_comes_46 : decode b_M_comes 46 = .ok (.getfield 41, 3) := by decide +kernel
theorem d_M_comes_49 : decode b_M_comes 49 = .ok (.iload_n 1, 1) := by decide +kernel
theorem d_M_comes_50 : decode b_M_comes 50 = .ok (.iaload, 1) := by decide +kernel
theorem d_M_comes_51 : decode b_M_comes 51 = .ok (.putfield 22, 3) := by decide +kernel
theorem d_M_comes_54 : decode b_M_comes 54 = .ok (.aload_n 0, 1) := by decide +kernel
theorem d_M_comes_55 : decode b_M_comes 55 = .ok (.getfield 38, 3) := by decide +kernel
theorem d_M_comes_58 : decode b_M_comes 58 = .ok (.iload_n 1, 1) := by decide +kernel
theorem d_M_comes_59 : decode b_M_comes 59 = .ok (.iaload, 1) := by decide +kernel
theorem d_M_comes_60 : decode b_M_comes 60 = .ok (.iconst 3, 1) := by decide +kernel
theorem d_M_comes_61 : decode b_M_comes 61 = .ok (.if_icmp .ge 21, 3) := by decide +kernel
theorem d_M_comes_64 : decode b_M_comes 64 = .ok (.aload_n 0, 1) := by decide +kernel
theorem d_M_comes_65 : decode b_M_comes 65 = .ok (.getfield 41, 3) := by decide +kernel
theorem d_M_comes_68 : decode b_M_comes 68 = .ok (.iload_n 1, 1) := by decide +kernel
theorem d_M_comes_69 : decode b_M_comes 69 = .ok (.iaload, 1) := by decide +kernel
theorem d_M_comes_70 : decode b_M_comes 70 = .ok (.iconst 1, 1) := by decide +kernel
theorem d_M_comes_71 : decode b_M_comes 71 = .ok (.iconst 3, 1) := by decide +kernel
theorem d_M_comes_72 : decode b_M_comes 72 = .ok (.invokestatic 99, 3) := by decide +kernel
theorem d_M_comes_75 : decode b_M_comes 75 = .ok (.ifCond .eq 7, 3) := by decide +kernel
theorem d_M_comes_78 : decode b_M_comes 78 = .ok (.iconst 1, 1) := by decide +kernel
theorem d_M_comes_79 : decode b_M_comes 79 = .ok (.goto 4, 3) := by decide +kernel
theorem d_M_comes_82 : decode b_M_comes 82 = .ok (.iconst 0, 1) := by decide +kernel
theorem d_M_comes_83 : decode b_M_comes 83 = .ok (.ireturn, 1) := by decide +kernel
theorem d_M_comes_84 : decode b_M_comes 84 = .ok (.aload_n 0, 1) := by decide +kernel
theorem d_M_comes_85 : decode b_M_comes 85 = .ok (.getfield 78, 3) := by decide +kernel
theorem d_M_comes_88 : decode b_M_comes 88 = .ok (.bipush 8, 2) := by decide +kernel
theorem d_M_comes_90 : decode b_M_comes 90 = .ok (.if_icmp .ne 5, 3) := by decide +kernel
theorem d_M_comes_93 : decode b_M_comes 93 = .ok (.iconst 0, 1) := by decide +kernel
theorem d_M_comes_94 : decode b_M_comes 94 = .ok (.ireturn, 1) := by decide +kernel
theorem d_M_comes_95 : decode b_M_comes 95 = .ok (.aload_n 0, 1) := by decide +kernel
theorem d_M_comes_96 : decode b_M_comes 96 = .ok (.getfield 13, 3) := by decide +kernel
theorem d_M_comes_99 : decode b_M_comes 99 = .ok (.aload_n 0, 1) := by decide +kernel
theorem d_M_comes_100 : decode b_M_comes 100 = .ok (.getfield 78, 3) := by decide +kernel
theorem d_M_comes_103 : decode b_M_comes 103 = .ok (.aload_n 0, 1) := by decide +kernel
theorem d_M_comes_104 : decode b_M_comes 104 = .ok (.getfield 38, 3) := by decide +kernel
theorem d_M_comes_107 : decode b_M_comes 107 = .ok (.iload_n 1, 1) := by decide +kernel
theorem d_M_comes_108 : decode b_M_comes 108 = .ok (.iaload, 1) := by decide +kernel
theorem d_M_comes_109 : decode b_M_comes 109 = .ok (.iastore, 1) := by decide +kernel
theorem d_M_comes_110 : decode b_M_comes 110 = .ok (.aload_n 0, 1) := by decide +kernel
theorem d_M_comes_111 : decode b_M_comes 111 = .ok (.getfield 16, 3) := by decide +kernel
theorem d_M_comes_114 : decode b_M_comes 114 = .ok (.aload_n 0, 1) := by decide +kernel
theorem d_M_comes_115 : decode b_M_comes 115 = .ok (.getfield 78, 3) := by decide +kernel
theorem d_M_comes_118 : decode b_M_comes 118 = .ok (.aload_n 0, 1) := by decide +kernel
theorem d_M_comes_119 : decode b_M_comes 119 = .ok (.getfield 41, 3) := by decide +kernel
theorem d_M_comes_122 : decode b_M_comes 122 = .ok (.iload_n 1, 1) := by decide +kernel
theorem d_M_comes_123 : decode b_M_comes 123 = .ok (.iaload, 1) := by decide +kernel
theorem d_M_comes_124 : decode b_M_comes 124 = .ok (.iastore, 1) := by decide +kernel
theorem d_M_comes_125 : decode b_M_comes 125 = .ok (.aload_n 0, 1) := by decide +kernel
theorem d_M_comes_126 : decode b_M_comes 126 = .ok (.dup, 1) := by decide +kernel
theorem d_M_comes_127 : decode b_M_comes 127 = .ok (.getfield 78, 3) := by decide +kernel
theorem d_M_comes_130 : decode b_M_comes 130 = .ok (.iconst 1, 1) := by decide +kernel
theorem d_M_comes_131 : decode b_M_comes 131 = .ok (.iadd, 1) := by decide +kernel
theorem d_M_comes_132 : decode b_M_comes 132 = .ok (.putfield 78, 3) := by decide +kernel
theorem d_M_comes_135 : decode b_M_comes 135 = .ok (.iconst 1, 1) := by decide +kernel
theorem d_M_comes_136 : decode b_M_comes 136 = .ok (.ireturn, 1) := by decide +kernel
set_option maxHeartbeats 4000000 in
set_option maxRecDepth 100000 in
theorem c_M_comes {l : Launch} {D : va_G} {cI cJ cC : ClassId} (a_h a_h_refused a_h_kind a_h_sweets a_h_gives a_h_tape a_h_letter a_h_letterAt a_h_one a_h_two a_h_kept a_h_trail a_h_crumb a_h_nextCrumb a_h_goal a_h_start a_h_sits a_h_bestSits a_h_without a_h_row : Nat) (y_h_taped : Int32) (y_h_at : Int32) (y_h_statements : Int32) (y_h_hasImage : Int32) (y_h_beforeMany : Int32) (y_h_found : Int32) (y_h_lots : Int32) (y_h_rowMany : Int32) {z_h_T : MT} {z_h_letter : (Nat → Int32)} {z_h_one : (Nat → Int32)} {z_h_two : (Nat → Int32)} {x1 : Int32} {q : Int32 × MT} (hf : f_M_comes z_h_T z_h_letter z_h_one z_h_two x1 = some q) : xI l y_M_comes b_M_comes 2 .boolean 1 22 D (tyK cI cJ cC) xE0 [.ref a_h, .int x1] (w_M_comes cI cJ cC a_h a_h_refused a_h_kind a_h_sweets a_h_gives a_h_tape a_h_letter a_h_letterAt a_h_one a_h_two a_h_kept a_h_trail a_h_crumb a_h_nextCrumb a_h_goal a_h_start a_h_sits a_h_bestSits a_h_without a_h_row y_h_taped y_h_at y_h_statements y_h_hasImage y_h_beforeMany y_h_found y_h_lots y_h_rowMany (m_many z_h_T) (m_odd z_h_T) (m_step z_h_T) (m_bag z_h_T) (m_strokes z_h_T) (m_gave z_h_T) (m_threw z_h_T) (m_isKeeping z_h_T) (m_cursor z_h_T) (m_kind z_h_T) (m_sweets z_h_T) (m_gives z_h_T) z_h_letter z_h_one z_h_two (m_kept z_h_T)) q.1 (w_M_comes cI cJ cC a_h a_h_refused a_h_kind a_h_sweets a_h_gives a_h_tape a_h_letter a_h_letterAt a_h_one a_h_two a_h_kept a_h_trail a_h_crumb a_h_nextCrumb a_h_goal a_h_start a_h_sits a_h_bestSits a_h_without a_h_row y_h_taped y_h_at y_h_statements y_h_hasImage y_h_beforeMany y_h_found y_h_lots y_h_rowMany (m_many q.2) (m_odd q.2) (m_step q.2) (m_bag q.2) (m_strokes q.2) (m_gave q.2) (m_threw q.2) (m_isKeeping q.2) (m_cursor q.2) (m_kind q.2) (m_sweets q.2) (m_gives q.2) z_h_letter z_h_one z_h_two (m_kept q.2)) := by
  refine xI_of (by decide) (Nat.le_of_ble_eq_true rfl) ?_
  intro p e s m args below meth c A Q hx hb hml hown hT hA hP hD hK hS hE hret ls hl
  have hown : s.vm.findClass R_M = some m.cls := hown
  have hl : lv_has ls 2 [(0, .ref a_h), (1, .int x1)] := hl
  unfold f_M_comes at hf
  refine lv_aload_n hx hb d_M_comes_0 rfl (lv_at hl 0 rfl) ?_
  refine va_get hx hb hT i_M hown hK hP 0 rfl rfl 12 (Nat.le_of_ble_eq_true rfl) (hT _ k_770) (fun _ h => h) rfl d_M_comes_1 ?_
  refine lv_iload_n hx hb d_M_comes_4 rfl (lv_at hl 1 rfl) ?_
  obtain ⟨c1, hf⟩ := io_n hf
  refine x_iald hx hb hK hP 4 0 rfl rfl (j := x1.toNatClampNeg) rfl c1 d_M_comes_5 ?_
  refine lv_bipush (v := 103) hx hb d_M_comes_6 (by decide) ?_
  refine lv_icmp_ne (tgt := 23) hx hb d_M_comes_8 (by decide) (fun c2 => ?_) (fun c2 => ?_)
  · have hf := io_f hf c2
    refine lv_aload_n hx hb d_M_comes_23 rfl (lv_at hl 0 rfl) ?_
    refine va_get hx hb hT i_M hown hK hP 0 rfl rfl 12 (Nat.le_of_ble_eq_true rfl) (hT _ k_770) (fun _ h => h) rfl d_M_comes_24 ?_
    refine lv_iload_n hx hb d_M_comes_27 rfl (lv_at hl 1 rfl) ?_
    refine x_iald hx hb hK hP 4 0 rfl rfl (j := x1.toNatClampNeg) rfl c1 d_M_comes_28 ?_
    refine lv_bipush (v := 108) hx hb d_M_comes_29 (by decide) ?_
    refine lv_icmp_ne (tgt := 84) hx hb d_M_comes_31 (by decide) (fun c3 => ?_) (fun c3 => ?_)
    · have hf := io_f hf c3
      refine lv_aload_n hx hb d_M_comes_84 rfl (lv_at hl 0 rfl) ?_
      refine va_get hx hb hT i_M hown hK hP 0 rfl rfl 4 (Nat.le_of_ble_eq_true rfl) (hT _ k_762) (fun _ h => h) rfl d_M_comes_85 ?_
      refine lv_bipush (v := 8) hx hb d_M_comes_88 (by decide) ?_
      refine lv_icmp_ne (tgt := 95) hx hb d_M_comes_90 (by decide) (fun c4 => ?_) (fun c4 => ?_)
      · have hf := io_f hf c4
        refine lv_aload_n hx hb d_M_comes_95 rfl (lv_at hl 0 rfl) ?_
        refine va_get hx hb hT i_M hown hK hP 0 rfl rfl 1 (Nat.le_of_ble_eq_true rfl) (hT _ k_759) (fun _ h => h) rfl d_M_comes_96 ?_
        refine lv_aload_n hx hb d_M_comes_99 rfl (lv_at hl 0 rfl) ?_
        refine va_get hx hb hT i_M hown hK hP 0 rfl rfl 4 (Nat.le_of_ble_eq_true rfl) (hT _ k_762) (fun _ h => h) rfl d_M_comes_100 ?_
        refine lv_aload_n hx hb d_M_comes_103 rfl (lv_at hl 0 rfl) ?_
        refine va_get hx hb hT i_M hown hK hP 0 rfl rfl 14 (Nat.le_of_ble_eq_true rfl) (hT _ k_772) (fun _ h => h) rfl d_M_comes_104 ?_
        refine lv_iload_n hx hb d_M_comes_107 rfl (lv_at hl 1 rfl) ?_
        refine x_iald hx hb hK hP 5 0 rfl rfl (j := x1.toNatClampNeg) rfl c1 d_M_comes_108 ?_
        obtain ⟨c5, hf⟩ := io_n hf
        refine x_iast hx hb hK hP hD hS 1 0 rfl rfl (j := (m_many z_h_T).toNatClampNeg) rfl c5 d_M_comes_109 (fun H locs hP hD hS => ?_)
        have hP : va_P D classes (w_M_comes cI cJ cC a_h a_h_refused a_h_kind a_h_sweets a_h_gives a_h_tape a_h_letter a_h_letterAt a_h_one a_h_two a_h_kept a_h_trail a_h_crumb a_h_nextCrumb a_h_goal a_h_start a_h_sits a_h_bestSits a_h_without a_h_row y_h_taped y_h_at y_h_statements y_h_hasImage y_h_beforeMany y_h_found y_h_lots y_h_rowMany (m_many z_h_T) (m_odd z_h_T) (m_step z_h_T) (m_bag z_h_T) (m_strokes z_h_T) (m_gave z_h_T) (m_threw z_h_T) (m_isKeeping z_h_T) (m_cursor z_h_T) (upd (m_kind z_h_T) (m_many z_h_T).toNatClampNeg (z_h_one x1.toNatClampNeg)) (m_sweets z_h_T) (m_gives z_h_T) z_h_letter z_h_one z_h_two (m_kept z_h_T)) H := hP
        have hD : va_D A (w_M_comes cI cJ cC a_h a_h_refused a_h_kind a_h_sweets a_h_gives a_h_tape a_h_letter a_h_letterAt a_h_one a_h_two a_h_kept a_h_trail a_h_crumb a_h_nextCrumb a_h_goal a_h_start a_h_sits a_h_bestSits a_h_without a_h_row y_h_taped y_h_at y_h_statements y_h_hasImage y_h_beforeMany y_h_found y_h_lots y_h_rowMany (m_many z_h_T) (m_odd z_h_T) (m_step z_h_T) (m_bag z_h_T) (m_strokes z_h_T) (m_gave z_h_T) (m_threw z_h_T) (m_isKeeping z_h_T) (m_cursor z_h_T) (upd (m_kind z_h_T) (m_many z_h_T).toNatClampNeg (z_h_one x1.toNatClampNeg)) (m_sweets z_h_T) (m_gives z_h_T) z_h_letter z_h_one z_h_two (m_kept z_h_T)) := hD
        refine lv_aload_n hx hb d_M_comes_110 rfl (lv_at hl 0 rfl) ?_
        refine va_get hx hb hT i_M hown hK hP 0 rfl rfl 2 (Nat.le_of_ble_eq_true rfl) (hT _ k_760) (fun _ h => h) rfl d_M_comes_111 ?_
        refine lv_aload_n hx hb d_M_comes_114 rfl (lv_at hl 0 rfl) ?_
        refine va_get hx hb hT i_M hown hK hP 0 rfl rfl 4 (Nat.le_of_ble_eq_true rfl) (hT _ k_762) (fun _ h => h) rfl d_M_comes_115 ?_
        refine lv_aload_n hx hb d_M_comes_118 rfl (lv_at hl 0 rfl) ?_
        refine va_get hx hb hT i_M hown hK hP 0 rfl rfl 15 (Nat.le_of_ble_eq_true rfl) (hT _ k_773) (fun _ h => h) rfl d_M_comes_119 ?_
        refine lv_iload_n hx hb d_M_comes_122 rfl (lv_at hl 1 rfl) ?_
        refine x_iald hx hb hK hP 6 0 rfl rfl (j := x1.toNatClampNeg) rfl c1 d_M_comes_123 ?_
        refine x_iast hx hb hK hP hD hS 2 0 rfl rfl (j := (m_many z_h_T).toNatClampNeg) rfl c5 d_M_comes_124 (fun H locs hP hD hS => ?_)
        have hP : va_P D classes (w_M_comes cI cJ cC a_h a_h_refused a_h_kind a_h_sweets a_h_gives a_h_tape a_h_letter a_h_letterAt a_h_one a_h_two a_h_kept a_h_trail a_h_crumb a_h_nextCrumb a_h_goal a_h_start a_h_sits a_h_bestSits a_h_without a_h_row y_h_taped y_h_at y_h_statements y_h_hasImage y_h_beforeMany y_h_found y_h_lots y_h_rowMany (m_many z_h_T) (m_odd z_h_T) (m_step z_h_T) (m_bag z_h_T) (m_strokes z_h_T) (m_gave z_h_T) (m_threw z_h_T) (m_isKeeping z_h_T) (m_cursor z_h_T) (upd (m_kind z_h_T) (m_many z_h_T).toNatClampNeg (z_h_one x1.toNatClampNeg)) (upd (m_sweets z_h_T) (m_many z_h_T).toNatClampNeg (z_h_two x1.toNatClampNeg)) (m_gives z_h_T) z_h_letter z_h_one z_h_two (m_kept z_h_T)) H := hP
        have hD : va_D A (w_M_comes cI cJ cC a_h a_h_refused a_h_kind a_h_sweets a_h_gives a_h_tape a_h_letter a_h_letterAt a_h_one a_h_two a_h_kept a_h_trail a_h_crumb a_h_nextCrumb a_h_goal a_h_start a_h_sits a_h_bestSits a_h_without a_h_row y_h_taped y_h_at y_h_statements y_h_hasImage y_h_beforeMany y_h_found y_h_lots y_h_rowMany (m_many z_h_T) (m_odd z_h_T) (m_step z_h_T) (m_bag z_h_T) (m_strokes z_h_T) (m_gave z_h_T) (m_threw z_h_T) (m_isKeeping z_h_T) (m_cursor z_h_T) (upd (m_kind z_h_T) (m_many z_h_T).toNatClampNeg (z_h_one x1.toNatClampNeg)) (upd (m_sweets z_h_T) (m_many z_h_T).toNatClampNeg (z_h_two x1.toNatClampNeg)) (m_gives z_h_T) z_h_letter z_h_one z_h_two (m_kept z_h_T)) := hD
        refine lv_aload_n hx hb d_M_comes_125 rfl (lv_at hl 0 rfl) ?_
        refine lv_dup hx hb d_M_comes_126 rfl ?_
        refine va_get hx hb hT i_M hown hK hP 0 rfl rfl 4 (Nat.le_of_ble_eq_true rfl) (hT _ k_762) (fun _ h => h) rfl d_M_comes_127 ?_
        refine lv_iconst (v := 1) hx hb d_M_comes_130 (by decide) ?_
        refine lv_iadd hx hb d_M_comes_131 ?_
        refine va_put (ty := .int) hx hb hT i_M t_M t_M_ok n_M hown hK hP hD hS 0 rfl rfl 4 (Nat.le_of_ble_eq_true rfl) (hT _ k_762) (fun _ h => h) rfl rfl rfl rfl (Nat.le_of_ble_eq_true rfl) d_M_comes_132 (fun H locs hP hD hS => ?_)
        have hP : va_P D classes (w_M_comes cI cJ cC a_h a_h_refused a_h_kind a_h_sweets a_h_gives a_h_tape a_h_letter a_h_letterAt a_h_one a_h_two a_h_kept a_h_trail a_h_crumb a_h_nextCrumb a_h_goal a_h_start a_h_sits a_h_bestSits a_h_without a_h_row y_h_taped y_h_at y_h_statements y_h_hasImage y_h_beforeMany y_h_found y_h_lots y_h_rowMany ((m_many z_h_T) + 1) (m_odd z_h_T) (m_step z_h_T) (m_bag z_h_T) (m_strokes z_h_T) (m_gave z_h_T) (m_threw z_h_T) (m_isKeeping z_h_T) (m_cursor z_h_T) (upd (m_kind z_h_T) (m_many z_h_T).toNatClampNeg (z_h_one x1.toNatClampNeg)) (upd (m_sweets z_h_T) (m_many z_h_T).toNatClampNeg (z_h_two x1.toNatClampNeg)) (m_gives z_h_T) z_h_letter z_h_one z_h_two (m_kept z_h_T)) H := hP
        have hD : va_D A (w_M_comes cI cJ cC a_h a_h_refused a_h_kind a_h_sweets a_h_gives a_h_tape a_h_letter a_h_letterAt a_h_one a_h_two a_h_kept a_h_trail a_h_crumb a_h_nextCrumb a_h_goal a_h_start a_h_sits a_h_bestSits a_h_without a_h_row y_h_taped y_h_at y_h_statements y_h_hasImage y_h_beforeMany y_h_found y_h_lots y_h_rowMany ((m_many z_h_T) + 1) (m_odd z_h_T) (m_step z_h_T) (m_bag z_h_T) (m_strokes z_h_T) (m_gave z_h_T) (m_threw z_h_T) (m_isKeeping z_h_T) (m_cursor z_h_T) (upd (m_kind z_h_T) (m_many z_h_T).toNatClampNeg (z_h_one x1.toNatClampNeg)) (upd (m_sweets z_h_T) (m_many z_h_T).toNatClampNeg (z_h_two x1.toNatClampNeg)) (m_gives z_h_T) z_h_letter z_h_one z_h_two (m_kept z_h_T)) := hD
        refine lv_iconst (v := 1) hx hb d_M_comes_135 (by decide) ?_
        have hq := Option.some.inj hf
        subst hq
        exact hret _ _ _ _ _ d_M_comes_136 (by decide) rfl hP hD hS
      · have hf := io_t hf c4
        refine lv_iconst (v := 0) hx hb d_M_comes_93 (by decide) ?_
        have hq := Option.some.inj hf
        subst hq
        exact hret _ _ _ _ _ d_M_comes_94 (by decide) rfl hP hD hS
    · have hf := io_t hf c3
      refine lv_aload_n hx hb d_M_comes_34 rfl (lv_at hl 0 rfl) ?_
      refine lv_aload_n hx hb d_M_comes_35 rfl (lv_at hl 0 rfl) ?_
      refine va_get hx hb hT i_M hown hK hP 0 rfl rfl 14 (Nat.le_of_ble_eq_true rfl) (hT _ k_772) (fun _ h => h) rfl d_M_comes_36 ?_
      refine lv_iload_n hx hb d_M_comes_39 rfl (lv_at hl 1 rfl) ?_
      refine x_iald hx hb hK hP 5 0 rfl rfl (j := x1.toNatClampNeg) rfl c1 d_M_comes_40 ?_
      refine va_put (ty := .int) hx hb hT i_M t_M t_M_ok n_M hown hK hP hD hS 0 rfl rfl 5 (Nat.le_of_ble_eq_true rfl) (hT _ k_763) (fun _ h => h) rfl rfl rfl rfl (Nat.le_of_ble_eq_true rfl) d_M_comes_41 (fun H locs hP hD hS => ?_)
      have hP : va_P D classes (w_M_comes cI cJ cC a_h a_h_refused a_h_kind a_h_sweets a_h_gives a_h_tape a_h_letter a_h_letterAt a_h_one a_h_two a_h_kept a_h_trail a_h_crumb a_h_nextCrumb a_h_goal a_h_start a_h_sits a_h_bestSits a_h_without a_h_row y_h_taped y_h_at y_h_statements y_h_hasImage y_h_beforeMany y_h_found y_h_lots y_h_rowMany (m_many z_h_T) (z_h_one x1.toNatClampNeg) (m_step z_h_T) (m_bag z_h_T) (m_strokes z_h_T) (m_gave z_h_T) (m_threw z_h_T) (m_isKeeping z_h_T) (m_cursor z_h_T) (m_kind z_h_T) (m_sweets z_h_T) (m_gives z_h_T) z_h_letter z_h_one z_h_two (m_kept z_h_T)) H := hP
      have hD : va_D A (w_M_comes cI cJ cC a_h a_h_refused a_h_kind a_h_sweets a_h_gives a_h_tape a_h_letter a_h_letterAt a_h_one a_h_two a_h_kept a_h_trail a_h_crumb a_h_nextCrumb a_h_goal a_h_start a_h_sits a_h_bestSits a_h_without a_h_row y_h_taped y_h_at y_h_statements y_h_hasImage y_h_beforeMany y_h_found y_h_lots y_h_rowMany (m_many z_h_T) (z_h_one x1.toNatClampNeg) (m_step z_h_T) (m_bag z_h_T) (m_strokes z_h_T) (m_gave z_h_T) (m_threw z_h_T) (m_isKeeping z_h_T) (m_cursor z_h_T) (m_kind z_h_T) (m_sweets z_h_T) (m_gives z_h_T) z_h_letter z_h_one z_h_two (m_kept z_h_T)) := hD
      refine lv_aload_n hx hb d_M_comes_44 rfl (lv_at hl 0 rfl) ?_
      refine lv_aload_n hx hb d_M_comes_45 rfl (lv_at hl 0 rfl) ?_
      refine va_get hx hb hT i_M hown hK hP 0 rfl rfl 15 (Nat.le_of_ble_eq_true rfl) (hT _ k_773) (fun _ h => h) rfl d_M_comes_46 ?_
      refine lv_iload_n hx hb d_M_comes_49 rfl (lv_at hl 1 rfl) ?_
      refine x_iald hx hb hK hP 6 0 rfl rfl (j := x1.toNatClampNeg) rfl c1 d_M_comes_50 ?_
      refine va_put (ty := .int) hx hb hT i_M t_M t_M_ok n_M hown hK hP hD hS 0 rfl rfl 6 (Nat.le_of_ble_eq_true rfl) (hT _ k_764) (fun _ h => h) rfl rfl rfl rfl (Nat.le_of_ble_eq_true rfl) d_M_comes_51 (fun H locs hP hD hS => ?_)
      have hP : va_P D classes (w_M_comes cI cJ cC a_h a_h_refused a_h_kind a_h_sweets a_h_gives a_h_tape a_h_letter a_h_letterAt a_h_one a_h_two a_h_kept a_h_trail a_h_crumb a_h_nextCrumb a_h_goal a_h_start a_h_sits a_h_bestSits a_h_without a_h_row y_h_taped y_h_at y_h_statements y_h_hasImage y_h_beforeMany y_h_found y_h_lots y_h_rowMany (m_many z_h_T) (z_h_one x1.toNatClampNeg) (z_h_two x1.toNatClampNeg) (m_bag z_h_T) (m_strokes z_h_T) (m_gave z_h_T) (m_threw z_h_T) (m_isKeeping z_h_T) (m_cursor z_h_T) (m_kind z_h_T) (m_sweets z_h_T) (m_gives z_h_T) z_h_letter z_h_one z_h_two (m_kept z_h_T)) H := hP
      have hD : va_D A (w_M_comes cI cJ cC a_h a_h_refused a_h_kind a_h_sweets a_h_gives a_h_tape a_h_letter a_h_letterAt a_h_one a_h_two a_h_kept a_h_trail a_h_crumb a_h_nextCrumb a_h_goal a_h_start a_h_sits a_h_bestSits a_h_without a_h_row y_h_taped y_h_at y_h_statements y_h_hasImage y_h_beforeMany y_h_found y_h_lots y_h_rowMany (m_many z_h_T) (z_h_one x1.toNatClampNeg) (z_h_two x1.toNatClampNeg) (m_bag z_h_T) (m_strokes z_h_T) (m_gave z_h_T) (m_threw z_h_T) (m_isKeeping z_h_T) (m_cursor z_h_T) (m_kind z_h_T) (m_sweets z_h_T) (m_gives z_h_T) z_h_letter z_h_one z_h_two (m_kept z_h_T)) := hD
      refine lv_aload_n hx hb d_M_comes_54 rfl (lv_at hl 0 rfl) ?_
      refine va_get hx hb hT i_M hown hK hP 0 rfl rfl 14 (Nat.le_of_ble_eq_true rfl) (hT _ k_772) (fun _ h => h) rfl d_M_comes_55 ?_
      refine lv_iload_n hx hb d_M_comes_58 rfl (lv_at hl 1 rfl) ?_
      refine x_iald hx hb hK hP 5 0 rfl rfl (j := x1.toNatClampNeg) rfl c1 d_M_comes_59 ?_
      refine lv_iconst (v := 3) hx hb d_M_comes_60 (by decide) ?_
      refine lv_icmp_ge (tgt := 82) hx hb d_M_comes_61 (by decide) (fun c6 => ?_) (fun c6 => ?_)
      · have hf := io_t hf c6
        refine lv_iconst (v := 0) hx hb d_M_comes_82 (by decide) ?_
        have hq := Option.some.inj hf
        subst hq
        exact hret _ _ _ _ _ d_M_comes_83 (by decide) rfl hP hD hS
      · have hf := io_f hf c6
        refine lv_aload_n hx hb d_M_comes_64 rfl (lv_at hl 0 rfl) ?_
        refine va_get hx hb hT i_M hown hK hP 0 rfl rfl 15 (Nat.le_of_ble_eq_true rfl) (hT _ k_773) (fun _ h => h) rfl d_M_comes_65 ?_
        refine lv_iload_n hx hb d_M_comes_68 rfl (lv_at hl 1 rfl) ?_
        refine x_iald hx hb hK hP 6 0 rfl rfl (j := x1.toNatClampNeg) rfl c1 d_M_comes_69 ?_
        refine lv_iconst (v := 1) hx hb d_M_comes_70 (by decide) ?_
        refine lv_iconst (v := 3) hx hb d_M_comes_71 (by decide) ?_
        obtain ⟨q7, hq7, hf⟩ := io_b hf
        refine xcSI (wc := []) (wc' := []) (ws' := (w_M_comes cI cJ cC a_h a_h_refused a_h_kind a_h_sweets a_h_gives a_h_tape a_h_letter a_h_letterAt a_h_one a_h_two a_h_kept a_h_trail a_h_crumb a_h_nextCrumb a_h_goal a_h_start a_h_sits a_h_bestSits a_h_without a_h_row y_h_taped y_h_at y_h_statements y_h_hasImage y_h_beforeMany y_h_found y_h_lots y_h_rowMany (m_many z_h_T) (z_h_one x1.toNatClampNeg) (z_h_two x1.toNatClampNeg) (m_bag z_h_T) (m_strokes z_h_T) (m_gave z_h_T) (m_threw z_h_T) (m_isKeeping z_h_T) (m_cursor z_h_T) (m_kind z_h_T) (m_sweets z_h_T) (m_gives z_h_T) z_h_letter z_h_one z_h_two (m_kept z_h_T))) (As := [.int (z_h_two x1.toNatClampNeg), .int 1, .int 3]) (rest := []) hx hb hml hown hT (c_M_isIn hq7) k_897 k_898 k_8 k_899 hd_M_isIn ⟨Nat.le_of_ble_eq_true rfl, Nat.le_of_ble_eq_true rfl⟩ xE0_ok trivial hA hK hP hD hS [] [0, 1, 2, 3, 4, 5, 6, 7] [0, 1, 2, 3, 4, 5, 6, 7] rfl rfl rfl rfl rfl rfl rfl hl.1 rfl (Nat.le_of_ble_eq_true rfl) ⟨Nat.zero_le _, Nat.zero_le _⟩ d_M_comes_72 (fun H locs hP hD hS => ?_)
        refine lv_if_eq (tgt := 82) hx hb d_M_comes_75 (by decide) (fun c8 => ?_) (fun c8 => ?_)
        · have hf := io_t hf c8
          refine lv_iconst (v := 0) hx hb d_M_comes_82 (by decide) ?_
          have hq := Option.some.inj hf
          subst hq
          exact hret _ _ _ _ _ d_M_comes_83 (by decide) rfl hP hD hS
        · have hf := io_f hf c8
          refine lv_iconst (v := 1) hx hb d_M_comes_78 (by decide) ?_
          refine lv_goto (tgt := 83) hx hb d_M_comes_79 (by decide) ?_
          have hq := Option.some.inj hf
          subst hq
          exact hret _ _ _ _ _ d_M_comes_83 (by decide) rfl hP hD hS
  · have hf := io_t hf c2
    refine lv_aload_n hx hb d_M_comes_11 rfl (lv_at hl 0 rfl) ?_
    refine lv_aload_n hx hb d_M_comes_12 rfl (lv_at hl 0 rfl) ?_
    refine va_get hx hb hT i_M hown hK hP 0 rfl rfl 14 (Nat.le_of_ble_eq_true rfl) (hT _ k_772) (fun _ h => h) rfl d_M_comes_13 ?_
    refine lv_iload_n hx hb d_M_comes_16 rfl (lv_at hl 1 rfl) ?_
    refine x_iald hx hb hK hP 5 0 rfl rfl (j := x1.toNatClampNeg) rfl c1 d_M_comes_17 ?_
    refine va_put (ty := .int) hx hb hT i_M t_M t_M_ok n_M hown hK hP hD hS 0 rfl rfl 7 (Nat.le_of_ble_eq_true rfl) (hT _ k_765) (fun _ h => h) rfl rfl rfl rfl (Nat.le_of_ble_eq_true rfl) d_M_comes_18 (fun H locs hP hD hS => ?_)
    have hP : va_P D classes (w_M_comes cI cJ cC a_h a_h_refused a_h_kind a_h_sweets a_h_gives a_h_tape a_h_letter a_h_letterAt a_h_one a_h_two a_h_kept a_h_trail a_h_crumb a_h_nextCrumb a_h_goal a_h_start a_h_sits a_h_bestSits a_h_without a_h_row y_h_taped y_h_at y_h_statements y_h_hasImage y_h_beforeMany y_h_found y_h_lots y_h_rowMany (m_many z_h_T) (m_odd z_h_T) (m_step z_h_T) (z_h_one x1.toNatClampNeg) (m_strokes z_h_T) (m_gave z_h_T) (m_threw z_h_T) (m_isKeeping z_h_T) (m_cursor z_h_T) (m_kind z_h_T) (m_sweets z_h_T) (m_gives z_h_T) z_h_letter z_h_one z_h_two (m_kept z_h_T)) H := hP
    have hD : va_D A (w_M_comes cI cJ cC a_h a_h_refused a_h_kind a_h_sweets a_h_gives a_h_tape a_h_letter a_h_letterAt a_h_one a_h_two a_h_kept a_h_trail a_h_crumb a_h_nextCrumb a_h_goal a_h_start a_h_sits a_h_bestSits a_h_without a_h_row y_h_taped y_h_at y_h_statements y_h_hasImage y_h_beforeMany y_h_found y_h_lots y_h_rowMany (m_many z_h_T) (m_odd z_h_T) (m_step z_h_T) (z_h_one x1.toNatClampNeg) (m_strokes z_h_T) (m_gave z_h_T) (m_threw z_h_T) (m_isKeeping z_h_T) (m_cursor z_h_T) (m_kind z_h_T) (m_sweets z_h_T) (m_gives z_h_T) z_h_letter z_h_one z_h_two (m_kept z_h_T)) := hD
    refine lv_iconst (v := 1) hx hb d_M_comes_21 (by decide) ?_
    have hq := Option.some.inj hf
    subst hq
    exact hret _ _ _ _ _ d_M_comes_22 (by decide) rfl hP hD hS
abbrev w_M_passOne (cI cJ cC : ClassId) (a_h a_h_refused a_h_kind a_h_sweets a_h_gives a_h_tape a_h_letter a_h_letterAt a_h_one a_h_two a_h_kept a_h_trail a_h_crumb a_h_nextCrumb a_h_goal a_h_start a_h_sits a_h_bestSits a_h_without a_h_row : Nat) (y_h_taped : Int32) (y_h_at : Int32) (y_h_statements : Int32) (y_h_hasImage : Int32) (y_h_beforeMany : Int32) (y_h_found : Int32) (y_h_lots : Int32) (y_h_rowMany : Int32) (p_h_many : Int32) (p_h_odd : Int32) (p_h_step : Int32) (p_h_bag : Int32) (p_h_strokes : Int32) (p_h_gave : Int32) (p_h_threw : Int32) (p_h_isKeeping : Int32) (p_h_cursor : Int32) (p_h_kind : (Nat → Int32)) (p_h_sweets : (Nat → Int32)) (p_h_gives : (Nat → Int32)) (p_h_kept : (Nat → Int32)) : va_W := [(a_h, .inr (7, [.ref a_h_refused, .ref a_h_kind, .ref a_h_sweets, .ref a_h_gives, .int p_h_many, .int p_h_odd, .int p_h_step, .int p_h_bag, .int p_h_strokes, .int p_h_gave, .int p_h_threw, .ref a_h_tape, .ref a_h_letter, .ref a_h_letterAt, .ref a_h_one, .ref a_h_two, .int y_h_taped, .int y_h_at, .int y_h_statements, .ref a_h_kept, .int y_h_hasImage, .int p_h_isKeeping, .int p_h_cursor, .ref a_h_trail, .ref a_h_crumb, .ref a_h_nextCrumb, .ref a_h_goal, .ref a_h_start, .int y_h_beforeMany, .int y_h_found, .ref a_h_sits, .ref a_h_bestSits, .ref a_h_without, .int y_h_lots, .ref a_h_row, .int y_h_rowMany])), (a_h_kind, .inl (cI, (8, .inl p_h_kind))), (a_h_sweets, .inl (cI, (8, .inl p_h_sweets))), (a_h_gives, .inl (cI, (8, .inl p_h_gives))), (a_h_kept, .inl (cI, (90, .inl p_h_kept)))]
theorem d_M_passOne_0 : decode b_M_passOne 0 = .ok (.aload_n 0, 1) := by decide +kernel
theorem d_M_passOne_1 : decode b_M_passOne 1 = .ok (.getfield 127, 3) := by decide +kernel
theorem d_M_passOne_4 : decode b_M_passOne 4 = .ok (.ifCond .eq 7, 3) := by decide +kernel
theorem d_M_passOne_7 : decode b_M_passOne 7 = .ok (.iload_n 1, 1) := by decide +kernel
theorem d_M_passOne_8 : decode b_M_passOne 8 = .ok (.goto 12, 3) := by decide +kernel
theorem d_M_passOne_11 : decode b_M_passOne 11 = .ok (.aload_n 0, 1) := by decide +kernel
theorem d_M_passOne_12 : decode b_M_passOne 12 = .ok (.getfield 44, 3) := by decide +kernel
theorem d_M_passOne_15 : decode b_M_passOne 15 = .ok (.aload_n 0, 1) := by decide +kernel
theorem d_M_passOne_16 : decode b_M_passOne 16 = .ok (.getfield 131, 3) := by decide +kernel
theorem d_M_passOne_19 : decode b_M_passOne 19 = .ok (.iaload, 1) := by decide +kernel
theorem d_M_passOne_20 : decode b_M_passOne 20 = .ok (.istore_n 2, 1) := by decide +kernel
theorem d_M_passOne_21 : decode b_M_passOne 21 = .ok (.aload_n 0, 1) := by decide +kernel
theorem d_M_passOne_22 : decode b_M_passOne 22 = .ok (.getfield 127, 3) := by decide +kernel
theorem d_M_passOne_25 : decode b_M_passOne 25 = .ok (.ifCond .eq 13, 3) := by decide +kernel
theorem d_M_passOne_28 : decode b_M_passOne 28 = .ok (.aload_n 0, 1) := by decide +kernel
theorem d_M_passOne_29 : decode b_M_passOne 29 = .ok (.getfield 44, 3) := by decide +kernel
theorem d_M_passOne_32 : decode b_M_passOne 32 = .ok (.aload_n 0, 1) := by decide +kernel
theorem d_M_passOne_33 : decode b_M_passOne 33 = .ok (.getfield 131, 3) := by decide +kernel
theorem d_M_passOne_36 : decode b_M_passOne 36 = .ok (.iload_n 1, 1) := by decide +kernel
theorem d_M_passOne_37 : decode b_M_passOne 37 = .ok (.iastore, 1) := by decide +kernel
theorem d_M_passOne_38 : decode b_M_passOne 38 = .ok (.aload_n 0, 1) := by decide +kernel
theorem d_M_passOne_39 : decode b_M_passOne 39 = .ok (.dup, 1) := by decide +kernel
theorem d_M_passOne_40 : decode b_M_passOne 40 = .ok (.getfield 131, 3) := by decide +kernel
theorem d_M_passOne_43 : decode b_M_passOne 43 = .ok (.iconst 1, 1) := by decide +kernel
theorem d_M_passOne_44 : decode b_M_passOne 44 = .ok (.iadd, 1) := by decide +kernel
theorem d_M_passOne_45 : decode b_M_passOne 45 = .ok (.putfield 131, 3) := by decide +kernel
theorem d_M_passOne_48 : decode b_M_passOne 48 = .ok (.iload_n 2, 1) := by decide +kernel
theorem d_M_passOne_49 : decode b_M_passOne 49 = .ok (.ireturn, 1) := by decide +kernel
set_option maxHeartbeats 4000000 in
set_option maxRecDepth 100000 in
theorem c_M_passOne {l : Launch} {D : va_G} {cI cJ cC : ClassId} (a_h a_h_refused a_h_kind a_h_sweets a_h_gives a_h_tape a_h_letter a_h_letterAt a_h_one a_h_two a_h_kept a_h_trail a_h_crumb a_h_nextCrumb a_h_goal a_h_start a_h_sits a_h_bestSits a_h_without a_h_row : Nat) (y_h_taped : Int32) (y_h_at : Int32) (y_h_statements : Int32) (y_h_hasImage : Int32) (y_h_beforeMany : Int32) (y_h_found : Int32) (y_h_lots : Int32) (y_h_rowMany : Int32) {z_h_T : MT} {x1 : Int32} {q : Int32 × MT} (hf : f_M_passOne z_h_T x1 = some q) : xI l y_M_passOne b_M_passOne 3 .int 0 0 D (tyK cI cJ cC) xE0 [.ref a_h, .int x1] (w_M_passOne cI cJ cC a_h a_h_refused a_h_kind a_h_sweets a_h_gives a_h_tape a_h_letter a_h_letterAt a_h_one a_h_two a_h_kept a_h_trail a_h_crumb a_h_nextCrumb a_h_goal a_h_start a_h_sits a_h_bestSits a_h_without a_h_row y_h_taped y_h_at y_h_statements y_h_hasImage y_h_beforeMany y_h_found y_h_lots y_h_rowMany (m_many z_h_T) (m_odd z_h_T) (m_step z_h_T) (m_bag z_h_T) (m_strokes z_h_T) (m_gave z_h_T) (m_threw z_h_T) (m_isKeeping z_h_T) (m_cursor z_h_T) (m_kind z_h_T) (m_sweets z_h_T) (m_gives z_h_T) (m_kept z_h_T)) q.1 (w_M_passOne cI cJ cC a_h a_h_refused a_h_kind a_h_sweets a_h_gives a_h_tape a_h_letter a_h_letterAt a_h_one a_h_two a_h_kept a_h_trail a_h_crumb a_h_nextCrumb a_h_goal a_h_start a_h_sits a_h_bestSits a_h_without a_h_row y_h_taped y_h_at y_h_statements y_h_hasImage y_h_beforeMany y_h_found y_h_lots y_h_rowMany (m_many q.2) (m_odd q.2) (m_step q.2) (m_bag q.2) (m_strokes q.2) (m_gave q.2) (m_threw q.2) (m_isKeeping q.2) (m_cursor q.2) (m_kind q.2) (m_sweets q.2) (m_gives q.2) (m_kept q.2)) := by
  refine xI_of (by decide) (Nat.le_of_ble_eq_true rfl) ?_
  intro p e s m args below meth c A Q hx hb hml hown hT hA hP hD hK hS hE hret ls hl
  have hown : s.vm.findClass R_M = some m.cls := hown
  have hl : lv_has ls 3 [(0, .ref a_h), (1, .int x1)] := hl
  unfold f_M_passOne at hf
  refine lv_aload_n hx hb d_M_passOne_0 rfl (lv_at hl 0 rfl) ?_
  refine va_get hx hb hT i_M hown hK hP 0 rfl rfl 21 (Nat.le_of_ble_eq_true rfl) (hT _ k_779) (fun _ h => h) rfl d_M_passOne_1 ?_
  refine lv_if_eq (tgt := 11) hx hb d_M_passOne_4 (by decide) (fun c1 => ?_) (fun c1 => ?_)
  · have hf := io_t hf c1
    refine lv_aload_n hx hb d_M_passOne_11 rfl (lv_at hl 0 rfl) ?_
    refine va_get hx hb hT i_M hown hK hP 0 rfl rfl 19 (Nat.le_of_ble_eq_true rfl) (hT _ k_777) (fun _ h => h) rfl d_M_passOne_12 ?_
    refine lv_aload_n hx hb d_M_passOne_15 rfl (lv_at hl 0 rfl) ?_
    refine va_get hx hb hT i_M hown hK hP 0 rfl rfl 22 (Nat.le_of_ble_eq_true rfl) (hT _ k_780) (fun _ h => h) rfl d_M_passOne_16 ?_
    obtain ⟨c2, hf⟩ := io_n hf
    refine x_iald hx hb hK hP 4 0 rfl rfl (j := (m_cursor z_h_T).toNatClampNeg) rfl c2 d_M_passOne_19 ?_
    refine lv_istore_n (lv' := [(2, .int ((m_kept z_h_T) (m_cursor z_h_T).toNatClampNeg)), (0, .ref a_h), (1, .int x1)]) hx hb d_M_passOne_20 rfl hl (by decide) rfl (fun ls hl => ?_)
    refine lv_aload_n hx hb d_M_passOne_21 rfl (lv_at hl 1 rfl) ?_
    refine va_get hx hb hT i_M hown hK hP 0 rfl rfl 21 (Nat.le_of_ble_eq_true rfl) (hT _ k_779) (fun _ h => h) rfl d_M_passOne_22 ?_
    refine lv_if_eq (tgt := 38) hx hb d_M_passOne_25 (by decide) (fun _ => ?_) (fun c => absurd c1 c)
    refine lv_aload_n hx hb d_M_passOne_38 rfl (lv_at hl 1 rfl) ?_
    refine lv_dup hx hb d_M_passOne_39 rfl ?_
    refine va_get hx hb hT i_M hown hK hP 0 rfl rfl 22 (Nat.le_of_ble_eq_true rfl) (hT _ k_780) (fun _ h => h) rfl d_M_passOne_40 ?_
    refine lv_iconst (v := 1) hx hb d_M_passOne_43 (by decide) ?_
    refine lv_iadd hx hb d_M_passOne_44 ?_
    refine va_put (ty := .int) hx hb hT i_M t_M t_M_ok n_M hown hK hP hD hS 0 rfl rfl 22 (Nat.le_of_ble_eq_true rfl) (hT _ k_780) (fun _ h => h) rfl rfl rfl rfl (Nat.le_of_ble_eq_true rfl) d_M_passOne_45 (fun H locs hP hD hS => ?_)
    have hP : va_P D classes (w_M_passOne cI cJ cC a_h a_h_refused a_h_kind a_h_sweets a_h_gives a_h_tape a_h_letter a_h_letterAt a_h_one a_h_two a_h_kept a_h_trail a_h_crumb a_h_nextCrumb a_h_goal a_h_start a_h_sits a_h_bestSits a_h_without a_h_row y_h_taped y_h_at y_h_statements y_h_hasImage y_h_beforeMany y_h_found y_h_lots y_h_rowMany (m_many z_h_T) (m_odd z_h_T) (m_step z_h_T) (m_bag z_h_T) (m_strokes z_h_T) (m_gave z_h_T) (m_threw z_h_T) (m_isKeeping z_h_T) ((m_cursor z_h_T) + 1) (m_kind z_h_T) (m_sweets z_h_T) (m_gives z_h_T) (m_kept z_h_T)) H := hP
    have hD : va_D A (w_M_passOne cI cJ cC a_h a_h_refused a_h_kind a_h_sweets a_h_gives a_h_tape a_h_letter a_h_letterAt a_h_one a_h_two a_h_kept a_h_trail a_h_crumb a_h_nextCrumb a_h_goal a_h_start a_h_sits a_h_bestSits a_h_without a_h_row y_h_taped y_h_at y_h_statements y_h_hasImage y_h_beforeMany y_h_found y_h_lots y_h_rowMany (m_many z_h_T) (m_odd z_h_T) (m_step z_h_T) (m_bag z_h_T) (m_strokes z_h_T) (m_gave z_h_T) (m_threw z_h_T) (m_isKeeping z_h_T) ((m_cursor z_h_T) + 1) (m_kind z_h_T) (m_sweets z_h_T) (m_gives z_h_T) (m_kept z_h_T)) := hD
    refine lv_iload_n hx hb d_M_passOne_48 rfl (lv_at hl 0 rfl) ?_
    have hq := Option.some.inj hf
    subst hq
    exact hret _ _ _ _ _ d_M_passOne_49 rfl rfl hP hD hS
  · have hf := io_f hf c1
    refine lv_iload_n hx hb d_M_passOne_7 rfl (lv_at hl 1 rfl) ?_
    refine lv_goto (tgt := 20) hx hb d_M_passOne_8 (by decide) ?_
    refine lv_istore_n (lv' := [(2, .int x1), (0, .ref a_h), (1, .int x1)]) hx hb d_M_passOne_20 rfl hl (by decide) rfl (fun ls hl => ?_)
    refine lv_aload_n hx hb d_M_passOne_21 rfl (lv_at hl 1 rfl) ?_
    refine va_get hx hb hT i_M hown hK hP 0 rfl rfl 21 (Nat.le_of_ble_eq_true rfl) (hT _ k_779) (fun _ h => h) rfl d_M_passOne_22 ?_
    refine lv_if_eq (tgt := 38) hx hb d_M_passOne_25 (by decide) (fun c => absurd c c1) (fun _ => ?_)
    refine lv_aload_n hx hb d_M_passOne_28 rfl (lv_at hl 1 rfl) ?_
    refine va_get hx hb hT i_M hown hK hP 0 rfl rfl 19 (Nat.le_of_ble_eq_true rfl) (hT _ k_777) (fun _ h => h) rfl d_M_passOne_29 ?_
    refine lv_aload_n hx hb d_M_passOne_32 rfl (lv_at hl 1 rfl) ?_
    refine va_get hx hb hT i_M hown hK hP 0 rfl rfl 22 (Nat.le_of_ble_eq_true rfl) (hT _ k_780) (fun _ h => h) rfl d_M_passOne_33 ?_
    refine lv_iload_n hx hb d_M_passOne_36 rfl (lv_at hl 2 rfl) ?_
    obtain ⟨c3, hf⟩ := io_n hf
    refine x_iast hx hb hK hP hD hS 4 0 rfl rfl (j := (m_cursor z_h_T).toNatClampNeg) rfl c3 d_M_passOne_37 (fun H locs hP hD hS => ?_)
    have hP : va_P D classes (w_M_passOne cI cJ cC a_h a_h_refused a_h_kind a_h_sweets a_h_gives a_h_tape a_h_letter a_h_letterAt a_h_one a_h_two a_h_kept a_h_trail a_h_crumb a_h_nextCrumb a_h_goal a_h_start a_h_sits a_h_bestSits a_h_without a_h_row y_h_taped y_h_at y_h_statements y_h_hasImage y_h_beforeMany y_h_found y_h_lots y_h_rowMany (m_many z_h_T) (m_odd z_h_T) (m_step z_h_T) (m_bag z_h_T) (m_strokes z_h_T) (m_gave z_h_T) (m_threw z_h_T) (m_isKeeping z_h_T) (m_cursor z_h_T) (m_kind z_h_T) (m_sweets z_h_T) (m_gives z_h_T) (upd (m_kept z_h_T) (m_cursor z_h_T).toNatClampNeg x1)) H := hP
    have hD : va_D A (w_M_passOne cI cJ cC a_h a_h_refused a_h_kind a_h_sweets a_h_gives a_h_tape a_h_letter a_h_letterAt a_h_one a_h_two a_h_kept a_h_trail a_h_crumb a_h_nextCrumb a_h_goal a_h_start a_h_sits a_h_bestSits a_h_without a_h_row y_h_taped y_h_at y_h_statements y_h_hasImage y_h_beforeMany y_h_found y_h_lots y_h_rowMany (m_many z_h_T) (m_odd z_h_T) (m_step z_h_T) (m_bag z_h_T) (m_strokes z_h_T) (m_gave z_h_T) (m_threw z_h_T) (m_isKeeping z_h_T) (m_cursor z_h_T) (m_kind z_h_T) (m_sweets z_h_T) (m_gives z_h_T) (upd (m_kept z_h_T) (m_cursor z_h_T).toNatClampNeg x1)) := hD
    refine lv_aload_n hx hb d_M_passOne_38 rfl (lv_at hl 1 rfl) ?_
    refine lv_dup hx hb d_M_passOne_39 rfl ?_
    refine va_get hx hb hT i_M hown hK hP 0 rfl rfl 22 (Nat.le_of_ble_eq_true rfl) (hT _ k_780) (fun _ h => h) rfl d_M_passOne_40 ?_
    refine lv_iconst (v := 1) hx hb d_M_passOne_43 (by decide) ?_
    refine lv_iadd hx hb d_M_passOne_44 ?_
    refine va_put (ty := .int) hx hb hT i_M t_M t_M_ok n_M hown hK hP hD hS 0 rfl rfl 22 (Nat.le_of_ble_eq_true rfl) (hT _ k_780) (fun _ h => h) rfl rfl rfl rfl (Nat.le_of_ble_eq_true rfl) d_M_passOne_45 (fun H locs hP hD hS => ?_)
    have hP : va_P D classes (w_M_passOne cI cJ cC a_h a_h_refused a_h_kind a_h_sweets a_h_gives a_h_tape a_h_letter a_h_letterAt a_h_one a_h_two a_h_kept a_h_trail a_h_crumb a_h_nextCrumb a_h_goal a_h_start a_h_sits a_h_bestSits a_h_without a_h_row y_h_taped y_h_at y_h_statements y_h_hasImage y_h_beforeMany y_h_found y_h_lots y_h_rowMany (m_many z_h_T) (m_odd z_h_T) (m_step z_h_T) (m_bag z_h_T) (m_strokes z_h_T) (m_gave z_h_T) (m_threw z_h_T) (m_isKeeping z_h_T) ((m_cursor z_h_T) + 1) (m_kind z_h_T) (m_sweets z_h_T) (m_gives z_h_T) (upd (m_kept z_h_T) (m_cursor z_h_T).toNatClampNeg x1)) H := hP
    have hD : va_D A (w_M_passOne cI cJ cC a_h a_h_refused a_h_kind a_h_sweets a_h_gives a_h_tape a_h_letter a_h_letterAt a_h_one a_h_two a_h_kept a_h_trail a_h_crumb a_h_nextCrumb a_h_goal a_h_start a_h_sits a_h_bestSits a_h_without a_h_row y_h_taped y_h_at y_h_statements y_h_hasImage y_h_beforeMany y_h_found y_h_lots y_h_rowMany (m_many z_h_T) (m_odd z_h_T) (m_step z_h_T) (m_bag z_h_T) (m_strokes z_h_T) (m_gave z_h_T) (m_threw z_h_T) (m_isKeeping z_h_T) ((m_cursor z_h_T) + 1) (m_kind z_h_T) (m_sweets z_h_T) (m_gives z_h_T) (upd (m_kept z_h_T) (m_cursor z_h_T).toNatClampNeg x1)) := hD
    refine lv_iload_n hx hb d_M_passOne_48 rfl (lv_at hl 0 rfl) ?_
    have hq := Option.some.inj hf
    subst hq
    exact hret _ _ _ _ _ d_M_passOne_49 rfl rfl hP hD hS
abbrev w_M_passesAll (cI cJ cC : ClassId) (a_h a_h_refused a_h_kind a_h_sweets a_h_gives a_h_tape a_h_letter a_h_letterAt a_h_one a_h_two a_h_kept a_h_trail a_h_crumb a_h_nextCrumb a_h_goal a_h_start a_h_sits a_h_bestSits a_h_without a_h_row : Nat) (y_h_taped : Int32) (y_h_at : Int32) (y_h_statements : Int32) (y_h_hasImage : Int32) (y_h_beforeMany : Int32) (y_h_found : Int32) (y_h_lots : Int32) (y_h_rowMany : Int32) (p_h_many : Int32) (p_h_odd : Int32) (p_h_step : Int32) (p_h_bag : Int32) (p_h_strokes : Int32) (p_h_gave : Int32) (p_h_threw : Int32) (p_h_isKeeping : Int32) (p_h_cursor : Int32) (p_h_kind : (Nat → Int32)) (p_h_sweets : (Nat → Int32)) (p_h_gives : (Nat → Int32)) (p_h_kept : (Nat → Int32)) : va_W := [(a_h, .inr (7, [.ref a_h_refused, .ref a_h_kind, .ref a_h_sweets, .ref a_h_gives, .int p_h_many, .int p_h_odd, .int p_h_step, .int p_h_bag, .int p_h_strokes, .int p_h_gave, .int p_h_threw, .ref a_h_tape, .ref a_h_letter, .ref a_h_letterAt, .ref a_h_one, .ref a_h_two, .int y_h_taped, .int y_h_at, .int y_h_statements, .ref a_h_kept, .int y_h_hasImage, .int p_h_isKeeping, .int p_h_cursor, .ref a_h_trail, .ref a_h_crumb, .ref a_h_nextCrumb, .ref a_h_goal, .ref a_h_start, .int y_h_beforeMany, .int y_h_found, .ref a_h_sits, .ref a_h_bestSits, .ref a_h_without, .int y_h_lots, .ref a_h_row, .int y_h_rowMany])), (a_h_kind, .inl (cI, (8, .inl p_h_kind))), (a_h_sweets, .inl (cI, (8, .inl p_h_sweets))), (a_h_gives, .inl (cI, (8, .inl p_h_gives))), (a_h_kept, .inl (cI, (90, .inl p_h_kept)))]
theorem d_M_passesAll_0 : decode b_M_passesAll 0 = .ok (.aload_n 0, 1) := by decide +kernel
theorem d_M_passesAll_1 : decode b_M_passesAll 1 = .ok (.bipush 30, 2) := by decide +kernel
theorem d_M_passesAll_3 : decode b_M_passesAll 3 = .ok (.iload_n 1, 1) := by decide +kernel
theorem d_M_passesAll_4 : decode b_M_passesAll 4 = .ok (.imul, 1) := by decide +kernel
theorem d_M_passesAll_5 : decode b_M_passesAll 5 = .ok (.putfield 131, 3) := by decide +kernel
theorem d_M_passesAll_8 : decode b_M_passesAll 8 = .ok (.aload_n 0, 1) := by decide +kernel
theorem d_M_passesAll_9 : decode b_M_passesAll 9 = .ok (.iload_n 2, 1) := by decide +kernel
theorem d_M_passesAll_10 : decode b_M_passesAll 10 = .ok (.putfield 127, 3) := by decide +kernel
theorem d_M_passesAll_13 : decode b_M_passesAll 13 = .ok (.iconst 0, 1) := by decide +kernel
theorem d_M_passesAll_14 : decode b_M_passesAll 14 = .ok (.istore_n 3, 1) := by decide +kernel
theorem d_M_passesAll_15 : decode b_M_passesAll 15 = .ok (.iload_n 3, 1) := by decide +kernel
theorem d_M_passesAll_16 : decode b_M_passesAll 16 = .ok (.bipush 8, 2) := by decide +kernel
theorem d_M_passesAll_18 : decode b_M_passesAll 18 = .ok (.if_icmp .ge 41, 3) := by decide +kernel
theorem d_M_passesAll_21 : decode b_M_passesAll 21 = .ok (.aload_n 0, 1) := by decide +kernel
theorem d_M_passesAll_22 : decode b_M_passesAll 22 = .ok (.getfield 13, 3) := by decide +kernel
theorem d_M_passesAll_25 : decode b_M_passesAll 25 = .ok (.iload_n 3, 1) := by decide +kernel
theorem d_M_passesAll_26 : decode b_M_passesAll 26 = .ok (.aload_n 0, 1) := by decide +kernel
theorem d_M_passesAll_27 : decode b_M_passesAll 27 = .ok (.aload_n 0, 1) := by decide +kernel
theorem d_M_passesAll_28 : decode b_M_passesAll 28 = .ok (.getfield 13, 3) := by decide +kernel
theorem d_M_passesAll_31 : decode b_M_passesAll 31 = .ok (.iload_n 3, 1) := by decide +kernel
theorem d_M_passesAll_32 : decode b_M_passesAll 32 = .ok (.iaload, 1) := by decide +kernel
theorem d_M_passesAll_33 : decode b_M_passesAll 33 = .ok (.invokevirtual 134, 3) := by decide +kernel
theorem d_M_passesAll_36 : decode b_M_passesAll 36 = .ok (.iastore, 1) := by decide +kernel
theorem d_M_passesAll_37 : decode b_M_passesAll 37 = .ok (.aload_n 0, 1) := by decide +kernel
theorem d_M_passesAll_38 : decode b_M_passesAll 38 = .ok (.getfield 16, 3) := by decide +kernel
theorem d_M_passesAll_41 : decode b_M_passesAll 41 = .ok (.iload_n 3, 1) := by decide +kernel
theorem d_M_passesAll_42 : decode b_M_passesAll 42 = .ok (.aload_n 0, 1) := by decide +kernel
theorem d_M_passesAll_43 : decode b_M_passesAll 43 = .ok (.aload_n 0, 1) := by decide +kernel
theorem d_M_passesAll_44 : decode b_M_passesAll 44 = .ok (.getfield 16, 3) := by decide +kernel
theorem d_M_passesAll_47 : decode b_M_passesAll 47 = .ok (.iload_n 3, 1) := by decide +kernel
theorem d_M_passesAll_48 : decode b_M_passesAll 48 = .ok (.iaload, 1) := by decide +kernel
theorem d_M_passesAll_49 : decode b_M_passesAll 49 = .ok (.invokevirtual 134, 3) := by decide +kernel
theorem d_M_passesAll_52 : decode b_M_passesAll 52 = .ok (.iastore, 1) := by decide +kernel
theorem d_M_passesAll_53 : decode b_M_passesAll 53 = .ok (.iinc 3 1, 3) := by decide +kernel
theorem d_M_passesAll_56 : decode b_M_passesAll 56 = .ok (.goto (-41), 3) := by decide +kernel
theorem d_M_passesAll_59 : decode b_M_passesAll 59 = .ok (.aload_n 0, 1) := by decide +kernel
theorem d_M_passesAll_60 : decode b_M_passesAll 60 = .ok (.aload_n 0, 1) := by decide +kernel
theorem d_M_passesAll_61 : decode b_M_passesAll 61 = .ok (.aload_n 0, 1) := by decide +kernel
theorem d_M_passesAll_62 : decode b_M_passesAll 62 = .ok (.getfield 78, 3) := by decide +kernel
theorem d_M_passesAll_65 : decode b_M_passesAll 65 = .ok (.invokevirtual 134, 3) := by decide +kernel
theorem d_M_passesAll_68 : decode b_M_passesAll 68 = .ok (.putfield 78, 3) := by decide +kernel
theorem d_M_passesAll_71 : decode b_M_passesAll 71 = .ok (.aload_n 0, 1) := by decide +kernel
theorem d_M_passesAll_72 : decode b_M_passesAll 72 = .ok (.aload_n 0, 1) := by decide +kernel
theorem d_M_passesAll_73 : decode b_M_passesAll 73 = .ok (.aload_n 0, 1) := by decide +kernel
theorem d_M_passesAll_74 : decode b_M_passesAll 74 = .ok (.getfield 112, 3) := by decide +kernel
theorem d_M_passesAll_77 : decode b_M_passesAll 77 = .ok (.invokevirtual 134, 3) := by decide +kernel
theorem d_M_passesAll_80 : decode b_M_passesAll 80 = .ok (.putfield 112, 3) := by decide +kernel
theorem d_M_passesAll_83 : decode b_M_passesAll 83 = .ok (.aload_n 0, 1) := by decide +kernel
theorem d_M_passesAll_84 : decode b_M_passesAll 84 = .ok (.aload_n 0, 1) := by decide +kernel
theorem d_M_passesAll_85 : decode b_M_passesAll 85 = .ok (.aload_n 0, 1) := by decide +kernel
theorem d_M_passesAll_86 : decode b_M_passesAll 86 = .ok (.getfield 22, 3) := by decide +kernel
theorem d_M_passesAll_89 : decode b_M_passesAll 89 = .ok (.invokevirtual 134, 3) := by decide +kernel
theorem d_M_passesAll_92 : decode b_M_passesAll 92 = .ok (.putfield 22, 3) := by decide +kernel
theorem d_M_passesAll_95 : decode b_M_passesAll 95 = .ok (.aload_n 0, 1) := by decide +kernel
theorem d_M_passesAll_96 : decode b_M_passesAll 96 = .ok (.aload_n 0, 1) := by decide +kernel
theorem d_M_passesAll_97 : decode b_M_passesAll 97 = .ok (.aload_n 0, 1) := by decide +kernel
theorem d_M_passesAll_98 : decode b_M_passesAll 98 = .ok (.getfield 26, 3) := by decide +kernel
theorem d_M_passesAll_101 : decode b_M_passesAll 101 = .ok (.invokevirtual 134, 3) := by decide +kernel
theorem d_M_passesAll_104 : decode b_M_passesAll 104 = .ok (.putfield 26, 3) := by decide +kernel
theorem d_M_passesAll_107 : decode b_M_passesAll 107 = .ok (.aload_n 0, 1) := by decide +kernel
theorem d_M_passesAll_108 : decode b_M_passesAll 108 = .ok (.aload_n 0, 1) := by decide +kernel
theorem d_M_passesAll_109 : decode b_M_passesAll 109 = .ok (.aload_n 0, 1) := by decide +kernel
theorem d_M_passesAll_110 : decode b_M_passesAll 110 = .ok (.getfield 137, 3) := by decide +kernel
theorem d_M_passesAll_113 : decode b_M_passesAll 113 = .ok (.invokevirtual 134, 3) := by decide +kernel
theorem d_M_passesAll_116 : decode b_M_passesAll 116 = .ok (.putfield 137, 3) := by decide +kernel
theorem d_M_passesAll_119 : decode b_M_passesAll 119 = .ok (.aload_n 0, 1) := by decide +kernel
theorem d_M_passesAll_120 : decode b_M_passesAll 120 = .ok (.aload_n 0, 1) := by decide +kernel
theorem d_M_passesAll_121 : decode b_M_passesAll 121 = .ok (.aload_n 0, 1) := by decide +kernel
theorem d_M_passesAll_122 : decode b_M_passesAll 122 = .ok (.getfield 140, 3) := by decide +kernel
theorem d_M_passesAll_125 : decode b_M_passesAll 125 = .ok (.invokevirtual 134, 3) := by decide +kernel
theorem d_M_passesAll_128 : decode b_M_passesAll 128 = .ok (.putfield 140, 3) := by decide +kernel
theorem d_M_passesAll_131 : decode b_M_passesAll 131 = .ok (.aload_n 0, 1) := by decide +kernel
theorem d_M_passesAll_132 : decode b_M_passesAll 132 = .ok (.aload_n 0, 1) := by decide +kernel
theorem d_M_passesAll_133 : decode b_M_passesAll 133 = .ok (.aload_n 0, 1) := by decide +kernel
theorem d_M_passesAll_134 : decode b_M_passesAll 134 = .ok (.getfield 143, 3) := by decide +kernel
theorem d_M_passesAll_137 : decode b_M_passesAll 137 = .ok (.invokevirtual 134, 3) := by decide +kernel
theorem d_M_passesAll_140 : decode b_M_passesAll 140 = .ok (.putfield 143, 3) := by decide +kernel
theorem d_M_passesAll_143 : decode b_M_passesAll 143 = .ok (.return_, 1) := by decide +kernel
set_option maxHeartbeats 4000000 in
set_option maxRecDepth 100000 in
theorem c_M_passesAll {l : Launch} {D : va_G} {cI cJ cC : ClassId} (a_h a_h_refused a_h_kind a_h_sweets a_h_gives a_h_tape a_h_letter a_h_letterAt a_h_one a_h_two a_h_kept a_h_trail a_h_crumb a_h_nextCrumb a_h_goal a_h_start a_h_sits a_h_bestSits a_h_without a_h_row : Nat) (y_h_taped : Int32) (y_h_at : Int32) (y_h_statements : Int32) (y_h_hasImage : Int32) (y_h_beforeMany : Int32) (y_h_found : Int32) (y_h_lots : Int32) (y_h_rowMany : Int32) {z_h_T : MT} {x1 : Int32} {x2 : Int32} {q : MT} (hf : f_M_passesAll z_h_T x1 x2 = some q) : xV l y_M_passesAll b_M_passesAll 4 1 22 D (tyK cI cJ cC) xE0 [.ref a_h, .int x1, .int x2] (w_M_passesAll cI cJ cC a_h a_h_refused a_h_kind a_h_sweets a_h_gives a_h_tape a_h_letter a_h_letterAt a_h_one a_h_two a_h_kept a_h_trail a_h_crumb a_h_nextCrumb a_h_goal a_h_start a_h_sits a_h_bestSits a_h_without a_h_row y_h_taped y_h_at y_h_statements y_h_hasImage y_h_beforeMany y_h_found y_h_lots y_h_rowMany (m_many z_h_T) (m_odd z_h_T) (m_step z_h_T) (m_bag z_h_T) (m_strokes z_h_T) (m_gave z_h_T) (m_threw z_h_T) (m_isKeeping z_h_T) (m_cursor z_h_T) (m_kind z_h_T) (m_sweets z_h_T) (m_gives z_h_T) (m_kept z_h_T)) (w_M_passesAll cI cJ cC a_h a_h_refused a_h_kind a_h_sweets a_h_gives a_h_tape a_h_letter a_h_letterAt a_h_one a_h_two a_h_kept a_h_trail a_h_crumb a_h_nextCrumb a_h_goal a_h_start a_h_sits a_h_bestSits a_h_without a_h_row y_h_taped y_h_at y_h_statements y_h_hasImage y_h_beforeMany y_h_found y_h_lots y_h_rowMany (m_many q) (m_odd q) (m_step q) (m_bag q) (m_strokes q) (m_gave q) (m_threw q) (m_isKeeping q) (m_cursor q) (m_kind q) (m_sweets q) (m_gives q) (m_kept q)) := by
  refine xV_of (by decide) (Nat.le_of_ble_eq_true rfl) ?_
  intro p e s m args below meth c A Q hx hb hml hown hT hA hP hD hK hS hE hret ls hl
  have hown : s.vm.findClass R_M = some m.cls := hown
  have hl : lv_has ls 4 [(0, .ref a_h), (1, .int x1), (2, .int x2)] := hl
  unfold f_M_passesAll at hf
  have L15 : ∀ k : MT → Option (MT), (∀ (z_h_T : MT) (H : Heap) (locs : List Loc) (ls : Array Slot), k z_h_T = some q → va_P D classes (w_M_passesAll cI cJ cC a_h a_h_refused a_h_kind a_h_sweets a_h_gives a_h_tape a_h_letter a_h_letterAt a_h_one a_h_two a_h_kept a_h_trail a_h_crumb a_h_nextCrumb a_h_goal a_h_start a_h_sits a_h_bestSits a_h_without a_h_row y_h_taped y_h_at y_h_statements y_h_hasImage y_h_beforeMany y_h_found y_h_lots y_h_rowMany (m_many z_h_T) (m_odd z_h_T) (m_step z_h_T) (m_bag z_h_T) (m_strokes z_h_T) (m_gave z_h_T) (m_threw z_h_T) (m_isKeeping z_h_T) (m_cursor z_h_T) (m_kind z_h_T) (m_sweets z_h_T) (m_gives z_h_T) (m_kept z_h_T)) H → va_D A (w_M_passesAll cI cJ cC a_h a_h_refused a_h_kind a_h_sweets a_h_gives a_h_tape a_h_letter a_h_letterAt a_h_one a_h_two a_h_kept a_h_trail a_h_crumb a_h_nextCrumb a_h_goal a_h_start a_h_sits a_h_bestSits a_h_without a_h_row y_h_taped y_h_at y_h_statements y_h_hasImage y_h_beforeMany y_h_found y_h_lots y_h_rowMany (m_many z_h_T) (m_odd z_h_T) (m_step z_h_T) (m_bag z_h_T) (m_strokes z_h_T) (m_gave z_h_T) (m_threw z_h_T) (m_isKeeping z_h_T) (m_cursor z_h_T) (m_kind z_h_T) (m_sweets z_h_T) (m_gives z_h_T) (m_kept z_h_T)) → va_S A s.heap H locs → lv_has ls 4 [(0, .ref a_h)] → W p l e (xRm 1 22) s m args below meth c H locs 0 0 Q (F0 m 59 ls [])) → ∀ (n : Nat) (z_h_T : MT) (x3 : Int32) (H : Heap) (locs : List Loc) (ls : Array Slot), f_M_passesAll_L15 k n z_h_T x3 = some q → va_P D classes (w_M_passesAll cI cJ cC a_h a_h_refused a_h_kind a_h_sweets a_h_gives a_h_tape a_h_letter a_h_letterAt a_h_one a_h_two a_h_kept a_h_trail a_h_crumb a_h_nextCrumb a_h_goal a_h_start a_h_sits a_h_bestSits a_h_without a_h_row y_h_taped y_h_at y_h_statements y_h_hasImage y_h_beforeMany y_h_found y_h_lots y_h_rowMany (m_many z_h_T) (m_odd z_h_T) (m_step z_h_T) (m_bag z_h_T) (m_strokes z_h_T) (m_gave z_h_T) (m_threw z_h_T) (m_isKeeping z_h_T) (m_cursor z_h_T) (m_kind z_h_T) (m_sweets z_h_T) (m_gives z_h_T) (m_kept z_h_T)) H → va_D A (w_M_passesAll cI cJ cC a_h a_h_refused a_h_kind a_h_sweets a_h_gives a_h_tape a_h_letter a_h_letterAt a_h_one a_h_two a_h_kept a_h_trail a_h_crumb a_h_nextCrumb a_h_goal a_h_start a_h_sits a_h_bestSits a_h_without a_h_row y_h_taped y_h_at y_h_statements y_h_hasImage y_h_beforeMany y_h_found y_h_lots y_h_rowMany (m_many z_h_T) (m_odd z_h_T) (m_step z_h_T) (m_bag z_h_T) (m_strokes z_h_T) (m_gave z_h_T) (m_threw z_h_T) (m_isKeeping z_h_T) (m_cursor z_h_T) (m_kind z_h_T) (m_sweets z_h_T) (m_gives z_h_T) (m_kept z_h_T)) → va_S A s.heap H locs → lv_has ls 4 [(0, .ref a_h), (3, .int x3)] → W p l e (xRm 1 22) s m args below meth c H locs 0 0 Q (F0 m 15 ls []) := by
    intro k hk n
    induction n with
    | zero => intro z_h_T x3 H locs ls hf hP hD hS hl; exact nomatch (show (none : Option (MT)) = some q from hf)
    | succ n ih =>
      intro z_h_T x3 H locs ls hf hP hD hS hl
      refine lv_iload_n hx hb d_M_passesAll_15 rfl (lv_at hl 1 rfl) ?_
      refine lv_bipush (v := 8) hx hb d_M_passesAll_16 (by decide) ?_
      refine lv_icmp_ge (tgt := 59) hx hb d_M_passesAll_18 (by decide) (fun c2 => ?_) (fun c2 => ?_)
      · have hf := io_t hf c2
        exact hk z_h_T _ _ _ hf hP hD hS (lv_sub hl [0] rfl)
      · have hf := io_f hf c2
        refine lv_aload_n hx hb d_M_passesAll_21 rfl (lv_at hl 0 rfl) ?_
        refine va_get hx hb hT i_M hown hK hP 0 rfl rfl 1 (Nat.le_of_ble_eq_true rfl) (hT _ k_759) (fun _ h => h) rfl d_M_passesAll_22 ?_
        refine lv_iload_n hx hb d_M_passesAll_25 rfl (lv_at hl 1 rfl) ?_
        refine lv_aload_n hx hb d_M_passesAll_26 rfl (lv_at hl 0 rfl) ?_
        refine lv_aload_n hx hb d_M_passesAll_27 rfl (lv_at hl 0 rfl) ?_
        refine va_get hx hb hT i_M hown hK hP 0 rfl rfl 1 (Nat.le_of_ble_eq_true rfl) (hT _ k_759) (fun _ h => h) rfl d_M_passesAll_28 ?_
        refine lv_iload_n hx hb d_M_passesAll_31 rfl (lv_at hl 1 rfl) ?_
        obtain ⟨c3, hf⟩ := io_n hf
        refine x_iald hx hb hK hP 1 0 rfl rfl (j := x3.toNatClampNeg) rfl c3 d_M_passesAll_32 ?_
        obtain ⟨q4, hq4, hf⟩ := io_b hf
        refine xcVI (wc := (w_M_passOne cI cJ cC a_h a_h_refused a_h_kind a_h_sweets a_h_gives a_h_tape a_h_letter a_h_letterAt a_h_one a_h_two a_h_kept a_h_trail a_h_crumb a_h_nextCrumb a_h_goal a_h_start a_h_sits a_h_bestSits a_h_without a_h_row y_h_taped y_h_at y_h_statements y_h_hasImage y_h_beforeMany y_h_found y_h_lots y_h_rowMany (m_many z_h_T) (m_odd z_h_T) (m_step z_h_T) (m_bag z_h_T) (m_strokes z_h_T) (m_gave z_h_T) (m_threw z_h_T) (m_isKeeping z_h_T) (m_cursor z_h_T) (m_kind z_h_T) (m_sweets z_h_T) (m_gives z_h_T) (m_kept z_h_T))) (wc' := (w_M_passOne cI cJ cC a_h a_h_refused a_h_kind a_h_sweets a_h_gives a_h_tape a_h_letter a_h_letterAt a_h_one a_h_two a_h_kept a_h_trail a_h_crumb a_h_nextCrumb a_h_goal a_h_start a_h_sits a_h_bestSits a_h_without a_h_row y_h_taped y_h_at y_h_statements y_h_hasImage y_h_beforeMany y_h_found y_h_lots y_h_rowMany (m_many q4.2) (m_odd q4.2) (m_step q4.2) (m_bag q4.2) (m_strokes q4.2) (m_gave q4.2) (m_threw q4.2) (m_isKeeping q4.2) (m_cursor q4.2) (m_kind q4.2) (m_sweets q4.2) (m_gives q4.2) (m_kept q4.2))) (ws' := (w_M_passesAll cI cJ cC a_h a_h_refused a_h_kind a_h_sweets a_h_gives a_h_tape a_h_letter a_h_letterAt a_h_one a_h_two a_h_kept a_h_trail a_h_crumb a_h_nextCrumb a_h_goal a_h_start a_h_sits a_h_bestSits a_h_without a_h_row y_h_taped y_h_at y_h_statements y_h_hasImage y_h_beforeMany y_h_found y_h_lots y_h_rowMany (m_many q4.2) (m_odd q4.2) (m_step q4.2) (m_bag q4.2) (m_strokes q4.2) (m_gave q4.2) (m_threw q4.2) (m_isKeeping q4.2) (m_cursor q4.2) (m_kind q4.2) (m_sweets q4.2) (m_gives q4.2) (m_kept q4.2))) (As := [.int ((m_kind z_h_T) x3.toNatClampNeg)]) (rest := [.int x3, .ref a_h_kind]) hx hb hml hown hT (c_M_passOne (z_h_T := z_h_T) a_h a_h_refused a_h_kind a_h_sweets a_h_gives a_h_tape a_h_letter a_h_letterAt a_h_one a_h_two a_h_kept a_h_trail a_h_crumb a_h_nextCrumb a_h_goal a_h_start a_h_sits a_h_bestSits a_h_without a_h_row y_h_taped y_h_at y_h_statements y_h_hasImage y_h_beforeMany y_h_found y_h_lots y_h_rowMany hq4) k_904 k_906 ks_29 k_8 k_907 hd_M_passOne ⟨Nat.le_of_ble_eq_true rfl, Nat.le_of_ble_eq_true rfl⟩ xE0_ok trivial hA hK hP hD hS [0, 1, 2, 3, 4] [] [0, 1, 2, 3, 4] rfl rfl rfl rfl rfl rfl rfl rfl rfl rfl hl.1 rfl (Nat.le_of_ble_eq_true rfl) ⟨Nat.zero_le _, Nat.zero_le _⟩ d_M_passesAll_33 (fun H locs hP hD hS => ?_)
        refine x_iast hx hb hK hP hD hS 1 0 rfl rfl (j := x3.toNatClampNeg) rfl c3 d_M_passesAll_36 (fun H locs hP hD hS => ?_)
        have hP : va_P D classes (w_M_passesAll cI cJ cC a_h a_h_refused a_h_kind a_h_sweets a_h_gives a_h_tape a_h_letter a_h_letterAt a_h_one a_h_two a_h_kept a_h_trail a_h_crumb a_h_nextCrumb a_h_goal a_h_start a_h_sits a_h_bestSits a_h_without a_h_row y_h_taped y_h_at y_h_statements y_h_hasImage y_h_beforeMany y_h_found y_h_lots y_h_rowMany (m_many q4.2) (m_odd q4.2) (m_step q4.2) (m_bag q4.2) (m_strokes q4.2) (m_gave q4.2) (m_threw q4.2) (m_isKeeping q4.2) (m_cursor q4.2) (upd (m_kind q4.2) x3.toNatClampNeg q4.1) (m_sweets q4.2) (m_gives q4.2) (m_kept q4.2)) H := hP
        have hD : va_D A (w_M_passesAll cI cJ cC a_h a_h_refused a_h_kind a_h_sweets a_h_gives a_h_tape a_h_letter a_h_letterAt a_h_one a_h_two a_h_kept a_h_trail a_h_crumb a_h_nextCrumb a_h_goal a_h_start a_h_sits a_h_bestSits a_h_without a_h_row y_h_taped y_h_at y_h_statements y_h_hasImage y_h_beforeMany y_h_found y_h_lots y_h_rowMany (m_many q4.2) (m_odd q4.2) (m_step q4.2) (m_bag q4.2) (m_strokes q4.2) (m_gave q4.2) (m_threw q4.2) (m_isKeeping q4.2) (m_cursor q4.2) (upd (m_kind q4.2) x3.toNatClampNeg q4.1) (m_sweets q4.2) (m_gives q4.2) (m_kept q4.2)) := hD
        refine lv_aload_n hx hb d_M_passesAll_37 rfl (lv_at hl 0 rfl) ?_
        refine va_get hx hb hT i_M hown hK hP 0 rfl rfl 2 (Nat.le_of_ble_eq_true rfl) (hT _ k_760) (fun _ h => h) rfl d_M_passesAll_38 ?_
        refine lv_iload_n hx hb d_M_passesAll_41 rfl (lv_at hl 1 rfl) ?_
        refine lv_aload_n hx hb d_M_passesAll_42 rfl (lv_at hl 0 rfl) ?_
        refine lv_aload_n hx hb d_M_passesAll_43 rfl (lv_at hl 0 rfl) ?_
        refine va_get hx hb hT i_M hown hK hP 0 rfl rfl 2 (Nat.le_of_ble_eq_true rfl) (hT _ k_760) (fun _ h => h) rfl d_M_passesAll_44 ?_
        refine lv_iload_n hx hb d_M_passesAll_47 rfl (lv_at hl 1 rfl) ?_
        refine x_iald hx hb hK hP 2 0 rfl rfl (j := x3.toNatClampNeg) rfl c3 d_M_passesAll_48 ?_
        obtain ⟨q5, hq5, hf⟩ := io_b hf
        refine xcVI (wc := (w_M_passOne cI cJ cC a_h a_h_refused a_h_kind a_h_sweets a_h_gives a_h_tape a_h_letter a_h_letterAt a_h_one a_h_two a_h_kept a_h_trail a_h_crumb a_h_nextCrumb a_h_goal a_h_start a_h_sits a_h_bestSits a_h_without a_h_row y_h_taped y_h_at y_h_statements y_h_hasImage y_h_beforeMany y_h_found y_h_lots y_h_rowMany (m_many q4.2) (m_odd q4.2) (m_step q4.2) (m_bag q4.2) (m_strokes q4.2) (m_gave q4.2) (m_threw q4.2) (m_isKeeping q4.2) (m_cursor q4.2) (upd (m_kind q4.2) x3.toNatClampNeg q4.1) (m_sweets q4.2) (m_gives q4.2) (m_kept q4.2))) (wc' := (w_M_passOne cI cJ cC a_h a_h_refused a_h_kind a_h_sweets a_h_gives a_h_tape a_h_letter a_h_letterAt a_h_one a_h_two a_h_kept a_h_trail a_h_crumb a_h_nextCrumb a_h_goal a_h_start a_h_sits a_h_bestSits a_h_without a_h_row y_h_taped y_h_at y_h_statements y_h_hasImage y_h_beforeMany y_h_found y_h_lots y_h_rowMany (m_many q5.2) (m_odd q5.2) (m_step q5.2) (m_bag q5.2) (m_strokes q5.2) (m_gave q5.2) (m_threw q5.2) (m_isKeeping q5.2) (m_cursor q5.2) (m_kind q5.2) (m_sweets q5.2) (m_gives q5.2) (m_kept q5.2))) (ws' := (w_M_passesAll cI cJ cC a_h a_h_refused a_h_kind a_h_sweets a_h_gives a_h_tape a_h_letter a_h_letterAt a_h_one a_h_two a_h_kept a_h_trail a_h_crumb a_h_nextCrumb a_h_goal a_h_start a_h_sits a_h_bestSits a_h_without a_h_row y_h_taped y_h_at y_h_statements y_h_hasImage y_h_beforeMany y_h_found y_h_lots y_h_rowMany (m_many q5.2) (m_odd q5.2) (m_step q5.2) (m_bag q5.2) (m_strokes q5.2) (m_gave q5.2) (m_threw q5.2) (m_isKeeping q5.2) (m_cursor q5.2) (m_kind q5.2) (m_sweets q5.2) (m_gives q5.2) (m_kept q5.2))) (As := [.int ((m_sweets q4.2) x3.toNatClampNeg)]) (rest := [.int x3, .ref a_h_sweets]) hx hb hml hown hT (c_M_passOne (z_h_T := ((upd (m_kind q4.2) x3.toNatClampNeg q4.1), (m_sweets q4.2), (m_gives q4.2), (m_kept q4.2), (m_many q4.2), (m_odd q4.2), (m_step q4.2), (m_bag q4.2), (m_strokes q4.2), (m_gave q4.2), (m_threw q4.2), (m_isKeeping q4.2), (m_cursor q4.2))) a_h a_h_refused a_h_kind a_h_sweets a_h_gives a_h_tape a_h_letter a_h_letterAt a_h_one a_h_two a_h_kept a_h_trail a_h_crumb a_h_nextCrumb a_h_goal a_h_start a_h_sits a_h_bestSits a_h_without a_h_row y_h_taped y_h_at y_h_statements y_h_hasImage y_h_beforeMany y_h_found y_h_lots y_h_rowMany hq5) k_904 k_906 ks_29 k_8 k_907 hd_M_passOne ⟨Nat.le_of_ble_eq_true rfl, Nat.le_of_ble_eq_true rfl⟩ xE0_ok trivial hA hK hP hD hS [0, 1, 2, 3, 4] [] [0, 1, 2, 3, 4] rfl rfl rfl rfl rfl rfl rfl rfl rfl rfl hl.1 rfl (Nat.le_of_ble_eq_true rfl) ⟨Nat.zero_le _, Nat.zero_le _⟩ d_M_passesAll_49 (fun H locs hP hD hS => ?_)
        refine x_iast hx hb hK hP hD hS 2 0 rfl rfl (j := x3.toNatClampNeg) rfl c3 d_M_passesAll_52 (fun H locs hP hD hS => ?_)
        have hP : va_P D classes (w_M_passesAll cI cJ cC a_h a_h_refused a_h_kind a_h_sweets a_h_gives a_h_tape a_h_letter a_h_letterAt a_h_one a_h_two a_h_kept a_h_trail a_h_crumb a_h_nextCrumb a_h_goal a_h_start a_h_sits a_h_bestSits a_h_without a_h_row y_h_taped y_h_at y_h_statements y_h_hasImage y_h_beforeMany y_h_found y_h_lots y_h_rowMany (m_many q5.2) (m_odd q5.2) (m_step q5.2) (m_bag q5.2) (m_strokes q5.2) (m_gave q5.2) (m_threw q5.2) (m_isKeeping q5.2) (m_cursor q5.2) (m_kind q5.2) (upd (m_sweets q5.2) x3.toNatClampNeg q5.1) (m_gives q5.2) (m_kept q5.2)) H := hP
        have hD : va_D A (w_M_passesAll cI cJ cC a_h a_h_refused a_h_kind a_h_sweets a_h_gives a_h_tape a_h_letter a_h_letterAt a_h_one a_h_two a_h_kept a_h_trail a_h_crumb a_h_nextCrumb a_h_goal a_h_start a_h_sits a_h_bestSits a_h_without a_h_row y_h_taped y_h_at y_h_statements y_h_hasImage y_h_beforeMany y_h_found y_h_lots y_h_rowMany (m_many q5.2) (m_odd q5.2) (m_step q5.2) (m_bag q5.2) (m_strokes q5.2) (m_gave q5.2) (m_threw q5.2) (m_isKeeping q5.2) (m_cursor q5.2) (m_kind q5.2) (upd (m_sweets q5.2) x3.toNatClampNeg q5.1) (m_gives q5.2) (m_kept q5.2)) := hD
        refine lv_iinc (v := (x3 + 1)) (lv' := [(3, .int (x3 + 1)), (0, .ref a_h)]) hx hb d_M_passesAll_53 hl (k := 1) rfl (by rfl) (by decide) rfl (fun ls hl => ?_)
        refine lv_goto (tgt := 15) hx hb d_M_passesAll_56 (by decide) ?_
        exact ih ((m_kind q5.2), (upd (m_sweets q5.2) x3.toNatClampNeg q5.1), (m_gives q5.2), (m_kept q5.2), (m_many q5.2), (m_odd q5.2), (m_step q5.2), (m_bag q5.2), (m_strokes q5.2), (m_gave q5.2), (m_threw q5.2), (m_isKeeping q5.2), (m_cursor q5.2)) (x3 + 1) _ _ _ hf hP hD hS (lv_sub hl [1, 0] rfl)
  refine lv_aload_n hx hb d_M_passesAll_0 rfl (lv_at hl 0 rfl) ?_
  refine lv_bipush (v := 30) hx hb d_M_passesAll_1 (by decide) ?_
  refine lv_iload_n hx hb d_M_passesAll_3 rfl (lv_at hl 1 rfl) ?_
  refine lv_imul hx hb d_M_passesAll_4 ?_
  refine va_put (ty := .int) hx hb hT i_M t_M t_M_ok n_M hown hK hP hD hS 0 rfl rfl 22 (Nat.le_of_ble_eq_true rfl) (hT _ k_780) (fun _ h => h) rfl rfl rfl rfl (Nat.le_of_ble_eq_true rfl) d_M_passesAll_5 (fun H locs hP hD hS => ?_)
  have hP : va_P D classes (w_M_passesAll cI cJ cC a_h a_h_refused a_h_kind a_h_sweets a_h_gives a_h_tape a_h_letter a_h_letterAt a_h_one a_h_two a_h_kept a_h_trail a_h_crumb a_h_nextCrumb a_h_goal a_h_start a_h_sits a_h_bestSits a_h_without a_h_row y_h_taped y_h_at y_h_statements y_h_hasImage y_h_beforeMany y_h_found y_h_lots y_h_rowMany (m_many z_h_T) (m_odd z_h_T) (m_step z_h_T) (m_bag z_h_T) (m_strokes z_h_T) (m_gave z_h_T) (m_threw z_h_T) (m_isKeeping z_h_T) (30 * x1) (m_kind z_h_T) (m_sweets z_h_T) (m_gives z_h_T) (m_kept z_h_T)) H := hP
  have hD : va_D A (w_M_passesAll cI cJ cC a_h a_h_refused a_h_kind a_h_sweets a_h_gives a_h_tape a_h_letter a_h_letterAt a_h_one a_h_two a_h_kept a_h_trail a_h_crumb a_h_nextCrumb a_h_goal a_h_start a_h_sits a_h_bestSits a_h_without a_h_row y_h_taped y_h_at y_h_statements y_h_hasImage y_h_beforeMany y_h_found y_h_lots y_h_rowMany (m_many z_h_T) (m_odd z_h_T) (m_step z_h_T) (m_bag z_h_T) (m_strokes z_h_T) (m_gave z_h_T) (m_threw z_h_T) (m_isKeeping z_h_T) (30 * x1) (m_kind z_h_T) (m_sweets z_h_T) (m_gives z_h_T) (m_kept z_h_T)) := hD
  refine lv_aload_n hx hb d_M_passesAll_8 rfl (lv_at hl 0 rfl) ?_
  refine lv_iload_n hx hb d_M_passesAll_9 rfl (lv_at hl 2 rfl) ?_
  obtain ⟨c1, hf⟩ := io_n hf
  refine va_put (ty := .boolean) hx hb hT i_M t_M t_M_ok n_M hown hK hP hD hS 0 rfl rfl 21 (Nat.le_of_ble_eq_true rfl) (hT _ k_779) (fun _ h => h) rfl rfl (x_narZ c1) (x_fitZ c1) (Nat.le_of_ble_eq_true rfl) d_M_passesAll_10 (fun H locs hP hD hS => ?_)
  have hP : va_P D classes (w_M_passesAll cI cJ cC a_h a_h_refused a_h_kind a_h_sweets a_h_gives a_h_tape a_h_letter a_h_letterAt a_h_one a_h_two a_h_kept a_h_trail a_h_crumb a_h_nextCrumb a_h_goal a_h_start a_h_sits a_h_bestSits a_h_without a_h_row y_h_taped y_h_at y_h_statements y_h_hasImage y_h_beforeMany y_h_found y_h_lots y_h_rowMany (m_many z_h_T) (m_odd z_h_T) (m_step z_h_T) (m_bag z_h_T) (m_strokes z_h_T) (m_gave z_h_T) (m_threw z_h_T) x2 (30 * x1) (m_kind z_h_T) (m_sweets z_h_T) (m_gives z_h_T) (m_kept z_h_T)) H := hP
  have hD : va_D A (w_M_passesAll cI cJ cC a_h a_h_refused a_h_kind a_h_sweets a_h_gives a_h_tape a_h_letter a_h_letterAt a_h_one a_h_two a_h_kept a_h_trail a_h_crumb a_h_nextCrumb a_h_goal a_h_start a_h_sits a_h_bestSits a_h_without a_h_row y_h_taped y_h_at y_h_statements y_h_hasImage y_h_beforeMany y_h_found y_h_lots y_h_rowMany (m_many z_h_T) (m_odd z_h_T) (m_step z_h_T) (m_bag z_h_T) (m_strokes z_h_T) (m_gave z_h_T) (m_threw z_h_T) x2 (30 * x1) (m_kind z_h_T) (m_sweets z_h_T) (m_gives z_h_T) (m_kept z_h_T)) := hD
  refine lv_iconst (v := 0) hx hb d_M_passesAll_13 (by decide) ?_
  refine lv_istore_n (lv' := [(3, .int 0), (0, .ref a_h), (1, .int x1), (2, .int x2)]) hx hb d_M_passesAll_14 rfl hl (by decide) rfl (fun ls hl => ?_)
  refine L15 _ (fun z_h_T_6 H locs ls hf hP hD hS hl => ?_) FU ((m_kind z_h_T), (m_sweets z_h_T), (m_gives z_h_T), (m_kept z_h_T), (m_many z_h_T), (m_odd z_h_T), (m_step z_h_T), (m_bag z_h_T), (m_strokes z_h_T), (m_gave z_h_T), (m_threw z_h_T), x2, (30 * x1)) 0 _ _ _ hf hP hD hS (lv_sub hl [1, 0] rfl)
  refine lv_aload_n hx hb d_M_passesAll_59 rfl (lv_at hl 0 rfl) ?_
  refine lv_aload_n hx hb d_M_passesAll_60 rfl (lv_at hl 0 rfl) ?_
  refine lv_aload_n hx hb d_M_passesAll_61 rfl (lv_at hl 0 rfl) ?_
  refine va_get hx hb hT i_M hown hK hP 0 rfl rfl 4 (Nat.le_of_ble_eq_true rfl) (hT _ k_762) (fun _ h => h) rfl d_M_passesAll_62 ?_
  obtain ⟨q7, hq7, hf⟩ := io_b hf
  refine xcVI (wc := (w_M_passOne cI cJ cC a_h a_h_refused a_h_kind a_h_sweets a_h_gives a_h_tape a_h_letter a_h_letterAt a_h_one a_h_two a_h_kept a_h_trail a_h_crumb a_h_nextCrumb a_h_goal a_h_start a_h_sits a_h_bestSits a_h_without a_h_row y_h_taped y_h_at y_h_statements y_h_hasImage y_h_beforeMany y_h_found y_h_lots y_h_rowMany (m_many z_h_T_6) (m_odd z_h_T_6) (m_step z_h_T_6) (m_bag z_h_T_6) (m_strokes z_h_T_6) (m_gave z_h_T_6) (m_threw z_h_T_6) (m_isKeeping z_h_T_6) (m_cursor z_h_T_6) (m_kind z_h_T_6) (m_sweets z_h_T_6) (m_gives z_h_T_6) (m_kept z_h_T_6))) (wc' := (w_M_passOne cI cJ cC a_h a_h_refused a_h_kind a_h_sweets a_h_gives a_h_tape a_h_letter a_h_letterAt a_h_one a_h_two a_h_kept a_h_trail a_h_crumb a_h_nextCrumb a_h_goal a_h_start a_h_sits a_h_bestSits a_h_without a_h_row y_h_taped y_h_at y_h_statements y_h_hasImage y_h_beforeMany y_h_found y_h_lots y_h_rowMany (m_many q7.2) (m_odd q7.2) (m_step q7.2) (m_bag q7.2) (m_strokes q7.2) (m_gave q7.2) (m_threw q7.2) (m_isKeeping q7.2) (m_cursor q7.2) (m_kind q7.2) (m_sweets q7.2) (m_gives q7.2) (m_kept q7.2))) (ws' := (w_M_passesAll cI cJ cC a_h a_h_refused a_h_kind a_h_sweets a_h_gives a_h_tape a_h_letter a_h_letterAt a_h_one a_h_two a_h_kept a_h_trail a_h_crumb a_h_nextCrumb a_h_goal a_h_start a_h_sits a_h_bestSits a_h_without a_h_row y_h_taped y_h_at y_h_statements y_h_hasImage y_h_beforeMany y_h_found y_h_lots y_h_rowMany (m_many q7.2) (m_odd q7.2) (m_step q7.2) (m_bag q7.2) (m_strokes q7.2) (m_gave q7.2) (m_threw q7.2) (m_isKeeping q7.2) (m_cursor q7.2) (m_kind q7.2) (m_sweets q7.2) (m_gives q7.2) (m_kept q7.2))) (As := [.int (m_many z_h_T_6)]) (rest := [.ref a_h]) hx hb hml hown hT (c_M_passOne (z_h_T := z_h_T_6) a_h a_h_refused a_h_kind a_h_sweets a_h_gives a_h_tape a_h_letter a_h_letterAt a_h_one a_h_two a_h_kept a_h_trail a_h_crumb a_h_nextCrumb a_h_goal a_h_start a_h_sits a_h_bestSits a_h_without a_h_row y_h_taped y_h_at y_h_statements y_h_hasImage y_h_beforeMany y_h_found y_h_lots y_h_rowMany hq7) k_904 k_906 ks_29 k_8 k_907 hd_M_passOne ⟨Nat.le_of_ble_eq_true rfl, Nat.le_of_ble_eq_true rfl⟩ xE0_ok trivial hA hK hP hD hS [0, 1, 2, 3, 4] [] [0, 1, 2, 3, 4] rfl rfl rfl rfl rfl rfl rfl rfl rfl rfl hl.1 rfl (Nat.le_of_ble_eq_true rfl) ⟨Nat.zero_le _, Nat.zero_le _⟩ d_M_passesAll_65 (fun H locs hP hD hS => ?_)
  refine va_put (ty := .int) hx hb hT i_M t_M t_M_ok n_M hown hK hP hD hS 0 rfl rfl 4 (Nat.le_of_ble_eq_true rfl) (hT _ k_762) (fun _ h => h) rfl rfl rfl rfl (Nat.le_of_ble_eq_true rfl) d_M_passesAll_68 (fun H locs hP hD hS => ?_)
  have hP : va_P D classes (w_M_passesAll cI cJ cC a_h a_h_refused a_h_kind a_h_sweets a_h_gives a_h_tape a_h_letter a_h_letterAt a_h_one a_h_two a_h_kept a_h_trail a_h_crumb a_h_nextCrumb a_h_goal a_h_start a_h_sits a_h_bestSits a_h_without a_h_row y_h_taped y_h_at y_h_statements y_h_hasImage y_h_beforeMany y_h_found y_h_lots y_h_rowMany q7.1 (m_odd q7.2) (m_step q7.2) (m_bag q7.2) (m_strokes q7.2) (m_gave q7.2) (m_threw q7.2) (m_isKeeping q7.2) (m_cursor q7.2) (m_kind q7.2) (m_sweets q7.2) (m_gives q7.2) (m_kept q7.2)) H := hP
  have hD : va_D A (w_M_passesAll cI cJ cC a_h a_h_refused a_h_kind a_h_sweets a_h_gives a_h_tape a_h_letter a_h_letterAt a_h_one a_h_two a_h_kept a_h_trail a_h_crumb a_h_nextCrumb a_h_goal a_h_start a_h_sits a_h_bestSits a_h_without a_h_row y_h_taped y_h_at y_h_statements y_h_hasImage y_h_beforeMany y_h_found y_h_lots y_h_rowMany q7.1 (m_odd q7.2) (m_step q7.2) (m_bag q7.2) (m_strokes q7.2) (m_gave q7.2) (m_threw q7.2) (m_isKeeping q7.2) (m_cursor q7.2) (m_kind q7.2) (m_sweets q7.2) (m_gives q7.2) (m_kept q7.2)) := hD
  refine lv_aload_n hx hb d_M_passesAll_71 rfl (lv_at hl 0 rfl) ?_
  refine lv_aload_n hx hb d_M_passesAll_72 rfl (lv_at hl 0 rfl) ?_
  refine lv_aload_n hx hb d_M_passesAll_73 rfl (lv_at hl 0 rfl) ?_
  refine va_get hx hb hT i_M hown hK hP 0 rfl rfl 5 (Nat.le_of_ble_eq_true rfl) (hT _ k_763) (fun _ h => h) rfl d_M_passesAll_74 ?_
  obtain ⟨q8, hq8, hf⟩ := io_b hf
  refine xcVI (wc := (w_M_passOne cI cJ cC a_h a_h_refused a_h_kind a_h_sweets a_h_gives a_h_tape a_h_letter a_h_letterAt a_h_one a_h_two a_h_kept a_h_trail a_h_crumb a_h_nextCrumb a_h_goal a_h_start a_h_sits a_h_bestSits a_h_without a_h_row y_h_taped y_h_at y_h_statements y_h_hasImage y_h_beforeMany y_h_found y_h_lots y_h_rowMany q7.1 (m_odd q7.2) (m_step q7.2) (m_bag q7.2) (m_strokes q7.2) (m_gave q7.2) (m_threw q7.2) (m_isKeeping q7.2) (m_cursor q7.2) (m_kind q7.2) (m_sweets q7.2) (m_gives q7.2) (m_kept q7.2))) (wc' := (w_M_passOne cI cJ cC a_h a_h_refused a_h_kind a_h_sweets a_h_gives a_h_tape a_h_letter a_h_letterAt a_h_one a_h_two a_h_kept a_h_trail a_h_crumb a_h_nextCrumb a_h_goal a_h_start a_h_sits a_h_bestSits a_h_without a_h_row y_h_taped y_h_at y_h_statements y_h_hasImage y_h_beforeMany y_h_found y_h_lots y_h_rowMany (m_many q8.2) (m_odd q8.2) (m_step q8.2) (m_bag q8.2) (m_strokes q8.2) (m_gave q8.2) (m_threw q8.2) (m_isKeeping q8.2) (m_cursor q8.2) (m_kind q8.2) (m_sweets q8.2) (m_gives q8.2) (m_kept q8.2))) (ws' := (w_M_passesAll cI cJ cC a_h a_h_refused a_h_kind a_h_sweets a_h_gives a_h_tape a_h_letter a_h_letterAt a_h_one a_h_two a_h_kept a_h_trail a_h_crumb a_h_nextCrumb a_h_goal a_h_start a_h_sits a_h_bestSits a_h_without a_h_row y_h_taped y_h_at y_h_statements y_h_hasImage y_h_beforeMany y_h_found y_h_lots y_h_rowMany (m_many q8.2) (m_odd q8.2) (m_step q8.2) (m_bag q8.2) (m_strokes q8.2) (m_gave q8.2) (m_threw q8.2) (m_isKeeping q8.2) (m_cursor q8.2) (m_kind q8.2) (m_sweets q8.2) (m_gives q8.2) (m_kept q8.2))) (As := [.int (m_odd q7.2)]) (rest := [.ref a_h]) hx hb hml hown hT (c_M_passOne (z_h_T := ((m_kind q7.2), (m_sweets q7.2), (m_gives q7.2), (m_kept q7.2), q7.1, (m_odd q7.2), (m_step q7.2), (m_bag q7.2), (m_strokes q7.2), (m_gave q7.2), (m_threw q7.2), (m_isKeeping q7.2), (m_cursor q7.2))) a_h a_h_refused a_h_kind a_h_sweets a_h_gives a_h_tape a_h_letter a_h_letterAt a_h_one a_h_two a_h_kept a_h_trail a_h_crumb a_h_nextCrumb a_h_goal a_h_start a_h_sits a_h_bestSits a_h_without a_h_row y_h_taped y_h_at y_h_statements y_h_hasImage y_h_beforeMany y_h_found y_h_lots y_h_rowMany hq8) k_904 k_906 ks_29 k_8 k_907 hd_M_passOne ⟨Nat.le_of_ble_eq_true rfl, Nat.le_of_ble_eq_true rfl⟩ xE0_ok trivial hA hK hP hD hS [0, 1, 2, 3, 4] [] [0, 1, 2, 3, 4] rfl rfl rfl rfl rfl rfl rfl rfl rfl rfl hl.1 rfl (Nat.le_of_ble_eq_true rfl) ⟨Nat.zero_le _, Nat.zero_le _⟩ d_M_passesAll_77 (fun H locs hP hD hS => ?_)
  refine va_put (ty := .int) hx hb hT i_M t_M t_M_ok n_M hown hK hP hD hS 0 rfl rfl 5 (Nat.le_of_ble_eq_true rfl) (hT _ k_763) (fun _ h => h) rfl rfl rfl rfl (Nat.le_of_ble_eq_true rfl) d_M_passesAll_80 (fun H locs hP hD hS => ?_)
  have hP : va_P D classes (w_M_passesAll cI cJ cC a_h a_h_refused a_h_kind a_h_sweets a_h_gives a_h_tape a_h_letter a_h_letterAt a_h_one a_h_two a_h_kept a_h_trail a_h_crumb a_h_nextCrumb a_h_goal a_h_start a_h_sits a_h_bestSits a_h_without a_h_row y_h_taped y_h_at y_h_statements y_h_hasImage y_h_beforeMany y_h_found y_h_lots y_h_rowMany (m_many q8.2) q8.1 (m_step q8.2) (m_bag q8.2) (m_strokes q8.2) (m_gave q8.2) (m_threw q8.2) (m_isKeeping q8.2) (m_cursor q8.2) (m_kind q8.2) (m_sweets q8.2) (m_gives q8.2) (m_kept q8.2)) H := hP
  have hD : va_D A (w_M_passesAll cI cJ cC a_h a_h_refused a_h_kind a_h_sweets a_h_gives a_h_tape a_h_letter a_h_letterAt a_h_one a_h_two a_h_kept a_h_trail a_h_crumb a_h_nextCrumb a_h_goal a_h_start a_h_sits a_h_bestSits a_h_without a_h_row y_h_taped y_h_at y_h_statements y_h_hasImage y_h_beforeMany y_h_found y_h_lots y_h_rowMany (m_many q8.2) q8.1 (m_step q8.2) (m_bag q8.2) (m_strokes q8.2) (m_gave q8.2) (m_threw q8.2) (m_isKeeping q8.2) (m_cursor q8.2) (m_kind q8.2) (m_sweets q8.2) (m_gives q8.2) (m_kept q8.2)) := hD
  refine lv_aload_n hx hb d_M_passesAll_83 rfl (lv_at hl 0 rfl) ?_
  refine lv_aload_n hx hb d_M_passesAll_84 rfl (lv_at hl 0 rfl) ?_
  refine lv_aload_n hx hb d_M_passesAll_85 rfl (lv_at hl 0 rfl) ?_
  refine va_get hx hb hT i_M hown hK hP 0 rfl rfl 6 (Nat.le_of_ble_eq_true rfl) (hT _ k_764) (fun _ h => h) rfl d_M_passesAll_86 ?_
  obtain ⟨q9, hq9, hf⟩ := io_b hf
  refine xcVI (wc := (w_M_passOne cI cJ cC a_h a_h_refused a_h_kind a_h_sweets a_h_gives a_h_tape a_h_letter a_h_letterAt a_h_one a_h_two a_h_kept a_h_trail a_h_crumb a_h_nextCrumb a_h_goal a_h_start a_h_sits a_h_bestSits a_h_without a_h_row y_h_taped y_h_at y_h_statements y_h_hasImage y_h_beforeMany y_h_found y_h_lots y_h_rowMany (m_many q8.2) q8.1 (m_step q8.2) (m_bag q8.2) (m_strokes q8.2) (m_gave q8.2) (m_threw q8.2) (m_isKeeping q8.2) (m_cursor q8.2) (m_kind q8.2) (m_sweets q8.2) (m_gives q8.2) (m_kept q8.2))) (wc' := (w_M_passOne cI cJ cC a_h a_h_refused a_h_kind a_h_sweets a_h_gives a_h_tape a_h_letter a_h_letterAt a_h_one a_h_two a_h_kept a_h_trail a_h_crumb a_h_nextCrumb a_h_goal a_h_start a_h_sits a_h_bestSits a_h_without a_h_row y_h_taped y_h_at y_h_statements y_h_hasImage y_h_beforeMany y_h_found y_h_lots y_h_rowMany (m_many q9.2) (m_odd q9.2) (m_step q9.2) (m_bag q9.2) (m_strokes q9.2) (m_gave q9.2) (m_threw q9.2) (m_isKeeping q9.2) (m_cursor q9.2) (m_kind q9.2) (m_sweets q9.2) (m_gives q9.2) (m_kept q9.2))) (ws' := (w_M_passesAll cI cJ cC a_h a_h_refused a_h_kind a_h_sweets a_h_gives a_h_tape a_h_letter a_h_letterAt a_h_one a_h_two a_h_kept a_h_trail a_h_crumb a_h_nextCrumb a_h_goal a_h_start a_h_sits a_h_bestSits a_h_without a_h_row y_h_taped y_h_at y_h_statements y_h_hasImage y_h_beforeMany y_h_found y_h_lots y_h_rowMany (m_many q9.2) (m_odd q9.2) (m_step q9.2) (m_bag q9.2) (m_strokes q9.2) (m_gave q9.2) (m_threw q9.2) (m_isKeeping q9.2) (m_cursor q9.2) (m_kind q9.2) (m_sweets q9.2) (m_gives q9.2) (m_kept q9.2))) (As := [.int (m_step q8.2)]) (rest := [.ref a_h]) hx hb hml hown hT (c_M_passOne (z_h_T := ((m_kind q8.2), (m_sweets q8.2), (m_gives q8.2), (m_kept q8.2), (m_many q8.2), q8.1, (m_step q8.2), (m_bag q8.2), (m_strokes q8.2), (m_gave q8.2), (m_threw q8.2), (m_isKeeping q8.2), (m_cursor q8.2))) a_h a_h_refused a_h_kind a_h_sweets a_h_gives a_h_tape a_h_letter a_h_letterAt a_h_one a_h_two a_h_kept a_h_trail a_h_crumb a_h_nextCrumb a_h_goal a_h_start a_h_sits a_h_bestSits a_h_without a_h_row y_h_taped y_h_at y_h_statements y_h_hasImage y_h_beforeMany y_h_found y_h_lots y_h_rowMany hq9) k_904 k_906 ks_29 k_8 k_907 hd_M_passOne ⟨Nat.le_of_ble_eq_true rfl, Nat.le_of_ble_eq_true rfl⟩ xE0_ok trivial hA hK hP hD hS [0, 1, 2, 3, 4] [] [0, 1, 2, 3, 4] rfl rfl rfl rfl rfl rfl rfl rfl rfl rfl hl.1 rfl (Nat.le_of_ble_eq_true rfl) ⟨Nat.zero_le _, Nat.zero_le _⟩ d_M_passesAll_89 (fun H locs hP hD hS => ?_)
  refine va_put (ty := .int) hx hb hT i_M t_M t_M_ok n_M hown hK hP hD hS 0 rfl rfl 6 (Nat.le_of_ble_eq_true rfl) (hT _ k_764) (fun _ h => h) rfl rfl rfl rfl (Nat.le_of_ble_eq_true rfl) d_M_passesAll_92 (fun H locs hP hD hS => ?_)
  have hP : va_P D classes (w_M_passesAll cI cJ cC a_h a_h_refused a_h_kind a_h_sweets a_h_gives a_h_tape a_h_letter a_h_letterAt a_h_one a_h_two a_h_kept a_h_trail a_h_crumb a_h_nextCrumb a_h_goal a_h_start a_h_sits a_h_bestSits a_h_without a_h_row y_h_taped y_h_at y_h_statements y_h_hasImage y_h_beforeMany y_h_found y_h_lots y_h_rowMany (m_many q9.2) (m_odd q9.2) q9.1 (m_bag q9.2) (m_strokes q9.2) (m_gave q9.2) (m_threw q9.2) (m_isKeeping q9.2) (m_cursor q9.2) (m_kind q9.2) (m_sweets q9.2) (m_gives q9.2) (m_kept q9.2)) H := hP
  have hD : va_D A (w_M_passesAll cI cJ cC a_h a_h_refused a_h_kind a_h_sweets a_h_gives a_h_tape a_h_letter a_h_letterAt a_h_one a_h_two a_h_kept a_h_trail a_h_crumb a_h_nextCrumb a_h_goal a_h_start a_h_sits a_h_bestSits a_h_without a_h_row y_h_taped y_h_at y_h_statements y_h_hasImage y_h_beforeMany y_h_found y_h_lots y_h_rowMany (m_many q9.2) (m_odd q9.2) q9.1 (m_bag q9.2) (m_strokes q9.2) (m_gave q9.2) (m_threw q9.2) (m_isKeeping q9.2) (m_cursor q9.2) (m_kind q9.2) (m_sweets q9.2) (m_gives q9.2) (m_kept q9.2)) := hD
  refine lv_aload_n hx hb d_M_passesAll_95 rfl (lv_at hl 0 rfl) ?_
  refine lv_aload_n hx hb d_M_passesAll_96 rfl (lv_at hl 0 rfl) ?_
  refine lv_aload_n hx hb d_M_passesAll_97 rfl (lv_at hl 0 rfl) ?_
  refine va_get hx hb hT i_M hown hK hP 0 rfl rfl 7 (Nat.le_of_ble_eq_true rfl) (hT _ k_765) (fun _ h => h) rfl d_M_passesAll_98 ?_
  obtain ⟨q10, hq10, hf⟩ := io_b hf
  refine xcVI (wc := (w_M_passOne cI cJ cC a_h a_h_refused a_h_kind a_h_sweets a_h_gives a_h_tape a_h_letter a_h_letterAt a_h_one a_h_two a_h_kept a_h_trail a_h_crumb a_h_nextCrumb a_h_goal a_h_start a_h_sits a_h_bestSits a_h_without a_h_row y_h_taped y_h_at y_h_statements y_h_hasImage y_h_beforeMany y_h_found y_h_lots y_h_rowMany (m_many q9.2) (m_odd q9.2) q9.1 (m_bag q9.2) (m_strokes q9.2) (m_gave q9.2) (m_threw q9.2) (m_isKeeping q9.2) (m_cursor q9.2) (m_kind q9.2) (m_sweets q9.2) (m_gives q9.2) (m_kept q9.2))) (wc' := (w_M_passOne cI cJ cC a_h a_h_refused a_h_kind a_h_sweets a_h_gives a_h_tape a_h_letter a_h_letterAt a_h_one a_h_two a_h_kept a_h_trail a_h_crumb a_h_nextCrumb a_h_goal a_h_start a_h_sits a_h_bestSits a_h_without a_h_row y_h_taped y_h_at y_h_statements y_h_hasImage y_h_beforeMany y_h_found y_h_lots y_h_rowMany (m_many q10.2) (m_odd q10.2) (m_step q10.2) (m_bag q10.2) (m_strokes q10.2) (m_gave q10.2) (m_threw q10.2) (m_isKeeping q10.2) (m_cursor q10.2) (m_kind q10.2) (m_sweets q10.2) (m_gives q10.2) (m_kept q10.2))) (ws' := (w_M_passesAll cI cJ cC a_h a_h_refused a_h_kind a_h_sweets a_h_gives a_h_tape a_h_letter a_h_letterAt a_h_one a_h_two a_h_kept a_h_trail a_h_crumb a_h_nextCrumb a_h_goal a_h_start a_h_sits a_h_bestSits a_h_without a_h_row y_h_taped y_h_at y_h_statements y_h_hasImage y_h_beforeMany y_h_found y_h_lots y_h_rowMany (m_many q10.2) (m_odd q10.2) (m_step q10.2) (m_bag q10.2) (m_strokes q10.2) (m_gave q10.2) (m_threw q10.2) (m_isKeeping q10.2) (m_cursor q10.2) (m_kind q10.2) (m_sweets q10.2) (m_gives q10.2) (m_kept q10.2))) (As := [.int (m_bag q9.2)]) (rest := [.ref a_h]) hx hb hml hown hT (c_M_passOne (z_h_T := ((m_kind q9.2), (m_sweets q9.2), (m_gives q9.2), (m_kept q9.2), (m_many q9.2), (m_odd q9.2), q9.1, (m_bag q9.2), (m_strokes q9.2), (m_gave q9.2), (m_threw q9.2), (m_isKeeping q9.2), (m_cursor q9.2))) a_h a_h_refused a_h_kind a_h_sweets a_h_gives a_h_tape a_h_letter a_h_letterAt a_h_one a_h_two a_h_kept a_h_trail a_h_crumb a_h_nextCrumb a_h_goal a_h_start a_h_sits a_h_bestSits a_h_without a_h_row y_h_taped y_h_at y_h_statements y_h_hasImage y_h_beforeMany y_h_found y_h_lots y_h_rowMany hq10) k_904 k_906 ks_29 k_8 k_907 hd_M_passOne ⟨Nat.le_of_ble_eq_true rfl, Nat.le_of_ble_eq_true rfl⟩ xE0_ok trivial hA hK hP hD hS [0, 1, 2, 3, 4] [] [0, 1, 2, 3, 4] rfl rfl rfl rfl rfl rfl rfl rfl rfl rfl hl.1 rfl (Nat.le_of_ble_eq_true rfl) ⟨Nat.zero_le _, Nat.zero_le _⟩ d_M_passesAll_101 (fun H locs hP hD hS => ?_)
  refine va_put (ty := .int) hx hb hT i_M t_M t_M_ok n_M hown hK hP hD hS 0 rfl rfl 7 (Nat.le_of_ble_eq_true rfl) (hT _ k_765) (fun _ h => h) rfl rfl rfl rfl (Nat.le_of_ble_eq_true rfl) d_M_passesAll_104 (fun H locs hP hD hS => ?_)
  have hP : va_P D classes (w_M_passesAll cI cJ cC a_h a_h_refused a_h_kind a_h_sweets a_h_gives a_h_tape a_h_letter a_h_letterAt a_h_one a_h_two a_h_kept a_h_trail a_h_crumb a_h_nextCrumb a_h_goal a_h_start a_h_sits a_h_bestSits a_h_without a_h_row y_h_taped y_h_at y_h_statements y_h_hasImage y_h_beforeMany y_h_found y_h_lots y_h_rowMany (m_many q10.2) (m_odd q10.2) (m_step q10.2) q10.1 (m_strokes q10.2) (m_gave q10.2) (m_threw q10.2) (m_isKeeping q10.2) (m_cursor q10.2) (m_kind q10.2) (m_sweets q10.2) (m_gives q10.2) (m_kept q10.2)) H := hP
  have hD : va_D A (w_M_passesAll cI cJ cC a_h a_h_refused a_h_kind a_h_sweets a_h_gives a_h_tape a_h_letter a_h_letterAt a_h_one a_h_two a_h_kept a_h_trail a_h_crumb a_h_nextCrumb a_h_goal a_h_start a_h_sits a_h_bestSits a_h_without a_h_row y_h_taped y_h_at y_h_statements y_h_hasImage y_h_beforeMany y_h_found y_h_lots y_h_rowMany (m_many q10.2) (m_odd q10.2) (m_step q10.2) q10.1 (m_strokes q10.2) (m_gave q10.2) (m_threw q10.2) (m_isKeeping q10.2) (m_cursor q10.2) (m_kind q10.2) (m_sweets q10.2) (m_gives q10.2) (m_kept q10.2)) := hD
  refine lv_aload_n hx hb d_M_passesAll_107 rfl (lv_at hl 0 rfl) ?_
  refine lv_aload_n hx hb d_M_passesAll_108 rfl (lv_at hl 0 rfl) ?_
  refine lv_aload_n hx hb d_M_passesAll_109 rfl (lv_at hl 0 rfl) ?_
  refine va_get hx hb hT i_M hown hK hP 0 rfl rfl 8 (Nat.le_of_ble_eq_true rfl) (hT _ k_766) (fun _ h => h) rfl d_M_passesAll_110 ?_
  obtain ⟨q11, hq11, hf⟩ := io_b hf
  refine xcVI (wc := (w_M_passOne cI cJ cC a_h a_h_refused a_h_kind a_h_sweets a_h_gives a_h_tape a_h_letter a_h_letterAt a_h_one a_h_two a_h_kept a_h_trail a_h_crumb a_h_nextCrumb a_h_goal a_h_start a_h_sits a_h_bestSits a_h_without a_h_row y_h_taped y_h_at y_h_statements y_h_hasImage y_h_beforeMany y_h_found y_h_lots y_h_rowMany (m_many q10.2) (m_odd q10.2) (m_step q10.2) q10.1 (m_strokes q10.2) (m_gave q10.2) (m_threw q10.2) (m_isKeeping q10.2) (m_cursor q10.2) (m_kind q10.2) (m_sweets q10.2) (m_gives q10.2) (m_kept q10.2))) (wc' := (w_M_passOne cI cJ cC a_h a_h_refused a_h_kind a_h_sweets a_h_gives a_h_tape a_h_letter a_h_letterAt a_h_one a_h_two a_h_kept a_h_trail a_h_crumb a_h_nextCrumb a_h_goal a_h_start a_h_sits a_h_bestSits a_h_without a_h_row y_h_taped y_h_at y_h_statements y_h_hasImage y_h_beforeMany y_h_found y_h_lots y_h_rowMany (m_many q11.2) (m_odd q11.2) (m_step q11.2) (m_bag q11.2) (m_strokes q11.2) (m_gave q11.2) (m_threw q11.2) (m_isKeeping q11.2) (m_cursor q11.2) (m_kind q11.2) (m_sweets q11.2) (m_gives q11.2) (m_kept q11.2))) (ws' := (w_M_passesAll cI cJ cC a_h a_h_refused a_h_kind a_h_sweets a_h_gives a_h_tape a_h_letter a_h_letterAt a_h_one a_h_two a_h_kept a_h_trail a_h_crumb a_h_nextCrumb a_h_goal a_h_start a_h_sits a_h_bestSits a_h_without a_h_row y_h_taped y_h_at y_h_statements y_h_hasImage y_h_beforeMany y_h_found y_h_lots y_h_rowMany (m_many q11.2) (m_odd q11.2) (m_step q11.2) (m_bag q11.2) (m_strokes q11.2) (m_gave q11.2) (m_threw q11.2) (m_isKeeping q11.2) (m_cursor q11.2) (m_kind q11.2) (m_sweets q11.2) (m_gives q11.2) (m_kept q11.2))) (As := [.int (m_strokes q10.2)]) (rest := [.ref a_h]) hx hb hml hown hT (c_M_passOne (z_h_T := ((m_kind q10.2), (m_sweets q10.2), (m_gives q10.2), (m_kept q10.2), (m_many q10.2), (m_odd q10.2), (m_step q10.2), q10.1, (m_strokes q10.2), (m_gave q10.2), (m_threw q10.2), (m_isKeeping q10.2), (m_cursor q10.2))) a_h a_h_refused a_h_kind a_h_sweets a_h_gives a_h_tape a_h_letter a_h_letterAt a_h_one a_h_two a_h_kept a_h_trail a_h_crumb a_h_nextCrumb a_h_goal a_h_start a_h_sits a_h_bestSits a_h_without a_h_row y_h_taped y_h_at y_h_statements y_h_hasImage y_h_beforeMany y_h_found y_h_lots y_h_rowMany hq11) k_904 k_906 ks_29 k_8 k_907 hd_M_passOne ⟨Nat.le_of_ble_eq_true rfl, Nat.le_of_ble_eq_true rfl⟩ xE0_ok trivial hA hK hP hD hS [0, 1, 2, 3, 4] [] [0, 1, 2, 3, 4] rfl rfl rfl rfl rfl rfl rfl rfl rfl rfl hl.1 rfl (Nat.le_of_ble_eq_true rfl) ⟨Nat.zero_le _, Nat.zero_le _⟩ d_M_passesAll_113 (fun H locs hP hD hS => ?_)
  refine va_put (ty := .int) hx hb hT i_M t_M t_M_ok n_M hown hK hP hD hS 0 rfl rfl 8 (Nat.le_of_ble_eq_true rfl) (hT _ k_766) (fun _ h => h) rfl rfl rfl rfl (Nat.le_of_ble_eq_true rfl) d_M_passesAll_116 (fun H locs hP hD hS => ?_)
  have hP : va_P D classes (w_M_passesAll cI cJ cC a_h a_h_refused a_h_kind a_h_sweets a_h_gives a_h_tape a_h_letter a_h_letterAt a_h_one a_h_two a_h_kept a_h_trail a_h_crumb a_h_nextCrumb a_h_goal a_h_start a_h_sits a_h_bestSits a_h_without a_h_row y_h_taped y_h_at y_h_statements y_h_hasImage y_h_beforeMany y_h_found y_h_lots y_h_rowMany (m_many q11.2) (m_odd q11.2) (m_step q11.2) (m_bag q11.2) q11.1 (m_gave q11.2) (m_threw q11.2) (m_isKeeping q11.2) (m_cursor q11.2) (m_kind q11.2) (m_sweets q11.2) (m_gives q11.2) (m_kept q11.2)) H := hP
  have hD : va_D A (w_M_passesAll cI cJ cC a_h a_h_refused a_h_kind a_h_sweets a_h_gives a_h_tape a_h_letter a_h_letterAt a_h_one a_h_two a_h_kept a_h_trail a_h_crumb a_h_nextCrumb a_h_goal a_h_start a_h_sits a_h_bestSits a_h_without a_h_row y_h_taped y_h_at y_h_statements y_h_hasImage y_h_beforeMany y_h_found y_h_lots y_h_rowMany (m_many q11.2) (m_odd q11.2) (m_step q11.2) (m_bag q11.2) q11.1 (m_gave q11.2) (m_threw q11.2) (m_isKeeping q11.2) (m_cursor q11.2) (m_kind q11.2) (m_sweets q11.2) (m_gives q11.2) (m_kept q11.2)) := hD
  refine lv_aload_n hx hb d_M_passesAll_119 rfl (lv_at hl 0 rfl) ?_
  refine lv_aload_n hx hb d_M_passesAll_120 rfl (lv_at hl 0 rfl) ?_
  refine lv_aload_n hx hb d_M_passesAll_121 rfl (lv_at hl 0 rfl) ?_
  refine va_get hx hb hT i_M hown hK hP 0 rfl rfl 9 (Nat.le_of_ble_eq_true rfl) (hT _ k_767) (fun _ h => h) rfl d_M_passesAll_122 ?_
  obtain ⟨q12, hq12, hf⟩ := io_b hf
  refine xcVI (wc := (w_M_passOne cI cJ cC a_h a_h_refused a_h_kind a_h_sweets a_h_gives a_h_tape a_h_letter a_h_letterAt a_h_one a_h_two a_h_kept a_h_trail a_h_crumb a_h_nextCrumb a_h_goal a_h_start a_h_sits a_h_bestSits a_h_without a_h_row y_h_taped y_h_at y_h_statements y_h_hasImage y_h_beforeMany y_h_found y_h_lots y_h_rowMany (m_many q11.2) (m_odd q11.2) (m_step q11.2) (m_bag q11.2) q11.1 (m_gave q11.2) (m_threw q11.2) (m_isKeeping q11.2) (m_cursor q11.2) (m_kind q11.2) (m_sweets q11.2) (m_gives q11.2) (m_kept q11.2))) (wc' := (w_M_passOne cI cJ cC a_h a_h_refused a_h_kind a_h_sweets a_h_gives a_h_tape a_h_letter a_h_letterAt a_h_one a_h_two a_h_kept a_h_trail a_h_crumb a_h_nextCrumb a_h_goal a_h_start a_h_sits a_h_bestSits a_h_without a_h_row y_h_taped y_h_at y_h_statements y_h_hasImage y_h_beforeMany y_h_found y_h_lots y_h_rowMany (m_many q12.2) (m_odd q12.2) (m_step q12.2) (m_bag q12.2) (m_strokes q12.2) (m_gave q12.2) (m_threw q12.2) (m_isKeeping q12.2) (m_cursor q12.2) (m_kind q12.2) (m_sweets q12.2) (m_gives q12.2) (m_kept q12.2))) (ws' := (w_M_passesAll cI cJ cC a_h a_h_refused a_h_kind a_h_sweets a_h_gives a_h_tape a_h_letter a_h_letterAt a_h_one a_h_two a_h_kept a_h_trail a_h_crumb a_h_nextCrumb a_h_goal a_h_start a_h_sits a_h_bestSits a_h_without a_h_row y_h_taped y_h_at y_h_statements y_h_hasImage y_h_beforeMany y_h_found y_h_lots y_h_rowMany (m_many q12.2) (m_odd q12.2) (m_step q12.2) (m_bag q12.2) (m_strokes q12.2) (m_gave q12.2) (m_threw q12.2) (m_isKeeping q12.2) (m_cursor q12.2) (m_kind q12.2) (m_sweets q12.2) (m_gives q12.2) (m_kept q12.2))) (As := [.int (m_gave q11.2)]) (rest := [.ref a_h]) hx hb hml hown hT (c_M_passOne (z_h_T := ((m_kind q11.2), (m_sweets q11.2), (m_gives q11.2), (m_kept q11.2), (m_many q11.2), (m_odd q11.2), (m_step q11.2), (m_bag q11.2), q11.1, (m_gave q11.2), (m_threw q11.2), (m_isKeeping q11.2), (m_cursor q11.2))) a_h a_h_refused a_h_kind a_h_sweets a_h_gives a_h_tape a_h_letter a_h_letterAt a_h_one a_h_two a_h_kept a_h_trail a_h_crumb a_h_nextCrumb a_h_goal a_h_start a_h_sits a_h_bestSits a_h_without a_h_row y_h_taped y_h_at y_h_statements y_h_hasImage y_h_beforeMany y_h_found y_h_lots y_h_rowMany hq12) k_904 k_906 ks_29 k_8 k_907 hd_M_passOne ⟨Nat.le_of_ble_eq_true rfl, Nat.le_of_ble_eq_true rfl⟩ xE0_ok trivial hA hK hP hD hS [0, 1, 2, 3, 4] [] [0, 1, 2, 3, 4] rfl rfl rfl rfl rfl rfl rfl rfl rfl rfl hl.1 rfl (Nat.le_of_ble_eq_true rfl) ⟨Nat.zero_le _, Nat.zero_le _⟩ d_M_passesAll_125 (fun H locs hP hD hS => ?_)
  refine va_put (ty := .int) hx hb hT i_M t_M t_M_ok n_M hown hK hP hD hS 0 rfl rfl 9 (Nat.le_of_ble_eq_true rfl) (hT _ k_767) (fun _ h => h) rfl rfl rfl rfl (Nat.le_of_ble_eq_true rfl) d_M_passesAll_128 (fun H locs hP hD hS => ?_)
  have hP : va_P D classes (w_M_passesAll cI cJ cC a_h a_h_refused a_h_kind a_h_sweets a_h_gives a_h_tape a_h_letter a_h_letterAt a_h_one a_h_two a_h_kept a_h_trail a_h_crumb a_h_nextCrumb a_h_goal a_h_start a_h_sits a_h_bestSits a_h_without a_h_row y_h_taped y_h_at y_h_statements y_h_hasImage y_h_beforeMany y_h_found y_h_lots y_h_rowMany (m_many q12.2) (m_odd q12.2) (m_step q12.2) (m_bag q12.2) (m_strokes q12.2) q12.1 (m_threw q12.2) (m_isKeeping q12.2) (m_cursor q12.2) (m_kind q12.2) (m_sweets q12.2) (m_gives q12.2) (m_kept q12.2)) H := hP
  have hD : va_D A (w_M_passesAll cI cJ cC a_h a_h_refused a_h_kind a_h_sweets a_h_gives a_h_tape a_h_letter a_h_letterAt a_h_one a_h_two a_h_kept a_h_trail a_h_crumb a_h_nextCrumb a_h_goal a_h_start a_h_sits a_h_bestSits a_h_without a_h_row y_h_taped y_h_at y_h_statements y_h_hasImage y_h_beforeMany y_h_found y_h_lots y_h_rowMany (m_many q12.2) (m_odd q12.2) (m_step q12.2) (m_bag q12.2) (m_strokes q12.2) q12.1 (m_threw q12.2) (m_isKeeping q12.2) (m_cursor q12.2) (m_kind q12.2) (m_sweets q12.2) (m_gives q12.2) (m_kept q12.2)) := hD
  refine lv_aload_n hx hb d_M_passesAll_131 rfl (lv_at hl 0 rfl) ?_
  refine lv_aload_n hx hb d_M_passesAll_132 rfl (lv_at hl 0 rfl) ?_
  refine lv_aload_n hx hb d_M_passesAll_133 rfl (lv_at hl 0 rfl) ?_
  refine va_get hx hb hT i_M hown hK hP 0 rfl rfl 10 (Nat.le_of_ble_eq_true rfl) (hT _ k_768) (fun _ h => h) rfl d_M_passesAll_134 ?_
  obtain ⟨q13, hq13, hf⟩ := io_b hf
  refine xcVI (wc := (w_M_passOne cI cJ cC a_h a_h_refused a_h_kind a_h_sweets a_h_gives a_h_tape a_h_letter a_h_letterAt a_h_one a_h_two a_h_kept a_h_trail a_h_crumb a_h_nextCrumb a_h_goal a_h_start a_h_sits a_h_bestSits a_h_without a_h_row y_h_taped y_h_at y_h_statements y_h_hasImage y_h_beforeMany y_h_found y_h_lots y_h_rowMany (m_many q12.2) (m_odd q12.2) (m_step q12.2) (m_bag q12.2) (m_strokes q12.2) q12.1 (m_threw q12.2) (m_isKeeping q12.2) (m_cursor q12.2) (m_kind q12.2) (m_sweets q12.2) (m_gives q12.2) (m_kept q12.2))) (wc' := (w_M_passOne cI cJ cC a_h a_h_refused a_h_kind a_h_sweets a_h_gives a_h_tape a_h_letter a_h_letterAt a_h_one a_h_two a_h_kept a_h_trail a_h_crumb a_h_nextCrumb a_h_goal a_h_start a_h_sits a_h_bestSits a_h_without a_h_row y_h_taped y_h_at y_h_statements y_h_hasImage y_h_beforeMany y_h_found y_h_lots y_h_rowMany (m_many q13.2) (m_odd q13.2) (m_step q13.2) (m_bag q13.2) (m_strokes q13.2) (m_gave q13.2) (m_threw q13.2) (m_isKeeping q13.2) (m_cursor q13.2) (m_kind q13.2) (m_sweets q13.2) (m_gives q13.2) (m_kept q13.2))) (ws' := (w_M_passesAll cI cJ cC a_h a_h_refused a_h_kind a_h_sweets a_h_gives a_h_tape a_h_letter a_h_letterAt a_h_one a_h_two a_h_kept a_h_trail a_h_crumb a_h_nextCrumb a_h_goal a_h_start a_h_sits a_h_bestSits a_h_without a_h_row y_h_taped y_h_at y_h_statements y_h_hasImage y_h_beforeMany y_h_found y_h_lots y_h_rowMany (m_many q13.2) (m_odd q13.2) (m_step q13.2) (m_bag q13.2) (m_strokes q13.2) (m_gave q13.2) (m_threw q13.2) (m_isKeeping q13.2) (m_cursor q13.2) (m_kind q13.2) (m_sweets q13.2) (m_gives q13.2) (m_kept q13.2))) (As := [.int (m_threw q12.2)]) (rest := [.ref a_h]) hx hb hml hown hT (c_M_passOne (z_h_T := ((m_kind q12.2), (m_sweets q12.2), (m_gives q12.2), (m_kept q12.2), (m_many q12.2), (m_odd q12.2), (m_step q12.2), (m_bag q12.2), (m_strokes q12.2), q12.1, (m_threw q12.2), (m_isKeeping q12.2), (m_cursor q12.2))) a_h a_h_refused a_h_kind a_h_sweets a_h_gives a_h_tape a_h_letter a_h_letterAt a_h_one a_h_two a_h_kept a_h_trail a_h_crumb a_h_nextCrumb a_h_goal a_h_start a_h_sits a_h_bestSits a_h_without a_h_row y_h_taped y_h_at y_h_statements y_h_hasImage y_h_beforeMany y_h_found y_h_lots y_h_rowMany hq13) k_904 k_906 ks_29 k_8 k_907 hd_M_passOne ⟨Nat.le_of_ble_eq_true rfl, Nat.le_of_ble_eq_true rfl⟩ xE0_ok trivial hA hK hP hD hS [0, 1, 2, 3, 4] [] [0, 1, 2, 3, 4] rfl rfl rfl rfl rfl rfl rfl rfl rfl rfl hl.1 rfl (Nat.le_of_ble_eq_true rfl) ⟨Nat.zero_le _, Nat.zero_le _⟩ d_M_passesAll_137 (fun H locs hP hD hS => ?_)
  refine va_put (ty := .int) hx hb hT i_M t_M t_M_ok n_M hown hK hP hD hS 0 rfl rfl 10 (Nat.le_of_ble_eq_true rfl) (hT _ k_768) (fun _ h => h) rfl rfl rfl rfl (Nat.le_of_ble_eq_true rfl) d_M_passesAll_140 (fun H locs hP hD hS => ?_)
  have hP : va_P D classes (w_M_passesAll cI cJ cC a_h a_h_refused a_h_kind a_h_sweets a_h_gives a_h_tape a_h_letter a_h_letterAt a_h_one a_h_two a_h_kept a_h_trail a_h_crumb a_h_nextCrumb a_h_goal a_h_start a_h_sits a_h_bestSits a_h_without a_h_row y_h_taped y_h_at y_h_statements y_h_hasImage y_h_beforeMany y_h_found y_h_lots y_h_rowMany (m_many q13.2) (m_odd q13.2) (m_step q13.2) (m_bag q13.2) (m_strokes q13.2) (m_gave q13.2) q13.1 (m_isKeeping q13.2) (m_cursor q13.2) (m_kind q13.2) (m_sweets q13.2) (m_gives q13.2) (m_kept q13.2)) H := hP
  have hD : va_D A (w_M_passesAll cI cJ cC a_h a_h_refused a_h_kind a_h_sweets a_h_gives a_h_tape a_h_letter a_h_letterAt a_h_one a_h_two a_h_kept a_h_trail a_h_crumb a_h_nextCrumb a_h_goal a_h_start a_h_sits a_h_bestSits a_h_without a_h_row y_h_taped y_h_at y_h_statements y_h_hasImage y_h_beforeMany y_h_found y_h_lots y_h_rowMany (m_many q13.2) (m_odd q13.2) (m_step q13.2) (m_bag q13.2) (m_strokes q13.2) (m_gave q13.2) q13.1 (m_isKeeping q13.2) (m_cursor q13.2) (m_kind q13.2) (m_sweets q13.2) (m_gives q13.2) (m_kept q13.2)) := hD
  have hq := Option.some.inj hf
  subst hq
  exact hret _ _ _ _ d_M_passesAll_143 hP hD hS
abbrev w_M_table (cI cJ cC : ClassId) (a_h a_h_refused a_h_kind a_h_sweets a_h_gives a_h_tape a_h_letter a_h_letterAt a_h_one a_h_two a_h_kept a_h_trail a_h_crumb a_h_nextCrumb a_h_goal a_h_start a_h_sits a_h_bestSits a_h_without a_h_row : Nat) (y_h_hasImage : Int32) (y_h_beforeMany : Int32) (y_h_found : Int32) (y_h_lots : Int32) (y_h_rowMany : Int32) (p_h_many : Int32) (p_h_odd : Int32) (p_h_step : Int32) (p_h_bag : Int32) (p_h_strokes : Int32) (p_h_gave : Int32) (p_h_threw : Int32) (p_h_taped : Int32) (p_h_at : Int32) (p_h_statements : Int32) (p_h_isKeeping : Int32) (p_h_cursor : Int32) (p_h_kind : (Nat → Int32)) (p_h_sweets : (Nat → Int32)) (p_h_gives : (Nat → Int32)) (p_h_tape : (Nat → Int32)) (p_h_letter : (Nat → Int32)) (p_h_letterAt : (Nat → Int32)) (p_h_one : (Nat → Int32)) (p_h_two : (Nat → Int32)) (p_h_kept : (Nat → Int32)) : va_W := [(a_h, .inr (7, [.ref a_h_refused, .ref a_h_kind, .ref a_h_sweets, .ref a_h_gives, .int p_h_many, .int p_h_odd, .int p_h_step, .int p_h_bag, .int p_h_strokes, .int p_h_gave, .int p_h_threw, .ref a_h_tape, .ref a_h_letter, .ref a_h_letterAt, .ref a_h_one, .ref a_h_two, .int p_h_taped, .int p_h_at, .int p_h_statements, .ref a_h_kept, .int y_h_hasImage, .int p_h_isKeeping, .int p_h_cursor, .ref a_h_trail, .ref a_h_crumb, .ref a_h_nextCrumb, .ref a_h_goal, .ref a_h_start, .int y_h_beforeMany, .int y_h_found, .ref a_h_sits, .ref a_h_bestSits, .ref a_h_without, .int y_h_lots, .ref a_h_row, .int y_h_rowMany])), (a_h_kind, .inl (cI, (8, .inl p_h_kind))), (a_h_sweets, .inl (cI, (8, .inl p_h_sweets))), (a_h_gives, .inl (cI, (8, .inl p_h_gives))), (a_h_tape, .inl (cI, (64, .inl p_h_tape))), (a_h_letter, .inl (cI, (32, .inl p_h_letter))), (a_h_letterAt, .inl (cI, (32, .inl p_h_letterAt))), (a_h_one, .inl (cI, (32, .inl p_h_one))), (a_h_two, .inl (cI, (32, .inl p_h_two))), (a_h_kept, .inl (cI, (90, .inl p_h_kept)))]
theorem d_M_table_0 : decode b_M_table 0 = .ok (.aload_n 0, 1) := by decide +kernel
theorem d_M_table_1 : decode b_M_table 1 = .ok (.iconst 0, 1) := by decide +kernel
theorem d_M_table_2 : decode b_M_table 2 = .ok (.putfield 92, 3) := by decide +kernel
theorem d_M_table_5 : decode b_M_table 5 = .ok (.aload_n 0, 1) := by decide +kernel
theorem d_M_table_6 : decode b_M_table 6 = .ok (.iconst 0, 1) := by decide +kernel
theorem d_M_table_7 : decode b_M_table 7 = .ok (.putfield 103, 3) := by decide +kernel
theorem d_M_table_10 : decode b_M_table 10 = .ok (.iconst 1, 1) := by decide +kernel
theorem d_M_table_11 : decode b_M_table 11 = .ok (.istore_n 1, 1) := by decide +kernel
theorem d_M_table_12 : decode b_M_table 12 = .ok (.iload_n 1, 1) := by decide +kernel
theorem d_M_table_13 : decode b_M_table 13 = .ok (.ifCond .eq 47, 3) := by decide +kernel
theorem d_M_table_16 : decode b_M_table 16 = .ok (.aload_n 0, 1) := by decide +kernel
theorem d_M_table_17 : decode b_M_table 17 = .ok (.getfield 92, 3) := by decide +kernel
theorem d_M_table_20 : decode b_M_table 20 = .ok (.aload_n 0, 1) := by decide +kernel
theorem d_M_table_21 : decode b_M_table 21 = .ok (.getfield 85, 3) := by decide +kernel
theorem d_M_table_24 : decode b_M_table 24 = .ok (.if_icmp .lt 10, 3) := by decide +kernel
theorem d_M_table_27 : decode b_M_table 27 = .ok (.aload_n 0, 1) := by decide +kernel
theorem d_M_table_28 : decode b_M_table 28 = .ok (.getfield 103, 3) := by decide +kernel
theorem d_M_table_31 : decode b_M_table 31 = .ok (.ifCond .ne 29, 3) := by decide +kernel
theorem d_M_table_34 : decode b_M_table 34 = .ok (.aload_n 0, 1) := by decide +kernel
theorem d_M_table_35 : decode b_M_table 35 = .ok (.invokevirtual 115, 3) := by decide +kernel
theorem d_M_table_38 : decode b_M_table 38 = .ok (.istore_n 1, 1) := by decide +kernel
theorem d_M_table_39 : decode b_M_table 39 = .ok (.aload_n 0, 1) := by decide +kernel
theorem d_M_table_40 : decode b_M_table 40 = .ok (.dup, 1) := by decide +kernel
theorem d_M_table_41 : decode b_M_table 41 = .ok (.getfield 103, 3) := by decide +kernel
theorem d_M_table_44 : decode b_M_table 44 = .ok (.iload_n 1, 1) := by decide +kernel
theorem d_M_table_45 : decode b_M_table 45 = .ok (.ifCond .eq 7, 3) := by decide +kernel
theorem d_M_table_48 : decode b_M_table 48 = .ok (.iconst 1, 1) := by decide +kernel
theorem d_M_table_49 : decode b_M_table 49 = .ok (.goto 4, 3) := by decide +kernel
theorem d_M_table_52 : decode b_M_table 52 = .ok (.iconst 0, 1) := by decide +kernel
theorem d_M_table_53 : decode b_M_table 53 = .ok (.iadd, 1) := by decide +kernel
theorem d_M_table_54 : decode b_M_table 54 = .ok (.putfield 103, 3) := by decide +kernel
theorem d_M_table_57 : decode b_M_table 57 = .ok (.goto (-45), 3) := by decide +kernel
theorem d_M_table_60 : decode b_M_table 60 = .ok (.aload_n 0, 1) := by decide +kernel
theorem d_M_table_61 : decode b_M_table 61 = .ok (.iconst 0, 1) := by decide +kernel
theorem d_M_table_62 : decode b_M_table 62 = .ok (.putfield 85, 3) := by decide +kernel
theorem d_M_table_65 : decode b_M_table 65 = .ok (.iload_n 1, 1) := by decide +kernel
theorem d_M_table_66 : decode b_M_table 66 = .ok (.ifCond .ne 12, 3) := by decide +kernel
theorem d_M_table_69 : decode b_M_table 69 = .ok (.sipush (-1000), 3) := by decide +kernel
theorem d_M_table_72 : decode b_M_table 72 = .ok (.aload_n 0, 1) := by decide +kernel
theorem d_M_table_73 : decode b_M_table 73 = .ok (.getfield 92, 3) := by decide +kernel
theorem d_M_table_76 : decode b_M_table 76 = .ok (.isub, 1) := by decide +kernel
theorem d_M_table_77 : decode b_M_table 77 = .ok (.ireturn, 1) := by decide +kernel
theorem d_M_table_78 : decode b_M_table 78 = .ok (.aload_n 0, 1) := by decide +kernel
theorem d_M_table_79 : decode b_M_table 79 = .ok (.iconst 1, 1) := by decide +kernel
theorem d_M_table_80 : decode b_M_table 80 = .ok (.iconst 1, 1) := by decide +kernel
theorem d_M_table_81 : decode b_M_table 81 = .ok (.invokevirtual 119, 3) := by decide +kernel
theorem d_M_table_84 : decode b_M_table 84 = .ok (.iconst 0, 1) := by decide +kernel
theorem d_M_table_85 : decode b_M_table 85 = .ok (.istore_n 2, 1) := by decide +kernel
theorem d_M_table_86 : decode b_M_table 86 = .ok (.iload_n 2, 1) := by decide +kernel
theorem d_M_table_87 : decode b_M_table 87 = .ok (.aload_n 0, 1) := by decide +kernel
theorem d_M_table_88 : decode b_M_table 88 = .ok (.getfield 103, 3) := by decide +kernel
theorem d_M_table_91 : decode b_M_table 91 = .ok (.if_icmp .ge 37, 3) := by decide +kernel
theorem d_M_table_94 : decode b_M_table 94 = .ok (.aload_n 0, 1) := by decide +kernel
theorem d_M_table_95 : decode b_M_table 95 = .ok (.iload_n 2, 1) := by decide +kernel
theorem d_M_table_96 : decode b_M_table 96 = .ok (.invokevirtual 123, 3) := by decide +kernel
theorem d_M_table_99 : decode b_M_table 99 = .ok (.ifCond .eq 6, 3) := by decide +kernel
theorem d_M_table_102 : decode b_M_table 102 = .ok (.goto 20, 3) := by decide +kernel
theorem d_M_table_105 : decode b_M_table 105 = .ok (.aload_n 0, 1) := by decide +kernel
theorem d_M_table_106 : decode b_M_table 106 = .ok (.iconst 1, 1) := by decide +kernel
theorem d_M_table_107 : decode b_M_table 107 = .ok (.iconst 0, 1) := by decide +kernel
theorem d_M_table_108 : decode b_M_table 108 = .ok (.invokevirtual 119, 3) := by decide +kernel
theorem d_M_table_111 : decode b_M_table 111 = .ok (.sipush (-2000), 3) := by decide +kernel
theorem d_M_table_114 : decode b_M_table 114 = .ok (.aload_n 0, 1) := by decide +kernel
theorem d_M_table_115 : decode b_M_table 115 = .ok (.getfield 35, 3) := by decide +kernel
theorem d_M_table_118 : decode b_M_table 118 = .ok (.iload_n 2, 1) := by decide +kernel
theorem d_M_table_119 : decode b_M_table 119 = .ok (.iaload, 1) := by decide +kernel
theorem d_M_table_120 : decode b_M_table 120 = .ok (.isub, 1) := by decide +kernel
theorem d_M_table_121 : decode b_M_table 121 = .ok (.ireturn, 1) := by decide +kernel
theorem d_M_table_122 : decode b_M_table 122 = .ok (.iinc 2 1, 3) := by decide +kernel
theorem d_M_table_125 : decode b_M_table 125 = .ok (.goto (-39), 3) := by decide +kernel
theorem d_M_table_128 : decode b_M_table 128 = .ok (.aload_n 0, 1) := by decide +kernel
theorem d_M_table_129 : decode b_M_table 129 = .ok (.getfield 103, 3) := by decide +kernel
theorem d_M_table_132 : decode b_M_table 132 = .ok (.ireturn, 1) := by decide +kernel
set_option maxHeartbeats 4000000 in
set_option maxRecDepth 100000 in
theorem c_M_table {l : Launch} {D : va_G} {cI cJ cC : ClassId} (a_h a_h_refused a_h_kind a_h_sweets a_h_gives a_h_tape a_h_letter a_h_letterAt a_h_one a_h_two a_h_kept a_h_trail a_h_crumb a_h_nextCrumb a_h_goal a_h_start a_h_sits a_h_bestSits a_h_without a_h_row : Nat) (y_h_hasImage : Int32) (y_h_beforeMany : Int32) (y_h_found : Int32) (y_h_lots : Int32) (y_h_rowMany : Int32) {z_h_T : MT} {z_h_taped : Int32} {z_h_at : Int32} {z_h_statements : Int32} {z_h_tape : (Nat → Int32)} {z_h_letter : (Nat → Int32)} {z_h_letterAt : (Nat → Int32)} {z_h_one : (Nat → Int32)} {z_h_two : (Nat → Int32)} {q : Int32 × MT × Int32 × Int32 × Int32 × (Nat → Int32) × (Nat → Int32) × (Nat → Int32) × (Nat → Int32)} (hf : f_M_table z_h_T z_h_taped z_h_at z_h_statements z_h_tape z_h_letter z_h_letterAt z_h_one z_h_two = some q) : xI l y_M_table b_M_table 3 .int 3 67 D (tyK cI cJ cC) xE0 [.ref a_h] (w_M_table cI cJ cC a_h a_h_refused a_h_kind a_h_sweets a_h_gives a_h_tape a_h_letter a_h_letterAt a_h_one a_h_two a_h_kept a_h_trail a_h_crumb a_h_nextCrumb a_h_goal a_h_start a_h_sits a_h_bestSits a_h_without a_h_row y_h_hasImage y_h_beforeMany y_h_found y_h_lots y_h_rowMany (m_many z_h_T) (m_odd z_h_T) (m_step z_h_T) (m_bag z_h_T) (m_strokes z_h_T) (m_gave z_h_T) (m_threw z_h_T) z_h_taped z_h_at z_h_statements (m_isKeeping z_h_T) (m_cursor z_h_T) (m_kind z_h_T) (m_sweets z_h_T) (m_gives z_h_T) z_h_tape z_h_letter z_h_letterAt z_h_one z_h_two (m_kept z_h_T)) q.1 (w_M_table cI cJ cC a_h a_h_refused a_h_kind a_h_sweets a_h_gives a_h_tape a_h_letter a_h_letterAt a_h_one a_h_two a_h_kept a_h_trail a_h_crumb a_h_nextCrumb a_h_goal a_h_start a_h_sits a_h_bestSits a_h_without a_h_row y_h_hasImage y_h_beforeMany y_h_found y_h_lots y_h_rowMany (m_many q.2.1) (m_odd q.2.1) (m_step q.2.1) (m_bag q.2.1) (m_strokes q.2.1) (m_gave q.2.1) (m_threw q.2.1) q.2.2.1 q.2.2.2.1 q.2.2.2.2.1 (m_isKeeping q.2.1) (m_cursor q.2.1) (m_kind q.2.1) (m_sweets q.2.1) (m_gives q.2.1) z_h_tape q.2.2.2.2.2.1 q.2.2.2.2.2.2.1 q.2.2.2.2.2.2.2.1 q.2.2.2.2.2.2.2.2 (m_kept q.2.1)) := by
  refine xI_of (by decide) (Nat.le_of_ble_eq_true rfl) ?_
  intro p e s m args below meth c A Q hx hb hml hown hT hA hP hD hK hS hE hret ls hl
  have hown : s.vm.findClass R_M = some m.cls := hown
  have hl : lv_has ls 3 [(0, .ref a_h)] := hl
  unfold f_M_table at hf
  have L12 : ∀ (z_h_T : MT) (z_h_taped : Int32) (k : Int32 → Int32 → (Nat → Int32) → (Nat → Int32) → (Nat → Int32) → (Nat → Int32) → Int32 → Option (Int32 × MT × Int32 × Int32 × Int32 × (Nat → Int32) × (Nat → Int32) × (Nat → Int32) × (Nat → Int32))), (∀ (z_h_at : Int32) (z_h_statements : Int32) (z_h_letter : (Nat → Int32)) (z_h_letterAt : (Nat → Int32)) (z_h_one : (Nat → Int32)) (z_h_two : (Nat → Int32)) (x1 : Int32) (H : Heap) (locs : List Loc) (ls : Array Slot), k z_h_at z_h_statements z_h_letter z_h_letterAt z_h_one z_h_two x1 = some q → va_P D classes (w_M_table cI cJ cC a_h a_h_refused a_h_kind a_h_sweets a_h_gives a_h_tape a_h_letter a_h_letterAt a_h_one a_h_two a_h_kept a_h_trail a_h_crumb a_h_nextCrumb a_h_goal a_h_start a_h_sits a_h_bestSits a_h_without a_h_row y_h_hasImage y_h_beforeMany y_h_found y_h_lots y_h_rowMany (m_many z_h_T) (m_odd z_h_T) (m_step z_h_T) (m_bag z_h_T) (m_strokes z_h_T) (m_gave z_h_T) (m_threw z_h_T) z_h_taped z_h_at z_h_statements (m_isKeeping z_h_T) (m_cursor z_h_T) (m_kind z_h_T) (m_sweets z_h_T) (m_gives z_h_T) z_h_tape z_h_letter z_h_letterAt z_h_one z_h_two (m_kept z_h_T)) H → va_D A (w_M_table cI cJ cC a_h a_h_refused a_h_kind a_h_sweets a_h_gives a_h_tape a_h_letter a_h_letterAt a_h_one a_h_two a_h_kept a_h_trail a_h_crumb a_h_nextCrumb a_h_goal a_h_start a_h_sits a_h_bestSits a_h_without a_h_row y_h_hasImage y_h_beforeMany y_h_found y_h_lots y_h_rowMany (m_many z_h_T) (m_odd z_h_T) (m_step z_h_T) (m_bag z_h_T) (m_strokes z_h_T) (m_gave z_h_T) (m_threw z_h_T) z_h_taped z_h_at z_h_statements (m_isKeeping z_h_T) (m_cursor z_h_T) (m_kind z_h_T) (m_sweets z_h_T) (m_gives z_h_T) z_h_tape z_h_letter z_h_letterAt z_h_one z_h_two (m_kept z_h_T)) → va_S A s.heap H locs → lv_has ls 3 [(0, .ref a_h), (1, .int x1)] → W p l e (xRm 3 67) s m args below meth c H locs 0 0 Q (F0 m 60 ls [])) → ∀ (n : Nat) (z_h_at : Int32) (z_h_statements : Int32) (z_h_letter : (Nat → Int32)) (z_h_letterAt : (Nat → Int32)) (z_h_one : (Nat → Int32)) (z_h_two : (Nat → Int32)) (x1 : Int32) (H : Heap) (locs : List Loc) (ls : Array Slot), f_M_table_L12 z_h_taped z_h_tape k n z_h_at z_h_statements z_h_letter z_h_letterAt z_h_one z_h_two x1 = some q → va_P D classes (w_M_table cI cJ cC a_h a_h_refused a_h_kind a_h_sweets a_h_gives a_h_tape a_h_letter a_h_letterAt a_h_one a_h_two a_h_kept a_h_trail a_h_crumb a_h_nextCrumb a_h_goal a_h_start a_h_sits a_h_bestSits a_h_without a_h_row y_h_hasImage y_h_beforeMany y_h_found y_h_lots y_h_rowMany (m_many z_h_T) (m_odd z_h_T) (m_step z_h_T) (m_bag z_h_T) (m_strokes z_h_T) (m_gave z_h_T) (m_threw z_h_T) z_h_taped z_h_at z_h_statements (m_isKeeping z_h_T) (m_cursor z_h_T) (m_kind z_h_T) (m_sweets z_h_T) (m_gives z_h_T) z_h_tape z_h_letter z_h_letterAt z_h_one z_h_two (m_kept z_h_T)) H → va_D A (w_M_table cI cJ cC a_h a_h_refused a_h_kind a_h_sweets a_h_gives a_h_tape a_h_letter a_h_letterAt a_h_one a_h_two a_h_kept a_h_trail a_h_crumb a_h_nextCrumb a_h_goal a_h_start a_h_sits a_h_bestSits a_h_without a_h_row y_h_hasImage y_h_beforeMany y_h_found y_h_lots y_h_rowMany (m_many z_h_T) (m_odd z_h_T) (m_step z_h_T) (m_bag z_h_T) (m_strokes z_h_T) (m_gave z_h_T) (m_threw z_h_T) z_h_taped z_h_at z_h_statements (m_isKeeping z_h_T) (m_cursor z_h_T) (m_kind z_h_T) (m_sweets z_h_T) (m_gives z_h_T) z_h_tape z_h_letter z_h_letterAt z_h_one z_h_two (m_kept z_h_T)) → va_S A s.heap H locs → lv_has ls 3 [(0, .ref a_h), (1, .int x1)] → W p l e (xRm 3 67) s m args below meth c H locs 0 0 Q (F0 m 12 ls []) := by
    intro z_h_T z_h_taped k hk n
    induction n with
    | zero => intro z_h_at z_h_statements z_h_letter z_h_letterAt z_h_one z_h_two x1 H locs ls hf hP hD hS hl; exact nomatch (show (none : Option (Int32 × MT × Int32 × Int32 × Int32 × (Nat → Int32) × (Nat → Int32) × (Nat → Int32) × (Nat → Int32))) = some q from hf)
    | succ n ih =>
      intro z_h_at z_h_statements z_h_letter z_h_letterAt z_h_one z_h_two x1 H locs ls hf hP hD hS hl
      refine lv_iload_n hx hb d_M_table_12 rfl (lv_at hl 1 rfl) ?_
      refine lv_if_eq (tgt := 60) hx hb d_M_table_13 (by decide) (fun c1 => ?_) (fun c1 => ?_)
      · have hf := io_t hf c1
        exact hk z_h_at z_h_statements z_h_letter z_h_letterAt z_h_one z_h_two x1 _ _ _ hf hP hD hS (lv_sub hl [0, 1] rfl)
      · have hf := io_f hf c1
        refine lv_aload_n hx hb d_M_table_16 rfl (lv_at hl 0 rfl) ?_
        refine va_get hx hb hT i_M hown hK hP 0 rfl rfl 17 (Nat.le_of_ble_eq_true rfl) (hT _ k_775) (fun _ h => h) rfl d_M_table_17 ?_
        refine lv_aload_n hx hb d_M_table_20 rfl (lv_at hl 0 rfl) ?_
        refine va_get hx hb hT i_M hown hK hP 0 rfl rfl 16 (Nat.le_of_ble_eq_true rfl) (hT _ k_774) (fun _ h => h) rfl d_M_table_21 ?_
        refine lv_icmp_lt (tgt := 34) hx hb d_M_table_24 (by decide) (fun c2 => ?_) (fun c2 => ?_)
        · have hf := io_t hf c2
          refine lv_aload_n hx hb d_M_table_34 rfl (lv_at hl 0 rfl) ?_
          obtain ⟨q3, hq3, hf⟩ := io_b hf
          refine xcVI (wc := (w_M_statement cI cJ cC a_h a_h_refused a_h_kind a_h_sweets a_h_gives a_h_tape a_h_letter a_h_letterAt a_h_one a_h_two a_h_kept a_h_trail a_h_crumb a_h_nextCrumb a_h_goal a_h_start a_h_sits a_h_bestSits a_h_without a_h_row (m_many z_h_T) (m_odd z_h_T) (m_step z_h_T) (m_bag z_h_T) (m_strokes z_h_T) (m_gave z_h_T) (m_threw z_h_T) y_h_hasImage (m_isKeeping z_h_T) (m_cursor z_h_T) y_h_beforeMany y_h_found y_h_lots y_h_rowMany z_h_taped z_h_at z_h_statements z_h_tape z_h_letter z_h_letterAt z_h_one z_h_two)) (wc' := (w_M_statement cI cJ cC a_h a_h_refused a_h_kind a_h_sweets a_h_gives a_h_tape a_h_letter a_h_letterAt a_h_one a_h_two a_h_kept a_h_trail a_h_crumb a_h_nextCrumb a_h_goal a_h_start a_h_sits a_h_bestSits a_h_without a_h_row (m_many z_h_T) (m_odd z_h_T) (m_step z_h_T) (m_bag z_h_T) (m_strokes z_h_T) (m_gave z_h_T) (m_threw z_h_T) y_h_hasImage (m_isKeeping z_h_T) (m_cursor z_h_T) y_h_beforeMany y_h_found y_h_lots y_h_rowMany z_h_taped q3.2.1 z_h_statements z_h_tape q3.2.2.1 q3.2.2.2.1 q3.2.2.2.2.1 q3.2.2.2.2.2)) (ws' := (w_M_table cI cJ cC a_h a_h_refused a_h_kind a_h_sweets a_h_gives a_h_tape a_h_letter a_h_letterAt a_h_one a_h_two a_h_kept a_h_trail a_h_crumb a_h_nextCrumb a_h_goal a_h_start a_h_sits a_h_bestSits a_h_without a_h_row y_h_hasImage y_h_beforeMany y_h_found y_h_lots y_h_rowMany (m_many z_h_T) (m_odd z_h_T) (m_step z_h_T) (m_bag z_h_T) (m_strokes z_h_T) (m_gave z_h_T) (m_threw z_h_T) z_h_taped q3.2.1 z_h_statements (m_isKeeping z_h_T) (m_cursor z_h_T) (m_kind z_h_T) (m_sweets z_h_T) (m_gives z_h_T) z_h_tape q3.2.2.1 q3.2.2.2.1 q3.2.2.2.2.1 q3.2.2.2.2.2 (m_kept z_h_T))) (As := []) (rest := []) hx hb hml hown hT (c_M_statement (z_h_taped := z_h_taped) (z_h_at := z_h_at) (z_h_statements := z_h_statements) (z_h_tape := z_h_tape) (z_h_letter := z_h_letter) (z_h_letterAt := z_h_letterAt) (z_h_one := z_h_one) (z_h_two := z_h_two) a_h a_h_refused a_h_kind a_h_sweets a_h_gives a_h_tape a_h_letter a_h_letterAt a_h_one a_h_two a_h_kept a_h_trail a_h_crumb a_h_nextCrumb a_h_goal a_h_start a_h_sits a_h_bestSits a_h_without a_h_row (m_many z_h_T) (m_odd z_h_T) (m_step z_h_T) (m_bag z_h_T) (m_strokes z_h_T) (m_gave z_h_T) (m_threw z_h_T) y_h_hasImage (m_isKeeping z_h_T) (m_cursor z_h_T) y_h_beforeMany y_h_found y_h_lots y_h_rowMany hq3) k_882 k_884 ks_25 k_8 k_885 hd_M_statement ⟨Nat.le_of_ble_eq_true rfl, Nat.le_of_ble_eq_true rfl⟩ xE0_ok trivial hA hK hP hD hS [0, 4, 5, 6, 7, 8] [1, 2, 3, 9] [4, 0, 1, 2, 5, 6, 7, 8, 9, 3] rfl rfl rfl rfl rfl rfl rfl rfl rfl rfl hl.1 rfl (Nat.le_of_ble_eq_true rfl) ⟨Nat.zero_le _, Nat.zero_le _⟩ d_M_table_35 (fun H locs hP hD hS => ?_)
          refine lv_istore_n (lv' := [(1, .int q3.1), (0, .ref a_h)]) hx hb d_M_table_38 rfl hl (by decide) rfl (fun ls hl => ?_)
          refine lv_aload_n hx hb d_M_table_39 rfl (lv_at hl 1 rfl) ?_
          refine lv_dup hx hb d_M_table_40 rfl ?_
          refine va_get hx hb hT i_M hown hK hP 0 rfl rfl 18 (Nat.le_of_ble_eq_true rfl) (hT _ k_776) (fun _ h => h) rfl d_M_table_41 ?_
          refine lv_iload_n hx hb d_M_table_44 rfl (lv_at hl 0 rfl) ?_
          refine lv_if_eq (tgt := 52) hx hb d_M_table_45 (by decide) (fun c4 => ?_) (fun c4 => ?_)
          · have hf := io_t hf c4
            refine lv_iconst (v := 0) hx hb d_M_table_52 (by decide) ?_
            refine lv_iadd hx hb d_M_table_53 ?_
            refine va_put (ty := .int) hx hb hT i_M t_M t_M_ok n_M hown hK hP hD hS 0 rfl rfl 18 (Nat.le_of_ble_eq_true rfl) (hT _ k_776) (fun _ h => h) rfl rfl rfl rfl (Nat.le_of_ble_eq_true rfl) d_M_table_54 (fun H locs hP hD hS => ?_)
            have hP : va_P D classes (w_M_table cI cJ cC a_h a_h_refused a_h_kind a_h_sweets a_h_gives a_h_tape a_h_letter a_h_letterAt a_h_one a_h_two a_h_kept a_h_trail a_h_crumb a_h_nextCrumb a_h_goal a_h_start a_h_sits a_h_bestSits a_h_without a_h_row y_h_hasImage y_h_beforeMany y_h_found y_h_lots y_h_rowMany (m_many z_h_T) (m_odd z_h_T) (m_step z_h_T) (m_bag z_h_T) (m_strokes z_h_T) (m_gave z_h_T) (m_threw z_h_T) z_h_taped q3.2.1 (z_h_statements + 0) (m_isKeeping z_h_T) (m_cursor z_h_T) (m_kind z_h_T) (m_sweets z_h_T) (m_gives z_h_T) z_h_tape q3.2.2.1 q3.2.2.2.1 q3.2.2.2.2.1 q3.2.2.2.2.2 (m_kept z_h_T)) H := hP
            have hD : va_D A (w_M_table cI cJ cC a_h a_h_refused a_h_kind a_h_sweets a_h_gives a_h_tape a_h_letter a_h_letterAt a_h_one a_h_two a_h_kept a_h_trail a_h_crumb a_h_nextCrumb a_h_goal a_h_start a_h_sits a_h_bestSits a_h_without a_h_row y_h_hasImage y_h_beforeMany y_h_found y_h_lots y_h_rowMany (m_many z_h_T) (m_odd z_h_T) (m_step z_h_T) (m_bag z_h_T) (m_strokes z_h_T) (m_gave z_h_T) (m_threw z_h_T) z_h_taped q3.2.1 (z_h_statements + 0) (m_isKeeping z_h_T) (m_cursor z_h_T) (m_kind z_h_T) (m_sweets z_h_T) (m_gives z_h_T) z_h_tape q3.2.2.1 q3.2.2.2.1 q3.2.2.2.2.1 q3.2.2.2.2.2 (m_kept z_h_T)) := hD
            refine lv_goto (tgt := 12) hx hb d_M_table_57 (by decide) ?_
            exact ih q3.2.1 (z_h_statements + 0) q3.2.2.1 q3.2.2.2.1 q3.2.2.2.2.1 q3.2.2.2.2.2 q3.1 _ _ _ hf hP hD hS (lv_sub hl [1, 0] rfl)
          · have hf := io_f hf c4
            refine lv_iconst (v := 1) hx hb d_M_table_48 (by decide) ?_
            refine lv_goto (tgt := 53) hx hb d_M_table_49 (by decide) ?_
            refine lv_iadd hx hb d_M_table_53 ?_
            refine va_put (ty := .int) hx hb hT i_M t_M t_M_ok n_M hown hK hP hD hS 0 rfl rfl 18 (Nat.le_of_ble_eq_true rfl) (hT _ k_776) (fun _ h => h) rfl rfl rfl rfl (Nat.le_of_ble_eq_true rfl) d_M_table_54 (fun H locs hP hD hS => ?_)
            have hP : va_P D classes (w_M_table cI cJ cC a_h a_h_refused a_h_kind a_h_sweets a_h_gives a_h_tape a_h_letter a_h_letterAt a_h_one a_h_two a_h_kept a_h_trail a_h_crumb a_h_nextCrumb a_h_goal a_h_start a_h_sits a_h_bestSits a_h_without a_h_row y_h_hasImage y_h_beforeMany y_h_found y_h_lots y_h_rowMany (m_many z_h_T) (m_odd z_h_T) (m_step z_h_T) (m_bag z_h_T) (m_strokes z_h_T) (m_gave z_h_T) (m_threw z_h_T) z_h_taped q3.2.1 (z_h_statements + 1) (m_isKeeping z_h_T) (m_cursor z_h_T) (m_kind z_h_T) (m_sweets z_h_T) (m_gives z_h_T) z_h_tape q3.2.2.1 q3.2.2.2.1 q3.2.2.2.2.1 q3.2.2.2.2.2 (m_kept z_h_T)) H := hP
            have hD : va_D A (w_M_table cI cJ cC a_h a_h_refused a_h_kind a_h_sweets a_h_gives a_h_tape a_h_letter a_h_letterAt a_h_one a_h_two a_h_kept a_h_trail a_h_crumb a_h_nextCrumb a_h_goal a_h_start a_h_sits a_h_bestSits a_h_without a_h_row y_h_hasImage y_h_beforeMany y_h_found y_h_lots y_h_rowMany (m_many z_h_T) (m_odd z_h_T) (m_step z_h_T) (m_bag z_h_T) (m_strokes z_h_T) (m_gave z_h_T) (m_threw z_h_T) z_h_taped q3.2.1 (z_h_statements + 1) (m_isKeeping z_h_T) (m_cursor z_h_T) (m_kind z_h_T) (m_sweets z_h_T) (m_gives z_h_T) z_h_tape q3.2.2.1 q3.2.2.2.1 q3.2.2.2.2.1 q3.2.2.2.2.2 (m_kept z_h_T)) := hD
            refine lv_goto (tgt := 12) hx hb d_M_table_57 (by decide) ?_
            exact ih q3.2.1 (z_h_statements + 1) q3.2.2.1 q3.2.2.2.1 q3.2.2.2.2.1 q3.2.2.2.2.2 q3.1 _ _ _ hf hP hD hS (lv_sub hl [1, 0] rfl)
        · have hf := io_f hf c2
          refine lv_aload_n hx hb d_M_table_27 rfl (lv_at hl 0 rfl) ?_
          refine va_get hx hb hT i_M hown hK hP 0 rfl rfl 18 (Nat.le_of_ble_eq_true rfl) (hT _ k_776) (fun _ h => h) rfl d_M_table_28 ?_
          refine lv_if_ne (tgt := 60) hx hb d_M_table_31 (by decide) (fun c5 => ?_) (fun c5 => ?_)
          · have hf := io_f hf c5
            exact hk z_h_at z_h_statements z_h_letter z_h_letterAt z_h_one z_h_two x1 _ _ _ hf hP hD hS (lv_sub hl [0, 1] rfl)
          · have hf := io_t hf c5
            refine lv_aload_n hx hb d_M_table_34 rfl (lv_at hl 0 rfl) ?_
            obtain ⟨q6, hq6, hf⟩ := io_b hf
            refine xcVI (wc := (w_M_statement cI cJ cC a_h a_h_refused a_h_kind a_h_sweets a_h_gives a_h_tape a_h_letter a_h_letterAt a_h_one a_h_two a_h_kept a_h_trail a_h_crumb a_h_nextCrumb a_h_goal a_h_start a_h_sits a_h_bestSits a_h_without a_h_row (m_many z_h_T) (m_odd z_h_T) (m_step z_h_T) (m_bag z_h_T) (m_strokes z_h_T) (m_gave z_h_T) (m_threw z_h_T) y_h_hasImage (m_isKeeping z_h_T) (m_cursor z_h_T) y_h_beforeMany y_h_found y_h_lots y_h_rowMany z_h_taped z_h_at z_h_statements z_h_tape z_h_letter z_h_letterAt z_h_one z_h_two)) (wc' := (w_M_statement cI cJ cC a_h a_h_refused a_h_kind a_h_sweets a_h_gives a_h_tape a_h_letter a_h_letterAt a_h_one a_h_two a_h_kept a_h_trail a_h_crumb a_h_nextCrumb a_h_goal a_h_start a_h_sits a_h_bestSits a_h_without a_h_row (m_many z_h_T) (m_odd z_h_T) (m_step z_h_T) (m_bag z_h_T) (m_strokes z_h_T) (m_gave z_h_T) (m_threw z_h_T) y_h_hasImage (m_isKeeping z_h_T) (m_cursor z_h_T) y_h_beforeMany y_h_found y_h_lots y_h_rowMany z_h_taped q6.2.1 z_h_statements z_h_tape q6.2.2.1 q6.2.2.2.1 q6.2.2.2.2.1 q6.2.2.2.2.2)) (ws' := (w_M_table cI cJ cC a_h a_h_refused a_h_kind a_h_sweets a_h_gives a_h_tape a_h_letter a_h_letterAt a_h_one a_h_two a_h_kept a_h_trail a_h_crumb a_h_nextCrumb a_h_goal a_h_start a_h_sits a_h_bestSits a_h_without a_h_row y_h_hasImage y_h_beforeMany y_h_found y_h_lots y_h_rowMany (m_many z_h_T) (m_odd z_h_T) (m_step z_h_T) (m_bag z_h_T) (m_strokes z_h_T) (m_gave z_h_T) (m_threw z_h_T) z_h_taped q6.2.1 z_h_statements (m_isKeeping z_h_T) (m_cursor z_h_T) (m_kind z_h_T) (m_sweets z_h_T) (m_gives z_h_T) z_h_tape q6.2.2.1 q6.2.2.2.1 q6.2.2.2.2.1 q6.2.2.2.2.2 (m_kept z_h_T))) (As := []) (rest := []) hx hb hml hown hT (c_M_statement (z_h_taped := z_h_taped) (z_h_at := z_h_at) (z_h_statements := z_h_statements) (z_h_tape := z_h_tape) (z_h_letter := z_h_letter) (z_h_letterAt := z_h_letterAt) (z_h_one := z_h_one) (z_h_two := z_h_two) a_h a_h_refused a_h_kind a_h_sweets a_h_gives a_h_tape a_h_letter a_h_letterAt a_h_one a_h_two a_h_kept a_h_trail a_h_crumb a_h_nextCrumb a_h_goal a_h_start a_h_sits a_h_bestSits a_h_without a_h_row (m_many z_h_T) (m_odd z_h_T) (m_step z_h_T) (m_bag z_h_T) (m_strokes z_h_T) (m_gave z_h_T) (m_threw z_h_T) y_h_hasImage (m_isKeeping z_h_T) (m_cursor z_h_T) y_h_beforeMany y_h_found y_h_lots y_h_rowMany hq6) k_882 k_884 ks_25 k_8 k_885 hd_M_statement ⟨Nat.le_of_ble_eq_true rfl, Nat.le_of_ble_eq_true rfl⟩ xE0_ok trivial hA hK hP hD hS [0, 4, 5, 6, 7, 8] [1, 2, 3, 9] [4, 0, 1, 2, 5, 6, 7, 8, 9, 3] rfl rfl rfl rfl rfl rfl rfl rfl rfl rfl hl.1 rfl (Nat.le_of_ble_eq_true rfl) ⟨Nat.zero_le _, Nat.zero_le _⟩ d_M_table_35 (fun H locs hP hD hS => ?_)
            refine lv_istore_n (lv' := [(1, .int q6.1), (0, .ref a_h)]) hx hb d_M_table_38 rfl hl (by decide) rfl (fun ls hl => ?_)
            refine lv_aload_n hx hb d_M_table_39 rfl (lv_at hl 1 rfl) ?_
            refine lv_dup hx hb d_M_table_40 rfl ?_
            refine va_get hx hb hT i_M hown hK hP 0 rfl rfl 18 (Nat.le_of_ble_eq_true rfl) (hT _ k_776) (fun _ h => h) rfl d_M_table_41 ?_
            refine lv_iload_n hx hb d_M_table_44 rfl (lv_at hl 0 rfl) ?_
            refine lv_if_eq (tgt := 52) hx hb d_M_table_45 (by decide) (fun c7 => ?_) (fun c7 => ?_)
            · have hf := io_t hf c7
              refine lv_iconst (v := 0) hx hb d_M_table_52 (by decide) ?_
              refine lv_iadd hx hb d_M_table_53 ?_
              refine va_put (ty := .int) hx hb hT i_M t_M t_M_ok n_M hown hK hP hD hS 0 rfl rfl 18 (Nat.le_of_ble_eq_true rfl) (hT _ k_776) (fun _ h => h) rfl rfl rfl rfl (Nat.le_of_ble_eq_true rfl) d_M_table_54 (fun H locs hP hD hS => ?_)
              have hP : va_P D classes (w_M_table cI cJ cC a_h a_h_refused a_h_kind a_h_sweets a_h_gives a_h_tape a_h_letter a_h_letterAt a_h_one a_h_two a_h_kept a_h_trail a_h_crumb a_h_nextCrumb a_h_goal a_h_start a_h_sits a_h_bestSits a_h_without a_h_row y_h_hasImage y_h_beforeMany y_h_found y_h_lots y_h_rowMany (m_many z_h_T) (m_odd z_h_T) (m_step z_h_T) (m_bag z_h_T) (m_strokes z_h_T) (m_gave z_h_T) (m_threw z_h_T) z_h_taped q6.2.1 (z_h_statements + 0) (m_isKeeping z_h_T) (m_cursor z_h_T) (m_kind z_h_T) (m_sweets z_h_T) (m_gives z_h_T) z_h_tape q6.2.2.1 q6.2.2.2.1 q6.2.2.2.2.1 q6.2.2.2.2.2 (m_kept z_h_T)) H := hP
              have hD : va_D A (w_M_table cI cJ cC a_h a_h_refused a_h_kind a_h_sweets a_h_gives a_h_tape a_h_letter a_h_letterAt a_h_one a_h_two a_h_kept a_h_trail a_h_crumb a_h_nextCrumb a_h_goal a_h_start a_h_sits a_h_bestSits a_h_without a_h_row y_h_hasImage y_h_beforeMany y_h_found y_h_lots y_h_rowMany (m_many z_h_T) (m_odd z_h_T) (m_step z_h_T) (m_bag z_h_T) (m_strokes z_h_T) (m_gave z_h_T) (m_threw z_h_T) z_h_taped q6.2.1 (z_h_statements + 0) (m_isKeeping z_h_T) (m_cursor z_h_T) (m_kind z_h_T) (m_sweets z_h_T) (m_gives z_h_T) z_h_tape q6.2.2.1 q6.2.2.2.1 q6.2.2.2.2.1 q6.2.2.2.2.2 (m_kept z_h_T)) := hD
              refine lv_goto (tgt := 12) hx hb d_M_table_57 (by decide) ?_
              exact ih q6.2.1 (z_h_statements + 0) q6.2.2.1 q6.2.2.2.1 q6.2.2.2.2.1 q6.2.2.2.2.2 q6.1 _ _ _ hf hP hD hS (lv_sub hl [1, 0] rfl)
            · have hf := io_f hf c7
              refine lv_iconst (v := 1) hx hb d_M_table_48 (by decide) ?_
              refine lv_goto (tgt := 53) hx hb d_M_table_49 (by decide) ?_
              refine lv_iadd hx hb d_M_table_53 ?_
              refine va_put (ty := .int) hx hb hT i_M t_M t_M_ok n_M hown hK hP hD hS 0 rfl rfl 18 (Nat.le_of_ble_eq_true rfl) (hT _ k_776) (fun _ h => h) rfl rfl rfl rfl (Nat.le_of_ble_eq_true rfl) d_M_table_54 (fun H locs hP hD hS => ?_)
              have hP : va_P D classes (w_M_table cI cJ cC a_h a_h_refused a_h_kind a_h_sweets a_h_gives a_h_tape a_h_letter a_h_letterAt a_h_one a_h_two a_h_kept a_h_trail a_h_crumb a_h_nextCrumb a_h_goal a_h_start a_h_sits a_h_bestSits a_h_without a_h_row y_h_hasImage y_h_beforeMany y_h_found y_h_lots y_h_rowMany (m_many z_h_T) (m_odd z_h_T) (m_step z_h_T) (m_bag z_h_T) (m_strokes z_h_T) (m_gave z_h_T) (m_threw z_h_T) z_h_taped q6.2.1 (z_h_statements + 1) (m_isKeeping z_h_T) (m_cursor z_h_T) (m_kind z_h_T) (m_sweets z_h_T) (m_gives z_h_T) z_h_tape q6.2.2.1 q6.2.2.2.1 q6.2.2.2.2.1 q6.2.2.2.2.2 (m_kept z_h_T)) H := hP
              have hD : va_D A (w_M_table cI cJ cC a_h a_h_refused a_h_kind a_h_sweets a_h_gives a_h_tape a_h_letter a_h_letterAt a_h_one a_h_two a_h_kept a_h_trail a_h_crumb a_h_nextCrumb a_h_goal a_h_start a_h_sits a_h_bestSits a_h_without a_h_row y_h_hasImage y_h_beforeMany y_h_found y_h_lots y_h_rowMany (m_many z_h_T) (m_odd z_h_T) (m_step z_h_T) (m_bag z_h_T) (m_strokes z_h_T) (m_gave z_h_T) (m_threw z_h_T) z_h_taped q6.2.1 (z_h_statements + 1) (m_isKeeping z_h_T) (m_cursor z_h_T) (m_kind z_h_T) (m_sweets z_h_T) (m_gives z_h_T) z_h_tape q6.2.2.1 q6.2.2.2.1 q6.2.2.2.2.1 q6.2.2.2.2.2 (m_kept z_h_T)) := hD
              refine lv_goto (tgt := 12) hx hb d_M_table_57 (by decide) ?_
              exact ih q6.2.1 (z_h_statements + 1) q6.2.2.1 q6.2.2.2.1 q6.2.2.2.2.1 q6.2.2.2.2.2 q6.1 _ _ _ hf hP hD hS (lv_sub hl [1, 0] rfl)
  have L86 : ∀ (z_h_taped : Int32) (z_h_at : Int32) (z_h_statements : Int32) (z_h_letter : (Nat → Int32)) (z_h_letterAt : (Nat → Int32)) (z_h_one : (Nat → Int32)) (z_h_two : (Nat → Int32)) (k : MT → Int32 → Option (Int32 × MT × Int32 × Int32 × Int32 × (Nat → Int32) × (Nat → Int32) × (Nat → Int32) × (Nat → Int32))), (∀ (z_h_T : MT) (x2 : Int32) (H : Heap) (locs : List Loc) (ls : Array Slot), k z_h_T x2 = some q → va_P D classes (w_M_table cI cJ cC a_h a_h_refused a_h_kind a_h_sweets a_h_gives a_h_tape a_h_letter a_h_letterAt a_h_one a_h_two a_h_kept a_h_trail a_h_crumb a_h_nextCrumb a_h_goal a_h_start a_h_sits a_h_bestSits a_h_without a_h_row y_h_hasImage y_h_beforeMany y_h_found y_h_lots y_h_rowMany (m_many z_h_T) (m_odd z_h_T) (m_step z_h_T) (m_bag z_h_T) (m_strokes z_h_T) (m_gave z_h_T) (m_threw z_h_T) z_h_taped z_h_at z_h_statements (m_isKeeping z_h_T) (m_cursor z_h_T) (m_kind z_h_T) (m_sweets z_h_T) (m_gives z_h_T) z_h_tape z_h_letter z_h_letterAt z_h_one z_h_two (m_kept z_h_T)) H → va_D A (w_M_table cI cJ cC a_h a_h_refused a_h_kind a_h_sweets a_h_gives a_h_tape a_h_letter a_h_letterAt a_h_one a_h_two a_h_kept a_h_trail a_h_crumb a_h_nextCrumb a_h_goal a_h_start a_h_sits a_h_bestSits a_h_without a_h_row y_h_hasImage y_h_beforeMany y_h_found y_h_lots y_h_rowMany (m_many z_h_T) (m_odd z_h_T) (m_step z_h_T) (m_bag z_h_T) (m_strokes z_h_T) (m_gave z_h_T) (m_threw z_h_T) z_h_taped z_h_at z_h_statements (m_isKeeping z_h_T) (m_cursor z_h_T) (m_kind z_h_T) (m_sweets z_h_T) (m_gives z_h_T) z_h_tape z_h_letter z_h_letterAt z_h_one z_h_two (m_kept z_h_T)) → va_S A s.heap H locs → lv_has ls 3 [(0, .ref a_h), (2, .int x2)] → W p l e (xRm 3 67) s m args below meth c H locs 0 0 Q (F0 m 105 ls [])) → ∀ (n : Nat) (z_h_T : MT) (x2 : Int32) (H : Heap) (locs : List Loc) (ls : Array Slot), f_M_table_L86 z_h_taped z_h_at z_h_statements z_h_letter z_h_letterAt z_h_one z_h_two k n z_h_T x2 = some q → va_P D classes (w_M_table cI cJ cC a_h a_h_refused a_h_kind a_h_sweets a_h_gives a_h_tape a_h_letter a_h_letterAt a_h_one a_h_two a_h_kept a_h_trail a_h_crumb a_h_nextCrumb a_h_goal a_h_start a_h_sits a_h_bestSits a_h_without a_h_row y_h_hasImage y_h_beforeMany y_h_found y_h_lots y_h_rowMany (m_many z_h_T) (m_odd z_h_T) (m_step z_h_T) (m_bag z_h_T) (m_strokes z_h_T) (m_gave z_h_T) (m_threw z_h_T) z_h_taped z_h_at z_h_statements (m_isKeeping z_h_T) (m_cursor z_h_T) (m_kind z_h_T) (m_sweets z_h_T) (m_gives z_h_T) z_h_tape z_h_letter z_h_letterAt z_h_one z_h_two (m_kept z_h_T)) H → va_D A (w_M_table cI cJ cC a_h a_h_refused a_h_kind a_h_sweets a_h_gives a_h_tape a_h_letter a_h_letterAt a_h_one a_h_two a_h_kept a_h_trail a_h_crumb a_h_nextCrumb a_h_goal a_h_start a_h_sits a_h_bestSits a_h_without a_h_row y_h_hasImage y_h_beforeMany y_h_found y_h_lots y_h_rowMany (m_many z_h_T) (m_odd z_h_T) (m_step z_h_T) (m_bag z_h_T) (m_strokes z_h_T) (m_gave z_h_T) (m_threw z_h_T) z_h_taped z_h_at z_h_statements (m_isKeeping z_h_T) (m_cursor z_h_T) (m_kind z_h_T) (m_sweets z_h_T) (m_gives z_h_T) z_h_tape z_h_letter z_h_letterAt z_h_one z_h_two (m_kept z_h_T)) → va_S A s.heap H locs → lv_has ls 3 [(0, .ref a_h), (2, .int x2)] → W p l e (xRm 3 67) s m args below meth c H locs 0 0 Q (F0 m 86 ls []) := by
    intro z_h_taped z_h_at z_h_statements z_h_letter z_h_letterAt z_h_one z_h_two k hk n
    induction n with
    | zero => intro z_h_T x2 H locs ls hf hP hD hS hl; exact nomatch (show (none : Option (Int32 × MT × Int32 × Int32 × Int32 × (Nat → Int32) × (Nat → Int32) × (Nat → Int32) × (Nat → Int32))) = some q from hf)
    | succ n ih =>
      intro z_h_T x2 H locs ls hf hP hD hS hl
      refine lv_iload_n hx hb d_M_table_86 rfl (lv_at hl 1 rfl) ?_
      refine lv_aload_n hx hb d_M_table_87 rfl (lv_at hl 0 rfl) ?_
      refine va_get hx hb hT i_M hown hK hP 0 rfl rfl 18 (Nat.le_of_ble_eq_true rfl) (hT _ k_776) (fun _ h => h) rfl d_M_table_88 ?_
      refine lv_icmp_ge (tgt := 128) hx hb d_M_table_91 (by decide) (fun c11 => ?_) (fun c11 => ?_)
      · have hf := io_t hf c11
        refine lv_aload_n hx hb d_M_table_128 rfl (lv_at hl 0 rfl) ?_
        refine va_get hx hb hT i_M hown hK hP 0 rfl rfl 18 (Nat.le_of_ble_eq_true rfl) (hT _ k_776) (fun _ h => h) rfl d_M_table_129 ?_
        have hq := Option.some.inj hf
        subst hq
        exact hret _ _ _ _ _ d_M_table_132 rfl rfl hP hD hS
      · have hf := io_f hf c11
        refine lv_aload_n hx hb d_M_table_94 rfl (lv_at hl 0 rfl) ?_
        refine lv_iload_n hx hb d_M_table_95 rfl (lv_at hl 1 rfl) ?_
        obtain ⟨q12, hq12, hf⟩ := io_b hf
        refine xcVI (wc := (w_M_comes cI cJ cC a_h a_h_refused a_h_kind a_h_sweets a_h_gives a_h_tape a_h_letter a_h_letterAt a_h_one a_h_two a_h_kept a_h_trail a_h_crumb a_h_nextCrumb a_h_goal a_h_start a_h_sits a_h_bestSits a_h_without a_h_row z_h_taped z_h_at z_h_statements y_h_hasImage y_h_beforeMany y_h_found y_h_lots y_h_rowMany (m_many z_h_T) (m_odd z_h_T) (m_step z_h_T) (m_bag z_h_T) (m_strokes z_h_T) (m_gave z_h_T) (m_threw z_h_T) (m_isKeeping z_h_T) (m_cursor z_h_T) (m_kind z_h_T) (m_sweets z_h_T) (m_gives z_h_T) z_h_letter z_h_one z_h_two (m_kept z_h_T))) (wc' := (w_M_comes cI cJ cC a_h a_h_refused a_h_kind a_h_sweets a_h_gives a_h_tape a_h_letter a_h_letterAt a_h_one a_h_two a_h_kept a_h_trail a_h_crumb a_h_nextCrumb a_h_goal a_h_start a_h_sits a_h_bestSits a_h_without a_h_row z_h_taped z_h_at z_h_statements y_h_hasImage y_h_beforeMany y_h_found y_h_lots y_h_rowMany (m_many q12.2) (m_odd q12.2) (m_step q12.2) (m_bag q12.2) (m_strokes q12.2) (m_gave q12.2) (m_threw q12.2) (m_isKeeping q12.2) (m_cursor q12.2) (m_kind q12.2) (m_sweets q12.2) (m_gives q12.2) z_h_letter z_h_one z_h_two (m_kept q12.2))) (ws' := (w_M_table cI cJ cC a_h a_h_refused a_h_kind a_h_sweets a_h_gives a_h_tape a_h_letter a_h_letterAt a_h_one a_h_two a_h_kept a_h_trail a_h_crumb a_h_nextCrumb a_h_goal a_h_start a_h_sits a_h_bestSits a_h_without a_h_row y_h_hasImage y_h_beforeMany y_h_found y_h_lots y_h_rowMany (m_many q12.2) (m_odd q12.2) (m_step q12.2) (m_bag q12.2) (m_strokes q12.2) (m_gave q12.2) (m_threw q12.2) z_h_taped z_h_at z_h_statements (m_isKeeping q12.2) (m_cursor q12.2) (m_kind q12.2) (m_sweets q12.2) (m_gives q12.2) z_h_tape z_h_letter z_h_letterAt z_h_one z_h_two (m_kept q12.2))) (As := [.int x2]) (rest := []) hx hb hml hown hT (c_M_comes (z_h_T := z_h_T) (z_h_letter := z_h_letter) (z_h_one := z_h_one) (z_h_two := z_h_two) a_h a_h_refused a_h_kind a_h_sweets a_h_gives a_h_tape a_h_letter a_h_letterAt a_h_one a_h_two a_h_kept a_h_trail a_h_crumb a_h_nextCrumb a_h_goal a_h_start a_h_sits a_h_bestSits a_h_without a_h_row z_h_taped z_h_at z_h_statements y_h_hasImage y_h_beforeMany y_h_found y_h_lots y_h_rowMany hq12) k_908 k_910 ks_30 k_8 k_911 hd_M_comes ⟨Nat.le_of_ble_eq_true rfl, Nat.le_of_ble_eq_true rfl⟩ xE0_ok trivial hA hK hP hD hS [0, 1, 2, 3, 5, 7, 8, 9] [4, 6] [2, 3, 4, 5, 0, 6, 1, 7, 8, 9] rfl rfl rfl rfl rfl rfl rfl rfl rfl rfl hl.1 rfl (Nat.le_of_ble_eq_true rfl) ⟨Nat.zero_le _, Nat.zero_le _⟩ d_M_table_96 (fun H locs hP hD hS => ?_)
        refine lv_if_eq (tgt := 105) hx hb d_M_table_99 (by decide) (fun c13 => ?_) (fun c13 => ?_)
        · have hf := io_t hf c13
          exact hk q12.2 x2 _ _ _ hf hP hD hS (lv_sub hl [0, 1] rfl)
        · have hf := io_f hf c13
          refine lv_goto (tgt := 122) hx hb d_M_table_102 (by decide) ?_
          refine lv_iinc (v := (x2 + 1)) (lv' := [(2, .int (x2 + 1)), (0, .ref a_h)]) hx hb d_M_table_122 hl (k := 1) rfl (by rfl) (by decide) rfl (fun ls hl => ?_)
          refine lv_goto (tgt := 86) hx hb d_M_table_125 (by decide) ?_
          exact ih q12.2 (x2 + 1) _ _ _ hf hP hD hS (lv_sub hl [1, 0] rfl)
  refine lv_aload_n hx hb d_M_table_0 rfl (lv_at hl 0 rfl) ?_
  refine lv_iconst (v := 0) hx hb d_M_table_1 (by decide) ?_
  refine va_put (ty := .int) hx hb hT i_M t_M t_M_ok n_M hown hK hP hD hS 0 rfl rfl 17 (Nat.le_of_ble_eq_true rfl) (hT _ k_775) (fun _ h => h) rfl rfl rfl rfl (Nat.le_of_ble_eq_true rfl) d_M_table_2 (fun H locs hP hD hS => ?_)
  have hP : va_P D classes (w_M_table cI cJ cC a_h a_h_refused a_h_kind a_h_sweets a_h_gives a_h_tape a_h_letter a_h_letterAt a_h_one a_h_two a_h_kept a_h_trail a_h_crumb a_h_nextCrumb a_h_goal a_h_start a_h_sits a_h_bestSits a_h_without a_h_row y_h_hasImage y_h_beforeMany y_h_found y_h_lots y_h_rowMany (m_many z_h_T) (m_odd z_h_T) (m_step z_h_T) (m_bag z_h_T) (m_strokes z_h_T) (m_gave z_h_T) (m_threw z_h_T) z_h_taped 0 z_h_statements (m_isKeeping z_h_T) (m_cursor z_h_T) (m_kind z_h_T) (m_sweets z_h_T) (m_gives z_h_T) z_h_tape z_h_letter z_h_letterAt z_h_one z_h_two (m_kept z_h_T)) H := hP
  have hD : va_D A (w_M_table cI cJ cC a_h a_h_refused a_h_kind a_h_sweets a_h_gives a_h_tape a_h_letter a_h_letterAt a_h_one a_h_two a_h_kept a_h_trail a_h_crumb a_h_nextCrumb a_h_goal a_h_start a_h_sits a_h_bestSits a_h_without a_h_row y_h_hasImage y_h_beforeMany y_h_found y_h_lots y_h_rowMany (m_many z_h_T) (m_odd z_h_T) (m_step z_h_T) (m_bag z_h_T) (m_strokes z_h_T) (m_gave z_h_T) (m_threw z_h_T) z_h_taped 0 z_h_statements (m_isKeeping z_h_T) (m_cursor z_h_T) (m_kind z_h_T) (m_sweets z_h_T) (m_gives z_h_T) z_h_tape z_h_letter z_h_letterAt z_h_one z_h_two (m_kept z_h_T)) := hD
  refine lv_aload_n hx hb d_M_table_5 rfl (lv_at hl 0 rfl) ?_
  refine lv_iconst (v := 0) hx hb d_M_table_6 (by decide) ?_
  refine va_put (ty := .int) hx hb hT i_M t_M t_M_ok n_M hown hK hP hD hS 0 rfl rfl 18 (Nat.le_of_ble_eq_true rfl) (hT _ k_776) (fun _ h => h) rfl rfl rfl rfl (Nat.le_of_ble_eq_true rfl) d_M_table_7 (fun H locs hP hD hS => ?_)
  have hP : va_P D classes (w_M_table cI cJ cC a_h a_h_refused a_h_kind a_h_sweets a_h_gives a_h_tape a_h_letter a_h_letterAt a_h_one a_h_two a_h_kept a_h_trail a_h_crumb a_h_nextCrumb a_h_goal a_h_start a_h_sits a_h_bestSits a_h_without a_h_row y_h_hasImage y_h_beforeMany y_h_found y_h_lots y_h_rowMany (m_many z_h_T) (m_odd z_h_T) (m_step z_h_T) (m_bag z_h_T) (m_strokes z_h_T) (m_gave z_h_T) (m_threw z_h_T) z_h_taped 0 0 (m_isKeeping z_h_T) (m_cursor z_h_T) (m_kind z_h_T) (m_sweets z_h_T) (m_gives z_h_T) z_h_tape z_h_letter z_h_letterAt z_h_one z_h_two (m_kept z_h_T)) H := hP
  have hD : va_D A (w_M_table cI cJ cC a_h a_h_refused a_h_kind a_h_sweets a_h_gives a_h_tape a_h_letter a_h_letterAt a_h_one a_h_two a_h_kept a_h_trail a_h_crumb a_h_nextCrumb a_h_goal a_h_start a_h_sits a_h_bestSits a_h_without a_h_row y_h_hasImage y_h_beforeMany y_h_found y_h_lots y_h_rowMany (m_many z_h_T) (m_odd z_h_T) (m_step z_h_T) (m_bag z_h_T) (m_strokes z_h_T) (m_gave z_h_T) (m_threw z_h_T) z_h_taped 0 0 (m_isKeeping z_h_T) (m_cursor z_h_T) (m_kind z_h_T) (m_sweets z_h_T) (m_gives z_h_T) z_h_tape z_h_letter z_h_letterAt z_h_one z_h_two (m_kept z_h_T)) := hD
  refine lv_iconst (v := 1) hx hb d_M_table_10 (by decide) ?_
  refine lv_istore_n (lv' := [(1, .int 1), (0, .ref a_h)]) hx hb d_M_table_11 rfl hl (by decide) rfl (fun ls hl => ?_)
  refine L12 z_h_T z_h_taped _ (fun z_h_at_8 z_h_statements_8 z_h_letter_8 z_h_letterAt_8 z_h_one_8 z_h_two_8 x1_8 H locs ls hf hP hD hS hl => ?_) FU 0 0 z_h_letter z_h_letterAt z_h_one z_h_two 1 _ _ _ hf hP hD hS (lv_sub hl [1, 0] rfl)
  refine lv_aload_n hx hb d_M_table_60 rfl (lv_at hl 0 rfl) ?_
  refine lv_iconst (v := 0) hx hb d_M_table_61 (by decide) ?_
  refine va_put (ty := .int) hx hb hT i_M t_M t_M_ok n_M hown hK hP hD hS 0 rfl rfl 16 (Nat.le_of_ble_eq_true rfl) (hT _ k_774) (fun _ h => h) rfl rfl rfl rfl (Nat.le_of_ble_eq_true rfl) d_M_table_62 (fun H locs hP hD hS => ?_)
  have hP : va_P D classes (w_M_table cI cJ cC a_h a_h_refused a_h_kind a_h_sweets a_h_gives a_h_tape a_h_letter a_h_letterAt a_h_one a_h_two a_h_kept a_h_trail a_h_crumb a_h_nextCrumb a_h_goal a_h_start a_h_sits a_h_bestSits a_h_without a_h_row y_h_hasImage y_h_beforeMany y_h_found y_h_lots y_h_rowMany (m_many z_h_T) (m_odd z_h_T) (m_step z_h_T) (m_bag z_h_T) (m_strokes z_h_T) (m_gave z_h_T) (m_threw z_h_T) 0 z_h_at_8 z_h_statements_8 (m_isKeeping z_h_T) (m_cursor z_h_T) (m_kind z_h_T) (m_sweets z_h_T) (m_gives z_h_T) z_h_tape z_h_letter_8 z_h_letterAt_8 z_h_one_8 z_h_two_8 (m_kept z_h_T)) H := hP
  have hD : va_D A (w_M_table cI cJ cC a_h a_h_refused a_h_kind a_h_sweets a_h_gives a_h_tape a_h_letter a_h_letterAt a_h_one a_h_two a_h_kept a_h_trail a_h_crumb a_h_nextCrumb a_h_goal a_h_start a_h_sits a_h_bestSits a_h_without a_h_row y_h_hasImage y_h_beforeMany y_h_found y_h_lots y_h_rowMany (m_many z_h_T) (m_odd z_h_T) (m_step z_h_T) (m_bag z_h_T) (m_strokes z_h_T) (m_gave z_h_T) (m_threw z_h_T) 0 z_h_at_8 z_h_statements_8 (m_isKeeping z_h_T) (m_cursor z_h_T) (m_kind z_h_T) (m_sweets z_h_T) (m_gives z_h_T) z_h_tape z_h_letter_8 z_h_letterAt_8 z_h_one_8 z_h_two_8 (m_kept z_h_T)) := hD
  refine lv_iload_n hx hb d_M_table_65 rfl (lv_at hl 1 rfl) ?_
  refine lv_if_ne (tgt := 78) hx hb d_M_table_66 (by decide) (fun c9 => ?_) (fun c9 => ?_)
  · have hf := io_f hf c9
    refine lv_aload_n hx hb d_M_table_78 rfl (lv_at hl 0 rfl) ?_
    refine lv_iconst (v := 1) hx hb d_M_table_79 (by decide) ?_
    refine lv_iconst (v := 1) hx hb d_M_table_80 (by decide) ?_
    obtain ⟨q10, hq10, hf⟩ := io_b hf
    refine xcVV (wc := (w_M_passesAll cI cJ cC a_h a_h_refused a_h_kind a_h_sweets a_h_gives a_h_tape a_h_letter a_h_letterAt a_h_one a_h_two a_h_kept a_h_trail a_h_crumb a_h_nextCrumb a_h_goal a_h_start a_h_sits a_h_bestSits a_h_without a_h_row 0 z_h_at_8 z_h_statements_8 y_h_hasImage y_h_beforeMany y_h_found y_h_lots y_h_rowMany (m_many z_h_T) (m_odd z_h_T) (m_step z_h_T) (m_bag z_h_T) (m_strokes z_h_T) (m_gave z_h_T) (m_threw z_h_T) (m_isKeeping z_h_T) (m_cursor z_h_T) (m_kind z_h_T) (m_sweets z_h_T) (m_gives z_h_T) (m_kept z_h_T))) (wc' := (w_M_passesAll cI cJ cC a_h a_h_refused a_h_kind a_h_sweets a_h_gives a_h_tape a_h_letter a_h_letterAt a_h_one a_h_two a_h_kept a_h_trail a_h_crumb a_h_nextCrumb a_h_goal a_h_start a_h_sits a_h_bestSits a_h_without a_h_row 0 z_h_at_8 z_h_statements_8 y_h_hasImage y_h_beforeMany y_h_found y_h_lots y_h_rowMany (m_many q10) (m_odd q10) (m_step q10) (m_bag q10) (m_strokes q10) (m_gave q10) (m_threw q10) (m_isKeeping q10) (m_cursor q10) (m_kind q10) (m_sweets q10) (m_gives q10) (m_kept q10))) (ws' := (w_M_table cI cJ cC a_h a_h_refused a_h_kind a_h_sweets a_h_gives a_h_tape a_h_letter a_h_letterAt a_h_one a_h_two a_h_kept a_h_trail a_h_crumb a_h_nextCrumb a_h_goal a_h_start a_h_sits a_h_bestSits a_h_without a_h_row y_h_hasImage y_h_beforeMany y_h_found y_h_lots y_h_rowMany (m_many q10) (m_odd q10) (m_step q10) (m_bag q10) (m_strokes q10) (m_gave q10) (m_threw q10) 0 z_h_at_8 z_h_statements_8 (m_isKeeping q10) (m_cursor q10) (m_kind q10) (m_sweets q10) (m_gives q10) z_h_tape z_h_letter_8 z_h_letterAt_8 z_h_one_8 z_h_two_8 (m_kept q10))) (As := [.int 1, .int 1]) (rest := []) hx hb hml hown hT (c_M_passesAll (z_h_T := z_h_T) a_h a_h_refused a_h_kind a_h_sweets a_h_gives a_h_tape a_h_letter a_h_letterAt a_h_one a_h_two a_h_kept a_h_trail a_h_crumb a_h_nextCrumb a_h_goal a_h_start a_h_sits a_h_bestSits a_h_without a_h_row 0 z_h_at_8 z_h_statements_8 y_h_hasImage y_h_beforeMany y_h_found y_h_lots y_h_rowMany hq10) k_900 k_902 ks_28 k_8 k_903 hd_M_passesAll ⟨Nat.le_of_ble_eq_true rfl, Nat.le_of_ble_eq_true rfl⟩ xE0_ok trivial hA hK hP hD hS [0, 1, 2, 3, 9] [4, 5, 6, 7, 8] [5, 6, 7, 8, 0, 1, 2, 3, 4, 9] rfl rfl rfl rfl rfl rfl rfl rfl rfl rfl hl.1 rfl (Nat.le_of_ble_eq_true rfl) ⟨Nat.zero_le _, Nat.zero_le _⟩ d_M_table_81 (fun H locs hP hD hS => ?_)
    refine lv_iconst (v := 0) hx hb d_M_table_84 (by decide) ?_
    refine lv_istore_n (lv' := [(2, .int 0), (0, .ref a_h), (1, .int x1_8)]) hx hb d_M_table_85 rfl hl (by decide) rfl (fun ls hl => ?_)
    refine L86 0 z_h_at_8 z_h_statements_8 z_h_letter_8 z_h_letterAt_8 z_h_one_8 z_h_two_8 _ (fun z_h_T_14 x2_14 H locs ls hf hP hD hS hl => ?_) FU q10 0 _ _ _ hf hP hD hS (lv_sub hl [1, 0] rfl)
    refine lv_aload_n hx hb d_M_table_105 rfl (lv_at hl 0 rfl) ?_
    refine lv_iconst (v := 1) hx hb d_M_table_106 (by decide) ?_
    refine lv_iconst (v := 0) hx hb d_M_table_107 (by decide) ?_
    obtain ⟨q15, hq15, hf⟩ := io_b hf
    refine xcVV (wc := (w_M_passesAll cI cJ cC a_h a_h_refused a_h_kind a_h_sweets a_h_gives a_h_tape a_h_letter a_h_letterAt a_h_one a_h_two a_h_kept a_h_trail a_h_crumb a_h_nextCrumb a_h_goal a_h_start a_h_sits a_h_bestSits a_h_without a_h_row 0 z_h_at_8 z_h_statements_8 y_h_hasImage y_h_beforeMany y_h_found y_h_lots y_h_rowMany (m_many z_h_T_14) (m_odd z_h_T_14) (m_step z_h_T_14) (m_bag z_h_T_14) (m_strokes z_h_T_14) (m_gave z_h_T_14) (m_threw z_h_T_14) (m_isKeeping z_h_T_14) (m_cursor z_h_T_14) (m_kind z_h_T_14) (m_sweets z_h_T_14) (m_gives z_h_T_14) (m_kept z_h_T_14))) (wc' := (w_M_passesAll cI cJ cC a_h a_h_refused a_h_kind a_h_sweets a_h_gives a_h_tape a_h_letter a_h_letterAt a_h_one a_h_two a_h_kept a_h_trail a_h_crumb a_h_nextCrumb a_h_goal a_h_start a_h_sits a_h_bestSits a_h_without a_h_row 0 z_h_at_8 z_h_statements_8 y_h_hasImage y_h_beforeMany y_h_found y_h_lots y_h_rowMany (m_many q15) (m_odd q15) (m_step q15) (m_bag q15) (m_strokes q15) (m_gave q15) (m_threw q15) (m_isKeeping q15) (m_cursor q15) (m_kind q15) (m_sweets q15) (m_gives q15) (m_kept q15))) (ws' := (w_M_table cI cJ cC a_h a_h_refused a_h_kind a_h_sweets a_h_gives a_h_tape a_h_letter a_h_letterAt a_h_one a_h_two a_h_kept a_h_trail a_h_crumb a_h_nextCrumb a_h_goal a_h_start a_h_sits a_h_bestSits a_h_without a_h_row y_h_hasImage y_h_beforeMany y_h_found y_h_lots y_h_rowMany (m_many q15) (m_odd q15) (m_step q15) (m_bag q15) (m_strokes q15) (m_gave q15) (m_threw q15) 0 z_h_at_8 z_h_statements_8 (m_isKeeping q15) (m_cursor q15) (m_kind q15) (m_sweets q15) (m_gives q15) z_h_tape z_h_letter_8 z_h_letterAt_8 z_h_one_8 z_h_two_8 (m_kept q15))) (As := [.int 1, .int 0]) (rest := []) hx hb hml hown hT (c_M_passesAll (z_h_T := z_h_T_14) a_h a_h_refused a_h_kind a_h_sweets a_h_gives a_h_tape a_h_letter a_h_letterAt a_h_one a_h_two a_h_kept a_h_trail a_h_crumb a_h_nextCrumb a_h_goal a_h_start a_h_sits a_h_bestSits a_h_without a_h_row 0 z_h_at_8 z_h_statements_8 y_h_hasImage y_h_beforeMany y_h_found y_h_lots y_h_rowMany hq15) k_900 k_902 ks_28 k_8 k_903 hd_M_passesAll ⟨Nat.le_of_ble_eq_true rfl, Nat.le_of_ble_eq_true rfl⟩ xE0_ok trivial hA hK hP hD hS [0, 1, 2, 3, 9] [4, 5, 6, 7, 8] [5, 6, 7, 8, 0, 1, 2, 3, 4, 9] rfl rfl rfl rfl rfl rfl rfl rfl rfl rfl hl.1 rfl (Nat.le_of_ble_eq_true rfl) ⟨Nat.zero_le _, Nat.zero_le _⟩ d_M_table_108 (fun H locs hP hD hS => ?_)
    refine lv_sipush (v := (-2000)) hx hb d_M_table_111 (by decide) ?_
    refine lv_aload_n hx hb d_M_table_114 rfl (lv_at hl 0 rfl) ?_
    refine va_get hx hb hT i_M hown hK hP 0 rfl rfl 13 (Nat.le_of_ble_eq_true rfl) (hT _ k_771) (fun _ h => h) rfl d_M_table_115 ?_
    refine lv_iload_n hx hb d_M_table_118 rfl (lv_at hl 1 rfl) ?_
    obtain ⟨c16, hf⟩ := io_n hf
    refine x_iald hx hb hK hP 6 0 rfl rfl (j := x2_14.toNatClampNeg) rfl c16 d_M_table_119 ?_
    refine lv_isub hx hb d_M_table_120 ?_
    have hq := Option.some.inj hf
    subst hq
    exact hret _ _ _ _ _ d_M_table_121 rfl rfl hP hD hS
  · have hf := io_t hf c9
    refine lv_sipush (v := (-1000)) hx hb d_M_table_69 (by decide) ?_
    refine lv_aload_n hx hb d_M_table_72 rfl (lv_at hl 0 rfl) ?_
    refine va_get hx hb hT i_M hown hK hP 0 rfl rfl 17 (Nat.le_of_ble_eq_true rfl) (hT _ k_775) (fun _ h => h) rfl d_M_table_73 ?_
    refine lv_isub hx hb d_M_table_76 ?_
    have hq := Option.some.inj hf
    subst hq
    exact hret _ _ _ _ _ d_M_table_77 rfl rfl hP hD hS
abbrev w_M_image (cI cJ cC : ClassId) (a_h a_h_refused a_h_kind a_h_sweets a_h_gives a_h_tape a_h_letter a_h_letterAt a_h_one a_h_two a_h_kept a_h_trail a_h_crumb a_h_nextCrumb a_h_goal a_h_start a_h_sits a_h_bestSits a_h_without a_h_row : Nat) (y_h_taped : Int32) (y_h_at : Int32) (y_h_statements : Int32) (y_h_beforeMany : Int32) (y_h_found : Int32) (y_h_lots : Int32) (y_h_rowMany : Int32) (p_h_many : Int32) (p_h_odd : Int32) (p_h_step : Int32) (p_h_bag : Int32) (p_h_strokes : Int32) (p_h_gave : Int32) (p_h_threw : Int32) (p_h_hasImage : Int32) (p_h_isKeeping : Int32) (p_h_cursor : Int32) (p_h_kind : (Nat → Int32)) (p_h_sweets : (Nat → Int32)) (p_h_gives : (Nat → Int32)) (p_h_kept : (Nat → Int32)) : va_W := [(a_h, .inr (7, [.ref a_h_refused, .ref a_h_kind, .ref a_h_sweets, .ref a_h_gives, .int p_h_many, .int p_h_odd, .int p_h_step, .int p_h_bag, .int p_h_strokes, .int p_h_gave, .int p_h_threw, .ref a_h_tape, .ref a_h_letter, .ref a_h_letterAt, .ref a_h_one, .ref a_h_two, .int y_h_taped, .int y_h_at, .int y_h_statements, .ref a_h_kept, .int p_h_hasImage, .int p_h_isKeeping, .int p_h_cursor, .ref a_h_trail, .ref a_h_crumb, .ref a_h_nextCrumb, .ref a_h_goal, .ref a_h_start, .int y_h_beforeMany, .int y_h_found, .ref a_h_sits, .ref a_h_bestSits, .ref a_h_without, .int y_h_lots, .ref a_h_row, .int y_h_rowMany])), (a_h_kind, .inl (cI, (8, .inl p_h_kind))), (a_h_sweets, .inl (cI, (8, .inl p_h_sweets))), (a_h_gives, .inl (cI, (8, .inl p_h_gives))), (a_h_kept, .inl (cI, (90, .inl p_h_kept)))]
theorem d_M_image_0 : decode b_M_image 0 = .ok (.aload_n 0, 1) := by decide +kernel
theorem d_M_image_1 : decode b_M_image 1 = .ok (.iconst 1, 1) := by decide +kernel
theorem d_M_image_2 : decode b_M_image 2 = .ok (.putfield 146, 3) := by decide +kernel
theorem d_M_image_5 : decode b_M_image 5 = .ok (.aload_n 0, 1) := by decide +kernel
theorem d_M_image_6 : decode b_M_image 6 = .ok (.iconst 0, 1) := by decide +kernel
theorem d_M_image_7 : decode b_M_image 7 = .ok (.iconst 1, 1) := by decide +kernel
theorem d_M_image_8 : decode b_M_image 8 = .ok (.invokevirtual 119, 3) := by decide +kernel
theorem d_M_image_11 : decode b_M_image 11 = .ok (.aload_n 0, 1) := by decide +kernel
theorem d_M_image_12 : decode b_M_image 12 = .ok (.getfield 78, 3) := by decide +kernel
theorem d_M_image_15 : decode b_M_image 15 = .ok (.ireturn, 1) := by decide +kernel
set_option maxHeartbeats 4000000 in
set_option maxRecDepth 100000 in
theorem c_M_image {l : Launch} {D : va_G} {cI cJ cC : ClassId} (a_h a_h_refused a_h_kind a_h_sweets a_h_gives a_h_tape a_h_letter a_h_letterAt a_h_one a_h_two a_h_kept a_h_trail a_h_crumb a_h_nextCrumb a_h_goal a_h_start a_h_sits a_h_bestSits a_h_without a_h_row : Nat) (y_h_taped : Int32) (y_h_at : Int32) (y_h_statements : Int32) (y_h_beforeMany : Int32) (y_h_found : Int32) (y_h_lots : Int32) (y_h_rowMany : Int32) {z_h_T : MT} {z_h_hasImage : Int32} {q : Int32 × MT × Int32} (hf : f_M_image z_h_T z_h_hasImage = some q) : xI l y_M_image b_M_image 1 .int 2 45 D (tyK cI cJ cC) xE0 [.ref a_h] (w_M_image cI cJ cC a_h a_h_refused a_h_kind a_h_sweets a_h_gives a_h_tape a_h_letter a_h_letterAt a_h_one a_h_two a_h_kept a_h_trail a_h_crumb a_h_nextCrumb a_h_goal a_h_start a_h_sits a_h_bestSits a_h_without a_h_row y_h_taped y_h_at y_h_statements y_h_beforeMany y_h_found y_h_lots y_h_rowMany (m_many z_h_T) (m_odd z_h_T) (m_step z_h_T) (m_bag z_h_T) (m_strokes z_h_T) (m_gave z_h_T) (m_threw z_h_T) z_h_hasImage (m_isKeeping z_h_T) (m_cursor z_h_T) (m_kind z_h_T) (m_sweets z_h_T) (m_gives z_h_T) (m_kept z_h_T)) q.1 (w_M_image cI cJ cC a_h a_h_refused a_h_kind a_h_sweets a_h_gives a_h_tape a_h_letter a_h_letterAt a_h_one a_h_two a_h_kept a_h_trail a_h_crumb a_h_nextCrumb a_h_goal a_h_start a_h_sits a_h_bestSits a_h_without a_h_row y_h_taped y_h_at y_h_statements y_h_beforeMany y_h_found y_h_lots y_h_rowMany (m_many q.2.1) (m_odd q.2.1) (m_step q.2.1) (m_bag q.2.1) (m_strokes q.2.1) (m_gave q.2.1) (m_threw q.2.1) q.2.2 (m_isKeeping q.2.1) (m_cursor q.2.1) (m_kind q.2.1) (m_sweets q.2.1) (m_gives q.2.1) (m_kept q.2.1)) := by
  refine xI_of (by decide) (Nat.le_of_ble_eq_true rfl) ?_
  intro p e s m args below meth c A Q hx hb hml hown hT hA hP hD hK hS hE hret ls hl
  have hown : s.vm.findClass R_M = some m.cls := hown
  have hl : lv_has ls 1 [(0, .ref a_h)] := hl
  unfold f_M_image at hf
  refine lv_aload_n hx hb d_M_image_0 rfl (lv_at hl 0 rfl) ?_
  refine lv_iconst (v := 1) hx hb d_M_image_1 (by decide) ?_
  refine va_put (ty := .boolean) hx hb hT i_M t_M t_M_ok n_M hown hK hP hD hS 0 rfl rfl 20 (Nat.le_of_ble_eq_true rfl) (hT _ k_778) (fun _ h => h) rfl rfl (by decide) (by decide) (Nat.le_of_ble_eq_true rfl) d_M_image_2 (fun H locs hP hD hS => ?_)
  have hP : va_P D classes (w_M_image cI cJ cC a_h a_h_refused a_h_kind a_h_sweets a_h_gives a_h_tape a_h_letter a_h_letterAt a_h_one a_h_two a_h_kept a_h_trail a_h_crumb a_h_nextCrumb a_h_goal a_h_start a_h_sits a_h_bestSits a_h_without a_h_row y_h_taped y_h_at y_h_statements y_h_beforeMany y_h_found y_h_lots y_h_rowMany (m_many z_h_T) (m_odd z_h_T) (m_step z_h_T) (m_bag z_h_T) (m_strokes z_h_T) (m_gave z_h_T) (m_threw z_h_T) 1 (m_isKeeping z_h_T) (m_cursor z_h_T) (m_kind z_h_T) (m_sweets z_h_T) (m_gives z_h_T) (m_kept z_h_T)) H := hP
  have hD : va_D A (w_M_image cI cJ cC a_h a_h_refused a_h_kind a_h_sweets a_h_gives a_h_tape a_h_letter a_h_letterAt a_h_one a_h_two a_h_kept a_h_trail a_h_crumb a_h_nextCrumb a_h_goal a_h_start a_h_sits a_h_bestSits a_h_without a_h_row y_h_taped y_h_at y_h_statements y_h_beforeMany y_h_found y_h_lots y_h_rowMany (m_many z_h_T) (m_odd z_h_T) (m_step z_h_T) (m_bag z_h_T) (m_strokes z_h_T) (m_gave z_h_T) (m_threw z_h_T) 1 (m_isKeeping z_h_T) (m_cursor z_h_T) (m_kind z_h_T) (m_sweets z_h_T) (m_gives z_h_T) (m_kept z_h_T)) := hD
  refine lv_aload_n hx hb d_M_image_5 rfl (lv_at hl 0 rfl) ?_
  refine lv_iconst (v := 0) hx hb d_M_image_6 (by decide) ?_
  refine lv_iconst (v := 1) hx hb d_M_image_7 (by decide) ?_
  obtain ⟨q1, hq1, hf⟩ := io_b hf
  refine xcVV (wc := (w_M_passesAll cI cJ cC a_h a_h_refused a_h_kind a_h_sweets a_h_gives a_h_tape a_h_letter a_h_letterAt a_h_one a_h_two a_h_kept a_h_trail a_h_crumb a_h_nextCrumb a_h_goal a_h_start a_h_sits a_h_bestSits a_h_without a_h_row y_h_taped y_h_at y_h_statements 1 y_h_beforeMany y_h_found y_h_lots y_h_rowMany (m_many z_h_T) (m_odd z_h_T) (m_step z_h_T) (m_bag z_h_T) (m_strokes z_h_T) (m_gave z_h_T) (m_threw z_h_T) (m_isKeeping z_h_T) (m_cursor z_h_T) (m_kind z_h_T) (m_sweets z_h_T) (m_gives z_h_T) (m_kept z_h_T))) (wc' := (w_M_passesAll cI cJ cC a_h a_h_refused a_h_kind a_h_sweets a_h_gives a_h_tape a_h_letter a_h_letterAt a_h_one a_h_two a_h_kept a_h_trail a_h_crumb a_h_nextCrumb a_h_goal a_h_start a_h_sits a_h_bestSits a_h_without a_h_row y_h_taped y_h_at y_h_statements 1 y_h_beforeMany y_h_found y_h_lots y_h_rowMany (m_many q1) (m_odd q1) (m_step q1) (m_bag q1) (m_strokes q1) (m_gave q1) (m_threw q1) (m_isKeeping q1) (m_cursor q1) (m_kind q1) (m_sweets q1) (m_gives q1) (m_kept q1))) (ws' := (w_M_image cI cJ cC a_h a_h_refused a_h_kind a_h_sweets a_h_gives a_h_tape a_h_letter a_h_letterAt a_h_one a_h_two a_h_kept a_h_trail a_h_crumb a_h_nextCrumb a_h_goal a_h_start a_h_sits a_h_bestSits a_h_without a_h_row y_h_taped y_h_at y_h_statements y_h_beforeMany y_h_found y_h_lots y_h_rowMany (m_many q1) (m_odd q1) (m_step q1) (m_bag q1) (m_strokes q1) (m_gave q1) (m_threw q1) 1 (m_isKeeping q1) (m_cursor q1) (m_kind q1) (m_sweets q1) (m_gives q1) (m_kept q1))) (As := [.int 0, .int 1]) (rest := []) hx hb hml hown hT (c_M_passesAll (z_h_T := z_h_T) a_h a_h_refused a_h_kind a_h_sweets a_h_gives a_h_tape a_h_letter a_h_letterAt a_h_one a_h_two a_h_kept a_h_trail a_h_crumb a_h_nextCrumb a_h_goal a_h_start a_h_sits a_h_bestSits a_h_without a_h_row y_h_taped y_h_at y_h_statements 1 y_h_beforeMany y_h_found y_h_lots y_h_rowMany hq1) k_900 k_902 ks_28 k_8 k_903 hd_M_passesAll ⟨Nat.le_of_ble_eq_true rfl, Nat.le_of_ble_eq_true rfl⟩ xE0_ok trivial hA hK hP hD hS [0, 1, 2, 3, 4] [] [0, 1, 2, 3, 4] rfl rfl rfl rfl rfl rfl rfl rfl rfl rfl hl.1 rfl (Nat.le_of_ble_eq_true rfl) ⟨Nat.zero_le _, Nat.zero_le _⟩ d_M_image_8 (fun H locs hP hD hS => ?_)
  refine lv_aload_n hx hb d_M_image_11 rfl (lv_at hl 0 rfl) ?_
  refine va_get hx hb hT i_M hown hK hP 0 rfl rfl 4 (Nat.le_of_ble_eq_true rfl) (hT _ k_762) (fun _ h => h) rfl d_M_image_12 ?_
  have hq := Option.some.inj hf
  subst hq
  exact hret _ _ _ _ _ d_M_image_15 rfl rfl hP hD hS
abbrev w_M_restore (cI cJ cC : ClassId) (a_h a_h_refused a_h_kind a_h_sweets a_h_gives a_h_tape a_h_letter a_h_letterAt a_h_one a_h_two a_h_kept a_h_trail a_h_crumb a_h_nextCrumb a_h_goal a_h_start a_h_sits a_h_bestSits a_h_without a_h_row : Nat) (y_h_taped : Int32) (y_h_at : Int32) (y_h_statements : Int32) (y_h_beforeMany : Int32) (y_h_found : Int32) (y_h_lots : Int32) (y_h_rowMany : Int32) (p_h_many : Int32) (p_h_odd : Int32) (p_h_step : Int32) (p_h_bag : Int32) (p_h_strokes : Int32) (p_h_gave : Int32) (p_h_threw : Int32) (p_h_hasImage : Int32) (p_h_isKeeping : Int32) (p_h_cursor : Int32) (p_h_refused : (Nat → Int32)) (p_h_kind : (Nat → Int32)) (p_h_sweets : (Nat → Int32)) (p_h_gives : (Nat → Int32)) (p_h_kept : (Nat → Int32)) : va_W := [(a_h, .inr (7, [.ref a_h_refused, .ref a_h_kind, .ref a_h_sweets, .ref a_h_gives, .int p_h_many, .int p_h_odd, .int p_h_step, .int p_h_bag, .int p_h_strokes, .int p_h_gave, .int p_h_threw, .ref a_h_tape, .ref a_h_letter, .ref a_h_letterAt, .ref a_h_one, .ref a_h_two, .int y_h_taped, .int y_h_at, .int y_h_statements, .ref a_h_kept, .int p_h_hasImage, .int p_h_isKeeping, .int p_h_cursor, .ref a_h_trail, .ref a_h_crumb, .ref a_h_nextCrumb, .ref a_h_goal, .ref a_h_start, .int y_h_beforeMany, .int y_h_found, .ref a_h_sits, .ref a_h_bestSits, .ref a_h_without, .int y_h_lots, .ref a_h_row, .int y_h_rowMany])), (a_h_refused, .inl (cI, (7, .inl p_h_refused))), (a_h_kind, .inl (cI, (8, .inl p_h_kind))), (a_h_sweets, .inl (cI, (8, .inl p_h_sweets))), (a_h_gives, .inl (cI, (8, .inl p_h_gives))), (a_h_kept, .inl (cI, (90, .inl p_h_kept)))]
theorem d_M_restore_0 : decode b_M_restore 0 = .ok (.aload_n 0, 1) := by decide +kernel
theorem d_M_restore_1 : decode b_M_restore 1 = .ok (.getfield 146, 3) := by decide +kernel
theorem d_M_restore_4 : decode b_M_restore 4 = .ok (.ifCond .ne 10, 3) := by decide +kernel
theorem d_M_restore_7 : decode b_M_restore 7 = .ok (.aload_n 0, 1) := by decide +kernel
theorem d_M_restore_8 : decode b_M_restore 8 = .ok (.bipush (-3), 2) := by decide +kernel
theorem d_M_restore_10 : decode b_M_restore 10 = .ok (.invokevirtual 88, 3) := by decide +kernel
theorem d_M_restore_13 : decode b_M_restore 13 = .ok (.ireturn, 1) := by decide +kernel
theorem d_M_restore_14 : decode b_M_restore 14 = .ok (.aload_n 0, 1) := by decide +kernel
theorem d_M_restore_15 : decode b_M_restore 15 = .ok (.iconst 0, 1) := by decide +kernel
theorem d_M_restore_16 : decode b_M_restore 16 = .ok (.iconst 0, 1) := by decide +kernel
theorem d_M_restore_17 : decode b_M_restore 17 = .ok (.invokevirtual 119, 3) := by decide +kernel
theorem d_M_restore_20 : decode b_M_restore 20 = .ok (.aload_n 0, 1) := by decide +kernel
theorem d_M_restore_21 : decode b_M_restore 21 = .ok (.getfield 78, 3) := by decide +kernel
theorem d_M_restore_24 : decode b_M_restore 24 = .ok (.ireturn, 1) := by decide +kernel
set_option maxHeartbeats 4000000 in
set_option maxRecDepth 100000 in
theorem c_M_restore {l : Launch} {D : va_G} {cI cJ cC : ClassId} (a_h a_h_refused a_h_kind a_h_sweets a_h_gives a_h_tape a_h_letter a_h_letterAt a_h_one a_h_two a_h_kept a_h_trail a_h_crumb a_h_nextCrumb a_h_goal a_h_start a_h_sits a_h_bestSits a_h_without a_h_row : Nat) (y_h_taped : Int32) (y_h_at : Int32) (y_h_statements : Int32) (y_h_beforeMany : Int32) (y_h_found : Int32) (y_h_lots : Int32) (y_h_rowMany : Int32) {z_h_T : MT} {z_h_hasImage : Int32} {z_h_refused : (Nat → Int32)} {q : Int32 × MT × (Nat → Int32)} (hf : f_M_restore z_h_T z_h_hasImage z_h_refused = some q) : xI l y_M_restore b_M_restore 1 .int 2 45 D (tyK cI cJ cC) xE0 [.ref a_h] (w_M_restore cI cJ cC a_h a_h_refused a_h_kind a_h_sweets a_h_gives a_h_tape a_h_letter a_h_letterAt a_h_one a_h_two a_h_kept a_h_trail a_h_crumb a_h_nextCrumb a_h_goal a_h_start a_h_sits a_h_bestSits a_h_without a_h_row y_h_taped y_h_at y_h_statements y_h_beforeMany y_h_found y_h_lots y_h_rowMany (m_many z_h_T) (m_odd z_h_T) (m_step z_h_T) (m_bag z_h_T) (m_strokes z_h_T) (m_gave z_h_T) (m_threw z_h_T) z_h_hasImage (m_isKeeping z_h_T) (m_cursor z_h_T) z_h_refused (m_kind z_h_T) (m_sweets z_h_T) (m_gives z_h_T) (m_kept z_h_T)) q.1 (w_M_restore cI cJ cC a_h a_h_refused a_h_kind a_h_sweets a_h_gives a_h_tape a_h_letter a_h_letterAt a_h_one a_h_two a_h_kept a_h_trail a_h_crumb a_h_nextCrumb a_h_goal a_h_start a_h_sits a_h_bestSits a_h_without a_h_row y_h_taped y_h_at y_h_statements y_h_beforeMany y_h_found y_h_lots y_h_rowMany (m_many q.2.1) (m_odd q.2.1) (m_step q.2.1) (m_bag q.2.1) (m_strokes q.2.1) (m_gave q.2.1) (m_threw q.2.1) z_h_hasImage (m_isKeeping q.2.1) (m_cursor q.2.1) q.2.2 (m_kind q.2.1) (m_sweets q.2.1) (m_gives q.2.1) (m_kept q.2.1)) := by
  refine xI_of (by decide) (Nat.le_of_ble_eq_true rfl) ?_
  intro p e s m args below meth c A Q hx hb hml hown hT hA hP hD hK hS hE hret ls hl
  have hown : s.vm.findClass R_M = some m.cls := hown
  have hl : lv_has ls 1 [(0, .ref a_h)] := hl
  unfold f_M_restore at hf
  refine lv_aload_n hx hb d_M_restore_0 rfl (lv_at hl 0 rfl) ?_
  refine va_get hx hb hT i_M hown hK hP 0 rfl rfl 20 (Nat.le_of_ble_eq_true rfl) (hT _ k_778) (fun _ h => h) rfl d_M_restore_1 ?_
  refine lv_if_ne (tgt := 14) hx hb d_M_restore_4 (by decide) (fun c1 => ?_) (fun c1 => ?_)
  · have hf := io_f hf c1
    refine lv_aload_n hx hb d_M_restore_14 rfl (lv_at hl 0 rfl) ?_
    refine lv_iconst (v := 0) hx hb d_M_restore_15 (by decide) ?_
    refine lv_iconst (v := 0) hx hb d_M_restore_16 (by decide) ?_
    obtain ⟨q2, hq2, hf⟩ := io_b hf
    refine xcVV (wc := (w_M_passesAll cI cJ cC a_h a_h_refused a_h_kind a_h_sweets a_h_gives a_h_tape a_h_letter a_h_letterAt a_h_one a_h_two a_h_kept a_h_trail a_h_crumb a_h_nextCrumb a_h_goal a_h_start a_h_sits a_h_bestSits a_h_without a_h_row y_h_taped y_h_at y_h_statements z_h_hasImage y_h_beforeMany y_h_found y_h_lots y_h_rowMany (m_many z_h_T) (m_odd z_h_T) (m_step z_h_T) (m_bag z_h_T) (m_strokes z_h_T) (m_gave z_h_T) (m_threw z_h_T) (m_isKeeping z_h_T) (m_cursor z_h_T) (m_kind z_h_T) (m_sweets z_h_T) (m_gives z_h_T) (m_kept z_h_T))) (wc' := (w_M_passesAll cI cJ cC a_h a_h_refused a_h_kind a_h_sweets a_h_gives a_h_tape a_h_letter a_h_letterAt a_h_one a_h_two a_h_kept a_h_trail a_h_crumb a_h_nextCrumb a_h_goal a_h_start a_h_sits a_h_bestSits a_h_without a_h_row y_h_taped y_h_at y_h_statements z_h_hasImage y_h_beforeMany y_h_found y_h_lots y_h_rowMany (m_many q2) (m_odd q2) (m_step q2) (m_bag q2) (m_strokes q2) (m_gave q2) (m_threw q2) (m_isKeeping q2) (m_cursor q2) (m_kind q2) (m_sweets q2) (m_gives q2) (m_kept q2))) (ws' := (w_M_restore cI cJ cC a_h a_h_refused a_h_kind a_h_sweets a_h_gives a_h_tape a_h_letter a_h_letterAt a_h_one a_h_two a_h_kept a_h_trail a_h_crumb a_h_nextCrumb a_h_goal a_h_start a_h_sits a_h_bestSits a_h_without a_h_row y_h_taped y_h_at y_h_statements y_h_beforeMany y_h_found y_h_lots y_h_rowMany (m_many q2) (m_odd q2) (m_step q2) (m_bag q2) (m_strokes q2) (m_gave q2) (m_threw q2) z_h_hasImage (m_isKeeping q2) (m_cursor q2) z_h_refused (m_kind q2) (m_sweets q2) (m_gives q2) (m_kept q2))) (As := [.int 0, .int 0]) (rest := []) hx hb hml hown hT (c_M_passesAll (z_h_T := z_h_T) a_h a_h_refused a_h_kind a_h_sweets a_h_gives a_h_tape a_h_letter a_h_letterAt a_h_one a_h_two a_h_kept a_h_trail a_h_crumb a_h_nextCrumb a_h_goal a_h_start a_h_sits a_h_bestSits a_h_without a_h_row y_h_taped y_h_at y_h_statements z_h_hasImage y_h_beforeMany y_h_found y_h_lots y_h_rowMany hq2) k_900 k_902 ks_28 k_8 k_903 hd_M_passesAll ⟨Nat.le_of_ble_eq_true rfl, Nat.le_of_ble_eq_true rfl⟩ xE0_ok trivial hA hK hP hD hS [0, 2, 3, 4, 5] [1] [1, 0, 2, 3, 4, 5] rfl rfl rfl rfl rfl rfl rfl rfl rfl rfl hl.1 rfl (Nat.le_of_ble_eq_true rfl) ⟨Nat.zero_le _, Nat.zero_le _⟩ d_M_restore_17 (fun H locs hP hD hS => ?_)
    refine lv_aload_n hx hb d_M_restore_20 rfl (lv_at hl 0 rfl) ?_
    refine va_get hx hb hT i_M hown hK hP 0 rfl rfl 4 (Nat.le_of_ble_eq_true rfl) (hT _ k_762) (fun _ h => h) rfl d_M_restore_21 ?_
    have hq := Option.some.inj hf
    subst hq
    exact hret _ _ _ _ _ d_M_restore_24 rfl rfl hP hD hS
  · have hf := io_t hf c1
    refine lv_aload_n hx hb d_M_restore_7 rfl (lv_at hl 0 rfl) ?_
    refine lv_bipush (v := (-3)) hx hb d_M_restore_8 (by decide) ?_
    obtain ⟨q3, hq3, hf⟩ := io_b hf
    refine xcVI (wc := (w_M_no cI cJ cC a_h a_h_refused a_h_kind a_h_sweets a_h_gives a_h_tape a_h_letter a_h_letterAt a_h_one a_h_two a_h_kept a_h_trail a_h_crumb a_h_nextCrumb a_h_goal a_h_start a_h_sits a_h_bestSits a_h_without a_h_row (m_many z_h_T) (m_odd z_h_T) (m_step z_h_T) (m_bag z_h_T) (m_strokes z_h_T) (m_gave z_h_T) (m_threw z_h_T) y_h_taped y_h_at y_h_statements z_h_hasImage (m_isKeeping z_h_T) (m_cursor z_h_T) y_h_beforeMany y_h_found y_h_lots y_h_rowMany z_h_refused)) (wc' := (w_M_no cI cJ cC a_h a_h_refused a_h_kind a_h_sweets a_h_gives a_h_tape a_h_letter a_h_letterAt a_h_one a_h_two a_h_kept a_h_trail a_h_crumb a_h_nextCrumb a_h_goal a_h_start a_h_sits a_h_bestSits a_h_without a_h_row (m_many z_h_T) (m_odd z_h_T) (m_step z_h_T) (m_bag z_h_T) (m_strokes z_h_T) (m_gave z_h_T) (m_threw z_h_T) y_h_taped y_h_at y_h_statements z_h_hasImage (m_isKeeping z_h_T) (m_cursor z_h_T) y_h_beforeMany y_h_found y_h_lots y_h_rowMany q3.2)) (ws' := (w_M_restore cI cJ cC a_h a_h_refused a_h_kind a_h_sweets a_h_gives a_h_tape a_h_letter a_h_letterAt a_h_one a_h_two a_h_kept a_h_trail a_h_crumb a_h_nextCrumb a_h_goal a_h_start a_h_sits a_h_bestSits a_h_without a_h_row y_h_taped y_h_at y_h_statements y_h_beforeMany y_h_found y_h_lots y_h_rowMany (m_many z_h_T) (m_odd z_h_T) (m_step z_h_T) (m_bag z_h_T) (m_strokes z_h_T) (m_gave z_h_T) (m_threw z_h_T) z_h_hasImage (m_isKeeping z_h_T) (m_cursor z_h_T) q3.2 (m_kind z_h_T) (m_sweets z_h_T) (m_gives z_h_T) (m_kept z_h_T))) (As := [.int (-3)]) (rest := []) hx hb hml hown hT (c_M_no (z_h_refused := z_h_refused) a_h a_h_refused a_h_kind a_h_sweets a_h_gives a_h_tape a_h_letter a_h_letterAt a_h_one a_h_two a_h_kept a_h_trail a_h_crumb a_h_nextCrumb a_h_goal a_h_start a_h_sits a_h_bestSits a_h_without a_h_row (m_many z_h_T) (m_odd z_h_T) (m_step z_h_T) (m_bag z_h_T) (m_strokes z_h_T) (m_gave z_h_T) (m_threw z_h_T) y_h_taped y_h_at y_h_statements z_h_hasImage (m_isKeeping z_h_T) (m_cursor z_h_T) y_h_beforeMany y_h_found y_h_lots y_h_rowMany hq3) k_874 k_876 ks_24 k_8 k_877 hd_M_no ⟨Nat.le_of_ble_eq_true rfl, Nat.le_of_ble_eq_true rfl⟩ xE0_ok trivial hA hK hP hD hS [0, 1] [2, 3, 4, 5] [4, 5, 0, 1, 2, 3] rfl rfl rfl rfl rfl rfl rfl rfl rfl rfl hl.1 rfl (Nat.le_of_ble_eq_true rfl) ⟨Nat.zero_le _, Nat.zero_le _⟩ d_M_restore_10 (fun H locs hP hD hS => ?_)
    have hq := Option.some.inj hf
    subst hq
    exact hret _ _ _ _ _ d_M_restore_13 rfl rfl hP hD hS
abbrev w_M_leftOf (cI cJ cC : ClassId) (a_h a_h_refused a_h_kind a_h_sweets a_h_gives a_h_tape a_h_letter a_h_letterAt a_h_one a_h_two a_h_kept a_h_trail a_h_crumb a_h_nextCrumb a_h_goal a_h_start a_h_sits a_h_bestSits a_h_without a_h_row : Nat) (y_h_taped : Int32) (y_h_at : Int32) (y_h_statements : Int32) (y_h_hasImage : Int32) (y_h_beforeMany : Int32) (y_h_found : Int32) (y_h_lots : Int32) (y_h_rowMany : Int32) (p_h_many : Int32) (p_h_odd : Int32) (p_h_step : Int32) (p_h_bag : Int32) (p_h_strokes : Int32) (p_h_gave : Int32) (p_h_threw : Int32) (p_h_isKeeping : Int32) (p_h_cursor : Int32) : va_W := [(a_h, .inr (7, [.ref a_h_refused, .ref a_h_kind, .ref a_h_sweets, .ref a_h_gives, .int p_h_many, .int p_h_odd, .int p_h_step, .int p_h_bag, .int p_h_strokes, .int p_h_gave, .int p_h_threw, .ref a_h_tape, .ref a_h_letter, .ref a_h_letterAt, .ref a_h_one, .ref a_h_two, .int y_h_taped, .int y_h_at, .int y_h_statements, .ref a_h_kept, .int y_h_hasImage, .int p_h_isKeeping, .int p_h_cursor, .ref a_h_trail, .ref a_h_crumb, .ref a_h_nextCrumb, .ref a_h_goal, .ref a_h_start, .int y_h_beforeMany, .int y_h_found, .ref a_h_sits, .ref a_h_bestSits, .ref a_h_without, .int y_h_lots, .ref a_h_row, .int y_h_rowMany]))]
theorem d_M_leftOf_0 : decode b_M_leftOf 0 = .ok (.iload_n 1, 1) := by decide +kernel
theorem d_M_leftOf_1 : decode b_M_leftOf 1 = .ok (.aload_n 0, 1) := by decide +kernel
theorem d_M_leftOf_2 : decode b_M_leftOf 2 = .ok (.getfield 22, 3) := by decide +kernel
theorem d_M_leftOf_5 : decode b_M_leftOf 5 = .ok (.iadd, 1) := by decide +kernel
theorem d_M_leftOf_6 : decode b_M_leftOf 6 = .ok (.aload_n 0, 1) := by decide +kernel
theorem d_M_leftOf_7 : decode b_M_leftOf 7 = .ok (.getfield 78, 3) := by decide +kernel
theorem d_M_leftOf_10 : decode b_M_leftOf 10 = .ok (.irem, 1) := by decide +kernel
theorem d_M_leftOf_11 : decode b_M_leftOf 11 = .ok (.ireturn, 1) := by decide +kernel
set_option maxHeartbeats 4000000 in
set_option maxRecDepth 100000 in
theorem c_M_leftOf {l : Launch} {D : va_G} {cI cJ cC : ClassId} (a_h a_h_refused a_h_kind a_h_sweets a_h_gives a_h_tape a_h_letter a_h_letterAt a_h_one a_h_two a_h_kept a_h_trail a_h_crumb a_h_nextCrumb a_h_goal a_h_start a_h_sits a_h_bestSits a_h_without a_h_row : Nat) (y_h_taped : Int32) (y_h_at : Int32) (y_h_statements : Int32) (y_h_hasImage : Int32) (y_h_beforeMany : Int32) (y_h_found : Int32) (y_h_lots : Int32) (y_h_rowMany : Int32) {z_h_T : MT} {x1 : Int32} {q : Int32} (hf : f_M_leftOf z_h_T x1 = some q) : xI l y_M_leftOf b_M_leftOf 2 .int 0 0 D (tyK cI cJ cC) xE0 [.ref a_h, .int x1] (w_M_leftOf cI cJ cC a_h a_h_refused a_h_kind a_h_sweets a_h_gives a_h_tape a_h_letter a_h_letterAt a_h_one a_h_two a_h_kept a_h_trail a_h_crumb a_h_nextCrumb a_h_goal a_h_start a_h_sits a_h_bestSits a_h_without a_h_row y_h_taped y_h_at y_h_statements y_h_hasImage y_h_beforeMany y_h_found y_h_lots y_h_rowMany (m_many z_h_T) (m_odd z_h_T) (m_step z_h_T) (m_bag z_h_T) (m_strokes z_h_T) (m_gave z_h_T) (m_threw z_h_T) (m_isKeeping z_h_T) (m_cursor z_h_T)) q (w_M_leftOf cI cJ cC a_h a_h_refused a_h_kind a_h_sweets a_h_gives a_h_tape a_h_letter a_h_letterAt a_h_one a_h_two a_h_kept a_h_trail a_h_crumb a_h_nextCrumb a_h_goal a_h_start a_h_sits a_h_bestSits a_h_without a_h_row y_h_taped y_h_at y_h_statements y_h_hasImage y_h_beforeMany y_h_found y_h_lots y_h_rowMany (m_many z_h_T) (m_odd z_h_T) (m_step z_h_T) (m_bag z_h_T) (m_strokes z_h_T) (m_gave z_h_T) (m_threw z_h_T) (m_isKeeping z_h_T) (m_cursor z_h_T)) := by
  refine xI_of (by decide) (Nat.le_of_ble_eq_true rfl) ?_
  intro p e s m args below meth c A Q hx hb hml hown hT hA hP hD hK hS hE hret ls hl
  have hown : s.vm.findClass R_M = some m.cls := hown
  have hl : lv_has ls 2 [(0, .ref a_h), (1, .int x1)] := hl
  unfold f_M_leftOf at hf
  refine lv_iload_n hx hb d_M_leftOf_0 rfl (lv_at hl 1 rfl) ?_
  refine lv_aload_n hx hb d_M_leftOf_1 rfl (lv_at hl 0 rfl) ?_
  refine va_get hx hb hT i_M hown hK hP 0 rfl rfl 6 (Nat.le_of_ble_eq_true rfl) (hT _ k_764) (fun _ h => h) rfl d_M_leftOf_2 ?_
  refine lv_iadd hx hb d_M_leftOf_5 ?_
  refine lv_aload_n hx hb d_M_leftOf_6 rfl (lv_at hl 0 rfl) ?_
  refine va_get hx hb hT i_M hown hK hP 0 rfl rfl 4 (Nat.le_of_ble_eq_true rfl) (hT _ k_762) (fun _ h => h) rfl d_M_leftOf_7 ?_
  obtain ⟨c1, hf⟩ := io_n hf
  refine x_irem hx hb d_M_leftOf_10 c1 ?_
  have hq := Option.some.inj hf
  subst hq
  exact hret _ _ _ _ _ d_M_leftOf_11 rfl rfl hP hD hS
