/-! Contracts: Ring. Printed by wip/whole/gen. -/
abbrev w_Ring_copyFrom (cI cJ cC : ClassId) (a_h a_h_kinds a_h_sweets a_h_settings a_h_heaps a_g1 a_g1_kinds a_g1_sweets a_g1_settings a_g1_heaps : Nat) (p_h_children : Int32) (p_h_strokes : Int32) (p_h_gave : Int32) (p_h_threw : Int32) (p_h_kinds : (Nat → Int32)) (p_h_sweets : (Nat → Int32)) (p_h_settings : (Nat → Int32)) (p_h_heaps : (Nat → Int32)) (p_g1_children : Int32) (p_g1_strokes : Int32) (p_g1_gave : Int32) (p_g1_threw : Int32) (p_g1_kinds : (Nat → Int32)) (p_g1_sweets : (Nat → Int32)) (p_g1_settings : (Nat → Int32)) : va_W := [(a_h, .inr (1, [.ref a_h_kinds, .ref a_h_sweets, .ref a_h_settings, .int p_h_children, .int p_h_strokes, .int p_h_gave, .int p_h_threw, .ref a_h_heaps])), (a_h_kinds, .inl (cI, (8, .inl p_h_kinds))), (a_h_sweets, .inl (cI, (8, .inl p_h_sweets))), (a_h_settings, .inl (cI, (3, .inl p_h_settings))), (a_h_heaps, .inl (cI, (8, .inl p_h_heaps))), (a_g1, .inr (1, [.ref a_g1_kinds, .ref a_g1_sweets, .ref a_g1_settings, .int p_g1_children, .int p_g1_strokes, .int p_g1_gave, .int p_g1_threw, .ref a_g1_heaps])), (a_g1_kinds, .inl (cI, (8, .inl p_g1_kinds))), (a_g1_sweets, .inl (cI, (8, .inl p_g1_sweets))), (a_g1_settings, .inl (cI, (3, .inl p_g1_settings)))]
theorem d_Ring_copyFrom_0 : decode b_Ring_copyFrom 0 = .ok (.aload_n 1, 1) := by decide +kernel
theorem d_Ring_copyFrom_1 : decode b_Ring_copyFrom 1 = .ok (.getfield 9, 3) := by decide +kernel
theorem d_Ring_copyFrom_4 : decode b_Ring_copyFrom 4 = .ok (.iconst 0, 1) := by decide +kernel
theorem d_Ring_copyFrom_5 : decode b_Ring_copyFrom 5 = .ok (.aload_n 0, 1) := by decide +kernel
theorem d_Ring_copyFrom_6 : decode b_Ring_copyFrom 6 = .ok (.getfield 9, 3) := by decide +kernel
theorem d_Ring_copyFrom_9 : decode b_Ring_copyFrom 9 = .ok (.iconst 0, 1) := by decide +kernel
theorem d_Ring_copyFrom_10 : decode b_Ring_copyFrom 10 = .ok (.bipush 8, 2) := by decide +kernel
theorem d_Ring_copyFrom_12 : decode b_Ring_copyFrom 12 = .ok (.invokestatic 37, 3) := by decide +kernel
theorem d_Ring_copyFrom_15 : decode b_Ring_copyFrom 15 = .ok (.aload_n 1, 1) := by decide +kernel
theorem d_Ring_copyFrom_16 : decode b_Ring_copyFrom 16 = .ok (.getfield 15, 3) := by decide +kernel
theorem d_Ring_copyFrom_19 : decode b_Ring_copyFrom 19 = .ok (.iconst 0, 1) := by decide +kernel
theorem d_Ring_copyFrom_20 : decode b_Ring_copyFrom 20 = .ok (.aload_n 0, 1) := by decide +kernel
theorem d_Ring_copyFrom_21 : decode b_Ring_copyFrom 21 = .ok (.getfield 15, 3) := by decide +kernel
theorem d_Ring_copyFrom_24 : decode b_Ring_copyFrom 24 = .ok (.iconst 0, 1) := by decide +kernel
theorem d_Ring_copyFrom_25 : decode b_Ring_copyFrom 25 = .ok (.bipush 8, 2) := by decide +kernel
theorem d_Ring_copyFrom_27 : decode b_Ring_copyFrom 27 = .ok (.invokestatic 37, 3) := by decide +kernel
theorem d_Ring_copyFrom_30 : decode b_Ring_copyFrom 30 = .ok (.aload_n 1, 1) := by decide +kernel
theorem d_Ring_copyFrom_31 : decode b_Ring_copyFrom 31 = .ok (.getfield 18, 3) := by decide +kernel
theorem d_Ring_copyFrom_34 : decode b_Ring_copyFrom 34 = .ok (.iconst 0, 1) := by decide +kernel
theorem d_Ring_copyFrom_35 : decode b_Ring_copyFrom 35 = .ok (.aload_n 0, 1) := by decide +kernel
theorem d_Ring_copyFrom_36 : decode b_Ring_copyFrom 36 = .ok (.getfield 18, 3) := by decide +kernel
theorem d_Ring_copyFrom_39 : decode b_Ring_copyFrom 39 = .ok (.iconst 0, 1) := by decide +kernel
theorem d_Ring_copyFrom_40 : decode b_Ring_copyFrom 40 = .ok (.aload_n 0, 1) := by decide +kernel
theorem d_Ring_copyFrom_41 : decode b_Ring_copyFrom 41 = .ok (.getfield 18, 3) := by decide +kernel
theorem d_Ring_copyFrom_44 : decode b_Ring_copyFrom 44 = .ok (.arraylength, 1) := by decide +kernel
theorem d_Ring_copyFrom_45 : decode b_Ring_copyFrom 45 = .ok (.invokestatic 37, 3) := by decide +kernel
theorem d_Ring_copyFrom_48 : decode b_Ring_copyFrom 48 = .ok (.aload_n 0, 1) := by decide +kernel
theorem d_Ring_copyFrom_49 : decode b_Ring_copyFrom 49 = .ok (.aload_n 1, 1) := by decide +kernel
theorem d_Ring_copyFrom_50 : decode b_Ring_copyFrom 50 = .ok (.getfield 21, 3) := by decide +kernel
theorem d_Ring_copyFrom_53 : decode b_Ring_copyFrom 53 = .ok (.putfield 21, 3) := by decide +kernel
theorem d_Ring_copyFrom_56 : decode b_Ring_copyFrom 56 = .ok (.aload_n 0, 1) := by decide +kernel
theorem d_Ring_copyFrom_57 : decode b_Ring_copyFrom 57 = .ok (.aload_n 1, 1) := by decide +kernel
theorem d_Ring_copyFrom_58 : decode b_Ring_copyFrom 58 = .ok (.getfield 25, 3) := by decide +kernel
theorem d_Ring_copyFrom_61 : decode b_Ring_copyFrom 61 = .ok (.putfield 25, 3) := by decide +kernel
theorem d_Ring_copyFrom_64 : decode b_Ring_copyFrom 64 = .ok (.aload_n 0, 1) := by decide +kernel
theorem d_Ring_copyFrom_65 : decode b_Ring_copyFrom 65 = .ok (.aload_n 1, 1) := by decide +kernel
theorem d_Ring_copyFrom_66 : decode b_Ring_copyFrom 66 = .ok (.getfield 28, 3) := by decide +kernel
theorem d_Ring_copyFrom_69 : decode b_Ring_copyFrom 69 = .ok (.putfield 28, 3) := by decide +kernel
theorem d_Ring_copyFrom_72 : decode b_Ring_copyFrom 72 = .ok (.aload_n 0, 1) := by decide +kernel
theorem d_Ring_copyFrom_73 : decode b_Ring_copyFrom 73 = .ok (.aload_n 1, 1) := by decide +kernel
theorem d_Ring_copyFrom_74 : decode b_Ring_copyFrom 74 = .ok (.getfield 31, 3) := by decide +kernel
theorem d_Ring_copyFrom_77 : decode b_Ring_copyFrom 77 = .ok (.putfield 31, 3) := by decide +kernel
theorem d_Ring_copyFrom_80 : decode b_Ring_copyFrom 80 = .ok (.return_, 1) := by decide +kernel
set_option maxHeartbeats 4000000 in
set_option maxRecDepth 100000 in
theorem c_Ring_copyFrom {l : Launch} {D : va_G} {cI cJ cC : ClassId} (a_h a_h_kinds a_h_sweets a_h_settings a_h_heaps a_g1 a_g1_kinds a_g1_sweets a_g1_settings a_g1_heaps : Nat) {z_h : RS} {z_g1 : RS} {q : RS} (hf : f_Ring_copyFrom z_h z_g1 = some q) : xV l y_Ring_copyFrom b_Ring_copyFrom 2 1 40 D (tyK cI cJ cC) xE0 [.ref a_h, .ref a_g1] (w_Ring_copyFrom cI cJ cC a_h a_h_kinds a_h_sweets a_h_settings a_h_heaps a_g1 a_g1_kinds a_g1_sweets a_g1_settings a_g1_heaps (r_children z_h) (r_strokes z_h) (r_gave z_h) (r_threw z_h) (r_kinds z_h) (r_sweets z_h) (r_settings z_h) (r_heaps z_h) (r_children z_g1) (r_strokes z_g1) (r_gave z_g1) (r_threw z_g1) (r_kinds z_g1) (r_sweets z_g1) (r_settings z_g1)) (w_Ring_copyFrom cI cJ cC a_h a_h_kinds a_h_sweets a_h_settings a_h_heaps a_g1 a_g1_kinds a_g1_sweets a_g1_settings a_g1_heaps (r_children q) (r_strokes q) (r_gave q) (r_threw q) (r_kinds q) (r_sweets q) (r_settings q) (r_heaps q) (r_children z_g1) (r_strokes z_g1) (r_gave z_g1) (r_threw z_g1) (r_kinds z_g1) (r_sweets z_g1) (r_settings z_g1)) := by
  refine xV_of (by decide) (Nat.le_of_ble_eq_true rfl) ?_
  intro p e s m args below meth c A Q hx hb hml hown hT hA hP hD hK hS hE hret ls hl
  have hown : s.vm.findClass R_Ring = some m.cls := hown
  have hl : lv_has ls 2 [(0, .ref a_h), (1, .ref a_g1)] := hl
  unfold f_Ring_copyFrom at hf
  refine lv_aload_n hx hb d_Ring_copyFrom_0 rfl (lv_at hl 1 rfl) ?_
  refine va_get hx hb hT i_Ring hown hK hP 5 rfl rfl 0 (Nat.le_of_ble_eq_true rfl) (hT _ k_29) (fun _ h => h) rfl d_Ring_copyFrom_1 ?_
  refine lv_iconst (v := 0) hx hb d_Ring_copyFrom_4 (by decide) ?_
  refine lv_aload_n hx hb d_Ring_copyFrom_5 rfl (lv_at hl 0 rfl) ?_
  refine va_get hx hb hT i_Ring hown hK hP 0 rfl rfl 0 (Nat.le_of_ble_eq_true rfl) (hT _ k_29) (fun _ h => h) rfl d_Ring_copyFrom_6 ?_
  refine lv_iconst (v := 0) hx hb d_Ring_copyFrom_9 (by decide) ?_
  refine lv_bipush (v := 8) hx hb d_Ring_copyFrom_10 (by decide) ?_
  refine x_copyi (j := 8) hx hb (hml.trans hl.1.symm) hown (hT _ k_227) (hT _ k_229) (hT _ k_228) (hT _ k_14) hK hP hD hS 6 1 0 0 rfl rfl rfl rfl rfl (by decide) (by decide) (by decide) (by decide +kernel) (by decide +kernel) (by decide +kernel) (fun _ _ => rfl) (Nat.le_of_ble_eq_true rfl) (by decide +kernel) d_Ring_copyFrom_12 (fun H locs hP hD hS => ?_)
  have hP : va_P D classes (w_Ring_copyFrom cI cJ cC a_h a_h_kinds a_h_sweets a_h_settings a_h_heaps a_g1 a_g1_kinds a_g1_sweets a_g1_settings a_g1_heaps (r_children z_h) (r_strokes z_h) (r_gave z_h) (r_threw z_h) (va_cpy (r_kinds z_g1) (r_kinds z_h) 0 0 8) (r_sweets z_h) (r_settings z_h) (r_heaps z_h) (r_children z_g1) (r_strokes z_g1) (r_gave z_g1) (r_threw z_g1) (r_kinds z_g1) (r_sweets z_g1) (r_settings z_g1)) H := hP
  have hD : va_D A (w_Ring_copyFrom cI cJ cC a_h a_h_kinds a_h_sweets a_h_settings a_h_heaps a_g1 a_g1_kinds a_g1_sweets a_g1_settings a_g1_heaps (r_children z_h) (r_strokes z_h) (r_gave z_h) (r_threw z_h) (va_cpy (r_kinds z_g1) (r_kinds z_h) 0 0 8) (r_sweets z_h) (r_settings z_h) (r_heaps z_h) (r_children z_g1) (r_strokes z_g1) (r_gave z_g1) (r_threw z_g1) (r_kinds z_g1) (r_sweets z_g1) (r_settings z_g1)) := hD
  refine lv_aload_n hx hb d_Ring_copyFrom_15 rfl (lv_at hl 1 rfl) ?_
  refine va_get hx hb hT i_Ring hown hK hP 5 rfl rfl 1 (Nat.le_of_ble_eq_true rfl) (hT _ k_31) (fun _ h => h) rfl d_Ring_copyFrom_16 ?_
  refine lv_iconst (v := 0) hx hb d_Ring_copyFrom_19 (by decide) ?_
  refine lv_aload_n hx hb d_Ring_copyFrom_20 rfl (lv_at hl 0 rfl) ?_
  refine va_get hx hb hT i_Ring hown hK hP 0 rfl rfl 1 (Nat.le_of_ble_eq_true rfl) (hT _ k_31) (fun _ h => h) rfl d_Ring_copyFrom_21 ?_
  refine lv_iconst (v := 0) hx hb d_Ring_copyFrom_24 (by decide) ?_
  refine lv_bipush (v := 8) hx hb d_Ring_copyFrom_25 (by decide) ?_
  refine x_copyi (j := 8) hx hb (hml.trans hl.1.symm) hown (hT _ k_227) (hT _ k_229) (hT _ k_228) (hT _ k_14) hK hP hD hS 7 2 0 0 rfl rfl rfl rfl rfl (by decide) (by decide) (by decide) (by decide +kernel) (by decide +kernel) (by decide +kernel) (fun _ _ => rfl) (Nat.le_of_ble_eq_true rfl) (by decide +kernel) d_Ring_copyFrom_27 (fun H locs hP hD hS => ?_)
  have hP : va_P D classes (w_Ring_copyFrom cI cJ cC a_h a_h_kinds a_h_sweets a_h_settings a_h_heaps a_g1 a_g1_kinds a_g1_sweets a_g1_settings a_g1_heaps (r_children z_h) (r_strokes z_h) (r_gave z_h) (r_threw z_h) (va_cpy (r_kinds z_g1) (r_kinds z_h) 0 0 8) (va_cpy (r_sweets z_g1) (r_sweets z_h) 0 0 8) (r_settings z_h) (r_heaps z_h) (r_children z_g1) (r_strokes z_g1) (r_gave z_g1) (r_threw z_g1) (r_kinds z_g1) (r_sweets z_g1) (r_settings z_g1)) H := hP
  have hD : va_D A (w_Ring_copyFrom cI cJ cC a_h a_h_kinds a_h_sweets a_h_settings a_h_heaps a_g1 a_g1_kinds a_g1_sweets a_g1_settings a_g1_heaps (r_children z_h) (r_strokes z_h) (r_gave z_h) (r_threw z_h) (va_cpy (r_kinds z_g1) (r_kinds z_h) 0 0 8) (va_cpy (r_sweets z_g1) (r_sweets z_h) 0 0 8) (r_settings z_h) (r_heaps z_h) (r_children z_g1) (r_strokes z_g1) (r_gave z_g1) (r_threw z_g1) (r_kinds z_g1) (r_sweets z_g1) (r_settings z_g1)) := hD
  refine lv_aload_n hx hb d_Ring_copyFrom_30 rfl (lv_at hl 1 rfl) ?_
  refine va_get hx hb hT i_Ring hown hK hP 5 rfl rfl 2 (Nat.le_of_ble_eq_true rfl) (hT _ k_35) (fun _ h => h) rfl d_Ring_copyFrom_31 ?_
  refine lv_iconst (v := 0) hx hb d_Ring_copyFrom_34 (by decide) ?_
  refine lv_aload_n hx hb d_Ring_copyFrom_35 rfl (lv_at hl 0 rfl) ?_
  refine va_get hx hb hT i_Ring hown hK hP 0 rfl rfl 2 (Nat.le_of_ble_eq_true rfl) (hT _ k_35) (fun _ h => h) rfl d_Ring_copyFrom_36 ?_
  refine lv_iconst (v := 0) hx hb d_Ring_copyFrom_39 (by decide) ?_
  refine lv_aload_n hx hb d_Ring_copyFrom_40 rfl (lv_at hl 0 rfl) ?_
  refine va_get hx hb hT i_Ring hown hK hP 0 rfl rfl 2 (Nat.le_of_ble_eq_true rfl) (hT _ k_35) (fun _ h => h) rfl d_Ring_copyFrom_41 ?_
  refine va_alen (v := 3) hx hb hK hP 3 0 rfl rfl rfl d_Ring_copyFrom_44 ?_
  refine x_copyi (j := 3) hx hb (hml.trans hl.1.symm) hown (hT _ k_227) (hT _ k_229) (hT _ k_228) (hT _ k_14) hK hP hD hS 8 3 0 0 rfl rfl rfl rfl rfl (by decide) (by decide) (by decide) (by decide +kernel) (by decide +kernel) (by decide +kernel) (fun _ _ => rfl) (Nat.le_of_ble_eq_true rfl) (by decide +kernel) d_Ring_copyFrom_45 (fun H locs hP hD hS => ?_)
  have hP : va_P D classes (w_Ring_copyFrom cI cJ cC a_h a_h_kinds a_h_sweets a_h_settings a_h_heaps a_g1 a_g1_kinds a_g1_sweets a_g1_settings a_g1_heaps (r_children z_h) (r_strokes z_h) (r_gave z_h) (r_threw z_h) (va_cpy (r_kinds z_g1) (r_kinds z_h) 0 0 8) (va_cpy (r_sweets z_g1) (r_sweets z_h) 0 0 8) (va_cpy (r_settings z_g1) (r_settings z_h) 0 0 3) (r_heaps z_h) (r_children z_g1) (r_strokes z_g1) (r_gave z_g1) (r_threw z_g1) (r_kinds z_g1) (r_sweets z_g1) (r_settings z_g1)) H := hP
  have hD : va_D A (w_Ring_copyFrom cI cJ cC a_h a_h_kinds a_h_sweets a_h_settings a_h_heaps a_g1 a_g1_kinds a_g1_sweets a_g1_settings a_g1_heaps (r_children z_h) (r_strokes z_h) (r_gave z_h) (r_threw z_h) (va_cpy (r_kinds z_g1) (r_kinds z_h) 0 0 8) (va_cpy (r_sweets z_g1) (r_sweets z_h) 0 0 8) (va_cpy (r_settings z_g1) (r_settings z_h) 0 0 3) (r_heaps z_h) (r_children z_g1) (r_strokes z_g1) (r_gave z_g1) (r_threw z_g1) (r_kinds z_g1) (r_sweets z_g1) (r_settings z_g1)) := hD
  refine lv_aload_n hx hb d_Ring_copyFrom_48 rfl (lv_at hl 0 rfl) ?_
  refine lv_aload_n hx hb d_Ring_copyFrom_49 rfl (lv_at hl 1 rfl) ?_
  refine va_get hx hb hT i_Ring hown hK hP 5 rfl rfl 3 (Nat.le_of_ble_eq_true rfl) (hT _ k_38) (fun _ h => h) rfl d_Ring_copyFrom_50 ?_
  refine va_put (ty := .int) hx hb hT i_Ring t_Ring t_Ring_ok n_Ring hown hK hP hD hS 0 rfl rfl 3 (Nat.le_of_ble_eq_true rfl) (hT _ k_38) (fun _ h => h) rfl rfl rfl rfl (Nat.le_of_ble_eq_true rfl) d_Ring_copyFrom_53 (fun H locs hP hD hS => ?_)
  have hP : va_P D classes (w_Ring_copyFrom cI cJ cC a_h a_h_kinds a_h_sweets a_h_settings a_h_heaps a_g1 a_g1_kinds a_g1_sweets a_g1_settings a_g1_heaps (r_children z_g1) (r_strokes z_h) (r_gave z_h) (r_threw z_h) (va_cpy (r_kinds z_g1) (r_kinds z_h) 0 0 8) (va_cpy (r_sweets z_g1) (r_sweets z_h) 0 0 8) (va_cpy (r_settings z_g1) (r_settings z_h) 0 0 3) (r_heaps z_h) (r_children z_g1) (r_strokes z_g1) (r_gave z_g1) (r_threw z_g1) (r_kinds z_g1) (r_sweets z_g1) (r_settings z_g1)) H := hP
  have hD : va_D A (w_Ring_copyFrom cI cJ cC a_h a_h_kinds a_h_sweets a_h_settings a_h_heaps a_g1 a_g1_kinds a_g1_sweets a_g1_settings a_g1_heaps (r_children z_g1) (r_strokes z_h) (r_gave z_h) (r_threw z_h) (va_cpy (r_kinds z_g1) (r_kinds z_h) 0 0 8) (va_cpy (r_sweets z_g1) (r_sweets z_h) 0 0 8) (va_cpy (r_settings z_g1) (r_settings z_h) 0 0 3) (r_heaps z_h) (r_children z_g1) (r_strokes z_g1) (r_gave z_g1) (r_threw z_g1) (r_kinds z_g1) (r_sweets z_g1) (r_settings z_g1)) := hD
  refine lv_aload_n hx hb d_Ring_copyFrom_56 rfl (lv_at hl 0 rfl) ?_
  refine lv_aload_n hx hb d_Ring_copyFrom_57 rfl (lv_at hl 1 rfl) ?_
  refine va_get hx hb hT i_Ring hown hK hP 5 rfl rfl 4 (Nat.le_of_ble_eq_true rfl) (hT _ k_41) (fun _ h => h) rfl d_Ring_copyFrom_58 ?_
  refine va_put (ty := .int) hx hb hT i_Ring t_Ring t_Ring_ok n_Ring hown hK hP hD hS 0 rfl rfl 4 (Nat.le_of_ble_eq_true rfl) (hT _ k_41) (fun _ h => h) rfl rfl rfl rfl (Nat.le_of_ble_eq_true rfl) d_Ring_copyFrom_61 (fun H locs hP hD hS => ?_)
  have hP : va_P D classes (w_Ring_copyFrom cI cJ cC a_h a_h_kinds a_h_sweets a_h_settings a_h_heaps a_g1 a_g1_kinds a_g1_sweets a_g1_settings a_g1_heaps (r_children z_g1) (r_strokes z_g1) (r_gave z_h) (r_threw z_h) (va_cpy (r_kinds z_g1) (r_kinds z_h) 0 0 8) (va_cpy (r_sweets z_g1) (r_sweets z_h) 0 0 8) (va_cpy (r_settings z_g1) (r_settings z_h) 0 0 3) (r_heaps z_h) (r_children z_g1) (r_strokes z_g1) (r_gave z_g1) (r_threw z_g1) (r_kinds z_g1) (r_sweets z_g1) (r_settings z_g1)) H := hP
  have hD : va_D A (w_Ring_copyFrom cI cJ cC a_h a_h_kinds a_h_sweets a_h_settings a_h_heaps a_g1 a_g1_kinds a_g1_sweets a_g1_settings a_g1_heaps (r_children z_g1) (r_strokes z_g1) (r_gave z_h) (r_threw z_h) (va_cpy (r_kinds z_g1) (r_kinds z_h) 0 0 8) (va_cpy (r_sweets z_g1) (r_sweets z_h) 0 0 8) (va_cpy (r_settings z_g1) (r_settings z_h) 0 0 3) (r_heaps z_h) (r_children z_g1) (r_strokes z_g1) (r_gave z_g1) (r_threw z_g1) (r_kinds z_g1) (r_sweets z_g1) (r_settings z_g1)) := hD
  refine lv_aload_n hx hb d_Ring_copyFrom_64 rfl (lv_at hl 0 rfl) ?_
  refine lv_aload_n hx hb d_Ring_copyFrom_65 rfl (lv_at hl 1 rfl) ?_
  refine va_get hx hb hT i_Ring hown hK hP 5 rfl rfl 5 (Nat.le_of_ble_eq_true rfl) (hT _ k_43) (fun _ h => h) rfl d_Ring_copyFrom_66 ?_
  refine va_put (ty := .int) hx hb hT i_Ring t_Ring t_Ring_ok n_Ring hown hK hP hD hS 0 rfl rfl 5 (Nat.le_of_ble_eq_true rfl) (hT _ k_43) (fun _ h => h) rfl rfl rfl rfl (Nat.le_of_ble_eq_true rfl) d_Ring_copyFrom_69 (fun H locs hP hD hS => ?_)
  have hP : va_P D classes (w_Ring_copyFrom cI cJ cC a_h a_h_kinds a_h_sweets a_h_settings a_h_heaps a_g1 a_g1_kinds a_g1_sweets a_g1_settings a_g1_heaps (r_children z_g1) (r_strokes z_g1) (r_gave z_g1) (r_threw z_h) (va_cpy (r_kinds z_g1) (r_kinds z_h) 0 0 8) (va_cpy (r_sweets z_g1) (r_sweets z_h) 0 0 8) (va_cpy (r_settings z_g1) (r_settings z_h) 0 0 3) (r_heaps z_h) (r_children z_g1) (r_strokes z_g1) (r_gave z_g1) (r_threw z_g1) (r_kinds z_g1) (r_sweets z_g1) (r_settings z_g1)) H := hP
  have hD : va_D A (w_Ring_copyFrom cI cJ cC a_h a_h_kinds a_h_sweets a_h_settings a_h_heaps a_g1 a_g1_kinds a_g1_sweets a_g1_settings a_g1_heaps (r_children z_g1) (r_strokes z_g1) (r_gave z_g1) (r_threw z_h) (va_cpy (r_kinds z_g1) (r_kinds z_h) 0 0 8) (va_cpy (r_sweets z_g1) (r_sweets z_h) 0 0 8) (va_cpy (r_settings z_g1) (r_settings z_h) 0 0 3) (r_heaps z_h) (r_children z_g1) (r_strokes z_g1) (r_gave z_g1) (r_threw z_g1) (r_kinds z_g1) (r_sweets z_g1) (r_settings z_g1)) := hD
  refine lv_aload_n hx hb d_Ring_copyFrom_72 rfl (lv_at hl 0 rfl) ?_
  refine lv_aload_n hx hb d_Ring_copyFrom_73 rfl (lv_at hl 1 rfl) ?_
  refine va_get hx hb hT i_Ring hown hK hP 5 rfl rfl 6 (Nat.le_of_ble_eq_true rfl) (hT _ k_46) (fun _ h => h) rfl d_Ring_copyFrom_74 ?_
  refine va_put (ty := .int) hx hb hT i_Ring t_Ring t_Ring_ok n_Ring hown hK hP hD hS 0 rfl rfl 6 (Nat.le_of_ble_eq_true rfl) (hT _ k_46) (fun _ h => h) rfl rfl rfl rfl (Nat.le_of_ble_eq_true rfl) d_Ring_copyFrom_77 (fun H locs hP hD hS => ?_)
  have hP : va_P D classes (w_Ring_copyFrom cI cJ cC a_h a_h_kinds a_h_sweets a_h_settings a_h_heaps a_g1 a_g1_kinds a_g1_sweets a_g1_settings a_g1_heaps (r_children z_g1) (r_strokes z_g1) (r_gave z_g1) (r_threw z_g1) (va_cpy (r_kinds z_g1) (r_kinds z_h) 0 0 8) (va_cpy (r_sweets z_g1) (r_sweets z_h) 0 0 8) (va_cpy (r_settings z_g1) (r_settings z_h) 0 0 3) (r_heaps z_h) (r_children z_g1) (r_strokes z_g1) (r_gave z_g1) (r_threw z_g1) (r_kinds z_g1) (r_sweets z_g1) (r_settings z_g1)) H := hP
  have hD : va_D A (w_Ring_copyFrom cI cJ cC a_h a_h_kinds a_h_sweets a_h_settings a_h_heaps a_g1 a_g1_kinds a_g1_sweets a_g1_settings a_g1_heaps (r_children z_g1) (r_strokes z_g1) (r_gave z_g1) (r_threw z_g1) (va_cpy (r_kinds z_g1) (r_kinds z_h) 0 0 8) (va_cpy (r_sweets z_g1) (r_sweets z_h) 0 0 8) (va_cpy (r_settings z_g1) (r_settings z_h) 0 0 3) (r_heaps z_h) (r_children z_g1) (r_strokes z_g1) (r_gave z_g1) (r_threw z_g1) (r_kinds z_g1) (r_sweets z_g1) (r_settings z_g1)) := hD
  have hq := Option.some.inj hf
  subst hq
  exact hret _ _ _ _ d_Ring_copyFrom_80 hP hD hS
abbrev w_Ring_seatLast (cI cJ cC : ClassId) (a_h a_h_kinds a_h_sweets a_h_settings a_h_heaps : Nat) (p_h_children : Int32) (p_h_strokes : Int32) (p_h_gave : Int32) (p_h_threw : Int32) (p_h_kinds : (Nat → Int32)) (p_h_sweets : (Nat → Int32)) (p_h_settings : (Nat → Int32)) (p_h_heaps : (Nat → Int32)) : va_W := [(a_h, .inr (1, [.ref a_h_kinds, .ref a_h_sweets, .ref a_h_settings, .int p_h_children, .int p_h_strokes, .int p_h_gave, .int p_h_threw, .ref a_h_heaps])), (a_h_kinds, .inl (cI, (8, .inl p_h_kinds))), (a_h_sweets, .inl (cI, (8, .inl p_h_sweets))), (a_h_settings, .inl (cI, (3, .inl p_h_settings))), (a_h_heaps, .inl (cI, (8, .inl p_h_heaps)))]
theorem d_Ring_seatLast_0 : decode b_Ring_seatLast 0 = .ok (.aload_n 0, 1) := by decide +kernel
theorem d_Ring_seatLast_1 : decode b_Ring_seatLast 1 = .ok (.getfield 21, 3) := by decide +kernel
theorem d_Ring_seatLast_4 : decode b_Ring_seatLast 4 = .ok (.bipush 8, 2) := by decide +kernel
theorem d_Ring_seatLast_6 : decode b_Ring_seatLast 6 = .ok (.if_icmp .lt 5, 3) := by decide +kernel
theorem d_Ring_seatLast_9 : decode b_Ring_seatLast 9 = .ok (.iconst 0, 1) := by decide +kernel
theorem d_Ring_seatLast_10 : decode b_Ring_seatLast 10 = .ok (.ireturn, 1) := by decide +kernel
theorem d_Ring_seatLast_11 : decode b_Ring_seatLast 11 = .ok (.aload_n 0, 1) := by decide +kernel
theorem d_Ring_seatLast_12 : decode b_Ring_seatLast 12 = .ok (.getfield 9, 3) := by decide +kernel
theorem d_Ring_seatLast_15 : decode b_Ring_seatLast 15 = .ok (.aload_n 0, 1) := by decide +kernel
theorem d_Ring_seatLast_16 : decode b_Ring_seatLast 16 = .ok (.getfield 21, 3) := by decide +kernel
theorem d_Ring_seatLast_19 : decode b_Ring_seatLast 19 = .ok (.iload_n 1, 1) := by decide +kernel
theorem d_Ring_seatLast_20 : decode b_Ring_seatLast 20 = .ok (.iastore, 1) := by decide +kernel
theorem d_Ring_seatLast_21 : decode b_Ring_seatLast 21 = .ok (.aload_n 0, 1) := by decide +kernel
theorem d_Ring_seatLast_22 : decode b_Ring_seatLast 22 = .ok (.getfield 15, 3) := by decide +kernel
theorem d_Ring_seatLast_25 : decode b_Ring_seatLast 25 = .ok (.aload_n 0, 1) := by decide +kernel
theorem d_Ring_seatLast_26 : decode b_Ring_seatLast 26 = .ok (.getfield 21, 3) := by decide +kernel
theorem d_Ring_seatLast_29 : decode b_Ring_seatLast 29 = .ok (.iload_n 2, 1) := by decide +kernel
theorem d_Ring_seatLast_30 : decode b_Ring_seatLast 30 = .ok (.iastore, 1) := by decide +kernel
theorem d_Ring_seatLast_31 : decode b_Ring_seatLast 31 = .ok (.aload_n 0, 1) := by decide +kernel
theorem d_Ring_seatLast_32 : decode b_Ring_seatLast 32 = .ok (.dup, 1) := by decide +kernel
theorem d_Ring_seatLast_33 : decode b_Ring_seatLast 33 = .ok (.getfield 21, 3) := by decide +kernel
theorem d_Ring_seatLast_36 : decode b_Ring_seatLast 36 = .ok (.iconst 1, 1) := by decide +kernel
theorem d_Ring_seatLast_37 : decode b_Ring_seatLast 37 = .ok (.iadd, 1) := by decide +kernel
theorem d_Ring_seatLast_38 : decode b_Ring_seatLast 38 = .ok (.putfield 21, 3) := by decide +kernel
theorem d_Ring_seatLast_41 : decode b_Ring_seatLast 41 = .ok (.iconst 1, 1) := by decide +kernel
theorem d_Ring_seatLast_42 : decode b_Ring_seatLast 42 = .ok (.ireturn, 1) := by decide +kernel
set_option maxHeartbeats 4000000 in
set_option maxRecDepth 100000 in
theorem c_Ring_seatLast {l : Launch} {D : va_G} {cI cJ cC : ClassId} (a_h a_h_kinds a_h_sweets a_h_settings a_h_heaps : Nat) {z_h : RS} {x1 : Int32} {x2 : Int32} {q : Int32 × RS} (hf : f_Ring_seatLast z_h x1 x2 = some q) : xI l y_Ring_seatLast b_Ring_seatLast 3 .boolean 0 0 D (tyK cI cJ cC) xE0 [.ref a_h, .int x1, .int x2] (w_Ring_seatLast cI cJ cC a_h a_h_kinds a_h_sweets a_h_settings a_h_heaps (r_children z_h) (r_strokes z_h) (r_gave z_h) (r_threw z_h) (r_kinds z_h) (r_sweets z_h) (r_settings z_h) (r_heaps z_h)) q.1 (w_Ring_seatLast cI cJ cC a_h a_h_kinds a_h_sweets a_h_settings a_h_heaps (r_children q.2) (r_strokes q.2) (r_gave q.2) (r_threw q.2) (r_kinds q.2) (r_sweets q.2) (r_settings q.2) (r_heaps q.2)) := by
  refine xI_of (by decide) (Nat.le_of_ble_eq_true rfl) ?_
  intro p e s m args below meth c A Q hx hb hml hown hT hA hP hD hK hS hE hret ls hl
  have hown : s.vm.findClass R_Ring = some m.cls := hown
  have hl : lv_has ls 3 [(0, .ref a_h), (1, .int x1), (2, .int x2)] := hl
  unfold f_Ring_seatLast at hf
  refine lv_aload_n hx hb d_Ring_seatLast_0 rfl (lv_at hl 0 rfl) ?_
  refine va_get hx hb hT i_Ring hown hK hP 0 rfl rfl 3 (Nat.le_of_ble_eq_true rfl) (hT _ k_38) (fun _ h => h) rfl d_Ring_seatLast_1 ?_
  refine lv_bipush (v := 8) hx hb d_Ring_seatLast_4 (by decide) ?_
  refine lv_icmp_lt (tgt := 11) hx hb d_Ring_seatLast_6 (by decide) (fun c1 => ?_) (fun c1 => ?_)
  · have hf := io_t hf c1
    refine lv_aload_n hx hb d_Ring_seatLast_11 rfl (lv_at hl 0 rfl) ?_
    refine va_get hx hb hT i_Ring hown hK hP 0 rfl rfl 0 (Nat.le_of_ble_eq_true rfl) (hT _ k_29) (fun _ h => h) rfl d_Ring_seatLast_12 ?_
    refine lv_aload_n hx hb d_Ring_seatLast_15 rfl (lv_at hl 0 rfl) ?_
    refine va_get hx hb hT i_Ring hown hK hP 0 rfl rfl 3 (Nat.le_of_ble_eq_true rfl) (hT _ k_38) (fun _ h => h) rfl d_Ring_seatLast_16 ?_
    refine lv_iload_n hx hb d_Ring_seatLast_19 rfl (lv_at hl 1 rfl) ?_
    obtain ⟨c2, hf⟩ := io_n hf
    refine x_iast hx hb hK hP hD hS 1 0 rfl rfl (j := (r_children z_h).toNatClampNeg) rfl c2 d_Ring_seatLast_20 (fun H locs hP hD hS => ?_)
    have hP : va_P D classes (w_Ring_seatLast cI cJ cC a_h a_h_kinds a_h_sweets a_h_settings a_h_heaps (r_children z_h) (r_strokes z_h) (r_gave z_h) (r_threw z_h) (upd (r_kinds z_h) (r_children z_h).toNatClampNeg x1) (r_sweets z_h) (r_settings z_h) (r_heaps z_h)) H := hP
    have hD : va_D A (w_Ring_seatLast cI cJ cC a_h a_h_kinds a_h_sweets a_h_settings a_h_heaps (r_children z_h) (r_strokes z_h) (r_gave z_h) (r_threw z_h) (upd (r_kinds z_h) (r_children z_h).toNatClampNeg x1) (r_sweets z_h) (r_settings z_h) (r_heaps z_h)) := hD
    refine lv_aload_n hx hb d_Ring_seatLast_21 rfl (lv_at hl 0 rfl) ?_
    refine va_get hx hb hT i_Ring hown hK hP 0 rfl rfl 1 (Nat.le_of_ble_eq_true rfl) (hT _ k_31) (fun _ h => h) rfl d_Ring_seatLast_22 ?_
    refine lv_aload_n hx hb d_Ring_seatLast_25 rfl (lv_at hl 0 rfl) ?_
    refine va_get hx hb hT i_Ring hown hK hP 0 rfl rfl 3 (Nat.le_of_ble_eq_true rfl) (hT _ k_38) (fun _ h => h) rfl d_Ring_seatLast_26 ?_
    refine lv_iload_n hx hb d_Ring_seatLast_29 rfl (lv_at hl 2 rfl) ?_
    refine x_iast hx hb hK hP hD hS 2 0 rfl rfl (j := (r_children z_h).toNatClampNeg) rfl c2 d_Ring_seatLast_30 (fun H locs hP hD hS => ?_)
    have hP : va_P D classes (w_Ring_seatLast cI cJ cC a_h a_h_kinds a_h_sweets a_h_settings a_h_heaps (r_children z_h) (r_strokes z_h) (r_gave z_h) (r_threw z_h) (upd (r_kinds z_h) (r_children z_h).toNatClampNeg x1) (upd (r_sweets z_h) (r_children z_h).toNatClampNeg x2) (r_settings z_h) (r_heaps z_h)) H := hP
    have hD : va_D A (w_Ring_seatLast cI cJ cC a_h a_h_kinds a_h_sweets a_h_settings a_h_heaps (r_children z_h) (r_strokes z_h) (r_gave z_h) (r_threw z_h) (upd (r_kinds z_h) (r_children z_h).toNatClampNeg x1) (upd (r_sweets z_h) (r_children z_h).toNatClampNeg x2) (r_settings z_h) (r_heaps z_h)) := hD
    refine lv_aload_n hx hb d_Ring_seatLast_31 rfl (lv_at hl 0 rfl) ?_
    refine lv_dup hx hb d_Ring_seatLast_32 rfl ?_
    refine va_get hx hb hT i_Ring hown hK hP 0 rfl rfl 3 (Nat.le_of_ble_eq_true rfl) (hT _ k_38) (fun _ h => h) rfl d_Ring_seatLast_33 ?_
    refine lv_iconst (v := 1) hx hb d_Ring_seatLast_36 (by decide) ?_
    refine lv_iadd hx hb d_Ring_seatLast_37 ?_
    refine va_put (ty := .int) hx hb hT i_Ring t_Ring t_Ring_ok n_Ring hown hK hP hD hS 0 rfl rfl 3 (Nat.le_of_ble_eq_true rfl) (hT _ k_38) (fun _ h => h) rfl rfl rfl rfl (Nat.le_of_ble_eq_true rfl) d_Ring_seatLast_38 (fun H locs hP hD hS => ?_)
    have hP : va_P D classes (w_Ring_seatLast cI cJ cC a_h a_h_kinds a_h_sweets a_h_settings a_h_heaps ((r_children z_h) + 1) (r_strokes z_h) (r_gave z_h) (r_threw z_h) (upd (r_kinds z_h) (r_children z_h).toNatClampNeg x1) (upd (r_sweets z_h) (r_children z_h).toNatClampNeg x2) (r_settings z_h) (r_heaps z_h)) H := hP
    have hD : va_D A (w_Ring_seatLast cI cJ cC a_h a_h_kinds a_h_sweets a_h_settings a_h_heaps ((r_children z_h) + 1) (r_strokes z_h) (r_gave z_h) (r_threw z_h) (upd (r_kinds z_h) (r_children z_h).toNatClampNeg x1) (upd (r_sweets z_h) (r_children z_h).toNatClampNeg x2) (r_settings z_h) (r_heaps z_h)) := hD
    refine lv_iconst (v := 1) hx hb d_Ring_seatLast_41 (by decide) ?_
    have hq := Option.some.inj hf
    subst hq
    exact hret _ _ _ _ _ d_Ring_seatLast_42 (by decide) rfl hP hD hS
  · have hf := io_f hf c1
    refine lv_iconst (v := 0) hx hb d_Ring_seatLast_9 (by decide) ?_
    have hq := Option.some.inj hf
    subst hq
    exact hret _ _ _ _ _ d_Ring_seatLast_10 (by decide) rfl hP hD hS
abbrev w_Ring_has (cI cJ cC : ClassId) (a_h a_h_kinds a_h_sweets a_h_settings a_h_heaps : Nat) (p_h_children : Int32) (p_h_strokes : Int32) (p_h_gave : Int32) (p_h_threw : Int32) : va_W := [(a_h, .inr (1, [.ref a_h_kinds, .ref a_h_sweets, .ref a_h_settings, .int p_h_children, .int p_h_strokes, .int p_h_gave, .int p_h_threw, .ref a_h_heaps]))]
theorem d_Ring_has_0 : decode b_Ring_has 0 = .ok (.iload_n 1, 1) := by decide +kernel
theorem d_Ring_has_1 : decode b_Ring_has 1 = .ok (.ifCond .lt 15, 3) := by decide +kernel
theorem d_Ring_has_4 : decode b_Ring_has 4 = .ok (.iload_n 1, 1) := by decide +kernel
theorem d_Ring_has_5 : decode b_Ring_has 5 = .ok (.aload_n 0, 1) := by decide +kernel
theorem d_Ring_has_6 : decode b_Ring_has 6 = .ok (.getfield 21, 3) := by decide +kernel
theorem d_Ring_has_9 : decode b_Ring_has 9 = .ok (.if_icmp .ge 7, 3) := by decide +kernel
theorem d_Ring_has_12 : decode b_Ring_has 12 = .ok (.iconst 1, 1) := by decide +kernel
theorem d_Ring_has_13 : decode b_Ring_has 13 = .ok (.goto 4, 3) := by decide +kernel
theorem d_Ring_has_16 : decode b_Ring_has 16 = .ok (.iconst 0, 1) := by decide +kernel
theorem d_Ring_has_17 : decode b_Ring_has 17 = .ok (.ireturn, 1) := by decide +kernel
set_option maxHeartbeats 4000000 in
set_option maxRecDepth 100000 in
theorem c_Ring_has {l : Launch} {D : va_G} {cI cJ cC : ClassId} (a_h a_h_kinds a_h_sweets a_h_settings a_h_heaps : Nat) {z_h : RS} {x1 : Int32} {q : Int32} (hf : f_Ring_has z_h x1 = some q) : xI l y_Ring_has b_Ring_has 2 .boolean 0 0 D (tyK cI cJ cC) xE0 [.ref a_h, .int x1] (w_Ring_has cI cJ cC a_h a_h_kinds a_h_sweets a_h_settings a_h_heaps (r_children z_h) (r_strokes z_h) (r_gave z_h) (r_threw z_h)) q (w_Ring_has cI cJ cC a_h a_h_kinds a_h_sweets a_h_settings a_h_heaps (r_children z_h) (r_strokes z_h) (r_gave z_h) (r_threw z_h)) := by
  refine xI_of (by decide) (Nat.le_of_ble_eq_true rfl) ?_
  intro p e s m args below meth c A Q hx hb hml hown hT hA hP hD hK hS hE hret ls hl
  have hown : s.vm.findClass R_Ring = some m.cls := hown
  have hl : lv_has ls 2 [(0, .ref a_h), (1, .int x1)] := hl
  unfold f_Ring_has at hf
  refine lv_iload_n hx hb d_Ring_has_0 rfl (lv_at hl 1 rfl) ?_
  refine lv_if_lt (tgt := 16) hx hb d_Ring_has_1 (by decide) (fun c1 => ?_) (fun c1 => ?_)
  · have hf := io_t hf c1
    refine lv_iconst (v := 0) hx hb d_Ring_has_16 (by decide) ?_
    have hq := Option.some.inj hf
    subst hq
    exact hret _ _ _ _ _ d_Ring_has_17 (by decide) rfl hP hD hS
  · have hf := io_f hf c1
    refine lv_iload_n hx hb d_Ring_has_4 rfl (lv_at hl 1 rfl) ?_
    refine lv_aload_n hx hb d_Ring_has_5 rfl (lv_at hl 0 rfl) ?_
    refine va_get hx hb hT i_Ring hown hK hP 0 rfl rfl 3 (Nat.le_of_ble_eq_true rfl) (hT _ k_38) (fun _ h => h) rfl d_Ring_has_6 ?_
    refine lv_icmp_ge (tgt := 16) hx hb d_Ring_has_9 (by decide) (fun c2 => ?_) (fun c2 => ?_)
    · have hf := io_t hf c2
      refine lv_iconst (v := 0) hx hb d_Ring_has_16 (by decide) ?_
      have hq := Option.some.inj hf
      subst hq
      exact hret _ _ _ _ _ d_Ring_has_17 (by decide) rfl hP hD hS
    · have hf := io_f hf c2
      refine lv_iconst (v := 1) hx hb d_Ring_has_12 (by decide) ?_
      refine lv_goto (tgt := 17) hx hb d_Ring_has_13 (by decide) ?_
      have hq := Option.some.inj hf
      subst hq
      exact hret _ _ _ _ _ d_Ring_has_17 (by decide) rfl hP hD hS
abbrev w_Ring_leftOf (cI cJ cC : ClassId) (a_h a_h_kinds a_h_sweets a_h_settings a_h_heaps : Nat) (p_h_children : Int32) (p_h_strokes : Int32) (p_h_gave : Int32) (p_h_threw : Int32) (p_h_settings : (Nat → Int32)) : va_W := [(a_h, .inr (1, [.ref a_h_kinds, .ref a_h_sweets, .ref a_h_settings, .int p_h_children, .int p_h_strokes, .int p_h_gave, .int p_h_threw, .ref a_h_heaps])), (a_h_settings, .inl (cI, (3, .inl p_h_settings)))]
theorem d_Ring_leftOf_0 : decode b_Ring_leftOf 0 = .ok (.aload_n 0, 1) := by decide +kernel
theorem d_Ring_leftOf_1 : decode b_Ring_leftOf 1 = .ok (.getfield 21, 3) := by decide +kernel
theorem d_Ring_leftOf_4 : decode b_Ring_leftOf 4 = .ok (.ifCond .ne 7, 3) := by decide +kernel
theorem d_Ring_leftOf_7 : decode b_Ring_leftOf 7 = .ok (.iconst 0, 1) := by decide +kernel
theorem d_Ring_leftOf_8 : decode b_Ring_leftOf 8 = .ok (.goto 16, 3) := by decide +kernel
theorem d_Ring_leftOf_11 : decode b_Ring_leftOf 11 = .ok (.iload_n 1, 1) := by decide +kernel
theorem d_Ring_leftOf_12 : decode b_Ring_leftOf 12 = .ok (.aload_n 0, 1) := by decide +kernel
theorem d_Ring_leftOf_13 : decode b_Ring_leftOf 13 = .ok (.getfield 18, 3) := by decide +kernel
theorem d_Ring_leftOf_16 : decode b_Ring_leftOf 16 = .ok (.iconst 1, 1) := by decide +kernel
theorem d_Ring_leftOf_17 : decode b_Ring_leftOf 17 = .ok (.iaload, 1) := by decide +kernel
theorem d_Ring_leftOf_18 : decode b_Ring_leftOf 18 = .ok (.iadd, 1) := by decide +kernel
theorem d_Ring_leftOf_19 : decode b_Ring_leftOf 19 = .ok (.aload_n 0, 1) := by decide +kernel
theorem d_Ring_leftOf_20 : decode b_Ring_leftOf 20 = .ok (.getfield 21, 3) := by decide +kernel
theorem d_Ring_leftOf_23 : decode b_Ring_leftOf 23 = .ok (.irem, 1) := by decide +kernel
theorem d_Ring_leftOf_24 : decode b_Ring_leftOf 24 = .ok (.ireturn, 1) := by decide +kernel
set_option maxHeartbeats 4000000 in
set_option maxRecDepth 100000 in
theorem c_Ring_leftOf {l : Launch} {D : va_G} {cI cJ cC : ClassId} (a_h a_h_kinds a_h_sweets a_h_settings a_h_heaps : Nat) {z_h : RS} {x1 : Int32} {q : Int32} (hf : f_Ring_leftOf z_h x1 = some q) : xI l y_Ring_leftOf b_Ring_leftOf 2 .int 0 0 D (tyK cI cJ cC) xE0 [.ref a_h, .int x1] (w_Ring_leftOf cI cJ cC a_h a_h_kinds a_h_sweets a_h_settings a_h_heaps (r_children z_h) (r_strokes z_h) (r_gave z_h) (r_threw z_h) (r_settings z_h)) q (w_Ring_leftOf cI cJ cC a_h a_h_kinds a_h_sweets a_h_settings a_h_heaps (r_children z_h) (r_strokes z_h) (r_gave z_h) (r_threw z_h) (r_settings z_h)) := by
  refine xI_of (by decide) (Nat.le_of_ble_eq_true rfl) ?_
  intro p e s m args below meth c A Q hx hb hml hown hT hA hP hD hK hS hE hret ls hl
  have hown : s.vm.findClass R_Ring = some m.cls := hown
  have hl : lv_has ls 2 [(0, .ref a_h), (1, .int x1)] := hl
  unfold f_Ring_leftOf at hf
  refine lv_aload_n hx hb d_Ring_leftOf_0 rfl (lv_at hl 0 rfl) ?_
  refine va_get hx hb hT i_Ring hown hK hP 0 rfl rfl 3 (Nat.le_of_ble_eq_true rfl) (hT _ k_38) (fun _ h => h) rfl d_Ring_leftOf_1 ?_
  refine lv_if_ne (tgt := 11) hx hb d_Ring_leftOf_4 (by decide) (fun c1 => ?_) (fun c1 => ?_)
  · have hf := io_f hf c1
    refine lv_iload_n hx hb d_Ring_leftOf_11 rfl (lv_at hl 1 rfl) ?_
    refine lv_aload_n hx hb d_Ring_leftOf_12 rfl (lv_at hl 0 rfl) ?_
    refine va_get hx hb hT i_Ring hown hK hP 0 rfl rfl 2 (Nat.le_of_ble_eq_true rfl) (hT _ k_35) (fun _ h => h) rfl d_Ring_leftOf_13 ?_
    refine lv_iconst (v := 1) hx hb d_Ring_leftOf_16 (by decide) ?_
    refine x_iald hx hb hK hP 1 0 rfl rfl (j := 1) (by decide +kernel) (by unfold vp_in; decide +kernel) d_Ring_leftOf_17 ?_
    refine lv_iadd hx hb d_Ring_leftOf_18 ?_
    refine lv_aload_n hx hb d_Ring_leftOf_19 rfl (lv_at hl 0 rfl) ?_
    refine va_get hx hb hT i_Ring hown hK hP 0 rfl rfl 3 (Nat.le_of_ble_eq_true rfl) (hT _ k_38) (fun _ h => h) rfl d_Ring_leftOf_20 ?_
    refine x_irem hx hb d_Ring_leftOf_23 c1 ?_
    have hq := Option.some.inj hf
    subst hq
    exact hret _ _ _ _ _ d_Ring_leftOf_24 rfl rfl hP hD hS
  · have hf := io_t hf c1
    refine lv_iconst (v := 0) hx hb d_Ring_leftOf_7 (by decide) ?_
    refine lv_goto (tgt := 24) hx hb d_Ring_leftOf_8 (by decide) ?_
    have hq := Option.some.inj hf
    subst hq
    exact hret _ _ _ _ _ d_Ring_leftOf_24 rfl rfl hP hD hS
abbrev w_Ring_gift (cI cJ cC : ClassId) (a_h a_h_kinds a_h_sweets a_h_settings a_h_heaps : Nat) (p_h_children : Int32) (p_h_strokes : Int32) (p_h_gave : Int32) (p_h_threw : Int32) (p_h_kinds : (Nat → Int32)) (p_h_sweets : (Nat → Int32)) (p_h_settings : (Nat → Int32)) : va_W := [(a_h, .inr (1, [.ref a_h_kinds, .ref a_h_sweets, .ref a_h_settings, .int p_h_children, .int p_h_strokes, .int p_h_gave, .int p_h_threw, .ref a_h_heaps])), (a_h_kinds, .inl (cI, (8, .inl p_h_kinds))), (a_h_sweets, .inl (cI, (8, .inl p_h_sweets))), (a_h_settings, .inl (cI, (3, .inl p_h_settings)))]
theorem d_Ring_gift_0 : decode b_Ring_gift 0 = .ok (.aload_n 0, 1) := by decide +kernel
theorem d_Ring_gift_1 : decode b_Ring_gift 1 = .ok (.iload_n 1, 1) := by decide +kernel
theorem d_Ring_gift_2 : decode b_Ring_gift 2 = .ok (.invokevirtual 47, 3) := by decide +kernel
theorem d_Ring_gift_5 : decode b_Ring_gift 5 = .ok (.istore_n 2, 1) := by decide +kernel
theorem d_Ring_gift_6 : decode b_Ring_gift 6 = .ok (.iload_n 2, 1) := by decide +kernel
theorem d_Ring_gift_7 : decode b_Ring_gift 7 = .ok (.iload_n 1, 1) := by decide +kernel
theorem d_Ring_gift_8 : decode b_Ring_gift 8 = .ok (.if_icmp .ne 5, 3) := by decide +kernel
theorem d_Ring_gift_11 : decode b_Ring_gift 11 = .ok (.iconst 0, 1) := by decide +kernel
theorem d_Ring_gift_12 : decode b_Ring_gift 12 = .ok (.ireturn, 1) := by decide +kernel
theorem d_Ring_gift_13 : decode b_Ring_gift 13 = .ok (.aload_n 0, 1) := by decide +kernel
theorem d_Ring_gift_14 : decode b_Ring_gift 14 = .ok (.getfield 15, 3) := by decide +kernel
theorem d_Ring_gift_17 : decode b_Ring_gift 17 = .ok (.iload_n 1, 1) := by decide +kernel
theorem d_Ring_gift_18 : decode b_Ring_gift 18 = .ok (.iaload, 1) := by decide +kernel
theorem d_Ring_gift_19 : decode b_Ring_gift 19 = .ok (.istore_n 3, 1) := by decide +kernel
theorem d_Ring_gift_20 : decode b_Ring_gift 20 = .ok (.aload_n 0, 1) := by decide +kernel
theorem d_Ring_gift_21 : decode b_Ring_gift 21 = .ok (.getfield 15, 3) := by decide +kernel
theorem d_Ring_gift_24 : decode b_Ring_gift 24 = .ok (.iload_n 2, 1) := by decide +kernel
theorem d_Ring_gift_25 : decode b_Ring_gift 25 = .ok (.iaload, 1) := by decide +kernel
theorem d_Ring_gift_26 : decode b_Ring_gift 26 = .ok (.istore 4, 2) := by decide +kernel
theorem d_Ring_gift_28 : decode b_Ring_gift 28 = .ok (.aload_n 0, 1) := by decide +kernel
theorem d_Ring_gift_29 : decode b_Ring_gift 29 = .ok (.getfield 9, 3) := by decide +kernel
theorem d_Ring_gift_32 : decode b_Ring_gift 32 = .ok (.iload_n 1, 1) := by decide +kernel
theorem d_Ring_gift_33 : decode b_Ring_gift 33 = .ok (.iaload, 1) := by decide +kernel
theorem d_Ring_gift_34 : decode b_Ring_gift 34 = .ok (.tableswitch 110 0 6 #[42, 46, 50, 64, 110, 78, 95], 42) := by decide +kernel
theorem d_Ring_gift_76 : decode b_Ring_gift 76 = .ok (.iload_n 3, 1) := by decide +kernel
theorem d_Ring_gift_77 : decode b_Ring_gift 77 = .ok (.iconst 2, 1) := by decide +kernel
theorem d_Ring_gift_78 : decode b_Ring_gift 78 = .ok (.idiv, 1) := by decide +kernel
theorem d_Ring_gift_79 : decode b_Ring_gift 79 = .ok (.ireturn, 1) := by decide +kernel
theorem d_Ring_gift_80 : decode b_Ring_gift 80 = .ok (.iload_n 3, 1) := by decide +kernel
theorem d_Ring_gift_81 : decode b_Ring_gift 81 = .ok (.iconst 4, 1) := by decide +kernel
theorem d_Ring_gift_82 : decode b_Ring_gift 82 = .ok (.idiv, 1) := by decide +kernel
theorem d_Ring_gift_83 : decode b_Ring_gift 83 = .ok (.ireturn, 1) := by decide +kernel
theorem d_Ring_gift_84 : decode b_Ring_gift 84 = .ok (.iload_n 3, 1) := by decide +kernel
theorem d_Ring_gift_85 : decode b_Ring_gift 85 = .ok (.iload 4, 2) := by decide +kernel
theorem d_Ring_gift_87 : decode b_Ring_gift 87 = .ok (.if_icmp .le 9, 3) := by decide +kernel
theorem d_Ring_gift_90 : decode b_Ring_gift 90 = .ok (.iload_n 3, 1) := by decide +kernel
theorem d_Ring_gift_91 : decode b_Ring_gift 91 = .ok (.iconst 2, 1) := by decide +kernel
theorem d_Ring_gift_92 : decode b_Ring_gift 92 = .ok (.idiv, 1) := by decide +kernel
theorem d_Ring_gift_93 : decode b_Ring_gift 93 = .ok (.goto 4, 3) := by decide +kernel
theorem d_Ring_gift_96 : decode b_Ring_gift 96 = .ok (.iconst 0, 1) := by decide +kernel
theorem d_Ring_gift_97 : decode b_Ring_gift 97 = .ok (.ireturn, 1) := by decide +kernel
theorem d_Ring_gift_98 : decode b_Ring_gift 98 = .ok (.iload_n 3, 1) := by decide +kernel
theorem d_Ring_gift_99 : decode b_Ring_gift 99 = .ok (.ifCond .le 11, 3) := by decide +kernel
theorem d_Ring_gift_102 : decode b_Ring_gift 102 = .ok (.iload_n 3, 1) := by decide +kernel
theorem d_Ring_gift_103 : decode b_Ring_gift 103 = .ok (.iconst 1, 1) := by decide +kernel
theorem d_Ring_gift_104 : decode b_Ring_gift 104 = .ok (.isub, 1) := by decide +kernel
theorem d_Ring_gift_105 : decode b_Ring_gift 105 = .ok (.iconst 2, 1) := by decide +kernel
theorem d_Ring_gift_106 : decode b_Ring_gift 106 = .ok (.idiv, 1) := by decide +kernel
theorem d_Ring_gift_107 : decode b_Ring_gift 107 = .ok (.goto 4, 3) := by decide +kernel
theorem d_Ring_gift_110 : decode b_Ring_gift 110 = .ok (.iconst 0, 1) := by decide +kernel
theorem d_Ring_gift_111 : decode b_Ring_gift 111 = .ok (.ireturn, 1) := by decide +kernel
theorem d_Ring_gift_112 : decode b_Ring_gift 112 = .ok (.iload_n 3, 1) := by decide +kernel
theorem d_Ring_gift_113 : decode b_Ring_gift 113 = .ok (.iload 4, 2) := by decide +kernel
theorem d_Ring_gift_115 : decode b_Ring_gift 115 = .ok (.if_icmp .le 12, 3) := by decide +kernel
theorem d_Ring_gift_118 : decode b_Ring_gift 118 = .ok (.iload_n 3, 1) := by decide +kernel
theorem d_Ring_gift_119 : decode b_Ring_gift 119 = .ok (.iload 4, 2) := by decide +kernel
theorem d_Ring_gift_121 : decode b_Ring_gift 121 = .ok (.isub, 1) := by decide +kernel
theorem d_Ring_gift_122 : decode b_Ring_gift 122 = .ok (.iconst 2, 1) := by decide +kernel
theorem d_Ring_gift_123 : decode b_Ring_gift 123 = .ok (.idiv, 1) := by decide +kernel
theorem d_Ring_gift_124 : decode b_Ring_gift 124 = .ok (.goto 4, 3) := by decide +kernel
theorem d_Ring_gift_127 : decode b_Ring_gift 127 = .ok (.iconst 0, 1) := by decide +kernel
theorem d_Ring_gift_128 : decode b_Ring_gift 128 = .ok (.ireturn, 1) := by decide +kernel
theorem d_Ring_gift_129 : decode b_Ring_gift 129 = .ok (.iload_n 3, 1) := by decide +kernel
theorem d_Ring_gift_130 : decode b_Ring_gift 130 = .ok (.iconst 4, 1) := by decide +kernel
theorem d_Ring_gift_131 : decode b_Ring_gift 131 = .ok (.if_icmp .lt 11, 3) := by decide +kernel
theorem d_Ring_gift_134 : decode b_Ring_gift 134 = .ok (.iload_n 3, 1) := by decide +kernel
theorem d_Ring_gift_135 : decode b_Ring_gift 135 = .ok (.iconst 1, 1) := by decide +kernel
theorem d_Ring_gift_136 : decode b_Ring_gift 136 = .ok (.isub, 1) := by decide +kernel
theorem d_Ring_gift_137 : decode b_Ring_gift 137 = .ok (.iconst 2, 1) := by decide +kernel
theorem d_Ring_gift_138 : decode b_Ring_gift 138 = .ok (.idiv, 1) := by decide +kernel
theorem d_Ring_gift_139 : decode b_Ring_gift 139 = .ok (.goto 4, 3) := by decide +kernel
theorem d_Ring_gift_142 : decode b_Ring_gift 142 = .ok (.iconst 0, 1) := by decide +kernel
theorem d_Ring_gift_143 : decode b_Ring_gift 143 = .ok (.ireturn, 1) := by decide +kernel
theorem d_Ring_gift_144 : decode b_Ring_gift 144 = .ok (.iconst 0, 1) := by decide +kernel
theorem d_Ring_gift_145 : decode b_Ring_gift 145 = .ok (.ireturn, 1) := by decide +kernel
set_option maxHeartbeats 4000000 in
set_option maxRecDepth 100000 in
theorem c_Ring_gift {l : Launch} {D : va_G} {cI cJ cC : ClassId} (a_h a_h_kinds a_h_sweets a_h_settings a_h_heaps : Nat) {z_h : RS} {x1 : Int32} {q : Int32} (hf : f_Ring_gift z_h x1 = some q) : xI l y_Ring_gift b_Ring_gift 5 .int 1 21 D (tyK cI cJ cC) xE0 [.ref a_h, .int x1] (w_Ring_gift cI cJ cC a_h a_h_kinds a_h_sweets a_h_settings a_h_heaps (r_children z_h) (r_strokes z_h) (r_gave z_h) (r_threw z_h) (r_kinds z_h) (r_sweets z_h) (r_settings z_h)) q (w_Ring_gift cI cJ cC a_h a_h_kinds a_h_sweets a_h_settings a_h_heaps (r_children z_h) (r_strokes z_h) (r_gave z_h) (r_threw z_h) (r_kinds z_h) (r_sweets z_h) (r_settings z_h)) := by
  refine xI_of (by decide) (Nat.le_of_ble_eq_true rfl) ?_
  intro p e s m args below meth c A Q hx hb hml hown hT hA hP hD hK hS hE hret ls hl
  have hown : s.vm.findClass R_Ring = some m.cls := hown
  have hl : lv_has ls 5 [(0, .ref a_h), (1, .int x1)] := hl
  unfold f_Ring_gift at hf
  refine lv_aload_n hx hb d_Ring_gift_0 rfl (lv_at hl 0 rfl) ?_
  refine lv_iload_n hx hb d_Ring_gift_1 rfl (lv_at hl 1 rfl) ?_
  obtain ⟨q1, hq1, hf⟩ := io_b hf
  refine xcVI (wc := (w_Ring_leftOf cI cJ cC a_h a_h_kinds a_h_sweets a_h_settings a_h_heaps (r_children z_h) (r_strokes z_h) (r_gave z_h) (r_threw z_h) (r_settings z_h))) (wc' := (w_Ring_leftOf cI cJ cC a_h a_h_kinds a_h_sweets a_h_settings a_h_heaps (r_children z_h) (r_strokes z_h) (r_gave z_h) (r_threw z_h) (r_settings z_h))) (ws' := (w_Ring_gift cI cJ cC a_h a_h_kinds a_h_sweets a_h_settings a_h_heaps (r_children z_h) (r_strokes z_h) (r_gave z_h) (r_threw z_h) (r_kinds z_h) (r_sweets z_h) (r_settings z_h))) (As := [.int x1]) (rest := []) hx hb hml hown hT (c_Ring_leftOf (z_h := z_h) a_h a_h_kinds a_h_sweets a_h_settings a_h_heaps hq1) k_206 k_207 k_208 k_2 k_209 hd_Ring_leftOf ⟨Nat.le_of_ble_eq_true rfl, Nat.le_of_ble_eq_true rfl⟩ xE0_ok trivial hA hK hP hD hS [0, 3] [1, 2] [2, 0, 1, 3] rfl rfl rfl rfl rfl rfl rfl rfl rfl rfl hl.1 rfl (Nat.le_of_ble_eq_true rfl) ⟨Nat.zero_le _, Nat.zero_le _⟩ d_Ring_gift_2 (fun H locs hP hD hS => ?_)
  refine lv_istore_n (lv' := [(2, .int q1), (0, .ref a_h), (1, .int x1)]) hx hb d_Ring_gift_5 rfl hl (by decide) rfl (fun ls hl => ?_)
  refine lv_iload_n hx hb d_Ring_gift_6 rfl (lv_at hl 0 rfl) ?_
  refine lv_iload_n hx hb d_Ring_gift_7 rfl (lv_at hl 2 rfl) ?_
  refine lv_icmp_ne (tgt := 13) hx hb d_Ring_gift_8 (by decide) (fun c2 => ?_) (fun c2 => ?_)
  · have hf := io_f hf c2
    refine lv_aload_n hx hb d_Ring_gift_13 rfl (lv_at hl 1 rfl) ?_
    refine va_get hx hb hT i_Ring hown hK hP 0 rfl rfl 1 (Nat.le_of_ble_eq_true rfl) (hT _ k_31) (fun _ h => h) rfl d_Ring_gift_14 ?_
    refine lv_iload_n hx hb d_Ring_gift_17 rfl (lv_at hl 2 rfl) ?_
    obtain ⟨c3, hf⟩ := io_n hf
    refine x_iald hx hb hK hP 2 0 rfl rfl (j := x1.toNatClampNeg) rfl c3 d_Ring_gift_18 ?_
    refine lv_istore_n (lv' := [(3, .int ((r_sweets z_h) x1.toNatClampNeg)), (2, .int q1), (0, .ref a_h), (1, .int x1)]) hx hb d_Ring_gift_19 rfl hl (by decide) rfl (fun ls hl => ?_)
    refine lv_aload_n hx hb d_Ring_gift_20 rfl (lv_at hl 2 rfl) ?_
    refine va_get hx hb hT i_Ring hown hK hP 0 rfl rfl 1 (Nat.le_of_ble_eq_true rfl) (hT _ k_31) (fun _ h => h) rfl d_Ring_gift_21 ?_
    refine lv_iload_n hx hb d_Ring_gift_24 rfl (lv_at hl 1 rfl) ?_
    obtain ⟨c4, hf⟩ := io_n hf
    refine x_iald hx hb hK hP 2 0 rfl rfl (j := q1.toNatClampNeg) rfl c4 d_Ring_gift_25 ?_
    refine lv_istore (lv' := [(4, .int ((r_sweets z_h) q1.toNatClampNeg)), (3, .int ((r_sweets z_h) x1.toNatClampNeg)), (2, .int q1), (0, .ref a_h), (1, .int x1)]) hx hb d_Ring_gift_26 hl (by decide) rfl (fun ls hl => ?_)
    refine lv_aload_n hx hb d_Ring_gift_28 rfl (lv_at hl 3 rfl) ?_
    refine va_get hx hb hT i_Ring hown hK hP 0 rfl rfl 0 (Nat.le_of_ble_eq_true rfl) (hT _ k_29) (fun _ h => h) rfl d_Ring_gift_29 ?_
    refine lv_iload_n hx hb d_Ring_gift_32 rfl (lv_at hl 4 rfl) ?_
    refine x_iald hx hb hK hP 1 0 rfl rfl (j := x1.toNatClampNeg) rfl c3 d_Ring_gift_33 ?_
    rcases Decidable.em (((r_kinds z_h) x1.toNatClampNeg) = 0) with c5 | c5
    · have hf := io_t hf c5
      refine lv_tableIn (off := 42) (tgt := 76) hx hb d_Ring_gift_34 (by rw [c5]; decide +kernel) (by rw [c5]; decide +kernel) (by rw [c5]; rfl) (by decide) ?_
      refine lv_iload_n hx hb d_Ring_gift_76 rfl (lv_at hl 1 rfl) ?_
      refine lv_iconst (v := 2) hx hb d_Ring_gift_77 (by decide) ?_
      refine x_idiv hx hb d_Ring_gift_78 (by decide) ?_
      have hq := Option.some.inj hf
      subst hq
      exact hret _ _ _ _ _ d_Ring_gift_79 rfl rfl hP hD hS
    · have hf := io_f hf c5
      rcases Decidable.em (((r_kinds z_h) x1.toNatClampNeg) = 1) with c6 | c6
      · have hf := io_t hf c6
        refine lv_tableIn (off := 46) (tgt := 80) hx hb d_Ring_gift_34 (by rw [c6]; decide +kernel) (by rw [c6]; decide +kernel) (by rw [c6]; rfl) (by decide) ?_
        refine lv_iload_n hx hb d_Ring_gift_80 rfl (lv_at hl 1 rfl) ?_
        refine lv_iconst (v := 4) hx hb d_Ring_gift_81 (by decide) ?_
        refine x_idiv hx hb d_Ring_gift_82 (by decide) ?_
        have hq := Option.some.inj hf
        subst hq
        exact hret _ _ _ _ _ d_Ring_gift_83 rfl rfl hP hD hS
      · have hf := io_f hf c6
        rcases Decidable.em (((r_kinds z_h) x1.toNatClampNeg) = 2) with c7 | c7
        · have hf := io_t hf c7
          refine lv_tableIn (off := 50) (tgt := 84) hx hb d_Ring_gift_34 (by rw [c7]; decide +kernel) (by rw [c7]; decide +kernel) (by rw [c7]; rfl) (by decide) ?_
          refine lv_iload_n hx hb d_Ring_gift_84 rfl (lv_at hl 1 rfl) ?_
          refine lv_iload hx hb d_Ring_gift_85 (lv_at hl 0 rfl) ?_
          refine lv_icmp_le (tgt := 96) hx hb d_Ring_gift_87 (by decide) (fun c8 => ?_) (fun c8 => ?_)
          · have hf := io_t hf c8
            refine lv_iconst (v := 0) hx hb d_Ring_gift_96 (by decide) ?_
            have hq := Option.some.inj hf
            subst hq
            exact hret _ _ _ _ _ d_Ring_gift_97 rfl rfl hP hD hS
          · have hf := io_f hf c8
            refine lv_iload_n hx hb d_Ring_gift_90 rfl (lv_at hl 1 rfl) ?_
            refine lv_iconst (v := 2) hx hb d_Ring_gift_91 (by decide) ?_
            refine x_idiv hx hb d_Ring_gift_92 (by decide) ?_
            refine lv_goto (tgt := 97) hx hb d_Ring_gift_93 (by decide) ?_
            have hq := Option.some.inj hf
            subst hq
            exact hret _ _ _ _ _ d_Ring_gift_97 rfl rfl hP hD hS
        · have hf := io_f hf c7
          rcases Decidable.em (((r_kinds z_h) x1.toNatClampNeg) = 3) with c9 | c9
          · have hf := io_t hf c9
            refine lv_tableIn (off := 64) (tgt := 98) hx hb d_Ring_gift_34 (by rw [c9]; decide +kernel) (by rw [c9]; decide +kernel) (by rw [c9]; rfl) (by decide) ?_
            refine lv_iload_n hx hb d_Ring_gift_98 rfl (lv_at hl 1 rfl) ?_
            refine lv_if_le (tgt := 110) hx hb d_Ring_gift_99 (by decide) (fun c10 => ?_) (fun c10 => ?_)
            · have hf := io_t hf c10
              refine lv_iconst (v := 0) hx hb d_Ring_gift_110 (by decide) ?_
              have hq := Option.some.inj hf
              subst hq
              exact hret _ _ _ _ _ d_Ring_gift_111 rfl rfl hP hD hS
            · have hf := io_f hf c10
              refine lv_iload_n hx hb d_Ring_gift_102 rfl (lv_at hl 1 rfl) ?_
              refine lv_iconst (v := 1) hx hb d_Ring_gift_103 (by decide) ?_
              refine lv_isub hx hb d_Ring_gift_104 ?_
              refine lv_iconst (v := 2) hx hb d_Ring_gift_105 (by decide) ?_
              refine x_idiv hx hb d_Ring_gift_106 (by decide) ?_
              refine lv_goto (tgt := 111) hx hb d_Ring_gift_107 (by decide) ?_
              have hq := Option.some.inj hf
              subst hq
              exact hret _ _ _ _ _ d_Ring_gift_111 rfl rfl hP hD hS
          · have hf := io_f hf c9
            rcases Decidable.em (((r_kinds z_h) x1.toNatClampNeg) = 4) with c11 | c11
            · have hf := io_t hf c11
              refine lv_tableIn (off := 110) (tgt := 144) hx hb d_Ring_gift_34 (by rw [c11]; decide +kernel) (by rw [c11]; decide +kernel) (by rw [c11]; rfl) (by decide) ?_
              refine lv_iconst (v := 0) hx hb d_Ring_gift_144 (by decide) ?_
              have hq := Option.some.inj hf
              subst hq
              exact hret _ _ _ _ _ d_Ring_gift_145 rfl rfl hP hD hS
            · have hf := io_f hf c11
              rcases Decidable.em (((r_kinds z_h) x1.toNatClampNeg) = 5) with c12 | c12
              · have hf := io_t hf c12
                refine lv_tableIn (off := 78) (tgt := 112) hx hb d_Ring_gift_34 (by rw [c12]; decide +kernel) (by rw [c12]; decide +kernel) (by rw [c12]; rfl) (by decide) ?_
                refine lv_iload_n hx hb d_Ring_gift_112 rfl (lv_at hl 1 rfl) ?_
                refine lv_iload hx hb d_Ring_gift_113 (lv_at hl 0 rfl) ?_
                refine lv_icmp_le (tgt := 127) hx hb d_Ring_gift_115 (by decide) (fun c13 => ?_) (fun c13 => ?_)
                · have hf := io_t hf c13
                  refine lv_iconst (v := 0) hx hb d_Ring_gift_127 (by decide) ?_
                  have hq := Option.some.inj hf
                  subst hq
                  exact hret _ _ _ _ _ d_Ring_gift_128 rfl rfl hP hD hS
                · have hf := io_f hf c13
                  refine lv_iload_n hx hb d_Ring_gift_118 rfl (lv_at hl 1 rfl) ?_
                  refine lv_iload hx hb d_Ring_gift_119 (lv_at hl 0 rfl) ?_
                  refine lv_isub hx hb d_Ring_gift_121 ?_
                  refine lv_iconst (v := 2) hx hb d_Ring_gift_122 (by decide) ?_
                  refine x_idiv hx hb d_Ring_gift_123 (by decide) ?_
                  refine lv_goto (tgt := 128) hx hb d_Ring_gift_124 (by decide) ?_
                  have hq := Option.some.inj hf
                  subst hq
                  exact hret _ _ _ _ _ d_Ring_gift_128 rfl rfl hP hD hS
              · have hf := io_f hf c12
                rcases Decidable.em (((r_kinds z_h) x1.toNatClampNeg) = 6) with c14 | c14
                · have hf := io_t hf c14
                  refine lv_tableIn (off := 95) (tgt := 129) hx hb d_Ring_gift_34 (by rw [c14]; decide +kernel) (by rw [c14]; decide +kernel) (by rw [c14]; rfl) (by decide) ?_
                  refine lv_iload_n hx hb d_Ring_gift_129 rfl (lv_at hl 1 rfl) ?_
                  refine lv_iconst (v := 4) hx hb d_Ring_gift_130 (by decide) ?_
                  refine lv_icmp_lt (tgt := 142) hx hb d_Ring_gift_131 (by decide) (fun c15 => ?_) (fun c15 => ?_)
                  · have hf := io_t hf c15
                    refine lv_iconst (v := 0) hx hb d_Ring_gift_142 (by decide) ?_
                    have hq := Option.some.inj hf
                    subst hq
                    exact hret _ _ _ _ _ d_Ring_gift_143 rfl rfl hP hD hS
                  · have hf := io_f hf c15
                    refine lv_iload_n hx hb d_Ring_gift_134 rfl (lv_at hl 1 rfl) ?_
                    refine lv_iconst (v := 1) hx hb d_Ring_gift_135 (by decide) ?_
                    refine lv_isub hx hb d_Ring_gift_136 ?_
                    refine lv_iconst (v := 2) hx hb d_Ring_gift_137 (by decide) ?_
                    refine x_idiv hx hb d_Ring_gift_138 (by decide) ?_
                    refine lv_goto (tgt := 143) hx hb d_Ring_gift_139 (by decide) ?_
                    have hq := Option.some.inj hf
                    subst hq
                    exact hret _ _ _ _ _ d_Ring_gift_143 rfl rfl hP hD hS
                · have hf := io_f hf c14
                  refine lv_tableOut (tgt := 144) hx hb d_Ring_gift_34 (by have e0 := lv_neT (a := 0) c5 (by decide +kernel); have e1 := lv_neT (a := 1) c6 (by decide +kernel); have e2 := lv_neT (a := 2) c7 (by decide +kernel); have e3 := lv_neT (a := 3) c9 (by decide +kernel); have e4 := lv_neT (a := 4) c11 (by decide +kernel); have e5 := lv_neT (a := 5) c12 (by decide +kernel); have e6 := lv_neT (a := 6) c14 (by decide +kernel); omega) (by decide) ?_
                  refine lv_iconst (v := 0) hx hb d_Ring_gift_144 (by decide) ?_
                  have hq := Option.some.inj hf
                  subst hq
                  exact hret _ _ _ _ _ d_Ring_gift_145 rfl rfl hP hD hS
  · have hf := io_t hf c2
    refine lv_iconst (v := 0) hx hb d_Ring_gift_11 (by decide) ?_
    have hq := Option.some.inj hf
    subst hq
    exact hret _ _ _ _ _ d_Ring_gift_12 rfl rfl hP hD hS
abbrev w_Ring_sides (cI cJ cC : ClassId) (a_h a_h_kinds a_h_sweets a_h_settings a_h_heaps : Nat) (p_h_children : Int32) (p_h_strokes : Int32) (p_h_gave : Int32) (p_h_threw : Int32) (p_h_kinds : (Nat → Int32)) (p_h_sweets : (Nat → Int32)) (p_h_settings : (Nat → Int32)) : va_W := [(a_h, .inr (1, [.ref a_h_kinds, .ref a_h_sweets, .ref a_h_settings, .int p_h_children, .int p_h_strokes, .int p_h_gave, .int p_h_threw, .ref a_h_heaps])), (a_h_kinds, .inl (cI, (8, .inl p_h_kinds))), (a_h_sweets, .inl (cI, (8, .inl p_h_sweets))), (a_h_settings, .inl (cI, (3, .inl p_h_settings)))]
theorem d_Ring_sides_0 : decode b_Ring_sides 0 = .ok (.aload_n 0, 1) := by decide +kernel
theorem d_Ring_sides_1 : decode b_Ring_sides 1 = .ok (.iload_n 1, 1) := by decide +kernel
theorem d_Ring_sides_2 : decode b_Ring_sides 2 = .ok (.invokevirtual 51, 3) := by decide +kernel
theorem d_Ring_sides_5 : decode b_Ring_sides 5 = .ok (.ifCond .ne 5, 3) := by decide +kernel
theorem d_Ring_sides_8 : decode b_Ring_sides 8 = .ok (.iconst 0, 1) := by decide +kernel
theorem d_Ring_sides_9 : decode b_Ring_sides 9 = .ok (.ireturn, 1) := by decide +kernel
theorem d_Ring_sides_10 : decode b_Ring_sides 10 = .ok (.aload_n 0, 1) := by decide +kernel
theorem d_Ring_sides_11 : decode b_Ring_sides 11 = .ok (.getfield 9, 3) := by decide +kernel
theorem d_Ring_sides_14 : decode b_Ring_sides 14 = .ok (.iload_n 1, 1) := by decide +kernel
theorem d_Ring_sides_15 : decode b_Ring_sides 15 = .ok (.iaload, 1) := by decide +kernel
theorem d_Ring_sides_16 : decode b_Ring_sides 16 = .ok (.iconst 1, 1) := by decide +kernel
theorem d_Ring_sides_17 : decode b_Ring_sides 17 = .ok (.if_icmp .ne 7, 3) := by decide +kernel
theorem d_Ring_sides_20 : decode b_Ring_sides 20 = .ok (.iconst 2, 1) := by decide +kernel
theorem d_Ring_sides_21 : decode b_Ring_sides 21 = .ok (.goto 4, 3) := by decide +kernel
theorem d_Ring_sides_24 : decode b_Ring_sides 24 = .ok (.iconst 1, 1) := by decide +kernel
theorem d_Ring_sides_25 : decode b_Ring_sides 25 = .ok (.ireturn, 1) := by decide +kernel
set_option maxHeartbeats 4000000 in
set_option maxRecDepth 100000 in
theorem c_Ring_sides {l : Launch} {D : va_G} {cI cJ cC : ClassId} (a_h a_h_kinds a_h_sweets a_h_settings a_h_heaps : Nat) {z_h : RS} {x1 : Int32} {q : Int32} (hf : f_Ring_sides z_h x1 = some q) : xI l y_Ring_sides b_Ring_sides 2 .int 2 45 D (tyK cI cJ cC) xE0 [.ref a_h, .int x1] (w_Ring_sides cI cJ cC a_h a_h_kinds a_h_sweets a_h_settings a_h_heaps (r_children z_h) (r_strokes z_h) (r_gave z_h) (r_threw z_h) (r_kinds z_h) (r_sweets z_h) (r_settings z_h)) q (w_Ring_sides cI cJ cC a_h a_h_kinds a_h_sweets a_h_settings a_h_heaps (r_children z_h) (r_strokes z_h) (r_gave z_h) (r_threw z_h) (r_kinds z_h) (r_sweets z_h) (r_settings z_h)) := by
  refine xI_of (by decide) (Nat.le_of_ble_eq_true rfl) ?_
  intro p e s m args below meth c A Q hx hb hml hown hT hA hP hD hK hS hE hret ls hl
  have hown : s.vm.findClass R_Ring = some m.cls := hown
  have hl : lv_has ls 2 [(0, .ref a_h), (1, .int x1)] := hl
  unfold f_Ring_sides at hf
  refine lv_aload_n hx hb d_Ring_sides_0 rfl (lv_at hl 0 rfl) ?_
  refine lv_iload_n hx hb d_Ring_sides_1 rfl (lv_at hl 1 rfl) ?_
  obtain ⟨q1, hq1, hf⟩ := io_b hf
  refine xcVI (wc := (w_Ring_gift cI cJ cC a_h a_h_kinds a_h_sweets a_h_settings a_h_heaps (r_children z_h) (r_strokes z_h) (r_gave z_h) (r_threw z_h) (r_kinds z_h) (r_sweets z_h) (r_settings z_h))) (wc' := (w_Ring_gift cI cJ cC a_h a_h_kinds a_h_sweets a_h_settings a_h_heaps (r_children z_h) (r_strokes z_h) (r_gave z_h) (r_threw z_h) (r_kinds z_h) (r_sweets z_h) (r_settings z_h))) (ws' := (w_Ring_sides cI cJ cC a_h a_h_kinds a_h_sweets a_h_settings a_h_heaps (r_children z_h) (r_strokes z_h) (r_gave z_h) (r_threw z_h) (r_kinds z_h) (r_sweets z_h) (r_settings z_h))) (As := [.int x1]) (rest := []) hx hb hml hown hT (c_Ring_gift (z_h := z_h) a_h a_h_kinds a_h_sweets a_h_settings a_h_heaps hq1) k_214 k_203 k_204 k_2 k_205 hd_Ring_gift ⟨Nat.le_of_ble_eq_true rfl, Nat.le_of_ble_eq_true rfl⟩ xE0_ok trivial hA hK hP hD hS [0, 1, 2, 3] [] [0, 1, 2, 3] rfl rfl rfl rfl rfl rfl rfl rfl rfl rfl hl.1 rfl (Nat.le_of_ble_eq_true rfl) ⟨Nat.zero_le _, Nat.zero_le _⟩ d_Ring_sides_2 (fun H locs hP hD hS => ?_)
  refine lv_if_ne (tgt := 10) hx hb d_Ring_sides_5 (by decide) (fun c2 => ?_) (fun c2 => ?_)
  · have hf := io_f hf c2
    refine lv_aload_n hx hb d_Ring_sides_10 rfl (lv_at hl 0 rfl) ?_
    refine va_get hx hb hT i_Ring hown hK hP 0 rfl rfl 0 (Nat.le_of_ble_eq_true rfl) (hT _ k_29) (fun _ h => h) rfl d_Ring_sides_11 ?_
    refine lv_iload_n hx hb d_Ring_sides_14 rfl (lv_at hl 1 rfl) ?_
    obtain ⟨c3, hf⟩ := io_n hf
    refine x_iald hx hb hK hP 1 0 rfl rfl (j := x1.toNatClampNeg) rfl c3 d_Ring_sides_15 ?_
    refine lv_iconst (v := 1) hx hb d_Ring_sides_16 (by decide) ?_
    refine lv_icmp_ne (tgt := 24) hx hb d_Ring_sides_17 (by decide) (fun c4 => ?_) (fun c4 => ?_)
    · have hf := io_f hf c4
      refine lv_iconst (v := 1) hx hb d_Ring_sides_24 (by decide) ?_
      have hq := Option.some.inj hf
      subst hq
      exact hret _ _ _ _ _ d_Ring_sides_25 rfl rfl hP hD hS
    · have hf := io_t hf c4
      refine lv_iconst (v := 2) hx hb d_Ring_sides_20 (by decide) ?_
      refine lv_goto (tgt := 25) hx hb d_Ring_sides_21 (by decide) ?_
      have hq := Option.some.inj hf
      subst hq
      exact hret _ _ _ _ _ d_Ring_sides_25 rfl rfl hP hD hS
  · have hf := io_t hf c2
    refine lv_iconst (v := 0) hx hb d_Ring_sides_8 (by decide) ?_
    have hq := Option.some.inj hf
    subst hq
    exact hret _ _ _ _ _ d_Ring_sides_9 rfl rfl hP hD hS
abbrev w_Ring_rightOf (cI cJ cC : ClassId) (a_h a_h_kinds a_h_sweets a_h_settings a_h_heaps : Nat) (p_h_children : Int32) (p_h_strokes : Int32) (p_h_gave : Int32) (p_h_threw : Int32) (p_h_settings : (Nat → Int32)) : va_W := [(a_h, .inr (1, [.ref a_h_kinds, .ref a_h_sweets, .ref a_h_settings, .int p_h_children, .int p_h_strokes, .int p_h_gave, .int p_h_threw, .ref a_h_heaps])), (a_h_settings, .inl (cI, (3, .inl p_h_settings)))]
theorem d_Ring_rightOf_0 : decode b_Ring_rightOf 0 = .ok (.aload_n 0, 1) := by decide +kernel
theorem d_Ring_rightOf_1 : decode b_Ring_rightOf 1 = .ok (.getfield 21, 3) := by decide +kernel
theorem d_Ring_rightOf_4 : decode b_Ring_rightOf 4 = .ok (.ifCond .ne 7, 3) := by decide +kernel
theorem d_Ring_rightOf_7 : decode b_Ring_rightOf 7 = .ok (.iconst 0, 1) := by decide +kernel
theorem d_Ring_rightOf_8 : decode b_Ring_rightOf 8 = .ok (.goto 23, 3) := by decide +kernel
theorem d_Ring_rightOf_11 : decode b_Ring_rightOf 11 = .ok (.iload_n 1, 1) := by decide +kernel
theorem d_Ring_rightOf_12 : decode b_Ring_rightOf 12 = .ok (.iconst 3, 1) := by decide +kernel
theorem d_Ring_rightOf_13 : decode b_Ring_rightOf 13 = .ok (.aload_n 0, 1) := by decide +kernel
theorem d_Ring_rightOf_14 : decode b_Ring_rightOf 14 = .ok (.getfield 21, 3) := by decide +kernel
theorem d_Ring_rightOf_17 : decode b_Ring_rightOf 17 = .ok (.imul, 1) := by decide +kernel
theorem d_Ring_rightOf_18 : decode b_Ring_rightOf 18 = .ok (.iadd, 1) := by decide +kernel
theorem d_Ring_rightOf_19 : decode b_Ring_rightOf 19 = .ok (.aload_n 0, 1) := by decide +kernel
theorem d_Ring_rightOf_20 : decode b_Ring_rightOf 20 = .ok (.getfield 18, 3) := by decide +kernel
theorem d_Ring_rightOf_23 : decode b_Ring_rightOf 23 = .ok (.iconst 1, 1) := by decide +kernel
theorem d_Ring_rightOf_24 : decode b_Ring_rightOf 24 = .ok (.iaload, 1) := by decide +kernel
theorem d_Ring_rightOf_25 : decode b_Ring_rightOf 25 = .ok (.isub, 1) := by decide +kernel
theorem d_Ring_rightOf_26 : decode b_Ring_rightOf 26 = .ok (.aload_n 0, 1) := by decide +kernel
theorem d_Ring_rightOf_27 : decode b_Ring_rightOf 27 = .ok (.getfield 21, 3) := by decide +kernel
theorem d_Ring_rightOf_30 : decode b_Ring_rightOf 30 = .ok (.irem, 1) := by decide +kernel
theorem d_Ring_rightOf_31 : decode b_Ring_rightOf 31 = .ok (.ireturn, 1) := by decide +kernel
set_option maxHeartbeats 4000000 in
set_option maxRecDepth 100000 in
theorem c_Ring_rightOf {l : Launch} {D : va_G} {cI cJ cC : ClassId} (a_h a_h_kinds a_h_sweets a_h_settings a_h_heaps : Nat) {z_h : RS} {x1 : Int32} {q : Int32} (hf : f_Ring_rightOf z_h x1 = some q) : xI l y_Ring_rightOf b_Ring_rightOf 2 .int 0 0 D (tyK cI cJ cC) xE0 [.ref a_h, .int x1] (w_Ring_rightOf cI cJ cC a_h a_h_kinds a_h_sweets a_h_settings a_h_heaps (r_children z_h) (r_strokes z_h) (r_gave z_h) (r_threw z_h) (r_settings z_h)) q (w_Ring_rightOf cI cJ cC a_h a_h_kinds a_h_sweets a_h_settings a_h_heaps (r_children z_h) (r_strokes z_h) (r_gave z_h) (r_threw z_h) (r_settings z_h)) := by
  refine xI_of (by decide) (Nat.le_of_ble_eq_true rfl) ?_
  intro p e s m args below meth c A Q hx hb hml hown hT hA hP hD hK hS hE hret ls hl
  have hown : s.vm.findClass R_Ring = some m.cls := hown
  have hl : lv_has ls 2 [(0, .ref a_h), (1, .int x1)] := hl
  unfold f_Ring_rightOf at hf
  refine lv_aload_n hx hb d_Ring_rightOf_0 rfl (lv_at hl 0 rfl) ?_
  refine va_get hx hb hT i_Ring hown hK hP 0 rfl rfl 3 (Nat.le_of_ble_eq_true rfl) (hT _ k_38) (fun _ h => h) rfl d_Ring_rightOf_1 ?_
  refine lv_if_ne (tgt := 11) hx hb d_Ring_rightOf_4 (by decide) (fun c1 => ?_) (fun c1 => ?_)
  · have hf := io_f hf c1
    refine lv_iload_n hx hb d_Ring_rightOf_11 rfl (lv_at hl 1 rfl) ?_
    refine lv_iconst (v := 3) hx hb d_Ring_rightOf_12 (by decide) ?_
    refine lv_aload_n hx hb d_Ring_rightOf_13 rfl (lv_at hl 0 rfl) ?_
    refine va_get hx hb hT i_Ring hown hK hP 0 rfl rfl 3 (Nat.le_of_ble_eq_true rfl) (hT _ k_38) (fun _ h => h) rfl d_Ring_rightOf_14 ?_
    refine lv_imul hx hb d_Ring_rightOf_17 ?_
    refine lv_iadd hx hb d_Ring_rightOf_18 ?_
    refine lv_aload_n hx hb d_Ring_rightOf_19 rfl (lv_at hl 0 rfl) ?_
    refine va_get hx hb hT i_Ring hown hK hP 0 rfl rfl 2 (Nat.le_of_ble_eq_true rfl) (hT _ k_35) (fun _ h => h) rfl d_Ring_rightOf_20 ?_
    refine lv_iconst (v := 1) hx hb d_Ring_rightOf_23 (by decide) ?_
    refine x_iald hx hb hK hP 1 0 rfl rfl (j := 1) (by decide +kernel) (by unfold vp_in; decide +kernel) d_Ring_rightOf_24 ?_
    refine lv_isub hx hb d_Ring_rightOf_25 ?_
    refine lv_aload_n hx hb d_Ring_rightOf_26 rfl (lv_at hl 0 rfl) ?_
    refine va_get hx hb hT i_Ring hown hK hP 0 rfl rfl 3 (Nat.le_of_ble_eq_true rfl) (hT _ k_38) (fun _ h => h) rfl d_Ring_rightOf_27 ?_
    refine x_irem hx hb d_Ring_rightOf_30 c1 ?_
    have hq := Option.some.inj hf
    subst hq
    exact hret _ _ _ _ _ d_Ring_rightOf_31 rfl rfl hP hD hS
  · have hf := io_t hf c1
    refine lv_iconst (v := 0) hx hb d_Ring_rightOf_7 (by decide) ?_
    refine lv_goto (tgt := 31) hx hb d_Ring_rightOf_8 (by decide) ?_
    have hq := Option.some.inj hf
    subst hq
    exact hret _ _ _ _ _ d_Ring_rightOf_31 rfl rfl hP hD hS
abbrev w_Ring_handOn (cI cJ cC : ClassId) (a_h a_h_kinds a_h_sweets a_h_settings a_h_heaps : Nat) (p_h_children : Int32) (p_h_strokes : Int32) (p_h_gave : Int32) (p_h_threw : Int32) (p_h_kinds : (Nat → Int32)) (p_h_sweets : (Nat → Int32)) (p_h_settings : (Nat → Int32)) (p_h_heaps : (Nat → Int32)) : va_W := [(a_h, .inr (1, [.ref a_h_kinds, .ref a_h_sweets, .ref a_h_settings, .int p_h_children, .int p_h_strokes, .int p_h_gave, .int p_h_threw, .ref a_h_heaps])), (a_h_kinds, .inl (cI, (8, .inl p_h_kinds))), (a_h_sweets, .inl (cI, (8, .inl p_h_sweets))), (a_h_settings, .inl (cI, (3, .inl p_h_settings))), (a_h_heaps, .inl (cI, (8, .inl p_h_heaps)))]
theorem d_Ring_handOn_0 : decode b_Ring_handOn 0 = .ok (.aload_n 0, 1) := by decide +kernel
theorem d_Ring_handOn_1 : decode b_Ring_handOn 1 = .ok (.getfield 15, 3) := by decide +kernel
theorem d_Ring_handOn_4 : decode b_Ring_handOn 4 = .ok (.iconst 0, 1) := by decide +kernel
theorem d_Ring_handOn_5 : decode b_Ring_handOn 5 = .ok (.aload_n 0, 1) := by decide +kernel
theorem d_Ring_handOn_6 : decode b_Ring_handOn 6 = .ok (.getfield 34, 3) := by decide +kernel
theorem d_Ring_handOn_9 : decode b_Ring_handOn 9 = .ok (.iconst 0, 1) := by decide +kernel
theorem d_Ring_handOn_10 : decode b_Ring_handOn 10 = .ok (.bipush 8, 2) := by decide +kernel
theorem d_Ring_handOn_12 : decode b_Ring_handOn 12 = .ok (.invokestatic 37, 3) := by decide +kernel
theorem d_Ring_handOn_15 : decode b_Ring_handOn 15 = .ok (.iconst 0, 1) := by decide +kernel
theorem d_Ring_handOn_16 : decode b_Ring_handOn 16 = .ok (.istore_n 1, 1) := by decide +kernel
theorem d_Ring_handOn_17 : decode b_Ring_handOn 17 = .ok (.iload_n 1, 1) := by decide +kernel
theorem d_Ring_handOn_18 : decode b_Ring_handOn 18 = .ok (.aload_n 0, 1) := by decide +kernel
theorem d_Ring_handOn_19 : decode b_Ring_handOn 19 = .ok (.getfield 21, 3) := by decide +kernel
theorem d_Ring_handOn_22 : decode b_Ring_handOn 22 = .ok (.if_icmp .ge 73, 3) := by decide +kernel
theorem d_Ring_handOn_25 : decode b_Ring_handOn 25 = .ok (.aload_n 0, 1) := by decide +kernel
theorem d_Ring_handOn_26 : decode b_Ring_handOn 26 = .ok (.iload_n 1, 1) := by decide +kernel
theorem d_Ring_handOn_27 : decode b_Ring_handOn 27 = .ok (.invokevirtual 51, 3) := by decide +kernel
theorem d_Ring_handOn_30 : decode b_Ring_handOn 30 = .ok (.istore_n 2, 1) := by decide +kernel
theorem d_Ring_handOn_31 : decode b_Ring_handOn 31 = .ok (.aload_n 0, 1) := by decide +kernel
theorem d_Ring_handOn_32 : decode b_Ring_handOn 32 = .ok (.getfield 34, 3) := by decide +kernel
theorem d_Ring_handOn_35 : decode b_Ring_handOn 35 = .ok (.iload_n 1, 1) := by decide +kernel
theorem d_Ring_handOn_36 : decode b_Ring_handOn 36 = .ok (.dup2, 1) := by decide +kernel
theorem d_Ring_handOn_37 : decode b_Ring_handOn 37 = .ok (.iaload, 1) := by decide +kernel
theorem d_Ring_handOn_38 : decode b_Ring_handOn 38 = .ok (.iload_n 2, 1) := by decide +kernel
theorem d_Ring_handOn_39 : decode b_Ring_handOn 39 = .ok (.isub, 1) := by decide +kernel
theorem d_Ring_handOn_40 : decode b_Ring_handOn 40 = .ok (.iastore, 1) := by decide +kernel
theorem d_Ring_handOn_41 : decode b_Ring_handOn 41 = .ok (.aload_n 0, 1) := by decide +kernel
theorem d_Ring_handOn_42 : decode b_Ring_handOn 42 = .ok (.getfield 34, 3) := by decide +kernel
theorem d_Ring_handOn_45 : decode b_Ring_handOn 45 = .ok (.aload_n 0, 1) := by decide +kernel
theorem d_Ring_handOn_46 : decode b_Ring_handOn 46 = .ok (.iload_n 1, 1) := by decide +kernel
theorem d_Ring_handOn_47 : decode b_Ring_handOn 47 = .ok (.invokevirtual 47, 3) := by decide +kernel
theorem d_Ring_handOn_50 : decode b_Ring_handOn 50 = .ok (.dup2, 1) := by decide +kernel
theorem d_Ring_handOn_51 : decode b_Ring_handOn 51 = .ok (.iaload, 1) := by decide +kernel
theorem d_Ring_handOn_52 : decode b_Ring_handOn 52 = .ok (.iload_n 2, 1) := by decide +kernel
theorem d_Ring_handOn_53 : decode b_Ring_handOn 53 = .ok (.iadd, 1) := by decide +kernel
theorem d_Ring_handOn_54 : decode b_Ring_handOn 54 = .ok (.iastore, 1) := by decide +kernel
theorem d_Ring_handOn_55 : decode b_Ring_handOn 55 = .ok (.aload_n 0, 1) := by decide +kernel
theorem d_Ring_handOn_56 : decode b_Ring_handOn 56 = .ok (.getfield 9, 3) := by decide +kernel
theorem d_Ring_handOn_59 : decode b_Ring_handOn 59 = .ok (.iload_n 1, 1) := by decide +kernel
theorem d_Ring_handOn_60 : decode b_Ring_handOn 60 = .ok (.iaload, 1) := by decide +kernel
theorem d_Ring_handOn_61 : decode b_Ring_handOn 61 = .ok (.iconst 1, 1) := by decide +kernel
theorem d_Ring_handOn_62 : decode b_Ring_handOn 62 = .ok (.if_icmp .ne 27, 3) := by decide +kernel
theorem d_Ring_handOn_65 : decode b_Ring_handOn 65 = .ok (.aload_n 0, 1) := by decide +kernel
theorem d_Ring_handOn_66 : decode b_Ring_handOn 66 = .ok (.getfield 34, 3) := by decide +kernel
theorem d_Ring_handOn_69 : decode b_Ring_handOn 69 = .ok (.iload_n 1, 1) := by decide +kernel
theorem d_Ring_handOn_70 : decode b_Ring_handOn 70 = .ok (.dup2, 1) := by decide +kernel
theorem d_Ring_handOn_71 : decode b_Ring_handOn 71 = .ok (.iaload, 1) := by decide +kernel
theorem d_Ring_handOn_72 : decode b_Ring_handOn 72 = .ok (.iload_n 2, 1) := by decide +kernel
theorem d_Ring_handOn_73 : decode b_Ring_handOn 73 = .ok (.isub, 1) := by decide +kernel
theorem d_Ring_handOn_74 : decode b_Ring_handOn 74 = .ok (.iastore, 1) := by decide +kernel
theorem d_Ring_handOn_75 : decode b_Ring_handOn 75 = .ok (.aload_n 0, 1) := by decide +kernel
theorem d_Ring_handOn_76 : decode b_Ring_handOn 76 = .ok (.getfield 34, 3) := by decide +kernel
theorem d_Ring_handOn_79 : decode b_Ring_handOn 79 = .ok (.aload_n 0, 1) := by decide +kernel
theorem d_Ring_handOn_80 : decode b_Ring_handOn 80 = .ok (.iload_n 1, 1) := by decide +kernel
theorem d_Ring_handOn_81 : decode b_Ring_handOn 81 = .ok (.invokevirtual 54, 3) := by decide +kernel
theorem d_Ring_handOn_84 : decode b_Ring_handOn 84 = .ok (.dup2, 1) := by decide +kernel
theorem d_Ring_handOn_85 : decode b_Ring_handOn 85 = .ok (.iaload, 1) := by decide +kernel
theorem d_Ring_handOn_86 : decode b_Ring_handOn 86 = .ok (.iload_n 2, 1) := by decide +kernel
theorem d_Ring_handOn_87 : decode b_Ring_handOn 87 = .ok (.iadd, 1) := by decide +kernel
theorem d_Ring_handOn_88 : decode b_Ring_handOn 88 = .ok (.iastore, 1) := by decide +kernel
theorem d_Ring_handOn_89 : decode b_Ring_handOn 89 = .ok (.iinc 1 1, 3) := by decide +kernel
theorem d_Ring_handOn_92 : decode b_Ring_handOn 92 = .ok (.goto (-75), 3) := by decide +kernel
theorem d_Ring_handOn_95 : decode b_Ring_handOn 95 = .ok (.iconst 0, 1) := by decide +kernel
theorem d_Ring_handOn_96 : decode b_Ring_handOn 96 = .ok (.istore_n 1, 1) := by decide +kernel
theorem d_Ring_handOn_97 : decode b_Ring_handOn 97 = .ok (.iload_n 1, 1) := by decide +kernel
theorem d_Ring_handOn_98 : decode b_Ring_handOn 98 = .ok (.aload_n 0, 1) := by decide +kernel
theorem d_Ring_handOn_99 : decode b_Ring_handOn 99 = .ok (.getfield 21, 3) := by decide +kernel
theorem d_Ring_handOn_102 : decode b_Ring_handOn 102 = .ok (.if_icmp .ge 27, 3) := by decide +kernel
theorem d_Ring_handOn_105 : decode b_Ring_handOn 105 = .ok (.aload_n 0, 1) := by decide +kernel
theorem d_Ring_handOn_106 : decode b_Ring_handOn 106 = .ok (.getfield 15, 3) := by decide +kernel
theorem d_Ring_handOn_109 : decode b_Ring_handOn 109 = .ok (.iload_n 1, 1) := by decide +kernel
theorem d_Ring_handOn_110 : decode b_Ring_handOn 110 = .ok (.aload_n 0, 1) := by decide +kernel
theorem d_Ring_handOn_111 : decode b_Ring_handOn 111 = .ok (.getfield 34, 3) := by decide +kernel
theorem d_Ring_handOn_114 : decode b_Ring_handOn 114 = .ok (.iload_n 1, 1) := by decide +kernel
theorem d_Ring_handOn_115 : decode b_Ring_handOn 115 = .ok (.iaload, 1) := by decide +kernel
theorem d_Ring_handOn_116 : decode b_Ring_handOn 116 = .ok (.sipush 999, 3) := by decide +kernel
theorem d_Ring_handOn_119 : decode b_Ring_handOn 119 = .ok (.invokestatic 68, 3) := by decide +kernel
theorem d_Ring_handOn_122 : decode b_Ring_handOn 122 = .ok (.iastore, 1) := by decide +kernel
theorem d_Ring_handOn_123 : decode b_Ring_handOn 123 = .ok (.iinc 1 1, 3) := by decide +kernel
theorem d_Ring_handOn_126 : decode b_Ring_handOn 126 = .ok (.goto (-29), 3) := by decide +kernel
theorem d_Ring_handOn_129 : decode b_Ring_handOn 129 = .ok (.return_, 1) := by decide +kernel
set_option maxHeartbeats 4000000 in
set_option maxRecDepth 100000 in
theorem c_Ring_handOn {l : Launch} {D : va_G} {cI cJ cC : ClassId} (a_h a_h_kinds a_h_sweets a_h_settings a_h_heaps : Nat) {z_h : RS} {q : RS} (hf : f_Ring_handOn z_h = some q) : xV l y_Ring_handOn b_Ring_handOn 3 2 45 D (tyK cI cJ cC) xE0 [.ref a_h] (w_Ring_handOn cI cJ cC a_h a_h_kinds a_h_sweets a_h_settings a_h_heaps (r_children z_h) (r_strokes z_h) (r_gave z_h) (r_threw z_h) (r_kinds z_h) (r_sweets z_h) (r_settings z_h) (r_heaps z_h)) (w_Ring_handOn cI cJ cC a_h a_h_kinds a_h_sweets a_h_settings a_h_heaps (r_children q) (r_strokes q) (r_gave q) (r_threw q) (r_kinds q) (r_sweets q) (r_settings q) (r_heaps q)) := by
  refine xV_of (by decide) (Nat.le_of_ble_eq_true rfl) ?_
  intro p e s m args below meth c A Q hx hb hml hown hT hA hP hD hK hS hE hret ls hl
  have hown : s.vm.findClass R_Ring = some m.cls := hown
  have hl : lv_has ls 3 [(0, .ref a_h)] := hl
  unfold f_Ring_handOn at hf
  have L17 : ∀ k : RS → Option (RS), (∀ (z_h : RS) (H : Heap) (locs : List Loc) (ls : Array Slot), k z_h = some q → va_P D classes (w_Ring_handOn cI cJ cC a_h a_h_kinds a_h_sweets a_h_settings a_h_heaps (r_children z_h) (r_strokes z_h) (r_gave z_h) (r_threw z_h) (r_kinds z_h) (r_sweets z_h) (r_settings z_h) (r_heaps z_h)) H → va_D A (w_Ring_handOn cI cJ cC a_h a_h_kinds a_h_sweets a_h_settings a_h_heaps (r_children z_h) (r_strokes z_h) (r_gave z_h) (r_threw z_h) (r_kinds z_h) (r_sweets z_h) (r_settings z_h) (r_heaps z_h)) → va_S A s.heap H locs → lv_has ls 3 [(0, .ref a_h)] → W p l e (xRm 2 45) s m args below meth c H locs 0 0 Q (F0 m 95 ls [])) → ∀ (n : Nat) (z_h : RS) (x1 : Int32) (H : Heap) (locs : List Loc) (ls : Array Slot), f_Ring_handOn_L17 k n z_h x1 = some q → va_P D classes (w_Ring_handOn cI cJ cC a_h a_h_kinds a_h_sweets a_h_settings a_h_heaps (r_children z_h) (r_strokes z_h) (r_gave z_h) (r_threw z_h) (r_kinds z_h) (r_sweets z_h) (r_settings z_h) (r_heaps z_h)) H → va_D A (w_Ring_handOn cI cJ cC a_h a_h_kinds a_h_sweets a_h_settings a_h_heaps (r_children z_h) (r_strokes z_h) (r_gave z_h) (r_threw z_h) (r_kinds z_h) (r_sweets z_h) (r_settings z_h) (r_heaps z_h)) → va_S A s.heap H locs → lv_has ls 3 [(0, .ref a_h), (1, .int x1)] → W p l e (xRm 2 45) s m args below meth c H locs 0 0 Q (F0 m 17 ls []) := by
    intro k hk n
    induction n with
    | zero => intro z_h x1 H locs ls hf hP hD hS hl; exact nomatch (show (none : Option (RS)) = some q from hf)
    | succ n ih =>
      intro z_h x1 H locs ls hf hP hD hS hl
      refine lv_iload_n hx hb d_Ring_handOn_17 rfl (lv_at hl 1 rfl) ?_
      refine lv_aload_n hx hb d_Ring_handOn_18 rfl (lv_at hl 0 rfl) ?_
      refine va_get hx hb hT i_Ring hown hK hP 0 rfl rfl 3 (Nat.le_of_ble_eq_true rfl) (hT _ k_38) (fun _ h => h) rfl d_Ring_handOn_19 ?_
      refine lv_icmp_ge (tgt := 95) hx hb d_Ring_handOn_22 (by decide) (fun c1 => ?_) (fun c1 => ?_)
      · have hf := io_t hf c1
        exact hk z_h _ _ _ hf hP hD hS (lv_sub hl [0] rfl)
      · have hf := io_f hf c1
        refine lv_aload_n hx hb d_Ring_handOn_25 rfl (lv_at hl 0 rfl) ?_
        refine lv_iload_n hx hb d_Ring_handOn_26 rfl (lv_at hl 1 rfl) ?_
        obtain ⟨q2, hq2, hf⟩ := io_b hf
        refine xcVI (wc := (w_Ring_gift cI cJ cC a_h a_h_kinds a_h_sweets a_h_settings a_h_heaps (r_children z_h) (r_strokes z_h) (r_gave z_h) (r_threw z_h) (r_kinds z_h) (r_sweets z_h) (r_settings z_h))) (wc' := (w_Ring_gift cI cJ cC a_h a_h_kinds a_h_sweets a_h_settings a_h_heaps (r_children z_h) (r_strokes z_h) (r_gave z_h) (r_threw z_h) (r_kinds z_h) (r_sweets z_h) (r_settings z_h))) (ws' := (w_Ring_handOn cI cJ cC a_h a_h_kinds a_h_sweets a_h_settings a_h_heaps (r_children z_h) (r_strokes z_h) (r_gave z_h) (r_threw z_h) (r_kinds z_h) (r_sweets z_h) (r_settings z_h) (r_heaps z_h))) (As := [.int x1]) (rest := []) hx hb hml hown hT (c_Ring_gift (z_h := z_h) a_h a_h_kinds a_h_sweets a_h_settings a_h_heaps hq2) k_214 k_203 k_204 k_2 k_205 hd_Ring_gift ⟨Nat.le_of_ble_eq_true rfl, Nat.le_of_ble_eq_true rfl⟩ xE0_ok trivial hA hK hP hD hS [0, 1, 2, 3] [4] [1, 2, 3, 4, 0] rfl rfl rfl rfl rfl rfl rfl rfl rfl rfl hl.1 rfl (Nat.le_of_ble_eq_true rfl) ⟨Nat.zero_le _, Nat.zero_le _⟩ d_Ring_handOn_27 (fun H locs hP hD hS => ?_)
        refine lv_istore_n (lv' := [(2, .int q2), (0, .ref a_h), (1, .int x1)]) hx hb d_Ring_handOn_30 rfl hl (by decide) rfl (fun ls hl => ?_)
        refine lv_aload_n hx hb d_Ring_handOn_31 rfl (lv_at hl 1 rfl) ?_
        refine va_get hx hb hT i_Ring hown hK hP 0 rfl rfl 7 (Nat.le_of_ble_eq_true rfl) (hT _ k_49) (fun _ h => h) rfl d_Ring_handOn_32 ?_
        refine lv_iload_n hx hb d_Ring_handOn_35 rfl (lv_at hl 2 rfl) ?_
        refine lv_dup2_11 hx hb d_Ring_handOn_36 rfl rfl ?_
        obtain ⟨c3, hf⟩ := io_n hf
        refine x_iald hx hb hK hP 4 0 rfl rfl (j := x1.toNatClampNeg) rfl c3 d_Ring_handOn_37 ?_
        refine lv_iload_n hx hb d_Ring_handOn_38 rfl (lv_at hl 0 rfl) ?_
        refine lv_isub hx hb d_Ring_handOn_39 ?_
        refine x_iast hx hb hK hP hD hS 4 0 rfl rfl (j := x1.toNatClampNeg) rfl c3 d_Ring_handOn_40 (fun H locs hP hD hS => ?_)
        have hP : va_P D classes (w_Ring_handOn cI cJ cC a_h a_h_kinds a_h_sweets a_h_settings a_h_heaps (r_children z_h) (r_strokes z_h) (r_gave z_h) (r_threw z_h) (r_kinds z_h) (r_sweets z_h) (r_settings z_h) (upd (r_heaps z_h) x1.toNatClampNeg (((r_heaps z_h) x1.toNatClampNeg) - q2))) H := hP
        have hD : va_D A (w_Ring_handOn cI cJ cC a_h a_h_kinds a_h_sweets a_h_settings a_h_heaps (r_children z_h) (r_strokes z_h) (r_gave z_h) (r_threw z_h) (r_kinds z_h) (r_sweets z_h) (r_settings z_h) (upd (r_heaps z_h) x1.toNatClampNeg (((r_heaps z_h) x1.toNatClampNeg) - q2))) := hD
        refine lv_aload_n hx hb d_Ring_handOn_41 rfl (lv_at hl 1 rfl) ?_
        refine va_get hx hb hT i_Ring hown hK hP 0 rfl rfl 7 (Nat.le_of_ble_eq_true rfl) (hT _ k_49) (fun _ h => h) rfl d_Ring_handOn_42 ?_
        refine lv_aload_n hx hb d_Ring_handOn_45 rfl (lv_at hl 1 rfl) ?_
        refine lv_iload_n hx hb d_Ring_handOn_46 rfl (lv_at hl 2 rfl) ?_
        obtain ⟨q4, hq4, hf⟩ := io_b hf
        refine xcVI (wc := (w_Ring_leftOf cI cJ cC a_h a_h_kinds a_h_sweets a_h_settings a_h_heaps (r_children z_h) (r_strokes z_h) (r_gave z_h) (r_threw z_h) (r_settings z_h))) (wc' := (w_Ring_leftOf cI cJ cC a_h a_h_kinds a_h_sweets a_h_settings a_h_heaps (r_children z_h) (r_strokes z_h) (r_gave z_h) (r_threw z_h) (r_settings z_h))) (ws' := (w_Ring_handOn cI cJ cC a_h a_h_kinds a_h_sweets a_h_settings a_h_heaps (r_children z_h) (r_strokes z_h) (r_gave z_h) (r_threw z_h) (r_kinds z_h) (r_sweets z_h) (r_settings z_h) (upd (r_heaps z_h) x1.toNatClampNeg (((r_heaps z_h) x1.toNatClampNeg) - q2)))) (As := [.int x1]) (rest := [.ref a_h_heaps]) hx hb hml hown hT (c_Ring_leftOf (z_h := ((r_kinds z_h), (r_sweets z_h), (r_settings z_h), (upd (r_heaps z_h) x1.toNatClampNeg (((r_heaps z_h) x1.toNatClampNeg) - q2)), (r_children z_h), (r_strokes z_h), (r_gave z_h), (r_threw z_h))) a_h a_h_kinds a_h_sweets a_h_settings a_h_heaps hq4) k_206 k_207 k_208 k_2 k_209 hd_Ring_leftOf ⟨Nat.le_of_ble_eq_true rfl, Nat.le_of_ble_eq_true rfl⟩ xE0_ok trivial hA hK hP hD hS [0, 3] [1, 2, 4] [3, 0, 1, 4, 2] rfl rfl rfl rfl rfl rfl rfl rfl rfl rfl hl.1 rfl (Nat.le_of_ble_eq_true rfl) ⟨Nat.zero_le _, Nat.zero_le _⟩ d_Ring_handOn_47 (fun H locs hP hD hS => ?_)
        refine lv_dup2_11 hx hb d_Ring_handOn_50 rfl rfl ?_
        obtain ⟨c5, hf⟩ := io_n hf
        refine x_iald hx hb hK hP 4 0 rfl rfl (j := q4.toNatClampNeg) rfl c5 d_Ring_handOn_51 ?_
        refine lv_iload_n hx hb d_Ring_handOn_52 rfl (lv_at hl 0 rfl) ?_
        refine lv_iadd hx hb d_Ring_handOn_53 ?_
        refine x_iast hx hb hK hP hD hS 4 0 rfl rfl (j := q4.toNatClampNeg) rfl c5 d_Ring_handOn_54 (fun H locs hP hD hS => ?_)
        have hP : va_P D classes (w_Ring_handOn cI cJ cC a_h a_h_kinds a_h_sweets a_h_settings a_h_heaps (r_children z_h) (r_strokes z_h) (r_gave z_h) (r_threw z_h) (r_kinds z_h) (r_sweets z_h) (r_settings z_h) (upd (upd (r_heaps z_h) x1.toNatClampNeg (((r_heaps z_h) x1.toNatClampNeg) - q2)) q4.toNatClampNeg (((upd (r_heaps z_h) x1.toNatClampNeg (((r_heaps z_h) x1.toNatClampNeg) - q2)) q4.toNatClampNeg) + q2))) H := hP
        have hD : va_D A (w_Ring_handOn cI cJ cC a_h a_h_kinds a_h_sweets a_h_settings a_h_heaps (r_children z_h) (r_strokes z_h) (r_gave z_h) (r_threw z_h) (r_kinds z_h) (r_sweets z_h) (r_settings z_h) (upd (upd (r_heaps z_h) x1.toNatClampNeg (((r_heaps z_h) x1.toNatClampNeg) - q2)) q4.toNatClampNeg (((upd (r_heaps z_h) x1.toNatClampNeg (((r_heaps z_h) x1.toNatClampNeg) - q2)) q4.toNatClampNeg) + q2))) := hD
        refine lv_aload_n hx hb d_Ring_handOn_55 rfl (lv_at hl 1 rfl) ?_
        refine va_get hx hb hT i_Ring hown hK hP 0 rfl rfl 0 (Nat.le_of_ble_eq_true rfl) (hT _ k_29) (fun _ h => h) rfl d_Ring_handOn_56 ?_
        refine lv_iload_n hx hb d_Ring_handOn_59 rfl (lv_at hl 2 rfl) ?_
        refine x_iald hx hb hK hP 1 0 rfl rfl (j := x1.toNatClampNeg) rfl c3 d_Ring_handOn_60 ?_
        refine lv_iconst (v := 1) hx hb d_Ring_handOn_61 (by decide) ?_
        refine lv_icmp_ne (tgt := 89) hx hb d_Ring_handOn_62 (by decide) (fun c6 => ?_) (fun c6 => ?_)
        · have hf := io_f hf c6
          refine lv_iinc (v := (x1 + 1)) (lv' := [(1, .int (x1 + 1)), (2, .int q2), (0, .ref a_h)]) hx hb d_Ring_handOn_89 hl (k := 2) rfl (by rfl) (by decide) rfl (fun ls hl => ?_)
          refine lv_goto (tgt := 17) hx hb d_Ring_handOn_92 (by decide) ?_
          exact ih ((r_kinds z_h), (r_sweets z_h), (r_settings z_h), (upd (upd (r_heaps z_h) x1.toNatClampNeg (((r_heaps z_h) x1.toNatClampNeg) - q2)) q4.toNatClampNeg (((upd (r_heaps z_h) x1.toNatClampNeg (((r_heaps z_h) x1.toNatClampNeg) - q2)) q4.toNatClampNeg) + q2)), (r_children z_h), (r_strokes z_h), (r_gave z_h), (r_threw z_h)) (x1 + 1) _ _ _ hf hP hD hS (lv_sub hl [2, 0] rfl)
        · have hf := io_t hf c6
          refine lv_aload_n hx hb d_Ring_handOn_65 rfl (lv_at hl 1 rfl) ?_
          refine va_get hx hb hT i_Ring hown hK hP 0 rfl rfl 7 (Nat.le_of_ble_eq_true rfl) (hT _ k_49) (fun _ h => h) rfl d_Ring_handOn_66 ?_
          refine lv_iload_n hx hb d_Ring_handOn_69 rfl (lv_at hl 2 rfl) ?_
          refine lv_dup2_11 hx hb d_Ring_handOn_70 rfl rfl ?_
          refine x_iald hx hb hK hP 4 0 rfl rfl (j := x1.toNatClampNeg) rfl c3 d_Ring_handOn_71 ?_
          refine lv_iload_n hx hb d_Ring_handOn_72 rfl (lv_at hl 0 rfl) ?_
          refine lv_isub hx hb d_Ring_handOn_73 ?_
          refine x_iast hx hb hK hP hD hS 4 0 rfl rfl (j := x1.toNatClampNeg) rfl c3 d_Ring_handOn_74 (fun H locs hP hD hS => ?_)
          have hP : va_P D classes (w_Ring_handOn cI cJ cC a_h a_h_kinds a_h_sweets a_h_settings a_h_heaps (r_children z_h) (r_strokes z_h) (r_gave z_h) (r_threw z_h) (r_kinds z_h) (r_sweets z_h) (r_settings z_h) (upd (upd (upd (r_heaps z_h) x1.toNatClampNeg (((r_heaps z_h) x1.toNatClampNeg) - q2)) q4.toNatClampNeg (((upd (r_heaps z_h) x1.toNatClampNeg (((r_heaps z_h) x1.toNatClampNeg) - q2)) q4.toNatClampNeg) + q2)) x1.toNatClampNeg (((upd (upd (r_heaps z_h) x1.toNatClampNeg (((r_heaps z_h) x1.toNatClampNeg) - q2)) q4.toNatClampNeg (((upd (r_heaps z_h) x1.toNatClampNeg (((r_heaps z_h) x1.toNatClampNeg) - q2)) q4.toNatClampNeg) + q2)) x1.toNatClampNeg) - q2))) H := hP
          have hD : va_D A (w_Ring_handOn cI cJ cC a_h a_h_kinds a_h_sweets a_h_settings a_h_heaps (r_children z_h) (r_strokes z_h) (r_gave z_h) (r_threw z_h) (r_kinds z_h) (r_sweets z_h) (r_settings z_h) (upd (upd (upd (r_heaps z_h) x1.toNatClampNeg (((r_heaps z_h) x1.toNatClampNeg) - q2)) q4.toNatClampNeg (((upd (r_heaps z_h) x1.toNatClampNeg (((r_heaps z_h) x1.toNatClampNeg) - q2)) q4.toNatClampNeg) + q2)) x1.toNatClampNeg (((upd (upd (r_heaps z_h) x1.toNatClampNeg (((r_heaps z_h) x1.toNatClampNeg) - q2)) q4.toNatClampNeg (((upd (r_heaps z_h) x1.toNatClampNeg (((r_heaps z_h) x1.toNatClampNeg) - q2)) q4.toNatClampNeg) + q2)) x1.toNatClampNeg) - q2))) := hD
          refine lv_aload_n hx hb d_Ring_handOn_75 rfl (lv_at hl 1 rfl) ?_
          refine va_get hx hb hT i_Ring hown hK hP 0 rfl rfl 7 (Nat.le_of_ble_eq_true rfl) (hT _ k_49) (fun _ h => h) rfl d_Ring_handOn_76 ?_
          refine lv_aload_n hx hb d_Ring_handOn_79 rfl (lv_at hl 1 rfl) ?_
          refine lv_iload_n hx hb d_Ring_handOn_80 rfl (lv_at hl 2 rfl) ?_
          obtain ⟨q7, hq7, hf⟩ := io_b hf
          refine xcVI (wc := (w_Ring_rightOf cI cJ cC a_h a_h_kinds a_h_sweets a_h_settings a_h_heaps (r_children z_h) (r_strokes z_h) (r_gave z_h) (r_threw z_h) (r_settings z_h))) (wc' := (w_Ring_rightOf cI cJ cC a_h a_h_kinds a_h_sweets a_h_settings a_h_heaps (r_children z_h) (r_strokes z_h) (r_gave z_h) (r_threw z_h) (r_settings z_h))) (ws' := (w_Ring_handOn cI cJ cC a_h a_h_kinds a_h_sweets a_h_settings a_h_heaps (r_children z_h) (r_strokes z_h) (r_gave z_h) (r_threw z_h) (r_kinds z_h) (r_sweets z_h) (r_settings z_h) (upd (upd (upd (r_heaps z_h) x1.toNatClampNeg (((r_heaps z_h) x1.toNatClampNeg) - q2)) q4.toNatClampNeg (((upd (r_heaps z_h) x1.toNatClampNeg (((r_heaps z_h) x1.toNatClampNeg) - q2)) q4.toNatClampNeg) + q2)) x1.toNatClampNeg (((upd (upd (r_heaps z_h) x1.toNatClampNeg (((r_heaps z_h) x1.toNatClampNeg) - q2)) q4.toNatClampNeg (((upd (r_heaps z_h) x1.toNatClampNeg (((r_heaps z_h) x1.toNatClampNeg) - q2)) q4.toNatClampNeg) + q2)) x1.toNatClampNeg) - q2)))) (As := [.int x1]) (rest := [.ref a_h_heaps]) hx hb hml hown hT (c_Ring_rightOf (z_h := ((r_kinds z_h), (r_sweets z_h), (r_settings z_h), (upd (upd (upd (r_heaps z_h) x1.toNatClampNeg (((r_heaps z_h) x1.toNatClampNeg) - q2)) q4.toNatClampNeg (((upd (r_heaps z_h) x1.toNatClampNeg (((r_heaps z_h) x1.toNatClampNeg) - q2)) q4.toNatClampNeg) + q2)) x1.toNatClampNeg (((upd (upd (r_heaps z_h) x1.toNatClampNeg (((r_heaps z_h) x1.toNatClampNeg) - q2)) q4.toNatClampNeg (((upd (r_heaps z_h) x1.toNatClampNeg (((r_heaps z_h) x1.toNatClampNeg) - q2)) q4.toNatClampNeg) + q2)) x1.toNatClampNeg) - q2)), (r_children z_h), (r_strokes z_h), (r_gave z_h), (r_threw z_h))) a_h a_h_kinds a_h_sweets a_h_settings a_h_heaps hq7) k_230 k_231 k_232 k_2 k_233 hd_Ring_rightOf ⟨Nat.le_of_ble_eq_true rfl, Nat.le_of_ble_eq_true rfl⟩ xE0_ok trivial hA hK hP hD hS [0, 3] [1, 2, 4] [3, 0, 1, 4, 2] rfl rfl rfl rfl rfl rfl rfl rfl rfl rfl hl.1 rfl (Nat.le_of_ble_eq_true rfl) ⟨Nat.zero_le _, Nat.zero_le _⟩ d_Ring_handOn_81 (fun H locs hP hD hS => ?_)
          refine lv_dup2_11 hx hb d_Ring_handOn_84 rfl rfl ?_
          obtain ⟨c8, hf⟩ := io_n hf
          refine x_iald hx hb hK hP 4 0 rfl rfl (j := q7.toNatClampNeg) rfl c8 d_Ring_handOn_85 ?_
          refine lv_iload_n hx hb d_Ring_handOn_86 rfl (lv_at hl 0 rfl) ?_
          refine lv_iadd hx hb d_Ring_handOn_87 ?_
          refine x_iast hx hb hK hP hD hS 4 0 rfl rfl (j := q7.toNatClampNeg) rfl c8 d_Ring_handOn_88 (fun H locs hP hD hS => ?_)
          have hP : va_P D classes (w_Ring_handOn cI cJ cC a_h a_h_kinds a_h_sweets a_h_settings a_h_heaps (r_children z_h) (r_strokes z_h) (r_gave z_h) (r_threw z_h) (r_kinds z_h) (r_sweets z_h) (r_settings z_h) (upd (upd (upd (upd (r_heaps z_h) x1.toNatClampNeg (((r_heaps z_h) x1.toNatClampNeg) - q2)) q4.toNatClampNeg (((upd (r_heaps z_h) x1.toNatClampNeg (((r_heaps z_h) x1.toNatClampNeg) - q2)) q4.toNatClampNeg) + q2)) x1.toNatClampNeg (((upd (upd (r_heaps z_h) x1.toNatClampNeg (((r_heaps z_h) x1.toNatClampNeg) - q2)) q4.toNatClampNeg (((upd (r_heaps z_h) x1.toNatClampNeg (((r_heaps z_h) x1.toNatClampNeg) - q2)) q4.toNatClampNeg) + q2)) x1.toNatClampNeg) - q2)) q7.toNatClampNeg (((upd (upd (upd (r_heaps z_h) x1.toNatClampNeg (((r_heaps z_h) x1.toNatClampNeg) - q2)) q4.toNatClampNeg (((upd (r_heaps z_h) x1.toNatClampNeg (((r_heaps z_h) x1.toNatClampNeg) - q2)) q4.toNatClampNeg) + q2)) x1.toNatClampNeg (((upd (upd (r_heaps z_h) x1.toNatClampNeg (((r_heaps z_h) x1.toNatClampNeg) - q2)) q4.toNatClampNeg (((upd (r_heaps z_h) x1.toNatClampNeg (((r_heaps z_h) x1.toNatClampNeg) - q2)) q4.toNatClampNeg) + q2)) x1.toNatClampNeg) - q2)) q7.toNatClampNeg) + q2))) H := hP
          have hD : va_D A (w_Ring_handOn cI cJ cC a_h a_h_kinds a_h_sweets a_h_settings a_h_heaps (r_children z_h) (r_strokes z_h) (r_gave z_h) (r_threw z_h) (r_kinds z_h) (r_sweets z_h) (r_settings z_h) (upd (upd (upd (upd (r_heaps z_h) x1.toNatClampNeg (((r_heaps z_h) x1.toNatClampNeg) - q2)) q4.toNatClampNeg (((upd (r_heaps z_h) x1.toNatClampNeg (((r_heaps z_h) x1.toNatClampNeg) - q2)) q4.toNatClampNeg) + q2)) x1.toNatClampNeg (((upd (upd (r_heaps z_h) x1.toNatClampNeg (((r_heaps z_h) x1.toNatClampNeg) - q2)) q4.toNatClampNeg (((upd (r_heaps z_h) x1.toNatClampNeg (((r_heaps z_h) x1.toNatClampNeg) - q2)) q4.toNatClampNeg) + q2)) x1.toNatClampNeg) - q2)) q7.toNatClampNeg (((upd (upd (upd (r_heaps z_h) x1.toNatClampNeg (((r_heaps z_h) x1.toNatClampNeg) - q2)) q4.toNatClampNeg (((upd (r_heaps z_h) x1.toNatClampNeg (((r_heaps z_h) x1.toNatClampNeg) - q2)) q4.toNatClampNeg) + q2)) x1.toNatClampNeg (((upd (upd (r_heaps z_h) x1.toNatClampNeg (((r_heaps z_h) x1.toNatClampNeg) - q2)) q4.toNatClampNeg (((upd (r_heaps z_h) x1.toNatClampNeg (((r_heaps z_h) x1.toNatClampNeg) - q2)) q4.toNatClampNeg) + q2)) x1.toNatClampNeg) - q2)) q7.toNatClampNeg) + q2))) := hD
          refine lv_iinc (v := (x1 + 1)) (lv' := [(1, .int (x1 + 1)), (2, .int q2), (0, .ref a_h)]) hx hb d_Ring_handOn_89 hl (k := 2) rfl (by rfl) (by decide) rfl (fun ls hl => ?_)
          refine lv_goto (tgt := 17) hx hb d_Ring_handOn_92 (by decide) ?_
          exact ih ((r_kinds z_h), (r_sweets z_h), (r_settings z_h), (upd (upd (upd (upd (r_heaps z_h) x1.toNatClampNeg (((r_heaps z_h) x1.toNatClampNeg) - q2)) q4.toNatClampNeg (((upd (r_heaps z_h) x1.toNatClampNeg (((r_heaps z_h) x1.toNatClampNeg) - q2)) q4.toNatClampNeg) + q2)) x1.toNatClampNeg (((upd (upd (r_heaps z_h) x1.toNatClampNeg (((r_heaps z_h) x1.toNatClampNeg) - q2)) q4.toNatClampNeg (((upd (r_heaps z_h) x1.toNatClampNeg (((r_heaps z_h) x1.toNatClampNeg) - q2)) q4.toNatClampNeg) + q2)) x1.toNatClampNeg) - q2)) q7.toNatClampNeg (((upd (upd (upd (r_heaps z_h) x1.toNatClampNeg (((r_heaps z_h) x1.toNatClampNeg) - q2)) q4.toNatClampNeg (((upd (r_heaps z_h) x1.toNatClampNeg (((r_heaps z_h) x1.toNatClampNeg) - q2)) q4.toNatClampNeg) + q2)) x1.toNatClampNeg (((upd (upd (r_heaps z_h) x1.toNatClampNeg (((r_heaps z_h) x1.toNatClampNeg) - q2)) q4.toNatClampNeg (((upd (r_heaps z_h) x1.toNatClampNeg (((r_heaps z_h) x1.toNatClampNeg) - q2)) q4.toNatClampNeg) + q2)) x1.toNatClampNeg) - q2)) q7.toNatClampNeg) + q2)), (r_children z_h), (r_strokes z_h), (r_gave z_h), (r_threw z_h)) (x1 + 1) _ _ _ hf hP hD hS (lv_sub hl [2, 0] rfl)
  have L97 : ∀ (n : Nat) (z_h : RS) (x1 : Int32) (H : Heap) (locs : List Loc) (ls : Array Slot), f_Ring_handOn_L97 n z_h x1 = some q → va_P D classes (w_Ring_handOn cI cJ cC a_h a_h_kinds a_h_sweets a_h_settings a_h_heaps (r_children z_h) (r_strokes z_h) (r_gave z_h) (r_threw z_h) (r_kinds z_h) (r_sweets z_h) (r_settings z_h) (r_heaps z_h)) H → va_D A (w_Ring_handOn cI cJ cC a_h a_h_kinds a_h_sweets a_h_settings a_h_heaps (r_children z_h) (r_strokes z_h) (r_gave z_h) (r_threw z_h) (r_kinds z_h) (r_sweets z_h) (r_settings z_h) (r_heaps z_h)) → va_S A s.heap H locs → lv_has ls 3 [(0, .ref a_h), (1, .int x1)] → W p l e (xRm 2 45) s m args below meth c H locs 0 0 Q (F0 m 97 ls []) := by
    intro n
    induction n with
    | zero => intro z_h x1 H locs ls hf hP hD hS hl; exact nomatch (show (none : Option (RS)) = some q from hf)
    | succ n ih =>
      intro z_h x1 H locs ls hf hP hD hS hl
      refine lv_iload_n hx hb d_Ring_handOn_97 rfl (lv_at hl 1 rfl) ?_
      refine lv_aload_n hx hb d_Ring_handOn_98 rfl (lv_at hl 0 rfl) ?_
      refine va_get hx hb hT i_Ring hown hK hP 0 rfl rfl 3 (Nat.le_of_ble_eq_true rfl) (hT _ k_38) (fun _ h => h) rfl d_Ring_handOn_99 ?_
      refine lv_icmp_ge (tgt := 129) hx hb d_Ring_handOn_102 (by decide) (fun c10 => ?_) (fun c10 => ?_)
      · have hf := io_t hf c10
        have hq := Option.some.inj hf
        subst hq
        exact hret _ _ _ _ d_Ring_handOn_129 hP hD hS
      · have hf := io_f hf c10
        refine lv_aload_n hx hb d_Ring_handOn_105 rfl (lv_at hl 0 rfl) ?_
        refine va_get hx hb hT i_Ring hown hK hP 0 rfl rfl 1 (Nat.le_of_ble_eq_true rfl) (hT _ k_31) (fun _ h => h) rfl d_Ring_handOn_106 ?_
        refine lv_iload_n hx hb d_Ring_handOn_109 rfl (lv_at hl 1 rfl) ?_
        refine lv_aload_n hx hb d_Ring_handOn_110 rfl (lv_at hl 0 rfl) ?_
        refine va_get hx hb hT i_Ring hown hK hP 0 rfl rfl 7 (Nat.le_of_ble_eq_true rfl) (hT _ k_49) (fun _ h => h) rfl d_Ring_handOn_111 ?_
        refine lv_iload_n hx hb d_Ring_handOn_114 rfl (lv_at hl 1 rfl) ?_
        obtain ⟨c11, hf⟩ := io_n hf
        refine x_iald hx hb hK hP 4 0 rfl rfl (j := x1.toNatClampNeg) rfl c11 d_Ring_handOn_115 ?_
        refine lv_sipush (v := 999) hx hb d_Ring_handOn_116 (by decide) ?_
        refine va_mmin hx hb (hml.trans hl.1.symm) hown (hT _ k_234) (hT _ k_235) (hT _ k_10) (hT _ k_236) (Nat.le_of_ble_eq_true rfl) (Nat.le_of_ble_eq_true rfl) (Nat.zero_le _) (Nat.zero_le _) d_Ring_handOn_119 ?_
        refine x_iast hx hb hK hP hD hS 2 0 rfl rfl (j := x1.toNatClampNeg) rfl c11 d_Ring_handOn_122 (fun H locs hP hD hS => ?_)
        have hP : va_P D classes (w_Ring_handOn cI cJ cC a_h a_h_kinds a_h_sweets a_h_settings a_h_heaps (r_children z_h) (r_strokes z_h) (r_gave z_h) (r_threw z_h) (r_kinds z_h) (upd (r_sweets z_h) x1.toNatClampNeg (jmin ((r_heaps z_h) x1.toNatClampNeg) 999)) (r_settings z_h) (r_heaps z_h)) H := hP
        have hD : va_D A (w_Ring_handOn cI cJ cC a_h a_h_kinds a_h_sweets a_h_settings a_h_heaps (r_children z_h) (r_strokes z_h) (r_gave z_h) (r_threw z_h) (r_kinds z_h) (upd (r_sweets z_h) x1.toNatClampNeg (jmin ((r_heaps z_h) x1.toNatClampNeg) 999)) (r_settings z_h) (r_heaps z_h)) := hD
        refine lv_iinc (v := (x1 + 1)) (lv' := [(1, .int (x1 + 1)), (0, .ref a_h)]) hx hb d_Ring_handOn_123 hl (k := 1) rfl (by rfl) (by decide) rfl (fun ls hl => ?_)
        refine lv_goto (tgt := 97) hx hb d_Ring_handOn_126 (by decide) ?_
        exact ih ((r_kinds z_h), (upd (r_sweets z_h) x1.toNatClampNeg (jmin ((r_heaps z_h) x1.toNatClampNeg) 999)), (r_settings z_h), (r_heaps z_h), (r_children z_h), (r_strokes z_h), (r_gave z_h), (r_threw z_h)) (x1 + 1) _ _ _ hf hP hD hS (lv_sub hl [1, 0] rfl)
  refine lv_aload_n hx hb d_Ring_handOn_0 rfl (lv_at hl 0 rfl) ?_
  refine va_get hx hb hT i_Ring hown hK hP 0 rfl rfl 1 (Nat.le_of_ble_eq_true rfl) (hT _ k_31) (fun _ h => h) rfl d_Ring_handOn_1 ?_
  refine lv_iconst (v := 0) hx hb d_Ring_handOn_4 (by decide) ?_
  refine lv_aload_n hx hb d_Ring_handOn_5 rfl (lv_at hl 0 rfl) ?_
  refine va_get hx hb hT i_Ring hown hK hP 0 rfl rfl 7 (Nat.le_of_ble_eq_true rfl) (hT _ k_49) (fun _ h => h) rfl d_Ring_handOn_6 ?_
  refine lv_iconst (v := 0) hx hb d_Ring_handOn_9 (by decide) ?_
  refine lv_bipush (v := 8) hx hb d_Ring_handOn_10 (by decide) ?_
  refine x_copyi (j := 8) hx hb (hml.trans hl.1.symm) hown (hT _ k_227) (hT _ k_229) (hT _ k_228) (hT _ k_14) hK hP hD hS 2 4 0 0 rfl rfl rfl rfl rfl (by decide) (by decide) (by decide) (by decide +kernel) (by decide +kernel) (by decide +kernel) (fun _ _ => rfl) (Nat.le_of_ble_eq_true rfl) (by decide +kernel) d_Ring_handOn_12 (fun H locs hP hD hS => ?_)
  have hP : va_P D classes (w_Ring_handOn cI cJ cC a_h a_h_kinds a_h_sweets a_h_settings a_h_heaps (r_children z_h) (r_strokes z_h) (r_gave z_h) (r_threw z_h) (r_kinds z_h) (r_sweets z_h) (r_settings z_h) (va_cpy (r_sweets z_h) (r_heaps z_h) 0 0 8)) H := hP
  have hD : va_D A (w_Ring_handOn cI cJ cC a_h a_h_kinds a_h_sweets a_h_settings a_h_heaps (r_children z_h) (r_strokes z_h) (r_gave z_h) (r_threw z_h) (r_kinds z_h) (r_sweets z_h) (r_settings z_h) (va_cpy (r_sweets z_h) (r_heaps z_h) 0 0 8)) := hD
  refine lv_iconst (v := 0) hx hb d_Ring_handOn_15 (by decide) ?_
  refine lv_istore_n (lv' := [(1, .int 0), (0, .ref a_h)]) hx hb d_Ring_handOn_16 rfl hl (by decide) rfl (fun ls hl => ?_)
  refine L17 _ (fun z_h_9 H locs ls hf hP hD hS hl => ?_) FU ((r_kinds z_h), (r_sweets z_h), (r_settings z_h), (va_cpy (r_sweets z_h) (r_heaps z_h) 0 0 8), (r_children z_h), (r_strokes z_h), (r_gave z_h), (r_threw z_h)) 0 _ _ _ hf hP hD hS (lv_sub hl [1, 0] rfl)
  refine lv_iconst (v := 0) hx hb d_Ring_handOn_95 (by decide) ?_
  refine lv_istore_n (lv' := [(1, .int 0), (0, .ref a_h)]) hx hb d_Ring_handOn_96 rfl hl (by decide) rfl (fun ls hl => ?_)
  exact L97 FU z_h_9 0 _ _ _ hf hP hD hS (lv_sub hl [1, 0] rfl)
abbrev w_Ring_mend (cI cJ cC : ClassId) (a_h a_h_kinds a_h_sweets a_h_settings a_h_heaps : Nat) (p_h_children : Int32) (p_h_strokes : Int32) (p_h_gave : Int32) (p_h_threw : Int32) (p_h_kinds : (Nat → Int32)) (p_h_sweets : (Nat → Int32)) (p_h_settings : (Nat → Int32)) (p_h_heaps : (Nat → Int32)) : va_W := [(a_h, .inr (1, [.ref a_h_kinds, .ref a_h_sweets, .ref a_h_settings, .int p_h_children, .int p_h_strokes, .int p_h_gave, .int p_h_threw, .ref a_h_heaps])), (a_h_kinds, .inl (cI, (8, .inl p_h_kinds))), (a_h_sweets, .inl (cI, (8, .inl p_h_sweets))), (a_h_settings, .inl (cI, (3, .inl p_h_settings))), (a_h_heaps, .inl (cI, (8, .inl p_h_heaps)))]
theorem d_Ring_mend_0 : decode b_Ring_mend 0 = .ok (.aload_n 0, 1) := by decide +kernel
theorem d_Ring_mend_1 : decode b_Ring_mend 1 = .ok (.getfield 18, 3) := by decide +kernel
theorem d_Ring_mend_4 : decode b_Ring_mend 4 = .ok (.iconst 0, 1) := by decide +kernel
theorem d_Ring_mend_5 : decode b_Ring_mend 5 = .ok (.iaload, 1) := by decide +kernel
theorem d_Ring_mend_6 : decode b_Ring_mend 6 = .ok (.ifCond .ne 55, 3) := by decide +kernel
theorem d_Ring_mend_9 : decode b_Ring_mend 9 = .ok (.aload_n 0, 1) := by decide +kernel
theorem d_Ring_mend_10 : decode b_Ring_mend 10 = .ok (.getfield 18, 3) := by decide +kernel
theorem d_Ring_mend_13 : decode b_Ring_mend 13 = .ok (.iconst 2, 1) := by decide +kernel
theorem d_Ring_mend_14 : decode b_Ring_mend 14 = .ok (.iaload, 1) := by decide +kernel
theorem d_Ring_mend_15 : decode b_Ring_mend 15 = .ok (.ifCond .le 46, 3) := by decide +kernel
theorem d_Ring_mend_18 : decode b_Ring_mend 18 = .ok (.aload_n 0, 1) := by decide +kernel
theorem d_Ring_mend_19 : decode b_Ring_mend 19 = .ok (.getfield 18, 3) := by decide +kernel
theorem d_Ring_mend_22 : decode b_Ring_mend 22 = .ok (.iconst 2, 1) := by decide +kernel
theorem d_Ring_mend_23 : decode b_Ring_mend 23 = .ok (.dup2, 1) := by decide +kernel
theorem d_Ring_mend_24 : decode b_Ring_mend 24 = .ok (.iaload, 1) := by decide +kernel
theorem d_Ring_mend_25 : decode b_Ring_mend 25 = .ok (.iconst 1, 1) := by decide +kernel
theorem d_Ring_mend_26 : decode b_Ring_mend 26 = .ok (.isub, 1) := by decide +kernel
theorem d_Ring_mend_27 : decode b_Ring_mend 27 = .ok (.iastore, 1) := by decide +kernel
theorem d_Ring_mend_28 : decode b_Ring_mend 28 = .ok (.aload_n 0, 1) := by decide +kernel
theorem d_Ring_mend_29 : decode b_Ring_mend 29 = .ok (.dup, 1) := by decide +kernel
theorem d_Ring_mend_30 : decode b_Ring_mend 30 = .ok (.getfield 28, 3) := by decide +kernel
theorem d_Ring_mend_33 : decode b_Ring_mend 33 = .ok (.iconst 1, 1) := by decide +kernel
theorem d_Ring_mend_34 : decode b_Ring_mend 34 = .ok (.iadd, 1) := by decide +kernel
theorem d_Ring_mend_35 : decode b_Ring_mend 35 = .ok (.putfield 28, 3) := by decide +kernel
theorem d_Ring_mend_38 : decode b_Ring_mend 38 = .ok (.aload_n 0, 1) := by decide +kernel
theorem d_Ring_mend_39 : decode b_Ring_mend 39 = .ok (.getfield 15, 3) := by decide +kernel
theorem d_Ring_mend_42 : decode b_Ring_mend 42 = .ok (.iload_n 1, 1) := by decide +kernel
theorem d_Ring_mend_43 : decode b_Ring_mend 43 = .ok (.aload_n 0, 1) := by decide +kernel
theorem d_Ring_mend_44 : decode b_Ring_mend 44 = .ok (.getfield 15, 3) := by decide +kernel
theorem d_Ring_mend_47 : decode b_Ring_mend 47 = .ok (.iload_n 1, 1) := by decide +kernel
theorem d_Ring_mend_48 : decode b_Ring_mend 48 = .ok (.iaload, 1) := by decide +kernel
theorem d_Ring_mend_49 : decode b_Ring_mend 49 = .ok (.iconst 1, 1) := by decide +kernel
theorem d_Ring_mend_50 : decode b_Ring_mend 50 = .ok (.iadd, 1) := by decide +kernel
theorem d_Ring_mend_51 : decode b_Ring_mend 51 = .ok (.sipush 999, 3) := by decide +kernel
theorem d_Ring_mend_54 : decode b_Ring_mend 54 = .ok (.invokestatic 68, 3) := by decide +kernel
theorem d_Ring_mend_57 : decode b_Ring_mend 57 = .ok (.iastore, 1) := by decide +kernel
theorem d_Ring_mend_58 : decode b_Ring_mend 58 = .ok (.goto 33, 3) := by decide +kernel
theorem d_Ring_mend_61 : decode b_Ring_mend 61 = .ok (.aload_n 0, 1) := by decide +kernel
theorem d_Ring_mend_62 : decode b_Ring_mend 62 = .ok (.getfield 18, 3) := by decide +kernel
theorem d_Ring_mend_65 : decode b_Ring_mend 65 = .ok (.iconst 0, 1) := by decide +kernel
theorem d_Ring_mend_66 : decode b_Ring_mend 66 = .ok (.iaload, 1) := by decide +kernel
theorem d_Ring_mend_67 : decode b_Ring_mend 67 = .ok (.iconst 1, 1) := by decide +kernel
theorem d_Ring_mend_68 : decode b_Ring_mend 68 = .ok (.if_icmp .ne 23, 3) := by decide +kernel
theorem d_Ring_mend_71 : decode b_Ring_mend 71 = .ok (.aload_n 0, 1) := by decide +kernel
theorem d_Ring_mend_72 : decode b_Ring_mend 72 = .ok (.getfield 15, 3) := by decide +kernel
theorem d_Ring_mend_75 : decode b_Ring_mend 75 = .ok (.iload_n 1, 1) := by decide +kernel
theorem d_Ring_mend_76 : decode b_Ring_mend 76 = .ok (.dup2, 1) := by decide +kernel
theorem d_Ring_mend_77 : decode b_Ring_mend 77 = .ok (.iaload, 1) := by decide +kernel
theorem d_Ring_mend_78 : decode b_Ring_mend 78 = .ok (.iconst 1, 1) := by decide +kernel
theorem d_Ring_mend_79 : decode b_Ring_mend 79 = .ok (.isub, 1) := by decide +kernel
theorem d_Ring_mend_80 : decode b_Ring_mend 80 = .ok (.iastore, 1) := by decide +kernel
theorem d_Ring_mend_81 : decode b_Ring_mend 81 = .ok (.aload_n 0, 1) := by decide +kernel
theorem d_Ring_mend_82 : decode b_Ring_mend 82 = .ok (.dup, 1) := by decide +kernel
theorem d_Ring_mend_83 : decode b_Ring_mend 83 = .ok (.getfield 31, 3) := by decide +kernel
theorem d_Ring_mend_86 : decode b_Ring_mend 86 = .ok (.iconst 1, 1) := by decide +kernel
theorem d_Ring_mend_87 : decode b_Ring_mend 87 = .ok (.iadd, 1) := by decide +kernel
theorem d_Ring_mend_88 : decode b_Ring_mend 88 = .ok (.putfield 31, 3) := by decide +kernel
theorem d_Ring_mend_91 : decode b_Ring_mend 91 = .ok (.return_, 1) := by decide +kernel
set_option maxHeartbeats 4000000 in
set_option maxRecDepth 100000 in
theorem c_Ring_mend {l : Launch} {D : va_G} {cI cJ cC : ClassId} (a_h a_h_kinds a_h_sweets a_h_settings a_h_heaps : Nat) {z_h : RS} {x1 : Int32} {q : RS} (hf : f_Ring_mend z_h x1 = some q) : xV l y_Ring_mend b_Ring_mend 2 1 21 D (tyK cI cJ cC) xE0 [.ref a_h, .int x1] (w_Ring_mend cI cJ cC a_h a_h_kinds a_h_sweets a_h_settings a_h_heaps (r_children z_h) (r_strokes z_h) (r_gave z_h) (r_threw z_h) (r_kinds z_h) (r_sweets z_h) (r_settings z_h) (r_heaps z_h)) (w_Ring_mend cI cJ cC a_h a_h_kinds a_h_sweets a_h_settings a_h_heaps (r_children q) (r_strokes q) (r_gave q) (r_threw q) (r_kinds q) (r_sweets q) (r_settings q) (r_heaps q)) := by
  refine xV_of (by decide) (Nat.le_of_ble_eq_true rfl) ?_
  intro p e s m args below meth c A Q hx hb hml hown hT hA hP hD hK hS hE hret ls hl
  have hown : s.vm.findClass R_Ring = some m.cls := hown
  have hl : lv_has ls 2 [(0, .ref a_h), (1, .int x1)] := hl
  unfold f_Ring_mend at hf
  refine lv_aload_n hx hb d_Ring_mend_0 rfl (lv_at hl 0 rfl) ?_
  refine va_get hx hb hT i_Ring hown hK hP 0 rfl rfl 2 (Nat.le_of_ble_eq_true rfl) (hT _ k_35) (fun _ h => h) rfl d_Ring_mend_1 ?_
  refine lv_iconst (v := 0) hx hb d_Ring_mend_4 (by decide) ?_
  refine x_iald hx hb hK hP 3 0 rfl rfl (j := 0) (by decide +kernel) (by unfold vp_in; decide +kernel) d_Ring_mend_5 ?_
  refine lv_if_ne (tgt := 61) hx hb d_Ring_mend_6 (by decide) (fun c1 => ?_) (fun c1 => ?_)
  · have hf := io_f hf c1
    refine lv_aload_n hx hb d_Ring_mend_61 rfl (lv_at hl 0 rfl) ?_
    refine va_get hx hb hT i_Ring hown hK hP 0 rfl rfl 2 (Nat.le_of_ble_eq_true rfl) (hT _ k_35) (fun _ h => h) rfl d_Ring_mend_62 ?_
    refine lv_iconst (v := 0) hx hb d_Ring_mend_65 (by decide) ?_
    refine x_iald hx hb hK hP 3 0 rfl rfl (j := 0) (by decide +kernel) (by unfold vp_in; decide +kernel) d_Ring_mend_66 ?_
    refine lv_iconst (v := 1) hx hb d_Ring_mend_67 (by decide) ?_
    refine lv_icmp_ne (tgt := 91) hx hb d_Ring_mend_68 (by decide) (fun c2 => ?_) (fun c2 => ?_)
    · have hf := io_f hf c2
      have hq := Option.some.inj hf
      subst hq
      exact hret _ _ _ _ d_Ring_mend_91 hP hD hS
    · have hf := io_t hf c2
      refine lv_aload_n hx hb d_Ring_mend_71 rfl (lv_at hl 0 rfl) ?_
      refine va_get hx hb hT i_Ring hown hK hP 0 rfl rfl 1 (Nat.le_of_ble_eq_true rfl) (hT _ k_31) (fun _ h => h) rfl d_Ring_mend_72 ?_
      refine lv_iload_n hx hb d_Ring_mend_75 rfl (lv_at hl 1 rfl) ?_
      refine lv_dup2_11 hx hb d_Ring_mend_76 rfl rfl ?_
      obtain ⟨c3, hf⟩ := io_n hf
      refine x_iald hx hb hK hP 2 0 rfl rfl (j := x1.toNatClampNeg) rfl c3 d_Ring_mend_77 ?_
      refine lv_iconst (v := 1) hx hb d_Ring_mend_78 (by decide) ?_
      refine lv_isub hx hb d_Ring_mend_79 ?_
      refine x_iast hx hb hK hP hD hS 2 0 rfl rfl (j := x1.toNatClampNeg) rfl c3 d_Ring_mend_80 (fun H locs hP hD hS => ?_)
      have hP : va_P D classes (w_Ring_mend cI cJ cC a_h a_h_kinds a_h_sweets a_h_settings a_h_heaps (r_children z_h) (r_strokes z_h) (r_gave z_h) (r_threw z_h) (r_kinds z_h) (upd (r_sweets z_h) x1.toNatClampNeg (((r_sweets z_h) x1.toNatClampNeg) - 1)) (r_settings z_h) (r_heaps z_h)) H := hP
      have hD : va_D A (w_Ring_mend cI cJ cC a_h a_h_kinds a_h_sweets a_h_settings a_h_heaps (r_children z_h) (r_strokes z_h) (r_gave z_h) (r_threw z_h) (r_kinds z_h) (upd (r_sweets z_h) x1.toNatClampNeg (((r_sweets z_h) x1.toNatClampNeg) - 1)) (r_settings z_h) (r_heaps z_h)) := hD
      refine lv_aload_n hx hb d_Ring_mend_81 rfl (lv_at hl 0 rfl) ?_
      refine lv_dup hx hb d_Ring_mend_82 rfl ?_
      refine va_get hx hb hT i_Ring hown hK hP 0 rfl rfl 6 (Nat.le_of_ble_eq_true rfl) (hT _ k_46) (fun _ h => h) rfl d_Ring_mend_83 ?_
      refine lv_iconst (v := 1) hx hb d_Ring_mend_86 (by decide) ?_
      refine lv_iadd hx hb d_Ring_mend_87 ?_
      refine va_put (ty := .int) hx hb hT i_Ring t_Ring t_Ring_ok n_Ring hown hK hP hD hS 0 rfl rfl 6 (Nat.le_of_ble_eq_true rfl) (hT _ k_46) (fun _ h => h) rfl rfl rfl rfl (Nat.le_of_ble_eq_true rfl) d_Ring_mend_88 (fun H locs hP hD hS => ?_)
      have hP : va_P D classes (w_Ring_mend cI cJ cC a_h a_h_kinds a_h_sweets a_h_settings a_h_heaps (r_children z_h) (r_strokes z_h) (r_gave z_h) ((r_threw z_h) + 1) (r_kinds z_h) (upd (r_sweets z_h) x1.toNatClampNeg (((r_sweets z_h) x1.toNatClampNeg) - 1)) (r_settings z_h) (r_heaps z_h)) H := hP
      have hD : va_D A (w_Ring_mend cI cJ cC a_h a_h_kinds a_h_sweets a_h_settings a_h_heaps (r_children z_h) (r_strokes z_h) (r_gave z_h) ((r_threw z_h) + 1) (r_kinds z_h) (upd (r_sweets z_h) x1.toNatClampNeg (((r_sweets z_h) x1.toNatClampNeg) - 1)) (r_settings z_h) (r_heaps z_h)) := hD
      have hq := Option.some.inj hf
      subst hq
      exact hret _ _ _ _ d_Ring_mend_91 hP hD hS
  · have hf := io_t hf c1
    refine lv_aload_n hx hb d_Ring_mend_9 rfl (lv_at hl 0 rfl) ?_
    refine va_get hx hb hT i_Ring hown hK hP 0 rfl rfl 2 (Nat.le_of_ble_eq_true rfl) (hT _ k_35) (fun _ h => h) rfl d_Ring_mend_10 ?_
    refine lv_iconst (v := 2) hx hb d_Ring_mend_13 (by decide) ?_
    refine x_iald hx hb hK hP 3 0 rfl rfl (j := 2) (by decide +kernel) (by unfold vp_in; decide +kernel) d_Ring_mend_14 ?_
    refine lv_if_le (tgt := 61) hx hb d_Ring_mend_15 (by decide) (fun c4 => ?_) (fun c4 => ?_)
    · have hf := io_t hf c4
      refine lv_aload_n hx hb d_Ring_mend_61 rfl (lv_at hl 0 rfl) ?_
      refine va_get hx hb hT i_Ring hown hK hP 0 rfl rfl 2 (Nat.le_of_ble_eq_true rfl) (hT _ k_35) (fun _ h => h) rfl d_Ring_mend_62 ?_
      refine lv_iconst (v := 0) hx hb d_Ring_mend_65 (by decide) ?_
      refine x_iald hx hb hK hP 3 0 rfl rfl (j := 0) (by decide +kernel) (by unfold vp_in; decide +kernel) d_Ring_mend_66 ?_
      refine lv_iconst (v := 1) hx hb d_Ring_mend_67 (by decide) ?_
      refine lv_icmp_ne (tgt := 91) hx hb d_Ring_mend_68 (by decide) (fun _ => ?_) (fun c => absurd c (show ¬ ((r_settings z_h) 0) = 1 from fun z => absurd (c1.symm.trans z) (by decide)))
      have hq := Option.some.inj hf
      subst hq
      exact hret _ _ _ _ d_Ring_mend_91 hP hD hS
    · have hf := io_f hf c4
      refine lv_aload_n hx hb d_Ring_mend_18 rfl (lv_at hl 0 rfl) ?_
      refine va_get hx hb hT i_Ring hown hK hP 0 rfl rfl 2 (Nat.le_of_ble_eq_true rfl) (hT _ k_35) (fun _ h => h) rfl d_Ring_mend_19 ?_
      refine lv_iconst (v := 2) hx hb d_Ring_mend_22 (by decide) ?_
      refine lv_dup2_11 hx hb d_Ring_mend_23 rfl rfl ?_
      refine x_iald hx hb hK hP 3 0 rfl rfl (j := 2) (by decide +kernel) (by unfold vp_in; decide +kernel) d_Ring_mend_24 ?_
      refine lv_iconst (v := 1) hx hb d_Ring_mend_25 (by decide) ?_
      refine lv_isub hx hb d_Ring_mend_26 ?_
      refine x_iast hx hb hK hP hD hS 3 0 rfl rfl (j := 2) (by decide +kernel) (by unfold vp_in; decide +kernel) d_Ring_mend_27 (fun H locs hP hD hS => ?_)
      have hP : va_P D classes (w_Ring_mend cI cJ cC a_h a_h_kinds a_h_sweets a_h_settings a_h_heaps (r_children z_h) (r_strokes z_h) (r_gave z_h) (r_threw z_h) (r_kinds z_h) (r_sweets z_h) (upd (r_settings z_h) 2 (((r_settings z_h) 2) - 1)) (r_heaps z_h)) H := hP
      have hD : va_D A (w_Ring_mend cI cJ cC a_h a_h_kinds a_h_sweets a_h_settings a_h_heaps (r_children z_h) (r_strokes z_h) (r_gave z_h) (r_threw z_h) (r_kinds z_h) (r_sweets z_h) (upd (r_settings z_h) 2 (((r_settings z_h) 2) - 1)) (r_heaps z_h)) := hD
      refine lv_aload_n hx hb d_Ring_mend_28 rfl (lv_at hl 0 rfl) ?_
      refine lv_dup hx hb d_Ring_mend_29 rfl ?_
      refine va_get hx hb hT i_Ring hown hK hP 0 rfl rfl 5 (Nat.le_of_ble_eq_true rfl) (hT _ k_43) (fun _ h => h) rfl d_Ring_mend_30 ?_
      refine lv_iconst (v := 1) hx hb d_Ring_mend_33 (by decide) ?_
      refine lv_iadd hx hb d_Ring_mend_34 ?_
      refine va_put (ty := .int) hx hb hT i_Ring t_Ring t_Ring_ok n_Ring hown hK hP hD hS 0 rfl rfl 5 (Nat.le_of_ble_eq_true rfl) (hT _ k_43) (fun _ h => h) rfl rfl rfl rfl (Nat.le_of_ble_eq_true rfl) d_Ring_mend_35 (fun H locs hP hD hS => ?_)
      have hP : va_P D classes (w_Ring_mend cI cJ cC a_h a_h_kinds a_h_sweets a_h_settings a_h_heaps (r_children z_h) (r_strokes z_h) ((r_gave z_h) + 1) (r_threw z_h) (r_kinds z_h) (r_sweets z_h) (upd (r_settings z_h) 2 (((r_settings z_h) 2) - 1)) (r_heaps z_h)) H := hP
      have hD : va_D A (w_Ring_mend cI cJ cC a_h a_h_kinds a_h_sweets a_h_settings a_h_heaps (r_children z_h) (r_strokes z_h) ((r_gave z_h) + 1) (r_threw z_h) (r_kinds z_h) (r_sweets z_h) (upd (r_settings z_h) 2 (((r_settings z_h) 2) - 1)) (r_heaps z_h)) := hD
      refine lv_aload_n hx hb d_Ring_mend_38 rfl (lv_at hl 0 rfl) ?_
      refine va_get hx hb hT i_Ring hown hK hP 0 rfl rfl 1 (Nat.le_of_ble_eq_true rfl) (hT _ k_31) (fun _ h => h) rfl d_Ring_mend_39 ?_
      refine lv_iload_n hx hb d_Ring_mend_42 rfl (lv_at hl 1 rfl) ?_
      refine lv_aload_n hx hb d_Ring_mend_43 rfl (lv_at hl 0 rfl) ?_
      refine va_get hx hb hT i_Ring hown hK hP 0 rfl rfl 1 (Nat.le_of_ble_eq_true rfl) (hT _ k_31) (fun _ h => h) rfl d_Ring_mend_44 ?_
      refine lv_iload_n hx hb d_Ring_mend_47 rfl (lv_at hl 1 rfl) ?_
      obtain ⟨c5, hf⟩ := io_n hf
      refine x_iald hx hb hK hP 2 0 rfl rfl (j := x1.toNatClampNeg) rfl c5 d_Ring_mend_48 ?_
      refine lv_iconst (v := 1) hx hb d_Ring_mend_49 (by decide) ?_
      refine lv_iadd hx hb d_Ring_mend_50 ?_
      refine lv_sipush (v := 999) hx hb d_Ring_mend_51 (by decide) ?_
      refine va_mmin hx hb (hml.trans hl.1.symm) hown (hT _ k_234) (hT _ k_235) (hT _ k_10) (hT _ k_236) (Nat.le_of_ble_eq_true rfl) (Nat.le_of_ble_eq_true rfl) (Nat.zero_le _) (Nat.zero_le _) d_Ring_mend_54 ?_
      refine x_iast hx hb hK hP hD hS 2 0 rfl rfl (j := x1.toNatClampNeg) rfl c5 d_Ring_mend_57 (fun H locs hP hD hS => ?_)
      have hP : va_P D classes (w_Ring_mend cI cJ cC a_h a_h_kinds a_h_sweets a_h_settings a_h_heaps (r_children z_h) (r_strokes z_h) ((r_gave z_h) + 1) (r_threw z_h) (r_kinds z_h) (upd (r_sweets z_h) x1.toNatClampNeg (jmin (((r_sweets z_h) x1.toNatClampNeg) + 1) 999)) (upd (r_settings z_h) 2 (((r_settings z_h) 2) - 1)) (r_heaps z_h)) H := hP
      have hD : va_D A (w_Ring_mend cI cJ cC a_h a_h_kinds a_h_sweets a_h_settings a_h_heaps (r_children z_h) (r_strokes z_h) ((r_gave z_h) + 1) (r_threw z_h) (r_kinds z_h) (upd (r_sweets z_h) x1.toNatClampNeg (jmin (((r_sweets z_h) x1.toNatClampNeg) + 1) 999)) (upd (r_settings z_h) 2 (((r_settings z_h) 2) - 1)) (r_heaps z_h)) := hD
      refine lv_goto (tgt := 91) hx hb d_Ring_mend_58 (by decide) ?_
      have hq := Option.some.inj hf
      subst hq
      exact hret _ _ _ _ d_Ring_mend_91 hP hD hS
abbrev w_Ring_strike (cI cJ cC : ClassId) (a_h a_h_kinds a_h_sweets a_h_settings a_h_heaps : Nat) (p_h_children : Int32) (p_h_strokes : Int32) (p_h_gave : Int32) (p_h_threw : Int32) (p_h_kinds : (Nat → Int32)) (p_h_sweets : (Nat → Int32)) (p_h_settings : (Nat → Int32)) (p_h_heaps : (Nat → Int32)) : va_W := [(a_h, .inr (1, [.ref a_h_kinds, .ref a_h_sweets, .ref a_h_settings, .int p_h_children, .int p_h_strokes, .int p_h_gave, .int p_h_threw, .ref a_h_heaps])), (a_h_kinds, .inl (cI, (8, .inl p_h_kinds))), (a_h_sweets, .inl (cI, (8, .inl p_h_sweets))), (a_h_settings, .inl (cI, (3, .inl p_h_settings))), (a_h_heaps, .inl (cI, (8, .inl p_h_heaps)))]
theorem d_Ring_strike_0 : decode b_Ring_strike 0 = .ok (.aload_n 0, 1) := by decide +kernel
theorem d_Ring_strike_1 : decode b_Ring_strike 1 = .ok (.getfield 28, 3) := by decide +kernel
theorem d_Ring_strike_4 : decode b_Ring_strike 4 = .ok (.istore_n 1, 1) := by decide +kernel
theorem d_Ring_strike_5 : decode b_Ring_strike 5 = .ok (.aload_n 0, 1) := by decide +kernel
theorem d_Ring_strike_6 : decode b_Ring_strike 6 = .ok (.invokevirtual 57, 3) := by decide +kernel
theorem d_Ring_strike_9 : decode b_Ring_strike 9 = .ok (.iconst 0, 1) := by decide +kernel
theorem d_Ring_strike_10 : decode b_Ring_strike 10 = .ok (.istore_n 2, 1) := by decide +kernel
theorem d_Ring_strike_11 : decode b_Ring_strike 11 = .ok (.iload_n 2, 1) := by decide +kernel
theorem d_Ring_strike_12 : decode b_Ring_strike 12 = .ok (.aload_n 0, 1) := by decide +kernel
theorem d_Ring_strike_13 : decode b_Ring_strike 13 = .ok (.getfield 21, 3) := by decide +kernel
theorem d_Ring_strike_16 : decode b_Ring_strike 16 = .ok (.if_icmp .ge 26, 3) := by decide +kernel
theorem d_Ring_strike_19 : decode b_Ring_strike 19 = .ok (.aload_n 0, 1) := by decide +kernel
theorem d_Ring_strike_20 : decode b_Ring_strike 20 = .ok (.getfield 15, 3) := by decide +kernel
theorem d_Ring_strike_23 : decode b_Ring_strike 23 = .ok (.iload_n 2, 1) := by decide +kernel
theorem d_Ring_strike_24 : decode b_Ring_strike 24 = .ok (.iaload, 1) := by decide +kernel
theorem d_Ring_strike_25 : decode b_Ring_strike 25 = .ok (.iconst 2, 1) := by decide +kernel
theorem d_Ring_strike_26 : decode b_Ring_strike 26 = .ok (.irem, 1) := by decide +kernel
theorem d_Ring_strike_27 : decode b_Ring_strike 27 = .ok (.iconst 1, 1) := by decide +kernel
theorem d_Ring_strike_28 : decode b_Ring_strike 28 = .ok (.if_icmp .ne 8, 3) := by decide +kernel
theorem d_Ring_strike_31 : decode b_Ring_strike 31 = .ok (.aload_n 0, 1) := by decide +kernel
theorem d_Ring_strike_32 : decode b_Ring_strike 32 = .ok (.iload_n 2, 1) := by decide +kernel
theorem d_Ring_strike_33 : decode b_Ring_strike 33 = .ok (.invokevirtual 60, 3) := by decide +kernel
theorem d_Ring_strike_36 : decode b_Ring_strike 36 = .ok (.iinc 2 1, 3) := by decide +kernel
theorem d_Ring_strike_39 : decode b_Ring_strike 39 = .ok (.goto (-28), 3) := by decide +kernel
theorem d_Ring_strike_42 : decode b_Ring_strike 42 = .ok (.aload_n 0, 1) := by decide +kernel
theorem d_Ring_strike_43 : decode b_Ring_strike 43 = .ok (.dup, 1) := by decide +kernel
theorem d_Ring_strike_44 : decode b_Ring_strike 44 = .ok (.getfield 25, 3) := by decide +kernel
theorem d_Ring_strike_47 : decode b_Ring_strike 47 = .ok (.iconst 1, 1) := by decide +kernel
theorem d_Ring_strike_48 : decode b_Ring_strike 48 = .ok (.iadd, 1) := by decide +kernel
theorem d_Ring_strike_49 : decode b_Ring_strike 49 = .ok (.putfield 25, 3) := by decide +kernel
theorem d_Ring_strike_52 : decode b_Ring_strike 52 = .ok (.aload_n 0, 1) := by decide +kernel
theorem d_Ring_strike_53 : decode b_Ring_strike 53 = .ok (.getfield 28, 3) := by decide +kernel
theorem d_Ring_strike_56 : decode b_Ring_strike 56 = .ok (.iload_n 1, 1) := by decide +kernel
theorem d_Ring_strike_57 : decode b_Ring_strike 57 = .ok (.isub, 1) := by decide +kernel
theorem d_Ring_strike_58 : decode b_Ring_strike 58 = .ok (.ireturn, 1) := by decide +kernel
set_option maxHeartbeats 4000000 in
set_option maxRecDepth 100000 in
theorem c_Ring_strike {l : Launch} {D : va_G} {cI cJ cC : ClassId} (a_h a_h_kinds a_h_sweets a_h_settings a_h_heaps : Nat) {z_h : RS} {q : Int32 × RS} (hf : f_Ring_strike z_h = some q) : xI l y_Ring_strike b_Ring_strike 3 .int 3 67 D (tyK cI cJ cC) xE0 [.ref a_h] (w_Ring_strike cI cJ cC a_h a_h_kinds a_h_sweets a_h_settings a_h_heaps (r_children z_h) (r_strokes z_h) (r_gave z_h) (r_threw z_h) (r_kinds z_h) (r_sweets z_h) (r_settings z_h) (r_heaps z_h)) q.1 (w_Ring_strike cI cJ cC a_h a_h_kinds a_h_sweets a_h_settings a_h_heaps (r_children q.2) (r_strokes q.2) (r_gave q.2) (r_threw q.2) (r_kinds q.2) (r_sweets q.2) (r_settings q.2) (r_heaps q.2)) := by
  refine xI_of (by decide) (Nat.le_of_ble_eq_true rfl) ?_
  intro p e s m args below meth c A Q hx hb hml hown hT hA hP hD hK hS hE hret ls hl
  have hown : s.vm.findClass R_Ring = some m.cls := hown
  have hl : lv_has ls 3 [(0, .ref a_h)] := hl
  unfold f_Ring_strike at hf
  have L11 : ∀ (x1 : Int32), ∀ (n : Nat) (z_h : RS) (x2 : Int32) (H : Heap) (locs : List Loc) (ls : Array Slot), f_Ring_strike_L11 x1 n z_h x2 = some q → va_P D classes (w_Ring_strike cI cJ cC a_h a_h_kinds a_h_sweets a_h_settings a_h_heaps (r_children z_h) (r_strokes z_h) (r_gave z_h) (r_threw z_h) (r_kinds z_h) (r_sweets z_h) (r_settings z_h) (r_heaps z_h)) H → va_D A (w_Ring_strike cI cJ cC a_h a_h_kinds a_h_sweets a_h_settings a_h_heaps (r_children z_h) (r_strokes z_h) (r_gave z_h) (r_threw z_h) (r_kinds z_h) (r_sweets z_h) (r_settings z_h) (r_heaps z_h)) → va_S A s.heap H locs → lv_has ls 3 [(0, .ref a_h), (1, .int x1), (2, .int x2)] → W p l e (xRm 3 67) s m args below meth c H locs 0 0 Q (F0 m 11 ls []) := by
    intro x1 n
    induction n with
    | zero => intro z_h x2 H locs ls hf hP hD hS hl; exact nomatch (show (none : Option (Int32 × RS)) = some q from hf)
    | succ n ih =>
      intro z_h x2 H locs ls hf hP hD hS hl
      refine lv_iload_n hx hb d_Ring_strike_11 rfl (lv_at hl 2 rfl) ?_
      refine lv_aload_n hx hb d_Ring_strike_12 rfl (lv_at hl 0 rfl) ?_
      refine va_get hx hb hT i_Ring hown hK hP 0 rfl rfl 3 (Nat.le_of_ble_eq_true rfl) (hT _ k_38) (fun _ h => h) rfl d_Ring_strike_13 ?_
      refine lv_icmp_ge (tgt := 42) hx hb d_Ring_strike_16 (by decide) (fun c2 => ?_) (fun c2 => ?_)
      · have hf := io_t hf c2
        refine lv_aload_n hx hb d_Ring_strike_42 rfl (lv_at hl 0 rfl) ?_
        refine lv_dup hx hb d_Ring_strike_43 rfl ?_
        refine va_get hx hb hT i_Ring hown hK hP 0 rfl rfl 4 (Nat.le_of_ble_eq_true rfl) (hT _ k_41) (fun _ h => h) rfl d_Ring_strike_44 ?_
        refine lv_iconst (v := 1) hx hb d_Ring_strike_47 (by decide) ?_
        refine lv_iadd hx hb d_Ring_strike_48 ?_
        refine va_put (ty := .int) hx hb hT i_Ring t_Ring t_Ring_ok n_Ring hown hK hP hD hS 0 rfl rfl 4 (Nat.le_of_ble_eq_true rfl) (hT _ k_41) (fun _ h => h) rfl rfl rfl rfl (Nat.le_of_ble_eq_true rfl) d_Ring_strike_49 (fun H locs hP hD hS => ?_)
        have hP : va_P D classes (w_Ring_strike cI cJ cC a_h a_h_kinds a_h_sweets a_h_settings a_h_heaps (r_children z_h) ((r_strokes z_h) + 1) (r_gave z_h) (r_threw z_h) (r_kinds z_h) (r_sweets z_h) (r_settings z_h) (r_heaps z_h)) H := hP
        have hD : va_D A (w_Ring_strike cI cJ cC a_h a_h_kinds a_h_sweets a_h_settings a_h_heaps (r_children z_h) ((r_strokes z_h) + 1) (r_gave z_h) (r_threw z_h) (r_kinds z_h) (r_sweets z_h) (r_settings z_h) (r_heaps z_h)) := hD
        refine lv_aload_n hx hb d_Ring_strike_52 rfl (lv_at hl 0 rfl) ?_
        refine va_get hx hb hT i_Ring hown hK hP 0 rfl rfl 5 (Nat.le_of_ble_eq_true rfl) (hT _ k_43) (fun _ h => h) rfl d_Ring_strike_53 ?_
        refine lv_iload_n hx hb d_Ring_strike_56 rfl (lv_at hl 1 rfl) ?_
        refine lv_isub hx hb d_Ring_strike_57 ?_
        have hq := Option.some.inj hf
        subst hq
        exact hret _ _ _ _ _ d_Ring_strike_58 rfl rfl hP hD hS
      · have hf := io_f hf c2
        refine lv_aload_n hx hb d_Ring_strike_19 rfl (lv_at hl 0 rfl) ?_
        refine va_get hx hb hT i_Ring hown hK hP 0 rfl rfl 1 (Nat.le_of_ble_eq_true rfl) (hT _ k_31) (fun _ h => h) rfl d_Ring_strike_20 ?_
        refine lv_iload_n hx hb d_Ring_strike_23 rfl (lv_at hl 2 rfl) ?_
        obtain ⟨c3, hf⟩ := io_n hf
        refine x_iald hx hb hK hP 2 0 rfl rfl (j := x2.toNatClampNeg) rfl c3 d_Ring_strike_24 ?_
        refine lv_iconst (v := 2) hx hb d_Ring_strike_25 (by decide) ?_
        refine x_irem hx hb d_Ring_strike_26 (by decide) ?_
        refine lv_iconst (v := 1) hx hb d_Ring_strike_27 (by decide) ?_
        refine lv_icmp_ne (tgt := 36) hx hb d_Ring_strike_28 (by decide) (fun c4 => ?_) (fun c4 => ?_)
        · have hf := io_f hf c4
          refine lv_iinc (v := (x2 + 1)) (lv' := [(2, .int (x2 + 1)), (0, .ref a_h), (1, .int x1)]) hx hb d_Ring_strike_36 hl (k := 2) rfl (by rfl) (by decide) rfl (fun ls hl => ?_)
          refine lv_goto (tgt := 11) hx hb d_Ring_strike_39 (by decide) ?_
          exact ih z_h (x2 + 1) _ _ _ hf hP hD hS (lv_sub hl [1, 2, 0] rfl)
        · have hf := io_t hf c4
          refine lv_aload_n hx hb d_Ring_strike_31 rfl (lv_at hl 0 rfl) ?_
          refine lv_iload_n hx hb d_Ring_strike_32 rfl (lv_at hl 2 rfl) ?_
          obtain ⟨q5, hq5, hf⟩ := io_b hf
          refine xcVV (wc := (w_Ring_mend cI cJ cC a_h a_h_kinds a_h_sweets a_h_settings a_h_heaps (r_children z_h) (r_strokes z_h) (r_gave z_h) (r_threw z_h) (r_kinds z_h) (r_sweets z_h) (r_settings z_h) (r_heaps z_h))) (wc' := (w_Ring_mend cI cJ cC a_h a_h_kinds a_h_sweets a_h_settings a_h_heaps (r_children q5) (r_strokes q5) (r_gave q5) (r_threw q5) (r_kinds q5) (r_sweets q5) (r_settings q5) (r_heaps q5))) (ws' := (w_Ring_strike cI cJ cC a_h a_h_kinds a_h_sweets a_h_settings a_h_heaps (r_children q5) (r_strokes q5) (r_gave q5) (r_threw q5) (r_kinds q5) (r_sweets q5) (r_settings q5) (r_heaps q5))) (As := [.int x2]) (rest := []) hx hb hml hown hT (c_Ring_mend (z_h := z_h) a_h a_h_kinds a_h_sweets a_h_settings a_h_heaps hq5) k_237 k_239 ks_2 k_2 k_240 hd_Ring_mend ⟨Nat.le_of_ble_eq_true rfl, Nat.le_of_ble_eq_true rfl⟩ xE0_ok trivial hA hK hP hD hS [0, 1, 2, 3, 4] [] [0, 1, 2, 3, 4] rfl rfl rfl rfl rfl rfl rfl rfl rfl rfl hl.1 rfl (Nat.le_of_ble_eq_true rfl) ⟨Nat.zero_le _, Nat.zero_le _⟩ d_Ring_strike_33 (fun H locs hP hD hS => ?_)
          refine lv_iinc (v := (x2 + 1)) (lv' := [(2, .int (x2 + 1)), (0, .ref a_h), (1, .int x1)]) hx hb d_Ring_strike_36 hl (k := 2) rfl (by rfl) (by decide) rfl (fun ls hl => ?_)
          refine lv_goto (tgt := 11) hx hb d_Ring_strike_39 (by decide) ?_
          exact ih q5 (x2 + 1) _ _ _ hf hP hD hS (lv_sub hl [1, 2, 0] rfl)
  refine lv_aload_n hx hb d_Ring_strike_0 rfl (lv_at hl 0 rfl) ?_
  refine va_get hx hb hT i_Ring hown hK hP 0 rfl rfl 5 (Nat.le_of_ble_eq_true rfl) (hT _ k_43) (fun _ h => h) rfl d_Ring_strike_1 ?_
  refine lv_istore_n (lv' := [(1, .int (r_gave z_h)), (0, .ref a_h)]) hx hb d_Ring_strike_4 rfl hl (by decide) rfl (fun ls hl => ?_)
  refine lv_aload_n hx hb d_Ring_strike_5 rfl (lv_at hl 1 rfl) ?_
  obtain ⟨q1, hq1, hf⟩ := io_b hf
  refine xcVV (wc := (w_Ring_handOn cI cJ cC a_h a_h_kinds a_h_sweets a_h_settings a_h_heaps (r_children z_h) (r_strokes z_h) (r_gave z_h) (r_threw z_h) (r_kinds z_h) (r_sweets z_h) (r_settings z_h) (r_heaps z_h))) (wc' := (w_Ring_handOn cI cJ cC a_h a_h_kinds a_h_sweets a_h_settings a_h_heaps (r_children q1) (r_strokes q1) (r_gave q1) (r_threw q1) (r_kinds q1) (r_sweets q1) (r_settings q1) (r_heaps q1))) (ws' := (w_Ring_strike cI cJ cC a_h a_h_kinds a_h_sweets a_h_settings a_h_heaps (r_children q1) (r_strokes q1) (r_gave q1) (r_threw q1) (r_kinds q1) (r_sweets q1) (r_settings q1) (r_heaps q1))) (As := []) (rest := []) hx hb hml hown hT (c_Ring_handOn (z_h := z_h) a_h a_h_kinds a_h_sweets a_h_settings a_h_heaps hq1) k_223 k_225 ks_1 k_2 k_226 hd_Ring_handOn ⟨Nat.le_of_ble_eq_true rfl, Nat.le_of_ble_eq_true rfl⟩ xE0_ok trivial hA hK hP hD hS [0, 1, 2, 3, 4] [] [0, 1, 2, 3, 4] rfl rfl rfl rfl rfl rfl rfl rfl rfl rfl hl.1 rfl (Nat.le_of_ble_eq_true rfl) ⟨Nat.zero_le _, Nat.zero_le _⟩ d_Ring_strike_6 (fun H locs hP hD hS => ?_)
  refine lv_iconst (v := 0) hx hb d_Ring_strike_9 (by decide) ?_
  refine lv_istore_n (lv' := [(2, .int 0), (1, .int (r_gave z_h)), (0, .ref a_h)]) hx hb d_Ring_strike_10 rfl hl (by decide) rfl (fun ls hl => ?_)
  exact L11 (r_gave z_h) FU q1 0 _ _ _ hf hP hD hS (lv_sub hl [2, 1, 0] rfl)
abbrev w_Ring_strikeOften (cI cJ cC : ClassId) (a_h a_h_kinds a_h_sweets a_h_settings a_h_heaps : Nat) (p_h_children : Int32) (p_h_strokes : Int32) (p_h_gave : Int32) (p_h_threw : Int32) (p_h_kinds : (Nat → Int32)) (p_h_sweets : (Nat → Int32)) (p_h_settings : (Nat → Int32)) (p_h_heaps : (Nat → Int32)) : va_W := [(a_h, .inr (1, [.ref a_h_kinds, .ref a_h_sweets, .ref a_h_settings, .int p_h_children, .int p_h_strokes, .int p_h_gave, .int p_h_threw, .ref a_h_heaps])), (a_h_kinds, .inl (cI, (8, .inl p_h_kinds))), (a_h_sweets, .inl (cI, (8, .inl p_h_sweets))), (a_h_settings, .inl (cI, (3, .inl p_h_settings))), (a_h_heaps, .inl (cI, (8, .inl p_h_heaps)))]
theorem d_Ring_strikeOften_0 : decode b_Ring_strikeOften 0 = .ok (.iconst 0, 1) := by decide +kernel
theorem d_Ring_strikeOften_1 : decode b_Ring_strikeOften 1 = .ok (.istore_n 2, 1) := by decide +kernel
theorem d_Ring_strikeOften_2 : decode b_Ring_strikeOften 2 = .ok (.iload_n 2, 1) := by decide +kernel
theorem d_Ring_strikeOften_3 : decode b_Ring_strikeOften 3 = .ok (.iload_n 1, 1) := by decide +kernel
theorem d_Ring_strikeOften_4 : decode b_Ring_strikeOften 4 = .ok (.if_icmp .ge 14, 3) := by decide +kernel
theorem d_Ring_strikeOften_7 : decode b_Ring_strikeOften 7 = .ok (.aload_n 0, 1) := by decide +kernel
theorem d_Ring_strikeOften_8 : decode b_Ring_strikeOften 8 = .ok (.invokevirtual 64, 3) := by decide +kernel
theorem d_Ring_strikeOften_11 : decode b_Ring_strikeOften 11 = .ok (.pop, 1) := by decide +kernel
theorem d_Ring_strikeOften_12 : decode b_Ring_strikeOften 12 = .ok (.iinc 2 1, 3) := by decide +kernel
theorem d_Ring_strikeOften_15 : decode b_Ring_strikeOften 15 = .ok (.goto (-13), 3) := by decide +kernel
theorem d_Ring_strikeOften_18 : decode b_Ring_strikeOften 18 = .ok (.return_, 1) := by decide +kernel
set_option maxHeartbeats 4000000 in
set_option maxRecDepth 100000 in
theorem c_Ring_strikeOften {l : Launch} {D : va_G} {cI cJ cC : ClassId} (a_h a_h_kinds a_h_sweets a_h_settings a_h_heaps : Nat) {z_h : RS} {x1 : Int32} {q : RS} (hf : f_Ring_strikeOften z_h x1 = some q) : xV l y_Ring_strikeOften b_Ring_strikeOften 3 4 89 D (tyK cI cJ cC) xE0 [.ref a_h, .int x1] (w_Ring_strikeOften cI cJ cC a_h a_h_kinds a_h_sweets a_h_settings a_h_heaps (r_children z_h) (r_strokes z_h) (r_gave z_h) (r_threw z_h) (r_kinds z_h) (r_sweets z_h) (r_settings z_h) (r_heaps z_h)) (w_Ring_strikeOften cI cJ cC a_h a_h_kinds a_h_sweets a_h_settings a_h_heaps (r_children q) (r_strokes q) (r_gave q) (r_threw q) (r_kinds q) (r_sweets q) (r_settings q) (r_heaps q)) := by
  refine xV_of (by decide) (Nat.le_of_ble_eq_true rfl) ?_
  intro p e s m args below meth c A Q hx hb hml hown hT hA hP hD hK hS hE hret ls hl
  have hown : s.vm.findClass R_Ring = some m.cls := hown
  have hl : lv_has ls 3 [(0, .ref a_h), (1, .int x1)] := hl
  unfold f_Ring_strikeOften at hf
  have L2 : ∀ (n : Nat) (z_h : RS) (x2 : Int32) (H : Heap) (locs : List Loc) (ls : Array Slot), f_Ring_strikeOften_L2 x1 n z_h x2 = some q → va_P D classes (w_Ring_strikeOften cI cJ cC a_h a_h_kinds a_h_sweets a_h_settings a_h_heaps (r_children z_h) (r_strokes z_h) (r_gave z_h) (r_threw z_h) (r_kinds z_h) (r_sweets z_h) (r_settings z_h) (r_heaps z_h)) H → va_D A (w_Ring_strikeOften cI cJ cC a_h a_h_kinds a_h_sweets a_h_settings a_h_heaps (r_children z_h) (r_strokes z_h) (r_gave z_h) (r_threw z_h) (r_kinds z_h) (r_sweets z_h) (r_settings z_h) (r_heaps z_h)) → va_S A s.heap H locs → lv_has ls 3 [(0, .ref a_h), (1, .int x1), (2, .int x2)] → W p l e (xRm 4 89) s m args below meth c H locs 0 0 Q (F0 m 2 ls []) := by
    intro n
    induction n with
    | zero => intro z_h x2 H locs ls hf hP hD hS hl; exact nomatch (show (none : Option (RS)) = some q from hf)
    | succ n ih =>
      intro z_h x2 H locs ls hf hP hD hS hl
      refine lv_iload_n hx hb d_Ring_strikeOften_2 rfl (lv_at hl 2 rfl) ?_
      refine lv_iload_n hx hb d_Ring_strikeOften_3 rfl (lv_at hl 1 rfl) ?_
      refine lv_icmp_ge (tgt := 18) hx hb d_Ring_strikeOften_4 (by decide) (fun c1 => ?_) (fun c1 => ?_)
      · have hf := io_t hf c1
        have hq := Option.some.inj hf
        subst hq
        exact hret _ _ _ _ d_Ring_strikeOften_18 hP hD hS
      · have hf := io_f hf c1
        refine lv_aload_n hx hb d_Ring_strikeOften_7 rfl (lv_at hl 0 rfl) ?_
        obtain ⟨q2, hq2, hf⟩ := io_b hf
        refine xcVI (wc := (w_Ring_strike cI cJ cC a_h a_h_kinds a_h_sweets a_h_settings a_h_heaps (r_children z_h) (r_strokes z_h) (r_gave z_h) (r_threw z_h) (r_kinds z_h) (r_sweets z_h) (r_settings z_h) (r_heaps z_h))) (wc' := (w_Ring_strike cI cJ cC a_h a_h_kinds a_h_sweets a_h_settings a_h_heaps (r_children q2.2) (r_strokes q2.2) (r_gave q2.2) (r_threw q2.2) (r_kinds q2.2) (r_sweets q2.2) (r_settings q2.2) (r_heaps q2.2))) (ws' := (w_Ring_strikeOften cI cJ cC a_h a_h_kinds a_h_sweets a_h_settings a_h_heaps (r_children q2.2) (r_strokes q2.2) (r_gave q2.2) (r_threw q2.2) (r_kinds q2.2) (r_sweets q2.2) (r_settings q2.2) (r_heaps q2.2))) (As := []) (rest := []) hx hb hml hown hT (c_Ring_strike (z_h := z_h) a_h a_h_kinds a_h_sweets a_h_settings a_h_heaps hq2) k_260 k_220 k_221 k_2 k_222 hd_Ring_strike ⟨Nat.le_of_ble_eq_true rfl, Nat.le_of_ble_eq_true rfl⟩ xE0_ok trivial hA hK hP hD hS [0, 1, 2, 3, 4] [] [0, 1, 2, 3, 4] rfl rfl rfl rfl rfl rfl rfl rfl rfl rfl hl.1 rfl (Nat.le_of_ble_eq_true rfl) ⟨Nat.zero_le _, Nat.zero_le _⟩ d_Ring_strikeOften_8 (fun H locs hP hD hS => ?_)
        refine lv_pop hx hb d_Ring_strikeOften_11 rfl ?_
        refine lv_iinc (v := (x2 + 1)) (lv' := [(2, .int (x2 + 1)), (0, .ref a_h), (1, .int x1)]) hx hb d_Ring_strikeOften_12 hl (k := 2) rfl (by rfl) (by decide) rfl (fun ls hl => ?_)
        refine lv_goto (tgt := 2) hx hb d_Ring_strikeOften_15 (by decide) ?_
        exact ih q2.2 (x2 + 1) _ _ _ hf hP hD hS (lv_sub hl [1, 2, 0] rfl)
  refine lv_iconst (v := 0) hx hb d_Ring_strikeOften_0 (by decide) ?_
  refine lv_istore_n (lv' := [(2, .int 0), (0, .ref a_h), (1, .int x1)]) hx hb d_Ring_strikeOften_1 rfl hl (by decide) rfl (fun ls hl => ?_)
  exact L2 FU z_h 0 _ _ _ hf hP hD hS (lv_sub hl [1, 2, 0] rfl)
abbrev w_Ring_hasSweetsOf (cI cJ cC : ClassId) (a_h a_h_kinds a_h_sweets a_h_settings a_h_heaps a_g1 a_g1_kinds a_g1_sweets a_g1_settings a_g1_heaps : Nat) (p_h_children : Int32) (p_h_strokes : Int32) (p_h_gave : Int32) (p_h_threw : Int32) (p_h_sweets : (Nat → Int32)) (p_g1_children : Int32) (p_g1_strokes : Int32) (p_g1_gave : Int32) (p_g1_threw : Int32) (p_g1_sweets : (Nat → Int32)) : va_W := [(a_h, .inr (1, [.ref a_h_kinds, .ref a_h_sweets, .ref a_h_settings, .int p_h_children, .int p_h_strokes, .int p_h_gave, .int p_h_threw, .ref a_h_heaps])), (a_h_sweets, .inl (cI, (8, .inl p_h_sweets))), (a_g1, .inr (1, [.ref a_g1_kinds, .ref a_g1_sweets, .ref a_g1_settings, .int p_g1_children, .int p_g1_strokes, .int p_g1_gave, .int p_g1_threw, .ref a_g1_heaps])), (a_g1_sweets, .inl (cI, (8, .inl p_g1_sweets)))]
theorem d_Ring_hasSweetsOf_0 : decode b_Ring_hasSweetsOf 0 = .ok (.iconst 0, 1) := by decide +kernel
theorem d_Ring_hasSweetsOf_1 : decode b_Ring_hasSweetsOf 1 = .ok (.istore_n 2, 1) := by decide +kernel
theorem d_Ring_hasSweetsOf_2 : decode b_Ring_hasSweetsOf 2 = .ok (.iload_n 2, 1) := by decide +kernel
theorem d_Ring_hasSweetsOf_3 : decode b_Ring_hasSweetsOf 3 = .ok (.aload_n 0, 1) := by decide +kernel
theorem d_Ring_hasSweetsOf_4 : decode b_Ring_hasSweetsOf 4 = .ok (.getfield 21, 3) := by decide +kernel
theorem d_Ring_hasSweetsOf_7 : decode b_Ring_hasSweetsOf 7 = .ok (.if_icmp .ge 26, 3) := by decide +kernel
theorem d_Ring_hasSweetsOf_10 : decode b_Ring_hasSweetsOf 10 = .ok (.aload_n 0, 1) := by decide +kernel
theorem d_Ring_hasSweetsOf_11 : decode b_Ring_hasSweetsOf 11 = .ok (.getfield 15, 3) := by decide +kernel
theorem d_Ring_hasSweetsOf_14 : decode b_Ring_hasSweetsOf 14 = .ok (.iload_n 2, 1) := by decide +kernel
theorem d_Ring_hasSweetsOf_15 : decode b_Ring_hasSweetsOf 15 = .ok (.iaload, 1) := by decide +kernel
theorem d_Ring_hasSweetsOf_16 : decode b_Ring_hasSweetsOf 16 = .ok (.aload_n 1, 1) := by decide +kernel
theorem d_Ring_hasSweetsOf_17 : decode b_Ring_hasSweetsOf 17 = .ok (.getfield 15, 3) := by decide +kernel
theorem d_Ring_hasSweetsOf_20 : decode b_Ring_hasSweetsOf 20 = .ok (.iload_n 2, 1) := by decide +kernel
theorem d_Ring_hasSweetsOf_21 : decode b_Ring_hasSweetsOf 21 = .ok (.iaload, 1) := by decide +kernel
theorem d_Ring_hasSweetsOf_22 : decode b_Ring_hasSweetsOf 22 = .ok (.if_icmp .eq 5, 3) := by decide +kernel
theorem d_Ring_hasSweetsOf_25 : decode b_Ring_hasSweetsOf 25 = .ok (.iconst 0, 1) := by decide +kernel
theorem d_Ring_hasSweetsOf_26 : decode b_Ring_hasSweetsOf 26 = .ok (.ireturn, 1) := by decide +kernel
theorem d_Ring_hasSweetsOf_27 : decode b_Ring_hasSweetsOf 27 = .ok (.iinc 2 1, 3) := by decide +kernel
theorem d_Ring_hasSweetsOf_30 : decode b_Ring_hasSweetsOf 30 = .ok (.goto (-28), 3) := by decide +kernel
theorem d_Ring_hasSweetsOf_33 : decode b_Ring_hasSweetsOf 33 = .ok (.iconst 1, 1) := by decide +kernel
theorem d_Ring_hasSweetsOf_34 : decode b_Ring_hasSweetsOf 34 = .ok (.ireturn, 1) := by decide +kernel
set_option maxHeartbeats 4000000 in
set_option maxRecDepth 100000 in
theorem c_Ring_hasSweetsOf {l : Launch} {D : va_G} {cI cJ cC : ClassId} (a_h a_h_kinds a_h_sweets a_h_settings a_h_heaps a_g1 a_g1_kinds a_g1_sweets a_g1_settings a_g1_heaps : Nat) {z_h : RS} {z_g1 : RS} {q : Int32} (hf : f_Ring_hasSweetsOf z_h z_g1 = some q) : xI l y_Ring_hasSweetsOf b_Ring_hasSweetsOf 3 .boolean 0 0 D (tyK cI cJ cC) xE0 [.ref a_h, .ref a_g1] (w_Ring_hasSweetsOf cI cJ cC a_h a_h_kinds a_h_sweets a_h_settings a_h_heaps a_g1 a_g1_kinds a_g1_sweets a_g1_settings a_g1_heaps (r_children z_h) (r_strokes z_h) (r_gave z_h) (r_threw z_h) (r_sweets z_h) (r_children z_g1) (r_strokes z_g1) (r_gave z_g1) (r_threw z_g1) (r_sweets z_g1)) q (w_Ring_hasSweetsOf cI cJ cC a_h a_h_kinds a_h_sweets a_h_settings a_h_heaps a_g1 a_g1_kinds a_g1_sweets a_g1_settings a_g1_heaps (r_children z_h) (r_strokes z_h) (r_gave z_h) (r_threw z_h) (r_sweets z_h) (r_children z_g1) (r_strokes z_g1) (r_gave z_g1) (r_threw z_g1) (r_sweets z_g1)) := by
  refine xI_of (by decide) (Nat.le_of_ble_eq_true rfl) ?_
  intro p e s m args below meth c A Q hx hb hml hown hT hA hP hD hK hS hE hret ls hl
  have hown : s.vm.findClass R_Ring = some m.cls := hown
  have hl : lv_has ls 3 [(0, .ref a_h), (1, .ref a_g1)] := hl
  unfold f_Ring_hasSweetsOf at hf
  have L2 : ∀ (n : Nat) (x2 : Int32) (H : Heap) (locs : List Loc) (ls : Array Slot), f_Ring_hasSweetsOf_L2 z_h z_g1 n x2 = some q → va_P D classes (w_Ring_hasSweetsOf cI cJ cC a_h a_h_kinds a_h_sweets a_h_settings a_h_heaps a_g1 a_g1_kinds a_g1_sweets a_g1_settings a_g1_heaps (r_children z_h) (r_strokes z_h) (r_gave z_h) (r_threw z_h) (r_sweets z_h) (r_children z_g1) (r_strokes z_g1) (r_gave z_g1) (r_threw z_g1) (r_sweets z_g1)) H → va_D A (w_Ring_hasSweetsOf cI cJ cC a_h a_h_kinds a_h_sweets a_h_settings a_h_heaps a_g1 a_g1_kinds a_g1_sweets a_g1_settings a_g1_heaps (r_children z_h) (r_strokes z_h) (r_gave z_h) (r_threw z_h) (r_sweets z_h) (r_children z_g1) (r_strokes z_g1) (r_gave z_g1) (r_threw z_g1) (r_sweets z_g1)) → va_S A s.heap H locs → lv_has ls 3 [(0, .ref a_h), (1, .ref a_g1), (2, .int x2)] → W p l e (xRm 0 0) s m args below meth c H locs 0 0 Q (F0 m 2 ls []) := by
    intro n
    induction n with
    | zero => intro x2 H locs ls hf hP hD hS hl; exact nomatch (show (none : Option (Int32)) = some q from hf)
    | succ n ih =>
      intro x2 H locs ls hf hP hD hS hl
      refine lv_iload_n hx hb d_Ring_hasSweetsOf_2 rfl (lv_at hl 2 rfl) ?_
      refine lv_aload_n hx hb d_Ring_hasSweetsOf_3 rfl (lv_at hl 0 rfl) ?_
      refine va_get hx hb hT i_Ring hown hK hP 0 rfl rfl 3 (Nat.le_of_ble_eq_true rfl) (hT _ k_38) (fun _ h => h) rfl d_Ring_hasSweetsOf_4 ?_
      refine lv_icmp_ge (tgt := 33) hx hb d_Ring_hasSweetsOf_7 (by decide) (fun c1 => ?_) (fun c1 => ?_)
      · have hf := io_t hf c1
        refine lv_iconst (v := 1) hx hb d_Ring_hasSweetsOf_33 (by decide) ?_
        have hq := Option.some.inj hf
        subst hq
        exact hret _ _ _ _ _ d_Ring_hasSweetsOf_34 (by decide) rfl hP hD hS
      · have hf := io_f hf c1
        refine lv_aload_n hx hb d_Ring_hasSweetsOf_10 rfl (lv_at hl 0 rfl) ?_
        refine va_get hx hb hT i_Ring hown hK hP 0 rfl rfl 1 (Nat.le_of_ble_eq_true rfl) (hT _ k_31) (fun _ h => h) rfl d_Ring_hasSweetsOf_11 ?_
        refine lv_iload_n hx hb d_Ring_hasSweetsOf_14 rfl (lv_at hl 2 rfl) ?_
        obtain ⟨c2, hf⟩ := io_n hf
        refine x_iald hx hb hK hP 1 0 rfl rfl (j := x2.toNatClampNeg) rfl c2 d_Ring_hasSweetsOf_15 ?_
        refine lv_aload_n hx hb d_Ring_hasSweetsOf_16 rfl (lv_at hl 1 rfl) ?_
        refine va_get hx hb hT i_Ring hown hK hP 2 rfl rfl 1 (Nat.le_of_ble_eq_true rfl) (hT _ k_31) (fun _ h => h) rfl d_Ring_hasSweetsOf_17 ?_
        refine lv_iload_n hx hb d_Ring_hasSweetsOf_20 rfl (lv_at hl 2 rfl) ?_
        refine x_iald hx hb hK hP 3 0 rfl rfl (j := x2.toNatClampNeg) rfl c2 d_Ring_hasSweetsOf_21 ?_
        refine lv_icmp_eq (tgt := 27) hx hb d_Ring_hasSweetsOf_22 (by decide) (fun c3 => ?_) (fun c3 => ?_)
        · have hf := io_t hf c3
          refine lv_iinc (v := (x2 + 1)) (lv' := [(2, .int (x2 + 1)), (0, .ref a_h), (1, .ref a_g1)]) hx hb d_Ring_hasSweetsOf_27 hl (k := 2) rfl (by rfl) (by decide) rfl (fun ls hl => ?_)
          refine lv_goto (tgt := 2) hx hb d_Ring_hasSweetsOf_30 (by decide) ?_
          exact ih (x2 + 1) _ _ _ hf hP hD hS (lv_sub hl [1, 2, 0] rfl)
        · have hf := io_f hf c3
          refine lv_iconst (v := 0) hx hb d_Ring_hasSweetsOf_25 (by decide) ?_
          have hq := Option.some.inj hf
          subst hq
          exact hret _ _ _ _ _ d_Ring_hasSweetsOf_26 (by decide) rfl hP hD hS
  refine lv_iconst (v := 0) hx hb d_Ring_hasSweetsOf_0 (by decide) ?_
  refine lv_istore_n (lv' := [(2, .int 0), (0, .ref a_h), (1, .ref a_g1)]) hx hb d_Ring_hasSweetsOf_1 rfl hl (by decide) rfl (fun ls hl => ?_)
  exact L2 FU 0 _ _ _ hf hP hD hS (lv_sub hl [1, 2, 0] rfl)
abbrev w_Ring_allHaveAlike (cI cJ cC : ClassId) (a_h a_h_kinds a_h_sweets a_h_settings a_h_heaps : Nat) (p_h_children : Int32) (p_h_strokes : Int32) (p_h_gave : Int32) (p_h_threw : Int32) (p_h_sweets : (Nat → Int32)) : va_W := [(a_h, .inr (1, [.ref a_h_kinds, .ref a_h_sweets, .ref a_h_settings, .int p_h_children, .int p_h_strokes, .int p_h_gave, .int p_h_threw, .ref a_h_heaps])), (a_h_sweets, .inl (cI, (8, .inl p_h_sweets)))]
theorem d_Ring_allHaveAlike_0 : decode b_Ring_allHaveAlike 0 = .ok (.iconst 1, 1) := by decide +kernel
theorem d_Ring_allHaveAlike_1 : decode b_Ring_allHaveAlike 1 = .ok (.istore_n 1, 1) := by decide +kernel
theorem d_Ring_allHaveAlike_2 : decode b_Ring_allHaveAlike 2 = .ok (.iload_n 1, 1) := by decide +kernel
theorem d_Ring_allHaveAlike_3 : decode b_Ring_allHaveAlike 3 = .ok (.aload_n 0, 1) := by decide +kernel
theorem d_Ring_allHaveAlike_4 : decode b_Ring_allHaveAlike 4 = .ok (.getfield 21, 3) := by decide +kernel
theorem d_Ring_allHaveAlike_7 : decode b_Ring_allHaveAlike 7 = .ok (.if_icmp .ge 26, 3) := by decide +kernel
theorem d_Ring_allHaveAlike_10 : decode b_Ring_allHaveAlike 10 = .ok (.aload_n 0, 1) := by decide +kernel
theorem d_Ring_allHaveAlike_11 : decode b_Ring_allHaveAlike 11 = .ok (.getfield 15, 3) := by decide +kernel
theorem d_Ring_allHaveAlike_14 : decode b_Ring_allHaveAlike 14 = .ok (.iload_n 1, 1) := by decide +kernel
theorem d_Ring_allHaveAlike_15 : decode b_Ring_allHaveAlike 15 = .ok (.iaload, 1) := by decide +kernel
theorem d_Ring_allHaveAlike_16 : decode b_Ring_allHaveAlike 16 = .ok (.aload_n 0, 1) := by decide +kernel
theorem d_Ring_allHaveAlike_17 : decode b_Ring_allHaveAlike 17 = .ok (.getfield 15, 3) := by decide +kernel
theorem d_Ring_allHaveAlike_20 : decode b_Ring_allHaveAlike 20 = .ok (.iconst 0, 1) := by decide +kernel
theorem d_Ring_allHaveAlike_21 : decode b_Ring_allHaveAlike 21 = .ok (.iaload, 1) := by decide +kernel
theorem d_Ring_allHaveAlike_22 : decode b_Ring_allHaveAlike 22 = .ok (.if_icmp .eq 5, 3) := by decide +kernel
theorem d_Ring_allHaveAlike_25 : decode b_Ring_allHaveAlike 25 = .ok (.iconst 0, 1) := by decide +kernel
theorem d_Ring_allHaveAlike_26 : decode b_Ring_allHaveAlike 26 = .ok (.ireturn, 1) := by decide +kernel
theorem d_Ring_allHaveAlike_27 : decode b_Ring_allHaveAlike 27 = .ok (.iinc 1 1, 3) := by decide +kernel
theorem d_Ring_allHaveAlike_30 : decode b_Ring_allHaveAlike 30 = .ok (.goto (-28), 3) := by decide +kernel
theorem d_Ring_allHaveAlike_33 : decode b_Ring_allHaveAlike 33 = .ok (.iconst 1, 1) := by decide +kernel
theorem d_Ring_allHaveAlike_34 : decode b_Ring_allHaveAlike 34 = .ok (.ireturn, 1) := by decide +kernel
set_option maxHeartbeats 4000000 in
set_option maxRecDepth 100000 in
theorem c_Ring_allHaveAlike {l : Launch} {D : va_G} {cI cJ cC : ClassId} (a_h a_h_kinds a_h_sweets a_h_settings a_h_heaps : Nat) {z_h : RS} {q : Int32} (hf : f_Ring_allHaveAlike z_h = some q) : xI l y_Ring_allHaveAlike b_Ring_allHaveAlike 2 .boolean 0 0 D (tyK cI cJ cC) xE0 [.ref a_h] (w_Ring_allHaveAlike cI cJ cC a_h a_h_kinds a_h_sweets a_h_settings a_h_heaps (r_children z_h) (r_strokes z_h) (r_gave z_h) (r_threw z_h) (r_sweets z_h)) q (w_Ring_allHaveAlike cI cJ cC a_h a_h_kinds a_h_sweets a_h_settings a_h_heaps (r_children z_h) (r_strokes z_h) (r_gave z_h) (r_threw z_h) (r_sweets z_h)) := by
  refine xI_of (by decide) (Nat.le_of_ble_eq_true rfl) ?_
  intro p e s m args below meth c A Q hx hb hml hown hT hA hP hD hK hS hE hret ls hl
  have hown : s.vm.findClass R_Ring = some m.cls := hown
  have hl : lv_has ls 2 [(0, .ref a_h)] := hl
  unfold f_Ring_allHaveAlike at hf
  have L2 : ∀ (n : Nat) (x1 : Int32) (H : Heap) (locs : List Loc) (ls : Array Slot), f_Ring_allHaveAlike_L2 z_h n x1 = some q → va_P D classes (w_Ring_allHaveAlike cI cJ cC a_h a_h_kinds a_h_sweets a_h_settings a_h_heaps (r_children z_h) (r_strokes z_h) (r_gave z_h) (r_threw z_h) (r_sweets z_h)) H → va_D A (w_Ring_allHaveAlike cI cJ cC a_h a_h_kinds a_h_sweets a_h_settings a_h_heaps (r_children z_h) (r_strokes z_h) (r_gave z_h) (r_threw z_h) (r_sweets z_h)) → va_S A s.heap H locs → lv_has ls 2 [(0, .ref a_h), (1, .int x1)] → W p l e (xRm 0 0) s m args below meth c H locs 0 0 Q (F0 m 2 ls []) := by
    intro n
    induction n with
    | zero => intro x1 H locs ls hf hP hD hS hl; exact nomatch (show (none : Option (Int32)) = some q from hf)
    | succ n ih =>
      intro x1 H locs ls hf hP hD hS hl
      refine lv_iload_n hx hb d_Ring_allHaveAlike_2 rfl (lv_at hl 1 rfl) ?_
      refine lv_aload_n hx hb d_Ring_allHaveAlike_3 rfl (lv_at hl 0 rfl) ?_
      refine va_get hx hb hT i_Ring hown hK hP 0 rfl rfl 3 (Nat.le_of_ble_eq_true rfl) (hT _ k_38) (fun _ h => h) rfl d_Ring_allHaveAlike_4 ?_
      refine lv_icmp_ge (tgt := 33) hx hb d_Ring_allHaveAlike_7 (by decide) (fun c1 => ?_) (fun c1 => ?_)
      · have hf := io_t hf c1
        refine lv_iconst (v := 1) hx hb d_Ring_allHaveAlike_33 (by decide) ?_
        have hq := Option.some.inj hf
        subst hq
        exact hret _ _ _ _ _ d_Ring_allHaveAlike_34 (by decide) rfl hP hD hS
      · have hf := io_f hf c1
        refine lv_aload_n hx hb d_Ring_allHaveAlike_10 rfl (lv_at hl 0 rfl) ?_
        refine va_get hx hb hT i_Ring hown hK hP 0 rfl rfl 1 (Nat.le_of_ble_eq_true rfl) (hT _ k_31) (fun _ h => h) rfl d_Ring_allHaveAlike_11 ?_
        refine lv_iload_n hx hb d_Ring_allHaveAlike_14 rfl (lv_at hl 1 rfl) ?_
        obtain ⟨c2, hf⟩ := io_n hf
        refine x_iald hx hb hK hP 1 0 rfl rfl (j := x1.toNatClampNeg) rfl c2 d_Ring_allHaveAlike_15 ?_
        refine lv_aload_n hx hb d_Ring_allHaveAlike_16 rfl (lv_at hl 0 rfl) ?_
        refine va_get hx hb hT i_Ring hown hK hP 0 rfl rfl 1 (Nat.le_of_ble_eq_true rfl) (hT _ k_31) (fun _ h => h) rfl d_Ring_allHaveAlike_17 ?_
        refine lv_iconst (v := 0) hx hb d_Ring_allHaveAlike_20 (by decide) ?_
        refine x_iald hx hb hK hP 1 0 rfl rfl (j := 0) (by decide +kernel) (by unfold vp_in; decide +kernel) d_Ring_allHaveAlike_21 ?_
        refine lv_icmp_eq (tgt := 27) hx hb d_Ring_allHaveAlike_22 (by decide) (fun c3 => ?_) (fun c3 => ?_)
        · have hf := io_t hf c3
          refine lv_iinc (v := (x1 + 1)) (lv' := [(1, .int (x1 + 1)), (0, .ref a_h)]) hx hb d_Ring_allHaveAlike_27 hl (k := 1) rfl (by rfl) (by decide) rfl (fun ls hl => ?_)
          refine lv_goto (tgt := 2) hx hb d_Ring_allHaveAlike_30 (by decide) ?_
          exact ih (x1 + 1) _ _ _ hf hP hD hS (lv_sub hl [1, 0] rfl)
        · have hf := io_f hf c3
          refine lv_iconst (v := 0) hx hb d_Ring_allHaveAlike_25 (by decide) ?_
          have hq := Option.some.inj hf
          subst hq
          exact hret _ _ _ _ _ d_Ring_allHaveAlike_26 (by decide) rfl hP hD hS
  refine lv_iconst (v := 1) hx hb d_Ring_allHaveAlike_0 (by decide) ?_
  refine lv_istore_n (lv' := [(1, .int 1), (0, .ref a_h)]) hx hb d_Ring_allHaveAlike_1 rfl hl (by decide) rfl (fun ls hl => ?_)
  exact L2 FU 1 _ _ _ hf hP hD hS (lv_sub hl [1, 0] rfl)
abbrev w_Ring_hasSweetsAndBagOf (cI cJ cC : ClassId) (a_h a_h_kinds a_h_sweets a_h_settings a_h_heaps a_g1 a_g1_kinds a_g1_sweets a_g1_settings a_g1_heaps : Nat) (p_h_children : Int32) (p_h_strokes : Int32) (p_h_gave : Int32) (p_h_threw : Int32) (p_h_sweets : (Nat → Int32)) (p_h_settings : (Nat → Int32)) (p_g1_children : Int32) (p_g1_strokes : Int32) (p_g1_gave : Int32) (p_g1_threw : Int32) (p_g1_sweets : (Nat → Int32)) (p_g1_settings : (Nat → Int32)) : va_W := [(a_h, .inr (1, [.ref a_h_kinds, .ref a_h_sweets, .ref a_h_settings, .int p_h_children, .int p_h_strokes, .int p_h_gave, .int p_h_threw, .ref a_h_heaps])), (a_h_sweets, .inl (cI, (8, .inl p_h_sweets))), (a_h_settings, .inl (cI, (3, .inl p_h_settings))), (a_g1, .inr (1, [.ref a_g1_kinds, .ref a_g1_sweets, .ref a_g1_settings, .int p_g1_children, .int p_g1_strokes, .int p_g1_gave, .int p_g1_threw, .ref a_g1_heaps])), (a_g1_sweets, .inl (cI, (8, .inl p_g1_sweets))), (a_g1_settings, .inl (cI, (3, .inl p_g1_settings)))]
theorem d_Ring_hasSweetsAndBagOf_0 : decode b_Ring_hasSweetsAndBagOf 0 = .ok (.aload_n 0, 1) := by decide +kernel
theorem d_Ring_hasSweetsAndBagOf_1 : decode b_Ring_hasSweetsAndBagOf 1 = .ok (.getfield 18, 3) := by decide +kernel
theorem d_Ring_hasSweetsAndBagOf_4 : decode b_Ring_hasSweetsAndBagOf 4 = .ok (.iconst 2, 1) := by decide +kernel
theorem d_Ring_hasSweetsAndBagOf_5 : decode b_Ring_hasSweetsAndBagOf 5 = .ok (.iaload, 1) := by decide +kernel
theorem d_Ring_hasSweetsAndBagOf_6 : decode b_Ring_hasSweetsAndBagOf 6 = .ok (.aload_n 1, 1) := by decide +kernel
theorem d_Ring_hasSweetsAndBagOf_7 : decode b_Ring_hasSweetsAndBagOf 7 = .ok (.getfield 18, 3) := by decide +kernel
theorem d_Ring_hasSweetsAndBagOf_10 : decode b_Ring_hasSweetsAndBagOf 10 = .ok (.iconst 2, 1) := by decide +kernel
theorem d_Ring_hasSweetsAndBagOf_11 : decode b_Ring_hasSweetsAndBagOf 11 = .ok (.iaload, 1) := by decide +kernel
theorem d_Ring_hasSweetsAndBagOf_12 : decode b_Ring_hasSweetsAndBagOf 12 = .ok (.if_icmp .ne 15, 3) := by decide +kernel
theorem d_Ring_hasSweetsAndBagOf_15 : decode b_Ring_hasSweetsAndBagOf 15 = .ok (.aload_n 0, 1) := by decide +kernel
theorem d_Ring_hasSweetsAndBagOf_16 : decode b_Ring_hasSweetsAndBagOf 16 = .ok (.aload_n 1, 1) := by decide +kernel
theorem d_Ring_hasSweetsAndBagOf_17 : decode b_Ring_hasSweetsAndBagOf 17 = .ok (.invokevirtual 77, 3) := by decide +kernel
theorem d_Ring_hasSweetsAndBagOf_20 : decode b_Ring_hasSweetsAndBagOf 20 = .ok (.ifCond .eq 7, 3) := by decide +kernel
theorem d_Ring_hasSweetsAndBagOf_23 : decode b_Ring_hasSweetsAndBagOf 23 = .ok (.iconst 1, 1) := by decide +kernel
theorem d_Ring_hasSweetsAndBagOf_24 : decode b_Ring_hasSweetsAndBagOf 24 = .ok (.goto 4, 3) := by decide +kernel
theorem d_Ring_hasSweetsAndBagOf_27 : decode b_Ring_hasSweetsAndBagOf 27 = .ok (.iconst 0, 1) := by decide +kernel
theorem d_Ring_hasSweetsAndBagOf_28 : decode b_Ring_hasSweetsAndBagOf 28 = .ok (.ireturn, 1) := by decide +kernel
set_option maxHeartbeats 4000000 in
set_option maxRecDepth 100000 in
theorem c_Ring_hasSweetsAndBagOf {l : Launch} {D : va_G} {cI cJ cC : ClassId} (a_h a_h_kinds a_h_sweets a_h_settings a_h_heaps a_g1 a_g1_kinds a_g1_sweets a_g1_settings a_g1_heaps : Nat) {z_h : RS} {z_g1 : RS} {q : Int32} (hf : f_Ring_hasSweetsAndBagOf z_h z_g1 = some q) : xI l y_Ring_hasSweetsAndBagOf b_Ring_hasSweetsAndBagOf 2 .boolean 1 22 D (tyK cI cJ cC) xE0 [.ref a_h, .ref a_g1] (w_Ring_hasSweetsAndBagOf cI cJ cC a_h a_h_kinds a_h_sweets a_h_settings a_h_heaps a_g1 a_g1_kinds a_g1_sweets a_g1_settings a_g1_heaps (r_children z_h) (r_strokes z_h) (r_gave z_h) (r_threw z_h) (r_sweets z_h) (r_settings z_h) (r_children z_g1) (r_strokes z_g1) (r_gave z_g1) (r_threw z_g1) (r_sweets z_g1) (r_settings z_g1)) q (w_Ring_hasSweetsAndBagOf cI cJ cC a_h a_h_kinds a_h_sweets a_h_settings a_h_heaps a_g1 a_g1_kinds a_g1_sweets a_g1_settings a_g1_heaps (r_children z_h) (r_strokes z_h) (r_gave z_h) (r_threw z_h) (r_sweets z_h) (r_settings z_h) (r_children z_g1) (r_strokes z_g1) (r_gave z_g1) (r_threw z_g1) (r_sweets z_g1) (r_settings z_g1)) := by
  refine xI_of (by decide) (Nat.le_of_ble_eq_true rfl) ?_
  intro p e s m args below meth c A Q hx hb hml hown hT hA hP hD hK hS hE hret ls hl
  have hown : s.vm.findClass R_Ring = some m.cls := hown
  have hl : lv_has ls 2 [(0, .ref a_h), (1, .ref a_g1)] := hl
  unfold f_Ring_hasSweetsAndBagOf at hf
  refine lv_aload_n hx hb d_Ring_hasSweetsAndBagOf_0 rfl (lv_at hl 0 rfl) ?_
  refine va_get hx hb hT i_Ring hown hK hP 0 rfl rfl 2 (Nat.le_of_ble_eq_true rfl) (hT _ k_35) (fun _ h => h) rfl d_Ring_hasSweetsAndBagOf_1 ?_
  refine lv_iconst (v := 2) hx hb d_Ring_hasSweetsAndBagOf_4 (by decide) ?_
  refine x_iald hx hb hK hP 2 0 rfl rfl (j := 2) (by decide +kernel) (by unfold vp_in; decide +kernel) d_Ring_hasSweetsAndBagOf_5 ?_
  refine lv_aload_n hx hb d_Ring_hasSweetsAndBagOf_6 rfl (lv_at hl 1 rfl) ?_
  refine va_get hx hb hT i_Ring hown hK hP 3 rfl rfl 2 (Nat.le_of_ble_eq_true rfl) (hT _ k_35) (fun _ h => h) rfl d_Ring_hasSweetsAndBagOf_7 ?_
  refine lv_iconst (v := 2) hx hb d_Ring_hasSweetsAndBagOf_10 (by decide) ?_
  refine x_iald hx hb hK hP 5 0 rfl rfl (j := 2) (by decide +kernel) (by unfold vp_in; decide +kernel) d_Ring_hasSweetsAndBagOf_11 ?_
  refine lv_icmp_ne (tgt := 27) hx hb d_Ring_hasSweetsAndBagOf_12 (by decide) (fun c1 => ?_) (fun c1 => ?_)
  · have hf := io_f hf c1
    refine lv_iconst (v := 0) hx hb d_Ring_hasSweetsAndBagOf_27 (by decide) ?_
    have hq := Option.some.inj hf
    subst hq
    exact hret _ _ _ _ _ d_Ring_hasSweetsAndBagOf_28 (by decide) rfl hP hD hS
  · have hf := io_t hf c1
    refine lv_aload_n hx hb d_Ring_hasSweetsAndBagOf_15 rfl (lv_at hl 0 rfl) ?_
    refine lv_aload_n hx hb d_Ring_hasSweetsAndBagOf_16 rfl (lv_at hl 1 rfl) ?_
    obtain ⟨q2, hq2, hf⟩ := io_b hf
    refine xcVI (wc := (w_Ring_hasSweetsOf cI cJ cC a_h a_h_kinds a_h_sweets a_h_settings a_h_heaps a_g1 a_g1_kinds a_g1_sweets a_g1_settings a_g1_heaps (r_children z_h) (r_strokes z_h) (r_gave z_h) (r_threw z_h) (r_sweets z_h) (r_children z_g1) (r_strokes z_g1) (r_gave z_g1) (r_threw z_g1) (r_sweets z_g1))) (wc' := (w_Ring_hasSweetsOf cI cJ cC a_h a_h_kinds a_h_sweets a_h_settings a_h_heaps a_g1 a_g1_kinds a_g1_sweets a_g1_settings a_g1_heaps (r_children z_h) (r_strokes z_h) (r_gave z_h) (r_threw z_h) (r_sweets z_h) (r_children z_g1) (r_strokes z_g1) (r_gave z_g1) (r_threw z_g1) (r_sweets z_g1))) (ws' := (w_Ring_hasSweetsAndBagOf cI cJ cC a_h a_h_kinds a_h_sweets a_h_settings a_h_heaps a_g1 a_g1_kinds a_g1_sweets a_g1_settings a_g1_heaps (r_children z_h) (r_strokes z_h) (r_gave z_h) (r_threw z_h) (r_sweets z_h) (r_settings z_h) (r_children z_g1) (r_strokes z_g1) (r_gave z_g1) (r_threw z_g1) (r_sweets z_g1) (r_settings z_g1))) (As := [.ref a_g1]) (rest := []) hx hb hml hown hT (c_Ring_hasSweetsOf (z_h := z_h) (z_g1 := z_g1) a_h a_h_kinds a_h_sweets a_h_settings a_h_heaps a_g1 a_g1_kinds a_g1_sweets a_g1_settings a_g1_heaps hq2) k_316 k_286 k_287 k_2 k_288 hd_Ring_hasSweetsOf ⟨Nat.le_of_ble_eq_true rfl, Nat.le_of_ble_eq_true rfl⟩ xE0_ok trivial hA hK hP hD hS [0, 1, 3, 4] [2, 5] [2, 3, 0, 4, 5, 1] rfl rfl rfl rfl rfl rfl rfl rfl rfl rfl hl.1 rfl (Nat.le_of_ble_eq_true rfl) ⟨Nat.zero_le _, Nat.zero_le _⟩ d_Ring_hasSweetsAndBagOf_17 (fun H locs hP hD hS => ?_)
    refine lv_if_eq (tgt := 27) hx hb d_Ring_hasSweetsAndBagOf_20 (by decide) (fun c3 => ?_) (fun c3 => ?_)
    · have hf := io_t hf c3
      refine lv_iconst (v := 0) hx hb d_Ring_hasSweetsAndBagOf_27 (by decide) ?_
      have hq := Option.some.inj hf
      subst hq
      exact hret _ _ _ _ _ d_Ring_hasSweetsAndBagOf_28 (by decide) rfl hP hD hS
    · have hf := io_f hf c3
      refine lv_iconst (v := 1) hx hb d_Ring_hasSweetsAndBagOf_23 (by decide) ?_
      refine lv_goto (tgt := 28) hx hb d_Ring_hasSweetsAndBagOf_24 (by decide) ?_
      have hq := Option.some.inj hf
      subst hq
      exact hret _ _ _ _ _ d_Ring_hasSweetsAndBagOf_28 (by decide) rfl hP hD hS
abbrev w_Ring_allSweets (cI cJ cC : ClassId) (a_h a_h_kinds a_h_sweets a_h_settings a_h_heaps : Nat) (p_h_children : Int32) (p_h_strokes : Int32) (p_h_gave : Int32) (p_h_threw : Int32) (p_h_sweets : (Nat → Int32)) : va_W := [(a_h, .inr (1, [.ref a_h_kinds, .ref a_h_sweets, .ref a_h_settings, .int p_h_children, .int p_h_strokes, .int p_h_gave, .int p_h_threw, .ref a_h_heaps])), (a_h_sweets, .inl (cI, (8, .inl p_h_sweets)))]
theorem d_Ring_allSweets_0 : decode b_Ring_allSweets 0 = .ok (.iconst 0, 1) := by decide +kernel
theorem d_Ring_allSweets_1 : decode b_Ring_allSweets 1 = .ok (.istore_n 1, 1) := by decide +kernel
theorem d_Ring_allSweets_2 : decode b_Ring_allSweets 2 = .ok (.iconst 0, 1) := by decide +kernel
theorem d_Ring_allSweets_3 : decode b_Ring_allSweets 3 = .ok (.istore_n 2, 1) := by decide +kernel
theorem d_Ring_allSweets_4 : decode b_Ring_allSweets 4 = .ok (.iload_n 2, 1) := by decide +kernel
theorem d_Ring_allSweets_5 : decode b_Ring_allSweets 5 = .ok (.aload_n 0, 1) := by decide +kernel
theorem d_Ring_allSweets_6 : decode b_Ring_allSweets 6 = .ok (.getfield 21, 3) := by decide +kernel
theorem d_Ring_allSweets_9 : decode b_Ring_allSweets 9 = .ok (.if_icmp .ge 18, 3) := by decide +kernel
theorem d_Ring_allSweets_12 : decode b_Ring_allSweets 12 = .ok (.iload_n 1, 1) := by decide +kernel
theorem d_Ring_allSweets_13 : decode b_Ring_allSweets 13 = .ok (.aload_n 0, 1) := by decide +kernel
theorem d_Ring_allSweets_14 : decode b_Ring_allSweets 14 = .ok (.getfield 15, 3) := by decide +kernel
theorem d_Ring_allSweets_17 : decode b_Ring_allSweets 17 = .ok (.iload_n 2, 1) := by decide +kernel
theorem d_Ring_allSweets_18 : decode b_Ring_allSweets 18 = .ok (.iaload, 1) := by decide +kernel
theorem d_Ring_allSweets_19 : decode b_Ring_allSweets 19 = .ok (.iadd, 1) := by decide +kernel
theorem d_Ring_allSweets_20 : decode b_Ring_allSweets 20 = .ok (.istore_n 1, 1) := by decide +kernel
theorem d_Ring_allSweets_21 : decode b_Ring_allSweets 21 = .ok (.iinc 2 1, 3) := by decide +kernel
theorem d_Ring_allSweets_24 : decode b_Ring_allSweets 24 = .ok (.goto (-20), 3) := by decide +kernel
theorem d_Ring_allSweets_27 : decode b_Ring_allSweets 27 = .ok (.iload_n 1, 1) := by decide +kernel
theorem d_Ring_allSweets_28 : decode b_Ring_allSweets 28 = .ok (.ireturn, 1) := by decide +kernel
set_option maxHeartbeats 4000000 in
set_option maxRecDepth 100000 in
theorem c_Ring_allSweets {l : Launch} {D : va_G} {cI cJ cC : ClassId} (a_h a_h_kinds a_h_sweets a_h_settings a_h_heaps : Nat) {z_h : RS} {q : Int32} (hf : f_Ring_allSweets z_h = some q) : xI l y_Ring_allSweets b_Ring_allSweets 3 .int 0 0 D (tyK cI cJ cC) xE0 [.ref a_h] (w_Ring_allSweets cI cJ cC a_h a_h_kinds a_h_sweets a_h_settings a_h_heaps (r_children z_h) (r_strokes z_h) (r_gave z_h) (r_threw z_h) (r_sweets z_h)) q (w_Ring_allSweets cI cJ cC a_h a_h_kinds a_h_sweets a_h_settings a_h_heaps (r_children z_h) (r_strokes z_h) (r_gave z_h) (r_threw z_h) (r_sweets z_h)) := by
  refine xI_of (by decide) (Nat.le_of_ble_eq_true rfl) ?_
  intro p e s m args below meth c A Q hx hb hml hown hT hA hP hD hK hS hE hret ls hl
  have hown : s.vm.findClass R_Ring = some m.cls := hown
  have hl : lv_has ls 3 [(0, .ref a_h)] := hl
  unfold f_Ring_allSweets at hf
  have L4 : ∀ (n : Nat) (x1 : Int32) (x2 : Int32) (H : Heap) (locs : List Loc) (ls : Array Slot), f_Ring_allSweets_L4 z_h n x1 x2 = some q → va_P D classes (w_Ring_allSweets cI cJ cC a_h a_h_kinds a_h_sweets a_h_settings a_h_heaps (r_children z_h) (r_strokes z_h) (r_gave z_h) (r_threw z_h) (r_sweets z_h)) H → va_D A (w_Ring_allSweets cI cJ cC a_h a_h_kinds a_h_sweets a_h_settings a_h_heaps (r_children z_h) (r_strokes z_h) (r_gave z_h) (r_threw z_h) (r_sweets z_h)) → va_S A s.heap H locs → lv_has ls 3 [(0, .ref a_h), (1, .int x1), (2, .int x2)] → W p l e (xRm 0 0) s m args below meth c H locs 0 0 Q (F0 m 4 ls []) := by
    intro n
    induction n with
    | zero => intro x1 x2 H locs ls hf hP hD hS hl; exact nomatch (show (none : Option (Int32)) = some q from hf)
    | succ n ih =>
      intro x1 x2 H locs ls hf hP hD hS hl
      refine lv_iload_n hx hb d_Ring_allSweets_4 rfl (lv_at hl 2 rfl) ?_
      refine lv_aload_n hx hb d_Ring_allSweets_5 rfl (lv_at hl 0 rfl) ?_
      refine va_get hx hb hT i_Ring hown hK hP 0 rfl rfl 3 (Nat.le_of_ble_eq_true rfl) (hT _ k_38) (fun _ h => h) rfl d_Ring_allSweets_6 ?_
      refine lv_icmp_ge (tgt := 27) hx hb d_Ring_allSweets_9 (by decide) (fun c1 => ?_) (fun c1 => ?_)
      · have hf := io_t hf c1
        refine lv_iload_n hx hb d_Ring_allSweets_27 rfl (lv_at hl 1 rfl) ?_
        have hq := Option.some.inj hf
        subst hq
        exact hret _ _ _ _ _ d_Ring_allSweets_28 rfl rfl hP hD hS
      · have hf := io_f hf c1
        refine lv_iload_n hx hb d_Ring_allSweets_12 rfl (lv_at hl 1 rfl) ?_
        refine lv_aload_n hx hb d_Ring_allSweets_13 rfl (lv_at hl 0 rfl) ?_
        refine va_get hx hb hT i_Ring hown hK hP 0 rfl rfl 1 (Nat.le_of_ble_eq_true rfl) (hT _ k_31) (fun _ h => h) rfl d_Ring_allSweets_14 ?_
        refine lv_iload_n hx hb d_Ring_allSweets_17 rfl (lv_at hl 2 rfl) ?_
        obtain ⟨c2, hf⟩ := io_n hf
        refine x_iald hx hb hK hP 1 0 rfl rfl (j := x2.toNatClampNeg) rfl c2 d_Ring_allSweets_18 ?_
        refine lv_iadd hx hb d_Ring_allSweets_19 ?_
        refine lv_istore_n (lv' := [(1, .int (x1 + ((r_sweets z_h) x2.toNatClampNeg))), (0, .ref a_h), (2, .int x2)]) hx hb d_Ring_allSweets_20 rfl hl (by decide) rfl (fun ls hl => ?_)
        refine lv_iinc (v := (x2 + 1)) (lv' := [(2, .int (x2 + 1)), (1, .int (x1 + ((r_sweets z_h) x2.toNatClampNeg))), (0, .ref a_h)]) hx hb d_Ring_allSweets_21 hl (k := 2) rfl (by rfl) (by decide) rfl (fun ls hl => ?_)
        refine lv_goto (tgt := 4) hx hb d_Ring_allSweets_24 (by decide) ?_
        exact ih (x1 + ((r_sweets z_h) x2.toNatClampNeg)) (x2 + 1) _ _ _ hf hP hD hS (lv_sub hl [2, 1, 0] rfl)
  refine lv_iconst (v := 0) hx hb d_Ring_allSweets_0 (by decide) ?_
  refine lv_istore_n (lv' := [(1, .int 0), (0, .ref a_h)]) hx hb d_Ring_allSweets_1 rfl hl (by decide) rfl (fun ls hl => ?_)
  refine lv_iconst (v := 0) hx hb d_Ring_allSweets_2 (by decide) ?_
  refine lv_istore_n (lv' := [(2, .int 0), (1, .int 0), (0, .ref a_h)]) hx hb d_Ring_allSweets_3 rfl hl (by decide) rfl (fun ls hl => ?_)
  exact L4 FU 0 0 _ _ _ hf hP hD hS (lv_sub hl [2, 1, 0] rfl)
abbrev w_Ring_commonDivisor (cI cJ cC : ClassId) (a_h a_h_kinds a_h_sweets a_h_settings a_h_heaps : Nat) (p_h_children : Int32) (p_h_strokes : Int32) (p_h_gave : Int32) (p_h_threw : Int32) (p_h_sweets : (Nat → Int32)) : va_W := [(a_h, .inr (1, [.ref a_h_kinds, .ref a_h_sweets, .ref a_h_settings, .int p_h_children, .int p_h_strokes, .int p_h_gave, .int p_h_threw, .ref a_h_heaps])), (a_h_sweets, .inl (cI, (8, .inl p_h_sweets)))]
theorem d_Ring_commonDivisor_0 : decode b_Ring_commonDivisor 0 = .ok (.aload_n 0, 1) := by decide +kernel
theorem d_Ring_commonDivisor_1 : decode b_Ring_commonDivisor 1 = .ok (.invokevirtual 74, 3) := by decide +kernel
theorem d_Ring_commonDivisor_4 : decode b_Ring_commonDivisor 4 = .ok (.istore_n 1, 1) := by decide +kernel
theorem d_Ring_commonDivisor_5 : decode b_Ring_commonDivisor 5 = .ok (.aload_n 0, 1) := by decide +kernel
theorem d_Ring_commonDivisor_6 : decode b_Ring_commonDivisor 6 = .ok (.getfield 21, 3) := by decide +kernel
theorem d_Ring_commonDivisor_9 : decode b_Ring_commonDivisor 9 = .ok (.istore_n 2, 1) := by decide +kernel
theorem d_Ring_commonDivisor_10 : decode b_Ring_commonDivisor 10 = .ok (.iload_n 2, 1) := by decide +kernel
theorem d_Ring_commonDivisor_11 : decode b_Ring_commonDivisor 11 = .ok (.iconst 1, 1) := by decide +kernel
theorem d_Ring_commonDivisor_12 : decode b_Ring_commonDivisor 12 = .ok (.if_icmp .le 26, 3) := by decide +kernel
theorem d_Ring_commonDivisor_15 : decode b_Ring_commonDivisor 15 = .ok (.aload_n 0, 1) := by decide +kernel
theorem d_Ring_commonDivisor_16 : decode b_Ring_commonDivisor 16 = .ok (.getfield 21, 3) := by decide +kernel
theorem d_Ring_commonDivisor_19 : decode b_Ring_commonDivisor 19 = .ok (.iload_n 2, 1) := by decide +kernel
theorem d_Ring_commonDivisor_20 : decode b_Ring_commonDivisor 20 = .ok (.irem, 1) := by decide +kernel
theorem d_Ring_commonDivisor_21 : decode b_Ring_commonDivisor 21 = .ok (.ifCond .ne 11, 3) := by decide +kernel
theorem d_Ring_commonDivisor_24 : decode b_Ring_commonDivisor 24 = .ok (.iload_n 1, 1) := by decide +kernel
theorem d_Ring_commonDivisor_25 : decode b_Ring_commonDivisor 25 = .ok (.iload_n 2, 1) := by decide +kernel
theorem d_Ring_commonDivisor_26 : decode b_Ring_commonDivisor 26 = .ok (.irem, 1) := by decide +kernel
theorem d_Ring_commonDivisor_27 : decode b_Ring_commonDivisor 27 = .ok (.ifCond .ne 5, 3) := by decide +kernel
theorem d_Ring_commonDivisor_30 : decode b_Ring_commonDivisor 30 = .ok (.iload_n 2, 1) := by decide +kernel
theorem d_Ring_commonDivisor_31 : decode b_Ring_commonDivisor 31 = .ok (.ireturn, 1) := by decide +kernel
theorem d_Ring_commonDivisor_32 : decode b_Ring_commonDivisor 32 = .ok (.iinc 2 (-1), 3) := by decide +kernel
theorem d_Ring_commonDivisor_35 : decode b_Ring_commonDivisor 35 = .ok (.goto (-25), 3) := by decide +kernel
theorem d_Ring_commonDivisor_38 : decode b_Ring_commonDivisor 38 = .ok (.iconst 1, 1) := by decide +kernel
theorem d_Ring_commonDivisor_39 : decode b_Ring_commonDivisor 39 = .ok (.ireturn, 1) := by decide +kernel
set_option maxHeartbeats 4000000 in
set_option maxRecDepth 100000 in
theorem c_Ring_commonDivisor {l : Launch} {D : va_G} {cI cJ cC : ClassId} (a_h a_h_kinds a_h_sweets a_h_settings a_h_heaps : Nat) {z_h : RS} {q : Int32} (hf : f_Ring_commonDivisor z_h = some q) : xI l y_Ring_commonDivisor b_Ring_commonDivisor 3 .int 1 22 D (tyK cI cJ cC) xE0 [.ref a_h] (w_Ring_commonDivisor cI cJ cC a_h a_h_kinds a_h_sweets a_h_settings a_h_heaps (r_children z_h) (r_strokes z_h) (r_gave z_h) (r_threw z_h) (r_sweets z_h)) q (w_Ring_commonDivisor cI cJ cC a_h a_h_kinds a_h_sweets a_h_settings a_h_heaps (r_children z_h) (r_strokes z_h) (r_gave z_h) (r_threw z_h) (r_sweets z_h)) := by
  refine xI_of (by decide) (Nat.le_of_ble_eq_true rfl) ?_
  intro p e s m args below meth c A Q hx hb hml hown hT hA hP hD hK hS hE hret ls hl
  have hown : s.vm.findClass R_Ring = some m.cls := hown
  have hl : lv_has ls 3 [(0, .ref a_h)] := hl
  unfold f_Ring_commonDivisor at hf
  have L10 : ∀ (x1 : Int32), ∀ (n : Nat) (x2 : Int32) (H : Heap) (locs : List Loc) (ls : Array Slot), f_Ring_commonDivisor_L10 z_h x1 n x2 = some q → va_P D classes (w_Ring_commonDivisor cI cJ cC a_h a_h_kinds a_h_sweets a_h_settings a_h_heaps (r_children z_h) (r_strokes z_h) (r_gave z_h) (r_threw z_h) (r_sweets z_h)) H → va_D A (w_Ring_commonDivisor cI cJ cC a_h a_h_kinds a_h_sweets a_h_settings a_h_heaps (r_children z_h) (r_strokes z_h) (r_gave z_h) (r_threw z_h) (r_sweets z_h)) → va_S A s.heap H locs → lv_has ls 3 [(0, .ref a_h), (1, .int x1), (2, .int x2)] → W p l e (xRm 1 22) s m args below meth c H locs 0 0 Q (F0 m 10 ls []) := by
    intro x1 n
    induction n with
    | zero => intro x2 H locs ls hf hP hD hS hl; exact nomatch (show (none : Option (Int32)) = some q from hf)
    | succ n ih =>
      intro x2 H locs ls hf hP hD hS hl
      refine lv_iload_n hx hb d_Ring_commonDivisor_10 rfl (lv_at hl 2 rfl) ?_
      refine lv_iconst (v := 1) hx hb d_Ring_commonDivisor_11 (by decide) ?_
      refine lv_icmp_le (tgt := 38) hx hb d_Ring_commonDivisor_12 (by decide) (fun c2 => ?_) (fun c2 => ?_)
      · have hf := io_t hf c2
        refine lv_iconst (v := 1) hx hb d_Ring_commonDivisor_38 (by decide) ?_
        have hq := Option.some.inj hf
        subst hq
        exact hret _ _ _ _ _ d_Ring_commonDivisor_39 rfl rfl hP hD hS
      · have hf := io_f hf c2
        refine lv_aload_n hx hb d_Ring_commonDivisor_15 rfl (lv_at hl 0 rfl) ?_
        refine va_get hx hb hT i_Ring hown hK hP 0 rfl rfl 3 (Nat.le_of_ble_eq_true rfl) (hT _ k_38) (fun _ h => h) rfl d_Ring_commonDivisor_16 ?_
        refine lv_iload_n hx hb d_Ring_commonDivisor_19 rfl (lv_at hl 2 rfl) ?_
        obtain ⟨c3, hf⟩ := io_n hf
        refine x_irem hx hb d_Ring_commonDivisor_20 c3 ?_
        refine lv_if_ne (tgt := 32) hx hb d_Ring_commonDivisor_21 (by decide) (fun c4 => ?_) (fun c4 => ?_)
        · have hf := io_f hf c4
          refine lv_iinc (v := (x2 + (-1))) (lv' := [(2, .int (x2 + (-1))), (0, .ref a_h), (1, .int x1)]) hx hb d_Ring_commonDivisor_32 hl (k := 2) rfl (by rfl) (by decide) rfl (fun ls hl => ?_)
          refine lv_goto (tgt := 10) hx hb d_Ring_commonDivisor_35 (by decide) ?_
          exact ih (x2 + (-1)) _ _ _ hf hP hD hS (lv_sub hl [1, 2, 0] rfl)
        · have hf := io_t hf c4
          refine lv_iload_n hx hb d_Ring_commonDivisor_24 rfl (lv_at hl 1 rfl) ?_
          refine lv_iload_n hx hb d_Ring_commonDivisor_25 rfl (lv_at hl 2 rfl) ?_
          refine x_irem hx hb d_Ring_commonDivisor_26 c3 ?_
          refine lv_if_ne (tgt := 32) hx hb d_Ring_commonDivisor_27 (by decide) (fun c5 => ?_) (fun c5 => ?_)
          · have hf := io_f hf c5
            refine lv_iinc (v := (x2 + (-1))) (lv' := [(2, .int (x2 + (-1))), (0, .ref a_h), (1, .int x1)]) hx hb d_Ring_commonDivisor_32 hl (k := 2) rfl (by rfl) (by decide) rfl (fun ls hl => ?_)
            refine lv_goto (tgt := 10) hx hb d_Ring_commonDivisor_35 (by decide) ?_
            exact ih (x2 + (-1)) _ _ _ hf hP hD hS (lv_sub hl [1, 2, 0] rfl)
          · have hf := io_t hf c5
            refine lv_iload_n hx hb d_Ring_commonDivisor_30 rfl (lv_at hl 2 rfl) ?_
            have hq := Option.some.inj hf
            subst hq
            exact hret _ _ _ _ _ d_Ring_commonDivisor_31 rfl rfl hP hD hS
  refine lv_aload_n hx hb d_Ring_commonDivisor_0 rfl (lv_at hl 0 rfl) ?_
  obtain ⟨q1, hq1, hf⟩ := io_b hf
  refine xcVI (wc := (w_Ring_allSweets cI cJ cC a_h a_h_kinds a_h_sweets a_h_settings a_h_heaps (r_children z_h) (r_strokes z_h) (r_gave z_h) (r_threw z_h) (r_sweets z_h))) (wc' := (w_Ring_allSweets cI cJ cC a_h a_h_kinds a_h_sweets a_h_settings a_h_heaps (r_children z_h) (r_strokes z_h) (r_gave z_h) (r_threw z_h) (r_sweets z_h))) (ws' := (w_Ring_commonDivisor cI cJ cC a_h a_h_kinds a_h_sweets a_h_settings a_h_heaps (r_children z_h) (r_strokes z_h) (r_gave z_h) (r_threw z_h) (r_sweets z_h))) (As := []) (rest := []) hx hb hml hown hT (c_Ring_allSweets (z_h := z_h) a_h a_h_kinds a_h_sweets a_h_settings a_h_heaps hq1) k_373 k_374 k_375 k_2 k_376 hd_Ring_allSweets ⟨Nat.le_of_ble_eq_true rfl, Nat.le_of_ble_eq_true rfl⟩ xE0_ok trivial hA hK hP hD hS [0, 1] [] [0, 1] rfl rfl rfl rfl rfl rfl rfl rfl rfl rfl hl.1 rfl (Nat.le_of_ble_eq_true rfl) ⟨Nat.zero_le _, Nat.zero_le _⟩ d_Ring_commonDivisor_1 (fun H locs hP hD hS => ?_)
  refine lv_istore_n (lv' := [(1, .int q1), (0, .ref a_h)]) hx hb d_Ring_commonDivisor_4 rfl hl (by decide) rfl (fun ls hl => ?_)
  refine lv_aload_n hx hb d_Ring_commonDivisor_5 rfl (lv_at hl 1 rfl) ?_
  refine va_get hx hb hT i_Ring hown hK hP 0 rfl rfl 3 (Nat.le_of_ble_eq_true rfl) (hT _ k_38) (fun _ h => h) rfl d_Ring_commonDivisor_6 ?_
  refine lv_istore_n (lv' := [(2, .int (r_children z_h)), (1, .int q1), (0, .ref a_h)]) hx hb d_Ring_commonDivisor_9 rfl hl (by decide) rfl (fun ls hl => ?_)
  exact L10 q1 FU (r_children z_h) _ _ _ hf hP hD hS (lv_sub hl [2, 1, 0] rfl)
abbrev w_Ring_oddHeaps (cI cJ cC : ClassId) (a_h a_h_kinds a_h_sweets a_h_settings a_h_heaps : Nat) (p_h_children : Int32) (p_h_strokes : Int32) (p_h_gave : Int32) (p_h_threw : Int32) (p_h_sweets : (Nat → Int32)) : va_W := [(a_h, .inr (1, [.ref a_h_kinds, .ref a_h_sweets, .ref a_h_settings, .int p_h_children, .int p_h_strokes, .int p_h_gave, .int p_h_threw, .ref a_h_heaps])), (a_h_sweets, .inl (cI, (8, .inl p_h_sweets)))]
theorem d_Ring_oddHeaps_0 : decode b_Ring_oddHeaps 0 = .ok (.iconst 0, 1) := by decide +kernel
theorem d_Ring_oddHeaps_1 : decode b_Ring_oddHeaps 1 = .ok (.istore_n 1, 1) := by decide +kernel
theorem d_Ring_oddHeaps_2 : decode b_Ring_oddHeaps 2 = .ok (.iconst 0, 1) := by decide +kernel
theorem d_Ring_oddHeaps_3 : decode b_Ring_oddHeaps 3 = .ok (.istore_n 2, 1) := by decide +kernel
theorem d_Ring_oddHeaps_4 : decode b_Ring_oddHeaps 4 = .ok (.iload_n 2, 1) := by decide +kernel
theorem d_Ring_oddHeaps_5 : decode b_Ring_oddHeaps 5 = .ok (.aload_n 0, 1) := by decide +kernel
theorem d_Ring_oddHeaps_6 : decode b_Ring_oddHeaps 6 = .ok (.getfield 21, 3) := by decide +kernel
theorem d_Ring_oddHeaps_9 : decode b_Ring_oddHeaps 9 = .ok (.if_icmp .ge 20, 3) := by decide +kernel
theorem d_Ring_oddHeaps_12 : decode b_Ring_oddHeaps 12 = .ok (.iload_n 1, 1) := by decide +kernel
theorem d_Ring_oddHeaps_13 : decode b_Ring_oddHeaps 13 = .ok (.aload_n 0, 1) := by decide +kernel
theorem d_Ring_oddHeaps_14 : decode b_Ring_oddHeaps 14 = .ok (.getfield 15, 3) := by decide +kernel
theorem d_Ring_oddHeaps_17 : decode b_Ring_oddHeaps 17 = .ok (.iload_n 2, 1) := by decide +kernel
theorem d_Ring_oddHeaps_18 : decode b_Ring_oddHeaps 18 = .ok (.iaload, 1) := by decide +kernel
theorem d_Ring_oddHeaps_19 : decode b_Ring_oddHeaps 19 = .ok (.iconst 2, 1) := by decide +kernel
theorem d_Ring_oddHeaps_20 : decode b_Ring_oddHeaps 20 = .ok (.irem, 1) := by decide +kernel
theorem d_Ring_oddHeaps_21 : decode b_Ring_oddHeaps 21 = .ok (.iadd, 1) := by decide +kernel
theorem d_Ring_oddHeaps_22 : decode b_Ring_oddHeaps 22 = .ok (.istore_n 1, 1) := by decide +kernel
theorem d_Ring_oddHeaps_23 : decode b_Ring_oddHeaps 23 = .ok (.iinc 2 1, 3) := by decide +kernel
theorem d_Ring_oddHeaps_26 : decode b_Ring_oddHeaps 26 = .ok (.goto (-22), 3) := by decide +kernel
theorem d_Ring_oddHeaps_29 : decode b_Ring_oddHeaps 29 = .ok (.iload_n 1, 1) := by decide +kernel
theorem d_Ring_oddHeaps_30 : decode b_Ring_oddHeaps 30 = .ok (.ireturn, 1) := by decide +kernel
set_option maxHeartbeats 4000000 in
set_option maxRecDepth 100000 in
theorem c_Ring_oddHeaps {l : Launch} {D : va_G} {cI cJ cC : ClassId} (a_h a_h_kinds a_h_sweets a_h_settings a_h_heaps : Nat) {z_h : RS} {q : Int32} (hf : f_Ring_oddHeaps z_h = some q) : xI l y_Ring_oddHeaps b_Ring_oddHeaps 3 .int 0 0 D (tyK cI cJ cC) xE0 [.ref a_h] (w_Ring_oddHeaps cI cJ cC a_h a_h_kinds a_h_sweets a_h_settings a_h_heaps (r_children z_h) (r_strokes z_h) (r_gave z_h) (r_threw z_h) (r_sweets z_h)) q (w_Ring_oddHeaps cI cJ cC a_h a_h_kinds a_h_sweets a_h_settings a_h_heaps (r_children z_h) (r_strokes z_h) (r_gave z_h) (r_threw z_h) (r_sweets z_h)) := by
  refine xI_of (by decide) (Nat.le_of_ble_eq_true rfl) ?_
  intro p e s m args below meth c A Q hx hb hml hown hT hA hP hD hK hS hE hret ls hl
  have hown : s.vm.findClass R_Ring = some m.cls := hown
  have hl : lv_has ls 3 [(0, .ref a_h)] := hl
  unfold f_Ring_oddHeaps at hf
  have L4 : ∀ (n : Nat) (x1 : Int32) (x2 : Int32) (H : Heap) (locs : List Loc) (ls : Array Slot), f_Ring_oddHeaps_L4 z_h n x1 x2 = some q → va_P D classes (w_Ring_oddHeaps cI cJ cC a_h a_h_kinds a_h_sweets a_h_settings a_h_heaps (r_children z_h) (r_strokes z_h) (r_gave z_h) (r_threw z_h) (r_sweets z_h)) H → va_D A (w_Ring_oddHeaps cI cJ cC a_h a_h_kinds a_h_sweets a_h_settings a_h_heaps (r_children z_h) (r_strokes z_h) (r_gave z_h) (r_threw z_h) (r_sweets z_h)) → va_S A s.heap H locs → lv_has ls 3 [(0, .ref a_h), (1, .int x1), (2, .int x2)] → W p l e (xRm 0 0) s m args below meth c H locs 0 0 Q (F0 m 4 ls []) := by
    intro n
    induction n with
    | zero => intro x1 x2 H locs ls hf hP hD hS hl; exact nomatch (show (none : Option (Int32)) = some q from hf)
    | succ n ih =>
      intro x1 x2 H locs ls hf hP hD hS hl
      refine lv_iload_n hx hb d_Ring_oddHeaps_4 rfl (lv_at hl 2 rfl) ?_
      refine lv_aload_n hx hb d_Ring_oddHeaps_5 rfl (lv_at hl 0 rfl) ?_
      refine va_get hx hb hT i_Ring hown hK hP 0 rfl rfl 3 (Nat.le_of_ble_eq_true rfl) (hT _ k_38) (fun _ h => h) rfl d_Ring_oddHeaps_6 ?_
      refine lv_icmp_ge (tgt := 29) hx hb d_Ring_oddHeaps_9 (by decide) (fun c1 => ?_) (fun c1 => ?_)
      · have hf := io_t hf c1
        refine lv_iload_n hx hb d_Ring_oddHeaps_29 rfl (lv_at hl 1 rfl) ?_
        have hq := Option.some.inj hf
        subst hq
        exact hret _ _ _ _ _ d_Ring_oddHeaps_30 rfl rfl hP hD hS
      · have hf := io_f hf c1
        refine lv_iload_n hx hb d_Ring_oddHeaps_12 rfl (lv_at hl 1 rfl) ?_
        refine lv_aload_n hx hb d_Ring_oddHeaps_13 rfl (lv_at hl 0 rfl) ?_
        refine va_get hx hb hT i_Ring hown hK hP 0 rfl rfl 1 (Nat.le_of_ble_eq_true rfl) (hT _ k_31) (fun _ h => h) rfl d_Ring_oddHeaps_14 ?_
        refine lv_iload_n hx hb d_Ring_oddHeaps_17 rfl (lv_at hl 2 rfl) ?_
        obtain ⟨c2, hf⟩ := io_n hf
        refine x_iald hx hb hK hP 1 0 rfl rfl (j := x2.toNatClampNeg) rfl c2 d_Ring_oddHeaps_18 ?_
        refine lv_iconst (v := 2) hx hb d_Ring_oddHeaps_19 (by decide) ?_
        refine x_irem hx hb d_Ring_oddHeaps_20 (by decide) ?_
        refine lv_iadd hx hb d_Ring_oddHeaps_21 ?_
        refine lv_istore_n (lv' := [(1, .int (x1 + (((r_sweets z_h) x2.toNatClampNeg) % 2))), (0, .ref a_h), (2, .int x2)]) hx hb d_Ring_oddHeaps_22 rfl hl (by decide) rfl (fun ls hl => ?_)
        refine lv_iinc (v := (x2 + 1)) (lv' := [(2, .int (x2 + 1)), (1, .int (x1 + (((r_sweets z_h) x2.toNatClampNeg) % 2))), (0, .ref a_h)]) hx hb d_Ring_oddHeaps_23 hl (k := 2) rfl (by rfl) (by decide) rfl (fun ls hl => ?_)
        refine lv_goto (tgt := 4) hx hb d_Ring_oddHeaps_26 (by decide) ?_
        exact ih (x1 + (((r_sweets z_h) x2.toNatClampNeg) % 2)) (x2 + 1) _ _ _ hf hP hD hS (lv_sub hl [2, 1, 0] rfl)
  refine lv_iconst (v := 0) hx hb d_Ring_oddHeaps_0 (by decide) ?_
  refine lv_istore_n (lv' := [(1, .int 0), (0, .ref a_h)]) hx hb d_Ring_oddHeaps_1 rfl hl (by decide) rfl (fun ls hl => ?_)
  refine lv_iconst (v := 0) hx hb d_Ring_oddHeaps_2 (by decide) ?_
  refine lv_istore_n (lv' := [(2, .int 0), (1, .int 0), (0, .ref a_h)]) hx hb d_Ring_oddHeaps_3 rfl hl (by decide) rfl (fun ls hl => ?_)
  exact L4 FU 0 0 _ _ _ hf hP hD hS (lv_sub hl [2, 1, 0] rfl)
