/-! Contracts: X2. Printed by wip/whole/gen. -/
abbrev w_X_given (cI cJ cC : ClassId) (a_h a_h_now a_h_kept a_h_letters a_h_numbers a_h_refusals a_h_mind a_h_parts a_h_past a_h_seating a_h_now_kinds a_h_now_sweets a_h_now_settings a_h_now_heaps a_h_mind_one a_h_mind_two a_h_mind_one_kinds a_h_mind_one_sweets a_h_mind_one_settings a_h_mind_one_heaps : Nat) (y_h_isKept : Int32) (y_h_numberCount : Int32) (y_h_mind_seed : Int32) (p_h_now_children : Int32) (p_h_now_strokes : Int32) (p_h_now_gave : Int32) (p_h_now_threw : Int32) (p_h_now_kinds : (Nat → Int32)) (p_h_now_sweets : (Nat → Int32)) (p_h_now_settings : (Nat → Int32)) (p_h_refusals : (Nat → Int32)) (p_h_mind_one_children : Int32) (p_h_mind_one_strokes : Int32) (p_h_mind_one_gave : Int32) (p_h_mind_one_threw : Int32) (p_h_mind_one_kinds : (Nat → Int32)) (p_h_mind_one_sweets : (Nat → Int32)) (p_h_mind_one_settings : (Nat → Int32)) (p_h_mind_one_heaps : (Nat → Int32)) : va_W := [(a_h, .inr (0, [.ref a_h_now, .ref a_h_kept, .int y_h_isKept, .ref a_h_letters, .ref a_h_numbers, .int y_h_numberCount, .ref a_h_refusals, .ref a_h_mind, .ref a_h_parts, .ref a_h_past, .ref a_h_seating])), (a_h_now, .inr (1, [.ref a_h_now_kinds, .ref a_h_now_sweets, .ref a_h_now_settings, .int p_h_now_children, .int p_h_now_strokes, .int p_h_now_gave, .int p_h_now_threw, .ref a_h_now_heaps])), (a_h_now_kinds, .inl (cI, (8, .inl p_h_now_kinds))), (a_h_now_sweets, .inl (cI, (8, .inl p_h_now_sweets))), (a_h_now_settings, .inl (cI, (3, .inl p_h_now_settings))), (a_h_refusals, .inl (cI, (7, .inl p_h_refusals))), (a_h_mind, .inr (3, [.ref a_h_mind_one, .ref a_h_mind_two, .int y_h_mind_seed])), (a_h_mind_one, .inr (1, [.ref a_h_mind_one_kinds, .ref a_h_mind_one_sweets, .ref a_h_mind_one_settings, .int p_h_mind_one_children, .int p_h_mind_one_strokes, .int p_h_mind_one_gave, .int p_h_mind_one_threw, .ref a_h_mind_one_heaps])), (a_h_mind_one_kinds, .inl (cI, (8, .inl p_h_mind_one_kinds))), (a_h_mind_one_sweets, .inl (cI, (8, .inl p_h_mind_one_sweets))), (a_h_mind_one_settings, .inl (cI, (3, .inl p_h_mind_one_settings))), (a_h_mind_one_heaps, .inl (cI, (8, .inl p_h_mind_one_heaps)))]
theorem d_X_given_0 : decode b_X_given 0 = .ok (.iload_n 2, 1) := by decide +kernel
theorem d_X_given_1 : decode b_X_given 1 = .ok (.invokestatic 132, 3) := by decide +kernel
theorem d_X_given_4 : decode b_X_given 4 = .ok (.ifCond .eq 14, 3) := by decide +kernel
theorem d_X_given_7 : decode b_X_given 7 = .ok (.iload_n 1, 1) := by decide +kernel
theorem d_X_given_8 : decode b_X_given 8 = .ok (.iconst 0, 1) := by decide +kernel
theorem d_X_given_9 : decode b_X_given 9 = .ok (.sipush 200, 3) := by decide +kernel
theorem d_X_given_12 : decode b_X_given 12 = .ok (.invokestatic 100, 3) := by decide +kernel
theorem d_X_given_15 : decode b_X_given 15 = .ok (.goto 5, 3) := by decide +kernel
theorem d_X_given_18 : decode b_X_given 18 = .ok (.bipush (-2), 2) := by decide +kernel
theorem d_X_given_20 : decode b_X_given 20 = .ok (.istore_n 3, 1) := by decide +kernel
theorem d_X_given_21 : decode b_X_given 21 = .ok (.iload_n 3, 1) := by decide +kernel
theorem d_X_given_22 : decode b_X_given 22 = .ok (.ifCond .eq 9, 3) := by decide +kernel
theorem d_X_given_25 : decode b_X_given 25 = .ok (.aload_n 0, 1) := by decide +kernel
theorem d_X_given_26 : decode b_X_given 26 = .ok (.iload_n 3, 1) := by decide +kernel
theorem d_X_given_27 : decode b_X_given 27 = .ok (.invokevirtual 69, 3) := by decide +kernel
theorem d_X_given_30 : decode b_X_given 30 = .ok (.ireturn, 1) := by decide +kernel
theorem d_X_given_31 : decode b_X_given 31 = .ok (.iload_n 2, 1) := by decide +kernel
theorem d_X_given_32 : decode b_X_given 32 = .ok (.ifCond .ne 18, 3) := by decide +kernel
theorem d_X_given_35 : decode b_X_given 35 = .ok (.aload_n 0, 1) := by decide +kernel
theorem d_X_given_36 : decode b_X_given 36 = .ok (.getfield 44, 3) := by decide +kernel
theorem d_X_given_39 : decode b_X_given 39 = .ok (.aload_n 0, 1) := by decide +kernel
theorem d_X_given_40 : decode b_X_given 40 = .ok (.getfield 10, 3) := by decide +kernel
theorem d_X_given_43 : decode b_X_given 43 = .ok (.iload_n 1, 1) := by decide +kernel
theorem d_X_given_44 : decode b_X_given 44 = .ok (.invokevirtual 135, 3) := by decide +kernel
theorem d_X_given_47 : decode b_X_given 47 = .ok (.goto 15, 3) := by decide +kernel
theorem d_X_given_50 : decode b_X_given 50 = .ok (.aload_n 0, 1) := by decide +kernel
theorem d_X_given_51 : decode b_X_given 51 = .ok (.getfield 44, 3) := by decide +kernel
theorem d_X_given_54 : decode b_X_given 54 = .ok (.aload_n 0, 1) := by decide +kernel
theorem d_X_given_55 : decode b_X_given 55 = .ok (.getfield 10, 3) := by decide +kernel
theorem d_X_given_58 : decode b_X_given 58 = .ok (.iload_n 1, 1) := by decide +kernel
theorem d_X_given_59 : decode b_X_given 59 = .ok (.invokevirtual 139, 3) := by decide +kernel
theorem d_X_given_62 : decode b_X_given 62 = .ok (.ireturn, 1) := by decide +kernel
set_option maxHeartbeats 4000000 in
set_option maxRecDepth 100000 in
theorem c_X_given {l : Launch} {D : va_G} {cI cJ cC : ClassId} (a_h a_h_now a_h_kept a_h_letters a_h_numbers a_h_refusals a_h_mind a_h_parts a_h_past a_h_seating a_h_now_kinds a_h_now_sweets a_h_now_settings a_h_now_heaps a_h_mind_one a_h_mind_two a_h_mind_one_kinds a_h_mind_one_sweets a_h_mind_one_settings a_h_mind_one_heaps : Nat) (y_h_isKept : Int32) (y_h_numberCount : Int32) (y_h_mind_seed : Int32) {z_h_now : RS} {z_h_refusals : (Nat → Int32)} {z_h_mind_one : RS} {x1 : Int32} {x2 : Int32} {q : Int32 × (Nat → Int32) × RS} (hf : f_X_given z_h_now z_h_refusals z_h_mind_one x1 x2 = some q) : xI l y_X_given b_X_given 4 .int 6 133 D (tyK cI cJ cC) xE0 [.ref a_h, .int x1, .int x2] (w_X_given cI cJ cC a_h a_h_now a_h_kept a_h_letters a_h_numbers a_h_refusals a_h_mind a_h_parts a_h_past a_h_seating a_h_now_kinds a_h_now_sweets a_h_now_settings a_h_now_heaps a_h_mind_one a_h_mind_two a_h_mind_one_kinds a_h_mind_one_sweets a_h_mind_one_settings a_h_mind_one_heaps y_h_isKept y_h_numberCount y_h_mind_seed (r_children z_h_now) (r_strokes z_h_now) (r_gave z_h_now) (r_threw z_h_now) (r_kinds z_h_now) (r_sweets z_h_now) (r_settings z_h_now) z_h_refusals (r_children z_h_mind_one) (r_strokes z_h_mind_one) (r_gave z_h_mind_one) (r_threw z_h_mind_one) (r_kinds z_h_mind_one) (r_sweets z_h_mind_one) (r_settings z_h_mind_one) (r_heaps z_h_mind_one)) q.1 (w_X_given cI cJ cC a_h a_h_now a_h_kept a_h_letters a_h_numbers a_h_refusals a_h_mind a_h_parts a_h_past a_h_seating a_h_now_kinds a_h_now_sweets a_h_now_settings a_h_now_heaps a_h_mind_one a_h_mind_two a_h_mind_one_kinds a_h_mind_one_sweets a_h_mind_one_settings a_h_mind_one_heaps y_h_isKept y_h_numberCount y_h_mind_seed (r_children z_h_now) (r_strokes z_h_now) (r_gave z_h_now) (r_threw z_h_now) (r_kinds z_h_now) (r_sweets z_h_now) (r_settings z_h_now) q.2.1 (r_children q.2.2) (r_strokes q.2.2) (r_gave q.2.2) (r_threw q.2.2) (r_kinds q.2.2) (r_sweets q.2.2) (r_settings q.2.2) (r_heaps q.2.2)) := by
  refine xI_of (by decide) (Nat.le_of_ble_eq_true rfl) ?_
  intro p e s m args below meth c A Q hx hb hml hown hT hA hP hD hK hS hE hret ls hl
  have hown : s.vm.findClass R_X = some m.cls := hown
  have hl : lv_has ls 4 [(0, .ref a_h), (1, .int x1), (2, .int x2)] := hl
  unfold f_X_given at hf
  refine lv_iload_n hx hb d_X_given_0 rfl (lv_at hl 2 rfl) ?_
  obtain ⟨q1, hq1, hf⟩ := io_b hf
  refine xcSI (wc := []) (wc' := []) (ws' := (w_X_given cI cJ cC a_h a_h_now a_h_kept a_h_letters a_h_numbers a_h_refusals a_h_mind a_h_parts a_h_past a_h_seating a_h_now_kinds a_h_now_sweets a_h_now_settings a_h_now_heaps a_h_mind_one a_h_mind_two a_h_mind_one_kinds a_h_mind_one_sweets a_h_mind_one_settings a_h_mind_one_heaps y_h_isKept y_h_numberCount y_h_mind_seed (r_children z_h_now) (r_strokes z_h_now) (r_gave z_h_now) (r_threw z_h_now) (r_kinds z_h_now) (r_sweets z_h_now) (r_settings z_h_now) z_h_refusals (r_children z_h_mind_one) (r_strokes z_h_mind_one) (r_gave z_h_mind_one) (r_threw z_h_mind_one) (r_kinds z_h_mind_one) (r_sweets z_h_mind_one) (r_settings z_h_mind_one) (r_heaps z_h_mind_one))) (As := [.int x2]) (rest := []) hx hb hml hown hT (c_X_isPart hq1) k_265 k_266 k_1 k_267 hd_X_isPart ⟨Nat.le_of_ble_eq_true rfl, Nat.le_of_ble_eq_true rfl⟩ xE0_ok trivial hA hK hP hD hS [] [0, 1, 2, 3, 4, 5, 6, 7, 8, 9, 10, 11] [0, 1, 2, 3, 4, 5, 6, 7, 8, 9, 10, 11] rfl rfl rfl rfl rfl rfl rfl hl.1 rfl (Nat.le_of_ble_eq_true rfl) ⟨Nat.zero_le _, Nat.zero_le _⟩ d_X_given_1 (fun H locs hP hD hS => ?_)
  refine lv_if_eq (tgt := 18) hx hb d_X_given_4 (by decide) (fun c2 => ?_) (fun c2 => ?_)
  · have hf := io_t hf c2
    refine lv_bipush (v := (-2)) hx hb d_X_given_18 (by decide) ?_
    refine lv_istore_n (lv' := [(3, .int (-2)), (0, .ref a_h), (1, .int x1), (2, .int x2)]) hx hb d_X_given_20 rfl hl (by decide) rfl (fun ls hl => ?_)
    refine lv_iload_n hx hb d_X_given_21 rfl (lv_at hl 0 rfl) ?_
    refine lv_if_eq (tgt := 31) hx hb d_X_given_22 (by decide) (fun c => absurd c (show ¬ ((-2) : Int32) = 0 from by decide +kernel)) (fun _ => ?_)
    refine lv_aload_n hx hb d_X_given_25 rfl (lv_at hl 1 rfl) ?_
    refine lv_iload_n hx hb d_X_given_26 rfl (lv_at hl 0 rfl) ?_
    obtain ⟨q3, hq3, hf⟩ := io_b hf
    refine xcVI (wc := (w_X_refuse cI cJ cC a_h a_h_now a_h_kept a_h_letters a_h_numbers a_h_refusals a_h_mind a_h_parts a_h_past a_h_seating y_h_isKept y_h_numberCount z_h_refusals)) (wc' := (w_X_refuse cI cJ cC a_h a_h_now a_h_kept a_h_letters a_h_numbers a_h_refusals a_h_mind a_h_parts a_h_past a_h_seating y_h_isKept y_h_numberCount q3.2)) (ws' := (w_X_given cI cJ cC a_h a_h_now a_h_kept a_h_letters a_h_numbers a_h_refusals a_h_mind a_h_parts a_h_past a_h_seating a_h_now_kinds a_h_now_sweets a_h_now_settings a_h_now_heaps a_h_mind_one a_h_mind_two a_h_mind_one_kinds a_h_mind_one_sweets a_h_mind_one_settings a_h_mind_one_heaps y_h_isKept y_h_numberCount y_h_mind_seed (r_children z_h_now) (r_strokes z_h_now) (r_gave z_h_now) (r_threw z_h_now) (r_kinds z_h_now) (r_sweets z_h_now) (r_settings z_h_now) q3.2 (r_children z_h_mind_one) (r_strokes z_h_mind_one) (r_gave z_h_mind_one) (r_threw z_h_mind_one) (r_kinds z_h_mind_one) (r_sweets z_h_mind_one) (r_settings z_h_mind_one) (r_heaps z_h_mind_one))) (As := [.int (-2)]) (rest := []) hx hb hml hown hT (c_X_refuse (z_h_refusals := z_h_refusals) a_h a_h_now a_h_kept a_h_letters a_h_numbers a_h_refusals a_h_mind a_h_parts a_h_past a_h_seating y_h_isKept y_h_numberCount hq3) k_198 k_200 ks_0 k_1 k_201 hd_X_refuse ⟨Nat.le_of_ble_eq_true rfl, Nat.le_of_ble_eq_true rfl⟩ xE0_ok trivial hA hK hP hD hS [0, 5] [1, 2, 3, 4, 6, 7, 8, 9, 10, 11] [10, 0, 1, 2, 3, 11, 4, 5, 6, 7, 8, 9] rfl rfl rfl rfl rfl rfl rfl rfl rfl rfl hl.1 rfl (Nat.le_of_ble_eq_true rfl) ⟨Nat.zero_le _, Nat.zero_le _⟩ d_X_given_27 (fun H locs hP hD hS => ?_)
    have hq := Option.some.inj hf
    subst hq
    exact hret _ _ _ _ _ d_X_given_30 rfl rfl hP hD hS
  · have hf := io_f hf c2
    refine lv_iload_n hx hb d_X_given_7 rfl (lv_at hl 1 rfl) ?_
    refine lv_iconst (v := 0) hx hb d_X_given_8 (by decide) ?_
    refine lv_sipush (v := 200) hx hb d_X_given_9 (by decide) ?_
    obtain ⟨q4, hq4, hf⟩ := io_b hf
    refine xcSI (wc := []) (wc' := []) (ws' := (w_X_given cI cJ cC a_h a_h_now a_h_kept a_h_letters a_h_numbers a_h_refusals a_h_mind a_h_parts a_h_past a_h_seating a_h_now_kinds a_h_now_sweets a_h_now_settings a_h_now_heaps a_h_mind_one a_h_mind_two a_h_mind_one_kinds a_h_mind_one_sweets a_h_mind_one_settings a_h_mind_one_heaps y_h_isKept y_h_numberCount y_h_mind_seed (r_children z_h_now) (r_strokes z_h_now) (r_gave z_h_now) (r_threw z_h_now) (r_kinds z_h_now) (r_sweets z_h_now) (r_settings z_h_now) z_h_refusals (r_children z_h_mind_one) (r_strokes z_h_mind_one) (r_gave z_h_mind_one) (r_threw z_h_mind_one) (r_kinds z_h_mind_one) (r_sweets z_h_mind_one) (r_settings z_h_mind_one) (r_heaps z_h_mind_one))) (As := [.int x1, .int 0, .int 200]) (rest := []) hx hb hml hown hT (c_X_outside hq4) k_245 k_246 k_1 k_247 hd_X_outside ⟨Nat.le_of_ble_eq_true rfl, Nat.le_of_ble_eq_true rfl⟩ xE0_ok trivial hA hK hP hD hS [] [0, 1, 2, 3, 4, 5, 6, 7, 8, 9, 10, 11] [0, 1, 2, 3, 4, 5, 6, 7, 8, 9, 10, 11] rfl rfl rfl rfl rfl rfl rfl hl.1 rfl (Nat.le_of_ble_eq_true rfl) ⟨Nat.zero_le _, Nat.zero_le _⟩ d_X_given_12 (fun H locs hP hD hS => ?_)
    refine lv_goto (tgt := 20) hx hb d_X_given_15 (by decide) ?_
    refine lv_istore_n (lv' := [(3, .int q4), (0, .ref a_h), (1, .int x1), (2, .int x2)]) hx hb d_X_given_20 rfl hl (by decide) rfl (fun ls hl => ?_)
    refine lv_iload_n hx hb d_X_given_21 rfl (lv_at hl 0 rfl) ?_
    refine lv_if_eq (tgt := 31) hx hb d_X_given_22 (by decide) (fun c5 => ?_) (fun c5 => ?_)
    · have hf := io_t hf c5
      refine lv_iload_n hx hb d_X_given_31 rfl (lv_at hl 3 rfl) ?_
      refine lv_if_ne (tgt := 50) hx hb d_X_given_32 (by decide) (fun c6 => ?_) (fun c6 => ?_)
      · have hf := io_f hf c6
        refine lv_aload_n hx hb d_X_given_50 rfl (lv_at hl 1 rfl) ?_
        refine va_get hx hb hT i_X hown hK hP 0 rfl rfl 7 (Nat.le_of_ble_eq_true rfl) (hT _ k_163) (fun _ h => h) rfl d_X_given_51 ?_
        refine lv_aload_n hx hb d_X_given_54 rfl (lv_at hl 1 rfl) ?_
        refine va_get hx hb hT i_X hown hK hP 0 rfl rfl 0 (Nat.le_of_ble_eq_true rfl) (hT _ k_156) (fun _ h => h) rfl d_X_given_55 ?_
        refine lv_iload_n hx hb d_X_given_58 rfl (lv_at hl 2 rfl) ?_
        obtain ⟨q7, hq7, hf⟩ := io_b hf
        refine xcVI (wc := (w_Mind_threwIn cI cJ cC a_h_mind a_h_mind_one a_h_mind_two a_h_mind_one_kinds a_h_mind_one_sweets a_h_mind_one_settings a_h_mind_one_heaps a_h_now a_h_now_kinds a_h_now_sweets a_h_now_settings a_h_now_heaps y_h_mind_seed (r_children z_h_mind_one) (r_strokes z_h_mind_one) (r_gave z_h_mind_one) (r_threw z_h_mind_one) (r_kinds z_h_mind_one) (r_sweets z_h_mind_one) (r_settings z_h_mind_one) (r_heaps z_h_mind_one) (r_children z_h_now) (r_strokes z_h_now) (r_gave z_h_now) (r_threw z_h_now) (r_kinds z_h_now) (r_sweets z_h_now) (r_settings z_h_now))) (wc' := (w_Mind_threwIn cI cJ cC a_h_mind a_h_mind_one a_h_mind_two a_h_mind_one_kinds a_h_mind_one_sweets a_h_mind_one_settings a_h_mind_one_heaps a_h_now a_h_now_kinds a_h_now_sweets a_h_now_settings a_h_now_heaps y_h_mind_seed (r_children q7.2) (r_strokes q7.2) (r_gave q7.2) (r_threw q7.2) (r_kinds q7.2) (r_sweets q7.2) (r_settings q7.2) (r_heaps q7.2) (r_children z_h_now) (r_strokes z_h_now) (r_gave z_h_now) (r_threw z_h_now) (r_kinds z_h_now) (r_sweets z_h_now) (r_settings z_h_now))) (ws' := (w_X_given cI cJ cC a_h a_h_now a_h_kept a_h_letters a_h_numbers a_h_refusals a_h_mind a_h_parts a_h_past a_h_seating a_h_now_kinds a_h_now_sweets a_h_now_settings a_h_now_heaps a_h_mind_one a_h_mind_two a_h_mind_one_kinds a_h_mind_one_sweets a_h_mind_one_settings a_h_mind_one_heaps y_h_isKept y_h_numberCount y_h_mind_seed (r_children z_h_now) (r_strokes z_h_now) (r_gave z_h_now) (r_threw z_h_now) (r_kinds z_h_now) (r_sweets z_h_now) (r_settings z_h_now) z_h_refusals (r_children q7.2) (r_strokes q7.2) (r_gave q7.2) (r_threw q7.2) (r_kinds q7.2) (r_sweets q7.2) (r_settings q7.2) (r_heaps q7.2))) (As := [.ref a_h_now, .int x1]) (rest := []) hx hb hml hown hT (c_Mind_threwIn (z_h_one := z_h_mind_one) (z_g1 := z_h_now) a_h_mind a_h_mind_one a_h_mind_two a_h_mind_one_kinds a_h_mind_one_sweets a_h_mind_one_settings a_h_mind_one_heaps a_h_now a_h_now_kinds a_h_now_sweets a_h_now_settings a_h_now_heaps y_h_mind_seed hq7) k_272 k_273 k_274 k_4 k_275 hd_Mind_threwIn ⟨Nat.le_of_ble_eq_true rfl, Nat.le_of_ble_eq_true rfl⟩ xE0_ok trivial hA hK hP hD hS [6, 7, 8, 9, 10, 11, 1, 2, 3, 4] [0, 5] [0, 8, 9, 10, 11, 1, 2, 3, 4, 5, 6, 7] rfl rfl rfl rfl rfl rfl rfl rfl rfl rfl hl.1 rfl (Nat.le_of_ble_eq_true rfl) ⟨Nat.zero_le _, Nat.zero_le _⟩ d_X_given_59 (fun H locs hP hD hS => ?_)
        have hq := Option.some.inj hf
        subst hq
        exact hret _ _ _ _ _ d_X_given_62 rfl rfl hP hD hS
      · have hf := io_t hf c6
        refine lv_aload_n hx hb d_X_given_35 rfl (lv_at hl 1 rfl) ?_
        refine va_get hx hb hT i_X hown hK hP 0 rfl rfl 7 (Nat.le_of_ble_eq_true rfl) (hT _ k_163) (fun _ h => h) rfl d_X_given_36 ?_
        refine lv_aload_n hx hb d_X_given_39 rfl (lv_at hl 1 rfl) ?_
        refine va_get hx hb hT i_X hown hK hP 0 rfl rfl 0 (Nat.le_of_ble_eq_true rfl) (hT _ k_156) (fun _ h => h) rfl d_X_given_40 ?_
        refine lv_iload_n hx hb d_X_given_43 rfl (lv_at hl 2 rfl) ?_
        obtain ⟨q8, hq8, hf⟩ := io_b hf
        refine xcVI (wc := (w_Mind_gaveIn cI cJ cC a_h_mind a_h_mind_one a_h_mind_two a_h_mind_one_kinds a_h_mind_one_sweets a_h_mind_one_settings a_h_mind_one_heaps a_h_now a_h_now_kinds a_h_now_sweets a_h_now_settings a_h_now_heaps y_h_mind_seed (r_children z_h_mind_one) (r_strokes z_h_mind_one) (r_gave z_h_mind_one) (r_threw z_h_mind_one) (r_kinds z_h_mind_one) (r_sweets z_h_mind_one) (r_settings z_h_mind_one) (r_heaps z_h_mind_one) (r_children z_h_now) (r_strokes z_h_now) (r_gave z_h_now) (r_threw z_h_now) (r_kinds z_h_now) (r_sweets z_h_now) (r_settings z_h_now))) (wc' := (w_Mind_gaveIn cI cJ cC a_h_mind a_h_mind_one a_h_mind_two a_h_mind_one_kinds a_h_mind_one_sweets a_h_mind_one_settings a_h_mind_one_heaps a_h_now a_h_now_kinds a_h_now_sweets a_h_now_settings a_h_now_heaps y_h_mind_seed (r_children q8.2) (r_strokes q8.2) (r_gave q8.2) (r_threw q8.2) (r_kinds q8.2) (r_sweets q8.2) (r_settings q8.2) (r_heaps q8.2) (r_children z_h_now) (r_strokes z_h_now) (r_gave z_h_now) (r_threw z_h_now) (r_kinds z_h_now) (r_sweets z_h_now) (r_settings z_h_now))) (ws' := (w_X_given cI cJ cC a_h a_h_now a_h_kept a_h_letters a_h_numbers a_h_refusals a_h_mind a_h_parts a_h_past a_h_seating a_h_now_kinds a_h_now_sweets a_h_now_settings a_h_now_heaps a_h_mind_one a_h_mind_two a_h_mind_one_kinds a_h_mind_one_sweets a_h_mind_one_settings a_h_mind_one_heaps y_h_isKept y_h_numberCount y_h_mind_seed (r_children z_h_now) (r_strokes z_h_now) (r_gave z_h_now) (r_threw z_h_now) (r_kinds z_h_now) (r_sweets z_h_now) (r_settings z_h_now) z_h_refusals (r_children q8.2) (r_strokes q8.2) (r_gave q8.2) (r_threw q8.2) (r_kinds q8.2) (r_sweets q8.2) (r_settings q8.2) (r_heaps q8.2))) (As := [.ref a_h_now, .int x1]) (rest := []) hx hb hml hown hT (c_Mind_gaveIn (z_h_one := z_h_mind_one) (z_g1 := z_h_now) a_h_mind a_h_mind_one a_h_mind_two a_h_mind_one_kinds a_h_mind_one_sweets a_h_mind_one_settings a_h_mind_one_heaps a_h_now a_h_now_kinds a_h_now_sweets a_h_now_settings a_h_now_heaps y_h_mind_seed hq8) k_268 k_269 k_270 k_4 k_271 hd_Mind_gaveIn ⟨Nat.le_of_ble_eq_true rfl, Nat.le_of_ble_eq_true rfl⟩ xE0_ok trivial hA hK hP hD hS [6, 7, 8, 9, 10, 11, 1, 2, 3, 4] [0, 5] [0, 8, 9, 10, 11, 1, 2, 3, 4, 5, 6, 7] rfl rfl rfl rfl rfl rfl rfl rfl rfl rfl hl.1 rfl (Nat.le_of_ble_eq_true rfl) ⟨Nat.zero_le _, Nat.zero_le _⟩ d_X_given_44 (fun H locs hP hD hS => ?_)
        refine lv_goto (tgt := 62) hx hb d_X_given_47 (by decide) ?_
        have hq := Option.some.inj hf
        subst hq
        exact hret _ _ _ _ _ d_X_given_62 rfl rfl hP hD hS
    · have hf := io_f hf c5
      refine lv_aload_n hx hb d_X_given_25 rfl (lv_at hl 1 rfl) ?_
      refine lv_iload_n hx hb d_X_given_26 rfl (lv_at hl 0 rfl) ?_
      obtain ⟨q9, hq9, hf⟩ := io_b hf
      refine xcVI (wc := (w_X_refuse cI cJ cC a_h a_h_now a_h_kept a_h_letters a_h_numbers a_h_refusals a_h_mind a_h_parts a_h_past a_h_seating y_h_isKept y_h_numberCount z_h_refusals)) (wc' := (w_X_refuse cI cJ cC a_h a_h_now a_h_kept a_h_letters a_h_numbers a_h_refusals a_h_mind a_h_parts a_h_past a_h_seating y_h_isKept y_h_numberCount q9.2)) (ws' := (w_X_given cI cJ cC a_h a_h_now a_h_kept a_h_letters a_h_numbers a_h_refusals a_h_mind a_h_parts a_h_past a_h_seating a_h_now_kinds a_h_now_sweets a_h_now_settings a_h_now_heaps a_h_mind_one a_h_mind_two a_h_mind_one_kinds a_h_mind_one_sweets a_h_mind_one_settings a_h_mind_one_heaps y_h_isKept y_h_numberCount y_h_mind_seed (r_children z_h_now) (r_strokes z_h_now) (r_gave z_h_now) (r_threw z_h_now) (r_kinds z_h_now) (r_sweets z_h_now) (r_settings z_h_now) q9.2 (r_children z_h_mind_one) (r_strokes z_h_mind_one) (r_gave z_h_mind_one) (r_threw z_h_mind_one) (r_kinds z_h_mind_one) (r_sweets z_h_mind_one) (r_settings z_h_mind_one) (r_heaps z_h_mind_one))) (As := [.int q4]) (rest := []) hx hb hml hown hT (c_X_refuse (z_h_refusals := z_h_refusals) a_h a_h_now a_h_kept a_h_letters a_h_numbers a_h_refusals a_h_mind a_h_parts a_h_past a_h_seating y_h_isKept y_h_numberCount hq9) k_198 k_200 ks_0 k_1 k_201 hd_X_refuse ⟨Nat.le_of_ble_eq_true rfl, Nat.le_of_ble_eq_true rfl⟩ xE0_ok trivial hA hK hP hD hS [0, 5] [1, 2, 3, 4, 6, 7, 8, 9, 10, 11] [10, 0, 1, 2, 3, 11, 4, 5, 6, 7, 8, 9] rfl rfl rfl rfl rfl rfl rfl rfl rfl rfl hl.1 rfl (Nat.le_of_ble_eq_true rfl) ⟨Nat.zero_le _, Nat.zero_le _⟩ d_X_given_27 (fun H locs hP hD hS => ?_)
      have hq := Option.some.inj hf
      subst hq
      exact hret _ _ _ _ _ d_X_given_30 rfl rfl hP hD hS
abbrev w_X_rests (cI cJ cC : ClassId) (a_h a_h_now a_h_kept a_h_letters a_h_numbers a_h_refusals a_h_mind a_h_parts a_h_past a_h_seating a_h_now_kinds a_h_now_sweets a_h_now_settings a_h_now_heaps a_h_mind_one a_h_mind_two a_h_mind_one_kinds a_h_mind_one_sweets a_h_mind_one_settings a_h_mind_one_heaps a_h_mind_two_kinds a_h_mind_two_sweets a_h_mind_two_settings a_h_mind_two_heaps : Nat) (y_h_isKept : Int32) (y_h_numberCount : Int32) (y_h_mind_seed : Int32) (p_h_now_children : Int32) (p_h_now_strokes : Int32) (p_h_now_gave : Int32) (p_h_now_threw : Int32) (p_h_now_kinds : (Nat → Int32)) (p_h_now_sweets : (Nat → Int32)) (p_h_now_settings : (Nat → Int32)) (p_h_refusals : (Nat → Int32)) (p_h_mind_one_children : Int32) (p_h_mind_one_strokes : Int32) (p_h_mind_one_gave : Int32) (p_h_mind_one_threw : Int32) (p_h_mind_one_kinds : (Nat → Int32)) (p_h_mind_one_sweets : (Nat → Int32)) (p_h_mind_one_settings : (Nat → Int32)) (p_h_mind_one_heaps : (Nat → Int32)) (p_h_mind_two_children : Int32) (p_h_mind_two_strokes : Int32) (p_h_mind_two_gave : Int32) (p_h_mind_two_threw : Int32) (p_h_mind_two_kinds : (Nat → Int32)) (p_h_mind_two_sweets : (Nat → Int32)) (p_h_mind_two_settings : (Nat → Int32)) (p_h_mind_two_heaps : (Nat → Int32)) : va_W := [(a_h, .inr (0, [.ref a_h_now, .ref a_h_kept, .int y_h_isKept, .ref a_h_letters, .ref a_h_numbers, .int y_h_numberCount, .ref a_h_refusals, .ref a_h_mind, .ref a_h_parts, .ref a_h_past, .ref a_h_seating])), (a_h_now, .inr (1, [.ref a_h_now_kinds, .ref a_h_now_sweets, .ref a_h_now_settings, .int p_h_now_children, .int p_h_now_strokes, .int p_h_now_gave, .int p_h_now_threw, .ref a_h_now_heaps])), (a_h_now_kinds, .inl (cI, (8, .inl p_h_now_kinds))), (a_h_now_sweets, .inl (cI, (8, .inl p_h_now_sweets))), (a_h_now_settings, .inl (cI, (3, .inl p_h_now_settings))), (a_h_refusals, .inl (cI, (7, .inl p_h_refusals))), (a_h_mind, .inr (3, [.ref a_h_mind_one, .ref a_h_mind_two, .int y_h_mind_seed])), (a_h_mind_one, .inr (1, [.ref a_h_mind_one_kinds, .ref a_h_mind_one_sweets, .ref a_h_mind_one_settings, .int p_h_mind_one_children, .int p_h_mind_one_strokes, .int p_h_mind_one_gave, .int p_h_mind_one_threw, .ref a_h_mind_one_heaps])), (a_h_mind_one_kinds, .inl (cI, (8, .inl p_h_mind_one_kinds))), (a_h_mind_one_sweets, .inl (cI, (8, .inl p_h_mind_one_sweets))), (a_h_mind_one_settings, .inl (cI, (3, .inl p_h_mind_one_settings))), (a_h_mind_one_heaps, .inl (cI, (8, .inl p_h_mind_one_heaps))), (a_h_mind_two, .inr (1, [.ref a_h_mind_two_kinds, .ref a_h_mind_two_sweets, .ref a_h_mind_two_settings, .int p_h_mind_two_children, .int p_h_mind_two_strokes, .int p_h_mind_two_gave, .int p_h_mind_two_threw, .ref a_h_mind_two_heaps])), (a_h_mind_two_kinds, .inl (cI, (8, .inl p_h_mind_two_kinds))), (a_h_mind_two_sweets, .inl (cI, (8, .inl p_h_mind_two_sweets))), (a_h_mind_two_settings, .inl (cI, (3, .inl p_h_mind_two_settings))), (a_h_mind_two_heaps, .inl (cI, (8, .inl p_h_mind_two_heaps)))]
theorem d_X_rests_0 : decode b_X_rests 0 = .ok (.aload_n 0, 1) := by decide +kernel
theorem d_X_rests_1 : decode b_X_rests 1 = .ok (.getfield 10, 3) := by decide +kernel
theorem d_X_rests_4 : decode b_X_rests 4 = .ok (.getfield 121, 3) := by decide +kernel
theorem d_X_rests_7 : decode b_X_rests 7 = .ok (.ifCond .ne 10, 3) := by decide +kernel
theorem d_X_rests_10 : decode b_X_rests 10 = .ok (.aload_n 0, 1) := by decide +kernel
theorem d_X_rests_11 : decode b_X_rests 11 = .ok (.bipush (-3), 2) := by decide +kernel
theorem d_X_rests_13 : decode b_X_rests 13 = .ok (.invokevirtual 69, 3) := by decide +kernel
theorem d_X_rests_16 : decode b_X_rests 16 = .ok (.ireturn, 1) := by decide +kernel
theorem d_X_rests_17 : decode b_X_rests 17 = .ok (.aload_n 0, 1) := by decide +kernel
theorem d_X_rests_18 : decode b_X_rests 18 = .ok (.getfield 44, 3) := by decide +kernel
theorem d_X_rests_21 : decode b_X_rests 21 = .ok (.aload_n 0, 1) := by decide +kernel
theorem d_X_rests_22 : decode b_X_rests 22 = .ok (.getfield 10, 3) := by decide +kernel
theorem d_X_rests_25 : decode b_X_rests 25 = .ok (.invokevirtual 142, 3) := by decide +kernel
theorem d_X_rests_28 : decode b_X_rests 28 = .ok (.ireturn, 1) := by decide +kernel
set_option maxHeartbeats 4000000 in
set_option maxRecDepth 100000 in
theorem c_X_rests {l : Launch} {D : va_G} {cI cJ cC : ClassId} (a_h a_h_now a_h_kept a_h_letters a_h_numbers a_h_refusals a_h_mind a_h_parts a_h_past a_h_seating a_h_now_kinds a_h_now_sweets a_h_now_settings a_h_now_heaps a_h_mind_one a_h_mind_two a_h_mind_one_kinds a_h_mind_one_sweets a_h_mind_one_settings a_h_mind_one_heaps a_h_mind_two_kinds a_h_mind_two_sweets a_h_mind_two_settings a_h_mind_two_heaps : Nat) (y_h_isKept : Int32) (y_h_numberCount : Int32) (y_h_mind_seed : Int32) {z_h_now : RS} {z_h_refusals : (Nat → Int32)} {z_h_mind_one : RS} {z_h_mind_two : RS} {q : Int32 × (Nat → Int32) × RS × RS} (hf : f_X_rests z_h_now z_h_refusals z_h_mind_one z_h_mind_two = some q) : xI l y_X_rests b_X_rests 1 .int 5 111 D (tyK cI cJ cC) xE0 [.ref a_h] (w_X_rests cI cJ cC a_h a_h_now a_h_kept a_h_letters a_h_numbers a_h_refusals a_h_mind a_h_parts a_h_past a_h_seating a_h_now_kinds a_h_now_sweets a_h_now_settings a_h_now_heaps a_h_mind_one a_h_mind_two a_h_mind_one_kinds a_h_mind_one_sweets a_h_mind_one_settings a_h_mind_one_heaps a_h_mind_two_kinds a_h_mind_two_sweets a_h_mind_two_settings a_h_mind_two_heaps y_h_isKept y_h_numberCount y_h_mind_seed (r_children z_h_now) (r_strokes z_h_now) (r_gave z_h_now) (r_threw z_h_now) (r_kinds z_h_now) (r_sweets z_h_now) (r_settings z_h_now) z_h_refusals (r_children z_h_mind_one) (r_strokes z_h_mind_one) (r_gave z_h_mind_one) (r_threw z_h_mind_one) (r_kinds z_h_mind_one) (r_sweets z_h_mind_one) (r_settings z_h_mind_one) (r_heaps z_h_mind_one) (r_children z_h_mind_two) (r_strokes z_h_mind_two) (r_gave z_h_mind_two) (r_threw z_h_mind_two) (r_kinds z_h_mind_two) (r_sweets z_h_mind_two) (r_settings z_h_mind_two) (r_heaps z_h_mind_two)) q.1 (w_X_rests cI cJ cC a_h a_h_now a_h_kept a_h_letters a_h_numbers a_h_refusals a_h_mind a_h_parts a_h_past a_h_seating a_h_now_kinds a_h_now_sweets a_h_now_settings a_h_now_heaps a_h_mind_one a_h_mind_two a_h_mind_one_kinds a_h_mind_one_sweets a_h_mind_one_settings a_h_mind_one_heaps a_h_mind_two_kinds a_h_mind_two_sweets a_h_mind_two_settings a_h_mind_two_heaps y_h_isKept y_h_numberCount y_h_mind_seed (r_children z_h_now) (r_strokes z_h_now) (r_gave z_h_now) (r_threw z_h_now) (r_kinds z_h_now) (r_sweets z_h_now) (r_settings z_h_now) q.2.1 (r_children q.2.2.1) (r_strokes q.2.2.1) (r_gave q.2.2.1) (r_threw q.2.2.1) (r_kinds q.2.2.1) (r_sweets q.2.2.1) (r_settings q.2.2.1) (r_heaps q.2.2.1) (r_children q.2.2.2) (r_strokes q.2.2.2) (r_gave q.2.2.2) (r_threw q.2.2.2) (r_kinds q.2.2.2) (r_sweets q.2.2.2) (r_settings q.2.2.2) (r_heaps q.2.2.2)) := by
  refine xI_of (by decide) (Nat.le_of_ble_eq_true rfl) ?_
  intro p e s m args below meth c A Q hx hb hml hown hT hA hP hD hK hS hE hret ls hl
  have hown : s.vm.findClass R_X = some m.cls := hown
  have hl : lv_has ls 1 [(0, .ref a_h)] := hl
  unfold f_X_rests at hf
  refine lv_aload_n hx hb d_X_rests_0 rfl (lv_at hl 0 rfl) ?_
  refine va_get hx hb hT i_X hown hK hP 0 rfl rfl 0 (Nat.le_of_ble_eq_true rfl) (hT _ k_156) (fun _ h => h) rfl d_X_rests_1 ?_
  refine va_get hx hb hT i_Ring hown hK hP 1 rfl rfl 3 (Nat.le_of_ble_eq_true rfl) (hT _ k_40) (fun _ h => h) rfl d_X_rests_4 ?_
  refine lv_if_ne (tgt := 17) hx hb d_X_rests_7 (by decide) (fun c1 => ?_) (fun c1 => ?_)
  · have hf := io_f hf c1
    refine lv_aload_n hx hb d_X_rests_17 rfl (lv_at hl 0 rfl) ?_
    refine va_get hx hb hT i_X hown hK hP 0 rfl rfl 7 (Nat.le_of_ble_eq_true rfl) (hT _ k_163) (fun _ h => h) rfl d_X_rests_18 ?_
    refine lv_aload_n hx hb d_X_rests_21 rfl (lv_at hl 0 rfl) ?_
    refine va_get hx hb hT i_X hown hK hP 0 rfl rfl 0 (Nat.le_of_ble_eq_true rfl) (hT _ k_156) (fun _ h => h) rfl d_X_rests_22 ?_
    obtain ⟨q2, hq2, hf⟩ := io_b hf
    refine xcVI (wc := (w_Mind_restsBehind cI cJ cC a_h_mind a_h_mind_one a_h_mind_two a_h_mind_one_kinds a_h_mind_one_sweets a_h_mind_one_settings a_h_mind_one_heaps a_h_mind_two_kinds a_h_mind_two_sweets a_h_mind_two_settings a_h_mind_two_heaps a_h_now a_h_now_kinds a_h_now_sweets a_h_now_settings a_h_now_heaps y_h_mind_seed (r_children z_h_mind_one) (r_strokes z_h_mind_one) (r_gave z_h_mind_one) (r_threw z_h_mind_one) (r_kinds z_h_mind_one) (r_sweets z_h_mind_one) (r_settings z_h_mind_one) (r_heaps z_h_mind_one) (r_children z_h_mind_two) (r_strokes z_h_mind_two) (r_gave z_h_mind_two) (r_threw z_h_mind_two) (r_kinds z_h_mind_two) (r_sweets z_h_mind_two) (r_settings z_h_mind_two) (r_heaps z_h_mind_two) (r_children z_h_now) (r_strokes z_h_now) (r_gave z_h_now) (r_threw z_h_now) (r_kinds z_h_now) (r_sweets z_h_now) (r_settings z_h_now))) (wc' := (w_Mind_restsBehind cI cJ cC a_h_mind a_h_mind_one a_h_mind_two a_h_mind_one_kinds a_h_mind_one_sweets a_h_mind_one_settings a_h_mind_one_heaps a_h_mind_two_kinds a_h_mind_two_sweets a_h_mind_two_settings a_h_mind_two_heaps a_h_now a_h_now_kinds a_h_now_sweets a_h_now_settings a_h_now_heaps y_h_mind_seed (r_children q2.2.1) (r_strokes q2.2.1) (r_gave q2.2.1) (r_threw q2.2.1) (r_kinds q2.2.1) (r_sweets q2.2.1) (r_settings q2.2.1) (r_heaps q2.2.1) (r_children q2.2.2) (r_strokes q2.2.2) (r_gave q2.2.2) (r_threw q2.2.2) (r_kinds q2.2.2) (r_sweets q2.2.2) (r_settings q2.2.2) (r_heaps q2.2.2) (r_children z_h_now) (r_strokes z_h_now) (r_gave z_h_now) (r_threw z_h_now) (r_kinds z_h_now) (r_sweets z_h_now) (r_settings z_h_now))) (ws' := (w_X_rests cI cJ cC a_h a_h_now a_h_kept a_h_letters a_h_numbers a_h_refusals a_h_mind a_h_parts a_h_past a_h_seating a_h_now_kinds a_h_now_sweets a_h_now_settings a_h_now_heaps a_h_mind_one a_h_mind_two a_h_mind_one_kinds a_h_mind_one_sweets a_h_mind_one_settings a_h_mind_one_heaps a_h_mind_two_kinds a_h_mind_two_sweets a_h_mind_two_settings a_h_mind_two_heaps y_h_isKept y_h_numberCount y_h_mind_seed (r_children z_h_now) (r_strokes z_h_now) (r_gave z_h_now) (r_threw z_h_now) (r_kinds z_h_now) (r_sweets z_h_now) (r_settings z_h_now) z_h_refusals (r_children q2.2.1) (r_strokes q2.2.1) (r_gave q2.2.1) (r_threw q2.2.1) (r_kinds q2.2.1) (r_sweets q2.2.1) (r_settings q2.2.1) (r_heaps q2.2.1) (r_children q2.2.2) (r_strokes q2.2.2) (r_gave q2.2.2) (r_threw q2.2.2) (r_kinds q2.2.2) (r_sweets q2.2.2) (r_settings q2.2.2) (r_heaps q2.2.2))) (As := [.ref a_h_now]) (rest := []) hx hb hml hown hT (c_Mind_restsBehind (z_h_one := z_h_mind_one) (z_h_two := z_h_mind_two) (z_g1 := z_h_now) a_h_mind a_h_mind_one a_h_mind_two a_h_mind_one_kinds a_h_mind_one_sweets a_h_mind_one_settings a_h_mind_one_heaps a_h_mind_two_kinds a_h_mind_two_sweets a_h_mind_two_settings a_h_mind_two_heaps a_h_now a_h_now_kinds a_h_now_sweets a_h_now_settings a_h_now_heaps y_h_mind_seed hq2) k_280 k_281 k_282 k_4 k_283 hd_Mind_restsBehind ⟨Nat.le_of_ble_eq_true rfl, Nat.le_of_ble_eq_true rfl⟩ xE0_ok trivial hA hK hP hD hS [6, 7, 8, 9, 10, 11, 12, 13, 14, 15, 16, 1, 2, 3, 4] [0, 5] [0, 13, 14, 15, 16, 1, 2, 3, 4, 5, 6, 7, 8, 9, 10, 11, 12] rfl rfl rfl rfl rfl rfl rfl rfl rfl rfl hl.1 rfl (Nat.le_of_ble_eq_true rfl) ⟨Nat.zero_le _, Nat.zero_le _⟩ d_X_rests_25 (fun H locs hP hD hS => ?_)
    have hq := Option.some.inj hf
    subst hq
    exact hret _ _ _ _ _ d_X_rests_28 rfl rfl hP hD hS
  · have hf := io_t hf c1
    refine lv_aload_n hx hb d_X_rests_10 rfl (lv_at hl 0 rfl) ?_
    refine lv_bipush (v := (-3)) hx hb d_X_rests_11 (by decide) ?_
    obtain ⟨q3, hq3, hf⟩ := io_b hf
    refine xcVI (wc := (w_X_refuse cI cJ cC a_h a_h_now a_h_kept a_h_letters a_h_numbers a_h_refusals a_h_mind a_h_parts a_h_past a_h_seating y_h_isKept y_h_numberCount z_h_refusals)) (wc' := (w_X_refuse cI cJ cC a_h a_h_now a_h_kept a_h_letters a_h_numbers a_h_refusals a_h_mind a_h_parts a_h_past a_h_seating y_h_isKept y_h_numberCount q3.2)) (ws' := (w_X_rests cI cJ cC a_h a_h_now a_h_kept a_h_letters a_h_numbers a_h_refusals a_h_mind a_h_parts a_h_past a_h_seating a_h_now_kinds a_h_now_sweets a_h_now_settings a_h_now_heaps a_h_mind_one a_h_mind_two a_h_mind_one_kinds a_h_mind_one_sweets a_h_mind_one_settings a_h_mind_one_heaps a_h_mind_two_kinds a_h_mind_two_sweets a_h_mind_two_settings a_h_mind_two_heaps y_h_isKept y_h_numberCount y_h_mind_seed (r_children z_h_now) (r_strokes z_h_now) (r_gave z_h_now) (r_threw z_h_now) (r_kinds z_h_now) (r_sweets z_h_now) (r_settings z_h_now) q3.2 (r_children z_h_mind_one) (r_strokes z_h_mind_one) (r_gave z_h_mind_one) (r_threw z_h_mind_one) (r_kinds z_h_mind_one) (r_sweets z_h_mind_one) (r_settings z_h_mind_one) (r_heaps z_h_mind_one) (r_children z_h_mind_two) (r_strokes z_h_mind_two) (r_gave z_h_mind_two) (r_threw z_h_mind_two) (r_kinds z_h_mind_two) (r_sweets z_h_mind_two) (r_settings z_h_mind_two) (r_heaps z_h_mind_two))) (As := [.int (-3)]) (rest := []) hx hb hml hown hT (c_X_refuse (z_h_refusals := z_h_refusals) a_h a_h_now a_h_kept a_h_letters a_h_numbers a_h_refusals a_h_mind a_h_parts a_h_past a_h_seating y_h_isKept y_h_numberCount hq3) k_198 k_200 ks_0 k_1 k_201 hd_X_refuse ⟨Nat.le_of_ble_eq_true rfl, Nat.le_of_ble_eq_true rfl⟩ xE0_ok trivial hA hK hP hD hS [0, 5] [1, 2, 3, 4, 6, 7, 8, 9, 10, 11, 12, 13, 14, 15, 16] [15, 0, 1, 2, 3, 16, 4, 5, 6, 7, 8, 9, 10, 11, 12, 13, 14] rfl rfl rfl rfl rfl rfl rfl rfl rfl rfl hl.1 rfl (Nat.le_of_ble_eq_true rfl) ⟨Nat.zero_le _, Nat.zero_le _⟩ d_X_rests_13 (fun H locs hP hD hS => ?_)
    have hq := Option.some.inj hf
    subst hq
    exact hret _ _ _ _ _ d_X_rests_16 rfl rfl hP hD hS
abbrev w_X_alike (cI cJ cC : ClassId) (a_h a_h_now a_h_kept a_h_letters a_h_numbers a_h_refusals a_h_mind a_h_parts a_h_past a_h_seating a_h_now_kinds a_h_now_sweets a_h_now_settings a_h_now_heaps a_h_mind_one a_h_mind_two a_h_mind_one_kinds a_h_mind_one_sweets a_h_mind_one_settings a_h_mind_one_heaps : Nat) (y_h_isKept : Int32) (y_h_numberCount : Int32) (y_h_mind_seed : Int32) (p_h_now_children : Int32) (p_h_now_strokes : Int32) (p_h_now_gave : Int32) (p_h_now_threw : Int32) (p_h_now_kinds : (Nat → Int32)) (p_h_now_sweets : (Nat → Int32)) (p_h_now_settings : (Nat → Int32)) (p_h_refusals : (Nat → Int32)) (p_h_mind_one_children : Int32) (p_h_mind_one_strokes : Int32) (p_h_mind_one_gave : Int32) (p_h_mind_one_threw : Int32) (p_h_mind_one_kinds : (Nat → Int32)) (p_h_mind_one_sweets : (Nat → Int32)) (p_h_mind_one_settings : (Nat → Int32)) (p_h_mind_one_heaps : (Nat → Int32)) : va_W := [(a_h, .inr (0, [.ref a_h_now, .ref a_h_kept, .int y_h_isKept, .ref a_h_letters, .ref a_h_numbers, .int y_h_numberCount, .ref a_h_refusals, .ref a_h_mind, .ref a_h_parts, .ref a_h_past, .ref a_h_seating])), (a_h_now, .inr (1, [.ref a_h_now_kinds, .ref a_h_now_sweets, .ref a_h_now_settings, .int p_h_now_children, .int p_h_now_strokes, .int p_h_now_gave, .int p_h_now_threw, .ref a_h_now_heaps])), (a_h_now_kinds, .inl (cI, (8, .inl p_h_now_kinds))), (a_h_now_sweets, .inl (cI, (8, .inl p_h_now_sweets))), (a_h_now_settings, .inl (cI, (3, .inl p_h_now_settings))), (a_h_refusals, .inl (cI, (7, .inl p_h_refusals))), (a_h_mind, .inr (3, [.ref a_h_mind_one, .ref a_h_mind_two, .int y_h_mind_seed])), (a_h_mind_one, .inr (1, [.ref a_h_mind_one_kinds, .ref a_h_mind_one_sweets, .ref a_h_mind_one_settings, .int p_h_mind_one_children, .int p_h_mind_one_strokes, .int p_h_mind_one_gave, .int p_h_mind_one_threw, .ref a_h_mind_one_heaps])), (a_h_mind_one_kinds, .inl (cI, (8, .inl p_h_mind_one_kinds))), (a_h_mind_one_sweets, .inl (cI, (8, .inl p_h_mind_one_sweets))), (a_h_mind_one_settings, .inl (cI, (3, .inl p_h_mind_one_settings))), (a_h_mind_one_heaps, .inl (cI, (8, .inl p_h_mind_one_heaps)))]
theorem d_X_alike_0 : decode b_X_alike 0 = .ok (.aload_n 0, 1) := by decide +kernel
theorem d_X_alike_1 : decode b_X_alike 1 = .ok (.getfield 10, 3) := by decide +kernel
theorem d_X_alike_4 : decode b_X_alike 4 = .ok (.getfield 121, 3) := by decide +kernel
theorem d_X_alike_7 : decode b_X_alike 7 = .ok (.ifCond .ne 10, 3) := by decide +kernel
theorem d_X_alike_10 : decode b_X_alike 10 = .ok (.aload_n 0, 1) := by decide +kernel
theorem d_X_alike_11 : decode b_X_alike 11 = .ok (.bipush (-3), 2) := by decide +kernel
theorem d_X_alike_13 : decode b_X_alike 13 = .ok (.invokevirtual 69, 3) := by decide +kernel
theorem d_X_alike_16 : decode b_X_alike 16 = .ok (.ireturn, 1) := by decide +kernel
theorem d_X_alike_17 : decode b_X_alike 17 = .ok (.aload_n 0, 1) := by decide +kernel
theorem d_X_alike_18 : decode b_X_alike 18 = .ok (.getfield 44, 3) := by decide +kernel
theorem d_X_alike_21 : decode b_X_alike 21 = .ok (.aload_n 0, 1) := by decide +kernel
theorem d_X_alike_22 : decode b_X_alike 22 = .ok (.getfield 10, 3) := by decide +kernel
theorem d_X_alike_25 : decode b_X_alike 25 = .ok (.invokevirtual 145, 3) := by decide +kernel
theorem d_X_alike_28 : decode b_X_alike 28 = .ok (.ireturn, 1) := by decide +kernel
set_option maxHeartbeats 4000000 in
set_option maxRecDepth 100000 in
theorem c_X_alike {l : Launch} {D : va_G} {cI cJ cC : ClassId} (a_h a_h_now a_h_kept a_h_letters a_h_numbers a_h_refusals a_h_mind a_h_parts a_h_past a_h_seating a_h_now_kinds a_h_now_sweets a_h_now_settings a_h_now_heaps a_h_mind_one a_h_mind_two a_h_mind_one_kinds a_h_mind_one_sweets a_h_mind_one_settings a_h_mind_one_heaps : Nat) (y_h_isKept : Int32) (y_h_numberCount : Int32) (y_h_mind_seed : Int32) {z_h_now : RS} {z_h_refusals : (Nat → Int32)} {z_h_mind_one : RS} {q : Int32 × (Nat → Int32) × RS} (hf : f_X_alike z_h_now z_h_refusals z_h_mind_one = some q) : xI l y_X_alike b_X_alike 1 .int 6 132 D (tyK cI cJ cC) xE0 [.ref a_h] (w_X_alike cI cJ cC a_h a_h_now a_h_kept a_h_letters a_h_numbers a_h_refusals a_h_mind a_h_parts a_h_past a_h_seating a_h_now_kinds a_h_now_sweets a_h_now_settings a_h_now_heaps a_h_mind_one a_h_mind_two a_h_mind_one_kinds a_h_mind_one_sweets a_h_mind_one_settings a_h_mind_one_heaps y_h_isKept y_h_numberCount y_h_mind_seed (r_children z_h_now) (r_strokes z_h_now) (r_gave z_h_now) (r_threw z_h_now) (r_kinds z_h_now) (r_sweets z_h_now) (r_settings z_h_now) z_h_refusals (r_children z_h_mind_one) (r_strokes z_h_mind_one) (r_gave z_h_mind_one) (r_threw z_h_mind_one) (r_kinds z_h_mind_one) (r_sweets z_h_mind_one) (r_settings z_h_mind_one) (r_heaps z_h_mind_one)) q.1 (w_X_alike cI cJ cC a_h a_h_now a_h_kept a_h_letters a_h_numbers a_h_refusals a_h_mind a_h_parts a_h_past a_h_seating a_h_now_kinds a_h_now_sweets a_h_now_settings a_h_now_heaps a_h_mind_one a_h_mind_two a_h_mind_one_kinds a_h_mind_one_sweets a_h_mind_one_settings a_h_mind_one_heaps y_h_isKept y_h_numberCount y_h_mind_seed (r_children z_h_now) (r_strokes z_h_now) (r_gave z_h_now) (r_threw z_h_now) (r_kinds z_h_now) (r_sweets z_h_now) (r_settings z_h_now) q.2.1 (r_children q.2.2) (r_strokes q.2.2) (r_gave q.2.2) (r_threw q.2.2) (r_kinds q.2.2) (r_sweets q.2.2) (r_settings q.2.2) (r_heaps q.2.2)) := by
  refine xI_of (by decide) (Nat.le_of_ble_eq_true rfl) ?_
  intro p e s m args below meth c A Q hx hb hml hown hT hA hP hD hK hS hE hret ls hl
  have hown : s.vm.findClass R_X = some m.cls := hown
  have hl : lv_has ls 1 [(0, .ref a_h)] := hl
  unfold f_X_alike at hf
  refine lv_aload_n hx hb d_X_alike_0 rfl (lv_at hl 0 rfl) ?_
  refine va_get hx hb hT i_X hown hK hP 0 rfl rfl 0 (Nat.le_of_ble_eq_true rfl) (hT _ k_156) (fun _ h => h) rfl d_X_alike_1 ?_
  refine va_get hx hb hT i_Ring hown hK hP 1 rfl rfl 3 (Nat.le_of_ble_eq_true rfl) (hT _ k_40) (fun _ h => h) rfl d_X_alike_4 ?_
  refine lv_if_ne (tgt := 17) hx hb d_X_alike_7 (by decide) (fun c1 => ?_) (fun c1 => ?_)
  · have hf := io_f hf c1
    refine lv_aload_n hx hb d_X_alike_17 rfl (lv_at hl 0 rfl) ?_
    refine va_get hx hb hT i_X hown hK hP 0 rfl rfl 7 (Nat.le_of_ble_eq_true rfl) (hT _ k_163) (fun _ h => h) rfl d_X_alike_18 ?_
    refine lv_aload_n hx hb d_X_alike_21 rfl (lv_at hl 0 rfl) ?_
    refine va_get hx hb hT i_X hown hK hP 0 rfl rfl 0 (Nat.le_of_ble_eq_true rfl) (hT _ k_156) (fun _ h => h) rfl d_X_alike_22 ?_
    obtain ⟨q2, hq2, hf⟩ := io_b hf
    refine xcVI (wc := (w_Mind_alikeBehind cI cJ cC a_h_mind a_h_mind_one a_h_mind_two a_h_mind_one_kinds a_h_mind_one_sweets a_h_mind_one_settings a_h_mind_one_heaps a_h_now a_h_now_kinds a_h_now_sweets a_h_now_settings a_h_now_heaps y_h_mind_seed (r_children z_h_mind_one) (r_strokes z_h_mind_one) (r_gave z_h_mind_one) (r_threw z_h_mind_one) (r_kinds z_h_mind_one) (r_sweets z_h_mind_one) (r_settings z_h_mind_one) (r_heaps z_h_mind_one) (r_children z_h_now) (r_strokes z_h_now) (r_gave z_h_now) (r_threw z_h_now) (r_kinds z_h_now) (r_sweets z_h_now) (r_settings z_h_now))) (wc' := (w_Mind_alikeBehind cI cJ cC a_h_mind a_h_mind_one a_h_mind_two a_h_mind_one_kinds a_h_mind_one_sweets a_h_mind_one_settings a_h_mind_one_heaps a_h_now a_h_now_kinds a_h_now_sweets a_h_now_settings a_h_now_heaps y_h_mind_seed (r_children q2.2) (r_strokes q2.2) (r_gave q2.2) (r_threw q2.2) (r_kinds q2.2) (r_sweets q2.2) (r_settings q2.2) (r_heaps q2.2) (r_children z_h_now) (r_strokes z_h_now) (r_gave z_h_now) (r_threw z_h_now) (r_kinds z_h_now) (r_sweets z_h_now) (r_settings z_h_now))) (ws' := (w_X_alike cI cJ cC a_h a_h_now a_h_kept a_h_letters a_h_numbers a_h_refusals a_h_mind a_h_parts a_h_past a_h_seating a_h_now_kinds a_h_now_sweets a_h_now_settings a_h_now_heaps a_h_mind_one a_h_mind_two a_h_mind_one_kinds a_h_mind_one_sweets a_h_mind_one_settings a_h_mind_one_heaps y_h_isKept y_h_numberCount y_h_mind_seed (r_children z_h_now) (r_strokes z_h_now) (r_gave z_h_now) (r_threw z_h_now) (r_kinds z_h_now) (r_sweets z_h_now) (r_settings z_h_now) z_h_refusals (r_children q2.2) (r_strokes q2.2) (r_gave q2.2) (r_threw q2.2) (r_kinds q2.2) (r_sweets q2.2) (r_settings q2.2) (r_heaps q2.2))) (As := [.ref a_h_now]) (rest := []) hx hb hml hown hT (c_Mind_alikeBehind (z_h_one := z_h_mind_one) (z_g1 := z_h_now) a_h_mind a_h_mind_one a_h_mind_two a_h_mind_one_kinds a_h_mind_one_sweets a_h_mind_one_settings a_h_mind_one_heaps a_h_now a_h_now_kinds a_h_now_sweets a_h_now_settings a_h_now_heaps y_h_mind_seed hq2) k_293 k_294 k_295 k_4 k_296 hd_Mind_alikeBehind ⟨Nat.le_of_ble_eq_true rfl, Nat.le_of_ble_eq_true rfl⟩ xE0_ok trivial hA hK hP hD hS [6, 7, 8, 9, 10, 11, 1, 2, 3, 4] [0, 5] [0, 8, 9, 10, 11, 1, 2, 3, 4, 5, 6, 7] rfl rfl rfl rfl rfl rfl rfl rfl rfl rfl hl.1 rfl (Nat.le_of_ble_eq_true rfl) ⟨Nat.zero_le _, Nat.zero_le _⟩ d_X_alike_25 (fun H locs hP hD hS => ?_)
    have hq := Option.some.inj hf
    subst hq
    exact hret _ _ _ _ _ d_X_alike_28 rfl rfl hP hD hS
  · have hf := io_t hf c1
    refine lv_aload_n hx hb d_X_alike_10 rfl (lv_at hl 0 rfl) ?_
    refine lv_bipush (v := (-3)) hx hb d_X_alike_11 (by decide) ?_
    obtain ⟨q3, hq3, hf⟩ := io_b hf
    refine xcVI (wc := (w_X_refuse cI cJ cC a_h a_h_now a_h_kept a_h_letters a_h_numbers a_h_refusals a_h_mind a_h_parts a_h_past a_h_seating y_h_isKept y_h_numberCount z_h_refusals)) (wc' := (w_X_refuse cI cJ cC a_h a_h_now a_h_kept a_h_letters a_h_numbers a_h_refusals a_h_mind a_h_parts a_h_past a_h_seating y_h_isKept y_h_numberCount q3.2)) (ws' := (w_X_alike cI cJ cC a_h a_h_now a_h_kept a_h_letters a_h_numbers a_h_refusals a_h_mind a_h_parts a_h_past a_h_seating a_h_now_kinds a_h_now_sweets a_h_now_settings a_h_now_heaps a_h_mind_one a_h_mind_two a_h_mind_one_kinds a_h_mind_one_sweets a_h_mind_one_settings a_h_mind_one_heaps y_h_isKept y_h_numberCount y_h_mind_seed (r_children z_h_now) (r_strokes z_h_now) (r_gave z_h_now) (r_threw z_h_now) (r_kinds z_h_now) (r_sweets z_h_now) (r_settings z_h_now) q3.2 (r_children z_h_mind_one) (r_strokes z_h_mind_one) (r_gave z_h_mind_one) (r_threw z_h_mind_one) (r_kinds z_h_mind_one) (r_sweets z_h_mind_one) (r_settings z_h_mind_one) (r_heaps z_h_mind_one))) (As := [.int (-3)]) (rest := []) hx hb hml hown hT (c_X_refuse (z_h_refusals := z_h_refusals) a_h a_h_now a_h_kept a_h_letters a_h_numbers a_h_refusals a_h_mind a_h_parts a_h_past a_h_seating y_h_isKept y_h_numberCount hq3) k_198 k_200 ks_0 k_1 k_201 hd_X_refuse ⟨Nat.le_of_ble_eq_true rfl, Nat.le_of_ble_eq_true rfl⟩ xE0_ok trivial hA hK hP hD hS [0, 5] [1, 2, 3, 4, 6, 7, 8, 9, 10, 11] [10, 0, 1, 2, 3, 11, 4, 5, 6, 7, 8, 9] rfl rfl rfl rfl rfl rfl rfl rfl rfl rfl hl.1 rfl (Nat.le_of_ble_eq_true rfl) ⟨Nat.zero_le _, Nat.zero_le _⟩ d_X_alike_13 (fun H locs hP hD hS => ?_)
    have hq := Option.some.inj hf
    subst hq
    exact hret _ _ _ _ _ d_X_alike_16 rfl rfl hP hD hS
abbrev w_X_ring (cI cJ cC : ClassId) (a_h a_h_now a_h_kept a_h_letters a_h_numbers a_h_refusals a_h_mind a_h_parts a_h_past a_h_seating a_h_now_kinds a_h_now_sweets a_h_now_settings a_h_now_heaps a_h_mind_one a_h_mind_two a_h_mind_one_kinds a_h_mind_one_sweets a_h_mind_one_settings a_h_mind_one_heaps a_h_mind_two_kinds a_h_mind_two_sweets a_h_mind_two_settings a_h_mind_two_heaps : Nat) (y_h_isKept : Int32) (y_h_numberCount : Int32) (y_h_mind_seed : Int32) (p_h_now_children : Int32) (p_h_now_strokes : Int32) (p_h_now_gave : Int32) (p_h_now_threw : Int32) (p_h_now_kinds : (Nat → Int32)) (p_h_now_sweets : (Nat → Int32)) (p_h_now_settings : (Nat → Int32)) (p_h_refusals : (Nat → Int32)) (p_h_mind_one_children : Int32) (p_h_mind_one_strokes : Int32) (p_h_mind_one_gave : Int32) (p_h_mind_one_threw : Int32) (p_h_mind_one_kinds : (Nat → Int32)) (p_h_mind_one_sweets : (Nat → Int32)) (p_h_mind_one_settings : (Nat → Int32)) (p_h_mind_one_heaps : (Nat → Int32)) (p_h_mind_two_children : Int32) (p_h_mind_two_strokes : Int32) (p_h_mind_two_gave : Int32) (p_h_mind_two_threw : Int32) (p_h_mind_two_kinds : (Nat → Int32)) (p_h_mind_two_sweets : (Nat → Int32)) (p_h_mind_two_settings : (Nat → Int32)) (p_h_mind_two_heaps : (Nat → Int32)) : va_W := [(a_h, .inr (0, [.ref a_h_now, .ref a_h_kept, .int y_h_isKept, .ref a_h_letters, .ref a_h_numbers, .int y_h_numberCount, .ref a_h_refusals, .ref a_h_mind, .ref a_h_parts, .ref a_h_past, .ref a_h_seating])), (a_h_now, .inr (1, [.ref a_h_now_kinds, .ref a_h_now_sweets, .ref a_h_now_settings, .int p_h_now_children, .int p_h_now_strokes, .int p_h_now_gave, .int p_h_now_threw, .ref a_h_now_heaps])), (a_h_now_kinds, .inl (cI, (8, .inl p_h_now_kinds))), (a_h_now_sweets, .inl (cI, (8, .inl p_h_now_sweets))), (a_h_now_settings, .inl (cI, (3, .inl p_h_now_settings))), (a_h_refusals, .inl (cI, (7, .inl p_h_refusals))), (a_h_mind, .inr (3, [.ref a_h_mind_one, .ref a_h_mind_two, .int y_h_mind_seed])), (a_h_mind_one, .inr (1, [.ref a_h_mind_one_kinds, .ref a_h_mind_one_sweets, .ref a_h_mind_one_settings, .int p_h_mind_one_children, .int p_h_mind_one_strokes, .int p_h_mind_one_gave, .int p_h_mind_one_threw, .ref a_h_mind_one_heaps])), (a_h_mind_one_kinds, .inl (cI, (8, .inl p_h_mind_one_kinds))), (a_h_mind_one_sweets, .inl (cI, (8, .inl p_h_mind_one_sweets))), (a_h_mind_one_settings, .inl (cI, (3, .inl p_h_mind_one_settings))), (a_h_mind_one_heaps, .inl (cI, (8, .inl p_h_mind_one_heaps))), (a_h_mind_two, .inr (1, [.ref a_h_mind_two_kinds, .ref a_h_mind_two_sweets, .ref a_h_mind_two_settings, .int p_h_mind_two_children, .int p_h_mind_two_strokes, .int p_h_mind_two_gave, .int p_h_mind_two_threw, .ref a_h_mind_two_heaps])), (a_h_mind_two_kinds, .inl (cI, (8, .inl p_h_mind_two_kinds))), (a_h_mind_two_sweets, .inl (cI, (8, .inl p_h_mind_two_sweets))), (a_h_mind_two_settings, .inl (cI, (3, .inl p_h_mind_two_settings))), (a_h_mind_two_heaps, .inl (cI, (8, .inl p_h_mind_two_heaps)))]
theorem d_X_ring_0 : decode b_X_ring 0 = .ok (.iload_n 1, 1) := by decide +kernel
theorem d_X_ring_1 : decode b_X_ring 1 = .ok (.invokestatic 132, 3) := by decide +kernel
theorem d_X_ring_4 : decode b_X_ring 4 = .ok (.ifCond .ne 10, 3) := by decide +kernel
theorem d_X_ring_7 : decode b_X_ring 7 = .ok (.aload_n 0, 1) := by decide +kernel
theorem d_X_ring_8 : decode b_X_ring 8 = .ok (.bipush (-2), 2) := by decide +kernel
theorem d_X_ring_10 : decode b_X_ring 10 = .ok (.invokevirtual 69, 3) := by decide +kernel
theorem d_X_ring_13 : decode b_X_ring 13 = .ok (.ireturn, 1) := by decide +kernel
theorem d_X_ring_14 : decode b_X_ring 14 = .ok (.aload_n 0, 1) := by decide +kernel
theorem d_X_ring_15 : decode b_X_ring 15 = .ok (.getfield 10, 3) := by decide +kernel
theorem d_X_ring_18 : decode b_X_ring 18 = .ok (.getfield 121, 3) := by decide +kernel
theorem d_X_ring_21 : decode b_X_ring 21 = .ok (.ifCond .ne 10, 3) := by decide +kernel
theorem d_X_ring_24 : decode b_X_ring 24 = .ok (.aload_n 0, 1) := by decide +kernel
theorem d_X_ring_25 : decode b_X_ring 25 = .ok (.bipush (-3), 2) := by decide +kernel
theorem d_X_ring_27 : decode b_X_ring 27 = .ok (.invokevirtual 69, 3) := by decide +kernel
theorem d_X_ring_30 : decode b_X_ring 30 = .ok (.ireturn, 1) := by decide +kernel
theorem d_X_ring_31 : decode b_X_ring 31 = .ok (.aload_n 0, 1) := by decide +kernel
theorem d_X_ring_32 : decode b_X_ring 32 = .ok (.getfield 44, 3) := by decide +kernel
theorem d_X_ring_35 : decode b_X_ring 35 = .ok (.aload_n 0, 1) := by decide +kernel
theorem d_X_ring_36 : decode b_X_ring 36 = .ok (.getfield 10, 3) := by decide +kernel
theorem d_X_ring_39 : decode b_X_ring 39 = .ok (.invokevirtual 148, 3) := by decide +kernel
theorem d_X_ring_42 : decode b_X_ring 42 = .ok (.istore_n 2, 1) := by decide +kernel
theorem d_X_ring_43 : decode b_X_ring 43 = .ok (.iload_n 2, 1) := by decide +kernel
theorem d_X_ring_44 : decode b_X_ring 44 = .ok (.bipush (-9), 2) := by decide +kernel
theorem d_X_ring_46 : decode b_X_ring 46 = .ok (.if_icmp .eq 8, 3) := by decide +kernel
theorem d_X_ring_49 : decode b_X_ring 49 = .ok (.iload_n 1, 1) := by decide +kernel
theorem d_X_ring_50 : decode b_X_ring 50 = .ok (.iconst 1, 1) := by decide +kernel
theorem d_X_ring_51 : decode b_X_ring 51 = .ok (.if_icmp .ne 5, 3) := by decide +kernel
theorem d_X_ring_54 : decode b_X_ring 54 = .ok (.iload_n 2, 1) := by decide +kernel
theorem d_X_ring_55 : decode b_X_ring 55 = .ok (.ireturn, 1) := by decide +kernel
theorem d_X_ring_56 : decode b_X_ring 56 = .ok (.aload_n 0, 1) := by decide +kernel
theorem d_X_ring_57 : decode b_X_ring 57 = .ok (.getfield 44, 3) := by decide +kernel
theorem d_X_ring_60 : decode b_X_ring 60 = .ok (.aload_n 0, 1) := by decide +kernel
theorem d_X_ring_61 : decode b_X_ring 61 = .ok (.getfield 10, 3) := by decide +kernel
theorem d_X_ring_64 : decode b_X_ring 64 = .ok (.iload_n 2, 1) := by decide +kernel
theorem d_X_ring_65 : decode b_X_ring 65 = .ok (.invokevirtual 151, 3) := by decide +kernel
theorem d_X_ring_68 : decode b_X_ring 68 = .ok (.ireturn, 1) := by decide +kernel
set_option maxHeartbeats 4000000 in
set_option maxRecDepth 100000 in
theorem c_X_ring {l : Launch} {D : va_G} {cI cJ cC : ClassId} (a_h a_h_now a_h_kept a_h_letters a_h_numbers a_h_refusals a_h_mind a_h_parts a_h_past a_h_seating a_h_now_kinds a_h_now_sweets a_h_now_settings a_h_now_heaps a_h_mind_one a_h_mind_two a_h_mind_one_kinds a_h_mind_one_sweets a_h_mind_one_settings a_h_mind_one_heaps a_h_mind_two_kinds a_h_mind_two_sweets a_h_mind_two_settings a_h_mind_two_heaps : Nat) (y_h_isKept : Int32) (y_h_numberCount : Int32) (y_h_mind_seed : Int32) {z_h_now : RS} {z_h_refusals : (Nat → Int32)} {z_h_mind_one : RS} {z_h_mind_two : RS} {x1 : Int32} {q : Int32 × (Nat → Int32) × RS × RS} (hf : f_X_ring z_h_now z_h_refusals z_h_mind_one z_h_mind_two x1 = some q) : xI l y_X_ring b_X_ring 3 .int 6 134 D (tyK cI cJ cC) xE0 [.ref a_h, .int x1] (w_X_ring cI cJ cC a_h a_h_now a_h_kept a_h_letters a_h_numbers a_h_refusals a_h_mind a_h_parts a_h_past a_h_seating a_h_now_kinds a_h_now_sweets a_h_now_settings a_h_now_heaps a_h_mind_one a_h_mind_two a_h_mind_one_kinds a_h_mind_one_sweets a_h_mind_one_settings a_h_mind_one_heaps a_h_mind_two_kinds a_h_mind_two_sweets a_h_mind_two_settings a_h_mind_two_heaps y_h_isKept y_h_numberCount y_h_mind_seed (r_children z_h_now) (r_strokes z_h_now) (r_gave z_h_now) (r_threw z_h_now) (r_kinds z_h_now) (r_sweets z_h_now) (r_settings z_h_now) z_h_refusals (r_children z_h_mind_one) (r_strokes z_h_mind_one) (r_gave z_h_mind_one) (r_threw z_h_mind_one) (r_kinds z_h_mind_one) (r_sweets z_h_mind_one) (r_settings z_h_mind_one) (r_heaps z_h_mind_one) (r_children z_h_mind_two) (r_strokes z_h_mind_two) (r_gave z_h_mind_two) (r_threw z_h_mind_two) (r_kinds z_h_mind_two) (r_sweets z_h_mind_two) (r_settings z_h_mind_two) (r_heaps z_h_mind_two)) q.1 (w_X_ring cI cJ cC a_h a_h_now a_h_kept a_h_letters a_h_numbers a_h_refusals a_h_mind a_h_parts a_h_past a_h_seating a_h_now_kinds a_h_now_sweets a_h_now_settings a_h_now_heaps a_h_mind_one a_h_mind_two a_h_mind_one_kinds a_h_mind_one_sweets a_h_mind_one_settings a_h_mind_one_heaps a_h_mind_two_kinds a_h_mind_two_sweets a_h_mind_two_settings a_h_mind_two_heaps y_h_isKept y_h_numberCount y_h_mind_seed (r_children z_h_now) (r_strokes z_h_now) (r_gave z_h_now) (r_threw z_h_now) (r_kinds z_h_now) (r_sweets z_h_now) (r_settings z_h_now) q.2.1 (r_children q.2.2.1) (r_strokes q.2.2.1) (r_gave q.2.2.1) (r_threw q.2.2.1) (r_kinds q.2.2.1) (r_sweets q.2.2.1) (r_settings q.2.2.1) (r_heaps q.2.2.1) (r_children q.2.2.2) (r_strokes q.2.2.2) (r_gave q.2.2.2) (r_threw q.2.2.2) (r_kinds q.2.2.2) (r_sweets q.2.2.2) (r_settings q.2.2.2) (r_heaps q.2.2.2)) := by
  refine xI_of (by decide) (Nat.le_of_ble_eq_true rfl) ?_
  intro p e s m args below meth c A Q hx hb hml hown hT hA hP hD hK hS hE hret ls hl
  have hown : s.vm.findClass R_X = some m.cls := hown
  have hl : lv_has ls 3 [(0, .ref a_h), (1, .int x1)] := hl
  unfold f_X_ring at hf
  refine lv_iload_n hx hb d_X_ring_0 rfl (lv_at hl 1 rfl) ?_
  obtain ⟨q1, hq1, hf⟩ := io_b hf
  refine xcSI (wc := []) (wc' := []) (ws' := (w_X_ring cI cJ cC a_h a_h_now a_h_kept a_h_letters a_h_numbers a_h_refusals a_h_mind a_h_parts a_h_past a_h_seating a_h_now_kinds a_h_now_sweets a_h_now_settings a_h_now_heaps a_h_mind_one a_h_mind_two a_h_mind_one_kinds a_h_mind_one_sweets a_h_mind_one_settings a_h_mind_one_heaps a_h_mind_two_kinds a_h_mind_two_sweets a_h_mind_two_settings a_h_mind_two_heaps y_h_isKept y_h_numberCount y_h_mind_seed (r_children z_h_now) (r_strokes z_h_now) (r_gave z_h_now) (r_threw z_h_now) (r_kinds z_h_now) (r_sweets z_h_now) (r_settings z_h_now) z_h_refusals (r_children z_h_mind_one) (r_strokes z_h_mind_one) (r_gave z_h_mind_one) (r_threw z_h_mind_one) (r_kinds z_h_mind_one) (r_sweets z_h_mind_one) (r_settings z_h_mind_one) (r_heaps z_h_mind_one) (r_children z_h_mind_two) (r_strokes z_h_mind_two) (r_gave z_h_mind_two) (r_threw z_h_mind_two) (r_kinds z_h_mind_two) (r_sweets z_h_mind_two) (r_settings z_h_mind_two) (r_heaps z_h_mind_two))) (As := [.int x1]) (rest := []) hx hb hml hown hT (c_X_isPart hq1) k_265 k_266 k_1 k_267 hd_X_isPart ⟨Nat.le_of_ble_eq_true rfl, Nat.le_of_ble_eq_true rfl⟩ xE0_ok trivial hA hK hP hD hS [] [0, 1, 2, 3, 4, 5, 6, 7, 8, 9, 10, 11, 12, 13, 14, 15, 16] [0, 1, 2, 3, 4, 5, 6, 7, 8, 9, 10, 11, 12, 13, 14, 15, 16] rfl rfl rfl rfl rfl rfl rfl hl.1 rfl (Nat.le_of_ble_eq_true rfl) ⟨Nat.zero_le _, Nat.zero_le _⟩ d_X_ring_1 (fun H locs hP hD hS => ?_)
  refine lv_if_ne (tgt := 14) hx hb d_X_ring_4 (by decide) (fun c2 => ?_) (fun c2 => ?_)
  · have hf := io_f hf c2
    refine lv_aload_n hx hb d_X_ring_14 rfl (lv_at hl 0 rfl) ?_
    refine va_get hx hb hT i_X hown hK hP 0 rfl rfl 0 (Nat.le_of_ble_eq_true rfl) (hT _ k_156) (fun _ h => h) rfl d_X_ring_15 ?_
    refine va_get hx hb hT i_Ring hown hK hP 1 rfl rfl 3 (Nat.le_of_ble_eq_true rfl) (hT _ k_40) (fun _ h => h) rfl d_X_ring_18 ?_
    refine lv_if_ne (tgt := 31) hx hb d_X_ring_21 (by decide) (fun c3 => ?_) (fun c3 => ?_)
    · have hf := io_f hf c3
      refine lv_aload_n hx hb d_X_ring_31 rfl (lv_at hl 0 rfl) ?_
      refine va_get hx hb hT i_X hown hK hP 0 rfl rfl 7 (Nat.le_of_ble_eq_true rfl) (hT _ k_163) (fun _ h => h) rfl d_X_ring_32 ?_
      refine lv_aload_n hx hb d_X_ring_35 rfl (lv_at hl 0 rfl) ?_
      refine va_get hx hb hT i_X hown hK hP 0 rfl rfl 0 (Nat.le_of_ble_eq_true rfl) (hT _ k_156) (fun _ h => h) rfl d_X_ring_36 ?_
      obtain ⟨q4, hq4, hf⟩ := io_b hf
      refine xcVI (wc := (w_Mind_roundOf cI cJ cC a_h_mind a_h_mind_one a_h_mind_two a_h_mind_one_kinds a_h_mind_one_sweets a_h_mind_one_settings a_h_mind_one_heaps a_h_mind_two_kinds a_h_mind_two_sweets a_h_mind_two_settings a_h_mind_two_heaps a_h_now a_h_now_kinds a_h_now_sweets a_h_now_settings a_h_now_heaps y_h_mind_seed (r_children z_h_mind_one) (r_strokes z_h_mind_one) (r_gave z_h_mind_one) (r_threw z_h_mind_one) (r_kinds z_h_mind_one) (r_sweets z_h_mind_one) (r_settings z_h_mind_one) (r_heaps z_h_mind_one) (r_children z_h_mind_two) (r_strokes z_h_mind_two) (r_gave z_h_mind_two) (r_threw z_h_mind_two) (r_kinds z_h_mind_two) (r_sweets z_h_mind_two) (r_settings z_h_mind_two) (r_heaps z_h_mind_two) (r_children z_h_now) (r_strokes z_h_now) (r_gave z_h_now) (r_threw z_h_now) (r_kinds z_h_now) (r_sweets z_h_now) (r_settings z_h_now))) (wc' := (w_Mind_roundOf cI cJ cC a_h_mind a_h_mind_one a_h_mind_two a_h_mind_one_kinds a_h_mind_one_sweets a_h_mind_one_settings a_h_mind_one_heaps a_h_mind_two_kinds a_h_mind_two_sweets a_h_mind_two_settings a_h_mind_two_heaps a_h_now a_h_now_kinds a_h_now_sweets a_h_now_settings a_h_now_heaps y_h_mind_seed (r_children q4.2.1) (r_strokes q4.2.1) (r_gave q4.2.1) (r_threw q4.2.1) (r_kinds q4.2.1) (r_sweets q4.2.1) (r_settings q4.2.1) (r_heaps q4.2.1) (r_children q4.2.2) (r_strokes q4.2.2) (r_gave q4.2.2) (r_threw q4.2.2) (r_kinds q4.2.2) (r_sweets q4.2.2) (r_settings q4.2.2) (r_heaps q4.2.2) (r_children z_h_now) (r_strokes z_h_now) (r_gave z_h_now) (r_threw z_h_now) (r_kinds z_h_now) (r_sweets z_h_now) (r_settings z_h_now))) (ws' := (w_X_ring cI cJ cC a_h a_h_now a_h_kept a_h_letters a_h_numbers a_h_refusals a_h_mind a_h_parts a_h_past a_h_seating a_h_now_kinds a_h_now_sweets a_h_now_settings a_h_now_heaps a_h_mind_one a_h_mind_two a_h_mind_one_kinds a_h_mind_one_sweets a_h_mind_one_settings a_h_mind_one_heaps a_h_mind_two_kinds a_h_mind_two_sweets a_h_mind_two_settings a_h_mind_two_heaps y_h_isKept y_h_numberCount y_h_mind_seed (r_children z_h_now) (r_strokes z_h_now) (r_gave z_h_now) (r_threw z_h_now) (r_kinds z_h_now) (r_sweets z_h_now) (r_settings z_h_now) z_h_refusals (r_children q4.2.1) (r_strokes q4.2.1) (r_gave q4.2.1) (r_threw q4.2.1) (r_kinds q4.2.1) (r_sweets q4.2.1) (r_settings q4.2.1) (r_heaps q4.2.1) (r_children q4.2.2) (r_strokes q4.2.2) (r_gave q4.2.2) (r_threw q4.2.2) (r_kinds q4.2.2) (r_sweets q4.2.2) (r_settings q4.2.2) (r_heaps q4.2.2))) (As := [.ref a_h_now]) (rest := []) hx hb hml hown hT (c_Mind_roundOf (z_h_one := z_h_mind_one) (z_h_two := z_h_mind_two) (z_g1 := z_h_now) a_h_mind a_h_mind_one a_h_mind_two a_h_mind_one_kinds a_h_mind_one_sweets a_h_mind_one_settings a_h_mind_one_heaps a_h_mind_two_kinds a_h_mind_two_sweets a_h_mind_two_settings a_h_mind_two_heaps a_h_now a_h_now_kinds a_h_now_sweets a_h_now_settings a_h_now_heaps y_h_mind_seed hq4) k_308 k_309 k_310 k_4 k_311 hd_Mind_roundOf ⟨Nat.le_of_ble_eq_true rfl, Nat.le_of_ble_eq_true rfl⟩ xE0_ok trivial hA hK hP hD hS [6, 7, 8, 9, 10, 11, 12, 13, 14, 15, 16, 1, 2, 3, 4] [0, 5] [0, 13, 14, 15, 16, 1, 2, 3, 4, 5, 6, 7, 8, 9, 10, 11, 12] rfl rfl rfl rfl rfl rfl rfl rfl rfl rfl hl.1 rfl (Nat.le_of_ble_eq_true rfl) ⟨Nat.zero_le _, Nat.zero_le _⟩ d_X_ring_39 (fun H locs hP hD hS => ?_)
      refine lv_istore_n (lv' := [(2, .int q4.1), (0, .ref a_h), (1, .int x1)]) hx hb d_X_ring_42 rfl hl (by decide) rfl (fun ls hl => ?_)
      refine lv_iload_n hx hb d_X_ring_43 rfl (lv_at hl 0 rfl) ?_
      refine lv_bipush (v := (-9)) hx hb d_X_ring_44 (by decide) ?_
      refine lv_icmp_eq (tgt := 54) hx hb d_X_ring_46 (by decide) (fun c5 => ?_) (fun c5 => ?_)
      · have hf := io_t hf c5
        refine lv_iload_n hx hb d_X_ring_54 rfl (lv_at hl 0 rfl) ?_
        have hq := Option.some.inj hf
        subst hq
        exact hret _ _ _ _ _ d_X_ring_55 rfl rfl hP hD hS
      · have hf := io_f hf c5
        refine lv_iload_n hx hb d_X_ring_49 rfl (lv_at hl 2 rfl) ?_
        refine lv_iconst (v := 1) hx hb d_X_ring_50 (by decide) ?_
        refine lv_icmp_ne (tgt := 56) hx hb d_X_ring_51 (by decide) (fun c6 => ?_) (fun c6 => ?_)
        · have hf := io_f hf c6
          refine lv_aload_n hx hb d_X_ring_56 rfl (lv_at hl 1 rfl) ?_
          refine va_get hx hb hT i_X hown hK hP 0 rfl rfl 7 (Nat.le_of_ble_eq_true rfl) (hT _ k_163) (fun _ h => h) rfl d_X_ring_57 ?_
          refine lv_aload_n hx hb d_X_ring_60 rfl (lv_at hl 1 rfl) ?_
          refine va_get hx hb hT i_X hown hK hP 0 rfl rfl 0 (Nat.le_of_ble_eq_true rfl) (hT _ k_156) (fun _ h => h) rfl d_X_ring_61 ?_
          refine lv_iload_n hx hb d_X_ring_64 rfl (lv_at hl 0 rfl) ?_
          obtain ⟨q7, hq7, hf⟩ := io_b hf
          refine xcVI (wc := (w_Mind_aheadOfRound cI cJ cC a_h_mind a_h_mind_one a_h_mind_two a_h_mind_one_kinds a_h_mind_one_sweets a_h_mind_one_settings a_h_mind_one_heaps a_h_mind_two_kinds a_h_mind_two_sweets a_h_mind_two_settings a_h_mind_two_heaps a_h_now a_h_now_kinds a_h_now_sweets a_h_now_settings a_h_now_heaps y_h_mind_seed (r_children q4.2.1) (r_strokes q4.2.1) (r_gave q4.2.1) (r_threw q4.2.1) (r_kinds q4.2.1) (r_sweets q4.2.1) (r_settings q4.2.1) (r_heaps q4.2.1) (r_children q4.2.2) (r_strokes q4.2.2) (r_gave q4.2.2) (r_threw q4.2.2) (r_kinds q4.2.2) (r_sweets q4.2.2) (r_settings q4.2.2) (r_heaps q4.2.2) (r_children z_h_now) (r_strokes z_h_now) (r_gave z_h_now) (r_threw z_h_now) (r_kinds z_h_now) (r_sweets z_h_now) (r_settings z_h_now))) (wc' := (w_Mind_aheadOfRound cI cJ cC a_h_mind a_h_mind_one a_h_mind_two a_h_mind_one_kinds a_h_mind_one_sweets a_h_mind_one_settings a_h_mind_one_heaps a_h_mind_two_kinds a_h_mind_two_sweets a_h_mind_two_settings a_h_mind_two_heaps a_h_now a_h_now_kinds a_h_now_sweets a_h_now_settings a_h_now_heaps y_h_mind_seed (r_children q7.2.1) (r_strokes q7.2.1) (r_gave q7.2.1) (r_threw q7.2.1) (r_kinds q7.2.1) (r_sweets q7.2.1) (r_settings q7.2.1) (r_heaps q7.2.1) (r_children q7.2.2) (r_strokes q7.2.2) (r_gave q7.2.2) (r_threw q7.2.2) (r_kinds q7.2.2) (r_sweets q7.2.2) (r_settings q7.2.2) (r_heaps q7.2.2) (r_children z_h_now) (r_strokes z_h_now) (r_gave z_h_now) (r_threw z_h_now) (r_kinds z_h_now) (r_sweets z_h_now) (r_settings z_h_now))) (ws' := (w_X_ring cI cJ cC a_h a_h_now a_h_kept a_h_letters a_h_numbers a_h_refusals a_h_mind a_h_parts a_h_past a_h_seating a_h_now_kinds a_h_now_sweets a_h_now_settings a_h_now_heaps a_h_mind_one a_h_mind_two a_h_mind_one_kinds a_h_mind_one_sweets a_h_mind_one_settings a_h_mind_one_heaps a_h_mind_two_kinds a_h_mind_two_sweets a_h_mind_two_settings a_h_mind_two_heaps y_h_isKept y_h_numberCount y_h_mind_seed (r_children z_h_now) (r_strokes z_h_now) (r_gave z_h_now) (r_threw z_h_now) (r_kinds z_h_now) (r_sweets z_h_now) (r_settings z_h_now) z_h_refusals (r_children q7.2.1) (r_strokes q7.2.1) (r_gave q7.2.1) (r_threw q7.2.1) (r_kinds q7.2.1) (r_sweets q7.2.1) (r_settings q7.2.1) (r_heaps q7.2.1) (r_children q7.2.2) (r_strokes q7.2.2) (r_gave q7.2.2) (r_threw q7.2.2) (r_kinds q7.2.2) (r_sweets q7.2.2) (r_settings q7.2.2) (r_heaps q7.2.2))) (As := [.ref a_h_now, .int q4.1]) (rest := []) hx hb hml hown hT (c_Mind_aheadOfRound (z_h_one := q4.2.1) (z_h_two := q4.2.2) (z_g1 := z_h_now) a_h_mind a_h_mind_one a_h_mind_two a_h_mind_one_kinds a_h_mind_one_sweets a_h_mind_one_settings a_h_mind_one_heaps a_h_mind_two_kinds a_h_mind_two_sweets a_h_mind_two_settings a_h_mind_two_heaps a_h_now a_h_now_kinds a_h_now_sweets a_h_now_settings a_h_now_heaps y_h_mind_seed hq7) k_317 k_318 k_319 k_4 k_320 hd_Mind_aheadOfRound ⟨Nat.le_of_ble_eq_true rfl, Nat.le_of_ble_eq_true rfl⟩ xE0_ok trivial hA hK hP hD hS [6, 7, 8, 9, 10, 11, 12, 13, 14, 15, 16, 1, 2, 3, 4] [0, 5] [0, 13, 14, 15, 16, 1, 2, 3, 4, 5, 6, 7, 8, 9, 10, 11, 12] rfl rfl rfl rfl rfl rfl rfl rfl rfl rfl hl.1 rfl (Nat.le_of_ble_eq_true rfl) ⟨Nat.zero_le _, Nat.zero_le _⟩ d_X_ring_65 (fun H locs hP hD hS => ?_)
          have hq := Option.some.inj hf
          subst hq
          exact hret _ _ _ _ _ d_X_ring_68 rfl rfl hP hD hS
        · have hf := io_t hf c6
          refine lv_iload_n hx hb d_X_ring_54 rfl (lv_at hl 0 rfl) ?_
          have hq := Option.some.inj hf
          subst hq
          exact hret _ _ _ _ _ d_X_ring_55 rfl rfl hP hD hS
    · have hf := io_t hf c3
      refine lv_aload_n hx hb d_X_ring_24 rfl (lv_at hl 0 rfl) ?_
      refine lv_bipush (v := (-3)) hx hb d_X_ring_25 (by decide) ?_
      obtain ⟨q8, hq8, hf⟩ := io_b hf
      refine xcVI (wc := (w_X_refuse cI cJ cC a_h a_h_now a_h_kept a_h_letters a_h_numbers a_h_refusals a_h_mind a_h_parts a_h_past a_h_seating y_h_isKept y_h_numberCount z_h_refusals)) (wc' := (w_X_refuse cI cJ cC a_h a_h_now a_h_kept a_h_letters a_h_numbers a_h_refusals a_h_mind a_h_parts a_h_past a_h_seating y_h_isKept y_h_numberCount q8.2)) (ws' := (w_X_ring cI cJ cC a_h a_h_now a_h_kept a_h_letters a_h_numbers a_h_refusals a_h_mind a_h_parts a_h_past a_h_seating a_h_now_kinds a_h_now_sweets a_h_now_settings a_h_now_heaps a_h_mind_one a_h_mind_two a_h_mind_one_kinds a_h_mind_one_sweets a_h_mind_one_settings a_h_mind_one_heaps a_h_mind_two_kinds a_h_mind_two_sweets a_h_mind_two_settings a_h_mind_two_heaps y_h_isKept y_h_numberCount y_h_mind_seed (r_children z_h_now) (r_strokes z_h_now) (r_gave z_h_now) (r_threw z_h_now) (r_kinds z_h_now) (r_sweets z_h_now) (r_settings z_h_now) q8.2 (r_children z_h_mind_one) (r_strokes z_h_mind_one) (r_gave z_h_mind_one) (r_threw z_h_mind_one) (r_kinds z_h_mind_one) (r_sweets z_h_mind_one) (r_settings z_h_mind_one) (r_heaps z_h_mind_one) (r_children z_h_mind_two) (r_strokes z_h_mind_two) (r_gave z_h_mind_two) (r_threw z_h_mind_two) (r_kinds z_h_mind_two) (r_sweets z_h_mind_two) (r_settings z_h_mind_two) (r_heaps z_h_mind_two))) (As := [.int (-3)]) (rest := []) hx hb hml hown hT (c_X_refuse (z_h_refusals := z_h_refusals) a_h a_h_now a_h_kept a_h_letters a_h_numbers a_h_refusals a_h_mind a_h_parts a_h_past a_h_seating y_h_isKept y_h_numberCount hq8) k_198 k_200 ks_0 k_1 k_201 hd_X_refuse ⟨Nat.le_of_ble_eq_true rfl, Nat.le_of_ble_eq_true rfl⟩ xE0_ok trivial hA hK hP hD hS [0, 5] [1, 2, 3, 4, 6, 7, 8, 9, 10, 11, 12, 13, 14, 15, 16] [15, 0, 1, 2, 3, 16, 4, 5, 6, 7, 8, 9, 10, 11, 12, 13, 14] rfl rfl rfl rfl rfl rfl rfl rfl rfl rfl hl.1 rfl (Nat.le_of_ble_eq_true rfl) ⟨Nat.zero_le _, Nat.zero_le _⟩ d_X_ring_27 (fun H locs hP hD hS => ?_)
      have hq := Option.some.inj hf
      subst hq
      exact hret _ _ _ _ _ d_X_ring_30 rfl rfl hP hD hS
  · have hf := io_t hf c2
    refine lv_aload_n hx hb d_X_ring_7 rfl (lv_at hl 0 rfl) ?_
    refine lv_bipush (v := (-2)) hx hb d_X_ring_8 (by decide) ?_
    obtain ⟨q9, hq9, hf⟩ := io_b hf
    refine xcVI (wc := (w_X_refuse cI cJ cC a_h a_h_now a_h_kept a_h_letters a_h_numbers a_h_refusals a_h_mind a_h_parts a_h_past a_h_seating y_h_isKept y_h_numberCount z_h_refusals)) (wc' := (w_X_refuse cI cJ cC a_h a_h_now a_h_kept a_h_letters a_h_numbers a_h_refusals a_h_mind a_h_parts a_h_past a_h_seating y_h_isKept y_h_numberCount q9.2)) (ws' := (w_X_ring cI cJ cC a_h a_h_now a_h_kept a_h_letters a_h_numbers a_h_refusals a_h_mind a_h_parts a_h_past a_h_seating a_h_now_kinds a_h_now_sweets a_h_now_settings a_h_now_heaps a_h_mind_one a_h_mind_two a_h_mind_one_kinds a_h_mind_one_sweets a_h_mind_one_settings a_h_mind_one_heaps a_h_mind_two_kinds a_h_mind_two_sweets a_h_mind_two_settings a_h_mind_two_heaps y_h_isKept y_h_numberCount y_h_mind_seed (r_children z_h_now) (r_strokes z_h_now) (r_gave z_h_now) (r_threw z_h_now) (r_kinds z_h_now) (r_sweets z_h_now) (r_settings z_h_now) q9.2 (r_children z_h_mind_one) (r_strokes z_h_mind_one) (r_gave z_h_mind_one) (r_threw z_h_mind_one) (r_kinds z_h_mind_one) (r_sweets z_h_mind_one) (r_settings z_h_mind_one) (r_heaps z_h_mind_one) (r_children z_h_mind_two) (r_strokes z_h_mind_two) (r_gave z_h_mind_two) (r_threw z_h_mind_two) (r_kinds z_h_mind_two) (r_sweets z_h_mind_two) (r_settings z_h_mind_two) (r_heaps z_h_mind_two))) (As := [.int (-2)]) (rest := []) hx hb hml hown hT (c_X_refuse (z_h_refusals := z_h_refusals) a_h a_h_now a_h_kept a_h_letters a_h_numbers a_h_refusals a_h_mind a_h_parts a_h_past a_h_seating y_h_isKept y_h_numberCount hq9) k_198 k_200 ks_0 k_1 k_201 hd_X_refuse ⟨Nat.le_of_ble_eq_true rfl, Nat.le_of_ble_eq_true rfl⟩ xE0_ok trivial hA hK hP hD hS [0, 5] [1, 2, 3, 4, 6, 7, 8, 9, 10, 11, 12, 13, 14, 15, 16] [15, 0, 1, 2, 3, 16, 4, 5, 6, 7, 8, 9, 10, 11, 12, 13, 14] rfl rfl rfl rfl rfl rfl rfl rfl rfl rfl hl.1 rfl (Nat.le_of_ble_eq_true rfl) ⟨Nat.zero_le _, Nat.zero_le _⟩ d_X_ring_10 (fun H locs hP hD hS => ?_)
    have hq := Option.some.inj hf
    subst hq
    exact hret _ _ _ _ _ d_X_ring_13 rfl rfl hP hD hS
abbrev w_X_areTwo (cI cJ cC : ClassId) (a_h a_h_now a_h_kept a_h_letters a_h_numbers a_h_refusals a_h_mind a_h_parts a_h_past a_h_seating a_h_now_kinds a_h_now_sweets a_h_now_settings a_h_now_heaps : Nat) (y_h_isKept : Int32) (y_h_numberCount : Int32) (p_h_now_children : Int32) (p_h_now_strokes : Int32) (p_h_now_gave : Int32) (p_h_now_threw : Int32) : va_W := [(a_h, .inr (0, [.ref a_h_now, .ref a_h_kept, .int y_h_isKept, .ref a_h_letters, .ref a_h_numbers, .int y_h_numberCount, .ref a_h_refusals, .ref a_h_mind, .ref a_h_parts, .ref a_h_past, .ref a_h_seating])), (a_h_now, .inr (1, [.ref a_h_now_kinds, .ref a_h_now_sweets, .ref a_h_now_settings, .int p_h_now_children, .int p_h_now_strokes, .int p_h_now_gave, .int p_h_now_threw, .ref a_h_now_heaps]))]
theorem d_X_areTwo_0 : decode b_X_areTwo 0 = .ok (.aload_n 0, 1) := by decide +kernel
theorem d_X_areTwo_1 : decode b_X_areTwo 1 = .ok (.getfield 10, 3) := by decide +kernel
theorem d_X_areTwo_4 : decode b_X_areTwo 4 = .ok (.iload_n 1, 1) := by decide +kernel
theorem d_X_areTwo_5 : decode b_X_areTwo 5 = .ok (.invokevirtual 84, 3) := by decide +kernel
theorem d_X_areTwo_8 : decode b_X_areTwo 8 = .ok (.ifCond .eq 23, 3) := by decide +kernel
theorem d_X_areTwo_11 : decode b_X_areTwo 11 = .ok (.aload_n 0, 1) := by decide +kernel
theorem d_X_areTwo_12 : decode b_X_areTwo 12 = .ok (.getfield 10, 3) := by decide +kernel
theorem d_X_areTwo_15 : decode b_X_areTwo 15 = .ok (.iload_n 2, 1) := by decide +kernel
theorem d_X_areTwo_16 : decode b_X_areTwo 16 = .ok (.invokevirtual 84, 3) := by decide +kernel
theorem d_X_areTwo_19 : decode b_X_areTwo 19 = .ok (.ifCond .eq 12, 3) := by decide +kernel
theorem d_X_areTwo_22 : decode b_X_areTwo 22 = .ok (.iload_n 1, 1) := by decide +kernel
theorem d_X_areTwo_23 : decode b_X_areTwo 23 = .ok (.iload_n 2, 1) := by decide +kernel
theorem d_X_areTwo_24 : decode b_X_areTwo 24 = .ok (.if_icmp .eq 7, 3) := by decide +kernel
theorem d_X_areTwo_27 : decode b_X_areTwo 27 = .ok (.iconst 1, 1) := by decide +kernel
theorem d_X_areTwo_28 : decode b_X_areTwo 28 = .ok (.goto 4, 3) := by decide +kernel
theorem d_X_areTwo_31 : decode b_X_areTwo 31 = .ok (.iconst 0, 1) := by decide +kernel
theorem d_X_areTwo_32 : decode b_X_areTwo 32 = .ok (.ireturn, 1) := by decide +kernel
set_option maxHeartbeats 4000000 in
set_option maxRecDepth 100000 in
theorem c_X_areTwo {l : Launch} {D : va_G} {cI cJ cC : ClassId} (a_h a_h_now a_h_kept a_h_letters a_h_numbers a_h_refusals a_h_mind a_h_parts a_h_past a_h_seating a_h_now_kinds a_h_now_sweets a_h_now_settings a_h_now_heaps : Nat) (y_h_isKept : Int32) (y_h_numberCount : Int32) {z_h_now : RS} {x1 : Int32} {x2 : Int32} {q : Int32} (hf : f_X_areTwo z_h_now x1 x2 = some q) : xI l y_X_areTwo b_X_areTwo 3 .boolean 1 21 D (tyK cI cJ cC) xE0 [.ref a_h, .int x1, .int x2] (w_X_areTwo cI cJ cC a_h a_h_now a_h_kept a_h_letters a_h_numbers a_h_refusals a_h_mind a_h_parts a_h_past a_h_seating a_h_now_kinds a_h_now_sweets a_h_now_settings a_h_now_heaps y_h_isKept y_h_numberCount (r_children z_h_now) (r_strokes z_h_now) (r_gave z_h_now) (r_threw z_h_now)) q (w_X_areTwo cI cJ cC a_h a_h_now a_h_kept a_h_letters a_h_numbers a_h_refusals a_h_mind a_h_parts a_h_past a_h_seating a_h_now_kinds a_h_now_sweets a_h_now_settings a_h_now_heaps y_h_isKept y_h_numberCount (r_children z_h_now) (r_strokes z_h_now) (r_gave z_h_now) (r_threw z_h_now)) := by
  refine xI_of (by decide) (Nat.le_of_ble_eq_true rfl) ?_
  intro p e s m args below meth c A Q hx hb hml hown hT hA hP hD hK hS hE hret ls hl
  have hown : s.vm.findClass R_X = some m.cls := hown
  have hl : lv_has ls 3 [(0, .ref a_h), (1, .int x1), (2, .int x2)] := hl
  unfold f_X_areTwo at hf
  refine lv_aload_n hx hb d_X_areTwo_0 rfl (lv_at hl 0 rfl) ?_
  refine va_get hx hb hT i_X hown hK hP 0 rfl rfl 0 (Nat.le_of_ble_eq_true rfl) (hT _ k_156) (fun _ h => h) rfl d_X_areTwo_1 ?_
  refine lv_iload_n hx hb d_X_areTwo_4 rfl (lv_at hl 1 rfl) ?_
  obtain ⟨q1, hq1, hf⟩ := io_b hf
  refine xcVI (wc := (w_Ring_has cI cJ cC a_h_now a_h_now_kinds a_h_now_sweets a_h_now_settings a_h_now_heaps (r_children z_h_now) (r_strokes z_h_now) (r_gave z_h_now) (r_threw z_h_now))) (wc' := (w_Ring_has cI cJ cC a_h_now a_h_now_kinds a_h_now_sweets a_h_now_settings a_h_now_heaps (r_children z_h_now) (r_strokes z_h_now) (r_gave z_h_now) (r_threw z_h_now))) (ws' := (w_X_areTwo cI cJ cC a_h a_h_now a_h_kept a_h_letters a_h_numbers a_h_refusals a_h_mind a_h_parts a_h_past a_h_seating a_h_now_kinds a_h_now_sweets a_h_now_settings a_h_now_heaps y_h_isKept y_h_numberCount (r_children z_h_now) (r_strokes z_h_now) (r_gave z_h_now) (r_threw z_h_now))) (As := [.int x1]) (rest := []) hx hb hml hown hT (c_Ring_has (z_h := z_h_now) a_h_now a_h_now_kinds a_h_now_sweets a_h_now_settings a_h_now_heaps hq1) k_194 k_195 k_196 k_2 k_197 hd_Ring_has ⟨Nat.le_of_ble_eq_true rfl, Nat.le_of_ble_eq_true rfl⟩ xE0_ok trivial hA hK hP hD hS [1] [0] [0, 1] rfl rfl rfl rfl rfl rfl rfl rfl rfl rfl hl.1 rfl (Nat.le_of_ble_eq_true rfl) ⟨Nat.zero_le _, Nat.zero_le _⟩ d_X_areTwo_5 (fun H locs hP hD hS => ?_)
  refine lv_if_eq (tgt := 31) hx hb d_X_areTwo_8 (by decide) (fun c2 => ?_) (fun c2 => ?_)
  · have hf := io_t hf c2
    refine lv_iconst (v := 0) hx hb d_X_areTwo_31 (by decide) ?_
    have hq := Option.some.inj hf
    subst hq
    exact hret _ _ _ _ _ d_X_areTwo_32 (by decide) rfl hP hD hS
  · have hf := io_f hf c2
    refine lv_aload_n hx hb d_X_areTwo_11 rfl (lv_at hl 0 rfl) ?_
    refine va_get hx hb hT i_X hown hK hP 0 rfl rfl 0 (Nat.le_of_ble_eq_true rfl) (hT _ k_156) (fun _ h => h) rfl d_X_areTwo_12 ?_
    refine lv_iload_n hx hb d_X_areTwo_15 rfl (lv_at hl 2 rfl) ?_
    obtain ⟨q3, hq3, hf⟩ := io_b hf
    refine xcVI (wc := (w_Ring_has cI cJ cC a_h_now a_h_now_kinds a_h_now_sweets a_h_now_settings a_h_now_heaps (r_children z_h_now) (r_strokes z_h_now) (r_gave z_h_now) (r_threw z_h_now))) (wc' := (w_Ring_has cI cJ cC a_h_now a_h_now_kinds a_h_now_sweets a_h_now_settings a_h_now_heaps (r_children z_h_now) (r_strokes z_h_now) (r_gave z_h_now) (r_threw z_h_now))) (ws' := (w_X_areTwo cI cJ cC a_h a_h_now a_h_kept a_h_letters a_h_numbers a_h_refusals a_h_mind a_h_parts a_h_past a_h_seating a_h_now_kinds a_h_now_sweets a_h_now_settings a_h_now_heaps y_h_isKept y_h_numberCount (r_children z_h_now) (r_strokes z_h_now) (r_gave z_h_now) (r_threw z_h_now))) (As := [.int x2]) (rest := []) hx hb hml hown hT (c_Ring_has (z_h := z_h_now) a_h_now a_h_now_kinds a_h_now_sweets a_h_now_settings a_h_now_heaps hq3) k_194 k_195 k_196 k_2 k_197 hd_Ring_has ⟨Nat.le_of_ble_eq_true rfl, Nat.le_of_ble_eq_true rfl⟩ xE0_ok trivial hA hK hP hD hS [1] [0] [0, 1] rfl rfl rfl rfl rfl rfl rfl rfl rfl rfl hl.1 rfl (Nat.le_of_ble_eq_true rfl) ⟨Nat.zero_le _, Nat.zero_le _⟩ d_X_areTwo_16 (fun H locs hP hD hS => ?_)
    refine lv_if_eq (tgt := 31) hx hb d_X_areTwo_19 (by decide) (fun c4 => ?_) (fun c4 => ?_)
    · have hf := io_t hf c4
      refine lv_iconst (v := 0) hx hb d_X_areTwo_31 (by decide) ?_
      have hq := Option.some.inj hf
      subst hq
      exact hret _ _ _ _ _ d_X_areTwo_32 (by decide) rfl hP hD hS
    · have hf := io_f hf c4
      refine lv_iload_n hx hb d_X_areTwo_22 rfl (lv_at hl 1 rfl) ?_
      refine lv_iload_n hx hb d_X_areTwo_23 rfl (lv_at hl 2 rfl) ?_
      refine lv_icmp_eq (tgt := 31) hx hb d_X_areTwo_24 (by decide) (fun c5 => ?_) (fun c5 => ?_)
      · have hf := io_t hf c5
        refine lv_iconst (v := 0) hx hb d_X_areTwo_31 (by decide) ?_
        have hq := Option.some.inj hf
        subst hq
        exact hret _ _ _ _ _ d_X_areTwo_32 (by decide) rfl hP hD hS
      · have hf := io_f hf c5
        refine lv_iconst (v := 1) hx hb d_X_areTwo_27 (by decide) ?_
        refine lv_goto (tgt := 32) hx hb d_X_areTwo_28 (by decide) ?_
        have hq := Option.some.inj hf
        subst hq
        exact hret _ _ _ _ _ d_X_areTwo_32 (by decide) rfl hP hD hS
abbrev w_X_meet (cI cJ cC : ClassId) (a_h a_h_now a_h_kept a_h_letters a_h_numbers a_h_refusals a_h_mind a_h_parts a_h_past a_h_seating a_h_now_kinds a_h_now_sweets a_h_now_settings a_h_now_heaps a_h_mind_one a_h_mind_two a_h_mind_one_kinds a_h_mind_one_sweets a_h_mind_one_settings a_h_mind_one_heaps : Nat) (y_h_isKept : Int32) (y_h_numberCount : Int32) (y_h_mind_seed : Int32) (p_h_now_children : Int32) (p_h_now_strokes : Int32) (p_h_now_gave : Int32) (p_h_now_threw : Int32) (p_h_now_kinds : (Nat → Int32)) (p_h_now_sweets : (Nat → Int32)) (p_h_now_settings : (Nat → Int32)) (p_h_refusals : (Nat → Int32)) (p_h_mind_one_children : Int32) (p_h_mind_one_strokes : Int32) (p_h_mind_one_gave : Int32) (p_h_mind_one_threw : Int32) (p_h_mind_one_kinds : (Nat → Int32)) (p_h_mind_one_sweets : (Nat → Int32)) (p_h_mind_one_settings : (Nat → Int32)) (p_h_mind_one_heaps : (Nat → Int32)) : va_W := [(a_h, .inr (0, [.ref a_h_now, .ref a_h_kept, .int y_h_isKept, .ref a_h_letters, .ref a_h_numbers, .int y_h_numberCount, .ref a_h_refusals, .ref a_h_mind, .ref a_h_parts, .ref a_h_past, .ref a_h_seating])), (a_h_now, .inr (1, [.ref a_h_now_kinds, .ref a_h_now_sweets, .ref a_h_now_settings, .int p_h_now_children, .int p_h_now_strokes, .int p_h_now_gave, .int p_h_now_threw, .ref a_h_now_heaps])), (a_h_now_kinds, .inl (cI, (8, .inl p_h_now_kinds))), (a_h_now_sweets, .inl (cI, (8, .inl p_h_now_sweets))), (a_h_now_settings, .inl (cI, (3, .inl p_h_now_settings))), (a_h_refusals, .inl (cI, (7, .inl p_h_refusals))), (a_h_mind, .inr (3, [.ref a_h_mind_one, .ref a_h_mind_two, .int y_h_mind_seed])), (a_h_mind_one, .inr (1, [.ref a_h_mind_one_kinds, .ref a_h_mind_one_sweets, .ref a_h_mind_one_settings, .int p_h_mind_one_children, .int p_h_mind_one_strokes, .int p_h_mind_one_gave, .int p_h_mind_one_threw, .ref a_h_mind_one_heaps])), (a_h_mind_one_kinds, .inl (cI, (8, .inl p_h_mind_one_kinds))), (a_h_mind_one_sweets, .inl (cI, (8, .inl p_h_mind_one_sweets))), (a_h_mind_one_settings, .inl (cI, (3, .inl p_h_mind_one_settings))), (a_h_mind_one_heaps, .inl (cI, (8, .inl p_h_mind_one_heaps)))]
theorem d_X_meet_0 : decode b_X_meet 0 = .ok (.aload_n 0, 1) := by decide +kernel
theorem d_X_meet_1 : decode b_X_meet 1 = .ok (.iload_n 1, 1) := by decide +kernel
theorem d_X_meet_2 : decode b_X_meet 2 = .ok (.iload_n 2, 1) := by decide +kernel
theorem d_X_meet_3 : decode b_X_meet 3 = .ok (.invokevirtual 113, 3) := by decide +kernel
theorem d_X_meet_6 : decode b_X_meet 6 = .ok (.ifCond .ne 9, 3) := by decide +kernel
theorem d_X_meet_9 : decode b_X_meet 9 = .ok (.aload_n 0, 1) := by decide +kernel
theorem d_X_meet_10 : decode b_X_meet 10 = .ok (.iconst (-1), 1) := by decide +kernel
theorem d_X_meet_11 : decode b_X_meet 11 = .ok (.invokevirtual 69, 3) := by decide +kernel
theorem d_X_meet_14 : decode b_X_meet 14 = .ok (.ireturn, 1) := by decide +kernel
theorem d_X_meet_15 : decode b_X_meet 15 = .ok (.aload_n 0, 1) := by decide +kernel
theorem d_X_meet_16 : decode b_X_meet 16 = .ok (.getfield 44, 3) := by decide +kernel
theorem d_X_meet_19 : decode b_X_meet 19 = .ok (.aload_n 0, 1) := by decide +kernel
theorem d_X_meet_20 : decode b_X_meet 20 = .ok (.getfield 10, 3) := by decide +kernel
theorem d_X_meet_23 : decode b_X_meet 23 = .ok (.iload_n 1, 1) := by decide +kernel
theorem d_X_meet_24 : decode b_X_meet 24 = .ok (.iload_n 2, 1) := by decide +kernel
theorem d_X_meet_25 : decode b_X_meet 25 = .ok (.invokevirtual 154, 3) := by decide +kernel
theorem d_X_meet_28 : decode b_X_meet 28 = .ok (.ireturn, 1) := by decide +kernel
set_option maxHeartbeats 4000000 in
set_option maxRecDepth 100000 in
theorem c_X_meet {l : Launch} {D : va_G} {cI cJ cC : ClassId} (a_h a_h_now a_h_kept a_h_letters a_h_numbers a_h_refusals a_h_mind a_h_parts a_h_past a_h_seating a_h_now_kinds a_h_now_sweets a_h_now_settings a_h_now_heaps a_h_mind_one a_h_mind_two a_h_mind_one_kinds a_h_mind_one_sweets a_h_mind_one_settings a_h_mind_one_heaps : Nat) (y_h_isKept : Int32) (y_h_numberCount : Int32) (y_h_mind_seed : Int32) {z_h_now : RS} {z_h_refusals : (Nat → Int32)} {z_h_mind_one : RS} {x1 : Int32} {x2 : Int32} {q : Int32 × (Nat → Int32) × RS} (hf : f_X_meet z_h_now z_h_refusals z_h_mind_one x1 x2 = some q) : xI l y_X_meet b_X_meet 3 .int 5 113 D (tyK cI cJ cC) xE0 [.ref a_h, .int x1, .int x2] (w_X_meet cI cJ cC a_h a_h_now a_h_kept a_h_letters a_h_numbers a_h_refusals a_h_mind a_h_parts a_h_past a_h_seating a_h_now_kinds a_h_now_sweets a_h_now_settings a_h_now_heaps a_h_mind_one a_h_mind_two a_h_mind_one_kinds a_h_mind_one_sweets a_h_mind_one_settings a_h_mind_one_heaps y_h_isKept y_h_numberCount y_h_mind_seed (r_children z_h_now) (r_strokes z_h_now) (r_gave z_h_now) (r_threw z_h_now) (r_kinds z_h_now) (r_sweets z_h_now) (r_settings z_h_now) z_h_refusals (r_children z_h_mind_one) (r_strokes z_h_mind_one) (r_gave z_h_mind_one) (r_threw z_h_mind_one) (r_kinds z_h_mind_one) (r_sweets z_h_mind_one) (r_settings z_h_mind_one) (r_heaps z_h_mind_one)) q.1 (w_X_meet cI cJ cC a_h a_h_now a_h_kept a_h_letters a_h_numbers a_h_refusals a_h_mind a_h_parts a_h_past a_h_seating a_h_now_kinds a_h_now_sweets a_h_now_settings a_h_now_heaps a_h_mind_one a_h_mind_two a_h_mind_one_kinds a_h_mind_one_sweets a_h_mind_one_settings a_h_mind_one_heaps y_h_isKept y_h_numberCount y_h_mind_seed (r_children z_h_now) (r_strokes z_h_now) (r_gave z_h_now) (r_threw z_h_now) (r_kinds z_h_now) (r_sweets z_h_now) (r_settings z_h_now) q.2.1 (r_children q.2.2) (r_strokes q.2.2) (r_gave q.2.2) (r_threw q.2.2) (r_kinds q.2.2) (r_sweets q.2.2) (r_settings q.2.2) (r_heaps q.2.2)) := by
  refine xI_of (by decide) (Nat.le_of_ble_eq_true rfl) ?_
  intro p e s m args below meth c A Q hx hb hml hown hT hA hP hD hK hS hE hret ls hl
  have hown : s.vm.findClass R_X = some m.cls := hown
  have hl : lv_has ls 3 [(0, .ref a_h), (1, .int x1), (2, .int x2)] := hl
  unfold f_X_meet at hf
  refine lv_aload_n hx hb d_X_meet_0 rfl (lv_at hl 0 rfl) ?_
  refine lv_iload_n hx hb d_X_meet_1 rfl (lv_at hl 1 rfl) ?_
  refine lv_iload_n hx hb d_X_meet_2 rfl (lv_at hl 2 rfl) ?_
  obtain ⟨q1, hq1, hf⟩ := io_b hf
  refine xcVI (wc := (w_X_areTwo cI cJ cC a_h a_h_now a_h_kept a_h_letters a_h_numbers a_h_refusals a_h_mind a_h_parts a_h_past a_h_seating a_h_now_kinds a_h_now_sweets a_h_now_settings a_h_now_heaps y_h_isKept y_h_numberCount (r_children z_h_now) (r_strokes z_h_now) (r_gave z_h_now) (r_threw z_h_now))) (wc' := (w_X_areTwo cI cJ cC a_h a_h_now a_h_kept a_h_letters a_h_numbers a_h_refusals a_h_mind a_h_parts a_h_past a_h_seating a_h_now_kinds a_h_now_sweets a_h_now_settings a_h_now_heaps y_h_isKept y_h_numberCount (r_children z_h_now) (r_strokes z_h_now) (r_gave z_h_now) (r_threw z_h_now))) (ws' := (w_X_meet cI cJ cC a_h a_h_now a_h_kept a_h_letters a_h_numbers a_h_refusals a_h_mind a_h_parts a_h_past a_h_seating a_h_now_kinds a_h_now_sweets a_h_now_settings a_h_now_heaps a_h_mind_one a_h_mind_two a_h_mind_one_kinds a_h_mind_one_sweets a_h_mind_one_settings a_h_mind_one_heaps y_h_isKept y_h_numberCount y_h_mind_seed (r_children z_h_now) (r_strokes z_h_now) (r_gave z_h_now) (r_threw z_h_now) (r_kinds z_h_now) (r_sweets z_h_now) (r_settings z_h_now) z_h_refusals (r_children z_h_mind_one) (r_strokes z_h_mind_one) (r_gave z_h_mind_one) (r_threw z_h_mind_one) (r_kinds z_h_mind_one) (r_sweets z_h_mind_one) (r_settings z_h_mind_one) (r_heaps z_h_mind_one))) (As := [.int x1, .int x2]) (rest := []) hx hb hml hown hT (c_X_areTwo (z_h_now := z_h_now) a_h a_h_now a_h_kept a_h_letters a_h_numbers a_h_refusals a_h_mind a_h_parts a_h_past a_h_seating a_h_now_kinds a_h_now_sweets a_h_now_settings a_h_now_heaps y_h_isKept y_h_numberCount hq1) k_325 k_327 ks_3 k_1 k_328 hd_X_areTwo ⟨Nat.le_of_ble_eq_true rfl, Nat.le_of_ble_eq_true rfl⟩ xE0_ok trivial hA hK hP hD hS [0, 1] [2, 3, 4, 5, 6, 7, 8, 9, 10, 11] [10, 11, 0, 1, 2, 3, 4, 5, 6, 7, 8, 9] rfl rfl rfl rfl rfl rfl rfl rfl rfl rfl hl.1 rfl (Nat.le_of_ble_eq_true rfl) ⟨Nat.zero_le _, Nat.zero_le _⟩ d_X_meet_3 (fun H locs hP hD hS => ?_)
  refine lv_if_ne (tgt := 15) hx hb d_X_meet_6 (by decide) (fun c2 => ?_) (fun c2 => ?_)
  · have hf := io_f hf c2
    refine lv_aload_n hx hb d_X_meet_15 rfl (lv_at hl 0 rfl) ?_
    refine va_get hx hb hT i_X hown hK hP 0 rfl rfl 7 (Nat.le_of_ble_eq_true rfl) (hT _ k_163) (fun _ h => h) rfl d_X_meet_16 ?_
    refine lv_aload_n hx hb d_X_meet_19 rfl (lv_at hl 0 rfl) ?_
    refine va_get hx hb hT i_X hown hK hP 0 rfl rfl 0 (Nat.le_of_ble_eq_true rfl) (hT _ k_156) (fun _ h => h) rfl d_X_meet_20 ?_
    refine lv_iload_n hx hb d_X_meet_23 rfl (lv_at hl 1 rfl) ?_
    refine lv_iload_n hx hb d_X_meet_24 rfl (lv_at hl 2 rfl) ?_
    obtain ⟨q3, hq3, hf⟩ := io_b hf
    refine xcVI (wc := (w_Mind_meetBehind cI cJ cC a_h_mind a_h_mind_one a_h_mind_two a_h_mind_one_kinds a_h_mind_one_sweets a_h_mind_one_settings a_h_mind_one_heaps a_h_now a_h_now_kinds a_h_now_sweets a_h_now_settings a_h_now_heaps y_h_mind_seed (r_children z_h_mind_one) (r_strokes z_h_mind_one) (r_gave z_h_mind_one) (r_threw z_h_mind_one) (r_kinds z_h_mind_one) (r_sweets z_h_mind_one) (r_settings z_h_mind_one) (r_heaps z_h_mind_one) (r_children z_h_now) (r_strokes z_h_now) (r_gave z_h_now) (r_threw z_h_now) (r_kinds z_h_now) (r_sweets z_h_now) (r_settings z_h_now))) (wc' := (w_Mind_meetBehind cI cJ cC a_h_mind a_h_mind_one a_h_mind_two a_h_mind_one_kinds a_h_mind_one_sweets a_h_mind_one_settings a_h_mind_one_heaps a_h_now a_h_now_kinds a_h_now_sweets a_h_now_settings a_h_now_heaps y_h_mind_seed (r_children q3.2) (r_strokes q3.2) (r_gave q3.2) (r_threw q3.2) (r_kinds q3.2) (r_sweets q3.2) (r_settings q3.2) (r_heaps q3.2) (r_children z_h_now) (r_strokes z_h_now) (r_gave z_h_now) (r_threw z_h_now) (r_kinds z_h_now) (r_sweets z_h_now) (r_settings z_h_now))) (ws' := (w_X_meet cI cJ cC a_h a_h_now a_h_kept a_h_letters a_h_numbers a_h_refusals a_h_mind a_h_parts a_h_past a_h_seating a_h_now_kinds a_h_now_sweets a_h_now_settings a_h_now_heaps a_h_mind_one a_h_mind_two a_h_mind_one_kinds a_h_mind_one_sweets a_h_mind_one_settings a_h_mind_one_heaps y_h_isKept y_h_numberCount y_h_mind_seed (r_children z_h_now) (r_strokes z_h_now) (r_gave z_h_now) (r_threw z_h_now) (r_kinds z_h_now) (r_sweets z_h_now) (r_settings z_h_now) z_h_refusals (r_children q3.2) (r_strokes q3.2) (r_gave q3.2) (r_threw q3.2) (r_kinds q3.2) (r_sweets q3.2) (r_settings q3.2) (r_heaps q3.2))) (As := [.ref a_h_now, .int x1, .int x2]) (rest := []) hx hb hml hown hT (c_Mind_meetBehind (z_h_one := z_h_mind_one) (z_g1 := z_h_now) a_h_mind a_h_mind_one a_h_mind_two a_h_mind_one_kinds a_h_mind_one_sweets a_h_mind_one_settings a_h_mind_one_heaps a_h_now a_h_now_kinds a_h_now_sweets a_h_now_settings a_h_now_heaps y_h_mind_seed hq3) k_329 k_330 k_331 k_4 k_332 hd_Mind_meetBehind ⟨Nat.le_of_ble_eq_true rfl, Nat.le_of_ble_eq_true rfl⟩ xE0_ok trivial hA hK hP hD hS [6, 7, 8, 9, 10, 11, 1, 2, 3, 4] [0, 5] [0, 8, 9, 10, 11, 1, 2, 3, 4, 5, 6, 7] rfl rfl rfl rfl rfl rfl rfl rfl rfl rfl hl.1 rfl (Nat.le_of_ble_eq_true rfl) ⟨Nat.zero_le _, Nat.zero_le _⟩ d_X_meet_25 (fun H locs hP hD hS => ?_)
    have hq := Option.some.inj hf
    subst hq
    exact hret _ _ _ _ _ d_X_meet_28 rfl rfl hP hD hS
  · have hf := io_t hf c2
    refine lv_aload_n hx hb d_X_meet_9 rfl (lv_at hl 0 rfl) ?_
    refine lv_iconst (v := (-1)) hx hb d_X_meet_10 (by decide) ?_
    obtain ⟨q4, hq4, hf⟩ := io_b hf
    refine xcVI (wc := (w_X_refuse cI cJ cC a_h a_h_now a_h_kept a_h_letters a_h_numbers a_h_refusals a_h_mind a_h_parts a_h_past a_h_seating y_h_isKept y_h_numberCount z_h_refusals)) (wc' := (w_X_refuse cI cJ cC a_h a_h_now a_h_kept a_h_letters a_h_numbers a_h_refusals a_h_mind a_h_parts a_h_past a_h_seating y_h_isKept y_h_numberCount q4.2)) (ws' := (w_X_meet cI cJ cC a_h a_h_now a_h_kept a_h_letters a_h_numbers a_h_refusals a_h_mind a_h_parts a_h_past a_h_seating a_h_now_kinds a_h_now_sweets a_h_now_settings a_h_now_heaps a_h_mind_one a_h_mind_two a_h_mind_one_kinds a_h_mind_one_sweets a_h_mind_one_settings a_h_mind_one_heaps y_h_isKept y_h_numberCount y_h_mind_seed (r_children z_h_now) (r_strokes z_h_now) (r_gave z_h_now) (r_threw z_h_now) (r_kinds z_h_now) (r_sweets z_h_now) (r_settings z_h_now) q4.2 (r_children z_h_mind_one) (r_strokes z_h_mind_one) (r_gave z_h_mind_one) (r_threw z_h_mind_one) (r_kinds z_h_mind_one) (r_sweets z_h_mind_one) (r_settings z_h_mind_one) (r_heaps z_h_mind_one))) (As := [.int (-1)]) (rest := []) hx hb hml hown hT (c_X_refuse (z_h_refusals := z_h_refusals) a_h a_h_now a_h_kept a_h_letters a_h_numbers a_h_refusals a_h_mind a_h_parts a_h_past a_h_seating y_h_isKept y_h_numberCount hq4) k_198 k_200 ks_0 k_1 k_201 hd_X_refuse ⟨Nat.le_of_ble_eq_true rfl, Nat.le_of_ble_eq_true rfl⟩ xE0_ok trivial hA hK hP hD hS [0, 5] [1, 2, 3, 4, 6, 7, 8, 9, 10, 11] [10, 0, 1, 2, 3, 11, 4, 5, 6, 7, 8, 9] rfl rfl rfl rfl rfl rfl rfl rfl rfl rfl hl.1 rfl (Nat.le_of_ble_eq_true rfl) ⟨Nat.zero_le _, Nat.zero_le _⟩ d_X_meet_11 (fun H locs hP hD hS => ?_)
    have hq := Option.some.inj hf
    subst hq
    exact hret _ _ _ _ _ d_X_meet_14 rfl rfl hP hD hS
abbrev w_X_crumbs (cI cJ cC : ClassId) (a_h a_h_now a_h_kept a_h_letters a_h_numbers a_h_refusals a_h_mind a_h_parts a_h_past a_h_seating a_h_now_kinds a_h_now_sweets a_h_now_settings a_h_now_heaps a_h_parts_have a_h_parts_next : Nat) (y_h_isKept : Int32) (y_h_numberCount : Int32) (p_h_now_children : Int32) (p_h_now_strokes : Int32) (p_h_now_gave : Int32) (p_h_now_threw : Int32) (p_h_now_sweets : (Nat → Int32)) (p_h_now_settings : (Nat → Int32)) (p_h_refusals : (Nat → Int32)) (p_h_parts_doublings : Int32) (p_h_parts_have : (Nat → Int64)) (p_h_parts_next : (Nat → Int64)) : va_W := [(a_h, .inr (0, [.ref a_h_now, .ref a_h_kept, .int y_h_isKept, .ref a_h_letters, .ref a_h_numbers, .int y_h_numberCount, .ref a_h_refusals, .ref a_h_mind, .ref a_h_parts, .ref a_h_past, .ref a_h_seating])), (a_h_now, .inr (1, [.ref a_h_now_kinds, .ref a_h_now_sweets, .ref a_h_now_settings, .int p_h_now_children, .int p_h_now_strokes, .int p_h_now_gave, .int p_h_now_threw, .ref a_h_now_heaps])), (a_h_now_sweets, .inl (cI, (8, .inl p_h_now_sweets))), (a_h_now_settings, .inl (cI, (3, .inl p_h_now_settings))), (a_h_refusals, .inl (cI, (7, .inl p_h_refusals))), (a_h_parts, .inr (4, [.ref a_h_parts_have, .ref a_h_parts_next, .int p_h_parts_doublings])), (a_h_parts_have, .inl (cJ, (8, .inr (.inl p_h_parts_have)))), (a_h_parts_next, .inl (cJ, (8, .inr (.inl p_h_parts_next))))]
theorem d_X_crumbs_0 : decode b_X_crumbs 0 = .ok (.iload_n 2, 1) := by decide +kernel
theorem d_X_crumbs_1 : decode b_X_crumbs 1 = .ok (.iconst 0, 1) := by decide +kernel
theorem d_X_crumbs_2 : decode b_X_crumbs 2 = .ok (.bipush 20, 2) := by decide +kernel
theorem d_X_crumbs_4 : decode b_X_crumbs 4 = .ok (.invokestatic 100, 3) := by decide +kernel
theorem d_X_crumbs_7 : decode b_X_crumbs 7 = .ok (.istore 4, 2) := by decide +kernel
theorem d_X_crumbs_9 : decode b_X_crumbs 9 = .ok (.aload_n 0, 1) := by decide +kernel
theorem d_X_crumbs_10 : decode b_X_crumbs 10 = .ok (.getfield 10, 3) := by decide +kernel
theorem d_X_crumbs_13 : decode b_X_crumbs 13 = .ok (.iload_n 1, 1) := by decide +kernel
theorem d_X_crumbs_14 : decode b_X_crumbs 14 = .ok (.invokevirtual 84, 3) := by decide +kernel
theorem d_X_crumbs_17 : decode b_X_crumbs 17 = .ok (.ifCond .ne 9, 3) := by decide +kernel
theorem d_X_crumbs_20 : decode b_X_crumbs 20 = .ok (.iconst (-1), 1) := by decide +kernel
theorem d_X_crumbs_21 : decode b_X_crumbs 21 = .ok (.istore 4, 2) := by decide +kernel
theorem d_X_crumbs_23 : decode b_X_crumbs 23 = .ok (.goto 14, 3) := by decide +kernel
theorem d_X_crumbs_26 : decode b_X_crumbs 26 = .ok (.iload_n 3, 1) := by decide +kernel
theorem d_X_crumbs_27 : decode b_X_crumbs 27 = .ok (.invokestatic 132, 3) := by decide +kernel
theorem d_X_crumbs_30 : decode b_X_crumbs 30 = .ok (.ifCond .ne 7, 3) := by decide +kernel
theorem d_X_crumbs_33 : decode b_X_crumbs 33 = .ok (.bipush (-2), 2) := by decide +kernel
theorem d_X_crumbs_35 : decode b_X_crumbs 35 = .ok (.istore 4, 2) := by decide +kernel
theorem d_X_crumbs_37 : decode b_X_crumbs 37 = .ok (.iload 4, 2) := by decide +kernel
theorem d_X_crumbs_39 : decode b_X_crumbs 39 = .ok (.ifCond .eq 15, 3) := by decide +kernel
theorem d_X_crumbs_42 : decode b_X_crumbs 42 = .ok (.ldc2_w 157, 3) := by decide +kernel
theorem d_X_crumbs_45 : decode b_X_crumbs 45 = .ok (.aload_n 0, 1) := by decide +kernel
theorem d_X_crumbs_46 : decode b_X_crumbs 46 = .ok (.iload 4, 2) := by decide +kernel
theorem d_X_crumbs_48 : decode b_X_crumbs 48 = .ok (.invokevirtual 69, 3) := by decide +kernel
theorem d_X_crumbs_51 : decode b_X_crumbs 51 = .ok (.i2l, 1) := by decide +kernel
theorem d_X_crumbs_52 : decode b_X_crumbs 52 = .ok (.lsub, 1) := by decide +kernel
theorem d_X_crumbs_53 : decode b_X_crumbs 53 = .ok (.lreturn, 1) := by decide +kernel
theorem d_X_crumbs_54 : decode b_X_crumbs 54 = .ok (.aload_n 0, 1) := by decide +kernel
theorem d_X_crumbs_55 : decode b_X_crumbs 55 = .ok (.getfield 51, 3) := by decide +kernel
theorem d_X_crumbs_58 : decode b_X_crumbs 58 = .ok (.aload_n 0, 1) := by decide +kernel
theorem d_X_crumbs_59 : decode b_X_crumbs 59 = .ok (.getfield 10, 3) := by decide +kernel
theorem d_X_crumbs_62 : decode b_X_crumbs 62 = .ok (.iload_n 2, 1) := by decide +kernel
theorem d_X_crumbs_63 : decode b_X_crumbs 63 = .ok (.invokevirtual 159, 3) := by decide +kernel
theorem d_X_crumbs_66 : decode b_X_crumbs 66 = .ok (.iload_n 3, 1) := by decide +kernel
theorem d_X_crumbs_67 : decode b_X_crumbs 67 = .ok (.ifCond .ne 14, 3) := by decide +kernel
theorem d_X_crumbs_70 : decode b_X_crumbs 70 = .ok (.aload_n 0, 1) := by decide +kernel
theorem d_X_crumbs_71 : decode b_X_crumbs 71 = .ok (.getfield 51, 3) := by decide +kernel
theorem d_X_crumbs_74 : decode b_X_crumbs 74 = .ok (.iload_n 1, 1) := by decide +kernel
theorem d_X_crumbs_75 : decode b_X_crumbs 75 = .ok (.invokevirtual 163, 3) := by decide +kernel
theorem d_X_crumbs_78 : decode b_X_crumbs 78 = .ok (.goto 11, 3) := by decide +kernel
theorem d_X_crumbs_81 : decode b_X_crumbs 81 = .ok (.aload_n 0, 1) := by decide +kernel
theorem d_X_crumbs_82 : decode b_X_crumbs 82 = .ok (.getfield 51, 3) := by decide +kernel
theorem d_X_crumbs_85 : decode b_X_crumbs 85 = .ok (.iload_n 1, 1) := by decide +kernel
theorem d_X_crumbs_86 : decode b_X_crumbs 86 = .ok (.invokevirtual 167, 3) := by decide +kernel
theorem d_X_crumbs_89 : decode b_X_crumbs 89 = .ok (.lreturn, 1) := by decide +kernel
set_option maxHeartbeats 4000000 in
set_option maxRecDepth 100000 in
theorem c_X_crumbs {l : Launch} {D : va_G} {cI cJ cC : ClassId} (a_h a_h_now a_h_kept a_h_letters a_h_numbers a_h_refusals a_h_mind a_h_parts a_h_past a_h_seating a_h_now_kinds a_h_now_sweets a_h_now_settings a_h_now_heaps a_h_parts_have a_h_parts_next : Nat) (y_h_isKept : Int32) (y_h_numberCount : Int32) {z_h_now : RS} {z_h_refusals : (Nat → Int32)} {z_h_parts_doublings : Int32} {z_h_parts_have : (Nat → Int64)} {z_h_parts_next : (Nat → Int64)} {x1 : Int32} {x2 : Int32} {x3 : Int32} {q : Int64 × (Nat → Int32) × Int32 × (Nat → Int64) × (Nat → Int64)} (hf : f_X_crumbs z_h_now z_h_refusals z_h_parts_doublings z_h_parts_have z_h_parts_next x1 x2 x3 = some q) : xL l y_X_crumbs b_X_crumbs 5 .long 3 85 D (tyK cI cJ cC) xE0 [.ref a_h, .int x1, .int x2, .int x3] (w_X_crumbs cI cJ cC a_h a_h_now a_h_kept a_h_letters a_h_numbers a_h_refusals a_h_mind a_h_parts a_h_past a_h_seating a_h_now_kinds a_h_now_sweets a_h_now_settings a_h_now_heaps a_h_parts_have a_h_parts_next y_h_isKept y_h_numberCount (r_children z_h_now) (r_strokes z_h_now) (r_gave z_h_now) (r_threw z_h_now) (r_sweets z_h_now) (r_settings z_h_now) z_h_refusals z_h_parts_doublings z_h_parts_have z_h_parts_next) q.1 (w_X_crumbs cI cJ cC a_h a_h_now a_h_kept a_h_letters a_h_numbers a_h_refusals a_h_mind a_h_parts a_h_past a_h_seating a_h_now_kinds a_h_now_sweets a_h_now_settings a_h_now_heaps a_h_parts_have a_h_parts_next y_h_isKept y_h_numberCount (r_children z_h_now) (r_strokes z_h_now) (r_gave z_h_now) (r_threw z_h_now) (r_sweets z_h_now) (r_settings z_h_now) q.2.1 q.2.2.1 q.2.2.2.1 q.2.2.2.2) := by
  refine xL_of (by decide) (Nat.le_of_ble_eq_true rfl) ?_
  intro p e s m args below meth c A Q hx hb hml hown hT hA hP hD hK hS hE hret ls hl
  have hown : s.vm.findClass R_X = some m.cls := hown
  have hl : lv_has ls 5 [(0, .ref a_h), (1, .int x1), (2, .int x2), (3, .int x3)] := hl
  unfold f_X_crumbs at hf
  refine lv_iload_n hx hb d_X_crumbs_0 rfl (lv_at hl 2 rfl) ?_
  refine lv_iconst (v := 0) hx hb d_X_crumbs_1 (by decide) ?_
  refine lv_bipush (v := 20) hx hb d_X_crumbs_2 (by decide) ?_
  obtain ⟨q1, hq1, hf⟩ := io_b hf
  refine xcSI (wc := []) (wc' := []) (ws' := (w_X_crumbs cI cJ cC a_h a_h_now a_h_kept a_h_letters a_h_numbers a_h_refusals a_h_mind a_h_parts a_h_past a_h_seating a_h_now_kinds a_h_now_sweets a_h_now_settings a_h_now_heaps a_h_parts_have a_h_parts_next y_h_isKept y_h_numberCount (r_children z_h_now) (r_strokes z_h_now) (r_gave z_h_now) (r_threw z_h_now) (r_sweets z_h_now) (r_settings z_h_now) z_h_refusals z_h_parts_doublings z_h_parts_have z_h_parts_next)) (As := [.int x2, .int 0, .int 20]) (rest := []) hx hb hml hown hT (c_X_outside hq1) k_245 k_246 k_1 k_247 hd_X_outside ⟨Nat.le_of_ble_eq_true rfl, Nat.le_of_ble_eq_true rfl⟩ xE0_ok trivial hA hK hP hD hS [] [0, 1, 2, 3, 4, 5, 6, 7] [0, 1, 2, 3, 4, 5, 6, 7] rfl rfl rfl rfl rfl rfl rfl hl.1 rfl (Nat.le_of_ble_eq_true rfl) ⟨Nat.zero_le _, Nat.zero_le _⟩ d_X_crumbs_4 (fun H locs hP hD hS => ?_)
  refine lv_istore (lv' := [(4, .int q1), (0, .ref a_h), (1, .int x1), (2, .int x2), (3, .int x3)]) hx hb d_X_crumbs_7 hl (by decide) rfl (fun ls hl => ?_)
  refine lv_aload_n hx hb d_X_crumbs_9 rfl (lv_at hl 1 rfl) ?_
  refine va_get hx hb hT i_X hown hK hP 0 rfl rfl 0 (Nat.le_of_ble_eq_true rfl) (hT _ k_156) (fun _ h => h) rfl d_X_crumbs_10 ?_
  refine lv_iload_n hx hb d_X_crumbs_13 rfl (lv_at hl 2 rfl) ?_
  obtain ⟨q2, hq2, hf⟩ := io_b hf
  refine xcVI (wc := (w_Ring_has cI cJ cC a_h_now a_h_now_kinds a_h_now_sweets a_h_now_settings a_h_now_heaps (r_children z_h_now) (r_strokes z_h_now) (r_gave z_h_now) (r_threw z_h_now))) (wc' := (w_Ring_has cI cJ cC a_h_now a_h_now_kinds a_h_now_sweets a_h_now_settings a_h_now_heaps (r_children z_h_now) (r_strokes z_h_now) (r_gave z_h_now) (r_threw z_h_now))) (ws' := (w_X_crumbs cI cJ cC a_h a_h_now a_h_kept a_h_letters a_h_numbers a_h_refusals a_h_mind a_h_parts a_h_past a_h_seating a_h_now_kinds a_h_now_sweets a_h_now_settings a_h_now_heaps a_h_parts_have a_h_parts_next y_h_isKept y_h_numberCount (r_children z_h_now) (r_strokes z_h_now) (r_gave z_h_now) (r_threw z_h_now) (r_sweets z_h_now) (r_settings z_h_now) z_h_refusals z_h_parts_doublings z_h_parts_have z_h_parts_next)) (As := [.int x1]) (rest := []) hx hb hml hown hT (c_Ring_has (z_h := z_h_now) a_h_now a_h_now_kinds a_h_now_sweets a_h_now_settings a_h_now_heaps hq2) k_194 k_195 k_196 k_2 k_197 hd_Ring_has ⟨Nat.le_of_ble_eq_true rfl, Nat.le_of_ble_eq_true rfl⟩ xE0_ok trivial hA hK hP hD hS [1] [0, 2, 3, 4, 5, 6, 7] [0, 7, 1, 2, 3, 4, 5, 6] rfl rfl rfl rfl rfl rfl rfl rfl rfl rfl hl.1 rfl (Nat.le_of_ble_eq_true rfl) ⟨Nat.zero_le _, Nat.zero_le _⟩ d_X_crumbs_14 (fun H locs hP hD hS => ?_)
  refine lv_if_ne (tgt := 26) hx hb d_X_crumbs_17 (by decide) (fun c3 => ?_) (fun c3 => ?_)
  · have hf := io_f hf c3
    refine lv_iload_n hx hb d_X_crumbs_26 rfl (lv_at hl 4 rfl) ?_
    obtain ⟨q4, hq4, hf⟩ := io_b hf
    refine xcSI (wc := []) (wc' := []) (ws' := (w_X_crumbs cI cJ cC a_h a_h_now a_h_kept a_h_letters a_h_numbers a_h_refusals a_h_mind a_h_parts a_h_past a_h_seating a_h_now_kinds a_h_now_sweets a_h_now_settings a_h_now_heaps a_h_parts_have a_h_parts_next y_h_isKept y_h_numberCount (r_children z_h_now) (r_strokes z_h_now) (r_gave z_h_now) (r_threw z_h_now) (r_sweets z_h_now) (r_settings z_h_now) z_h_refusals z_h_parts_doublings z_h_parts_have z_h_parts_next)) (As := [.int x3]) (rest := []) hx hb hml hown hT (c_X_isPart hq4) k_265 k_266 k_1 k_267 hd_X_isPart ⟨Nat.le_of_ble_eq_true rfl, Nat.le_of_ble_eq_true rfl⟩ xE0_ok trivial hA hK hP hD hS [] [0, 1, 2, 3, 4, 5, 6, 7] [0, 1, 2, 3, 4, 5, 6, 7] rfl rfl rfl rfl rfl rfl rfl hl.1 rfl (Nat.le_of_ble_eq_true rfl) ⟨Nat.zero_le _, Nat.zero_le _⟩ d_X_crumbs_27 (fun H locs hP hD hS => ?_)
    refine lv_if_ne (tgt := 37) hx hb d_X_crumbs_30 (by decide) (fun c5 => ?_) (fun c5 => ?_)
    · have hf := io_f hf c5
      refine lv_iload hx hb d_X_crumbs_37 (lv_at hl 0 rfl) ?_
      refine lv_if_eq (tgt := 54) hx hb d_X_crumbs_39 (by decide) (fun c6 => ?_) (fun c6 => ?_)
      · have hf := io_t hf c6
        refine lv_aload_n hx hb d_X_crumbs_54 rfl (lv_at hl 1 rfl) ?_
        refine va_get hx hb hT i_X hown hK hP 0 rfl rfl 8 (Nat.le_of_ble_eq_true rfl) (hT _ k_164) (fun _ h => h) rfl d_X_crumbs_55 ?_
        refine lv_aload_n hx hb d_X_crumbs_58 rfl (lv_at hl 1 rfl) ?_
        refine va_get hx hb hT i_X hown hK hP 0 rfl rfl 0 (Nat.le_of_ble_eq_true rfl) (hT _ k_156) (fun _ h => h) rfl d_X_crumbs_59 ?_
        refine lv_iload_n hx hb d_X_crumbs_62 rfl (lv_at hl 3 rfl) ?_
        obtain ⟨q7, hq7, hf⟩ := io_b hf
        refine xcVV (wc := (w_Crumbs_take cI cJ cC a_h_parts a_h_parts_have a_h_parts_next a_h_now a_h_now_kinds a_h_now_sweets a_h_now_settings a_h_now_heaps z_h_parts_doublings z_h_parts_have z_h_parts_next (r_children z_h_now) (r_strokes z_h_now) (r_gave z_h_now) (r_threw z_h_now) (r_sweets z_h_now) (r_settings z_h_now))) (wc' := (w_Crumbs_take cI cJ cC a_h_parts a_h_parts_have a_h_parts_next a_h_now a_h_now_kinds a_h_now_sweets a_h_now_settings a_h_now_heaps q7.1 q7.2.1 q7.2.2 (r_children z_h_now) (r_strokes z_h_now) (r_gave z_h_now) (r_threw z_h_now) (r_sweets z_h_now) (r_settings z_h_now))) (ws' := (w_X_crumbs cI cJ cC a_h a_h_now a_h_kept a_h_letters a_h_numbers a_h_refusals a_h_mind a_h_parts a_h_past a_h_seating a_h_now_kinds a_h_now_sweets a_h_now_settings a_h_now_heaps a_h_parts_have a_h_parts_next y_h_isKept y_h_numberCount (r_children z_h_now) (r_strokes z_h_now) (r_gave z_h_now) (r_threw z_h_now) (r_sweets z_h_now) (r_settings z_h_now) z_h_refusals q7.1 q7.2.1 q7.2.2)) (As := [.ref a_h_now, .int x2]) (rest := []) hx hb hml hown hT (c_Crumbs_take (z_h_doublings := z_h_parts_doublings) (z_h_have := z_h_parts_have) (z_h_next := z_h_parts_next) (z_g1 := z_h_now) a_h_parts a_h_parts_have a_h_parts_next a_h_now a_h_now_kinds a_h_now_sweets a_h_now_settings a_h_now_heaps hq7) k_338 k_339 k_340 k_5 k_341 hd_Crumbs_take ⟨Nat.le_of_ble_eq_true rfl, Nat.le_of_ble_eq_true rfl⟩ xE0_ok trivial hA hK hP hD hS [5, 6, 7, 1, 2, 3] [0, 4] [0, 5, 6, 7, 1, 2, 3, 4] rfl rfl rfl rfl rfl rfl rfl rfl rfl rfl hl.1 rfl (Nat.le_of_ble_eq_true rfl) ⟨Nat.zero_le _, Nat.zero_le _⟩ d_X_crumbs_63 (fun H locs hP hD hS => ?_)
        refine lv_iload_n hx hb d_X_crumbs_66 rfl (lv_at hl 4 rfl) ?_
        refine lv_if_ne (tgt := 81) hx hb d_X_crumbs_67 (by decide) (fun c8 => ?_) (fun c8 => ?_)
        · have hf := io_f hf c8
          refine lv_aload_n hx hb d_X_crumbs_81 rfl (lv_at hl 1 rfl) ?_
          refine va_get hx hb hT i_X hown hK hP 0 rfl rfl 8 (Nat.le_of_ble_eq_true rfl) (hT _ k_164) (fun _ h => h) rfl d_X_crumbs_82 ?_
          refine lv_iload_n hx hb d_X_crumbs_85 rfl (lv_at hl 2 rfl) ?_
          obtain ⟨q9, hq9, hf⟩ := io_b hf
          refine xcVL (wc := (w_Crumbs_below cI cJ cC a_h_parts a_h_parts_have a_h_parts_next q7.1 q7.2.1)) (wc' := (w_Crumbs_below cI cJ cC a_h_parts a_h_parts_have a_h_parts_next q7.1 q7.2.1)) (ws' := (w_X_crumbs cI cJ cC a_h a_h_now a_h_kept a_h_letters a_h_numbers a_h_refusals a_h_mind a_h_parts a_h_past a_h_seating a_h_now_kinds a_h_now_sweets a_h_now_settings a_h_now_heaps a_h_parts_have a_h_parts_next y_h_isKept y_h_numberCount (r_children z_h_now) (r_strokes z_h_now) (r_gave z_h_now) (r_threw z_h_now) (r_sweets z_h_now) (r_settings z_h_now) z_h_refusals q7.1 q7.2.1 q7.2.2)) (As := [.int x1]) (rest := []) hx hb hml hown hT (c_Crumbs_below (z_h_doublings := q7.1) (z_h_have := q7.2.1) a_h_parts a_h_parts_have a_h_parts_next hq9) k_361 k_362 k_363 k_5 k_364 hd_Crumbs_below ⟨Nat.le_of_ble_eq_true rfl, Nat.le_of_ble_eq_true rfl⟩ xE0_ok trivial hA hK hP hD hS [5, 6] [0, 1, 2, 3, 4, 7] [0, 1, 2, 3, 4, 6, 7, 5] rfl rfl rfl rfl rfl rfl rfl rfl rfl rfl hl.1 rfl (Nat.le_of_ble_eq_true rfl) ⟨Nat.zero_le _, Nat.zero_le _⟩ d_X_crumbs_86 (fun H locs hP hD hS => ?_)
          have hq := Option.some.inj hf
          subst hq
          exact hret _ _ _ _ _ d_X_crumbs_89 rfl hP hD hS
        · have hf := io_t hf c8
          refine lv_aload_n hx hb d_X_crumbs_70 rfl (lv_at hl 1 rfl) ?_
          refine va_get hx hb hT i_X hown hK hP 0 rfl rfl 8 (Nat.le_of_ble_eq_true rfl) (hT _ k_164) (fun _ h => h) rfl d_X_crumbs_71 ?_
          refine lv_iload_n hx hb d_X_crumbs_74 rfl (lv_at hl 2 rfl) ?_
          obtain ⟨q10, hq10, hf⟩ := io_b hf
          refine xcVL (wc := (w_Crumbs_above cI cJ cC a_h_parts a_h_parts_have a_h_parts_next q7.1 q7.2.1)) (wc' := (w_Crumbs_above cI cJ cC a_h_parts a_h_parts_have a_h_parts_next q7.1 q7.2.1)) (ws' := (w_X_crumbs cI cJ cC a_h a_h_now a_h_kept a_h_letters a_h_numbers a_h_refusals a_h_mind a_h_parts a_h_past a_h_seating a_h_now_kinds a_h_now_sweets a_h_now_settings a_h_now_heaps a_h_parts_have a_h_parts_next y_h_isKept y_h_numberCount (r_children z_h_now) (r_strokes z_h_now) (r_gave z_h_now) (r_threw z_h_now) (r_sweets z_h_now) (r_settings z_h_now) z_h_refusals q7.1 q7.2.1 q7.2.2)) (As := [.int x1]) (rest := []) hx hb hml hown hT (c_Crumbs_above (z_h_doublings := q7.1) (z_h_have := q7.2.1) a_h_parts a_h_parts_have a_h_parts_next hq10) k_352 k_353 k_354 k_5 k_355 hd_Crumbs_above ⟨Nat.le_of_ble_eq_true rfl, Nat.le_of_ble_eq_true rfl⟩ xE0_ok trivial hA hK hP hD hS [5, 6] [0, 1, 2, 3, 4, 7] [0, 1, 2, 3, 4, 6, 7, 5] rfl rfl rfl rfl rfl rfl rfl rfl rfl rfl hl.1 rfl (Nat.le_of_ble_eq_true rfl) ⟨Nat.zero_le _, Nat.zero_le _⟩ d_X_crumbs_75 (fun H locs hP hD hS => ?_)
          refine lv_goto (tgt := 89) hx hb d_X_crumbs_78 (by decide) ?_
          have hq := Option.some.inj hf
          subst hq
          exact hret _ _ _ _ _ d_X_crumbs_89 rfl hP hD hS
      · have hf := io_f hf c6
        refine lv_ldc2 (v := 4000000000000000000) hx hb hown (hT _ k_337) d_X_crumbs_42 ?_
        refine lv_aload_n hx hb d_X_crumbs_45 rfl (lv_at hl 1 rfl) ?_
        refine lv_iload hx hb d_X_crumbs_46 (lv_at hl 0 rfl) ?_
        obtain ⟨q11, hq11, hf⟩ := io_b hf
        refine xcVI (wc := (w_X_refuse cI cJ cC a_h a_h_now a_h_kept a_h_letters a_h_numbers a_h_refusals a_h_mind a_h_parts a_h_past a_h_seating y_h_isKept y_h_numberCount z_h_refusals)) (wc' := (w_X_refuse cI cJ cC a_h a_h_now a_h_kept a_h_letters a_h_numbers a_h_refusals a_h_mind a_h_parts a_h_past a_h_seating y_h_isKept y_h_numberCount q11.2)) (ws' := (w_X_crumbs cI cJ cC a_h a_h_now a_h_kept a_h_letters a_h_numbers a_h_refusals a_h_mind a_h_parts a_h_past a_h_seating a_h_now_kinds a_h_now_sweets a_h_now_settings a_h_now_heaps a_h_parts_have a_h_parts_next y_h_isKept y_h_numberCount (r_children z_h_now) (r_strokes z_h_now) (r_gave z_h_now) (r_threw z_h_now) (r_sweets z_h_now) (r_settings z_h_now) q11.2 z_h_parts_doublings z_h_parts_have z_h_parts_next)) (As := [.int q1]) (rest := [.long 4000000000000000000]) hx hb hml hown hT (c_X_refuse (z_h_refusals := z_h_refusals) a_h a_h_now a_h_kept a_h_letters a_h_numbers a_h_refusals a_h_mind a_h_parts a_h_past a_h_seating y_h_isKept y_h_numberCount hq11) k_198 k_200 ks_0 k_1 k_201 hd_X_refuse ⟨Nat.le_of_ble_eq_true rfl, Nat.le_of_ble_eq_true rfl⟩ xE0_ok trivial hA hK hP hD hS [0, 4] [1, 2, 3, 5, 6, 7] [6, 0, 1, 2, 7, 3, 4, 5] rfl rfl rfl rfl rfl rfl rfl rfl rfl rfl hl.1 rfl (Nat.le_of_ble_eq_true rfl) ⟨Nat.zero_le _, Nat.zero_le _⟩ d_X_crumbs_48 (fun H locs hP hD hS => ?_)
        refine lv_i2l (v := (q11.1.toInt64)) hx hb d_X_crumbs_51 rfl ?_
        refine lv_lsub hx hb d_X_crumbs_52 ?_
        have hq := Option.some.inj hf
        subst hq
        exact hret _ _ _ _ _ d_X_crumbs_53 rfl hP hD hS
    · have hf := io_t hf c5
      refine lv_bipush (v := (-2)) hx hb d_X_crumbs_33 (by decide) ?_
      refine lv_istore (lv' := [(4, .int (-2)), (0, .ref a_h), (1, .int x1), (2, .int x2), (3, .int x3)]) hx hb d_X_crumbs_35 hl (by decide) rfl (fun ls hl => ?_)
      refine lv_iload hx hb d_X_crumbs_37 (lv_at hl 0 rfl) ?_
      refine lv_if_eq (tgt := 54) hx hb d_X_crumbs_39 (by decide) (fun c => absurd c (show ¬ ((-2) : Int32) = 0 from by decide +kernel)) (fun _ => ?_)
      refine lv_ldc2 (v := 4000000000000000000) hx hb hown (hT _ k_337) d_X_crumbs_42 ?_
      refine lv_aload_n hx hb d_X_crumbs_45 rfl (lv_at hl 1 rfl) ?_
      refine lv_iload hx hb d_X_crumbs_46 (lv_at hl 0 rfl) ?_
      obtain ⟨q12, hq12, hf⟩ := io_b hf
      refine xcVI (wc := (w_X_refuse cI cJ cC a_h a_h_now a_h_kept a_h_letters a_h_numbers a_h_refusals a_h_mind a_h_parts a_h_past a_h_seating y_h_isKept y_h_numberCount z_h_refusals)) (wc' := (w_X_refuse cI cJ cC a_h a_h_now a_h_kept a_h_letters a_h_numbers a_h_refusals a_h_mind a_h_parts a_h_past a_h_seating y_h_isKept y_h_numberCount q12.2)) (ws' := (w_X_crumbs cI cJ cC a_h a_h_now a_h_kept a_h_letters a_h_numbers a_h_refusals a_h_mind a_h_parts a_h_past a_h_seating a_h_now_kinds a_h_now_sweets a_h_now_settings a_h_now_heaps a_h_parts_have a_h_parts_next y_h_isKept y_h_numberCount (r_children z_h_now) (r_strokes z_h_now) (r_gave z_h_now) (r_threw z_h_now) (r_sweets z_h_now) (r_settings z_h_now) q12.2 z_h_parts_doublings z_h_parts_have z_h_parts_next)) (As := [.int (-2)]) (rest := [.long 4000000000000000000]) hx hb hml hown hT (c_X_refuse (z_h_refusals := z_h_refusals) a_h a_h_now a_h_kept a_h_letters a_h_numbers a_h_refusals a_h_mind a_h_parts a_h_past a_h_seating y_h_isKept y_h_numberCount hq12) k_198 k_200 ks_0 k_1 k_201 hd_X_refuse ⟨Nat.le_of_ble_eq_true rfl, Nat.le_of_ble_eq_true rfl⟩ xE0_ok trivial hA hK hP hD hS [0, 4] [1, 2, 3, 5, 6, 7] [6, 0, 1, 2, 7, 3, 4, 5] rfl rfl rfl rfl rfl rfl rfl rfl rfl rfl hl.1 rfl (Nat.le_of_ble_eq_true rfl) ⟨Nat.zero_le _, Nat.zero_le _⟩ d_X_crumbs_48 (fun H locs hP hD hS => ?_)
      refine lv_i2l (v := (q12.1.toInt64)) hx hb d_X_crumbs_51 rfl ?_
      refine lv_lsub hx hb d_X_crumbs_52 ?_
      have hq := Option.some.inj hf
      subst hq
      exact hret _ _ _ _ _ d_X_crumbs_53 rfl hP hD hS
  · have hf := io_t hf c3
    refine lv_iconst (v := (-1)) hx hb d_X_crumbs_20 (by decide) ?_
    refine lv_istore (lv' := [(4, .int (-1)), (0, .ref a_h), (1, .int x1), (2, .int x2), (3, .int x3)]) hx hb d_X_crumbs_21 hl (by decide) rfl (fun ls hl => ?_)
    refine lv_goto (tgt := 37) hx hb d_X_crumbs_23 (by decide) ?_
    refine lv_iload hx hb d_X_crumbs_37 (lv_at hl 0 rfl) ?_
    refine lv_if_eq (tgt := 54) hx hb d_X_crumbs_39 (by decide) (fun c => absurd c (show ¬ ((-1) : Int32) = 0 from by decide +kernel)) (fun _ => ?_)
    refine lv_ldc2 (v := 4000000000000000000) hx hb hown (hT _ k_337) d_X_crumbs_42 ?_
    refine lv_aload_n hx hb d_X_crumbs_45 rfl (lv_at hl 1 rfl) ?_
    refine lv_iload hx hb d_X_crumbs_46 (lv_at hl 0 rfl) ?_
    obtain ⟨q13, hq13, hf⟩ := io_b hf
    refine xcVI (wc := (w_X_refuse cI cJ cC a_h a_h_now a_h_kept a_h_letters a_h_numbers a_h_refusals a_h_mind a_h_parts a_h_past a_h_seating y_h_isKept y_h_numberCount z_h_refusals)) (wc' := (w_X_refuse cI cJ cC a_h a_h_now a_h_kept a_h_letters a_h_numbers a_h_refusals a_h_mind a_h_parts a_h_past a_h_seating y_h_isKept y_h_numberCount q13.2)) (ws' := (w_X_crumbs cI cJ cC a_h a_h_now a_h_kept a_h_letters a_h_numbers a_h_refusals a_h_mind a_h_parts a_h_past a_h_seating a_h_now_kinds a_h_now_sweets a_h_now_settings a_h_now_heaps a_h_parts_have a_h_parts_next y_h_isKept y_h_numberCount (r_children z_h_now) (r_strokes z_h_now) (r_gave z_h_now) (r_threw z_h_now) (r_sweets z_h_now) (r_settings z_h_now) q13.2 z_h_parts_doublings z_h_parts_have z_h_parts_next)) (As := [.int (-1)]) (rest := [.long 4000000000000000000]) hx hb hml hown hT (c_X_refuse (z_h_refusals := z_h_refusals) a_h a_h_now a_h_kept a_h_letters a_h_numbers a_h_refusals a_h_mind a_h_parts a_h_past a_h_seating y_h_isKept y_h_numberCount hq13) k_198 k_200 ks_0 k_1 k_201 hd_X_refuse ⟨Nat.le_of_ble_eq_true rfl, Nat.le_of_ble_eq_true rfl⟩ xE0_ok trivial hA hK hP hD hS [0, 4] [1, 2, 3, 5, 6, 7] [6, 0, 1, 2, 7, 3, 4, 5] rfl rfl rfl rfl rfl rfl rfl rfl rfl rfl hl.1 rfl (Nat.le_of_ble_eq_true rfl) ⟨Nat.zero_le _, Nat.zero_le _⟩ d_X_crumbs_48 (fun H locs hP hD hS => ?_)
    refine lv_i2l (v := (q13.1.toInt64)) hx hb d_X_crumbs_51 rfl ?_
    refine lv_lsub hx hb d_X_crumbs_52 ?_
    have hq := Option.some.inj hf
    subst hq
    exact hret _ _ _ _ _ d_X_crumbs_53 rfl hP hD hS
abbrev w_X_mean (cI cJ cC : ClassId) (a_h a_h_now a_h_kept a_h_letters a_h_numbers a_h_refusals a_h_mind a_h_parts a_h_past a_h_seating a_h_now_kinds a_h_now_sweets a_h_now_settings a_h_now_heaps : Nat) (y_h_isKept : Int32) (y_h_numberCount : Int32) (p_h_now_children : Int32) (p_h_now_strokes : Int32) (p_h_now_gave : Int32) (p_h_now_threw : Int32) (p_h_now_sweets : (Nat → Int32)) (p_h_refusals : (Nat → Int32)) : va_W := [(a_h, .inr (0, [.ref a_h_now, .ref a_h_kept, .int y_h_isKept, .ref a_h_letters, .ref a_h_numbers, .int y_h_numberCount, .ref a_h_refusals, .ref a_h_mind, .ref a_h_parts, .ref a_h_past, .ref a_h_seating])), (a_h_now, .inr (1, [.ref a_h_now_kinds, .ref a_h_now_sweets, .ref a_h_now_settings, .int p_h_now_children, .int p_h_now_strokes, .int p_h_now_gave, .int p_h_now_threw, .ref a_h_now_heaps])), (a_h_now_sweets, .inl (cI, (8, .inl p_h_now_sweets))), (a_h_refusals, .inl (cI, (7, .inl p_h_refusals)))]
theorem d_X_mean_0 : decode b_X_mean 0 = .ok (.iload_n 1, 1) := by decide +kernel
theorem d_X_mean_1 : decode b_X_mean 1 = .ok (.invokestatic 132, 3) := by decide +kernel
theorem d_X_mean_4 : decode b_X_mean 4 = .ok (.ifCond .ne 10, 3) := by decide +kernel
theorem d_X_mean_7 : decode b_X_mean 7 = .ok (.aload_n 0, 1) := by decide +kernel
theorem d_X_mean_8 : decode b_X_mean 8 = .ok (.bipush (-2), 2) := by decide +kernel
theorem d_X_mean_10 : decode b_X_mean 10 = .ok (.invokevirtual 69, 3) := by decide +kernel
theorem d_X_mean_13 : decode b_X_mean 13 = .ok (.ireturn, 1) := by decide +kernel
theorem d_X_mean_14 : decode b_X_mean 14 = .ok (.aload_n 0, 1) := by decide +kernel
theorem d_X_mean_15 : decode b_X_mean 15 = .ok (.getfield 10, 3) := by decide +kernel
theorem d_X_mean_18 : decode b_X_mean 18 = .ok (.getfield 121, 3) := by decide +kernel
theorem d_X_mean_21 : decode b_X_mean 21 = .ok (.ifCond .ne 10, 3) := by decide +kernel
theorem d_X_mean_24 : decode b_X_mean 24 = .ok (.aload_n 0, 1) := by decide +kernel
theorem d_X_mean_25 : decode b_X_mean 25 = .ok (.bipush (-3), 2) := by decide +kernel
theorem d_X_mean_27 : decode b_X_mean 27 = .ok (.invokevirtual 69, 3) := by decide +kernel
theorem d_X_mean_30 : decode b_X_mean 30 = .ok (.ireturn, 1) := by decide +kernel
theorem d_X_mean_31 : decode b_X_mean 31 = .ok (.aload_n 0, 1) := by decide +kernel
theorem d_X_mean_32 : decode b_X_mean 32 = .ok (.getfield 10, 3) := by decide +kernel
theorem d_X_mean_35 : decode b_X_mean 35 = .ok (.invokevirtual 170, 3) := by decide +kernel
theorem d_X_mean_38 : decode b_X_mean 38 = .ok (.iconst 1, 1) := by decide +kernel
theorem d_X_mean_39 : decode b_X_mean 39 = .ok (.invokestatic 173, 3) := by decide +kernel
theorem d_X_mean_42 : decode b_X_mean 42 = .ok (.istore_n 2, 1) := by decide +kernel
theorem d_X_mean_43 : decode b_X_mean 43 = .ok (.iload_n 1, 1) := by decide +kernel
theorem d_X_mean_44 : decode b_X_mean 44 = .ok (.ifCond .ne 13, 3) := by decide +kernel
theorem d_X_mean_47 : decode b_X_mean 47 = .ok (.aload_n 0, 1) := by decide +kernel
theorem d_X_mean_48 : decode b_X_mean 48 = .ok (.getfield 10, 3) := by decide +kernel
theorem d_X_mean_51 : decode b_X_mean 51 = .ok (.invokevirtual 179, 3) := by decide +kernel
theorem d_X_mean_54 : decode b_X_mean 54 = .ok (.goto 10, 3) := by decide +kernel
theorem d_X_mean_57 : decode b_X_mean 57 = .ok (.aload_n 0, 1) := by decide +kernel
theorem d_X_mean_58 : decode b_X_mean 58 = .ok (.getfield 10, 3) := by decide +kernel
theorem d_X_mean_61 : decode b_X_mean 61 = .ok (.getfield 121, 3) := by decide +kernel
theorem d_X_mean_64 : decode b_X_mean 64 = .ok (.iload_n 2, 1) := by decide +kernel
theorem d_X_mean_65 : decode b_X_mean 65 = .ok (.idiv, 1) := by decide +kernel
theorem d_X_mean_66 : decode b_X_mean 66 = .ok (.ireturn, 1) := by decide +kernel
set_option maxHeartbeats 4000000 in
set_option maxRecDepth 100000 in
theorem c_X_mean {l : Launch} {D : va_G} {cI cJ cC : ClassId} (a_h a_h_now a_h_kept a_h_letters a_h_numbers a_h_refusals a_h_mind a_h_parts a_h_past a_h_seating a_h_now_kinds a_h_now_sweets a_h_now_settings a_h_now_heaps : Nat) (y_h_isKept : Int32) (y_h_numberCount : Int32) {z_h_now : RS} {z_h_refusals : (Nat → Int32)} {x1 : Int32} {q : Int32 × (Nat → Int32)} (hf : f_X_mean z_h_now z_h_refusals x1 = some q) : xI l y_X_mean b_X_mean 3 .int 2 44 D (tyK cI cJ cC) xE0 [.ref a_h, .int x1] (w_X_mean cI cJ cC a_h a_h_now a_h_kept a_h_letters a_h_numbers a_h_refusals a_h_mind a_h_parts a_h_past a_h_seating a_h_now_kinds a_h_now_sweets a_h_now_settings a_h_now_heaps y_h_isKept y_h_numberCount (r_children z_h_now) (r_strokes z_h_now) (r_gave z_h_now) (r_threw z_h_now) (r_sweets z_h_now) z_h_refusals) q.1 (w_X_mean cI cJ cC a_h a_h_now a_h_kept a_h_letters a_h_numbers a_h_refusals a_h_mind a_h_parts a_h_past a_h_seating a_h_now_kinds a_h_now_sweets a_h_now_settings a_h_now_heaps y_h_isKept y_h_numberCount (r_children z_h_now) (r_strokes z_h_now) (r_gave z_h_now) (r_threw z_h_now) (r_sweets z_h_now) q.2) := by
  refine xI_of (by decide) (Nat.le_of_ble_eq_true rfl) ?_
  intro p e s m args below meth c A Q hx hb hml hown hT hA hP hD hK hS hE hret ls hl
  have hown : s.vm.findClass R_X = some m.cls := hown
  have hl : lv_has ls 3 [(0, .ref a_h), (1, .int x1)] := hl
  unfold f_X_mean at hf
  refine lv_iload_n hx hb d_X_mean_0 rfl (lv_at hl 1 rfl) ?_
  obtain ⟨q1, hq1, hf⟩ := io_b hf
  refine xcSI (wc := []) (wc' := []) (ws' := (w_X_mean cI cJ cC a_h a_h_now a_h_kept a_h_letters a_h_numbers a_h_refusals a_h_mind a_h_parts a_h_past a_h_seating a_h_now_kinds a_h_now_sweets a_h_now_settings a_h_now_heaps y_h_isKept y_h_numberCount (r_children z_h_now) (r_strokes z_h_now) (r_gave z_h_now) (r_threw z_h_now) (r_sweets z_h_now) z_h_refusals)) (As := [.int x1]) (rest := []) hx hb hml hown hT (c_X_isPart hq1) k_265 k_266 k_1 k_267 hd_X_isPart ⟨Nat.le_of_ble_eq_true rfl, Nat.le_of_ble_eq_true rfl⟩ xE0_ok trivial hA hK hP hD hS [] [0, 1, 2, 3] [0, 1, 2, 3] rfl rfl rfl rfl rfl rfl rfl hl.1 rfl (Nat.le_of_ble_eq_true rfl) ⟨Nat.zero_le _, Nat.zero_le _⟩ d_X_mean_1 (fun H locs hP hD hS => ?_)
  refine lv_if_ne (tgt := 14) hx hb d_X_mean_4 (by decide) (fun c2 => ?_) (fun c2 => ?_)
  · have hf := io_f hf c2
    refine lv_aload_n hx hb d_X_mean_14 rfl (lv_at hl 0 rfl) ?_
    refine va_get hx hb hT i_X hown hK hP 0 rfl rfl 0 (Nat.le_of_ble_eq_true rfl) (hT _ k_156) (fun _ h => h) rfl d_X_mean_15 ?_
    refine va_get hx hb hT i_Ring hown hK hP 1 rfl rfl 3 (Nat.le_of_ble_eq_true rfl) (hT _ k_40) (fun _ h => h) rfl d_X_mean_18 ?_
    refine lv_if_ne (tgt := 31) hx hb d_X_mean_21 (by decide) (fun c3 => ?_) (fun c3 => ?_)
    · have hf := io_f hf c3
      refine lv_aload_n hx hb d_X_mean_31 rfl (lv_at hl 0 rfl) ?_
      refine va_get hx hb hT i_X hown hK hP 0 rfl rfl 0 (Nat.le_of_ble_eq_true rfl) (hT _ k_156) (fun _ h => h) rfl d_X_mean_32 ?_
      obtain ⟨q4, hq4, hf⟩ := io_b hf
      refine xcVI (wc := (w_Ring_commonDivisor cI cJ cC a_h_now a_h_now_kinds a_h_now_sweets a_h_now_settings a_h_now_heaps (r_children z_h_now) (r_strokes z_h_now) (r_gave z_h_now) (r_threw z_h_now) (r_sweets z_h_now))) (wc' := (w_Ring_commonDivisor cI cJ cC a_h_now a_h_now_kinds a_h_now_sweets a_h_now_settings a_h_now_heaps (r_children z_h_now) (r_strokes z_h_now) (r_gave z_h_now) (r_threw z_h_now) (r_sweets z_h_now))) (ws' := (w_X_mean cI cJ cC a_h a_h_now a_h_kept a_h_letters a_h_numbers a_h_refusals a_h_mind a_h_parts a_h_past a_h_seating a_h_now_kinds a_h_now_sweets a_h_now_settings a_h_now_heaps y_h_isKept y_h_numberCount (r_children z_h_now) (r_strokes z_h_now) (r_gave z_h_now) (r_threw z_h_now) (r_sweets z_h_now) z_h_refusals)) (As := []) (rest := []) hx hb hml hown hT (c_Ring_commonDivisor (z_h := z_h_now) a_h_now a_h_now_kinds a_h_now_sweets a_h_now_settings a_h_now_heaps hq4) k_369 k_370 k_371 k_2 k_372 hd_Ring_commonDivisor ⟨Nat.le_of_ble_eq_true rfl, Nat.le_of_ble_eq_true rfl⟩ xE0_ok trivial hA hK hP hD hS [1, 2] [0, 3] [0, 2, 3, 1] rfl rfl rfl rfl rfl rfl rfl rfl rfl rfl hl.1 rfl (Nat.le_of_ble_eq_true rfl) ⟨Nat.zero_le _, Nat.zero_le _⟩ d_X_mean_35 (fun H locs hP hD hS => ?_)
      refine lv_iconst (v := 1) hx hb d_X_mean_38 (by decide) ?_
      refine va_mmax hx hb (hml.trans hl.1.symm) hown (hT _ k_377) (hT _ k_378) (hT _ k_10) (hT _ k_379) (Nat.le_of_ble_eq_true rfl) (Nat.le_of_ble_eq_true rfl) (Nat.zero_le _) (Nat.zero_le _) d_X_mean_39 ?_
      refine lv_istore_n (lv' := [(2, .int (jmax q4 1)), (0, .ref a_h), (1, .int x1)]) hx hb d_X_mean_42 rfl hl (by decide) rfl (fun ls hl => ?_)
      refine lv_iload_n hx hb d_X_mean_43 rfl (lv_at hl 2 rfl) ?_
      refine lv_if_ne (tgt := 57) hx hb d_X_mean_44 (by decide) (fun c5 => ?_) (fun c5 => ?_)
      · have hf := io_f hf c5
        refine lv_aload_n hx hb d_X_mean_57 rfl (lv_at hl 1 rfl) ?_
        refine va_get hx hb hT i_X hown hK hP 0 rfl rfl 0 (Nat.le_of_ble_eq_true rfl) (hT _ k_156) (fun _ h => h) rfl d_X_mean_58 ?_
        refine va_get hx hb hT i_Ring hown hK hP 1 rfl rfl 3 (Nat.le_of_ble_eq_true rfl) (hT _ k_40) (fun _ h => h) rfl d_X_mean_61 ?_
        refine lv_iload_n hx hb d_X_mean_64 rfl (lv_at hl 0 rfl) ?_
        obtain ⟨c6, hf⟩ := io_n hf
        refine x_idiv hx hb d_X_mean_65 c6 ?_
        have hq := Option.some.inj hf
        subst hq
        exact hret _ _ _ _ _ d_X_mean_66 rfl rfl hP hD hS
      · have hf := io_t hf c5
        refine lv_aload_n hx hb d_X_mean_47 rfl (lv_at hl 1 rfl) ?_
        refine va_get hx hb hT i_X hown hK hP 0 rfl rfl 0 (Nat.le_of_ble_eq_true rfl) (hT _ k_156) (fun _ h => h) rfl d_X_mean_48 ?_
        obtain ⟨q7, hq7, hf⟩ := io_b hf
        refine xcVI (wc := (w_Ring_allSweets cI cJ cC a_h_now a_h_now_kinds a_h_now_sweets a_h_now_settings a_h_now_heaps (r_children z_h_now) (r_strokes z_h_now) (r_gave z_h_now) (r_threw z_h_now) (r_sweets z_h_now))) (wc' := (w_Ring_allSweets cI cJ cC a_h_now a_h_now_kinds a_h_now_sweets a_h_now_settings a_h_now_heaps (r_children z_h_now) (r_strokes z_h_now) (r_gave z_h_now) (r_threw z_h_now) (r_sweets z_h_now))) (ws' := (w_X_mean cI cJ cC a_h a_h_now a_h_kept a_h_letters a_h_numbers a_h_refusals a_h_mind a_h_parts a_h_past a_h_seating a_h_now_kinds a_h_now_sweets a_h_now_settings a_h_now_heaps y_h_isKept y_h_numberCount (r_children z_h_now) (r_strokes z_h_now) (r_gave z_h_now) (r_threw z_h_now) (r_sweets z_h_now) z_h_refusals)) (As := []) (rest := []) hx hb hml hown hT (c_Ring_allSweets (z_h := z_h_now) a_h_now a_h_now_kinds a_h_now_sweets a_h_now_settings a_h_now_heaps hq7) k_380 k_374 k_375 k_2 k_376 hd_Ring_allSweets ⟨Nat.le_of_ble_eq_true rfl, Nat.le_of_ble_eq_true rfl⟩ xE0_ok trivial hA hK hP hD hS [1, 2] [0, 3] [0, 2, 3, 1] rfl rfl rfl rfl rfl rfl rfl rfl rfl rfl hl.1 rfl (Nat.le_of_ble_eq_true rfl) ⟨Nat.zero_le _, Nat.zero_le _⟩ d_X_mean_51 (fun H locs hP hD hS => ?_)
        refine lv_goto (tgt := 64) hx hb d_X_mean_54 (by decide) ?_
        refine lv_iload_n hx hb d_X_mean_64 rfl (lv_at hl 0 rfl) ?_
        obtain ⟨c8, hf⟩ := io_n hf
        refine x_idiv hx hb d_X_mean_65 c8 ?_
        have hq := Option.some.inj hf
        subst hq
        exact hret _ _ _ _ _ d_X_mean_66 rfl rfl hP hD hS
    · have hf := io_t hf c3
      refine lv_aload_n hx hb d_X_mean_24 rfl (lv_at hl 0 rfl) ?_
      refine lv_bipush (v := (-3)) hx hb d_X_mean_25 (by decide) ?_
      obtain ⟨q9, hq9, hf⟩ := io_b hf
      refine xcVI (wc := (w_X_refuse cI cJ cC a_h a_h_now a_h_kept a_h_letters a_h_numbers a_h_refusals a_h_mind a_h_parts a_h_past a_h_seating y_h_isKept y_h_numberCount z_h_refusals)) (wc' := (w_X_refuse cI cJ cC a_h a_h_now a_h_kept a_h_letters a_h_numbers a_h_refusals a_h_mind a_h_parts a_h_past a_h_seating y_h_isKept y_h_numberCount q9.2)) (ws' := (w_X_mean cI cJ cC a_h a_h_now a_h_kept a_h_letters a_h_numbers a_h_refusals a_h_mind a_h_parts a_h_past a_h_seating a_h_now_kinds a_h_now_sweets a_h_now_settings a_h_now_heaps y_h_isKept y_h_numberCount (r_children z_h_now) (r_strokes z_h_now) (r_gave z_h_now) (r_threw z_h_now) (r_sweets z_h_now) q9.2)) (As := [.int (-3)]) (rest := []) hx hb hml hown hT (c_X_refuse (z_h_refusals := z_h_refusals) a_h a_h_now a_h_kept a_h_letters a_h_numbers a_h_refusals a_h_mind a_h_parts a_h_past a_h_seating y_h_isKept y_h_numberCount hq9) k_198 k_200 ks_0 k_1 k_201 hd_X_refuse ⟨Nat.le_of_ble_eq_true rfl, Nat.le_of_ble_eq_true rfl⟩ xE0_ok trivial hA hK hP hD hS [0, 3] [1, 2] [2, 0, 1, 3] rfl rfl rfl rfl rfl rfl rfl rfl rfl rfl hl.1 rfl (Nat.le_of_ble_eq_true rfl) ⟨Nat.zero_le _, Nat.zero_le _⟩ d_X_mean_27 (fun H locs hP hD hS => ?_)
      have hq := Option.some.inj hf
      subst hq
      exact hret _ _ _ _ _ d_X_mean_30 rfl rfl hP hD hS
  · have hf := io_t hf c2
    refine lv_aload_n hx hb d_X_mean_7 rfl (lv_at hl 0 rfl) ?_
    refine lv_bipush (v := (-2)) hx hb d_X_mean_8 (by decide) ?_
    obtain ⟨q10, hq10, hf⟩ := io_b hf
    refine xcVI (wc := (w_X_refuse cI cJ cC a_h a_h_now a_h_kept a_h_letters a_h_numbers a_h_refusals a_h_mind a_h_parts a_h_past a_h_seating y_h_isKept y_h_numberCount z_h_refusals)) (wc' := (w_X_refuse cI cJ cC a_h a_h_now a_h_kept a_h_letters a_h_numbers a_h_refusals a_h_mind a_h_parts a_h_past a_h_seating y_h_isKept y_h_numberCount q10.2)) (ws' := (w_X_mean cI cJ cC a_h a_h_now a_h_kept a_h_letters a_h_numbers a_h_refusals a_h_mind a_h_parts a_h_past a_h_seating a_h_now_kinds a_h_now_sweets a_h_now_settings a_h_now_heaps y_h_isKept y_h_numberCount (r_children z_h_now) (r_strokes z_h_now) (r_gave z_h_now) (r_threw z_h_now) (r_sweets z_h_now) q10.2)) (As := [.int (-2)]) (rest := []) hx hb hml hown hT (c_X_refuse (z_h_refusals := z_h_refusals) a_h a_h_now a_h_kept a_h_letters a_h_numbers a_h_refusals a_h_mind a_h_parts a_h_past a_h_seating y_h_isKept y_h_numberCount hq10) k_198 k_200 ks_0 k_1 k_201 hd_X_refuse ⟨Nat.le_of_ble_eq_true rfl, Nat.le_of_ble_eq_true rfl⟩ xE0_ok trivial hA hK hP hD hS [0, 3] [1, 2] [2, 0, 1, 3] rfl rfl rfl rfl rfl rfl rfl rfl rfl rfl hl.1 rfl (Nat.le_of_ble_eq_true rfl) ⟨Nat.zero_le _, Nat.zero_le _⟩ d_X_mean_10 (fun H locs hP hD hS => ?_)
    have hq := Option.some.inj hf
    subst hq
    exact hret _ _ _ _ _ d_X_mean_13 rfl rfl hP hD hS
abbrev w_X_count (cI cJ cC : ClassId) (a_h a_h_now a_h_kept a_h_letters a_h_numbers a_h_refusals a_h_mind a_h_parts a_h_past a_h_seating a_h_now_kinds a_h_now_sweets a_h_now_settings a_h_now_heaps a_h_letters_text a_h_letters_trial : Nat) (y_h_isKept : Int32) (p_h_numberCount : Int32) (p_h_now_children : Int32) (p_h_now_strokes : Int32) (p_h_now_gave : Int32) (p_h_now_threw : Int32) (p_h_now_sweets : (Nat → Int32)) (p_h_letters_length : Int32) (p_h_refusals : (Nat → Int32)) : va_W := [(a_h, .inr (0, [.ref a_h_now, .ref a_h_kept, .int y_h_isKept, .ref a_h_letters, .ref a_h_numbers, .int p_h_numberCount, .ref a_h_refusals, .ref a_h_mind, .ref a_h_parts, .ref a_h_past, .ref a_h_seating])), (a_h_now, .inr (1, [.ref a_h_now_kinds, .ref a_h_now_sweets, .ref a_h_now_settings, .int p_h_now_children, .int p_h_now_strokes, .int p_h_now_gave, .int p_h_now_threw, .ref a_h_now_heaps])), (a_h_now_sweets, .inl (cI, (8, .inl p_h_now_sweets))), (a_h_letters, .inr (2, [.int p_h_letters_length, .ref a_h_letters_text, .ref a_h_letters_trial])), (a_h_refusals, .inl (cI, (7, .inl p_h_refusals)))]
theorem d_X_count_0 : decode b_X_count 0 = .ok (.iload_n 1, 1) := by decide +kernel
theorem d_X_count_1 : decode b_X_count 1 = .ok (.tableswitch 108 0 7 #[47, 55, 63, 71, 79, 87, 95, 100], 47) := by decide +kernel
theorem d_X_count_48 : decode b_X_count 48 = .ok (.aload_n 0, 1) := by decide +kernel
theorem d_X_count_49 : decode b_X_count 49 = .ok (.getfield 10, 3) := by decide +kernel
theorem d_X_count_52 : decode b_X_count 52 = .ok (.getfield 121, 3) := by decide +kernel
theorem d_X_count_55 : decode b_X_count 55 = .ok (.ireturn, 1) := by decide +kernel
theorem d_X_count_56 : decode b_X_count 56 = .ok (.aload_n 0, 1) := by decide +kernel
theorem d_X_count_57 : decode b_X_count 57 = .ok (.getfield 10, 3) := by decide +kernel
theorem d_X_count_60 : decode b_X_count 60 = .ok (.invokevirtual 179, 3) := by decide +kernel
theorem d_X_count_63 : decode b_X_count 63 = .ok (.ireturn, 1) := by decide +kernel
theorem d_X_count_64 : decode b_X_count 64 = .ok (.aload_n 0, 1) := by decide +kernel
theorem d_X_count_65 : decode b_X_count 65 = .ok (.getfield 10, 3) := by decide +kernel
theorem d_X_count_68 : decode b_X_count 68 = .ok (.getfield 236, 3) := by decide +kernel
theorem d_X_count_71 : decode b_X_count 71 = .ok (.ireturn, 1) := by decide +kernel
theorem d_X_count_72 : decode b_X_count 72 = .ok (.aload_n 0, 1) := by decide +kernel
theorem d_X_count_73 : decode b_X_count 73 = .ok (.getfield 10, 3) := by decide +kernel
theorem d_X_count_76 : decode b_X_count 76 = .ok (.getfield 239, 3) := by decide +kernel
theorem d_X_count_79 : decode b_X_count 79 = .ok (.ireturn, 1) := by decide +kernel
theorem d_X_count_80 : decode b_X_count 80 = .ok (.aload_n 0, 1) := by decide +kernel
theorem d_X_count_81 : decode b_X_count 81 = .ok (.getfield 10, 3) := by decide +kernel
theorem d_X_count_84 : decode b_X_count 84 = .ok (.getfield 242, 3) := by decide +kernel
theorem d_X_count_87 : decode b_X_count 87 = .ok (.ireturn, 1) := by decide +kernel
theorem d_X_count_88 : decode b_X_count 88 = .ok (.aload_n 0, 1) := by decide +kernel
theorem d_X_count_89 : decode b_X_count 89 = .ok (.getfield 26, 3) := by decide +kernel
theorem d_X_count_92 : decode b_X_count 92 = .ok (.getfield 73, 3) := by decide +kernel
theorem d_X_count_95 : decode b_X_count 95 = .ok (.ireturn, 1) := by decide +kernel
theorem d_X_count_96 : decode b_X_count 96 = .ok (.aload_n 0, 1) := by decide +kernel
theorem d_X_count_97 : decode b_X_count 97 = .ok (.getfield 34, 3) := by decide +kernel
theorem d_X_count_100 : decode b_X_count 100 = .ok (.ireturn, 1) := by decide +kernel
theorem d_X_count_101 : decode b_X_count 101 = .ok (.aload_n 0, 1) := by decide +kernel
theorem d_X_count_102 : decode b_X_count 102 = .ok (.getfield 10, 3) := by decide +kernel
theorem d_X_count_105 : decode b_X_count 105 = .ok (.invokevirtual 245, 3) := by decide +kernel
theorem d_X_count_108 : decode b_X_count 108 = .ok (.ireturn, 1) := by decide +kernel
theorem d_X_count_109 : decode b_X_count 109 = .ok (.iload_n 1, 1) := by decide +kernel
theorem d_X_count_110 : decode b_X_count 110 = .ok (.bipush 11, 2) := by decide +kernel
theorem d_X_count_112 : decode b_X_count 112 = .ok (.if_icmp .lt 21, 3) := by decide +kernel
theorem d_X_count_115 : decode b_X_count 115 = .ok (.iload_n 1, 1) := by decide +kernel
theorem d_X_count_116 : decode b_X_count 116 = .ok (.bipush 16, 2) := by decide +kernel
theorem d_X_count_118 : decode b_X_count 118 = .ok (.if_icmp .gt 15, 3) := by decide +kernel
theorem d_X_count_121 : decode b_X_count 121 = .ok (.aload_n 0, 1) := by decide +kernel
theorem d_X_count_122 : decode b_X_count 122 = .ok (.getfield 38, 3) := by decide +kernel
theorem d_X_count_125 : decode b_X_count 125 = .ok (.iload_n 1, 1) := by decide +kernel
theorem d_X_count_126 : decode b_X_count 126 = .ok (.bipush 10, 2) := by decide +kernel
theorem d_X_count_128 : decode b_X_count 128 = .ok (.isub, 1) := by decide +kernel
theorem d_X_count_129 : decode b_X_count 129 = .ok (.iaload, 1) := by decide +kernel
theorem d_X_count_130 : decode b_X_count 130 = .ok (.goto 5, 3) := by decide +kernel
theorem d_X_count_133 : decode b_X_count 133 = .ok (.bipush (-9), 2) := by decide +kernel
theorem d_X_count_135 : decode b_X_count 135 = .ok (.ireturn, 1) := by decide +kernel
set_option maxHeartbeats 4000000 in
set_option maxRecDepth 100000 in
theorem c_X_count {l : Launch} {D : va_G} {cI cJ cC : ClassId} (a_h a_h_now a_h_kept a_h_letters a_h_numbers a_h_refusals a_h_mind a_h_parts a_h_past a_h_seating a_h_now_kinds a_h_now_sweets a_h_now_settings a_h_now_heaps a_h_letters_text a_h_letters_trial : Nat) (y_h_isKept : Int32) {z_h_numberCount : Int32} {z_h_now : RS} {z_h_letters_length : Int32} {z_h_refusals : (Nat → Int32)} {x1 : Int32} {q : Int32} (hf : f_X_count z_h_numberCount z_h_now z_h_letters_length z_h_refusals x1 = some q) : xI l y_X_count b_X_count 2 .int 1 22 D (tyK cI cJ cC) xE0 [.ref a_h, .int x1] (w_X_count cI cJ cC a_h a_h_now a_h_kept a_h_letters a_h_numbers a_h_refusals a_h_mind a_h_parts a_h_past a_h_seating a_h_now_kinds a_h_now_sweets a_h_now_settings a_h_now_heaps a_h_letters_text a_h_letters_trial y_h_isKept z_h_numberCount (r_children z_h_now) (r_strokes z_h_now) (r_gave z_h_now) (r_threw z_h_now) (r_sweets z_h_now) z_h_letters_length z_h_refusals) q (w_X_count cI cJ cC a_h a_h_now a_h_kept a_h_letters a_h_numbers a_h_refusals a_h_mind a_h_parts a_h_past a_h_seating a_h_now_kinds a_h_now_sweets a_h_now_settings a_h_now_heaps a_h_letters_text a_h_letters_trial y_h_isKept z_h_numberCount (r_children z_h_now) (r_strokes z_h_now) (r_gave z_h_now) (r_threw z_h_now) (r_sweets z_h_now) z_h_letters_length z_h_refusals) := by
  refine xI_of (by decide) (Nat.le_of_ble_eq_true rfl) ?_
  intro p e s m args below meth c A Q hx hb hml hown hT hA hP hD hK hS hE hret ls hl
  have hown : s.vm.findClass R_X = some m.cls := hown
  have hl : lv_has ls 2 [(0, .ref a_h), (1, .int x1)] := hl
  unfold f_X_count at hf
  refine lv_iload_n hx hb d_X_count_0 rfl (lv_at hl 1 rfl) ?_
  rcases Decidable.em (x1 = 0) with c1 | c1
  · have hf := io_t hf c1
    refine lv_tableIn (off := 47) (tgt := 48) hx hb d_X_count_1 (by rw [c1]; decide +kernel) (by rw [c1]; decide +kernel) (by rw [c1]; rfl) (by decide) ?_
    refine lv_aload_n hx hb d_X_count_48 rfl (lv_at hl 0 rfl) ?_
    refine va_get hx hb hT i_X hown hK hP 0 rfl rfl 0 (Nat.le_of_ble_eq_true rfl) (hT _ k_156) (fun _ h => h) rfl d_X_count_49 ?_
    refine va_get hx hb hT i_Ring hown hK hP 1 rfl rfl 3 (Nat.le_of_ble_eq_true rfl) (hT _ k_40) (fun _ h => h) rfl d_X_count_52 ?_
    have hq := Option.some.inj hf
    subst hq
    exact hret _ _ _ _ _ d_X_count_55 rfl rfl hP hD hS
  · have hf := io_f hf c1
    rcases Decidable.em (x1 = 1) with c2 | c2
    · have hf := io_t hf c2
      refine lv_tableIn (off := 55) (tgt := 56) hx hb d_X_count_1 (by rw [c2]; decide +kernel) (by rw [c2]; decide +kernel) (by rw [c2]; rfl) (by decide) ?_
      refine lv_aload_n hx hb d_X_count_56 rfl (lv_at hl 0 rfl) ?_
      refine va_get hx hb hT i_X hown hK hP 0 rfl rfl 0 (Nat.le_of_ble_eq_true rfl) (hT _ k_156) (fun _ h => h) rfl d_X_count_57 ?_
      obtain ⟨q3, hq3, hf⟩ := io_b hf
      refine xcVI (wc := (w_Ring_allSweets cI cJ cC a_h_now a_h_now_kinds a_h_now_sweets a_h_now_settings a_h_now_heaps (r_children z_h_now) (r_strokes z_h_now) (r_gave z_h_now) (r_threw z_h_now) (r_sweets z_h_now))) (wc' := (w_Ring_allSweets cI cJ cC a_h_now a_h_now_kinds a_h_now_sweets a_h_now_settings a_h_now_heaps (r_children z_h_now) (r_strokes z_h_now) (r_gave z_h_now) (r_threw z_h_now) (r_sweets z_h_now))) (ws' := (w_X_count cI cJ cC a_h a_h_now a_h_kept a_h_letters a_h_numbers a_h_refusals a_h_mind a_h_parts a_h_past a_h_seating a_h_now_kinds a_h_now_sweets a_h_now_settings a_h_now_heaps a_h_letters_text a_h_letters_trial y_h_isKept z_h_numberCount (r_children z_h_now) (r_strokes z_h_now) (r_gave z_h_now) (r_threw z_h_now) (r_sweets z_h_now) z_h_letters_length z_h_refusals)) (As := []) (rest := []) hx hb hml hown hT (c_Ring_allSweets (z_h := z_h_now) a_h_now a_h_now_kinds a_h_now_sweets a_h_now_settings a_h_now_heaps hq3) k_380 k_374 k_375 k_2 k_376 hd_Ring_allSweets ⟨Nat.le_of_ble_eq_true rfl, Nat.le_of_ble_eq_true rfl⟩ xE0_ok trivial hA hK hP hD hS [1, 2] [0, 3, 4] [0, 3, 4, 1, 2] rfl rfl rfl rfl rfl rfl rfl rfl rfl rfl hl.1 rfl (Nat.le_of_ble_eq_true rfl) ⟨Nat.zero_le _, Nat.zero_le _⟩ d_X_count_60 (fun H locs hP hD hS => ?_)
      have hq := Option.some.inj hf
      subst hq
      exact hret _ _ _ _ _ d_X_count_63 rfl rfl hP hD hS
    · have hf := io_f hf c2
      rcases Decidable.em (x1 = 2) with c4 | c4
      · have hf := io_t hf c4
        refine lv_tableIn (off := 63) (tgt := 64) hx hb d_X_count_1 (by rw [c4]; decide +kernel) (by rw [c4]; decide +kernel) (by rw [c4]; rfl) (by decide) ?_
        refine lv_aload_n hx hb d_X_count_64 rfl (lv_at hl 0 rfl) ?_
        refine va_get hx hb hT i_X hown hK hP 0 rfl rfl 0 (Nat.le_of_ble_eq_true rfl) (hT _ k_156) (fun _ h => h) rfl d_X_count_65 ?_
        refine va_get hx hb hT i_Ring hown hK hP 1 rfl rfl 4 (Nat.le_of_ble_eq_true rfl) (hT _ k_42) (fun _ h => h) rfl d_X_count_68 ?_
        have hq := Option.some.inj hf
        subst hq
        exact hret _ _ _ _ _ d_X_count_71 rfl rfl hP hD hS
      · have hf := io_f hf c4
        rcases Decidable.em (x1 = 3) with c5 | c5
        · have hf := io_t hf c5
          refine lv_tableIn (off := 71) (tgt := 72) hx hb d_X_count_1 (by rw [c5]; decide +kernel) (by rw [c5]; decide +kernel) (by rw [c5]; rfl) (by decide) ?_
          refine lv_aload_n hx hb d_X_count_72 rfl (lv_at hl 0 rfl) ?_
          refine va_get hx hb hT i_X hown hK hP 0 rfl rfl 0 (Nat.le_of_ble_eq_true rfl) (hT _ k_156) (fun _ h => h) rfl d_X_count_73 ?_
          refine va_get hx hb hT i_Ring hown hK hP 1 rfl rfl 5 (Nat.le_of_ble_eq_true rfl) (hT _ k_45) (fun _ h => h) rfl d_X_count_76 ?_
          have hq := Option.some.inj hf
          subst hq
          exact hret _ _ _ _ _ d_X_count_79 rfl rfl hP hD hS
        · have hf := io_f hf c5
          rcases Decidable.em (x1 = 4) with c6 | c6
          · have hf := io_t hf c6
            refine lv_tableIn (off := 79) (tgt := 80) hx hb d_X_count_1 (by rw [c6]; decide +kernel) (by rw [c6]; decide +kernel) (by rw [c6]; rfl) (by decide) ?_
            refine lv_aload_n hx hb d_X_count_80 rfl (lv_at hl 0 rfl) ?_
            refine va_get hx hb hT i_X hown hK hP 0 rfl rfl 0 (Nat.le_of_ble_eq_true rfl) (hT _ k_156) (fun _ h => h) rfl d_X_count_81 ?_
            refine va_get hx hb hT i_Ring hown hK hP 1 rfl rfl 6 (Nat.le_of_ble_eq_true rfl) (hT _ k_48) (fun _ h => h) rfl d_X_count_84 ?_
            have hq := Option.some.inj hf
            subst hq
            exact hret _ _ _ _ _ d_X_count_87 rfl rfl hP hD hS
          · have hf := io_f hf c6
            rcases Decidable.em (x1 = 5) with c7 | c7
            · have hf := io_t hf c7
              refine lv_tableIn (off := 87) (tgt := 88) hx hb d_X_count_1 (by rw [c7]; decide +kernel) (by rw [c7]; decide +kernel) (by rw [c7]; rfl) (by decide) ?_
              refine lv_aload_n hx hb d_X_count_88 rfl (lv_at hl 0 rfl) ?_
              refine va_get hx hb hT i_X hown hK hP 0 rfl rfl 3 (Nat.le_of_ble_eq_true rfl) (hT _ k_159) (fun _ h => h) rfl d_X_count_89 ?_
              refine va_get hx hb hT i_Letters hown hK hP 3 rfl rfl 0 (Nat.le_of_ble_eq_true rfl) (hT _ k_77) (fun _ h => h) rfl d_X_count_92 ?_
              have hq := Option.some.inj hf
              subst hq
              exact hret _ _ _ _ _ d_X_count_95 rfl rfl hP hD hS
            · have hf := io_f hf c7
              rcases Decidable.em (x1 = 6) with c8 | c8
              · have hf := io_t hf c8
                refine lv_tableIn (off := 95) (tgt := 96) hx hb d_X_count_1 (by rw [c8]; decide +kernel) (by rw [c8]; decide +kernel) (by rw [c8]; rfl) (by decide) ?_
                refine lv_aload_n hx hb d_X_count_96 rfl (lv_at hl 0 rfl) ?_
                refine va_get hx hb hT i_X hown hK hP 0 rfl rfl 5 (Nat.le_of_ble_eq_true rfl) (hT _ k_161) (fun _ h => h) rfl d_X_count_97 ?_
                have hq := Option.some.inj hf
                subst hq
                exact hret _ _ _ _ _ d_X_count_100 rfl rfl hP hD hS
              · have hf := io_f hf c8
                rcases Decidable.em (x1 = 7) with c9 | c9
                · have hf := io_t hf c9
                  refine lv_tableIn (off := 100) (tgt := 101) hx hb d_X_count_1 (by rw [c9]; decide +kernel) (by rw [c9]; decide +kernel) (by rw [c9]; rfl) (by decide) ?_
                  refine lv_aload_n hx hb d_X_count_101 rfl (lv_at hl 0 rfl) ?_
                  refine va_get hx hb hT i_X hown hK hP 0 rfl rfl 0 (Nat.le_of_ble_eq_true rfl) (hT _ k_156) (fun _ h => h) rfl d_X_count_102 ?_
                  obtain ⟨q10, hq10, hf⟩ := io_b hf
                  refine xcVI (wc := (w_Ring_oddHeaps cI cJ cC a_h_now a_h_now_kinds a_h_now_sweets a_h_now_settings a_h_now_heaps (r_children z_h_now) (r_strokes z_h_now) (r_gave z_h_now) (r_threw z_h_now) (r_sweets z_h_now))) (wc' := (w_Ring_oddHeaps cI cJ cC a_h_now a_h_now_kinds a_h_now_sweets a_h_now_settings a_h_now_heaps (r_children z_h_now) (r_strokes z_h_now) (r_gave z_h_now) (r_threw z_h_now) (r_sweets z_h_now))) (ws' := (w_X_count cI cJ cC a_h a_h_now a_h_kept a_h_letters a_h_numbers a_h_refusals a_h_mind a_h_parts a_h_past a_h_seating a_h_now_kinds a_h_now_sweets a_h_now_settings a_h_now_heaps a_h_letters_text a_h_letters_trial y_h_isKept z_h_numberCount (r_children z_h_now) (r_strokes z_h_now) (r_gave z_h_now) (r_threw z_h_now) (r_sweets z_h_now) z_h_letters_length z_h_refusals)) (As := []) (rest := []) hx hb hml hown hT (c_Ring_oddHeaps (z_h := z_h_now) a_h_now a_h_now_kinds a_h_now_sweets a_h_now_settings a_h_now_heaps hq10) k_385 k_386 k_387 k_2 k_388 hd_Ring_oddHeaps ⟨Nat.le_of_ble_eq_true rfl, Nat.le_of_ble_eq_true rfl⟩ xE0_ok trivial hA hK hP hD hS [1, 2] [0, 3, 4] [0, 3, 4, 1, 2] rfl rfl rfl rfl rfl rfl rfl rfl rfl rfl hl.1 rfl (Nat.le_of_ble_eq_true rfl) ⟨Nat.zero_le _, Nat.zero_le _⟩ d_X_count_105 (fun H locs hP hD hS => ?_)
                  have hq := Option.some.inj hf
                  subst hq
                  exact hret _ _ _ _ _ d_X_count_108 rfl rfl hP hD hS
                · have hf := io_f hf c9
                  refine lv_tableOut (tgt := 109) hx hb d_X_count_1 (by have e0 := lv_neT (a := 0) c1 (by decide +kernel); have e1 := lv_neT (a := 1) c2 (by decide +kernel); have e2 := lv_neT (a := 2) c4 (by decide +kernel); have e3 := lv_neT (a := 3) c5 (by decide +kernel); have e4 := lv_neT (a := 4) c6 (by decide +kernel); have e5 := lv_neT (a := 5) c7 (by decide +kernel); have e6 := lv_neT (a := 6) c8 (by decide +kernel); have e7 := lv_neT (a := 7) c9 (by decide +kernel); omega) (by decide) ?_
                  refine lv_iload_n hx hb d_X_count_109 rfl (lv_at hl 1 rfl) ?_
                  refine lv_bipush (v := 11) hx hb d_X_count_110 (by decide) ?_
                  refine lv_icmp_lt (tgt := 133) hx hb d_X_count_112 (by decide) (fun c11 => ?_) (fun c11 => ?_)
                  · have hf := io_t hf c11
                    refine lv_bipush (v := (-9)) hx hb d_X_count_133 (by decide) ?_
                    have hq := Option.some.inj hf
                    subst hq
                    exact hret _ _ _ _ _ d_X_count_135 rfl rfl hP hD hS
                  · have hf := io_f hf c11
                    refine lv_iload_n hx hb d_X_count_115 rfl (lv_at hl 1 rfl) ?_
                    refine lv_bipush (v := 16) hx hb d_X_count_116 (by decide) ?_
                    refine lv_icmp_gt (tgt := 133) hx hb d_X_count_118 (by decide) (fun c12 => ?_) (fun c12 => ?_)
                    · have hf := io_t hf c12
                      refine lv_bipush (v := (-9)) hx hb d_X_count_133 (by decide) ?_
                      have hq := Option.some.inj hf
                      subst hq
                      exact hret _ _ _ _ _ d_X_count_135 rfl rfl hP hD hS
                    · have hf := io_f hf c12
                      refine lv_aload_n hx hb d_X_count_121 rfl (lv_at hl 0 rfl) ?_
                      refine va_get hx hb hT i_X hown hK hP 0 rfl rfl 6 (Nat.le_of_ble_eq_true rfl) (hT _ k_162) (fun _ h => h) rfl d_X_count_122 ?_
                      refine lv_iload_n hx hb d_X_count_125 rfl (lv_at hl 1 rfl) ?_
                      refine lv_bipush (v := 10) hx hb d_X_count_126 (by decide) ?_
                      refine lv_isub hx hb d_X_count_128 ?_
                      obtain ⟨c13, hf⟩ := io_n hf
                      refine x_iald hx hb hK hP 4 0 rfl rfl (j := (x1 - 10).toNatClampNeg) rfl c13 d_X_count_129 ?_
                      refine lv_goto (tgt := 135) hx hb d_X_count_130 (by decide) ?_
                      have hq := Option.some.inj hf
                      subst hq
                      exact hret _ _ _ _ _ d_X_count_135 rfl rfl hP hD hS
