/-! Contracts: X2. Printed by wip/whole/gen. -/
abbrev w_X_outsideOrNobody (cI cJ cC : ClassId) (a_h a_h_now a_h_kept a_h_letters a_h_numbers a_h_refusals a_h_mind a_h_parts a_h_past a_h_seating a_h_now_kinds a_h_now_sweets a_h_now_settings a_h_now_heaps : Nat) (y_h_isKept : Int32) (y_h_numberCount : Int32) (p_h_now_children : Int32) (p_h_now_strokes : Int32) (p_h_now_gave : Int32) (p_h_now_threw : Int32) : va_W := [(a_h, .inr (0, [.ref a_h_now, .ref a_h_kept, .int y_h_isKept, .ref a_h_letters, .ref a_h_numbers, .int y_h_numberCount, .ref a_h_refusals, .ref a_h_mind, .ref a_h_parts, .ref a_h_past, .ref a_h_seating])), (a_h_now, .inr (1, [.ref a_h_now_kinds, .ref a_h_now_sweets, .ref a_h_now_settings, .int p_h_now_children, .int p_h_now_strokes, .int p_h_now_gave, .int p_h_now_threw, .ref a_h_now_heaps]))]
theorem d_X_outsideOrNobody_0 : decode b_X_outsideOrNobody 0 = .ok (.iload_n 1, 1) := by decide +kernel
theorem d_X_outsideOrNobody_1 : decode b_X_outsideOrNobody 1 = .ok (.iload_n 2, 1) := by decide +kernel
theorem d_X_outsideOrNobody_2 : decode b_X_outsideOrNobody 2 = .ok (.iload_n 3, 1) := by decide +kernel
theorem d_X_outsideOrNobody_3 : decode b_X_outsideOrNobody 3 = .ok (.invokestatic 100, 3) := by decide +kernel
theorem d_X_outsideOrNobody_6 : decode b_X_outsideOrNobody 6 = .ok (.istore 4, 2) := by decide +kernel
theorem d_X_outsideOrNobody_8 : decode b_X_outsideOrNobody 8 = .ok (.iload 4, 2) := by decide +kernel
theorem d_X_outsideOrNobody_10 : decode b_X_outsideOrNobody 10 = .ok (.ifCond .ne 18, 3) := by decide +kernel
theorem d_X_outsideOrNobody_13 : decode b_X_outsideOrNobody 13 = .ok (.aload_n 0, 1) := by decide +kernel
theorem d_X_outsideOrNobody_14 : decode b_X_outsideOrNobody 14 = .ok (.getfield 10, 3) := by decide +kernel
theorem d_X_outsideOrNobody_17 : decode b_X_outsideOrNobody 17 = .ok (.getfield 121, 3) := by decide +kernel
theorem d_X_outsideOrNobody_20 : decode b_X_outsideOrNobody 20 = .ok (.ifCond .ne 8, 3) := by decide +kernel
theorem d_X_outsideOrNobody_23 : decode b_X_outsideOrNobody 23 = .ok (.bipush (-3), 2) := by decide +kernel
theorem d_X_outsideOrNobody_25 : decode b_X_outsideOrNobody 25 = .ok (.goto 5, 3) := by decide +kernel
theorem d_X_outsideOrNobody_28 : decode b_X_outsideOrNobody 28 = .ok (.iload 4, 2) := by decide +kernel
theorem d_X_outsideOrNobody_30 : decode b_X_outsideOrNobody 30 = .ok (.ireturn, 1) := by decide +kernel
set_option maxHeartbeats 4000000 in
set_option maxRecDepth 100000 in
theorem c_X_outsideOrNobody {l : Launch} {D : va_G} {cI cJ cC : ClassId} (a_h a_h_now a_h_kept a_h_letters a_h_numbers a_h_refusals a_h_mind a_h_parts a_h_past a_h_seating a_h_now_kinds a_h_now_sweets a_h_now_settings a_h_now_heaps : Nat) (y_h_isKept : Int32) (y_h_numberCount : Int32) {z_h_now : RS} {x1 : Int32} {x2 : Int32} {x3 : Int32} {q : Int32} (hf : f_X_outsideOrNobody z_h_now x1 x2 x3 = some q) : xI l y_X_outsideOrNobody b_X_outsideOrNobody 5 .int 1 22 D (tyK cI cJ cC) xE0 [.ref a_h, .int x1, .int x2, .int x3] (w_X_outsideOrNobody cI cJ cC a_h a_h_now a_h_kept a_h_letters a_h_numbers a_h_refusals a_h_mind a_h_parts a_h_past a_h_seating a_h_now_kinds a_h_now_sweets a_h_now_settings a_h_now_heaps y_h_isKept y_h_numberCount (r_children z_h_now) (r_strokes z_h_now) (r_gave z_h_now) (r_threw z_h_now)) q (w_X_outsideOrNobody cI cJ cC a_h a_h_now a_h_kept a_h_letters a_h_numbers a_h_refusals a_h_mind a_h_parts a_h_past a_h_seating a_h_now_kinds a_h_now_sweets a_h_now_settings a_h_now_heaps y_h_isKept y_h_numberCount (r_children z_h_now) (r_strokes z_h_now) (r_gave z_h_now) (r_threw z_h_now)) := by
  refine xI_of (by decide) (Nat.le_of_ble_eq_true rfl) ?_
  intro p e s m args below meth c A Q hx hb hml hown hT hA hP hD hK hS hE hret ls hl
  have hown : s.vm.findClass R_X = some m.cls := hown
  have hl : lv_has ls 5 [(0, .ref a_h), (1, .int x1), (2, .int x2), (3, .int x3)] := hl
  unfold f_X_outsideOrNobody at hf
  refine lv_iload_n hx hb d_X_outsideOrNobody_0 rfl (lv_at hl 1 rfl) ?_
  refine lv_iload_n hx hb d_X_outsideOrNobody_1 rfl (lv_at hl 2 rfl) ?_
  refine lv_iload_n hx hb d_X_outsideOrNobody_2 rfl (lv_at hl 3 rfl) ?_
  obtain ⟨q1, hq1, hf⟩ := io_b hf
  refine xcSI (wc := []) (wc' := []) (ws' := (w_X_outsideOrNobody cI cJ cC a_h a_h_now a_h_kept a_h_letters a_h_numbers a_h_refusals a_h_mind a_h_parts a_h_past a_h_seating a_h_now_kinds a_h_now_sweets a_h_now_settings a_h_now_heaps y_h_isKept y_h_numberCount (r_children z_h_now) (r_strokes z_h_now) (r_gave z_h_now) (r_threw z_h_now))) (As := [.int x1, .int x2, .int x3]) (rest := []) hx hb hml hown hT (c_X_outside hq1) k_385 k_357 k_1 k_358 hd_X_outside ⟨Nat.le_of_ble_eq_true rfl, Nat.le_of_ble_eq_true rfl⟩ xE0_ok trivial hA hK hP hD hS [] [0, 1] [0, 1] rfl rfl rfl rfl rfl rfl rfl hl.1 rfl (Nat.le_of_ble_eq_true rfl) ⟨Nat.zero_le _, Nat.zero_le _⟩ d_X_outsideOrNobody_3 (fun H locs hP hD hS => ?_)
  refine lv_istore (lv' := [(4, .int q1), (0, .ref a_h), (1, .int x1), (2, .int x2), (3, .int x3)]) hx hb d_X_outsideOrNobody_6 hl (by decide) rfl (fun ls hl => ?_)
  refine lv_iload hx hb d_X_outsideOrNobody_8 (lv_at hl 0 rfl) ?_
  refine lv_if_ne (tgt := 28) hx hb d_X_outsideOrNobody_10 (by decide) (fun c2 => ?_) (fun c2 => ?_)
  · have hf := io_f hf c2
    refine lv_iload hx hb d_X_outsideOrNobody_28 (lv_at hl 0 rfl) ?_
    have hq := Option.some.inj hf
    subst hq
    exact hret _ _ _ _ _ d_X_outsideOrNobody_30 rfl rfl hP hD hS
  · have hf := io_t hf c2
    refine lv_aload_n hx hb d_X_outsideOrNobody_13 rfl (lv_at hl 1 rfl) ?_
    refine va_get hx hb hT i_X hown hK hP 0 rfl rfl 0 (Nat.le_of_ble_eq_true rfl) (hT _ k_168) (fun _ h => h) rfl d_X_outsideOrNobody_14 ?_
    refine va_get hx hb hT i_Ring hown hK hP 1 rfl rfl 3 (Nat.le_of_ble_eq_true rfl) (hT _ k_48) (fun _ h => h) rfl d_X_outsideOrNobody_17 ?_
    refine lv_if_ne (tgt := 28) hx hb d_X_outsideOrNobody_20 (by decide) (fun c3 => ?_) (fun c3 => ?_)
    · have hf := io_f hf c3
      refine lv_iload hx hb d_X_outsideOrNobody_28 (lv_at hl 0 rfl) ?_
      have hq := Option.some.inj hf
      subst hq
      exact hret _ _ _ _ _ d_X_outsideOrNobody_30 rfl rfl hP hD hS
    · have hf := io_t hf c3
      refine lv_bipush (v := (-3)) hx hb d_X_outsideOrNobody_23 (by decide) ?_
      refine lv_goto (tgt := 30) hx hb d_X_outsideOrNobody_25 (by decide) ?_
      have hq := Option.some.inj hf
      subst hq
      exact hret _ _ _ _ _ d_X_outsideOrNobody_30 rfl rfl hP hD hS
abbrev w_X_near (cI cJ cC : ClassId) (a_h a_h_now a_h_kept a_h_letters a_h_numbers a_h_refusals a_h_mind a_h_parts a_h_past a_h_seating a_h_now_kinds a_h_now_sweets a_h_now_settings a_h_now_heaps a_h_parts_have a_h_parts_next : Nat) (y_h_isKept : Int32) (y_h_numberCount : Int32) (p_h_now_children : Int32) (p_h_now_strokes : Int32) (p_h_now_gave : Int32) (p_h_now_threw : Int32) (p_h_now_sweets : (Nat → Int32)) (p_h_now_settings : (Nat → Int32)) (p_h_refusals : (Nat → Int32)) (p_h_parts_doublings : Int32) (p_h_parts_have : (Nat → Int64)) (p_h_parts_next : (Nat → Int64)) : va_W := [(a_h, .inr (0, [.ref a_h_now, .ref a_h_kept, .int y_h_isKept, .ref a_h_letters, .ref a_h_numbers, .int y_h_numberCount, .ref a_h_refusals, .ref a_h_mind, .ref a_h_parts, .ref a_h_past, .ref a_h_seating])), (a_h_now, .inr (1, [.ref a_h_now_kinds, .ref a_h_now_sweets, .ref a_h_now_settings, .int p_h_now_children, .int p_h_now_strokes, .int p_h_now_gave, .int p_h_now_threw, .ref a_h_now_heaps])), (a_h_now_sweets, .inl (cI, (8, .inl p_h_now_sweets))), (a_h_now_settings, .inl (cI, (3, .inl p_h_now_settings))), (a_h_refusals, .inl (cI, (7, .inl p_h_refusals))), (a_h_parts, .inr (4, [.ref a_h_parts_have, .ref a_h_parts_next, .int p_h_parts_doublings])), (a_h_parts_have, .inl (cJ, (8, .inr (.inl p_h_parts_have)))), (a_h_parts_next, .inl (cJ, (8, .inr (.inl p_h_parts_next))))]
theorem d_X_near_0 : decode b_X_near 0 = .ok (.aload_n 0, 1) := by decide +kernel
theorem d_X_near_1 : decode b_X_near 1 = .ok (.iload_n 1, 1) := by decide +kernel
theorem d_X_near_2 : decode b_X_near 2 = .ok (.iconst 1, 1) := by decide +kernel
theorem d_X_near_3 : decode b_X_near 3 = .ok (.bipush 99, 2) := by decide +kernel
theorem d_X_near_5 : decode b_X_near 5 = .ok (.invokevirtual 182, 3) := by decide +kernel
theorem d_X_near_8 : decode b_X_near 8 = .ok (.istore_n 2, 1) := by decide +kernel
theorem d_X_near_9 : decode b_X_near 9 = .ok (.iload_n 2, 1) := by decide +kernel
theorem d_X_near_10 : decode b_X_near 10 = .ok (.ifCond .eq 9, 3) := by decide +kernel
theorem d_X_near_13 : decode b_X_near 13 = .ok (.aload_n 0, 1) := by decide +kernel
theorem d_X_near_14 : decode b_X_near 14 = .ok (.iload_n 2, 1) := by decide +kernel
theorem d_X_near_15 : decode b_X_near 15 = .ok (.invokevirtual 69, 3) := by decide +kernel
theorem d_X_near_18 : decode b_X_near 18 = .ok (.ireturn, 1) := by decide +kernel
theorem d_X_near_19 : decode b_X_near 19 = .ok (.aload_n 0, 1) := by decide +kernel
theorem d_X_near_20 : decode b_X_near 20 = .ok (.getfield 51, 3) := by decide +kernel
theorem d_X_near_23 : decode b_X_near 23 = .ok (.aload_n 0, 1) := by decide +kernel
theorem d_X_near_24 : decode b_X_near 24 = .ok (.getfield 10, 3) := by decide +kernel
theorem d_X_near_27 : decode b_X_near 27 = .ok (.iload_n 1, 1) := by decide +kernel
theorem d_X_near_28 : decode b_X_near 28 = .ok (.invokevirtual 185, 3) := by decide +kernel
theorem d_X_near_31 : decode b_X_near 31 = .ok (.ireturn, 1) := by decide +kernel
set_option maxHeartbeats 4000000 in
set_option maxRecDepth 100000 in
theorem c_X_near {l : Launch} {D : va_G} {cI cJ cC : ClassId} (a_h a_h_now a_h_kept a_h_letters a_h_numbers a_h_refusals a_h_mind a_h_parts a_h_past a_h_seating a_h_now_kinds a_h_now_sweets a_h_now_settings a_h_now_heaps a_h_parts_have a_h_parts_next : Nat) (y_h_isKept : Int32) (y_h_numberCount : Int32) {z_h_now : RS} {z_h_refusals : (Nat → Int32)} {z_h_parts_doublings : Int32} {z_h_parts_have : (Nat → Int64)} {z_h_parts_next : (Nat → Int64)} {x1 : Int32} {q : Int32 × (Nat → Int32) × Int32 × (Nat → Int64) × (Nat → Int64)} (hf : f_X_near z_h_now z_h_refusals z_h_parts_doublings z_h_parts_have z_h_parts_next x1 = some q) : xI l y_X_near b_X_near 3 .int 3 85 D (tyK cI cJ cC) xE0 [.ref a_h, .int x1] (w_X_near cI cJ cC a_h a_h_now a_h_kept a_h_letters a_h_numbers a_h_refusals a_h_mind a_h_parts a_h_past a_h_seating a_h_now_kinds a_h_now_sweets a_h_now_settings a_h_now_heaps a_h_parts_have a_h_parts_next y_h_isKept y_h_numberCount (r_children z_h_now) (r_strokes z_h_now) (r_gave z_h_now) (r_threw z_h_now) (r_sweets z_h_now) (r_settings z_h_now) z_h_refusals z_h_parts_doublings z_h_parts_have z_h_parts_next) q.1 (w_X_near cI cJ cC a_h a_h_now a_h_kept a_h_letters a_h_numbers a_h_refusals a_h_mind a_h_parts a_h_past a_h_seating a_h_now_kinds a_h_now_sweets a_h_now_settings a_h_now_heaps a_h_parts_have a_h_parts_next y_h_isKept y_h_numberCount (r_children z_h_now) (r_strokes z_h_now) (r_gave z_h_now) (r_threw z_h_now) (r_sweets z_h_now) (r_settings z_h_now) q.2.1 q.2.2.1 q.2.2.2.1 q.2.2.2.2) := by
  refine xI_of (by decide) (Nat.le_of_ble_eq_true rfl) ?_
  intro p e s m args below meth c A Q hx hb hml hown hT hA hP hD hK hS hE hret ls hl
  have hown : s.vm.findClass R_X = some m.cls := hown
  have hl : lv_has ls 3 [(0, .ref a_h), (1, .int x1)] := hl
  unfold f_X_near at hf
  refine lv_aload_n hx hb d_X_near_0 rfl (lv_at hl 0 rfl) ?_
  refine lv_iload_n hx hb d_X_near_1 rfl (lv_at hl 1 rfl) ?_
  refine lv_iconst (v := 1) hx hb d_X_near_2 (by decide) ?_
  refine lv_bipush (v := 99) hx hb d_X_near_3 (by decide) ?_
  obtain ⟨q1, hq1, hf⟩ := io_b hf
  refine xcVI (wc := (w_X_outsideOrNobody cI cJ cC a_h a_h_now a_h_kept a_h_letters a_h_numbers a_h_refusals a_h_mind a_h_parts a_h_past a_h_seating a_h_now_kinds a_h_now_sweets a_h_now_settings a_h_now_heaps y_h_isKept y_h_numberCount (r_children z_h_now) (r_strokes z_h_now) (r_gave z_h_now) (r_threw z_h_now))) (wc' := (w_X_outsideOrNobody cI cJ cC a_h a_h_now a_h_kept a_h_letters a_h_numbers a_h_refusals a_h_mind a_h_parts a_h_past a_h_seating a_h_now_kinds a_h_now_sweets a_h_now_settings a_h_now_heaps y_h_isKept y_h_numberCount (r_children z_h_now) (r_strokes z_h_now) (r_gave z_h_now) (r_threw z_h_now))) (ws' := (w_X_near cI cJ cC a_h a_h_now a_h_kept a_h_letters a_h_numbers a_h_refusals a_h_mind a_h_parts a_h_past a_h_seating a_h_now_kinds a_h_now_sweets a_h_now_settings a_h_now_heaps a_h_parts_have a_h_parts_next y_h_isKept y_h_numberCount (r_children z_h_now) (r_strokes z_h_now) (r_gave z_h_now) (r_threw z_h_now) (r_sweets z_h_now) (r_settings z_h_now) z_h_refusals z_h_parts_doublings z_h_parts_have z_h_parts_next)) (As := [.int x1, .int 1, .int 99]) (rest := []) hx hb hml hown hT (c_X_outsideOrNobody (z_h_now := z_h_now) a_h a_h_now a_h_kept a_h_letters a_h_numbers a_h_refusals a_h_mind a_h_parts a_h_past a_h_seating a_h_now_kinds a_h_now_sweets a_h_now_settings a_h_now_heaps y_h_isKept y_h_numberCount hq1) k_565 k_567 ks_12 k_1 k_568 hd_X_outsideOrNobody ⟨Nat.le_of_ble_eq_true rfl, Nat.le_of_ble_eq_true rfl⟩ xE0_ok trivial hA hK hP hD hS [0, 1] [2, 3, 4, 5, 6, 7] [6, 7, 0, 1, 2, 3, 4, 5] rfl rfl rfl rfl rfl rfl rfl rfl rfl rfl hl.1 rfl (Nat.le_of_ble_eq_true rfl) ⟨Nat.zero_le _, Nat.zero_le _⟩ d_X_near_5 (fun H locs hP hD hS => ?_)
  refine lv_istore_n (lv' := [(2, .int q1), (0, .ref a_h), (1, .int x1)]) hx hb d_X_near_8 rfl hl (by decide) rfl (fun ls hl => ?_)
  refine lv_iload_n hx hb d_X_near_9 rfl (lv_at hl 0 rfl) ?_
  refine lv_if_eq (tgt := 19) hx hb d_X_near_10 (by decide) (fun c2 => ?_) (fun c2 => ?_)
  · have hf := io_t hf c2
    refine lv_aload_n hx hb d_X_near_19 rfl (lv_at hl 1 rfl) ?_
    refine va_get hx hb hT i_X hown hK hP 0 rfl rfl 8 (Nat.le_of_ble_eq_true rfl) (hT _ k_176) (fun _ h => h) rfl d_X_near_20 ?_
    refine lv_aload_n hx hb d_X_near_23 rfl (lv_at hl 1 rfl) ?_
    refine va_get hx hb hT i_X hown hK hP 0 rfl rfl 0 (Nat.le_of_ble_eq_true rfl) (hT _ k_168) (fun _ h => h) rfl d_X_near_24 ?_
    refine lv_iload_n hx hb d_X_near_27 rfl (lv_at hl 2 rfl) ?_
    obtain ⟨q3, hq3, hf⟩ := io_b hf
    refine xcVI (wc := (w_Crumbs_nearBehind cI cJ cC a_h_parts a_h_parts_have a_h_parts_next a_h_now a_h_now_kinds a_h_now_sweets a_h_now_settings a_h_now_heaps z_h_parts_doublings z_h_parts_have z_h_parts_next (r_children z_h_now) (r_strokes z_h_now) (r_gave z_h_now) (r_threw z_h_now) (r_sweets z_h_now) (r_settings z_h_now))) (wc' := (w_Crumbs_nearBehind cI cJ cC a_h_parts a_h_parts_have a_h_parts_next a_h_now a_h_now_kinds a_h_now_sweets a_h_now_settings a_h_now_heaps q3.2.1 q3.2.2.1 q3.2.2.2 (r_children z_h_now) (r_strokes z_h_now) (r_gave z_h_now) (r_threw z_h_now) (r_sweets z_h_now) (r_settings z_h_now))) (ws' := (w_X_near cI cJ cC a_h a_h_now a_h_kept a_h_letters a_h_numbers a_h_refusals a_h_mind a_h_parts a_h_past a_h_seating a_h_now_kinds a_h_now_sweets a_h_now_settings a_h_now_heaps a_h_parts_have a_h_parts_next y_h_isKept y_h_numberCount (r_children z_h_now) (r_strokes z_h_now) (r_gave z_h_now) (r_threw z_h_now) (r_sweets z_h_now) (r_settings z_h_now) z_h_refusals q3.2.1 q3.2.2.1 q3.2.2.2)) (As := [.ref a_h_now, .int x1]) (rest := []) hx hb hml hown hT (c_Crumbs_nearBehind (z_h_doublings := z_h_parts_doublings) (z_h_have := z_h_parts_have) (z_h_next := z_h_parts_next) (z_g1 := z_h_now) a_h_parts a_h_parts_have a_h_parts_next a_h_now a_h_now_kinds a_h_now_sweets a_h_now_settings a_h_now_heaps hq3) k_569 k_570 k_571 k_5 k_572 hd_Crumbs_nearBehind ⟨Nat.le_of_ble_eq_true rfl, Nat.le_of_ble_eq_true rfl⟩ xE0_ok trivial hA hK hP hD hS [5, 6, 7, 1, 2, 3] [0, 4] [0, 5, 6, 7, 1, 2, 3, 4] rfl rfl rfl rfl rfl rfl rfl rfl rfl rfl hl.1 rfl (Nat.le_of_ble_eq_true rfl) ⟨Nat.zero_le _, Nat.zero_le _⟩ d_X_near_28 (fun H locs hP hD hS => ?_)
    have hq := Option.some.inj hf
    subst hq
    exact hret _ _ _ _ _ d_X_near_31 rfl rfl hP hD hS
  · have hf := io_f hf c2
    refine lv_aload_n hx hb d_X_near_13 rfl (lv_at hl 1 rfl) ?_
    refine lv_iload_n hx hb d_X_near_14 rfl (lv_at hl 0 rfl) ?_
    obtain ⟨q4, hq4, hf⟩ := io_b hf
    refine xcVI (wc := (w_X_refuse cI cJ cC a_h a_h_now a_h_kept a_h_letters a_h_numbers a_h_refusals a_h_mind a_h_parts a_h_past a_h_seating y_h_isKept y_h_numberCount z_h_refusals)) (wc' := (w_X_refuse cI cJ cC a_h a_h_now a_h_kept a_h_letters a_h_numbers a_h_refusals a_h_mind a_h_parts a_h_past a_h_seating y_h_isKept y_h_numberCount q4.2)) (ws' := (w_X_near cI cJ cC a_h a_h_now a_h_kept a_h_letters a_h_numbers a_h_refusals a_h_mind a_h_parts a_h_past a_h_seating a_h_now_kinds a_h_now_sweets a_h_now_settings a_h_now_heaps a_h_parts_have a_h_parts_next y_h_isKept y_h_numberCount (r_children z_h_now) (r_strokes z_h_now) (r_gave z_h_now) (r_threw z_h_now) (r_sweets z_h_now) (r_settings z_h_now) q4.2 z_h_parts_doublings z_h_parts_have z_h_parts_next)) (As := [.int q1]) (rest := []) hx hb hml hown hT (c_X_refuse (z_h_refusals := z_h_refusals) a_h a_h_now a_h_kept a_h_letters a_h_numbers a_h_refusals a_h_mind a_h_parts a_h_past a_h_seating y_h_isKept y_h_numberCount hq4) k_206 k_208 ks_0 k_1 k_209 hd_X_refuse ⟨Nat.le_of_ble_eq_true rfl, Nat.le_of_ble_eq_true rfl⟩ xE0_ok trivial hA hK hP hD hS [0, 4] [1, 2, 3, 5, 6, 7] [6, 0, 1, 2, 7, 3, 4, 5] rfl rfl rfl rfl rfl rfl rfl rfl rfl rfl hl.1 rfl (Nat.le_of_ble_eq_true rfl) ⟨Nat.zero_le _, Nat.zero_le _⟩ d_X_near_15 (fun H locs hP hD hS => ?_)
    have hq := Option.some.inj hf
    subst hq
    exact hret _ _ _ _ _ d_X_near_18 rfl rfl hP hD hS
abbrev w_X_outsideOrMany (cI cJ cC : ClassId) (a_h a_h_now a_h_kept a_h_letters a_h_numbers a_h_refusals a_h_mind a_h_parts a_h_past a_h_seating a_h_now_kinds a_h_now_sweets a_h_now_settings a_h_now_heaps : Nat) (y_h_isKept : Int32) (y_h_numberCount : Int32) (p_h_now_children : Int32) (p_h_now_strokes : Int32) (p_h_now_gave : Int32) (p_h_now_threw : Int32) : va_W := [(a_h, .inr (0, [.ref a_h_now, .ref a_h_kept, .int y_h_isKept, .ref a_h_letters, .ref a_h_numbers, .int y_h_numberCount, .ref a_h_refusals, .ref a_h_mind, .ref a_h_parts, .ref a_h_past, .ref a_h_seating])), (a_h_now, .inr (1, [.ref a_h_now_kinds, .ref a_h_now_sweets, .ref a_h_now_settings, .int p_h_now_children, .int p_h_now_strokes, .int p_h_now_gave, .int p_h_now_threw, .ref a_h_now_heaps]))]
theorem d_X_outsideOrMany_0 : decode b_X_outsideOrMany 0 = .ok (.iload_n 1, 1) := by decide +kernel
theorem d_X_outsideOrMany_1 : decode b_X_outsideOrMany 1 = .ok (.iconst 0, 1) := by decide +kernel
theorem d_X_outsideOrMany_2 : decode b_X_outsideOrMany 2 = .ok (.iload_n 2, 1) := by decide +kernel
theorem d_X_outsideOrMany_3 : decode b_X_outsideOrMany 3 = .ok (.invokestatic 100, 3) := by decide +kernel
theorem d_X_outsideOrMany_6 : decode b_X_outsideOrMany 6 = .ok (.istore 4, 2) := by decide +kernel
theorem d_X_outsideOrMany_8 : decode b_X_outsideOrMany 8 = .ok (.iload 4, 2) := by decide +kernel
theorem d_X_outsideOrMany_10 : decode b_X_outsideOrMany 10 = .ok (.ifCond .ne 19, 3) := by decide +kernel
theorem d_X_outsideOrMany_13 : decode b_X_outsideOrMany 13 = .ok (.aload_n 0, 1) := by decide +kernel
theorem d_X_outsideOrMany_14 : decode b_X_outsideOrMany 14 = .ok (.getfield 10, 3) := by decide +kernel
theorem d_X_outsideOrMany_17 : decode b_X_outsideOrMany 17 = .ok (.getfield 121, 3) := by decide +kernel
theorem d_X_outsideOrMany_20 : decode b_X_outsideOrMany 20 = .ok (.iload_n 3, 1) := by decide +kernel
theorem d_X_outsideOrMany_21 : decode b_X_outsideOrMany 21 = .ok (.if_icmp .le 8, 3) := by decide +kernel
theorem d_X_outsideOrMany_24 : decode b_X_outsideOrMany 24 = .ok (.bipush (-6), 2) := by decide +kernel
theorem d_X_outsideOrMany_26 : decode b_X_outsideOrMany 26 = .ok (.goto 5, 3) := by decide +kernel
theorem d_X_outsideOrMany_29 : decode b_X_outsideOrMany 29 = .ok (.iload 4, 2) := by decide +kernel
theorem d_X_outsideOrMany_31 : decode b_X_outsideOrMany 31 = .ok (.ireturn, 1) := by decide +kernel
set_option maxHeartbeats 4000000 in
set_option maxRecDepth 100000 in
theorem c_X_outsideOrMany {l : Launch} {D : va_G} {cI cJ cC : ClassId} (a_h a_h_now a_h_kept a_h_letters a_h_numbers a_h_refusals a_h_mind a_h_parts a_h_past a_h_seating a_h_now_kinds a_h_now_sweets a_h_now_settings a_h_now_heaps : Nat) (y_h_isKept : Int32) (y_h_numberCount : Int32) {z_h_now : RS} {x1 : Int32} {x2 : Int32} {x3 : Int32} {q : Int32} (hf : f_X_outsideOrMany z_h_now x1 x2 x3 = some q) : xI l y_X_outsideOrMany b_X_outsideOrMany 5 .int 1 22 D (tyK cI cJ cC) xE0 [.ref a_h, .int x1, .int x2, .int x3] (w_X_outsideOrMany cI cJ cC a_h a_h_now a_h_kept a_h_letters a_h_numbers a_h_refusals a_h_mind a_h_parts a_h_past a_h_seating a_h_now_kinds a_h_now_sweets a_h_now_settings a_h_now_heaps y_h_isKept y_h_numberCount (r_children z_h_now) (r_strokes z_h_now) (r_gave z_h_now) (r_threw z_h_now)) q (w_X_outsideOrMany cI cJ cC a_h a_h_now a_h_kept a_h_letters a_h_numbers a_h_refusals a_h_mind a_h_parts a_h_past a_h_seating a_h_now_kinds a_h_now_sweets a_h_now_settings a_h_now_heaps y_h_isKept y_h_numberCount (r_children z_h_now) (r_strokes z_h_now) (r_gave z_h_now) (r_threw z_h_now)) := by
  refine xI_of (by decide) (Nat.le_of_ble_eq_true rfl) ?_
  intro p e s m args below meth c A Q hx hb hml hown hT hA hP hD hK hS hE hret ls hl
  have hown : s.vm.findClass R_X = some m.cls := hown
  have hl : lv_has ls 5 [(0, .ref a_h), (1, .int x1), (2, .int x2), (3, .int x3)] := hl
  unfold f_X_outsideOrMany at hf
  refine lv_iload_n hx hb d_X_outsideOrMany_0 rfl (lv_at hl 1 rfl) ?_
  refine lv_iconst (v := 0) hx hb d_X_outsideOrMany_1 (by decide) ?_
  refine lv_iload_n hx hb d_X_outsideOrMany_2 rfl (lv_at hl 2 rfl) ?_
  obtain ⟨q1, hq1, hf⟩ := io_b hf
  refine xcSI (wc := []) (wc' := []) (ws' := (w_X_outsideOrMany cI cJ cC a_h a_h_now a_h_kept a_h_letters a_h_numbers a_h_refusals a_h_mind a_h_parts a_h_past a_h_seating a_h_now_kinds a_h_now_sweets a_h_now_settings a_h_now_heaps y_h_isKept y_h_numberCount (r_children z_h_now) (r_strokes z_h_now) (r_gave z_h_now) (r_threw z_h_now))) (As := [.int x1, .int 0, .int x2]) (rest := []) hx hb hml hown hT (c_X_outside hq1) k_385 k_357 k_1 k_358 hd_X_outside ⟨Nat.le_of_ble_eq_true rfl, Nat.le_of_ble_eq_true rfl⟩ xE0_ok trivial hA hK hP hD hS [] [0, 1] [0, 1] rfl rfl rfl rfl rfl rfl rfl hl.1 rfl (Nat.le_of_ble_eq_true rfl) ⟨Nat.zero_le _, Nat.zero_le _⟩ d_X_outsideOrMany_3 (fun H locs hP hD hS => ?_)
  refine lv_istore (lv' := [(4, .int q1), (0, .ref a_h), (1, .int x1), (2, .int x2), (3, .int x3)]) hx hb d_X_outsideOrMany_6 hl (by decide) rfl (fun ls hl => ?_)
  refine lv_iload hx hb d_X_outsideOrMany_8 (lv_at hl 0 rfl) ?_
  refine lv_if_ne (tgt := 29) hx hb d_X_outsideOrMany_10 (by decide) (fun c2 => ?_) (fun c2 => ?_)
  · have hf := io_f hf c2
    refine lv_iload hx hb d_X_outsideOrMany_29 (lv_at hl 0 rfl) ?_
    have hq := Option.some.inj hf
    subst hq
    exact hret _ _ _ _ _ d_X_outsideOrMany_31 rfl rfl hP hD hS
  · have hf := io_t hf c2
    refine lv_aload_n hx hb d_X_outsideOrMany_13 rfl (lv_at hl 1 rfl) ?_
    refine va_get hx hb hT i_X hown hK hP 0 rfl rfl 0 (Nat.le_of_ble_eq_true rfl) (hT _ k_168) (fun _ h => h) rfl d_X_outsideOrMany_14 ?_
    refine va_get hx hb hT i_Ring hown hK hP 1 rfl rfl 3 (Nat.le_of_ble_eq_true rfl) (hT _ k_48) (fun _ h => h) rfl d_X_outsideOrMany_17 ?_
    refine lv_iload_n hx hb d_X_outsideOrMany_20 rfl (lv_at hl 4 rfl) ?_
    refine lv_icmp_le (tgt := 29) hx hb d_X_outsideOrMany_21 (by decide) (fun c3 => ?_) (fun c3 => ?_)
    · have hf := io_t hf c3
      refine lv_iload hx hb d_X_outsideOrMany_29 (lv_at hl 0 rfl) ?_
      have hq := Option.some.inj hf
      subst hq
      exact hret _ _ _ _ _ d_X_outsideOrMany_31 rfl rfl hP hD hS
    · have hf := io_f hf c3
      refine lv_bipush (v := (-6)) hx hb d_X_outsideOrMany_24 (by decide) ?_
      refine lv_goto (tgt := 31) hx hb d_X_outsideOrMany_26 (by decide) ?_
      have hq := Option.some.inj hf
      subst hq
      exact hret _ _ _ _ _ d_X_outsideOrMany_31 rfl rfl hP hD hS
abbrev w_X_before (cI cJ cC : ClassId) (a_h a_h_now a_h_kept a_h_letters a_h_numbers a_h_refusals a_h_mind a_h_parts a_h_past a_h_seating a_h_now_kinds a_h_now_sweets a_h_now_settings a_h_now_heaps a_h_past_told a_h_past_struck a_h_past_told_kinds a_h_past_told_sweets a_h_past_told_settings a_h_past_told_heaps a_h_past_struck_kinds a_h_past_struck_sweets a_h_past_struck_settings a_h_past_struck_heaps : Nat) (y_h_isKept : Int32) (y_h_numberCount : Int32) (p_h_now_children : Int32) (p_h_now_strokes : Int32) (p_h_now_gave : Int32) (p_h_now_threw : Int32) (p_h_now_kinds : (Nat → Int32)) (p_h_now_sweets : (Nat → Int32)) (p_h_now_settings : (Nat → Int32)) (p_h_refusals : (Nat → Int32)) (p_h_past_told_children : Int32) (p_h_past_told_strokes : Int32) (p_h_past_told_gave : Int32) (p_h_past_told_threw : Int32) (p_h_past_told_kinds : (Nat → Int32)) (p_h_past_told_sweets : (Nat → Int32)) (p_h_past_told_settings : (Nat → Int32)) (p_h_past_told_heaps : (Nat → Int32)) (p_h_past_struck_children : Int32) (p_h_past_struck_strokes : Int32) (p_h_past_struck_gave : Int32) (p_h_past_struck_threw : Int32) (p_h_past_struck_kinds : (Nat → Int32)) (p_h_past_struck_sweets : (Nat → Int32)) (p_h_past_struck_settings : (Nat → Int32)) (p_h_past_struck_heaps : (Nat → Int32)) : va_W := [(a_h, .inr (0, [.ref a_h_now, .ref a_h_kept, .int y_h_isKept, .ref a_h_letters, .ref a_h_numbers, .int y_h_numberCount, .ref a_h_refusals, .ref a_h_mind, .ref a_h_parts, .ref a_h_past, .ref a_h_seating])), (a_h_now, .inr (1, [.ref a_h_now_kinds, .ref a_h_now_sweets, .ref a_h_now_settings, .int p_h_now_children, .int p_h_now_strokes, .int p_h_now_gave, .int p_h_now_threw, .ref a_h_now_heaps])), (a_h_now_kinds, .inl (cI, (8, .inl p_h_now_kinds))), (a_h_now_sweets, .inl (cI, (8, .inl p_h_now_sweets))), (a_h_now_settings, .inl (cI, (3, .inl p_h_now_settings))), (a_h_refusals, .inl (cI, (7, .inl p_h_refusals))), (a_h_past, .inr (5, [.ref a_h_past_told, .ref a_h_past_struck])), (a_h_past_told, .inr (1, [.ref a_h_past_told_kinds, .ref a_h_past_told_sweets, .ref a_h_past_told_settings, .int p_h_past_told_children, .int p_h_past_told_strokes, .int p_h_past_told_gave, .int p_h_past_told_threw, .ref a_h_past_told_heaps])), (a_h_past_told_kinds, .inl (cI, (8, .inl p_h_past_told_kinds))), (a_h_past_told_sweets, .inl (cI, (8, .inl p_h_past_told_sweets))), (a_h_past_told_settings, .inl (cI, (3, .inl p_h_past_told_settings))), (a_h_past_told_heaps, .inl (cI, (8, .inl p_h_past_told_heaps))), (a_h_past_struck, .inr (1, [.ref a_h_past_struck_kinds, .ref a_h_past_struck_sweets, .ref a_h_past_struck_settings, .int p_h_past_struck_children, .int p_h_past_struck_strokes, .int p_h_past_struck_gave, .int p_h_past_struck_threw, .ref a_h_past_struck_heaps])), (a_h_past_struck_kinds, .inl (cI, (8, .inl p_h_past_struck_kinds))), (a_h_past_struck_sweets, .inl (cI, (8, .inl p_h_past_struck_sweets))), (a_h_past_struck_settings, .inl (cI, (3, .inl p_h_past_struck_settings))), (a_h_past_struck_heaps, .inl (cI, (8, .inl p_h_past_struck_heaps)))]
theorem d_X_before_0 : decode b_X_before 0 = .ok (.aload_n 0, 1) := by decide +kernel
theorem d_X_before_1 : decode b_X_before 1 = .ok (.iload_n 1, 1) := by decide +kernel
theorem d_X_before_2 : decode b_X_before 2 = .ok (.bipush 9, 2) := by decide +kernel
theorem d_X_before_4 : decode b_X_before 4 = .ok (.iconst 5, 1) := by decide +kernel
theorem d_X_before_5 : decode b_X_before 5 = .ok (.invokevirtual 188, 3) := by decide +kernel
theorem d_X_before_8 : decode b_X_before 8 = .ok (.istore_n 2, 1) := by decide +kernel
theorem d_X_before_9 : decode b_X_before 9 = .ok (.iload_n 2, 1) := by decide +kernel
theorem d_X_before_10 : decode b_X_before 10 = .ok (.ifCond .ne 16, 3) := by decide +kernel
theorem d_X_before_13 : decode b_X_before 13 = .ok (.aload_n 0, 1) := by decide +kernel
theorem d_X_before_14 : decode b_X_before 14 = .ok (.getfield 10, 3) := by decide +kernel
theorem d_X_before_17 : decode b_X_before 17 = .ok (.getfield 121, 3) := by decide +kernel
theorem d_X_before_20 : decode b_X_before 20 = .ok (.ifCond .ne 6, 3) := by decide +kernel
theorem d_X_before_23 : decode b_X_before 23 = .ok (.bipush (-3), 2) := by decide +kernel
theorem d_X_before_25 : decode b_X_before 25 = .ok (.istore_n 2, 1) := by decide +kernel
theorem d_X_before_26 : decode b_X_before 26 = .ok (.iload_n 2, 1) := by decide +kernel
theorem d_X_before_27 : decode b_X_before 27 = .ok (.ifCond .eq 9, 3) := by decide +kernel
theorem d_X_before_30 : decode b_X_before 30 = .ok (.aload_n 0, 1) := by decide +kernel
theorem d_X_before_31 : decode b_X_before 31 = .ok (.iload_n 2, 1) := by decide +kernel
theorem d_X_before_32 : decode b_X_before 32 = .ok (.invokevirtual 69, 3) := by decide +kernel
theorem d_X_before_35 : decode b_X_before 35 = .ok (.ireturn, 1) := by decide +kernel
theorem d_X_before_36 : decode b_X_before 36 = .ok (.aload_n 0, 1) := by decide +kernel
theorem d_X_before_37 : decode b_X_before 37 = .ok (.getfield 58, 3) := by decide +kernel
theorem d_X_before_40 : decode b_X_before 40 = .ok (.aload_n 0, 1) := by decide +kernel
theorem d_X_before_41 : decode b_X_before 41 = .ok (.getfield 10, 3) := by decide +kernel
theorem d_X_before_44 : decode b_X_before 44 = .ok (.iload_n 1, 1) := by decide +kernel
theorem d_X_before_45 : decode b_X_before 45 = .ok (.ldc 191, 2) := by decide +kernel
theorem d_X_before_47 : decode b_X_before 47 = .ok (.invokevirtual 192, 3) := by decide +kernel
theorem d_X_before_50 : decode b_X_before 50 = .ok (.ireturn, 1) := by decide +kernel
set_option maxHeartbeats 4000000 in
set_option maxRecDepth 100000 in
theorem c_X_before {l : Launch} {D : va_G} {cI cJ cC : ClassId} (a_h a_h_now a_h_kept a_h_letters a_h_numbers a_h_refusals a_h_mind a_h_parts a_h_past a_h_seating a_h_now_kinds a_h_now_sweets a_h_now_settings a_h_now_heaps a_h_past_told a_h_past_struck a_h_past_told_kinds a_h_past_told_sweets a_h_past_told_settings a_h_past_told_heaps a_h_past_struck_kinds a_h_past_struck_sweets a_h_past_struck_settings a_h_past_struck_heaps : Nat) (y_h_isKept : Int32) (y_h_numberCount : Int32) {z_h_now : RS} {z_h_refusals : (Nat → Int32)} {z_h_past_told : RS} {z_h_past_struck : RS} {x1 : Int32} {q : Int32 × (Nat → Int32) × RS × RS} (hf : f_X_before z_h_now z_h_refusals z_h_past_told z_h_past_struck x1 = some q) : xI l y_X_before b_X_before 3 .int 6 137 D (tyK cI cJ cC) xE0 [.ref a_h, .int x1] (w_X_before cI cJ cC a_h a_h_now a_h_kept a_h_letters a_h_numbers a_h_refusals a_h_mind a_h_parts a_h_past a_h_seating a_h_now_kinds a_h_now_sweets a_h_now_settings a_h_now_heaps a_h_past_told a_h_past_struck a_h_past_told_kinds a_h_past_told_sweets a_h_past_told_settings a_h_past_told_heaps a_h_past_struck_kinds a_h_past_struck_sweets a_h_past_struck_settings a_h_past_struck_heaps y_h_isKept y_h_numberCount (r_children z_h_now) (r_strokes z_h_now) (r_gave z_h_now) (r_threw z_h_now) (r_kinds z_h_now) (r_sweets z_h_now) (r_settings z_h_now) z_h_refusals (r_children z_h_past_told) (r_strokes z_h_past_told) (r_gave z_h_past_told) (r_threw z_h_past_told) (r_kinds z_h_past_told) (r_sweets z_h_past_told) (r_settings z_h_past_told) (r_heaps z_h_past_told) (r_children z_h_past_struck) (r_strokes z_h_past_struck) (r_gave z_h_past_struck) (r_threw z_h_past_struck) (r_kinds z_h_past_struck) (r_sweets z_h_past_struck) (r_settings z_h_past_struck) (r_heaps z_h_past_struck)) q.1 (w_X_before cI cJ cC a_h a_h_now a_h_kept a_h_letters a_h_numbers a_h_refusals a_h_mind a_h_parts a_h_past a_h_seating a_h_now_kinds a_h_now_sweets a_h_now_settings a_h_now_heaps a_h_past_told a_h_past_struck a_h_past_told_kinds a_h_past_told_sweets a_h_past_told_settings a_h_past_told_heaps a_h_past_struck_kinds a_h_past_struck_sweets a_h_past_struck_settings a_h_past_struck_heaps y_h_isKept y_h_numberCount (r_children z_h_now) (r_strokes z_h_now) (r_gave z_h_now) (r_threw z_h_now) (r_kinds z_h_now) (r_sweets z_h_now) (r_settings z_h_now) q.2.1 (r_children q.2.2.1) (r_strokes q.2.2.1) (r_gave q.2.2.1) (r_threw q.2.2.1) (r_kinds q.2.2.1) (r_sweets q.2.2.1) (r_settings q.2.2.1) (r_heaps q.2.2.1) (r_children q.2.2.2) (r_strokes q.2.2.2) (r_gave q.2.2.2) (r_threw q.2.2.2) (r_kinds q.2.2.2) (r_sweets q.2.2.2) (r_settings q.2.2.2) (r_heaps q.2.2.2)) := by
  refine xI_of (by decide) (Nat.le_of_ble_eq_true rfl) ?_
  intro p e s m args below meth c A Q hx hb hml hown hT hA hP hD hK hS hE hret ls hl
  have hown : s.vm.findClass R_X = some m.cls := hown
  have hl : lv_has ls 3 [(0, .ref a_h), (1, .int x1)] := hl
  unfold f_X_before at hf
  refine lv_aload_n hx hb d_X_before_0 rfl (lv_at hl 0 rfl) ?_
  refine lv_iload_n hx hb d_X_before_1 rfl (lv_at hl 1 rfl) ?_
  refine lv_bipush (v := 9) hx hb d_X_before_2 (by decide) ?_
  refine lv_iconst (v := 5) hx hb d_X_before_4 (by decide) ?_
  obtain ⟨q1, hq1, hf⟩ := io_b hf
  refine xcVI (wc := (w_X_outsideOrMany cI cJ cC a_h a_h_now a_h_kept a_h_letters a_h_numbers a_h_refusals a_h_mind a_h_parts a_h_past a_h_seating a_h_now_kinds a_h_now_sweets a_h_now_settings a_h_now_heaps y_h_isKept y_h_numberCount (r_children z_h_now) (r_strokes z_h_now) (r_gave z_h_now) (r_threw z_h_now))) (wc' := (w_X_outsideOrMany cI cJ cC a_h a_h_now a_h_kept a_h_letters a_h_numbers a_h_refusals a_h_mind a_h_parts a_h_past a_h_seating a_h_now_kinds a_h_now_sweets a_h_now_settings a_h_now_heaps y_h_isKept y_h_numberCount (r_children z_h_now) (r_strokes z_h_now) (r_gave z_h_now) (r_threw z_h_now))) (ws' := (w_X_before cI cJ cC a_h a_h_now a_h_kept a_h_letters a_h_numbers a_h_refusals a_h_mind a_h_parts a_h_past a_h_seating a_h_now_kinds a_h_now_sweets a_h_now_settings a_h_now_heaps a_h_past_told a_h_past_struck a_h_past_told_kinds a_h_past_told_sweets a_h_past_told_settings a_h_past_told_heaps a_h_past_struck_kinds a_h_past_struck_sweets a_h_past_struck_settings a_h_past_struck_heaps y_h_isKept y_h_numberCount (r_children z_h_now) (r_strokes z_h_now) (r_gave z_h_now) (r_threw z_h_now) (r_kinds z_h_now) (r_sweets z_h_now) (r_settings z_h_now) z_h_refusals (r_children z_h_past_told) (r_strokes z_h_past_told) (r_gave z_h_past_told) (r_threw z_h_past_told) (r_kinds z_h_past_told) (r_sweets z_h_past_told) (r_settings z_h_past_told) (r_heaps z_h_past_told) (r_children z_h_past_struck) (r_strokes z_h_past_struck) (r_gave z_h_past_struck) (r_threw z_h_past_struck) (r_kinds z_h_past_struck) (r_sweets z_h_past_struck) (r_settings z_h_past_struck) (r_heaps z_h_past_struck))) (As := [.int x1, .int 9, .int 5]) (rest := []) hx hb hml hown hT (c_X_outsideOrMany (z_h_now := z_h_now) a_h a_h_now a_h_kept a_h_letters a_h_numbers a_h_refusals a_h_mind a_h_parts a_h_past a_h_seating a_h_now_kinds a_h_now_sweets a_h_now_settings a_h_now_heaps y_h_isKept y_h_numberCount hq1) k_585 k_587 ks_14 k_1 k_588 hd_X_outsideOrMany ⟨Nat.le_of_ble_eq_true rfl, Nat.le_of_ble_eq_true rfl⟩ xE0_ok trivial hA hK hP hD hS [0, 1] [2, 3, 4, 5, 6, 7, 8, 9, 10, 11, 12, 13, 14, 15, 16] [15, 16, 0, 1, 2, 3, 4, 5, 6, 7, 8, 9, 10, 11, 12, 13, 14] rfl rfl rfl rfl rfl rfl rfl rfl rfl rfl hl.1 rfl (Nat.le_of_ble_eq_true rfl) ⟨Nat.zero_le _, Nat.zero_le _⟩ d_X_before_5 (fun H locs hP hD hS => ?_)
  refine lv_istore_n (lv' := [(2, .int q1), (0, .ref a_h), (1, .int x1)]) hx hb d_X_before_8 rfl hl (by decide) rfl (fun ls hl => ?_)
  refine lv_iload_n hx hb d_X_before_9 rfl (lv_at hl 0 rfl) ?_
  refine lv_if_ne (tgt := 26) hx hb d_X_before_10 (by decide) (fun c2 => ?_) (fun c2 => ?_)
  · have hf := io_f hf c2
    refine lv_iload_n hx hb d_X_before_26 rfl (lv_at hl 0 rfl) ?_
    refine lv_if_eq (tgt := 36) hx hb d_X_before_27 (by decide) (fun c => absurd c c2) (fun _ => ?_)
    refine lv_aload_n hx hb d_X_before_30 rfl (lv_at hl 1 rfl) ?_
    refine lv_iload_n hx hb d_X_before_31 rfl (lv_at hl 0 rfl) ?_
    obtain ⟨q3, hq3, hf⟩ := io_b hf
    refine xcVI (wc := (w_X_refuse cI cJ cC a_h a_h_now a_h_kept a_h_letters a_h_numbers a_h_refusals a_h_mind a_h_parts a_h_past a_h_seating y_h_isKept y_h_numberCount z_h_refusals)) (wc' := (w_X_refuse cI cJ cC a_h a_h_now a_h_kept a_h_letters a_h_numbers a_h_refusals a_h_mind a_h_parts a_h_past a_h_seating y_h_isKept y_h_numberCount q3.2)) (ws' := (w_X_before cI cJ cC a_h a_h_now a_h_kept a_h_letters a_h_numbers a_h_refusals a_h_mind a_h_parts a_h_past a_h_seating a_h_now_kinds a_h_now_sweets a_h_now_settings a_h_now_heaps a_h_past_told a_h_past_struck a_h_past_told_kinds a_h_past_told_sweets a_h_past_told_settings a_h_past_told_heaps a_h_past_struck_kinds a_h_past_struck_sweets a_h_past_struck_settings a_h_past_struck_heaps y_h_isKept y_h_numberCount (r_children z_h_now) (r_strokes z_h_now) (r_gave z_h_now) (r_threw z_h_now) (r_kinds z_h_now) (r_sweets z_h_now) (r_settings z_h_now) q3.2 (r_children z_h_past_told) (r_strokes z_h_past_told) (r_gave z_h_past_told) (r_threw z_h_past_told) (r_kinds z_h_past_told) (r_sweets z_h_past_told) (r_settings z_h_past_told) (r_heaps z_h_past_told) (r_children z_h_past_struck) (r_strokes z_h_past_struck) (r_gave z_h_past_struck) (r_threw z_h_past_struck) (r_kinds z_h_past_struck) (r_sweets z_h_past_struck) (r_settings z_h_past_struck) (r_heaps z_h_past_struck))) (As := [.int q1]) (rest := []) hx hb hml hown hT (c_X_refuse (z_h_refusals := z_h_refusals) a_h a_h_now a_h_kept a_h_letters a_h_numbers a_h_refusals a_h_mind a_h_parts a_h_past a_h_seating y_h_isKept y_h_numberCount hq3) k_206 k_208 ks_0 k_1 k_209 hd_X_refuse ⟨Nat.le_of_ble_eq_true rfl, Nat.le_of_ble_eq_true rfl⟩ xE0_ok trivial hA hK hP hD hS [0, 5] [1, 2, 3, 4, 6, 7, 8, 9, 10, 11, 12, 13, 14, 15, 16] [15, 0, 1, 2, 3, 16, 4, 5, 6, 7, 8, 9, 10, 11, 12, 13, 14] rfl rfl rfl rfl rfl rfl rfl rfl rfl rfl hl.1 rfl (Nat.le_of_ble_eq_true rfl) ⟨Nat.zero_le _, Nat.zero_le _⟩ d_X_before_32 (fun H locs hP hD hS => ?_)
    have hq := Option.some.inj hf
    subst hq
    exact hret _ _ _ _ _ d_X_before_35 rfl rfl hP hD hS
  · have hf := io_t hf c2
    refine lv_aload_n hx hb d_X_before_13 rfl (lv_at hl 1 rfl) ?_
    refine va_get hx hb hT i_X hown hK hP 0 rfl rfl 0 (Nat.le_of_ble_eq_true rfl) (hT _ k_168) (fun _ h => h) rfl d_X_before_14 ?_
    refine va_get hx hb hT i_Ring hown hK hP 1 rfl rfl 3 (Nat.le_of_ble_eq_true rfl) (hT _ k_48) (fun _ h => h) rfl d_X_before_17 ?_
    refine lv_if_ne (tgt := 26) hx hb d_X_before_20 (by decide) (fun c4 => ?_) (fun c4 => ?_)
    · have hf := io_f hf c4
      refine lv_iload_n hx hb d_X_before_26 rfl (lv_at hl 0 rfl) ?_
      refine lv_if_eq (tgt := 36) hx hb d_X_before_27 (by decide) (fun _ => ?_) (fun c => absurd c2 c)
      refine lv_aload_n hx hb d_X_before_36 rfl (lv_at hl 1 rfl) ?_
      refine va_get hx hb hT i_X hown hK hP 0 rfl rfl 9 (Nat.le_of_ble_eq_true rfl) (hT _ k_177) (fun _ h => h) rfl d_X_before_37 ?_
      refine lv_aload_n hx hb d_X_before_40 rfl (lv_at hl 1 rfl) ?_
      refine va_get hx hb hT i_X hown hK hP 0 rfl rfl 0 (Nat.le_of_ble_eq_true rfl) (hT _ k_168) (fun _ h => h) rfl d_X_before_41 ?_
      refine lv_iload_n hx hb d_X_before_44 rfl (lv_at hl 2 rfl) ?_
      refine lv_ldc (v := 2147483647) hx hb hown (hT _ k_589) d_X_before_45 ?_
      obtain ⟨q5, hq5, hf⟩ := io_b hf
      refine xcVI (wc := (w_Past_find cI cJ cC a_h_past a_h_past_told a_h_past_struck a_h_past_told_kinds a_h_past_told_sweets a_h_past_told_settings a_h_past_told_heaps a_h_past_struck_kinds a_h_past_struck_sweets a_h_past_struck_settings a_h_past_struck_heaps a_h_now a_h_now_kinds a_h_now_sweets a_h_now_settings a_h_now_heaps (r_children z_h_past_told) (r_strokes z_h_past_told) (r_gave z_h_past_told) (r_threw z_h_past_told) (r_kinds z_h_past_told) (r_sweets z_h_past_told) (r_settings z_h_past_told) (r_heaps z_h_past_told) (r_children z_h_past_struck) (r_strokes z_h_past_struck) (r_gave z_h_past_struck) (r_threw z_h_past_struck) (r_kinds z_h_past_struck) (r_sweets z_h_past_struck) (r_settings z_h_past_struck) (r_heaps z_h_past_struck) (r_children z_h_now) (r_strokes z_h_now) (r_gave z_h_now) (r_threw z_h_now) (r_kinds z_h_now) (r_sweets z_h_now) (r_settings z_h_now))) (wc' := (w_Past_find cI cJ cC a_h_past a_h_past_told a_h_past_struck a_h_past_told_kinds a_h_past_told_sweets a_h_past_told_settings a_h_past_told_heaps a_h_past_struck_kinds a_h_past_struck_sweets a_h_past_struck_settings a_h_past_struck_heaps a_h_now a_h_now_kinds a_h_now_sweets a_h_now_settings a_h_now_heaps (r_children q5.2.1) (r_strokes q5.2.1) (r_gave q5.2.1) (r_threw q5.2.1) (r_kinds q5.2.1) (r_sweets q5.2.1) (r_settings q5.2.1) (r_heaps q5.2.1) (r_children q5.2.2) (r_strokes q5.2.2) (r_gave q5.2.2) (r_threw q5.2.2) (r_kinds q5.2.2) (r_sweets q5.2.2) (r_settings q5.2.2) (r_heaps q5.2.2) (r_children z_h_now) (r_strokes z_h_now) (r_gave z_h_now) (r_threw z_h_now) (r_kinds z_h_now) (r_sweets z_h_now) (r_settings z_h_now))) (ws' := (w_X_before cI cJ cC a_h a_h_now a_h_kept a_h_letters a_h_numbers a_h_refusals a_h_mind a_h_parts a_h_past a_h_seating a_h_now_kinds a_h_now_sweets a_h_now_settings a_h_now_heaps a_h_past_told a_h_past_struck a_h_past_told_kinds a_h_past_told_sweets a_h_past_told_settings a_h_past_told_heaps a_h_past_struck_kinds a_h_past_struck_sweets a_h_past_struck_settings a_h_past_struck_heaps y_h_isKept y_h_numberCount (r_children z_h_now) (r_strokes z_h_now) (r_gave z_h_now) (r_threw z_h_now) (r_kinds z_h_now) (r_sweets z_h_now) (r_settings z_h_now) z_h_refusals (r_children q5.2.1) (r_strokes q5.2.1) (r_gave q5.2.1) (r_threw q5.2.1) (r_kinds q5.2.1) (r_sweets q5.2.1) (r_settings q5.2.1) (r_heaps q5.2.1) (r_children q5.2.2) (r_strokes q5.2.2) (r_gave q5.2.2) (r_threw q5.2.2) (r_kinds q5.2.2) (r_sweets q5.2.2) (r_settings q5.2.2) (r_heaps q5.2.2))) (As := [.ref a_h_now, .int x1, .int 2147483647]) (rest := []) hx hb hml hown hT (c_Past_find (z_h_told := z_h_past_told) (z_h_struck := z_h_past_struck) (z_g1 := z_h_now) a_h_past a_h_past_told a_h_past_struck a_h_past_told_kinds a_h_past_told_sweets a_h_past_told_settings a_h_past_told_heaps a_h_past_struck_kinds a_h_past_struck_sweets a_h_past_struck_settings a_h_past_struck_heaps a_h_now a_h_now_kinds a_h_now_sweets a_h_now_settings a_h_now_heaps hq5) k_590 k_591 k_592 k_6 k_593 hd_Past_find ⟨Nat.le_of_ble_eq_true rfl, Nat.le_of_ble_eq_true rfl⟩ xE0_ok trivial hA hK hP hD hS [6, 7, 8, 9, 10, 11, 12, 13, 14, 15, 16, 1, 2, 3, 4] [0, 5] [0, 13, 14, 15, 16, 1, 2, 3, 4, 5, 6, 7, 8, 9, 10, 11, 12] rfl rfl rfl rfl rfl rfl rfl rfl rfl rfl hl.1 rfl (Nat.le_of_ble_eq_true rfl) ⟨Nat.zero_le _, Nat.zero_le _⟩ d_X_before_47 (fun H locs hP hD hS => ?_)
      have hq := Option.some.inj hf
      subst hq
      exact hret _ _ _ _ _ d_X_before_50 rfl rfl hP hD hS
    · have hf := io_t hf c4
      refine lv_bipush (v := (-3)) hx hb d_X_before_23 (by decide) ?_
      refine lv_istore_n (lv' := [(2, .int (-3)), (0, .ref a_h), (1, .int x1)]) hx hb d_X_before_25 rfl hl (by decide) rfl (fun ls hl => ?_)
      refine lv_iload_n hx hb d_X_before_26 rfl (lv_at hl 0 rfl) ?_
      refine lv_if_eq (tgt := 36) hx hb d_X_before_27 (by decide) (fun c => absurd c (show ¬ ((-3) : Int32) = 0 from by decide +kernel)) (fun _ => ?_)
      refine lv_aload_n hx hb d_X_before_30 rfl (lv_at hl 1 rfl) ?_
      refine lv_iload_n hx hb d_X_before_31 rfl (lv_at hl 0 rfl) ?_
      obtain ⟨q6, hq6, hf⟩ := io_b hf
      refine xcVI (wc := (w_X_refuse cI cJ cC a_h a_h_now a_h_kept a_h_letters a_h_numbers a_h_refusals a_h_mind a_h_parts a_h_past a_h_seating y_h_isKept y_h_numberCount z_h_refusals)) (wc' := (w_X_refuse cI cJ cC a_h a_h_now a_h_kept a_h_letters a_h_numbers a_h_refusals a_h_mind a_h_parts a_h_past a_h_seating y_h_isKept y_h_numberCount q6.2)) (ws' := (w_X_before cI cJ cC a_h a_h_now a_h_kept a_h_letters a_h_numbers a_h_refusals a_h_mind a_h_parts a_h_past a_h_seating a_h_now_kinds a_h_now_sweets a_h_now_settings a_h_now_heaps a_h_past_told a_h_past_struck a_h_past_told_kinds a_h_past_told_sweets a_h_past_told_settings a_h_past_told_heaps a_h_past_struck_kinds a_h_past_struck_sweets a_h_past_struck_settings a_h_past_struck_heaps y_h_isKept y_h_numberCount (r_children z_h_now) (r_strokes z_h_now) (r_gave z_h_now) (r_threw z_h_now) (r_kinds z_h_now) (r_sweets z_h_now) (r_settings z_h_now) q6.2 (r_children z_h_past_told) (r_strokes z_h_past_told) (r_gave z_h_past_told) (r_threw z_h_past_told) (r_kinds z_h_past_told) (r_sweets z_h_past_told) (r_settings z_h_past_told) (r_heaps z_h_past_told) (r_children z_h_past_struck) (r_strokes z_h_past_struck) (r_gave z_h_past_struck) (r_threw z_h_past_struck) (r_kinds z_h_past_struck) (r_sweets z_h_past_struck) (r_settings z_h_past_struck) (r_heaps z_h_past_struck))) (As := [.int (-3)]) (rest := []) hx hb hml hown hT (c_X_refuse (z_h_refusals := z_h_refusals) a_h a_h_now a_h_kept a_h_letters a_h_numbers a_h_refusals a_h_mind a_h_parts a_h_past a_h_seating y_h_isKept y_h_numberCount hq6) k_206 k_208 ks_0 k_1 k_209 hd_X_refuse ⟨Nat.le_of_ble_eq_true rfl, Nat.le_of_ble_eq_true rfl⟩ xE0_ok trivial hA hK hP hD hS [0, 5] [1, 2, 3, 4, 6, 7, 8, 9, 10, 11, 12, 13, 14, 15, 16] [15, 0, 1, 2, 3, 16, 4, 5, 6, 7, 8, 9, 10, 11, 12, 13, 14] rfl rfl rfl rfl rfl rfl rfl rfl rfl rfl hl.1 rfl (Nat.le_of_ble_eq_true rfl) ⟨Nat.zero_le _, Nat.zero_le _⟩ d_X_before_32 (fun H locs hP hD hS => ?_)
      have hq := Option.some.inj hf
      subst hq
      exact hret _ _ _ _ _ d_X_before_35 rfl rfl hP hD hS
abbrev w_X_beforeOf (cI cJ cC : ClassId) (a_h a_h_now a_h_kept a_h_letters a_h_numbers a_h_refusals a_h_mind a_h_parts a_h_past a_h_seating a_h_now_kinds a_h_now_sweets a_h_now_settings a_h_now_heaps a_h_past_told a_h_past_struck a_h_past_told_kinds a_h_past_told_sweets a_h_past_told_settings a_h_past_told_heaps a_h_past_struck_kinds a_h_past_struck_sweets a_h_past_struck_settings a_h_past_struck_heaps : Nat) (y_h_isKept : Int32) (y_h_numberCount : Int32) (p_h_now_children : Int32) (p_h_now_strokes : Int32) (p_h_now_gave : Int32) (p_h_now_threw : Int32) (p_h_now_kinds : (Nat → Int32)) (p_h_now_sweets : (Nat → Int32)) (p_h_now_settings : (Nat → Int32)) (p_h_refusals : (Nat → Int32)) (p_h_past_told_children : Int32) (p_h_past_told_strokes : Int32) (p_h_past_told_gave : Int32) (p_h_past_told_threw : Int32) (p_h_past_told_kinds : (Nat → Int32)) (p_h_past_told_sweets : (Nat → Int32)) (p_h_past_told_settings : (Nat → Int32)) (p_h_past_told_heaps : (Nat → Int32)) (p_h_past_struck_children : Int32) (p_h_past_struck_strokes : Int32) (p_h_past_struck_gave : Int32) (p_h_past_struck_threw : Int32) (p_h_past_struck_kinds : (Nat → Int32)) (p_h_past_struck_sweets : (Nat → Int32)) (p_h_past_struck_settings : (Nat → Int32)) (p_h_past_struck_heaps : (Nat → Int32)) : va_W := [(a_h, .inr (0, [.ref a_h_now, .ref a_h_kept, .int y_h_isKept, .ref a_h_letters, .ref a_h_numbers, .int y_h_numberCount, .ref a_h_refusals, .ref a_h_mind, .ref a_h_parts, .ref a_h_past, .ref a_h_seating])), (a_h_now, .inr (1, [.ref a_h_now_kinds, .ref a_h_now_sweets, .ref a_h_now_settings, .int p_h_now_children, .int p_h_now_strokes, .int p_h_now_gave, .int p_h_now_threw, .ref a_h_now_heaps])), (a_h_now_kinds, .inl (cI, (8, .inl p_h_now_kinds))), (a_h_now_sweets, .inl (cI, (8, .inl p_h_now_sweets))), (a_h_now_settings, .inl (cI, (3, .inl p_h_now_settings))), (a_h_refusals, .inl (cI, (7, .inl p_h_refusals))), (a_h_past, .inr (5, [.ref a_h_past_told, .ref a_h_past_struck])), (a_h_past_told, .inr (1, [.ref a_h_past_told_kinds, .ref a_h_past_told_sweets, .ref a_h_past_told_settings, .int p_h_past_told_children, .int p_h_past_told_strokes, .int p_h_past_told_gave, .int p_h_past_told_threw, .ref a_h_past_told_heaps])), (a_h_past_told_kinds, .inl (cI, (8, .inl p_h_past_told_kinds))), (a_h_past_told_sweets, .inl (cI, (8, .inl p_h_past_told_sweets))), (a_h_past_told_settings, .inl (cI, (3, .inl p_h_past_told_settings))), (a_h_past_told_heaps, .inl (cI, (8, .inl p_h_past_told_heaps))), (a_h_past_struck, .inr (1, [.ref a_h_past_struck_kinds, .ref a_h_past_struck_sweets, .ref a_h_past_struck_settings, .int p_h_past_struck_children, .int p_h_past_struck_strokes, .int p_h_past_struck_gave, .int p_h_past_struck_threw, .ref a_h_past_struck_heaps])), (a_h_past_struck_kinds, .inl (cI, (8, .inl p_h_past_struck_kinds))), (a_h_past_struck_sweets, .inl (cI, (8, .inl p_h_past_struck_sweets))), (a_h_past_struck_settings, .inl (cI, (3, .inl p_h_past_struck_settings))), (a_h_past_struck_heaps, .inl (cI, (8, .inl p_h_past_struck_heaps)))]
theorem d_X_beforeOf_0 : decode b_X_beforeOf 0 = .ok (.aload_n 0, 1) := by decide +kernel
theorem d_X_beforeOf_1 : decode b_X_beforeOf 1 = .ok (.iload_n 2, 1) := by decide +kernel
theorem d_X_beforeOf_2 : decode b_X_beforeOf 2 = .ok (.bipush 9, 2) := by decide +kernel
theorem d_X_beforeOf_4 : decode b_X_beforeOf 4 = .ok (.iconst 5, 1) := by decide +kernel
theorem d_X_beforeOf_5 : decode b_X_beforeOf 5 = .ok (.invokevirtual 188, 3) := by decide +kernel
theorem d_X_beforeOf_8 : decode b_X_beforeOf 8 = .ok (.istore 4, 2) := by decide +kernel
theorem d_X_beforeOf_10 : decode b_X_beforeOf 10 = .ok (.aload_n 0, 1) := by decide +kernel
theorem d_X_beforeOf_11 : decode b_X_beforeOf 11 = .ok (.getfield 10, 3) := by decide +kernel
theorem d_X_beforeOf_14 : decode b_X_beforeOf 14 = .ok (.iload_n 1, 1) := by decide +kernel
theorem d_X_beforeOf_15 : decode b_X_beforeOf 15 = .ok (.invokevirtual 84, 3) := by decide +kernel
theorem d_X_beforeOf_18 : decode b_X_beforeOf 18 = .ok (.ifCond .ne 9, 3) := by decide +kernel
theorem d_X_beforeOf_21 : decode b_X_beforeOf 21 = .ok (.iconst (-1), 1) := by decide +kernel
theorem d_X_beforeOf_22 : decode b_X_beforeOf 22 = .ok (.istore 4, 2) := by decide +kernel
theorem d_X_beforeOf_24 : decode b_X_beforeOf 24 = .ok (.goto 11, 3) := by decide +kernel
theorem d_X_beforeOf_27 : decode b_X_beforeOf 27 = .ok (.iload_n 3, 1) := by decide +kernel
theorem d_X_beforeOf_28 : decode b_X_beforeOf 28 = .ok (.ifCond .ge 7, 3) := by decide +kernel
theorem d_X_beforeOf_31 : decode b_X_beforeOf 31 = .ok (.bipush (-4), 2) := by decide +kernel
theorem d_X_beforeOf_33 : decode b_X_beforeOf 33 = .ok (.istore 4, 2) := by decide +kernel
theorem d_X_beforeOf_35 : decode b_X_beforeOf 35 = .ok (.iload 4, 2) := by decide +kernel
theorem d_X_beforeOf_37 : decode b_X_beforeOf 37 = .ok (.ifCond .eq 10, 3) := by decide +kernel
theorem d_X_beforeOf_40 : decode b_X_beforeOf 40 = .ok (.aload_n 0, 1) := by decide +kernel
theorem d_X_beforeOf_41 : decode b_X_beforeOf 41 = .ok (.iload 4, 2) := by decide +kernel
theorem d_X_beforeOf_43 : decode b_X_beforeOf 43 = .ok (.invokevirtual 69, 3) := by decide +kernel
theorem d_X_beforeOf_46 : decode b_X_beforeOf 46 = .ok (.ireturn, 1) := by decide +kernel
theorem d_X_beforeOf_47 : decode b_X_beforeOf 47 = .ok (.aload_n 0, 1) := by decide +kernel
theorem d_X_beforeOf_48 : decode b_X_beforeOf 48 = .ok (.getfield 58, 3) := by decide +kernel
theorem d_X_beforeOf_51 : decode b_X_beforeOf 51 = .ok (.aload_n 0, 1) := by decide +kernel
theorem d_X_beforeOf_52 : decode b_X_beforeOf 52 = .ok (.getfield 10, 3) := by decide +kernel
theorem d_X_beforeOf_55 : decode b_X_beforeOf 55 = .ok (.iload_n 2, 1) := by decide +kernel
theorem d_X_beforeOf_56 : decode b_X_beforeOf 56 = .ok (.iload_n 3, 1) := by decide +kernel
theorem d_X_beforeOf_57 : decode b_X_beforeOf 57 = .ok (.invokevirtual 192, 3) := by decide +kernel
theorem d_X_beforeOf_60 : decode b_X_beforeOf 60 = .ok (.iload_n 3, 1) := by decide +kernel
theorem d_X_beforeOf_61 : decode b_X_beforeOf 61 = .ok (.if_icmp .le 18, 3) := by decide +kernel
theorem d_X_beforeOf_64 : decode b_X_beforeOf 64 = .ok (.aload_n 0, 1) := by decide +kernel
theorem d_X_beforeOf_65 : decode b_X_beforeOf 65 = .ok (.getfield 58, 3) := by decide +kernel
theorem d_X_beforeOf_68 : decode b_X_beforeOf 68 = .ok (.getfield 195, 3) := by decide +kernel
theorem d_X_beforeOf_71 : decode b_X_beforeOf 71 = .ok (.getfield 91, 3) := by decide +kernel
theorem d_X_beforeOf_74 : decode b_X_beforeOf 74 = .ok (.iload_n 1, 1) := by decide +kernel
theorem d_X_beforeOf_75 : decode b_X_beforeOf 75 = .ok (.iaload, 1) := by decide +kernel
theorem d_X_beforeOf_76 : decode b_X_beforeOf 76 = .ok (.goto 5, 3) := by decide +kernel
theorem d_X_beforeOf_79 : decode b_X_beforeOf 79 = .ok (.bipush (-9), 2) := by decide +kernel
theorem d_X_beforeOf_81 : decode b_X_beforeOf 81 = .ok (.ireturn, 1) := by decide +kernel
set_option maxHeartbeats 4000000 in
set_option maxRecDepth 100000 in
theorem c_X_beforeOf {l : Launch} {D : va_G} {cI cJ cC : ClassId} (a_h a_h_now a_h_kept a_h_letters a_h_numbers a_h_refusals a_h_mind a_h_parts a_h_past a_h_seating a_h_now_kinds a_h_now_sweets a_h_now_settings a_h_now_heaps a_h_past_told a_h_past_struck a_h_past_told_kinds a_h_past_told_sweets a_h_past_told_settings a_h_past_told_heaps a_h_past_struck_kinds a_h_past_struck_sweets a_h_past_struck_settings a_h_past_struck_heaps : Nat) (y_h_isKept : Int32) (y_h_numberCount : Int32) {z_h_now : RS} {z_h_refusals : (Nat → Int32)} {z_h_past_told : RS} {z_h_past_struck : RS} {x1 : Int32} {x2 : Int32} {x3 : Int32} {q : Int32 × (Nat → Int32) × RS × RS} (hf : f_X_beforeOf z_h_now z_h_refusals z_h_past_told z_h_past_struck x1 x2 x3 = some q) : xI l y_X_beforeOf b_X_beforeOf 5 .int 6 137 D (tyK cI cJ cC) xE0 [.ref a_h, .int x1, .int x2, .int x3] (w_X_beforeOf cI cJ cC a_h a_h_now a_h_kept a_h_letters a_h_numbers a_h_refusals a_h_mind a_h_parts a_h_past a_h_seating a_h_now_kinds a_h_now_sweets a_h_now_settings a_h_now_heaps a_h_past_told a_h_past_struck a_h_past_told_kinds a_h_past_told_sweets a_h_past_told_settings a_h_past_told_heaps a_h_past_struck_kinds a_h_past_struck_sweets a_h_past_struck_settings a_h_past_struck_heaps y_h_isKept y_h_numberCount (r_children z_h_now) (r_strokes z_h_now) (r_gave z_h_now) (r_threw z_h_now) (r_kinds z_h_now) (r_sweets z_h_now) (r_settings z_h_now) z_h_refusals (r_children z_h_past_told) (r_strokes z_h_past_told) (r_gave z_h_past_told) (r_threw z_h_past_told) (r_kinds z_h_past_told) (r_sweets z_h_past_told) (r_settings z_h_past_told) (r_heaps z_h_past_told) (r_children z_h_past_struck) (r_strokes z_h_past_struck) (r_gave z_h_past_struck) (r_threw z_h_past_struck) (r_kinds z_h_past_struck) (r_sweets z_h_past_struck) (r_settings z_h_past_struck) (r_heaps z_h_past_struck)) q.1 (w_X_beforeOf cI cJ cC a_h a_h_now a_h_kept a_h_letters a_h_numbers a_h_refusals a_h_mind a_h_parts a_h_past a_h_seating a_h_now_kinds a_h_now_sweets a_h_now_settings a_h_now_heaps a_h_past_told a_h_past_struck a_h_past_told_kinds a_h_past_told_sweets a_h_past_told_settings a_h_past_told_heaps a_h_past_struck_kinds a_h_past_struck_sweets a_h_past_struck_settings a_h_past_struck_heaps y_h_isKept y_h_numberCount (r_children z_h_now) (r_strokes z_h_now) (r_gave z_h_now) (r_threw z_h_now) (r_kinds z_h_now) (r_sweets z_h_now) (r_settings z_h_now) q.2.1 (r_children q.2.2.1) (r_strokes q.2.2.1) (r_gave q.2.2.1) (r_threw q.2.2.1) (r_kinds q.2.2.1) (r_sweets q.2.2.1) (r_settings q.2.2.1) (r_heaps q.2.2.1) (r_children q.2.2.2) (r_strokes q.2.2.2) (r_gave q.2.2.2) (r_threw q.2.2.2) (r_kinds q.2.2.2) (r_sweets q.2.2.2) (r_settings q.2.2.2) (r_heaps q.2.2.2)) := by
  refine xI_of (by decide) (Nat.le_of_ble_eq_true rfl) ?_
  intro p e s m args below meth c A Q hx hb hml hown hT hA hP hD hK hS hE hret ls hl
  have hown : s.vm.findClass R_X = some m.cls := hown
  have hl : lv_has ls 5 [(0, .ref a_h), (1, .int x1), (2, .int x2), (3, .int x3)] := hl
  unfold f_X_beforeOf at hf
  refine lv_aload_n hx hb d_X_beforeOf_0 rfl (lv_at hl 0 rfl) ?_
  refine lv_iload_n hx hb d_X_beforeOf_1 rfl (lv_at hl 2 rfl) ?_
  refine lv_bipush (v := 9) hx hb d_X_beforeOf_2 (by decide) ?_
  refine lv_iconst (v := 5) hx hb d_X_beforeOf_4 (by decide) ?_
  obtain ⟨q1, hq1, hf⟩ := io_b hf
  refine xcVI (wc := (w_X_outsideOrMany cI cJ cC a_h a_h_now a_h_kept a_h_letters a_h_numbers a_h_refusals a_h_mind a_h_parts a_h_past a_h_seating a_h_now_kinds a_h_now_sweets a_h_now_settings a_h_now_heaps y_h_isKept y_h_numberCount (r_children z_h_now) (r_strokes z_h_now) (r_gave z_h_now) (r_threw z_h_now))) (wc' := (w_X_outsideOrMany cI cJ cC a_h a_h_now a_h_kept a_h_letters a_h_numbers a_h_refusals a_h_mind a_h_parts a_h_past a_h_seating a_h_now_kinds a_h_now_sweets a_h_now_settings a_h_now_heaps y_h_isKept y_h_numberCount (r_children z_h_now) (r_strokes z_h_now) (r_gave z_h_now) (r_threw z_h_now))) (ws' := (w_X_beforeOf cI cJ cC a_h a_h_now a_h_kept a_h_letters a_h_numbers a_h_refusals a_h_mind a_h_parts a_h_past a_h_seating a_h_now_kinds a_h_now_sweets a_h_now_settings a_h_now_heaps a_h_past_told a_h_past_struck a_h_past_told_kinds a_h_past_told_sweets a_h_past_told_settings a_h_past_told_heaps a_h_past_struck_kinds a_h_past_struck_sweets a_h_past_struck_settings a_h_past_struck_heaps y_h_isKept y_h_numberCount (r_children z_h_now) (r_strokes z_h_now) (r_gave z_h_now) (r_threw z_h_now) (r_kinds z_h_now) (r_sweets z_h_now) (r_settings z_h_now) z_h_refusals (r_children z_h_past_told) (r_strokes z_h_past_told) (r_gave z_h_past_told) (r_threw z_h_past_told) (r_kinds z_h_past_told) (r_sweets z_h_past_told) (r_settings z_h_past_told) (r_heaps z_h_past_told) (r_children z_h_past_struck) (r_strokes z_h_past_struck) (r_gave z_h_past_struck) (r_threw z_h_past_struck) (r_kinds z_h_past_struck) (r_sweets z_h_past_struck) (r_settings z_h_past_struck) (r_heaps z_h_past_struck))) (As := [.int x2, .int 9, .int 5]) (rest := []) hx hb hml hown hT (c_X_outsideOrMany (z_h_now := z_h_now) a_h a_h_now a_h_kept a_h_letters a_h_numbers a_h_refusals a_h_mind a_h_parts a_h_past a_h_seating a_h_now_kinds a_h_now_sweets a_h_now_settings a_h_now_heaps y_h_isKept y_h_numberCount hq1) k_585 k_587 ks_14 k_1 k_588 hd_X_outsideOrMany ⟨Nat.le_of_ble_eq_true rfl, Nat.le_of_ble_eq_true rfl⟩ xE0_ok trivial hA hK hP hD hS [0, 1] [2, 3, 4, 5, 6, 7, 8, 9, 10, 11, 12, 13, 14, 15, 16] [15, 16, 0, 1, 2, 3, 4, 5, 6, 7, 8, 9, 10, 11, 12, 13, 14] rfl rfl rfl rfl rfl rfl rfl rfl rfl rfl hl.1 rfl (Nat.le_of_ble_eq_true rfl) ⟨Nat.zero_le _, Nat.zero_le _⟩ d_X_beforeOf_5 (fun H locs hP hD hS => ?_)
  refine lv_istore (lv' := [(4, .int q1), (0, .ref a_h), (1, .int x1), (2, .int x2), (3, .int x3)]) hx hb d_X_beforeOf_8 hl (by decide) rfl (fun ls hl => ?_)
  refine lv_aload_n hx hb d_X_beforeOf_10 rfl (lv_at hl 1 rfl) ?_
  refine va_get hx hb hT i_X hown hK hP 0 rfl rfl 0 (Nat.le_of_ble_eq_true rfl) (hT _ k_168) (fun _ h => h) rfl d_X_beforeOf_11 ?_
  refine lv_iload_n hx hb d_X_beforeOf_14 rfl (lv_at hl 2 rfl) ?_
  obtain ⟨q2, hq2, hf⟩ := io_b hf
  refine xcVI (wc := (w_Ring_has cI cJ cC a_h_now a_h_now_kinds a_h_now_sweets a_h_now_settings a_h_now_heaps (r_children z_h_now) (r_strokes z_h_now) (r_gave z_h_now) (r_threw z_h_now))) (wc' := (w_Ring_has cI cJ cC a_h_now a_h_now_kinds a_h_now_sweets a_h_now_settings a_h_now_heaps (r_children z_h_now) (r_strokes z_h_now) (r_gave z_h_now) (r_threw z_h_now))) (ws' := (w_X_beforeOf cI cJ cC a_h a_h_now a_h_kept a_h_letters a_h_numbers a_h_refusals a_h_mind a_h_parts a_h_past a_h_seating a_h_now_kinds a_h_now_sweets a_h_now_settings a_h_now_heaps a_h_past_told a_h_past_struck a_h_past_told_kinds a_h_past_told_sweets a_h_past_told_settings a_h_past_told_heaps a_h_past_struck_kinds a_h_past_struck_sweets a_h_past_struck_settings a_h_past_struck_heaps y_h_isKept y_h_numberCount (r_children z_h_now) (r_strokes z_h_now) (r_gave z_h_now) (r_threw z_h_now) (r_kinds z_h_now) (r_sweets z_h_now) (r_settings z_h_now) z_h_refusals (r_children z_h_past_told) (r_strokes z_h_past_told) (r_gave z_h_past_told) (r_threw z_h_past_told) (r_kinds z_h_past_told) (r_sweets z_h_past_told) (r_settings z_h_past_told) (r_heaps z_h_past_told) (r_children z_h_past_struck) (r_strokes z_h_past_struck) (r_gave z_h_past_struck) (r_threw z_h_past_struck) (r_kinds z_h_past_struck) (r_sweets z_h_past_struck) (r_settings z_h_past_struck) (r_heaps z_h_past_struck))) (As := [.int x1]) (rest := []) hx hb hml hown hT (c_Ring_has (z_h := z_h_now) a_h_now a_h_now_kinds a_h_now_sweets a_h_now_settings a_h_now_heaps hq2) k_364 k_365 k_366 k_2 k_367 hd_Ring_has ⟨Nat.le_of_ble_eq_true rfl, Nat.le_of_ble_eq_true rfl⟩ xE0_ok trivial hA hK hP hD hS [1] [0, 2, 3, 4, 5, 6, 7, 8, 9, 10, 11, 12, 13, 14, 15, 16] [0, 16, 1, 2, 3, 4, 5, 6, 7, 8, 9, 10, 11, 12, 13, 14, 15] rfl rfl rfl rfl rfl rfl rfl rfl rfl rfl hl.1 rfl (Nat.le_of_ble_eq_true rfl) ⟨Nat.zero_le _, Nat.zero_le _⟩ d_X_beforeOf_15 (fun H locs hP hD hS => ?_)
  refine lv_if_ne (tgt := 27) hx hb d_X_beforeOf_18 (by decide) (fun c3 => ?_) (fun c3 => ?_)
  · have hf := io_f hf c3
    refine lv_iload_n hx hb d_X_beforeOf_27 rfl (lv_at hl 4 rfl) ?_
    refine lv_if_ge (tgt := 35) hx hb d_X_beforeOf_28 (by decide) (fun c4 => ?_) (fun c4 => ?_)
    · have hf := io_t hf c4
      refine lv_iload hx hb d_X_beforeOf_35 (lv_at hl 0 rfl) ?_
      refine lv_if_eq (tgt := 47) hx hb d_X_beforeOf_37 (by decide) (fun c5 => ?_) (fun c5 => ?_)
      · have hf := io_t hf c5
        refine lv_aload_n hx hb d_X_beforeOf_47 rfl (lv_at hl 1 rfl) ?_
        refine va_get hx hb hT i_X hown hK hP 0 rfl rfl 9 (Nat.le_of_ble_eq_true rfl) (hT _ k_177) (fun _ h => h) rfl d_X_beforeOf_48 ?_
        refine lv_aload_n hx hb d_X_beforeOf_51 rfl (lv_at hl 1 rfl) ?_
        refine va_get hx hb hT i_X hown hK hP 0 rfl rfl 0 (Nat.le_of_ble_eq_true rfl) (hT _ k_168) (fun _ h => h) rfl d_X_beforeOf_52 ?_
        refine lv_iload_n hx hb d_X_beforeOf_55 rfl (lv_at hl 3 rfl) ?_
        refine lv_iload_n hx hb d_X_beforeOf_56 rfl (lv_at hl 4 rfl) ?_
        obtain ⟨q6, hq6, hf⟩ := io_b hf
        refine xcVI (wc := (w_Past_find cI cJ cC a_h_past a_h_past_told a_h_past_struck a_h_past_told_kinds a_h_past_told_sweets a_h_past_told_settings a_h_past_told_heaps a_h_past_struck_kinds a_h_past_struck_sweets a_h_past_struck_settings a_h_past_struck_heaps a_h_now a_h_now_kinds a_h_now_sweets a_h_now_settings a_h_now_heaps (r_children z_h_past_told) (r_strokes z_h_past_told) (r_gave z_h_past_told) (r_threw z_h_past_told) (r_kinds z_h_past_told) (r_sweets z_h_past_told) (r_settings z_h_past_told) (r_heaps z_h_past_told) (r_children z_h_past_struck) (r_strokes z_h_past_struck) (r_gave z_h_past_struck) (r_threw z_h_past_struck) (r_kinds z_h_past_struck) (r_sweets z_h_past_struck) (r_settings z_h_past_struck) (r_heaps z_h_past_struck) (r_children z_h_now) (r_strokes z_h_now) (r_gave z_h_now) (r_threw z_h_now) (r_kinds z_h_now) (r_sweets z_h_now) (r_settings z_h_now))) (wc' := (w_Past_find cI cJ cC a_h_past a_h_past_told a_h_past_struck a_h_past_told_kinds a_h_past_told_sweets a_h_past_told_settings a_h_past_told_heaps a_h_past_struck_kinds a_h_past_struck_sweets a_h_past_struck_settings a_h_past_struck_heaps a_h_now a_h_now_kinds a_h_now_sweets a_h_now_settings a_h_now_heaps (r_children q6.2.1) (r_strokes q6.2.1) (r_gave q6.2.1) (r_threw q6.2.1) (r_kinds q6.2.1) (r_sweets q6.2.1) (r_settings q6.2.1) (r_heaps q6.2.1) (r_children q6.2.2) (r_strokes q6.2.2) (r_gave q6.2.2) (r_threw q6.2.2) (r_kinds q6.2.2) (r_sweets q6.2.2) (r_settings q6.2.2) (r_heaps q6.2.2) (r_children z_h_now) (r_strokes z_h_now) (r_gave z_h_now) (r_threw z_h_now) (r_kinds z_h_now) (r_sweets z_h_now) (r_settings z_h_now))) (ws' := (w_X_beforeOf cI cJ cC a_h a_h_now a_h_kept a_h_letters a_h_numbers a_h_refusals a_h_mind a_h_parts a_h_past a_h_seating a_h_now_kinds a_h_now_sweets a_h_now_settings a_h_now_heaps a_h_past_told a_h_past_struck a_h_past_told_kinds a_h_past_told_sweets a_h_past_told_settings a_h_past_told_heaps a_h_past_struck_kinds a_h_past_struck_sweets a_h_past_struck_settings a_h_past_struck_heaps y_h_isKept y_h_numberCount (r_children z_h_now) (r_strokes z_h_now) (r_gave z_h_now) (r_threw z_h_now) (r_kinds z_h_now) (r_sweets z_h_now) (r_settings z_h_now) z_h_refusals (r_children q6.2.1) (r_strokes q6.2.1) (r_gave q6.2.1) (r_threw q6.2.1) (r_kinds q6.2.1) (r_sweets q6.2.1) (r_settings q6.2.1) (r_heaps q6.2.1) (r_children q6.2.2) (r_strokes q6.2.2) (r_gave q6.2.2) (r_threw q6.2.2) (r_kinds q6.2.2) (r_sweets q6.2.2) (r_settings q6.2.2) (r_heaps q6.2.2))) (As := [.ref a_h_now, .int x2, .int x3]) (rest := []) hx hb hml hown hT (c_Past_find (z_h_told := z_h_past_told) (z_h_struck := z_h_past_struck) (z_g1 := z_h_now) a_h_past a_h_past_told a_h_past_struck a_h_past_told_kinds a_h_past_told_sweets a_h_past_told_settings a_h_past_told_heaps a_h_past_struck_kinds a_h_past_struck_sweets a_h_past_struck_settings a_h_past_struck_heaps a_h_now a_h_now_kinds a_h_now_sweets a_h_now_settings a_h_now_heaps hq6) k_590 k_591 k_592 k_6 k_593 hd_Past_find ⟨Nat.le_of_ble_eq_true rfl, Nat.le_of_ble_eq_true rfl⟩ xE0_ok trivial hA hK hP hD hS [6, 7, 8, 9, 10, 11, 12, 13, 14, 15, 16, 1, 2, 3, 4] [0, 5] [0, 13, 14, 15, 16, 1, 2, 3, 4, 5, 6, 7, 8, 9, 10, 11, 12] rfl rfl rfl rfl rfl rfl rfl rfl rfl rfl hl.1 rfl (Nat.le_of_ble_eq_true rfl) ⟨Nat.zero_le _, Nat.zero_le _⟩ d_X_beforeOf_57 (fun H locs hP hD hS => ?_)
        refine lv_iload_n hx hb d_X_beforeOf_60 rfl (lv_at hl 4 rfl) ?_
        refine lv_icmp_le (tgt := 79) hx hb d_X_beforeOf_61 (by decide) (fun c7 => ?_) (fun c7 => ?_)
        · have hf := io_t hf c7
          refine lv_bipush (v := (-9)) hx hb d_X_beforeOf_79 (by decide) ?_
          have hq := Option.some.inj hf
          subst hq
          exact hret _ _ _ _ _ d_X_beforeOf_81 rfl rfl hP hD hS
        · have hf := io_f hf c7
          refine lv_aload_n hx hb d_X_beforeOf_64 rfl (lv_at hl 1 rfl) ?_
          refine va_get hx hb hT i_X hown hK hP 0 rfl rfl 9 (Nat.le_of_ble_eq_true rfl) (hT _ k_177) (fun _ h => h) rfl d_X_beforeOf_65 ?_
          refine va_get hx hb hT i_Past hown hK hP 6 rfl rfl 0 (Nat.le_of_ble_eq_true rfl) (hT _ k_142) (fun _ h => h) rfl d_X_beforeOf_68 ?_
          refine va_get hx hb hT i_Ring hown hK hP 7 rfl rfl 1 (Nat.le_of_ble_eq_true rfl) (hT _ k_40) (fun _ h => h) rfl d_X_beforeOf_71 ?_
          refine lv_iload_n hx hb d_X_beforeOf_74 rfl (lv_at hl 2 rfl) ?_
          obtain ⟨c8, hf⟩ := io_n hf
          refine x_iald hx hb hK hP 9 0 rfl rfl (j := x1.toNatClampNeg) rfl c8 d_X_beforeOf_75 ?_
          refine lv_goto (tgt := 81) hx hb d_X_beforeOf_76 (by decide) ?_
          have hq := Option.some.inj hf
          subst hq
          exact hret _ _ _ _ _ d_X_beforeOf_81 rfl rfl hP hD hS
      · have hf := io_f hf c5
        refine lv_aload_n hx hb d_X_beforeOf_40 rfl (lv_at hl 1 rfl) ?_
        refine lv_iload hx hb d_X_beforeOf_41 (lv_at hl 0 rfl) ?_
        obtain ⟨q9, hq9, hf⟩ := io_b hf
        refine xcVI (wc := (w_X_refuse cI cJ cC a_h a_h_now a_h_kept a_h_letters a_h_numbers a_h_refusals a_h_mind a_h_parts a_h_past a_h_seating y_h_isKept y_h_numberCount z_h_refusals)) (wc' := (w_X_refuse cI cJ cC a_h a_h_now a_h_kept a_h_letters a_h_numbers a_h_refusals a_h_mind a_h_parts a_h_past a_h_seating y_h_isKept y_h_numberCount q9.2)) (ws' := (w_X_beforeOf cI cJ cC a_h a_h_now a_h_kept a_h_letters a_h_numbers a_h_refusals a_h_mind a_h_parts a_h_past a_h_seating a_h_now_kinds a_h_now_sweets a_h_now_settings a_h_now_heaps a_h_past_told a_h_past_struck a_h_past_told_kinds a_h_past_told_sweets a_h_past_told_settings a_h_past_told_heaps a_h_past_struck_kinds a_h_past_struck_sweets a_h_past_struck_settings a_h_past_struck_heaps y_h_isKept y_h_numberCount (r_children z_h_now) (r_strokes z_h_now) (r_gave z_h_now) (r_threw z_h_now) (r_kinds z_h_now) (r_sweets z_h_now) (r_settings z_h_now) q9.2 (r_children z_h_past_told) (r_strokes z_h_past_told) (r_gave z_h_past_told) (r_threw z_h_past_told) (r_kinds z_h_past_told) (r_sweets z_h_past_told) (r_settings z_h_past_told) (r_heaps z_h_past_told) (r_children z_h_past_struck) (r_strokes z_h_past_struck) (r_gave z_h_past_struck) (r_threw z_h_past_struck) (r_kinds z_h_past_struck) (r_sweets z_h_past_struck) (r_settings z_h_past_struck) (r_heaps z_h_past_struck))) (As := [.int q1]) (rest := []) hx hb hml hown hT (c_X_refuse (z_h_refusals := z_h_refusals) a_h a_h_now a_h_kept a_h_letters a_h_numbers a_h_refusals a_h_mind a_h_parts a_h_past a_h_seating y_h_isKept y_h_numberCount hq9) k_206 k_208 ks_0 k_1 k_209 hd_X_refuse ⟨Nat.le_of_ble_eq_true rfl, Nat.le_of_ble_eq_true rfl⟩ xE0_ok trivial hA hK hP hD hS [0, 5] [1, 2, 3, 4, 6, 7, 8, 9, 10, 11, 12, 13, 14, 15, 16] [15, 0, 1, 2, 3, 16, 4, 5, 6, 7, 8, 9, 10, 11, 12, 13, 14] rfl rfl rfl rfl rfl rfl rfl rfl rfl rfl hl.1 rfl (Nat.le_of_ble_eq_true rfl) ⟨Nat.zero_le _, Nat.zero_le _⟩ d_X_beforeOf_43 (fun H locs hP hD hS => ?_)
        have hq := Option.some.inj hf
        subst hq
        exact hret _ _ _ _ _ d_X_beforeOf_46 rfl rfl hP hD hS
    · have hf := io_f hf c4
      refine lv_bipush (v := (-4)) hx hb d_X_beforeOf_31 (by decide) ?_
      refine lv_istore (lv' := [(4, .int (-4)), (0, .ref a_h), (1, .int x1), (2, .int x2), (3, .int x3)]) hx hb d_X_beforeOf_33 hl (by decide) rfl (fun ls hl => ?_)
      refine lv_iload hx hb d_X_beforeOf_35 (lv_at hl 0 rfl) ?_
      refine lv_if_eq (tgt := 47) hx hb d_X_beforeOf_37 (by decide) (fun c => absurd c (show ¬ ((-4) : Int32) = 0 from by decide +kernel)) (fun _ => ?_)
      refine lv_aload_n hx hb d_X_beforeOf_40 rfl (lv_at hl 1 rfl) ?_
      refine lv_iload hx hb d_X_beforeOf_41 (lv_at hl 0 rfl) ?_
      obtain ⟨q10, hq10, hf⟩ := io_b hf
      refine xcVI (wc := (w_X_refuse cI cJ cC a_h a_h_now a_h_kept a_h_letters a_h_numbers a_h_refusals a_h_mind a_h_parts a_h_past a_h_seating y_h_isKept y_h_numberCount z_h_refusals)) (wc' := (w_X_refuse cI cJ cC a_h a_h_now a_h_kept a_h_letters a_h_numbers a_h_refusals a_h_mind a_h_parts a_h_past a_h_seating y_h_isKept y_h_numberCount q10.2)) (ws' := (w_X_beforeOf cI cJ cC a_h a_h_now a_h_kept a_h_letters a_h_numbers a_h_refusals a_h_mind a_h_parts a_h_past a_h_seating a_h_now_kinds a_h_now_sweets a_h_now_settings a_h_now_heaps a_h_past_told a_h_past_struck a_h_past_told_kinds a_h_past_told_sweets a_h_past_told_settings a_h_past_told_heaps a_h_past_struck_kinds a_h_past_struck_sweets a_h_past_struck_settings a_h_past_struck_heaps y_h_isKept y_h_numberCount (r_children z_h_now) (r_strokes z_h_now) (r_gave z_h_now) (r_threw z_h_now) (r_kinds z_h_now) (r_sweets z_h_now) (r_settings z_h_now) q10.2 (r_children z_h_past_told) (r_strokes z_h_past_told) (r_gave z_h_past_told) (r_threw z_h_past_told) (r_kinds z_h_past_told) (r_sweets z_h_past_told) (r_settings z_h_past_told) (r_heaps z_h_past_told) (r_children z_h_past_struck) (r_strokes z_h_past_struck) (r_gave z_h_past_struck) (r_threw z_h_past_struck) (r_kinds z_h_past_struck) (r_sweets z_h_past_struck) (r_settings z_h_past_struck) (r_heaps z_h_past_struck))) (As := [.int (-4)]) (rest := []) hx hb hml hown hT (c_X_refuse (z_h_refusals := z_h_refusals) a_h a_h_now a_h_kept a_h_letters a_h_numbers a_h_refusals a_h_mind a_h_parts a_h_past a_h_seating y_h_isKept y_h_numberCount hq10) k_206 k_208 ks_0 k_1 k_209 hd_X_refuse ⟨Nat.le_of_ble_eq_true rfl, Nat.le_of_ble_eq_true rfl⟩ xE0_ok trivial hA hK hP hD hS [0, 5] [1, 2, 3, 4, 6, 7, 8, 9, 10, 11, 12, 13, 14, 15, 16] [15, 0, 1, 2, 3, 16, 4, 5, 6, 7, 8, 9, 10, 11, 12, 13, 14] rfl rfl rfl rfl rfl rfl rfl rfl rfl rfl hl.1 rfl (Nat.le_of_ble_eq_true rfl) ⟨Nat.zero_le _, Nat.zero_le _⟩ d_X_beforeOf_43 (fun H locs hP hD hS => ?_)
      have hq := Option.some.inj hf
      subst hq
      exact hret _ _ _ _ _ d_X_beforeOf_46 rfl rfl hP hD hS
  · have hf := io_t hf c3
    refine lv_iconst (v := (-1)) hx hb d_X_beforeOf_21 (by decide) ?_
    refine lv_istore (lv' := [(4, .int (-1)), (0, .ref a_h), (1, .int x1), (2, .int x2), (3, .int x3)]) hx hb d_X_beforeOf_22 hl (by decide) rfl (fun ls hl => ?_)
    refine lv_goto (tgt := 35) hx hb d_X_beforeOf_24 (by decide) ?_
    refine lv_iload hx hb d_X_beforeOf_35 (lv_at hl 0 rfl) ?_
    refine lv_if_eq (tgt := 47) hx hb d_X_beforeOf_37 (by decide) (fun c => absurd c (show ¬ ((-1) : Int32) = 0 from by decide +kernel)) (fun _ => ?_)
    refine lv_aload_n hx hb d_X_beforeOf_40 rfl (lv_at hl 1 rfl) ?_
    refine lv_iload hx hb d_X_beforeOf_41 (lv_at hl 0 rfl) ?_
    obtain ⟨q11, hq11, hf⟩ := io_b hf
    refine xcVI (wc := (w_X_refuse cI cJ cC a_h a_h_now a_h_kept a_h_letters a_h_numbers a_h_refusals a_h_mind a_h_parts a_h_past a_h_seating y_h_isKept y_h_numberCount z_h_refusals)) (wc' := (w_X_refuse cI cJ cC a_h a_h_now a_h_kept a_h_letters a_h_numbers a_h_refusals a_h_mind a_h_parts a_h_past a_h_seating y_h_isKept y_h_numberCount q11.2)) (ws' := (w_X_beforeOf cI cJ cC a_h a_h_now a_h_kept a_h_letters a_h_numbers a_h_refusals a_h_mind a_h_parts a_h_past a_h_seating a_h_now_kinds a_h_now_sweets a_h_now_settings a_h_now_heaps a_h_past_told a_h_past_struck a_h_past_told_kinds a_h_past_told_sweets a_h_past_told_settings a_h_past_told_heaps a_h_past_struck_kinds a_h_past_struck_sweets a_h_past_struck_settings a_h_past_struck_heaps y_h_isKept y_h_numberCount (r_children z_h_now) (r_strokes z_h_now) (r_gave z_h_now) (r_threw z_h_now) (r_kinds z_h_now) (r_sweets z_h_now) (r_settings z_h_now) q11.2 (r_children z_h_past_told) (r_strokes z_h_past_told) (r_gave z_h_past_told) (r_threw z_h_past_told) (r_kinds z_h_past_told) (r_sweets z_h_past_told) (r_settings z_h_past_told) (r_heaps z_h_past_told) (r_children z_h_past_struck) (r_strokes z_h_past_struck) (r_gave z_h_past_struck) (r_threw z_h_past_struck) (r_kinds z_h_past_struck) (r_sweets z_h_past_struck) (r_settings z_h_past_struck) (r_heaps z_h_past_struck))) (As := [.int (-1)]) (rest := []) hx hb hml hown hT (c_X_refuse (z_h_refusals := z_h_refusals) a_h a_h_now a_h_kept a_h_letters a_h_numbers a_h_refusals a_h_mind a_h_parts a_h_past a_h_seating y_h_isKept y_h_numberCount hq11) k_206 k_208 ks_0 k_1 k_209 hd_X_refuse ⟨Nat.le_of_ble_eq_true rfl, Nat.le_of_ble_eq_true rfl⟩ xE0_ok trivial hA hK hP hD hS [0, 5] [1, 2, 3, 4, 6, 7, 8, 9, 10, 11, 12, 13, 14, 15, 16] [15, 0, 1, 2, 3, 16, 4, 5, 6, 7, 8, 9, 10, 11, 12, 13, 14] rfl rfl rfl rfl rfl rfl rfl rfl rfl rfl hl.1 rfl (Nat.le_of_ble_eq_true rfl) ⟨Nat.zero_le _, Nat.zero_le _⟩ d_X_beforeOf_43 (fun H locs hP hD hS => ?_)
    have hq := Option.some.inj hf
    subst hq
    exact hret _ _ _ _ _ d_X_beforeOf_46 rfl rfl hP hD hS
abbrev w_X_refusalOfSeats (cI cJ cC : ClassId) (a_h a_h_now a_h_kept a_h_letters a_h_numbers a_h_refusals a_h_mind a_h_parts a_h_past a_h_seating a_h_now_kinds a_h_now_sweets a_h_now_settings a_h_now_heaps : Nat) (y_h_isKept : Int32) (y_h_numberCount : Int32) (p_h_now_children : Int32) (p_h_now_strokes : Int32) (p_h_now_gave : Int32) (p_h_now_threw : Int32) : va_W := [(a_h, .inr (0, [.ref a_h_now, .ref a_h_kept, .int y_h_isKept, .ref a_h_letters, .ref a_h_numbers, .int y_h_numberCount, .ref a_h_refusals, .ref a_h_mind, .ref a_h_parts, .ref a_h_past, .ref a_h_seating])), (a_h_now, .inr (1, [.ref a_h_now_kinds, .ref a_h_now_sweets, .ref a_h_now_settings, .int p_h_now_children, .int p_h_now_strokes, .int p_h_now_gave, .int p_h_now_threw, .ref a_h_now_heaps]))]
theorem d_X_refusalOfSeats_0 : decode b_X_refusalOfSeats 0 = .ok (.iload_n 2, 1) := by decide +kernel
theorem d_X_refusalOfSeats_1 : decode b_X_refusalOfSeats 1 = .ok (.ifCond .lt 8, 3) := by decide +kernel
theorem d_X_refusalOfSeats_4 : decode b_X_refusalOfSeats 4 = .ok (.iload_n 2, 1) := by decide +kernel
theorem d_X_refusalOfSeats_5 : decode b_X_refusalOfSeats 5 = .ok (.iconst 2, 1) := by decide +kernel
theorem d_X_refusalOfSeats_6 : decode b_X_refusalOfSeats 6 = .ok (.if_icmp .le 6, 3) := by decide +kernel
theorem d_X_refusalOfSeats_9 : decode b_X_refusalOfSeats 9 = .ok (.bipush (-2), 2) := by decide +kernel
theorem d_X_refusalOfSeats_11 : decode b_X_refusalOfSeats 11 = .ok (.ireturn, 1) := by decide +kernel
theorem d_X_refusalOfSeats_12 : decode b_X_refusalOfSeats 12 = .ok (.iload_n 3, 1) := by decide +kernel
theorem d_X_refusalOfSeats_13 : decode b_X_refusalOfSeats 13 = .ok (.ifCond .ge 6, 3) := by decide +kernel
theorem d_X_refusalOfSeats_16 : decode b_X_refusalOfSeats 16 = .ok (.bipush (-4), 2) := by decide +kernel
theorem d_X_refusalOfSeats_18 : decode b_X_refusalOfSeats 18 = .ok (.ireturn, 1) := by decide +kernel
theorem d_X_refusalOfSeats_19 : decode b_X_refusalOfSeats 19 = .ok (.aload_n 0, 1) := by decide +kernel
theorem d_X_refusalOfSeats_20 : decode b_X_refusalOfSeats 20 = .ok (.iload_n 1, 1) := by decide +kernel
theorem d_X_refusalOfSeats_21 : decode b_X_refusalOfSeats 21 = .ok (.bipush 50, 2) := by decide +kernel
theorem d_X_refusalOfSeats_23 : decode b_X_refusalOfSeats 23 = .ok (.bipush 6, 2) := by decide +kernel
theorem d_X_refusalOfSeats_25 : decode b_X_refusalOfSeats 25 = .ok (.invokevirtual 188, 3) := by decide +kernel
theorem d_X_refusalOfSeats_28 : decode b_X_refusalOfSeats 28 = .ok (.istore 4, 2) := by decide +kernel
theorem d_X_refusalOfSeats_30 : decode b_X_refusalOfSeats 30 = .ok (.iload 4, 2) := by decide +kernel
theorem d_X_refusalOfSeats_32 : decode b_X_refusalOfSeats 32 = .ok (.ifCond .ne 18, 3) := by decide +kernel
theorem d_X_refusalOfSeats_35 : decode b_X_refusalOfSeats 35 = .ok (.aload_n 0, 1) := by decide +kernel
theorem d_X_refusalOfSeats_36 : decode b_X_refusalOfSeats 36 = .ok (.getfield 10, 3) := by decide +kernel
theorem d_X_refusalOfSeats_39 : decode b_X_refusalOfSeats 39 = .ok (.getfield 121, 3) := by decide +kernel
theorem d_X_refusalOfSeats_42 : decode b_X_refusalOfSeats 42 = .ok (.ifCond .ne 8, 3) := by decide +kernel
theorem d_X_refusalOfSeats_45 : decode b_X_refusalOfSeats 45 = .ok (.bipush (-3), 2) := by decide +kernel
theorem d_X_refusalOfSeats_47 : decode b_X_refusalOfSeats 47 = .ok (.goto 5, 3) := by decide +kernel
theorem d_X_refusalOfSeats_50 : decode b_X_refusalOfSeats 50 = .ok (.iload 4, 2) := by decide +kernel
theorem d_X_refusalOfSeats_52 : decode b_X_refusalOfSeats 52 = .ok (.ireturn, 1) := by decide +kernel
set_option maxHeartbeats 4000000 in
set_option maxRecDepth 100000 in
theorem c_X_refusalOfSeats {l : Launch} {D : va_G} {cI cJ cC : ClassId} (a_h a_h_now a_h_kept a_h_letters a_h_numbers a_h_refusals a_h_mind a_h_parts a_h_past a_h_seating a_h_now_kinds a_h_now_sweets a_h_now_settings a_h_now_heaps : Nat) (y_h_isKept : Int32) (y_h_numberCount : Int32) {z_h_now : RS} {x1 : Int32} {x2 : Int32} {x3 : Int32} {q : Int32} (hf : f_X_refusalOfSeats z_h_now x1 x2 x3 = some q) : xI l y_X_refusalOfSeats b_X_refusalOfSeats 5 .int 2 46 D (tyK cI cJ cC) xE0 [.ref a_h, .int x1, .int x2, .int x3] (w_X_refusalOfSeats cI cJ cC a_h a_h_now a_h_kept a_h_letters a_h_numbers a_h_refusals a_h_mind a_h_parts a_h_past a_h_seating a_h_now_kinds a_h_now_sweets a_h_now_settings a_h_now_heaps y_h_isKept y_h_numberCount (r_children z_h_now) (r_strokes z_h_now) (r_gave z_h_now) (r_threw z_h_now)) q (w_X_refusalOfSeats cI cJ cC a_h a_h_now a_h_kept a_h_letters a_h_numbers a_h_refusals a_h_mind a_h_parts a_h_past a_h_seating a_h_now_kinds a_h_now_sweets a_h_now_settings a_h_now_heaps y_h_isKept y_h_numberCount (r_children z_h_now) (r_strokes z_h_now) (r_gave z_h_now) (r_threw z_h_now)) := by
  refine xI_of (by decide) (Nat.le_of_ble_eq_true rfl) ?_
  intro p e s m args below meth c A Q hx hb hml hown hT hA hP hD hK hS hE hret ls hl
  have hown : s.vm.findClass R_X = some m.cls := hown
  have hl : lv_has ls 5 [(0, .ref a_h), (1, .int x1), (2, .int x2), (3, .int x3)] := hl
  unfold f_X_refusalOfSeats at hf
  refine lv_iload_n hx hb d_X_refusalOfSeats_0 rfl (lv_at hl 2 rfl) ?_
  refine lv_if_lt (tgt := 9) hx hb d_X_refusalOfSeats_1 (by decide) (fun c1 => ?_) (fun c1 => ?_)
  · have hf := io_t hf c1
    refine lv_bipush (v := (-2)) hx hb d_X_refusalOfSeats_9 (by decide) ?_
    have hq := Option.some.inj hf
    subst hq
    exact hret _ _ _ _ _ d_X_refusalOfSeats_11 rfl rfl hP hD hS
  · have hf := io_f hf c1
    refine lv_iload_n hx hb d_X_refusalOfSeats_4 rfl (lv_at hl 2 rfl) ?_
    refine lv_iconst (v := 2) hx hb d_X_refusalOfSeats_5 (by decide) ?_
    refine lv_icmp_le (tgt := 12) hx hb d_X_refusalOfSeats_6 (by decide) (fun c2 => ?_) (fun c2 => ?_)
    · have hf := io_t hf c2
      refine lv_iload_n hx hb d_X_refusalOfSeats_12 rfl (lv_at hl 3 rfl) ?_
      refine lv_if_ge (tgt := 19) hx hb d_X_refusalOfSeats_13 (by decide) (fun c3 => ?_) (fun c3 => ?_)
      · have hf := io_t hf c3
        refine lv_aload_n hx hb d_X_refusalOfSeats_19 rfl (lv_at hl 0 rfl) ?_
        refine lv_iload_n hx hb d_X_refusalOfSeats_20 rfl (lv_at hl 1 rfl) ?_
        refine lv_bipush (v := 50) hx hb d_X_refusalOfSeats_21 (by decide) ?_
        refine lv_bipush (v := 6) hx hb d_X_refusalOfSeats_23 (by decide) ?_
        obtain ⟨q4, hq4, hf⟩ := io_b hf
        refine xcVI (wc := (w_X_outsideOrMany cI cJ cC a_h a_h_now a_h_kept a_h_letters a_h_numbers a_h_refusals a_h_mind a_h_parts a_h_past a_h_seating a_h_now_kinds a_h_now_sweets a_h_now_settings a_h_now_heaps y_h_isKept y_h_numberCount (r_children z_h_now) (r_strokes z_h_now) (r_gave z_h_now) (r_threw z_h_now))) (wc' := (w_X_outsideOrMany cI cJ cC a_h a_h_now a_h_kept a_h_letters a_h_numbers a_h_refusals a_h_mind a_h_parts a_h_past a_h_seating a_h_now_kinds a_h_now_sweets a_h_now_settings a_h_now_heaps y_h_isKept y_h_numberCount (r_children z_h_now) (r_strokes z_h_now) (r_gave z_h_now) (r_threw z_h_now))) (ws' := (w_X_refusalOfSeats cI cJ cC a_h a_h_now a_h_kept a_h_letters a_h_numbers a_h_refusals a_h_mind a_h_parts a_h_past a_h_seating a_h_now_kinds a_h_now_sweets a_h_now_settings a_h_now_heaps y_h_isKept y_h_numberCount (r_children z_h_now) (r_strokes z_h_now) (r_gave z_h_now) (r_threw z_h_now))) (As := [.int x1, .int 50, .int 6]) (rest := []) hx hb hml hown hT (c_X_outsideOrMany (z_h_now := z_h_now) a_h a_h_now a_h_kept a_h_letters a_h_numbers a_h_refusals a_h_mind a_h_parts a_h_past a_h_seating a_h_now_kinds a_h_now_sweets a_h_now_settings a_h_now_heaps y_h_isKept y_h_numberCount hq4) k_585 k_587 ks_14 k_1 k_588 hd_X_outsideOrMany ⟨Nat.le_of_ble_eq_true rfl, Nat.le_of_ble_eq_true rfl⟩ xE0_ok trivial hA hK hP hD hS [0, 1] [] [0, 1] rfl rfl rfl rfl rfl rfl rfl rfl rfl rfl hl.1 rfl (Nat.le_of_ble_eq_true rfl) ⟨Nat.zero_le _, Nat.zero_le _⟩ d_X_refusalOfSeats_25 (fun H locs hP hD hS => ?_)
        refine lv_istore (lv' := [(4, .int q4), (0, .ref a_h), (1, .int x1), (2, .int x2), (3, .int x3)]) hx hb d_X_refusalOfSeats_28 hl (by decide) rfl (fun ls hl => ?_)
        refine lv_iload hx hb d_X_refusalOfSeats_30 (lv_at hl 0 rfl) ?_
        refine lv_if_ne (tgt := 50) hx hb d_X_refusalOfSeats_32 (by decide) (fun c5 => ?_) (fun c5 => ?_)
        · have hf := io_f hf c5
          refine lv_iload hx hb d_X_refusalOfSeats_50 (lv_at hl 0 rfl) ?_
          have hq := Option.some.inj hf
          subst hq
          exact hret _ _ _ _ _ d_X_refusalOfSeats_52 rfl rfl hP hD hS
        · have hf := io_t hf c5
          refine lv_aload_n hx hb d_X_refusalOfSeats_35 rfl (lv_at hl 1 rfl) ?_
          refine va_get hx hb hT i_X hown hK hP 0 rfl rfl 0 (Nat.le_of_ble_eq_true rfl) (hT _ k_168) (fun _ h => h) rfl d_X_refusalOfSeats_36 ?_
          refine va_get hx hb hT i_Ring hown hK hP 1 rfl rfl 3 (Nat.le_of_ble_eq_true rfl) (hT _ k_48) (fun _ h => h) rfl d_X_refusalOfSeats_39 ?_
          refine lv_if_ne (tgt := 50) hx hb d_X_refusalOfSeats_42 (by decide) (fun c6 => ?_) (fun c6 => ?_)
          · have hf := io_f hf c6
            refine lv_iload hx hb d_X_refusalOfSeats_50 (lv_at hl 0 rfl) ?_
            have hq := Option.some.inj hf
            subst hq
            exact hret _ _ _ _ _ d_X_refusalOfSeats_52 rfl rfl hP hD hS
          · have hf := io_t hf c6
            refine lv_bipush (v := (-3)) hx hb d_X_refusalOfSeats_45 (by decide) ?_
            refine lv_goto (tgt := 52) hx hb d_X_refusalOfSeats_47 (by decide) ?_
            have hq := Option.some.inj hf
            subst hq
            exact hret _ _ _ _ _ d_X_refusalOfSeats_52 rfl rfl hP hD hS
      · have hf := io_f hf c3
        refine lv_bipush (v := (-4)) hx hb d_X_refusalOfSeats_16 (by decide) ?_
        have hq := Option.some.inj hf
        subst hq
        exact hret _ _ _ _ _ d_X_refusalOfSeats_18 rfl rfl hP hD hS
    · have hf := io_f hf c2
      refine lv_bipush (v := (-2)) hx hb d_X_refusalOfSeats_9 (by decide) ?_
      have hq := Option.some.inj hf
      subst hq
      exact hret _ _ _ _ _ d_X_refusalOfSeats_11 rfl rfl hP hD hS
abbrev w_X_seats (cI cJ cC : ClassId) (a_h a_h_now a_h_kept a_h_letters a_h_numbers a_h_refusals a_h_mind a_h_parts a_h_past a_h_seating a_h_now_kinds a_h_now_sweets a_h_now_settings a_h_now_heaps a_h_seating_bestOrder a_h_seating_order a_h_seating_trial a_h_seating_trial_kinds a_h_seating_trial_sweets a_h_seating_trial_settings a_h_seating_trial_heaps : Nat) (y_h_isKept : Int32) (y_h_numberCount : Int32) (p_h_now_children : Int32) (p_h_now_strokes : Int32) (p_h_now_gave : Int32) (p_h_now_threw : Int32) (p_h_now_kinds : (Nat → Int32)) (p_h_now_sweets : (Nat → Int32)) (p_h_now_settings : (Nat → Int32)) (p_h_refusals : (Nat → Int32)) (p_h_seating_bestOrder : (Nat → Int32)) (p_h_seating_order : (Nat → Int32)) (p_h_seating_trial_children : Int32) (p_h_seating_trial_strokes : Int32) (p_h_seating_trial_gave : Int32) (p_h_seating_trial_threw : Int32) (p_h_seating_trial_kinds : (Nat → Int32)) (p_h_seating_trial_sweets : (Nat → Int32)) (p_h_seating_trial_settings : (Nat → Int32)) (p_h_seating_trial_heaps : (Nat → Int32)) : va_W := [(a_h, .inr (0, [.ref a_h_now, .ref a_h_kept, .int y_h_isKept, .ref a_h_letters, .ref a_h_numbers, .int y_h_numberCount, .ref a_h_refusals, .ref a_h_mind, .ref a_h_parts, .ref a_h_past, .ref a_h_seating])), (a_h_now, .inr (1, [.ref a_h_now_kinds, .ref a_h_now_sweets, .ref a_h_now_settings, .int p_h_now_children, .int p_h_now_strokes, .int p_h_now_gave, .int p_h_now_threw, .ref a_h_now_heaps])), (a_h_now_kinds, .inl (cI, (8, .inl p_h_now_kinds))), (a_h_now_sweets, .inl (cI, (8, .inl p_h_now_sweets))), (a_h_now_settings, .inl (cI, (3, .inl p_h_now_settings))), (a_h_refusals, .inl (cI, (7, .inl p_h_refusals))), (a_h_seating, .inr (6, [.ref a_h_seating_bestOrder, .ref a_h_seating_order, .ref a_h_seating_trial])), (a_h_seating_bestOrder, .inl (cI, (6, .inl p_h_seating_bestOrder))), (a_h_seating_order, .inl (cI, (6, .inl p_h_seating_order))), (a_h_seating_trial, .inr (1, [.ref a_h_seating_trial_kinds, .ref a_h_seating_trial_sweets, .ref a_h_seating_trial_settings, .int p_h_seating_trial_children, .int p_h_seating_trial_strokes, .int p_h_seating_trial_gave, .int p_h_seating_trial_threw, .ref a_h_seating_trial_heaps])), (a_h_seating_trial_kinds, .inl (cI, (8, .inl p_h_seating_trial_kinds))), (a_h_seating_trial_sweets, .inl (cI, (8, .inl p_h_seating_trial_sweets))), (a_h_seating_trial_settings, .inl (cI, (3, .inl p_h_seating_trial_settings))), (a_h_seating_trial_heaps, .inl (cI, (8, .inl p_h_seating_trial_heaps)))]
theorem d_X_seats_0 : decode b_X_seats 0 = .ok (.aload_n 0, 1) := by decide +kernel
theorem d_X_seats_1 : decode b_X_seats 1 = .ok (.iload_n 1, 1) := by decide +kernel
theorem d_X_seats_2 : decode b_X_seats 2 = .ok (.iload_n 2, 1) := by decide +kernel
theorem d_X_seats_3 : decode b_X_seats 3 = .ok (.iconst 0, 1) := by decide +kernel
theorem d_X_seats_4 : decode b_X_seats 4 = .ok (.invokevirtual 198, 3) := by decide +kernel
theorem d_X_seats_7 : decode b_X_seats 7 = .ok (.istore_n 3, 1) := by decide +kernel
theorem d_X_seats_8 : decode b_X_seats 8 = .ok (.iload_n 3, 1) := by decide +kernel
theorem d_X_seats_9 : decode b_X_seats 9 = .ok (.ifCond .eq 9, 3) := by decide +kernel
theorem d_X_seats_12 : decode b_X_seats 12 = .ok (.aload_n 0, 1) := by decide +kernel
theorem d_X_seats_13 : decode b_X_seats 13 = .ok (.iload_n 3, 1) := by decide +kernel
theorem d_X_seats_14 : decode b_X_seats 14 = .ok (.invokevirtual 69, 3) := by decide +kernel
theorem d_X_seats_17 : decode b_X_seats 17 = .ok (.ireturn, 1) := by decide +kernel
theorem d_X_seats_18 : decode b_X_seats 18 = .ok (.aload_n 0, 1) := by decide +kernel
theorem d_X_seats_19 : decode b_X_seats 19 = .ok (.getfield 65, 3) := by decide +kernel
theorem d_X_seats_22 : decode b_X_seats 22 = .ok (.aload_n 0, 1) := by decide +kernel
theorem d_X_seats_23 : decode b_X_seats 23 = .ok (.getfield 10, 3) := by decide +kernel
theorem d_X_seats_26 : decode b_X_seats 26 = .ok (.iload_n 1, 1) := by decide +kernel
theorem d_X_seats_27 : decode b_X_seats 27 = .ok (.iload_n 2, 1) := by decide +kernel
theorem d_X_seats_28 : decode b_X_seats 28 = .ok (.invokevirtual 201, 3) := by decide +kernel
theorem d_X_seats_31 : decode b_X_seats 31 = .ok (.ireturn, 1) := by decide +kernel
set_option maxHeartbeats 4000000 in
set_option maxRecDepth 100000 in
theorem c_X_seats {l : Launch} {D : va_G} {cI cJ cC : ClassId} (a_h a_h_now a_h_kept a_h_letters a_h_numbers a_h_refusals a_h_mind a_h_parts a_h_past a_h_seating a_h_now_kinds a_h_now_sweets a_h_now_settings a_h_now_heaps a_h_seating_bestOrder a_h_seating_order a_h_seating_trial a_h_seating_trial_kinds a_h_seating_trial_sweets a_h_seating_trial_settings a_h_seating_trial_heaps : Nat) (y_h_isKept : Int32) (y_h_numberCount : Int32) {z_h_now : RS} {z_h_refusals : (Nat → Int32)} {z_h_seating_bestOrder : (Nat → Int32)} {z_h_seating_order : (Nat → Int32)} {z_h_seating_trial : RS} {x1 : Int32} {x2 : Int32} {q : Int32 × (Nat → Int32) × (Nat → Int32) × (Nat → Int32) × RS} (hf : f_X_seats z_h_now z_h_refusals z_h_seating_bestOrder z_h_seating_order z_h_seating_trial x1 x2 = some q) : xI l y_X_seats b_X_seats 4 .int 7 162 D (tyK cI cJ cC) xE0 [.ref a_h, .int x1, .int x2] (w_X_seats cI cJ cC a_h a_h_now a_h_kept a_h_letters a_h_numbers a_h_refusals a_h_mind a_h_parts a_h_past a_h_seating a_h_now_kinds a_h_now_sweets a_h_now_settings a_h_now_heaps a_h_seating_bestOrder a_h_seating_order a_h_seating_trial a_h_seating_trial_kinds a_h_seating_trial_sweets a_h_seating_trial_settings a_h_seating_trial_heaps y_h_isKept y_h_numberCount (r_children z_h_now) (r_strokes z_h_now) (r_gave z_h_now) (r_threw z_h_now) (r_kinds z_h_now) (r_sweets z_h_now) (r_settings z_h_now) z_h_refusals z_h_seating_bestOrder z_h_seating_order (r_children z_h_seating_trial) (r_strokes z_h_seating_trial) (r_gave z_h_seating_trial) (r_threw z_h_seating_trial) (r_kinds z_h_seating_trial) (r_sweets z_h_seating_trial) (r_settings z_h_seating_trial) (r_heaps z_h_seating_trial)) q.1 (w_X_seats cI cJ cC a_h a_h_now a_h_kept a_h_letters a_h_numbers a_h_refusals a_h_mind a_h_parts a_h_past a_h_seating a_h_now_kinds a_h_now_sweets a_h_now_settings a_h_now_heaps a_h_seating_bestOrder a_h_seating_order a_h_seating_trial a_h_seating_trial_kinds a_h_seating_trial_sweets a_h_seating_trial_settings a_h_seating_trial_heaps y_h_isKept y_h_numberCount (r_children z_h_now) (r_strokes z_h_now) (r_gave z_h_now) (r_threw z_h_now) (r_kinds z_h_now) (r_sweets z_h_now) (r_settings z_h_now) q.2.1 q.2.2.1 q.2.2.2.1 (r_children q.2.2.2.2) (r_strokes q.2.2.2.2) (r_gave q.2.2.2.2) (r_threw q.2.2.2.2) (r_kinds q.2.2.2.2) (r_sweets q.2.2.2.2) (r_settings q.2.2.2.2) (r_heaps q.2.2.2.2)) := by
  refine xI_of (by decide) (Nat.le_of_ble_eq_true rfl) ?_
  intro p e s m args below meth c A Q hx hb hml hown hT hA hP hD hK hS hE hret ls hl
  have hown : s.vm.findClass R_X = some m.cls := hown
  have hl : lv_has ls 4 [(0, .ref a_h), (1, .int x1), (2, .int x2)] := hl
  unfold f_X_seats at hf
  refine lv_aload_n hx hb d_X_seats_0 rfl (lv_at hl 0 rfl) ?_
  refine lv_iload_n hx hb d_X_seats_1 rfl (lv_at hl 1 rfl) ?_
  refine lv_iload_n hx hb d_X_seats_2 rfl (lv_at hl 2 rfl) ?_
  refine lv_iconst (v := 0) hx hb d_X_seats_3 (by decide) ?_
  obtain ⟨q1, hq1, hf⟩ := io_b hf
  refine xcVI (wc := (w_X_refusalOfSeats cI cJ cC a_h a_h_now a_h_kept a_h_letters a_h_numbers a_h_refusals a_h_mind a_h_parts a_h_past a_h_seating a_h_now_kinds a_h_now_sweets a_h_now_settings a_h_now_heaps y_h_isKept y_h_numberCount (r_children z_h_now) (r_strokes z_h_now) (r_gave z_h_now) (r_threw z_h_now))) (wc' := (w_X_refusalOfSeats cI cJ cC a_h a_h_now a_h_kept a_h_letters a_h_numbers a_h_refusals a_h_mind a_h_parts a_h_past a_h_seating a_h_now_kinds a_h_now_sweets a_h_now_settings a_h_now_heaps y_h_isKept y_h_numberCount (r_children z_h_now) (r_strokes z_h_now) (r_gave z_h_now) (r_threw z_h_now))) (ws' := (w_X_seats cI cJ cC a_h a_h_now a_h_kept a_h_letters a_h_numbers a_h_refusals a_h_mind a_h_parts a_h_past a_h_seating a_h_now_kinds a_h_now_sweets a_h_now_settings a_h_now_heaps a_h_seating_bestOrder a_h_seating_order a_h_seating_trial a_h_seating_trial_kinds a_h_seating_trial_sweets a_h_seating_trial_settings a_h_seating_trial_heaps y_h_isKept y_h_numberCount (r_children z_h_now) (r_strokes z_h_now) (r_gave z_h_now) (r_threw z_h_now) (r_kinds z_h_now) (r_sweets z_h_now) (r_settings z_h_now) z_h_refusals z_h_seating_bestOrder z_h_seating_order (r_children z_h_seating_trial) (r_strokes z_h_seating_trial) (r_gave z_h_seating_trial) (r_threw z_h_seating_trial) (r_kinds z_h_seating_trial) (r_sweets z_h_seating_trial) (r_settings z_h_seating_trial) (r_heaps z_h_seating_trial))) (As := [.int x1, .int x2, .int 0]) (rest := []) hx hb hml hown hT (c_X_refusalOfSeats (z_h_now := z_h_now) a_h a_h_now a_h_kept a_h_letters a_h_numbers a_h_refusals a_h_mind a_h_parts a_h_past a_h_seating a_h_now_kinds a_h_now_sweets a_h_now_settings a_h_now_heaps y_h_isKept y_h_numberCount hq1) k_635 k_637 ks_19 k_1 k_638 hd_X_refusalOfSeats ⟨Nat.le_of_ble_eq_true rfl, Nat.le_of_ble_eq_true rfl⟩ xE0_ok trivial hA hK hP hD hS [0, 1] [2, 3, 4, 5, 6, 7, 8, 9, 10, 11, 12, 13] [12, 13, 0, 1, 2, 3, 4, 5, 6, 7, 8, 9, 10, 11] rfl rfl rfl rfl rfl rfl rfl rfl rfl rfl hl.1 rfl (Nat.le_of_ble_eq_true rfl) ⟨Nat.zero_le _, Nat.zero_le _⟩ d_X_seats_4 (fun H locs hP hD hS => ?_)
  refine lv_istore_n (lv' := [(3, .int q1), (0, .ref a_h), (1, .int x1), (2, .int x2)]) hx hb d_X_seats_7 rfl hl (by decide) rfl (fun ls hl => ?_)
  refine lv_iload_n hx hb d_X_seats_8 rfl (lv_at hl 0 rfl) ?_
  refine lv_if_eq (tgt := 18) hx hb d_X_seats_9 (by decide) (fun c2 => ?_) (fun c2 => ?_)
  · have hf := io_t hf c2
    refine lv_aload_n hx hb d_X_seats_18 rfl (lv_at hl 1 rfl) ?_
    refine va_get hx hb hT i_X hown hK hP 0 rfl rfl 10 (Nat.le_of_ble_eq_true rfl) (hT _ k_178) (fun _ h => h) rfl d_X_seats_19 ?_
    refine lv_aload_n hx hb d_X_seats_22 rfl (lv_at hl 1 rfl) ?_
    refine va_get hx hb hT i_X hown hK hP 0 rfl rfl 0 (Nat.le_of_ble_eq_true rfl) (hT _ k_168) (fun _ h => h) rfl d_X_seats_23 ?_
    refine lv_iload_n hx hb d_X_seats_26 rfl (lv_at hl 2 rfl) ?_
    refine lv_iload_n hx hb d_X_seats_27 rfl (lv_at hl 3 rfl) ?_
    obtain ⟨q3, hq3, hf⟩ := io_b hf
    refine xcVI (wc := (w_Seating_best cI cJ cC a_h_seating a_h_seating_bestOrder a_h_seating_order a_h_seating_trial a_h_seating_trial_kinds a_h_seating_trial_sweets a_h_seating_trial_settings a_h_seating_trial_heaps a_h_now a_h_now_kinds a_h_now_sweets a_h_now_settings a_h_now_heaps z_h_seating_bestOrder z_h_seating_order (r_children z_h_seating_trial) (r_strokes z_h_seating_trial) (r_gave z_h_seating_trial) (r_threw z_h_seating_trial) (r_kinds z_h_seating_trial) (r_sweets z_h_seating_trial) (r_settings z_h_seating_trial) (r_heaps z_h_seating_trial) (r_children z_h_now) (r_strokes z_h_now) (r_gave z_h_now) (r_threw z_h_now) (r_kinds z_h_now) (r_sweets z_h_now) (r_settings z_h_now))) (wc' := (w_Seating_best cI cJ cC a_h_seating a_h_seating_bestOrder a_h_seating_order a_h_seating_trial a_h_seating_trial_kinds a_h_seating_trial_sweets a_h_seating_trial_settings a_h_seating_trial_heaps a_h_now a_h_now_kinds a_h_now_sweets a_h_now_settings a_h_now_heaps q3.2.1 q3.2.2.1 (r_children q3.2.2.2) (r_strokes q3.2.2.2) (r_gave q3.2.2.2) (r_threw q3.2.2.2) (r_kinds q3.2.2.2) (r_sweets q3.2.2.2) (r_settings q3.2.2.2) (r_heaps q3.2.2.2) (r_children z_h_now) (r_strokes z_h_now) (r_gave z_h_now) (r_threw z_h_now) (r_kinds z_h_now) (r_sweets z_h_now) (r_settings z_h_now))) (ws' := (w_X_seats cI cJ cC a_h a_h_now a_h_kept a_h_letters a_h_numbers a_h_refusals a_h_mind a_h_parts a_h_past a_h_seating a_h_now_kinds a_h_now_sweets a_h_now_settings a_h_now_heaps a_h_seating_bestOrder a_h_seating_order a_h_seating_trial a_h_seating_trial_kinds a_h_seating_trial_sweets a_h_seating_trial_settings a_h_seating_trial_heaps y_h_isKept y_h_numberCount (r_children z_h_now) (r_strokes z_h_now) (r_gave z_h_now) (r_threw z_h_now) (r_kinds z_h_now) (r_sweets z_h_now) (r_settings z_h_now) z_h_refusals q3.2.1 q3.2.2.1 (r_children q3.2.2.2) (r_strokes q3.2.2.2) (r_gave q3.2.2.2) (r_threw q3.2.2.2) (r_kinds q3.2.2.2) (r_sweets q3.2.2.2) (r_settings q3.2.2.2) (r_heaps q3.2.2.2))) (As := [.ref a_h_now, .int x1, .int x2]) (rest := []) hx hb hml hown hT (c_Seating_best (z_h_bestOrder := z_h_seating_bestOrder) (z_h_order := z_h_seating_order) (z_h_trial := z_h_seating_trial) (z_g1 := z_h_now) a_h_seating a_h_seating_bestOrder a_h_seating_order a_h_seating_trial a_h_seating_trial_kinds a_h_seating_trial_sweets a_h_seating_trial_settings a_h_seating_trial_heaps a_h_now a_h_now_kinds a_h_now_sweets a_h_now_settings a_h_now_heaps hq3) k_639 k_640 k_641 k_7 k_642 hd_Seating_best ⟨Nat.le_of_ble_eq_true rfl, Nat.le_of_ble_eq_true rfl⟩ xE0_ok trivial hA hK hP hD hS [6, 7, 8, 9, 10, 11, 12, 13, 1, 2, 3, 4] [0, 5] [0, 10, 11, 12, 13, 1, 2, 3, 4, 5, 6, 7, 8, 9] rfl rfl rfl rfl rfl rfl rfl rfl rfl rfl hl.1 rfl (Nat.le_of_ble_eq_true rfl) ⟨Nat.zero_le _, Nat.zero_le _⟩ d_X_seats_28 (fun H locs hP hD hS => ?_)
    have hq := Option.some.inj hf
    subst hq
    exact hret _ _ _ _ _ d_X_seats_31 rfl rfl hP hD hS
  · have hf := io_f hf c2
    refine lv_aload_n hx hb d_X_seats_12 rfl (lv_at hl 1 rfl) ?_
    refine lv_iload_n hx hb d_X_seats_13 rfl (lv_at hl 0 rfl) ?_
    obtain ⟨q4, hq4, hf⟩ := io_b hf
    refine xcVI (wc := (w_X_refuse cI cJ cC a_h a_h_now a_h_kept a_h_letters a_h_numbers a_h_refusals a_h_mind a_h_parts a_h_past a_h_seating y_h_isKept y_h_numberCount z_h_refusals)) (wc' := (w_X_refuse cI cJ cC a_h a_h_now a_h_kept a_h_letters a_h_numbers a_h_refusals a_h_mind a_h_parts a_h_past a_h_seating y_h_isKept y_h_numberCount q4.2)) (ws' := (w_X_seats cI cJ cC a_h a_h_now a_h_kept a_h_letters a_h_numbers a_h_refusals a_h_mind a_h_parts a_h_past a_h_seating a_h_now_kinds a_h_now_sweets a_h_now_settings a_h_now_heaps a_h_seating_bestOrder a_h_seating_order a_h_seating_trial a_h_seating_trial_kinds a_h_seating_trial_sweets a_h_seating_trial_settings a_h_seating_trial_heaps y_h_isKept y_h_numberCount (r_children z_h_now) (r_strokes z_h_now) (r_gave z_h_now) (r_threw z_h_now) (r_kinds z_h_now) (r_sweets z_h_now) (r_settings z_h_now) q4.2 z_h_seating_bestOrder z_h_seating_order (r_children z_h_seating_trial) (r_strokes z_h_seating_trial) (r_gave z_h_seating_trial) (r_threw z_h_seating_trial) (r_kinds z_h_seating_trial) (r_sweets z_h_seating_trial) (r_settings z_h_seating_trial) (r_heaps z_h_seating_trial))) (As := [.int q1]) (rest := []) hx hb hml hown hT (c_X_refuse (z_h_refusals := z_h_refusals) a_h a_h_now a_h_kept a_h_letters a_h_numbers a_h_refusals a_h_mind a_h_parts a_h_past a_h_seating y_h_isKept y_h_numberCount hq4) k_206 k_208 ks_0 k_1 k_209 hd_X_refuse ⟨Nat.le_of_ble_eq_true rfl, Nat.le_of_ble_eq_true rfl⟩ xE0_ok trivial hA hK hP hD hS [0, 5] [1, 2, 3, 4, 6, 7, 8, 9, 10, 11, 12, 13] [12, 0, 1, 2, 3, 13, 4, 5, 6, 7, 8, 9, 10, 11] rfl rfl rfl rfl rfl rfl rfl rfl rfl rfl hl.1 rfl (Nat.le_of_ble_eq_true rfl) ⟨Nat.zero_le _, Nat.zero_le _⟩ d_X_seats_14 (fun H locs hP hD hS => ?_)
    have hq := Option.some.inj hf
    subst hq
    exact hret _ _ _ _ _ d_X_seats_17 rfl rfl hP hD hS
abbrev w_X_seat (cI cJ cC : ClassId) (a_h a_h_now a_h_kept a_h_letters a_h_numbers a_h_refusals a_h_mind a_h_parts a_h_past a_h_seating a_h_now_kinds a_h_now_sweets a_h_now_settings a_h_now_heaps a_h_seating_bestOrder a_h_seating_order a_h_seating_trial a_h_seating_trial_kinds a_h_seating_trial_sweets a_h_seating_trial_settings a_h_seating_trial_heaps : Nat) (y_h_isKept : Int32) (y_h_numberCount : Int32) (p_h_now_children : Int32) (p_h_now_strokes : Int32) (p_h_now_gave : Int32) (p_h_now_threw : Int32) (p_h_now_kinds : (Nat → Int32)) (p_h_now_sweets : (Nat → Int32)) (p_h_now_settings : (Nat → Int32)) (p_h_refusals : (Nat → Int32)) (p_h_seating_bestOrder : (Nat → Int32)) (p_h_seating_order : (Nat → Int32)) (p_h_seating_trial_children : Int32) (p_h_seating_trial_strokes : Int32) (p_h_seating_trial_gave : Int32) (p_h_seating_trial_threw : Int32) (p_h_seating_trial_kinds : (Nat → Int32)) (p_h_seating_trial_sweets : (Nat → Int32)) (p_h_seating_trial_settings : (Nat → Int32)) (p_h_seating_trial_heaps : (Nat → Int32)) : va_W := [(a_h, .inr (0, [.ref a_h_now, .ref a_h_kept, .int y_h_isKept, .ref a_h_letters, .ref a_h_numbers, .int y_h_numberCount, .ref a_h_refusals, .ref a_h_mind, .ref a_h_parts, .ref a_h_past, .ref a_h_seating])), (a_h_now, .inr (1, [.ref a_h_now_kinds, .ref a_h_now_sweets, .ref a_h_now_settings, .int p_h_now_children, .int p_h_now_strokes, .int p_h_now_gave, .int p_h_now_threw, .ref a_h_now_heaps])), (a_h_now_kinds, .inl (cI, (8, .inl p_h_now_kinds))), (a_h_now_sweets, .inl (cI, (8, .inl p_h_now_sweets))), (a_h_now_settings, .inl (cI, (3, .inl p_h_now_settings))), (a_h_refusals, .inl (cI, (7, .inl p_h_refusals))), (a_h_seating, .inr (6, [.ref a_h_seating_bestOrder, .ref a_h_seating_order, .ref a_h_seating_trial])), (a_h_seating_bestOrder, .inl (cI, (6, .inl p_h_seating_bestOrder))), (a_h_seating_order, .inl (cI, (6, .inl p_h_seating_order))), (a_h_seating_trial, .inr (1, [.ref a_h_seating_trial_kinds, .ref a_h_seating_trial_sweets, .ref a_h_seating_trial_settings, .int p_h_seating_trial_children, .int p_h_seating_trial_strokes, .int p_h_seating_trial_gave, .int p_h_seating_trial_threw, .ref a_h_seating_trial_heaps])), (a_h_seating_trial_kinds, .inl (cI, (8, .inl p_h_seating_trial_kinds))), (a_h_seating_trial_sweets, .inl (cI, (8, .inl p_h_seating_trial_sweets))), (a_h_seating_trial_settings, .inl (cI, (3, .inl p_h_seating_trial_settings))), (a_h_seating_trial_heaps, .inl (cI, (8, .inl p_h_seating_trial_heaps)))]
theorem d_X_seat_0 : decode b_X_seat 0 = .ok (.aload_n 0, 1) := by decide +kernel
theorem d_X_seat_1 : decode b_X_seat 1 = .ok (.iload_n 1, 1) := by decide +kernel
theorem d_X_seat_2 : decode b_X_seat 2 = .ok (.iload_n 2, 1) := by decide +kernel
theorem d_X_seat_3 : decode b_X_seat 3 = .ok (.iload_n 3, 1) := by decide +kernel
theorem d_X_seat_4 : decode b_X_seat 4 = .ok (.invokevirtual 198, 3) := by decide +kernel
theorem d_X_seat_7 : decode b_X_seat 7 = .ok (.istore 4, 2) := by decide +kernel
theorem d_X_seat_9 : decode b_X_seat 9 = .ok (.iload 4, 2) := by decide +kernel
theorem d_X_seat_11 : decode b_X_seat 11 = .ok (.ifCond .eq 10, 3) := by decide +kernel
theorem d_X_seat_14 : decode b_X_seat 14 = .ok (.aload_n 0, 1) := by decide +kernel
theorem d_X_seat_15 : decode b_X_seat 15 = .ok (.iload 4, 2) := by decide +kernel
theorem d_X_seat_17 : decode b_X_seat 17 = .ok (.invokevirtual 69, 3) := by decide +kernel
theorem d_X_seat_20 : decode b_X_seat 20 = .ok (.ireturn, 1) := by decide +kernel
theorem d_X_seat_21 : decode b_X_seat 21 = .ok (.iload_n 3, 1) := by decide +kernel
theorem d_X_seat_22 : decode b_X_seat 22 = .ok (.aload_n 0, 1) := by decide +kernel
theorem d_X_seat_23 : decode b_X_seat 23 = .ok (.getfield 10, 3) := by decide +kernel
theorem d_X_seat_26 : decode b_X_seat 26 = .ok (.getfield 121, 3) := by decide +kernel
theorem d_X_seat_29 : decode b_X_seat 29 = .ok (.if_icmp .lt 6, 3) := by decide +kernel
theorem d_X_seat_32 : decode b_X_seat 32 = .ok (.bipush (-9), 2) := by decide +kernel
theorem d_X_seat_34 : decode b_X_seat 34 = .ok (.ireturn, 1) := by decide +kernel
theorem d_X_seat_35 : decode b_X_seat 35 = .ok (.aload_n 0, 1) := by decide +kernel
theorem d_X_seat_36 : decode b_X_seat 36 = .ok (.getfield 65, 3) := by decide +kernel
theorem d_X_seat_39 : decode b_X_seat 39 = .ok (.aload_n 0, 1) := by decide +kernel
theorem d_X_seat_40 : decode b_X_seat 40 = .ok (.getfield 10, 3) := by decide +kernel
theorem d_X_seat_43 : decode b_X_seat 43 = .ok (.iload_n 1, 1) := by decide +kernel
theorem d_X_seat_44 : decode b_X_seat 44 = .ok (.iload_n 2, 1) := by decide +kernel
theorem d_X_seat_45 : decode b_X_seat 45 = .ok (.invokevirtual 201, 3) := by decide +kernel
theorem d_X_seat_48 : decode b_X_seat 48 = .ok (.pop, 1) := by decide +kernel
theorem d_X_seat_49 : decode b_X_seat 49 = .ok (.aload_n 0, 1) := by decide +kernel
theorem d_X_seat_50 : decode b_X_seat 50 = .ok (.getfield 65, 3) := by decide +kernel
theorem d_X_seat_53 : decode b_X_seat 53 = .ok (.getfield 204, 3) := by decide +kernel
theorem d_X_seat_56 : decode b_X_seat 56 = .ok (.iload_n 3, 1) := by decide +kernel
theorem d_X_seat_57 : decode b_X_seat 57 = .ok (.iaload, 1) := by decide +kernel
theorem d_X_seat_58 : decode b_X_seat 58 = .ok (.ireturn, 1) := by decide +kernel
set_option maxHeartbeats 4000000 in
set_option maxRecDepth 100000 in
theorem c_X_seat {l : Launch} {D : va_G} {cI cJ cC : ClassId} (a_h a_h_now a_h_kept a_h_letters a_h_numbers a_h_refusals a_h_mind a_h_parts a_h_past a_h_seating a_h_now_kinds a_h_now_sweets a_h_now_settings a_h_now_heaps a_h_seating_bestOrder a_h_seating_order a_h_seating_trial a_h_seating_trial_kinds a_h_seating_trial_sweets a_h_seating_trial_settings a_h_seating_trial_heaps : Nat) (y_h_isKept : Int32) (y_h_numberCount : Int32) {z_h_now : RS} {z_h_refusals : (Nat → Int32)} {z_h_seating_bestOrder : (Nat → Int32)} {z_h_seating_order : (Nat → Int32)} {z_h_seating_trial : RS} {x1 : Int32} {x2 : Int32} {x3 : Int32} {q : Int32 × (Nat → Int32) × (Nat → Int32) × (Nat → Int32) × RS} (hf : f_X_seat z_h_now z_h_refusals z_h_seating_bestOrder z_h_seating_order z_h_seating_trial x1 x2 x3 = some q) : xI l y_X_seat b_X_seat 5 .int 7 162 D (tyK cI cJ cC) xE0 [.ref a_h, .int x1, .int x2, .int x3] (w_X_seat cI cJ cC a_h a_h_now a_h_kept a_h_letters a_h_numbers a_h_refusals a_h_mind a_h_parts a_h_past a_h_seating a_h_now_kinds a_h_now_sweets a_h_now_settings a_h_now_heaps a_h_seating_bestOrder a_h_seating_order a_h_seating_trial a_h_seating_trial_kinds a_h_seating_trial_sweets a_h_seating_trial_settings a_h_seating_trial_heaps y_h_isKept y_h_numberCount (r_children z_h_now) (r_strokes z_h_now) (r_gave z_h_now) (r_threw z_h_now) (r_kinds z_h_now) (r_sweets z_h_now) (r_settings z_h_now) z_h_refusals z_h_seating_bestOrder z_h_seating_order (r_children z_h_seating_trial) (r_strokes z_h_seating_trial) (r_gave z_h_seating_trial) (r_threw z_h_seating_trial) (r_kinds z_h_seating_trial) (r_sweets z_h_seating_trial) (r_settings z_h_seating_trial) (r_heaps z_h_seating_trial)) q.1 (w_X_seat cI cJ cC a_h a_h_now a_h_kept a_h_letters a_h_numbers a_h_refusals a_h_mind a_h_parts a_h_past a_h_seating a_h_now_kinds a_h_now_sweets a_h_now_settings a_h_now_heaps a_h_seating_bestOrder a_h_seating_order a_h_seating_trial a_h_seating_trial_kinds a_h_seating_trial_sweets a_h_seating_trial_settings a_h_seating_trial_heaps y_h_isKept y_h_numberCount (r_children z_h_now) (r_strokes z_h_now) (r_gave z_h_now) (r_threw z_h_now) (r_kinds z_h_now) (r_sweets z_h_now) (r_settings z_h_now) q.2.1 q.2.2.1 q.2.2.2.1 (r_children q.2.2.2.2) (r_strokes q.2.2.2.2) (r_gave q.2.2.2.2) (r_threw q.2.2.2.2) (r_kinds q.2.2.2.2) (r_sweets q.2.2.2.2) (r_settings q.2.2.2.2) (r_heaps q.2.2.2.2)) := by
  refine xI_of (by decide) (Nat.le_of_ble_eq_true rfl) ?_
  intro p e s m args below meth c A Q hx hb hml hown hT hA hP hD hK hS hE hret ls hl
  have hown : s.vm.findClass R_X = some m.cls := hown
  have hl : lv_has ls 5 [(0, .ref a_h), (1, .int x1), (2, .int x2), (3, .int x3)] := hl
  unfold f_X_seat at hf
  refine lv_aload_n hx hb d_X_seat_0 rfl (lv_at hl 0 rfl) ?_
  refine lv_iload_n hx hb d_X_seat_1 rfl (lv_at hl 1 rfl) ?_
  refine lv_iload_n hx hb d_X_seat_2 rfl (lv_at hl 2 rfl) ?_
  refine lv_iload_n hx hb d_X_seat_3 rfl (lv_at hl 3 rfl) ?_
  obtain ⟨q1, hq1, hf⟩ := io_b hf
  refine xcVI (wc := (w_X_refusalOfSeats cI cJ cC a_h a_h_now a_h_kept a_h_letters a_h_numbers a_h_refusals a_h_mind a_h_parts a_h_past a_h_seating a_h_now_kinds a_h_now_sweets a_h_now_settings a_h_now_heaps y_h_isKept y_h_numberCount (r_children z_h_now) (r_strokes z_h_now) (r_gave z_h_now) (r_threw z_h_now))) (wc' := (w_X_refusalOfSeats cI cJ cC a_h a_h_now a_h_kept a_h_letters a_h_numbers a_h_refusals a_h_mind a_h_parts a_h_past a_h_seating a_h_now_kinds a_h_now_sweets a_h_now_settings a_h_now_heaps y_h_isKept y_h_numberCount (r_children z_h_now) (r_strokes z_h_now) (r_gave z_h_now) (r_threw z_h_now))) (ws' := (w_X_seat cI cJ cC a_h a_h_now a_h_kept a_h_letters a_h_numbers a_h_refusals a_h_mind a_h_parts a_h_past a_h_seating a_h_now_kinds a_h_now_sweets a_h_now_settings a_h_now_heaps a_h_seating_bestOrder a_h_seating_order a_h_seating_trial a_h_seating_trial_kinds a_h_seating_trial_sweets a_h_seating_trial_settings a_h_seating_trial_heaps y_h_isKept y_h_numberCount (r_children z_h_now) (r_strokes z_h_now) (r_gave z_h_now) (r_threw z_h_now) (r_kinds z_h_now) (r_sweets z_h_now) (r_settings z_h_now) z_h_refusals z_h_seating_bestOrder z_h_seating_order (r_children z_h_seating_trial) (r_strokes z_h_seating_trial) (r_gave z_h_seating_trial) (r_threw z_h_seating_trial) (r_kinds z_h_seating_trial) (r_sweets z_h_seating_trial) (r_settings z_h_seating_trial) (r_heaps z_h_seating_trial))) (As := [.int x1, .int x2, .int x3]) (rest := []) hx hb hml hown hT (c_X_refusalOfSeats (z_h_now := z_h_now) a_h a_h_now a_h_kept a_h_letters a_h_numbers a_h_refusals a_h_mind a_h_parts a_h_past a_h_seating a_h_now_kinds a_h_now_sweets a_h_now_settings a_h_now_heaps y_h_isKept y_h_numberCount hq1) k_635 k_637 ks_19 k_1 k_638 hd_X_refusalOfSeats ⟨Nat.le_of_ble_eq_true rfl, Nat.le_of_ble_eq_true rfl⟩ xE0_ok trivial hA hK hP hD hS [0, 1] [2, 3, 4, 5, 6, 7, 8, 9, 10, 11, 12, 13] [12, 13, 0, 1, 2, 3, 4, 5, 6, 7, 8, 9, 10, 11] rfl rfl rfl rfl rfl rfl rfl rfl rfl rfl hl.1 rfl (Nat.le_of_ble_eq_true rfl) ⟨Nat.zero_le _, Nat.zero_le _⟩ d_X_seat_4 (fun H locs hP hD hS => ?_)
  refine lv_istore (lv' := [(4, .int q1), (0, .ref a_h), (1, .int x1), (2, .int x2), (3, .int x3)]) hx hb d_X_seat_7 hl (by decide) rfl (fun ls hl => ?_)
  refine lv_iload hx hb d_X_seat_9 (lv_at hl 0 rfl) ?_
  refine lv_if_eq (tgt := 21) hx hb d_X_seat_11 (by decide) (fun c2 => ?_) (fun c2 => ?_)
  · have hf := io_t hf c2
    refine lv_iload_n hx hb d_X_seat_21 rfl (lv_at hl 4 rfl) ?_
    refine lv_aload_n hx hb d_X_seat_22 rfl (lv_at hl 1 rfl) ?_
    refine va_get hx hb hT i_X hown hK hP 0 rfl rfl 0 (Nat.le_of_ble_eq_true rfl) (hT _ k_168) (fun _ h => h) rfl d_X_seat_23 ?_
    refine va_get hx hb hT i_Ring hown hK hP 1 rfl rfl 3 (Nat.le_of_ble_eq_true rfl) (hT _ k_48) (fun _ h => h) rfl d_X_seat_26 ?_
    refine lv_icmp_lt (tgt := 35) hx hb d_X_seat_29 (by decide) (fun c3 => ?_) (fun c3 => ?_)
    · have hf := io_t hf c3
      refine lv_aload_n hx hb d_X_seat_35 rfl (lv_at hl 1 rfl) ?_
      refine va_get hx hb hT i_X hown hK hP 0 rfl rfl 10 (Nat.le_of_ble_eq_true rfl) (hT _ k_178) (fun _ h => h) rfl d_X_seat_36 ?_
      refine lv_aload_n hx hb d_X_seat_39 rfl (lv_at hl 1 rfl) ?_
      refine va_get hx hb hT i_X hown hK hP 0 rfl rfl 0 (Nat.le_of_ble_eq_true rfl) (hT _ k_168) (fun _ h => h) rfl d_X_seat_40 ?_
      refine lv_iload_n hx hb d_X_seat_43 rfl (lv_at hl 2 rfl) ?_
      refine lv_iload_n hx hb d_X_seat_44 rfl (lv_at hl 3 rfl) ?_
      obtain ⟨q4, hq4, hf⟩ := io_b hf
      refine xcVI (wc := (w_Seating_best cI cJ cC a_h_seating a_h_seating_bestOrder a_h_seating_order a_h_seating_trial a_h_seating_trial_kinds a_h_seating_trial_sweets a_h_seating_trial_settings a_h_seating_trial_heaps a_h_now a_h_now_kinds a_h_now_sweets a_h_now_settings a_h_now_heaps z_h_seating_bestOrder z_h_seating_order (r_children z_h_seating_trial) (r_strokes z_h_seating_trial) (r_gave z_h_seating_trial) (r_threw z_h_seating_trial) (r_kinds z_h_seating_trial) (r_sweets z_h_seating_trial) (r_settings z_h_seating_trial) (r_heaps z_h_seating_trial) (r_children z_h_now) (r_strokes z_h_now) (r_gave z_h_now) (r_threw z_h_now) (r_kinds z_h_now) (r_sweets z_h_now) (r_settings z_h_now))) (wc' := (w_Seating_best cI cJ cC a_h_seating a_h_seating_bestOrder a_h_seating_order a_h_seating_trial a_h_seating_trial_kinds a_h_seating_trial_sweets a_h_seating_trial_settings a_h_seating_trial_heaps a_h_now a_h_now_kinds a_h_now_sweets a_h_now_settings a_h_now_heaps q4.2.1 q4.2.2.1 (r_children q4.2.2.2) (r_strokes q4.2.2.2) (r_gave q4.2.2.2) (r_threw q4.2.2.2) (r_kinds q4.2.2.2) (r_sweets q4.2.2.2) (r_settings q4.2.2.2) (r_heaps q4.2.2.2) (r_children z_h_now) (r_strokes z_h_now) (r_gave z_h_now) (r_threw z_h_now) (r_kinds z_h_now) (r_sweets z_h_now) (r_settings z_h_now))) (ws' := (w_X_seat cI cJ cC a_h a_h_now a_h_kept a_h_letters a_h_numbers a_h_refusals a_h_mind a_h_parts a_h_past a_h_seating a_h_now_kinds a_h_now_sweets a_h_now_settings a_h_now_heaps a_h_seating_bestOrder a_h_seating_order a_h_seating_trial a_h_seating_trial_kinds a_h_seating_trial_sweets a_h_seating_trial_settings a_h_seating_trial_heaps y_h_isKept y_h_numberCount (r_children z_h_now) (r_strokes z_h_now) (r_gave z_h_now) (r_threw z_h_now) (r_kinds z_h_now) (r_sweets z_h_now) (r_settings z_h_now) z_h_refusals q4.2.1 q4.2.2.1 (r_children q4.2.2.2) (r_strokes q4.2.2.2) (r_gave q4.2.2.2) (r_threw q4.2.2.2) (r_kinds q4.2.2.2) (r_sweets q4.2.2.2) (r_settings q4.2.2.2) (r_heaps q4.2.2.2))) (As := [.ref a_h_now, .int x1, .int x2]) (rest := []) hx hb hml hown hT (c_Seating_best (z_h_bestOrder := z_h_seating_bestOrder) (z_h_order := z_h_seating_order) (z_h_trial := z_h_seating_trial) (z_g1 := z_h_now) a_h_seating a_h_seating_bestOrder a_h_seating_order a_h_seating_trial a_h_seating_trial_kinds a_h_seating_trial_sweets a_h_seating_trial_settings a_h_seating_trial_heaps a_h_now a_h_now_kinds a_h_now_sweets a_h_now_settings a_h_now_heaps hq4) k_639 k_640 k_641 k_7 k_642 hd_Seating_best ⟨Nat.le_of_ble_eq_true rfl, Nat.le_of_ble_eq_true rfl⟩ xE0_ok trivial hA hK hP hD hS [6, 7, 8, 9, 10, 11, 12, 13, 1, 2, 3, 4] [0, 5] [0, 10, 11, 12, 13, 1, 2, 3, 4, 5, 6, 7, 8, 9] rfl rfl rfl rfl rfl rfl rfl rfl rfl rfl hl.1 rfl (Nat.le_of_ble_eq_true rfl) ⟨Nat.zero_le _, Nat.zero_le _⟩ d_X_seat_45 (fun H locs hP hD hS => ?_)
      refine lv_pop hx hb d_X_seat_48 rfl ?_
      refine lv_aload_n hx hb d_X_seat_49 rfl (lv_at hl 1 rfl) ?_
      refine va_get hx hb hT i_X hown hK hP 0 rfl rfl 10 (Nat.le_of_ble_eq_true rfl) (hT _ k_178) (fun _ h => h) rfl d_X_seat_50 ?_
      refine va_get hx hb hT i_Seating hown hK hP 6 rfl rfl 0 (Nat.le_of_ble_eq_true rfl) (hT _ k_158) (fun _ h => h) rfl d_X_seat_53 ?_
      refine lv_iload_n hx hb d_X_seat_56 rfl (lv_at hl 4 rfl) ?_
      obtain ⟨c5, hf⟩ := io_n hf
      refine x_iald hx hb hK hP 7 0 rfl rfl (j := x3.toNatClampNeg) rfl c5 d_X_seat_57 ?_
      have hq := Option.some.inj hf
      subst hq
      exact hret _ _ _ _ _ d_X_seat_58 rfl rfl hP hD hS
    · have hf := io_f hf c3
      refine lv_bipush (v := (-9)) hx hb d_X_seat_32 (by decide) ?_
      have hq := Option.some.inj hf
      subst hq
      exact hret _ _ _ _ _ d_X_seat_34 rfl rfl hP hD hS
  · have hf := io_f hf c2
    refine lv_aload_n hx hb d_X_seat_14 rfl (lv_at hl 1 rfl) ?_
    refine lv_iload hx hb d_X_seat_15 (lv_at hl 0 rfl) ?_
    obtain ⟨q6, hq6, hf⟩ := io_b hf
    refine xcVI (wc := (w_X_refuse cI cJ cC a_h a_h_now a_h_kept a_h_letters a_h_numbers a_h_refusals a_h_mind a_h_parts a_h_past a_h_seating y_h_isKept y_h_numberCount z_h_refusals)) (wc' := (w_X_refuse cI cJ cC a_h a_h_now a_h_kept a_h_letters a_h_numbers a_h_refusals a_h_mind a_h_parts a_h_past a_h_seating y_h_isKept y_h_numberCount q6.2)) (ws' := (w_X_seat cI cJ cC a_h a_h_now a_h_kept a_h_letters a_h_numbers a_h_refusals a_h_mind a_h_parts a_h_past a_h_seating a_h_now_kinds a_h_now_sweets a_h_now_settings a_h_now_heaps a_h_seating_bestOrder a_h_seating_order a_h_seating_trial a_h_seating_trial_kinds a_h_seating_trial_sweets a_h_seating_trial_settings a_h_seating_trial_heaps y_h_isKept y_h_numberCount (r_children z_h_now) (r_strokes z_h_now) (r_gave z_h_now) (r_threw z_h_now) (r_kinds z_h_now) (r_sweets z_h_now) (r_settings z_h_now) q6.2 z_h_seating_bestOrder z_h_seating_order (r_children z_h_seating_trial) (r_strokes z_h_seating_trial) (r_gave z_h_seating_trial) (r_threw z_h_seating_trial) (r_kinds z_h_seating_trial) (r_sweets z_h_seating_trial) (r_settings z_h_seating_trial) (r_heaps z_h_seating_trial))) (As := [.int q1]) (rest := []) hx hb hml hown hT (c_X_refuse (z_h_refusals := z_h_refusals) a_h a_h_now a_h_kept a_h_letters a_h_numbers a_h_refusals a_h_mind a_h_parts a_h_past a_h_seating y_h_isKept y_h_numberCount hq6) k_206 k_208 ks_0 k_1 k_209 hd_X_refuse ⟨Nat.le_of_ble_eq_true rfl, Nat.le_of_ble_eq_true rfl⟩ xE0_ok trivial hA hK hP hD hS [0, 5] [1, 2, 3, 4, 6, 7, 8, 9, 10, 11, 12, 13] [12, 0, 1, 2, 3, 13, 4, 5, 6, 7, 8, 9, 10, 11] rfl rfl rfl rfl rfl rfl rfl rfl rfl rfl hl.1 rfl (Nat.le_of_ble_eq_true rfl) ⟨Nat.zero_le _, Nat.zero_le _⟩ d_X_seat_17 (fun H locs hP hD hS => ?_)
    have hq := Option.some.inj hf
    subst hq
    exact hret _ _ _ _ _ d_X_seat_20 rfl rfl hP hD hS
abbrev w_X_hides (cI cJ cC : ClassId) (a_h a_h_now a_h_kept a_h_letters a_h_numbers a_h_refusals a_h_mind a_h_parts a_h_past a_h_seating a_h_now_kinds a_h_now_sweets a_h_now_settings a_h_now_heaps a_h_mind_one a_h_mind_two a_h_mind_one_kinds a_h_mind_one_sweets a_h_mind_one_settings a_h_mind_one_heaps a_h_mind_two_kinds a_h_mind_two_sweets a_h_mind_two_settings a_h_mind_two_heaps : Nat) (y_h_isKept : Int32) (y_h_numberCount : Int32) (y_h_mind_seed : Int32) (p_h_now_children : Int32) (p_h_now_strokes : Int32) (p_h_now_gave : Int32) (p_h_now_threw : Int32) (p_h_now_kinds : (Nat → Int32)) (p_h_now_sweets : (Nat → Int32)) (p_h_now_settings : (Nat → Int32)) (p_h_refusals : (Nat → Int32)) (p_h_mind_one_children : Int32) (p_h_mind_one_strokes : Int32) (p_h_mind_one_gave : Int32) (p_h_mind_one_threw : Int32) (p_h_mind_one_kinds : (Nat → Int32)) (p_h_mind_one_sweets : (Nat → Int32)) (p_h_mind_one_settings : (Nat → Int32)) (p_h_mind_one_heaps : (Nat → Int32)) (p_h_mind_two_children : Int32) (p_h_mind_two_strokes : Int32) (p_h_mind_two_gave : Int32) (p_h_mind_two_threw : Int32) (p_h_mind_two_kinds : (Nat → Int32)) (p_h_mind_two_sweets : (Nat → Int32)) (p_h_mind_two_settings : (Nat → Int32)) (p_h_mind_two_heaps : (Nat → Int32)) : va_W := [(a_h, .inr (0, [.ref a_h_now, .ref a_h_kept, .int y_h_isKept, .ref a_h_letters, .ref a_h_numbers, .int y_h_numberCount, .ref a_h_refusals, .ref a_h_mind, .ref a_h_parts, .ref a_h_past, .ref a_h_seating])), (a_h_now, .inr (1, [.ref a_h_now_kinds, .ref a_h_now_sweets, .ref a_h_now_settings, .int p_h_now_children, .int p_h_now_strokes, .int p_h_now_gave, .int p_h_now_threw, .ref a_h_now_heaps])), (a_h_now_kinds, .inl (cI, (8, .inl p_h_now_kinds))), (a_h_now_sweets, .inl (cI, (8, .inl p_h_now_sweets))), (a_h_now_settings, .inl (cI, (3, .inl p_h_now_settings))), (a_h_refusals, .inl (cI, (7, .inl p_h_refusals))), (a_h_mind, .inr (3, [.ref a_h_mind_one, .ref a_h_mind_two, .int y_h_mind_seed])), (a_h_mind_one, .inr (1, [.ref a_h_mind_one_kinds, .ref a_h_mind_one_sweets, .ref a_h_mind_one_settings, .int p_h_mind_one_children, .int p_h_mind_one_strokes, .int p_h_mind_one_gave, .int p_h_mind_one_threw, .ref a_h_mind_one_heaps])), (a_h_mind_one_kinds, .inl (cI, (8, .inl p_h_mind_one_kinds))), (a_h_mind_one_sweets, .inl (cI, (8, .inl p_h_mind_one_sweets))), (a_h_mind_one_settings, .inl (cI, (3, .inl p_h_mind_one_settings))), (a_h_mind_one_heaps, .inl (cI, (8, .inl p_h_mind_one_heaps))), (a_h_mind_two, .inr (1, [.ref a_h_mind_two_kinds, .ref a_h_mind_two_sweets, .ref a_h_mind_two_settings, .int p_h_mind_two_children, .int p_h_mind_two_strokes, .int p_h_mind_two_gave, .int p_h_mind_two_threw, .ref a_h_mind_two_heaps])), (a_h_mind_two_kinds, .inl (cI, (8, .inl p_h_mind_two_kinds))), (a_h_mind_two_sweets, .inl (cI, (8, .inl p_h_mind_two_sweets))), (a_h_mind_two_settings, .inl (cI, (3, .inl p_h_mind_two_settings))), (a_h_mind_two_heaps, .inl (cI, (8, .inl p_h_mind_two_heaps)))]
theorem d_X_hides_0 : decode b_X_hides 0 = .ok (.aload_n 0, 1) := by decide +kernel
theorem d_X_hides_1 : decode b_X_hides 1 = .ok (.getfield 10, 3) := by decide +kernel
theorem d_X_hides_4 : decode b_X_hides 4 = .ok (.iload_n 1, 1) := by decide +kernel
theorem d_X_hides_5 : decode b_X_hides 5 = .ok (.invokevirtual 84, 3) := by decide +kernel
theorem d_X_hides_8 : decode b_X_hides 8 = .ok (.ifCond .eq 13, 3) := by decide +kernel
theorem d_X_hides_11 : decode b_X_hides 11 = .ok (.iload_n 2, 1) := by decide +kernel
theorem d_X_hides_12 : decode b_X_hides 12 = .ok (.iconst 0, 1) := by decide +kernel
theorem d_X_hides_13 : decode b_X_hides 13 = .ok (.bipush 50, 2) := by decide +kernel
theorem d_X_hides_15 : decode b_X_hides 15 = .ok (.invokestatic 100, 3) := by decide +kernel
theorem d_X_hides_18 : decode b_X_hides 18 = .ok (.goto 4, 3) := by decide +kernel
theorem d_X_hides_21 : decode b_X_hides 21 = .ok (.iconst (-1), 1) := by decide +kernel
theorem d_X_hides_22 : decode b_X_hides 22 = .ok (.istore 4, 2) := by decide +kernel
theorem d_X_hides_24 : decode b_X_hides 24 = .ok (.iload 4, 2) := by decide +kernel
theorem d_X_hides_26 : decode b_X_hides 26 = .ok (.ifCond .eq 13, 3) := by decide +kernel
theorem d_X_hides_29 : decode b_X_hides 29 = .ok (.ldc 207, 2) := by decide +kernel
theorem d_X_hides_31 : decode b_X_hides 31 = .ok (.aload_n 0, 1) := by decide +kernel
theorem d_X_hides_32 : decode b_X_hides 32 = .ok (.iload 4, 2) := by decide +kernel
theorem d_X_hides_34 : decode b_X_hides 34 = .ok (.invokevirtual 69, 3) := by decide +kernel
theorem d_X_hides_37 : decode b_X_hides 37 = .ok (.isub, 1) := by decide +kernel
theorem d_X_hides_38 : decode b_X_hides 38 = .ok (.ireturn, 1) := by decide +kernel
theorem d_X_hides_39 : decode b_X_hides 39 = .ok (.aload_n 0, 1) := by decide +kernel
theorem d_X_hides_40 : decode b_X_hides 40 = .ok (.getfield 44, 3) := by decide +kernel
theorem d_X_hides_43 : decode b_X_hides 43 = .ok (.aload_n 0, 1) := by decide +kernel
theorem d_X_hides_44 : decode b_X_hides 44 = .ok (.getfield 10, 3) := by decide +kernel
theorem d_X_hides_47 : decode b_X_hides 47 = .ok (.iload_n 1, 1) := by decide +kernel
theorem d_X_hides_48 : decode b_X_hides 48 = .ok (.iload_n 3, 1) := by decide +kernel
theorem d_X_hides_49 : decode b_X_hides 49 = .ok (.ifCond .eq 7, 3) := by decide +kernel
theorem d_X_hides_52 : decode b_X_hides 52 = .ok (.iconst 4, 1) := by decide +kernel
theorem d_X_hides_53 : decode b_X_hides 53 = .ok (.goto 4, 3) := by decide +kernel
theorem d_X_hides_56 : decode b_X_hides 56 = .ok (.iconst 3, 1) := by decide +kernel
theorem d_X_hides_57 : decode b_X_hides 57 = .ok (.iload_n 2, 1) := by decide +kernel
theorem d_X_hides_58 : decode b_X_hides 58 = .ok (.invokevirtual 208, 3) := by decide +kernel
theorem d_X_hides_61 : decode b_X_hides 61 = .ok (.ireturn, 1) := by decide +kernel
set_option maxHeartbeats 4000000 in
set_option maxRecDepth 100000 in
theorem c_X_hides {l : Launch} {D : va_G} {cI cJ cC : ClassId} (a_h a_h_now a_h_kept a_h_letters a_h_numbers a_h_refusals a_h_mind a_h_parts a_h_past a_h_seating a_h_now_kinds a_h_now_sweets a_h_now_settings a_h_now_heaps a_h_mind_one a_h_mind_two a_h_mind_one_kinds a_h_mind_one_sweets a_h_mind_one_settings a_h_mind_one_heaps a_h_mind_two_kinds a_h_mind_two_sweets a_h_mind_two_settings a_h_mind_two_heaps : Nat) (y_h_isKept : Int32) (y_h_numberCount : Int32) (y_h_mind_seed : Int32) {z_h_now : RS} {z_h_refusals : (Nat → Int32)} {z_h_mind_one : RS} {z_h_mind_two : RS} {x1 : Int32} {x2 : Int32} {x3 : Int32} {q : Int32 × (Nat → Int32) × RS × RS} (hf : f_X_hides z_h_now z_h_refusals z_h_mind_one z_h_mind_two x1 x2 x3 = some q) : xI l y_X_hides b_X_hides 5 .int 6 136 D (tyK cI cJ cC) xE0 [.ref a_h, .int x1, .int x2, .int x3] (w_X_hides cI cJ cC a_h a_h_now a_h_kept a_h_letters a_h_numbers a_h_refusals a_h_mind a_h_parts a_h_past a_h_seating a_h_now_kinds a_h_now_sweets a_h_now_settings a_h_now_heaps a_h_mind_one a_h_mind_two a_h_mind_one_kinds a_h_mind_one_sweets a_h_mind_one_settings a_h_mind_one_heaps a_h_mind_two_kinds a_h_mind_two_sweets a_h_mind_two_settings a_h_mind_two_heaps y_h_isKept y_h_numberCount y_h_mind_seed (r_children z_h_now) (r_strokes z_h_now) (r_gave z_h_now) (r_threw z_h_now) (r_kinds z_h_now) (r_sweets z_h_now) (r_settings z_h_now) z_h_refusals (r_children z_h_mind_one) (r_strokes z_h_mind_one) (r_gave z_h_mind_one) (r_threw z_h_mind_one) (r_kinds z_h_mind_one) (r_sweets z_h_mind_one) (r_settings z_h_mind_one) (r_heaps z_h_mind_one) (r_children z_h_mind_two) (r_strokes z_h_mind_two) (r_gave z_h_mind_two) (r_threw z_h_mind_two) (r_kinds z_h_mind_two) (r_sweets z_h_mind_two) (r_settings z_h_mind_two) (r_heaps z_h_mind_two)) q.1 (w_X_hides cI cJ cC a_h a_h_now a_h_kept a_h_letters a_h_numbers a_h_refusals a_h_mind a_h_parts a_h_past a_h_seating a_h_now_kinds a_h_now_sweets a_h_now_settings a_h_now_heaps a_h_mind_one a_h_mind_two a_h_mind_one_kinds a_h_mind_one_sweets a_h_mind_one_settings a_h_mind_one_heaps a_h_mind_two_kinds a_h_mind_two_sweets a_h_mind_two_settings a_h_mind_two_heaps y_h_isKept y_h_numberCount y_h_mind_seed (r_children z_h_now) (r_strokes z_h_now) (r_gave z_h_now) (r_threw z_h_now) (r_kinds z_h_now) (r_sweets z_h_now) (r_settings z_h_now) q.2.1 (r_children q.2.2.1) (r_strokes q.2.2.1) (r_gave q.2.2.1) (r_threw q.2.2.1) (r_kinds q.2.2.1) (r_sweets q.2.2.1) (r_settings q.2.2.1) (r_heaps q.2.2.1) (r_children q.2.2.2) (r_strokes q.2.2.2) (r_gave q.2.2.2) (r_threw q.2.2.2) (r_kinds q.2.2.2) (r_sweets q.2.2.2) (r_settings q.2.2.2) (r_heaps q.2.2.2)) := by
  refine xI_of (by decide) (Nat.le_of_ble_eq_true rfl) ?_
  intro p e s m args below meth c A Q hx hb hml hown hT hA hP hD hK hS hE hret ls hl
  have hown : s.vm.findClass R_X = some m.cls := hown
  have hl : lv_has ls 5 [(0, .ref a_h), (1, .int x1), (2, .int x2), (3, .int x3)] := hl
  unfold f_X_hides at hf
  refine lv_aload_n hx hb d_X_hides_0 rfl (lv_at hl 0 rfl) ?_
  refine va_get hx hb hT i_X hown hK hP 0 rfl rfl 0 (Nat.le_of_ble_eq_true rfl) (hT _ k_168) (fun _ h => h) rfl d_X_hides_1 ?_
  refine lv_iload_n hx hb d_X_hides_4 rfl (lv_at hl 1 rfl) ?_
  obtain ⟨q1, hq1, hf⟩ := io_b hf
  refine xcVI (wc := (w_Ring_has cI cJ cC a_h_now a_h_now_kinds a_h_now_sweets a_h_now_settings a_h_now_heaps (r_children z_h_now) (r_strokes z_h_now) (r_gave z_h_now) (r_threw z_h_now))) (wc' := (w_Ring_has cI cJ cC a_h_now a_h_now_kinds a_h_now_sweets a_h_now_settings a_h_now_heaps (r_children z_h_now) (r_strokes z_h_now) (r_gave z_h_now) (r_threw z_h_now))) (ws' := (w_X_hides cI cJ cC a_h a_h_now a_h_kept a_h_letters a_h_numbers a_h_refusals a_h_mind a_h_parts a_h_past a_h_seating a_h_now_kinds a_h_now_sweets a_h_now_settings a_h_now_heaps a_h_mind_one a_h_mind_two a_h_mind_one_kinds a_h_mind_one_sweets a_h_mind_one_settings a_h_mind_one_heaps a_h_mind_two_kinds a_h_mind_two_sweets a_h_mind_two_settings a_h_mind_two_heaps y_h_isKept y_h_numberCount y_h_mind_seed (r_children z_h_now) (r_strokes z_h_now) (r_gave z_h_now) (r_threw z_h_now) (r_kinds z_h_now) (r_sweets z_h_now) (r_settings z_h_now) z_h_refusals (r_children z_h_mind_one) (r_strokes z_h_mind_one) (r_gave z_h_mind_one) (r_threw z_h_mind_one) (r_kinds z_h_mind_one) (r_sweets z_h_mind_one) (r_settings z_h_mind_one) (r_heaps z_h_mind_one) (r_children z_h_mind_two) (r_strokes z_h_mind_two) (r_gave z_h_mind_two) (r_threw z_h_mind_two) (r_kinds z_h_mind_two) (r_sweets z_h_mind_two) (r_settings z_h_mind_two) (r_heaps z_h_mind_two))) (As := [.int x1]) (rest := []) hx hb hml hown hT (c_Ring_has (z_h := z_h_now) a_h_now a_h_now_kinds a_h_now_sweets a_h_now_settings a_h_now_heaps hq1) k_364 k_365 k_366 k_2 k_367 hd_Ring_has ⟨Nat.le_of_ble_eq_true rfl, Nat.le_of_ble_eq_true rfl⟩ xE0_ok trivial hA hK hP hD hS [1] [0, 2, 3, 4, 5, 6, 7, 8, 9, 10, 11, 12, 13, 14, 15, 16] [0, 16, 1, 2, 3, 4, 5, 6, 7, 8, 9, 10, 11, 12, 13, 14, 15] rfl rfl rfl rfl rfl rfl rfl rfl rfl rfl hl.1 rfl (Nat.le_of_ble_eq_true rfl) ⟨Nat.zero_le _, Nat.zero_le _⟩ d_X_hides_5 (fun H locs hP hD hS => ?_)
  refine lv_if_eq (tgt := 21) hx hb d_X_hides_8 (by decide) (fun c2 => ?_) (fun c2 => ?_)
  · have hf := io_t hf c2
    refine lv_iconst (v := (-1)) hx hb d_X_hides_21 (by decide) ?_
    refine lv_istore (lv' := [(4, .int (-1)), (0, .ref a_h), (1, .int x1), (2, .int x2), (3, .int x3)]) hx hb d_X_hides_22 hl (by decide) rfl (fun ls hl => ?_)
    refine lv_iload hx hb d_X_hides_24 (lv_at hl 0 rfl) ?_
    refine lv_if_eq (tgt := 39) hx hb d_X_hides_26 (by decide) (fun c => absurd c (show ¬ ((-1) : Int32) = 0 from by decide +kernel)) (fun _ => ?_)
    refine lv_ldc (v := 1000000000) hx hb hown (hT _ k_667) d_X_hides_29 ?_
    refine lv_aload_n hx hb d_X_hides_31 rfl (lv_at hl 1 rfl) ?_
    refine lv_iload hx hb d_X_hides_32 (lv_at hl 0 rfl) ?_
    obtain ⟨q3, hq3, hf⟩ := io_b hf
    refine xcVI (wc := (w_X_refuse cI cJ cC a_h a_h_now a_h_kept a_h_letters a_h_numbers a_h_refusals a_h_mind a_h_parts a_h_past a_h_seating y_h_isKept y_h_numberCount z_h_refusals)) (wc' := (w_X_refuse cI cJ cC a_h a_h_now a_h_kept a_h_letters a_h_numbers a_h_refusals a_h_mind a_h_parts a_h_past a_h_seating y_h_isKept y_h_numberCount q3.2)) (ws' := (w_X_hides cI cJ cC a_h a_h_now a_h_kept a_h_letters a_h_numbers a_h_refusals a_h_mind a_h_parts a_h_past a_h_seating a_h_now_kinds a_h_now_sweets a_h_now_settings a_h_now_heaps a_h_mind_one a_h_mind_two a_h_mind_one_kinds a_h_mind_one_sweets a_h_mind_one_settings a_h_mind_one_heaps a_h_mind_two_kinds a_h_mind_two_sweets a_h_mind_two_settings a_h_mind_two_heaps y_h_isKept y_h_numberCount y_h_mind_seed (r_children z_h_now) (r_strokes z_h_now) (r_gave z_h_now) (r_threw z_h_now) (r_kinds z_h_now) (r_sweets z_h_now) (r_settings z_h_now) q3.2 (r_children z_h_mind_one) (r_strokes z_h_mind_one) (r_gave z_h_mind_one) (r_threw z_h_mind_one) (r_kinds z_h_mind_one) (r_sweets z_h_mind_one) (r_settings z_h_mind_one) (r_heaps z_h_mind_one) (r_children z_h_mind_two) (r_strokes z_h_mind_two) (r_gave z_h_mind_two) (r_threw z_h_mind_two) (r_kinds z_h_mind_two) (r_sweets z_h_mind_two) (r_settings z_h_mind_two) (r_heaps z_h_mind_two))) (As := [.int (-1)]) (rest := [.int 1000000000]) hx hb hml hown hT (c_X_refuse (z_h_refusals := z_h_refusals) a_h a_h_now a_h_kept a_h_letters a_h_numbers a_h_refusals a_h_mind a_h_parts a_h_past a_h_seating y_h_isKept y_h_numberCount hq3) k_206 k_208 ks_0 k_1 k_209 hd_X_refuse ⟨Nat.le_of_ble_eq_true rfl, Nat.le_of_ble_eq_true rfl⟩ xE0_ok trivial hA hK hP hD hS [0, 5] [1, 2, 3, 4, 6, 7, 8, 9, 10, 11, 12, 13, 14, 15, 16] [15, 0, 1, 2, 3, 16, 4, 5, 6, 7, 8, 9, 10, 11, 12, 13, 14] rfl rfl rfl rfl rfl rfl rfl rfl rfl rfl hl.1 rfl (Nat.le_of_ble_eq_true rfl) ⟨Nat.zero_le _, Nat.zero_le _⟩ d_X_hides_34 (fun H locs hP hD hS => ?_)
    refine lv_isub hx hb d_X_hides_37 ?_
    have hq := Option.some.inj hf
    subst hq
    exact hret _ _ _ _ _ d_X_hides_38 rfl rfl hP hD hS
  · have hf := io_f hf c2
    refine lv_iload_n hx hb d_X_hides_11 rfl (lv_at hl 2 rfl) ?_
    refine lv_iconst (v := 0) hx hb d_X_hides_12 (by decide) ?_
    refine lv_bipush (v := 50) hx hb d_X_hides_13 (by decide) ?_
    obtain ⟨q4, hq4, hf⟩ := io_b hf
    refine xcSI (wc := []) (wc' := []) (ws' := (w_X_hides cI cJ cC a_h a_h_now a_h_kept a_h_letters a_h_numbers a_h_refusals a_h_mind a_h_parts a_h_past a_h_seating a_h_now_kinds a_h_now_sweets a_h_now_settings a_h_now_heaps a_h_mind_one a_h_mind_two a_h_mind_one_kinds a_h_mind_one_sweets a_h_mind_one_settings a_h_mind_one_heaps a_h_mind_two_kinds a_h_mind_two_sweets a_h_mind_two_settings a_h_mind_two_heaps y_h_isKept y_h_numberCount y_h_mind_seed (r_children z_h_now) (r_strokes z_h_now) (r_gave z_h_now) (r_threw z_h_now) (r_kinds z_h_now) (r_sweets z_h_now) (r_settings z_h_now) z_h_refusals (r_children z_h_mind_one) (r_strokes z_h_mind_one) (r_gave z_h_mind_one) (r_threw z_h_mind_one) (r_kinds z_h_mind_one) (r_sweets z_h_mind_one) (r_settings z_h_mind_one) (r_heaps z_h_mind_one) (r_children z_h_mind_two) (r_strokes z_h_mind_two) (r_gave z_h_mind_two) (r_threw z_h_mind_two) (r_kinds z_h_mind_two) (r_sweets z_h_mind_two) (r_settings z_h_mind_two) (r_heaps z_h_mind_two))) (As := [.int x2, .int 0, .int 50]) (rest := []) hx hb hml hown hT (c_X_outside hq4) k_385 k_357 k_1 k_358 hd_X_outside ⟨Nat.le_of_ble_eq_true rfl, Nat.le_of_ble_eq_true rfl⟩ xE0_ok trivial hA hK hP hD hS [] [0, 1, 2, 3, 4, 5, 6, 7, 8, 9, 10, 11, 12, 13, 14, 15, 16] [0, 1, 2, 3, 4, 5, 6, 7, 8, 9, 10, 11, 12, 13, 14, 15, 16] rfl rfl rfl rfl rfl rfl rfl hl.1 rfl (Nat.le_of_ble_eq_true rfl) ⟨Nat.zero_le _, Nat.zero_le _⟩ d_X_hides_15 (fun H locs hP hD hS => ?_)
    refine lv_goto (tgt := 22) hx hb d_X_hides_18 (by decide) ?_
    refine lv_istore (lv' := [(4, .int q4), (0, .ref a_h), (1, .int x1), (2, .int x2), (3, .int x3)]) hx hb d_X_hides_22 hl (by decide) rfl (fun ls hl => ?_)
    refine lv_iload hx hb d_X_hides_24 (lv_at hl 0 rfl) ?_
    refine lv_if_eq (tgt := 39) hx hb d_X_hides_26 (by decide) (fun c5 => ?_) (fun c5 => ?_)
    · have hf := io_t hf c5
      refine lv_aload_n hx hb d_X_hides_39 rfl (lv_at hl 1 rfl) ?_
      refine va_get hx hb hT i_X hown hK hP 0 rfl rfl 7 (Nat.le_of_ble_eq_true rfl) (hT _ k_175) (fun _ h => h) rfl d_X_hides_40 ?_
      refine lv_aload_n hx hb d_X_hides_43 rfl (lv_at hl 1 rfl) ?_
      refine va_get hx hb hT i_X hown hK hP 0 rfl rfl 0 (Nat.le_of_ble_eq_true rfl) (hT _ k_168) (fun _ h => h) rfl d_X_hides_44 ?_
      refine lv_iload_n hx hb d_X_hides_47 rfl (lv_at hl 2 rfl) ?_
      refine lv_iload_n hx hb d_X_hides_48 rfl (lv_at hl 4 rfl) ?_
      refine lv_if_eq (tgt := 56) hx hb d_X_hides_49 (by decide) (fun c6 => ?_) (fun c6 => ?_)
      · have hf := io_t hf c6
        refine lv_iconst (v := 3) hx hb d_X_hides_56 (by decide) ?_
        refine lv_iload_n hx hb d_X_hides_57 rfl (lv_at hl 3 rfl) ?_
        obtain ⟨q7, hq7, hf⟩ := io_b hf
        refine xcVI (wc := (w_Mind_othersMore cI cJ cC a_h_mind a_h_mind_one a_h_mind_two a_h_mind_one_kinds a_h_mind_one_sweets a_h_mind_one_settings a_h_mind_one_heaps a_h_mind_two_kinds a_h_mind_two_sweets a_h_mind_two_settings a_h_mind_two_heaps a_h_now a_h_now_kinds a_h_now_sweets a_h_now_settings a_h_now_heaps y_h_mind_seed (r_children z_h_mind_one) (r_strokes z_h_mind_one) (r_gave z_h_mind_one) (r_threw z_h_mind_one) (r_kinds z_h_mind_one) (r_sweets z_h_mind_one) (r_settings z_h_mind_one) (r_heaps z_h_mind_one) (r_children z_h_mind_two) (r_strokes z_h_mind_two) (r_gave z_h_mind_two) (r_threw z_h_mind_two) (r_kinds z_h_mind_two) (r_sweets z_h_mind_two) (r_settings z_h_mind_two) (r_heaps z_h_mind_two) (r_children z_h_now) (r_strokes z_h_now) (r_gave z_h_now) (r_threw z_h_now) (r_kinds z_h_now) (r_sweets z_h_now) (r_settings z_h_now))) (wc' := (w_Mind_othersMore cI cJ cC a_h_mind a_h_mind_one a_h_mind_two a_h_mind_one_kinds a_h_mind_one_sweets a_h_mind_one_settings a_h_mind_one_heaps a_h_mind_two_kinds a_h_mind_two_sweets a_h_mind_two_settings a_h_mind_two_heaps a_h_now a_h_now_kinds a_h_now_sweets a_h_now_settings a_h_now_heaps y_h_mind_seed (r_children q7.2.1) (r_strokes q7.2.1) (r_gave q7.2.1) (r_threw q7.2.1) (r_kinds q7.2.1) (r_sweets q7.2.1) (r_settings q7.2.1) (r_heaps q7.2.1) (r_children q7.2.2) (r_strokes q7.2.2) (r_gave q7.2.2) (r_threw q7.2.2) (r_kinds q7.2.2) (r_sweets q7.2.2) (r_settings q7.2.2) (r_heaps q7.2.2) (r_children z_h_now) (r_strokes z_h_now) (r_gave z_h_now) (r_threw z_h_now) (r_kinds z_h_now) (r_sweets z_h_now) (r_settings z_h_now))) (ws' := (w_X_hides cI cJ cC a_h a_h_now a_h_kept a_h_letters a_h_numbers a_h_refusals a_h_mind a_h_parts a_h_past a_h_seating a_h_now_kinds a_h_now_sweets a_h_now_settings a_h_now_heaps a_h_mind_one a_h_mind_two a_h_mind_one_kinds a_h_mind_one_sweets a_h_mind_one_settings a_h_mind_one_heaps a_h_mind_two_kinds a_h_mind_two_sweets a_h_mind_two_settings a_h_mind_two_heaps y_h_isKept y_h_numberCount y_h_mind_seed (r_children z_h_now) (r_strokes z_h_now) (r_gave z_h_now) (r_threw z_h_now) (r_kinds z_h_now) (r_sweets z_h_now) (r_settings z_h_now) z_h_refusals (r_children q7.2.1) (r_strokes q7.2.1) (r_gave q7.2.1) (r_threw q7.2.1) (r_kinds q7.2.1) (r_sweets q7.2.1) (r_settings q7.2.1) (r_heaps q7.2.1) (r_children q7.2.2) (r_strokes q7.2.2) (r_gave q7.2.2) (r_threw q7.2.2) (r_kinds q7.2.2) (r_sweets q7.2.2) (r_settings q7.2.2) (r_heaps q7.2.2))) (As := [.ref a_h_now, .int x1, .int 3, .int x2]) (rest := []) hx hb hml hown hT (c_Mind_othersMore (z_h_one := z_h_mind_one) (z_h_two := z_h_mind_two) (z_g1 := z_h_now) a_h_mind a_h_mind_one a_h_mind_two a_h_mind_one_kinds a_h_mind_one_sweets a_h_mind_one_settings a_h_mind_one_heaps a_h_mind_two_kinds a_h_mind_two_sweets a_h_mind_two_settings a_h_mind_two_heaps a_h_now a_h_now_kinds a_h_now_sweets a_h_now_settings a_h_now_heaps y_h_mind_seed hq7) k_668 k_669 k_670 k_4 k_671 hd_Mind_othersMore ⟨Nat.le_of_ble_eq_true rfl, Nat.le_of_ble_eq_true rfl⟩ xE0_ok trivial hA hK hP hD hS [6, 7, 8, 9, 10, 11, 12, 13, 14, 15, 16, 1, 2, 3, 4] [0, 5] [0, 13, 14, 15, 16, 1, 2, 3, 4, 5, 6, 7, 8, 9, 10, 11, 12] rfl rfl rfl rfl rfl rfl rfl rfl rfl rfl hl.1 rfl (Nat.le_of_ble_eq_true rfl) ⟨Nat.zero_le _, Nat.zero_le _⟩ d_X_hides_58 (fun H locs hP hD hS => ?_)
        have hq := Option.some.inj hf
        subst hq
        exact hret _ _ _ _ _ d_X_hides_61 rfl rfl hP hD hS
      · have hf := io_f hf c6
        refine lv_iconst (v := 4) hx hb d_X_hides_52 (by decide) ?_
        refine lv_goto (tgt := 57) hx hb d_X_hides_53 (by decide) ?_
        refine lv_iload_n hx hb d_X_hides_57 rfl (lv_at hl 3 rfl) ?_
        obtain ⟨q8, hq8, hf⟩ := io_b hf
        refine xcVI (wc := (w_Mind_othersMore cI cJ cC a_h_mind a_h_mind_one a_h_mind_two a_h_mind_one_kinds a_h_mind_one_sweets a_h_mind_one_settings a_h_mind_one_heaps a_h_mind_two_kinds a_h_mind_two_sweets a_h_mind_two_settings a_h_mind_two_heaps a_h_now a_h_now_kinds a_h_now_sweets a_h_now_settings a_h_now_heaps y_h_mind_seed (r_children z_h_mind_one) (r_strokes z_h_mind_one) (r_gave z_h_mind_one) (r_threw z_h_mind_one) (r_kinds z_h_mind_one) (r_sweets z_h_mind_one) (r_settings z_h_mind_one) (r_heaps z_h_mind_one) (r_children z_h_mind_two) (r_strokes z_h_mind_two) (r_gave z_h_mind_two) (r_threw z_h_mind_two) (r_kinds z_h_mind_two) (r_sweets z_h_mind_two) (r_settings z_h_mind_two) (r_heaps z_h_mind_two) (r_children z_h_now) (r_strokes z_h_now) (r_gave z_h_now) (r_threw z_h_now) (r_kinds z_h_now) (r_sweets z_h_now) (r_settings z_h_now))) (wc' := (w_Mind_othersMore cI cJ cC a_h_mind a_h_mind_one a_h_mind_two a_h_mind_one_kinds a_h_mind_one_sweets a_h_mind_one_settings a_h_mind_one_heaps a_h_mind_two_kinds a_h_mind_two_sweets a_h_mind_two_settings a_h_mind_two_heaps a_h_now a_h_now_kinds a_h_now_sweets a_h_now_settings a_h_now_heaps y_h_mind_seed (r_children q8.2.1) (r_strokes q8.2.1) (r_gave q8.2.1) (r_threw q8.2.1) (r_kinds q8.2.1) (r_sweets q8.2.1) (r_settings q8.2.1) (r_heaps q8.2.1) (r_children q8.2.2) (r_strokes q8.2.2) (r_gave q8.2.2) (r_threw q8.2.2) (r_kinds q8.2.2) (r_sweets q8.2.2) (r_settings q8.2.2) (r_heaps q8.2.2) (r_children z_h_now) (r_strokes z_h_now) (r_gave z_h_now) (r_threw z_h_now) (r_kinds z_h_now) (r_sweets z_h_now) (r_settings z_h_now))) (ws' := (w_X_hides cI cJ cC a_h a_h_now a_h_kept a_h_letters a_h_numbers a_h_refusals a_h_mind a_h_parts a_h_past a_h_seating a_h_now_kinds a_h_now_sweets a_h_now_settings a_h_now_heaps a_h_mind_one a_h_mind_two a_h_mind_one_kinds a_h_mind_one_sweets a_h_mind_one_settings a_h_mind_one_heaps a_h_mind_two_kinds a_h_mind_two_sweets a_h_mind_two_settings a_h_mind_two_heaps y_h_isKept y_h_numberCount y_h_mind_seed (r_children z_h_now) (r_strokes z_h_now) (r_gave z_h_now) (r_threw z_h_now) (r_kinds z_h_now) (r_sweets z_h_now) (r_settings z_h_now) z_h_refusals (r_children q8.2.1) (r_strokes q8.2.1) (r_gave q8.2.1) (r_threw q8.2.1) (r_kinds q8.2.1) (r_sweets q8.2.1) (r_settings q8.2.1) (r_heaps q8.2.1) (r_children q8.2.2) (r_strokes q8.2.2) (r_gave q8.2.2) (r_threw q8.2.2) (r_kinds q8.2.2) (r_sweets q8.2.2) (r_settings q8.2.2) (r_heaps q8.2.2))) (As := [.ref a_h_now, .int x1, .int 4, .int x2]) (rest := []) hx hb hml hown hT (c_Mind_othersMore (z_h_one := z_h_mind_one) (z_h_two := z_h_mind_two) (z_g1 := z_h_now) a_h_mind a_h_mind_one a_h_mind_two a_h_mind_one_kinds a_h_mind_one_sweets a_h_mind_one_settings a_h_mind_one_heaps a_h_mind_two_kinds a_h_mind_two_sweets a_h_mind_two_settings a_h_mind_two_heaps a_h_now a_h_now_kinds a_h_now_sweets a_h_now_settings a_h_now_heaps y_h_mind_seed hq8) k_668 k_669 k_670 k_4 k_671 hd_Mind_othersMore ⟨Nat.le_of_ble_eq_true rfl, Nat.le_of_ble_eq_true rfl⟩ xE0_ok trivial hA hK hP hD hS [6, 7, 8, 9, 10, 11, 12, 13, 14, 15, 16, 1, 2, 3, 4] [0, 5] [0, 13, 14, 15, 16, 1, 2, 3, 4, 5, 6, 7, 8, 9, 10, 11, 12] rfl rfl rfl rfl rfl rfl rfl rfl rfl rfl hl.1 rfl (Nat.le_of_ble_eq_true rfl) ⟨Nat.zero_le _, Nat.zero_le _⟩ d_X_hides_58 (fun H locs hP hD hS => ?_)
        have hq := Option.some.inj hf
        subst hq
        exact hret _ _ _ _ _ d_X_hides_61 rfl rfl hP hD hS
    · have hf := io_f hf c5
      refine lv_ldc (v := 1000000000) hx hb hown (hT _ k_667) d_X_hides_29 ?_
      refine lv_aload_n hx hb d_X_hides_31 rfl (lv_at hl 1 rfl) ?_
      refine lv_iload hx hb d_X_hides_32 (lv_at hl 0 rfl) ?_
      obtain ⟨q9, hq9, hf⟩ := io_b hf
      refine xcVI (wc := (w_X_refuse cI cJ cC a_h a_h_now a_h_kept a_h_letters a_h_numbers a_h_refusals a_h_mind a_h_parts a_h_past a_h_seating y_h_isKept y_h_numberCount z_h_refusals)) (wc' := (w_X_refuse cI cJ cC a_h a_h_now a_h_kept a_h_letters a_h_numbers a_h_refusals a_h_mind a_h_parts a_h_past a_h_seating y_h_isKept y_h_numberCount q9.2)) (ws' := (w_X_hides cI cJ cC a_h a_h_now a_h_kept a_h_letters a_h_numbers a_h_refusals a_h_mind a_h_parts a_h_past a_h_seating a_h_now_kinds a_h_now_sweets a_h_now_settings a_h_now_heaps a_h_mind_one a_h_mind_two a_h_mind_one_kinds a_h_mind_one_sweets a_h_mind_one_settings a_h_mind_one_heaps a_h_mind_two_kinds a_h_mind_two_sweets a_h_mind_two_settings a_h_mind_two_heaps y_h_isKept y_h_numberCount y_h_mind_seed (r_children z_h_now) (r_strokes z_h_now) (r_gave z_h_now) (r_threw z_h_now) (r_kinds z_h_now) (r_sweets z_h_now) (r_settings z_h_now) q9.2 (r_children z_h_mind_one) (r_strokes z_h_mind_one) (r_gave z_h_mind_one) (r_threw z_h_mind_one) (r_kinds z_h_mind_one) (r_sweets z_h_mind_one) (r_settings z_h_mind_one) (r_heaps z_h_mind_one) (r_children z_h_mind_two) (r_strokes z_h_mind_two) (r_gave z_h_mind_two) (r_threw z_h_mind_two) (r_kinds z_h_mind_two) (r_sweets z_h_mind_two) (r_settings z_h_mind_two) (r_heaps z_h_mind_two))) (As := [.int q4]) (rest := [.int 1000000000]) hx hb hml hown hT (c_X_refuse (z_h_refusals := z_h_refusals) a_h a_h_now a_h_kept a_h_letters a_h_numbers a_h_refusals a_h_mind a_h_parts a_h_past a_h_seating y_h_isKept y_h_numberCount hq9) k_206 k_208 ks_0 k_1 k_209 hd_X_refuse ⟨Nat.le_of_ble_eq_true rfl, Nat.le_of_ble_eq_true rfl⟩ xE0_ok trivial hA hK hP hD hS [0, 5] [1, 2, 3, 4, 6, 7, 8, 9, 10, 11, 12, 13, 14, 15, 16] [15, 0, 1, 2, 3, 16, 4, 5, 6, 7, 8, 9, 10, 11, 12, 13, 14] rfl rfl rfl rfl rfl rfl rfl rfl rfl rfl hl.1 rfl (Nat.le_of_ble_eq_true rfl) ⟨Nat.zero_le _, Nat.zero_le _⟩ d_X_hides_34 (fun H locs hP hD hS => ?_)
      refine lv_isub hx hb d_X_hides_37 ?_
      have hq := Option.some.inj hf
      subst hq
      exact hret _ _ _ _ _ d_X_hides_38 rfl rfl hP hD hS
abbrev w_X_felt (cI cJ cC : ClassId) (a_h a_h_now a_h_kept a_h_letters a_h_numbers a_h_refusals a_h_mind a_h_parts a_h_past a_h_seating a_h_now_kinds a_h_now_sweets a_h_now_settings a_h_now_heaps a_h_mind_one a_h_mind_two a_h_mind_one_kinds a_h_mind_one_sweets a_h_mind_one_settings a_h_mind_one_heaps a_h_mind_two_kinds a_h_mind_two_sweets a_h_mind_two_settings a_h_mind_two_heaps : Nat) (y_h_isKept : Int32) (y_h_numberCount : Int32) (y_h_mind_seed : Int32) (p_h_now_children : Int32) (p_h_now_strokes : Int32) (p_h_now_gave : Int32) (p_h_now_threw : Int32) (p_h_now_kinds : (Nat → Int32)) (p_h_now_sweets : (Nat → Int32)) (p_h_now_settings : (Nat → Int32)) (p_h_refusals : (Nat → Int32)) (p_h_mind_one_children : Int32) (p_h_mind_one_strokes : Int32) (p_h_mind_one_gave : Int32) (p_h_mind_one_threw : Int32) (p_h_mind_one_kinds : (Nat → Int32)) (p_h_mind_one_sweets : (Nat → Int32)) (p_h_mind_one_settings : (Nat → Int32)) (p_h_mind_one_heaps : (Nat → Int32)) (p_h_mind_two_children : Int32) (p_h_mind_two_strokes : Int32) (p_h_mind_two_gave : Int32) (p_h_mind_two_threw : Int32) (p_h_mind_two_kinds : (Nat → Int32)) (p_h_mind_two_sweets : (Nat → Int32)) (p_h_mind_two_settings : (Nat → Int32)) (p_h_mind_two_heaps : (Nat → Int32)) : va_W := [(a_h, .inr (0, [.ref a_h_now, .ref a_h_kept, .int y_h_isKept, .ref a_h_letters, .ref a_h_numbers, .int y_h_numberCount, .ref a_h_refusals, .ref a_h_mind, .ref a_h_parts, .ref a_h_past, .ref a_h_seating])), (a_h_now, .inr (1, [.ref a_h_now_kinds, .ref a_h_now_sweets, .ref a_h_now_settings, .int p_h_now_children, .int p_h_now_strokes, .int p_h_now_gave, .int p_h_now_threw, .ref a_h_now_heaps])), (a_h_now_kinds, .inl (cI, (8, .inl p_h_now_kinds))), (a_h_now_sweets, .inl (cI, (8, .inl p_h_now_sweets))), (a_h_now_settings, .inl (cI, (3, .inl p_h_now_settings))), (a_h_refusals, .inl (cI, (7, .inl p_h_refusals))), (a_h_mind, .inr (3, [.ref a_h_mind_one, .ref a_h_mind_two, .int y_h_mind_seed])), (a_h_mind_one, .inr (1, [.ref a_h_mind_one_kinds, .ref a_h_mind_one_sweets, .ref a_h_mind_one_settings, .int p_h_mind_one_children, .int p_h_mind_one_strokes, .int p_h_mind_one_gave, .int p_h_mind_one_threw, .ref a_h_mind_one_heaps])), (a_h_mind_one_kinds, .inl (cI, (8, .inl p_h_mind_one_kinds))), (a_h_mind_one_sweets, .inl (cI, (8, .inl p_h_mind_one_sweets))), (a_h_mind_one_settings, .inl (cI, (3, .inl p_h_mind_one_settings))), (a_h_mind_one_heaps, .inl (cI, (8, .inl p_h_mind_one_heaps))), (a_h_mind_two, .inr (1, [.ref a_h_mind_two_kinds, .ref a_h_mind_two_sweets, .ref a_h_mind_two_settings, .int p_h_mind_two_children, .int p_h_mind_two_strokes, .int p_h_mind_two_gave, .int p_h_mind_two_threw, .ref a_h_mind_two_heaps])), (a_h_mind_two_kinds, .inl (cI, (8, .inl p_h_mind_two_kinds))), (a_h_mind_two_sweets, .inl (cI, (8, .inl p_h_mind_two_sweets))), (a_h_mind_two_settings, .inl (cI, (3, .inl p_h_mind_two_settings))), (a_h_mind_two_heaps, .inl (cI, (8, .inl p_h_mind_two_heaps)))]
theorem d_X_felt_0 : decode b_X_felt 0 = .ok (.aload_n 0, 1) := by decide +kernel
theorem d_X_felt_1 : decode b_X_felt 1 = .ok (.getfield 10, 3) := by decide +kernel
theorem d_X_felt_4 : decode b_X_felt 4 = .ok (.iload_n 1, 1) := by decide +kernel
theorem d_X_felt_5 : decode b_X_felt 5 = .ok (.invokevirtual 84, 3) := by decide +kernel
theorem d_X_felt_8 : decode b_X_felt 8 = .ok (.ifCond .eq 14, 3) := by decide +kernel
theorem d_X_felt_11 : decode b_X_felt 11 = .ok (.aload_n 0, 1) := by decide +kernel
theorem d_X_felt_12 : decode b_X_felt 12 = .ok (.getfield 10, 3) := by decide +kernel
theorem d_X_felt_15 : decode b_X_felt 15 = .ok (.iload_n 2, 1) := by decide +kernel
theorem d_X_felt_16 : decode b_X_felt 16 = .ok (.invokevirtual 84, 3) := by decide +kernel
theorem d_X_felt_19 : decode b_X_felt 19 = .ok (.ifCond .ne 9, 3) := by decide +kernel
theorem d_X_felt_22 : decode b_X_felt 22 = .ok (.aload_n 0, 1) := by decide +kernel
theorem d_X_felt_23 : decode b_X_felt 23 = .ok (.iconst (-1), 1) := by decide +kernel
theorem d_X_felt_24 : decode b_X_felt 24 = .ok (.invokevirtual 69, 3) := by decide +kernel
theorem d_X_felt_27 : decode b_X_felt 27 = .ok (.ireturn, 1) := by decide +kernel
theorem d_X_felt_28 : decode b_X_felt 28 = .ok (.aload_n 0, 1) := by decide +kernel
theorem d_X_felt_29 : decode b_X_felt 29 = .ok (.getfield 44, 3) := by decide +kernel
theorem d_X_felt_32 : decode b_X_felt 32 = .ok (.aload_n 0, 1) := by decide +kernel
theorem d_X_felt_33 : decode b_X_felt 33 = .ok (.getfield 10, 3) := by decide +kernel
theorem d_X_felt_36 : decode b_X_felt 36 = .ok (.iload_n 1, 1) := by decide +kernel
theorem d_X_felt_37 : decode b_X_felt 37 = .ok (.iload_n 2, 1) := by decide +kernel
theorem d_X_felt_38 : decode b_X_felt 38 = .ok (.invokevirtual 212, 3) := by decide +kernel
theorem d_X_felt_41 : decode b_X_felt 41 = .ok (.ireturn, 1) := by decide +kernel
set_option maxHeartbeats 4000000 in
set_option maxRecDepth 100000 in
theorem c_X_felt {l : Launch} {D : va_G} {cI cJ cC : ClassId} (a_h a_h_now a_h_kept a_h_letters a_h_numbers a_h_refusals a_h_mind a_h_parts a_h_past a_h_seating a_h_now_kinds a_h_now_sweets a_h_now_settings a_h_now_heaps a_h_mind_one a_h_mind_two a_h_mind_one_kinds a_h_mind_one_sweets a_h_mind_one_settings a_h_mind_one_heaps a_h_mind_two_kinds a_h_mind_two_sweets a_h_mind_two_settings a_h_mind_two_heaps : Nat) (y_h_isKept : Int32) (y_h_numberCount : Int32) (y_h_mind_seed : Int32) {z_h_now : RS} {z_h_refusals : (Nat → Int32)} {z_h_mind_one : RS} {z_h_mind_two : RS} {x1 : Int32} {x2 : Int32} {q : Int32 × (Nat → Int32) × RS × RS} (hf : f_X_felt z_h_now z_h_refusals z_h_mind_one z_h_mind_two x1 x2 = some q) : xI l y_X_felt b_X_felt 3 .int 5 113 D (tyK cI cJ cC) xE0 [.ref a_h, .int x1, .int x2] (w_X_felt cI cJ cC a_h a_h_now a_h_kept a_h_letters a_h_numbers a_h_refusals a_h_mind a_h_parts a_h_past a_h_seating a_h_now_kinds a_h_now_sweets a_h_now_settings a_h_now_heaps a_h_mind_one a_h_mind_two a_h_mind_one_kinds a_h_mind_one_sweets a_h_mind_one_settings a_h_mind_one_heaps a_h_mind_two_kinds a_h_mind_two_sweets a_h_mind_two_settings a_h_mind_two_heaps y_h_isKept y_h_numberCount y_h_mind_seed (r_children z_h_now) (r_strokes z_h_now) (r_gave z_h_now) (r_threw z_h_now) (r_kinds z_h_now) (r_sweets z_h_now) (r_settings z_h_now) z_h_refusals (r_children z_h_mind_one) (r_strokes z_h_mind_one) (r_gave z_h_mind_one) (r_threw z_h_mind_one) (r_kinds z_h_mind_one) (r_sweets z_h_mind_one) (r_settings z_h_mind_one) (r_heaps z_h_mind_one) (r_children z_h_mind_two) (r_strokes z_h_mind_two) (r_gave z_h_mind_two) (r_threw z_h_mind_two) (r_kinds z_h_mind_two) (r_sweets z_h_mind_two) (r_settings z_h_mind_two) (r_heaps z_h_mind_two)) q.1 (w_X_felt cI cJ cC a_h a_h_now a_h_kept a_h_letters a_h_numbers a_h_refusals a_h_mind a_h_parts a_h_past a_h_seating a_h_now_kinds a_h_now_sweets a_h_now_settings a_h_now_heaps a_h_mind_one a_h_mind_two a_h_mind_one_kinds a_h_mind_one_sweets a_h_mind_one_settings a_h_mind_one_heaps a_h_mind_two_kinds a_h_mind_two_sweets a_h_mind_two_settings a_h_mind_two_heaps y_h_isKept y_h_numberCount y_h_mind_seed (r_children z_h_now) (r_strokes z_h_now) (r_gave z_h_now) (r_threw z_h_now) (r_kinds z_h_now) (r_sweets z_h_now) (r_settings z_h_now) q.2.1 (r_children q.2.2.1) (r_strokes q.2.2.1) (r_gave q.2.2.1) (r_threw q.2.2.1) (r_kinds q.2.2.1) (r_sweets q.2.2.1) (r_settings q.2.2.1) (r_heaps q.2.2.1) (r_children q.2.2.2) (r_strokes q.2.2.2) (r_gave q.2.2.2) (r_threw q.2.2.2) (r_kinds q.2.2.2) (r_sweets q.2.2.2) (r_settings q.2.2.2) (r_heaps q.2.2.2)) := by
  refine xI_of (by decide) (Nat.le_of_ble_eq_true rfl) ?_
  intro p e s m args below meth c A Q hx hb hml hown hT hA hP hD hK hS hE hret ls hl
  have hown : s.vm.findClass R_X = some m.cls := hown
  have hl : lv_has ls 3 [(0, .ref a_h), (1, .int x1), (2, .int x2)] := hl
  unfold f_X_felt at hf
  refine lv_aload_n hx hb d_X_felt_0 rfl (lv_at hl 0 rfl) ?_
  refine va_get hx hb hT i_X hown hK hP 0 rfl rfl 0 (Nat.le_of_ble_eq_true rfl) (hT _ k_168) (fun _ h => h) rfl d_X_felt_1 ?_
  refine lv_iload_n hx hb d_X_felt_4 rfl (lv_at hl 1 rfl) ?_
  obtain ⟨q1, hq1, hf⟩ := io_b hf
  refine xcVI (wc := (w_Ring_has cI cJ cC a_h_now a_h_now_kinds a_h_now_sweets a_h_now_settings a_h_now_heaps (r_children z_h_now) (r_strokes z_h_now) (r_gave z_h_now) (r_threw z_h_now))) (wc' := (w_Ring_has cI cJ cC a_h_now a_h_now_kinds a_h_now_sweets a_h_now_settings a_h_now_heaps (r_children z_h_now) (r_strokes z_h_now) (r_gave z_h_now) (r_threw z_h_now))) (ws' := (w_X_felt cI cJ cC a_h a_h_now a_h_kept a_h_letters a_h_numbers a_h_refusals a_h_mind a_h_parts a_h_past a_h_seating a_h_now_kinds a_h_now_sweets a_h_now_settings a_h_now_heaps a_h_mind_one a_h_mind_two a_h_mind_one_kinds a_h_mind_one_sweets a_h_mind_one_settings a_h_mind_one_heaps a_h_mind_two_kinds a_h_mind_two_sweets a_h_mind_two_settings a_h_mind_two_heaps y_h_isKept y_h_numberCount y_h_mind_seed (r_children z_h_now) (r_strokes z_h_now) (r_gave z_h_now) (r_threw z_h_now) (r_kinds z_h_now) (r_sweets z_h_now) (r_settings z_h_now) z_h_refusals (r_children z_h_mind_one) (r_strokes z_h_mind_one) (r_gave z_h_mind_one) (r_threw z_h_mind_one) (r_kinds z_h_mind_one) (r_sweets z_h_mind_one) (r_settings z_h_mind_one) (r_heaps z_h_mind_one) (r_children z_h_mind_two) (r_strokes z_h_mind_two) (r_gave z_h_mind_two) (r_threw z_h_mind_two) (r_kinds z_h_mind_two) (r_sweets z_h_mind_two) (r_settings z_h_mind_two) (r_heaps z_h_mind_two))) (As := [.int x1]) (rest := []) hx hb hml hown hT (c_Ring_has (z_h := z_h_now) a_h_now a_h_now_kinds a_h_now_sweets a_h_now_settings a_h_now_heaps hq1) k_364 k_365 k_366 k_2 k_367 hd_Ring_has ⟨Nat.le_of_ble_eq_true rfl, Nat.le_of_ble_eq_true rfl⟩ xE0_ok trivial hA hK hP hD hS [1] [0, 2, 3, 4, 5, 6, 7, 8, 9, 10, 11, 12, 13, 14, 15, 16] [0, 16, 1, 2, 3, 4, 5, 6, 7, 8, 9, 10, 11, 12, 13, 14, 15] rfl rfl rfl rfl rfl rfl rfl rfl rfl rfl hl.1 rfl (Nat.le_of_ble_eq_true rfl) ⟨Nat.zero_le _, Nat.zero_le _⟩ d_X_felt_5 (fun H locs hP hD hS => ?_)
  refine lv_if_eq (tgt := 22) hx hb d_X_felt_8 (by decide) (fun c2 => ?_) (fun c2 => ?_)
  · have hf := io_t hf c2
    refine lv_aload_n hx hb d_X_felt_22 rfl (lv_at hl 0 rfl) ?_
    refine lv_iconst (v := (-1)) hx hb d_X_felt_23 (by decide) ?_
    obtain ⟨q3, hq3, hf⟩ := io_b hf
    refine xcVI (wc := (w_X_refuse cI cJ cC a_h a_h_now a_h_kept a_h_letters a_h_numbers a_h_refusals a_h_mind a_h_parts a_h_past a_h_seating y_h_isKept y_h_numberCount z_h_refusals)) (wc' := (w_X_refuse cI cJ cC a_h a_h_now a_h_kept a_h_letters a_h_numbers a_h_refusals a_h_mind a_h_parts a_h_past a_h_seating y_h_isKept y_h_numberCount q3.2)) (ws' := (w_X_felt cI cJ cC a_h a_h_now a_h_kept a_h_letters a_h_numbers a_h_refusals a_h_mind a_h_parts a_h_past a_h_seating a_h_now_kinds a_h_now_sweets a_h_now_settings a_h_now_heaps a_h_mind_one a_h_mind_two a_h_mind_one_kinds a_h_mind_one_sweets a_h_mind_one_settings a_h_mind_one_heaps a_h_mind_two_kinds a_h_mind_two_sweets a_h_mind_two_settings a_h_mind_two_heaps y_h_isKept y_h_numberCount y_h_mind_seed (r_children z_h_now) (r_strokes z_h_now) (r_gave z_h_now) (r_threw z_h_now) (r_kinds z_h_now) (r_sweets z_h_now) (r_settings z_h_now) q3.2 (r_children z_h_mind_one) (r_strokes z_h_mind_one) (r_gave z_h_mind_one) (r_threw z_h_mind_one) (r_kinds z_h_mind_one) (r_sweets z_h_mind_one) (r_settings z_h_mind_one) (r_heaps z_h_mind_one) (r_children z_h_mind_two) (r_strokes z_h_mind_two) (r_gave z_h_mind_two) (r_threw z_h_mind_two) (r_kinds z_h_mind_two) (r_sweets z_h_mind_two) (r_settings z_h_mind_two) (r_heaps z_h_mind_two))) (As := [.int (-1)]) (rest := []) hx hb hml hown hT (c_X_refuse (z_h_refusals := z_h_refusals) a_h a_h_now a_h_kept a_h_letters a_h_numbers a_h_refusals a_h_mind a_h_parts a_h_past a_h_seating y_h_isKept y_h_numberCount hq3) k_206 k_208 ks_0 k_1 k_209 hd_X_refuse ⟨Nat.le_of_ble_eq_true rfl, Nat.le_of_ble_eq_true rfl⟩ xE0_ok trivial hA hK hP hD hS [0, 5] [1, 2, 3, 4, 6, 7, 8, 9, 10, 11, 12, 13, 14, 15, 16] [15, 0, 1, 2, 3, 16, 4, 5, 6, 7, 8, 9, 10, 11, 12, 13, 14] rfl rfl rfl rfl rfl rfl rfl rfl rfl rfl hl.1 rfl (Nat.le_of_ble_eq_true rfl) ⟨Nat.zero_le _, Nat.zero_le _⟩ d_X_felt_24 (fun H locs hP hD hS => ?_)
    have hq := Option.some.inj hf
    subst hq
    exact hret _ _ _ _ _ d_X_felt_27 rfl rfl hP hD hS
  · have hf := io_f hf c2
    refine lv_aload_n hx hb d_X_felt_11 rfl (lv_at hl 0 rfl) ?_
    refine va_get hx hb hT i_X hown hK hP 0 rfl rfl 0 (Nat.le_of_ble_eq_true rfl) (hT _ k_168) (fun _ h => h) rfl d_X_felt_12 ?_
    refine lv_iload_n hx hb d_X_felt_15 rfl (lv_at hl 2 rfl) ?_
    obtain ⟨q4, hq4, hf⟩ := io_b hf
    refine xcVI (wc := (w_Ring_has cI cJ cC a_h_now a_h_now_kinds a_h_now_sweets a_h_now_settings a_h_now_heaps (r_children z_h_now) (r_strokes z_h_now) (r_gave z_h_now) (r_threw z_h_now))) (wc' := (w_Ring_has cI cJ cC a_h_now a_h_now_kinds a_h_now_sweets a_h_now_settings a_h_now_heaps (r_children z_h_now) (r_strokes z_h_now) (r_gave z_h_now) (r_threw z_h_now))) (ws' := (w_X_felt cI cJ cC a_h a_h_now a_h_kept a_h_letters a_h_numbers a_h_refusals a_h_mind a_h_parts a_h_past a_h_seating a_h_now_kinds a_h_now_sweets a_h_now_settings a_h_now_heaps a_h_mind_one a_h_mind_two a_h_mind_one_kinds a_h_mind_one_sweets a_h_mind_one_settings a_h_mind_one_heaps a_h_mind_two_kinds a_h_mind_two_sweets a_h_mind_two_settings a_h_mind_two_heaps y_h_isKept y_h_numberCount y_h_mind_seed (r_children z_h_now) (r_strokes z_h_now) (r_gave z_h_now) (r_threw z_h_now) (r_kinds z_h_now) (r_sweets z_h_now) (r_settings z_h_now) z_h_refusals (r_children z_h_mind_one) (r_strokes z_h_mind_one) (r_gave z_h_mind_one) (r_threw z_h_mind_one) (r_kinds z_h_mind_one) (r_sweets z_h_mind_one) (r_settings z_h_mind_one) (r_heaps z_h_mind_one) (r_children z_h_mind_two) (r_strokes z_h_mind_two) (r_gave z_h_mind_two) (r_threw z_h_mind_two) (r_kinds z_h_mind_two) (r_sweets z_h_mind_two) (r_settings z_h_mind_two) (r_heaps z_h_mind_two))) (As := [.int x2]) (rest := []) hx hb hml hown hT (c_Ring_has (z_h := z_h_now) a_h_now a_h_now_kinds a_h_now_sweets a_h_now_settings a_h_now_heaps hq4) k_364 k_365 k_366 k_2 k_367 hd_Ring_has ⟨Nat.le_of_ble_eq_true rfl, Nat.le_of_ble_eq_true rfl⟩ xE0_ok trivial hA hK hP hD hS [1] [0, 2, 3, 4, 5, 6, 7, 8, 9, 10, 11, 12, 13, 14, 15, 16] [0, 16, 1, 2, 3, 4, 5, 6, 7, 8, 9, 10, 11, 12, 13, 14, 15] rfl rfl rfl rfl rfl rfl rfl rfl rfl rfl hl.1 rfl (Nat.le_of_ble_eq_true rfl) ⟨Nat.zero_le _, Nat.zero_le _⟩ d_X_felt_16 (fun H locs hP hD hS => ?_)
    refine lv_if_ne (tgt := 28) hx hb d_X_felt_19 (by decide) (fun c5 => ?_) (fun c5 => ?_)
    · have hf := io_f hf c5
      refine lv_aload_n hx hb d_X_felt_28 rfl (lv_at hl 0 rfl) ?_
      refine va_get hx hb hT i_X hown hK hP 0 rfl rfl 7 (Nat.le_of_ble_eq_true rfl) (hT _ k_175) (fun _ h => h) rfl d_X_felt_29 ?_
      refine lv_aload_n hx hb d_X_felt_32 rfl (lv_at hl 0 rfl) ?_
      refine va_get hx hb hT i_X hown hK hP 0 rfl rfl 0 (Nat.le_of_ble_eq_true rfl) (hT _ k_168) (fun _ h => h) rfl d_X_felt_33 ?_
      refine lv_iload_n hx hb d_X_felt_36 rfl (lv_at hl 1 rfl) ?_
      refine lv_iload_n hx hb d_X_felt_37 rfl (lv_at hl 2 rfl) ?_
      obtain ⟨q6, hq6, hf⟩ := io_b hf
      refine xcVI (wc := (w_Mind_feltBehind cI cJ cC a_h_mind a_h_mind_one a_h_mind_two a_h_mind_one_kinds a_h_mind_one_sweets a_h_mind_one_settings a_h_mind_one_heaps a_h_mind_two_kinds a_h_mind_two_sweets a_h_mind_two_settings a_h_mind_two_heaps a_h_now a_h_now_kinds a_h_now_sweets a_h_now_settings a_h_now_heaps y_h_mind_seed (r_children z_h_mind_one) (r_strokes z_h_mind_one) (r_gave z_h_mind_one) (r_threw z_h_mind_one) (r_kinds z_h_mind_one) (r_sweets z_h_mind_one) (r_settings z_h_mind_one) (r_heaps z_h_mind_one) (r_children z_h_mind_two) (r_strokes z_h_mind_two) (r_gave z_h_mind_two) (r_threw z_h_mind_two) (r_kinds z_h_mind_two) (r_sweets z_h_mind_two) (r_settings z_h_mind_two) (r_heaps z_h_mind_two) (r_children z_h_now) (r_strokes z_h_now) (r_gave z_h_now) (r_threw z_h_now) (r_kinds z_h_now) (r_sweets z_h_now) (r_settings z_h_now))) (wc' := (w_Mind_feltBehind cI cJ cC a_h_mind a_h_mind_one a_h_mind_two a_h_mind_one_kinds a_h_mind_one_sweets a_h_mind_one_settings a_h_mind_one_heaps a_h_mind_two_kinds a_h_mind_two_sweets a_h_mind_two_settings a_h_mind_two_heaps a_h_now a_h_now_kinds a_h_now_sweets a_h_now_settings a_h_now_heaps y_h_mind_seed (r_children q6.2.1) (r_strokes q6.2.1) (r_gave q6.2.1) (r_threw q6.2.1) (r_kinds q6.2.1) (r_sweets q6.2.1) (r_settings q6.2.1) (r_heaps q6.2.1) (r_children q6.2.2) (r_strokes q6.2.2) (r_gave q6.2.2) (r_threw q6.2.2) (r_kinds q6.2.2) (r_sweets q6.2.2) (r_settings q6.2.2) (r_heaps q6.2.2) (r_children z_h_now) (r_strokes z_h_now) (r_gave z_h_now) (r_threw z_h_now) (r_kinds z_h_now) (r_sweets z_h_now) (r_settings z_h_now))) (ws' := (w_X_felt cI cJ cC a_h a_h_now a_h_kept a_h_letters a_h_numbers a_h_refusals a_h_mind a_h_parts a_h_past a_h_seating a_h_now_kinds a_h_now_sweets a_h_now_settings a_h_now_heaps a_h_mind_one a_h_mind_two a_h_mind_one_kinds a_h_mind_one_sweets a_h_mind_one_settings a_h_mind_one_heaps a_h_mind_two_kinds a_h_mind_two_sweets a_h_mind_two_settings a_h_mind_two_heaps y_h_isKept y_h_numberCount y_h_mind_seed (r_children z_h_now) (r_strokes z_h_now) (r_gave z_h_now) (r_threw z_h_now) (r_kinds z_h_now) (r_sweets z_h_now) (r_settings z_h_now) z_h_refusals (r_children q6.2.1) (r_strokes q6.2.1) (r_gave q6.2.1) (r_threw q6.2.1) (r_kinds q6.2.1) (r_sweets q6.2.1) (r_settings q6.2.1) (r_heaps q6.2.1) (r_children q6.2.2) (r_strokes q6.2.2) (r_gave q6.2.2) (r_threw q6.2.2) (r_kinds q6.2.2) (r_sweets q6.2.2) (r_settings q6.2.2) (r_heaps q6.2.2))) (As := [.ref a_h_now, .int x1, .int x2]) (rest := []) hx hb hml hown hT (c_Mind_feltBehind (z_h_one := z_h_mind_one) (z_h_two := z_h_mind_two) (z_g1 := z_h_now) a_h_mind a_h_mind_one a_h_mind_two a_h_mind_one_kinds a_h_mind_one_sweets a_h_mind_one_settings a_h_mind_one_heaps a_h_mind_two_kinds a_h_mind_two_sweets a_h_mind_two_settings a_h_mind_two_heaps a_h_now a_h_now_kinds a_h_now_sweets a_h_now_settings a_h_now_heaps y_h_mind_seed hq6) k_677 k_678 k_679 k_4 k_680 hd_Mind_feltBehind ⟨Nat.le_of_ble_eq_true rfl, Nat.le_of_ble_eq_true rfl⟩ xE0_ok trivial hA hK hP hD hS [6, 7, 8, 9, 10, 11, 12, 13, 14, 15, 16, 1, 2, 3, 4] [0, 5] [0, 13, 14, 15, 16, 1, 2, 3, 4, 5, 6, 7, 8, 9, 10, 11, 12] rfl rfl rfl rfl rfl rfl rfl rfl rfl rfl hl.1 rfl (Nat.le_of_ble_eq_true rfl) ⟨Nat.zero_le _, Nat.zero_le _⟩ d_X_felt_38 (fun H locs hP hD hS => ?_)
      have hq := Option.some.inj hf
      subst hq
      exact hret _ _ _ _ _ d_X_felt_41 rfl rfl hP hD hS
    · have hf := io_t hf c5
      refine lv_aload_n hx hb d_X_felt_22 rfl (lv_at hl 0 rfl) ?_
      refine lv_iconst (v := (-1)) hx hb d_X_felt_23 (by decide) ?_
      obtain ⟨q7, hq7, hf⟩ := io_b hf
      refine xcVI (wc := (w_X_refuse cI cJ cC a_h a_h_now a_h_kept a_h_letters a_h_numbers a_h_refusals a_h_mind a_h_parts a_h_past a_h_seating y_h_isKept y_h_numberCount z_h_refusals)) (wc' := (w_X_refuse cI cJ cC a_h a_h_now a_h_kept a_h_letters a_h_numbers a_h_refusals a_h_mind a_h_parts a_h_past a_h_seating y_h_isKept y_h_numberCount q7.2)) (ws' := (w_X_felt cI cJ cC a_h a_h_now a_h_kept a_h_letters a_h_numbers a_h_refusals a_h_mind a_h_parts a_h_past a_h_seating a_h_now_kinds a_h_now_sweets a_h_now_settings a_h_now_heaps a_h_mind_one a_h_mind_two a_h_mind_one_kinds a_h_mind_one_sweets a_h_mind_one_settings a_h_mind_one_heaps a_h_mind_two_kinds a_h_mind_two_sweets a_h_mind_two_settings a_h_mind_two_heaps y_h_isKept y_h_numberCount y_h_mind_seed (r_children z_h_now) (r_strokes z_h_now) (r_gave z_h_now) (r_threw z_h_now) (r_kinds z_h_now) (r_sweets z_h_now) (r_settings z_h_now) q7.2 (r_children z_h_mind_one) (r_strokes z_h_mind_one) (r_gave z_h_mind_one) (r_threw z_h_mind_one) (r_kinds z_h_mind_one) (r_sweets z_h_mind_one) (r_settings z_h_mind_one) (r_heaps z_h_mind_one) (r_children z_h_mind_two) (r_strokes z_h_mind_two) (r_gave z_h_mind_two) (r_threw z_h_mind_two) (r_kinds z_h_mind_two) (r_sweets z_h_mind_two) (r_settings z_h_mind_two) (r_heaps z_h_mind_two))) (As := [.int (-1)]) (rest := []) hx hb hml hown hT (c_X_refuse (z_h_refusals := z_h_refusals) a_h a_h_now a_h_kept a_h_letters a_h_numbers a_h_refusals a_h_mind a_h_parts a_h_past a_h_seating y_h_isKept y_h_numberCount hq7) k_206 k_208 ks_0 k_1 k_209 hd_X_refuse ⟨Nat.le_of_ble_eq_true rfl, Nat.le_of_ble_eq_true rfl⟩ xE0_ok trivial hA hK hP hD hS [0, 5] [1, 2, 3, 4, 6, 7, 8, 9, 10, 11, 12, 13, 14, 15, 16] [15, 0, 1, 2, 3, 16, 4, 5, 6, 7, 8, 9, 10, 11, 12, 13, 14] rfl rfl rfl rfl rfl rfl rfl rfl rfl rfl hl.1 rfl (Nat.le_of_ble_eq_true rfl) ⟨Nat.zero_le _, Nat.zero_le _⟩ d_X_felt_24 (fun H locs hP hD hS => ?_)
      have hq := Option.some.inj hf
      subst hq
      exact hret _ _ _ _ _ d_X_felt_27 rfl rfl hP hD hS
abbrev w_X_joined (cI cJ cC : ClassId) (a_h a_h_now a_h_kept a_h_letters a_h_numbers a_h_refusals a_h_mind a_h_parts a_h_past a_h_seating a_h_now_kinds a_h_now_sweets a_h_now_settings a_h_now_heaps a_h_kept_kinds a_h_kept_sweets a_h_kept_settings a_h_kept_heaps a_h_mind_one a_h_mind_two a_h_mind_one_kinds a_h_mind_one_sweets a_h_mind_one_settings a_h_mind_one_heaps : Nat) (y_h_numberCount : Int32) (y_h_mind_seed : Int32) (p_h_isKept : Int32) (p_h_now_children : Int32) (p_h_now_strokes : Int32) (p_h_now_gave : Int32) (p_h_now_threw : Int32) (p_h_now_kinds : (Nat → Int32)) (p_h_now_sweets : (Nat → Int32)) (p_h_now_settings : (Nat → Int32)) (p_h_kept_children : Int32) (p_h_kept_strokes : Int32) (p_h_kept_gave : Int32) (p_h_kept_threw : Int32) (p_h_kept_kinds : (Nat → Int32)) (p_h_kept_sweets : (Nat → Int32)) (p_h_refusals : (Nat → Int32)) (p_h_mind_one_children : Int32) (p_h_mind_one_strokes : Int32) (p_h_mind_one_gave : Int32) (p_h_mind_one_threw : Int32) (p_h_mind_one_kinds : (Nat → Int32)) (p_h_mind_one_sweets : (Nat → Int32)) (p_h_mind_one_settings : (Nat → Int32)) (p_h_mind_one_heaps : (Nat → Int32)) : va_W := [(a_h, .inr (0, [.ref a_h_now, .ref a_h_kept, .int p_h_isKept, .ref a_h_letters, .ref a_h_numbers, .int y_h_numberCount, .ref a_h_refusals, .ref a_h_mind, .ref a_h_parts, .ref a_h_past, .ref a_h_seating])), (a_h_now, .inr (1, [.ref a_h_now_kinds, .ref a_h_now_sweets, .ref a_h_now_settings, .int p_h_now_children, .int p_h_now_strokes, .int p_h_now_gave, .int p_h_now_threw, .ref a_h_now_heaps])), (a_h_now_kinds, .inl (cI, (8, .inl p_h_now_kinds))), (a_h_now_sweets, .inl (cI, (8, .inl p_h_now_sweets))), (a_h_now_settings, .inl (cI, (3, .inl p_h_now_settings))), (a_h_kept, .inr (1, [.ref a_h_kept_kinds, .ref a_h_kept_sweets, .ref a_h_kept_settings, .int p_h_kept_children, .int p_h_kept_strokes, .int p_h_kept_gave, .int p_h_kept_threw, .ref a_h_kept_heaps])), (a_h_kept_kinds, .inl (cI, (8, .inl p_h_kept_kinds))), (a_h_kept_sweets, .inl (cI, (8, .inl p_h_kept_sweets))), (a_h_refusals, .inl (cI, (7, .inl p_h_refusals))), (a_h_mind, .inr (3, [.ref a_h_mind_one, .ref a_h_mind_two, .int y_h_mind_seed])), (a_h_mind_one, .inr (1, [.ref a_h_mind_one_kinds, .ref a_h_mind_one_sweets, .ref a_h_mind_one_settings, .int p_h_mind_one_children, .int p_h_mind_one_strokes, .int p_h_mind_one_gave, .int p_h_mind_one_threw, .ref a_h_mind_one_heaps])), (a_h_mind_one_kinds, .inl (cI, (8, .inl p_h_mind_one_kinds))), (a_h_mind_one_sweets, .inl (cI, (8, .inl p_h_mind_one_sweets))), (a_h_mind_one_settings, .inl (cI, (3, .inl p_h_mind_one_settings))), (a_h_mind_one_heaps, .inl (cI, (8, .inl p_h_mind_one_heaps)))]
theorem d_X_joined_0 : decode b_X_joined 0 = .ok (.iload_n 1, 1) := by decide +kernel
theorem d_X_joined_1 : decode b_X_joined 1 = .ok (.iconst 0, 1) := by decide +kernel
theorem d_X_joined_2 : decode b_X_joined 2 = .ok (.bipush 50, 2) := by decide +kernel
theorem d_X_joined_4 : decode b_X_joined 4 = .ok (.invokestatic 100, 3) := by decide +kernel
theorem d_X_joined_7 : decode b_X_joined 7 = .ok (.istore_n 2, 1) := by decide +kernel
theorem d_X_joined_8 : decode b_X_joined 8 = .ok (.iload_n 2, 1) := by decide +kernel
theorem d_X_joined_9 : decode b_X_joined 9 = .ok (.ifCond .ne 33, 3) := by decide +kernel
theorem d_X_joined_12 : decode b_X_joined 12 = .ok (.aload_n 0, 1) := by decide +kernel
theorem d_X_joined_13 : decode b_X_joined 13 = .ok (.getfield 19, 3) := by decide +kernel
theorem d_X_joined_16 : decode b_X_joined 16 = .ok (.ifCond .eq 23, 3) := by decide +kernel
theorem d_X_joined_19 : decode b_X_joined 19 = .ok (.aload_n 0, 1) := by decide +kernel
theorem d_X_joined_20 : decode b_X_joined 20 = .ok (.getfield 10, 3) := by decide +kernel
theorem d_X_joined_23 : decode b_X_joined 23 = .ok (.getfield 121, 3) := by decide +kernel
theorem d_X_joined_26 : decode b_X_joined 26 = .ok (.aload_n 0, 1) := by decide +kernel
theorem d_X_joined_27 : decode b_X_joined 27 = .ok (.getfield 16, 3) := by decide +kernel
theorem d_X_joined_30 : decode b_X_joined 30 = .ok (.getfield 121, 3) := by decide +kernel
theorem d_X_joined_33 : decode b_X_joined 33 = .ok (.iadd, 1) := by decide +kernel
theorem d_X_joined_34 : decode b_X_joined 34 = .ok (.bipush 8, 2) := by decide +kernel
theorem d_X_joined_36 : decode b_X_joined 36 = .ok (.if_icmp .le 6, 3) := by decide +kernel
theorem d_X_joined_39 : decode b_X_joined 39 = .ok (.bipush (-3), 2) := by decide +kernel
theorem d_X_joined_41 : decode b_X_joined 41 = .ok (.istore_n 2, 1) := by decide +kernel
theorem d_X_joined_42 : decode b_X_joined 42 = .ok (.iload_n 2, 1) := by decide +kernel
theorem d_X_joined_43 : decode b_X_joined 43 = .ok (.ifCond .eq 9, 3) := by decide +kernel
theorem d_X_joined_46 : decode b_X_joined 46 = .ok (.aload_n 0, 1) := by decide +kernel
theorem d_X_joined_47 : decode b_X_joined 47 = .ok (.iload_n 2, 1) := by decide +kernel
theorem d_X_joined_48 : decode b_X_joined 48 = .ok (.invokevirtual 69, 3) := by decide +kernel
theorem d_X_joined_51 : decode b_X_joined 51 = .ok (.ireturn, 1) := by decide +kernel
theorem d_X_joined_52 : decode b_X_joined 52 = .ok (.aload_n 0, 1) := by decide +kernel
theorem d_X_joined_53 : decode b_X_joined 53 = .ok (.getfield 44, 3) := by decide +kernel
theorem d_X_joined_56 : decode b_X_joined 56 = .ok (.aload_n 0, 1) := by decide +kernel
theorem d_X_joined_57 : decode b_X_joined 57 = .ok (.getfield 10, 3) := by decide +kernel
theorem d_X_joined_60 : decode b_X_joined 60 = .ok (.aload_n 0, 1) := by decide +kernel
theorem d_X_joined_61 : decode b_X_joined 61 = .ok (.getfield 16, 3) := by decide +kernel
theorem d_X_joined_64 : decode b_X_joined 64 = .ok (.iload_n 1, 1) := by decide +kernel
theorem d_X_joined_65 : decode b_X_joined 65 = .ok (.invokevirtual 215, 3) := by decide +kernel
theorem d_X_joined_68 : decode b_X_joined 68 = .ok (.ireturn, 1) := by decide +kernel
set_option maxHeartbeats 4000000 in
set_option maxRecDepth 100000 in
theorem c_X_joined {l : Launch} {D : va_G} {cI cJ cC : ClassId} (a_h a_h_now a_h_kept a_h_letters a_h_numbers a_h_refusals a_h_mind a_h_parts a_h_past a_h_seating a_h_now_kinds a_h_now_sweets a_h_now_settings a_h_now_heaps a_h_kept_kinds a_h_kept_sweets a_h_kept_settings a_h_kept_heaps a_h_mind_one a_h_mind_two a_h_mind_one_kinds a_h_mind_one_sweets a_h_mind_one_settings a_h_mind_one_heaps : Nat) (y_h_numberCount : Int32) (y_h_mind_seed : Int32) {z_h_isKept : Int32} {z_h_now : RS} {z_h_kept : RS} {z_h_refusals : (Nat → Int32)} {z_h_mind_one : RS} {x1 : Int32} {q : Int32 × (Nat → Int32) × RS} (hf : f_X_joined z_h_isKept z_h_now z_h_kept z_h_refusals z_h_mind_one x1 = some q) : xI l y_X_joined b_X_joined 3 .int 6 135 D (tyK cI cJ cC) xE0 [.ref a_h, .int x1] (w_X_joined cI cJ cC a_h a_h_now a_h_kept a_h_letters a_h_numbers a_h_refusals a_h_mind a_h_parts a_h_past a_h_seating a_h_now_kinds a_h_now_sweets a_h_now_settings a_h_now_heaps a_h_kept_kinds a_h_kept_sweets a_h_kept_settings a_h_kept_heaps a_h_mind_one a_h_mind_two a_h_mind_one_kinds a_h_mind_one_sweets a_h_mind_one_settings a_h_mind_one_heaps y_h_numberCount y_h_mind_seed z_h_isKept (r_children z_h_now) (r_strokes z_h_now) (r_gave z_h_now) (r_threw z_h_now) (r_kinds z_h_now) (r_sweets z_h_now) (r_settings z_h_now) (r_children z_h_kept) (r_strokes z_h_kept) (r_gave z_h_kept) (r_threw z_h_kept) (r_kinds z_h_kept) (r_sweets z_h_kept) z_h_refusals (r_children z_h_mind_one) (r_strokes z_h_mind_one) (r_gave z_h_mind_one) (r_threw z_h_mind_one) (r_kinds z_h_mind_one) (r_sweets z_h_mind_one) (r_settings z_h_mind_one) (r_heaps z_h_mind_one)) q.1 (w_X_joined cI cJ cC a_h a_h_now a_h_kept a_h_letters a_h_numbers a_h_refusals a_h_mind a_h_parts a_h_past a_h_seating a_h_now_kinds a_h_now_sweets a_h_now_settings a_h_now_heaps a_h_kept_kinds a_h_kept_sweets a_h_kept_settings a_h_kept_heaps a_h_mind_one a_h_mind_two a_h_mind_one_kinds a_h_mind_one_sweets a_h_mind_one_settings a_h_mind_one_heaps y_h_numberCount y_h_mind_seed z_h_isKept (r_children z_h_now) (r_strokes z_h_now) (r_gave z_h_now) (r_threw z_h_now) (r_kinds z_h_now) (r_sweets z_h_now) (r_settings z_h_now) (r_children z_h_kept) (r_strokes z_h_kept) (r_gave z_h_kept) (r_threw z_h_kept) (r_kinds z_h_kept) (r_sweets z_h_kept) q.2.1 (r_children q.2.2) (r_strokes q.2.2) (r_gave q.2.2) (r_threw q.2.2) (r_kinds q.2.2) (r_sweets q.2.2) (r_settings q.2.2) (r_heaps q.2.2)) := by
  refine xI_of (by decide) (Nat.le_of_ble_eq_true rfl) ?_
  intro p e s m args below meth c A Q hx hb hml hown hT hA hP hD hK hS hE hret ls hl
  have hown : s.vm.findClass R_X = some m.cls := hown
  have hl : lv_has ls 3 [(0, .ref a_h), (1, .int x1)] := hl
  unfold f_X_joined at hf
  refine lv_iload_n hx hb d_X_joined_0 rfl (lv_at hl 1 rfl) ?_
  refine lv_iconst (v := 0) hx hb d_X_joined_1 (by decide) ?_
  refine lv_bipush (v := 50) hx hb d_X_joined_2 (by decide) ?_
  obtain ⟨q1, hq1, hf⟩ := io_b hf
  refine xcSI (wc := []) (wc' := []) (ws' := (w_X_joined cI cJ cC a_h a_h_now a_h_kept a_h_letters a_h_numbers a_h_refusals a_h_mind a_h_parts a_h_past a_h_seating a_h_now_kinds a_h_now_sweets a_h_now_settings a_h_now_heaps a_h_kept_kinds a_h_kept_sweets a_h_kept_settings a_h_kept_heaps a_h_mind_one a_h_mind_two a_h_mind_one_kinds a_h_mind_one_sweets a_h_mind_one_settings a_h_mind_one_heaps y_h_numberCount y_h_mind_seed z_h_isKept (r_children z_h_now) (r_strokes z_h_now) (r_gave z_h_now) (r_threw z_h_now) (r_kinds z_h_now) (r_sweets z_h_now) (r_settings z_h_now) (r_children z_h_kept) (r_strokes z_h_kept) (r_gave z_h_kept) (r_threw z_h_kept) (r_kinds z_h_kept) (r_sweets z_h_kept) z_h_refusals (r_children z_h_mind_one) (r_strokes z_h_mind_one) (r_gave z_h_mind_one) (r_threw z_h_mind_one) (r_kinds z_h_mind_one) (r_sweets z_h_mind_one) (r_settings z_h_mind_one) (r_heaps z_h_mind_one))) (As := [.int x1, .int 0, .int 50]) (rest := []) hx hb hml hown hT (c_X_outside hq1) k_385 k_357 k_1 k_358 hd_X_outside ⟨Nat.le_of_ble_eq_true rfl, Nat.le_of_ble_eq_true rfl⟩ xE0_ok trivial hA hK hP hD hS [] [0, 1, 2, 3, 4, 5, 6, 7, 8, 9, 10, 11, 12, 13, 14] [0, 1, 2, 3, 4, 5, 6, 7, 8, 9, 10, 11, 12, 13, 14] rfl rfl rfl rfl rfl rfl rfl hl.1 rfl (Nat.le_of_ble_eq_true rfl) ⟨Nat.zero_le _, Nat.zero_le _⟩ d_X_joined_4 (fun H locs hP hD hS => ?_)
  refine lv_istore_n (lv' := [(2, .int q1), (0, .ref a_h), (1, .int x1)]) hx hb d_X_joined_7 rfl hl (by decide) rfl (fun ls hl => ?_)
  refine lv_iload_n hx hb d_X_joined_8 rfl (lv_at hl 0 rfl) ?_
  refine lv_if_ne (tgt := 42) hx hb d_X_joined_9 (by decide) (fun c2 => ?_) (fun c2 => ?_)
  · have hf := io_f hf c2
    refine lv_iload_n hx hb d_X_joined_42 rfl (lv_at hl 0 rfl) ?_
    refine lv_if_eq (tgt := 52) hx hb d_X_joined_43 (by decide) (fun c => absurd c c2) (fun _ => ?_)
    refine lv_aload_n hx hb d_X_joined_46 rfl (lv_at hl 1 rfl) ?_
    refine lv_iload_n hx hb d_X_joined_47 rfl (lv_at hl 0 rfl) ?_
    obtain ⟨q3, hq3, hf⟩ := io_b hf
    refine xcVI (wc := (w_X_refuse cI cJ cC a_h a_h_now a_h_kept a_h_letters a_h_numbers a_h_refusals a_h_mind a_h_parts a_h_past a_h_seating z_h_isKept y_h_numberCount z_h_refusals)) (wc' := (w_X_refuse cI cJ cC a_h a_h_now a_h_kept a_h_letters a_h_numbers a_h_refusals a_h_mind a_h_parts a_h_past a_h_seating z_h_isKept y_h_numberCount q3.2)) (ws' := (w_X_joined cI cJ cC a_h a_h_now a_h_kept a_h_letters a_h_numbers a_h_refusals a_h_mind a_h_parts a_h_past a_h_seating a_h_now_kinds a_h_now_sweets a_h_now_settings a_h_now_heaps a_h_kept_kinds a_h_kept_sweets a_h_kept_settings a_h_kept_heaps a_h_mind_one a_h_mind_two a_h_mind_one_kinds a_h_mind_one_sweets a_h_mind_one_settings a_h_mind_one_heaps y_h_numberCount y_h_mind_seed z_h_isKept (r_children z_h_now) (r_strokes z_h_now) (r_gave z_h_now) (r_threw z_h_now) (r_kinds z_h_now) (r_sweets z_h_now) (r_settings z_h_now) (r_children z_h_kept) (r_strokes z_h_kept) (r_gave z_h_kept) (r_threw z_h_kept) (r_kinds z_h_kept) (r_sweets z_h_kept) q3.2 (r_children z_h_mind_one) (r_strokes z_h_mind_one) (r_gave z_h_mind_one) (r_threw z_h_mind_one) (r_kinds z_h_mind_one) (r_sweets z_h_mind_one) (r_settings z_h_mind_one) (r_heaps z_h_mind_one))) (As := [.int q1]) (rest := []) hx hb hml hown hT (c_X_refuse (z_h_refusals := z_h_refusals) a_h a_h_now a_h_kept a_h_letters a_h_numbers a_h_refusals a_h_mind a_h_parts a_h_past a_h_seating z_h_isKept y_h_numberCount hq3) k_206 k_208 ks_0 k_1 k_209 hd_X_refuse ⟨Nat.le_of_ble_eq_true rfl, Nat.le_of_ble_eq_true rfl⟩ xE0_ok trivial hA hK hP hD hS [0, 8] [1, 2, 3, 4, 5, 6, 7, 9, 10, 11, 12, 13, 14] [13, 0, 1, 2, 3, 4, 5, 6, 14, 7, 8, 9, 10, 11, 12] rfl rfl rfl rfl rfl rfl rfl rfl rfl rfl hl.1 rfl (Nat.le_of_ble_eq_true rfl) ⟨Nat.zero_le _, Nat.zero_le _⟩ d_X_joined_48 (fun H locs hP hD hS => ?_)
    have hq := Option.some.inj hf
    subst hq
    exact hret _ _ _ _ _ d_X_joined_51 rfl rfl hP hD hS
  · have hf := io_t hf c2
    refine lv_aload_n hx hb d_X_joined_12 rfl (lv_at hl 1 rfl) ?_
    refine va_get hx hb hT i_X hown hK hP 0 rfl rfl 2 (Nat.le_of_ble_eq_true rfl) (hT _ k_170) (fun _ h => h) rfl d_X_joined_13 ?_
    refine lv_if_eq (tgt := 39) hx hb d_X_joined_16 (by decide) (fun c4 => ?_) (fun c4 => ?_)
    · have hf := io_t hf c4
      refine lv_bipush (v := (-3)) hx hb d_X_joined_39 (by decide) ?_
      refine lv_istore_n (lv' := [(2, .int (-3)), (0, .ref a_h), (1, .int x1)]) hx hb d_X_joined_41 rfl hl (by decide) rfl (fun ls hl => ?_)
      refine lv_iload_n hx hb d_X_joined_42 rfl (lv_at hl 0 rfl) ?_
      refine lv_if_eq (tgt := 52) hx hb d_X_joined_43 (by decide) (fun c => absurd c (show ¬ ((-3) : Int32) = 0 from by decide +kernel)) (fun _ => ?_)
      refine lv_aload_n hx hb d_X_joined_46 rfl (lv_at hl 1 rfl) ?_
      refine lv_iload_n hx hb d_X_joined_47 rfl (lv_at hl 0 rfl) ?_
      obtain ⟨q5, hq5, hf⟩ := io_b hf
      refine xcVI (wc := (w_X_refuse cI cJ cC a_h a_h_now a_h_kept a_h_letters a_h_numbers a_h_refusals a_h_mind a_h_parts a_h_past a_h_seating z_h_isKept y_h_numberCount z_h_refusals)) (wc' := (w_X_refuse cI cJ cC a_h a_h_now a_h_kept a_h_letters a_h_numbers a_h_refusals a_h_mind a_h_parts a_h_past a_h_seating z_h_isKept y_h_numberCount q5.2)) (ws' := (w_X_joined cI cJ cC a_h a_h_now a_h_kept a_h_letters a_h_numbers a_h_refusals a_h_mind a_h_parts a_h_past a_h_seating a_h_now_kinds a_h_now_sweets a_h_now_settings a_h_now_heaps a_h_kept_kinds a_h_kept_sweets a_h_kept_settings a_h_kept_heaps a_h_mind_one a_h_mind_two a_h_mind_one_kinds a_h_mind_one_sweets a_h_mind_one_settings a_h_mind_one_heaps y_h_numberCount y_h_mind_seed z_h_isKept (r_children z_h_now) (r_strokes z_h_now) (r_gave z_h_now) (r_threw z_h_now) (r_kinds z_h_now) (r_sweets z_h_now) (r_settings z_h_now) (r_children z_h_kept) (r_strokes z_h_kept) (r_gave z_h_kept) (r_threw z_h_kept) (r_kinds z_h_kept) (r_sweets z_h_kept) q5.2 (r_children z_h_mind_one) (r_strokes z_h_mind_one) (r_gave z_h_mind_one) (r_threw z_h_mind_one) (r_kinds z_h_mind_one) (r_sweets z_h_mind_one) (r_settings z_h_mind_one) (r_heaps z_h_mind_one))) (As := [.int (-3)]) (rest := []) hx hb hml hown hT (c_X_refuse (z_h_refusals := z_h_refusals) a_h a_h_now a_h_kept a_h_letters a_h_numbers a_h_refusals a_h_mind a_h_parts a_h_past a_h_seating z_h_isKept y_h_numberCount hq5) k_206 k_208 ks_0 k_1 k_209 hd_X_refuse ⟨Nat.le_of_ble_eq_true rfl, Nat.le_of_ble_eq_true rfl⟩ xE0_ok trivial hA hK hP hD hS [0, 8] [1, 2, 3, 4, 5, 6, 7, 9, 10, 11, 12, 13, 14] [13, 0, 1, 2, 3, 4, 5, 6, 14, 7, 8, 9, 10, 11, 12] rfl rfl rfl rfl rfl rfl rfl rfl rfl rfl hl.1 rfl (Nat.le_of_ble_eq_true rfl) ⟨Nat.zero_le _, Nat.zero_le _⟩ d_X_joined_48 (fun H locs hP hD hS => ?_)
      have hq := Option.some.inj hf
      subst hq
      exact hret _ _ _ _ _ d_X_joined_51 rfl rfl hP hD hS
    · have hf := io_f hf c4
      refine lv_aload_n hx hb d_X_joined_19 rfl (lv_at hl 1 rfl) ?_
      refine va_get hx hb hT i_X hown hK hP 0 rfl rfl 0 (Nat.le_of_ble_eq_true rfl) (hT _ k_168) (fun _ h => h) rfl d_X_joined_20 ?_
      refine va_get hx hb hT i_Ring hown hK hP 1 rfl rfl 3 (Nat.le_of_ble_eq_true rfl) (hT _ k_48) (fun _ h => h) rfl d_X_joined_23 ?_
      refine lv_aload_n hx hb d_X_joined_26 rfl (lv_at hl 1 rfl) ?_
      refine va_get hx hb hT i_X hown hK hP 0 rfl rfl 1 (Nat.le_of_ble_eq_true rfl) (hT _ k_169) (fun _ h => h) rfl d_X_joined_27 ?_
      refine va_get hx hb hT i_Ring hown hK hP 5 rfl rfl 3 (Nat.le_of_ble_eq_true rfl) (hT _ k_48) (fun _ h => h) rfl d_X_joined_30 ?_
      refine lv_iadd hx hb d_X_joined_33 ?_
      refine lv_bipush (v := 8) hx hb d_X_joined_34 (by decide) ?_
      refine lv_icmp_le (tgt := 42) hx hb d_X_joined_36 (by decide) (fun c6 => ?_) (fun c6 => ?_)
      · have hf := io_t hf c6
        refine lv_iload_n hx hb d_X_joined_42 rfl (lv_at hl 0 rfl) ?_
        refine lv_if_eq (tgt := 52) hx hb d_X_joined_43 (by decide) (fun _ => ?_) (fun c => absurd c2 c)
        refine lv_aload_n hx hb d_X_joined_52 rfl (lv_at hl 1 rfl) ?_
        refine va_get hx hb hT i_X hown hK hP 0 rfl rfl 7 (Nat.le_of_ble_eq_true rfl) (hT _ k_175) (fun _ h => h) rfl d_X_joined_53 ?_
        refine lv_aload_n hx hb d_X_joined_56 rfl (lv_at hl 1 rfl) ?_
        refine va_get hx hb hT i_X hown hK hP 0 rfl rfl 0 (Nat.le_of_ble_eq_true rfl) (hT _ k_168) (fun _ h => h) rfl d_X_joined_57 ?_
        refine lv_aload_n hx hb d_X_joined_60 rfl (lv_at hl 1 rfl) ?_
        refine va_get hx hb hT i_X hown hK hP 0 rfl rfl 1 (Nat.le_of_ble_eq_true rfl) (hT _ k_169) (fun _ h => h) rfl d_X_joined_61 ?_
        refine lv_iload_n hx hb d_X_joined_64 rfl (lv_at hl 2 rfl) ?_
        obtain ⟨q7, hq7, hf⟩ := io_b hf
        refine xcVI (wc := (w_Mind_gaveJoined cI cJ cC a_h_mind a_h_mind_one a_h_mind_two a_h_mind_one_kinds a_h_mind_one_sweets a_h_mind_one_settings a_h_mind_one_heaps a_h_now a_h_now_kinds a_h_now_sweets a_h_now_settings a_h_now_heaps a_h_kept a_h_kept_kinds a_h_kept_sweets a_h_kept_settings a_h_kept_heaps y_h_mind_seed (r_children z_h_mind_one) (r_strokes z_h_mind_one) (r_gave z_h_mind_one) (r_threw z_h_mind_one) (r_kinds z_h_mind_one) (r_sweets z_h_mind_one) (r_settings z_h_mind_one) (r_heaps z_h_mind_one) (r_children z_h_now) (r_strokes z_h_now) (r_gave z_h_now) (r_threw z_h_now) (r_kinds z_h_now) (r_sweets z_h_now) (r_settings z_h_now) (r_children z_h_kept) (r_strokes z_h_kept) (r_gave z_h_kept) (r_threw z_h_kept) (r_kinds z_h_kept) (r_sweets z_h_kept))) (wc' := (w_Mind_gaveJoined cI cJ cC a_h_mind a_h_mind_one a_h_mind_two a_h_mind_one_kinds a_h_mind_one_sweets a_h_mind_one_settings a_h_mind_one_heaps a_h_now a_h_now_kinds a_h_now_sweets a_h_now_settings a_h_now_heaps a_h_kept a_h_kept_kinds a_h_kept_sweets a_h_kept_settings a_h_kept_heaps y_h_mind_seed (r_children q7.2) (r_strokes q7.2) (r_gave q7.2) (r_threw q7.2) (r_kinds q7.2) (r_sweets q7.2) (r_settings q7.2) (r_heaps q7.2) (r_children z_h_now) (r_strokes z_h_now) (r_gave z_h_now) (r_threw z_h_now) (r_kinds z_h_now) (r_sweets z_h_now) (r_settings z_h_now) (r_children z_h_kept) (r_strokes z_h_kept) (r_gave z_h_kept) (r_threw z_h_kept) (r_kinds z_h_kept) (r_sweets z_h_kept))) (ws' := (w_X_joined cI cJ cC a_h a_h_now a_h_kept a_h_letters a_h_numbers a_h_refusals a_h_mind a_h_parts a_h_past a_h_seating a_h_now_kinds a_h_now_sweets a_h_now_settings a_h_now_heaps a_h_kept_kinds a_h_kept_sweets a_h_kept_settings a_h_kept_heaps a_h_mind_one a_h_mind_two a_h_mind_one_kinds a_h_mind_one_sweets a_h_mind_one_settings a_h_mind_one_heaps y_h_numberCount y_h_mind_seed z_h_isKept (r_children z_h_now) (r_strokes z_h_now) (r_gave z_h_now) (r_threw z_h_now) (r_kinds z_h_now) (r_sweets z_h_now) (r_settings z_h_now) (r_children z_h_kept) (r_strokes z_h_kept) (r_gave z_h_kept) (r_threw z_h_kept) (r_kinds z_h_kept) (r_sweets z_h_kept) z_h_refusals (r_children q7.2) (r_strokes q7.2) (r_gave q7.2) (r_threw q7.2) (r_kinds q7.2) (r_sweets q7.2) (r_settings q7.2) (r_heaps q7.2))) (As := [.ref a_h_now, .ref a_h_kept, .int x1]) (rest := []) hx hb hml hown hT (c_Mind_gaveJoined (z_h_one := z_h_mind_one) (z_g1 := z_h_now) (z_g2 := z_h_kept) a_h_mind a_h_mind_one a_h_mind_two a_h_mind_one_kinds a_h_mind_one_sweets a_h_mind_one_settings a_h_mind_one_heaps a_h_now a_h_now_kinds a_h_now_sweets a_h_now_settings a_h_now_heaps a_h_kept a_h_kept_kinds a_h_kept_sweets a_h_kept_settings a_h_kept_heaps y_h_mind_seed hq7) k_686 k_687 k_688 k_4 k_689 hd_Mind_gaveJoined ⟨Nat.le_of_ble_eq_true rfl, Nat.le_of_ble_eq_true rfl⟩ xE0_ok trivial hA hK hP hD hS [9, 10, 11, 12, 13, 14, 1, 2, 3, 4, 5, 6, 7] [0, 8] [0, 8, 9, 10, 11, 12, 13, 14, 1, 2, 3, 4, 5, 6, 7] rfl rfl rfl rfl rfl rfl rfl rfl rfl rfl hl.1 rfl (Nat.le_of_ble_eq_true rfl) ⟨Nat.zero_le _, Nat.zero_le _⟩ d_X_joined_65 (fun H locs hP hD hS => ?_)
        have hq := Option.some.inj hf
        subst hq
        exact hret _ _ _ _ _ d_X_joined_68 rfl rfl hP hD hS
      · have hf := io_f hf c6
        refine lv_bipush (v := (-3)) hx hb d_X_joined_39 (by decide) ?_
        refine lv_istore_n (lv' := [(2, .int (-3)), (0, .ref a_h), (1, .int x1)]) hx hb d_X_joined_41 rfl hl (by decide) rfl (fun ls hl => ?_)
        refine lv_iload_n hx hb d_X_joined_42 rfl (lv_at hl 0 rfl) ?_
        refine lv_if_eq (tgt := 52) hx hb d_X_joined_43 (by decide) (fun c => absurd c (show ¬ ((-3) : Int32) = 0 from by decide +kernel)) (fun _ => ?_)
        refine lv_aload_n hx hb d_X_joined_46 rfl (lv_at hl 1 rfl) ?_
        refine lv_iload_n hx hb d_X_joined_47 rfl (lv_at hl 0 rfl) ?_
        obtain ⟨q8, hq8, hf⟩ := io_b hf
        refine xcVI (wc := (w_X_refuse cI cJ cC a_h a_h_now a_h_kept a_h_letters a_h_numbers a_h_refusals a_h_mind a_h_parts a_h_past a_h_seating z_h_isKept y_h_numberCount z_h_refusals)) (wc' := (w_X_refuse cI cJ cC a_h a_h_now a_h_kept a_h_letters a_h_numbers a_h_refusals a_h_mind a_h_parts a_h_past a_h_seating z_h_isKept y_h_numberCount q8.2)) (ws' := (w_X_joined cI cJ cC a_h a_h_now a_h_kept a_h_letters a_h_numbers a_h_refusals a_h_mind a_h_parts a_h_past a_h_seating a_h_now_kinds a_h_now_sweets a_h_now_settings a_h_now_heaps a_h_kept_kinds a_h_kept_sweets a_h_kept_settings a_h_kept_heaps a_h_mind_one a_h_mind_two a_h_mind_one_kinds a_h_mind_one_sweets a_h_mind_one_settings a_h_mind_one_heaps y_h_numberCount y_h_mind_seed z_h_isKept (r_children z_h_now) (r_strokes z_h_now) (r_gave z_h_now) (r_threw z_h_now) (r_kinds z_h_now) (r_sweets z_h_now) (r_settings z_h_now) (r_children z_h_kept) (r_strokes z_h_kept) (r_gave z_h_kept) (r_threw z_h_kept) (r_kinds z_h_kept) (r_sweets z_h_kept) q8.2 (r_children z_h_mind_one) (r_strokes z_h_mind_one) (r_gave z_h_mind_one) (r_threw z_h_mind_one) (r_kinds z_h_mind_one) (r_sweets z_h_mind_one) (r_settings z_h_mind_one) (r_heaps z_h_mind_one))) (As := [.int (-3)]) (rest := []) hx hb hml hown hT (c_X_refuse (z_h_refusals := z_h_refusals) a_h a_h_now a_h_kept a_h_letters a_h_numbers a_h_refusals a_h_mind a_h_parts a_h_past a_h_seating z_h_isKept y_h_numberCount hq8) k_206 k_208 ks_0 k_1 k_209 hd_X_refuse ⟨Nat.le_of_ble_eq_true rfl, Nat.le_of_ble_eq_true rfl⟩ xE0_ok trivial hA hK hP hD hS [0, 8] [1, 2, 3, 4, 5, 6, 7, 9, 10, 11, 12, 13, 14] [13, 0, 1, 2, 3, 4, 5, 6, 14, 7, 8, 9, 10, 11, 12] rfl rfl rfl rfl rfl rfl rfl rfl rfl rfl hl.1 rfl (Nat.le_of_ble_eq_true rfl) ⟨Nat.zero_le _, Nat.zero_le _⟩ d_X_joined_48 (fun H locs hP hD hS => ?_)
        have hq := Option.some.inj hf
        subst hq
        exact hret _ _ _ _ _ d_X_joined_51 rfl rfl hP hD hS
abbrev w_X_newly (cI cJ cC : ClassId) (a_h a_h_now a_h_kept a_h_letters a_h_numbers a_h_refusals a_h_mind a_h_parts a_h_past a_h_seating a_h_now_kinds a_h_now_sweets a_h_now_settings a_h_now_heaps a_h_mind_one a_h_mind_two a_h_mind_one_kinds a_h_mind_one_sweets a_h_mind_one_settings a_h_mind_one_heaps a_h_mind_two_kinds a_h_mind_two_sweets a_h_mind_two_settings a_h_mind_two_heaps : Nat) (y_h_isKept : Int32) (y_h_numberCount : Int32) (y_h_mind_seed : Int32) (p_h_now_children : Int32) (p_h_now_strokes : Int32) (p_h_now_gave : Int32) (p_h_now_threw : Int32) (p_h_now_kinds : (Nat → Int32)) (p_h_now_sweets : (Nat → Int32)) (p_h_now_settings : (Nat → Int32)) (p_h_refusals : (Nat → Int32)) (p_h_mind_one_children : Int32) (p_h_mind_one_strokes : Int32) (p_h_mind_one_gave : Int32) (p_h_mind_one_threw : Int32) (p_h_mind_one_kinds : (Nat → Int32)) (p_h_mind_one_sweets : (Nat → Int32)) (p_h_mind_one_settings : (Nat → Int32)) (p_h_mind_one_heaps : (Nat → Int32)) (p_h_mind_two_children : Int32) (p_h_mind_two_strokes : Int32) (p_h_mind_two_gave : Int32) (p_h_mind_two_threw : Int32) (p_h_mind_two_kinds : (Nat → Int32)) (p_h_mind_two_sweets : (Nat → Int32)) (p_h_mind_two_settings : (Nat → Int32)) (p_h_mind_two_heaps : (Nat → Int32)) : va_W := [(a_h, .inr (0, [.ref a_h_now, .ref a_h_kept, .int y_h_isKept, .ref a_h_letters, .ref a_h_numbers, .int y_h_numberCount, .ref a_h_refusals, .ref a_h_mind, .ref a_h_parts, .ref a_h_past, .ref a_h_seating])), (a_h_now, .inr (1, [.ref a_h_now_kinds, .ref a_h_now_sweets, .ref a_h_now_settings, .int p_h_now_children, .int p_h_now_strokes, .int p_h_now_gave, .int p_h_now_threw, .ref a_h_now_heaps])), (a_h_now_kinds, .inl (cI, (8, .inl p_h_now_kinds))), (a_h_now_sweets, .inl (cI, (8, .inl p_h_now_sweets))), (a_h_now_settings, .inl (cI, (3, .inl p_h_now_settings))), (a_h_refusals, .inl (cI, (7, .inl p_h_refusals))), (a_h_mind, .inr (3, [.ref a_h_mind_one, .ref a_h_mind_two, .int y_h_mind_seed])), (a_h_mind_one, .inr (1, [.ref a_h_mind_one_kinds, .ref a_h_mind_one_sweets, .ref a_h_mind_one_settings, .int p_h_mind_one_children, .int p_h_mind_one_strokes, .int p_h_mind_one_gave, .int p_h_mind_one_threw, .ref a_h_mind_one_heaps])), (a_h_mind_one_kinds, .inl (cI, (8, .inl p_h_mind_one_kinds))), (a_h_mind_one_sweets, .inl (cI, (8, .inl p_h_mind_one_sweets))), (a_h_mind_one_settings, .inl (cI, (3, .inl p_h_mind_one_settings))), (a_h_mind_one_heaps, .inl (cI, (8, .inl p_h_mind_one_heaps))), (a_h_mind_two, .inr (1, [.ref a_h_mind_two_kinds, .ref a_h_mind_two_sweets, .ref a_h_mind_two_settings, .int p_h_mind_two_children, .int p_h_mind_two_strokes, .int p_h_mind_two_gave, .int p_h_mind_two_threw, .ref a_h_mind_two_heaps])), (a_h_mind_two_kinds, .inl (cI, (8, .inl p_h_mind_two_kinds))), (a_h_mind_two_sweets, .inl (cI, (8, .inl p_h_mind_two_sweets))), (a_h_mind_two_settings, .inl (cI, (3, .inl p_h_mind_two_settings))), (a_h_mind_two_heaps, .inl (cI, (8, .inl p_h_mind_two_heaps)))]
theorem d_X_newly_0 : decode b_X_newly 0 = .ok (.iconst 0, 1) := by decide +kernel
theorem d_X_newly_1 : decode b_X_newly 1 = .ok (.istore_n 3, 1) := by decide +kernel
theorem d_X_newly_2 : decode b_X_newly 2 = .ok (.iload_n 1, 1) := by decide +kernel
theorem d_X_newly_3 : decode b_X_newly 3 = .ok (.ifCond .lt 7, 3) := by decide +kernel
theorem d_X_newly_6 : decode b_X_newly 6 = .ok (.iload_n 2, 1) := by decide +kernel
theorem d_X_newly_7 : decode b_X_newly 7 = .ok (.ifCond .ge 9, 3) := by decide +kernel
theorem d_X_newly_10 : decode b_X_newly 10 = .ok (.bipush (-4), 2) := by decide +kernel
theorem d_X_newly_12 : decode b_X_newly 12 = .ok (.istore_n 3, 1) := by decide +kernel
theorem d_X_newly_13 : decode b_X_newly 13 = .ok (.goto 31, 3) := by decide +kernel
theorem d_X_newly_16 : decode b_X_newly 16 = .ok (.iload_n 1, 1) := by decide +kernel
theorem d_X_newly_17 : decode b_X_newly 17 = .ok (.sipush 999, 3) := by decide +kernel
theorem d_X_newly_20 : decode b_X_newly 20 = .ok (.if_icmp .gt 21, 3) := by decide +kernel
theorem d_X_newly_23 : decode b_X_newly 23 = .ok (.iload_n 2, 1) := by decide +kernel
theorem d_X_newly_24 : decode b_X_newly 24 = .ok (.bipush 50, 2) := by decide +kernel
theorem d_X_newly_26 : decode b_X_newly 26 = .ok (.if_icmp .gt 15, 3) := by decide +kernel
theorem d_X_newly_29 : decode b_X_newly 29 = .ok (.aload_n 0, 1) := by decide +kernel
theorem d_X_newly_30 : decode b_X_newly 30 = .ok (.getfield 10, 3) := by decide +kernel
theorem d_X_newly_33 : decode b_X_newly 33 = .ok (.getfield 121, 3) := by decide +kernel
theorem d_X_newly_36 : decode b_X_newly 36 = .ok (.bipush 8, 2) := by decide +kernel
theorem d_X_newly_38 : decode b_X_newly 38 = .ok (.if_icmp .lt 6, 3) := by decide +kernel
theorem d_X_newly_41 : decode b_X_newly 41 = .ok (.bipush (-6), 2) := by decide +kernel
theorem d_X_newly_43 : decode b_X_newly 43 = .ok (.istore_n 3, 1) := by decide +kernel
theorem d_X_newly_44 : decode b_X_newly 44 = .ok (.iload_n 3, 1) := by decide +kernel
theorem d_X_newly_45 : decode b_X_newly 45 = .ok (.ifCond .eq 12, 3) := by decide +kernel
theorem d_X_newly_48 : decode b_X_newly 48 = .ok (.ldc 207, 2) := by decide +kernel
theorem d_X_newly_50 : decode b_X_newly 50 = .ok (.aload_n 0, 1) := by decide +kernel
theorem d_X_newly_51 : decode b_X_newly 51 = .ok (.iload_n 3, 1) := by decide +kernel
theorem d_X_newly_52 : decode b_X_newly 52 = .ok (.invokevirtual 69, 3) := by decide +kernel
theorem d_X_newly_55 : decode b_X_newly 55 = .ok (.isub, 1) := by decide +kernel
theorem d_X_newly_56 : decode b_X_newly 56 = .ok (.ireturn, 1) := by decide +kernel
theorem d_X_newly_57 : decode b_X_newly 57 = .ok (.aload_n 0, 1) := by decide +kernel
theorem d_X_newly_58 : decode b_X_newly 58 = .ok (.getfield 44, 3) := by decide +kernel
theorem d_X_newly_61 : decode b_X_newly 61 = .ok (.aload_n 0, 1) := by decide +kernel
theorem d_X_newly_62 : decode b_X_newly 62 = .ok (.getfield 10, 3) := by decide +kernel
theorem d_X_newly_65 : decode b_X_newly 65 = .ok (.iload_n 1, 1) := by decide +kernel
theorem d_X_newly_66 : decode b_X_newly 66 = .ok (.iload_n 2, 1) := by decide +kernel
theorem d_X_newly_67 : decode b_X_newly 67 = .ok (.invokevirtual 219, 3) := by decide +kernel
theorem d_X_newly_70 : decode b_X_newly 70 = .ok (.ireturn, 1) := by decide +kernel
set_option maxHeartbeats 4000000 in
set_option maxRecDepth 100000 in
theorem c_X_newly {l : Launch} {D : va_G} {cI cJ cC : ClassId} (a_h a_h_now a_h_kept a_h_letters a_h_numbers a_h_refusals a_h_mind a_h_parts a_h_past a_h_seating a_h_now_kinds a_h_now_sweets a_h_now_settings a_h_now_heaps a_h_mind_one a_h_mind_two a_h_mind_one_kinds a_h_mind_one_sweets a_h_mind_one_settings a_h_mind_one_heaps a_h_mind_two_kinds a_h_mind_two_sweets a_h_mind_two_settings a_h_mind_two_heaps : Nat) (y_h_isKept : Int32) (y_h_numberCount : Int32) (y_h_mind_seed : Int32) {z_h_now : RS} {z_h_refusals : (Nat → Int32)} {z_h_mind_one : RS} {z_h_mind_two : RS} {x1 : Int32} {x2 : Int32} {q : Int32 × (Nat → Int32) × RS × RS} (hf : f_X_newly z_h_now z_h_refusals z_h_mind_one z_h_mind_two x1 x2 = some q) : xI l y_X_newly b_X_newly 4 .int 6 134 D (tyK cI cJ cC) xE0 [.ref a_h, .int x1, .int x2] (w_X_newly cI cJ cC a_h a_h_now a_h_kept a_h_letters a_h_numbers a_h_refusals a_h_mind a_h_parts a_h_past a_h_seating a_h_now_kinds a_h_now_sweets a_h_now_settings a_h_now_heaps a_h_mind_one a_h_mind_two a_h_mind_one_kinds a_h_mind_one_sweets a_h_mind_one_settings a_h_mind_one_heaps a_h_mind_two_kinds a_h_mind_two_sweets a_h_mind_two_settings a_h_mind_two_heaps y_h_isKept y_h_numberCount y_h_mind_seed (r_children z_h_now) (r_strokes z_h_now) (r_gave z_h_now) (r_threw z_h_now) (r_kinds z_h_now) (r_sweets z_h_now) (r_settings z_h_now) z_h_refusals (r_children z_h_mind_one) (r_strokes z_h_mind_one) (r_gave z_h_mind_one) (r_threw z_h_mind_one) (r_kinds z_h_mind_one) (r_sweets z_h_mind_one) (r_settings z_h_mind_one) (r_heaps z_h_mind_one) (r_children z_h_mind_two) (r_strokes z_h_mind_two) (r_gave z_h_mind_two) (r_threw z_h_mind_two) (r_kinds z_h_mind_two) (r_sweets z_h_mind_two) (r_settings z_h_mind_two) (r_heaps z_h_mind_two)) q.1 (w_X_newly cI cJ cC a_h a_h_now a_h_kept a_h_letters a_h_numbers a_h_refusals a_h_mind a_h_parts a_h_past a_h_seating a_h_now_kinds a_h_now_sweets a_h_now_settings a_h_now_heaps a_h_mind_one a_h_mind_two a_h_mind_one_kinds a_h_mind_one_sweets a_h_mind_one_settings a_h_mind_one_heaps a_h_mind_two_kinds a_h_mind_two_sweets a_h_mind_two_settings a_h_mind_two_heaps y_h_isKept y_h_numberCount y_h_mind_seed (r_children z_h_now) (r_strokes z_h_now) (r_gave z_h_now) (r_threw z_h_now) (r_kinds z_h_now) (r_sweets z_h_now) (r_settings z_h_now) q.2.1 (r_children q.2.2.1) (r_strokes q.2.2.1) (r_gave q.2.2.1) (r_threw q.2.2.1) (r_kinds q.2.2.1) (r_sweets q.2.2.1) (r_settings q.2.2.1) (r_heaps q.2.2.1) (r_children q.2.2.2) (r_strokes q.2.2.2) (r_gave q.2.2.2) (r_threw q.2.2.2) (r_kinds q.2.2.2) (r_sweets q.2.2.2) (r_settings q.2.2.2) (r_heaps q.2.2.2)) := by
  refine xI_of (by decide) (Nat.le_of_ble_eq_true rfl) ?_
  intro p e s m args below meth c A Q hx hb hml hown hT hA hP hD hK hS hE hret ls hl
  have hown : s.vm.findClass R_X = some m.cls := hown
  have hl : lv_has ls 4 [(0, .ref a_h), (1, .int x1), (2, .int x2)] := hl
  unfold f_X_newly at hf
  refine lv_iconst (v := 0) hx hb d_X_newly_0 (by decide) ?_
  refine lv_istore_n (lv' := [(3, .int 0), (0, .ref a_h), (1, .int x1), (2, .int x2)]) hx hb d_X_newly_1 rfl hl (by decide) rfl (fun ls hl => ?_)
  refine lv_iload_n hx hb d_X_newly_2 rfl (lv_at hl 2 rfl) ?_
  refine lv_if_lt (tgt := 10) hx hb d_X_newly_3 (by decide) (fun c1 => ?_) (fun c1 => ?_)
  · have hf := io_t hf c1
    refine lv_bipush (v := (-4)) hx hb d_X_newly_10 (by decide) ?_
    refine lv_istore_n (lv' := [(3, .int (-4)), (0, .ref a_h), (1, .int x1), (2, .int x2)]) hx hb d_X_newly_12 rfl hl (by decide) rfl (fun ls hl => ?_)
    refine lv_goto (tgt := 44) hx hb d_X_newly_13 (by decide) ?_
    refine lv_iload_n hx hb d_X_newly_44 rfl (lv_at hl 0 rfl) ?_
    refine lv_if_eq (tgt := 57) hx hb d_X_newly_45 (by decide) (fun c => absurd c (show ¬ ((-4) : Int32) = 0 from by decide +kernel)) (fun _ => ?_)
    refine lv_ldc (v := 1000000000) hx hb hown (hT _ k_667) d_X_newly_48 ?_
    refine lv_aload_n hx hb d_X_newly_50 rfl (lv_at hl 1 rfl) ?_
    refine lv_iload_n hx hb d_X_newly_51 rfl (lv_at hl 0 rfl) ?_
    obtain ⟨q2, hq2, hf⟩ := io_b hf
    refine xcVI (wc := (w_X_refuse cI cJ cC a_h a_h_now a_h_kept a_h_letters a_h_numbers a_h_refusals a_h_mind a_h_parts a_h_past a_h_seating y_h_isKept y_h_numberCount z_h_refusals)) (wc' := (w_X_refuse cI cJ cC a_h a_h_now a_h_kept a_h_letters a_h_numbers a_h_refusals a_h_mind a_h_parts a_h_past a_h_seating y_h_isKept y_h_numberCount q2.2)) (ws' := (w_X_newly cI cJ cC a_h a_h_now a_h_kept a_h_letters a_h_numbers a_h_refusals a_h_mind a_h_parts a_h_past a_h_seating a_h_now_kinds a_h_now_sweets a_h_now_settings a_h_now_heaps a_h_mind_one a_h_mind_two a_h_mind_one_kinds a_h_mind_one_sweets a_h_mind_one_settings a_h_mind_one_heaps a_h_mind_two_kinds a_h_mind_two_sweets a_h_mind_two_settings a_h_mind_two_heaps y_h_isKept y_h_numberCount y_h_mind_seed (r_children z_h_now) (r_strokes z_h_now) (r_gave z_h_now) (r_threw z_h_now) (r_kinds z_h_now) (r_sweets z_h_now) (r_settings z_h_now) q2.2 (r_children z_h_mind_one) (r_strokes z_h_mind_one) (r_gave z_h_mind_one) (r_threw z_h_mind_one) (r_kinds z_h_mind_one) (r_sweets z_h_mind_one) (r_settings z_h_mind_one) (r_heaps z_h_mind_one) (r_children z_h_mind_two) (r_strokes z_h_mind_two) (r_gave z_h_mind_two) (r_threw z_h_mind_two) (r_kinds z_h_mind_two) (r_sweets z_h_mind_two) (r_settings z_h_mind_two) (r_heaps z_h_mind_two))) (As := [.int (-4)]) (rest := [.int 1000000000]) hx hb hml hown hT (c_X_refuse (z_h_refusals := z_h_refusals) a_h a_h_now a_h_kept a_h_letters a_h_numbers a_h_refusals a_h_mind a_h_parts a_h_past a_h_seating y_h_isKept y_h_numberCount hq2) k_206 k_208 ks_0 k_1 k_209 hd_X_refuse ⟨Nat.le_of_ble_eq_true rfl, Nat.le_of_ble_eq_true rfl⟩ xE0_ok trivial hA hK hP hD hS [0, 5] [1, 2, 3, 4, 6, 7, 8, 9, 10, 11, 12, 13, 14, 15, 16] [15, 0, 1, 2, 3, 16, 4, 5, 6, 7, 8, 9, 10, 11, 12, 13, 14] rfl rfl rfl rfl rfl rfl rfl rfl rfl rfl hl.1 rfl (Nat.le_of_ble_eq_true rfl) ⟨Nat.zero_le _, Nat.zero_le _⟩ d_X_newly_52 (fun H locs hP hD hS => ?_)
    refine lv_isub hx hb d_X_newly_55 ?_
    have hq := Option.some.inj hf
    subst hq
    exact hret _ _ _ _ _ d_X_newly_56 rfl rfl hP hD hS
  · have hf := io_f hf c1
    refine lv_iload_n hx hb d_X_newly_6 rfl (lv_at hl 3 rfl) ?_
    refine lv_if_ge (tgt := 16) hx hb d_X_newly_7 (by decide) (fun c3 => ?_) (fun c3 => ?_)
    · have hf := io_t hf c3
      refine lv_iload_n hx hb d_X_newly_16 rfl (lv_at hl 2 rfl) ?_
      refine lv_sipush (v := 999) hx hb d_X_newly_17 (by decide) ?_
      refine lv_icmp_gt (tgt := 41) hx hb d_X_newly_20 (by decide) (fun c4 => ?_) (fun c4 => ?_)
      · have hf := io_t hf c4
        refine lv_bipush (v := (-6)) hx hb d_X_newly_41 (by decide) ?_
        refine lv_istore_n (lv' := [(3, .int (-6)), (0, .ref a_h), (1, .int x1), (2, .int x2)]) hx hb d_X_newly_43 rfl hl (by decide) rfl (fun ls hl => ?_)
        refine lv_iload_n hx hb d_X_newly_44 rfl (lv_at hl 0 rfl) ?_
        refine lv_if_eq (tgt := 57) hx hb d_X_newly_45 (by decide) (fun c => absurd c (show ¬ ((-6) : Int32) = 0 from by decide +kernel)) (fun _ => ?_)
        refine lv_ldc (v := 1000000000) hx hb hown (hT _ k_667) d_X_newly_48 ?_
        refine lv_aload_n hx hb d_X_newly_50 rfl (lv_at hl 1 rfl) ?_
        refine lv_iload_n hx hb d_X_newly_51 rfl (lv_at hl 0 rfl) ?_
        obtain ⟨q5, hq5, hf⟩ := io_b hf
        refine xcVI (wc := (w_X_refuse cI cJ cC a_h a_h_now a_h_kept a_h_letters a_h_numbers a_h_refusals a_h_mind a_h_parts a_h_past a_h_seating y_h_isKept y_h_numberCount z_h_refusals)) (wc' := (w_X_refuse cI cJ cC a_h a_h_now a_h_kept a_h_letters a_h_numbers a_h_refusals a_h_mind a_h_parts a_h_past a_h_seating y_h_isKept y_h_numberCount q5.2)) (ws' := (w_X_newly cI cJ cC a_h a_h_now a_h_kept a_h_letters a_h_numbers a_h_refusals a_h_mind a_h_parts a_h_past a_h_seating a_h_now_kinds a_h_now_sweets a_h_now_settings a_h_now_heaps a_h_mind_one a_h_mind_two a_h_mind_one_kinds a_h_mind_one_sweets a_h_mind_one_settings a_h_mind_one_heaps a_h_mind_two_kinds a_h_mind_two_sweets a_h_mind_two_settings a_h_mind_two_heaps y_h_isKept y_h_numberCount y_h_mind_seed (r_children z_h_now) (r_strokes z_h_now) (r_gave z_h_now) (r_threw z_h_now) (r_kinds z_h_now) (r_sweets z_h_now) (r_settings z_h_now) q5.2 (r_children z_h_mind_one) (r_strokes z_h_mind_one) (r_gave z_h_mind_one) (r_threw z_h_mind_one) (r_kinds z_h_mind_one) (r_sweets z_h_mind_one) (r_settings z_h_mind_one) (r_heaps z_h_mind_one) (r_children z_h_mind_two) (r_strokes z_h_mind_two) (r_gave z_h_mind_two) (r_threw z_h_mind_two) (r_kinds z_h_mind_two) (r_sweets z_h_mind_two) (r_settings z_h_mind_two) (r_heaps z_h_mind_two))) (As := [.int (-6)]) (rest := [.int 1000000000]) hx hb hml hown hT (c_X_refuse (z_h_refusals := z_h_refusals) a_h a_h_now a_h_kept a_h_letters a_h_numbers a_h_refusals a_h_mind a_h_parts a_h_past a_h_seating y_h_isKept y_h_numberCount hq5) k_206 k_208 ks_0 k_1 k_209 hd_X_refuse ⟨Nat.le_of_ble_eq_true rfl, Nat.le_of_ble_eq_true rfl⟩ xE0_ok trivial hA hK hP hD hS [0, 5] [1, 2, 3, 4, 6, 7, 8, 9, 10, 11, 12, 13, 14, 15, 16] [15, 0, 1, 2, 3, 16, 4, 5, 6, 7, 8, 9, 10, 11, 12, 13, 14] rfl rfl rfl rfl rfl rfl rfl rfl rfl rfl hl.1 rfl (Nat.le_of_ble_eq_true rfl) ⟨Nat.zero_le _, Nat.zero_le _⟩ d_X_newly_52 (fun H locs hP hD hS => ?_)
        refine lv_isub hx hb d_X_newly_55 ?_
        have hq := Option.some.inj hf
        subst hq
        exact hret _ _ _ _ _ d_X_newly_56 rfl rfl hP hD hS
      · have hf := io_f hf c4
        refine lv_iload_n hx hb d_X_newly_23 rfl (lv_at hl 3 rfl) ?_
        refine lv_bipush (v := 50) hx hb d_X_newly_24 (by decide) ?_
        refine lv_icmp_gt (tgt := 41) hx hb d_X_newly_26 (by decide) (fun c6 => ?_) (fun c6 => ?_)
        · have hf := io_t hf c6
          refine lv_bipush (v := (-6)) hx hb d_X_newly_41 (by decide) ?_
          refine lv_istore_n (lv' := [(3, .int (-6)), (0, .ref a_h), (1, .int x1), (2, .int x2)]) hx hb d_X_newly_43 rfl hl (by decide) rfl (fun ls hl => ?_)
          refine lv_iload_n hx hb d_X_newly_44 rfl (lv_at hl 0 rfl) ?_
          refine lv_if_eq (tgt := 57) hx hb d_X_newly_45 (by decide) (fun c => absurd c (show ¬ ((-6) : Int32) = 0 from by decide +kernel)) (fun _ => ?_)
          refine lv_ldc (v := 1000000000) hx hb hown (hT _ k_667) d_X_newly_48 ?_
          refine lv_aload_n hx hb d_X_newly_50 rfl (lv_at hl 1 rfl) ?_
          refine lv_iload_n hx hb d_X_newly_51 rfl (lv_at hl 0 rfl) ?_
          obtain ⟨q7, hq7, hf⟩ := io_b hf
          refine xcVI (wc := (w_X_refuse cI cJ cC a_h a_h_now a_h_kept a_h_letters a_h_numbers a_h_refusals a_h_mind a_h_parts a_h_past a_h_seating y_h_isKept y_h_numberCount z_h_refusals)) (wc' := (w_X_refuse cI cJ cC a_h a_h_now a_h_kept a_h_letters a_h_numbers a_h_refusals a_h_mind a_h_parts a_h_past a_h_seating y_h_isKept y_h_numberCount q7.2)) (ws' := (w_X_newly cI cJ cC a_h a_h_now a_h_kept a_h_letters a_h_numbers a_h_refusals a_h_mind a_h_parts a_h_past a_h_seating a_h_now_kinds a_h_now_sweets a_h_now_settings a_h_now_heaps a_h_mind_one a_h_mind_two a_h_mind_one_kinds a_h_mind_one_sweets a_h_mind_one_settings a_h_mind_one_heaps a_h_mind_two_kinds a_h_mind_two_sweets a_h_mind_two_settings a_h_mind_two_heaps y_h_isKept y_h_numberCount y_h_mind_seed (r_children z_h_now) (r_strokes z_h_now) (r_gave z_h_now) (r_threw z_h_now) (r_kinds z_h_now) (r_sweets z_h_now) (r_settings z_h_now) q7.2 (r_children z_h_mind_one) (r_strokes z_h_mind_one) (r_gave z_h_mind_one) (r_threw z_h_mind_one) (r_kinds z_h_mind_one) (r_sweets z_h_mind_one) (r_settings z_h_mind_one) (r_heaps z_h_mind_one) (r_children z_h_mind_two) (r_strokes z_h_mind_two) (r_gave z_h_mind_two) (r_threw z_h_mind_two) (r_kinds z_h_mind_two) (r_sweets z_h_mind_two) (r_settings z_h_mind_two) (r_heaps z_h_mind_two))) (As := [.int (-6)]) (rest := [.int 1000000000]) hx hb hml hown hT (c_X_refuse (z_h_refusals := z_h_refusals) a_h a_h_now a_h_kept a_h_letters a_h_numbers a_h_refusals a_h_mind a_h_parts a_h_past a_h_seating y_h_isKept y_h_numberCount hq7) k_206 k_208 ks_0 k_1 k_209 hd_X_refuse ⟨Nat.le_of_ble_eq_true rfl, Nat.le_of_ble_eq_true rfl⟩ xE0_ok trivial hA hK hP hD hS [0, 5] [1, 2, 3, 4, 6, 7, 8, 9, 10, 11, 12, 13, 14, 15, 16] [15, 0, 1, 2, 3, 16, 4, 5, 6, 7, 8, 9, 10, 11, 12, 13, 14] rfl rfl rfl rfl rfl rfl rfl rfl rfl rfl hl.1 rfl (Nat.le_of_ble_eq_true rfl) ⟨Nat.zero_le _, Nat.zero_le _⟩ d_X_newly_52 (fun H locs hP hD hS => ?_)
          refine lv_isub hx hb d_X_newly_55 ?_
          have hq := Option.some.inj hf
          subst hq
          exact hret _ _ _ _ _ d_X_newly_56 rfl rfl hP hD hS
        · have hf := io_f hf c6
          refine lv_aload_n hx hb d_X_newly_29 rfl (lv_at hl 1 rfl) ?_
          refine va_get hx hb hT i_X hown hK hP 0 rfl rfl 0 (Nat.le_of_ble_eq_true rfl) (hT _ k_168) (fun _ h => h) rfl d_X_newly_30 ?_
          refine va_get hx hb hT i_Ring hown hK hP 1 rfl rfl 3 (Nat.le_of_ble_eq_true rfl) (hT _ k_48) (fun _ h => h) rfl d_X_newly_33 ?_
          refine lv_bipush (v := 8) hx hb d_X_newly_36 (by decide) ?_
          refine lv_icmp_lt (tgt := 44) hx hb d_X_newly_38 (by decide) (fun c8 => ?_) (fun c8 => ?_)
          · have hf := io_t hf c8
            refine lv_iload_n hx hb d_X_newly_44 rfl (lv_at hl 0 rfl) ?_
            refine lv_if_eq (tgt := 57) hx hb d_X_newly_45 (by decide) (fun _ => ?_) (fun c => absurd (show (0 : Int32) = 0 from by decide +kernel) c)
            refine lv_aload_n hx hb d_X_newly_57 rfl (lv_at hl 1 rfl) ?_
            refine va_get hx hb hT i_X hown hK hP 0 rfl rfl 7 (Nat.le_of_ble_eq_true rfl) (hT _ k_175) (fun _ h => h) rfl d_X_newly_58 ?_
            refine lv_aload_n hx hb d_X_newly_61 rfl (lv_at hl 1 rfl) ?_
            refine va_get hx hb hT i_X hown hK hP 0 rfl rfl 0 (Nat.le_of_ble_eq_true rfl) (hT _ k_168) (fun _ h => h) rfl d_X_newly_62 ?_
            refine lv_iload_n hx hb d_X_newly_65 rfl (lv_at hl 2 rfl) ?_
            refine lv_iload_n hx hb d_X_newly_66 rfl (lv_at hl 3 rfl) ?_
            obtain ⟨q9, hq9, hf⟩ := io_b hf
            refine xcVI (wc := (w_Mind_gaveMore cI cJ cC a_h_mind a_h_mind_one a_h_mind_two a_h_mind_one_kinds a_h_mind_one_sweets a_h_mind_one_settings a_h_mind_one_heaps a_h_mind_two_kinds a_h_mind_two_sweets a_h_mind_two_settings a_h_mind_two_heaps a_h_now a_h_now_kinds a_h_now_sweets a_h_now_settings a_h_now_heaps y_h_mind_seed (r_children z_h_mind_one) (r_strokes z_h_mind_one) (r_gave z_h_mind_one) (r_threw z_h_mind_one) (r_kinds z_h_mind_one) (r_sweets z_h_mind_one) (r_settings z_h_mind_one) (r_heaps z_h_mind_one) (r_children z_h_mind_two) (r_strokes z_h_mind_two) (r_gave z_h_mind_two) (r_threw z_h_mind_two) (r_kinds z_h_mind_two) (r_sweets z_h_mind_two) (r_settings z_h_mind_two) (r_heaps z_h_mind_two) (r_children z_h_now) (r_strokes z_h_now) (r_gave z_h_now) (r_threw z_h_now) (r_kinds z_h_now) (r_sweets z_h_now) (r_settings z_h_now))) (wc' := (w_Mind_gaveMore cI cJ cC a_h_mind a_h_mind_one a_h_mind_two a_h_mind_one_kinds a_h_mind_one_sweets a_h_mind_one_settings a_h_mind_one_heaps a_h_mind_two_kinds a_h_mind_two_sweets a_h_mind_two_settings a_h_mind_two_heaps a_h_now a_h_now_kinds a_h_now_sweets a_h_now_settings a_h_now_heaps y_h_mind_seed (r_children q9.2.1) (r_strokes q9.2.1) (r_gave q9.2.1) (r_threw q9.2.1) (r_kinds q9.2.1) (r_sweets q9.2.1) (r_settings q9.2.1) (r_heaps q9.2.1) (r_children q9.2.2) (r_strokes q9.2.2) (r_gave q9.2.2) (r_threw q9.2.2) (r_kinds q9.2.2) (r_sweets q9.2.2) (r_settings q9.2.2) (r_heaps q9.2.2) (r_children z_h_now) (r_strokes z_h_now) (r_gave z_h_now) (r_threw z_h_now) (r_kinds z_h_now) (r_sweets z_h_now) (r_settings z_h_now))) (ws' := (w_X_newly cI cJ cC a_h a_h_now a_h_kept a_h_letters a_h_numbers a_h_refusals a_h_mind a_h_parts a_h_past a_h_seating a_h_now_kinds a_h_now_sweets a_h_now_settings a_h_now_heaps a_h_mind_one a_h_mind_two a_h_mind_one_kinds a_h_mind_one_sweets a_h_mind_one_settings a_h_mind_one_heaps a_h_mind_two_kinds a_h_mind_two_sweets a_h_mind_two_settings a_h_mind_two_heaps y_h_isKept y_h_numberCount y_h_mind_seed (r_children z_h_now) (r_strokes z_h_now) (r_gave z_h_now) (r_threw z_h_now) (r_kinds z_h_now) (r_sweets z_h_now) (r_settings z_h_now) z_h_refusals (r_children q9.2.1) (r_strokes q9.2.1) (r_gave q9.2.1) (r_threw q9.2.1) (r_kinds q9.2.1) (r_sweets q9.2.1) (r_settings q9.2.1) (r_heaps q9.2.1) (r_children q9.2.2) (r_strokes q9.2.2) (r_gave q9.2.2) (r_threw q9.2.2) (r_kinds q9.2.2) (r_sweets q9.2.2) (r_settings q9.2.2) (r_heaps q9.2.2))) (As := [.ref a_h_now, .int x1, .int x2]) (rest := []) hx hb hml hown hT (c_Mind_gaveMore (z_h_one := z_h_mind_one) (z_h_two := z_h_mind_two) (z_g1 := z_h_now) a_h_mind a_h_mind_one a_h_mind_two a_h_mind_one_kinds a_h_mind_one_sweets a_h_mind_one_settings a_h_mind_one_heaps a_h_mind_two_kinds a_h_mind_two_sweets a_h_mind_two_settings a_h_mind_two_heaps a_h_now a_h_now_kinds a_h_now_sweets a_h_now_settings a_h_now_heaps y_h_mind_seed hq9) k_695 k_696 k_697 k_4 k_698 hd_Mind_gaveMore ⟨Nat.le_of_ble_eq_true rfl, Nat.le_of_ble_eq_true rfl⟩ xE0_ok trivial hA hK hP hD hS [6, 7, 8, 9, 10, 11, 12, 13, 14, 15, 16, 1, 2, 3, 4] [0, 5] [0, 13, 14, 15, 16, 1, 2, 3, 4, 5, 6, 7, 8, 9, 10, 11, 12] rfl rfl rfl rfl rfl rfl rfl rfl rfl rfl hl.1 rfl (Nat.le_of_ble_eq_true rfl) ⟨Nat.zero_le _, Nat.zero_le _⟩ d_X_newly_67 (fun H locs hP hD hS => ?_)
            have hq := Option.some.inj hf
            subst hq
            exact hret _ _ _ _ _ d_X_newly_70 rfl rfl hP hD hS
          · have hf := io_f hf c8
            refine lv_bipush (v := (-6)) hx hb d_X_newly_41 (by decide) ?_
            refine lv_istore_n (lv' := [(3, .int (-6)), (0, .ref a_h), (1, .int x1), (2, .int x2)]) hx hb d_X_newly_43 rfl hl (by decide) rfl (fun ls hl => ?_)
            refine lv_iload_n hx hb d_X_newly_44 rfl (lv_at hl 0 rfl) ?_
            refine lv_if_eq (tgt := 57) hx hb d_X_newly_45 (by decide) (fun c => absurd c (show ¬ ((-6) : Int32) = 0 from by decide +kernel)) (fun _ => ?_)
            refine lv_ldc (v := 1000000000) hx hb hown (hT _ k_667) d_X_newly_48 ?_
            refine lv_aload_n hx hb d_X_newly_50 rfl (lv_at hl 1 rfl) ?_
            refine lv_iload_n hx hb d_X_newly_51 rfl (lv_at hl 0 rfl) ?_
            obtain ⟨q10, hq10, hf⟩ := io_b hf
            refine xcVI (wc := (w_X_refuse cI cJ cC a_h a_h_now a_h_kept a_h_letters a_h_numbers a_h_refusals a_h_mind a_h_parts a_h_past a_h_seating y_h_isKept y_h_numberCount z_h_refusals)) (wc' := (w_X_refuse cI cJ cC a_h a_h_now a_h_kept a_h_letters a_h_numbers a_h_refusals a_h_mind a_h_parts a_h_past a_h_seating y_h_isKept y_h_numberCount q10.2)) (ws' := (w_X_newly cI cJ cC a_h a_h_now a_h_kept a_h_letters a_h_numbers a_h_refusals a_h_mind a_h_parts a_h_past a_h_seating a_h_now_kinds a_h_now_sweets a_h_now_settings a_h_now_heaps a_h_mind_one a_h_mind_two a_h_mind_one_kinds a_h_mind_one_sweets a_h_mind_one_settings a_h_mind_one_heaps a_h_mind_two_kinds a_h_mind_two_sweets a_h_mind_two_settings a_h_mind_two_heaps y_h_isKept y_h_numberCount y_h_mind_seed (r_children z_h_now) (r_strokes z_h_now) (r_gave z_h_now) (r_threw z_h_now) (r_kinds z_h_now) (r_sweets z_h_now) (r_settings z_h_now) q10.2 (r_children z_h_mind_one) (r_strokes z_h_mind_one) (r_gave z_h_mind_one) (r_threw z_h_mind_one) (r_kinds z_h_mind_one) (r_sweets z_h_mind_one) (r_settings z_h_mind_one) (r_heaps z_h_mind_one) (r_children z_h_mind_two) (r_strokes z_h_mind_two) (r_gave z_h_mind_two) (r_threw z_h_mind_two) (r_kinds z_h_mind_two) (r_sweets z_h_mind_two) (r_settings z_h_mind_two) (r_heaps z_h_mind_two))) (As := [.int (-6)]) (rest := [.int 1000000000]) hx hb hml hown hT (c_X_refuse (z_h_refusals := z_h_refusals) a_h a_h_now a_h_kept a_h_letters a_h_numbers a_h_refusals a_h_mind a_h_parts a_h_past a_h_seating y_h_isKept y_h_numberCount hq10) k_206 k_208 ks_0 k_1 k_209 hd_X_refuse ⟨Nat.le_of_ble_eq_true rfl, Nat.le_of_ble_eq_true rfl⟩ xE0_ok trivial hA hK hP hD hS [0, 5] [1, 2, 3, 4, 6, 7, 8, 9, 10, 11, 12, 13, 14, 15, 16] [15, 0, 1, 2, 3, 16, 4, 5, 6, 7, 8, 9, 10, 11, 12, 13, 14] rfl rfl rfl rfl rfl rfl rfl rfl rfl rfl hl.1 rfl (Nat.le_of_ble_eq_true rfl) ⟨Nat.zero_le _, Nat.zero_le _⟩ d_X_newly_52 (fun H locs hP hD hS => ?_)
            refine lv_isub hx hb d_X_newly_55 ?_
            have hq := Option.some.inj hf
            subst hq
            exact hret _ _ _ _ _ d_X_newly_56 rfl rfl hP hD hS
    · have hf := io_f hf c3
      refine lv_bipush (v := (-4)) hx hb d_X_newly_10 (by decide) ?_
      refine lv_istore_n (lv' := [(3, .int (-4)), (0, .ref a_h), (1, .int x1), (2, .int x2)]) hx hb d_X_newly_12 rfl hl (by decide) rfl (fun ls hl => ?_)
      refine lv_goto (tgt := 44) hx hb d_X_newly_13 (by decide) ?_
      refine lv_iload_n hx hb d_X_newly_44 rfl (lv_at hl 0 rfl) ?_
      refine lv_if_eq (tgt := 57) hx hb d_X_newly_45 (by decide) (fun c => absurd c (show ¬ ((-4) : Int32) = 0 from by decide +kernel)) (fun _ => ?_)
      refine lv_ldc (v := 1000000000) hx hb hown (hT _ k_667) d_X_newly_48 ?_
      refine lv_aload_n hx hb d_X_newly_50 rfl (lv_at hl 1 rfl) ?_
      refine lv_iload_n hx hb d_X_newly_51 rfl (lv_at hl 0 rfl) ?_
      obtain ⟨q11, hq11, hf⟩ := io_b hf
      refine xcVI (wc := (w_X_refuse cI cJ cC a_h a_h_now a_h_kept a_h_letters a_h_numbers a_h_refusals a_h_mind a_h_parts a_h_past a_h_seating y_h_isKept y_h_numberCount z_h_refusals)) (wc' := (w_X_refuse cI cJ cC a_h a_h_now a_h_kept a_h_letters a_h_numbers a_h_refusals a_h_mind a_h_parts a_h_past a_h_seating y_h_isKept y_h_numberCount q11.2)) (ws' := (w_X_newly cI cJ cC a_h a_h_now a_h_kept a_h_letters a_h_numbers a_h_refusals a_h_mind a_h_parts a_h_past a_h_seating a_h_now_kinds a_h_now_sweets a_h_now_settings a_h_now_heaps a_h_mind_one a_h_mind_two a_h_mind_one_kinds a_h_mind_one_sweets a_h_mind_one_settings a_h_mind_one_heaps a_h_mind_two_kinds a_h_mind_two_sweets a_h_mind_two_settings a_h_mind_two_heaps y_h_isKept y_h_numberCount y_h_mind_seed (r_children z_h_now) (r_strokes z_h_now) (r_gave z_h_now) (r_threw z_h_now) (r_kinds z_h_now) (r_sweets z_h_now) (r_settings z_h_now) q11.2 (r_children z_h_mind_one) (r_strokes z_h_mind_one) (r_gave z_h_mind_one) (r_threw z_h_mind_one) (r_kinds z_h_mind_one) (r_sweets z_h_mind_one) (r_settings z_h_mind_one) (r_heaps z_h_mind_one) (r_children z_h_mind_two) (r_strokes z_h_mind_two) (r_gave z_h_mind_two) (r_threw z_h_mind_two) (r_kinds z_h_mind_two) (r_sweets z_h_mind_two) (r_settings z_h_mind_two) (r_heaps z_h_mind_two))) (As := [.int (-4)]) (rest := [.int 1000000000]) hx hb hml hown hT (c_X_refuse (z_h_refusals := z_h_refusals) a_h a_h_now a_h_kept a_h_letters a_h_numbers a_h_refusals a_h_mind a_h_parts a_h_past a_h_seating y_h_isKept y_h_numberCount hq11) k_206 k_208 ks_0 k_1 k_209 hd_X_refuse ⟨Nat.le_of_ble_eq_true rfl, Nat.le_of_ble_eq_true rfl⟩ xE0_ok trivial hA hK hP hD hS [0, 5] [1, 2, 3, 4, 6, 7, 8, 9, 10, 11, 12, 13, 14, 15, 16] [15, 0, 1, 2, 3, 16, 4, 5, 6, 7, 8, 9, 10, 11, 12, 13, 14] rfl rfl rfl rfl rfl rfl rfl rfl rfl rfl hl.1 rfl (Nat.le_of_ble_eq_true rfl) ⟨Nat.zero_le _, Nat.zero_le _⟩ d_X_newly_52 (fun H locs hP hD hS => ?_)
      refine lv_isub hx hb d_X_newly_55 ?_
      have hq := Option.some.inj hf
      subst hq
      exact hret _ _ _ _ _ d_X_newly_56 rfl rfl hP hD hS
abbrev w_X_begun (cI cJ cC : ClassId) (a_h a_h_now a_h_kept a_h_letters a_h_numbers a_h_refusals a_h_mind a_h_parts a_h_past a_h_seating a_h_now_kinds a_h_now_sweets a_h_now_settings a_h_now_heaps a_h_mind_one a_h_mind_two a_h_mind_one_kinds a_h_mind_one_sweets a_h_mind_one_settings a_h_mind_one_heaps : Nat) (y_h_isKept : Int32) (y_h_numberCount : Int32) (y_h_mind_seed : Int32) (p_h_now_children : Int32) (p_h_now_strokes : Int32) (p_h_now_gave : Int32) (p_h_now_threw : Int32) (p_h_now_kinds : (Nat → Int32)) (p_h_now_sweets : (Nat → Int32)) (p_h_now_settings : (Nat → Int32)) (p_h_refusals : (Nat → Int32)) (p_h_mind_one_children : Int32) (p_h_mind_one_strokes : Int32) (p_h_mind_one_gave : Int32) (p_h_mind_one_threw : Int32) (p_h_mind_one_kinds : (Nat → Int32)) (p_h_mind_one_sweets : (Nat → Int32)) (p_h_mind_one_settings : (Nat → Int32)) (p_h_mind_one_heaps : (Nat → Int32)) : va_W := [(a_h, .inr (0, [.ref a_h_now, .ref a_h_kept, .int y_h_isKept, .ref a_h_letters, .ref a_h_numbers, .int y_h_numberCount, .ref a_h_refusals, .ref a_h_mind, .ref a_h_parts, .ref a_h_past, .ref a_h_seating])), (a_h_now, .inr (1, [.ref a_h_now_kinds, .ref a_h_now_sweets, .ref a_h_now_settings, .int p_h_now_children, .int p_h_now_strokes, .int p_h_now_gave, .int p_h_now_threw, .ref a_h_now_heaps])), (a_h_now_kinds, .inl (cI, (8, .inl p_h_now_kinds))), (a_h_now_sweets, .inl (cI, (8, .inl p_h_now_sweets))), (a_h_now_settings, .inl (cI, (3, .inl p_h_now_settings))), (a_h_refusals, .inl (cI, (7, .inl p_h_refusals))), (a_h_mind, .inr (3, [.ref a_h_mind_one, .ref a_h_mind_two, .int y_h_mind_seed])), (a_h_mind_one, .inr (1, [.ref a_h_mind_one_kinds, .ref a_h_mind_one_sweets, .ref a_h_mind_one_settings, .int p_h_mind_one_children, .int p_h_mind_one_strokes, .int p_h_mind_one_gave, .int p_h_mind_one_threw, .ref a_h_mind_one_heaps])), (a_h_mind_one_kinds, .inl (cI, (8, .inl p_h_mind_one_kinds))), (a_h_mind_one_sweets, .inl (cI, (8, .inl p_h_mind_one_sweets))), (a_h_mind_one_settings, .inl (cI, (3, .inl p_h_mind_one_settings))), (a_h_mind_one_heaps, .inl (cI, (8, .inl p_h_mind_one_heaps)))]
theorem d_X_begun_0 : decode b_X_begun 0 = .ok (.aload_n 0, 1) := by decide +kernel
theorem d_X_begun_1 : decode b_X_begun 1 = .ok (.iload_n 1, 1) := by decide +kernel
theorem d_X_begun_2 : decode b_X_begun 2 = .ok (.iconst 0, 1) := by decide +kernel
theorem d_X_begun_3 : decode b_X_begun 3 = .ok (.bipush 50, 2) := by decide +kernel
theorem d_X_begun_5 : decode b_X_begun 5 = .ok (.invokevirtual 182, 3) := by decide +kernel
theorem d_X_begun_8 : decode b_X_begun 8 = .ok (.istore_n 2, 1) := by decide +kernel
theorem d_X_begun_9 : decode b_X_begun 9 = .ok (.iload_n 2, 1) := by decide +kernel
theorem d_X_begun_10 : decode b_X_begun 10 = .ok (.ifCond .eq 9, 3) := by decide +kernel
theorem d_X_begun_13 : decode b_X_begun 13 = .ok (.aload_n 0, 1) := by decide +kernel
theorem d_X_begun_14 : decode b_X_begun 14 = .ok (.iload_n 2, 1) := by decide +kernel
theorem d_X_begun_15 : decode b_X_begun 15 = .ok (.invokevirtual 69, 3) := by decide +kernel
theorem d_X_begun_18 : decode b_X_begun 18 = .ok (.ireturn, 1) := by decide +kernel
theorem d_X_begun_19 : decode b_X_begun 19 = .ok (.aload_n 0, 1) := by decide +kernel
theorem d_X_begun_20 : decode b_X_begun 20 = .ok (.getfield 44, 3) := by decide +kernel
theorem d_X_begun_23 : decode b_X_begun 23 = .ok (.aload_n 0, 1) := by decide +kernel
theorem d_X_begun_24 : decode b_X_begun 24 = .ok (.getfield 10, 3) := by decide +kernel
theorem d_X_begun_27 : decode b_X_begun 27 = .ok (.iload_n 1, 1) := by decide +kernel
theorem d_X_begun_28 : decode b_X_begun 28 = .ok (.invokevirtual 222, 3) := by decide +kernel
theorem d_X_begun_31 : decode b_X_begun 31 = .ok (.ireturn, 1) := by decide +kernel
set_option maxHeartbeats 4000000 in
set_option maxRecDepth 100000 in
theorem c_X_begun {l : Launch} {D : va_G} {cI cJ cC : ClassId} (a_h a_h_now a_h_kept a_h_letters a_h_numbers a_h_refusals a_h_mind a_h_parts a_h_past a_h_seating a_h_now_kinds a_h_now_sweets a_h_now_settings a_h_now_heaps a_h_mind_one a_h_mind_two a_h_mind_one_kinds a_h_mind_one_sweets a_h_mind_one_settings a_h_mind_one_heaps : Nat) (y_h_isKept : Int32) (y_h_numberCount : Int32) (y_h_mind_seed : Int32) {z_h_now : RS} {z_h_refusals : (Nat → Int32)} {z_h_mind_one : RS} {x1 : Int32} {q : Int32 × (Nat → Int32) × RS} (hf : f_X_begun z_h_now z_h_refusals z_h_mind_one x1 = some q) : xI l y_X_begun b_X_begun 3 .int 6 135 D (tyK cI cJ cC) xE0 [.ref a_h, .int x1] (w_X_begun cI cJ cC a_h a_h_now a_h_kept a_h_letters a_h_numbers a_h_refusals a_h_mind a_h_parts a_h_past a_h_seating a_h_now_kinds a_h_now_sweets a_h_now_settings a_h_now_heaps a_h_mind_one a_h_mind_two a_h_mind_one_kinds a_h_mind_one_sweets a_h_mind_one_settings a_h_mind_one_heaps y_h_isKept y_h_numberCount y_h_mind_seed (r_children z_h_now) (r_strokes z_h_now) (r_gave z_h_now) (r_threw z_h_now) (r_kinds z_h_now) (r_sweets z_h_now) (r_settings z_h_now) z_h_refusals (r_children z_h_mind_one) (r_strokes z_h_mind_one) (r_gave z_h_mind_one) (r_threw z_h_mind_one) (r_kinds z_h_mind_one) (r_sweets z_h_mind_one) (r_settings z_h_mind_one) (r_heaps z_h_mind_one)) q.1 (w_X_begun cI cJ cC a_h a_h_now a_h_kept a_h_letters a_h_numbers a_h_refusals a_h_mind a_h_parts a_h_past a_h_seating a_h_now_kinds a_h_now_sweets a_h_now_settings a_h_now_heaps a_h_mind_one a_h_mind_two a_h_mind_one_kinds a_h_mind_one_sweets a_h_mind_one_settings a_h_mind_one_heaps y_h_isKept y_h_numberCount y_h_mind_seed (r_children z_h_now) (r_strokes z_h_now) (r_gave z_h_now) (r_threw z_h_now) (r_kinds z_h_now) (r_sweets z_h_now) (r_settings z_h_now) q.2.1 (r_children q.2.2) (r_strokes q.2.2) (r_gave q.2.2) (r_threw q.2.2) (r_kinds q.2.2) (r_sweets q.2.2) (r_settings q.2.2) (r_heaps q.2.2)) := by
  refine xI_of (by decide) (Nat.le_of_ble_eq_true rfl) ?_
  intro p e s m args below meth c A Q hx hb hml hown hT hA hP hD hK hS hE hret ls hl
  have hown : s.vm.findClass R_X = some m.cls := hown
  have hl : lv_has ls 3 [(0, .ref a_h), (1, .int x1)] := hl
  unfold f_X_begun at hf
  refine lv_aload_n hx hb d_X_begun_0 rfl (lv_at hl 0 rfl) ?_
  refine lv_iload_n hx hb d_X_begun_1 rfl (lv_at hl 1 rfl) ?_
  refine lv_iconst (v := 0) hx hb d_X_begun_2 (by decide) ?_
  refine lv_bipush (v := 50) hx hb d_X_begun_3 (by decide) ?_
  obtain ⟨q1, hq1, hf⟩ := io_b hf
  refine xcVI (wc := (w_X_outsideOrNobody cI cJ cC a_h a_h_now a_h_kept a_h_letters a_h_numbers a_h_refusals a_h_mind a_h_parts a_h_past a_h_seating a_h_now_kinds a_h_now_sweets a_h_now_settings a_h_now_heaps y_h_isKept y_h_numberCount (r_children z_h_now) (r_strokes z_h_now) (r_gave z_h_now) (r_threw z_h_now))) (wc' := (w_X_outsideOrNobody cI cJ cC a_h a_h_now a_h_kept a_h_letters a_h_numbers a_h_refusals a_h_mind a_h_parts a_h_past a_h_seating a_h_now_kinds a_h_now_sweets a_h_now_settings a_h_now_heaps y_h_isKept y_h_numberCount (r_children z_h_now) (r_strokes z_h_now) (r_gave z_h_now) (r_threw z_h_now))) (ws' := (w_X_begun cI cJ cC a_h a_h_now a_h_kept a_h_letters a_h_numbers a_h_refusals a_h_mind a_h_parts a_h_past a_h_seating a_h_now_kinds a_h_now_sweets a_h_now_settings a_h_now_heaps a_h_mind_one a_h_mind_two a_h_mind_one_kinds a_h_mind_one_sweets a_h_mind_one_settings a_h_mind_one_heaps y_h_isKept y_h_numberCount y_h_mind_seed (r_children z_h_now) (r_strokes z_h_now) (r_gave z_h_now) (r_threw z_h_now) (r_kinds z_h_now) (r_sweets z_h_now) (r_settings z_h_now) z_h_refusals (r_children z_h_mind_one) (r_strokes z_h_mind_one) (r_gave z_h_mind_one) (r_threw z_h_mind_one) (r_kinds z_h_mind_one) (r_sweets z_h_mind_one) (r_settings z_h_mind_one) (r_heaps z_h_mind_one))) (As := [.int x1, .int 0, .int 50]) (rest := []) hx hb hml hown hT (c_X_outsideOrNobody (z_h_now := z_h_now) a_h a_h_now a_h_kept a_h_letters a_h_numbers a_h_refusals a_h_mind a_h_parts a_h_past a_h_seating a_h_now_kinds a_h_now_sweets a_h_now_settings a_h_now_heaps y_h_isKept y_h_numberCount hq1) k_565 k_567 ks_12 k_1 k_568 hd_X_outsideOrNobody ⟨Nat.le_of_ble_eq_true rfl, Nat.le_of_ble_eq_true rfl⟩ xE0_ok trivial hA hK hP hD hS [0, 1] [2, 3, 4, 5, 6, 7, 8, 9, 10, 11] [10, 11, 0, 1, 2, 3, 4, 5, 6, 7, 8, 9] rfl rfl rfl rfl rfl rfl rfl rfl rfl rfl hl.1 rfl (Nat.le_of_ble_eq_true rfl) ⟨Nat.zero_le _, Nat.zero_le _⟩ d_X_begun_5 (fun H locs hP hD hS => ?_)
  refine lv_istore_n (lv' := [(2, .int q1), (0, .ref a_h), (1, .int x1)]) hx hb d_X_begun_8 rfl hl (by decide) rfl (fun ls hl => ?_)
  refine lv_iload_n hx hb d_X_begun_9 rfl (lv_at hl 0 rfl) ?_
  refine lv_if_eq (tgt := 19) hx hb d_X_begun_10 (by decide) (fun c2 => ?_) (fun c2 => ?_)
  · have hf := io_t hf c2
    refine lv_aload_n hx hb d_X_begun_19 rfl (lv_at hl 1 rfl) ?_
    refine va_get hx hb hT i_X hown hK hP 0 rfl rfl 7 (Nat.le_of_ble_eq_true rfl) (hT _ k_175) (fun _ h => h) rfl d_X_begun_20 ?_
    refine lv_aload_n hx hb d_X_begun_23 rfl (lv_at hl 1 rfl) ?_
    refine va_get hx hb hT i_X hown hK hP 0 rfl rfl 0 (Nat.le_of_ble_eq_true rfl) (hT _ k_168) (fun _ h => h) rfl d_X_begun_24 ?_
    refine lv_iload_n hx hb d_X_begun_27 rfl (lv_at hl 2 rfl) ?_
    obtain ⟨q3, hq3, hf⟩ := io_b hf
    refine xcVI (wc := (w_Mind_leastBegun cI cJ cC a_h_mind a_h_mind_one a_h_mind_two a_h_mind_one_kinds a_h_mind_one_sweets a_h_mind_one_settings a_h_mind_one_heaps a_h_now a_h_now_kinds a_h_now_sweets a_h_now_settings a_h_now_heaps y_h_mind_seed (r_children z_h_mind_one) (r_strokes z_h_mind_one) (r_gave z_h_mind_one) (r_threw z_h_mind_one) (r_kinds z_h_mind_one) (r_sweets z_h_mind_one) (r_settings z_h_mind_one) (r_heaps z_h_mind_one) (r_children z_h_now) (r_strokes z_h_now) (r_gave z_h_now) (r_threw z_h_now) (r_kinds z_h_now) (r_sweets z_h_now) (r_settings z_h_now))) (wc' := (w_Mind_leastBegun cI cJ cC a_h_mind a_h_mind_one a_h_mind_two a_h_mind_one_kinds a_h_mind_one_sweets a_h_mind_one_settings a_h_mind_one_heaps a_h_now a_h_now_kinds a_h_now_sweets a_h_now_settings a_h_now_heaps y_h_mind_seed (r_children q3.2) (r_strokes q3.2) (r_gave q3.2) (r_threw q3.2) (r_kinds q3.2) (r_sweets q3.2) (r_settings q3.2) (r_heaps q3.2) (r_children z_h_now) (r_strokes z_h_now) (r_gave z_h_now) (r_threw z_h_now) (r_kinds z_h_now) (r_sweets z_h_now) (r_settings z_h_now))) (ws' := (w_X_begun cI cJ cC a_h a_h_now a_h_kept a_h_letters a_h_numbers a_h_refusals a_h_mind a_h_parts a_h_past a_h_seating a_h_now_kinds a_h_now_sweets a_h_now_settings a_h_now_heaps a_h_mind_one a_h_mind_two a_h_mind_one_kinds a_h_mind_one_sweets a_h_mind_one_settings a_h_mind_one_heaps y_h_isKept y_h_numberCount y_h_mind_seed (r_children z_h_now) (r_strokes z_h_now) (r_gave z_h_now) (r_threw z_h_now) (r_kinds z_h_now) (r_sweets z_h_now) (r_settings z_h_now) z_h_refusals (r_children q3.2) (r_strokes q3.2) (r_gave q3.2) (r_threw q3.2) (r_kinds q3.2) (r_sweets q3.2) (r_settings q3.2) (r_heaps q3.2))) (As := [.ref a_h_now, .int x1]) (rest := []) hx hb hml hown hT (c_Mind_leastBegun (z_h_one := z_h_mind_one) (z_g1 := z_h_now) a_h_mind a_h_mind_one a_h_mind_two a_h_mind_one_kinds a_h_mind_one_sweets a_h_mind_one_settings a_h_mind_one_heaps a_h_now a_h_now_kinds a_h_now_sweets a_h_now_settings a_h_now_heaps y_h_mind_seed hq3) k_703 k_704 k_705 k_4 k_706 hd_Mind_leastBegun ⟨Nat.le_of_ble_eq_true rfl, Nat.le_of_ble_eq_true rfl⟩ xE0_ok trivial hA hK hP hD hS [6, 7, 8, 9, 10, 11, 1, 2, 3, 4] [0, 5] [0, 8, 9, 10, 11, 1, 2, 3, 4, 5, 6, 7] rfl rfl rfl rfl rfl rfl rfl rfl rfl rfl hl.1 rfl (Nat.le_of_ble_eq_true rfl) ⟨Nat.zero_le _, Nat.zero_le _⟩ d_X_begun_28 (fun H locs hP hD hS => ?_)
    have hq := Option.some.inj hf
    subst hq
    exact hret _ _ _ _ _ d_X_begun_31 rfl rfl hP hD hS
  · have hf := io_f hf c2
    refine lv_aload_n hx hb d_X_begun_13 rfl (lv_at hl 1 rfl) ?_
    refine lv_iload_n hx hb d_X_begun_14 rfl (lv_at hl 0 rfl) ?_
    obtain ⟨q4, hq4, hf⟩ := io_b hf
    refine xcVI (wc := (w_X_refuse cI cJ cC a_h a_h_now a_h_kept a_h_letters a_h_numbers a_h_refusals a_h_mind a_h_parts a_h_past a_h_seating y_h_isKept y_h_numberCount z_h_refusals)) (wc' := (w_X_refuse cI cJ cC a_h a_h_now a_h_kept a_h_letters a_h_numbers a_h_refusals a_h_mind a_h_parts a_h_past a_h_seating y_h_isKept y_h_numberCount q4.2)) (ws' := (w_X_begun cI cJ cC a_h a_h_now a_h_kept a_h_letters a_h_numbers a_h_refusals a_h_mind a_h_parts a_h_past a_h_seating a_h_now_kinds a_h_now_sweets a_h_now_settings a_h_now_heaps a_h_mind_one a_h_mind_two a_h_mind_one_kinds a_h_mind_one_sweets a_h_mind_one_settings a_h_mind_one_heaps y_h_isKept y_h_numberCount y_h_mind_seed (r_children z_h_now) (r_strokes z_h_now) (r_gave z_h_now) (r_threw z_h_now) (r_kinds z_h_now) (r_sweets z_h_now) (r_settings z_h_now) q4.2 (r_children z_h_mind_one) (r_strokes z_h_mind_one) (r_gave z_h_mind_one) (r_threw z_h_mind_one) (r_kinds z_h_mind_one) (r_sweets z_h_mind_one) (r_settings z_h_mind_one) (r_heaps z_h_mind_one))) (As := [.int q1]) (rest := []) hx hb hml hown hT (c_X_refuse (z_h_refusals := z_h_refusals) a_h a_h_now a_h_kept a_h_letters a_h_numbers a_h_refusals a_h_mind a_h_parts a_h_past a_h_seating y_h_isKept y_h_numberCount hq4) k_206 k_208 ks_0 k_1 k_209 hd_X_refuse ⟨Nat.le_of_ble_eq_true rfl, Nat.le_of_ble_eq_true rfl⟩ xE0_ok trivial hA hK hP hD hS [0, 5] [1, 2, 3, 4, 6, 7, 8, 9, 10, 11] [10, 0, 1, 2, 3, 11, 4, 5, 6, 7, 8, 9] rfl rfl rfl rfl rfl rfl rfl rfl rfl rfl hl.1 rfl (Nat.le_of_ble_eq_true rfl) ⟨Nat.zero_le _, Nat.zero_le _⟩ d_X_begun_15 (fun H locs hP hD hS => ?_)
    have hq := Option.some.inj hf
    subst hq
    exact hret _ _ _ _ _ d_X_begun_18 rfl rfl hP hD hS
abbrev w_X_seeds (cI cJ cC : ClassId) (a_h a_h_now a_h_kept a_h_letters a_h_numbers a_h_refusals a_h_mind a_h_parts a_h_past a_h_seating a_h_now_kinds a_h_now_sweets a_h_now_settings a_h_now_heaps a_h_mind_one a_h_mind_two a_h_mind_one_kinds a_h_mind_one_sweets a_h_mind_one_settings a_h_mind_one_heaps : Nat) (y_h_isKept : Int32) (y_h_numberCount : Int32) (p_h_now_children : Int32) (p_h_now_strokes : Int32) (p_h_now_gave : Int32) (p_h_now_threw : Int32) (p_h_now_kinds : (Nat → Int32)) (p_h_now_sweets : (Nat → Int32)) (p_h_now_settings : (Nat → Int32)) (p_h_refusals : (Nat → Int32)) (p_h_mind_seed : Int32) (p_h_mind_one_children : Int32) (p_h_mind_one_strokes : Int32) (p_h_mind_one_gave : Int32) (p_h_mind_one_threw : Int32) (p_h_mind_one_kinds : (Nat → Int32)) (p_h_mind_one_sweets : (Nat → Int32)) (p_h_mind_one_settings : (Nat → Int32)) (p_h_mind_one_heaps : (Nat → Int32)) : va_W := [(a_h, .inr (0, [.ref a_h_now, .ref a_h_kept, .int y_h_isKept, .ref a_h_letters, .ref a_h_numbers, .int y_h_numberCount, .ref a_h_refusals, .ref a_h_mind, .ref a_h_parts, .ref a_h_past, .ref a_h_seating])), (a_h_now, .inr (1, [.ref a_h_now_kinds, .ref a_h_now_sweets, .ref a_h_now_settings, .int p_h_now_children, .int p_h_now_strokes, .int p_h_now_gave, .int p_h_now_threw, .ref a_h_now_heaps])), (a_h_now_kinds, .inl (cI, (8, .inl p_h_now_kinds))), (a_h_now_sweets, .inl (cI, (8, .inl p_h_now_sweets))), (a_h_now_settings, .inl (cI, (3, .inl p_h_now_settings))), (a_h_refusals, .inl (cI, (7, .inl p_h_refusals))), (a_h_mind, .inr (3, [.ref a_h_mind_one, .ref a_h_mind_two, .int p_h_mind_seed])), (a_h_mind_one, .inr (1, [.ref a_h_mind_one_kinds, .ref a_h_mind_one_sweets, .ref a_h_mind_one_settings, .int p_h_mind_one_children, .int p_h_mind_one_strokes, .int p_h_mind_one_gave, .int p_h_mind_one_threw, .ref a_h_mind_one_heaps])), (a_h_mind_one_kinds, .inl (cI, (8, .inl p_h_mind_one_kinds))), (a_h_mind_one_sweets, .inl (cI, (8, .inl p_h_mind_one_sweets))), (a_h_mind_one_settings, .inl (cI, (3, .inl p_h_mind_one_settings))), (a_h_mind_one_heaps, .inl (cI, (8, .inl p_h_mind_one_heaps)))]
theorem d_X_seeds_0 : decode b_X_seeds 0 = .ok (.aload_n 0, 1) := by decide +kernel
theorem d_X_seeds_1 : decode b_X_seeds 1 = .ok (.iload_n 1, 1) := by decide +kernel
theorem d_X_seeds_2 : decode b_X_seeds 2 = .ok (.iconst 1, 1) := by decide +kernel
theorem d_X_seeds_3 : decode b_X_seeds 3 = .ok (.bipush 50, 2) := by decide +kernel
theorem d_X_seeds_5 : decode b_X_seeds 5 = .ok (.invokevirtual 182, 3) := by decide +kernel
theorem d_X_seeds_8 : decode b_X_seeds 8 = .ok (.istore_n 3, 1) := by decide +kernel
theorem d_X_seeds_9 : decode b_X_seeds 9 = .ok (.iload_n 3, 1) := by decide +kernel
theorem d_X_seeds_10 : decode b_X_seeds 10 = .ok (.ifCond .eq 9, 3) := by decide +kernel
theorem d_X_seeds_13 : decode b_X_seeds 13 = .ok (.aload_n 0, 1) := by decide +kernel
theorem d_X_seeds_14 : decode b_X_seeds 14 = .ok (.iload_n 3, 1) := by decide +kernel
theorem d_X_seeds_15 : decode b_X_seeds 15 = .ok (.invokevirtual 69, 3) := by decide +kernel
theorem d_X_seeds_18 : decode b_X_seeds 18 = .ok (.ireturn, 1) := by decide +kernel
theorem d_X_seeds_19 : decode b_X_seeds 19 = .ok (.aload_n 0, 1) := by decide +kernel
theorem d_X_seeds_20 : decode b_X_seeds 20 = .ok (.getfield 44, 3) := by decide +kernel
theorem d_X_seeds_23 : decode b_X_seeds 23 = .ok (.aload_n 0, 1) := by decide +kernel
theorem d_X_seeds_24 : decode b_X_seeds 24 = .ok (.getfield 10, 3) := by decide +kernel
theorem d_X_seeds_27 : decode b_X_seeds 27 = .ok (.iload_n 1, 1) := by decide +kernel
theorem d_X_seeds_28 : decode b_X_seeds 28 = .ok (.iload_n 2, 1) := by decide +kernel
theorem d_X_seeds_29 : decode b_X_seeds 29 = .ok (.invokevirtual 225, 3) := by decide +kernel
theorem d_X_seeds_32 : decode b_X_seeds 32 = .ok (.ireturn, 1) := by decide +kernel
set_option maxHeartbeats 4000000 in
set_option maxRecDepth 100000 in
theorem c_X_seeds {l : Launch} {D : va_G} {cI cJ cC : ClassId} (a_h a_h_now a_h_kept a_h_letters a_h_numbers a_h_refusals a_h_mind a_h_parts a_h_past a_h_seating a_h_now_kinds a_h_now_sweets a_h_now_settings a_h_now_heaps a_h_mind_one a_h_mind_two a_h_mind_one_kinds a_h_mind_one_sweets a_h_mind_one_settings a_h_mind_one_heaps : Nat) (y_h_isKept : Int32) (y_h_numberCount : Int32) {z_h_now : RS} {z_h_refusals : (Nat → Int32)} {z_h_mind_seed : Int32} {z_h_mind_one : RS} {x1 : Int32} {x2 : Int32} {q : Int32 × (Nat → Int32) × Int32 × RS} (hf : f_X_seeds z_h_now z_h_refusals z_h_mind_seed z_h_mind_one x1 x2 = some q) : xI l y_X_seeds b_X_seeds 4 .int 5 115 D (tyK cI cJ cC) xE0 [.ref a_h, .int x1, .int x2] (w_X_seeds cI cJ cC a_h a_h_now a_h_kept a_h_letters a_h_numbers a_h_refusals a_h_mind a_h_parts a_h_past a_h_seating a_h_now_kinds a_h_now_sweets a_h_now_settings a_h_now_heaps a_h_mind_one a_h_mind_two a_h_mind_one_kinds a_h_mind_one_sweets a_h_mind_one_settings a_h_mind_one_heaps y_h_isKept y_h_numberCount (r_children z_h_now) (r_strokes z_h_now) (r_gave z_h_now) (r_threw z_h_now) (r_kinds z_h_now) (r_sweets z_h_now) (r_settings z_h_now) z_h_refusals z_h_mind_seed (r_children z_h_mind_one) (r_strokes z_h_mind_one) (r_gave z_h_mind_one) (r_threw z_h_mind_one) (r_kinds z_h_mind_one) (r_sweets z_h_mind_one) (r_settings z_h_mind_one) (r_heaps z_h_mind_one)) q.1 (w_X_seeds cI cJ cC a_h a_h_now a_h_kept a_h_letters a_h_numbers a_h_refusals a_h_mind a_h_parts a_h_past a_h_seating a_h_now_kinds a_h_now_sweets a_h_now_settings a_h_now_heaps a_h_mind_one a_h_mind_two a_h_mind_one_kinds a_h_mind_one_sweets a_h_mind_one_settings a_h_mind_one_heaps y_h_isKept y_h_numberCount (r_children z_h_now) (r_strokes z_h_now) (r_gave z_h_now) (r_threw z_h_now) (r_kinds z_h_now) (r_sweets z_h_now) (r_settings z_h_now) q.2.1 q.2.2.1 (r_children q.2.2.2) (r_strokes q.2.2.2) (r_gave q.2.2.2) (r_threw q.2.2.2) (r_kinds q.2.2.2) (r_sweets q.2.2.2) (r_settings q.2.2.2) (r_heaps q.2.2.2)) := by
  refine xI_of (by decide) (Nat.le_of_ble_eq_true rfl) ?_
  intro p e s m args below meth c A Q hx hb hml hown hT hA hP hD hK hS hE hret ls hl
  have hown : s.vm.findClass R_X = some m.cls := hown
  have hl : lv_has ls 4 [(0, .ref a_h), (1, .int x1), (2, .int x2)] := hl
  unfold f_X_seeds at hf
  refine lv_aload_n hx hb d_X_seeds_0 rfl (lv_at hl 0 rfl) ?_
  refine lv_iload_n hx hb d_X_seeds_1 rfl (lv_at hl 1 rfl) ?_
  refine lv_iconst (v := 1) hx hb d_X_seeds_2 (by decide) ?_
  refine lv_bipush (v := 50) hx hb d_X_seeds_3 (by decide) ?_
  obtain ⟨q1, hq1, hf⟩ := io_b hf
  refine xcVI (wc := (w_X_outsideOrNobody cI cJ cC a_h a_h_now a_h_kept a_h_letters a_h_numbers a_h_refusals a_h_mind a_h_parts a_h_past a_h_seating a_h_now_kinds a_h_now_sweets a_h_now_settings a_h_now_heaps y_h_isKept y_h_numberCount (r_children z_h_now) (r_strokes z_h_now) (r_gave z_h_now) (r_threw z_h_now))) (wc' := (w_X_outsideOrNobody cI cJ cC a_h a_h_now a_h_kept a_h_letters a_h_numbers a_h_refusals a_h_mind a_h_parts a_h_past a_h_seating a_h_now_kinds a_h_now_sweets a_h_now_settings a_h_now_heaps y_h_isKept y_h_numberCount (r_children z_h_now) (r_strokes z_h_now) (r_gave z_h_now) (r_threw z_h_now))) (ws' := (w_X_seeds cI cJ cC a_h a_h_now a_h_kept a_h_letters a_h_numbers a_h_refusals a_h_mind a_h_parts a_h_past a_h_seating a_h_now_kinds a_h_now_sweets a_h_now_settings a_h_now_heaps a_h_mind_one a_h_mind_two a_h_mind_one_kinds a_h_mind_one_sweets a_h_mind_one_settings a_h_mind_one_heaps y_h_isKept y_h_numberCount (r_children z_h_now) (r_strokes z_h_now) (r_gave z_h_now) (r_threw z_h_now) (r_kinds z_h_now) (r_sweets z_h_now) (r_settings z_h_now) z_h_refusals z_h_mind_seed (r_children z_h_mind_one) (r_strokes z_h_mind_one) (r_gave z_h_mind_one) (r_threw z_h_mind_one) (r_kinds z_h_mind_one) (r_sweets z_h_mind_one) (r_settings z_h_mind_one) (r_heaps z_h_mind_one))) (As := [.int x1, .int 1, .int 50]) (rest := []) hx hb hml hown hT (c_X_outsideOrNobody (z_h_now := z_h_now) a_h a_h_now a_h_kept a_h_letters a_h_numbers a_h_refusals a_h_mind a_h_parts a_h_past a_h_seating a_h_now_kinds a_h_now_sweets a_h_now_settings a_h_now_heaps y_h_isKept y_h_numberCount hq1) k_565 k_567 ks_12 k_1 k_568 hd_X_outsideOrNobody ⟨Nat.le_of_ble_eq_true rfl, Nat.le_of_ble_eq_true rfl⟩ xE0_ok trivial hA hK hP hD hS [0, 1] [2, 3, 4, 5, 6, 7, 8, 9, 10, 11] [10, 11, 0, 1, 2, 3, 4, 5, 6, 7, 8, 9] rfl rfl rfl rfl rfl rfl rfl rfl rfl rfl hl.1 rfl (Nat.le_of_ble_eq_true rfl) ⟨Nat.zero_le _, Nat.zero_le _⟩ d_X_seeds_5 (fun H locs hP hD hS => ?_)
  refine lv_istore_n (lv' := [(3, .int q1), (0, .ref a_h), (1, .int x1), (2, .int x2)]) hx hb d_X_seeds_8 rfl hl (by decide) rfl (fun ls hl => ?_)
  refine lv_iload_n hx hb d_X_seeds_9 rfl (lv_at hl 0 rfl) ?_
  refine lv_if_eq (tgt := 19) hx hb d_X_seeds_10 (by decide) (fun c2 => ?_) (fun c2 => ?_)
  · have hf := io_t hf c2
    refine lv_aload_n hx hb d_X_seeds_19 rfl (lv_at hl 1 rfl) ?_
    refine va_get hx hb hT i_X hown hK hP 0 rfl rfl 7 (Nat.le_of_ble_eq_true rfl) (hT _ k_175) (fun _ h => h) rfl d_X_seeds_20 ?_
    refine lv_aload_n hx hb d_X_seeds_23 rfl (lv_at hl 1 rfl) ?_
    refine va_get hx hb hT i_X hown hK hP 0 rfl rfl 0 (Nat.le_of_ble_eq_true rfl) (hT _ k_168) (fun _ h => h) rfl d_X_seeds_24 ?_
    refine lv_iload_n hx hb d_X_seeds_27 rfl (lv_at hl 2 rfl) ?_
    refine lv_iload_n hx hb d_X_seeds_28 rfl (lv_at hl 3 rfl) ?_
    obtain ⟨q3, hq3, hf⟩ := io_b hf
    refine xcVI (wc := (w_Mind_gaveBySeed cI cJ cC a_h_mind a_h_mind_one a_h_mind_two a_h_mind_one_kinds a_h_mind_one_sweets a_h_mind_one_settings a_h_mind_one_heaps a_h_now a_h_now_kinds a_h_now_sweets a_h_now_settings a_h_now_heaps z_h_mind_seed (r_children z_h_mind_one) (r_strokes z_h_mind_one) (r_gave z_h_mind_one) (r_threw z_h_mind_one) (r_kinds z_h_mind_one) (r_sweets z_h_mind_one) (r_settings z_h_mind_one) (r_heaps z_h_mind_one) (r_children z_h_now) (r_strokes z_h_now) (r_gave z_h_now) (r_threw z_h_now) (r_kinds z_h_now) (r_sweets z_h_now) (r_settings z_h_now))) (wc' := (w_Mind_gaveBySeed cI cJ cC a_h_mind a_h_mind_one a_h_mind_two a_h_mind_one_kinds a_h_mind_one_sweets a_h_mind_one_settings a_h_mind_one_heaps a_h_now a_h_now_kinds a_h_now_sweets a_h_now_settings a_h_now_heaps q3.2.1 (r_children q3.2.2) (r_strokes q3.2.2) (r_gave q3.2.2) (r_threw q3.2.2) (r_kinds q3.2.2) (r_sweets q3.2.2) (r_settings q3.2.2) (r_heaps q3.2.2) (r_children z_h_now) (r_strokes z_h_now) (r_gave z_h_now) (r_threw z_h_now) (r_kinds z_h_now) (r_sweets z_h_now) (r_settings z_h_now))) (ws' := (w_X_seeds cI cJ cC a_h a_h_now a_h_kept a_h_letters a_h_numbers a_h_refusals a_h_mind a_h_parts a_h_past a_h_seating a_h_now_kinds a_h_now_sweets a_h_now_settings a_h_now_heaps a_h_mind_one a_h_mind_two a_h_mind_one_kinds a_h_mind_one_sweets a_h_mind_one_settings a_h_mind_one_heaps y_h_isKept y_h_numberCount (r_children z_h_now) (r_strokes z_h_now) (r_gave z_h_now) (r_threw z_h_now) (r_kinds z_h_now) (r_sweets z_h_now) (r_settings z_h_now) z_h_refusals q3.2.1 (r_children q3.2.2) (r_strokes q3.2.2) (r_gave q3.2.2) (r_threw q3.2.2) (r_kinds q3.2.2) (r_sweets q3.2.2) (r_settings q3.2.2) (r_heaps q3.2.2))) (As := [.ref a_h_now, .int x1, .int x2]) (rest := []) hx hb hml hown hT (c_Mind_gaveBySeed (z_h_seed := z_h_mind_seed) (z_h_one := z_h_mind_one) (z_g1 := z_h_now) a_h_mind a_h_mind_one a_h_mind_two a_h_mind_one_kinds a_h_mind_one_sweets a_h_mind_one_settings a_h_mind_one_heaps a_h_now a_h_now_kinds a_h_now_sweets a_h_now_settings a_h_now_heaps hq3) k_711 k_712 k_713 k_4 k_714 hd_Mind_gaveBySeed ⟨Nat.le_of_ble_eq_true rfl, Nat.le_of_ble_eq_true rfl⟩ xE0_ok trivial hA hK hP hD hS [6, 7, 8, 9, 10, 11, 1, 2, 3, 4] [0, 5] [0, 8, 9, 10, 11, 1, 2, 3, 4, 5, 6, 7] rfl rfl rfl rfl rfl rfl rfl rfl rfl rfl hl.1 rfl (Nat.le_of_ble_eq_true rfl) ⟨Nat.zero_le _, Nat.zero_le _⟩ d_X_seeds_29 (fun H locs hP hD hS => ?_)
    have hq := Option.some.inj hf
    subst hq
    exact hret _ _ _ _ _ d_X_seeds_32 rfl rfl hP hD hS
  · have hf := io_f hf c2
    refine lv_aload_n hx hb d_X_seeds_13 rfl (lv_at hl 1 rfl) ?_
    refine lv_iload_n hx hb d_X_seeds_14 rfl (lv_at hl 0 rfl) ?_
    obtain ⟨q4, hq4, hf⟩ := io_b hf
    refine xcVI (wc := (w_X_refuse cI cJ cC a_h a_h_now a_h_kept a_h_letters a_h_numbers a_h_refusals a_h_mind a_h_parts a_h_past a_h_seating y_h_isKept y_h_numberCount z_h_refusals)) (wc' := (w_X_refuse cI cJ cC a_h a_h_now a_h_kept a_h_letters a_h_numbers a_h_refusals a_h_mind a_h_parts a_h_past a_h_seating y_h_isKept y_h_numberCount q4.2)) (ws' := (w_X_seeds cI cJ cC a_h a_h_now a_h_kept a_h_letters a_h_numbers a_h_refusals a_h_mind a_h_parts a_h_past a_h_seating a_h_now_kinds a_h_now_sweets a_h_now_settings a_h_now_heaps a_h_mind_one a_h_mind_two a_h_mind_one_kinds a_h_mind_one_sweets a_h_mind_one_settings a_h_mind_one_heaps y_h_isKept y_h_numberCount (r_children z_h_now) (r_strokes z_h_now) (r_gave z_h_now) (r_threw z_h_now) (r_kinds z_h_now) (r_sweets z_h_now) (r_settings z_h_now) q4.2 z_h_mind_seed (r_children z_h_mind_one) (r_strokes z_h_mind_one) (r_gave z_h_mind_one) (r_threw z_h_mind_one) (r_kinds z_h_mind_one) (r_sweets z_h_mind_one) (r_settings z_h_mind_one) (r_heaps z_h_mind_one))) (As := [.int q1]) (rest := []) hx hb hml hown hT (c_X_refuse (z_h_refusals := z_h_refusals) a_h a_h_now a_h_kept a_h_letters a_h_numbers a_h_refusals a_h_mind a_h_parts a_h_past a_h_seating y_h_isKept y_h_numberCount hq4) k_206 k_208 ks_0 k_1 k_209 hd_X_refuse ⟨Nat.le_of_ble_eq_true rfl, Nat.le_of_ble_eq_true rfl⟩ xE0_ok trivial hA hK hP hD hS [0, 5] [1, 2, 3, 4, 6, 7, 8, 9, 10, 11] [10, 0, 1, 2, 3, 11, 4, 5, 6, 7, 8, 9] rfl rfl rfl rfl rfl rfl rfl rfl rfl rfl hl.1 rfl (Nat.le_of_ble_eq_true rfl) ⟨Nat.zero_le _, Nat.zero_le _⟩ d_X_seeds_15 (fun H locs hP hD hS => ?_)
    have hq := Option.some.inj hf
    subst hq
    exact hret _ _ _ _ _ d_X_seeds_18 rfl rfl hP hD hS
abbrev w_X_row (cI cJ cC : ClassId) (a_h a_h_now a_h_kept a_h_letters a_h_numbers a_h_refusals a_h_mind a_h_parts a_h_past a_h_seating : Nat) (y_h_isKept : Int32) (p_h_numberCount : Int32) (p_h_numbers : (Nat → Int32)) (p_h_refusals : (Nat → Int32)) : va_W := [(a_h, .inr (0, [.ref a_h_now, .ref a_h_kept, .int y_h_isKept, .ref a_h_letters, .ref a_h_numbers, .int p_h_numberCount, .ref a_h_refusals, .ref a_h_mind, .ref a_h_parts, .ref a_h_past, .ref a_h_seating])), (a_h_numbers, .inl (cI, (24, .inl p_h_numbers))), (a_h_refusals, .inl (cI, (7, .inl p_h_refusals)))]
theorem d_X_row_0 : decode b_X_row 0 = .ok (.iload_n 1, 1) := by decide +kernel
theorem d_X_row_1 : decode b_X_row 1 = .ok (.iconst 0, 1) := by decide +kernel
theorem d_X_row_2 : decode b_X_row 2 = .ok (.sipush 999, 3) := by decide +kernel
theorem d_X_row_5 : decode b_X_row 5 = .ok (.invokestatic 100, 3) := by decide +kernel
theorem d_X_row_8 : decode b_X_row 8 = .ok (.istore_n 2, 1) := by decide +kernel
theorem d_X_row_9 : decode b_X_row 9 = .ok (.iload_n 2, 1) := by decide +kernel
theorem d_X_row_10 : decode b_X_row 10 = .ok (.ifCond .ne 15, 3) := by decide +kernel
theorem d_X_row_13 : decode b_X_row 13 = .ok (.aload_n 0, 1) := by decide +kernel
theorem d_X_row_14 : decode b_X_row 14 = .ok (.getfield 34, 3) := by decide +kernel
theorem d_X_row_17 : decode b_X_row 17 = .ok (.bipush 24, 2) := by decide +kernel
theorem d_X_row_19 : decode b_X_row 19 = .ok (.if_icmp .lt 6, 3) := by decide +kernel
theorem d_X_row_22 : decode b_X_row 22 = .ok (.bipush (-6), 2) := by decide +kernel
theorem d_X_row_24 : decode b_X_row 24 = .ok (.istore_n 2, 1) := by decide +kernel
theorem d_X_row_25 : decode b_X_row 25 = .ok (.iload_n 2, 1) := by decide +kernel
theorem d_X_row_26 : decode b_X_row 26 = .ok (.ifCond .eq 9, 3) := by decide +kernel
theorem d_X_row_29 : decode b_X_row 29 = .ok (.aload_n 0, 1) := by decide +kernel
theorem d_X_row_30 : decode b_X_row 30 = .ok (.iload_n 2, 1) := by decide +kernel
theorem d_X_row_31 : decode b_X_row 31 = .ok (.invokevirtual 69, 3) := by decide +kernel
theorem d_X_row_34 : decode b_X_row 34 = .ok (.ireturn, 1) := by decide +kernel
theorem d_X_row_35 : decode b_X_row 35 = .ok (.aload_n 0, 1) := by decide +kernel
theorem d_X_row_36 : decode b_X_row 36 = .ok (.getfield 30, 3) := by decide +kernel
theorem d_X_row_39 : decode b_X_row 39 = .ok (.aload_n 0, 1) := by decide +kernel
theorem d_X_row_40 : decode b_X_row 40 = .ok (.getfield 34, 3) := by decide +kernel
theorem d_X_row_43 : decode b_X_row 43 = .ok (.iload_n 1, 1) := by decide +kernel
theorem d_X_row_44 : decode b_X_row 44 = .ok (.iastore, 1) := by decide +kernel
theorem d_X_row_45 : decode b_X_row 45 = .ok (.aload_n 0, 1) := by decide +kernel
theorem d_X_row_46 : decode b_X_row 46 = .ok (.dup, 1) := by decide +kernel
theorem d_X_row_47 : decode b_X_row 47 = .ok (.getfield 34, 3) := by decide +kernel
theorem d_X_row_50 : decode b_X_row 50 = .ok (.iconst 1, 1) := by decide +kernel
theorem d_X_row_51 : decode b_X_row 51 = .ok (.iadd, 1) := by decide +kernel
theorem d_X_row_52 : decode b_X_row 52 = .ok (.putfield 34, 3) := by decide +kernel
theorem d_X_row_55 : decode b_X_row 55 = .ok (.aload_n 0, 1) := by decide +kernel
theorem d_X_row_56 : decode b_X_row 56 = .ok (.getfield 34, 3) := by decide +kernel
theorem d_X_row_59 : decode b_X_row 59 = .ok (.ireturn, 1) := by decide +kernel
set_option maxHeartbeats 4000000 in
set_option maxRecDepth 100000 in
theorem c_X_row {l : Launch} {D : va_G} {cI cJ cC : ClassId} (a_h a_h_now a_h_kept a_h_letters a_h_numbers a_h_refusals a_h_mind a_h_parts a_h_past a_h_seating : Nat) (y_h_isKept : Int32) {z_h_numberCount : Int32} {z_h_numbers : (Nat → Int32)} {z_h_refusals : (Nat → Int32)} {x1 : Int32} {q : Int32 × Int32 × (Nat → Int32) × (Nat → Int32)} (hf : f_X_row z_h_numberCount z_h_numbers z_h_refusals x1 = some q) : xI l y_X_row b_X_row 3 .int 1 22 D (tyK cI cJ cC) xE0 [.ref a_h, .int x1] (w_X_row cI cJ cC a_h a_h_now a_h_kept a_h_letters a_h_numbers a_h_refusals a_h_mind a_h_parts a_h_past a_h_seating y_h_isKept z_h_numberCount z_h_numbers z_h_refusals) q.1 (w_X_row cI cJ cC a_h a_h_now a_h_kept a_h_letters a_h_numbers a_h_refusals a_h_mind a_h_parts a_h_past a_h_seating y_h_isKept q.2.1 q.2.2.1 q.2.2.2) := by
  refine xI_of (by decide) (Nat.le_of_ble_eq_true rfl) ?_
  intro p e s m args below meth c A Q hx hb hml hown hT hA hP hD hK hS hE hret ls hl
  have hown : s.vm.findClass R_X = some m.cls := hown
  have hl : lv_has ls 3 [(0, .ref a_h), (1, .int x1)] := hl
  unfold f_X_row at hf
  refine lv_iload_n hx hb d_X_row_0 rfl (lv_at hl 1 rfl) ?_
  refine lv_iconst (v := 0) hx hb d_X_row_1 (by decide) ?_
  refine lv_sipush (v := 999) hx hb d_X_row_2 (by decide) ?_
  obtain ⟨q1, hq1, hf⟩ := io_b hf
  refine xcSI (wc := []) (wc' := []) (ws' := (w_X_row cI cJ cC a_h a_h_now a_h_kept a_h_letters a_h_numbers a_h_refusals a_h_mind a_h_parts a_h_past a_h_seating y_h_isKept z_h_numberCount z_h_numbers z_h_refusals)) (As := [.int x1, .int 0, .int 999]) (rest := []) hx hb hml hown hT (c_X_outside hq1) k_385 k_357 k_1 k_358 hd_X_outside ⟨Nat.le_of_ble_eq_true rfl, Nat.le_of_ble_eq_true rfl⟩ xE0_ok trivial hA hK hP hD hS [] [0, 1, 2] [0, 1, 2] rfl rfl rfl rfl rfl rfl rfl hl.1 rfl (Nat.le_of_ble_eq_true rfl) ⟨Nat.zero_le _, Nat.zero_le _⟩ d_X_row_5 (fun H locs hP hD hS => ?_)
  refine lv_istore_n (lv' := [(2, .int q1), (0, .ref a_h), (1, .int x1)]) hx hb d_X_row_8 rfl hl (by decide) rfl (fun ls hl => ?_)
  refine lv_iload_n hx hb d_X_row_9 rfl (lv_at hl 0 rfl) ?_
  refine lv_if_ne (tgt := 25) hx hb d_X_row_10 (by decide) (fun c2 => ?_) (fun c2 => ?_)
  · have hf := io_f hf c2
    refine lv_iload_n hx hb d_X_row_25 rfl (lv_at hl 0 rfl) ?_
    refine lv_if_eq (tgt := 35) hx hb d_X_row_26 (by decide) (fun c => absurd c c2) (fun _ => ?_)
    refine lv_aload_n hx hb d_X_row_29 rfl (lv_at hl 1 rfl) ?_
    refine lv_iload_n hx hb d_X_row_30 rfl (lv_at hl 0 rfl) ?_
    obtain ⟨q3, hq3, hf⟩ := io_b hf
    refine xcVI (wc := (w_X_refuse cI cJ cC a_h a_h_now a_h_kept a_h_letters a_h_numbers a_h_refusals a_h_mind a_h_parts a_h_past a_h_seating y_h_isKept z_h_numberCount z_h_refusals)) (wc' := (w_X_refuse cI cJ cC a_h a_h_now a_h_kept a_h_letters a_h_numbers a_h_refusals a_h_mind a_h_parts a_h_past a_h_seating y_h_isKept z_h_numberCount q3.2)) (ws' := (w_X_row cI cJ cC a_h a_h_now a_h_kept a_h_letters a_h_numbers a_h_refusals a_h_mind a_h_parts a_h_past a_h_seating y_h_isKept z_h_numberCount z_h_numbers q3.2)) (As := [.int q1]) (rest := []) hx hb hml hown hT (c_X_refuse (z_h_refusals := z_h_refusals) a_h a_h_now a_h_kept a_h_letters a_h_numbers a_h_refusals a_h_mind a_h_parts a_h_past a_h_seating y_h_isKept z_h_numberCount hq3) k_206 k_208 ks_0 k_1 k_209 hd_X_refuse ⟨Nat.le_of_ble_eq_true rfl, Nat.le_of_ble_eq_true rfl⟩ xE0_ok trivial hA hK hP hD hS [0, 2] [1] [1, 0, 2] rfl rfl rfl rfl rfl rfl rfl rfl rfl rfl hl.1 rfl (Nat.le_of_ble_eq_true rfl) ⟨Nat.zero_le _, Nat.zero_le _⟩ d_X_row_31 (fun H locs hP hD hS => ?_)
    have hq := Option.some.inj hf
    subst hq
    exact hret _ _ _ _ _ d_X_row_34 rfl rfl hP hD hS
  · have hf := io_t hf c2
    refine lv_aload_n hx hb d_X_row_13 rfl (lv_at hl 1 rfl) ?_
    refine va_get hx hb hT i_X hown hK hP 0 rfl rfl 5 (Nat.le_of_ble_eq_true rfl) (hT _ k_173) (fun _ h => h) rfl d_X_row_14 ?_
    refine lv_bipush (v := 24) hx hb d_X_row_17 (by decide) ?_
    refine lv_icmp_lt (tgt := 25) hx hb d_X_row_19 (by decide) (fun c4 => ?_) (fun c4 => ?_)
    · have hf := io_t hf c4
      refine lv_iload_n hx hb d_X_row_25 rfl (lv_at hl 0 rfl) ?_
      refine lv_if_eq (tgt := 35) hx hb d_X_row_26 (by decide) (fun _ => ?_) (fun c => absurd c2 c)
      refine lv_aload_n hx hb d_X_row_35 rfl (lv_at hl 1 rfl) ?_
      refine va_get hx hb hT i_X hown hK hP 0 rfl rfl 4 (Nat.le_of_ble_eq_true rfl) (hT _ k_172) (fun _ h => h) rfl d_X_row_36 ?_
      refine lv_aload_n hx hb d_X_row_39 rfl (lv_at hl 1 rfl) ?_
      refine va_get hx hb hT i_X hown hK hP 0 rfl rfl 5 (Nat.le_of_ble_eq_true rfl) (hT _ k_173) (fun _ h => h) rfl d_X_row_40 ?_
      refine lv_iload_n hx hb d_X_row_43 rfl (lv_at hl 2 rfl) ?_
      obtain ⟨c5, hf⟩ := io_n hf
      refine x_iast hx hb hK hP hD hS 1 0 rfl rfl (j := z_h_numberCount.toNatClampNeg) rfl c5 d_X_row_44 (fun H locs hP hD hS => ?_)
      have hP : va_P D classes (w_X_row cI cJ cC a_h a_h_now a_h_kept a_h_letters a_h_numbers a_h_refusals a_h_mind a_h_parts a_h_past a_h_seating y_h_isKept z_h_numberCount (upd z_h_numbers z_h_numberCount.toNatClampNeg x1) z_h_refusals) H := hP
      have hD : va_D A (w_X_row cI cJ cC a_h a_h_now a_h_kept a_h_letters a_h_numbers a_h_refusals a_h_mind a_h_parts a_h_past a_h_seating y_h_isKept z_h_numberCount (upd z_h_numbers z_h_numberCount.toNatClampNeg x1) z_h_refusals) := hD
      refine lv_aload_n hx hb d_X_row_45 rfl (lv_at hl 1 rfl) ?_
      refine lv_dup hx hb d_X_row_46 rfl ?_
      refine va_get hx hb hT i_X hown hK hP 0 rfl rfl 5 (Nat.le_of_ble_eq_true rfl) (hT _ k_173) (fun _ h => h) rfl d_X_row_47 ?_
      refine lv_iconst (v := 1) hx hb d_X_row_50 (by decide) ?_
      refine lv_iadd hx hb d_X_row_51 ?_
      refine va_put (ty := .int) hx hb hT i_X t_X t_X_ok n_X hown hK hP hD hS 0 rfl rfl 5 (Nat.le_of_ble_eq_true rfl) (hT _ k_173) (fun _ h => h) rfl rfl rfl rfl (Nat.le_of_ble_eq_true rfl) d_X_row_52 (fun H locs hP hD hS => ?_)
      have hP : va_P D classes (w_X_row cI cJ cC a_h a_h_now a_h_kept a_h_letters a_h_numbers a_h_refusals a_h_mind a_h_parts a_h_past a_h_seating y_h_isKept (z_h_numberCount + 1) (upd z_h_numbers z_h_numberCount.toNatClampNeg x1) z_h_refusals) H := hP
      have hD : va_D A (w_X_row cI cJ cC a_h a_h_now a_h_kept a_h_letters a_h_numbers a_h_refusals a_h_mind a_h_parts a_h_past a_h_seating y_h_isKept (z_h_numberCount + 1) (upd z_h_numbers z_h_numberCount.toNatClampNeg x1) z_h_refusals) := hD
      refine lv_aload_n hx hb d_X_row_55 rfl (lv_at hl 1 rfl) ?_
      refine va_get hx hb hT i_X hown hK hP 0 rfl rfl 5 (Nat.le_of_ble_eq_true rfl) (hT _ k_173) (fun _ h => h) rfl d_X_row_56 ?_
      have hq := Option.some.inj hf
      subst hq
      exact hret _ _ _ _ _ d_X_row_59 rfl rfl hP hD hS
    · have hf := io_f hf c4
      refine lv_bipush (v := (-6)) hx hb d_X_row_22 (by decide) ?_
      refine lv_istore_n (lv' := [(2, .int (-6)), (0, .ref a_h), (1, .int x1)]) hx hb d_X_row_24 rfl hl (by decide) rfl (fun ls hl => ?_)
      refine lv_iload_n hx hb d_X_row_25 rfl (lv_at hl 0 rfl) ?_
      refine lv_if_eq (tgt := 35) hx hb d_X_row_26 (by decide) (fun c => absurd c (show ¬ ((-6) : Int32) = 0 from by decide +kernel)) (fun _ => ?_)
      refine lv_aload_n hx hb d_X_row_29 rfl (lv_at hl 1 rfl) ?_
      refine lv_iload_n hx hb d_X_row_30 rfl (lv_at hl 0 rfl) ?_
      obtain ⟨q6, hq6, hf⟩ := io_b hf
      refine xcVI (wc := (w_X_refuse cI cJ cC a_h a_h_now a_h_kept a_h_letters a_h_numbers a_h_refusals a_h_mind a_h_parts a_h_past a_h_seating y_h_isKept z_h_numberCount z_h_refusals)) (wc' := (w_X_refuse cI cJ cC a_h a_h_now a_h_kept a_h_letters a_h_numbers a_h_refusals a_h_mind a_h_parts a_h_past a_h_seating y_h_isKept z_h_numberCount q6.2)) (ws' := (w_X_row cI cJ cC a_h a_h_now a_h_kept a_h_letters a_h_numbers a_h_refusals a_h_mind a_h_parts a_h_past a_h_seating y_h_isKept z_h_numberCount z_h_numbers q6.2)) (As := [.int (-6)]) (rest := []) hx hb hml hown hT (c_X_refuse (z_h_refusals := z_h_refusals) a_h a_h_now a_h_kept a_h_letters a_h_numbers a_h_refusals a_h_mind a_h_parts a_h_past a_h_seating y_h_isKept z_h_numberCount hq6) k_206 k_208 ks_0 k_1 k_209 hd_X_refuse ⟨Nat.le_of_ble_eq_true rfl, Nat.le_of_ble_eq_true rfl⟩ xE0_ok trivial hA hK hP hD hS [0, 2] [1] [1, 0, 2] rfl rfl rfl rfl rfl rfl rfl rfl rfl rfl hl.1 rfl (Nat.le_of_ble_eq_true rfl) ⟨Nat.zero_le _, Nat.zero_le _⟩ d_X_row_31 (fun H locs hP hD hS => ?_)
      have hq := Option.some.inj hf
      subst hq
      exact hret _ _ _ _ _ d_X_row_34 rfl rfl hP hD hS
abbrev w_X_judge (cI cJ cC : ClassId) (a_h a_h_now a_h_kept a_h_letters a_h_numbers a_h_refusals a_h_mind a_h_parts a_h_past a_h_seating a_h_now_kinds a_h_now_sweets a_h_now_settings a_h_now_heaps a_h_mind_one a_h_mind_two a_h_mind_one_kinds a_h_mind_one_sweets a_h_mind_one_settings a_h_mind_one_heaps : Nat) (y_h_isKept : Int32) (y_h_mind_seed : Int32) (p_h_numberCount : Int32) (p_h_now_children : Int32) (p_h_now_strokes : Int32) (p_h_now_gave : Int32) (p_h_now_threw : Int32) (p_h_now_kinds : (Nat → Int32)) (p_h_now_sweets : (Nat → Int32)) (p_h_now_settings : (Nat → Int32)) (p_h_numbers : (Nat → Int32)) (p_h_refusals : (Nat → Int32)) (p_h_mind_one_children : Int32) (p_h_mind_one_strokes : Int32) (p_h_mind_one_gave : Int32) (p_h_mind_one_threw : Int32) (p_h_mind_one_kinds : (Nat → Int32)) (p_h_mind_one_sweets : (Nat → Int32)) (p_h_mind_one_settings : (Nat → Int32)) (p_h_mind_one_heaps : (Nat → Int32)) : va_W := [(a_h, .inr (0, [.ref a_h_now, .ref a_h_kept, .int y_h_isKept, .ref a_h_letters, .ref a_h_numbers, .int p_h_numberCount, .ref a_h_refusals, .ref a_h_mind, .ref a_h_parts, .ref a_h_past, .ref a_h_seating])), (a_h_now, .inr (1, [.ref a_h_now_kinds, .ref a_h_now_sweets, .ref a_h_now_settings, .int p_h_now_children, .int p_h_now_strokes, .int p_h_now_gave, .int p_h_now_threw, .ref a_h_now_heaps])), (a_h_now_kinds, .inl (cI, (8, .inl p_h_now_kinds))), (a_h_now_sweets, .inl (cI, (8, .inl p_h_now_sweets))), (a_h_now_settings, .inl (cI, (3, .inl p_h_now_settings))), (a_h_numbers, .inl (cI, (24, .inl p_h_numbers))), (a_h_refusals, .inl (cI, (7, .inl p_h_refusals))), (a_h_mind, .inr (3, [.ref a_h_mind_one, .ref a_h_mind_two, .int y_h_mind_seed])), (a_h_mind_one, .inr (1, [.ref a_h_mind_one_kinds, .ref a_h_mind_one_sweets, .ref a_h_mind_one_settings, .int p_h_mind_one_children, .int p_h_mind_one_strokes, .int p_h_mind_one_gave, .int p_h_mind_one_threw, .ref a_h_mind_one_heaps])), (a_h_mind_one_kinds, .inl (cI, (8, .inl p_h_mind_one_kinds))), (a_h_mind_one_sweets, .inl (cI, (8, .inl p_h_mind_one_sweets))), (a_h_mind_one_settings, .inl (cI, (3, .inl p_h_mind_one_settings))), (a_h_mind_one_heaps, .inl (cI, (8, .inl p_h_mind_one_heaps)))]
theorem d_X_judge_0 : decode b_X_judge 0 = .ok (.aload_n 0, 1) := by decide +kernel
theorem d_X_judge_1 : decode b_X_judge 1 = .ok (.getfield 10, 3) := by decide +kernel
theorem d_X_judge_4 : decode b_X_judge 4 = .ok (.getfield 121, 3) := by decide +kernel
theorem d_X_judge_7 : decode b_X_judge 7 = .ok (.ifCond .ne 10, 3) := by decide +kernel
theorem d_X_judge_10 : decode b_X_judge 10 = .ok (.aload_n 0, 1) := by decide +kernel
theorem d_X_judge_11 : decode b_X_judge 11 = .ok (.bipush (-3), 2) := by decide +kernel
theorem d_X_judge_13 : decode b_X_judge 13 = .ok (.invokevirtual 69, 3) := by decide +kernel
theorem d_X_judge_16 : decode b_X_judge 16 = .ok (.ireturn, 1) := by decide +kernel
theorem d_X_judge_17 : decode b_X_judge 17 = .ok (.aload_n 0, 1) := by decide +kernel
theorem d_X_judge_18 : decode b_X_judge 18 = .ok (.getfield 44, 3) := by decide +kernel
theorem d_X_judge_21 : decode b_X_judge 21 = .ok (.aload_n 0, 1) := by decide +kernel
theorem d_X_judge_22 : decode b_X_judge 22 = .ok (.getfield 10, 3) := by decide +kernel
theorem d_X_judge_25 : decode b_X_judge 25 = .ok (.aload_n 0, 1) := by decide +kernel
theorem d_X_judge_26 : decode b_X_judge 26 = .ok (.getfield 30, 3) := by decide +kernel
theorem d_X_judge_29 : decode b_X_judge 29 = .ok (.aload_n 0, 1) := by decide +kernel
theorem d_X_judge_30 : decode b_X_judge 30 = .ok (.getfield 34, 3) := by decide +kernel
theorem d_X_judge_33 : decode b_X_judge 33 = .ok (.invokevirtual 228, 3) := by decide +kernel
theorem d_X_judge_36 : decode b_X_judge 36 = .ok (.istore_n 1, 1) := by decide +kernel
theorem d_X_judge_37 : decode b_X_judge 37 = .ok (.aload_n 0, 1) := by decide +kernel
theorem d_X_judge_38 : decode b_X_judge 38 = .ok (.iconst 0, 1) := by decide +kernel
theorem d_X_judge_39 : decode b_X_judge 39 = .ok (.putfield 34, 3) := by decide +kernel
theorem d_X_judge_42 : decode b_X_judge 42 = .ok (.iload_n 1, 1) := by decide +kernel
theorem d_X_judge_43 : decode b_X_judge 43 = .ok (.ireturn, 1) := by decide +kernel
set_option maxHeartbeats 4000000 in
set_option maxRecDepth 100000 in
theorem c_X_judge {l : Launch} {D : va_G} {cI cJ cC : ClassId} (a_h a_h_now a_h_kept a_h_letters a_h_numbers a_h_refusals a_h_mind a_h_parts a_h_past a_h_seating a_h_now_kinds a_h_now_sweets a_h_now_settings a_h_now_heaps a_h_mind_one a_h_mind_two a_h_mind_one_kinds a_h_mind_one_sweets a_h_mind_one_settings a_h_mind_one_heaps : Nat) (y_h_isKept : Int32) (y_h_mind_seed : Int32) {z_h_numberCount : Int32} {z_h_now : RS} {z_h_numbers : (Nat → Int32)} {z_h_refusals : (Nat → Int32)} {z_h_mind_one : RS} {q : Int32 × Int32 × (Nat → Int32) × RS} (hf : f_X_judge z_h_numberCount z_h_now z_h_numbers z_h_refusals z_h_mind_one = some q) : xI l y_X_judge b_X_judge 2 .int 5 114 D (tyK cI cJ cC) xE0 [.ref a_h] (w_X_judge cI cJ cC a_h a_h_now a_h_kept a_h_letters a_h_numbers a_h_refusals a_h_mind a_h_parts a_h_past a_h_seating a_h_now_kinds a_h_now_sweets a_h_now_settings a_h_now_heaps a_h_mind_one a_h_mind_two a_h_mind_one_kinds a_h_mind_one_sweets a_h_mind_one_settings a_h_mind_one_heaps y_h_isKept y_h_mind_seed z_h_numberCount (r_children z_h_now) (r_strokes z_h_now) (r_gave z_h_now) (r_threw z_h_now) (r_kinds z_h_now) (r_sweets z_h_now) (r_settings z_h_now) z_h_numbers z_h_refusals (r_children z_h_mind_one) (r_strokes z_h_mind_one) (r_gave z_h_mind_one) (r_threw z_h_mind_one) (r_kinds z_h_mind_one) (r_sweets z_h_mind_one) (r_settings z_h_mind_one) (r_heaps z_h_mind_one)) q.1 (w_X_judge cI cJ cC a_h a_h_now a_h_kept a_h_letters a_h_numbers a_h_refusals a_h_mind a_h_parts a_h_past a_h_seating a_h_now_kinds a_h_now_sweets a_h_now_settings a_h_now_heaps a_h_mind_one a_h_mind_two a_h_mind_one_kinds a_h_mind_one_sweets a_h_mind_one_settings a_h_mind_one_heaps y_h_isKept y_h_mind_seed q.2.1 (r_children z_h_now) (r_strokes z_h_now) (r_gave z_h_now) (r_threw z_h_now) (r_kinds z_h_now) (r_sweets z_h_now) (r_settings z_h_now) z_h_numbers q.2.2.1 (r_children q.2.2.2) (r_strokes q.2.2.2) (r_gave q.2.2.2) (r_threw q.2.2.2) (r_kinds q.2.2.2) (r_sweets q.2.2.2) (r_settings q.2.2.2) (r_heaps q.2.2.2)) := by
  refine xI_of (by decide) (Nat.le_of_ble_eq_true rfl) ?_
  intro p e s m args below meth c A Q hx hb hml hown hT hA hP hD hK hS hE hret ls hl
  have hown : s.vm.findClass R_X = some m.cls := hown
  have hl : lv_has ls 2 [(0, .ref a_h)] := hl
  unfold f_X_judge at hf
  refine lv_aload_n hx hb d_X_judge_0 rfl (lv_at hl 0 rfl) ?_
  refine va_get hx hb hT i_X hown hK hP 0 rfl rfl 0 (Nat.le_of_ble_eq_true rfl) (hT _ k_168) (fun _ h => h) rfl d_X_judge_1 ?_
  refine va_get hx hb hT i_Ring hown hK hP 1 rfl rfl 3 (Nat.le_of_ble_eq_true rfl) (hT _ k_48) (fun _ h => h) rfl d_X_judge_4 ?_
  refine lv_if_ne (tgt := 17) hx hb d_X_judge_7 (by decide) (fun c1 => ?_) (fun c1 => ?_)
  · have hf := io_f hf c1
    refine lv_aload_n hx hb d_X_judge_17 rfl (lv_at hl 0 rfl) ?_
    refine va_get hx hb hT i_X hown hK hP 0 rfl rfl 7 (Nat.le_of_ble_eq_true rfl) (hT _ k_175) (fun _ h => h) rfl d_X_judge_18 ?_
    refine lv_aload_n hx hb d_X_judge_21 rfl (lv_at hl 0 rfl) ?_
    refine va_get hx hb hT i_X hown hK hP 0 rfl rfl 0 (Nat.le_of_ble_eq_true rfl) (hT _ k_168) (fun _ h => h) rfl d_X_judge_22 ?_
    refine lv_aload_n hx hb d_X_judge_25 rfl (lv_at hl 0 rfl) ?_
    refine va_get hx hb hT i_X hown hK hP 0 rfl rfl 4 (Nat.le_of_ble_eq_true rfl) (hT _ k_172) (fun _ h => h) rfl d_X_judge_26 ?_
    refine lv_aload_n hx hb d_X_judge_29 rfl (lv_at hl 0 rfl) ?_
    refine va_get hx hb hT i_X hown hK hP 0 rfl rfl 5 (Nat.le_of_ble_eq_true rfl) (hT _ k_173) (fun _ h => h) rfl d_X_judge_30 ?_
    obtain ⟨q2, hq2, hf⟩ := io_b hf
    refine xcVI (wc := (w_Mind_firstWrong cI cJ cC a_h_mind a_h_mind_one a_h_mind_two a_h_mind_one_kinds a_h_mind_one_sweets a_h_mind_one_settings a_h_mind_one_heaps a_h_now a_h_now_kinds a_h_now_sweets a_h_now_settings a_h_now_heaps a_h_numbers y_h_mind_seed (r_children z_h_mind_one) (r_strokes z_h_mind_one) (r_gave z_h_mind_one) (r_threw z_h_mind_one) (r_kinds z_h_mind_one) (r_sweets z_h_mind_one) (r_settings z_h_mind_one) (r_heaps z_h_mind_one) (r_children z_h_now) (r_strokes z_h_now) (r_gave z_h_now) (r_threw z_h_now) (r_kinds z_h_now) (r_sweets z_h_now) (r_settings z_h_now) z_h_numbers)) (wc' := (w_Mind_firstWrong cI cJ cC a_h_mind a_h_mind_one a_h_mind_two a_h_mind_one_kinds a_h_mind_one_sweets a_h_mind_one_settings a_h_mind_one_heaps a_h_now a_h_now_kinds a_h_now_sweets a_h_now_settings a_h_now_heaps a_h_numbers y_h_mind_seed (r_children q2.2) (r_strokes q2.2) (r_gave q2.2) (r_threw q2.2) (r_kinds q2.2) (r_sweets q2.2) (r_settings q2.2) (r_heaps q2.2) (r_children z_h_now) (r_strokes z_h_now) (r_gave z_h_now) (r_threw z_h_now) (r_kinds z_h_now) (r_sweets z_h_now) (r_settings z_h_now) z_h_numbers)) (ws' := (w_X_judge cI cJ cC a_h a_h_now a_h_kept a_h_letters a_h_numbers a_h_refusals a_h_mind a_h_parts a_h_past a_h_seating a_h_now_kinds a_h_now_sweets a_h_now_settings a_h_now_heaps a_h_mind_one a_h_mind_two a_h_mind_one_kinds a_h_mind_one_sweets a_h_mind_one_settings a_h_mind_one_heaps y_h_isKept y_h_mind_seed z_h_numberCount (r_children z_h_now) (r_strokes z_h_now) (r_gave z_h_now) (r_threw z_h_now) (r_kinds z_h_now) (r_sweets z_h_now) (r_settings z_h_now) z_h_numbers z_h_refusals (r_children q2.2) (r_strokes q2.2) (r_gave q2.2) (r_threw q2.2) (r_kinds q2.2) (r_sweets q2.2) (r_settings q2.2) (r_heaps q2.2))) (As := [.ref a_h_now, .ref a_h_numbers, .int z_h_numberCount]) (rest := []) hx hb hml hown hT (c_Mind_firstWrong (z_h_one := z_h_mind_one) (z_g1 := z_h_now) (z_g2 := z_h_numbers) a_h_mind a_h_mind_one a_h_mind_two a_h_mind_one_kinds a_h_mind_one_sweets a_h_mind_one_settings a_h_mind_one_heaps a_h_now a_h_now_kinds a_h_now_sweets a_h_now_settings a_h_now_heaps a_h_numbers y_h_mind_seed hq2) k_731 k_732 k_733 k_4 k_734 hd_Mind_firstWrong ⟨Nat.le_of_ble_eq_true rfl, Nat.le_of_ble_eq_true rfl⟩ xE0_ok trivial hA hK hP hD hS [7, 8, 9, 10, 11, 12, 1, 2, 3, 4, 5] [0, 6] [0, 8, 9, 10, 11, 12, 1, 2, 3, 4, 5, 6, 7] rfl rfl rfl rfl rfl rfl rfl rfl rfl rfl hl.1 rfl (Nat.le_of_ble_eq_true rfl) ⟨Nat.zero_le _, Nat.zero_le _⟩ d_X_judge_33 (fun H locs hP hD hS => ?_)
    refine lv_istore_n (lv' := [(1, .int q2.1), (0, .ref a_h)]) hx hb d_X_judge_36 rfl hl (by decide) rfl (fun ls hl => ?_)
    refine lv_aload_n hx hb d_X_judge_37 rfl (lv_at hl 1 rfl) ?_
    refine lv_iconst (v := 0) hx hb d_X_judge_38 (by decide) ?_
    refine va_put (ty := .int) hx hb hT i_X t_X t_X_ok n_X hown hK hP hD hS 0 rfl rfl 5 (Nat.le_of_ble_eq_true rfl) (hT _ k_173) (fun _ h => h) rfl rfl rfl rfl (Nat.le_of_ble_eq_true rfl) d_X_judge_39 (fun H locs hP hD hS => ?_)
    have hP : va_P D classes (w_X_judge cI cJ cC a_h a_h_now a_h_kept a_h_letters a_h_numbers a_h_refusals a_h_mind a_h_parts a_h_past a_h_seating a_h_now_kinds a_h_now_sweets a_h_now_settings a_h_now_heaps a_h_mind_one a_h_mind_two a_h_mind_one_kinds a_h_mind_one_sweets a_h_mind_one_settings a_h_mind_one_heaps y_h_isKept y_h_mind_seed 0 (r_children z_h_now) (r_strokes z_h_now) (r_gave z_h_now) (r_threw z_h_now) (r_kinds z_h_now) (r_sweets z_h_now) (r_settings z_h_now) z_h_numbers z_h_refusals (r_children q2.2) (r_strokes q2.2) (r_gave q2.2) (r_threw q2.2) (r_kinds q2.2) (r_sweets q2.2) (r_settings q2.2) (r_heaps q2.2)) H := hP
    have hD : va_D A (w_X_judge cI cJ cC a_h a_h_now a_h_kept a_h_letters a_h_numbers a_h_refusals a_h_mind a_h_parts a_h_past a_h_seating a_h_now_kinds a_h_now_sweets a_h_now_settings a_h_now_heaps a_h_mind_one a_h_mind_two a_h_mind_one_kinds a_h_mind_one_sweets a_h_mind_one_settings a_h_mind_one_heaps y_h_isKept y_h_mind_seed 0 (r_children z_h_now) (r_strokes z_h_now) (r_gave z_h_now) (r_threw z_h_now) (r_kinds z_h_now) (r_sweets z_h_now) (r_settings z_h_now) z_h_numbers z_h_refusals (r_children q2.2) (r_strokes q2.2) (r_gave q2.2) (r_threw q2.2) (r_kinds q2.2) (r_sweets q2.2) (r_settings q2.2) (r_heaps q2.2)) := hD
    refine lv_iload_n hx hb d_X_judge_42 rfl (lv_at hl 0 rfl) ?_
    have hq := Option.some.inj hf
    subst hq
    exact hret _ _ _ _ _ d_X_judge_43 rfl rfl hP hD hS
  · have hf := io_t hf c1
    refine lv_aload_n hx hb d_X_judge_10 rfl (lv_at hl 0 rfl) ?_
    refine lv_bipush (v := (-3)) hx hb d_X_judge_11 (by decide) ?_
    obtain ⟨q3, hq3, hf⟩ := io_b hf
    refine xcVI (wc := (w_X_refuse cI cJ cC a_h a_h_now a_h_kept a_h_letters a_h_numbers a_h_refusals a_h_mind a_h_parts a_h_past a_h_seating y_h_isKept z_h_numberCount z_h_refusals)) (wc' := (w_X_refuse cI cJ cC a_h a_h_now a_h_kept a_h_letters a_h_numbers a_h_refusals a_h_mind a_h_parts a_h_past a_h_seating y_h_isKept z_h_numberCount q3.2)) (ws' := (w_X_judge cI cJ cC a_h a_h_now a_h_kept a_h_letters a_h_numbers a_h_refusals a_h_mind a_h_parts a_h_past a_h_seating a_h_now_kinds a_h_now_sweets a_h_now_settings a_h_now_heaps a_h_mind_one a_h_mind_two a_h_mind_one_kinds a_h_mind_one_sweets a_h_mind_one_settings a_h_mind_one_heaps y_h_isKept y_h_mind_seed z_h_numberCount (r_children z_h_now) (r_strokes z_h_now) (r_gave z_h_now) (r_threw z_h_now) (r_kinds z_h_now) (r_sweets z_h_now) (r_settings z_h_now) z_h_numbers q3.2 (r_children z_h_mind_one) (r_strokes z_h_mind_one) (r_gave z_h_mind_one) (r_threw z_h_mind_one) (r_kinds z_h_mind_one) (r_sweets z_h_mind_one) (r_settings z_h_mind_one) (r_heaps z_h_mind_one))) (As := [.int (-3)]) (rest := []) hx hb hml hown hT (c_X_refuse (z_h_refusals := z_h_refusals) a_h a_h_now a_h_kept a_h_letters a_h_numbers a_h_refusals a_h_mind a_h_parts a_h_past a_h_seating y_h_isKept z_h_numberCount hq3) k_206 k_208 ks_0 k_1 k_209 hd_X_refuse ⟨Nat.le_of_ble_eq_true rfl, Nat.le_of_ble_eq_true rfl⟩ xE0_ok trivial hA hK hP hD hS [0, 6] [1, 2, 3, 4, 5, 7, 8, 9, 10, 11, 12] [11, 0, 1, 2, 3, 4, 12, 5, 6, 7, 8, 9, 10] rfl rfl rfl rfl rfl rfl rfl rfl rfl rfl hl.1 rfl (Nat.le_of_ble_eq_true rfl) ⟨Nat.zero_le _, Nat.zero_le _⟩ d_X_judge_13 (fun H locs hP hD hS => ?_)
    have hq := Option.some.inj hf
    subst hq
    exact hret _ _ _ _ _ d_X_judge_16 rfl rfl hP hD hS
abbrev w_X_image (cI cJ cC : ClassId) (a_h a_h_now a_h_kept a_h_letters a_h_numbers a_h_refusals a_h_mind a_h_parts a_h_past a_h_seating a_h_now_kinds a_h_now_sweets a_h_now_settings a_h_now_heaps a_h_kept_kinds a_h_kept_sweets a_h_kept_settings a_h_kept_heaps : Nat) (y_h_numberCount : Int32) (p_h_isKept : Int32) (p_h_now_children : Int32) (p_h_now_strokes : Int32) (p_h_now_gave : Int32) (p_h_now_threw : Int32) (p_h_now_kinds : (Nat → Int32)) (p_h_now_sweets : (Nat → Int32)) (p_h_now_settings : (Nat → Int32)) (p_h_kept_children : Int32) (p_h_kept_strokes : Int32) (p_h_kept_gave : Int32) (p_h_kept_threw : Int32) (p_h_kept_kinds : (Nat → Int32)) (p_h_kept_sweets : (Nat → Int32)) (p_h_kept_settings : (Nat → Int32)) (p_h_kept_heaps : (Nat → Int32)) : va_W := [(a_h, .inr (0, [.ref a_h_now, .ref a_h_kept, .int p_h_isKept, .ref a_h_letters, .ref a_h_numbers, .int y_h_numberCount, .ref a_h_refusals, .ref a_h_mind, .ref a_h_parts, .ref a_h_past, .ref a_h_seating])), (a_h_now, .inr (1, [.ref a_h_now_kinds, .ref a_h_now_sweets, .ref a_h_now_settings, .int p_h_now_children, .int p_h_now_strokes, .int p_h_now_gave, .int p_h_now_threw, .ref a_h_now_heaps])), (a_h_now_kinds, .inl (cI, (8, .inl p_h_now_kinds))), (a_h_now_sweets, .inl (cI, (8, .inl p_h_now_sweets))), (a_h_now_settings, .inl (cI, (3, .inl p_h_now_settings))), (a_h_kept, .inr (1, [.ref a_h_kept_kinds, .ref a_h_kept_sweets, .ref a_h_kept_settings, .int p_h_kept_children, .int p_h_kept_strokes, .int p_h_kept_gave, .int p_h_kept_threw, .ref a_h_kept_heaps])), (a_h_kept_kinds, .inl (cI, (8, .inl p_h_kept_kinds))), (a_h_kept_sweets, .inl (cI, (8, .inl p_h_kept_sweets))), (a_h_kept_settings, .inl (cI, (3, .inl p_h_kept_settings))), (a_h_kept_heaps, .inl (cI, (8, .inl p_h_kept_heaps)))]
theorem d_X_image_0 : decode b_X_image 0 = .ok (.aload_n 0, 1) := by decide +kernel
theorem d_X_image_1 : decode b_X_image 1 = .ok (.getfield 16, 3) := by decide +kernel
theorem d_X_image_4 : decode b_X_image 4 = .ok (.aload_n 0, 1) := by decide +kernel
theorem d_X_image_5 : decode b_X_image 5 = .ok (.getfield 10, 3) := by decide +kernel
theorem d_X_image_8 : decode b_X_image 8 = .ok (.invokevirtual 232, 3) := by decide +kernel
theorem d_X_image_11 : decode b_X_image 11 = .ok (.aload_n 0, 1) := by decide +kernel
theorem d_X_image_12 : decode b_X_image 12 = .ok (.iconst 1, 1) := by decide +kernel
theorem d_X_image_13 : decode b_X_image 13 = .ok (.putfield 19, 3) := by decide +kernel
theorem d_X_image_16 : decode b_X_image 16 = .ok (.aload_n 0, 1) := by decide +kernel
theorem d_X_image_17 : decode b_X_image 17 = .ok (.getfield 10, 3) := by decide +kernel
theorem d_X_image_20 : decode b_X_image 20 = .ok (.getfield 121, 3) := by decide +kernel
theorem d_X_image_23 : decode b_X_image 23 = .ok (.ireturn, 1) := by decide +kernel
set_option maxHeartbeats 4000000 in
set_option maxRecDepth 100000 in
theorem c_X_image {l : Launch} {D : va_G} {cI cJ cC : ClassId} (a_h a_h_now a_h_kept a_h_letters a_h_numbers a_h_refusals a_h_mind a_h_parts a_h_past a_h_seating a_h_now_kinds a_h_now_sweets a_h_now_settings a_h_now_heaps a_h_kept_kinds a_h_kept_sweets a_h_kept_settings a_h_kept_heaps : Nat) (y_h_numberCount : Int32) {z_h_isKept : Int32} {z_h_now : RS} {z_h_kept : RS} {q : Int32 × Int32 × RS} (hf : f_X_image z_h_isKept z_h_now z_h_kept = some q) : xI l y_X_image b_X_image 1 .int 2 61 D (tyK cI cJ cC) xE0 [.ref a_h] (w_X_image cI cJ cC a_h a_h_now a_h_kept a_h_letters a_h_numbers a_h_refusals a_h_mind a_h_parts a_h_past a_h_seating a_h_now_kinds a_h_now_sweets a_h_now_settings a_h_now_heaps a_h_kept_kinds a_h_kept_sweets a_h_kept_settings a_h_kept_heaps y_h_numberCount z_h_isKept (r_children z_h_now) (r_strokes z_h_now) (r_gave z_h_now) (r_threw z_h_now) (r_kinds z_h_now) (r_sweets z_h_now) (r_settings z_h_now) (r_children z_h_kept) (r_strokes z_h_kept) (r_gave z_h_kept) (r_threw z_h_kept) (r_kinds z_h_kept) (r_sweets z_h_kept) (r_settings z_h_kept) (r_heaps z_h_kept)) q.1 (w_X_image cI cJ cC a_h a_h_now a_h_kept a_h_letters a_h_numbers a_h_refusals a_h_mind a_h_parts a_h_past a_h_seating a_h_now_kinds a_h_now_sweets a_h_now_settings a_h_now_heaps a_h_kept_kinds a_h_kept_sweets a_h_kept_settings a_h_kept_heaps y_h_numberCount q.2.1 (r_children z_h_now) (r_strokes z_h_now) (r_gave z_h_now) (r_threw z_h_now) (r_kinds z_h_now) (r_sweets z_h_now) (r_settings z_h_now) (r_children q.2.2) (r_strokes q.2.2) (r_gave q.2.2) (r_threw q.2.2) (r_kinds q.2.2) (r_sweets q.2.2) (r_settings q.2.2) (r_heaps q.2.2)) := by
  refine xI_of (by decide) (Nat.le_of_ble_eq_true rfl) ?_
  intro p e s m args below meth c A Q hx hb hml hown hT hA hP hD hK hS hE hret ls hl
  have hown : s.vm.findClass R_X = some m.cls := hown
  have hl : lv_has ls 1 [(0, .ref a_h)] := hl
  unfold f_X_image at hf
  refine lv_aload_n hx hb d_X_image_0 rfl (lv_at hl 0 rfl) ?_
  refine va_get hx hb hT i_X hown hK hP 0 rfl rfl 1 (Nat.le_of_ble_eq_true rfl) (hT _ k_169) (fun _ h => h) rfl d_X_image_1 ?_
  refine lv_aload_n hx hb d_X_image_4 rfl (lv_at hl 0 rfl) ?_
  refine va_get hx hb hT i_X hown hK hP 0 rfl rfl 0 (Nat.le_of_ble_eq_true rfl) (hT _ k_168) (fun _ h => h) rfl d_X_image_5 ?_
  obtain ⟨q1, hq1, hf⟩ := io_b hf
  refine xcVV (wc := (w_Ring_copyFrom cI cJ cC a_h_kept a_h_kept_kinds a_h_kept_sweets a_h_kept_settings a_h_kept_heaps a_h_now a_h_now_kinds a_h_now_sweets a_h_now_settings a_h_now_heaps (r_children z_h_kept) (r_strokes z_h_kept) (r_gave z_h_kept) (r_threw z_h_kept) (r_kinds z_h_kept) (r_sweets z_h_kept) (r_settings z_h_kept) (r_heaps z_h_kept) (r_children z_h_now) (r_strokes z_h_now) (r_gave z_h_now) (r_threw z_h_now) (r_kinds z_h_now) (r_sweets z_h_now) (r_settings z_h_now))) (wc' := (w_Ring_copyFrom cI cJ cC a_h_kept a_h_kept_kinds a_h_kept_sweets a_h_kept_settings a_h_kept_heaps a_h_now a_h_now_kinds a_h_now_sweets a_h_now_settings a_h_now_heaps (r_children q1) (r_strokes q1) (r_gave q1) (r_threw q1) (r_kinds q1) (r_sweets q1) (r_settings q1) (r_heaps q1) (r_children z_h_now) (r_strokes z_h_now) (r_gave z_h_now) (r_threw z_h_now) (r_kinds z_h_now) (r_sweets z_h_now) (r_settings z_h_now))) (ws' := (w_X_image cI cJ cC a_h a_h_now a_h_kept a_h_letters a_h_numbers a_h_refusals a_h_mind a_h_parts a_h_past a_h_seating a_h_now_kinds a_h_now_sweets a_h_now_settings a_h_now_heaps a_h_kept_kinds a_h_kept_sweets a_h_kept_settings a_h_kept_heaps y_h_numberCount z_h_isKept (r_children z_h_now) (r_strokes z_h_now) (r_gave z_h_now) (r_threw z_h_now) (r_kinds z_h_now) (r_sweets z_h_now) (r_settings z_h_now) (r_children q1) (r_strokes q1) (r_gave q1) (r_threw q1) (r_kinds q1) (r_sweets q1) (r_settings q1) (r_heaps q1))) (As := [.ref a_h_now]) (rest := []) hx hb hml hown hT (c_Ring_copyFrom (z_h := z_h_kept) (z_g1 := z_h_now) a_h_kept a_h_kept_kinds a_h_kept_sweets a_h_kept_settings a_h_kept_heaps a_h_now a_h_now_kinds a_h_now_sweets a_h_now_settings a_h_now_heaps hq1) k_739 k_326 k_327 k_2 k_328 hd_Ring_copyFrom ⟨Nat.le_of_ble_eq_true rfl, Nat.le_of_ble_eq_true rfl⟩ xE0_ok trivial hA hK hP hD hS [5, 6, 7, 8, 9, 1, 2, 3, 4] [0] [0, 6, 7, 8, 9, 1, 2, 3, 4, 5] rfl rfl rfl rfl rfl rfl rfl rfl rfl rfl hl.1 rfl (Nat.le_of_ble_eq_true rfl) ⟨Nat.zero_le _, Nat.zero_le _⟩ d_X_image_8 (fun H locs hP hD hS => ?_)
  refine lv_aload_n hx hb d_X_image_11 rfl (lv_at hl 0 rfl) ?_
  refine lv_iconst (v := 1) hx hb d_X_image_12 (by decide) ?_
  refine va_put (ty := .boolean) hx hb hT i_X t_X t_X_ok n_X hown hK hP hD hS 0 rfl rfl 2 (Nat.le_of_ble_eq_true rfl) (hT _ k_170) (fun _ h => h) rfl rfl (by decide) (by decide) (Nat.le_of_ble_eq_true rfl) d_X_image_13 (fun H locs hP hD hS => ?_)
  have hP : va_P D classes (w_X_image cI cJ cC a_h a_h_now a_h_kept a_h_letters a_h_numbers a_h_refusals a_h_mind a_h_parts a_h_past a_h_seating a_h_now_kinds a_h_now_sweets a_h_now_settings a_h_now_heaps a_h_kept_kinds a_h_kept_sweets a_h_kept_settings a_h_kept_heaps y_h_numberCount 1 (r_children z_h_now) (r_strokes z_h_now) (r_gave z_h_now) (r_threw z_h_now) (r_kinds z_h_now) (r_sweets z_h_now) (r_settings z_h_now) (r_children q1) (r_strokes q1) (r_gave q1) (r_threw q1) (r_kinds q1) (r_sweets q1) (r_settings q1) (r_heaps q1)) H := hP
  have hD : va_D A (w_X_image cI cJ cC a_h a_h_now a_h_kept a_h_letters a_h_numbers a_h_refusals a_h_mind a_h_parts a_h_past a_h_seating a_h_now_kinds a_h_now_sweets a_h_now_settings a_h_now_heaps a_h_kept_kinds a_h_kept_sweets a_h_kept_settings a_h_kept_heaps y_h_numberCount 1 (r_children z_h_now) (r_strokes z_h_now) (r_gave z_h_now) (r_threw z_h_now) (r_kinds z_h_now) (r_sweets z_h_now) (r_settings z_h_now) (r_children q1) (r_strokes q1) (r_gave q1) (r_threw q1) (r_kinds q1) (r_sweets q1) (r_settings q1) (r_heaps q1)) := hD
  refine lv_aload_n hx hb d_X_image_16 rfl (lv_at hl 0 rfl) ?_
  refine va_get hx hb hT i_X hown hK hP 0 rfl rfl 0 (Nat.le_of_ble_eq_true rfl) (hT _ k_168) (fun _ h => h) rfl d_X_image_17 ?_
  refine va_get hx hb hT i_Ring hown hK hP 1 rfl rfl 3 (Nat.le_of_ble_eq_true rfl) (hT _ k_48) (fun _ h => h) rfl d_X_image_20 ?_
  have hq := Option.some.inj hf
  subst hq
  exact hret _ _ _ _ _ d_X_image_23 rfl rfl hP hD hS
abbrev w_X_restore (cI cJ cC : ClassId) (a_h a_h_now a_h_kept a_h_letters a_h_numbers a_h_refusals a_h_mind a_h_parts a_h_past a_h_seating a_h_now_kinds a_h_now_sweets a_h_now_settings a_h_now_heaps a_h_kept_kinds a_h_kept_sweets a_h_kept_settings a_h_kept_heaps : Nat) (y_h_numberCount : Int32) (p_h_isKept : Int32) (p_h_now_children : Int32) (p_h_now_strokes : Int32) (p_h_now_gave : Int32) (p_h_now_threw : Int32) (p_h_now_kinds : (Nat → Int32)) (p_h_now_sweets : (Nat → Int32)) (p_h_now_settings : (Nat → Int32)) (p_h_now_heaps : (Nat → Int32)) (p_h_kept_children : Int32) (p_h_kept_strokes : Int32) (p_h_kept_gave : Int32) (p_h_kept_threw : Int32) (p_h_kept_kinds : (Nat → Int32)) (p_h_kept_sweets : (Nat → Int32)) (p_h_kept_settings : (Nat → Int32)) (p_h_refusals : (Nat → Int32)) : va_W := [(a_h, .inr (0, [.ref a_h_now, .ref a_h_kept, .int p_h_isKept, .ref a_h_letters, .ref a_h_numbers, .int y_h_numberCount, .ref a_h_refusals, .ref a_h_mind, .ref a_h_parts, .ref a_h_past, .ref a_h_seating])), (a_h_now, .inr (1, [.ref a_h_now_kinds, .ref a_h_now_sweets, .ref a_h_now_settings, .int p_h_now_children, .int p_h_now_strokes, .int p_h_now_gave, .int p_h_now_threw, .ref a_h_now_heaps])), (a_h_now_kinds, .inl (cI, (8, .inl p_h_now_kinds))), (a_h_now_sweets, .inl (cI, (8, .inl p_h_now_sweets))), (a_h_now_settings, .inl (cI, (3, .inl p_h_now_settings))), (a_h_now_heaps, .inl (cI, (8, .inl p_h_now_heaps))), (a_h_kept, .inr (1, [.ref a_h_kept_kinds, .ref a_h_kept_sweets, .ref a_h_kept_settings, .int p_h_kept_children, .int p_h_kept_strokes, .int p_h_kept_gave, .int p_h_kept_threw, .ref a_h_kept_heaps])), (a_h_kept_kinds, .inl (cI, (8, .inl p_h_kept_kinds))), (a_h_kept_sweets, .inl (cI, (8, .inl p_h_kept_sweets))), (a_h_kept_settings, .inl (cI, (3, .inl p_h_kept_settings))), (a_h_refusals, .inl (cI, (7, .inl p_h_refusals)))]
theorem d_X_restore_0 : decode b_X_restore 0 = .ok (.aload_n 0, 1) := by decide +kernel
theorem d_X_restore_1 : decode b_X_restore 1 = .ok (.getfield 19, 3) := by decide +kernel
theorem d_X_restore_4 : decode b_X_restore 4 = .ok (.ifCond .ne 10, 3) := by decide +kernel
theorem d_X_restore_7 : decode b_X_restore 7 = .ok (.aload_n 0, 1) := by decide +kernel
theorem d_X_restore_8 : decode b_X_restore 8 = .ok (.bipush (-3), 2) := by decide +kernel
theorem d_X_restore_10 : decode b_X_restore 10 = .ok (.invokevirtual 69, 3) := by decide +kernel
theorem d_X_restore_13 : decode b_X_restore 13 = .ok (.ireturn, 1) := by decide +kernel
theorem d_X_restore_14 : decode b_X_restore 14 = .ok (.aload_n 0, 1) := by decide +kernel
theorem d_X_restore_15 : decode b_X_restore 15 = .ok (.getfield 10, 3) := by decide +kernel
theorem d_X_restore_18 : decode b_X_restore 18 = .ok (.aload_n 0, 1) := by decide +kernel
theorem d_X_restore_19 : decode b_X_restore 19 = .ok (.getfield 16, 3) := by decide +kernel
theorem d_X_restore_22 : decode b_X_restore 22 = .ok (.invokevirtual 232, 3) := by decide +kernel
theorem d_X_restore_25 : decode b_X_restore 25 = .ok (.aload_n 0, 1) := by decide +kernel
theorem d_X_restore_26 : decode b_X_restore 26 = .ok (.getfield 10, 3) := by decide +kernel
theorem d_X_restore_29 : decode b_X_restore 29 = .ok (.getfield 121, 3) := by decide +kernel
theorem d_X_restore_32 : decode b_X_restore 32 = .ok (.ireturn, 1) := by decide +kernel
set_option maxHeartbeats 4000000 in
set_option maxRecDepth 100000 in
theorem c_X_restore {l : Launch} {D : va_G} {cI cJ cC : ClassId} (a_h a_h_now a_h_kept a_h_letters a_h_numbers a_h_refusals a_h_mind a_h_parts a_h_past a_h_seating a_h_now_kinds a_h_now_sweets a_h_now_settings a_h_now_heaps a_h_kept_kinds a_h_kept_sweets a_h_kept_settings a_h_kept_heaps : Nat) (y_h_numberCount : Int32) {z_h_isKept : Int32} {z_h_now : RS} {z_h_kept : RS} {z_h_refusals : (Nat → Int32)} {q : Int32 × RS × (Nat → Int32)} (hf : f_X_restore z_h_isKept z_h_now z_h_kept z_h_refusals = some q) : xI l y_X_restore b_X_restore 1 .int 2 61 D (tyK cI cJ cC) xE0 [.ref a_h] (w_X_restore cI cJ cC a_h a_h_now a_h_kept a_h_letters a_h_numbers a_h_refusals a_h_mind a_h_parts a_h_past a_h_seating a_h_now_kinds a_h_now_sweets a_h_now_settings a_h_now_heaps a_h_kept_kinds a_h_kept_sweets a_h_kept_settings a_h_kept_heaps y_h_numberCount z_h_isKept (r_children z_h_now) (r_strokes z_h_now) (r_gave z_h_now) (r_threw z_h_now) (r_kinds z_h_now) (r_sweets z_h_now) (r_settings z_h_now) (r_heaps z_h_now) (r_children z_h_kept) (r_strokes z_h_kept) (r_gave z_h_kept) (r_threw z_h_kept) (r_kinds z_h_kept) (r_sweets z_h_kept) (r_settings z_h_kept) z_h_refusals) q.1 (w_X_restore cI cJ cC a_h a_h_now a_h_kept a_h_letters a_h_numbers a_h_refusals a_h_mind a_h_parts a_h_past a_h_seating a_h_now_kinds a_h_now_sweets a_h_now_settings a_h_now_heaps a_h_kept_kinds a_h_kept_sweets a_h_kept_settings a_h_kept_heaps y_h_numberCount z_h_isKept (r_children q.2.1) (r_strokes q.2.1) (r_gave q.2.1) (r_threw q.2.1) (r_kinds q.2.1) (r_sweets q.2.1) (r_settings q.2.1) (r_heaps q.2.1) (r_children z_h_kept) (r_strokes z_h_kept) (r_gave z_h_kept) (r_threw z_h_kept) (r_kinds z_h_kept) (r_sweets z_h_kept) (r_settings z_h_kept) q.2.2) := by
  refine xI_of (by decide) (Nat.le_of_ble_eq_true rfl) ?_
  intro p e s m args below meth c A Q hx hb hml hown hT hA hP hD hK hS hE hret ls hl
  have hown : s.vm.findClass R_X = some m.cls := hown
  have hl : lv_has ls 1 [(0, .ref a_h)] := hl
  unfold f_X_restore at hf
  refine lv_aload_n hx hb d_X_restore_0 rfl (lv_at hl 0 rfl) ?_
  refine va_get hx hb hT i_X hown hK hP 0 rfl rfl 2 (Nat.le_of_ble_eq_true rfl) (hT _ k_170) (fun _ h => h) rfl d_X_restore_1 ?_
  refine lv_if_ne (tgt := 14) hx hb d_X_restore_4 (by decide) (fun c1 => ?_) (fun c1 => ?_)
  · have hf := io_f hf c1
    refine lv_aload_n hx hb d_X_restore_14 rfl (lv_at hl 0 rfl) ?_
    refine va_get hx hb hT i_X hown hK hP 0 rfl rfl 0 (Nat.le_of_ble_eq_true rfl) (hT _ k_168) (fun _ h => h) rfl d_X_restore_15 ?_
    refine lv_aload_n hx hb d_X_restore_18 rfl (lv_at hl 0 rfl) ?_
    refine va_get hx hb hT i_X hown hK hP 0 rfl rfl 1 (Nat.le_of_ble_eq_true rfl) (hT _ k_169) (fun _ h => h) rfl d_X_restore_19 ?_
    obtain ⟨q2, hq2, hf⟩ := io_b hf
    refine xcVV (wc := (w_Ring_copyFrom cI cJ cC a_h_now a_h_now_kinds a_h_now_sweets a_h_now_settings a_h_now_heaps a_h_kept a_h_kept_kinds a_h_kept_sweets a_h_kept_settings a_h_kept_heaps (r_children z_h_now) (r_strokes z_h_now) (r_gave z_h_now) (r_threw z_h_now) (r_kinds z_h_now) (r_sweets z_h_now) (r_settings z_h_now) (r_heaps z_h_now) (r_children z_h_kept) (r_strokes z_h_kept) (r_gave z_h_kept) (r_threw z_h_kept) (r_kinds z_h_kept) (r_sweets z_h_kept) (r_settings z_h_kept))) (wc' := (w_Ring_copyFrom cI cJ cC a_h_now a_h_now_kinds a_h_now_sweets a_h_now_settings a_h_now_heaps a_h_kept a_h_kept_kinds a_h_kept_sweets a_h_kept_settings a_h_kept_heaps (r_children q2) (r_strokes q2) (r_gave q2) (r_threw q2) (r_kinds q2) (r_sweets q2) (r_settings q2) (r_heaps q2) (r_children z_h_kept) (r_strokes z_h_kept) (r_gave z_h_kept) (r_threw z_h_kept) (r_kinds z_h_kept) (r_sweets z_h_kept) (r_settings z_h_kept))) (ws' := (w_X_restore cI cJ cC a_h a_h_now a_h_kept a_h_letters a_h_numbers a_h_refusals a_h_mind a_h_parts a_h_past a_h_seating a_h_now_kinds a_h_now_sweets a_h_now_settings a_h_now_heaps a_h_kept_kinds a_h_kept_sweets a_h_kept_settings a_h_kept_heaps y_h_numberCount z_h_isKept (r_children q2) (r_strokes q2) (r_gave q2) (r_threw q2) (r_kinds q2) (r_sweets q2) (r_settings q2) (r_heaps q2) (r_children z_h_kept) (r_strokes z_h_kept) (r_gave z_h_kept) (r_threw z_h_kept) (r_kinds z_h_kept) (r_sweets z_h_kept) (r_settings z_h_kept) z_h_refusals)) (As := [.ref a_h_kept]) (rest := []) hx hb hml hown hT (c_Ring_copyFrom (z_h := z_h_now) (z_g1 := z_h_kept) a_h_now a_h_now_kinds a_h_now_sweets a_h_now_settings a_h_now_heaps a_h_kept a_h_kept_kinds a_h_kept_sweets a_h_kept_settings a_h_kept_heaps hq2) k_739 k_326 k_327 k_2 k_328 hd_Ring_copyFrom ⟨Nat.le_of_ble_eq_true rfl, Nat.le_of_ble_eq_true rfl⟩ xE0_ok trivial hA hK hP hD hS [1, 2, 3, 4, 5, 6, 7, 8, 9] [0, 10] [0, 2, 3, 4, 5, 6, 7, 8, 9, 10, 1] rfl rfl rfl rfl rfl rfl rfl rfl rfl rfl hl.1 rfl (Nat.le_of_ble_eq_true rfl) ⟨Nat.zero_le _, Nat.zero_le _⟩ d_X_restore_22 (fun H locs hP hD hS => ?_)
    refine lv_aload_n hx hb d_X_restore_25 rfl (lv_at hl 0 rfl) ?_
    refine va_get hx hb hT i_X hown hK hP 0 rfl rfl 0 (Nat.le_of_ble_eq_true rfl) (hT _ k_168) (fun _ h => h) rfl d_X_restore_26 ?_
    refine va_get hx hb hT i_Ring hown hK hP 1 rfl rfl 3 (Nat.le_of_ble_eq_true rfl) (hT _ k_48) (fun _ h => h) rfl d_X_restore_29 ?_
    have hq := Option.some.inj hf
    subst hq
    exact hret _ _ _ _ _ d_X_restore_32 rfl rfl hP hD hS
  · have hf := io_t hf c1
    refine lv_aload_n hx hb d_X_restore_7 rfl (lv_at hl 0 rfl) ?_
    refine lv_bipush (v := (-3)) hx hb d_X_restore_8 (by decide) ?_
    obtain ⟨q3, hq3, hf⟩ := io_b hf
    refine xcVI (wc := (w_X_refuse cI cJ cC a_h a_h_now a_h_kept a_h_letters a_h_numbers a_h_refusals a_h_mind a_h_parts a_h_past a_h_seating z_h_isKept y_h_numberCount z_h_refusals)) (wc' := (w_X_refuse cI cJ cC a_h a_h_now a_h_kept a_h_letters a_h_numbers a_h_refusals a_h_mind a_h_parts a_h_past a_h_seating z_h_isKept y_h_numberCount q3.2)) (ws' := (w_X_restore cI cJ cC a_h a_h_now a_h_kept a_h_letters a_h_numbers a_h_refusals a_h_mind a_h_parts a_h_past a_h_seating a_h_now_kinds a_h_now_sweets a_h_now_settings a_h_now_heaps a_h_kept_kinds a_h_kept_sweets a_h_kept_settings a_h_kept_heaps y_h_numberCount z_h_isKept (r_children z_h_now) (r_strokes z_h_now) (r_gave z_h_now) (r_threw z_h_now) (r_kinds z_h_now) (r_sweets z_h_now) (r_settings z_h_now) (r_heaps z_h_now) (r_children z_h_kept) (r_strokes z_h_kept) (r_gave z_h_kept) (r_threw z_h_kept) (r_kinds z_h_kept) (r_sweets z_h_kept) (r_settings z_h_kept) q3.2)) (As := [.int (-3)]) (rest := []) hx hb hml hown hT (c_X_refuse (z_h_refusals := z_h_refusals) a_h a_h_now a_h_kept a_h_letters a_h_numbers a_h_refusals a_h_mind a_h_parts a_h_past a_h_seating z_h_isKept y_h_numberCount hq3) k_206 k_208 ks_0 k_1 k_209 hd_X_refuse ⟨Nat.le_of_ble_eq_true rfl, Nat.le_of_ble_eq_true rfl⟩ xE0_ok trivial hA hK hP hD hS [0, 10] [1, 2, 3, 4, 5, 6, 7, 8, 9] [9, 0, 1, 2, 3, 4, 5, 6, 7, 8, 10] rfl rfl rfl rfl rfl rfl rfl rfl rfl rfl hl.1 rfl (Nat.le_of_ble_eq_true rfl) ⟨Nat.zero_le _, Nat.zero_le _⟩ d_X_restore_10 (fun H locs hP hD hS => ?_)
    have hq := Option.some.inj hf
    subst hq
    exact hret _ _ _ _ _ d_X_restore_13 rfl rfl hP hD hS
abbrev w_X_count (cI cJ cC : ClassId) (a_h a_h_now a_h_kept a_h_letters a_h_numbers a_h_refusals a_h_mind a_h_parts a_h_past a_h_seating a_h_now_kinds a_h_now_sweets a_h_now_settings a_h_now_heaps a_h_letters_text a_h_letters_trial : Nat) (y_h_isKept : Int32) (p_h_numberCount : Int32) (p_h_now_children : Int32) (p_h_now_strokes : Int32) (p_h_now_gave : Int32) (p_h_now_threw : Int32) (p_h_now_sweets : (Nat → Int32)) (p_h_letters_length : Int32) (p_h_refusals : (Nat → Int32)) : va_W := [(a_h, .inr (0, [.ref a_h_now, .ref a_h_kept, .int y_h_isKept, .ref a_h_letters, .ref a_h_numbers, .int p_h_numberCount, .ref a_h_refusals, .ref a_h_mind, .ref a_h_parts, .ref a_h_past, .ref a_h_seating])), (a_h_now, .inr (1, [.ref a_h_now_kinds, .ref a_h_now_sweets, .ref a_h_now_settings, .int p_h_now_children, .int p_h_now_strokes, .int p_h_now_gave, .int p_h_now_threw, .ref a_h_now_heaps])), (a_h_now_sweets, .inl (cI, (8, .inl p_h_now_sweets))), (a_h_letters, .inr (2, [.int p_h_letters_length, .ref a_h_letters_text, .ref a_h_letters_trial])), (a_h_refusals, .inl (cI, (7, .inl p_h_refusals)))]
theorem d_X_count_0 : decode b_X_count 0 = .ok (.iload_n 1, 1) := by decide +kernel
theorem d_X_count_1 : decode b_X_count 1 = .ok (.tableswitch 108 0 7 #[47, 55, 63, 71, 79, 87, 95, 100], 47) := by decide +kernel
theorem d_X_count_48 : decode b_X_count 48 = .ok (.aload_n 0, 1) := by decide +kernel
theorem d_X_count_49 : decode b_X_count 49 = .ok (.getfield 10, 3) := by decide +kernel
theorem d_X_count_52 : decode b_X_count 52 = .ok (.getfield 121, 3) := by decide +kernel
theorem d_X_count_55 : decode b_X_count 55 = .ok (.ireturn, 1) := by decide +kernel
theorem d_X_count_56 : decode b_X_count 56 = .ok (.aload_n 0, 1) := by decide +kernel
theorem d_X_count_57 : decode b_X_count 57 = .ok (.getfield 10, 3) := by decide +kernel
theorem d_X_count_60 : decode b_X_count 60 = .ok (.invokevirtual 179, 3) := by decide +kernel
theorem d_X_count_63 : decode b_X_count 63 = .ok (.ireturn, 1) := by decide +kernel
theorem d_X_count_64 : decode b_X_count 64 = .ok (.aload_n 0, 1) := by decide +kernel
theorem d_X_count_65 : decode b_X_count 65 = .ok (.getfield 10, 3) := by decide +kernel
theorem d_X_count_68 : decode b_X_count 68 = .ok (.getfield 236, 3) := by decide +kernel
theorem d_X_count_71 : decode b_X_count 71 = .ok (.ireturn, 1) := by decide +kernel
theorem d_X_count_72 : decode b_X_count 72 = .ok (.aload_n 0, 1) := by decide +kernel
theorem d_X_count_73 : decode b_X_count 73 = .ok (.getfield 10, 3) := by decide +kernel
theorem d_X_count_76 : decode b_X_count 76 = .ok (.getfield 239, 3) := by decide +kernel
theorem d_X_count_79 : decode b_X_count 79 = .ok (.ireturn, 1) := by decide +kernel
theorem d_X_count_80 : decode b_X_count 80 = .ok (.aload_n 0, 1) := by decide +kernel
theorem d_X_count_81 : decode b_X_count 81 = .ok (.getfield 10, 3) := by decide +kernel
theorem d_X_count_84 : decode b_X_count 84 = .ok (.getfield 242, 3) := by decide +kernel
theorem d_X_count_87 : decode b_X_count 87 = .ok (.ireturn, 1) := by decide +kernel
theorem d_X_count_88 : decode b_X_count 88 = .ok (.aload_n 0, 1) := by decide +kernel
theorem d_X_count_89 : decode b_X_count 89 = .ok (.getfield 26, 3) := by decide +kernel
theorem d_X_count_92 : decode b_X_count 92 = .ok (.getfield 73, 3) := by decide +kernel
theorem d_X_count_95 : decode b_X_count 95 = .ok (.ireturn, 1) := by decide +kernel
theorem d_X_count_96 : decode b_X_count 96 = .ok (.aload_n 0, 1) := by decide +kernel
theorem d_X_count_97 : decode b_X_count 97 = .ok (.getfield 34, 3) := by decide +kernel
theorem d_X_count_100 : decode b_X_count 100 = .ok (.ireturn, 1) := by decide +kernel
theorem d_X_count_101 : decode b_X_count 101 = .ok (.aload_n 0, 1) := by decide +kernel
theorem d_X_count_102 : decode b_X_count 102 = .ok (.getfield 10, 3) := by decide +kernel
theorem d_X_count_105 : decode b_X_count 105 = .ok (.invokevirtual 245, 3) := by decide +kernel
theorem d_X_count_108 : decode b_X_count 108 = .ok (.ireturn, 1) := by decide +kernel
theorem d_X_count_109 : decode b_X_count 109 = .ok (.iload_n 1, 1) := by decide +kernel
theorem d_X_count_110 : decode b_X_count 110 = .ok (.bipush 11, 2) := by decide +kernel
theorem d_X_count_112 : decode b_X_count 112 = .ok (.if_icmp .lt 21, 3) := by decide +kernel
theorem d_X_count_115 : decode b_X_count 115 = .ok (.iload_n 1, 1) := by decide +kernel
theorem d_X_count_116 : decode b_X_count 116 = .ok (.bipush 16, 2) := by decide +kernel
theorem d_X_count_118 : decode b_X_count 118 = .ok (.if_icmp .gt 15, 3) := by decide +kernel
theorem d_X_count_121 : decode b_X_count 121 = .ok (.aload_n 0, 1) := by decide +kernel
theorem d_X_count_122 : decode b_X_count 122 = .ok (.getfield 38, 3) := by decide +kernel
theorem d_X_count_125 : decode b_X_count 125 = .ok (.iload_n 1, 1) := by decide +kernel
theorem d_X_count_126 : decode b_X_count 126 = .ok (.bipush 10, 2) := by decide +kernel
theorem d_X_count_128 : decode b_X_count 128 = .ok (.isub, 1) := by decide +kernel
theorem d_X_count_129 : decode b_X_count 129 = .ok (.iaload, 1) := by decide +kernel
theorem d_X_count_130 : decode b_X_count 130 = .ok (.goto 5, 3) := by decide +kernel
theorem d_X_count_133 : decode b_X_count 133 = .ok (.bipush (-9), 2) := by decide +kernel
theorem d_X_count_135 : decode b_X_count 135 = .ok (.ireturn, 1) := by decide +kernel
set_option maxHeartbeats 4000000 in
set_option maxRecDepth 100000 in
theorem c_X_count {l : Launch} {D : va_G} {cI cJ cC : ClassId} (a_h a_h_now a_h_kept a_h_letters a_h_numbers a_h_refusals a_h_mind a_h_parts a_h_past a_h_seating a_h_now_kinds a_h_now_sweets a_h_now_settings a_h_now_heaps a_h_letters_text a_h_letters_trial : Nat) (y_h_isKept : Int32) {z_h_numberCount : Int32} {z_h_now : RS} {z_h_letters_length : Int32} {z_h_refusals : (Nat → Int32)} {x1 : Int32} {q : Int32} (hf : f_X_count z_h_numberCount z_h_now z_h_letters_length z_h_refusals x1 = some q) : xI l y_X_count b_X_count 2 .int 1 22 D (tyK cI cJ cC) xE0 [.ref a_h, .int x1] (w_X_count cI cJ cC a_h a_h_now a_h_kept a_h_letters a_h_numbers a_h_refusals a_h_mind a_h_parts a_h_past a_h_seating a_h_now_kinds a_h_now_sweets a_h_now_settings a_h_now_heaps a_h_letters_text a_h_letters_trial y_h_isKept z_h_numberCount (r_children z_h_now) (r_strokes z_h_now) (r_gave z_h_now) (r_threw z_h_now) (r_sweets z_h_now) z_h_letters_length z_h_refusals) q (w_X_count cI cJ cC a_h a_h_now a_h_kept a_h_letters a_h_numbers a_h_refusals a_h_mind a_h_parts a_h_past a_h_seating a_h_now_kinds a_h_now_sweets a_h_now_settings a_h_now_heaps a_h_letters_text a_h_letters_trial y_h_isKept z_h_numberCount (r_children z_h_now) (r_strokes z_h_now) (r_gave z_h_now) (r_threw z_h_now) (r_sweets z_h_now) z_h_letters_length z_h_refusals) := by
  refine xI_of (by decide) (Nat.le_of_ble_eq_true rfl) ?_
  intro p e s m args below meth c A Q hx hb hml hown hT hA hP hD hK hS hE hret ls hl
  have hown : s.vm.findClass R_X = some m.cls := hown
  have hl : lv_has ls 2 [(0, .ref a_h), (1, .int x1)] := hl
  unfold f_X_count at hf
  refine lv_iload_n hx hb d_X_count_0 rfl (lv_at hl 1 rfl) ?_
  rcases Decidable.em (x1 = 0) with c1 | c1
  · have hf := io_t hf c1
    refine lv_tableIn (off := 47) (tgt := 48) hx hb d_X_count_1 (by rw [c1]; decide +kernel) (by rw [c1]; decide +kernel) (by rw [c1]; rfl) (by decide) ?_
    refine lv_aload_n hx hb d_X_count_48 rfl (lv_at hl 0 rfl) ?_
    refine va_get hx hb hT i_X hown hK hP 0 rfl rfl 0 (Nat.le_of_ble_eq_true rfl) (hT _ k_168) (fun _ h => h) rfl d_X_count_49 ?_
    refine va_get hx hb hT i_Ring hown hK hP 1 rfl rfl 3 (Nat.le_of_ble_eq_true rfl) (hT _ k_48) (fun _ h => h) rfl d_X_count_52 ?_
    have hq := Option.some.inj hf
    subst hq
    exact hret _ _ _ _ _ d_X_count_55 rfl rfl hP hD hS
  · have hf := io_f hf c1
    rcases Decidable.em (x1 = 1) with c2 | c2
    · have hf := io_t hf c2
      refine lv_tableIn (off := 55) (tgt := 56) hx hb d_X_count_1 (by rw [c2]; decide +kernel) (by rw [c2]; decide +kernel) (by rw [c2]; rfl) (by decide) ?_
      refine lv_aload_n hx hb d_X_count_56 rfl (lv_at hl 0 rfl) ?_
      refine va_get hx hb hT i_X hown hK hP 0 rfl rfl 0 (Nat.le_of_ble_eq_true rfl) (hT _ k_168) (fun _ h => h) rfl d_X_count_57 ?_
      obtain ⟨q3, hq3, hf⟩ := io_b hf
      refine xcVI (wc := (w_Ring_allSweets cI cJ cC a_h_now a_h_now_kinds a_h_now_sweets a_h_now_settings a_h_now_heaps (r_children z_h_now) (r_strokes z_h_now) (r_gave z_h_now) (r_threw z_h_now) (r_sweets z_h_now))) (wc' := (w_Ring_allSweets cI cJ cC a_h_now a_h_now_kinds a_h_now_sweets a_h_now_settings a_h_now_heaps (r_children z_h_now) (r_strokes z_h_now) (r_gave z_h_now) (r_threw z_h_now) (r_sweets z_h_now))) (ws' := (w_X_count cI cJ cC a_h a_h_now a_h_kept a_h_letters a_h_numbers a_h_refusals a_h_mind a_h_parts a_h_past a_h_seating a_h_now_kinds a_h_now_sweets a_h_now_settings a_h_now_heaps a_h_letters_text a_h_letters_trial y_h_isKept z_h_numberCount (r_children z_h_now) (r_strokes z_h_now) (r_gave z_h_now) (r_threw z_h_now) (r_sweets z_h_now) z_h_letters_length z_h_refusals)) (As := []) (rest := []) hx hb hml hown hT (c_Ring_allSweets (z_h := z_h_now) a_h_now a_h_now_kinds a_h_now_sweets a_h_now_settings a_h_now_heaps hq3) k_560 k_556 k_557 k_2 k_558 hd_Ring_allSweets ⟨Nat.le_of_ble_eq_true rfl, Nat.le_of_ble_eq_true rfl⟩ xE0_ok trivial hA hK hP hD hS [1, 2] [0, 3, 4] [0, 3, 4, 1, 2] rfl rfl rfl rfl rfl rfl rfl rfl rfl rfl hl.1 rfl (Nat.le_of_ble_eq_true rfl) ⟨Nat.zero_le _, Nat.zero_le _⟩ d_X_count_60 (fun H locs hP hD hS => ?_)
      have hq := Option.some.inj hf
      subst hq
      exact hret _ _ _ _ _ d_X_count_63 rfl rfl hP hD hS
    · have hf := io_f hf c2
      rcases Decidable.em (x1 = 2) with c4 | c4
      · have hf := io_t hf c4
        refine lv_tableIn (off := 63) (tgt := 64) hx hb d_X_count_1 (by rw [c4]; decide +kernel) (by rw [c4]; decide +kernel) (by rw [c4]; rfl) (by decide) ?_
        refine lv_aload_n hx hb d_X_count_64 rfl (lv_at hl 0 rfl) ?_
        refine va_get hx hb hT i_X hown hK hP 0 rfl rfl 0 (Nat.le_of_ble_eq_true rfl) (hT _ k_168) (fun _ h => h) rfl d_X_count_65 ?_
        refine va_get hx hb hT i_Ring hown hK hP 1 rfl rfl 4 (Nat.le_of_ble_eq_true rfl) (hT _ k_51) (fun _ h => h) rfl d_X_count_68 ?_
        have hq := Option.some.inj hf
        subst hq
        exact hret _ _ _ _ _ d_X_count_71 rfl rfl hP hD hS
      · have hf := io_f hf c4
        rcases Decidable.em (x1 = 3) with c5 | c5
        · have hf := io_t hf c5
          refine lv_tableIn (off := 71) (tgt := 72) hx hb d_X_count_1 (by rw [c5]; decide +kernel) (by rw [c5]; decide +kernel) (by rw [c5]; rfl) (by decide) ?_
          refine lv_aload_n hx hb d_X_count_72 rfl (lv_at hl 0 rfl) ?_
          refine va_get hx hb hT i_X hown hK hP 0 rfl rfl 0 (Nat.le_of_ble_eq_true rfl) (hT _ k_168) (fun _ h => h) rfl d_X_count_73 ?_
          refine va_get hx hb hT i_Ring hown hK hP 1 rfl rfl 5 (Nat.le_of_ble_eq_true rfl) (hT _ k_55) (fun _ h => h) rfl d_X_count_76 ?_
          have hq := Option.some.inj hf
          subst hq
          exact hret _ _ _ _ _ d_X_count_79 rfl rfl hP hD hS
        · have hf := io_f hf c5
          rcases Decidable.em (x1 = 4) with c6 | c6
          · have hf := io_t hf c6
            refine lv_tableIn (off := 79) (tgt := 80) hx hb d_X_count_1 (by rw [c6]; decide +kernel) (by rw [c6]; decide +kernel) (by rw [c6]; rfl) (by decide) ?_
            refine lv_aload_n hx hb d_X_count_80 rfl (lv_at hl 0 rfl) ?_
            refine va_get hx hb hT i_X hown hK hP 0 rfl rfl 0 (Nat.le_of_ble_eq_true rfl) (hT _ k_168) (fun _ h => h) rfl d_X_count_81 ?_
            refine va_get hx hb hT i_Ring hown hK hP 1 rfl rfl 6 (Nat.le_of_ble_eq_true rfl) (hT _ k_58) (fun _ h => h) rfl d_X_count_84 ?_
            have hq := Option.some.inj hf
            subst hq
            exact hret _ _ _ _ _ d_X_count_87 rfl rfl hP hD hS
          · have hf := io_f hf c6
            rcases Decidable.em (x1 = 5) with c7 | c7
            · have hf := io_t hf c7
              refine lv_tableIn (off := 87) (tgt := 88) hx hb d_X_count_1 (by rw [c7]; decide +kernel) (by rw [c7]; decide +kernel) (by rw [c7]; rfl) (by decide) ?_
              refine lv_aload_n hx hb d_X_count_88 rfl (lv_at hl 0 rfl) ?_
              refine va_get hx hb hT i_X hown hK hP 0 rfl rfl 3 (Nat.le_of_ble_eq_true rfl) (hT _ k_171) (fun _ h => h) rfl d_X_count_89 ?_
              refine va_get hx hb hT i_Letters hown hK hP 3 rfl rfl 0 (Nat.le_of_ble_eq_true rfl) (hT _ k_87) (fun _ h => h) rfl d_X_count_92 ?_
              have hq := Option.some.inj hf
              subst hq
              exact hret _ _ _ _ _ d_X_count_95 rfl rfl hP hD hS
            · have hf := io_f hf c7
              rcases Decidable.em (x1 = 6) with c8 | c8
              · have hf := io_t hf c8
                refine lv_tableIn (off := 95) (tgt := 96) hx hb d_X_count_1 (by rw [c8]; decide +kernel) (by rw [c8]; decide +kernel) (by rw [c8]; rfl) (by decide) ?_
                refine lv_aload_n hx hb d_X_count_96 rfl (lv_at hl 0 rfl) ?_
                refine va_get hx hb hT i_X hown hK hP 0 rfl rfl 5 (Nat.le_of_ble_eq_true rfl) (hT _ k_173) (fun _ h => h) rfl d_X_count_97 ?_
                have hq := Option.some.inj hf
                subst hq
                exact hret _ _ _ _ _ d_X_count_100 rfl rfl hP hD hS
              · have hf := io_f hf c8
                rcases Decidable.em (x1 = 7) with c9 | c9
                · have hf := io_t hf c9
                  refine lv_tableIn (off := 100) (tgt := 101) hx hb d_X_count_1 (by rw [c9]; decide +kernel) (by rw [c9]; decide +kernel) (by rw [c9]; rfl) (by decide) ?_
                  refine lv_aload_n hx hb d_X_count_101 rfl (lv_at hl 0 rfl) ?_
                  refine va_get hx hb hT i_X hown hK hP 0 rfl rfl 0 (Nat.le_of_ble_eq_true rfl) (hT _ k_168) (fun _ h => h) rfl d_X_count_102 ?_
                  obtain ⟨q10, hq10, hf⟩ := io_b hf
                  refine xcVI (wc := (w_Ring_oddHeaps cI cJ cC a_h_now a_h_now_kinds a_h_now_sweets a_h_now_settings a_h_now_heaps (r_children z_h_now) (r_strokes z_h_now) (r_gave z_h_now) (r_threw z_h_now) (r_sweets z_h_now))) (wc' := (w_Ring_oddHeaps cI cJ cC a_h_now a_h_now_kinds a_h_now_sweets a_h_now_settings a_h_now_heaps (r_children z_h_now) (r_strokes z_h_now) (r_gave z_h_now) (r_threw z_h_now) (r_sweets z_h_now))) (ws' := (w_X_count cI cJ cC a_h a_h_now a_h_kept a_h_letters a_h_numbers a_h_refusals a_h_mind a_h_parts a_h_past a_h_seating a_h_now_kinds a_h_now_sweets a_h_now_settings a_h_now_heaps a_h_letters_text a_h_letters_trial y_h_isKept z_h_numberCount (r_children z_h_now) (r_strokes z_h_now) (r_gave z_h_now) (r_threw z_h_now) (r_sweets z_h_now) z_h_letters_length z_h_refusals)) (As := []) (rest := []) hx hb hml hown hT (c_Ring_oddHeaps (z_h := z_h_now) a_h_now a_h_now_kinds a_h_now_sweets a_h_now_settings a_h_now_heaps hq10) k_748 k_749 k_750 k_2 k_751 hd_Ring_oddHeaps ⟨Nat.le_of_ble_eq_true rfl, Nat.le_of_ble_eq_true rfl⟩ xE0_ok trivial hA hK hP hD hS [1, 2] [0, 3, 4] [0, 3, 4, 1, 2] rfl rfl rfl rfl rfl rfl rfl rfl rfl rfl hl.1 rfl (Nat.le_of_ble_eq_true rfl) ⟨Nat.zero_le _, Nat.zero_le _⟩ d_X_count_105 (fun H locs hP hD hS => ?_)
                  have hq := Option.some.inj hf
                  subst hq
                  exact hret _ _ _ _ _ d_X_count_108 rfl rfl hP hD hS
                · have hf := io_f hf c9
                  refine lv_tableOut (tgt := 109) hx hb d_X_count_1 (by have e0 := lv_neT (a := 0) c1 (by decide +kernel); have e1 := lv_neT (a := 1) c2 (by decide +kernel); have e2 := lv_neT (a := 2) c4 (by decide +kernel); have e3 := lv_neT (a := 3) c5 (by decide +kernel); have e4 := lv_neT (a := 4) c6 (by decide +kernel); have e5 := lv_neT (a := 5) c7 (by decide +kernel); have e6 := lv_neT (a := 6) c8 (by decide +kernel); have e7 := lv_neT (a := 7) c9 (by decide +kernel); omega) (by decide) ?_
                  refine lv_iload_n hx hb d_X_count_109 rfl (lv_at hl 1 rfl) ?_
                  refine lv_bipush (v := 11) hx hb d_X_count_110 (by decide) ?_
                  refine lv_icmp_lt (tgt := 133) hx hb d_X_count_112 (by decide) (fun c11 => ?_) (fun c11 => ?_)
                  · have hf := io_t hf c11
                    refine lv_bipush (v := (-9)) hx hb d_X_count_133 (by decide) ?_
                    have hq := Option.some.inj hf
                    subst hq
                    exact hret _ _ _ _ _ d_X_count_135 rfl rfl hP hD hS
                  · have hf := io_f hf c11
                    refine lv_iload_n hx hb d_X_count_115 rfl (lv_at hl 1 rfl) ?_
                    refine lv_bipush (v := 16) hx hb d_X_count_116 (by decide) ?_
                    refine lv_icmp_gt (tgt := 133) hx hb d_X_count_118 (by decide) (fun c12 => ?_) (fun c12 => ?_)
                    · have hf := io_t hf c12
                      refine lv_bipush (v := (-9)) hx hb d_X_count_133 (by decide) ?_
                      have hq := Option.some.inj hf
                      subst hq
                      exact hret _ _ _ _ _ d_X_count_135 rfl rfl hP hD hS
                    · have hf := io_f hf c12
                      refine lv_aload_n hx hb d_X_count_121 rfl (lv_at hl 0 rfl) ?_
                      refine va_get hx hb hT i_X hown hK hP 0 rfl rfl 6 (Nat.le_of_ble_eq_true rfl) (hT _ k_174) (fun _ h => h) rfl d_X_count_122 ?_
                      refine lv_iload_n hx hb d_X_count_125 rfl (lv_at hl 1 rfl) ?_
                      refine lv_bipush (v := 10) hx hb d_X_count_126 (by decide) ?_
                      refine lv_isub hx hb d_X_count_128 ?_
                      obtain ⟨c13, hf⟩ := io_n hf
                      refine x_iald hx hb hK hP 4 0 rfl rfl (j := (x1 - 10).toNatClampNeg) rfl c13 d_X_count_129 ?_
                      refine lv_goto (tgt := 135) hx hb d_X_count_130 (by decide) ?_
                      have hq := Option.some.inj hf
                      subst hq
                      exact hret _ _ _ _ _ d_X_count_135 rfl rfl hP hD hS
