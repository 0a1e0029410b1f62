/-! Contracts: M2. Printed by wip/whole/gen. -/
abbrev w_M_rightOf (cI cJ cC : ClassId) (a_h a_h_refused a_h_kind a_h_sweets a_h_gives a_h_tape a_h_letter a_h_letterAt a_h_one a_h_two a_h_kept a_h_trail a_h_crumb a_h_nextCrumb a_h_goal a_h_start a_h_sits a_h_bestSits a_h_without a_h_row : Nat) (y_h_taped : Int32) (y_h_at : Int32) (y_h_statements : Int32) (y_h_hasImage : Int32) (y_h_beforeMany : Int32) (y_h_found : Int32) (y_h_lots : Int32) (y_h_rowMany : Int32) (p_h_many : Int32) (p_h_odd : Int32) (p_h_step : Int32) (p_h_bag : Int32) (p_h_strokes : Int32) (p_h_gave : Int32) (p_h_threw : Int32) (p_h_isKeeping : Int32) (p_h_cursor : Int32) : va_W := [(a_h, .inr (7, [.ref a_h_refused, .ref a_h_kind, .ref a_h_sweets, .ref a_h_gives, .int p_h_many, .int p_h_odd, .int p_h_step, .int p_h_bag, .int p_h_strokes, .int p_h_gave, .int p_h_threw, .ref a_h_tape, .ref a_h_letter, .ref a_h_letterAt, .ref a_h_one, .ref a_h_two, .int y_h_taped, .int y_h_at, .int y_h_statements, .ref a_h_kept, .int y_h_hasImage, .int p_h_isKeeping, .int p_h_cursor, .ref a_h_trail, .ref a_h_crumb, .ref a_h_nextCrumb, .ref a_h_goal, .ref a_h_start, .int y_h_beforeMany, .int y_h_found, .ref a_h_sits, .ref a_h_bestSits, .ref a_h_without, .int y_h_lots, .ref a_h_row, .int y_h_rowMany]))]
theorem d_M_rightOf_0 : decode b_M_rightOf 0 = .ok (.iload_n 1, 1) := by decide +kernel
theorem d_M_rightOf_1 : decode b_M_rightOf 1 = .ok (.iconst 3, 1) := by decide +kernel
theorem d_M_rightOf_2 : decode b_M_rightOf 2 = .ok (.aload_n 0, 1) := by decide +kernel
theorem d_M_rightOf_3 : decode b_M_rightOf 3 = .ok (.getfield 78, 3) := by decide +kernel
theorem d_M_rightOf_6 : decode b_M_rightOf 6 = .ok (.imul, 1) := by decide +kernel
theorem d_M_rightOf_7 : decode b_M_rightOf 7 = .ok (.iadd, 1) := by decide +kernel
theorem d_M_rightOf_8 : decode b_M_rightOf 8 = .ok (.aload_n 0, 1) := by decide +kernel
theorem d_M_rightOf_9 : decode b_M_rightOf 9 = .ok (.getfield 22, 3) := by decide +kernel
theorem d_M_rightOf_12 : decode b_M_rightOf 12 = .ok (.isub, 1) := by decide +kernel
theorem d_M_rightOf_13 : decode b_M_rightOf 13 = .ok (.aload_n 0, 1) := by decide +kernel
theorem d_M_rightOf_14 : decode b_M_rightOf 14 = .ok (.getfield 78, 3) := by decide +kernel
theorem d_M_rightOf_17 : decode b_M_rightOf 17 = .ok (.irem, 1) := by decide +kernel
theorem d_M_rightOf_18 : decode b_M_rightOf 18 = .ok (.ireturn, 1) := by decide +kernel
set_option maxHeartbeats 4000000 in
set_option maxRecDepth 100000 in
theorem c_M_rightOf {l : Launch} {D : va_G} {cI cJ cC : ClassId} (a_h a_h_refused a_h_kind a_h_sweets a_h_gives a_h_tape a_h_letter a_h_letterAt a_h_one a_h_two a_h_kept a_h_trail a_h_crumb a_h_nextCrumb a_h_goal a_h_start a_h_sits a_h_bestSits a_h_without a_h_row : Nat) (y_h_taped : Int32) (y_h_at : Int32) (y_h_statements : Int32) (y_h_hasImage : Int32) (y_h_beforeMany : Int32) (y_h_found : Int32) (y_h_lots : Int32) (y_h_rowMany : Int32) {z_h_T : MT} {x1 : Int32} {q : Int32} (hf : f_M_rightOf z_h_T x1 = some q) : xI l y_M_rightOf b_M_rightOf 2 .int 0 0 D (tyK cI cJ cC) xE0 [.ref a_h, .int x1] (w_M_rightOf cI cJ cC a_h a_h_refused a_h_kind a_h_sweets a_h_gives a_h_tape a_h_letter a_h_letterAt a_h_one a_h_two a_h_kept a_h_trail a_h_crumb a_h_nextCrumb a_h_goal a_h_start a_h_sits a_h_bestSits a_h_without a_h_row y_h_taped y_h_at y_h_statements y_h_hasImage y_h_beforeMany y_h_found y_h_lots y_h_rowMany (m_many z_h_T) (m_odd z_h_T) (m_step z_h_T) (m_bag z_h_T) (m_strokes z_h_T) (m_gave z_h_T) (m_threw z_h_T) (m_isKeeping z_h_T) (m_cursor z_h_T)) q (w_M_rightOf cI cJ cC a_h a_h_refused a_h_kind a_h_sweets a_h_gives a_h_tape a_h_letter a_h_letterAt a_h_one a_h_two a_h_kept a_h_trail a_h_crumb a_h_nextCrumb a_h_goal a_h_start a_h_sits a_h_bestSits a_h_without a_h_row y_h_taped y_h_at y_h_statements y_h_hasImage y_h_beforeMany y_h_found y_h_lots y_h_rowMany (m_many z_h_T) (m_odd z_h_T) (m_step z_h_T) (m_bag z_h_T) (m_strokes z_h_T) (m_gave z_h_T) (m_threw z_h_T) (m_isKeeping z_h_T) (m_cursor z_h_T)) := by
  refine xI_of (by decide) (Nat.le_of_ble_eq_true rfl) ?_
  intro p e s m args below meth c A Q hx hb hml hown hT hA hP hD hK hS hE hret ls hl
  have hown : s.vm.findClass R_M = some m.cls := hown
  have hl : lv_has ls 2 [(0, .ref a_h), (1, .int x1)] := hl
  unfold f_M_rightOf at hf
  refine lv_iload_n hx hb d_M_rightOf_0 rfl (lv_at hl 1 rfl) ?_
  refine lv_iconst (v := 3) hx hb d_M_rightOf_1 (by decide) ?_
  refine lv_aload_n hx hb d_M_rightOf_2 rfl (lv_at hl 0 rfl) ?_
  refine va_get hx hb hT i_M hown hK hP 0 rfl rfl 4 (Nat.le_of_ble_eq_true rfl) (hT _ k_762) (fun _ h => h) rfl d_M_rightOf_3 ?_
  refine lv_imul hx hb d_M_rightOf_6 ?_
  refine lv_iadd hx hb d_M_rightOf_7 ?_
  refine lv_aload_n hx hb d_M_rightOf_8 rfl (lv_at hl 0 rfl) ?_
  refine va_get hx hb hT i_M hown hK hP 0 rfl rfl 6 (Nat.le_of_ble_eq_true rfl) (hT _ k_764) (fun _ h => h) rfl d_M_rightOf_9 ?_
  refine lv_isub hx hb d_M_rightOf_12 ?_
  refine lv_aload_n hx hb d_M_rightOf_13 rfl (lv_at hl 0 rfl) ?_
  refine va_get hx hb hT i_M hown hK hP 0 rfl rfl 4 (Nat.le_of_ble_eq_true rfl) (hT _ k_762) (fun _ h => h) rfl d_M_rightOf_14 ?_
  obtain ⟨c1, hf⟩ := io_n hf
  refine x_irem hx hb d_M_rightOf_17 c1 ?_
  have hq := Option.some.inj hf
  subst hq
  exact hret _ _ _ _ _ d_M_rightOf_18 rfl rfl hP hD hS
abbrev w_M_givesOf (cI cJ cC : ClassId) (a_h a_h_refused a_h_kind a_h_sweets a_h_gives a_h_tape a_h_letter a_h_letterAt a_h_one a_h_two a_h_kept a_h_trail a_h_crumb a_h_nextCrumb a_h_goal a_h_start a_h_sits a_h_bestSits a_h_without a_h_row : Nat) (y_h_taped : Int32) (y_h_at : Int32) (y_h_statements : Int32) (y_h_hasImage : Int32) (y_h_beforeMany : Int32) (y_h_found : Int32) (y_h_lots : Int32) (y_h_rowMany : Int32) (p_h_many : Int32) (p_h_odd : Int32) (p_h_step : Int32) (p_h_bag : Int32) (p_h_strokes : Int32) (p_h_gave : Int32) (p_h_threw : Int32) (p_h_isKeeping : Int32) (p_h_cursor : Int32) (p_h_kind : (Nat → Int32)) (p_h_sweets : (Nat → Int32)) : va_W := [(a_h, .inr (7, [.ref a_h_refused, .ref a_h_kind, .ref a_h_sweets, .ref a_h_gives, .int p_h_many, .int p_h_odd, .int p_h_step, .int p_h_bag, .int p_h_strokes, .int p_h_gave, .int p_h_threw, .ref a_h_tape, .ref a_h_letter, .ref a_h_letterAt, .ref a_h_one, .ref a_h_two, .int y_h_taped, .int y_h_at, .int y_h_statements, .ref a_h_kept, .int y_h_hasImage, .int p_h_isKeeping, .int p_h_cursor, .ref a_h_trail, .ref a_h_crumb, .ref a_h_nextCrumb, .ref a_h_goal, .ref a_h_start, .int y_h_beforeMany, .int y_h_found, .ref a_h_sits, .ref a_h_bestSits, .ref a_h_without, .int y_h_lots, .ref a_h_row, .int y_h_rowMany])), (a_h_kind, .inl (cI, (8, .inl p_h_kind))), (a_h_sweets, .inl (cI, (8, .inl p_h_sweets)))]
theorem d_M_givesOf_0 : decode b_M_givesOf 0 = .ok (.aload_n 0, 1) := by decide +kernel
theorem d_M_givesOf_1 : decode b_M_givesOf 1 = .ok (.iload_n 1, 1) := by decide +kernel
theorem d_M_givesOf_2 : decode b_M_givesOf 2 = .ok (.invokevirtual 149, 3) := by decide +kernel
theorem d_M_givesOf_5 : decode b_M_givesOf 5 = .ok (.istore_n 2, 1) := by decide +kernel
theorem d_M_givesOf_6 : decode b_M_givesOf 6 = .ok (.aload_n 0, 1) := by decide +kernel
theorem d_M_givesOf_7 : decode b_M_givesOf 7 = .ok (.getfield 16, 3) := by decide +kernel
theorem d_M_givesOf_10 : decode b_M_givesOf 10 = .ok (.iload_n 1, 1) := by decide +kernel
theorem d_M_givesOf_11 : decode b_M_givesOf 11 = .ok (.iaload, 1) := by decide +kernel
theorem d_M_givesOf_12 : decode b_M_givesOf 12 = .ok (.istore_n 3, 1) := by decide +kernel
theorem d_M_givesOf_13 : decode b_M_givesOf 13 = .ok (.iload_n 2, 1) := by decide +kernel
theorem d_M_givesOf_14 : decode b_M_givesOf 14 = .ok (.iload_n 1, 1) := by decide +kernel
theorem d_M_givesOf_15 : decode b_M_givesOf 15 = .ok (.if_icmp .ne 5, 3) := by decide +kernel
theorem d_M_givesOf_18 : decode b_M_givesOf 18 = .ok (.iconst 0, 1) := by decide +kernel
theorem d_M_givesOf_19 : decode b_M_givesOf 19 = .ok (.ireturn, 1) := by decide +kernel
theorem d_M_givesOf_20 : decode b_M_givesOf 20 = .ok (.iload_n 3, 1) := by decide +kernel
theorem d_M_givesOf_21 : decode b_M_givesOf 21 = .ok (.aload_n 0, 1) := by decide +kernel
theorem d_M_givesOf_22 : decode b_M_givesOf 22 = .ok (.getfield 16, 3) := by decide +kernel
theorem d_M_givesOf_25 : decode b_M_givesOf 25 = .ok (.iload_n 2, 1) := by decide +kernel
theorem d_M_givesOf_26 : decode b_M_givesOf 26 = .ok (.iaload, 1) := by decide +kernel
theorem d_M_givesOf_27 : decode b_M_givesOf 27 = .ok (.isub, 1) := by decide +kernel
theorem d_M_givesOf_28 : decode b_M_givesOf 28 = .ok (.istore 4, 2) := by decide +kernel
theorem d_M_givesOf_30 : decode b_M_givesOf 30 = .ok (.aload_n 0, 1) := by decide +kernel
theorem d_M_givesOf_31 : decode b_M_givesOf 31 = .ok (.getfield 13, 3) := by decide +kernel
theorem d_M_givesOf_34 : decode b_M_givesOf 34 = .ok (.iload_n 1, 1) := by decide +kernel
theorem d_M_givesOf_35 : decode b_M_givesOf 35 = .ok (.iaload, 1) := by decide +kernel
theorem d_M_givesOf_36 : decode b_M_givesOf 36 = .ok (.tableswitch 108 0 6 #[44, 48, 52, 65, 108, 79, 93], 44) := by decide +kernel
theorem d_M_givesOf_80 : decode b_M_givesOf 80 = .ok (.iload_n 3, 1) := by decide +kernel
theorem d_M_givesOf_81 : decode b_M_givesOf 81 = .ok (.iconst 2, 1) := by decide +kernel
theorem d_M_givesOf_82 : decode b_M_givesOf 82 = .ok (.idiv, 1) := by decide +kernel
theorem d_M_givesOf_83 : decode b_M_givesOf 83 = .ok (.ireturn, 1) := by decide +kernel
theorem d_M_givesOf_84 : decode b_M_givesOf 84 = .ok (.iload_n 3, 1) := by decide +kernel
theorem d_M_givesOf_85 : decode b_M_givesOf 85 = .ok (.iconst 4, 1) := by decide +kernel
theorem d_M_givesOf_86 : decode b_M_givesOf 86 = .ok (.idiv, 1) := by decide +kernel
theorem d_M_givesOf_87 : decode b_M_givesOf 87 = .ok (.ireturn, 1) := by decide +kernel
theorem d_M_givesOf_88 : decode b_M_givesOf 88 = .ok (.iload 4, 2) := by decide +kernel
theorem d_M_givesOf_90 : decode b_M_givesOf 90 = .ok (.ifCond .le 9, 3) := by decide +kernel
theorem d_M_givesOf_93 : decode b_M_givesOf 93 = .ok (.iload_n 3, 1) := by decide +kernel
theorem d_M_givesOf_94 : decode b_M_givesOf 94 = .ok (.iconst 2, 1) := by decide +kernel
theorem d_M_givesOf_95 : decode b_M_givesOf 95 = .ok (.idiv, 1) := by decide +kernel
theorem d_M_givesOf_96 : decode b_M_givesOf 96 = .ok (.goto 4, 3) := by decide +kernel
theorem d_M_givesOf_99 : decode b_M_givesOf 99 = .ok (.iconst 0, 1) := by decide +kernel
theorem d_M_givesOf_100 : decode b_M_givesOf 100 = .ok (.ireturn, 1) := by decide +kernel
theorem d_M_givesOf_101 : decode b_M_givesOf 101 = .ok (.iload_n 3, 1) := by decide +kernel
theorem d_M_givesOf_102 : decode b_M_givesOf 102 = .ok (.ifCond .ne 7, 3) := by decide +kernel
theorem d_M_givesOf_105 : decode b_M_givesOf 105 = .ok (.iconst 0, 1) := by decide +kernel
theorem d_M_givesOf_106 : decode b_M_givesOf 106 = .ok (.goto 8, 3) := by decide +kernel
theorem d_M_givesOf_109 : decode b_M_givesOf 109 = .ok (.iload_n 3, 1) := by decide +kernel
theorem d_M_givesOf_110 : decode b_M_givesOf 110 = .ok (.iconst 1, 1) := by decide +kernel
theorem d_M_givesOf_111 : decode b_M_givesOf 111 = .ok (.isub, 1) := by decide +kernel
theorem d_M_givesOf_112 : decode b_M_givesOf 112 = .ok (.iconst 2, 1) := by decide +kernel
theorem d_M_givesOf_113 : decode b_M_givesOf 113 = .ok (.idiv, 1) := by decide +kernel
theorem d_M_givesOf_114 : decode b_M_givesOf 114 = .ok (.ireturn, 1) := by decide +kernel
theorem d_M_givesOf_115 : decode b_M_givesOf 115 = .ok (.iload 4, 2) := by decide +kernel
theorem d_M_givesOf_117 : decode b_M_givesOf 117 = .ok (.ifCond .le 10, 3) := by decide +kernel
theorem d_M_givesOf_120 : decode b_M_givesOf 120 = .ok (.iload 4, 2) := by decide +kernel
theorem d_M_givesOf_122 : decode b_M_givesOf 122 = .ok (.iconst 2, 1) := by decide +kernel
theorem d_M_givesOf_123 : decode b_M_givesOf 123 = .ok (.idiv, 1) := by decide +kernel
theorem d_M_givesOf_124 : decode b_M_givesOf 124 = .ok (.goto 4, 3) := by decide +kernel
theorem d_M_givesOf_127 : decode b_M_givesOf 127 = .ok (.iconst 0, 1) := by decide +kernel
theorem d_M_givesOf_128 : decode b_M_givesOf 128 = .ok (.ireturn, 1) := by decide +kernel
theorem d_M_givesOf_129 : decode b_M_givesOf 129 = .ok (.iload_n 3, 1) := by decide +kernel
theorem d_M_givesOf_130 : decode b_M_givesOf 130 = .ok (.iconst 4, 1) := by decide +kernel
theorem d_M_givesOf_131 : decode b_M_givesOf 131 = .ok (.if_icmp .ge 7, 3) := by decide +kernel
theorem d_M_givesOf_134 : decode b_M_givesOf 134 = .ok (.iconst 0, 1) := by decide +kernel
theorem d_M_givesOf_135 : decode b_M_givesOf 135 = .ok (.goto 8, 3) := by decide +kernel
theorem d_M_givesOf_138 : decode b_M_givesOf 138 = .ok (.iload_n 3, 1) := by decide +kernel
theorem d_M_givesOf_139 : decode b_M_givesOf 139 = .ok (.iconst 1, 1) := by decide +kernel
theorem d_M_givesOf_140 : decode b_M_givesOf 140 = .ok (.isub, 1) := by decide +kernel
theorem d_M_givesOf_141 : decode b_M_givesOf 141 = .ok (.iconst 2, 1) := by decide +kernel
theorem d_M_givesOf_142 : decode b_M_givesOf 142 = .ok (.idiv, 1) := by decide +kernel
theorem d_M_givesOf_143 : decode b_M_givesOf 143 = .ok (.ireturn, 1) := by decide +kernel
theorem d_M_givesOf_144 : decode b_M_givesOf 144 = .ok (.iconst 0, 1) := by decide +kernel
theorem d_M_givesOf_145 : decode b_M_givesOf 145 = .ok (.ireturn, 1) := by decide +kernel
set_option maxHeartbeats 4000000 in
set_option maxRecDepth 100000 in
theorem c_M_givesOf {l : Launch} {D : va_G} {cI cJ cC : ClassId} (a_h a_h_refused a_h_kind a_h_sweets a_h_gives a_h_tape a_h_letter a_h_letterAt a_h_one a_h_two a_h_kept a_h_trail a_h_crumb a_h_nextCrumb a_h_goal a_h_start a_h_sits a_h_bestSits a_h_without a_h_row : Nat) (y_h_taped : Int32) (y_h_at : Int32) (y_h_statements : Int32) (y_h_hasImage : Int32) (y_h_beforeMany : Int32) (y_h_found : Int32) (y_h_lots : Int32) (y_h_rowMany : Int32) {z_h_T : MT} {x1 : Int32} {q : Int32} (hf : f_M_givesOf z_h_T x1 = some q) : xI l y_M_givesOf b_M_givesOf 5 .int 1 21 D (tyK cI cJ cC) xE0 [.ref a_h, .int x1] (w_M_givesOf cI cJ cC a_h a_h_refused a_h_kind a_h_sweets a_h_gives a_h_tape a_h_letter a_h_letterAt a_h_one a_h_two a_h_kept a_h_trail a_h_crumb a_h_nextCrumb a_h_goal a_h_start a_h_sits a_h_bestSits a_h_without a_h_row y_h_taped y_h_at y_h_statements y_h_hasImage y_h_beforeMany y_h_found y_h_lots y_h_rowMany (m_many z_h_T) (m_odd z_h_T) (m_step z_h_T) (m_bag z_h_T) (m_strokes z_h_T) (m_gave z_h_T) (m_threw z_h_T) (m_isKeeping z_h_T) (m_cursor z_h_T) (m_kind z_h_T) (m_sweets z_h_T)) q (w_M_givesOf cI cJ cC a_h a_h_refused a_h_kind a_h_sweets a_h_gives a_h_tape a_h_letter a_h_letterAt a_h_one a_h_two a_h_kept a_h_trail a_h_crumb a_h_nextCrumb a_h_goal a_h_start a_h_sits a_h_bestSits a_h_without a_h_row y_h_taped y_h_at y_h_statements y_h_hasImage y_h_beforeMany y_h_found y_h_lots y_h_rowMany (m_many z_h_T) (m_odd z_h_T) (m_step z_h_T) (m_bag z_h_T) (m_strokes z_h_T) (m_gave z_h_T) (m_threw z_h_T) (m_isKeeping z_h_T) (m_cursor z_h_T) (m_kind z_h_T) (m_sweets z_h_T)) := by
  refine xI_of (by decide) (Nat.le_of_ble_eq_true rfl) ?_
  intro p e s m args below meth c A Q hx hb hml hown hT hA hP hD hK hS hE hret ls hl
  have hown : s.vm.findClass R_M = some m.cls := hown
  have hl : lv_has ls 5 [(0, .ref a_h), (1, .int x1)] := hl
  unfold f_M_givesOf at hf
  refine lv_aload_n hx hb d_M_givesOf_0 rfl (lv_at hl 0 rfl) ?_
  refine lv_iload_n hx hb d_M_givesOf_1 rfl (lv_at hl 1 rfl) ?_
  obtain ⟨q1, hq1, hf⟩ := io_b hf
  refine xcVI (wc := (w_M_leftOf cI cJ cC a_h a_h_refused a_h_kind a_h_sweets a_h_gives a_h_tape a_h_letter a_h_letterAt a_h_one a_h_two a_h_kept a_h_trail a_h_crumb a_h_nextCrumb a_h_goal a_h_start a_h_sits a_h_bestSits a_h_without a_h_row y_h_taped y_h_at y_h_statements y_h_hasImage y_h_beforeMany y_h_found y_h_lots y_h_rowMany (m_many z_h_T) (m_odd z_h_T) (m_step z_h_T) (m_bag z_h_T) (m_strokes z_h_T) (m_gave z_h_T) (m_threw z_h_T) (m_isKeeping z_h_T) (m_cursor z_h_T))) (wc' := (w_M_leftOf cI cJ cC a_h a_h_refused a_h_kind a_h_sweets a_h_gives a_h_tape a_h_letter a_h_letterAt a_h_one a_h_two a_h_kept a_h_trail a_h_crumb a_h_nextCrumb a_h_goal a_h_start a_h_sits a_h_bestSits a_h_without a_h_row y_h_taped y_h_at y_h_statements y_h_hasImage y_h_beforeMany y_h_found y_h_lots y_h_rowMany (m_many z_h_T) (m_odd z_h_T) (m_step z_h_T) (m_bag z_h_T) (m_strokes z_h_T) (m_gave z_h_T) (m_threw z_h_T) (m_isKeeping z_h_T) (m_cursor z_h_T))) (ws' := (w_M_givesOf cI cJ cC a_h a_h_refused a_h_kind a_h_sweets a_h_gives a_h_tape a_h_letter a_h_letterAt a_h_one a_h_two a_h_kept a_h_trail a_h_crumb a_h_nextCrumb a_h_goal a_h_start a_h_sits a_h_bestSits a_h_without a_h_row y_h_taped y_h_at y_h_statements y_h_hasImage y_h_beforeMany y_h_found y_h_lots y_h_rowMany (m_many z_h_T) (m_odd z_h_T) (m_step z_h_T) (m_bag z_h_T) (m_strokes z_h_T) (m_gave z_h_T) (m_threw z_h_T) (m_isKeeping z_h_T) (m_cursor z_h_T) (m_kind z_h_T) (m_sweets z_h_T))) (As := [.int x1]) (rest := []) hx hb hml hown hT (c_M_leftOf (z_h_T := z_h_T) a_h a_h_refused a_h_kind a_h_sweets a_h_gives a_h_tape a_h_letter a_h_letterAt a_h_one a_h_two a_h_kept a_h_trail a_h_crumb a_h_nextCrumb a_h_goal a_h_start a_h_sits a_h_bestSits a_h_without a_h_row y_h_taped y_h_at y_h_statements y_h_hasImage y_h_beforeMany y_h_found y_h_lots y_h_rowMany hq1) k_932 k_934 ks_33 k_8 k_935 hd_M_leftOf ⟨Nat.le_of_ble_eq_true rfl, Nat.le_of_ble_eq_true rfl⟩ xE0_ok trivial hA hK hP hD hS [0] [1, 2] [2, 0, 1] rfl rfl rfl rfl rfl rfl rfl rfl rfl rfl hl.1 rfl (Nat.le_of_ble_eq_true rfl) ⟨Nat.zero_le _, Nat.zero_le _⟩ d_M_givesOf_2 (fun H locs hP hD hS => ?_)
  refine lv_istore_n (lv' := [(2, .int q1), (0, .ref a_h), (1, .int x1)]) hx hb d_M_givesOf_5 rfl hl (by decide) rfl (fun ls hl => ?_)
  refine lv_aload_n hx hb d_M_givesOf_6 rfl (lv_at hl 1 rfl) ?_
  refine va_get hx hb hT i_M hown hK hP 0 rfl rfl 2 (Nat.le_of_ble_eq_true rfl) (hT _ k_760) (fun _ h => h) rfl d_M_givesOf_7 ?_
  refine lv_iload_n hx hb d_M_givesOf_10 rfl (lv_at hl 2 rfl) ?_
  obtain ⟨c2, hf⟩ := io_n hf
  refine x_iald hx hb hK hP 2 0 rfl rfl (j := x1.toNatClampNeg) rfl c2 d_M_givesOf_11 ?_
  refine lv_istore_n (lv' := [(3, .int ((m_sweets z_h_T) x1.toNatClampNeg)), (2, .int q1), (0, .ref a_h), (1, .int x1)]) hx hb d_M_givesOf_12 rfl hl (by decide) rfl (fun ls hl => ?_)
  refine lv_iload_n hx hb d_M_givesOf_13 rfl (lv_at hl 1 rfl) ?_
  refine lv_iload_n hx hb d_M_givesOf_14 rfl (lv_at hl 3 rfl) ?_
  refine lv_icmp_ne (tgt := 20) hx hb d_M_givesOf_15 (by decide) (fun c3 => ?_) (fun c3 => ?_)
  · have hf := io_f hf c3
    refine lv_iload_n hx hb d_M_givesOf_20 rfl (lv_at hl 0 rfl) ?_
    refine lv_aload_n hx hb d_M_givesOf_21 rfl (lv_at hl 2 rfl) ?_
    refine va_get hx hb hT i_M hown hK hP 0 rfl rfl 2 (Nat.le_of_ble_eq_true rfl) (hT _ k_760) (fun _ h => h) rfl d_M_givesOf_22 ?_
    refine lv_iload_n hx hb d_M_givesOf_25 rfl (lv_at hl 1 rfl) ?_
    obtain ⟨c4, hf⟩ := io_n hf
    refine x_iald hx hb hK hP 2 0 rfl rfl (j := q1.toNatClampNeg) rfl c4 d_M_givesOf_26 ?_
    refine lv_isub hx hb d_M_givesOf_27 ?_
    refine lv_istore (lv' := [(4, .int (((m_sweets z_h_T) x1.toNatClampNeg) - ((m_sweets z_h_T) q1.toNatClampNeg))), (3, .int ((m_sweets z_h_T) x1.toNatClampNeg)), (2, .int q1), (0, .ref a_h), (1, .int x1)]) hx hb d_M_givesOf_28 hl (by decide) rfl (fun ls hl => ?_)
    refine lv_aload_n hx hb d_M_givesOf_30 rfl (lv_at hl 3 rfl) ?_
    refine va_get hx hb hT i_M hown hK hP 0 rfl rfl 1 (Nat.le_of_ble_eq_true rfl) (hT _ k_759) (fun _ h => h) rfl d_M_givesOf_31 ?_
    refine lv_iload_n hx hb d_M_givesOf_34 rfl (lv_at hl 4 rfl) ?_
    refine x_iald hx hb hK hP 1 0 rfl rfl (j := x1.toNatClampNeg) rfl c2 d_M_givesOf_35 ?_
    rcases Decidable.em (((m_kind z_h_T) x1.toNatClampNeg) = 0) with c5 | c5
    · have hf := io_t hf c5
      refine lv_tableIn (off := 44) (tgt := 80) hx hb d_M_givesOf_36 (by rw [c5]; decide +kernel) (by rw [c5]; decide +kernel) (by rw [c5]; rfl) (by decide) ?_
      refine lv_iload_n hx hb d_M_givesOf_80 rfl (lv_at hl 1 rfl) ?_
      refine lv_iconst (v := 2) hx hb d_M_givesOf_81 (by decide) ?_
      refine x_idiv hx hb d_M_givesOf_82 (by decide) ?_
      have hq := Option.some.inj hf
      subst hq
      exact hret _ _ _ _ _ d_M_givesOf_83 rfl rfl hP hD hS
    · have hf := io_f hf c5
      rcases Decidable.em (((m_kind z_h_T) x1.toNatClampNeg) = 1) with c6 | c6
      · have hf := io_t hf c6
        refine lv_tableIn (off := 48) (tgt := 84) hx hb d_M_givesOf_36 (by rw [c6]; decide +kernel) (by rw [c6]; decide +kernel) (by rw [c6]; rfl) (by decide) ?_
        refine lv_iload_n hx hb d_M_givesOf_84 rfl (lv_at hl 1 rfl) ?_
        refine lv_iconst (v := 4) hx hb d_M_givesOf_85 (by decide) ?_
        refine x_idiv hx hb d_M_givesOf_86 (by decide) ?_
        have hq := Option.some.inj hf
        subst hq
        exact hret _ _ _ _ _ d_M_givesOf_87 rfl rfl hP hD hS
      · have hf := io_f hf c6
        rcases Decidable.em (((m_kind z_h_T) x1.toNatClampNeg) = 2) with c7 | c7
        · have hf := io_t hf c7
          refine lv_tableIn (off := 52) (tgt := 88) hx hb d_M_givesOf_36 (by rw [c7]; decide +kernel) (by rw [c7]; decide +kernel) (by rw [c7]; rfl) (by decide) ?_
          refine lv_iload hx hb d_M_givesOf_88 (lv_at hl 0 rfl) ?_
          refine lv_if_le (tgt := 99) hx hb d_M_givesOf_90 (by decide) (fun c8 => ?_) (fun c8 => ?_)
          · have hf := io_t hf c8
            refine lv_iconst (v := 0) hx hb d_M_givesOf_99 (by decide) ?_
            have hq := Option.some.inj hf
            subst hq
            exact hret _ _ _ _ _ d_M_givesOf_100 rfl rfl hP hD hS
          · have hf := io_f hf c8
            refine lv_iload_n hx hb d_M_givesOf_93 rfl (lv_at hl 1 rfl) ?_
            refine lv_iconst (v := 2) hx hb d_M_givesOf_94 (by decide) ?_
            refine x_idiv hx hb d_M_givesOf_95 (by decide) ?_
            refine lv_goto (tgt := 100) hx hb d_M_givesOf_96 (by decide) ?_
            have hq := Option.some.inj hf
            subst hq
            exact hret _ _ _ _ _ d_M_givesOf_100 rfl rfl hP hD hS
        · have hf := io_f hf c7
          rcases Decidable.em (((m_kind z_h_T) x1.toNatClampNeg) = 3) with c9 | c9
          · have hf := io_t hf c9
            refine lv_tableIn (off := 65) (tgt := 101) hx hb d_M_givesOf_36 (by rw [c9]; decide +kernel) (by rw [c9]; decide +kernel) (by rw [c9]; rfl) (by decide) ?_
            refine lv_iload_n hx hb d_M_givesOf_101 rfl (lv_at hl 1 rfl) ?_
            refine lv_if_ne (tgt := 109) hx hb d_M_givesOf_102 (by decide) (fun c10 => ?_) (fun c10 => ?_)
            · have hf := io_f hf c10
              refine lv_iload_n hx hb d_M_givesOf_109 rfl (lv_at hl 1 rfl) ?_
              refine lv_iconst (v := 1) hx hb d_M_givesOf_110 (by decide) ?_
              refine lv_isub hx hb d_M_givesOf_111 ?_
              refine lv_iconst (v := 2) hx hb d_M_givesOf_112 (by decide) ?_
              refine x_idiv hx hb d_M_givesOf_113 (by decide) ?_
              have hq := Option.some.inj hf
              subst hq
              exact hret _ _ _ _ _ d_M_givesOf_114 rfl rfl hP hD hS
            · have hf := io_t hf c10
              refine lv_iconst (v := 0) hx hb d_M_givesOf_105 (by decide) ?_
              refine lv_goto (tgt := 114) hx hb d_M_givesOf_106 (by decide) ?_
              have hq := Option.some.inj hf
              subst hq
              exact hret _ _ _ _ _ d_M_givesOf_114 rfl rfl hP hD hS
          · have hf := io_f hf c9
            rcases Decidable.em (((m_kind z_h_T) x1.toNatClampNeg) = 4) with c11 | c11
            · have hf := io_t hf c11
              refine lv_tableIn (off := 108) (tgt := 144) hx hb d_M_givesOf_36 (by rw [c11]; decide +kernel) (by rw [c11]; decide +kernel) (by rw [c11]; rfl) (by decide) ?_
              refine lv_iconst (v := 0) hx hb d_M_givesOf_144 (by decide) ?_
              have hq := Option.some.inj hf
              subst hq
              exact hret _ _ _ _ _ d_M_givesOf_145 rfl rfl hP hD hS
            · have hf := io_f hf c11
              rcases Decidable.em (((m_kind z_h_T) x1.toNatClampNeg) = 5) with c12 | c12
              · have hf := io_t hf c12
                refine lv_tableIn (off := 79) (tgt := 115) hx hb d_M_givesOf_36 (by rw [c12]; decide +kernel) (by rw [c12]; decide +kernel) (by rw [c12]; rfl) (by decide) ?_
                refine lv_iload hx hb d_M_givesOf_115 (lv_at hl 0 rfl) ?_
                refine lv_if_le (tgt := 127) hx hb d_M_givesOf_117 (by decide) (fun c13 => ?_) (fun c13 => ?_)
                · have hf := io_t hf c13
                  refine lv_iconst (v := 0) hx hb d_M_givesOf_127 (by decide) ?_
                  have hq := Option.some.inj hf
                  subst hq
                  exact hret _ _ _ _ _ d_M_givesOf_128 rfl rfl hP hD hS
                · have hf := io_f hf c13
                  refine lv_iload hx hb d_M_givesOf_120 (lv_at hl 0 rfl) ?_
                  refine lv_iconst (v := 2) hx hb d_M_givesOf_122 (by decide) ?_
                  refine x_idiv hx hb d_M_givesOf_123 (by decide) ?_
                  refine lv_goto (tgt := 128) hx hb d_M_givesOf_124 (by decide) ?_
                  have hq := Option.some.inj hf
                  subst hq
                  exact hret _ _ _ _ _ d_M_givesOf_128 rfl rfl hP hD hS
              · have hf := io_f hf c12
                rcases Decidable.em (((m_kind z_h_T) x1.toNatClampNeg) = 6) with c14 | c14
                · have hf := io_t hf c14
                  refine lv_tableIn (off := 93) (tgt := 129) hx hb d_M_givesOf_36 (by rw [c14]; decide +kernel) (by rw [c14]; decide +kernel) (by rw [c14]; rfl) (by decide) ?_
                  refine lv_iload_n hx hb d_M_givesOf_129 rfl (lv_at hl 1 rfl) ?_
                  refine lv_iconst (v := 4) hx hb d_M_givesOf_130 (by decide) ?_
                  refine lv_icmp_ge (tgt := 138) hx hb d_M_givesOf_131 (by decide) (fun c15 => ?_) (fun c15 => ?_)
                  · have hf := io_t hf c15
                    refine lv_iload_n hx hb d_M_givesOf_138 rfl (lv_at hl 1 rfl) ?_
                    refine lv_iconst (v := 1) hx hb d_M_givesOf_139 (by decide) ?_
                    refine lv_isub hx hb d_M_givesOf_140 ?_
                    refine lv_iconst (v := 2) hx hb d_M_givesOf_141 (by decide) ?_
                    refine x_idiv hx hb d_M_givesOf_142 (by decide) ?_
                    have hq := Option.some.inj hf
                    subst hq
                    exact hret _ _ _ _ _ d_M_givesOf_143 rfl rfl hP hD hS
                  · have hf := io_f hf c15
                    refine lv_iconst (v := 0) hx hb d_M_givesOf_134 (by decide) ?_
                    refine lv_goto (tgt := 143) hx hb d_M_givesOf_135 (by decide) ?_
                    have hq := Option.some.inj hf
                    subst hq
                    exact hret _ _ _ _ _ d_M_givesOf_143 rfl rfl hP hD hS
                · have hf := io_f hf c14
                  refine lv_tableOut (tgt := 144) hx hb d_M_givesOf_36 (by have e0 := lv_neT (a := 0) c5 (by decide +kernel); have e1 := lv_neT (a := 1) c6 (by decide +kernel); have e2 := lv_neT (a := 2) c7 (by decide +kernel); have e3 := lv_neT (a := 3) c9 (by decide +kernel); have e4 := lv_neT (a := 4) c11 (by decide +kernel); have e5 := lv_neT (a := 5) c12 (by decide +kernel); have e6 := lv_neT (a := 6) c14 (by decide +kernel); omega) (by decide) ?_
                  refine lv_iconst (v := 0) hx hb d_M_givesOf_144 (by decide) ?_
                  have hq := Option.some.inj hf
                  subst hq
                  exact hret _ _ _ _ _ d_M_givesOf_145 rfl rfl hP hD hS
  · have hf := io_t hf c3
    refine lv_iconst (v := 0) hx hb d_M_givesOf_18 (by decide) ?_
    have hq := Option.some.inj hf
    subst hq
    exact hret _ _ _ _ _ d_M_givesOf_19 rfl rfl hP hD hS
theorem d_M_held_0 : decode b_M_held 0 = .ok (.iload_n 0, 1) := by decide +kernel
theorem d_M_held_1 : decode b_M_held 1 = .ok (.sipush 999, 3) := by decide +kernel
theorem d_M_held_4 : decode b_M_held 4 = .ok (.if_icmp .le 9, 3) := by decide +kernel
theorem d_M_held_7 : decode b_M_held 7 = .ok (.sipush 999, 3) := by decide +kernel
theorem d_M_held_10 : decode b_M_held 10 = .ok (.goto 4, 3) := by decide +kernel
theorem d_M_held_13 : decode b_M_held 13 = .ok (.iload_n 0, 1) := by decide +kernel
theorem d_M_held_14 : decode b_M_held 14 = .ok (.ireturn, 1) := by decide +kernel
set_option maxHeartbeats 4000000 in
set_option maxRecDepth 100000 in
theorem c_M_held {l : Launch} {D : va_G} {cI cJ cC : ClassId} {x0 : Int32} {q : Int32} (hf : f_M_held x0 = some q) : xI l y_M_held b_M_held 1 .int 0 0 D (tyK cI cJ cC) xE0 [.int x0] [] q [] := by
  refine xI_of (by decide) (Nat.le_of_ble_eq_true rfl) ?_
  intro p e s m args below meth c A Q hx hb hml hown hT hA hP hD hK hS hE hret ls hl
  have hown : s.vm.findClass R_M = some m.cls := hown
  have hl : lv_has ls 1 [(0, .int x0)] := hl
  unfold f_M_held at hf
  refine lv_iload_n hx hb d_M_held_0 rfl (lv_at hl 0 rfl) ?_
  refine lv_sipush (v := 999) hx hb d_M_held_1 (by decide) ?_
  refine lv_icmp_le (tgt := 13) hx hb d_M_held_4 (by decide) (fun c1 => ?_) (fun c1 => ?_)
  · have hf := io_t hf c1
    refine lv_iload_n hx hb d_M_held_13 rfl (lv_at hl 0 rfl) ?_
    have hq := Option.some.inj hf
    subst hq
    exact hret _ _ _ _ _ d_M_held_14 rfl rfl hP hD hS
  · have hf := io_f hf c1
    refine lv_sipush (v := 999) hx hb d_M_held_7 (by decide) ?_
    refine lv_goto (tgt := 14) hx hb d_M_held_10 (by decide) ?_
    have hq := Option.some.inj hf
    subst hq
    exact hret _ _ _ _ _ d_M_held_14 rfl rfl hP hD hS
abbrev w_M_mends (cI cJ cC : ClassId) (a_h a_h_refused a_h_kind a_h_sweets a_h_gives a_h_tape a_h_letter a_h_letterAt a_h_one a_h_two a_h_kept a_h_trail a_h_crumb a_h_nextCrumb a_h_goal a_h_start a_h_sits a_h_bestSits a_h_without a_h_row : Nat) (y_h_taped : Int32) (y_h_at : Int32) (y_h_statements : Int32) (y_h_hasImage : Int32) (y_h_beforeMany : Int32) (y_h_found : Int32) (y_h_lots : Int32) (y_h_rowMany : Int32) (p_h_many : Int32) (p_h_odd : Int32) (p_h_step : Int32) (p_h_bag : Int32) (p_h_strokes : Int32) (p_h_gave : Int32) (p_h_threw : Int32) (p_h_isKeeping : Int32) (p_h_cursor : Int32) (p_h_kind : (Nat → Int32)) (p_h_sweets : (Nat → Int32)) (p_h_gives : (Nat → Int32)) (p_h_kept : (Nat → Int32)) : va_W := [(a_h, .inr (7, [.ref a_h_refused, .ref a_h_kind, .ref a_h_sweets, .ref a_h_gives, .int p_h_many, .int p_h_odd, .int p_h_step, .int p_h_bag, .int p_h_strokes, .int p_h_gave, .int p_h_threw, .ref a_h_tape, .ref a_h_letter, .ref a_h_letterAt, .ref a_h_one, .ref a_h_two, .int y_h_taped, .int y_h_at, .int y_h_statements, .ref a_h_kept, .int y_h_hasImage, .int p_h_isKeeping, .int p_h_cursor, .ref a_h_trail, .ref a_h_crumb, .ref a_h_nextCrumb, .ref a_h_goal, .ref a_h_start, .int y_h_beforeMany, .int y_h_found, .ref a_h_sits, .ref a_h_bestSits, .ref a_h_without, .int y_h_lots, .ref a_h_row, .int y_h_rowMany])), (a_h_kind, .inl (cI, (8, .inl p_h_kind))), (a_h_sweets, .inl (cI, (8, .inl p_h_sweets))), (a_h_gives, .inl (cI, (8, .inl p_h_gives))), (a_h_kept, .inl (cI, (90, .inl p_h_kept)))]
theorem d_M_mends_0 : decode b_M_mends 0 = .ok (.aload_n 0, 1) := by decide +kernel
theorem d_M_mends_1 : decode b_M_mends 1 = .ok (.getfield 16, 3) := by decide +kernel
theorem d_M_mends_4 : decode b_M_mends 4 = .ok (.iload_n 1, 1) := by decide +kernel
theorem d_M_mends_5 : decode b_M_mends 5 = .ok (.iaload, 1) := by decide +kernel
theorem d_M_mends_6 : decode b_M_mends 6 = .ok (.iconst 2, 1) := by decide +kernel
theorem d_M_mends_7 : decode b_M_mends 7 = .ok (.irem, 1) := by decide +kernel
theorem d_M_mends_8 : decode b_M_mends 8 = .ok (.ifCond .ne 4, 3) := by decide +kernel
theorem d_M_mends_11 : decode b_M_mends 11 = .ok (.return_, 1) := by decide +kernel
theorem d_M_mends_12 : decode b_M_mends 12 = .ok (.aload_n 0, 1) := by decide +kernel
theorem d_M_mends_13 : decode b_M_mends 13 = .ok (.getfield 112, 3) := by decide +kernel
theorem d_M_mends_16 : decode b_M_mends 16 = .ok (.ifCond .ne 47, 3) := by decide +kernel
theorem d_M_mends_19 : decode b_M_mends 19 = .ok (.aload_n 0, 1) := by decide +kernel
theorem d_M_mends_20 : decode b_M_mends 20 = .ok (.getfield 26, 3) := by decide +kernel
theorem d_M_mends_23 : decode b_M_mends 23 = .ok (.ifCond .le 40, 3) := by decide +kernel
theorem d_M_mends_26 : decode b_M_mends 26 = .ok (.aload_n 0, 1) := by decide +kernel
theorem d_M_mends_27 : decode b_M_mends 27 = .ok (.getfield 16, 3) := by decide +kernel
theorem d_M_mends_30 : decode b_M_mends 30 = .ok (.iload_n 1, 1) := by decide +kernel
theorem d_M_mends_31 : decode b_M_mends 31 = .ok (.aload_n 0, 1) := by decide +kernel
theorem d_M_mends_32 : decode b_M_mends 32 = .ok (.getfield 16, 3) := by decide +kernel
theorem d_M_mends_35 : decode b_M_mends 35 = .ok (.iload_n 1, 1) := by decide +kernel
theorem d_M_mends_36 : decode b_M_mends 36 = .ok (.iaload, 1) := by decide +kernel
theorem d_M_mends_37 : decode b_M_mends 37 = .ok (.iconst 1, 1) := by decide +kernel
theorem d_M_mends_38 : decode b_M_mends 38 = .ok (.iadd, 1) := by decide +kernel
theorem d_M_mends_39 : decode b_M_mends 39 = .ok (.invokestatic 152, 3) := by decide +kernel
theorem d_M_mends_42 : decode b_M_mends 42 = .ok (.iastore, 1) := by decide +kernel
theorem d_M_mends_43 : decode b_M_mends 43 = .ok (.aload_n 0, 1) := by decide +kernel
theorem d_M_mends_44 : decode b_M_mends 44 = .ok (.dup, 1) := by decide +kernel
theorem d_M_mends_45 : decode b_M_mends 45 = .ok (.getfield 26, 3) := by decide +kernel
theorem d_M_mends_48 : decode b_M_mends 48 = .ok (.iconst 1, 1) := by decide +kernel
theorem d_M_mends_49 : decode b_M_mends 49 = .ok (.isub, 1) := by decide +kernel
theorem d_M_mends_50 : decode b_M_mends 50 = .ok (.putfield 26, 3) := by decide +kernel
theorem d_M_mends_53 : decode b_M_mends 53 = .ok (.aload_n 0, 1) := by decide +kernel
theorem d_M_mends_54 : decode b_M_mends 54 = .ok (.dup, 1) := by decide +kernel
theorem d_M_mends_55 : decode b_M_mends 55 = .ok (.getfield 140, 3) := by decide +kernel
theorem d_M_mends_58 : decode b_M_mends 58 = .ok (.iconst 1, 1) := by decide +kernel
theorem d_M_mends_59 : decode b_M_mends 59 = .ok (.iadd, 1) := by decide +kernel
theorem d_M_mends_60 : decode b_M_mends 60 = .ok (.putfield 140, 3) := by decide +kernel
theorem d_M_mends_63 : decode b_M_mends 63 = .ok (.aload_n 0, 1) := by decide +kernel
theorem d_M_mends_64 : decode b_M_mends 64 = .ok (.getfield 112, 3) := by decide +kernel
theorem d_M_mends_67 : decode b_M_mends 67 = .ok (.iconst 1, 1) := by decide +kernel
theorem d_M_mends_68 : decode b_M_mends 68 = .ok (.if_icmp .ne 23, 3) := by decide +kernel
theorem d_M_mends_71 : decode b_M_mends 71 = .ok (.aload_n 0, 1) := by decide +kernel
theorem d_M_mends_72 : decode b_M_mends 72 = .ok (.getfield 16, 3) := by decide +kernel
theorem d_M_mends_75 : decode b_M_mends 75 = .ok (.iload_n 1, 1) := by decide +kernel
theorem d_M_mends_76 : decode b_M_mends 76 = .ok (.dup2, 1) := by decide +kernel
theorem d_M_mends_77 : decode b_M_mends 77 = .ok (.iaload, 1) := by decide +kernel
theorem d_M_mends_78 : decode b_M_mends 78 = .ok (.iconst 1, 1) := by decide +kernel
theorem d_M_mends_79 : decode b_M_mends 79 = .ok (.isub, 1) := by decide +kernel
theorem d_M_mends_80 : decode b_M_mends 80 = .ok (.iastore, 1) := by decide +kernel
theorem d_M_mends_81 : decode b_M_mends 81 = .ok (.aload_n 0, 1) := by decide +kernel
theorem d_M_mends_82 : decode b_M_mends 82 = .ok (.dup, 1) := by decide +kernel
theorem d_M_mends_83 : decode b_M_mends 83 = .ok (.getfield 143, 3) := by decide +kernel
theorem d_M_mends_86 : decode b_M_mends 86 = .ok (.iconst 1, 1) := by decide +kernel
theorem d_M_mends_87 : decode b_M_mends 87 = .ok (.iadd, 1) := by decide +kernel
theorem d_M_mends_88 : decode b_M_mends 88 = .ok (.putfield 143, 3) := by decide +kernel
theorem d_M_mends_91 : decode b_M_mends 91 = .ok (.return_, 1) := by decide +kernel
set_option maxHeartbeats 4000000 in
set_option maxRecDepth 100000 in
theorem c_M_mends {l : Launch} {D : va_G} {cI cJ cC : ClassId} (a_h a_h_refused a_h_kind a_h_sweets a_h_gives a_h_tape a_h_letter a_h_letterAt a_h_one a_h_two a_h_kept a_h_trail a_h_crumb a_h_nextCrumb a_h_goal a_h_start a_h_sits a_h_bestSits a_h_without a_h_row : Nat) (y_h_taped : Int32) (y_h_at : Int32) (y_h_statements : Int32) (y_h_hasImage : Int32) (y_h_beforeMany : Int32) (y_h_found : Int32) (y_h_lots : Int32) (y_h_rowMany : Int32) {z_h_T : MT} {x1 : Int32} {q : MT} (hf : f_M_mends z_h_T x1 = some q) : xV l y_M_mends b_M_mends 2 1 20 D (tyK cI cJ cC) xE0 [.ref a_h, .int x1] (w_M_mends cI cJ cC a_h a_h_refused a_h_kind a_h_sweets a_h_gives a_h_tape a_h_letter a_h_letterAt a_h_one a_h_two a_h_kept a_h_trail a_h_crumb a_h_nextCrumb a_h_goal a_h_start a_h_sits a_h_bestSits a_h_without a_h_row y_h_taped y_h_at y_h_statements y_h_hasImage y_h_beforeMany y_h_found y_h_lots y_h_rowMany (m_many z_h_T) (m_odd z_h_T) (m_step z_h_T) (m_bag z_h_T) (m_strokes z_h_T) (m_gave z_h_T) (m_threw z_h_T) (m_isKeeping z_h_T) (m_cursor z_h_T) (m_kind z_h_T) (m_sweets z_h_T) (m_gives z_h_T) (m_kept z_h_T)) (w_M_mends cI cJ cC a_h a_h_refused a_h_kind a_h_sweets a_h_gives a_h_tape a_h_letter a_h_letterAt a_h_one a_h_two a_h_kept a_h_trail a_h_crumb a_h_nextCrumb a_h_goal a_h_start a_h_sits a_h_bestSits a_h_without a_h_row y_h_taped y_h_at y_h_statements y_h_hasImage y_h_beforeMany y_h_found y_h_lots y_h_rowMany (m_many q) (m_odd q) (m_step q) (m_bag q) (m_strokes q) (m_gave q) (m_threw q) (m_isKeeping q) (m_cursor q) (m_kind q) (m_sweets q) (m_gives q) (m_kept q)) := by
  refine xV_of (by decide) (Nat.le_of_ble_eq_true rfl) ?_
  intro p e s m args below meth c A Q hx hb hml hown hT hA hP hD hK hS hE hret ls hl
  have hown : s.vm.findClass R_M = some m.cls := hown
  have hl : lv_has ls 2 [(0, .ref a_h), (1, .int x1)] := hl
  unfold f_M_mends at hf
  refine lv_aload_n hx hb d_M_mends_0 rfl (lv_at hl 0 rfl) ?_
  refine va_get hx hb hT i_M hown hK hP 0 rfl rfl 2 (Nat.le_of_ble_eq_true rfl) (hT _ k_760) (fun _ h => h) rfl d_M_mends_1 ?_
  refine lv_iload_n hx hb d_M_mends_4 rfl (lv_at hl 1 rfl) ?_
  obtain ⟨c1, hf⟩ := io_n hf
  refine x_iald hx hb hK hP 2 0 rfl rfl (j := x1.toNatClampNeg) rfl c1 d_M_mends_5 ?_
  refine lv_iconst (v := 2) hx hb d_M_mends_6 (by decide) ?_
  refine x_irem hx hb d_M_mends_7 (by decide) ?_
  refine lv_if_ne (tgt := 12) hx hb d_M_mends_8 (by decide) (fun c2 => ?_) (fun c2 => ?_)
  · have hf := io_f hf c2
    refine lv_aload_n hx hb d_M_mends_12 rfl (lv_at hl 0 rfl) ?_
    refine va_get hx hb hT i_M hown hK hP 0 rfl rfl 5 (Nat.le_of_ble_eq_true rfl) (hT _ k_763) (fun _ h => h) rfl d_M_mends_13 ?_
    refine lv_if_ne (tgt := 63) hx hb d_M_mends_16 (by decide) (fun c3 => ?_) (fun c3 => ?_)
    · have hf := io_f hf c3
      refine lv_aload_n hx hb d_M_mends_63 rfl (lv_at hl 0 rfl) ?_
      refine va_get hx hb hT i_M hown hK hP 0 rfl rfl 5 (Nat.le_of_ble_eq_true rfl) (hT _ k_763) (fun _ h => h) rfl d_M_mends_64 ?_
      refine lv_iconst (v := 1) hx hb d_M_mends_67 (by decide) ?_
      refine lv_icmp_ne (tgt := 91) hx hb d_M_mends_68 (by decide) (fun c4 => ?_) (fun c4 => ?_)
      · have hf := io_f hf c4
        have hq := Option.some.inj hf
        subst hq
        exact hret _ _ _ _ d_M_mends_91 hP hD hS
      · have hf := io_t hf c4
        refine lv_aload_n hx hb d_M_mends_71 rfl (lv_at hl 0 rfl) ?_
        refine va_get hx hb hT i_M hown hK hP 0 rfl rfl 2 (Nat.le_of_ble_eq_true rfl) (hT _ k_760) (fun _ h => h) rfl d_M_mends_72 ?_
        refine lv_iload_n hx hb d_M_mends_75 rfl (lv_at hl 1 rfl) ?_
        refine lv_dup2_11 hx hb d_M_mends_76 rfl rfl ?_
        refine x_iald hx hb hK hP 2 0 rfl rfl (j := x1.toNatClampNeg) rfl c1 d_M_mends_77 ?_
        refine lv_iconst (v := 1) hx hb d_M_mends_78 (by decide) ?_
        refine lv_isub hx hb d_M_mends_79 ?_
        refine x_iast hx hb hK hP hD hS 2 0 rfl rfl (j := x1.toNatClampNeg) rfl c1 d_M_mends_80 (fun H locs hP hD hS => ?_)
        have hP : va_P D classes (w_M_mends cI cJ cC a_h a_h_refused a_h_kind a_h_sweets a_h_gives a_h_tape a_h_letter a_h_letterAt a_h_one a_h_two a_h_kept a_h_trail a_h_crumb a_h_nextCrumb a_h_goal a_h_start a_h_sits a_h_bestSits a_h_without a_h_row y_h_taped y_h_at y_h_statements y_h_hasImage y_h_beforeMany y_h_found y_h_lots y_h_rowMany (m_many z_h_T) (m_odd z_h_T) (m_step z_h_T) (m_bag z_h_T) (m_strokes z_h_T) (m_gave z_h_T) (m_threw z_h_T) (m_isKeeping z_h_T) (m_cursor z_h_T) (m_kind z_h_T) (upd (m_sweets z_h_T) x1.toNatClampNeg (((m_sweets z_h_T) x1.toNatClampNeg) - 1)) (m_gives z_h_T) (m_kept z_h_T)) H := hP
        have hD : va_D A (w_M_mends cI cJ cC a_h a_h_refused a_h_kind a_h_sweets a_h_gives a_h_tape a_h_letter a_h_letterAt a_h_one a_h_two a_h_kept a_h_trail a_h_crumb a_h_nextCrumb a_h_goal a_h_start a_h_sits a_h_bestSits a_h_without a_h_row y_h_taped y_h_at y_h_statements y_h_hasImage y_h_beforeMany y_h_found y_h_lots y_h_rowMany (m_many z_h_T) (m_odd z_h_T) (m_step z_h_T) (m_bag z_h_T) (m_strokes z_h_T) (m_gave z_h_T) (m_threw z_h_T) (m_isKeeping z_h_T) (m_cursor z_h_T) (m_kind z_h_T) (upd (m_sweets z_h_T) x1.toNatClampNeg (((m_sweets z_h_T) x1.toNatClampNeg) - 1)) (m_gives z_h_T) (m_kept z_h_T)) := hD
        refine lv_aload_n hx hb d_M_mends_81 rfl (lv_at hl 0 rfl) ?_
        refine lv_dup hx hb d_M_mends_82 rfl ?_
        refine va_get hx hb hT i_M hown hK hP 0 rfl rfl 10 (Nat.le_of_ble_eq_true rfl) (hT _ k_768) (fun _ h => h) rfl d_M_mends_83 ?_
        refine lv_iconst (v := 1) hx hb d_M_mends_86 (by decide) ?_
        refine lv_iadd hx hb d_M_mends_87 ?_
        refine va_put (ty := .int) hx hb hT i_M t_M t_M_ok n_M hown hK hP hD hS 0 rfl rfl 10 (Nat.le_of_ble_eq_true rfl) (hT _ k_768) (fun _ h => h) rfl rfl rfl rfl (Nat.le_of_ble_eq_true rfl) d_M_mends_88 (fun H locs hP hD hS => ?_)
        have hP : va_P D classes (w_M_mends cI cJ cC a_h a_h_refused a_h_kind a_h_sweets a_h_gives a_h_tape a_h_letter a_h_letterAt a_h_one a_h_two a_h_kept a_h_trail a_h_crumb a_h_nextCrumb a_h_goal a_h_start a_h_sits a_h_bestSits a_h_without a_h_row y_h_taped y_h_at y_h_statements y_h_hasImage y_h_beforeMany y_h_found y_h_lots y_h_rowMany (m_many z_h_T) (m_odd z_h_T) (m_step z_h_T) (m_bag z_h_T) (m_strokes z_h_T) (m_gave z_h_T) ((m_threw z_h_T) + 1) (m_isKeeping z_h_T) (m_cursor z_h_T) (m_kind z_h_T) (upd (m_sweets z_h_T) x1.toNatClampNeg (((m_sweets z_h_T) x1.toNatClampNeg) - 1)) (m_gives z_h_T) (m_kept z_h_T)) H := hP
        have hD : va_D A (w_M_mends cI cJ cC a_h a_h_refused a_h_kind a_h_sweets a_h_gives a_h_tape a_h_letter a_h_letterAt a_h_one a_h_two a_h_kept a_h_trail a_h_crumb a_h_nextCrumb a_h_goal a_h_start a_h_sits a_h_bestSits a_h_without a_h_row y_h_taped y_h_at y_h_statements y_h_hasImage y_h_beforeMany y_h_found y_h_lots y_h_rowMany (m_many z_h_T) (m_odd z_h_T) (m_step z_h_T) (m_bag z_h_T) (m_strokes z_h_T) (m_gave z_h_T) ((m_threw z_h_T) + 1) (m_isKeeping z_h_T) (m_cursor z_h_T) (m_kind z_h_T) (upd (m_sweets z_h_T) x1.toNatClampNeg (((m_sweets z_h_T) x1.toNatClampNeg) - 1)) (m_gives z_h_T) (m_kept z_h_T)) := hD
        have hq := Option.some.inj hf
        subst hq
        exact hret _ _ _ _ d_M_mends_91 hP hD hS
    · have hf := io_t hf c3
      refine lv_aload_n hx hb d_M_mends_19 rfl (lv_at hl 0 rfl) ?_
      refine va_get hx hb hT i_M hown hK hP 0 rfl rfl 7 (Nat.le_of_ble_eq_true rfl) (hT _ k_765) (fun _ h => h) rfl d_M_mends_20 ?_
      refine lv_if_le (tgt := 63) hx hb d_M_mends_23 (by decide) (fun c5 => ?_) (fun c5 => ?_)
      · have hf := io_t hf c5
        refine lv_aload_n hx hb d_M_mends_63 rfl (lv_at hl 0 rfl) ?_
        refine va_get hx hb hT i_M hown hK hP 0 rfl rfl 5 (Nat.le_of_ble_eq_true rfl) (hT _ k_763) (fun _ h => h) rfl d_M_mends_64 ?_
        refine lv_iconst (v := 1) hx hb d_M_mends_67 (by decide) ?_
        refine lv_icmp_ne (tgt := 91) hx hb d_M_mends_68 (by decide) (fun _ => ?_) (fun c => absurd c (show ¬ (m_odd z_h_T) = 1 from fun z => absurd (c3.symm.trans z) (by decide)))
        have hq := Option.some.inj hf
        subst hq
        exact hret _ _ _ _ d_M_mends_91 hP hD hS
      · have hf := io_f hf c5
        refine lv_aload_n hx hb d_M_mends_26 rfl (lv_at hl 0 rfl) ?_
        refine va_get hx hb hT i_M hown hK hP 0 rfl rfl 2 (Nat.le_of_ble_eq_true rfl) (hT _ k_760) (fun _ h => h) rfl d_M_mends_27 ?_
        refine lv_iload_n hx hb d_M_mends_30 rfl (lv_at hl 1 rfl) ?_
        refine lv_aload_n hx hb d_M_mends_31 rfl (lv_at hl 0 rfl) ?_
        refine va_get hx hb hT i_M hown hK hP 0 rfl rfl 2 (Nat.le_of_ble_eq_true rfl) (hT _ k_760) (fun _ h => h) rfl d_M_mends_32 ?_
        refine lv_iload_n hx hb d_M_mends_35 rfl (lv_at hl 1 rfl) ?_
        refine x_iald hx hb hK hP 2 0 rfl rfl (j := x1.toNatClampNeg) rfl c1 d_M_mends_36 ?_
        refine lv_iconst (v := 1) hx hb d_M_mends_37 (by decide) ?_
        refine lv_iadd hx hb d_M_mends_38 ?_
        obtain ⟨q6, hq6, hf⟩ := io_b hf
        refine xcSI (wc := []) (wc' := []) (ws' := (w_M_mends cI cJ cC a_h a_h_refused a_h_kind a_h_sweets a_h_gives a_h_tape a_h_letter a_h_letterAt a_h_one a_h_two a_h_kept a_h_trail a_h_crumb a_h_nextCrumb a_h_goal a_h_start a_h_sits a_h_bestSits a_h_without a_h_row y_h_taped y_h_at y_h_statements y_h_hasImage y_h_beforeMany y_h_found y_h_lots y_h_rowMany (m_many z_h_T) (m_odd z_h_T) (m_step z_h_T) (m_bag z_h_T) (m_strokes z_h_T) (m_gave z_h_T) (m_threw z_h_T) (m_isKeeping z_h_T) (m_cursor z_h_T) (m_kind z_h_T) (m_sweets z_h_T) (m_gives z_h_T) (m_kept z_h_T))) (As := [.int (((m_sweets z_h_T) x1.toNatClampNeg) + 1)]) (rest := [.int x1, .ref a_h_sweets]) hx hb hml hown hT (c_M_held hq6) k_976 k_977 k_8 k_978 hd_M_held ⟨Nat.le_of_ble_eq_true rfl, Nat.le_of_ble_eq_true rfl⟩ xE0_ok trivial hA hK hP hD hS [] [0, 1, 2, 3, 4] [0, 1, 2, 3, 4] rfl rfl rfl rfl rfl rfl rfl hl.1 rfl (Nat.le_of_ble_eq_true rfl) ⟨Nat.zero_le _, Nat.zero_le _⟩ d_M_mends_39 (fun H locs hP hD hS => ?_)
        refine x_iast hx hb hK hP hD hS 2 0 rfl rfl (j := x1.toNatClampNeg) rfl c1 d_M_mends_42 (fun H locs hP hD hS => ?_)
        have hP : va_P D classes (w_M_mends cI cJ cC a_h a_h_refused a_h_kind a_h_sweets a_h_gives a_h_tape a_h_letter a_h_letterAt a_h_one a_h_two a_h_kept a_h_trail a_h_crumb a_h_nextCrumb a_h_goal a_h_start a_h_sits a_h_bestSits a_h_without a_h_row y_h_taped y_h_at y_h_statements y_h_hasImage y_h_beforeMany y_h_found y_h_lots y_h_rowMany (m_many z_h_T) (m_odd z_h_T) (m_step z_h_T) (m_bag z_h_T) (m_strokes z_h_T) (m_gave z_h_T) (m_threw z_h_T) (m_isKeeping z_h_T) (m_cursor z_h_T) (m_kind z_h_T) (upd (m_sweets z_h_T) x1.toNatClampNeg q6) (m_gives z_h_T) (m_kept z_h_T)) H := hP
        have hD : va_D A (w_M_mends cI cJ cC a_h a_h_refused a_h_kind a_h_sweets a_h_gives a_h_tape a_h_letter a_h_letterAt a_h_one a_h_two a_h_kept a_h_trail a_h_crumb a_h_nextCrumb a_h_goal a_h_start a_h_sits a_h_bestSits a_h_without a_h_row y_h_taped y_h_at y_h_statements y_h_hasImage y_h_beforeMany y_h_found y_h_lots y_h_rowMany (m_many z_h_T) (m_odd z_h_T) (m_step z_h_T) (m_bag z_h_T) (m_strokes z_h_T) (m_gave z_h_T) (m_threw z_h_T) (m_isKeeping z_h_T) (m_cursor z_h_T) (m_kind z_h_T) (upd (m_sweets z_h_T) x1.toNatClampNeg q6) (m_gives z_h_T) (m_kept z_h_T)) := hD
        refine lv_aload_n hx hb d_M_mends_43 rfl (lv_at hl 0 rfl) ?_
        refine lv_dup hx hb d_M_mends_44 rfl ?_
        refine va_get hx hb hT i_M hown hK hP 0 rfl rfl 7 (Nat.le_of_ble_eq_true rfl) (hT _ k_765) (fun _ h => h) rfl d_M_mends_45 ?_
        refine lv_iconst (v := 1) hx hb d_M_mends_48 (by decide) ?_
        refine lv_isub hx hb d_M_mends_49 ?_
        refine va_put (ty := .int) hx hb hT i_M t_M t_M_ok n_M hown hK hP hD hS 0 rfl rfl 7 (Nat.le_of_ble_eq_true rfl) (hT _ k_765) (fun _ h => h) rfl rfl rfl rfl (Nat.le_of_ble_eq_true rfl) d_M_mends_50 (fun H locs hP hD hS => ?_)
        have hP : va_P D classes (w_M_mends cI cJ cC a_h a_h_refused a_h_kind a_h_sweets a_h_gives a_h_tape a_h_letter a_h_letterAt a_h_one a_h_two a_h_kept a_h_trail a_h_crumb a_h_nextCrumb a_h_goal a_h_start a_h_sits a_h_bestSits a_h_without a_h_row y_h_taped y_h_at y_h_statements y_h_hasImage y_h_beforeMany y_h_found y_h_lots y_h_rowMany (m_many z_h_T) (m_odd z_h_T) (m_step z_h_T) ((m_bag z_h_T) - 1) (m_strokes z_h_T) (m_gave z_h_T) (m_threw z_h_T) (m_isKeeping z_h_T) (m_cursor z_h_T) (m_kind z_h_T) (upd (m_sweets z_h_T) x1.toNatClampNeg q6) (m_gives z_h_T) (m_kept z_h_T)) H := hP
        have hD : va_D A (w_M_mends cI cJ cC a_h a_h_refused a_h_kind a_h_sweets a_h_gives a_h_tape a_h_letter a_h_letterAt a_h_one a_h_two a_h_kept a_h_trail a_h_crumb a_h_nextCrumb a_h_goal a_h_start a_h_sits a_h_bestSits a_h_without a_h_row y_h_taped y_h_at y_h_statements y_h_hasImage y_h_beforeMany y_h_found y_h_lots y_h_rowMany (m_many z_h_T) (m_odd z_h_T) (m_step z_h_T) ((m_bag z_h_T) - 1) (m_strokes z_h_T) (m_gave z_h_T) (m_threw z_h_T) (m_isKeeping z_h_T) (m_cursor z_h_T) (m_kind z_h_T) (upd (m_sweets z_h_T) x1.toNatClampNeg q6) (m_gives z_h_T) (m_kept z_h_T)) := hD
        refine lv_aload_n hx hb d_M_mends_53 rfl (lv_at hl 0 rfl) ?_
        refine lv_dup hx hb d_M_mends_54 rfl ?_
        refine va_get hx hb hT i_M hown hK hP 0 rfl rfl 9 (Nat.le_of_ble_eq_true rfl) (hT _ k_767) (fun _ h => h) rfl d_M_mends_55 ?_
        refine lv_iconst (v := 1) hx hb d_M_mends_58 (by decide) ?_
        refine lv_iadd hx hb d_M_mends_59 ?_
        refine va_put (ty := .int) hx hb hT i_M t_M t_M_ok n_M hown hK hP hD hS 0 rfl rfl 9 (Nat.le_of_ble_eq_true rfl) (hT _ k_767) (fun _ h => h) rfl rfl rfl rfl (Nat.le_of_ble_eq_true rfl) d_M_mends_60 (fun H locs hP hD hS => ?_)
        have hP : va_P D classes (w_M_mends cI cJ cC a_h a_h_refused a_h_kind a_h_sweets a_h_gives a_h_tape a_h_letter a_h_letterAt a_h_one a_h_two a_h_kept a_h_trail a_h_crumb a_h_nextCrumb a_h_goal a_h_start a_h_sits a_h_bestSits a_h_without a_h_row y_h_taped y_h_at y_h_statements y_h_hasImage y_h_beforeMany y_h_found y_h_lots y_h_rowMany (m_many z_h_T) (m_odd z_h_T) (m_step z_h_T) ((m_bag z_h_T) - 1) (m_strokes z_h_T) ((m_gave z_h_T) + 1) (m_threw z_h_T) (m_isKeeping z_h_T) (m_cursor z_h_T) (m_kind z_h_T) (upd (m_sweets z_h_T) x1.toNatClampNeg q6) (m_gives z_h_T) (m_kept z_h_T)) H := hP
        have hD : va_D A (w_M_mends cI cJ cC a_h a_h_refused a_h_kind a_h_sweets a_h_gives a_h_tape a_h_letter a_h_letterAt a_h_one a_h_two a_h_kept a_h_trail a_h_crumb a_h_nextCrumb a_h_goal a_h_start a_h_sits a_h_bestSits a_h_without a_h_row y_h_taped y_h_at y_h_statements y_h_hasImage y_h_beforeMany y_h_found y_h_lots y_h_rowMany (m_many z_h_T) (m_odd z_h_T) (m_step z_h_T) ((m_bag z_h_T) - 1) (m_strokes z_h_T) ((m_gave z_h_T) + 1) (m_threw z_h_T) (m_isKeeping z_h_T) (m_cursor z_h_T) (m_kind z_h_T) (upd (m_sweets z_h_T) x1.toNatClampNeg q6) (m_gives z_h_T) (m_kept z_h_T)) := hD
        refine lv_aload_n hx hb d_M_mends_63 rfl (lv_at hl 0 rfl) ?_
        refine va_get hx hb hT i_M hown hK hP 0 rfl rfl 5 (Nat.le_of_ble_eq_true rfl) (hT _ k_763) (fun _ h => h) rfl d_M_mends_64 ?_
        refine lv_iconst (v := 1) hx hb d_M_mends_67 (by decide) ?_
        refine lv_icmp_ne (tgt := 91) hx hb d_M_mends_68 (by decide) (fun _ => ?_) (fun c => absurd c (show ¬ (m_odd z_h_T) = 1 from fun z => absurd (c3.symm.trans z) (by decide)))
        have hq := Option.some.inj hf
        subst hq
        exact hret _ _ _ _ d_M_mends_91 hP hD hS
  · have hf := io_t hf c2
    have hq := Option.some.inj hf
    subst hq
    exact hret _ _ _ _ d_M_mends_11 hP hD hS
abbrev w_M_goesOnce (cI cJ cC : ClassId) (a_h a_h_refused a_h_kind a_h_sweets a_h_gives a_h_tape a_h_letter a_h_letterAt a_h_one a_h_two a_h_kept a_h_trail a_h_crumb a_h_nextCrumb a_h_goal a_h_start a_h_sits a_h_bestSits a_h_without a_h_row : Nat) (y_h_taped : Int32) (y_h_at : Int32) (y_h_statements : Int32) (y_h_hasImage : Int32) (y_h_beforeMany : Int32) (y_h_found : Int32) (y_h_lots : Int32) (y_h_rowMany : Int32) (p_h_many : Int32) (p_h_odd : Int32) (p_h_step : Int32) (p_h_bag : Int32) (p_h_strokes : Int32) (p_h_gave : Int32) (p_h_threw : Int32) (p_h_isKeeping : Int32) (p_h_cursor : Int32) (p_h_kind : (Nat → Int32)) (p_h_sweets : (Nat → Int32)) (p_h_gives : (Nat → Int32)) (p_h_kept : (Nat → Int32)) : va_W := [(a_h, .inr (7, [.ref a_h_refused, .ref a_h_kind, .ref a_h_sweets, .ref a_h_gives, .int p_h_many, .int p_h_odd, .int p_h_step, .int p_h_bag, .int p_h_strokes, .int p_h_gave, .int p_h_threw, .ref a_h_tape, .ref a_h_letter, .ref a_h_letterAt, .ref a_h_one, .ref a_h_two, .int y_h_taped, .int y_h_at, .int y_h_statements, .ref a_h_kept, .int y_h_hasImage, .int p_h_isKeeping, .int p_h_cursor, .ref a_h_trail, .ref a_h_crumb, .ref a_h_nextCrumb, .ref a_h_goal, .ref a_h_start, .int y_h_beforeMany, .int y_h_found, .ref a_h_sits, .ref a_h_bestSits, .ref a_h_without, .int y_h_lots, .ref a_h_row, .int y_h_rowMany])), (a_h_kind, .inl (cI, (8, .inl p_h_kind))), (a_h_sweets, .inl (cI, (8, .inl p_h_sweets))), (a_h_gives, .inl (cI, (8, .inl p_h_gives))), (a_h_kept, .inl (cI, (90, .inl p_h_kept)))]
theorem d_M_goesOnce_0 : decode b_M_goesOnce 0 = .ok (.iconst 0, 1) := by decide +kernel
theorem d_M_goesOnce_1 : decode b_M_goesOnce 1 = .ok (.istore_n 1, 1) := by decide +kernel
theorem d_M_goesOnce_2 : decode b_M_goesOnce 2 = .ok (.iload_n 1, 1) := by decide +kernel
theorem d_M_goesOnce_3 : decode b_M_goesOnce 3 = .ok (.aload_n 0, 1) := by decide +kernel
theorem d_M_goesOnce_4 : decode b_M_goesOnce 4 = .ok (.getfield 78, 3) := by decide +kernel
theorem d_M_goesOnce_7 : decode b_M_goesOnce 7 = .ok (.if_icmp .ge 20, 3) := by decide +kernel
theorem d_M_goesOnce_10 : decode b_M_goesOnce 10 = .ok (.aload_n 0, 1) := by decide +kernel
theorem d_M_goesOnce_11 : decode b_M_goesOnce 11 = .ok (.getfield 19, 3) := by decide +kernel
theorem d_M_goesOnce_14 : decode b_M_goesOnce 14 = .ok (.iload_n 1, 1) := by decide +kernel
theorem d_M_goesOnce_15 : decode b_M_goesOnce 15 = .ok (.aload_n 0, 1) := by decide +kernel
theorem d_M_goesOnce_16 : decode b_M_goesOnce 16 = .ok (.iload_n 1, 1) := by decide +kernel
theorem d_M_goesOnce_17 : decode b_M_goesOnce 17 = .ok (.invokevirtual 155, 3) := by decide +kernel
theorem d_M_goesOnce_20 : decode b_M_goesOnce 20 = .ok (.iastore, 1) := by decide +kernel
theorem d_M_goesOnce_21 : decode b_M_goesOnce 21 = .ok (.iinc 1 1, 3) := by decide +kernel
theorem d_M_goesOnce_24 : decode b_M_goesOnce 24 = .ok (.goto (-22), 3) := by decide +kernel
theorem d_M_goesOnce_27 : decode b_M_goesOnce 27 = .ok (.iconst 0, 1) := by decide +kernel
theorem d_M_goesOnce_28 : decode b_M_goesOnce 28 = .ok (.istore_n 1, 1) := by decide +kernel
theorem d_M_goesOnce_29 : decode b_M_goesOnce 29 = .ok (.iload_n 1, 1) := by decide +kernel
theorem d_M_goesOnce_30 : decode b_M_goesOnce 30 = .ok (.aload_n 0, 1) := by decide +kernel
theorem d_M_goesOnce_31 : decode b_M_goesOnce 31 = .ok (.getfield 78, 3) := by decide +kernel
theorem d_M_goesOnce_34 : decode b_M_goesOnce 34 = .ok (.if_icmp .ge 93, 3) := by decide +kernel
theorem d_M_goesOnce_37 : decode b_M_goesOnce 37 = .ok (.aload_n 0, 1) := by decide +kernel
theorem d_M_goesOnce_38 : decode b_M_goesOnce 38 = .ok (.getfield 16, 3) := by decide +kernel
theorem d_M_goesOnce_41 : decode b_M_goesOnce 41 = .ok (.iload_n 1, 1) := by decide +kernel
theorem d_M_goesOnce_42 : decode b_M_goesOnce 42 = .ok (.dup2, 1) := by decide +kernel
theorem d_M_goesOnce_43 : decode b_M_goesOnce 43 = .ok (.iaload, 1) := by decide +kernel
theorem d_M_goesOnce_44 : decode b_M_goesOnce 44 = .ok (.aload_n 0, 1) := by decide +kernel
theorem d_M_goesOnce_45 : decode b_M_goesOnce 45 = .ok (.getfield 13, 3) := by decide +kernel
theorem d_M_goesOnce_48 : decode b_M_goesOnce 48 = .ok (.iload_n 1, 1) := by decide +kernel
theorem d_M_goesOnce_49 : decode b_M_goesOnce 49 = .ok (.iaload, 1) := by decide +kernel
theorem d_M_goesOnce_50 : decode b_M_goesOnce 50 = .ok (.iconst 1, 1) := by decide +kernel
theorem d_M_goesOnce_51 : decode b_M_goesOnce 51 = .ok (.if_icmp .ne 14, 3) := by decide +kernel
theorem d_M_goesOnce_54 : decode b_M_goesOnce 54 = .ok (.iconst 2, 1) := by decide +kernel
theorem d_M_goesOnce_55 : decode b_M_goesOnce 55 = .ok (.aload_n 0, 1) := by decide +kernel
theorem d_M_goesOnce_56 : decode b_M_goesOnce 56 = .ok (.getfield 19, 3) := by decide +kernel
theorem d_M_goesOnce_59 : decode b_M_goesOnce 59 = .ok (.iload_n 1, 1) := by decide +kernel
theorem d_M_goesOnce_60 : decode b_M_goesOnce 60 = .ok (.iaload, 1) := by decide +kernel
theorem d_M_goesOnce_61 : decode b_M_goesOnce 61 = .ok (.imul, 1) := by decide +kernel
theorem d_M_goesOnce_62 : decode b_M_goesOnce 62 = .ok (.goto 9, 3) := by decide +kernel
theorem d_M_goesOnce_65 : decode b_M_goesOnce 65 = .ok (.aload_n 0, 1) := by decide +kernel
theorem d_M_goesOnce_66 : decode b_M_goesOnce 66 = .ok (.getfield 19, 3) := by decide +kernel
theorem d_M_goesOnce_69 : decode b_M_goesOnce 69 = .ok (.iload_n 1, 1) := by decide +kernel
theorem d_M_goesOnce_70 : decode b_M_goesOnce 70 = .ok (.iaload, 1) := by decide +kernel
theorem d_M_goesOnce_71 : decode b_M_goesOnce 71 = .ok (.isub, 1) := by decide +kernel
theorem d_M_goesOnce_72 : decode b_M_goesOnce 72 = .ok (.iastore, 1) := by decide +kernel
theorem d_M_goesOnce_73 : decode b_M_goesOnce 73 = .ok (.aload_n 0, 1) := by decide +kernel
theorem d_M_goesOnce_74 : decode b_M_goesOnce 74 = .ok (.getfield 16, 3) := by decide +kernel
theorem d_M_goesOnce_77 : decode b_M_goesOnce 77 = .ok (.aload_n 0, 1) := by decide +kernel
theorem d_M_goesOnce_78 : decode b_M_goesOnce 78 = .ok (.iload_n 1, 1) := by decide +kernel
theorem d_M_goesOnce_79 : decode b_M_goesOnce 79 = .ok (.invokevirtual 149, 3) := by decide +kernel
theorem d_M_goesOnce_82 : decode b_M_goesOnce 82 = .ok (.dup2, 1) := by decide +kernel
theorem d_M_goesOnce_83 : decode b_M_goesOnce 83 = .ok (.iaload, 1) := by decide +kernel
theorem d_M_goesOnce_84 : decode b_M_goesOnce 84 = .ok (.aload_n 0, 1) := by decide +kernel
theorem d_M_goesOnce_85 : decode b_M_goesOnce 85 = .ok (.getfield 19, 3) := by decide +kernel
theorem d_M_goesOnce_88 : decode b_M_goesOnce 88 = .ok (.iload_n 1, 1) := by decide +kernel
theorem d_M_goesOnce_89 : decode b_M_goesOnce 89 = .ok (.iaload, 1) := by decide +kernel
theorem d_M_goesOnce_90 : decode b_M_goesOnce 90 = .ok (.iadd, 1) := by decide +kernel
theorem d_M_goesOnce_91 : decode b_M_goesOnce 91 = .ok (.iastore, 1) := by decide +kernel
theorem d_M_goesOnce_92 : decode b_M_goesOnce 92 = .ok (.aload_n 0, 1) := by decide +kernel
theorem d_M_goesOnce_93 : decode b_M_goesOnce 93 = .ok (.getfield 13, 3) := by decide +kernel
theorem d_M_goesOnce_96 : decode b_M_goesOnce 96 = .ok (.iload_n 1, 1) := by decide +kernel
theorem d_M_goesOnce_97 : decode b_M_goesOnce 97 = .ok (.iaload, 1) := by decide +kernel
theorem d_M_goesOnce_98 : decode b_M_goesOnce 98 = .ok (.iconst 1, 1) := by decide +kernel
theorem d_M_goesOnce_99 : decode b_M_goesOnce 99 = .ok (.if_icmp .ne 22, 3) := by decide +kernel
theorem d_M_goesOnce_102 : decode b_M_goesOnce 102 = .ok (.aload_n 0, 1) := by decide +kernel
theorem d_M_goesOnce_103 : decode b_M_goesOnce 103 = .ok (.getfield 16, 3) := by decide +kernel
theorem d_M_goesOnce_106 : decode b_M_goesOnce 106 = .ok (.aload_n 0, 1) := by decide +kernel
theorem d_M_goesOnce_107 : decode b_M_goesOnce 107 = .ok (.iload_n 1, 1) := by decide +kernel
theorem d_M_goesOnce_108 : decode b_M_goesOnce 108 = .ok (.invokevirtual 158, 3) := by decide +kernel
theorem d_M_goesOnce_111 : decode b_M_goesOnce 111 = .ok (.dup2, 1) := by decide +kernel
theorem d_M_goesOnce_112 : decode b_M_goesOnce 112 = .ok (.iaload, 1) := by decide +kernel
theorem d_M_goesOnce_113 : decode b_M_goesOnce 113 = .ok (.aload_n 0, 1) := by decide +kernel
theorem d_M_goesOnce_114 : decode b_M_goesOnce 114 = .ok (.getfield 19, 3) := by decide +kernel
theorem d_M_goesOnce_117 : decode b_M_goesOnce 117 = .ok (.iload_n 1, 1) := by decide +kernel
theorem d_M_goesOnce_118 : decode b_M_goesOnce 118 = .ok (.iaload, 1) := by decide +kernel
theorem d_M_goesOnce_119 : decode b_M_goesOnce 119 = .ok (.iadd, 1) := by decide +kernel
theorem d_M_goesOnce_120 : decode b_M_goesOnce 120 = .ok (.iastore, 1) := by decide +kernel
theorem d_M_goesOnce_121 : decode b_M_goesOnce 121 = .ok (.iinc 1 1, 3) := by decide +kernel
theorem d_M_goesOnce_124 : decode b_M_goesOnce 124 = .ok (.goto (-95), 3) := by decide +kernel
theorem d_M_goesOnce_127 : decode b_M_goesOnce 127 = .ok (.iconst 0, 1) := by decide +kernel
theorem d_M_goesOnce_128 : decode b_M_goesOnce 128 = .ok (.istore_n 1, 1) := by decide +kernel
theorem d_M_goesOnce_129 : decode b_M_goesOnce 129 = .ok (.iload_n 1, 1) := by decide +kernel
theorem d_M_goesOnce_130 : decode b_M_goesOnce 130 = .ok (.aload_n 0, 1) := by decide +kernel
theorem d_M_goesOnce_131 : decode b_M_goesOnce 131 = .ok (.getfield 78, 3) := by decide +kernel
theorem d_M_goesOnce_134 : decode b_M_goesOnce 134 = .ok (.if_icmp .ge 24, 3) := by decide +kernel
theorem d_M_goesOnce_137 : decode b_M_goesOnce 137 = .ok (.aload_n 0, 1) := by decide +kernel
theorem d_M_goesOnce_138 : decode b_M_goesOnce 138 = .ok (.getfield 16, 3) := by decide +kernel
theorem d_M_goesOnce_141 : decode b_M_goesOnce 141 = .ok (.iload_n 1, 1) := by decide +kernel
theorem d_M_goesOnce_142 : decode b_M_goesOnce 142 = .ok (.aload_n 0, 1) := by decide +kernel
theorem d_M_goesOnce_143 : decode b_M_goesOnce 143 = .ok (.getfield 16, 3) := by decide +kernel
theorem d_M_goesOnce_146 : decode b_M_goesOnce 146 = .ok (.iload_n 1, 1) := by decide +kernel
theorem d_M_goesOnce_147 : decode b_M_goesOnce 147 = .ok (.iaload, 1) := by decide +kernel
theorem d_M_goesOnce_148 : decode b_M_goesOnce 148 = .ok (.invokestatic 152, 3) := by decide +kernel
theorem d_M_goesOnce_151 : decode b_M_goesOnce 151 = .ok (.iastore, 1) := by decide +kernel
theorem d_M_goesOnce_152 : decode b_M_goesOnce 152 = .ok (.iinc 1 1, 3) := by decide +kernel
theorem d_M_goesOnce_155 : decode b_M_goesOnce 155 = .ok (.goto (-26), 3) := by decide +kernel
theorem d_M_goesOnce_158 : decode b_M_goesOnce 158 = .ok (.iconst 0, 1) := by decide +kernel
theorem d_M_goesOnce_159 : decode b_M_goesOnce 159 = .ok (.istore_n 1, 1) := by decide +kernel
theorem d_M_goesOnce_160 : decode b_M_goesOnce 160 = .ok (.iload_n 1, 1) := by decide +kernel
theorem d_M_goesOnce_161 : decode b_M_goesOnce 161 = .ok (.aload_n 0, 1) := by decide +kernel
theorem d_M_goesOnce_162 : decode b_M_goesOnce 162 = .ok (.getfield 78, 3) := by decide +kernel
theorem d_M_goesOnce_165 : decode b_M_goesOnce 165 = .ok (.if_icmp .ge 14, 3) := by decide +kernel
theorem d_M_goesOnce_168 : decode b_M_goesOnce 168 = .ok (.aload_n 0, 1) := by decide +kernel
theorem d_M_goesOnce_169 : decode b_M_goesOnce 169 = .ok (.iload_n 1, 1) := by decide +kernel
theorem d_M_goesOnce_170 : decode b_M_goesOnce 170 = .ok (.invokevirtual 161, 3) := by decide +kernel
theorem d_M_goesOnce_173 : decode b_M_goesOnce 173 = .ok (.iinc 1 1, 3) := by decide +kernel
theorem d_M_goesOnce_176 : decode b_M_goesOnce 176 = .ok (.goto (-16), 3) := by decide +kernel
theorem d_M_goesOnce_179 : decode b_M_goesOnce 179 = .ok (.aload_n 0, 1) := by decide +kernel
theorem d_M_goesOnce_180 : decode b_M_goesOnce 180 = .ok (.dup, 1) := by decide +kernel
theorem d_M_goesOnce_181 : decode b_M_goesOnce 181 = .ok (.getfield 137, 3) := by decide +kernel
theorem d_M_goesOnce_184 : decode b_M_goesOnce 184 = .ok (.iconst 1, 1) := by decide +kernel
theorem d_M_goesOnce_185 : decode b_M_goesOnce 185 = .ok (.iadd, 1) := by decide +kernel
theorem d_M_goesOnce_186 : decode b_M_goesOnce 186 = .ok (.putfield 137, 3) := by decide +kernel
theorem d_M_goesOnce_189 : decode b_M_goesOnce 189 = .ok (.return_, 1) := by decide +kernel
set_option maxHeartbeats 4000000 in
set_option maxRecDepth 100000 in
theorem c_M_goesOnce {l : Launch} {D : va_G} {cI cJ cC : ClassId} (a_h a_h_refused a_h_kind a_h_sweets a_h_gives a_h_tape a_h_letter a_h_letterAt a_h_one a_h_two a_h_kept a_h_trail a_h_crumb a_h_nextCrumb a_h_goal a_h_start a_h_sits a_h_bestSits a_h_without a_h_row : Nat) (y_h_taped : Int32) (y_h_at : Int32) (y_h_statements : Int32) (y_h_hasImage : Int32) (y_h_beforeMany : Int32) (y_h_found : Int32) (y_h_lots : Int32) (y_h_rowMany : Int32) {z_h_T : MT} {q : MT} (hf : f_M_goesOnce z_h_T = some q) : xV l y_M_goesOnce b_M_goesOnce 2 2 45 D (tyK cI cJ cC) xE0 [.ref a_h] (w_M_goesOnce cI cJ cC a_h a_h_refused a_h_kind a_h_sweets a_h_gives a_h_tape a_h_letter a_h_letterAt a_h_one a_h_two a_h_kept a_h_trail a_h_crumb a_h_nextCrumb a_h_goal a_h_start a_h_sits a_h_bestSits a_h_without a_h_row y_h_taped y_h_at y_h_statements y_h_hasImage y_h_beforeMany y_h_found y_h_lots y_h_rowMany (m_many z_h_T) (m_odd z_h_T) (m_step z_h_T) (m_bag z_h_T) (m_strokes z_h_T) (m_gave z_h_T) (m_threw z_h_T) (m_isKeeping z_h_T) (m_cursor z_h_T) (m_kind z_h_T) (m_sweets z_h_T) (m_gives z_h_T) (m_kept z_h_T)) (w_M_goesOnce cI cJ cC a_h a_h_refused a_h_kind a_h_sweets a_h_gives a_h_tape a_h_letter a_h_letterAt a_h_one a_h_two a_h_kept a_h_trail a_h_crumb a_h_nextCrumb a_h_goal a_h_start a_h_sits a_h_bestSits a_h_without a_h_row y_h_taped y_h_at y_h_statements y_h_hasImage y_h_beforeMany y_h_found y_h_lots y_h_rowMany (m_many q) (m_odd q) (m_step q) (m_bag q) (m_strokes q) (m_gave q) (m_threw q) (m_isKeeping q) (m_cursor q) (m_kind q) (m_sweets q) (m_gives q) (m_kept q)) := by
  refine xV_of (by decide) (Nat.le_of_ble_eq_true rfl) ?_
  intro p e s m args below meth c A Q hx hb hml hown hT hA hP hD hK hS hE hret ls hl
  have hown : s.vm.findClass R_M = some m.cls := hown
  have hl : lv_has ls 2 [(0, .ref a_h)] := hl
  unfold f_M_goesOnce at hf
  have L2 : ∀ k : MT → Option (MT), (∀ (z_h_T : MT) (H : Heap) (locs : List Loc) (ls : Array Slot), k z_h_T = some q → va_P D classes (w_M_goesOnce cI cJ cC a_h a_h_refused a_h_kind a_h_sweets a_h_gives a_h_tape a_h_letter a_h_letterAt a_h_one a_h_two a_h_kept a_h_trail a_h_crumb a_h_nextCrumb a_h_goal a_h_start a_h_sits a_h_bestSits a_h_without a_h_row y_h_taped y_h_at y_h_statements y_h_hasImage y_h_beforeMany y_h_found y_h_lots y_h_rowMany (m_many z_h_T) (m_odd z_h_T) (m_step z_h_T) (m_bag z_h_T) (m_strokes z_h_T) (m_gave z_h_T) (m_threw z_h_T) (m_isKeeping z_h_T) (m_cursor z_h_T) (m_kind z_h_T) (m_sweets z_h_T) (m_gives z_h_T) (m_kept z_h_T)) H → va_D A (w_M_goesOnce cI cJ cC a_h a_h_refused a_h_kind a_h_sweets a_h_gives a_h_tape a_h_letter a_h_letterAt a_h_one a_h_two a_h_kept a_h_trail a_h_crumb a_h_nextCrumb a_h_goal a_h_start a_h_sits a_h_bestSits a_h_without a_h_row y_h_taped y_h_at y_h_statements y_h_hasImage y_h_beforeMany y_h_found y_h_lots y_h_rowMany (m_many z_h_T) (m_odd z_h_T) (m_step z_h_T) (m_bag z_h_T) (m_strokes z_h_T) (m_gave z_h_T) (m_threw z_h_T) (m_isKeeping z_h_T) (m_cursor z_h_T) (m_kind z_h_T) (m_sweets z_h_T) (m_gives z_h_T) (m_kept z_h_T)) → va_S A s.heap H locs → lv_has ls 2 [(0, .ref a_h)] → W p l e (xRm 2 45) s m args below meth c H locs 0 0 Q (F0 m 27 ls [])) → ∀ (n : Nat) (z_h_T : MT) (x1 : Int32) (H : Heap) (locs : List Loc) (ls : Array Slot), f_M_goesOnce_L2 k n z_h_T x1 = some q → va_P D classes (w_M_goesOnce cI cJ cC a_h a_h_refused a_h_kind a_h_sweets a_h_gives a_h_tape a_h_letter a_h_letterAt a_h_one a_h_two a_h_kept a_h_trail a_h_crumb a_h_nextCrumb a_h_goal a_h_start a_h_sits a_h_bestSits a_h_without a_h_row y_h_taped y_h_at y_h_statements y_h_hasImage y_h_beforeMany y_h_found y_h_lots y_h_rowMany (m_many z_h_T) (m_odd z_h_T) (m_step z_h_T) (m_bag z_h_T) (m_strokes z_h_T) (m_gave z_h_T) (m_threw z_h_T) (m_isKeeping z_h_T) (m_cursor z_h_T) (m_kind z_h_T) (m_sweets z_h_T) (m_gives z_h_T) (m_kept z_h_T)) H → va_D A (w_M_goesOnce cI cJ cC a_h a_h_refused a_h_kind a_h_sweets a_h_gives a_h_tape a_h_letter a_h_letterAt a_h_one a_h_two a_h_kept a_h_trail a_h_crumb a_h_nextCrumb a_h_goal a_h_start a_h_sits a_h_bestSits a_h_without a_h_row y_h_taped y_h_at y_h_statements y_h_hasImage y_h_beforeMany y_h_found y_h_lots y_h_rowMany (m_many z_h_T) (m_odd z_h_T) (m_step z_h_T) (m_bag z_h_T) (m_strokes z_h_T) (m_gave z_h_T) (m_threw z_h_T) (m_isKeeping z_h_T) (m_cursor z_h_T) (m_kind z_h_T) (m_sweets z_h_T) (m_gives z_h_T) (m_kept z_h_T)) → va_S A s.heap H locs → lv_has ls 2 [(0, .ref a_h), (1, .int x1)] → W p l e (xRm 2 45) s m args below meth c H locs 0 0 Q (F0 m 2 ls []) := by
    intro k hk n
    induction n with
    | zero => intro z_h_T x1 H locs ls hf hP hD hS hl; exact nomatch (show (none : Option (MT)) = some q from hf)
    | succ n ih =>
      intro z_h_T x1 H locs ls hf hP hD hS hl
      refine lv_iload_n hx hb d_M_goesOnce_2 rfl (lv_at hl 1 rfl) ?_
      refine lv_aload_n hx hb d_M_goesOnce_3 rfl (lv_at hl 0 rfl) ?_
      refine va_get hx hb hT i_M hown hK hP 0 rfl rfl 4 (Nat.le_of_ble_eq_true rfl) (hT _ k_762) (fun _ h => h) rfl d_M_goesOnce_4 ?_
      refine lv_icmp_ge (tgt := 27) hx hb d_M_goesOnce_7 (by decide) (fun c1 => ?_) (fun c1 => ?_)
      · have hf := io_t hf c1
        exact hk z_h_T _ _ _ hf hP hD hS (lv_sub hl [0] rfl)
      · have hf := io_f hf c1
        refine lv_aload_n hx hb d_M_goesOnce_10 rfl (lv_at hl 0 rfl) ?_
        refine va_get hx hb hT i_M hown hK hP 0 rfl rfl 3 (Nat.le_of_ble_eq_true rfl) (hT _ k_761) (fun _ h => h) rfl d_M_goesOnce_11 ?_
        refine lv_iload_n hx hb d_M_goesOnce_14 rfl (lv_at hl 1 rfl) ?_
        refine lv_aload_n hx hb d_M_goesOnce_15 rfl (lv_at hl 0 rfl) ?_
        refine lv_iload_n hx hb d_M_goesOnce_16 rfl (lv_at hl 1 rfl) ?_
        obtain ⟨q2, hq2, hf⟩ := io_b hf
        refine xcVI (wc := (w_M_givesOf cI cJ cC a_h a_h_refused a_h_kind a_h_sweets a_h_gives a_h_tape a_h_letter a_h_letterAt a_h_one a_h_two a_h_kept a_h_trail a_h_crumb a_h_nextCrumb a_h_goal a_h_start a_h_sits a_h_bestSits a_h_without a_h_row y_h_taped y_h_at y_h_statements y_h_hasImage y_h_beforeMany y_h_found y_h_lots y_h_rowMany (m_many z_h_T) (m_odd z_h_T) (m_step z_h_T) (m_bag z_h_T) (m_strokes z_h_T) (m_gave z_h_T) (m_threw z_h_T) (m_isKeeping z_h_T) (m_cursor z_h_T) (m_kind z_h_T) (m_sweets z_h_T))) (wc' := (w_M_givesOf cI cJ cC a_h a_h_refused a_h_kind a_h_sweets a_h_gives a_h_tape a_h_letter a_h_letterAt a_h_one a_h_two a_h_kept a_h_trail a_h_crumb a_h_nextCrumb a_h_goal a_h_start a_h_sits a_h_bestSits a_h_without a_h_row y_h_taped y_h_at y_h_statements y_h_hasImage y_h_beforeMany y_h_found y_h_lots y_h_rowMany (m_many z_h_T) (m_odd z_h_T) (m_step z_h_T) (m_bag z_h_T) (m_strokes z_h_T) (m_gave z_h_T) (m_threw z_h_T) (m_isKeeping z_h_T) (m_cursor z_h_T) (m_kind z_h_T) (m_sweets z_h_T))) (ws' := (w_M_goesOnce cI cJ cC a_h a_h_refused a_h_kind a_h_sweets a_h_gives a_h_tape a_h_letter a_h_letterAt a_h_one a_h_two a_h_kept a_h_trail a_h_crumb a_h_nextCrumb a_h_goal a_h_start a_h_sits a_h_bestSits a_h_without a_h_row y_h_taped y_h_at y_h_statements y_h_hasImage y_h_beforeMany y_h_found y_h_lots y_h_rowMany (m_many z_h_T) (m_odd z_h_T) (m_step z_h_T) (m_bag z_h_T) (m_strokes z_h_T) (m_gave z_h_T) (m_threw z_h_T) (m_isKeeping z_h_T) (m_cursor z_h_T) (m_kind z_h_T) (m_sweets z_h_T) (m_gives z_h_T) (m_kept z_h_T))) (As := [.int x1]) (rest := [.int x1, .ref a_h_gives]) hx hb hml hown hT (c_M_givesOf (z_h_T := z_h_T) a_h a_h_refused a_h_kind a_h_sweets a_h_gives a_h_tape a_h_letter a_h_letterAt a_h_one a_h_two a_h_kept a_h_trail a_h_crumb a_h_nextCrumb a_h_goal a_h_start a_h_sits a_h_bestSits a_h_without a_h_row y_h_taped y_h_at y_h_statements y_h_hasImage y_h_beforeMany y_h_found y_h_lots y_h_rowMany hq2) k_928 k_930 ks_32 k_8 k_931 hd_M_givesOf ⟨Nat.le_of_ble_eq_true rfl, Nat.le_of_ble_eq_true rfl⟩ xE0_ok trivial hA hK hP hD hS [0, 1, 2] [3, 4] [2, 3, 4, 0, 1] rfl rfl rfl rfl rfl rfl rfl rfl rfl rfl hl.1 rfl (Nat.le_of_ble_eq_true rfl) ⟨Nat.zero_le _, Nat.zero_le _⟩ d_M_goesOnce_17 (fun H locs hP hD hS => ?_)
        obtain ⟨c3, hf⟩ := io_n hf
        refine x_iast hx hb hK hP hD hS 3 0 rfl rfl (j := x1.toNatClampNeg) rfl c3 d_M_goesOnce_20 (fun H locs hP hD hS => ?_)
        have hP : va_P D classes (w_M_goesOnce cI cJ cC a_h a_h_refused a_h_kind a_h_sweets a_h_gives a_h_tape a_h_letter a_h_letterAt a_h_one a_h_two a_h_kept a_h_trail a_h_crumb a_h_nextCrumb a_h_goal a_h_start a_h_sits a_h_bestSits a_h_without a_h_row y_h_taped y_h_at y_h_statements y_h_hasImage y_h_beforeMany y_h_found y_h_lots y_h_rowMany (m_many z_h_T) (m_odd z_h_T) (m_step z_h_T) (m_bag z_h_T) (m_strokes z_h_T) (m_gave z_h_T) (m_threw z_h_T) (m_isKeeping z_h_T) (m_cursor z_h_T) (m_kind z_h_T) (m_sweets z_h_T) (upd (m_gives z_h_T) x1.toNatClampNeg q2) (m_kept z_h_T)) H := hP
        have hD : va_D A (w_M_goesOnce cI cJ cC a_h a_h_refused a_h_kind a_h_sweets a_h_gives a_h_tape a_h_letter a_h_letterAt a_h_one a_h_two a_h_kept a_h_trail a_h_crumb a_h_nextCrumb a_h_goal a_h_start a_h_sits a_h_bestSits a_h_without a_h_row y_h_taped y_h_at y_h_statements y_h_hasImage y_h_beforeMany y_h_found y_h_lots y_h_rowMany (m_many z_h_T) (m_odd z_h_T) (m_step z_h_T) (m_bag z_h_T) (m_strokes z_h_T) (m_gave z_h_T) (m_threw z_h_T) (m_isKeeping z_h_T) (m_cursor z_h_T) (m_kind z_h_T) (m_sweets z_h_T) (upd (m_gives z_h_T) x1.toNatClampNeg q2) (m_kept z_h_T)) := hD
        refine lv_iinc (v := (x1 + 1)) (lv' := [(1, .int (x1 + 1)), (0, .ref a_h)]) hx hb d_M_goesOnce_21 hl (k := 1) rfl (by rfl) (by decide) rfl (fun ls hl => ?_)
        refine lv_goto (tgt := 2) hx hb d_M_goesOnce_24 (by decide) ?_
        exact ih ((m_kind z_h_T), (m_sweets z_h_T), (upd (m_gives z_h_T) x1.toNatClampNeg q2), (m_kept z_h_T), (m_many z_h_T), (m_odd z_h_T), (m_step z_h_T), (m_bag z_h_T), (m_strokes z_h_T), (m_gave z_h_T), (m_threw z_h_T), (m_isKeeping z_h_T), (m_cursor z_h_T)) (x1 + 1) _ _ _ hf hP hD hS (lv_sub hl [1, 0] rfl)
  have L29 : ∀ k : MT → Option (MT), (∀ (z_h_T : MT) (H : Heap) (locs : List Loc) (ls : Array Slot), k z_h_T = some q → va_P D classes (w_M_goesOnce cI cJ cC a_h a_h_refused a_h_kind a_h_sweets a_h_gives a_h_tape a_h_letter a_h_letterAt a_h_one a_h_two a_h_kept a_h_trail a_h_crumb a_h_nextCrumb a_h_goal a_h_start a_h_sits a_h_bestSits a_h_without a_h_row y_h_taped y_h_at y_h_statements y_h_hasImage y_h_beforeMany y_h_found y_h_lots y_h_rowMany (m_many z_h_T) (m_odd z_h_T) (m_step z_h_T) (m_bag z_h_T) (m_strokes z_h_T) (m_gave z_h_T) (m_threw z_h_T) (m_isKeeping z_h_T) (m_cursor z_h_T) (m_kind z_h_T) (m_sweets z_h_T) (m_gives z_h_T) (m_kept z_h_T)) H → va_D A (w_M_goesOnce cI cJ cC a_h a_h_refused a_h_kind a_h_sweets a_h_gives a_h_tape a_h_letter a_h_letterAt a_h_one a_h_two a_h_kept a_h_trail a_h_crumb a_h_nextCrumb a_h_goal a_h_start a_h_sits a_h_bestSits a_h_without a_h_row y_h_taped y_h_at y_h_statements y_h_hasImage y_h_beforeMany y_h_found y_h_lots y_h_rowMany (m_many z_h_T) (m_odd z_h_T) (m_step z_h_T) (m_bag z_h_T) (m_strokes z_h_T) (m_gave z_h_T) (m_threw z_h_T) (m_isKeeping z_h_T) (m_cursor z_h_T) (m_kind z_h_T) (m_sweets z_h_T) (m_gives z_h_T) (m_kept z_h_T)) → va_S A s.heap H locs → lv_has ls 2 [(0, .ref a_h)] → W p l e (xRm 2 45) s m args below meth c H locs 0 0 Q (F0 m 127 ls [])) → ∀ (n : Nat) (z_h_T : MT) (x1 : Int32) (H : Heap) (locs : List Loc) (ls : Array Slot), f_M_goesOnce_L29 k n z_h_T x1 = some q → va_P D classes (w_M_goesOnce cI cJ cC a_h a_h_refused a_h_kind a_h_sweets a_h_gives a_h_tape a_h_letter a_h_letterAt a_h_one a_h_two a_h_kept a_h_trail a_h_crumb a_h_nextCrumb a_h_goal a_h_start a_h_sits a_h_bestSits a_h_without a_h_row y_h_taped y_h_at y_h_statements y_h_hasImage y_h_beforeMany y_h_found y_h_lots y_h_rowMany (m_many z_h_T) (m_odd z_h_T) (m_step z_h_T) (m_bag z_h_T) (m_strokes z_h_T) (m_gave z_h_T) (m_threw z_h_T) (m_isKeeping z_h_T) (m_cursor z_h_T) (m_kind z_h_T) (m_sweets z_h_T) (m_gives z_h_T) (m_kept z_h_T)) H → va_D A (w_M_goesOnce cI cJ cC a_h a_h_refused a_h_kind a_h_sweets a_h_gives a_h_tape a_h_letter a_h_letterAt a_h_one a_h_two a_h_kept a_h_trail a_h_crumb a_h_nextCrumb a_h_goal a_h_start a_h_sits a_h_bestSits a_h_without a_h_row y_h_taped y_h_at y_h_statements y_h_hasImage y_h_beforeMany y_h_found y_h_lots y_h_rowMany (m_many z_h_T) (m_odd z_h_T) (m_step z_h_T) (m_bag z_h_T) (m_strokes z_h_T) (m_gave z_h_T) (m_threw z_h_T) (m_isKeeping z_h_T) (m_cursor z_h_T) (m_kind z_h_T) (m_sweets z_h_T) (m_gives z_h_T) (m_kept z_h_T)) → va_S A s.heap H locs → lv_has ls 2 [(0, .ref a_h), (1, .int x1)] → W p l e (xRm 2 45) s m args below meth c H locs 0 0 Q (F0 m 29 ls []) := by
    intro k hk n
    induction n with
    | zero => intro z_h_T x1 H locs ls hf hP hD hS hl; exact nomatch (show (none : Option (MT)) = some q from hf)
    | succ n ih =>
      intro z_h_T x1 H locs ls hf hP hD hS hl
      refine lv_iload_n hx hb d_M_goesOnce_29 rfl (lv_at hl 1 rfl) ?_
      refine lv_aload_n hx hb d_M_goesOnce_30 rfl (lv_at hl 0 rfl) ?_
      refine va_get hx hb hT i_M hown hK hP 0 rfl rfl 4 (Nat.le_of_ble_eq_true rfl) (hT _ k_762) (fun _ h => h) rfl d_M_goesOnce_31 ?_
      refine lv_icmp_ge (tgt := 127) hx hb d_M_goesOnce_34 (by decide) (fun c5 => ?_) (fun c5 => ?_)
      · have hf := io_t hf c5
        exact hk z_h_T _ _ _ hf hP hD hS (lv_sub hl [0] rfl)
      · have hf := io_f hf c5
        refine lv_aload_n hx hb d_M_goesOnce_37 rfl (lv_at hl 0 rfl) ?_
        refine va_get hx hb hT i_M hown hK hP 0 rfl rfl 2 (Nat.le_of_ble_eq_true rfl) (hT _ k_760) (fun _ h => h) rfl d_M_goesOnce_38 ?_
        refine lv_iload_n hx hb d_M_goesOnce_41 rfl (lv_at hl 1 rfl) ?_
        refine lv_dup2_11 hx hb d_M_goesOnce_42 rfl rfl ?_
        obtain ⟨c6, hf⟩ := io_n hf
        refine x_iald hx hb hK hP 2 0 rfl rfl (j := x1.toNatClampNeg) rfl c6 d_M_goesOnce_43 ?_
        refine lv_aload_n hx hb d_M_goesOnce_44 rfl (lv_at hl 0 rfl) ?_
        refine va_get hx hb hT i_M hown hK hP 0 rfl rfl 1 (Nat.le_of_ble_eq_true rfl) (hT _ k_759) (fun _ h => h) rfl d_M_goesOnce_45 ?_
        refine lv_iload_n hx hb d_M_goesOnce_48 rfl (lv_at hl 1 rfl) ?_
        refine x_iald hx hb hK hP 1 0 rfl rfl (j := x1.toNatClampNeg) rfl c6 d_M_goesOnce_49 ?_
        refine lv_iconst (v := 1) hx hb d_M_goesOnce_50 (by decide) ?_
        refine lv_icmp_ne (tgt := 65) hx hb d_M_goesOnce_51 (by decide) (fun c7 => ?_) (fun c7 => ?_)
        · have hf := io_f hf c7
          refine lv_aload_n hx hb d_M_goesOnce_65 rfl (lv_at hl 0 rfl) ?_
          refine va_get hx hb hT i_M hown hK hP 0 rfl rfl 3 (Nat.le_of_ble_eq_true rfl) (hT _ k_761) (fun _ h => h) rfl d_M_goesOnce_66 ?_
          refine lv_iload_n hx hb d_M_goesOnce_69 rfl (lv_at hl 1 rfl) ?_
          refine x_iald hx hb hK hP 3 0 rfl rfl (j := x1.toNatClampNeg) rfl c6 d_M_goesOnce_70 ?_
          refine lv_isub hx hb d_M_goesOnce_71 ?_
          refine x_iast hx hb hK hP hD hS 2 0 rfl rfl (j := x1.toNatClampNeg) rfl c6 d_M_goesOnce_72 (fun H locs hP hD hS => ?_)
          have hP : va_P D classes (w_M_goesOnce cI cJ cC a_h a_h_refused a_h_kind a_h_sweets a_h_gives a_h_tape a_h_letter a_h_letterAt a_h_one a_h_two a_h_kept a_h_trail a_h_crumb a_h_nextCrumb a_h_goal a_h_start a_h_sits a_h_bestSits a_h_without a_h_row y_h_taped y_h_at y_h_statements y_h_hasImage y_h_beforeMany y_h_found y_h_lots y_h_rowMany (m_many z_h_T) (m_odd z_h_T) (m_step z_h_T) (m_bag z_h_T) (m_strokes z_h_T) (m_gave z_h_T) (m_threw z_h_T) (m_isKeeping z_h_T) (m_cursor z_h_T) (m_kind z_h_T) (upd (m_sweets z_h_T) x1.toNatClampNeg (((m_sweets z_h_T) x1.toNatClampNeg) - ((m_gives z_h_T) x1.toNatClampNeg))) (m_gives z_h_T) (m_kept z_h_T)) H := hP
          have hD : va_D A (w_M_goesOnce cI cJ cC a_h a_h_refused a_h_kind a_h_sweets a_h_gives a_h_tape a_h_letter a_h_letterAt a_h_one a_h_two a_h_kept a_h_trail a_h_crumb a_h_nextCrumb a_h_goal a_h_start a_h_sits a_h_bestSits a_h_without a_h_row y_h_taped y_h_at y_h_statements y_h_hasImage y_h_beforeMany y_h_found y_h_lots y_h_rowMany (m_many z_h_T) (m_odd z_h_T) (m_step z_h_T) (m_bag z_h_T) (m_strokes z_h_T) (m_gave z_h_T) (m_threw z_h_T) (m_isKeeping z_h_T) (m_cursor z_h_T) (m_kind z_h_T) (upd (m_sweets z_h_T) x1.toNatClampNeg (((m_sweets z_h_T) x1.toNatClampNeg) - ((m_gives z_h_T) x1.toNatClampNeg))) (m_gives z_h_T) (m_kept z_h_T)) := hD
          refine lv_aload_n hx hb d_M_goesOnce_73 rfl (lv_at hl 0 rfl) ?_
          refine va_get hx hb hT i_M hown hK hP 0 rfl rfl 2 (Nat.le_of_ble_eq_true rfl) (hT _ k_760) (fun _ h => h) rfl d_M_goesOnce_74 ?_
          refine lv_aload_n hx hb d_M_goesOnce_77 rfl (lv_at hl 0 rfl) ?_
          refine lv_iload_n hx hb d_M_goesOnce_78 rfl (lv_at hl 1 rfl) ?_
          obtain ⟨q8, hq8, hf⟩ := io_b hf
          refine xcVI (wc := (w_M_leftOf cI cJ cC a_h a_h_refused a_h_kind a_h_sweets a_h_gives a_h_tape a_h_letter a_h_letterAt a_h_one a_h_two a_h_kept a_h_trail a_h_crumb a_h_nextCrumb a_h_goal a_h_start a_h_sits a_h_bestSits a_h_without a_h_row y_h_taped y_h_at y_h_statements y_h_hasImage y_h_beforeMany y_h_found y_h_lots y_h_rowMany (m_many z_h_T) (m_odd z_h_T) (m_step z_h_T) (m_bag z_h_T) (m_strokes z_h_T) (m_gave z_h_T) (m_threw z_h_T) (m_isKeeping z_h_T) (m_cursor z_h_T))) (wc' := (w_M_leftOf cI cJ cC a_h a_h_refused a_h_kind a_h_sweets a_h_gives a_h_tape a_h_letter a_h_letterAt a_h_one a_h_two a_h_kept a_h_trail a_h_crumb a_h_nextCrumb a_h_goal a_h_start a_h_sits a_h_bestSits a_h_without a_h_row y_h_taped y_h_at y_h_statements y_h_hasImage y_h_beforeMany y_h_found y_h_lots y_h_rowMany (m_many z_h_T) (m_odd z_h_T) (m_step z_h_T) (m_bag z_h_T) (m_strokes z_h_T) (m_gave z_h_T) (m_threw z_h_T) (m_isKeeping z_h_T) (m_cursor z_h_T))) (ws' := (w_M_goesOnce cI cJ cC a_h a_h_refused a_h_kind a_h_sweets a_h_gives a_h_tape a_h_letter a_h_letterAt a_h_one a_h_two a_h_kept a_h_trail a_h_crumb a_h_nextCrumb a_h_goal a_h_start a_h_sits a_h_bestSits a_h_without a_h_row y_h_taped y_h_at y_h_statements y_h_hasImage y_h_beforeMany y_h_found y_h_lots y_h_rowMany (m_many z_h_T) (m_odd z_h_T) (m_step z_h_T) (m_bag z_h_T) (m_strokes z_h_T) (m_gave z_h_T) (m_threw z_h_T) (m_isKeeping z_h_T) (m_cursor z_h_T) (m_kind z_h_T) (upd (m_sweets z_h_T) x1.toNatClampNeg (((m_sweets z_h_T) x1.toNatClampNeg) - ((m_gives z_h_T) x1.toNatClampNeg))) (m_gives z_h_T) (m_kept z_h_T))) (As := [.int x1]) (rest := [.ref a_h_sweets]) hx hb hml hown hT (c_M_leftOf (z_h_T := ((m_kind z_h_T), (upd (m_sweets z_h_T) x1.toNatClampNeg (((m_sweets z_h_T) x1.toNatClampNeg) - ((m_gives z_h_T) x1.toNatClampNeg))), (m_gives z_h_T), (m_kept z_h_T), (m_many z_h_T), (m_odd z_h_T), (m_step z_h_T), (m_bag z_h_T), (m_strokes z_h_T), (m_gave z_h_T), (m_threw z_h_T), (m_isKeeping z_h_T), (m_cursor z_h_T))) a_h a_h_refused a_h_kind a_h_sweets a_h_gives a_h_tape a_h_letter a_h_letterAt a_h_one a_h_two a_h_kept a_h_trail a_h_crumb a_h_nextCrumb a_h_goal a_h_start a_h_sits a_h_bestSits a_h_without a_h_row y_h_taped y_h_at y_h_statements y_h_hasImage y_h_beforeMany y_h_found y_h_lots y_h_rowMany hq8) k_932 k_934 ks_33 k_8 k_935 hd_M_leftOf ⟨Nat.le_of_ble_eq_true rfl, Nat.le_of_ble_eq_true rfl⟩ xE0_ok trivial hA hK hP hD hS [0] [1, 2, 3, 4] [4, 0, 1, 2, 3] rfl rfl rfl rfl rfl rfl rfl rfl rfl rfl hl.1 rfl (Nat.le_of_ble_eq_true rfl) ⟨Nat.zero_le _, Nat.zero_le _⟩ d_M_goesOnce_79 (fun H locs hP hD hS => ?_)
          refine lv_dup2_11 hx hb d_M_goesOnce_82 rfl rfl ?_
          obtain ⟨c9, hf⟩ := io_n hf
          refine x_iald hx hb hK hP 2 0 rfl rfl (j := q8.toNatClampNeg) rfl c9 d_M_goesOnce_83 ?_
          refine lv_aload_n hx hb d_M_goesOnce_84 rfl (lv_at hl 0 rfl) ?_
          refine va_get hx hb hT i_M hown hK hP 0 rfl rfl 3 (Nat.le_of_ble_eq_true rfl) (hT _ k_761) (fun _ h => h) rfl d_M_goesOnce_85 ?_
          refine lv_iload_n hx hb d_M_goesOnce_88 rfl (lv_at hl 1 rfl) ?_
          refine x_iald hx hb hK hP 3 0 rfl rfl (j := x1.toNatClampNeg) rfl c6 d_M_goesOnce_89 ?_
          refine lv_iadd hx hb d_M_goesOnce_90 ?_
          refine x_iast hx hb hK hP hD hS 2 0 rfl rfl (j := q8.toNatClampNeg) rfl c9 d_M_goesOnce_91 (fun H locs hP hD hS => ?_)
          have hP : va_P D classes (w_M_goesOnce cI cJ cC a_h a_h_refused a_h_kind a_h_sweets a_h_gives a_h_tape a_h_letter a_h_letterAt a_h_one a_h_two a_h_kept a_h_trail a_h_crumb a_h_nextCrumb a_h_goal a_h_start a_h_sits a_h_bestSits a_h_without a_h_row y_h_taped y_h_at y_h_statements y_h_hasImage y_h_beforeMany y_h_found y_h_lots y_h_rowMany (m_many z_h_T) (m_odd z_h_T) (m_step z_h_T) (m_bag z_h_T) (m_strokes z_h_T) (m_gave z_h_T) (m_threw z_h_T) (m_isKeeping z_h_T) (m_cursor z_h_T) (m_kind z_h_T) (upd (upd (m_sweets z_h_T) x1.toNatClampNeg (((m_sweets z_h_T) x1.toNatClampNeg) - ((m_gives z_h_T) x1.toNatClampNeg))) q8.toNatClampNeg (((upd (m_sweets z_h_T) x1.toNatClampNeg (((m_sweets z_h_T) x1.toNatClampNeg) - ((m_gives z_h_T) x1.toNatClampNeg))) q8.toNatClampNeg) + ((m_gives z_h_T) x1.toNatClampNeg))) (m_gives z_h_T) (m_kept z_h_T)) H := hP
          have hD : va_D A (w_M_goesOnce cI cJ cC a_h a_h_refused a_h_kind a_h_sweets a_h_gives a_h_tape a_h_letter a_h_letterAt a_h_one a_h_two a_h_kept a_h_trail a_h_crumb a_h_nextCrumb a_h_goal a_h_start a_h_sits a_h_bestSits a_h_without a_h_row y_h_taped y_h_at y_h_statements y_h_hasImage y_h_beforeMany y_h_found y_h_lots y_h_rowMany (m_many z_h_T) (m_odd z_h_T) (m_step z_h_T) (m_bag z_h_T) (m_strokes z_h_T) (m_gave z_h_T) (m_threw z_h_T) (m_isKeeping z_h_T) (m_cursor z_h_T) (m_kind z_h_T) (upd (upd (m_sweets z_h_T) x1.toNatClampNeg (((m_sweets z_h_T) x1.toNatClampNeg) - ((m_gives z_h_T) x1.toNatClampNeg))) q8.toNatClampNeg (((upd (m_sweets z_h_T) x1.toNatClampNeg (((m_sweets z_h_T) x1.toNatClampNeg) - ((m_gives z_h_T) x1.toNatClampNeg))) q8.toNatClampNeg) + ((m_gives z_h_T) x1.toNatClampNeg))) (m_gives z_h_T) (m_kept z_h_T)) := hD
          refine lv_aload_n hx hb d_M_goesOnce_92 rfl (lv_at hl 0 rfl) ?_
          refine va_get hx hb hT i_M hown hK hP 0 rfl rfl 1 (Nat.le_of_ble_eq_true rfl) (hT _ k_759) (fun _ h => h) rfl d_M_goesOnce_93 ?_
          refine lv_iload_n hx hb d_M_goesOnce_96 rfl (lv_at hl 1 rfl) ?_
          refine x_iald hx hb hK hP 1 0 rfl rfl (j := x1.toNatClampNeg) rfl c6 d_M_goesOnce_97 ?_
          refine lv_iconst (v := 1) hx hb d_M_goesOnce_98 (by decide) ?_
          refine lv_icmp_ne (tgt := 121) hx hb d_M_goesOnce_99 (by decide) (fun _ => ?_) (fun c => absurd c c7)
          refine lv_iinc (v := (x1 + 1)) (lv' := [(1, .int (x1 + 1)), (0, .ref a_h)]) hx hb d_M_goesOnce_121 hl (k := 1) rfl (by rfl) (by decide) rfl (fun ls hl => ?_)
          refine lv_goto (tgt := 29) hx hb d_M_goesOnce_124 (by decide) ?_
          exact ih ((m_kind z_h_T), (upd (upd (m_sweets z_h_T) x1.toNatClampNeg (((m_sweets z_h_T) x1.toNatClampNeg) - ((m_gives z_h_T) x1.toNatClampNeg))) q8.toNatClampNeg (((upd (m_sweets z_h_T) x1.toNatClampNeg (((m_sweets z_h_T) x1.toNatClampNeg) - ((m_gives z_h_T) x1.toNatClampNeg))) q8.toNatClampNeg) + ((m_gives z_h_T) x1.toNatClampNeg))), (m_gives z_h_T), (m_kept z_h_T), (m_many z_h_T), (m_odd z_h_T), (m_step z_h_T), (m_bag z_h_T), (m_strokes z_h_T), (m_gave z_h_T), (m_threw z_h_T), (m_isKeeping z_h_T), (m_cursor z_h_T)) (x1 + 1) _ _ _ hf hP hD hS (lv_sub hl [1, 0] rfl)
        · have hf := io_t hf c7
          refine lv_iconst (v := 2) hx hb d_M_goesOnce_54 (by decide) ?_
          refine lv_aload_n hx hb d_M_goesOnce_55 rfl (lv_at hl 0 rfl) ?_
          refine va_get hx hb hT i_M hown hK hP 0 rfl rfl 3 (Nat.le_of_ble_eq_true rfl) (hT _ k_761) (fun _ h => h) rfl d_M_goesOnce_56 ?_
          refine lv_iload_n hx hb d_M_goesOnce_59 rfl (lv_at hl 1 rfl) ?_
          refine x_iald hx hb hK hP 3 0 rfl rfl (j := x1.toNatClampNeg) rfl c6 d_M_goesOnce_60 ?_
          refine lv_imul hx hb d_M_goesOnce_61 ?_
          refine lv_goto (tgt := 71) hx hb d_M_goesOnce_62 (by decide) ?_
          refine lv_isub hx hb d_M_goesOnce_71 ?_
          refine x_iast hx hb hK hP hD hS 2 0 rfl rfl (j := x1.toNatClampNeg) rfl c6 d_M_goesOnce_72 (fun H locs hP hD hS => ?_)
          have hP : va_P D classes (w_M_goesOnce cI cJ cC a_h a_h_refused a_h_kind a_h_sweets a_h_gives a_h_tape a_h_letter a_h_letterAt a_h_one a_h_two a_h_kept a_h_trail a_h_crumb a_h_nextCrumb a_h_goal a_h_start a_h_sits a_h_bestSits a_h_without a_h_row y_h_taped y_h_at y_h_statements y_h_hasImage y_h_beforeMany y_h_found y_h_lots y_h_rowMany (m_many z_h_T) (m_odd z_h_T) (m_step z_h_T) (m_bag z_h_T) (m_strokes z_h_T) (m_gave z_h_T) (m_threw z_h_T) (m_isKeeping z_h_T) (m_cursor z_h_T) (m_kind z_h_T) (upd (m_sweets z_h_T) x1.toNatClampNeg (((m_sweets z_h_T) x1.toNatClampNeg) - (2 * ((m_gives z_h_T) x1.toNatClampNeg)))) (m_gives z_h_T) (m_kept z_h_T)) H := hP
          have hD : va_D A (w_M_goesOnce cI cJ cC a_h a_h_refused a_h_kind a_h_sweets a_h_gives a_h_tape a_h_letter a_h_letterAt a_h_one a_h_two a_h_kept a_h_trail a_h_crumb a_h_nextCrumb a_h_goal a_h_start a_h_sits a_h_bestSits a_h_without a_h_row y_h_taped y_h_at y_h_statements y_h_hasImage y_h_beforeMany y_h_found y_h_lots y_h_rowMany (m_many z_h_T) (m_odd z_h_T) (m_step z_h_T) (m_bag z_h_T) (m_strokes z_h_T) (m_gave z_h_T) (m_threw z_h_T) (m_isKeeping z_h_T) (m_cursor z_h_T) (m_kind z_h_T) (upd (m_sweets z_h_T) x1.toNatClampNeg (((m_sweets z_h_T) x1.toNatClampNeg) - (2 * ((m_gives z_h_T) x1.toNatClampNeg)))) (m_gives z_h_T) (m_kept z_h_T)) := hD
          refine lv_aload_n hx hb d_M_goesOnce_73 rfl (lv_at hl 0 rfl) ?_
          refine va_get hx hb hT i_M hown hK hP 0 rfl rfl 2 (Nat.le_of_ble_eq_true rfl) (hT _ k_760) (fun _ h => h) rfl d_M_goesOnce_74 ?_
          refine lv_aload_n hx hb d_M_goesOnce_77 rfl (lv_at hl 0 rfl) ?_
          refine lv_iload_n hx hb d_M_goesOnce_78 rfl (lv_at hl 1 rfl) ?_
          obtain ⟨q10, hq10, hf⟩ := io_b hf
          refine xcVI (wc := (w_M_leftOf cI cJ cC a_h a_h_refused a_h_kind a_h_sweets a_h_gives a_h_tape a_h_letter a_h_letterAt a_h_one a_h_two a_h_kept a_h_trail a_h_crumb a_h_nextCrumb a_h_goal a_h_start a_h_sits a_h_bestSits a_h_without a_h_row y_h_taped y_h_at y_h_statements y_h_hasImage y_h_beforeMany y_h_found y_h_lots y_h_rowMany (m_many z_h_T) (m_odd z_h_T) (m_step z_h_T) (m_bag z_h_T) (m_strokes z_h_T) (m_gave z_h_T) (m_threw z_h_T) (m_isKeeping z_h_T) (m_cursor z_h_T))) (wc' := (w_M_leftOf cI cJ cC a_h a_h_refused a_h_kind a_h_sweets a_h_gives a_h_tape a_h_letter a_h_letterAt a_h_one a_h_two a_h_kept a_h_trail a_h_crumb a_h_nextCrumb a_h_goal a_h_start a_h_sits a_h_bestSits a_h_without a_h_row y_h_taped y_h_at y_h_statements y_h_hasImage y_h_beforeMany y_h_found y_h_lots y_h_rowMany (m_many z_h_T) (m_odd z_h_T) (m_step z_h_T) (m_bag z_h_T) (m_strokes z_h_T) (m_gave z_h_T) (m_threw z_h_T) (m_isKeeping z_h_T) (m_cursor z_h_T))) (ws' := (w_M_goesOnce cI cJ cC a_h a_h_refused a_h_kind a_h_sweets a_h_gives a_h_tape a_h_letter a_h_letterAt a_h_one a_h_two a_h_kept a_h_trail a_h_crumb a_h_nextCrumb a_h_goal a_h_start a_h_sits a_h_bestSits a_h_without a_h_row y_h_taped y_h_at y_h_statements y_h_hasImage y_h_beforeMany y_h_found y_h_lots y_h_rowMany (m_many z_h_T) (m_odd z_h_T) (m_step z_h_T) (m_bag z_h_T) (m_strokes z_h_T) (m_gave z_h_T) (m_threw z_h_T) (m_isKeeping z_h_T) (m_cursor z_h_T) (m_kind z_h_T) (upd (m_sweets z_h_T) x1.toNatClampNeg (((m_sweets z_h_T) x1.toNatClampNeg) - (2 * ((m_gives z_h_T) x1.toNatClampNeg)))) (m_gives z_h_T) (m_kept z_h_T))) (As := [.int x1]) (rest := [.ref a_h_sweets]) hx hb hml hown hT (c_M_leftOf (z_h_T := ((m_kind z_h_T), (upd (m_sweets z_h_T) x1.toNatClampNeg (((m_sweets z_h_T) x1.toNatClampNeg) - (2 * ((m_gives z_h_T) x1.toNatClampNeg)))), (m_gives z_h_T), (m_kept z_h_T), (m_many z_h_T), (m_odd z_h_T), (m_step z_h_T), (m_bag z_h_T), (m_strokes z_h_T), (m_gave z_h_T), (m_threw z_h_T), (m_isKeeping z_h_T), (m_cursor z_h_T))) a_h a_h_refused a_h_kind a_h_sweets a_h_gives a_h_tape a_h_letter a_h_letterAt a_h_one a_h_two a_h_kept a_h_trail a_h_crumb a_h_nextCrumb a_h_goal a_h_start a_h_sits a_h_bestSits a_h_without a_h_row y_h_taped y_h_at y_h_statements y_h_hasImage y_h_beforeMany y_h_found y_h_lots y_h_rowMany hq10) k_932 k_934 ks_33 k_8 k_935 hd_M_leftOf ⟨Nat.le_of_ble_eq_true rfl, Nat.le_of_ble_eq_true rfl⟩ xE0_ok trivial hA hK hP hD hS [0] [1, 2, 3, 4] [4, 0, 1, 2, 3] rfl rfl rfl rfl rfl rfl rfl rfl rfl rfl hl.1 rfl (Nat.le_of_ble_eq_true rfl) ⟨Nat.zero_le _, Nat.zero_le _⟩ d_M_goesOnce_79 (fun H locs hP hD hS => ?_)
          refine lv_dup2_11 hx hb d_M_goesOnce_82 rfl rfl ?_
          obtain ⟨c11, hf⟩ := io_n hf
          refine x_iald hx hb hK hP 2 0 rfl rfl (j := q10.toNatClampNeg) rfl c11 d_M_goesOnce_83 ?_
          refine lv_aload_n hx hb d_M_goesOnce_84 rfl (lv_at hl 0 rfl) ?_
          refine va_get hx hb hT i_M hown hK hP 0 rfl rfl 3 (Nat.le_of_ble_eq_true rfl) (hT _ k_761) (fun _ h => h) rfl d_M_goesOnce_85 ?_
          refine lv_iload_n hx hb d_M_goesOnce_88 rfl (lv_at hl 1 rfl) ?_
          refine x_iald hx hb hK hP 3 0 rfl rfl (j := x1.toNatClampNeg) rfl c6 d_M_goesOnce_89 ?_
          refine lv_iadd hx hb d_M_goesOnce_90 ?_
          refine x_iast hx hb hK hP hD hS 2 0 rfl rfl (j := q10.toNatClampNeg) rfl c11 d_M_goesOnce_91 (fun H locs hP hD hS => ?_)
          have hP : va_P D classes (w_M_goesOnce cI cJ cC a_h a_h_refused a_h_kind a_h_sweets a_h_gives a_h_tape a_h_letter a_h_letterAt a_h_one a_h_two a_h_kept a_h_trail a_h_crumb a_h_nextCrumb a_h_goal a_h_start a_h_sits a_h_bestSits a_h_without a_h_row y_h_taped y_h_at y_h_statements y_h_hasImage y_h_beforeMany y_h_found y_h_lots y_h_rowMany (m_many z_h_T) (m_odd z_h_T) (m_step z_h_T) (m_bag z_h_T) (m_strokes z_h_T) (m_gave z_h_T) (m_threw z_h_T) (m_isKeeping z_h_T) (m_cursor z_h_T) (m_kind z_h_T) (upd (upd (m_sweets z_h_T) x1.toNatClampNeg (((m_sweets z_h_T) x1.toNatClampNeg) - (2 * ((m_gives z_h_T) x1.toNatClampNeg)))) q10.toNatClampNeg (((upd (m_sweets z_h_T) x1.toNatClampNeg (((m_sweets z_h_T) x1.toNatClampNeg) - (2 * ((m_gives z_h_T) x1.toNatClampNeg)))) q10.toNatClampNeg) + ((m_gives z_h_T) x1.toNatClampNeg))) (m_gives z_h_T) (m_kept z_h_T)) H := hP
          have hD : va_D A (w_M_goesOnce cI cJ cC a_h a_h_refused a_h_kind a_h_sweets a_h_gives a_h_tape a_h_letter a_h_letterAt a_h_one a_h_two a_h_kept a_h_trail a_h_crumb a_h_nextCrumb a_h_goal a_h_start a_h_sits a_h_bestSits a_h_without a_h_row y_h_taped y_h_at y_h_statements y_h_hasImage y_h_beforeMany y_h_found y_h_lots y_h_rowMany (m_many z_h_T) (m_odd z_h_T) (m_step z_h_T) (m_bag z_h_T) (m_strokes z_h_T) (m_gave z_h_T) (m_threw z_h_T) (m_isKeeping z_h_T) (m_cursor z_h_T) (m_kind z_h_T) (upd (upd (m_sweets z_h_T) x1.toNatClampNeg (((m_sweets z_h_T) x1.toNatClampNeg) - (2 * ((m_gives z_h_T) x1.toNatClampNeg)))) q10.toNatClampNeg (((upd (m_sweets z_h_T) x1.toNatClampNeg (((m_sweets z_h_T) x1.toNatClampNeg) - (2 * ((m_gives z_h_T) x1.toNatClampNeg)))) q10.toNatClampNeg) + ((m_gives z_h_T) x1.toNatClampNeg))) (m_gives z_h_T) (m_kept z_h_T)) := hD
          refine lv_aload_n hx hb d_M_goesOnce_92 rfl (lv_at hl 0 rfl) ?_
          refine va_get hx hb hT i_M hown hK hP 0 rfl rfl 1 (Nat.le_of_ble_eq_true rfl) (hT _ k_759) (fun _ h => h) rfl d_M_goesOnce_93 ?_
          refine lv_iload_n hx hb d_M_goesOnce_96 rfl (lv_at hl 1 rfl) ?_
          refine x_iald hx hb hK hP 1 0 rfl rfl (j := x1.toNatClampNeg) rfl c6 d_M_goesOnce_97 ?_
          refine lv_iconst (v := 1) hx hb d_M_goesOnce_98 (by decide) ?_
          refine lv_icmp_ne (tgt := 121) hx hb d_M_goesOnce_99 (by decide) (fun c => absurd c7 c) (fun _ => ?_)
          refine lv_aload_n hx hb d_M_goesOnce_102 rfl (lv_at hl 0 rfl) ?_
          refine va_get hx hb hT i_M hown hK hP 0 rfl rfl 2 (Nat.le_of_ble_eq_true rfl) (hT _ k_760) (fun _ h => h) rfl d_M_goesOnce_103 ?_
          refine lv_aload_n hx hb d_M_goesOnce_106 rfl (lv_at hl 0 rfl) ?_
          refine lv_iload_n hx hb d_M_goesOnce_107 rfl (lv_at hl 1 rfl) ?_
          obtain ⟨q12, hq12, hf⟩ := io_b hf
          refine xcVI (wc := (w_M_rightOf cI cJ cC a_h a_h_refused a_h_kind a_h_sweets a_h_gives a_h_tape a_h_letter a_h_letterAt a_h_one a_h_two a_h_kept a_h_trail a_h_crumb a_h_nextCrumb a_h_goal a_h_start a_h_sits a_h_bestSits a_h_without a_h_row y_h_taped y_h_at y_h_statements y_h_hasImage y_h_beforeMany y_h_found y_h_lots y_h_rowMany (m_many z_h_T) (m_odd z_h_T) (m_step z_h_T) (m_bag z_h_T) (m_strokes z_h_T) (m_gave z_h_T) (m_threw z_h_T) (m_isKeeping z_h_T) (m_cursor z_h_T))) (wc' := (w_M_rightOf cI cJ cC a_h a_h_refused a_h_kind a_h_sweets a_h_gives a_h_tape a_h_letter a_h_letterAt a_h_one a_h_two a_h_kept a_h_trail a_h_crumb a_h_nextCrumb a_h_goal a_h_start a_h_sits a_h_bestSits a_h_without a_h_row y_h_taped y_h_at y_h_statements y_h_hasImage y_h_beforeMany y_h_found y_h_lots y_h_rowMany (m_many z_h_T) (m_odd z_h_T) (m_step z_h_T) (m_bag z_h_T) (m_strokes z_h_T) (m_gave z_h_T) (m_threw z_h_T) (m_isKeeping z_h_T) (m_cursor z_h_T))) (ws' := (w_M_goesOnce cI cJ cC a_h a_h_refused a_h_kind a_h_sweets a_h_gives a_h_tape a_h_letter a_h_letterAt a_h_one a_h_two a_h_kept a_h_trail a_h_crumb a_h_nextCrumb a_h_goal a_h_start a_h_sits a_h_bestSits a_h_without a_h_row y_h_taped y_h_at y_h_statements y_h_hasImage y_h_beforeMany y_h_found y_h_lots y_h_rowMany (m_many z_h_T) (m_odd z_h_T) (m_step z_h_T) (m_bag z_h_T) (m_strokes z_h_T) (m_gave z_h_T) (m_threw z_h_T) (m_isKeeping z_h_T) (m_cursor z_h_T) (m_kind z_h_T) (upd (upd (m_sweets z_h_T) x1.toNatClampNeg (((m_sweets z_h_T) x1.toNatClampNeg) - (2 * ((m_gives z_h_T) x1.toNatClampNeg)))) q10.toNatClampNeg (((upd (m_sweets z_h_T) x1.toNatClampNeg (((m_sweets z_h_T) x1.toNatClampNeg) - (2 * ((m_gives z_h_T) x1.toNatClampNeg)))) q10.toNatClampNeg) + ((m_gives z_h_T) x1.toNatClampNeg))) (m_gives z_h_T) (m_kept z_h_T))) (As := [.int x1]) (rest := [.ref a_h_sweets]) hx hb hml hown hT (c_M_rightOf (z_h_T := ((m_kind z_h_T), (upd (upd (m_sweets z_h_T) x1.toNatClampNeg (((m_sweets z_h_T) x1.toNatClampNeg) - (2 * ((m_gives z_h_T) x1.toNatClampNeg)))) q10.toNatClampNeg (((upd (m_sweets z_h_T) x1.toNatClampNeg (((m_sweets z_h_T) x1.toNatClampNeg) - (2 * ((m_gives z_h_T) x1.toNatClampNeg)))) q10.toNatClampNeg) + ((m_gives z_h_T) x1.toNatClampNeg))), (m_gives z_h_T), (m_kept z_h_T), (m_many z_h_T), (m_odd z_h_T), (m_step z_h_T), (m_bag z_h_T), (m_strokes z_h_T), (m_gave z_h_T), (m_threw z_h_T), (m_isKeeping z_h_T), (m_cursor z_h_T))) a_h a_h_refused a_h_kind a_h_sweets a_h_gives a_h_tape a_h_letter a_h_letterAt a_h_one a_h_two a_h_kept a_h_trail a_h_crumb a_h_nextCrumb a_h_goal a_h_start a_h_sits a_h_bestSits a_h_without a_h_row y_h_taped y_h_at y_h_statements y_h_hasImage y_h_beforeMany y_h_found y_h_lots y_h_rowMany hq12) k_972 k_974 ks_38 k_8 k_975 hd_M_rightOf ⟨Nat.le_of_ble_eq_true rfl, Nat.le_of_ble_eq_true rfl⟩ xE0_ok trivial hA hK hP hD hS [0] [1, 2, 3, 4] [4, 0, 1, 2, 3] rfl rfl rfl rfl rfl rfl rfl rfl rfl rfl hl.1 rfl (Nat.le_of_ble_eq_true rfl) ⟨Nat.zero_le _, Nat.zero_le _⟩ d_M_goesOnce_108 (fun H locs hP hD hS => ?_)
          refine lv_dup2_11 hx hb d_M_goesOnce_111 rfl rfl ?_
          obtain ⟨c13, hf⟩ := io_n hf
          refine x_iald hx hb hK hP 2 0 rfl rfl (j := q12.toNatClampNeg) rfl c13 d_M_goesOnce_112 ?_
          refine lv_aload_n hx hb d_M_goesOnce_113 rfl (lv_at hl 0 rfl) ?_
          refine va_get hx hb hT i_M hown hK hP 0 rfl rfl 3 (Nat.le_of_ble_eq_true rfl) (hT _ k_761) (fun _ h => h) rfl d_M_goesOnce_114 ?_
          refine lv_iload_n hx hb d_M_goesOnce_117 rfl (lv_at hl 1 rfl) ?_
          refine x_iald hx hb hK hP 3 0 rfl rfl (j := x1.toNatClampNeg) rfl c6 d_M_goesOnce_118 ?_
          refine lv_iadd hx hb d_M_goesOnce_119 ?_
          refine x_iast hx hb hK hP hD hS 2 0 rfl rfl (j := q12.toNatClampNeg) rfl c13 d_M_goesOnce_120 (fun H locs hP hD hS => ?_)
          have hP : va_P D classes (w_M_goesOnce cI cJ cC a_h a_h_refused a_h_kind a_h_sweets a_h_gives a_h_tape a_h_letter a_h_letterAt a_h_one a_h_two a_h_kept a_h_trail a_h_crumb a_h_nextCrumb a_h_goal a_h_start a_h_sits a_h_bestSits a_h_without a_h_row y_h_taped y_h_at y_h_statements y_h_hasImage y_h_beforeMany y_h_found y_h_lots y_h_rowMany (m_many z_h_T) (m_odd z_h_T) (m_step z_h_T) (m_bag z_h_T) (m_strokes z_h_T) (m_gave z_h_T) (m_threw z_h_T) (m_isKeeping z_h_T) (m_cursor z_h_T) (m_kind z_h_T) (upd (upd (upd (m_sweets z_h_T) x1.toNatClampNeg (((m_sweets z_h_T) x1.toNatClampNeg) - (2 * ((m_gives z_h_T) x1.toNatClampNeg)))) q10.toNatClampNeg (((upd (m_sweets z_h_T) x1.toNatClampNeg (((m_sweets z_h_T) x1.toNatClampNeg) - (2 * ((m_gives z_h_T) x1.toNatClampNeg)))) q10.toNatClampNeg) + ((m_gives z_h_T) x1.toNatClampNeg))) q12.toNatClampNeg (((upd (upd (m_sweets z_h_T) x1.toNatClampNeg (((m_sweets z_h_T) x1.toNatClampNeg) - (2 * ((m_gives z_h_T) x1.toNatClampNeg)))) q10.toNatClampNeg (((upd (m_sweets z_h_T) x1.toNatClampNeg (((m_sweets z_h_T) x1.toNatClampNeg) - (2 * ((m_gives z_h_T) x1.toNatClampNeg)))) q10.toNatClampNeg) + ((m_gives z_h_T) x1.toNatClampNeg))) q12.toNatClampNeg) + ((m_gives z_h_T) x1.toNatClampNeg))) (m_gives z_h_T) (m_kept z_h_T)) H := hP
          have hD : va_D A (w_M_goesOnce cI cJ cC a_h a_h_refused a_h_kind a_h_sweets a_h_gives a_h_tape a_h_letter a_h_letterAt a_h_one a_h_two a_h_kept a_h_trail a_h_crumb a_h_nextCrumb a_h_goal a_h_start a_h_sits a_h_bestSits a_h_without a_h_row y_h_taped y_h_at y_h_statements y_h_hasImage y_h_beforeMany y_h_found y_h_lots y_h_rowMany (m_many z_h_T) (m_odd z_h_T) (m_step z_h_T) (m_bag z_h_T) (m_strokes z_h_T) (m_gave z_h_T) (m_threw z_h_T) (m_isKeeping z_h_T) (m_cursor z_h_T) (m_kind z_h_T) (upd (upd (upd (m_sweets z_h_T) x1.toNatClampNeg (((m_sweets z_h_T) x1.toNatClampNeg) - (2 * ((m_gives z_h_T) x1.toNatClampNeg)))) q10.toNatClampNeg (((upd (m_sweets z_h_T) x1.toNatClampNeg (((m_sweets z_h_T) x1.toNatClampNeg) - (2 * ((m_gives z_h_T) x1.toNatClampNeg)))) q10.toNatClampNeg) + ((m_gives z_h_T) x1.toNatClampNeg))) q12.toNatClampNeg (((upd (upd (m_sweets z_h_T) x1.toNatClampNeg (((m_sweets z_h_T) x1.toNatClampNeg) - (2 * ((m_gives z_h_T) x1.toNatClampNeg)))) q10.toNatClampNeg (((upd (m_sweets z_h_T) x1.toNatClampNeg (((m_sweets z_h_T) x1.toNatClampNeg) - (2 * ((m_gives z_h_T) x1.toNatClampNeg)))) q10.toNatClampNeg) + ((m_gives z_h_T) x1.toNatClampNeg))) q12.toNatClampNeg) + ((m_gives z_h_T) x1.toNatClampNeg))) (m_gives z_h_T) (m_kept z_h_T)) := hD
          refine lv_iinc (v := (x1 + 1)) (lv' := [(1, .int (x1 + 1)), (0, .ref a_h)]) hx hb d_M_goesOnce_121 hl (k := 1) rfl (by rfl) (by decide) rfl (fun ls hl => ?_)
          refine lv_goto (tgt := 29) hx hb d_M_goesOnce_124 (by decide) ?_
          exact ih ((m_kind z_h_T), (upd (upd (upd (m_sweets z_h_T) x1.toNatClampNeg (((m_sweets z_h_T) x1.toNatClampNeg) - (2 * ((m_gives z_h_T) x1.toNatClampNeg)))) q10.toNatClampNeg (((upd (m_sweets z_h_T) x1.toNatClampNeg (((m_sweets z_h_T) x1.toNatClampNeg) - (2 * ((m_gives z_h_T) x1.toNatClampNeg)))) q10.toNatClampNeg) + ((m_gives z_h_T) x1.toNatClampNeg))) q12.toNatClampNeg (((upd (upd (m_sweets z_h_T) x1.toNatClampNeg (((m_sweets z_h_T) x1.toNatClampNeg) - (2 * ((m_gives z_h_T) x1.toNatClampNeg)))) q10.toNatClampNeg (((upd (m_sweets z_h_T) x1.toNatClampNeg (((m_sweets z_h_T) x1.toNatClampNeg) - (2 * ((m_gives z_h_T) x1.toNatClampNeg)))) q10.toNatClampNeg) + ((m_gives z_h_T) x1.toNatClampNeg))) q12.toNatClampNeg) + ((m_gives z_h_T) x1.toNatClampNeg))), (m_gives z_h_T), (m_kept z_h_T), (m_many z_h_T), (m_odd z_h_T), (m_step z_h_T), (m_bag z_h_T), (m_strokes z_h_T), (m_gave z_h_T), (m_threw z_h_T), (m_isKeeping z_h_T), (m_cursor z_h_T)) (x1 + 1) _ _ _ hf hP hD hS (lv_sub hl [1, 0] rfl)
  have L129 : ∀ k : MT → Option (MT), (∀ (z_h_T : MT) (H : Heap) (locs : List Loc) (ls : Array Slot), k z_h_T = some q → va_P D classes (w_M_goesOnce cI cJ cC a_h a_h_refused a_h_kind a_h_sweets a_h_gives a_h_tape a_h_letter a_h_letterAt a_h_one a_h_two a_h_kept a_h_trail a_h_crumb a_h_nextCrumb a_h_goal a_h_start a_h_sits a_h_bestSits a_h_without a_h_row y_h_taped y_h_at y_h_statements y_h_hasImage y_h_beforeMany y_h_found y_h_lots y_h_rowMany (m_many z_h_T) (m_odd z_h_T) (m_step z_h_T) (m_bag z_h_T) (m_strokes z_h_T) (m_gave z_h_T) (m_threw z_h_T) (m_isKeeping z_h_T) (m_cursor z_h_T) (m_kind z_h_T) (m_sweets z_h_T) (m_gives z_h_T) (m_kept z_h_T)) H → va_D A (w_M_goesOnce cI cJ cC a_h a_h_refused a_h_kind a_h_sweets a_h_gives a_h_tape a_h_letter a_h_letterAt a_h_one a_h_two a_h_kept a_h_trail a_h_crumb a_h_nextCrumb a_h_goal a_h_start a_h_sits a_h_bestSits a_h_without a_h_row y_h_taped y_h_at y_h_statements y_h_hasImage y_h_beforeMany y_h_found y_h_lots y_h_rowMany (m_many z_h_T) (m_odd z_h_T) (m_step z_h_T) (m_bag z_h_T) (m_strokes z_h_T) (m_gave z_h_T) (m_threw z_h_T) (m_isKeeping z_h_T) (m_cursor z_h_T) (m_kind z_h_T) (m_sweets z_h_T) (m_gives z_h_T) (m_kept z_h_T)) → va_S A s.heap H locs → lv_has ls 2 [(0, .ref a_h)] → W p l e (xRm 2 45) s m args below meth c H locs 0 0 Q (F0 m 158 ls [])) → ∀ (n : Nat) (z_h_T : MT) (x1 : Int32) (H : Heap) (locs : List Loc) (ls : Array Slot), f_M_goesOnce_L129 k n z_h_T x1 = some q → va_P D classes (w_M_goesOnce cI cJ cC a_h a_h_refused a_h_kind a_h_sweets a_h_gives a_h_tape a_h_letter a_h_letterAt a_h_one a_h_two a_h_kept a_h_trail a_h_crumb a_h_nextCrumb a_h_goal a_h_start a_h_sits a_h_bestSits a_h_without a_h_row y_h_taped y_h_at y_h_statements y_h_hasImage y_h_beforeMany y_h_found y_h_lots y_h_rowMany (m_many z_h_T) (m_odd z_h_T) (m_step z_h_T) (m_bag z_h_T) (m_strokes z_h_T) (m_gave z_h_T) (m_threw z_h_T) (m_isKeeping z_h_T) (m_cursor z_h_T) (m_kind z_h_T) (m_sweets z_h_T) (m_gives z_h_T) (m_kept z_h_T)) H → va_D A (w_M_goesOnce cI cJ cC a_h a_h_refused a_h_kind a_h_sweets a_h_gives a_h_tape a_h_letter a_h_letterAt a_h_one a_h_two a_h_kept a_h_trail a_h_crumb a_h_nextCrumb a_h_goal a_h_start a_h_sits a_h_bestSits a_h_without a_h_row y_h_taped y_h_at y_h_statements y_h_hasImage y_h_beforeMany y_h_found y_h_lots y_h_rowMany (m_many z_h_T) (m_odd z_h_T) (m_step z_h_T) (m_bag z_h_T) (m_strokes z_h_T) (m_gave z_h_T) (m_threw z_h_T) (m_isKeeping z_h_T) (m_cursor z_h_T) (m_kind z_h_T) (m_sweets z_h_T) (m_gives z_h_T) (m_kept z_h_T)) → va_S A s.heap H locs → lv_has ls 2 [(0, .ref a_h), (1, .int x1)] → W p l e (xRm 2 45) s m args below meth c H locs 0 0 Q (F0 m 129 ls []) := by
    intro k hk n
    induction n with
    | zero => intro z_h_T x1 H locs ls hf hP hD hS hl; exact nomatch (show (none : Option (MT)) = some q from hf)
    | succ n ih =>
      intro z_h_T x1 H locs ls hf hP hD hS hl
      refine lv_iload_n hx hb d_M_goesOnce_129 rfl (lv_at hl 1 rfl) ?_
      refine lv_aload_n hx hb d_M_goesOnce_130 rfl (lv_at hl 0 rfl) ?_
      refine va_get hx hb hT i_M hown hK hP 0 rfl rfl 4 (Nat.le_of_ble_eq_true rfl) (hT _ k_762) (fun _ h => h) rfl d_M_goesOnce_131 ?_
      refine lv_icmp_ge (tgt := 158) hx hb d_M_goesOnce_134 (by decide) (fun c15 => ?_) (fun c15 => ?_)
      · have hf := io_t hf c15
        exact hk z_h_T _ _ _ hf hP hD hS (lv_sub hl [0] rfl)
      · have hf := io_f hf c15
        refine lv_aload_n hx hb d_M_goesOnce_137 rfl (lv_at hl 0 rfl) ?_
        refine va_get hx hb hT i_M hown hK hP 0 rfl rfl 2 (Nat.le_of_ble_eq_true rfl) (hT _ k_760) (fun _ h => h) rfl d_M_goesOnce_138 ?_
        refine lv_iload_n hx hb d_M_goesOnce_141 rfl (lv_at hl 1 rfl) ?_
        refine lv_aload_n hx hb d_M_goesOnce_142 rfl (lv_at hl 0 rfl) ?_
        refine va_get hx hb hT i_M hown hK hP 0 rfl rfl 2 (Nat.le_of_ble_eq_true rfl) (hT _ k_760) (fun _ h => h) rfl d_M_goesOnce_143 ?_
        refine lv_iload_n hx hb d_M_goesOnce_146 rfl (lv_at hl 1 rfl) ?_
        obtain ⟨c16, hf⟩ := io_n hf
        refine x_iald hx hb hK hP 2 0 rfl rfl (j := x1.toNatClampNeg) rfl c16 d_M_goesOnce_147 ?_
        obtain ⟨q17, hq17, hf⟩ := io_b hf
        refine xcSI (wc := []) (wc' := []) (ws' := (w_M_goesOnce cI cJ cC a_h a_h_refused a_h_kind a_h_sweets a_h_gives a_h_tape a_h_letter a_h_letterAt a_h_one a_h_two a_h_kept a_h_trail a_h_crumb a_h_nextCrumb a_h_goal a_h_start a_h_sits a_h_bestSits a_h_without a_h_row y_h_taped y_h_at y_h_statements y_h_hasImage y_h_beforeMany y_h_found y_h_lots y_h_rowMany (m_many z_h_T) (m_odd z_h_T) (m_step z_h_T) (m_bag z_h_T) (m_strokes z_h_T) (m_gave z_h_T) (m_threw z_h_T) (m_isKeeping z_h_T) (m_cursor z_h_T) (m_kind z_h_T) (m_sweets z_h_T) (m_gives z_h_T) (m_kept z_h_T))) (As := [.int ((m_sweets z_h_T) x1.toNatClampNeg)]) (rest := [.int x1, .ref a_h_sweets]) hx hb hml hown hT (c_M_held hq17) k_976 k_977 k_8 k_978 hd_M_held ⟨Nat.le_of_ble_eq_true rfl, Nat.le_of_ble_eq_true rfl⟩ xE0_ok trivial hA hK hP hD hS [] [0, 1, 2, 3, 4] [0, 1, 2, 3, 4] rfl rfl rfl rfl rfl rfl rfl hl.1 rfl (Nat.le_of_ble_eq_true rfl) ⟨Nat.zero_le _, Nat.zero_le _⟩ d_M_goesOnce_148 (fun H locs hP hD hS => ?_)
        refine x_iast hx hb hK hP hD hS 2 0 rfl rfl (j := x1.toNatClampNeg) rfl c16 d_M_goesOnce_151 (fun H locs hP hD hS => ?_)
        have hP : va_P D classes (w_M_goesOnce cI cJ cC a_h a_h_refused a_h_kind a_h_sweets a_h_gives a_h_tape a_h_letter a_h_letterAt a_h_one a_h_two a_h_kept a_h_trail a_h_crumb a_h_nextCrumb a_h_goal a_h_start a_h_sits a_h_bestSits a_h_without a_h_row y_h_taped y_h_at y_h_statements y_h_hasImage y_h_beforeMany y_h_found y_h_lots y_h_rowMany (m_many z_h_T) (m_odd z_h_T) (m_step z_h_T) (m_bag z_h_T) (m_strokes z_h_T) (m_gave z_h_T) (m_threw z_h_T) (m_isKeeping z_h_T) (m_cursor z_h_T) (m_kind z_h_T) (upd (m_sweets z_h_T) x1.toNatClampNeg q17) (m_gives z_h_T) (m_kept z_h_T)) H := hP
        have hD : va_D A (w_M_goesOnce cI cJ cC a_h a_h_refused a_h_kind a_h_sweets a_h_gives a_h_tape a_h_letter a_h_letterAt a_h_one a_h_two a_h_kept a_h_trail a_h_crumb a_h_nextCrumb a_h_goal a_h_start a_h_sits a_h_bestSits a_h_without a_h_row y_h_taped y_h_at y_h_statements y_h_hasImage y_h_beforeMany y_h_found y_h_lots y_h_rowMany (m_many z_h_T) (m_odd z_h_T) (m_step z_h_T) (m_bag z_h_T) (m_strokes z_h_T) (m_gave z_h_T) (m_threw z_h_T) (m_isKeeping z_h_T) (m_cursor z_h_T) (m_kind z_h_T) (upd (m_sweets z_h_T) x1.toNatClampNeg q17) (m_gives z_h_T) (m_kept z_h_T)) := hD
        refine lv_iinc (v := (x1 + 1)) (lv' := [(1, .int (x1 + 1)), (0, .ref a_h)]) hx hb d_M_goesOnce_152 hl (k := 1) rfl (by rfl) (by decide) rfl (fun ls hl => ?_)
        refine lv_goto (tgt := 129) hx hb d_M_goesOnce_155 (by decide) ?_
        exact ih ((m_kind z_h_T), (upd (m_sweets z_h_T) x1.toNatClampNeg q17), (m_gives z_h_T), (m_kept z_h_T), (m_many z_h_T), (m_odd z_h_T), (m_step z_h_T), (m_bag z_h_T), (m_strokes z_h_T), (m_gave z_h_T), (m_threw z_h_T), (m_isKeeping z_h_T), (m_cursor z_h_T)) (x1 + 1) _ _ _ hf hP hD hS (lv_sub hl [1, 0] rfl)
  have L160 : ∀ (n : Nat) (z_h_T : MT) (x1 : Int32) (H : Heap) (locs : List Loc) (ls : Array Slot), f_M_goesOnce_L160 n z_h_T x1 = some q → va_P D classes (w_M_goesOnce cI cJ cC a_h a_h_refused a_h_kind a_h_sweets a_h_gives a_h_tape a_h_letter a_h_letterAt a_h_one a_h_two a_h_kept a_h_trail a_h_crumb a_h_nextCrumb a_h_goal a_h_start a_h_sits a_h_bestSits a_h_without a_h_row y_h_taped y_h_at y_h_statements y_h_hasImage y_h_beforeMany y_h_found y_h_lots y_h_rowMany (m_many z_h_T) (m_odd z_h_T) (m_step z_h_T) (m_bag z_h_T) (m_strokes z_h_T) (m_gave z_h_T) (m_threw z_h_T) (m_isKeeping z_h_T) (m_cursor z_h_T) (m_kind z_h_T) (m_sweets z_h_T) (m_gives z_h_T) (m_kept z_h_T)) H → va_D A (w_M_goesOnce cI cJ cC a_h a_h_refused a_h_kind a_h_sweets a_h_gives a_h_tape a_h_letter a_h_letterAt a_h_one a_h_two a_h_kept a_h_trail a_h_crumb a_h_nextCrumb a_h_goal a_h_start a_h_sits a_h_bestSits a_h_without a_h_row y_h_taped y_h_at y_h_statements y_h_hasImage y_h_beforeMany y_h_found y_h_lots y_h_rowMany (m_many z_h_T) (m_odd z_h_T) (m_step z_h_T) (m_bag z_h_T) (m_strokes z_h_T) (m_gave z_h_T) (m_threw z_h_T) (m_isKeeping z_h_T) (m_cursor z_h_T) (m_kind z_h_T) (m_sweets z_h_T) (m_gives z_h_T) (m_kept z_h_T)) → va_S A s.heap H locs → lv_has ls 2 [(0, .ref a_h), (1, .int x1)] → W p l e (xRm 2 45) s m args below meth c H locs 0 0 Q (F0 m 160 ls []) := by
    intro n
    induction n with
    | zero => intro z_h_T x1 H locs ls hf hP hD hS hl; exact nomatch (show (none : Option (MT)) = some q from hf)
    | succ n ih =>
      intro z_h_T x1 H locs ls hf hP hD hS hl
      refine lv_iload_n hx hb d_M_goesOnce_160 rfl (lv_at hl 1 rfl) ?_
      refine lv_aload_n hx hb d_M_goesOnce_161 rfl (lv_at hl 0 rfl) ?_
      refine va_get hx hb hT i_M hown hK hP 0 rfl rfl 4 (Nat.le_of_ble_eq_true rfl) (hT _ k_762) (fun _ h => h) rfl d_M_goesOnce_162 ?_
      refine lv_icmp_ge (tgt := 179) hx hb d_M_goesOnce_165 (by decide) (fun c19 => ?_) (fun c19 => ?_)
      · have hf := io_t hf c19
        refine lv_aload_n hx hb d_M_goesOnce_179 rfl (lv_at hl 0 rfl) ?_
        refine lv_dup hx hb d_M_goesOnce_180 rfl ?_
        refine va_get hx hb hT i_M hown hK hP 0 rfl rfl 8 (Nat.le_of_ble_eq_true rfl) (hT _ k_766) (fun _ h => h) rfl d_M_goesOnce_181 ?_
        refine lv_iconst (v := 1) hx hb d_M_goesOnce_184 (by decide) ?_
        refine lv_iadd hx hb d_M_goesOnce_185 ?_
        refine va_put (ty := .int) hx hb hT i_M t_M t_M_ok n_M hown hK hP hD hS 0 rfl rfl 8 (Nat.le_of_ble_eq_true rfl) (hT _ k_766) (fun _ h => h) rfl rfl rfl rfl (Nat.le_of_ble_eq_true rfl) d_M_goesOnce_186 (fun H locs hP hD hS => ?_)
        have hP : va_P D classes (w_M_goesOnce cI cJ cC a_h a_h_refused a_h_kind a_h_sweets a_h_gives a_h_tape a_h_letter a_h_letterAt a_h_one a_h_two a_h_kept a_h_trail a_h_crumb a_h_nextCrumb a_h_goal a_h_start a_h_sits a_h_bestSits a_h_without a_h_row y_h_taped y_h_at y_h_statements y_h_hasImage y_h_beforeMany y_h_found y_h_lots y_h_rowMany (m_many z_h_T) (m_odd z_h_T) (m_step z_h_T) (m_bag z_h_T) ((m_strokes z_h_T) + 1) (m_gave z_h_T) (m_threw z_h_T) (m_isKeeping z_h_T) (m_cursor z_h_T) (m_kind z_h_T) (m_sweets z_h_T) (m_gives z_h_T) (m_kept z_h_T)) H := hP
        have hD : va_D A (w_M_goesOnce cI cJ cC a_h a_h_refused a_h_kind a_h_sweets a_h_gives a_h_tape a_h_letter a_h_letterAt a_h_one a_h_two a_h_kept a_h_trail a_h_crumb a_h_nextCrumb a_h_goal a_h_start a_h_sits a_h_bestSits a_h_without a_h_row y_h_taped y_h_at y_h_statements y_h_hasImage y_h_beforeMany y_h_found y_h_lots y_h_rowMany (m_many z_h_T) (m_odd z_h_T) (m_step z_h_T) (m_bag z_h_T) ((m_strokes z_h_T) + 1) (m_gave z_h_T) (m_threw z_h_T) (m_isKeeping z_h_T) (m_cursor z_h_T) (m_kind z_h_T) (m_sweets z_h_T) (m_gives z_h_T) (m_kept z_h_T)) := hD
        have hq := Option.some.inj hf
        subst hq
        exact hret _ _ _ _ d_M_goesOnce_189 hP hD hS
      · have hf := io_f hf c19
        refine lv_aload_n hx hb d_M_goesOnce_168 rfl (lv_at hl 0 rfl) ?_
        refine lv_iload_n hx hb d_M_goesOnce_169 rfl (lv_at hl 1 rfl) ?_
        obtain ⟨q20, hq20, hf⟩ := io_b hf
        refine xcVV (wc := (w_M_mends cI cJ cC a_h a_h_refused a_h_kind a_h_sweets a_h_gives a_h_tape a_h_letter a_h_letterAt a_h_one a_h_two a_h_kept a_h_trail a_h_crumb a_h_nextCrumb a_h_goal a_h_start a_h_sits a_h_bestSits a_h_without a_h_row y_h_taped y_h_at y_h_statements y_h_hasImage y_h_beforeMany y_h_found y_h_lots y_h_rowMany (m_many z_h_T) (m_odd z_h_T) (m_step z_h_T) (m_bag z_h_T) (m_strokes z_h_T) (m_gave z_h_T) (m_threw z_h_T) (m_isKeeping z_h_T) (m_cursor z_h_T) (m_kind z_h_T) (m_sweets z_h_T) (m_gives z_h_T) (m_kept z_h_T))) (wc' := (w_M_mends cI cJ cC a_h a_h_refused a_h_kind a_h_sweets a_h_gives a_h_tape a_h_letter a_h_letterAt a_h_one a_h_two a_h_kept a_h_trail a_h_crumb a_h_nextCrumb a_h_goal a_h_start a_h_sits a_h_bestSits a_h_without a_h_row y_h_taped y_h_at y_h_statements y_h_hasImage y_h_beforeMany y_h_found y_h_lots y_h_rowMany (m_many q20) (m_odd q20) (m_step q20) (m_bag q20) (m_strokes q20) (m_gave q20) (m_threw q20) (m_isKeeping q20) (m_cursor q20) (m_kind q20) (m_sweets q20) (m_gives q20) (m_kept q20))) (ws' := (w_M_goesOnce cI cJ cC a_h a_h_refused a_h_kind a_h_sweets a_h_gives a_h_tape a_h_letter a_h_letterAt a_h_one a_h_two a_h_kept a_h_trail a_h_crumb a_h_nextCrumb a_h_goal a_h_start a_h_sits a_h_bestSits a_h_without a_h_row y_h_taped y_h_at y_h_statements y_h_hasImage y_h_beforeMany y_h_found y_h_lots y_h_rowMany (m_many q20) (m_odd q20) (m_step q20) (m_bag q20) (m_strokes q20) (m_gave q20) (m_threw q20) (m_isKeeping q20) (m_cursor q20) (m_kind q20) (m_sweets q20) (m_gives q20) (m_kept q20))) (As := [.int x1]) (rest := []) hx hb hml hown hT (c_M_mends (z_h_T := z_h_T) a_h a_h_refused a_h_kind a_h_sweets a_h_gives a_h_tape a_h_letter a_h_letterAt a_h_one a_h_two a_h_kept a_h_trail a_h_crumb a_h_nextCrumb a_h_goal a_h_start a_h_sits a_h_bestSits a_h_without a_h_row y_h_taped y_h_at y_h_statements y_h_hasImage y_h_beforeMany y_h_found y_h_lots y_h_rowMany hq20) k_979 k_981 ks_39 k_8 k_982 hd_M_mends ⟨Nat.le_of_ble_eq_true rfl, Nat.le_of_ble_eq_true rfl⟩ xE0_ok trivial hA hK hP hD hS [0, 1, 2, 3, 4] [] [0, 1, 2, 3, 4] rfl rfl rfl rfl rfl rfl rfl rfl rfl rfl hl.1 rfl (Nat.le_of_ble_eq_true rfl) ⟨Nat.zero_le _, Nat.zero_le _⟩ d_M_goesOnce_170 (fun H locs hP hD hS => ?_)
        refine lv_iinc (v := (x1 + 1)) (lv' := [(1, .int (x1 + 1)), (0, .ref a_h)]) hx hb d_M_goesOnce_173 hl (k := 1) rfl (by rfl) (by decide) rfl (fun ls hl => ?_)
        refine lv_goto (tgt := 160) hx hb d_M_goesOnce_176 (by decide) ?_
        exact ih q20 (x1 + 1) _ _ _ hf hP hD hS (lv_sub hl [1, 0] rfl)
  refine lv_iconst (v := 0) hx hb d_M_goesOnce_0 (by decide) ?_
  refine lv_istore_n (lv' := [(1, .int 0), (0, .ref a_h)]) hx hb d_M_goesOnce_1 rfl hl (by decide) rfl (fun ls hl => ?_)
  refine L2 _ (fun z_h_T_4 H locs ls hf hP hD hS hl => ?_) FU z_h_T 0 _ _ _ hf hP hD hS (lv_sub hl [1, 0] rfl)
  refine lv_iconst (v := 0) hx hb d_M_goesOnce_27 (by decide) ?_
  refine lv_istore_n (lv' := [(1, .int 0), (0, .ref a_h)]) hx hb d_M_goesOnce_28 rfl hl (by decide) rfl (fun ls hl => ?_)
  refine L29 _ (fun z_h_T_14 H locs ls hf hP hD hS hl => ?_) FU z_h_T_4 0 _ _ _ hf hP hD hS (lv_sub hl [1, 0] rfl)
  refine lv_iconst (v := 0) hx hb d_M_goesOnce_127 (by decide) ?_
  refine lv_istore_n (lv' := [(1, .int 0), (0, .ref a_h)]) hx hb d_M_goesOnce_128 rfl hl (by decide) rfl (fun ls hl => ?_)
  refine L129 _ (fun z_h_T_18 H locs ls hf hP hD hS hl => ?_) FU z_h_T_14 0 _ _ _ hf hP hD hS (lv_sub hl [1, 0] rfl)
  refine lv_iconst (v := 0) hx hb d_M_goesOnce_158 (by decide) ?_
  refine lv_istore_n (lv' := [(1, .int 0), (0, .ref a_h)]) hx hb d_M_goesOnce_159 rfl hl (by decide) rfl (fun ls hl => ?_)
  exact L160 FU z_h_T_18 0 _ _ _ hf hP hD hS (lv_sub hl [1, 0] rfl)
abbrev w_M_goes (cI cJ cC : ClassId) (a_h a_h_refused a_h_kind a_h_sweets a_h_gives a_h_tape a_h_letter a_h_letterAt a_h_one a_h_two a_h_kept a_h_trail a_h_crumb a_h_nextCrumb a_h_goal a_h_start a_h_sits a_h_bestSits a_h_without a_h_row : Nat) (y_h_taped : Int32) (y_h_at : Int32) (y_h_statements : Int32) (y_h_hasImage : Int32) (y_h_beforeMany : Int32) (y_h_found : Int32) (y_h_lots : Int32) (y_h_rowMany : Int32) (p_h_many : Int32) (p_h_odd : Int32) (p_h_step : Int32) (p_h_bag : Int32) (p_h_strokes : Int32) (p_h_gave : Int32) (p_h_threw : Int32) (p_h_isKeeping : Int32) (p_h_cursor : Int32) (p_h_kind : (Nat → Int32)) (p_h_sweets : (Nat → Int32)) (p_h_gives : (Nat → Int32)) (p_h_kept : (Nat → Int32)) : va_W := [(a_h, .inr (7, [.ref a_h_refused, .ref a_h_kind, .ref a_h_sweets, .ref a_h_gives, .int p_h_many, .int p_h_odd, .int p_h_step, .int p_h_bag, .int p_h_strokes, .int p_h_gave, .int p_h_threw, .ref a_h_tape, .ref a_h_letter, .ref a_h_letterAt, .ref a_h_one, .ref a_h_two, .int y_h_taped, .int y_h_at, .int y_h_statements, .ref a_h_kept, .int y_h_hasImage, .int p_h_isKeeping, .int p_h_cursor, .ref a_h_trail, .ref a_h_crumb, .ref a_h_nextCrumb, .ref a_h_goal, .ref a_h_start, .int y_h_beforeMany, .int y_h_found, .ref a_h_sits, .ref a_h_bestSits, .ref a_h_without, .int y_h_lots, .ref a_h_row, .int y_h_rowMany])), (a_h_kind, .inl (cI, (8, .inl p_h_kind))), (a_h_sweets, .inl (cI, (8, .inl p_h_sweets))), (a_h_gives, .inl (cI, (8, .inl p_h_gives))), (a_h_kept, .inl (cI, (90, .inl p_h_kept)))]
theorem d_M_goes_0 : decode b_M_goes 0 = .ok (.aload_n 0, 1) := by decide +kernel
theorem d_M_goes_1 : decode b_M_goes 1 = .ok (.getfield 140, 3) := by decide +kernel
theorem d_M_goes_4 : decode b_M_goes 4 = .ok (.istore_n 2, 1) := by decide +kernel
theorem d_M_goes_5 : decode b_M_goes 5 = .ok (.iconst 0, 1) := by decide +kernel
theorem d_M_goes_6 : decode b_M_goes 6 = .ok (.istore_n 3, 1) := by decide +kernel
theorem d_M_goes_7 : decode b_M_goes 7 = .ok (.iload_n 3, 1) := by decide +kernel
theorem d_M_goes_8 : decode b_M_goes 8 = .ok (.iload_n 1, 1) := by decide +kernel
theorem d_M_goes_9 : decode b_M_goes 9 = .ok (.if_icmp .ge 13, 3) := by decide +kernel
theorem d_M_goes_12 : decode b_M_goes 12 = .ok (.aload_n 0, 1) := by decide +kernel
theorem d_M_goes_13 : decode b_M_goes 13 = .ok (.invokevirtual 165, 3) := by decide +kernel
theorem d_M_goes_16 : decode b_M_goes 16 = .ok (.iinc 3 1, 3) := by decide +kernel
theorem d_M_goes_19 : decode b_M_goes 19 = .ok (.goto (-12), 3) := by decide +kernel
theorem d_M_goes_22 : decode b_M_goes 22 = .ok (.aload_n 0, 1) := by decide +kernel
theorem d_M_goes_23 : decode b_M_goes 23 = .ok (.getfield 140, 3) := by decide +kernel
theorem d_M_goes_26 : decode b_M_goes 26 = .ok (.iload_n 2, 1) := by decide +kernel
theorem d_M_goes_27 : decode b_M_goes 27 = .ok (.isub, 1) := by decide +kernel
theorem d_M_goes_28 : decode b_M_goes 28 = .ok (.ireturn, 1) := by decide +kernel
set_option maxHeartbeats 4000000 in
set_option maxRecDepth 100000 in
theorem c_M_goes {l : Launch} {D : va_G} {cI cJ cC : ClassId} (a_h a_h_refused a_h_kind a_h_sweets a_h_gives a_h_tape a_h_letter a_h_letterAt a_h_one a_h_two a_h_kept a_h_trail a_h_crumb a_h_nextCrumb a_h_goal a_h_start a_h_sits a_h_bestSits a_h_without a_h_row : Nat) (y_h_taped : Int32) (y_h_at : Int32) (y_h_statements : Int32) (y_h_hasImage : Int32) (y_h_beforeMany : Int32) (y_h_found : Int32) (y_h_lots : Int32) (y_h_rowMany : Int32) {z_h_T : MT} {x1 : Int32} {q : Int32 × MT} (hf : f_M_goes z_h_T x1 = some q) : xI l y_M_goes b_M_goes 4 .int 3 66 D (tyK cI cJ cC) xE0 [.ref a_h, .int x1] (w_M_goes cI cJ cC a_h a_h_refused a_h_kind a_h_sweets a_h_gives a_h_tape a_h_letter a_h_letterAt a_h_one a_h_two a_h_kept a_h_trail a_h_crumb a_h_nextCrumb a_h_goal a_h_start a_h_sits a_h_bestSits a_h_without a_h_row y_h_taped y_h_at y_h_statements y_h_hasImage y_h_beforeMany y_h_found y_h_lots y_h_rowMany (m_many z_h_T) (m_odd z_h_T) (m_step z_h_T) (m_bag z_h_T) (m_strokes z_h_T) (m_gave z_h_T) (m_threw z_h_T) (m_isKeeping z_h_T) (m_cursor z_h_T) (m_kind z_h_T) (m_sweets z_h_T) (m_gives z_h_T) (m_kept z_h_T)) q.1 (w_M_goes cI cJ cC a_h a_h_refused a_h_kind a_h_sweets a_h_gives a_h_tape a_h_letter a_h_letterAt a_h_one a_h_two a_h_kept a_h_trail a_h_crumb a_h_nextCrumb a_h_goal a_h_start a_h_sits a_h_bestSits a_h_without a_h_row y_h_taped y_h_at y_h_statements y_h_hasImage y_h_beforeMany y_h_found y_h_lots y_h_rowMany (m_many q.2) (m_odd q.2) (m_step q.2) (m_bag q.2) (m_strokes q.2) (m_gave q.2) (m_threw q.2) (m_isKeeping q.2) (m_cursor q.2) (m_kind q.2) (m_sweets q.2) (m_gives q.2) (m_kept q.2)) := by
  refine xI_of (by decide) (Nat.le_of_ble_eq_true rfl) ?_
  intro p e s m args below meth c A Q hx hb hml hown hT hA hP hD hK hS hE hret ls hl
  have hown : s.vm.findClass R_M = some m.cls := hown
  have hl : lv_has ls 4 [(0, .ref a_h), (1, .int x1)] := hl
  unfold f_M_goes at hf
  have L7 : ∀ (x2 : Int32), ∀ (n : Nat) (z_h_T : MT) (x3 : Int32) (H : Heap) (locs : List Loc) (ls : Array Slot), f_M_goes_L7 x1 x2 n z_h_T x3 = some q → va_P D classes (w_M_goes cI cJ cC a_h a_h_refused a_h_kind a_h_sweets a_h_gives a_h_tape a_h_letter a_h_letterAt a_h_one a_h_two a_h_kept a_h_trail a_h_crumb a_h_nextCrumb a_h_goal a_h_start a_h_sits a_h_bestSits a_h_without a_h_row y_h_taped y_h_at y_h_statements y_h_hasImage y_h_beforeMany y_h_found y_h_lots y_h_rowMany (m_many z_h_T) (m_odd z_h_T) (m_step z_h_T) (m_bag z_h_T) (m_strokes z_h_T) (m_gave z_h_T) (m_threw z_h_T) (m_isKeeping z_h_T) (m_cursor z_h_T) (m_kind z_h_T) (m_sweets z_h_T) (m_gives z_h_T) (m_kept z_h_T)) H → va_D A (w_M_goes cI cJ cC a_h a_h_refused a_h_kind a_h_sweets a_h_gives a_h_tape a_h_letter a_h_letterAt a_h_one a_h_two a_h_kept a_h_trail a_h_crumb a_h_nextCrumb a_h_goal a_h_start a_h_sits a_h_bestSits a_h_without a_h_row y_h_taped y_h_at y_h_statements y_h_hasImage y_h_beforeMany y_h_found y_h_lots y_h_rowMany (m_many z_h_T) (m_odd z_h_T) (m_step z_h_T) (m_bag z_h_T) (m_strokes z_h_T) (m_gave z_h_T) (m_threw z_h_T) (m_isKeeping z_h_T) (m_cursor z_h_T) (m_kind z_h_T) (m_sweets z_h_T) (m_gives z_h_T) (m_kept z_h_T)) → va_S A s.heap H locs → lv_has ls 4 [(0, .ref a_h), (1, .int x1), (2, .int x2), (3, .int x3)] → W p l e (xRm 3 66) s m args below meth c H locs 0 0 Q (F0 m 7 ls []) := by
    intro x2 n
    induction n with
    | zero => intro z_h_T x3 H locs ls hf hP hD hS hl; exact nomatch (show (none : Option (Int32 × MT)) = some q from hf)
    | succ n ih =>
      intro z_h_T x3 H locs ls hf hP hD hS hl
      refine lv_iload_n hx hb d_M_goes_7 rfl (lv_at hl 3 rfl) ?_
      refine lv_iload_n hx hb d_M_goes_8 rfl (lv_at hl 1 rfl) ?_
      refine lv_icmp_ge (tgt := 22) hx hb d_M_goes_9 (by decide) (fun c1 => ?_) (fun c1 => ?_)
      · have hf := io_t hf c1
        refine lv_aload_n hx hb d_M_goes_22 rfl (lv_at hl 0 rfl) ?_
        refine va_get hx hb hT i_M hown hK hP 0 rfl rfl 9 (Nat.le_of_ble_eq_true rfl) (hT _ k_767) (fun _ h => h) rfl d_M_goes_23 ?_
        refine lv_iload_n hx hb d_M_goes_26 rfl (lv_at hl 2 rfl) ?_
        refine lv_isub hx hb d_M_goes_27 ?_
        have hq := Option.some.inj hf
        subst hq
        exact hret _ _ _ _ _ d_M_goes_28 rfl rfl hP hD hS
      · have hf := io_f hf c1
        refine lv_aload_n hx hb d_M_goes_12 rfl (lv_at hl 0 rfl) ?_
        obtain ⟨q2, hq2, hf⟩ := io_b hf
        refine xcVV (wc := (w_M_goesOnce cI cJ cC a_h a_h_refused a_h_kind a_h_sweets a_h_gives a_h_tape a_h_letter a_h_letterAt a_h_one a_h_two a_h_kept a_h_trail a_h_crumb a_h_nextCrumb a_h_goal a_h_start a_h_sits a_h_bestSits a_h_without a_h_row y_h_taped y_h_at y_h_statements y_h_hasImage y_h_beforeMany y_h_found y_h_lots y_h_rowMany (m_many z_h_T) (m_odd z_h_T) (m_step z_h_T) (m_bag z_h_T) (m_strokes z_h_T) (m_gave z_h_T) (m_threw z_h_T) (m_isKeeping z_h_T) (m_cursor z_h_T) (m_kind z_h_T) (m_sweets z_h_T) (m_gives z_h_T) (m_kept z_h_T))) (wc' := (w_M_goesOnce cI cJ cC a_h a_h_refused a_h_kind a_h_sweets a_h_gives a_h_tape a_h_letter a_h_letterAt a_h_one a_h_two a_h_kept a_h_trail a_h_crumb a_h_nextCrumb a_h_goal a_h_start a_h_sits a_h_bestSits a_h_without a_h_row y_h_taped y_h_at y_h_statements y_h_hasImage y_h_beforeMany y_h_found y_h_lots y_h_rowMany (m_many q2) (m_odd q2) (m_step q2) (m_bag q2) (m_strokes q2) (m_gave q2) (m_threw q2) (m_isKeeping q2) (m_cursor q2) (m_kind q2) (m_sweets q2) (m_gives q2) (m_kept q2))) (ws' := (w_M_goes cI cJ cC a_h a_h_refused a_h_kind a_h_sweets a_h_gives a_h_tape a_h_letter a_h_letterAt a_h_one a_h_two a_h_kept a_h_trail a_h_crumb a_h_nextCrumb a_h_goal a_h_start a_h_sits a_h_bestSits a_h_without a_h_row y_h_taped y_h_at y_h_statements y_h_hasImage y_h_beforeMany y_h_found y_h_lots y_h_rowMany (m_many q2) (m_odd q2) (m_step q2) (m_bag q2) (m_strokes q2) (m_gave q2) (m_threw q2) (m_isKeeping q2) (m_cursor q2) (m_kind q2) (m_sweets q2) (m_gives q2) (m_kept q2))) (As := []) (rest := []) hx hb hml hown hT (c_M_goesOnce (z_h_T := z_h_T) a_h a_h_refused a_h_kind a_h_sweets a_h_gives a_h_tape a_h_letter a_h_letterAt a_h_one a_h_two a_h_kept a_h_trail a_h_crumb a_h_nextCrumb a_h_goal a_h_start a_h_sits a_h_bestSits a_h_without a_h_row y_h_taped y_h_at y_h_statements y_h_hasImage y_h_beforeMany y_h_found y_h_lots y_h_rowMany hq2) k_968 k_970 ks_37 k_8 k_971 hd_M_goesOnce ⟨Nat.le_of_ble_eq_true rfl, Nat.le_of_ble_eq_true rfl⟩ xE0_ok trivial hA hK hP hD hS [0, 1, 2, 3, 4] [] [0, 1, 2, 3, 4] rfl rfl rfl rfl rfl rfl rfl rfl rfl rfl hl.1 rfl (Nat.le_of_ble_eq_true rfl) ⟨Nat.zero_le _, Nat.zero_le _⟩ d_M_goes_13 (fun H locs hP hD hS => ?_)
        refine lv_iinc (v := (x3 + 1)) (lv' := [(3, .int (x3 + 1)), (0, .ref a_h), (1, .int x1), (2, .int x2)]) hx hb d_M_goes_16 hl (k := 3) rfl (by rfl) (by decide) rfl (fun ls hl => ?_)
        refine lv_goto (tgt := 7) hx hb d_M_goes_19 (by decide) ?_
        exact ih q2 (x3 + 1) _ _ _ hf hP hD hS (lv_sub hl [1, 2, 3, 0] rfl)
  refine lv_aload_n hx hb d_M_goes_0 rfl (lv_at hl 0 rfl) ?_
  refine va_get hx hb hT i_M hown hK hP 0 rfl rfl 9 (Nat.le_of_ble_eq_true rfl) (hT _ k_767) (fun _ h => h) rfl d_M_goes_1 ?_
  refine lv_istore_n (lv' := [(2, .int (m_gave z_h_T)), (0, .ref a_h), (1, .int x1)]) hx hb d_M_goes_4 rfl hl (by decide) rfl (fun ls hl => ?_)
  refine lv_iconst (v := 0) hx hb d_M_goes_5 (by decide) ?_
  refine lv_istore_n (lv' := [(3, .int 0), (2, .int (m_gave z_h_T)), (0, .ref a_h), (1, .int x1)]) hx hb d_M_goes_6 rfl hl (by decide) rfl (fun ls hl => ?_)
  exact L7 (m_gave z_h_T) FU z_h_T 0 _ _ _ hf hP hD hS (lv_sub hl [2, 3, 1, 0] rfl)
abbrev w_M_child (cI cJ cC : ClassId) (a_h a_h_refused a_h_kind a_h_sweets a_h_gives a_h_tape a_h_letter a_h_letterAt a_h_one a_h_two a_h_kept a_h_trail a_h_crumb a_h_nextCrumb a_h_goal a_h_start a_h_sits a_h_bestSits a_h_without a_h_row : Nat) (y_h_taped : Int32) (y_h_at : Int32) (y_h_statements : Int32) (y_h_hasImage : Int32) (y_h_beforeMany : Int32) (y_h_found : Int32) (y_h_lots : Int32) (y_h_rowMany : Int32) (p_h_many : Int32) (p_h_odd : Int32) (p_h_step : Int32) (p_h_bag : Int32) (p_h_strokes : Int32) (p_h_gave : Int32) (p_h_threw : Int32) (p_h_isKeeping : Int32) (p_h_cursor : Int32) (p_h_refused : (Nat → Int32)) (p_h_kind : (Nat → Int32)) (p_h_sweets : (Nat → Int32)) : va_W := [(a_h, .inr (7, [.ref a_h_refused, .ref a_h_kind, .ref a_h_sweets, .ref a_h_gives, .int p_h_many, .int p_h_odd, .int p_h_step, .int p_h_bag, .int p_h_strokes, .int p_h_gave, .int p_h_threw, .ref a_h_tape, .ref a_h_letter, .ref a_h_letterAt, .ref a_h_one, .ref a_h_two, .int y_h_taped, .int y_h_at, .int y_h_statements, .ref a_h_kept, .int y_h_hasImage, .int p_h_isKeeping, .int p_h_cursor, .ref a_h_trail, .ref a_h_crumb, .ref a_h_nextCrumb, .ref a_h_goal, .ref a_h_start, .int y_h_beforeMany, .int y_h_found, .ref a_h_sits, .ref a_h_bestSits, .ref a_h_without, .int y_h_lots, .ref a_h_row, .int y_h_rowMany])), (a_h_refused, .inl (cI, (7, .inl p_h_refused))), (a_h_kind, .inl (cI, (8, .inl p_h_kind))), (a_h_sweets, .inl (cI, (8, .inl p_h_sweets)))]
theorem d_M_child_0 : decode b_M_child 0 = .ok (.aload_n 0, 1) := by decide +kernel
theorem d_M_child_1 : decode b_M_child 1 = .ok (.iload_n 1, 1) := by decide +kernel
theorem d_M_child_2 : decode b_M_child 2 = .ok (.invokevirtual 168, 3) := by decide +kernel
theorem d_M_child_5 : decode b_M_child 5 = .ok (.ifCond .ne 9, 3) := by decide +kernel
theorem d_M_child_8 : decode b_M_child 8 = .ok (.aload_n 0, 1) := by decide +kernel
theorem d_M_child_9 : decode b_M_child 9 = .ok (.iconst (-1), 1) := by decide +kernel
theorem d_M_child_10 : decode b_M_child 10 = .ok (.invokevirtual 88, 3) := by decide +kernel
theorem d_M_child_13 : decode b_M_child 13 = .ok (.ireturn, 1) := by decide +kernel
theorem d_M_child_14 : decode b_M_child 14 = .ok (.iload_n 2, 1) := by decide +kernel
theorem d_M_child_15 : decode b_M_child 15 = .ok (.tableswitch 77 0 3 #[29, 36, 43, 49], 29) := by decide +kernel
theorem d_M_child_44 : decode b_M_child 44 = .ok (.aload_n 0, 1) := by decide +kernel
theorem d_M_child_45 : decode b_M_child 45 = .ok (.getfield 13, 3) := by decide +kernel
theorem d_M_child_48 : decode b_M_child 48 = .ok (.iload_n 1, 1) := by decide +kernel
theorem d_M_child_49 : decode b_M_child 49 = .ok (.iaload, 1) := by decide +kernel
theorem d_M_child_50 : decode b_M_child 50 = .ok (.ireturn, 1) := by decide +kernel
theorem d_M_child_51 : decode b_M_child 51 = .ok (.aload_n 0, 1) := by decide +kernel
theorem d_M_child_52 : decode b_M_child 52 = .ok (.getfield 16, 3) := by decide +kernel
theorem d_M_child_55 : decode b_M_child 55 = .ok (.iload_n 1, 1) := by decide +kernel
theorem d_M_child_56 : decode b_M_child 56 = .ok (.iaload, 1) := by decide +kernel
theorem d_M_child_57 : decode b_M_child 57 = .ok (.ireturn, 1) := by decide +kernel
theorem d_M_child_58 : decode b_M_child 58 = .ok (.aload_n 0, 1) := by decide +kernel
theorem d_M_child_59 : decode b_M_child 59 = .ok (.iload_n 1, 1) := by decide +kernel
theorem d_M_child_60 : decode b_M_child 60 = .ok (.invokevirtual 155, 3) := by decide +kernel
theorem d_M_child_63 : decode b_M_child 63 = .ok (.ireturn, 1) := by decide +kernel
theorem d_M_child_64 : decode b_M_child 64 = .ok (.aload_n 0, 1) := by decide +kernel
theorem d_M_child_65 : decode b_M_child 65 = .ok (.iload_n 1, 1) := by decide +kernel
theorem d_M_child_66 : decode b_M_child 66 = .ok (.invokevirtual 155, 3) := by decide +kernel
theorem d_M_child_69 : decode b_M_child 69 = .ok (.ifCond .ne 7, 3) := by decide +kernel
theorem d_M_child_72 : decode b_M_child 72 = .ok (.iconst 0, 1) := by decide +kernel
theorem d_M_child_73 : decode b_M_child 73 = .ok (.goto 18, 3) := by decide +kernel
theorem d_M_child_76 : decode b_M_child 76 = .ok (.aload_n 0, 1) := by decide +kernel
theorem d_M_child_77 : decode b_M_child 77 = .ok (.getfield 13, 3) := by decide +kernel
theorem d_M_child_80 : decode b_M_child 80 = .ok (.iload_n 1, 1) := by decide +kernel
theorem d_M_child_81 : decode b_M_child 81 = .ok (.iaload, 1) := by decide +kernel
theorem d_M_child_82 : decode b_M_child 82 = .ok (.iconst 1, 1) := by decide +kernel
theorem d_M_child_83 : decode b_M_child 83 = .ok (.if_icmp .ne 7, 3) := by decide +kernel
theorem d_M_child_86 : decode b_M_child 86 = .ok (.iconst 2, 1) := by decide +kernel
theorem d_M_child_87 : decode b_M_child 87 = .ok (.goto 4, 3) := by decide +kernel
theorem d_M_child_90 : decode b_M_child 90 = .ok (.iconst 1, 1) := by decide +kernel
theorem d_M_child_91 : decode b_M_child 91 = .ok (.ireturn, 1) := by decide +kernel
theorem d_M_child_92 : decode b_M_child 92 = .ok (.aload_n 0, 1) := by decide +kernel
theorem d_M_child_93 : decode b_M_child 93 = .ok (.bipush (-2), 2) := by decide +kernel
theorem d_M_child_95 : decode b_M_child 95 = .ok (.invokevirtual 88, 3) := by decide +kernel
theorem d_M_child_98 : decode b_M_child 98 = .ok (.ireturn, 1) := by decide +kernel
set_option maxHeartbeats 4000000 in
set_option maxRecDepth 100000 in
theorem c_M_child {l : Launch} {D : va_G} {cI cJ cC : ClassId} (a_h a_h_refused a_h_kind a_h_sweets a_h_gives a_h_tape a_h_letter a_h_letterAt a_h_one a_h_two a_h_kept a_h_trail a_h_crumb a_h_nextCrumb a_h_goal a_h_start a_h_sits a_h_bestSits a_h_without a_h_row : Nat) (y_h_taped : Int32) (y_h_at : Int32) (y_h_statements : Int32) (y_h_hasImage : Int32) (y_h_beforeMany : Int32) (y_h_found : Int32) (y_h_lots : Int32) (y_h_rowMany : Int32) {z_h_T : MT} {z_h_refused : (Nat → Int32)} {x1 : Int32} {x2 : Int32} {q : Int32 × (Nat → Int32)} (hf : f_M_child z_h_T z_h_refused x1 x2 = some q) : xI l y_M_child b_M_child 3 .int 2 45 D (tyK cI cJ cC) xE0 [.ref a_h, .int x1, .int x2] (w_M_child cI cJ cC a_h a_h_refused a_h_kind a_h_sweets a_h_gives a_h_tape a_h_letter a_h_letterAt a_h_one a_h_two a_h_kept a_h_trail a_h_crumb a_h_nextCrumb a_h_goal a_h_start a_h_sits a_h_bestSits a_h_without a_h_row y_h_taped y_h_at y_h_statements y_h_hasImage y_h_beforeMany y_h_found y_h_lots y_h_rowMany (m_many z_h_T) (m_odd z_h_T) (m_step z_h_T) (m_bag z_h_T) (m_strokes z_h_T) (m_gave z_h_T) (m_threw z_h_T) (m_isKeeping z_h_T) (m_cursor z_h_T) z_h_refused (m_kind z_h_T) (m_sweets z_h_T)) q.1 (w_M_child cI cJ cC a_h a_h_refused a_h_kind a_h_sweets a_h_gives a_h_tape a_h_letter a_h_letterAt a_h_one a_h_two a_h_kept a_h_trail a_h_crumb a_h_nextCrumb a_h_goal a_h_start a_h_sits a_h_bestSits a_h_without a_h_row y_h_taped y_h_at y_h_statements y_h_hasImage y_h_beforeMany y_h_found y_h_lots y_h_rowMany (m_many z_h_T) (m_odd z_h_T) (m_step z_h_T) (m_bag z_h_T) (m_strokes z_h_T) (m_gave z_h_T) (m_threw z_h_T) (m_isKeeping z_h_T) (m_cursor z_h_T) q.2 (m_kind z_h_T) (m_sweets z_h_T)) := by
  refine xI_of (by decide) (Nat.le_of_ble_eq_true rfl) ?_
  intro p e s m args below meth c A Q hx hb hml hown hT hA hP hD hK hS hE hret ls hl
  have hown : s.vm.findClass R_M = some m.cls := hown
  have hl : lv_has ls 3 [(0, .ref a_h), (1, .int x1), (2, .int x2)] := hl
  unfold f_M_child at hf
  refine lv_aload_n hx hb d_M_child_0 rfl (lv_at hl 0 rfl) ?_
  refine lv_iload_n hx hb d_M_child_1 rfl (lv_at hl 1 rfl) ?_
  obtain ⟨q1, hq1, hf⟩ := io_b hf
  refine xcVI (wc := (w_M_isChild cI cJ cC a_h a_h_refused a_h_kind a_h_sweets a_h_gives a_h_tape a_h_letter a_h_letterAt a_h_one a_h_two a_h_kept a_h_trail a_h_crumb a_h_nextCrumb a_h_goal a_h_start a_h_sits a_h_bestSits a_h_without a_h_row y_h_taped y_h_at y_h_statements y_h_hasImage y_h_beforeMany y_h_found y_h_lots y_h_rowMany (m_many z_h_T) (m_odd z_h_T) (m_step z_h_T) (m_bag z_h_T) (m_strokes z_h_T) (m_gave z_h_T) (m_threw z_h_T) (m_isKeeping z_h_T) (m_cursor z_h_T))) (wc' := (w_M_isChild cI cJ cC a_h a_h_refused a_h_kind a_h_sweets a_h_gives a_h_tape a_h_letter a_h_letterAt a_h_one a_h_two a_h_kept a_h_trail a_h_crumb a_h_nextCrumb a_h_goal a_h_start a_h_sits a_h_bestSits a_h_without a_h_row y_h_taped y_h_at y_h_statements y_h_hasImage y_h_beforeMany y_h_found y_h_lots y_h_rowMany (m_many z_h_T) (m_odd z_h_T) (m_step z_h_T) (m_bag z_h_T) (m_strokes z_h_T) (m_gave z_h_T) (m_threw z_h_T) (m_isKeeping z_h_T) (m_cursor z_h_T))) (ws' := (w_M_child cI cJ cC a_h a_h_refused a_h_kind a_h_sweets a_h_gives a_h_tape a_h_letter a_h_letterAt a_h_one a_h_two a_h_kept a_h_trail a_h_crumb a_h_nextCrumb a_h_goal a_h_start a_h_sits a_h_bestSits a_h_without a_h_row y_h_taped y_h_at y_h_statements y_h_hasImage y_h_beforeMany y_h_found y_h_lots y_h_rowMany (m_many z_h_T) (m_odd z_h_T) (m_step z_h_T) (m_bag z_h_T) (m_strokes z_h_T) (m_gave z_h_T) (m_threw z_h_T) (m_isKeeping z_h_T) (m_cursor z_h_T) z_h_refused (m_kind z_h_T) (m_sweets z_h_T))) (As := [.int x1]) (rest := []) hx hb hml hown hT (c_M_isChild (z_h_T := z_h_T) a_h a_h_refused a_h_kind a_h_sweets a_h_gives a_h_tape a_h_letter a_h_letterAt a_h_one a_h_two a_h_kept a_h_trail a_h_crumb a_h_nextCrumb a_h_goal a_h_start a_h_sits a_h_bestSits a_h_without a_h_row y_h_taped y_h_at y_h_statements y_h_hasImage y_h_beforeMany y_h_found y_h_lots y_h_rowMany hq1) k_924 k_926 ks_31 k_8 k_927 hd_M_isChild ⟨Nat.le_of_ble_eq_true rfl, Nat.le_of_ble_eq_true rfl⟩ xE0_ok trivial hA hK hP hD hS [0] [1, 2, 3] [3, 0, 1, 2] rfl rfl rfl rfl rfl rfl rfl rfl rfl rfl hl.1 rfl (Nat.le_of_ble_eq_true rfl) ⟨Nat.zero_le _, Nat.zero_le _⟩ d_M_child_2 (fun H locs hP hD hS => ?_)
  refine lv_if_ne (tgt := 14) hx hb d_M_child_5 (by decide) (fun c2 => ?_) (fun c2 => ?_)
  · have hf := io_f hf c2
    refine lv_iload_n hx hb d_M_child_14 rfl (lv_at hl 2 rfl) ?_
    rcases Decidable.em (x2 = 0) with c3 | c3
    · have hf := io_t hf c3
      refine lv_tableIn (off := 29) (tgt := 44) hx hb d_M_child_15 (by rw [c3]; decide +kernel) (by rw [c3]; decide +kernel) (by rw [c3]; rfl) (by decide) ?_
      refine lv_aload_n hx hb d_M_child_44 rfl (lv_at hl 0 rfl) ?_
      refine va_get hx hb hT i_M hown hK hP 0 rfl rfl 1 (Nat.le_of_ble_eq_true rfl) (hT _ k_759) (fun _ h => h) rfl d_M_child_45 ?_
      refine lv_iload_n hx hb d_M_child_48 rfl (lv_at hl 1 rfl) ?_
      obtain ⟨c4, hf⟩ := io_n hf
      refine x_iald hx hb hK hP 2 0 rfl rfl (j := x1.toNatClampNeg) rfl c4 d_M_child_49 ?_
      have hq := Option.some.inj hf
      subst hq
      exact hret _ _ _ _ _ d_M_child_50 rfl rfl hP hD hS
    · have hf := io_f hf c3
      rcases Decidable.em (x2 = 1) with c5 | c5
      · have hf := io_t hf c5
        refine lv_tableIn (off := 36) (tgt := 51) hx hb d_M_child_15 (by rw [c5]; decide +kernel) (by rw [c5]; decide +kernel) (by rw [c5]; rfl) (by decide) ?_
        refine lv_aload_n hx hb d_M_child_51 rfl (lv_at hl 0 rfl) ?_
        refine va_get hx hb hT i_M hown hK hP 0 rfl rfl 2 (Nat.le_of_ble_eq_true rfl) (hT _ k_760) (fun _ h => h) rfl d_M_child_52 ?_
        refine lv_iload_n hx hb d_M_child_55 rfl (lv_at hl 1 rfl) ?_
        obtain ⟨c6, hf⟩ := io_n hf
        refine x_iald hx hb hK hP 3 0 rfl rfl (j := x1.toNatClampNeg) rfl c6 d_M_child_56 ?_
        have hq := Option.some.inj hf
        subst hq
        exact hret _ _ _ _ _ d_M_child_57 rfl rfl hP hD hS
      · have hf := io_f hf c5
        rcases Decidable.em (x2 = 2) with c7 | c7
        · have hf := io_t hf c7
          refine lv_tableIn (off := 43) (tgt := 58) hx hb d_M_child_15 (by rw [c7]; decide +kernel) (by rw [c7]; decide +kernel) (by rw [c7]; rfl) (by decide) ?_
          refine lv_aload_n hx hb d_M_child_58 rfl (lv_at hl 0 rfl) ?_
          refine lv_iload_n hx hb d_M_child_59 rfl (lv_at hl 1 rfl) ?_
          obtain ⟨q8, hq8, hf⟩ := io_b hf
          refine xcVI (wc := (w_M_givesOf cI cJ cC a_h a_h_refused a_h_kind a_h_sweets a_h_gives a_h_tape a_h_letter a_h_letterAt a_h_one a_h_two a_h_kept a_h_trail a_h_crumb a_h_nextCrumb a_h_goal a_h_start a_h_sits a_h_bestSits a_h_without a_h_row y_h_taped y_h_at y_h_statements y_h_hasImage y_h_beforeMany y_h_found y_h_lots y_h_rowMany (m_many z_h_T) (m_odd z_h_T) (m_step z_h_T) (m_bag z_h_T) (m_strokes z_h_T) (m_gave z_h_T) (m_threw z_h_T) (m_isKeeping z_h_T) (m_cursor z_h_T) (m_kind z_h_T) (m_sweets z_h_T))) (wc' := (w_M_givesOf cI cJ cC a_h a_h_refused a_h_kind a_h_sweets a_h_gives a_h_tape a_h_letter a_h_letterAt a_h_one a_h_two a_h_kept a_h_trail a_h_crumb a_h_nextCrumb a_h_goal a_h_start a_h_sits a_h_bestSits a_h_without a_h_row y_h_taped y_h_at y_h_statements y_h_hasImage y_h_beforeMany y_h_found y_h_lots y_h_rowMany (m_many z_h_T) (m_odd z_h_T) (m_step z_h_T) (m_bag z_h_T) (m_strokes z_h_T) (m_gave z_h_T) (m_threw z_h_T) (m_isKeeping z_h_T) (m_cursor z_h_T) (m_kind z_h_T) (m_sweets z_h_T))) (ws' := (w_M_child cI cJ cC a_h a_h_refused a_h_kind a_h_sweets a_h_gives a_h_tape a_h_letter a_h_letterAt a_h_one a_h_two a_h_kept a_h_trail a_h_crumb a_h_nextCrumb a_h_goal a_h_start a_h_sits a_h_bestSits a_h_without a_h_row y_h_taped y_h_at y_h_statements y_h_hasImage y_h_beforeMany y_h_found y_h_lots y_h_rowMany (m_many z_h_T) (m_odd z_h_T) (m_step z_h_T) (m_bag z_h_T) (m_strokes z_h_T) (m_gave z_h_T) (m_threw z_h_T) (m_isKeeping z_h_T) (m_cursor z_h_T) z_h_refused (m_kind z_h_T) (m_sweets z_h_T))) (As := [.int x1]) (rest := []) hx hb hml hown hT (c_M_givesOf (z_h_T := z_h_T) a_h a_h_refused a_h_kind a_h_sweets a_h_gives a_h_tape a_h_letter a_h_letterAt a_h_one a_h_two a_h_kept a_h_trail a_h_crumb a_h_nextCrumb a_h_goal a_h_start a_h_sits a_h_bestSits a_h_without a_h_row y_h_taped y_h_at y_h_statements y_h_hasImage y_h_beforeMany y_h_found y_h_lots y_h_rowMany hq8) k_928 k_930 ks_32 k_8 k_931 hd_M_givesOf ⟨Nat.le_of_ble_eq_true rfl, Nat.le_of_ble_eq_true rfl⟩ xE0_ok trivial hA hK hP hD hS [0, 2, 3] [1] [1, 0, 2, 3] rfl rfl rfl rfl rfl rfl rfl rfl rfl rfl hl.1 rfl (Nat.le_of_ble_eq_true rfl) ⟨Nat.zero_le _, Nat.zero_le _⟩ d_M_child_60 (fun H locs hP hD hS => ?_)
          have hq := Option.some.inj hf
          subst hq
          exact hret _ _ _ _ _ d_M_child_63 rfl rfl hP hD hS
        · have hf := io_f hf c7
          rcases Decidable.em (x2 = 3) with c9 | c9
          · have hf := io_t hf c9
            refine lv_tableIn (off := 49) (tgt := 64) hx hb d_M_child_15 (by rw [c9]; decide +kernel) (by rw [c9]; decide +kernel) (by rw [c9]; rfl) (by decide) ?_
            refine lv_aload_n hx hb d_M_child_64 rfl (lv_at hl 0 rfl) ?_
            refine lv_iload_n hx hb d_M_child_65 rfl (lv_at hl 1 rfl) ?_
            obtain ⟨q10, hq10, hf⟩ := io_b hf
            refine xcVI (wc := (w_M_givesOf cI cJ cC a_h a_h_refused a_h_kind a_h_sweets a_h_gives a_h_tape a_h_letter a_h_letterAt a_h_one a_h_two a_h_kept a_h_trail a_h_crumb a_h_nextCrumb a_h_goal a_h_start a_h_sits a_h_bestSits a_h_without a_h_row y_h_taped y_h_at y_h_statements y_h_hasImage y_h_beforeMany y_h_found y_h_lots y_h_rowMany (m_many z_h_T) (m_odd z_h_T) (m_step z_h_T) (m_bag z_h_T) (m_strokes z_h_T) (m_gave z_h_T) (m_threw z_h_T) (m_isKeeping z_h_T) (m_cursor z_h_T) (m_kind z_h_T) (m_sweets z_h_T))) (wc' := (w_M_givesOf cI cJ cC a_h a_h_refused a_h_kind a_h_sweets a_h_gives a_h_tape a_h_letter a_h_letterAt a_h_one a_h_two a_h_kept a_h_trail a_h_crumb a_h_nextCrumb a_h_goal a_h_start a_h_sits a_h_bestSits a_h_without a_h_row y_h_taped y_h_at y_h_statements y_h_hasImage y_h_beforeMany y_h_found y_h_lots y_h_rowMany (m_many z_h_T) (m_odd z_h_T) (m_step z_h_T) (m_bag z_h_T) (m_strokes z_h_T) (m_gave z_h_T) (m_threw z_h_T) (m_isKeeping z_h_T) (m_cursor z_h_T) (m_kind z_h_T) (m_sweets z_h_T))) (ws' := (w_M_child cI cJ cC a_h a_h_refused a_h_kind a_h_sweets a_h_gives a_h_tape a_h_letter a_h_letterAt a_h_one a_h_two a_h_kept a_h_trail a_h_crumb a_h_nextCrumb a_h_goal a_h_start a_h_sits a_h_bestSits a_h_without a_h_row y_h_taped y_h_at y_h_statements y_h_hasImage y_h_beforeMany y_h_found y_h_lots y_h_rowMany (m_many z_h_T) (m_odd z_h_T) (m_step z_h_T) (m_bag z_h_T) (m_strokes z_h_T) (m_gave z_h_T) (m_threw z_h_T) (m_isKeeping z_h_T) (m_cursor z_h_T) z_h_refused (m_kind z_h_T) (m_sweets z_h_T))) (As := [.int x1]) (rest := []) hx hb hml hown hT (c_M_givesOf (z_h_T := z_h_T) a_h a_h_refused a_h_kind a_h_sweets a_h_gives a_h_tape a_h_letter a_h_letterAt a_h_one a_h_two a_h_kept a_h_trail a_h_crumb a_h_nextCrumb a_h_goal a_h_start a_h_sits a_h_bestSits a_h_without a_h_row y_h_taped y_h_at y_h_statements y_h_hasImage y_h_beforeMany y_h_found y_h_lots y_h_rowMany hq10) k_928 k_930 ks_32 k_8 k_931 hd_M_givesOf ⟨Nat.le_of_ble_eq_true rfl, Nat.le_of_ble_eq_true rfl⟩ xE0_ok trivial hA hK hP hD hS [0, 2, 3] [1] [1, 0, 2, 3] rfl rfl rfl rfl rfl rfl rfl rfl rfl rfl hl.1 rfl (Nat.le_of_ble_eq_true rfl) ⟨Nat.zero_le _, Nat.zero_le _⟩ d_M_child_66 (fun H locs hP hD hS => ?_)
            refine lv_if_ne (tgt := 76) hx hb d_M_child_69 (by decide) (fun c11 => ?_) (fun c11 => ?_)
            · have hf := io_f hf c11
              refine lv_aload_n hx hb d_M_child_76 rfl (lv_at hl 0 rfl) ?_
              refine va_get hx hb hT i_M hown hK hP 0 rfl rfl 1 (Nat.le_of_ble_eq_true rfl) (hT _ k_759) (fun _ h => h) rfl d_M_child_77 ?_
              refine lv_iload_n hx hb d_M_child_80 rfl (lv_at hl 1 rfl) ?_
              obtain ⟨c12, hf⟩ := io_n hf
              refine x_iald hx hb hK hP 2 0 rfl rfl (j := x1.toNatClampNeg) rfl c12 d_M_child_81 ?_
              refine lv_iconst (v := 1) hx hb d_M_child_82 (by decide) ?_
              refine lv_icmp_ne (tgt := 90) hx hb d_M_child_83 (by decide) (fun c13 => ?_) (fun c13 => ?_)
              · have hf := io_f hf c13
                refine lv_iconst (v := 1) hx hb d_M_child_90 (by decide) ?_
                have hq := Option.some.inj hf
                subst hq
                exact hret _ _ _ _ _ d_M_child_91 rfl rfl hP hD hS
              · have hf := io_t hf c13
                refine lv_iconst (v := 2) hx hb d_M_child_86 (by decide) ?_
                refine lv_goto (tgt := 91) hx hb d_M_child_87 (by decide) ?_
                have hq := Option.some.inj hf
                subst hq
                exact hret _ _ _ _ _ d_M_child_91 rfl rfl hP hD hS
            · have hf := io_t hf c11
              refine lv_iconst (v := 0) hx hb d_M_child_72 (by decide) ?_
              refine lv_goto (tgt := 91) hx hb d_M_child_73 (by decide) ?_
              have hq := Option.some.inj hf
              subst hq
              exact hret _ _ _ _ _ d_M_child_91 rfl rfl hP hD hS
          · have hf := io_f hf c9
            refine lv_tableOut (tgt := 92) hx hb d_M_child_15 (by have e0 := lv_neT (a := 0) c3 (by decide +kernel); have e1 := lv_neT (a := 1) c5 (by decide +kernel); have e2 := lv_neT (a := 2) c7 (by decide +kernel); have e3 := lv_neT (a := 3) c9 (by decide +kernel); omega) (by decide) ?_
            refine lv_aload_n hx hb d_M_child_92 rfl (lv_at hl 0 rfl) ?_
            refine lv_bipush (v := (-2)) hx hb d_M_child_93 (by decide) ?_
            obtain ⟨q14, hq14, hf⟩ := io_b hf
            refine xcVI (wc := (w_M_no cI cJ cC a_h a_h_refused a_h_kind a_h_sweets a_h_gives a_h_tape a_h_letter a_h_letterAt a_h_one a_h_two a_h_kept a_h_trail a_h_crumb a_h_nextCrumb a_h_goal a_h_start a_h_sits a_h_bestSits a_h_without a_h_row (m_many z_h_T) (m_odd z_h_T) (m_step z_h_T) (m_bag z_h_T) (m_strokes z_h_T) (m_gave z_h_T) (m_threw z_h_T) y_h_taped y_h_at y_h_statements y_h_hasImage (m_isKeeping z_h_T) (m_cursor z_h_T) y_h_beforeMany y_h_found y_h_lots y_h_rowMany z_h_refused)) (wc' := (w_M_no cI cJ cC a_h a_h_refused a_h_kind a_h_sweets a_h_gives a_h_tape a_h_letter a_h_letterAt a_h_one a_h_two a_h_kept a_h_trail a_h_crumb a_h_nextCrumb a_h_goal a_h_start a_h_sits a_h_bestSits a_h_without a_h_row (m_many z_h_T) (m_odd z_h_T) (m_step z_h_T) (m_bag z_h_T) (m_strokes z_h_T) (m_gave z_h_T) (m_threw z_h_T) y_h_taped y_h_at y_h_statements y_h_hasImage (m_isKeeping z_h_T) (m_cursor z_h_T) y_h_beforeMany y_h_found y_h_lots y_h_rowMany q14.2)) (ws' := (w_M_child cI cJ cC a_h a_h_refused a_h_kind a_h_sweets a_h_gives a_h_tape a_h_letter a_h_letterAt a_h_one a_h_two a_h_kept a_h_trail a_h_crumb a_h_nextCrumb a_h_goal a_h_start a_h_sits a_h_bestSits a_h_without a_h_row y_h_taped y_h_at y_h_statements y_h_hasImage y_h_beforeMany y_h_found y_h_lots y_h_rowMany (m_many z_h_T) (m_odd z_h_T) (m_step z_h_T) (m_bag z_h_T) (m_strokes z_h_T) (m_gave z_h_T) (m_threw z_h_T) (m_isKeeping z_h_T) (m_cursor z_h_T) q14.2 (m_kind z_h_T) (m_sweets z_h_T))) (As := [.int (-2)]) (rest := []) hx hb hml hown hT (c_M_no (z_h_refused := z_h_refused) a_h a_h_refused a_h_kind a_h_sweets a_h_gives a_h_tape a_h_letter a_h_letterAt a_h_one a_h_two a_h_kept a_h_trail a_h_crumb a_h_nextCrumb a_h_goal a_h_start a_h_sits a_h_bestSits a_h_without a_h_row (m_many z_h_T) (m_odd z_h_T) (m_step z_h_T) (m_bag z_h_T) (m_strokes z_h_T) (m_gave z_h_T) (m_threw z_h_T) y_h_taped y_h_at y_h_statements y_h_hasImage (m_isKeeping z_h_T) (m_cursor z_h_T) y_h_beforeMany y_h_found y_h_lots y_h_rowMany hq14) k_874 k_876 ks_24 k_8 k_877 hd_M_no ⟨Nat.le_of_ble_eq_true rfl, Nat.le_of_ble_eq_true rfl⟩ xE0_ok trivial hA hK hP hD hS [0, 1] [2, 3] [2, 3, 0, 1] rfl rfl rfl rfl rfl rfl rfl rfl rfl rfl hl.1 rfl (Nat.le_of_ble_eq_true rfl) ⟨Nat.zero_le _, Nat.zero_le _⟩ d_M_child_95 (fun H locs hP hD hS => ?_)
            have hq := Option.some.inj hf
            subst hq
            exact hret _ _ _ _ _ d_M_child_98 rfl rfl hP hD hS
  · have hf := io_t hf c2
    refine lv_aload_n hx hb d_M_child_8 rfl (lv_at hl 0 rfl) ?_
    refine lv_iconst (v := (-1)) hx hb d_M_child_9 (by decide) ?_
    obtain ⟨q15, hq15, hf⟩ := io_b hf
    refine xcVI (wc := (w_M_no cI cJ cC a_h a_h_refused a_h_kind a_h_sweets a_h_gives a_h_tape a_h_letter a_h_letterAt a_h_one a_h_two a_h_kept a_h_trail a_h_crumb a_h_nextCrumb a_h_goal a_h_start a_h_sits a_h_bestSits a_h_without a_h_row (m_many z_h_T) (m_odd z_h_T) (m_step z_h_T) (m_bag z_h_T) (m_strokes z_h_T) (m_gave z_h_T) (m_threw z_h_T) y_h_taped y_h_at y_h_statements y_h_hasImage (m_isKeeping z_h_T) (m_cursor z_h_T) y_h_beforeMany y_h_found y_h_lots y_h_rowMany z_h_refused)) (wc' := (w_M_no cI cJ cC a_h a_h_refused a_h_kind a_h_sweets a_h_gives a_h_tape a_h_letter a_h_letterAt a_h_one a_h_two a_h_kept a_h_trail a_h_crumb a_h_nextCrumb a_h_goal a_h_start a_h_sits a_h_bestSits a_h_without a_h_row (m_many z_h_T) (m_odd z_h_T) (m_step z_h_T) (m_bag z_h_T) (m_strokes z_h_T) (m_gave z_h_T) (m_threw z_h_T) y_h_taped y_h_at y_h_statements y_h_hasImage (m_isKeeping z_h_T) (m_cursor z_h_T) y_h_beforeMany y_h_found y_h_lots y_h_rowMany q15.2)) (ws' := (w_M_child cI cJ cC a_h a_h_refused a_h_kind a_h_sweets a_h_gives a_h_tape a_h_letter a_h_letterAt a_h_one a_h_two a_h_kept a_h_trail a_h_crumb a_h_nextCrumb a_h_goal a_h_start a_h_sits a_h_bestSits a_h_without a_h_row y_h_taped y_h_at y_h_statements y_h_hasImage y_h_beforeMany y_h_found y_h_lots y_h_rowMany (m_many z_h_T) (m_odd z_h_T) (m_step z_h_T) (m_bag z_h_T) (m_strokes z_h_T) (m_gave z_h_T) (m_threw z_h_T) (m_isKeeping z_h_T) (m_cursor z_h_T) q15.2 (m_kind z_h_T) (m_sweets z_h_T))) (As := [.int (-1)]) (rest := []) hx hb hml hown hT (c_M_no (z_h_refused := z_h_refused) a_h a_h_refused a_h_kind a_h_sweets a_h_gives a_h_tape a_h_letter a_h_letterAt a_h_one a_h_two a_h_kept a_h_trail a_h_crumb a_h_nextCrumb a_h_goal a_h_start a_h_sits a_h_bestSits a_h_without a_h_row (m_many z_h_T) (m_odd z_h_T) (m_step z_h_T) (m_bag z_h_T) (m_strokes z_h_T) (m_gave z_h_T) (m_threw z_h_T) y_h_taped y_h_at y_h_statements y_h_hasImage (m_isKeeping z_h_T) (m_cursor z_h_T) y_h_beforeMany y_h_found y_h_lots y_h_rowMany hq15) k_874 k_876 ks_24 k_8 k_877 hd_M_no ⟨Nat.le_of_ble_eq_true rfl, Nat.le_of_ble_eq_true rfl⟩ xE0_ok trivial hA hK hP hD hS [0, 1] [2, 3] [2, 3, 0, 1] rfl rfl rfl rfl rfl rfl rfl rfl rfl rfl hl.1 rfl (Nat.le_of_ble_eq_true rfl) ⟨Nat.zero_le _, Nat.zero_le _⟩ d_M_child_10 (fun H locs hP hD hS => ?_)
    have hq := Option.some.inj hf
    subst hq
    exact hret _ _ _ _ _ d_M_child_13 rfl rfl hP hD hS
abbrev w_M_put (cI cJ cC : ClassId) (a_h a_h_refused a_h_kind a_h_sweets a_h_gives a_h_tape a_h_letter a_h_letterAt a_h_one a_h_two a_h_kept a_h_trail a_h_crumb a_h_nextCrumb a_h_goal a_h_start a_h_sits a_h_bestSits a_h_without a_h_row : Nat) (y_h_taped : Int32) (y_h_at : Int32) (y_h_statements : Int32) (y_h_hasImage : Int32) (y_h_beforeMany : Int32) (y_h_found : Int32) (y_h_lots : Int32) (y_h_rowMany : Int32) (p_h_many : Int32) (p_h_odd : Int32) (p_h_step : Int32) (p_h_bag : Int32) (p_h_strokes : Int32) (p_h_gave : Int32) (p_h_threw : Int32) (p_h_isKeeping : Int32) (p_h_cursor : Int32) (p_h_refused : (Nat → Int32)) (p_h_kind : (Nat → Int32)) (p_h_sweets : (Nat → Int32)) (p_h_gives : (Nat → Int32)) (p_h_kept : (Nat → Int32)) : va_W := [(a_h, .inr (7, [.ref a_h_refused, .ref a_h_kind, .ref a_h_sweets, .ref a_h_gives, .int p_h_many, .int p_h_odd, .int p_h_step, .int p_h_bag, .int p_h_strokes, .int p_h_gave, .int p_h_threw, .ref a_h_tape, .ref a_h_letter, .ref a_h_letterAt, .ref a_h_one, .ref a_h_two, .int y_h_taped, .int y_h_at, .int y_h_statements, .ref a_h_kept, .int y_h_hasImage, .int p_h_isKeeping, .int p_h_cursor, .ref a_h_trail, .ref a_h_crumb, .ref a_h_nextCrumb, .ref a_h_goal, .ref a_h_start, .int y_h_beforeMany, .int y_h_found, .ref a_h_sits, .ref a_h_bestSits, .ref a_h_without, .int y_h_lots, .ref a_h_row, .int y_h_rowMany])), (a_h_refused, .inl (cI, (7, .inl p_h_refused))), (a_h_kind, .inl (cI, (8, .inl p_h_kind))), (a_h_sweets, .inl (cI, (8, .inl p_h_sweets))), (a_h_gives, .inl (cI, (8, .inl p_h_gives))), (a_h_kept, .inl (cI, (90, .inl p_h_kept)))]
theorem d_M_put_0 : decode b_M_put 0 = .ok (.aload_n 0, 1) := by decide +kernel
theorem d_M_put_1 : decode b_M_put 1 = .ok (.iload_n 1, 1) := by decide +kernel
theorem d_M_put_2 : decode b_M_put 2 = .ok (.invokevirtual 168, 3) := by decide +kernel
theorem d_M_put_5 : decode b_M_put 5 = .ok (.ifCond .ne 9, 3) := by decide +kernel
theorem d_M_put_8 : decode b_M_put 8 = .ok (.aload_n 0, 1) := by decide +kernel
theorem d_M_put_9 : decode b_M_put 9 = .ok (.iconst (-1), 1) := by decide +kernel
theorem d_M_put_10 : decode b_M_put 10 = .ok (.invokevirtual 88, 3) := by decide +kernel
theorem d_M_put_13 : decode b_M_put 13 = .ok (.ireturn, 1) := by decide +kernel
theorem d_M_put_14 : decode b_M_put 14 = .ok (.iload_n 2, 1) := by decide +kernel
theorem d_M_put_15 : decode b_M_put 15 = .ok (.iconst 0, 1) := by decide +kernel
theorem d_M_put_16 : decode b_M_put 16 = .ok (.sipush 999, 3) := by decide +kernel
theorem d_M_put_19 : decode b_M_put 19 = .ok (.invokestatic 81, 3) := by decide +kernel
theorem d_M_put_22 : decode b_M_put 22 = .ok (.istore_n 3, 1) := by decide +kernel
theorem d_M_put_23 : decode b_M_put 23 = .ok (.iload_n 3, 1) := by decide +kernel
theorem d_M_put_24 : decode b_M_put 24 = .ok (.ifCond .eq 9, 3) := by decide +kernel
theorem d_M_put_27 : decode b_M_put 27 = .ok (.aload_n 0, 1) := by decide +kernel
theorem d_M_put_28 : decode b_M_put 28 = .ok (.iload_n 3, 1) := by decide +kernel
theorem d_M_put_29 : decode b_M_put 29 = .ok (.invokevirtual 88, 3) := by decide +kernel
theorem d_M_put_32 : decode b_M_put 32 = .ok (.ireturn, 1) := by decide +kernel
theorem d_M_put_33 : decode b_M_put 33 = .ok (.aload_n 0, 1) := by decide +kernel
theorem d_M_put_34 : decode b_M_put 34 = .ok (.getfield 16, 3) := by decide +kernel
theorem d_M_put_37 : decode b_M_put 37 = .ok (.iload_n 1, 1) := by decide +kernel
theorem d_M_put_38 : decode b_M_put 38 = .ok (.iaload, 1) := by decide +kernel
theorem d_M_put_39 : decode b_M_put 39 = .ok (.istore 4, 2) := by decide +kernel
theorem d_M_put_41 : decode b_M_put 41 = .ok (.aload_n 0, 1) := by decide +kernel
theorem d_M_put_42 : decode b_M_put 42 = .ok (.getfield 16, 3) := by decide +kernel
theorem d_M_put_45 : decode b_M_put 45 = .ok (.iload_n 1, 1) := by decide +kernel
theorem d_M_put_46 : decode b_M_put 46 = .ok (.iload_n 2, 1) := by decide +kernel
theorem d_M_put_47 : decode b_M_put 47 = .ok (.iastore, 1) := by decide +kernel
theorem d_M_put_48 : decode b_M_put 48 = .ok (.iload 4, 2) := by decide +kernel
theorem d_M_put_50 : decode b_M_put 50 = .ok (.ireturn, 1) := by decide +kernel
set_option maxHeartbeats 4000000 in
set_option maxRecDepth 100000 in
theorem c_M_put {l : Launch} {D : va_G} {cI cJ cC : ClassId} (a_h a_h_refused a_h_kind a_h_sweets a_h_gives a_h_tape a_h_letter a_h_letterAt a_h_one a_h_two a_h_kept a_h_trail a_h_crumb a_h_nextCrumb a_h_goal a_h_start a_h_sits a_h_bestSits a_h_without a_h_row : Nat) (y_h_taped : Int32) (y_h_at : Int32) (y_h_statements : Int32) (y_h_hasImage : Int32) (y_h_beforeMany : Int32) (y_h_found : Int32) (y_h_lots : Int32) (y_h_rowMany : Int32) {z_h_T : MT} {z_h_refused : (Nat → Int32)} {x1 : Int32} {x2 : Int32} {q : Int32 × MT × (Nat → Int32)} (hf : f_M_put z_h_T z_h_refused x1 x2 = some q) : xI l y_M_put b_M_put 5 .int 1 22 D (tyK cI cJ cC) xE0 [.ref a_h, .int x1, .int x2] (w_M_put cI cJ cC a_h a_h_refused a_h_kind a_h_sweets a_h_gives a_h_tape a_h_letter a_h_letterAt a_h_one a_h_two a_h_kept a_h_trail a_h_crumb a_h_nextCrumb a_h_goal a_h_start a_h_sits a_h_bestSits a_h_without a_h_row y_h_taped y_h_at y_h_statements y_h_hasImage y_h_beforeMany y_h_found y_h_lots y_h_rowMany (m_many z_h_T) (m_odd z_h_T) (m_step z_h_T) (m_bag z_h_T) (m_strokes z_h_T) (m_gave z_h_T) (m_threw z_h_T) (m_isKeeping z_h_T) (m_cursor z_h_T) z_h_refused (m_kind z_h_T) (m_sweets z_h_T) (m_gives z_h_T) (m_kept z_h_T)) q.1 (w_M_put cI cJ cC a_h a_h_refused a_h_kind a_h_sweets a_h_gives a_h_tape a_h_letter a_h_letterAt a_h_one a_h_two a_h_kept a_h_trail a_h_crumb a_h_nextCrumb a_h_goal a_h_start a_h_sits a_h_bestSits a_h_without a_h_row y_h_taped y_h_at y_h_statements y_h_hasImage y_h_beforeMany y_h_found y_h_lots y_h_rowMany (m_many q.2.1) (m_odd q.2.1) (m_step q.2.1) (m_bag q.2.1) (m_strokes q.2.1) (m_gave q.2.1) (m_threw q.2.1) (m_isKeeping q.2.1) (m_cursor q.2.1) q.2.2 (m_kind q.2.1) (m_sweets q.2.1) (m_gives q.2.1) (m_kept q.2.1)) := by
  refine xI_of (by decide) (Nat.le_of_ble_eq_true rfl) ?_
  intro p e s m args below meth c A Q hx hb hml hown hT hA hP hD hK hS hE hret ls hl
  have hown : s.vm.findClass R_M = some m.cls := hown
  have hl : lv_has ls 5 [(0, .ref a_h), (1, .int x1), (2, .int x2)] := hl
  unfold f_M_put at hf
  refine lv_aload_n hx hb d_M_put_0 rfl (lv_at hl 0 rfl) ?_
  refine lv_iload_n hx hb d_M_put_1 rfl (lv_at hl 1 rfl) ?_
  obtain ⟨q1, hq1, hf⟩ := io_b hf
  refine xcVI (wc := (w_M_isChild cI cJ cC a_h a_h_refused a_h_kind a_h_sweets a_h_gives a_h_tape a_h_letter a_h_letterAt a_h_one a_h_two a_h_kept a_h_trail a_h_crumb a_h_nextCrumb a_h_goal a_h_start a_h_sits a_h_bestSits a_h_without a_h_row y_h_taped y_h_at y_h_statements y_h_hasImage y_h_beforeMany y_h_found y_h_lots y_h_rowMany (m_many z_h_T) (m_odd z_h_T) (m_step z_h_T) (m_bag z_h_T) (m_strokes z_h_T) (m_gave z_h_T) (m_threw z_h_T) (m_isKeeping z_h_T) (m_cursor z_h_T))) (wc' := (w_M_isChild cI cJ cC a_h a_h_refused a_h_kind a_h_sweets a_h_gives a_h_tape a_h_letter a_h_letterAt a_h_one a_h_two a_h_kept a_h_trail a_h_crumb a_h_nextCrumb a_h_goal a_h_start a_h_sits a_h_bestSits a_h_without a_h_row y_h_taped y_h_at y_h_statements y_h_hasImage y_h_beforeMany y_h_found y_h_lots y_h_rowMany (m_many z_h_T) (m_odd z_h_T) (m_step z_h_T) (m_bag z_h_T) (m_strokes z_h_T) (m_gave z_h_T) (m_threw z_h_T) (m_isKeeping z_h_T) (m_cursor z_h_T))) (ws' := (w_M_put cI cJ cC a_h a_h_refused a_h_kind a_h_sweets a_h_gives a_h_tape a_h_letter a_h_letterAt a_h_one a_h_two a_h_kept a_h_trail a_h_crumb a_h_nextCrumb a_h_goal a_h_start a_h_sits a_h_bestSits a_h_without a_h_row y_h_taped y_h_at y_h_statements y_h_hasImage y_h_beforeMany y_h_found y_h_lots y_h_rowMany (m_many z_h_T) (m_odd z_h_T) (m_step z_h_T) (m_bag z_h_T) (m_strokes z_h_T) (m_gave z_h_T) (m_threw z_h_T) (m_isKeeping z_h_T) (m_cursor z_h_T) z_h_refused (m_kind z_h_T) (m_sweets z_h_T) (m_gives z_h_T) (m_kept z_h_T))) (As := [.int x1]) (rest := []) hx hb hml hown hT (c_M_isChild (z_h_T := z_h_T) a_h a_h_refused a_h_kind a_h_sweets a_h_gives a_h_tape a_h_letter a_h_letterAt a_h_one a_h_two a_h_kept a_h_trail a_h_crumb a_h_nextCrumb a_h_goal a_h_start a_h_sits a_h_bestSits a_h_without a_h_row y_h_taped y_h_at y_h_statements y_h_hasImage y_h_beforeMany y_h_found y_h_lots y_h_rowMany hq1) k_924 k_926 ks_31 k_8 k_927 hd_M_isChild ⟨Nat.le_of_ble_eq_true rfl, Nat.le_of_ble_eq_true rfl⟩ xE0_ok trivial hA hK hP hD hS [0] [1, 2, 3, 4, 5] [5, 0, 1, 2, 3, 4] rfl rfl rfl rfl rfl rfl rfl rfl rfl rfl hl.1 rfl (Nat.le_of_ble_eq_true rfl) ⟨Nat.zero_le _, Nat.zero_le _⟩ d_M_put_2 (fun H locs hP hD hS => ?_)
  refine lv_if_ne (tgt := 14) hx hb d_M_put_5 (by decide) (fun c2 => ?_) (fun c2 => ?_)
  · have hf := io_f hf c2
    refine lv_iload_n hx hb d_M_put_14 rfl (lv_at hl 2 rfl) ?_
    refine lv_iconst (v := 0) hx hb d_M_put_15 (by decide) ?_
    refine lv_sipush (v := 999) hx hb d_M_put_16 (by decide) ?_
    obtain ⟨q3, hq3, hf⟩ := io_b hf
    refine xcSI (wc := []) (wc' := []) (ws' := (w_M_put cI cJ cC a_h a_h_refused a_h_kind a_h_sweets a_h_gives a_h_tape a_h_letter a_h_letterAt a_h_one a_h_two a_h_kept a_h_trail a_h_crumb a_h_nextCrumb a_h_goal a_h_start a_h_sits a_h_bestSits a_h_without a_h_row y_h_taped y_h_at y_h_statements y_h_hasImage y_h_beforeMany y_h_found y_h_lots y_h_rowMany (m_many z_h_T) (m_odd z_h_T) (m_step z_h_T) (m_bag z_h_T) (m_strokes z_h_T) (m_gave z_h_T) (m_threw z_h_T) (m_isKeeping z_h_T) (m_cursor z_h_T) z_h_refused (m_kind z_h_T) (m_sweets z_h_T) (m_gives z_h_T) (m_kept z_h_T))) (As := [.int x2, .int 0, .int 999]) (rest := []) hx hb hml hown hT (c_M_bound hq3) k_871 k_872 k_8 k_873 hd_M_bound ⟨Nat.le_of_ble_eq_true rfl, Nat.le_of_ble_eq_true rfl⟩ xE0_ok trivial hA hK hP hD hS [] [0, 1, 2, 3, 4, 5] [0, 1, 2, 3, 4, 5] rfl rfl rfl rfl rfl rfl rfl hl.1 rfl (Nat.le_of_ble_eq_true rfl) ⟨Nat.zero_le _, Nat.zero_le _⟩ d_M_put_19 (fun H locs hP hD hS => ?_)
    refine lv_istore_n (lv' := [(3, .int q3), (0, .ref a_h), (1, .int x1), (2, .int x2)]) hx hb d_M_put_22 rfl hl (by decide) rfl (fun ls hl => ?_)
    refine lv_iload_n hx hb d_M_put_23 rfl (lv_at hl 0 rfl) ?_
    refine lv_if_eq (tgt := 33) hx hb d_M_put_24 (by decide) (fun c4 => ?_) (fun c4 => ?_)
    · have hf := io_t hf c4
      refine lv_aload_n hx hb d_M_put_33 rfl (lv_at hl 1 rfl) ?_
      refine va_get hx hb hT i_M hown hK hP 0 rfl rfl 2 (Nat.le_of_ble_eq_true rfl) (hT _ k_760) (fun _ h => h) rfl d_M_put_34 ?_
      refine lv_iload_n hx hb d_M_put_37 rfl (lv_at hl 2 rfl) ?_
      obtain ⟨c5, hf⟩ := io_n hf
      refine x_iald hx hb hK hP 3 0 rfl rfl (j := x1.toNatClampNeg) rfl c5 d_M_put_38 ?_
      refine lv_istore (lv' := [(4, .int ((m_sweets z_h_T) x1.toNatClampNeg)), (3, .int q3), (0, .ref a_h), (1, .int x1), (2, .int x2)]) hx hb d_M_put_39 hl (by decide) rfl (fun ls hl => ?_)
      refine lv_aload_n hx hb d_M_put_41 rfl (lv_at hl 2 rfl) ?_
      refine va_get hx hb hT i_M hown hK hP 0 rfl rfl 2 (Nat.le_of_ble_eq_true rfl) (hT _ k_760) (fun _ h => h) rfl d_M_put_42 ?_
      refine lv_iload_n hx hb d_M_put_45 rfl (lv_at hl 3 rfl) ?_
      refine lv_iload_n hx hb d_M_put_46 rfl (lv_at hl 4 rfl) ?_
      refine x_iast hx hb hK hP hD hS 3 0 rfl rfl (j := x1.toNatClampNeg) rfl c5 d_M_put_47 (fun H locs hP hD hS => ?_)
      have hP : va_P D classes (w_M_put cI cJ cC a_h a_h_refused a_h_kind a_h_sweets a_h_gives a_h_tape a_h_letter a_h_letterAt a_h_one a_h_two a_h_kept a_h_trail a_h_crumb a_h_nextCrumb a_h_goal a_h_start a_h_sits a_h_bestSits a_h_without a_h_row y_h_taped y_h_at y_h_statements y_h_hasImage y_h_beforeMany y_h_found y_h_lots y_h_rowMany (m_many z_h_T) (m_odd z_h_T) (m_step z_h_T) (m_bag z_h_T) (m_strokes z_h_T) (m_gave z_h_T) (m_threw z_h_T) (m_isKeeping z_h_T) (m_cursor z_h_T) z_h_refused (m_kind z_h_T) (upd (m_sweets z_h_T) x1.toNatClampNeg x2) (m_gives z_h_T) (m_kept z_h_T)) H := hP
      have hD : va_D A (w_M_put cI cJ cC a_h a_h_refused a_h_kind a_h_sweets a_h_gives a_h_tape a_h_letter a_h_letterAt a_h_one a_h_two a_h_kept a_h_trail a_h_crumb a_h_nextCrumb a_h_goal a_h_start a_h_sits a_h_bestSits a_h_without a_h_row y_h_taped y_h_at y_h_statements y_h_hasImage y_h_beforeMany y_h_found y_h_lots y_h_rowMany (m_many z_h_T) (m_odd z_h_T) (m_step z_h_T) (m_bag z_h_T) (m_strokes z_h_T) (m_gave z_h_T) (m_threw z_h_T) (m_isKeeping z_h_T) (m_cursor z_h_T) z_h_refused (m_kind z_h_T) (upd (m_sweets z_h_T) x1.toNatClampNeg x2) (m_gives z_h_T) (m_kept z_h_T)) := hD
      refine lv_iload hx hb d_M_put_48 (lv_at hl 0 rfl) ?_
      have hq := Option.some.inj hf
      subst hq
      exact hret _ _ _ _ _ d_M_put_50 rfl rfl hP hD hS
    · have hf := io_f hf c4
      refine lv_aload_n hx hb d_M_put_27 rfl (lv_at hl 1 rfl) ?_
      refine lv_iload_n hx hb d_M_put_28 rfl (lv_at hl 0 rfl) ?_
      obtain ⟨q6, hq6, hf⟩ := io_b hf
      refine xcVI (wc := (w_M_no cI cJ cC a_h a_h_refused a_h_kind a_h_sweets a_h_gives a_h_tape a_h_letter a_h_letterAt a_h_one a_h_two a_h_kept a_h_trail a_h_crumb a_h_nextCrumb a_h_goal a_h_start a_h_sits a_h_bestSits a_h_without a_h_row (m_many z_h_T) (m_odd z_h_T) (m_step z_h_T) (m_bag z_h_T) (m_strokes z_h_T) (m_gave z_h_T) (m_threw z_h_T) y_h_taped y_h_at y_h_statements y_h_hasImage (m_isKeeping z_h_T) (m_cursor z_h_T) y_h_beforeMany y_h_found y_h_lots y_h_rowMany z_h_refused)) (wc' := (w_M_no cI cJ cC a_h a_h_refused a_h_kind a_h_sweets a_h_gives a_h_tape a_h_letter a_h_letterAt a_h_one a_h_two a_h_kept a_h_trail a_h_crumb a_h_nextCrumb a_h_goal a_h_start a_h_sits a_h_bestSits a_h_without a_h_row (m_many z_h_T) (m_odd z_h_T) (m_step z_h_T) (m_bag z_h_T) (m_strokes z_h_T) (m_gave z_h_T) (m_threw z_h_T) y_h_taped y_h_at y_h_statements y_h_hasImage (m_isKeeping z_h_T) (m_cursor z_h_T) y_h_beforeMany y_h_found y_h_lots y_h_rowMany q6.2)) (ws' := (w_M_put cI cJ cC a_h a_h_refused a_h_kind a_h_sweets a_h_gives a_h_tape a_h_letter a_h_letterAt a_h_one a_h_two a_h_kept a_h_trail a_h_crumb a_h_nextCrumb a_h_goal a_h_start a_h_sits a_h_bestSits a_h_without a_h_row y_h_taped y_h_at y_h_statements y_h_hasImage y_h_beforeMany y_h_found y_h_lots y_h_rowMany (m_many z_h_T) (m_odd z_h_T) (m_step z_h_T) (m_bag z_h_T) (m_strokes z_h_T) (m_gave z_h_T) (m_threw z_h_T) (m_isKeeping z_h_T) (m_cursor z_h_T) q6.2 (m_kind z_h_T) (m_sweets z_h_T) (m_gives z_h_T) (m_kept z_h_T))) (As := [.int q3]) (rest := []) hx hb hml hown hT (c_M_no (z_h_refused := z_h_refused) a_h a_h_refused a_h_kind a_h_sweets a_h_gives a_h_tape a_h_letter a_h_letterAt a_h_one a_h_two a_h_kept a_h_trail a_h_crumb a_h_nextCrumb a_h_goal a_h_start a_h_sits a_h_bestSits a_h_without a_h_row (m_many z_h_T) (m_odd z_h_T) (m_step z_h_T) (m_bag z_h_T) (m_strokes z_h_T) (m_gave z_h_T) (m_threw z_h_T) y_h_taped y_h_at y_h_statements y_h_hasImage (m_isKeeping z_h_T) (m_cursor z_h_T) y_h_beforeMany y_h_found y_h_lots y_h_rowMany hq6) k_874 k_876 ks_24 k_8 k_877 hd_M_no ⟨Nat.le_of_ble_eq_true rfl, Nat.le_of_ble_eq_true rfl⟩ xE0_ok trivial hA hK hP hD hS [0, 1] [2, 3, 4, 5] [4, 5, 0, 1, 2, 3] rfl rfl rfl rfl rfl rfl rfl rfl rfl rfl hl.1 rfl (Nat.le_of_ble_eq_true rfl) ⟨Nat.zero_le _, Nat.zero_le _⟩ d_M_put_29 (fun H locs hP hD hS => ?_)
      have hq := Option.some.inj hf
      subst hq
      exact hret _ _ _ _ _ d_M_put_32 rfl rfl hP hD hS
  · have hf := io_t hf c2
    refine lv_aload_n hx hb d_M_put_8 rfl (lv_at hl 0 rfl) ?_
    refine lv_iconst (v := (-1)) hx hb d_M_put_9 (by decide) ?_
    obtain ⟨q7, hq7, hf⟩ := io_b hf
    refine xcVI (wc := (w_M_no cI cJ cC a_h a_h_refused a_h_kind a_h_sweets a_h_gives a_h_tape a_h_letter a_h_letterAt a_h_one a_h_two a_h_kept a_h_trail a_h_crumb a_h_nextCrumb a_h_goal a_h_start a_h_sits a_h_bestSits a_h_without a_h_row (m_many z_h_T) (m_odd z_h_T) (m_step z_h_T) (m_bag z_h_T) (m_strokes z_h_T) (m_gave z_h_T) (m_threw z_h_T) y_h_taped y_h_at y_h_statements y_h_hasImage (m_isKeeping z_h_T) (m_cursor z_h_T) y_h_beforeMany y_h_found y_h_lots y_h_rowMany z_h_refused)) (wc' := (w_M_no cI cJ cC a_h a_h_refused a_h_kind a_h_sweets a_h_gives a_h_tape a_h_letter a_h_letterAt a_h_one a_h_two a_h_kept a_h_trail a_h_crumb a_h_nextCrumb a_h_goal a_h_start a_h_sits a_h_bestSits a_h_without a_h_row (m_many z_h_T) (m_odd z_h_T) (m_step z_h_T) (m_bag z_h_T) (m_strokes z_h_T) (m_gave z_h_T) (m_threw z_h_T) y_h_taped y_h_at y_h_statements y_h_hasImage (m_isKeeping z_h_T) (m_cursor z_h_T) y_h_beforeMany y_h_found y_h_lots y_h_rowMany q7.2)) (ws' := (w_M_put cI cJ cC a_h a_h_refused a_h_kind a_h_sweets a_h_gives a_h_tape a_h_letter a_h_letterAt a_h_one a_h_two a_h_kept a_h_trail a_h_crumb a_h_nextCrumb a_h_goal a_h_start a_h_sits a_h_bestSits a_h_without a_h_row y_h_taped y_h_at y_h_statements y_h_hasImage y_h_beforeMany y_h_found y_h_lots y_h_rowMany (m_many z_h_T) (m_odd z_h_T) (m_step z_h_T) (m_bag z_h_T) (m_strokes z_h_T) (m_gave z_h_T) (m_threw z_h_T) (m_isKeeping z_h_T) (m_cursor z_h_T) q7.2 (m_kind z_h_T) (m_sweets z_h_T) (m_gives z_h_T) (m_kept z_h_T))) (As := [.int (-1)]) (rest := []) hx hb hml hown hT (c_M_no (z_h_refused := z_h_refused) a_h a_h_refused a_h_kind a_h_sweets a_h_gives a_h_tape a_h_letter a_h_letterAt a_h_one a_h_two a_h_kept a_h_trail a_h_crumb a_h_nextCrumb a_h_goal a_h_start a_h_sits a_h_bestSits a_h_without a_h_row (m_many z_h_T) (m_odd z_h_T) (m_step z_h_T) (m_bag z_h_T) (m_strokes z_h_T) (m_gave z_h_T) (m_threw z_h_T) y_h_taped y_h_at y_h_statements y_h_hasImage (m_isKeeping z_h_T) (m_cursor z_h_T) y_h_beforeMany y_h_found y_h_lots y_h_rowMany hq7) k_874 k_876 ks_24 k_8 k_877 hd_M_no ⟨Nat.le_of_ble_eq_true rfl, Nat.le_of_ble_eq_true rfl⟩ xE0_ok trivial hA hK hP hD hS [0, 1] [2, 3, 4, 5] [4, 5, 0, 1, 2, 3] rfl rfl rfl rfl rfl rfl rfl rfl rfl rfl hl.1 rfl (Nat.le_of_ble_eq_true rfl) ⟨Nat.zero_le _, Nat.zero_le _⟩ d_M_put_10 (fun H locs hP hD hS => ?_)
    have hq := Option.some.inj hf
    subst hq
    exact hret _ _ _ _ _ d_M_put_13 rfl rfl hP hD hS
abbrev w_M_kind (cI cJ cC : ClassId) (a_h a_h_refused a_h_kind a_h_sweets a_h_gives a_h_tape a_h_letter a_h_letterAt a_h_one a_h_two a_h_kept a_h_trail a_h_crumb a_h_nextCrumb a_h_goal a_h_start a_h_sits a_h_bestSits a_h_without a_h_row : Nat) (y_h_taped : Int32) (y_h_at : Int32) (y_h_statements : Int32) (y_h_hasImage : Int32) (y_h_beforeMany : Int32) (y_h_found : Int32) (y_h_lots : Int32) (y_h_rowMany : Int32) (p_h_many : Int32) (p_h_odd : Int32) (p_h_step : Int32) (p_h_bag : Int32) (p_h_strokes : Int32) (p_h_gave : Int32) (p_h_threw : Int32) (p_h_isKeeping : Int32) (p_h_cursor : Int32) (p_h_refused : (Nat → Int32)) (p_h_kind : (Nat → Int32)) (p_h_sweets : (Nat → Int32)) (p_h_gives : (Nat → Int32)) (p_h_kept : (Nat → Int32)) : va_W := [(a_h, .inr (7, [.ref a_h_refused, .ref a_h_kind, .ref a_h_sweets, .ref a_h_gives, .int p_h_many, .int p_h_odd, .int p_h_step, .int p_h_bag, .int p_h_strokes, .int p_h_gave, .int p_h_threw, .ref a_h_tape, .ref a_h_letter, .ref a_h_letterAt, .ref a_h_one, .ref a_h_two, .int y_h_taped, .int y_h_at, .int y_h_statements, .ref a_h_kept, .int y_h_hasImage, .int p_h_isKeeping, .int p_h_cursor, .ref a_h_trail, .ref a_h_crumb, .ref a_h_nextCrumb, .ref a_h_goal, .ref a_h_start, .int y_h_beforeMany, .int y_h_found, .ref a_h_sits, .ref a_h_bestSits, .ref a_h_without, .int y_h_lots, .ref a_h_row, .int y_h_rowMany])), (a_h_refused, .inl (cI, (7, .inl p_h_refused))), (a_h_kind, .inl (cI, (8, .inl p_h_kind))), (a_h_sweets, .inl (cI, (8, .inl p_h_sweets))), (a_h_gives, .inl (cI, (8, .inl p_h_gives))), (a_h_kept, .inl (cI, (90, .inl p_h_kept)))]
theorem d_M_kind_0 : decode b_M_kind 0 = .ok (.aload_n 0, 1) := by decide +kernel
theorem d_M_kind_1 : decode b_M_kind 1 = .ok (.iload_n 1, 1) := by decide +kernel
theorem d_M_kind_2 : decode b_M_kind 2 = .ok (.invokevirtual 168, 3) := by decide +kernel
theorem d_M_kind_5 : decode b_M_kind 5 = .ok (.ifCond .ne 9, 3) := by decide +kernel
theorem d_M_kind_8 : decode b_M_kind 8 = .ok (.aload_n 0, 1) := by decide +kernel
theorem d_M_kind_9 : decode b_M_kind 9 = .ok (.iconst (-1), 1) := by decide +kernel
theorem d_M_kind_10 : decode b_M_kind 10 = .ok (.invokevirtual 88, 3) := by decide +kernel
theorem d_M_kind_13 : decode b_M_kind 13 = .ok (.ireturn, 1) := by decide +kernel
theorem d_M_kind_14 : decode b_M_kind 14 = .ok (.iload_n 2, 1) := by decide +kernel
theorem d_M_kind_15 : decode b_M_kind 15 = .ok (.iconst 0, 1) := by decide +kernel
theorem d_M_kind_16 : decode b_M_kind 16 = .ok (.bipush 6, 2) := by decide +kernel
theorem d_M_kind_18 : decode b_M_kind 18 = .ok (.invokestatic 99, 3) := by decide +kernel
theorem d_M_kind_21 : decode b_M_kind 21 = .ok (.ifCond .ne 10, 3) := by decide +kernel
theorem d_M_kind_24 : decode b_M_kind 24 = .ok (.aload_n 0, 1) := by decide +kernel
theorem d_M_kind_25 : decode b_M_kind 25 = .ok (.bipush (-2), 2) := by decide +kernel
theorem d_M_kind_27 : decode b_M_kind 27 = .ok (.invokevirtual 88, 3) := by decide +kernel
theorem d_M_kind_30 : decode b_M_kind 30 = .ok (.ireturn, 1) := by decide +kernel
theorem d_M_kind_31 : decode b_M_kind 31 = .ok (.aload_n 0, 1) := by decide +kernel
theorem d_M_kind_32 : decode b_M_kind 32 = .ok (.getfield 13, 3) := by decide +kernel
theorem d_M_kind_35 : decode b_M_kind 35 = .ok (.iload_n 1, 1) := by decide +kernel
theorem d_M_kind_36 : decode b_M_kind 36 = .ok (.iaload, 1) := by decide +kernel
theorem d_M_kind_37 : decode b_M_kind 37 = .ok (.istore_n 3, 1) := by decide +kernel
theorem d_M_kind_38 : decode b_M_kind 38 = .ok (.aload_n 0, 1) := by decide +kernel
theorem d_M_kind_39 : decode b_M_kind 39 = .ok (.getfield 13, 3) := by decide +kernel
theorem d_M_kind_42 : decode b_M_kind 42 = .ok (.iload_n 1, 1) := by decide +kernel
theorem d_M_kind_43 : decode b_M_kind 43 = .ok (.iload_n 2, 1) := by decide +kernel
theorem d_M_kind_44 : decode b_M_kind 44 = .ok (.iastore, 1) := by decide +kernel
theorem d_M_kind_45 : decode b_M_kind 45 = .ok (.iload_n 3, 1) := by decide +kernel
theorem d_M_kind_46 : decode b_M_kind 46 = .ok (.ireturn, 1) := by decide +kernel
set_option maxHeartbeats 4000000 in
set_option maxRecDepth 100000 in
theorem c_M_kind {l : Launch} {D : va_G} {cI cJ cC : ClassId} (a_h a_h_refused a_h_kind a_h_sweets a_h_gives a_h_tape a_h_letter a_h_letterAt a_h_one a_h_two a_h_kept a_h_trail a_h_crumb a_h_nextCrumb a_h_goal a_h_start a_h_sits a_h_bestSits a_h_without a_h_row : Nat) (y_h_taped : Int32) (y_h_at : Int32) (y_h_statements : Int32) (y_h_hasImage : Int32) (y_h_beforeMany : Int32) (y_h_found : Int32) (y_h_lots : Int32) (y_h_rowMany : Int32) {z_h_T : MT} {z_h_refused : (Nat → Int32)} {x1 : Int32} {x2 : Int32} {q : Int32 × MT × (Nat → Int32)} (hf : f_M_kind z_h_T z_h_refused x1 x2 = some q) : xI l y_M_kind b_M_kind 4 .int 1 22 D (tyK cI cJ cC) xE0 [.ref a_h, .int x1, .int x2] (w_M_kind cI cJ cC a_h a_h_refused a_h_kind a_h_sweets a_h_gives a_h_tape a_h_letter a_h_letterAt a_h_one a_h_two a_h_kept a_h_trail a_h_crumb a_h_nextCrumb a_h_goal a_h_start a_h_sits a_h_bestSits a_h_without a_h_row y_h_taped y_h_at y_h_statements y_h_hasImage y_h_beforeMany y_h_found y_h_lots y_h_rowMany (m_many z_h_T) (m_odd z_h_T) (m_step z_h_T) (m_bag z_h_T) (m_strokes z_h_T) (m_gave z_h_T) (m_threw z_h_T) (m_isKeeping z_h_T) (m_cursor z_h_T) z_h_refused (m_kind z_h_T) (m_sweets z_h_T) (m_gives z_h_T) (m_kept z_h_T)) q.1 (w_M_kind cI cJ cC a_h a_h_refused a_h_kind a_h_sweets a_h_gives a_h_tape a_h_letter a_h_letterAt a_h_one a_h_two a_h_kept a_h_trail a_h_crumb a_h_nextCrumb a_h_goal a_h_start a_h_sits a_h_bestSits a_h_without a_h_row y_h_taped y_h_at y_h_statements y_h_hasImage y_h_beforeMany y_h_found y_h_lots y_h_rowMany (m_many q.2.1) (m_odd q.2.1) (m_step q.2.1) (m_bag q.2.1) (m_strokes q.2.1) (m_gave q.2.1) (m_threw q.2.1) (m_isKeeping q.2.1) (m_cursor q.2.1) q.2.2 (m_kind q.2.1) (m_sweets q.2.1) (m_gives q.2.1) (m_kept q.2.1)) := by
  refine xI_of (by decide) (Nat.le_of_ble_eq_true rfl) ?_
  intro p e s m args below meth c A Q hx hb hml hown hT hA hP hD hK hS hE hret ls hl
  have hown : s.vm.findClass R_M = some m.cls := hown
  have hl : lv_has ls 4 [(0, .ref a_h), (1, .int x1), (2, .int x2)] := hl
  unfold f_M_kind at hf
  refine lv_aload_n hx hb d_M_kind_0 rfl (lv_at hl 0 rfl) ?_
  refine lv_iload_n hx hb d_M_kind_1 rfl (lv_at hl 1 rfl) ?_
  obtain ⟨q1, hq1, hf⟩ := io_b hf
  refine xcVI (wc := (w_M_isChild cI cJ cC a_h a_h_refused a_h_kind a_h_sweets a_h_gives a_h_tape a_h_letter a_h_letterAt a_h_one a_h_two a_h_kept a_h_trail a_h_crumb a_h_nextCrumb a_h_goal a_h_start a_h_sits a_h_bestSits a_h_without a_h_row y_h_taped y_h_at y_h_statements y_h_hasImage y_h_beforeMany y_h_found y_h_lots y_h_rowMany (m_many z_h_T) (m_odd z_h_T) (m_step z_h_T) (m_bag z_h_T) (m_strokes z_h_T) (m_gave z_h_T) (m_threw z_h_T) (m_isKeeping z_h_T) (m_cursor z_h_T))) (wc' := (w_M_isChild cI cJ cC a_h a_h_refused a_h_kind a_h_sweets a_h_gives a_h_tape a_h_letter a_h_letterAt a_h_one a_h_two a_h_kept a_h_trail a_h_crumb a_h_nextCrumb a_h_goal a_h_start a_h_sits a_h_bestSits a_h_without a_h_row y_h_taped y_h_at y_h_statements y_h_hasImage y_h_beforeMany y_h_found y_h_lots y_h_rowMany (m_many z_h_T) (m_odd z_h_T) (m_step z_h_T) (m_bag z_h_T) (m_strokes z_h_T) (m_gave z_h_T) (m_threw z_h_T) (m_isKeeping z_h_T) (m_cursor z_h_T))) (ws' := (w_M_kind cI cJ cC a_h a_h_refused a_h_kind a_h_sweets a_h_gives a_h_tape a_h_letter a_h_letterAt a_h_one a_h_two a_h_kept a_h_trail a_h_crumb a_h_nextCrumb a_h_goal a_h_start a_h_sits a_h_bestSits a_h_without a_h_row y_h_taped y_h_at y_h_statements y_h_hasImage y_h_beforeMany y_h_found y_h_lots y_h_rowMany (m_many z_h_T) (m_odd z_h_T) (m_step z_h_T) (m_bag z_h_T) (m_strokes z_h_T) (m_gave z_h_T) (m_threw z_h_T) (m_isKeeping z_h_T) (m_cursor z_h_T) z_h_refused (m_kind z_h_T) (m_sweets z_h_T) (m_gives z_h_T) (m_kept z_h_T))) (As := [.int x1]) (rest := []) hx hb hml hown hT (c_M_isChild (z_h_T := z_h_T) a_h a_h_refused a_h_kind a_h_sweets a_h_gives a_h_tape a_h_letter a_h_letterAt a_h_one a_h_two a_h_kept a_h_trail a_h_crumb a_h_nextCrumb a_h_goal a_h_start a_h_sits a_h_bestSits a_h_without a_h_row y_h_taped y_h_at y_h_statements y_h_hasImage y_h_beforeMany y_h_found y_h_lots y_h_rowMany hq1) k_924 k_926 ks_31 k_8 k_927 hd_M_isChild ⟨Nat.le_of_ble_eq_true rfl, Nat.le_of_ble_eq_true rfl⟩ xE0_ok trivial hA hK hP hD hS [0] [1, 2, 3, 4, 5] [5, 0, 1, 2, 3, 4] rfl rfl rfl rfl rfl rfl rfl rfl rfl rfl hl.1 rfl (Nat.le_of_ble_eq_true rfl) ⟨Nat.zero_le _, Nat.zero_le _⟩ d_M_kind_2 (fun H locs hP hD hS => ?_)
  refine lv_if_ne (tgt := 14) hx hb d_M_kind_5 (by decide) (fun c2 => ?_) (fun c2 => ?_)
  · have hf := io_f hf c2
    refine lv_iload_n hx hb d_M_kind_14 rfl (lv_at hl 2 rfl) ?_
    refine lv_iconst (v := 0) hx hb d_M_kind_15 (by decide) ?_
    refine lv_bipush (v := 6) hx hb d_M_kind_16 (by decide) ?_
    obtain ⟨q3, hq3, hf⟩ := io_b hf
    refine xcSI (wc := []) (wc' := []) (ws' := (w_M_kind cI cJ cC a_h a_h_refused a_h_kind a_h_sweets a_h_gives a_h_tape a_h_letter a_h_letterAt a_h_one a_h_two a_h_kept a_h_trail a_h_crumb a_h_nextCrumb a_h_goal a_h_start a_h_sits a_h_bestSits a_h_without a_h_row y_h_taped y_h_at y_h_statements y_h_hasImage y_h_beforeMany y_h_found y_h_lots y_h_rowMany (m_many z_h_T) (m_odd z_h_T) (m_step z_h_T) (m_bag z_h_T) (m_strokes z_h_T) (m_gave z_h_T) (m_threw z_h_T) (m_isKeeping z_h_T) (m_cursor z_h_T) z_h_refused (m_kind z_h_T) (m_sweets z_h_T) (m_gives z_h_T) (m_kept z_h_T))) (As := [.int x2, .int 0, .int 6]) (rest := []) hx hb hml hown hT (c_M_isIn hq3) k_897 k_898 k_8 k_899 hd_M_isIn ⟨Nat.le_of_ble_eq_true rfl, Nat.le_of_ble_eq_true rfl⟩ xE0_ok trivial hA hK hP hD hS [] [0, 1, 2, 3, 4, 5] [0, 1, 2, 3, 4, 5] rfl rfl rfl rfl rfl rfl rfl hl.1 rfl (Nat.le_of_ble_eq_true rfl) ⟨Nat.zero_le _, Nat.zero_le _⟩ d_M_kind_18 (fun H locs hP hD hS => ?_)
    refine lv_if_ne (tgt := 31) hx hb d_M_kind_21 (by decide) (fun c4 => ?_) (fun c4 => ?_)
    · have hf := io_f hf c4
      refine lv_aload_n hx hb d_M_kind_31 rfl (lv_at hl 0 rfl) ?_
      refine va_get hx hb hT i_M hown hK hP 0 rfl rfl 1 (Nat.le_of_ble_eq_true rfl) (hT _ k_759) (fun _ h => h) rfl d_M_kind_32 ?_
      refine lv_iload_n hx hb d_M_kind_35 rfl (lv_at hl 1 rfl) ?_
      obtain ⟨c5, hf⟩ := io_n hf
      refine x_iald hx hb hK hP 2 0 rfl rfl (j := x1.toNatClampNeg) rfl c5 d_M_kind_36 ?_
      refine lv_istore_n (lv' := [(3, .int ((m_kind z_h_T) x1.toNatClampNeg)), (0, .ref a_h), (1, .int x1), (2, .int x2)]) hx hb d_M_kind_37 rfl hl (by decide) rfl (fun ls hl => ?_)
      refine lv_aload_n hx hb d_M_kind_38 rfl (lv_at hl 1 rfl) ?_
      refine va_get hx hb hT i_M hown hK hP 0 rfl rfl 1 (Nat.le_of_ble_eq_true rfl) (hT _ k_759) (fun _ h => h) rfl d_M_kind_39 ?_
      refine lv_iload_n hx hb d_M_kind_42 rfl (lv_at hl 2 rfl) ?_
      refine lv_iload_n hx hb d_M_kind_43 rfl (lv_at hl 3 rfl) ?_
      refine x_iast hx hb hK hP hD hS 2 0 rfl rfl (j := x1.toNatClampNeg) rfl c5 d_M_kind_44 (fun H locs hP hD hS => ?_)
      have hP : va_P D classes (w_M_kind cI cJ cC a_h a_h_refused a_h_kind a_h_sweets a_h_gives a_h_tape a_h_letter a_h_letterAt a_h_one a_h_two a_h_kept a_h_trail a_h_crumb a_h_nextCrumb a_h_goal a_h_start a_h_sits a_h_bestSits a_h_without a_h_row y_h_taped y_h_at y_h_statements y_h_hasImage y_h_beforeMany y_h_found y_h_lots y_h_rowMany (m_many z_h_T) (m_odd z_h_T) (m_step z_h_T) (m_bag z_h_T) (m_strokes z_h_T) (m_gave z_h_T) (m_threw z_h_T) (m_isKeeping z_h_T) (m_cursor z_h_T) z_h_refused (upd (m_kind z_h_T) x1.toNatClampNeg x2) (m_sweets z_h_T) (m_gives z_h_T) (m_kept z_h_T)) H := hP
      have hD : va_D A (w_M_kind cI cJ cC a_h a_h_refused a_h_kind a_h_sweets a_h_gives a_h_tape a_h_letter a_h_letterAt a_h_one a_h_two a_h_kept a_h_trail a_h_crumb a_h_nextCrumb a_h_goal a_h_start a_h_sits a_h_bestSits a_h_without a_h_row y_h_taped y_h_at y_h_statements y_h_hasImage y_h_beforeMany y_h_found y_h_lots y_h_rowMany (m_many z_h_T) (m_odd z_h_T) (m_step z_h_T) (m_bag z_h_T) (m_strokes z_h_T) (m_gave z_h_T) (m_threw z_h_T) (m_isKeeping z_h_T) (m_cursor z_h_T) z_h_refused (upd (m_kind z_h_T) x1.toNatClampNeg x2) (m_sweets z_h_T) (m_gives z_h_T) (m_kept z_h_T)) := hD
      refine lv_iload_n hx hb d_M_kind_45 rfl (lv_at hl 0 rfl) ?_
      have hq := Option.some.inj hf
      subst hq
      exact hret _ _ _ _ _ d_M_kind_46 rfl rfl hP hD hS
    · have hf := io_t hf c4
      refine lv_aload_n hx hb d_M_kind_24 rfl (lv_at hl 0 rfl) ?_
      refine lv_bipush (v := (-2)) hx hb d_M_kind_25 (by decide) ?_
      obtain ⟨q6, hq6, hf⟩ := io_b hf
      refine xcVI (wc := (w_M_no cI cJ cC a_h a_h_refused a_h_kind a_h_sweets a_h_gives a_h_tape a_h_letter a_h_letterAt a_h_one a_h_two a_h_kept a_h_trail a_h_crumb a_h_nextCrumb a_h_goal a_h_start a_h_sits a_h_bestSits a_h_without a_h_row (m_many z_h_T) (m_odd z_h_T) (m_step z_h_T) (m_bag z_h_T) (m_strokes z_h_T) (m_gave z_h_T) (m_threw z_h_T) y_h_taped y_h_at y_h_statements y_h_hasImage (m_isKeeping z_h_T) (m_cursor z_h_T) y_h_beforeMany y_h_found y_h_lots y_h_rowMany z_h_refused)) (wc' := (w_M_no cI cJ cC a_h a_h_refused a_h_kind a_h_sweets a_h_gives a_h_tape a_h_letter a_h_letterAt a_h_one a_h_two a_h_kept a_h_trail a_h_crumb a_h_nextCrumb a_h_goal a_h_start a_h_sits a_h_bestSits a_h_without a_h_row (m_many z_h_T) (m_odd z_h_T) (m_step z_h_T) (m_bag z_h_T) (m_strokes z_h_T) (m_gave z_h_T) (m_threw z_h_T) y_h_taped y_h_at y_h_statements y_h_hasImage (m_isKeeping z_h_T) (m_cursor z_h_T) y_h_beforeMany y_h_found y_h_lots y_h_rowMany q6.2)) (ws' := (w_M_kind cI cJ cC a_h a_h_refused a_h_kind a_h_sweets a_h_gives a_h_tape a_h_letter a_h_letterAt a_h_one a_h_two a_h_kept a_h_trail a_h_crumb a_h_nextCrumb a_h_goal a_h_start a_h_sits a_h_bestSits a_h_without a_h_row y_h_taped y_h_at y_h_statements y_h_hasImage y_h_beforeMany y_h_found y_h_lots y_h_rowMany (m_many z_h_T) (m_odd z_h_T) (m_step z_h_T) (m_bag z_h_T) (m_strokes z_h_T) (m_gave z_h_T) (m_threw z_h_T) (m_isKeeping z_h_T) (m_cursor z_h_T) q6.2 (m_kind z_h_T) (m_sweets z_h_T) (m_gives z_h_T) (m_kept z_h_T))) (As := [.int (-2)]) (rest := []) hx hb hml hown hT (c_M_no (z_h_refused := z_h_refused) a_h a_h_refused a_h_kind a_h_sweets a_h_gives a_h_tape a_h_letter a_h_letterAt a_h_one a_h_two a_h_kept a_h_trail a_h_crumb a_h_nextCrumb a_h_goal a_h_start a_h_sits a_h_bestSits a_h_without a_h_row (m_many z_h_T) (m_odd z_h_T) (m_step z_h_T) (m_bag z_h_T) (m_strokes z_h_T) (m_gave z_h_T) (m_threw z_h_T) y_h_taped y_h_at y_h_statements y_h_hasImage (m_isKeeping z_h_T) (m_cursor z_h_T) y_h_beforeMany y_h_found y_h_lots y_h_rowMany hq6) k_874 k_876 ks_24 k_8 k_877 hd_M_no ⟨Nat.le_of_ble_eq_true rfl, Nat.le_of_ble_eq_true rfl⟩ xE0_ok trivial hA hK hP hD hS [0, 1] [2, 3, 4, 5] [4, 5, 0, 1, 2, 3] rfl rfl rfl rfl rfl rfl rfl rfl rfl rfl hl.1 rfl (Nat.le_of_ble_eq_true rfl) ⟨Nat.zero_le _, Nat.zero_le _⟩ d_M_kind_27 (fun H locs hP hD hS => ?_)
      have hq := Option.some.inj hf
      subst hq
      exact hret _ _ _ _ _ d_M_kind_30 rfl rfl hP hD hS
  · have hf := io_t hf c2
    refine lv_aload_n hx hb d_M_kind_8 rfl (lv_at hl 0 rfl) ?_
    refine lv_iconst (v := (-1)) hx hb d_M_kind_9 (by decide) ?_
    obtain ⟨q7, hq7, hf⟩ := io_b hf
    refine xcVI (wc := (w_M_no cI cJ cC a_h a_h_refused a_h_kind a_h_sweets a_h_gives a_h_tape a_h_letter a_h_letterAt a_h_one a_h_two a_h_kept a_h_trail a_h_crumb a_h_nextCrumb a_h_goal a_h_start a_h_sits a_h_bestSits a_h_without a_h_row (m_many z_h_T) (m_odd z_h_T) (m_step z_h_T) (m_bag z_h_T) (m_strokes z_h_T) (m_gave z_h_T) (m_threw z_h_T) y_h_taped y_h_at y_h_statements y_h_hasImage (m_isKeeping z_h_T) (m_cursor z_h_T) y_h_beforeMany y_h_found y_h_lots y_h_rowMany z_h_refused)) (wc' := (w_M_no cI cJ cC a_h a_h_refused a_h_kind a_h_sweets a_h_gives a_h_tape a_h_letter a_h_letterAt a_h_one a_h_two a_h_kept a_h_trail a_h_crumb a_h_nextCrumb a_h_goal a_h_start a_h_sits a_h_bestSits a_h_without a_h_row (m_many z_h_T) (m_odd z_h_T) (m_step z_h_T) (m_bag z_h_T) (m_strokes z_h_T) (m_gave z_h_T) (m_threw z_h_T) y_h_taped y_h_at y_h_statements y_h_hasImage (m_isKeeping z_h_T) (m_cursor z_h_T) y_h_beforeMany y_h_found y_h_lots y_h_rowMany q7.2)) (ws' := (w_M_kind cI cJ cC a_h a_h_refused a_h_kind a_h_sweets a_h_gives a_h_tape a_h_letter a_h_letterAt a_h_one a_h_two a_h_kept a_h_trail a_h_crumb a_h_nextCrumb a_h_goal a_h_start a_h_sits a_h_bestSits a_h_without a_h_row y_h_taped y_h_at y_h_statements y_h_hasImage y_h_beforeMany y_h_found y_h_lots y_h_rowMany (m_many z_h_T) (m_odd z_h_T) (m_step z_h_T) (m_bag z_h_T) (m_strokes z_h_T) (m_gave z_h_T) (m_threw z_h_T) (m_isKeeping z_h_T) (m_cursor z_h_T) q7.2 (m_kind z_h_T) (m_sweets z_h_T) (m_gives z_h_T) (m_kept z_h_T))) (As := [.int (-1)]) (rest := []) hx hb hml hown hT (c_M_no (z_h_refused := z_h_refused) a_h a_h_refused a_h_kind a_h_sweets a_h_gives a_h_tape a_h_letter a_h_letterAt a_h_one a_h_two a_h_kept a_h_trail a_h_crumb a_h_nextCrumb a_h_goal a_h_start a_h_sits a_h_bestSits a_h_without a_h_row (m_many z_h_T) (m_odd z_h_T) (m_step z_h_T) (m_bag z_h_T) (m_strokes z_h_T) (m_gave z_h_T) (m_threw z_h_T) y_h_taped y_h_at y_h_statements y_h_hasImage (m_isKeeping z_h_T) (m_cursor z_h_T) y_h_beforeMany y_h_found y_h_lots y_h_rowMany hq7) k_874 k_876 ks_24 k_8 k_877 hd_M_no ⟨Nat.le_of_ble_eq_true rfl, Nat.le_of_ble_eq_true rfl⟩ xE0_ok trivial hA hK hP hD hS [0, 1] [2, 3, 4, 5] [4, 5, 0, 1, 2, 3] rfl rfl rfl rfl rfl rfl rfl rfl rfl rfl hl.1 rfl (Nat.le_of_ble_eq_true rfl) ⟨Nat.zero_le _, Nat.zero_le _⟩ d_M_kind_10 (fun H locs hP hD hS => ?_)
    have hq := Option.some.inj hf
    subst hq
    exact hret _ _ _ _ _ d_M_kind_13 rfl rfl hP hD hS
abbrev w_M_set (cI cJ cC : ClassId) (a_h a_h_refused a_h_kind a_h_sweets a_h_gives a_h_tape a_h_letter a_h_letterAt a_h_one a_h_two a_h_kept a_h_trail a_h_crumb a_h_nextCrumb a_h_goal a_h_start a_h_sits a_h_bestSits a_h_without a_h_row : Nat) (y_h_taped : Int32) (y_h_at : Int32) (y_h_statements : Int32) (y_h_hasImage : Int32) (y_h_beforeMany : Int32) (y_h_found : Int32) (y_h_lots : Int32) (y_h_rowMany : Int32) (p_h_many : Int32) (p_h_odd : Int32) (p_h_step : Int32) (p_h_bag : Int32) (p_h_strokes : Int32) (p_h_gave : Int32) (p_h_threw : Int32) (p_h_isKeeping : Int32) (p_h_cursor : Int32) (p_h_refused : (Nat → Int32)) (p_h_kind : (Nat → Int32)) (p_h_sweets : (Nat → Int32)) (p_h_gives : (Nat → Int32)) (p_h_kept : (Nat → Int32)) : va_W := [(a_h, .inr (7, [.ref a_h_refused, .ref a_h_kind, .ref a_h_sweets, .ref a_h_gives, .int p_h_many, .int p_h_odd, .int p_h_step, .int p_h_bag, .int p_h_strokes, .int p_h_gave, .int p_h_threw, .ref a_h_tape, .ref a_h_letter, .ref a_h_letterAt, .ref a_h_one, .ref a_h_two, .int y_h_taped, .int y_h_at, .int y_h_statements, .ref a_h_kept, .int y_h_hasImage, .int p_h_isKeeping, .int p_h_cursor, .ref a_h_trail, .ref a_h_crumb, .ref a_h_nextCrumb, .ref a_h_goal, .ref a_h_start, .int y_h_beforeMany, .int y_h_found, .ref a_h_sits, .ref a_h_bestSits, .ref a_h_without, .int y_h_lots, .ref a_h_row, .int y_h_rowMany])), (a_h_refused, .inl (cI, (7, .inl p_h_refused))), (a_h_kind, .inl (cI, (8, .inl p_h_kind))), (a_h_sweets, .inl (cI, (8, .inl p_h_sweets))), (a_h_gives, .inl (cI, (8, .inl p_h_gives))), (a_h_kept, .inl (cI, (90, .inl p_h_kept)))]
theorem d_M_set_0 : decode b_M_set 0 = .ok (.iload_n 1, 1) := by decide +kernel
theorem d_M_set_1 : decode b_M_set 1 = .ok (.iconst 0, 1) := by decide +kernel
theorem d_M_set_2 : decode b_M_set 2 = .ok (.iconst 2, 1) := by decide +kernel
theorem d_M_set_3 : decode b_M_set 3 = .ok (.invokestatic 99, 3) := by decide +kernel
theorem d_M_set_6 : decode b_M_set 6 = .ok (.ifCond .ne 10, 3) := by decide +kernel
theorem d_M_set_9 : decode b_M_set 9 = .ok (.aload_n 0, 1) := by decide +kernel
theorem d_M_set_10 : decode b_M_set 10 = .ok (.bipush (-2), 2) := by decide +kernel
theorem d_M_set_12 : decode b_M_set 12 = .ok (.invokevirtual 88, 3) := by decide +kernel
theorem d_M_set_15 : decode b_M_set 15 = .ok (.ireturn, 1) := by decide +kernel
theorem d_M_set_16 : decode b_M_set 16 = .ok (.iload_n 2, 1) := by decide +kernel
theorem d_M_set_17 : decode b_M_set 17 = .ok (.iload_n 1, 1) := by decide +kernel
theorem d_M_set_18 : decode b_M_set 18 = .ok (.iconst 1, 1) := by decide +kernel
theorem d_M_set_19 : decode b_M_set 19 = .ok (.if_icmp .ne 7, 3) := by decide +kernel
theorem d_M_set_22 : decode b_M_set 22 = .ok (.iconst 1, 1) := by decide +kernel
theorem d_M_set_23 : decode b_M_set 23 = .ok (.goto 4, 3) := by decide +kernel
theorem d_M_set_26 : decode b_M_set 26 = .ok (.iconst 0, 1) := by decide +kernel
theorem d_M_set_27 : decode b_M_set 27 = .ok (.iload_n 1, 1) := by decide +kernel
theorem d_M_set_28 : decode b_M_set 28 = .ok (.ifCond .ne 7, 3) := by decide +kernel
theorem d_M_set_31 : decode b_M_set 31 = .ok (.iconst 2, 1) := by decide +kernel
theorem d_M_set_32 : decode b_M_set 32 = .ok (.goto 15, 3) := by decide +kernel
theorem d_M_set_35 : decode b_M_set 35 = .ok (.iload_n 1, 1) := by decide +kernel
theorem d_M_set_36 : decode b_M_set 36 = .ok (.iconst 1, 1) := by decide +kernel
theorem d_M_set_37 : decode b_M_set 37 = .ok (.if_icmp .ne 7, 3) := by decide +kernel
theorem d_M_set_40 : decode b_M_set 40 = .ok (.iconst 3, 1) := by decide +kernel
theorem d_M_set_41 : decode b_M_set 41 = .ok (.goto 6, 3) := by decide +kernel
theorem d_M_set_44 : decode b_M_set 44 = .ok (.sipush 999, 3) := by decide +kernel
theorem d_M_set_47 : decode b_M_set 47 = .ok (.invokestatic 81, 3) := by decide +kernel
theorem d_M_set_50 : decode b_M_set 50 = .ok (.istore_n 3, 1) := by decide +kernel
theorem d_M_set_51 : decode b_M_set 51 = .ok (.iload_n 3, 1) := by decide +kernel
theorem d_M_set_52 : decode b_M_set 52 = .ok (.ifCond .eq 9, 3) := by decide +kernel
theorem d_M_set_55 : decode b_M_set 55 = .ok (.aload_n 0, 1) := by decide +kernel
theorem d_M_set_56 : decode b_M_set 56 = .ok (.iload_n 3, 1) := by decide +kernel
theorem d_M_set_57 : decode b_M_set 57 = .ok (.invokevirtual 88, 3) := by decide +kernel
theorem d_M_set_60 : decode b_M_set 60 = .ok (.ireturn, 1) := by decide +kernel
theorem d_M_set_61 : decode b_M_set 61 = .ok (.iload_n 1, 1) := by decide +kernel
theorem d_M_set_62 : decode b_M_set 62 = .ok (.ifCond .ne 10, 3) := by decide +kernel
theorem d_M_set_65 : decode b_M_set 65 = .ok (.aload_n 0, 1) := by decide +kernel
theorem d_M_set_66 : decode b_M_set 66 = .ok (.getfield 112, 3) := by decide +kernel
theorem d_M_set_69 : decode b_M_set 69 = .ok (.goto 19, 3) := by decide +kernel
theorem d_M_set_72 : decode b_M_set 72 = .ok (.iload_n 1, 1) := by decide +kernel
theorem d_M_set_73 : decode b_M_set 73 = .ok (.iconst 1, 1) := by decide +kernel
theorem d_M_set_74 : decode b_M_set 74 = .ok (.if_icmp .ne 10, 3) := by decide +kernel
theorem d_M_set_77 : decode b_M_set 77 = .ok (.aload_n 0, 1) := by decide +kernel
theorem d_M_set_78 : decode b_M_set 78 = .ok (.getfield 22, 3) := by decide +kernel
theorem d_M_set_81 : decode b_M_set 81 = .ok (.goto 7, 3) := by decide +kernel
theorem d_M_set_84 : decode b_M_set 84 = .ok (.aload_n 0, 1) := by decide +kernel
theorem d_M_set_85 : decode b_M_set 85 = .ok (.getfield 26, 3) := by decide +kernel
theorem d_M_set_88 : decode b_M_set 88 = .ok (.istore 4, 2) := by decide +kernel
theorem d_M_set_90 : decode b_M_set 90 = .ok (.iload_n 1, 1) := by decide +kernel
theorem d_M_set_91 : decode b_M_set 91 = .ok (.ifCond .ne 8, 3) := by decide +kernel
theorem d_M_set_94 : decode b_M_set 94 = .ok (.aload_n 0, 1) := by decide +kernel
theorem d_M_set_95 : decode b_M_set 95 = .ok (.iload_n 2, 1) := by decide +kernel
theorem d_M_set_96 : decode b_M_set 96 = .ok (.putfield 112, 3) := by decide +kernel
theorem d_M_set_99 : decode b_M_set 99 = .ok (.iload_n 1, 1) := by decide +kernel
theorem d_M_set_100 : decode b_M_set 100 = .ok (.iconst 1, 1) := by decide +kernel
theorem d_M_set_101 : decode b_M_set 101 = .ok (.if_icmp .ne 8, 3) := by decide +kernel
theorem d_M_set_104 : decode b_M_set 104 = .ok (.aload_n 0, 1) := by decide +kernel
theorem d_M_set_105 : decode b_M_set 105 = .ok (.iload_n 2, 1) := by decide +kernel
theorem d_M_set_106 : decode b_M_set 106 = .ok (.putfield 22, 3) := by decide +kernel
theorem d_M_set_109 : decode b_M_set 109 = .ok (.iload_n 1, 1) := by decide +kernel
theorem d_M_set_110 : decode b_M_set 110 = .ok (.iconst 2, 1) := by decide +kernel
theorem d_M_set_111 : decode b_M_set 111 = .ok (.if_icmp .ne 8, 3) := by decide +kernel
theorem d_M_set_114 : decode b_M_set 114 = .ok (.aload_n 0, 1) := by decide +kernel
theorem d_M_set_115 : decode b_M_set 115 = .ok (.iload_n 2, 1) := by decide +kernel
theorem d_M_set_116 : decode b_M_set 116 = .ok (.putfield 26, 3) := by decide +kernel
theorem d_M_set_119 : decode b_M_set 119 = .ok (.iload 4, 2) := by decide +kernel
theorem d_M_set_121 : decode b_M_set 121 = .ok (.ireturn, 1) := by decide +kernel
set_option maxHeartbeats 4000000 in
set_option maxRecDepth 100000 in
theorem c_M_set {l : Launch} {D : va_G} {cI cJ cC : ClassId} (a_h a_h_refused a_h_kind a_h_sweets a_h_gives a_h_tape a_h_letter a_h_letterAt a_h_one a_h_two a_h_kept a_h_trail a_h_crumb a_h_nextCrumb a_h_goal a_h_start a_h_sits a_h_bestSits a_h_without a_h_row : Nat) (y_h_taped : Int32) (y_h_at : Int32) (y_h_statements : Int32) (y_h_hasImage : Int32) (y_h_beforeMany : Int32) (y_h_found : Int32) (y_h_lots : Int32) (y_h_rowMany : Int32) {z_h_T : MT} {z_h_refused : (Nat → Int32)} {x1 : Int32} {x2 : Int32} {q : Int32 × MT × (Nat → Int32)} (hf : f_M_set z_h_T z_h_refused x1 x2 = some q) : xI l y_M_set b_M_set 5 .int 1 22 D (tyK cI cJ cC) xE0 [.ref a_h, .int x1, .int x2] (w_M_set cI cJ cC a_h a_h_refused a_h_kind a_h_sweets a_h_gives a_h_tape a_h_letter a_h_letterAt a_h_one a_h_two a_h_kept a_h_trail a_h_crumb a_h_nextCrumb a_h_goal a_h_start a_h_sits a_h_bestSits a_h_without a_h_row y_h_taped y_h_at y_h_statements y_h_hasImage y_h_beforeMany y_h_found y_h_lots y_h_rowMany (m_many z_h_T) (m_odd z_h_T) (m_step z_h_T) (m_bag z_h_T) (m_strokes z_h_T) (m_gave z_h_T) (m_threw z_h_T) (m_isKeeping z_h_T) (m_cursor z_h_T) z_h_refused (m_kind z_h_T) (m_sweets z_h_T) (m_gives z_h_T) (m_kept z_h_T)) q.1 (w_M_set cI cJ cC a_h a_h_refused a_h_kind a_h_sweets a_h_gives a_h_tape a_h_letter a_h_letterAt a_h_one a_h_two a_h_kept a_h_trail a_h_crumb a_h_nextCrumb a_h_goal a_h_start a_h_sits a_h_bestSits a_h_without a_h_row y_h_taped y_h_at y_h_statements y_h_hasImage y_h_beforeMany y_h_found y_h_lots y_h_rowMany (m_many q.2.1) (m_odd q.2.1) (m_step q.2.1) (m_bag q.2.1) (m_strokes q.2.1) (m_gave q.2.1) (m_threw q.2.1) (m_isKeeping q.2.1) (m_cursor q.2.1) q.2.2 (m_kind q.2.1) (m_sweets q.2.1) (m_gives q.2.1) (m_kept q.2.1)) := by
  refine xI_of (by decide) (Nat.le_of_ble_eq_true rfl) ?_
  intro p e s m args below meth c A Q hx hb hml hown hT hA hP hD hK hS hE hret ls hl
  have hown : s.vm.findClass R_M = some m.cls := hown
  have hl : lv_has ls 5 [(0, .ref a_h), (1, .int x1), (2, .int x2)] := hl
  unfold f_M_set at hf
  refine lv_iload_n hx hb d_M_set_0 rfl (lv_at hl 1 rfl) ?_
  refine lv_iconst (v := 0) hx hb d_M_set_1 (by decide) ?_
  refine lv_iconst (v := 2) hx hb d_M_set_2 (by decide) ?_
  obtain ⟨q1, hq1, hf⟩ := io_b hf
  refine xcSI (wc := []) (wc' := []) (ws' := (w_M_set cI cJ cC a_h a_h_refused a_h_kind a_h_sweets a_h_gives a_h_tape a_h_letter a_h_letterAt a_h_one a_h_two a_h_kept a_h_trail a_h_crumb a_h_nextCrumb a_h_goal a_h_start a_h_sits a_h_bestSits a_h_without a_h_row y_h_taped y_h_at y_h_statements y_h_hasImage y_h_beforeMany y_h_found y_h_lots y_h_rowMany (m_many z_h_T) (m_odd z_h_T) (m_step z_h_T) (m_bag z_h_T) (m_strokes z_h_T) (m_gave z_h_T) (m_threw z_h_T) (m_isKeeping z_h_T) (m_cursor z_h_T) z_h_refused (m_kind z_h_T) (m_sweets z_h_T) (m_gives z_h_T) (m_kept z_h_T))) (As := [.int x1, .int 0, .int 2]) (rest := []) hx hb hml hown hT (c_M_isIn hq1) k_897 k_898 k_8 k_899 hd_M_isIn ⟨Nat.le_of_ble_eq_true rfl, Nat.le_of_ble_eq_true rfl⟩ xE0_ok trivial hA hK hP hD hS [] [0, 1, 2, 3, 4, 5] [0, 1, 2, 3, 4, 5] rfl rfl rfl rfl rfl rfl rfl hl.1 rfl (Nat.le_of_ble_eq_true rfl) ⟨Nat.zero_le _, Nat.zero_le _⟩ d_M_set_3 (fun H locs hP hD hS => ?_)
  refine lv_if_ne (tgt := 16) hx hb d_M_set_6 (by decide) (fun c2 => ?_) (fun c2 => ?_)
  · have hf := io_f hf c2
    refine lv_iload_n hx hb d_M_set_16 rfl (lv_at hl 2 rfl) ?_
    refine lv_iload_n hx hb d_M_set_17 rfl (lv_at hl 1 rfl) ?_
    refine lv_iconst (v := 1) hx hb d_M_set_18 (by decide) ?_
    refine lv_icmp_ne (tgt := 26) hx hb d_M_set_19 (by decide) (fun c3 => ?_) (fun c3 => ?_)
    · have hf := io_f hf c3
      refine lv_iconst (v := 0) hx hb d_M_set_26 (by decide) ?_
      refine lv_iload_n hx hb d_M_set_27 rfl (lv_at hl 1 rfl) ?_
      refine lv_if_ne (tgt := 35) hx hb d_M_set_28 (by decide) (fun c4 => ?_) (fun c4 => ?_)
      · have hf := io_f hf c4
        refine lv_iload_n hx hb d_M_set_35 rfl (lv_at hl 1 rfl) ?_
        refine lv_iconst (v := 1) hx hb d_M_set_36 (by decide) ?_
        refine lv_icmp_ne (tgt := 44) hx hb d_M_set_37 (by decide) (fun _ => ?_) (fun c => absurd c c3)
        refine lv_sipush (v := 999) hx hb d_M_set_44 (by decide) ?_
        obtain ⟨q5, hq5, hf⟩ := io_b hf
        refine xcSI (wc := []) (wc' := []) (ws' := (w_M_set cI cJ cC a_h a_h_refused a_h_kind a_h_sweets a_h_gives a_h_tape a_h_letter a_h_letterAt a_h_one a_h_two a_h_kept a_h_trail a_h_crumb a_h_nextCrumb a_h_goal a_h_start a_h_sits a_h_bestSits a_h_without a_h_row y_h_taped y_h_at y_h_statements y_h_hasImage y_h_beforeMany y_h_found y_h_lots y_h_rowMany (m_many z_h_T) (m_odd z_h_T) (m_step z_h_T) (m_bag z_h_T) (m_strokes z_h_T) (m_gave z_h_T) (m_threw z_h_T) (m_isKeeping z_h_T) (m_cursor z_h_T) z_h_refused (m_kind z_h_T) (m_sweets z_h_T) (m_gives z_h_T) (m_kept z_h_T))) (As := [.int x2, .int 0, .int 999]) (rest := []) hx hb hml hown hT (c_M_bound hq5) k_871 k_872 k_8 k_873 hd_M_bound ⟨Nat.le_of_ble_eq_true rfl, Nat.le_of_ble_eq_true rfl⟩ xE0_ok trivial hA hK hP hD hS [] [0, 1, 2, 3, 4, 5] [0, 1, 2, 3, 4, 5] rfl rfl rfl rfl rfl rfl rfl hl.1 rfl (Nat.le_of_ble_eq_true rfl) ⟨Nat.zero_le _, Nat.zero_le _⟩ d_M_set_47 (fun H locs hP hD hS => ?_)
        refine lv_istore_n (lv' := [(3, .int q5), (0, .ref a_h), (1, .int x1), (2, .int x2)]) hx hb d_M_set_50 rfl hl (by decide) rfl (fun ls hl => ?_)
        refine lv_iload_n hx hb d_M_set_51 rfl (lv_at hl 0 rfl) ?_
        refine lv_if_eq (tgt := 61) hx hb d_M_set_52 (by decide) (fun c6 => ?_) (fun c6 => ?_)
        · have hf := io_t hf c6
          refine lv_iload_n hx hb d_M_set_61 rfl (lv_at hl 2 rfl) ?_
          refine lv_if_ne (tgt := 72) hx hb d_M_set_62 (by decide) (fun _ => ?_) (fun c => absurd c c4)
          refine lv_iload_n hx hb d_M_set_72 rfl (lv_at hl 2 rfl) ?_
          refine lv_iconst (v := 1) hx hb d_M_set_73 (by decide) ?_
          refine lv_icmp_ne (tgt := 84) hx hb d_M_set_74 (by decide) (fun _ => ?_) (fun c => absurd c c3)
          refine lv_aload_n hx hb d_M_set_84 rfl (lv_at hl 1 rfl) ?_
          refine va_get hx hb hT i_M hown hK hP 0 rfl rfl 7 (Nat.le_of_ble_eq_true rfl) (hT _ k_765) (fun _ h => h) rfl d_M_set_85 ?_
          refine lv_istore (lv' := [(4, .int (m_bag z_h_T)), (3, .int q5), (0, .ref a_h), (1, .int x1), (2, .int x2)]) hx hb d_M_set_88 hl (by decide) rfl (fun ls hl => ?_)
          refine lv_iload_n hx hb d_M_set_90 rfl (lv_at hl 3 rfl) ?_
          refine lv_if_ne (tgt := 99) hx hb d_M_set_91 (by decide) (fun _ => ?_) (fun c => absurd c c4)
          refine lv_iload_n hx hb d_M_set_99 rfl (lv_at hl 3 rfl) ?_
          refine lv_iconst (v := 1) hx hb d_M_set_100 (by decide) ?_
          refine lv_icmp_ne (tgt := 109) hx hb d_M_set_101 (by decide) (fun _ => ?_) (fun c => absurd c c3)
          refine lv_iload_n hx hb d_M_set_109 rfl (lv_at hl 3 rfl) ?_
          refine lv_iconst (v := 2) hx hb d_M_set_110 (by decide) ?_
          refine lv_icmp_ne (tgt := 119) hx hb d_M_set_111 (by decide) (fun c7 => ?_) (fun c7 => ?_)
          · have hf := io_f hf c7
            refine lv_iload hx hb d_M_set_119 (lv_at hl 0 rfl) ?_
            have hq := Option.some.inj hf
            subst hq
            exact hret _ _ _ _ _ d_M_set_121 rfl rfl hP hD hS
          · have hf := io_t hf c7
            refine lv_aload_n hx hb d_M_set_114 rfl (lv_at hl 2 rfl) ?_
            refine lv_iload_n hx hb d_M_set_115 rfl (lv_at hl 4 rfl) ?_
            refine va_put (ty := .int) hx hb hT i_M t_M t_M_ok n_M hown hK hP hD hS 0 rfl rfl 7 (Nat.le_of_ble_eq_true rfl) (hT _ k_765) (fun _ h => h) rfl rfl rfl rfl (Nat.le_of_ble_eq_true rfl) d_M_set_116 (fun H locs hP hD hS => ?_)
            have hP : va_P D classes (w_M_set cI cJ cC a_h a_h_refused a_h_kind a_h_sweets a_h_gives a_h_tape a_h_letter a_h_letterAt a_h_one a_h_two a_h_kept a_h_trail a_h_crumb a_h_nextCrumb a_h_goal a_h_start a_h_sits a_h_bestSits a_h_without a_h_row y_h_taped y_h_at y_h_statements y_h_hasImage y_h_beforeMany y_h_found y_h_lots y_h_rowMany (m_many z_h_T) (m_odd z_h_T) (m_step z_h_T) x2 (m_strokes z_h_T) (m_gave z_h_T) (m_threw z_h_T) (m_isKeeping z_h_T) (m_cursor z_h_T) z_h_refused (m_kind z_h_T) (m_sweets z_h_T) (m_gives z_h_T) (m_kept z_h_T)) H := hP
            have hD : va_D A (w_M_set cI cJ cC a_h a_h_refused a_h_kind a_h_sweets a_h_gives a_h_tape a_h_letter a_h_letterAt a_h_one a_h_two a_h_kept a_h_trail a_h_crumb a_h_nextCrumb a_h_goal a_h_start a_h_sits a_h_bestSits a_h_without a_h_row y_h_taped y_h_at y_h_statements y_h_hasImage y_h_beforeMany y_h_found y_h_lots y_h_rowMany (m_many z_h_T) (m_odd z_h_T) (m_step z_h_T) x2 (m_strokes z_h_T) (m_gave z_h_T) (m_threw z_h_T) (m_isKeeping z_h_T) (m_cursor z_h_T) z_h_refused (m_kind z_h_T) (m_sweets z_h_T) (m_gives z_h_T) (m_kept z_h_T)) := hD
            refine lv_iload hx hb d_M_set_119 (lv_at hl 0 rfl) ?_
            have hq := Option.some.inj hf
            subst hq
            exact hret _ _ _ _ _ d_M_set_121 rfl rfl hP hD hS
        · have hf := io_f hf c6
          refine lv_aload_n hx hb d_M_set_55 rfl (lv_at hl 1 rfl) ?_
          refine lv_iload_n hx hb d_M_set_56 rfl (lv_at hl 0 rfl) ?_
          obtain ⟨q8, hq8, hf⟩ := io_b hf
          refine xcVI (wc := (w_M_no cI cJ cC a_h a_h_refused a_h_kind a_h_sweets a_h_gives a_h_tape a_h_letter a_h_letterAt a_h_one a_h_two a_h_kept a_h_trail a_h_crumb a_h_nextCrumb a_h_goal a_h_start a_h_sits a_h_bestSits a_h_without a_h_row (m_many z_h_T) (m_odd z_h_T) (m_step z_h_T) (m_bag z_h_T) (m_strokes z_h_T) (m_gave z_h_T) (m_threw z_h_T) y_h_taped y_h_at y_h_statements y_h_hasImage (m_isKeeping z_h_T) (m_cursor z_h_T) y_h_beforeMany y_h_found y_h_lots y_h_rowMany z_h_refused)) (wc' := (w_M_no cI cJ cC a_h a_h_refused a_h_kind a_h_sweets a_h_gives a_h_tape a_h_letter a_h_letterAt a_h_one a_h_two a_h_kept a_h_trail a_h_crumb a_h_nextCrumb a_h_goal a_h_start a_h_sits a_h_bestSits a_h_without a_h_row (m_many z_h_T) (m_odd z_h_T) (m_step z_h_T) (m_bag z_h_T) (m_strokes z_h_T) (m_gave z_h_T) (m_threw z_h_T) y_h_taped y_h_at y_h_statements y_h_hasImage (m_isKeeping z_h_T) (m_cursor z_h_T) y_h_beforeMany y_h_found y_h_lots y_h_rowMany q8.2)) (ws' := (w_M_set cI cJ cC a_h a_h_refused a_h_kind a_h_sweets a_h_gives a_h_tape a_h_letter a_h_letterAt a_h_one a_h_two a_h_kept a_h_trail a_h_crumb a_h_nextCrumb a_h_goal a_h_start a_h_sits a_h_bestSits a_h_without a_h_row y_h_taped y_h_at y_h_statements y_h_hasImage y_h_beforeMany y_h_found y_h_lots y_h_rowMany (m_many z_h_T) (m_odd z_h_T) (m_step z_h_T) (m_bag z_h_T) (m_strokes z_h_T) (m_gave z_h_T) (m_threw z_h_T) (m_isKeeping z_h_T) (m_cursor z_h_T) q8.2 (m_kind z_h_T) (m_sweets z_h_T) (m_gives z_h_T) (m_kept z_h_T))) (As := [.int q5]) (rest := []) hx hb hml hown hT (c_M_no (z_h_refused := z_h_refused) a_h a_h_refused a_h_kind a_h_sweets a_h_gives a_h_tape a_h_letter a_h_letterAt a_h_one a_h_two a_h_kept a_h_trail a_h_crumb a_h_nextCrumb a_h_goal a_h_start a_h_sits a_h_bestSits a_h_without a_h_row (m_many z_h_T) (m_odd z_h_T) (m_step z_h_T) (m_bag z_h_T) (m_strokes z_h_T) (m_gave z_h_T) (m_threw z_h_T) y_h_taped y_h_at y_h_statements y_h_hasImage (m_isKeeping z_h_T) (m_cursor z_h_T) y_h_beforeMany y_h_found y_h_lots y_h_rowMany hq8) k_874 k_876 ks_24 k_8 k_877 hd_M_no ⟨Nat.le_of_ble_eq_true rfl, Nat.le_of_ble_eq_true rfl⟩ xE0_ok trivial hA hK hP hD hS [0, 1] [2, 3, 4, 5] [4, 5, 0, 1, 2, 3] rfl rfl rfl rfl rfl rfl rfl rfl rfl rfl hl.1 rfl (Nat.le_of_ble_eq_true rfl) ⟨Nat.zero_le _, Nat.zero_le _⟩ d_M_set_57 (fun H locs hP hD hS => ?_)
          have hq := Option.some.inj hf
          subst hq
          exact hret _ _ _ _ _ d_M_set_60 rfl rfl hP hD hS
      · have hf := io_t hf c4
        refine lv_iconst (v := 2) hx hb d_M_set_31 (by decide) ?_
        refine lv_goto (tgt := 47) hx hb d_M_set_32 (by decide) ?_
        obtain ⟨q9, hq9, hf⟩ := io_b hf
        refine xcSI (wc := []) (wc' := []) (ws' := (w_M_set cI cJ cC a_h a_h_refused a_h_kind a_h_sweets a_h_gives a_h_tape a_h_letter a_h_letterAt a_h_one a_h_two a_h_kept a_h_trail a_h_crumb a_h_nextCrumb a_h_goal a_h_start a_h_sits a_h_bestSits a_h_without a_h_row y_h_taped y_h_at y_h_statements y_h_hasImage y_h_beforeMany y_h_found y_h_lots y_h_rowMany (m_many z_h_T) (m_odd z_h_T) (m_step z_h_T) (m_bag z_h_T) (m_strokes z_h_T) (m_gave z_h_T) (m_threw z_h_T) (m_isKeeping z_h_T) (m_cursor z_h_T) z_h_refused (m_kind z_h_T) (m_sweets z_h_T) (m_gives z_h_T) (m_kept z_h_T))) (As := [.int x2, .int 0, .int 2]) (rest := []) hx hb hml hown hT (c_M_bound hq9) k_871 k_872 k_8 k_873 hd_M_bound ⟨Nat.le_of_ble_eq_true rfl, Nat.le_of_ble_eq_true rfl⟩ xE0_ok trivial hA hK hP hD hS [] [0, 1, 2, 3, 4, 5] [0, 1, 2, 3, 4, 5] rfl rfl rfl rfl rfl rfl rfl hl.1 rfl (Nat.le_of_ble_eq_true rfl) ⟨Nat.zero_le _, Nat.zero_le _⟩ d_M_set_47 (fun H locs hP hD hS => ?_)
        refine lv_istore_n (lv' := [(3, .int q9), (0, .ref a_h), (1, .int x1), (2, .int x2)]) hx hb d_M_set_50 rfl hl (by decide) rfl (fun ls hl => ?_)
        refine lv_iload_n hx hb d_M_set_51 rfl (lv_at hl 0 rfl) ?_
        refine lv_if_eq (tgt := 61) hx hb d_M_set_52 (by decide) (fun c10 => ?_) (fun c10 => ?_)
        · have hf := io_t hf c10
          refine lv_iload_n hx hb d_M_set_61 rfl (lv_at hl 2 rfl) ?_
          refine lv_if_ne (tgt := 72) hx hb d_M_set_62 (by decide) (fun c => absurd c4 c) (fun _ => ?_)
          refine lv_aload_n hx hb d_M_set_65 rfl (lv_at hl 1 rfl) ?_
          refine va_get hx hb hT i_M hown hK hP 0 rfl rfl 5 (Nat.le_of_ble_eq_true rfl) (hT _ k_763) (fun _ h => h) rfl d_M_set_66 ?_
          refine lv_goto (tgt := 88) hx hb d_M_set_69 (by decide) ?_
          refine lv_istore (lv' := [(4, .int (m_odd z_h_T)), (3, .int q9), (0, .ref a_h), (1, .int x1), (2, .int x2)]) hx hb d_M_set_88 hl (by decide) rfl (fun ls hl => ?_)
          refine lv_iload_n hx hb d_M_set_90 rfl (lv_at hl 3 rfl) ?_
          refine lv_if_ne (tgt := 99) hx hb d_M_set_91 (by decide) (fun c => absurd c4 c) (fun _ => ?_)
          refine lv_aload_n hx hb d_M_set_94 rfl (lv_at hl 2 rfl) ?_
          refine lv_iload_n hx hb d_M_set_95 rfl (lv_at hl 4 rfl) ?_
          refine va_put (ty := .int) hx hb hT i_M t_M t_M_ok n_M hown hK hP hD hS 0 rfl rfl 5 (Nat.le_of_ble_eq_true rfl) (hT _ k_763) (fun _ h => h) rfl rfl rfl rfl (Nat.le_of_ble_eq_true rfl) d_M_set_96 (fun H locs hP hD hS => ?_)
          have hP : va_P D classes (w_M_set cI cJ cC a_h a_h_refused a_h_kind a_h_sweets a_h_gives a_h_tape a_h_letter a_h_letterAt a_h_one a_h_two a_h_kept a_h_trail a_h_crumb a_h_nextCrumb a_h_goal a_h_start a_h_sits a_h_bestSits a_h_without a_h_row y_h_taped y_h_at y_h_statements y_h_hasImage y_h_beforeMany y_h_found y_h_lots y_h_rowMany (m_many z_h_T) x2 (m_step z_h_T) (m_bag z_h_T) (m_strokes z_h_T) (m_gave z_h_T) (m_threw z_h_T) (m_isKeeping z_h_T) (m_cursor z_h_T) z_h_refused (m_kind z_h_T) (m_sweets z_h_T) (m_gives z_h_T) (m_kept z_h_T)) H := hP
          have hD : va_D A (w_M_set cI cJ cC a_h a_h_refused a_h_kind a_h_sweets a_h_gives a_h_tape a_h_letter a_h_letterAt a_h_one a_h_two a_h_kept a_h_trail a_h_crumb a_h_nextCrumb a_h_goal a_h_start a_h_sits a_h_bestSits a_h_without a_h_row y_h_taped y_h_at y_h_statements y_h_hasImage y_h_beforeMany y_h_found y_h_lots y_h_rowMany (m_many z_h_T) x2 (m_step z_h_T) (m_bag z_h_T) (m_strokes z_h_T) (m_gave z_h_T) (m_threw z_h_T) (m_isKeeping z_h_T) (m_cursor z_h_T) z_h_refused (m_kind z_h_T) (m_sweets z_h_T) (m_gives z_h_T) (m_kept z_h_T)) := hD
          refine lv_iload_n hx hb d_M_set_99 rfl (lv_at hl 3 rfl) ?_
          refine lv_iconst (v := 1) hx hb d_M_set_100 (by decide) ?_
          refine lv_icmp_ne (tgt := 109) hx hb d_M_set_101 (by decide) (fun _ => ?_) (fun c => absurd c (show ¬ x1 = 1 from fun z => absurd (c4.symm.trans z) (by decide)))
          refine lv_iload_n hx hb d_M_set_109 rfl (lv_at hl 3 rfl) ?_
          refine lv_iconst (v := 2) hx hb d_M_set_110 (by decide) ?_
          refine lv_icmp_ne (tgt := 119) hx hb d_M_set_111 (by decide) (fun _ => ?_) (fun c => absurd c (show ¬ x1 = 2 from fun z => absurd (c4.symm.trans z) (by decide)))
          refine lv_iload hx hb d_M_set_119 (lv_at hl 0 rfl) ?_
          have hq := Option.some.inj hf
          subst hq
          exact hret _ _ _ _ _ d_M_set_121 rfl rfl hP hD hS
        · have hf := io_f hf c10
          refine lv_aload_n hx hb d_M_set_55 rfl (lv_at hl 1 rfl) ?_
          refine lv_iload_n hx hb d_M_set_56 rfl (lv_at hl 0 rfl) ?_
          obtain ⟨q11, hq11, hf⟩ := io_b hf
          refine xcVI (wc := (w_M_no cI cJ cC a_h a_h_refused a_h_kind a_h_sweets a_h_gives a_h_tape a_h_letter a_h_letterAt a_h_one a_h_two a_h_kept a_h_trail a_h_crumb a_h_nextCrumb a_h_goal a_h_start a_h_sits a_h_bestSits a_h_without a_h_row (m_many z_h_T) (m_odd z_h_T) (m_step z_h_T) (m_bag z_h_T) (m_strokes z_h_T) (m_gave z_h_T) (m_threw z_h_T) y_h_taped y_h_at y_h_statements y_h_hasImage (m_isKeeping z_h_T) (m_cursor z_h_T) y_h_beforeMany y_h_found y_h_lots y_h_rowMany z_h_refused)) (wc' := (w_M_no cI cJ cC a_h a_h_refused a_h_kind a_h_sweets a_h_gives a_h_tape a_h_letter a_h_letterAt a_h_one a_h_two a_h_kept a_h_trail a_h_crumb a_h_nextCrumb a_h_goal a_h_start a_h_sits a_h_bestSits a_h_without a_h_row (m_many z_h_T) (m_odd z_h_T) (m_step z_h_T) (m_bag z_h_T) (m_strokes z_h_T) (m_gave z_h_T) (m_threw z_h_T) y_h_taped y_h_at y_h_statements y_h_hasImage (m_isKeeping z_h_T) (m_cursor z_h_T) y_h_beforeMany y_h_found y_h_lots y_h_rowMany q11.2)) (ws' := (w_M_set cI cJ cC a_h a_h_refused a_h_kind a_h_sweets a_h_gives a_h_tape a_h_letter a_h_letterAt a_h_one a_h_two a_h_kept a_h_trail a_h_crumb a_h_nextCrumb a_h_goal a_h_start a_h_sits a_h_bestSits a_h_without a_h_row y_h_taped y_h_at y_h_statements y_h_hasImage y_h_beforeMany y_h_found y_h_lots y_h_rowMany (m_many z_h_T) (m_odd z_h_T) (m_step z_h_T) (m_bag z_h_T) (m_strokes z_h_T) (m_gave z_h_T) (m_threw z_h_T) (m_isKeeping z_h_T) (m_cursor z_h_T) q11.2 (m_kind z_h_T) (m_sweets z_h_T) (m_gives z_h_T) (m_kept z_h_T))) (As := [.int q9]) (rest := []) hx hb hml hown hT (c_M_no (z_h_refused := z_h_refused) a_h a_h_refused a_h_kind a_h_sweets a_h_gives a_h_tape a_h_letter a_h_letterAt a_h_one a_h_two a_h_kept a_h_trail a_h_crumb a_h_nextCrumb a_h_goal a_h_start a_h_sits a_h_bestSits a_h_without a_h_row (m_many z_h_T) (m_odd z_h_T) (m_step z_h_T) (m_bag z_h_T) (m_strokes z_h_T) (m_gave z_h_T) (m_threw z_h_T) y_h_taped y_h_at y_h_statements y_h_hasImage (m_isKeeping z_h_T) (m_cursor z_h_T) y_h_beforeMany y_h_found y_h_lots y_h_rowMany hq11) k_874 k_876 ks_24 k_8 k_877 hd_M_no ⟨Nat.le_of_ble_eq_true rfl, Nat.le_of_ble_eq_true rfl⟩ xE0_ok trivial hA hK hP hD hS [0, 1] [2, 3, 4, 5] [4, 5, 0, 1, 2, 3] rfl rfl rfl rfl rfl rfl rfl rfl rfl rfl hl.1 rfl (Nat.le_of_ble_eq_true rfl) ⟨Nat.zero_le _, Nat.zero_le _⟩ d_M_set_57 (fun H locs hP hD hS => ?_)
          have hq := Option.some.inj hf
          subst hq
          exact hret _ _ _ _ _ d_M_set_60 rfl rfl hP hD hS
    · have hf := io_t hf c3
      refine lv_iconst (v := 1) hx hb d_M_set_22 (by decide) ?_
      refine lv_goto (tgt := 27) hx hb d_M_set_23 (by decide) ?_
      refine lv_iload_n hx hb d_M_set_27 rfl (lv_at hl 1 rfl) ?_
      refine lv_if_ne (tgt := 35) hx hb d_M_set_28 (by decide) (fun _ => ?_) (fun c => absurd c (show ¬ x1 = 0 from fun z => absurd (c3.symm.trans z) (by decide)))
      refine lv_iload_n hx hb d_M_set_35 rfl (lv_at hl 1 rfl) ?_
      refine lv_iconst (v := 1) hx hb d_M_set_36 (by decide) ?_
      refine lv_icmp_ne (tgt := 44) hx hb d_M_set_37 (by decide) (fun c => absurd c3 c) (fun _ => ?_)
      refine lv_iconst (v := 3) hx hb d_M_set_40 (by decide) ?_
      refine lv_goto (tgt := 47) hx hb d_M_set_41 (by decide) ?_
      obtain ⟨q12, hq12, hf⟩ := io_b hf
      refine xcSI (wc := []) (wc' := []) (ws' := (w_M_set cI cJ cC a_h a_h_refused a_h_kind a_h_sweets a_h_gives a_h_tape a_h_letter a_h_letterAt a_h_one a_h_two a_h_kept a_h_trail a_h_crumb a_h_nextCrumb a_h_goal a_h_start a_h_sits a_h_bestSits a_h_without a_h_row y_h_taped y_h_at y_h_statements y_h_hasImage y_h_beforeMany y_h_found y_h_lots y_h_rowMany (m_many z_h_T) (m_odd z_h_T) (m_step z_h_T) (m_bag z_h_T) (m_strokes z_h_T) (m_gave z_h_T) (m_threw z_h_T) (m_isKeeping z_h_T) (m_cursor z_h_T) z_h_refused (m_kind z_h_T) (m_sweets z_h_T) (m_gives z_h_T) (m_kept z_h_T))) (As := [.int x2, .int 1, .int 3]) (rest := []) hx hb hml hown hT (c_M_bound hq12) k_871 k_872 k_8 k_873 hd_M_bound ⟨Nat.le_of_ble_eq_true rfl, Nat.le_of_ble_eq_true rfl⟩ xE0_ok trivial hA hK hP hD hS [] [0, 1, 2, 3, 4, 5] [0, 1, 2, 3, 4, 5] rfl rfl rfl rfl rfl rfl rfl hl.1 rfl (Nat.le_of_ble_eq_true rfl) ⟨Nat.zero_le _, Nat.zero_le _⟩ d_M_set_47 (fun H locs hP hD hS => ?_)
      refine lv_istore_n (lv' := [(3, .int q12), (0, .ref a_h), (1, .int x1), (2, .int x2)]) hx hb d_M_set_50 rfl hl (by decide) rfl (fun ls hl => ?_)
      refine lv_iload_n hx hb d_M_set_51 rfl (lv_at hl 0 rfl) ?_
      refine lv_if_eq (tgt := 61) hx hb d_M_set_52 (by decide) (fun c13 => ?_) (fun c13 => ?_)
      · have hf := io_t hf c13
        refine lv_iload_n hx hb d_M_set_61 rfl (lv_at hl 2 rfl) ?_
        refine lv_if_ne (tgt := 72) hx hb d_M_set_62 (by decide) (fun _ => ?_) (fun c => absurd c (show ¬ x1 = 0 from fun z => absurd (c3.symm.trans z) (by decide)))
        refine lv_iload_n hx hb d_M_set_72 rfl (lv_at hl 2 rfl) ?_
        refine lv_iconst (v := 1) hx hb d_M_set_73 (by decide) ?_
        refine lv_icmp_ne (tgt := 84) hx hb d_M_set_74 (by decide) (fun c => absurd c3 c) (fun _ => ?_)
        refine lv_aload_n hx hb d_M_set_77 rfl (lv_at hl 1 rfl) ?_
        refine va_get hx hb hT i_M hown hK hP 0 rfl rfl 6 (Nat.le_of_ble_eq_true rfl) (hT _ k_764) (fun _ h => h) rfl d_M_set_78 ?_
        refine lv_goto (tgt := 88) hx hb d_M_set_81 (by decide) ?_
        refine lv_istore (lv' := [(4, .int (m_step z_h_T)), (3, .int q12), (0, .ref a_h), (1, .int x1), (2, .int x2)]) hx hb d_M_set_88 hl (by decide) rfl (fun ls hl => ?_)
        refine lv_iload_n hx hb d_M_set_90 rfl (lv_at hl 3 rfl) ?_
        refine lv_if_ne (tgt := 99) hx hb d_M_set_91 (by decide) (fun _ => ?_) (fun c => absurd c (show ¬ x1 = 0 from fun z => absurd (c3.symm.trans z) (by decide)))
        refine lv_iload_n hx hb d_M_set_99 rfl (lv_at hl 3 rfl) ?_
        refine lv_iconst (v := 1) hx hb d_M_set_100 (by decide) ?_
        refine lv_icmp_ne (tgt := 109) hx hb d_M_set_101 (by decide) (fun c => absurd c3 c) (fun _ => ?_)
        refine lv_aload_n hx hb d_M_set_104 rfl (lv_at hl 2 rfl) ?_
        refine lv_iload_n hx hb d_M_set_105 rfl (lv_at hl 4 rfl) ?_
        refine va_put (ty := .int) hx hb hT i_M t_M t_M_ok n_M hown hK hP hD hS 0 rfl rfl 6 (Nat.le_of_ble_eq_true rfl) (hT _ k_764) (fun _ h => h) rfl rfl rfl rfl (Nat.le_of_ble_eq_true rfl) d_M_set_106 (fun H locs hP hD hS => ?_)
        have hP : va_P D classes (w_M_set cI cJ cC a_h a_h_refused a_h_kind a_h_sweets a_h_gives a_h_tape a_h_letter a_h_letterAt a_h_one a_h_two a_h_kept a_h_trail a_h_crumb a_h_nextCrumb a_h_goal a_h_start a_h_sits a_h_bestSits a_h_without a_h_row y_h_taped y_h_at y_h_statements y_h_hasImage y_h_beforeMany y_h_found y_h_lots y_h_rowMany (m_many z_h_T) (m_odd z_h_T) x2 (m_bag z_h_T) (m_strokes z_h_T) (m_gave z_h_T) (m_threw z_h_T) (m_isKeeping z_h_T) (m_cursor z_h_T) z_h_refused (m_kind z_h_T) (m_sweets z_h_T) (m_gives z_h_T) (m_kept z_h_T)) H := hP
        have hD : va_D A (w_M_set cI cJ cC a_h a_h_refused a_h_kind a_h_sweets a_h_gives a_h_tape a_h_letter a_h_letterAt a_h_one a_h_two a_h_kept a_h_trail a_h_crumb a_h_nextCrumb a_h_goal a_h_start a_h_sits a_h_bestSits a_h_without a_h_row y_h_taped y_h_at y_h_statements y_h_hasImage y_h_beforeMany y_h_found y_h_lots y_h_rowMany (m_many z_h_T) (m_odd z_h_T) x2 (m_bag z_h_T) (m_strokes z_h_T) (m_gave z_h_T) (m_threw z_h_T) (m_isKeeping z_h_T) (m_cursor z_h_T) z_h_refused (m_kind z_h_T) (m_sweets z_h_T) (m_gives z_h_T) (m_kept z_h_T)) := hD
        refine lv_iload_n hx hb d_M_set_109 rfl (lv_at hl 3 rfl) ?_
        refine lv_iconst (v := 2) hx hb d_M_set_110 (by decide) ?_
        refine lv_icmp_ne (tgt := 119) hx hb d_M_set_111 (by decide) (fun _ => ?_) (fun c => absurd c (show ¬ x1 = 2 from fun z => absurd (c3.symm.trans z) (by decide)))
        refine lv_iload hx hb d_M_set_119 (lv_at hl 0 rfl) ?_
        have hq := Option.some.inj hf
        subst hq
        exact hret _ _ _ _ _ d_M_set_121 rfl rfl hP hD hS
      · have hf := io_f hf c13
        refine lv_aload_n hx hb d_M_set_55 rfl (lv_at hl 1 rfl) ?_
        refine lv_iload_n hx hb d_M_set_56 rfl (lv_at hl 0 rfl) ?_
        obtain ⟨q14, hq14, hf⟩ := io_b hf
        refine xcVI (wc := (w_M_no cI cJ cC a_h a_h_refused a_h_kind a_h_sweets a_h_gives a_h_tape a_h_letter a_h_letterAt a_h_one a_h_two a_h_kept a_h_trail a_h_crumb a_h_nextCrumb a_h_goal a_h_start a_h_sits a_h_bestSits a_h_without a_h_row (m_many z_h_T) (m_odd z_h_T) (m_step z_h_T) (m_bag z_h_T) (m_strokes z_h_T) (m_gave z_h_T) (m_threw z_h_T) y_h_taped y_h_at y_h_statements y_h_hasImage (m_isKeeping z_h_T) (m_cursor z_h_T) y_h_beforeMany y_h_found y_h_lots y_h_rowMany z_h_refused)) (wc' := (w_M_no cI cJ cC a_h a_h_refused a_h_kind a_h_sweets a_h_gives a_h_tape a_h_letter a_h_letterAt a_h_one a_h_two a_h_kept a_h_trail a_h_crumb a_h_nextCrumb a_h_goal a_h_start a_h_sits a_h_bestSits a_h_without a_h_row (m_many z_h_T) (m_odd z_h_T) (m_step z_h_T) (m_bag z_h_T) (m_strokes z_h_T) (m_gave z_h_T) (m_threw z_h_T) y_h_taped y_h_at y_h_statements y_h_hasImage (m_isKeeping z_h_T) (m_cursor z_h_T) y_h_beforeMany y_h_found y_h_lots y_h_rowMany q14.2)) (ws' := (w_M_set cI cJ cC a_h a_h_refused a_h_kind a_h_sweets a_h_gives a_h_tape a_h_letter a_h_letterAt a_h_one a_h_two a_h_kept a_h_trail a_h_crumb a_h_nextCrumb a_h_goal a_h_start a_h_sits a_h_bestSits a_h_without a_h_row y_h_taped y_h_at y_h_statements y_h_hasImage y_h_beforeMany y_h_found y_h_lots y_h_rowMany (m_many z_h_T) (m_odd z_h_T) (m_step z_h_T) (m_bag z_h_T) (m_strokes z_h_T) (m_gave z_h_T) (m_threw z_h_T) (m_isKeeping z_h_T) (m_cursor z_h_T) q14.2 (m_kind z_h_T) (m_sweets z_h_T) (m_gives z_h_T) (m_kept z_h_T))) (As := [.int q12]) (rest := []) hx hb hml hown hT (c_M_no (z_h_refused := z_h_refused) a_h a_h_refused a_h_kind a_h_sweets a_h_gives a_h_tape a_h_letter a_h_letterAt a_h_one a_h_two a_h_kept a_h_trail a_h_crumb a_h_nextCrumb a_h_goal a_h_start a_h_sits a_h_bestSits a_h_without a_h_row (m_many z_h_T) (m_odd z_h_T) (m_step z_h_T) (m_bag z_h_T) (m_strokes z_h_T) (m_gave z_h_T) (m_threw z_h_T) y_h_taped y_h_at y_h_statements y_h_hasImage (m_isKeeping z_h_T) (m_cursor z_h_T) y_h_beforeMany y_h_found y_h_lots y_h_rowMany hq14) k_874 k_876 ks_24 k_8 k_877 hd_M_no ⟨Nat.le_of_ble_eq_true rfl, Nat.le_of_ble_eq_true rfl⟩ xE0_ok trivial hA hK hP hD hS [0, 1] [2, 3, 4, 5] [4, 5, 0, 1, 2, 3] rfl rfl rfl rfl rfl rfl rfl rfl rfl rfl hl.1 rfl (Nat.le_of_ble_eq_true rfl) ⟨Nat.zero_le _, Nat.zero_le _⟩ d_M_set_57 (fun H locs hP hD hS => ?_)
        have hq := Option.some.inj hf
        subst hq
        exact hret _ _ _ _ _ d_M_set_60 rfl rfl hP hD hS
  · have hf := io_t hf c2
    refine lv_aload_n hx hb d_M_set_9 rfl (lv_at hl 0 rfl) ?_
    refine lv_bipush (v := (-2)) hx hb d_M_set_10 (by decide) ?_
    obtain ⟨q15, hq15, hf⟩ := io_b hf
    refine xcVI (wc := (w_M_no cI cJ cC a_h a_h_refused a_h_kind a_h_sweets a_h_gives a_h_tape a_h_letter a_h_letterAt a_h_one a_h_two a_h_kept a_h_trail a_h_crumb a_h_nextCrumb a_h_goal a_h_start a_h_sits a_h_bestSits a_h_without a_h_row (m_many z_h_T) (m_odd z_h_T) (m_step z_h_T) (m_bag z_h_T) (m_strokes z_h_T) (m_gave z_h_T) (m_threw z_h_T) y_h_taped y_h_at y_h_statements y_h_hasImage (m_isKeeping z_h_T) (m_cursor z_h_T) y_h_beforeMany y_h_found y_h_lots y_h_rowMany z_h_refused)) (wc' := (w_M_no cI cJ cC a_h a_h_refused a_h_kind a_h_sweets a_h_gives a_h_tape a_h_letter a_h_letterAt a_h_one a_h_two a_h_kept a_h_trail a_h_crumb a_h_nextCrumb a_h_goal a_h_start a_h_sits a_h_bestSits a_h_without a_h_row (m_many z_h_T) (m_odd z_h_T) (m_step z_h_T) (m_bag z_h_T) (m_strokes z_h_T) (m_gave z_h_T) (m_threw z_h_T) y_h_taped y_h_at y_h_statements y_h_hasImage (m_isKeeping z_h_T) (m_cursor z_h_T) y_h_beforeMany y_h_found y_h_lots y_h_rowMany q15.2)) (ws' := (w_M_set cI cJ cC a_h a_h_refused a_h_kind a_h_sweets a_h_gives a_h_tape a_h_letter a_h_letterAt a_h_one a_h_two a_h_kept a_h_trail a_h_crumb a_h_nextCrumb a_h_goal a_h_start a_h_sits a_h_bestSits a_h_without a_h_row y_h_taped y_h_at y_h_statements y_h_hasImage y_h_beforeMany y_h_found y_h_lots y_h_rowMany (m_many z_h_T) (m_odd z_h_T) (m_step z_h_T) (m_bag z_h_T) (m_strokes z_h_T) (m_gave z_h_T) (m_threw z_h_T) (m_isKeeping z_h_T) (m_cursor z_h_T) q15.2 (m_kind z_h_T) (m_sweets z_h_T) (m_gives z_h_T) (m_kept z_h_T))) (As := [.int (-2)]) (rest := []) hx hb hml hown hT (c_M_no (z_h_refused := z_h_refused) a_h a_h_refused a_h_kind a_h_sweets a_h_gives a_h_tape a_h_letter a_h_letterAt a_h_one a_h_two a_h_kept a_h_trail a_h_crumb a_h_nextCrumb a_h_goal a_h_start a_h_sits a_h_bestSits a_h_without a_h_row (m_many z_h_T) (m_odd z_h_T) (m_step z_h_T) (m_bag z_h_T) (m_strokes z_h_T) (m_gave z_h_T) (m_threw z_h_T) y_h_taped y_h_at y_h_statements y_h_hasImage (m_isKeeping z_h_T) (m_cursor z_h_T) y_h_beforeMany y_h_found y_h_lots y_h_rowMany hq15) k_874 k_876 ks_24 k_8 k_877 hd_M_no ⟨Nat.le_of_ble_eq_true rfl, Nat.le_of_ble_eq_true rfl⟩ xE0_ok trivial hA hK hP hD hS [0, 1] [2, 3, 4, 5] [4, 5, 0, 1, 2, 3] rfl rfl rfl rfl rfl rfl rfl rfl rfl rfl hl.1 rfl (Nat.le_of_ble_eq_true rfl) ⟨Nat.zero_le _, Nat.zero_le _⟩ d_M_set_12 (fun H locs hP hD hS => ?_)
    have hq := Option.some.inj hf
    subst hq
    exact hret _ _ _ _ _ d_M_set_15 rfl rfl hP hD hS
abbrev w_M_areTwo (cI cJ cC : ClassId) (a_h a_h_refused a_h_kind a_h_sweets a_h_gives a_h_tape a_h_letter a_h_letterAt a_h_one a_h_two a_h_kept a_h_trail a_h_crumb a_h_nextCrumb a_h_goal a_h_start a_h_sits a_h_bestSits a_h_without a_h_row : Nat) (y_h_taped : Int32) (y_h_at : Int32) (y_h_statements : Int32) (y_h_hasImage : Int32) (y_h_beforeMany : Int32) (y_h_found : Int32) (y_h_lots : Int32) (y_h_rowMany : Int32) (p_h_many : Int32) (p_h_odd : Int32) (p_h_step : Int32) (p_h_bag : Int32) (p_h_strokes : Int32) (p_h_gave : Int32) (p_h_threw : Int32) (p_h_isKeeping : Int32) (p_h_cursor : Int32) : va_W := [(a_h, .inr (7, [.ref a_h_refused, .ref a_h_kind, .ref a_h_sweets, .ref a_h_gives, .int p_h_many, .int p_h_odd, .int p_h_step, .int p_h_bag, .int p_h_strokes, .int p_h_gave, .int p_h_threw, .ref a_h_tape, .ref a_h_letter, .ref a_h_letterAt, .ref a_h_one, .ref a_h_two, .int y_h_taped, .int y_h_at, .int y_h_statements, .ref a_h_kept, .int y_h_hasImage, .int p_h_isKeeping, .int p_h_cursor, .ref a_h_trail, .ref a_h_crumb, .ref a_h_nextCrumb, .ref a_h_goal, .ref a_h_start, .int y_h_beforeMany, .int y_h_found, .ref a_h_sits, .ref a_h_bestSits, .ref a_h_without, .int y_h_lots, .ref a_h_row, .int y_h_rowMany]))]
theorem d_M_areTwo_0 : decode b_M_areTwo 0 = .ok (.aload_n 0, 1) := by decide +kernel
theorem d_M_areTwo_1 : decode b_M_areTwo 1 = .ok (.iload_n 1, 1) := by decide +kernel
theorem d_M_areTwo_2 : decode b_M_areTwo 2 = .ok (.invokevirtual 168, 3) := by decide +kernel
theorem d_M_areTwo_5 : decode b_M_areTwo 5 = .ok (.ifCond .eq 20, 3) := by decide +kernel
theorem d_M_areTwo_8 : decode b_M_areTwo 8 = .ok (.aload_n 0, 1) := by decide +kernel
theorem d_M_areTwo_9 : decode b_M_areTwo 9 = .ok (.iload_n 2, 1) := by decide +kernel
theorem d_M_areTwo_10 : decode b_M_areTwo 10 = .ok (.invokevirtual 168, 3) := by decide +kernel
theorem d_M_areTwo_13 : decode b_M_areTwo 13 = .ok (.ifCond .eq 12, 3) := by decide +kernel
theorem d_M_areTwo_16 : decode b_M_areTwo 16 = .ok (.iload_n 1, 1) := by decide +kernel
theorem d_M_areTwo_17 : decode b_M_areTwo 17 = .ok (.iload_n 2, 1) := by decide +kernel
theorem d_M_areTwo_18 : decode b_M_areTwo 18 = .ok (.if_icmp .eq 7, 3) := by decide +kernel
theorem d_M_areTwo_21 : decode b_M_areTwo 21 = .ok (.iconst 1, 1) := by decide +kernel
theorem d_M_areTwo_22 : decode b_M_areTwo 22 = .ok (.goto 4, 3) := by decide +kernel
theorem d_M_areTwo_25 : decode b_M_areTwo 25 = .ok (.iconst 0, 1) := by decide +kernel
theorem d_M_areTwo_26 : decode b_M_areTwo 26 = .ok (.ireturn, 1) := by decide +kernel
set_option maxHeartbeats 4000000 in
set_option maxRecDepth 100000 in
theorem c_M_areTwo {l : Launch} {D : va_G} {cI cJ cC : ClassId} (a_h a_h_refused a_h_kind a_h_sweets a_h_gives a_h_tape a_h_letter a_h_letterAt a_h_one a_h_two a_h_kept a_h_trail a_h_crumb a_h_nextCrumb a_h_goal a_h_start a_h_sits a_h_bestSits a_h_without a_h_row : Nat) (y_h_taped : Int32) (y_h_at : Int32) (y_h_statements : Int32) (y_h_hasImage : Int32) (y_h_beforeMany : Int32) (y_h_found : Int32) (y_h_lots : Int32) (y_h_rowMany : Int32) {z_h_T : MT} {x1 : Int32} {x2 : Int32} {q : Int32} (hf : f_M_areTwo z_h_T x1 x2 = some q) : xI l y_M_areTwo b_M_areTwo 3 .boolean 1 21 D (tyK cI cJ cC) xE0 [.ref a_h, .int x1, .int x2] (w_M_areTwo cI cJ cC a_h a_h_refused a_h_kind a_h_sweets a_h_gives a_h_tape a_h_letter a_h_letterAt a_h_one a_h_two a_h_kept a_h_trail a_h_crumb a_h_nextCrumb a_h_goal a_h_start a_h_sits a_h_bestSits a_h_without a_h_row y_h_taped y_h_at y_h_statements y_h_hasImage y_h_beforeMany y_h_found y_h_lots y_h_rowMany (m_many z_h_T) (m_odd z_h_T) (m_step z_h_T) (m_bag z_h_T) (m_strokes z_h_T) (m_gave z_h_T) (m_threw z_h_T) (m_isKeeping z_h_T) (m_cursor z_h_T)) q (w_M_areTwo cI cJ cC a_h a_h_refused a_h_kind a_h_sweets a_h_gives a_h_tape a_h_letter a_h_letterAt a_h_one a_h_two a_h_kept a_h_trail a_h_crumb a_h_nextCrumb a_h_goal a_h_start a_h_sits a_h_bestSits a_h_without a_h_row y_h_taped y_h_at y_h_statements y_h_hasImage y_h_beforeMany y_h_found y_h_lots y_h_rowMany (m_many z_h_T) (m_odd z_h_T) (m_step z_h_T) (m_bag z_h_T) (m_strokes z_h_T) (m_gave z_h_T) (m_threw z_h_T) (m_isKeeping z_h_T) (m_cursor z_h_T)) := by
  refine xI_of (by decide) (Nat.le_of_ble_eq_true rfl) ?_
  intro p e s m args below meth c A Q hx hb hml hown hT hA hP hD hK hS hE hret ls hl
  have hown : s.vm.findClass R_M = some m.cls := hown
  have hl : lv_has ls 3 [(0, .ref a_h), (1, .int x1), (2, .int x2)] := hl
  unfold f_M_areTwo at hf
  refine lv_aload_n hx hb d_M_areTwo_0 rfl (lv_at hl 0 rfl) ?_
  refine lv_iload_n hx hb d_M_areTwo_1 rfl (lv_at hl 1 rfl) ?_
  obtain ⟨q1, hq1, hf⟩ := io_b hf
  refine xcVI (wc := (w_M_isChild cI cJ cC a_h a_h_refused a_h_kind a_h_sweets a_h_gives a_h_tape a_h_letter a_h_letterAt a_h_one a_h_two a_h_kept a_h_trail a_h_crumb a_h_nextCrumb a_h_goal a_h_start a_h_sits a_h_bestSits a_h_without a_h_row y_h_taped y_h_at y_h_statements y_h_hasImage y_h_beforeMany y_h_found y_h_lots y_h_rowMany (m_many z_h_T) (m_odd z_h_T) (m_step z_h_T) (m_bag z_h_T) (m_strokes z_h_T) (m_gave z_h_T) (m_threw z_h_T) (m_isKeeping z_h_T) (m_cursor z_h_T))) (wc' := (w_M_isChild cI cJ cC a_h a_h_refused a_h_kind a_h_sweets a_h_gives a_h_tape a_h_letter a_h_letterAt a_h_one a_h_two a_h_kept a_h_trail a_h_crumb a_h_nextCrumb a_h_goal a_h_start a_h_sits a_h_bestSits a_h_without a_h_row y_h_taped y_h_at y_h_statements y_h_hasImage y_h_beforeMany y_h_found y_h_lots y_h_rowMany (m_many z_h_T) (m_odd z_h_T) (m_step z_h_T) (m_bag z_h_T) (m_strokes z_h_T) (m_gave z_h_T) (m_threw z_h_T) (m_isKeeping z_h_T) (m_cursor z_h_T))) (ws' := (w_M_areTwo cI cJ cC a_h a_h_refused a_h_kind a_h_sweets a_h_gives a_h_tape a_h_letter a_h_letterAt a_h_one a_h_two a_h_kept a_h_trail a_h_crumb a_h_nextCrumb a_h_goal a_h_start a_h_sits a_h_bestSits a_h_without a_h_row y_h_taped y_h_at y_h_statements y_h_hasImage y_h_beforeMany y_h_found y_h_lots y_h_rowMany (m_many z_h_T) (m_odd z_h_T) (m_step z_h_T) (m_bag z_h_T) (m_strokes z_h_T) (m_gave z_h_T) (m_threw z_h_T) (m_isKeeping z_h_T) (m_cursor z_h_T))) (As := [.int x1]) (rest := []) hx hb hml hown hT (c_M_isChild (z_h_T := z_h_T) a_h a_h_refused a_h_kind a_h_sweets a_h_gives a_h_tape a_h_letter a_h_letterAt a_h_one a_h_two a_h_kept a_h_trail a_h_crumb a_h_nextCrumb a_h_goal a_h_start a_h_sits a_h_bestSits a_h_without a_h_row y_h_taped y_h_at y_h_statements y_h_hasImage y_h_beforeMany y_h_found y_h_lots y_h_rowMany hq1) k_924 k_926 ks_31 k_8 k_927 hd_M_isChild ⟨Nat.le_of_ble_eq_true rfl, Nat.le_of_ble_eq_true rfl⟩ xE0_ok trivial hA hK hP hD hS [0] [] [0] rfl rfl rfl rfl rfl rfl rfl rfl rfl rfl hl.1 rfl (Nat.le_of_ble_eq_true rfl) ⟨Nat.zero_le _, Nat.zero_le _⟩ d_M_areTwo_2 (fun H locs hP hD hS => ?_)
  refine lv_if_eq (tgt := 25) hx hb d_M_areTwo_5 (by decide) (fun c2 => ?_) (fun c2 => ?_)
  · have hf := io_t hf c2
    refine lv_iconst (v := 0) hx hb d_M_areTwo_25 (by decide) ?_
    have hq := Option.some.inj hf
    subst hq
    exact hret _ _ _ _ _ d_M_areTwo_26 (by decide) rfl hP hD hS
  · have hf := io_f hf c2
    refine lv_aload_n hx hb d_M_areTwo_8 rfl (lv_at hl 0 rfl) ?_
    refine lv_iload_n hx hb d_M_areTwo_9 rfl (lv_at hl 2 rfl) ?_
    obtain ⟨q3, hq3, hf⟩ := io_b hf
    refine xcVI (wc := (w_M_isChild cI cJ cC a_h a_h_refused a_h_kind a_h_sweets a_h_gives a_h_tape a_h_letter a_h_letterAt a_h_one a_h_two a_h_kept a_h_trail a_h_crumb a_h_nextCrumb a_h_goal a_h_start a_h_sits a_h_bestSits a_h_without a_h_row y_h_taped y_h_at y_h_statements y_h_hasImage y_h_beforeMany y_h_found y_h_lots y_h_rowMany (m_many z_h_T) (m_odd z_h_T) (m_step z_h_T) (m_bag z_h_T) (m_strokes z_h_T) (m_gave z_h_T) (m_threw z_h_T) (m_isKeeping z_h_T) (m_cursor z_h_T))) (wc' := (w_M_isChild cI cJ cC a_h a_h_refused a_h_kind a_h_sweets a_h_gives a_h_tape a_h_letter a_h_letterAt a_h_one a_h_two a_h_kept a_h_trail a_h_crumb a_h_nextCrumb a_h_goal a_h_start a_h_sits a_h_bestSits a_h_without a_h_row y_h_taped y_h_at y_h_statements y_h_hasImage y_h_beforeMany y_h_found y_h_lots y_h_rowMany (m_many z_h_T) (m_odd z_h_T) (m_step z_h_T) (m_bag z_h_T) (m_strokes z_h_T) (m_gave z_h_T) (m_threw z_h_T) (m_isKeeping z_h_T) (m_cursor z_h_T))) (ws' := (w_M_areTwo cI cJ cC a_h a_h_refused a_h_kind a_h_sweets a_h_gives a_h_tape a_h_letter a_h_letterAt a_h_one a_h_two a_h_kept a_h_trail a_h_crumb a_h_nextCrumb a_h_goal a_h_start a_h_sits a_h_bestSits a_h_without a_h_row y_h_taped y_h_at y_h_statements y_h_hasImage y_h_beforeMany y_h_found y_h_lots y_h_rowMany (m_many z_h_T) (m_odd z_h_T) (m_step z_h_T) (m_bag z_h_T) (m_strokes z_h_T) (m_gave z_h_T) (m_threw z_h_T) (m_isKeeping z_h_T) (m_cursor z_h_T))) (As := [.int x2]) (rest := []) hx hb hml hown hT (c_M_isChild (z_h_T := z_h_T) a_h a_h_refused a_h_kind a_h_sweets a_h_gives a_h_tape a_h_letter a_h_letterAt a_h_one a_h_two a_h_kept a_h_trail a_h_crumb a_h_nextCrumb a_h_goal a_h_start a_h_sits a_h_bestSits a_h_without a_h_row y_h_taped y_h_at y_h_statements y_h_hasImage y_h_beforeMany y_h_found y_h_lots y_h_rowMany hq3) k_924 k_926 ks_31 k_8 k_927 hd_M_isChild ⟨Nat.le_of_ble_eq_true rfl, Nat.le_of_ble_eq_true rfl⟩ xE0_ok trivial hA hK hP hD hS [0] [] [0] rfl rfl rfl rfl rfl rfl rfl rfl rfl rfl hl.1 rfl (Nat.le_of_ble_eq_true rfl) ⟨Nat.zero_le _, Nat.zero_le _⟩ d_M_areTwo_10 (fun H locs hP hD hS => ?_)
    refine lv_if_eq (tgt := 25) hx hb d_M_areTwo_13 (by decide) (fun c4 => ?_) (fun c4 => ?_)
    · have hf := io_t hf c4
      refine lv_iconst (v := 0) hx hb d_M_areTwo_25 (by decide) ?_
      have hq := Option.some.inj hf
      subst hq
      exact hret _ _ _ _ _ d_M_areTwo_26 (by decide) rfl hP hD hS
    · have hf := io_f hf c4
      refine lv_iload_n hx hb d_M_areTwo_16 rfl (lv_at hl 1 rfl) ?_
      refine lv_iload_n hx hb d_M_areTwo_17 rfl (lv_at hl 2 rfl) ?_
      refine lv_icmp_eq (tgt := 25) hx hb d_M_areTwo_18 (by decide) (fun c5 => ?_) (fun c5 => ?_)
      · have hf := io_t hf c5
        refine lv_iconst (v := 0) hx hb d_M_areTwo_25 (by decide) ?_
        have hq := Option.some.inj hf
        subst hq
        exact hret _ _ _ _ _ d_M_areTwo_26 (by decide) rfl hP hD hS
      · have hf := io_f hf c5
        refine lv_iconst (v := 1) hx hb d_M_areTwo_21 (by decide) ?_
        refine lv_goto (tgt := 26) hx hb d_M_areTwo_22 (by decide) ?_
        have hq := Option.some.inj hf
        subst hq
        exact hret _ _ _ _ _ d_M_areTwo_26 (by decide) rfl hP hD hS
abbrev w_M_swapsSweets (cI cJ cC : ClassId) (a_h a_h_refused a_h_kind a_h_sweets a_h_gives a_h_tape a_h_letter a_h_letterAt a_h_one a_h_two a_h_kept a_h_trail a_h_crumb a_h_nextCrumb a_h_goal a_h_start a_h_sits a_h_bestSits a_h_without a_h_row : Nat) (y_h_taped : Int32) (y_h_at : Int32) (y_h_statements : Int32) (y_h_hasImage : Int32) (y_h_beforeMany : Int32) (y_h_found : Int32) (y_h_lots : Int32) (y_h_rowMany : Int32) (p_h_many : Int32) (p_h_odd : Int32) (p_h_step : Int32) (p_h_bag : Int32) (p_h_strokes : Int32) (p_h_gave : Int32) (p_h_threw : Int32) (p_h_isKeeping : Int32) (p_h_cursor : Int32) (p_h_kind : (Nat → Int32)) (p_h_sweets : (Nat → Int32)) (p_h_gives : (Nat → Int32)) (p_h_kept : (Nat → Int32)) : va_W := [(a_h, .inr (7, [.ref a_h_refused, .ref a_h_kind, .ref a_h_sweets, .ref a_h_gives, .int p_h_many, .int p_h_odd, .int p_h_step, .int p_h_bag, .int p_h_strokes, .int p_h_gave, .int p_h_threw, .ref a_h_tape, .ref a_h_letter, .ref a_h_letterAt, .ref a_h_one, .ref a_h_two, .int y_h_taped, .int y_h_at, .int y_h_statements, .ref a_h_kept, .int y_h_hasImage, .int p_h_isKeeping, .int p_h_cursor, .ref a_h_trail, .ref a_h_crumb, .ref a_h_nextCrumb, .ref a_h_goal, .ref a_h_start, .int y_h_beforeMany, .int y_h_found, .ref a_h_sits, .ref a_h_bestSits, .ref a_h_without, .int y_h_lots, .ref a_h_row, .int y_h_rowMany])), (a_h_kind, .inl (cI, (8, .inl p_h_kind))), (a_h_sweets, .inl (cI, (8, .inl p_h_sweets))), (a_h_gives, .inl (cI, (8, .inl p_h_gives))), (a_h_kept, .inl (cI, (90, .inl p_h_kept)))]
theorem d_M_swapsSweets_0 : decode b_M_swapsSweets 0 = .ok (.aload_n 0, 1) := by decide +kernel
theorem d_M_swapsSweets_1 : decode b_M_swapsSweets 1 = .ok (.getfield 16, 3) := by decide +kernel
theorem d_M_swapsSweets_4 : decode b_M_swapsSweets 4 = .ok (.iload_n 1, 1) := by decide +kernel
theorem d_M_swapsSweets_5 : decode b_M_swapsSweets 5 = .ok (.iaload, 1) := by decide +kernel
theorem d_M_swapsSweets_6 : decode b_M_swapsSweets 6 = .ok (.istore_n 3, 1) := by decide +kernel
theorem d_M_swapsSweets_7 : decode b_M_swapsSweets 7 = .ok (.aload_n 0, 1) := by decide +kernel
theorem d_M_swapsSweets_8 : decode b_M_swapsSweets 8 = .ok (.getfield 16, 3) := by decide +kernel
theorem d_M_swapsSweets_11 : decode b_M_swapsSweets 11 = .ok (.iload_n 1, 1) := by decide +kernel
theorem d_M_swapsSweets_12 : decode b_M_swapsSweets 12 = .ok (.aload_n 0, 1) := by decide +kernel
theorem d_M_swapsSweets_13 : decode b_M_swapsSweets 13 = .ok (.getfield 16, 3) := by decide +kernel
theorem d_M_swapsSweets_16 : decode b_M_swapsSweets 16 = .ok (.iload_n 2, 1) := by decide +kernel
theorem d_M_swapsSweets_17 : decode b_M_swapsSweets 17 = .ok (.iaload, 1) := by decide +kernel
theorem d_M_swapsSweets_18 : decode b_M_swapsSweets 18 = .ok (.iastore, 1) := by decide +kernel
theorem d_M_swapsSweets_19 : decode b_M_swapsSweets 19 = .ok (.aload_n 0, 1) := by decide +kernel
theorem d_M_swapsSweets_20 : decode b_M_swapsSweets 20 = .ok (.getfield 16, 3) := by decide +kernel
theorem d_M_swapsSweets_23 : decode b_M_swapsSweets 23 = .ok (.iload_n 2, 1) := by decide +kernel
theorem d_M_swapsSweets_24 : decode b_M_swapsSweets 24 = .ok (.iload_n 3, 1) := by decide +kernel
theorem d_M_swapsSweets_25 : decode b_M_swapsSweets 25 = .ok (.iastore, 1) := by decide +kernel
theorem d_M_swapsSweets_26 : decode b_M_swapsSweets 26 = .ok (.return_, 1) := by decide +kernel
set_option maxHeartbeats 4000000 in
set_option maxRecDepth 100000 in
theorem c_M_swapsSweets {l : Launch} {D : va_G} {cI cJ cC : ClassId} (a_h a_h_refused a_h_kind a_h_sweets a_h_gives a_h_tape a_h_letter a_h_letterAt a_h_one a_h_two a_h_kept a_h_trail a_h_crumb a_h_nextCrumb a_h_goal a_h_start a_h_sits a_h_bestSits a_h_without a_h_row : Nat) (y_h_taped : Int32) (y_h_at : Int32) (y_h_statements : Int32) (y_h_hasImage : Int32) (y_h_beforeMany : Int32) (y_h_found : Int32) (y_h_lots : Int32) (y_h_rowMany : Int32) {z_h_T : MT} {x1 : Int32} {x2 : Int32} {q : MT} (hf : f_M_swapsSweets z_h_T x1 x2 = some q) : xV l y_M_swapsSweets b_M_swapsSweets 4 0 0 D (tyK cI cJ cC) xE0 [.ref a_h, .int x1, .int x2] (w_M_swapsSweets cI cJ cC a_h a_h_refused a_h_kind a_h_sweets a_h_gives a_h_tape a_h_letter a_h_letterAt a_h_one a_h_two a_h_kept a_h_trail a_h_crumb a_h_nextCrumb a_h_goal a_h_start a_h_sits a_h_bestSits a_h_without a_h_row y_h_taped y_h_at y_h_statements y_h_hasImage y_h_beforeMany y_h_found y_h_lots y_h_rowMany (m_many z_h_T) (m_odd z_h_T) (m_step z_h_T) (m_bag z_h_T) (m_strokes z_h_T) (m_gave z_h_T) (m_threw z_h_T) (m_isKeeping z_h_T) (m_cursor z_h_T) (m_kind z_h_T) (m_sweets z_h_T) (m_gives z_h_T) (m_kept z_h_T)) (w_M_swapsSweets cI cJ cC a_h a_h_refused a_h_kind a_h_sweets a_h_gives a_h_tape a_h_letter a_h_letterAt a_h_one a_h_two a_h_kept a_h_trail a_h_crumb a_h_nextCrumb a_h_goal a_h_start a_h_sits a_h_bestSits a_h_without a_h_row y_h_taped y_h_at y_h_statements y_h_hasImage y_h_beforeMany y_h_found y_h_lots y_h_rowMany (m_many q) (m_odd q) (m_step q) (m_bag q) (m_strokes q) (m_gave q) (m_threw q) (m_isKeeping q) (m_cursor q) (m_kind q) (m_sweets q) (m_gives q) (m_kept q)) := by
  refine xV_of (by decide) (Nat.le_of_ble_eq_true rfl) ?_
  intro p e s m args below meth c A Q hx hb hml hown hT hA hP hD hK hS hE hret ls hl
  have hown : s.vm.findClass R_M = some m.cls := hown
  have hl : lv_has ls 4 [(0, .ref a_h), (1, .int x1), (2, .int x2)] := hl
  unfold f_M_swapsSweets at hf
  refine lv_aload_n hx hb d_M_swapsSweets_0 rfl (lv_at hl 0 rfl) ?_
  refine va_get hx hb hT i_M hown hK hP 0 rfl rfl 2 (Nat.le_of_ble_eq_true rfl) (hT _ k_760) (fun _ h => h) rfl d_M_swapsSweets_1 ?_
  refine lv_iload_n hx hb d_M_swapsSweets_4 rfl (lv_at hl 1 rfl) ?_
  obtain ⟨c1, hf⟩ := io_n hf
  refine x_iald hx hb hK hP 2 0 rfl rfl (j := x1.toNatClampNeg) rfl c1 d_M_swapsSweets_5 ?_
  refine lv_istore_n (lv' := [(3, .int ((m_sweets z_h_T) x1.toNatClampNeg)), (0, .ref a_h), (1, .int x1), (2, .int x2)]) hx hb d_M_swapsSweets_6 rfl hl (by decide) rfl (fun ls hl => ?_)
  refine lv_aload_n hx hb d_M_swapsSweets_7 rfl (lv_at hl 1 rfl) ?_
  refine va_get hx hb hT i_M hown hK hP 0 rfl rfl 2 (Nat.le_of_ble_eq_true rfl) (hT _ k_760) (fun _ h => h) rfl d_M_swapsSweets_8 ?_
  refine lv_iload_n hx hb d_M_swapsSweets_11 rfl (lv_at hl 2 rfl) ?_
  refine lv_aload_n hx hb d_M_swapsSweets_12 rfl (lv_at hl 1 rfl) ?_
  refine va_get hx hb hT i_M hown hK hP 0 rfl rfl 2 (Nat.le_of_ble_eq_true rfl) (hT _ k_760) (fun _ h => h) rfl d_M_swapsSweets_13 ?_
  refine lv_iload_n hx hb d_M_swapsSweets_16 rfl (lv_at hl 3 rfl) ?_
  obtain ⟨c2, hf⟩ := io_n hf
  refine x_iald hx hb hK hP 2 0 rfl rfl (j := x2.toNatClampNeg) rfl c2 d_M_swapsSweets_17 ?_
  refine x_iast hx hb hK hP hD hS 2 0 rfl rfl (j := x1.toNatClampNeg) rfl c1 d_M_swapsSweets_18 (fun H locs hP hD hS => ?_)
  have hP : va_P D classes (w_M_swapsSweets cI cJ cC a_h a_h_refused a_h_kind a_h_sweets a_h_gives a_h_tape a_h_letter a_h_letterAt a_h_one a_h_two a_h_kept a_h_trail a_h_crumb a_h_nextCrumb a_h_goal a_h_start a_h_sits a_h_bestSits a_h_without a_h_row y_h_taped y_h_at y_h_statements y_h_hasImage y_h_beforeMany y_h_found y_h_lots y_h_rowMany (m_many z_h_T) (m_odd z_h_T) (m_step z_h_T) (m_bag z_h_T) (m_strokes z_h_T) (m_gave z_h_T) (m_threw z_h_T) (m_isKeeping z_h_T) (m_cursor z_h_T) (m_kind z_h_T) (upd (m_sweets z_h_T) x1.toNatClampNeg ((m_sweets z_h_T) x2.toNatClampNeg)) (m_gives z_h_T) (m_kept z_h_T)) H := hP
  have hD : va_D A (w_M_swapsSweets cI cJ cC a_h a_h_refused a_h_kind a_h_sweets a_h_gives a_h_tape a_h_letter a_h_letterAt a_h_one a_h_two a_h_kept a_h_trail a_h_crumb a_h_nextCrumb a_h_goal a_h_start a_h_sits a_h_bestSits a_h_without a_h_row y_h_taped y_h_at y_h_statements y_h_hasImage y_h_beforeMany y_h_found y_h_lots y_h_rowMany (m_many z_h_T) (m_odd z_h_T) (m_step z_h_T) (m_bag z_h_T) (m_strokes z_h_T) (m_gave z_h_T) (m_threw z_h_T) (m_isKeeping z_h_T) (m_cursor z_h_T) (m_kind z_h_T) (upd (m_sweets z_h_T) x1.toNatClampNeg ((m_sweets z_h_T) x2.toNatClampNeg)) (m_gives z_h_T) (m_kept z_h_T)) := hD
  refine lv_aload_n hx hb d_M_swapsSweets_19 rfl (lv_at hl 1 rfl) ?_
  refine va_get hx hb hT i_M hown hK hP 0 rfl rfl 2 (Nat.le_of_ble_eq_true rfl) (hT _ k_760) (fun _ h => h) rfl d_M_swapsSweets_20 ?_
  refine lv_iload_n hx hb d_M_swapsSweets_23 rfl (lv_at hl 3 rfl) ?_
  refine lv_iload_n hx hb d_M_swapsSweets_24 rfl (lv_at hl 0 rfl) ?_
  refine x_iast hx hb hK hP hD hS 2 0 rfl rfl (j := x2.toNatClampNeg) rfl c2 d_M_swapsSweets_25 (fun H locs hP hD hS => ?_)
  have hP : va_P D classes (w_M_swapsSweets cI cJ cC a_h a_h_refused a_h_kind a_h_sweets a_h_gives a_h_tape a_h_letter a_h_letterAt a_h_one a_h_two a_h_kept a_h_trail a_h_crumb a_h_nextCrumb a_h_goal a_h_start a_h_sits a_h_bestSits a_h_without a_h_row y_h_taped y_h_at y_h_statements y_h_hasImage y_h_beforeMany y_h_found y_h_lots y_h_rowMany (m_many z_h_T) (m_odd z_h_T) (m_step z_h_T) (m_bag z_h_T) (m_strokes z_h_T) (m_gave z_h_T) (m_threw z_h_T) (m_isKeeping z_h_T) (m_cursor z_h_T) (m_kind z_h_T) (upd (upd (m_sweets z_h_T) x1.toNatClampNeg ((m_sweets z_h_T) x2.toNatClampNeg)) x2.toNatClampNeg ((m_sweets z_h_T) x1.toNatClampNeg)) (m_gives z_h_T) (m_kept z_h_T)) H := hP
  have hD : va_D A (w_M_swapsSweets cI cJ cC a_h a_h_refused a_h_kind a_h_sweets a_h_gives a_h_tape a_h_letter a_h_letterAt a_h_one a_h_two a_h_kept a_h_trail a_h_crumb a_h_nextCrumb a_h_goal a_h_start a_h_sits a_h_bestSits a_h_without a_h_row y_h_taped y_h_at y_h_statements y_h_hasImage y_h_beforeMany y_h_found y_h_lots y_h_rowMany (m_many z_h_T) (m_odd z_h_T) (m_step z_h_T) (m_bag z_h_T) (m_strokes z_h_T) (m_gave z_h_T) (m_threw z_h_T) (m_isKeeping z_h_T) (m_cursor z_h_T) (m_kind z_h_T) (upd (upd (m_sweets z_h_T) x1.toNatClampNeg ((m_sweets z_h_T) x2.toNatClampNeg)) x2.toNatClampNeg ((m_sweets z_h_T) x1.toNatClampNeg)) (m_gives z_h_T) (m_kept z_h_T)) := hD
  have hq := Option.some.inj hf
  subst hq
  exact hret _ _ _ _ d_M_swapsSweets_26 hP hD hS
abbrev w_M_change (cI cJ cC : ClassId) (a_h a_h_refused a_h_kind a_h_sweets a_h_gives a_h_tape a_h_letter a_h_letterAt a_h_one a_h_two a_h_kept a_h_trail a_h_crumb a_h_nextCrumb a_h_goal a_h_start a_h_sits a_h_bestSits a_h_without a_h_row : Nat) (y_h_taped : Int32) (y_h_at : Int32) (y_h_statements : Int32) (y_h_hasImage : Int32) (y_h_beforeMany : Int32) (y_h_found : Int32) (y_h_lots : Int32) (y_h_rowMany : Int32) (p_h_many : Int32) (p_h_odd : Int32) (p_h_step : Int32) (p_h_bag : Int32) (p_h_strokes : Int32) (p_h_gave : Int32) (p_h_threw : Int32) (p_h_isKeeping : Int32) (p_h_cursor : Int32) (p_h_refused : (Nat → Int32)) (p_h_kind : (Nat → Int32)) (p_h_sweets : (Nat → Int32)) (p_h_gives : (Nat → Int32)) (p_h_kept : (Nat → Int32)) : va_W := [(a_h, .inr (7, [.ref a_h_refused, .ref a_h_kind, .ref a_h_sweets, .ref a_h_gives, .int p_h_many, .int p_h_odd, .int p_h_step, .int p_h_bag, .int p_h_strokes, .int p_h_gave, .int p_h_threw, .ref a_h_tape, .ref a_h_letter, .ref a_h_letterAt, .ref a_h_one, .ref a_h_two, .int y_h_taped, .int y_h_at, .int y_h_statements, .ref a_h_kept, .int y_h_hasImage, .int p_h_isKeeping, .int p_h_cursor, .ref a_h_trail, .ref a_h_crumb, .ref a_h_nextCrumb, .ref a_h_goal, .ref a_h_start, .int y_h_beforeMany, .int y_h_found, .ref a_h_sits, .ref a_h_bestSits, .ref a_h_without, .int y_h_lots, .ref a_h_row, .int y_h_rowMany])), (a_h_refused, .inl (cI, (7, .inl p_h_refused))), (a_h_kind, .inl (cI, (8, .inl p_h_kind))), (a_h_sweets, .inl (cI, (8, .inl p_h_sweets))), (a_h_gives, .inl (cI, (8, .inl p_h_gives))), (a_h_kept, .inl (cI, (90, .inl p_h_kept)))]
theorem d_M_change_0 : decode b_M_change 0 = .ok (.aload_n 0, 1) := by decide +kernel
theorem d_M_change_1 : decode b_M_change 1 = .ok (.iload_n 1, 1) := by decide +kernel
theorem d_M_change_2 : decode b_M_change 2 = .ok (.iload_n 2, 1) := by decide +kernel
theorem d_M_change_3 : decode b_M_change 3 = .ok (.invokevirtual 171, 3) := by decide +kernel
theorem d_M_change_6 : decode b_M_change 6 = .ok (.ifCond .ne 9, 3) := by decide +kernel
theorem d_M_change_9 : decode b_M_change 9 = .ok (.aload_n 0, 1) := by decide +kernel
theorem d_M_change_10 : decode b_M_change 10 = .ok (.iconst (-1), 1) := by decide +kernel
theorem d_M_change_11 : decode b_M_change 11 = .ok (.invokevirtual 88, 3) := by decide +kernel
theorem d_M_change_14 : decode b_M_change 14 = .ok (.ireturn, 1) := by decide +kernel
theorem d_M_change_15 : decode b_M_change 15 = .ok (.aload_n 0, 1) := by decide +kernel
theorem d_M_change_16 : decode b_M_change 16 = .ok (.iload_n 1, 1) := by decide +kernel
theorem d_M_change_17 : decode b_M_change 17 = .ok (.iload_n 2, 1) := by decide +kernel
theorem d_M_change_18 : decode b_M_change 18 = .ok (.invokevirtual 175, 3) := by decide +kernel
theorem d_M_change_21 : decode b_M_change 21 = .ok (.aload_n 0, 1) := by decide +kernel
theorem d_M_change_22 : decode b_M_change 22 = .ok (.getfield 13, 3) := by decide +kernel
theorem d_M_change_25 : decode b_M_change 25 = .ok (.iload_n 1, 1) := by decide +kernel
theorem d_M_change_26 : decode b_M_change 26 = .ok (.iaload, 1) := by decide +kernel
theorem d_M_change_27 : decode b_M_change 27 = .ok (.istore_n 3, 1) := by decide +kernel
theorem d_M_change_28 : decode b_M_change 28 = .ok (.aload_n 0, 1) := by decide +kernel
theorem d_M_change_29 : decode b_M_change 29 = .ok (.getfield 13, 3) := by decide +kernel
theorem d_M_change_32 : decode b_M_change 32 = .ok (.iload_n 1, 1) := by decide +kernel
theorem d_M_change_33 : decode b_M_change 33 = .ok (.aload_n 0, 1) := by decide +kernel
theorem d_M_change_34 : decode b_M_change 34 = .ok (.getfield 13, 3) := by decide +kernel
theorem d_M_change_37 : decode b_M_change 37 = .ok (.iload_n 2, 1) := by decide +kernel
theorem d_M_change_38 : decode b_M_change 38 = .ok (.iaload, 1) := by decide +kernel
theorem d_M_change_39 : decode b_M_change 39 = .ok (.iastore, 1) := by decide +kernel
theorem d_M_change_40 : decode b_M_change 40 = .ok (.aload_n 0, 1) := by decide +kernel
theorem d_M_change_41 : decode b_M_change 41 = .ok (.getfield 13, 3) := by decide +kernel
theorem d_M_change_44 : decode b_M_change 44 = .ok (.iload_n 2, 1) := by decide +kernel
theorem d_M_change_45 : decode b_M_change 45 = .ok (.iload_n 3, 1) := by decide +kernel
theorem d_M_change_46 : decode b_M_change 46 = .ok (.iastore, 1) := by decide +kernel
theorem d_M_change_47 : decode b_M_change 47 = .ok (.iconst 1, 1) := by decide +kernel
theorem d_M_change_48 : decode b_M_change 48 = .ok (.ireturn, 1) := by decide +kernel
set_option maxHeartbeats 4000000 in
set_option maxRecDepth 100000 in
theorem c_M_change {l : Launch} {D : va_G} {cI cJ cC : ClassId} (a_h a_h_refused a_h_kind a_h_sweets a_h_gives a_h_tape a_h_letter a_h_letterAt a_h_one a_h_two a_h_kept a_h_trail a_h_crumb a_h_nextCrumb a_h_goal a_h_start a_h_sits a_h_bestSits a_h_without a_h_row : Nat) (y_h_taped : Int32) (y_h_at : Int32) (y_h_statements : Int32) (y_h_hasImage : Int32) (y_h_beforeMany : Int32) (y_h_found : Int32) (y_h_lots : Int32) (y_h_rowMany : Int32) {z_h_T : MT} {z_h_refused : (Nat → Int32)} {x1 : Int32} {x2 : Int32} {q : Int32 × MT × (Nat → Int32)} (hf : f_M_change z_h_T z_h_refused x1 x2 = some q) : xI l y_M_change b_M_change 4 .int 2 43 D (tyK cI cJ cC) xE0 [.ref a_h, .int x1, .int x2] (w_M_change cI cJ cC a_h a_h_refused a_h_kind a_h_sweets a_h_gives a_h_tape a_h_letter a_h_letterAt a_h_one a_h_two a_h_kept a_h_trail a_h_crumb a_h_nextCrumb a_h_goal a_h_start a_h_sits a_h_bestSits a_h_without a_h_row y_h_taped y_h_at y_h_statements y_h_hasImage y_h_beforeMany y_h_found y_h_lots y_h_rowMany (m_many z_h_T) (m_odd z_h_T) (m_step z_h_T) (m_bag z_h_T) (m_strokes z_h_T) (m_gave z_h_T) (m_threw z_h_T) (m_isKeeping z_h_T) (m_cursor z_h_T) z_h_refused (m_kind z_h_T) (m_sweets z_h_T) (m_gives z_h_T) (m_kept z_h_T)) q.1 (w_M_change cI cJ cC a_h a_h_refused a_h_kind a_h_sweets a_h_gives a_h_tape a_h_letter a_h_letterAt a_h_one a_h_two a_h_kept a_h_trail a_h_crumb a_h_nextCrumb a_h_goal a_h_start a_h_sits a_h_bestSits a_h_without a_h_row y_h_taped y_h_at y_h_statements y_h_hasImage y_h_beforeMany y_h_found y_h_lots y_h_rowMany (m_many q.2.1) (m_odd q.2.1) (m_step q.2.1) (m_bag q.2.1) (m_strokes q.2.1) (m_gave q.2.1) (m_threw q.2.1) (m_isKeeping q.2.1) (m_cursor q.2.1) q.2.2 (m_kind q.2.1) (m_sweets q.2.1) (m_gives q.2.1) (m_kept q.2.1)) := by
  refine xI_of (by decide) (Nat.le_of_ble_eq_true rfl) ?_
  intro p e s m args below meth c A Q hx hb hml hown hT hA hP hD hK hS hE hret ls hl
  have hown : s.vm.findClass R_M = some m.cls := hown
  have hl : lv_has ls 4 [(0, .ref a_h), (1, .int x1), (2, .int x2)] := hl
  unfold f_M_change at hf
  refine lv_aload_n hx hb d_M_change_0 rfl (lv_at hl 0 rfl) ?_
  refine lv_iload_n hx hb d_M_change_1 rfl (lv_at hl 1 rfl) ?_
  refine lv_iload_n hx hb d_M_change_2 rfl (lv_at hl 2 rfl) ?_
  obtain ⟨q1, hq1, hf⟩ := io_b hf
  refine xcVI (wc := (w_M_areTwo cI cJ cC a_h a_h_refused a_h_kind a_h_sweets a_h_gives a_h_tape a_h_letter a_h_letterAt a_h_one a_h_two a_h_kept a_h_trail a_h_crumb a_h_nextCrumb a_h_goal a_h_start a_h_sits a_h_bestSits a_h_without a_h_row y_h_taped y_h_at y_h_statements y_h_hasImage y_h_beforeMany y_h_found y_h_lots y_h_rowMany (m_many z_h_T) (m_odd z_h_T) (m_step z_h_T) (m_bag z_h_T) (m_strokes z_h_T) (m_gave z_h_T) (m_threw z_h_T) (m_isKeeping z_h_T) (m_cursor z_h_T))) (wc' := (w_M_areTwo cI cJ cC a_h a_h_refused a_h_kind a_h_sweets a_h_gives a_h_tape a_h_letter a_h_letterAt a_h_one a_h_two a_h_kept a_h_trail a_h_crumb a_h_nextCrumb a_h_goal a_h_start a_h_sits a_h_bestSits a_h_without a_h_row y_h_taped y_h_at y_h_statements y_h_hasImage y_h_beforeMany y_h_found y_h_lots y_h_rowMany (m_many z_h_T) (m_odd z_h_T) (m_step z_h_T) (m_bag z_h_T) (m_strokes z_h_T) (m_gave z_h_T) (m_threw z_h_T) (m_isKeeping z_h_T) (m_cursor z_h_T))) (ws' := (w_M_change cI cJ cC a_h a_h_refused a_h_kind a_h_sweets a_h_gives a_h_tape a_h_letter a_h_letterAt a_h_one a_h_two a_h_kept a_h_trail a_h_crumb a_h_nextCrumb a_h_goal a_h_start a_h_sits a_h_bestSits a_h_without a_h_row y_h_taped y_h_at y_h_statements y_h_hasImage y_h_beforeMany y_h_found y_h_lots y_h_rowMany (m_many z_h_T) (m_odd z_h_T) (m_step z_h_T) (m_bag z_h_T) (m_strokes z_h_T) (m_gave z_h_T) (m_threw z_h_T) (m_isKeeping z_h_T) (m_cursor z_h_T) z_h_refused (m_kind z_h_T) (m_sweets z_h_T) (m_gives z_h_T) (m_kept z_h_T))) (As := [.int x1, .int x2]) (rest := []) hx hb hml hown hT (c_M_areTwo (z_h_T := z_h_T) a_h a_h_refused a_h_kind a_h_sweets a_h_gives a_h_tape a_h_letter a_h_letterAt a_h_one a_h_two a_h_kept a_h_trail a_h_crumb a_h_nextCrumb a_h_goal a_h_start a_h_sits a_h_bestSits a_h_without a_h_row y_h_taped y_h_at y_h_statements y_h_hasImage y_h_beforeMany y_h_found y_h_lots y_h_rowMany hq1) k_952 k_954 ks_34 k_8 k_955 hd_M_areTwo ⟨Nat.le_of_ble_eq_true rfl, Nat.le_of_ble_eq_true rfl⟩ xE0_ok trivial hA hK hP hD hS [0] [1, 2, 3, 4, 5] [5, 0, 1, 2, 3, 4] rfl rfl rfl rfl rfl rfl rfl rfl rfl rfl hl.1 rfl (Nat.le_of_ble_eq_true rfl) ⟨Nat.zero_le _, Nat.zero_le _⟩ d_M_change_3 (fun H locs hP hD hS => ?_)
  refine lv_if_ne (tgt := 15) hx hb d_M_change_6 (by decide) (fun c2 => ?_) (fun c2 => ?_)
  · have hf := io_f hf c2
    refine lv_aload_n hx hb d_M_change_15 rfl (lv_at hl 0 rfl) ?_
    refine lv_iload_n hx hb d_M_change_16 rfl (lv_at hl 1 rfl) ?_
    refine lv_iload_n hx hb d_M_change_17 rfl (lv_at hl 2 rfl) ?_
    obtain ⟨q3, hq3, hf⟩ := io_b hf
    refine xcVV (wc := (w_M_swapsSweets cI cJ cC a_h a_h_refused a_h_kind a_h_sweets a_h_gives a_h_tape a_h_letter a_h_letterAt a_h_one a_h_two a_h_kept a_h_trail a_h_crumb a_h_nextCrumb a_h_goal a_h_start a_h_sits a_h_bestSits a_h_without a_h_row y_h_taped y_h_at y_h_statements y_h_hasImage y_h_beforeMany y_h_found y_h_lots y_h_rowMany (m_many z_h_T) (m_odd z_h_T) (m_step z_h_T) (m_bag z_h_T) (m_strokes z_h_T) (m_gave z_h_T) (m_threw z_h_T) (m_isKeeping z_h_T) (m_cursor z_h_T) (m_kind z_h_T) (m_sweets z_h_T) (m_gives z_h_T) (m_kept z_h_T))) (wc' := (w_M_swapsSweets cI cJ cC a_h a_h_refused a_h_kind a_h_sweets a_h_gives a_h_tape a_h_letter a_h_letterAt a_h_one a_h_two a_h_kept a_h_trail a_h_crumb a_h_nextCrumb a_h_goal a_h_start a_h_sits a_h_bestSits a_h_without a_h_row y_h_taped y_h_at y_h_statements y_h_hasImage y_h_beforeMany y_h_found y_h_lots y_h_rowMany (m_many q3) (m_odd q3) (m_step q3) (m_bag q3) (m_strokes q3) (m_gave q3) (m_threw q3) (m_isKeeping q3) (m_cursor q3) (m_kind q3) (m_sweets q3) (m_gives q3) (m_kept q3))) (ws' := (w_M_change cI cJ cC a_h a_h_refused a_h_kind a_h_sweets a_h_gives a_h_tape a_h_letter a_h_letterAt a_h_one a_h_two a_h_kept a_h_trail a_h_crumb a_h_nextCrumb a_h_goal a_h_start a_h_sits a_h_bestSits a_h_without a_h_row y_h_taped y_h_at y_h_statements y_h_hasImage y_h_beforeMany y_h_found y_h_lots y_h_rowMany (m_many q3) (m_odd q3) (m_step q3) (m_bag q3) (m_strokes q3) (m_gave q3) (m_threw q3) (m_isKeeping q3) (m_cursor q3) z_h_refused (m_kind q3) (m_sweets q3) (m_gives q3) (m_kept q3))) (As := [.int x1, .int x2]) (rest := []) hx hb hml hown hT (c_M_swapsSweets (z_h_T := z_h_T) a_h a_h_refused a_h_kind a_h_sweets a_h_gives a_h_tape a_h_letter a_h_letterAt a_h_one a_h_two a_h_kept a_h_trail a_h_crumb a_h_nextCrumb a_h_goal a_h_start a_h_sits a_h_bestSits a_h_without a_h_row y_h_taped y_h_at y_h_statements y_h_hasImage y_h_beforeMany y_h_found y_h_lots y_h_rowMany hq3) k_956 k_958 ks_35 k_8 k_959 hd_M_swapsSweets ⟨Nat.le_of_ble_eq_true rfl, Nat.le_of_ble_eq_true rfl⟩ xE0_ok trivial hA hK hP hD hS [0, 2, 3, 4, 5] [1] [1, 0, 2, 3, 4, 5] rfl rfl rfl rfl rfl rfl rfl rfl rfl rfl hl.1 rfl (Nat.le_of_ble_eq_true rfl) ⟨Nat.zero_le _, Nat.zero_le _⟩ d_M_change_18 (fun H locs hP hD hS => ?_)
    refine lv_aload_n hx hb d_M_change_21 rfl (lv_at hl 0 rfl) ?_
    refine va_get hx hb hT i_M hown hK hP 0 rfl rfl 1 (Nat.le_of_ble_eq_true rfl) (hT _ k_759) (fun _ h => h) rfl d_M_change_22 ?_
    refine lv_iload_n hx hb d_M_change_25 rfl (lv_at hl 1 rfl) ?_
    obtain ⟨c4, hf⟩ := io_n hf
    refine x_iald hx hb hK hP 2 0 rfl rfl (j := x1.toNatClampNeg) rfl c4 d_M_change_26 ?_
    refine lv_istore_n (lv' := [(3, .int ((m_kind q3) x1.toNatClampNeg)), (0, .ref a_h), (1, .int x1), (2, .int x2)]) hx hb d_M_change_27 rfl hl (by decide) rfl (fun ls hl => ?_)
    refine lv_aload_n hx hb d_M_change_28 rfl (lv_at hl 1 rfl) ?_
    refine va_get hx hb hT i_M hown hK hP 0 rfl rfl 1 (Nat.le_of_ble_eq_true rfl) (hT _ k_759) (fun _ h => h) rfl d_M_change_29 ?_
    refine lv_iload_n hx hb d_M_change_32 rfl (lv_at hl 2 rfl) ?_
    refine lv_aload_n hx hb d_M_change_33 rfl (lv_at hl 1 rfl) ?_
    refine va_get hx hb hT i_M hown hK hP 0 rfl rfl 1 (Nat.le_of_ble_eq_true rfl) (hT _ k_759) (fun _ h => h) rfl d_M_change_34 ?_
    refine lv_iload_n hx hb d_M_change_37 rfl (lv_at hl 3 rfl) ?_
    obtain ⟨c5, hf⟩ := io_n hf
    refine x_iald hx hb hK hP 2 0 rfl rfl (j := x2.toNatClampNeg) rfl c5 d_M_change_38 ?_
    refine x_iast hx hb hK hP hD hS 2 0 rfl rfl (j := x1.toNatClampNeg) rfl c4 d_M_change_39 (fun H locs hP hD hS => ?_)
    have hP : va_P D classes (w_M_change cI cJ cC a_h a_h_refused a_h_kind a_h_sweets a_h_gives a_h_tape a_h_letter a_h_letterAt a_h_one a_h_two a_h_kept a_h_trail a_h_crumb a_h_nextCrumb a_h_goal a_h_start a_h_sits a_h_bestSits a_h_without a_h_row y_h_taped y_h_at y_h_statements y_h_hasImage y_h_beforeMany y_h_found y_h_lots y_h_rowMany (m_many q3) (m_odd q3) (m_step q3) (m_bag q3) (m_strokes q3) (m_gave q3) (m_threw q3) (m_isKeeping q3) (m_cursor q3) z_h_refused (upd (m_kind q3) x1.toNatClampNeg ((m_kind q3) x2.toNatClampNeg)) (m_sweets q3) (m_gives q3) (m_kept q3)) H := hP
    have hD : va_D A (w_M_change cI cJ cC a_h a_h_refused a_h_kind a_h_sweets a_h_gives a_h_tape a_h_letter a_h_letterAt a_h_one a_h_two a_h_kept a_h_trail a_h_crumb a_h_nextCrumb a_h_goal a_h_start a_h_sits a_h_bestSits a_h_without a_h_row y_h_taped y_h_at y_h_statements y_h_hasImage y_h_beforeMany y_h_found y_h_lots y_h_rowMany (m_many q3) (m_odd q3) (m_step q3) (m_bag q3) (m_strokes q3) (m_gave q3) (m_threw q3) (m_isKeeping q3) (m_cursor q3) z_h_refused (upd (m_kind q3) x1.toNatClampNeg ((m_kind q3) x2.toNatClampNeg)) (m_sweets q3) (m_gives q3) (m_kept q3)) := hD
    refine lv_aload_n hx hb d_M_change_40 rfl (lv_at hl 1 rfl) ?_
    refine va_get hx hb hT i_M hown hK hP 0 rfl rfl 1 (Nat.le_of_ble_eq_true rfl) (hT _ k_759) (fun _ h => h) rfl d_M_change_41 ?_
    refine lv_iload_n hx hb d_M_change_44 rfl (lv_at hl 3 rfl) ?_
    refine lv_iload_n hx hb d_M_change_45 rfl (lv_at hl 0 rfl) ?_
    refine x_iast hx hb hK hP hD hS 2 0 rfl rfl (j := x2.toNatClampNeg) rfl c5 d_M_change_46 (fun H locs hP hD hS => ?_)
    have hP : va_P D classes (w_M_change cI cJ cC a_h a_h_refused a_h_kind a_h_sweets a_h_gives a_h_tape a_h_letter a_h_letterAt a_h_one a_h_two a_h_kept a_h_trail a_h_crumb a_h_nextCrumb a_h_goal a_h_start a_h_sits a_h_bestSits a_h_without a_h_row y_h_taped y_h_at y_h_statements y_h_hasImage y_h_beforeMany y_h_found y_h_lots y_h_rowMany (m_many q3) (m_odd q3) (m_step q3) (m_bag q3) (m_strokes q3) (m_gave q3) (m_threw q3) (m_isKeeping q3) (m_cursor q3) z_h_refused (upd (upd (m_kind q3) x1.toNatClampNeg ((m_kind q3) x2.toNatClampNeg)) x2.toNatClampNeg ((m_kind q3) x1.toNatClampNeg)) (m_sweets q3) (m_gives q3) (m_kept q3)) H := hP
    have hD : va_D A (w_M_change cI cJ cC a_h a_h_refused a_h_kind a_h_sweets a_h_gives a_h_tape a_h_letter a_h_letterAt a_h_one a_h_two a_h_kept a_h_trail a_h_crumb a_h_nextCrumb a_h_goal a_h_start a_h_sits a_h_bestSits a_h_without a_h_row y_h_taped y_h_at y_h_statements y_h_hasImage y_h_beforeMany y_h_found y_h_lots y_h_rowMany (m_many q3) (m_odd q3) (m_step q3) (m_bag q3) (m_strokes q3) (m_gave q3) (m_threw q3) (m_isKeeping q3) (m_cursor q3) z_h_refused (upd (upd (m_kind q3) x1.toNatClampNeg ((m_kind q3) x2.toNatClampNeg)) x2.toNatClampNeg ((m_kind q3) x1.toNatClampNeg)) (m_sweets q3) (m_gives q3) (m_kept q3)) := hD
    refine lv_iconst (v := 1) hx hb d_M_change_47 (by decide) ?_
    have hq := Option.some.inj hf
    subst hq
    exact hret _ _ _ _ _ d_M_change_48 rfl rfl hP hD hS
  · have hf := io_t hf c2
    refine lv_aload_n hx hb d_M_change_9 rfl (lv_at hl 0 rfl) ?_
    refine lv_iconst (v := (-1)) hx hb d_M_change_10 (by decide) ?_
    obtain ⟨q6, hq6, hf⟩ := io_b hf
    refine xcVI (wc := (w_M_no cI cJ cC a_h a_h_refused a_h_kind a_h_sweets a_h_gives a_h_tape a_h_letter a_h_letterAt a_h_one a_h_two a_h_kept a_h_trail a_h_crumb a_h_nextCrumb a_h_goal a_h_start a_h_sits a_h_bestSits a_h_without a_h_row (m_many z_h_T) (m_odd z_h_T) (m_step z_h_T) (m_bag z_h_T) (m_strokes z_h_T) (m_gave z_h_T) (m_threw z_h_T) y_h_taped y_h_at y_h_statements y_h_hasImage (m_isKeeping z_h_T) (m_cursor z_h_T) y_h_beforeMany y_h_found y_h_lots y_h_rowMany z_h_refused)) (wc' := (w_M_no cI cJ cC a_h a_h_refused a_h_kind a_h_sweets a_h_gives a_h_tape a_h_letter a_h_letterAt a_h_one a_h_two a_h_kept a_h_trail a_h_crumb a_h_nextCrumb a_h_goal a_h_start a_h_sits a_h_bestSits a_h_without a_h_row (m_many z_h_T) (m_odd z_h_T) (m_step z_h_T) (m_bag z_h_T) (m_strokes z_h_T) (m_gave z_h_T) (m_threw z_h_T) y_h_taped y_h_at y_h_statements y_h_hasImage (m_isKeeping z_h_T) (m_cursor z_h_T) y_h_beforeMany y_h_found y_h_lots y_h_rowMany q6.2)) (ws' := (w_M_change cI cJ cC a_h a_h_refused a_h_kind a_h_sweets a_h_gives a_h_tape a_h_letter a_h_letterAt a_h_one a_h_two a_h_kept a_h_trail a_h_crumb a_h_nextCrumb a_h_goal a_h_start a_h_sits a_h_bestSits a_h_without a_h_row y_h_taped y_h_at y_h_statements y_h_hasImage y_h_beforeMany y_h_found y_h_lots y_h_rowMany (m_many z_h_T) (m_odd z_h_T) (m_step z_h_T) (m_bag z_h_T) (m_strokes z_h_T) (m_gave z_h_T) (m_threw z_h_T) (m_isKeeping z_h_T) (m_cursor z_h_T) q6.2 (m_kind z_h_T) (m_sweets z_h_T) (m_gives z_h_T) (m_kept z_h_T))) (As := [.int (-1)]) (rest := []) hx hb hml hown hT (c_M_no (z_h_refused := z_h_refused) a_h a_h_refused a_h_kind a_h_sweets a_h_gives a_h_tape a_h_letter a_h_letterAt a_h_one a_h_two a_h_kept a_h_trail a_h_crumb a_h_nextCrumb a_h_goal a_h_start a_h_sits a_h_bestSits a_h_without a_h_row (m_many z_h_T) (m_odd z_h_T) (m_step z_h_T) (m_bag z_h_T) (m_strokes z_h_T) (m_gave z_h_T) (m_threw z_h_T) y_h_taped y_h_at y_h_statements y_h_hasImage (m_isKeeping z_h_T) (m_cursor z_h_T) y_h_beforeMany y_h_found y_h_lots y_h_rowMany hq6) k_874 k_876 ks_24 k_8 k_877 hd_M_no ⟨Nat.le_of_ble_eq_true rfl, Nat.le_of_ble_eq_true rfl⟩ xE0_ok trivial hA hK hP hD hS [0, 1] [2, 3, 4, 5] [4, 5, 0, 1, 2, 3] rfl rfl rfl rfl rfl rfl rfl rfl rfl rfl hl.1 rfl (Nat.le_of_ble_eq_true rfl) ⟨Nat.zero_le _, Nat.zero_le _⟩ d_M_change_11 (fun H locs hP hD hS => ?_)
    have hq := Option.some.inj hf
    subst hq
    exact hret _ _ _ _ _ d_M_change_14 rfl rfl hP hD hS
abbrev w_M_stroke (cI cJ cC : ClassId) (a_h a_h_refused a_h_kind a_h_sweets a_h_gives a_h_tape a_h_letter a_h_letterAt a_h_one a_h_two a_h_kept a_h_trail a_h_crumb a_h_nextCrumb a_h_goal a_h_start a_h_sits a_h_bestSits a_h_without a_h_row : Nat) (y_h_taped : Int32) (y_h_at : Int32) (y_h_statements : Int32) (y_h_hasImage : Int32) (y_h_beforeMany : Int32) (y_h_found : Int32) (y_h_lots : Int32) (y_h_rowMany : Int32) (p_h_many : Int32) (p_h_odd : Int32) (p_h_step : Int32) (p_h_bag : Int32) (p_h_strokes : Int32) (p_h_gave : Int32) (p_h_threw : Int32) (p_h_isKeeping : Int32) (p_h_cursor : Int32) (p_h_refused : (Nat → Int32)) (p_h_kind : (Nat → Int32)) (p_h_sweets : (Nat → Int32)) (p_h_gives : (Nat → Int32)) (p_h_kept : (Nat → Int32)) : va_W := [(a_h, .inr (7, [.ref a_h_refused, .ref a_h_kind, .ref a_h_sweets, .ref a_h_gives, .int p_h_many, .int p_h_odd, .int p_h_step, .int p_h_bag, .int p_h_strokes, .int p_h_gave, .int p_h_threw, .ref a_h_tape, .ref a_h_letter, .ref a_h_letterAt, .ref a_h_one, .ref a_h_two, .int y_h_taped, .int y_h_at, .int y_h_statements, .ref a_h_kept, .int y_h_hasImage, .int p_h_isKeeping, .int p_h_cursor, .ref a_h_trail, .ref a_h_crumb, .ref a_h_nextCrumb, .ref a_h_goal, .ref a_h_start, .int y_h_beforeMany, .int y_h_found, .ref a_h_sits, .ref a_h_bestSits, .ref a_h_without, .int y_h_lots, .ref a_h_row, .int y_h_rowMany])), (a_h_refused, .inl (cI, (7, .inl p_h_refused))), (a_h_kind, .inl (cI, (8, .inl p_h_kind))), (a_h_sweets, .inl (cI, (8, .inl p_h_sweets))), (a_h_gives, .inl (cI, (8, .inl p_h_gives))), (a_h_kept, .inl (cI, (90, .inl p_h_kept)))]
theorem d_M_stroke_0 : decode b_M_stroke 0 = .ok (.aload_n 0, 1) := by decide +kernel
theorem d_M_stroke_1 : decode b_M_stroke 1 = .ok (.getfield 78, 3) := by decide +kernel
theorem d_M_stroke_4 : decode b_M_stroke 4 = .ok (.ifCond .ne 12, 3) := by decide +kernel
theorem d_M_stroke_7 : decode b_M_stroke 7 = .ok (.aload_n 0, 1) := by decide +kernel
theorem d_M_stroke_8 : decode b_M_stroke 8 = .ok (.bipush (-3), 2) := by decide +kernel
theorem d_M_stroke_10 : decode b_M_stroke 10 = .ok (.invokevirtual 88, 3) := by decide +kernel
theorem d_M_stroke_13 : decode b_M_stroke 13 = .ok (.goto 8, 3) := by decide +kernel
theorem d_M_stroke_16 : decode b_M_stroke 16 = .ok (.aload_n 0, 1) := by decide +kernel
theorem d_M_stroke_17 : decode b_M_stroke 17 = .ok (.iconst 1, 1) := by decide +kernel
theorem d_M_stroke_18 : decode b_M_stroke 18 = .ok (.invokevirtual 179, 3) := by decide +kernel
theorem d_M_stroke_21 : decode b_M_stroke 21 = .ok (.ireturn, 1) := by decide +kernel
set_option maxHeartbeats 4000000 in
set_option maxRecDepth 100000 in
theorem c_M_stroke {l : Launch} {D : va_G} {cI cJ cC : ClassId} (a_h a_h_refused a_h_kind a_h_sweets a_h_gives a_h_tape a_h_letter a_h_letterAt a_h_one a_h_two a_h_kept a_h_trail a_h_crumb a_h_nextCrumb a_h_goal a_h_start a_h_sits a_h_bestSits a_h_without a_h_row : Nat) (y_h_taped : Int32) (y_h_at : Int32) (y_h_statements : Int32) (y_h_hasImage : Int32) (y_h_beforeMany : Int32) (y_h_found : Int32) (y_h_lots : Int32) (y_h_rowMany : Int32) {z_h_T : MT} {z_h_refused : (Nat → Int32)} {q : Int32 × MT × (Nat → Int32)} (hf : f_M_stroke z_h_T z_h_refused = some q) : xI l y_M_stroke b_M_stroke 1 .int 4 89 D (tyK cI cJ cC) xE0 [.ref a_h] (w_M_stroke cI cJ cC a_h a_h_refused a_h_kind a_h_sweets a_h_gives a_h_tape a_h_letter a_h_letterAt a_h_one a_h_two a_h_kept a_h_trail a_h_crumb a_h_nextCrumb a_h_goal a_h_start a_h_sits a_h_bestSits a_h_without a_h_row y_h_taped y_h_at y_h_statements y_h_hasImage y_h_beforeMany y_h_found y_h_lots y_h_rowMany (m_many z_h_T) (m_odd z_h_T) (m_step z_h_T) (m_bag z_h_T) (m_strokes z_h_T) (m_gave z_h_T) (m_threw z_h_T) (m_isKeeping z_h_T) (m_cursor z_h_T) z_h_refused (m_kind z_h_T) (m_sweets z_h_T) (m_gives z_h_T) (m_kept z_h_T)) q.1 (w_M_stroke cI cJ cC a_h a_h_refused a_h_kind a_h_sweets a_h_gives a_h_tape a_h_letter a_h_letterAt a_h_one a_h_two a_h_kept a_h_trail a_h_crumb a_h_nextCrumb a_h_goal a_h_start a_h_sits a_h_bestSits a_h_without a_h_row y_h_taped y_h_at y_h_statements y_h_hasImage y_h_beforeMany y_h_found y_h_lots y_h_rowMany (m_many q.2.1) (m_odd q.2.1) (m_step q.2.1) (m_bag q.2.1) (m_strokes q.2.1) (m_gave q.2.1) (m_threw q.2.1) (m_isKeeping q.2.1) (m_cursor q.2.1) q.2.2 (m_kind q.2.1) (m_sweets q.2.1) (m_gives q.2.1) (m_kept q.2.1)) := by
  refine xI_of (by decide) (Nat.le_of_ble_eq_true rfl) ?_
  intro p e s m args below meth c A Q hx hb hml hown hT hA hP hD hK hS hE hret ls hl
  have hown : s.vm.findClass R_M = some m.cls := hown
  have hl : lv_has ls 1 [(0, .ref a_h)] := hl
  unfold f_M_stroke at hf
  refine lv_aload_n hx hb d_M_stroke_0 rfl (lv_at hl 0 rfl) ?_
  refine va_get hx hb hT i_M hown hK hP 0 rfl rfl 4 (Nat.le_of_ble_eq_true rfl) (hT _ k_762) (fun _ h => h) rfl d_M_stroke_1 ?_
  refine lv_if_ne (tgt := 16) hx hb d_M_stroke_4 (by decide) (fun c1 => ?_) (fun c1 => ?_)
  · have hf := io_f hf c1
    refine lv_aload_n hx hb d_M_stroke_16 rfl (lv_at hl 0 rfl) ?_
    refine lv_iconst (v := 1) hx hb d_M_stroke_17 (by decide) ?_
    obtain ⟨q2, hq2, hf⟩ := io_b hf
    refine xcVI (wc := (w_M_goes cI cJ cC a_h a_h_refused a_h_kind a_h_sweets a_h_gives a_h_tape a_h_letter a_h_letterAt a_h_one a_h_two a_h_kept a_h_trail a_h_crumb a_h_nextCrumb a_h_goal a_h_start a_h_sits a_h_bestSits a_h_without a_h_row y_h_taped y_h_at y_h_statements y_h_hasImage y_h_beforeMany y_h_found y_h_lots y_h_rowMany (m_many z_h_T) (m_odd z_h_T) (m_step z_h_T) (m_bag z_h_T) (m_strokes z_h_T) (m_gave z_h_T) (m_threw z_h_T) (m_isKeeping z_h_T) (m_cursor z_h_T) (m_kind z_h_T) (m_sweets z_h_T) (m_gives z_h_T) (m_kept z_h_T))) (wc' := (w_M_goes cI cJ cC a_h a_h_refused a_h_kind a_h_sweets a_h_gives a_h_tape a_h_letter a_h_letterAt a_h_one a_h_two a_h_kept a_h_trail a_h_crumb a_h_nextCrumb a_h_goal a_h_start a_h_sits a_h_bestSits a_h_without a_h_row y_h_taped y_h_at y_h_statements y_h_hasImage y_h_beforeMany y_h_found y_h_lots y_h_rowMany (m_many q2.2) (m_odd q2.2) (m_step q2.2) (m_bag q2.2) (m_strokes q2.2) (m_gave q2.2) (m_threw q2.2) (m_isKeeping q2.2) (m_cursor q2.2) (m_kind q2.2) (m_sweets q2.2) (m_gives q2.2) (m_kept q2.2))) (ws' := (w_M_stroke cI cJ cC a_h a_h_refused a_h_kind a_h_sweets a_h_gives a_h_tape a_h_letter a_h_letterAt a_h_one a_h_two a_h_kept a_h_trail a_h_crumb a_h_nextCrumb a_h_goal a_h_start a_h_sits a_h_bestSits a_h_without a_h_row y_h_taped y_h_at y_h_statements y_h_hasImage y_h_beforeMany y_h_found y_h_lots y_h_rowMany (m_many q2.2) (m_odd q2.2) (m_step q2.2) (m_bag q2.2) (m_strokes q2.2) (m_gave q2.2) (m_threw q2.2) (m_isKeeping q2.2) (m_cursor q2.2) z_h_refused (m_kind q2.2) (m_sweets q2.2) (m_gives q2.2) (m_kept q2.2))) (As := [.int 1]) (rest := []) hx hb hml hown hT (c_M_goes (z_h_T := z_h_T) a_h a_h_refused a_h_kind a_h_sweets a_h_gives a_h_tape a_h_letter a_h_letterAt a_h_one a_h_two a_h_kept a_h_trail a_h_crumb a_h_nextCrumb a_h_goal a_h_start a_h_sits a_h_bestSits a_h_without a_h_row y_h_taped y_h_at y_h_statements y_h_hasImage y_h_beforeMany y_h_found y_h_lots y_h_rowMany hq2) k_964 k_966 ks_36 k_8 k_967 hd_M_goes ⟨Nat.le_of_ble_eq_true rfl, Nat.le_of_ble_eq_true rfl⟩ xE0_ok trivial hA hK hP hD hS [0, 2, 3, 4, 5] [1] [1, 0, 2, 3, 4, 5] rfl rfl rfl rfl rfl rfl rfl rfl rfl rfl hl.1 rfl (Nat.le_of_ble_eq_true rfl) ⟨Nat.zero_le _, Nat.zero_le _⟩ d_M_stroke_18 (fun H locs hP hD hS => ?_)
    have hq := Option.some.inj hf
    subst hq
    exact hret _ _ _ _ _ d_M_stroke_21 rfl rfl hP hD hS
  · have hf := io_t hf c1
    refine lv_aload_n hx hb d_M_stroke_7 rfl (lv_at hl 0 rfl) ?_
    refine lv_bipush (v := (-3)) hx hb d_M_stroke_8 (by decide) ?_
    obtain ⟨q3, hq3, hf⟩ := io_b hf
    refine xcVI (wc := (w_M_no cI cJ cC a_h a_h_refused a_h_kind a_h_sweets a_h_gives a_h_tape a_h_letter a_h_letterAt a_h_one a_h_two a_h_kept a_h_trail a_h_crumb a_h_nextCrumb a_h_goal a_h_start a_h_sits a_h_bestSits a_h_without a_h_row (m_many z_h_T) (m_odd z_h_T) (m_step z_h_T) (m_bag z_h_T) (m_strokes z_h_T) (m_gave z_h_T) (m_threw z_h_T) y_h_taped y_h_at y_h_statements y_h_hasImage (m_isKeeping z_h_T) (m_cursor z_h_T) y_h_beforeMany y_h_found y_h_lots y_h_rowMany z_h_refused)) (wc' := (w_M_no cI cJ cC a_h a_h_refused a_h_kind a_h_sweets a_h_gives a_h_tape a_h_letter a_h_letterAt a_h_one a_h_two a_h_kept a_h_trail a_h_crumb a_h_nextCrumb a_h_goal a_h_start a_h_sits a_h_bestSits a_h_without a_h_row (m_many z_h_T) (m_odd z_h_T) (m_step z_h_T) (m_bag z_h_T) (m_strokes z_h_T) (m_gave z_h_T) (m_threw z_h_T) y_h_taped y_h_at y_h_statements y_h_hasImage (m_isKeeping z_h_T) (m_cursor z_h_T) y_h_beforeMany y_h_found y_h_lots y_h_rowMany q3.2)) (ws' := (w_M_stroke cI cJ cC a_h a_h_refused a_h_kind a_h_sweets a_h_gives a_h_tape a_h_letter a_h_letterAt a_h_one a_h_two a_h_kept a_h_trail a_h_crumb a_h_nextCrumb a_h_goal a_h_start a_h_sits a_h_bestSits a_h_without a_h_row y_h_taped y_h_at y_h_statements y_h_hasImage y_h_beforeMany y_h_found y_h_lots y_h_rowMany (m_many z_h_T) (m_odd z_h_T) (m_step z_h_T) (m_bag z_h_T) (m_strokes z_h_T) (m_gave z_h_T) (m_threw z_h_T) (m_isKeeping z_h_T) (m_cursor z_h_T) q3.2 (m_kind z_h_T) (m_sweets z_h_T) (m_gives z_h_T) (m_kept z_h_T))) (As := [.int (-3)]) (rest := []) hx hb hml hown hT (c_M_no (z_h_refused := z_h_refused) a_h a_h_refused a_h_kind a_h_sweets a_h_gives a_h_tape a_h_letter a_h_letterAt a_h_one a_h_two a_h_kept a_h_trail a_h_crumb a_h_nextCrumb a_h_goal a_h_start a_h_sits a_h_bestSits a_h_without a_h_row (m_many z_h_T) (m_odd z_h_T) (m_step z_h_T) (m_bag z_h_T) (m_strokes z_h_T) (m_gave z_h_T) (m_threw z_h_T) y_h_taped y_h_at y_h_statements y_h_hasImage (m_isKeeping z_h_T) (m_cursor z_h_T) y_h_beforeMany y_h_found y_h_lots y_h_rowMany hq3) k_874 k_876 ks_24 k_8 k_877 hd_M_no ⟨Nat.le_of_ble_eq_true rfl, Nat.le_of_ble_eq_true rfl⟩ xE0_ok trivial hA hK hP hD hS [0, 1] [2, 3, 4, 5] [4, 5, 0, 1, 2, 3] rfl rfl rfl rfl rfl rfl rfl rfl rfl rfl hl.1 rfl (Nat.le_of_ble_eq_true rfl) ⟨Nat.zero_le _, Nat.zero_le _⟩ d_M_stroke_10 (fun H locs hP hD hS => ?_)
    refine lv_goto (tgt := 21) hx hb d_M_stroke_13 (by decide) ?_
    have hq := Option.some.inj hf
    subst hq
    exact hret _ _ _ _ _ d_M_stroke_21 rfl rfl hP hD hS
abbrev w_M_run (cI cJ cC : ClassId) (a_h a_h_refused a_h_kind a_h_sweets a_h_gives a_h_tape a_h_letter a_h_letterAt a_h_one a_h_two a_h_kept a_h_trail a_h_crumb a_h_nextCrumb a_h_goal a_h_start a_h_sits a_h_bestSits a_h_without a_h_row : Nat) (y_h_taped : Int32) (y_h_at : Int32) (y_h_statements : Int32) (y_h_hasImage : Int32) (y_h_beforeMany : Int32) (y_h_found : Int32) (y_h_lots : Int32) (y_h_rowMany : Int32) (p_h_many : Int32) (p_h_odd : Int32) (p_h_step : Int32) (p_h_bag : Int32) (p_h_strokes : Int32) (p_h_gave : Int32) (p_h_threw : Int32) (p_h_isKeeping : Int32) (p_h_cursor : Int32) (p_h_refused : (Nat → Int32)) (p_h_kind : (Nat → Int32)) (p_h_sweets : (Nat → Int32)) (p_h_gives : (Nat → Int32)) (p_h_kept : (Nat → Int32)) : va_W := [(a_h, .inr (7, [.ref a_h_refused, .ref a_h_kind, .ref a_h_sweets, .ref a_h_gives, .int p_h_many, .int p_h_odd, .int p_h_step, .int p_h_bag, .int p_h_strokes, .int p_h_gave, .int p_h_threw, .ref a_h_tape, .ref a_h_letter, .ref a_h_letterAt, .ref a_h_one, .ref a_h_two, .int y_h_taped, .int y_h_at, .int y_h_statements, .ref a_h_kept, .int y_h_hasImage, .int p_h_isKeeping, .int p_h_cursor, .ref a_h_trail, .ref a_h_crumb, .ref a_h_nextCrumb, .ref a_h_goal, .ref a_h_start, .int y_h_beforeMany, .int y_h_found, .ref a_h_sits, .ref a_h_bestSits, .ref a_h_without, .int y_h_lots, .ref a_h_row, .int y_h_rowMany])), (a_h_refused, .inl (cI, (7, .inl p_h_refused))), (a_h_kind, .inl (cI, (8, .inl p_h_kind))), (a_h_sweets, .inl (cI, (8, .inl p_h_sweets))), (a_h_gives, .inl (cI, (8, .inl p_h_gives))), (a_h_kept, .inl (cI, (90, .inl p_h_kept)))]
theorem d_M_run_0 : decode b_M_run 0 = .ok (.aload_n 0, 1) := by decide +kernel
theorem d_M_run_1 : decode b_M_run 1 = .ok (.iload_n 1, 1) := by decide +kernel
theorem d_M_run_2 : decode b_M_run 2 = .ok (.invokevirtual 168, 3) := by decide +kernel
theorem d_M_run_5 : decode b_M_run 5 = .ok (.ifCond .ne 9, 3) := by decide +kernel
theorem d_M_run_8 : decode b_M_run 8 = .ok (.aload_n 0, 1) := by decide +kernel
theorem d_M_run_9 : decode b_M_run 9 = .ok (.iconst (-1), 1) := by decide +kernel
theorem d_M_run_10 : decode b_M_run 10 = .ok (.invokevirtual 88, 3) := by decide +kernel
theorem d_M_run_13 : decode b_M_run 13 = .ok (.ireturn, 1) := by decide +kernel
theorem d_M_run_14 : decode b_M_run 14 = .ok (.iload_n 2, 1) := by decide +kernel
theorem d_M_run_15 : decode b_M_run 15 = .ok (.iconst 0, 1) := by decide +kernel
theorem d_M_run_16 : decode b_M_run 16 = .ok (.sipush 200, 3) := by decide +kernel
theorem d_M_run_19 : decode b_M_run 19 = .ok (.invokestatic 81, 3) := by decide +kernel
theorem d_M_run_22 : decode b_M_run 22 = .ok (.istore_n 3, 1) := by decide +kernel
theorem d_M_run_23 : decode b_M_run 23 = .ok (.iload_n 3, 1) := by decide +kernel
theorem d_M_run_24 : decode b_M_run 24 = .ok (.ifCond .eq 9, 3) := by decide +kernel
theorem d_M_run_27 : decode b_M_run 27 = .ok (.aload_n 0, 1) := by decide +kernel
theorem d_M_run_28 : decode b_M_run 28 = .ok (.iload_n 3, 1) := by decide +kernel
theorem d_M_run_29 : decode b_M_run 29 = .ok (.invokevirtual 88, 3) := by decide +kernel
theorem d_M_run_32 : decode b_M_run 32 = .ok (.ireturn, 1) := by decide +kernel
theorem d_M_run_33 : decode b_M_run 33 = .ok (.aload_n 0, 1) := by decide +kernel
theorem d_M_run_34 : decode b_M_run 34 = .ok (.iconst 1, 1) := by decide +kernel
theorem d_M_run_35 : decode b_M_run 35 = .ok (.iconst 1, 1) := by decide +kernel
theorem d_M_run_36 : decode b_M_run 36 = .ok (.invokevirtual 119, 3) := by decide +kernel
theorem d_M_run_39 : decode b_M_run 39 = .ok (.aload_n 0, 1) := by decide +kernel
theorem d_M_run_40 : decode b_M_run 40 = .ok (.iload_n 2, 1) := by decide +kernel
theorem d_M_run_41 : decode b_M_run 41 = .ok (.invokevirtual 179, 3) := by decide +kernel
theorem d_M_run_44 : decode b_M_run 44 = .ok (.pop, 1) := by decide +kernel
theorem d_M_run_45 : decode b_M_run 45 = .ok (.aload_n 0, 1) := by decide +kernel
theorem d_M_run_46 : decode b_M_run 46 = .ok (.getfield 16, 3) := by decide +kernel
theorem d_M_run_49 : decode b_M_run 49 = .ok (.iload_n 1, 1) := by decide +kernel
theorem d_M_run_50 : decode b_M_run 50 = .ok (.iaload, 1) := by decide +kernel
theorem d_M_run_51 : decode b_M_run 51 = .ok (.istore 4, 2) := by decide +kernel
theorem d_M_run_53 : decode b_M_run 53 = .ok (.aload_n 0, 1) := by decide +kernel
theorem d_M_run_54 : decode b_M_run 54 = .ok (.iconst 1, 1) := by decide +kernel
theorem d_M_run_55 : decode b_M_run 55 = .ok (.iconst 0, 1) := by decide +kernel
theorem d_M_run_56 : decode b_M_run 56 = .ok (.invokevirtual 119, 3) := by decide +kernel
theorem d_M_run_59 : decode b_M_run 59 = .ok (.iload 4, 2) := by decide +kernel
theorem d_M_run_61 : decode b_M_run 61 = .ok (.ireturn, 1) := by decide +kernel
set_option maxHeartbeats 4000000 in
set_option maxRecDepth 100000 in
theorem c_M_run {l : Launch} {D : va_G} {cI cJ cC : ClassId} (a_h a_h_refused a_h_kind a_h_sweets a_h_gives a_h_tape a_h_letter a_h_letterAt a_h_one a_h_two a_h_kept a_h_trail a_h_crumb a_h_nextCrumb a_h_goal a_h_start a_h_sits a_h_bestSits a_h_without a_h_row : Nat) (y_h_taped : Int32) (y_h_at : Int32) (y_h_statements : Int32) (y_h_hasImage : Int32) (y_h_beforeMany : Int32) (y_h_found : Int32) (y_h_lots : Int32) (y_h_rowMany : Int32) {z_h_T : MT} {z_h_refused : (Nat → Int32)} {x1 : Int32} {x2 : Int32} {q : Int32 × MT × (Nat → Int32)} (hf : f_M_run z_h_T z_h_refused x1 x2 = some q) : xI l y_M_run b_M_run 5 .int 4 89 D (tyK cI cJ cC) xE0 [.ref a_h, .int x1, .int x2] (w_M_run cI cJ cC a_h a_h_refused a_h_kind a_h_sweets a_h_gives a_h_tape a_h_letter a_h_letterAt a_h_one a_h_two a_h_kept a_h_trail a_h_crumb a_h_nextCrumb a_h_goal a_h_start a_h_sits a_h_bestSits a_h_without a_h_row y_h_taped y_h_at y_h_statements y_h_hasImage y_h_beforeMany y_h_found y_h_lots y_h_rowMany (m_many z_h_T) (m_odd z_h_T) (m_step z_h_T) (m_bag z_h_T) (m_strokes z_h_T) (m_gave z_h_T) (m_threw z_h_T) (m_isKeeping z_h_T) (m_cursor z_h_T) z_h_refused (m_kind z_h_T) (m_sweets z_h_T) (m_gives z_h_T) (m_kept z_h_T)) q.1 (w_M_run cI cJ cC a_h a_h_refused a_h_kind a_h_sweets a_h_gives a_h_tape a_h_letter a_h_letterAt a_h_one a_h_two a_h_kept a_h_trail a_h_crumb a_h_nextCrumb a_h_goal a_h_start a_h_sits a_h_bestSits a_h_without a_h_row y_h_taped y_h_at y_h_statements y_h_hasImage y_h_beforeMany y_h_found y_h_lots y_h_rowMany (m_many q.2.1) (m_odd q.2.1) (m_step q.2.1) (m_bag q.2.1) (m_strokes q.2.1) (m_gave q.2.1) (m_threw q.2.1) (m_isKeeping q.2.1) (m_cursor q.2.1) q.2.2 (m_kind q.2.1) (m_sweets q.2.1) (m_gives q.2.1) (m_kept q.2.1)) := by
  refine xI_of (by decide) (Nat.le_of_ble_eq_true rfl) ?_
  intro p e s m args below meth c A Q hx hb hml hown hT hA hP hD hK hS hE hret ls hl
  have hown : s.vm.findClass R_M = some m.cls := hown
  have hl : lv_has ls 5 [(0, .ref a_h), (1, .int x1), (2, .int x2)] := hl
  unfold f_M_run at hf
  refine lv_aload_n hx hb d_M_run_0 rfl (lv_at hl 0 rfl) ?_
  refine lv_iload_n hx hb d_M_run_1 rfl (lv_at hl 1 rfl) ?_
  obtain ⟨q1, hq1, hf⟩ := io_b hf
  refine xcVI (wc := (w_M_isChild cI cJ cC a_h a_h_refused a_h_kind a_h_sweets a_h_gives a_h_tape a_h_letter a_h_letterAt a_h_one a_h_two a_h_kept a_h_trail a_h_crumb a_h_nextCrumb a_h_goal a_h_start a_h_sits a_h_bestSits a_h_without a_h_row y_h_taped y_h_at y_h_statements y_h_hasImage y_h_beforeMany y_h_found y_h_lots y_h_rowMany (m_many z_h_T) (m_odd z_h_T) (m_step z_h_T) (m_bag z_h_T) (m_strokes z_h_T) (m_gave z_h_T) (m_threw z_h_T) (m_isKeeping z_h_T) (m_cursor z_h_T))) (wc' := (w_M_isChild cI cJ cC a_h a_h_refused a_h_kind a_h_sweets a_h_gives a_h_tape a_h_letter a_h_letterAt a_h_one a_h_two a_h_kept a_h_trail a_h_crumb a_h_nextCrumb a_h_goal a_h_start a_h_sits a_h_bestSits a_h_without a_h_row y_h_taped y_h_at y_h_statements y_h_hasImage y_h_beforeMany y_h_found y_h_lots y_h_rowMany (m_many z_h_T) (m_odd z_h_T) (m_step z_h_T) (m_bag z_h_T) (m_strokes z_h_T) (m_gave z_h_T) (m_threw z_h_T) (m_isKeeping z_h_T) (m_cursor z_h_T))) (ws' := (w_M_run cI cJ cC a_h a_h_refused a_h_kind a_h_sweets a_h_gives a_h_tape a_h_letter a_h_letterAt a_h_one a_h_two a_h_kept a_h_trail a_h_crumb a_h_nextCrumb a_h_goal a_h_start a_h_sits a_h_bestSits a_h_without a_h_row y_h_taped y_h_at y_h_statements y_h_hasImage y_h_beforeMany y_h_found y_h_lots y_h_rowMany (m_many z_h_T) (m_odd z_h_T) (m_step z_h_T) (m_bag z_h_T) (m_strokes z_h_T) (m_gave z_h_T) (m_threw z_h_T) (m_isKeeping z_h_T) (m_cursor z_h_T) z_h_refused (m_kind z_h_T) (m_sweets z_h_T) (m_gives z_h_T) (m_kept z_h_T))) (As := [.int x1]) (rest := []) hx hb hml hown hT (c_M_isChild (z_h_T := z_h_T) a_h a_h_refused a_h_kind a_h_sweets a_h_gives a_h_tape a_h_letter a_h_letterAt a_h_one a_h_two a_h_kept a_h_trail a_h_crumb a_h_nextCrumb a_h_goal a_h_start a_h_sits a_h_bestSits a_h_without a_h_row y_h_taped y_h_at y_h_statements y_h_hasImage y_h_beforeMany y_h_found y_h_lots y_h_rowMany hq1) k_924 k_926 ks_31 k_8 k_927 hd_M_isChild ⟨Nat.le_of_ble_eq_true rfl, Nat.le_of_ble_eq_true rfl⟩ xE0_ok trivial hA hK hP hD hS [0] [1, 2, 3, 4, 5] [5, 0, 1, 2, 3, 4] rfl rfl rfl rfl rfl rfl rfl rfl rfl rfl hl.1 rfl (Nat.le_of_ble_eq_true rfl) ⟨Nat.zero_le _, Nat.zero_le _⟩ d_M_run_2 (fun H locs hP hD hS => ?_)
  refine lv_if_ne (tgt := 14) hx hb d_M_run_5 (by decide) (fun c2 => ?_) (fun c2 => ?_)
  · have hf := io_f hf c2
    refine lv_iload_n hx hb d_M_run_14 rfl (lv_at hl 2 rfl) ?_
    refine lv_iconst (v := 0) hx hb d_M_run_15 (by decide) ?_
    refine lv_sipush (v := 200) hx hb d_M_run_16 (by decide) ?_
    obtain ⟨q3, hq3, hf⟩ := io_b hf
    refine xcSI (wc := []) (wc' := []) (ws' := (w_M_run cI cJ cC a_h a_h_refused a_h_kind a_h_sweets a_h_gives a_h_tape a_h_letter a_h_letterAt a_h_one a_h_two a_h_kept a_h_trail a_h_crumb a_h_nextCrumb a_h_goal a_h_start a_h_sits a_h_bestSits a_h_without a_h_row y_h_taped y_h_at y_h_statements y_h_hasImage y_h_beforeMany y_h_found y_h_lots y_h_rowMany (m_many z_h_T) (m_odd z_h_T) (m_step z_h_T) (m_bag z_h_T) (m_strokes z_h_T) (m_gave z_h_T) (m_threw z_h_T) (m_isKeeping z_h_T) (m_cursor z_h_T) z_h_refused (m_kind z_h_T) (m_sweets z_h_T) (m_gives z_h_T) (m_kept z_h_T))) (As := [.int x2, .int 0, .int 200]) (rest := []) hx hb hml hown hT (c_M_bound hq3) k_871 k_872 k_8 k_873 hd_M_bound ⟨Nat.le_of_ble_eq_true rfl, Nat.le_of_ble_eq_true rfl⟩ xE0_ok trivial hA hK hP hD hS [] [0, 1, 2, 3, 4, 5] [0, 1, 2, 3, 4, 5] rfl rfl rfl rfl rfl rfl rfl hl.1 rfl (Nat.le_of_ble_eq_true rfl) ⟨Nat.zero_le _, Nat.zero_le _⟩ d_M_run_19 (fun H locs hP hD hS => ?_)
    refine lv_istore_n (lv' := [(3, .int q3), (0, .ref a_h), (1, .int x1), (2, .int x2)]) hx hb d_M_run_22 rfl hl (by decide) rfl (fun ls hl => ?_)
    refine lv_iload_n hx hb d_M_run_23 rfl (lv_at hl 0 rfl) ?_
    refine lv_if_eq (tgt := 33) hx hb d_M_run_24 (by decide) (fun c4 => ?_) (fun c4 => ?_)
    · have hf := io_t hf c4
      refine lv_aload_n hx hb d_M_run_33 rfl (lv_at hl 1 rfl) ?_
      refine lv_iconst (v := 1) hx hb d_M_run_34 (by decide) ?_
      refine lv_iconst (v := 1) hx hb d_M_run_35 (by decide) ?_
      obtain ⟨q5, hq5, hf⟩ := io_b hf
      refine xcVV (wc := (w_M_passesAll cI cJ cC a_h a_h_refused a_h_kind a_h_sweets a_h_gives a_h_tape a_h_letter a_h_letterAt a_h_one a_h_two a_h_kept a_h_trail a_h_crumb a_h_nextCrumb a_h_goal a_h_start a_h_sits a_h_bestSits a_h_without a_h_row y_h_taped y_h_at y_h_statements y_h_hasImage y_h_beforeMany y_h_found y_h_lots y_h_rowMany (m_many z_h_T) (m_odd z_h_T) (m_step z_h_T) (m_bag z_h_T) (m_strokes z_h_T) (m_gave z_h_T) (m_threw z_h_T) (m_isKeeping z_h_T) (m_cursor z_h_T) (m_kind z_h_T) (m_sweets z_h_T) (m_gives z_h_T) (m_kept z_h_T))) (wc' := (w_M_passesAll cI cJ cC a_h a_h_refused a_h_kind a_h_sweets a_h_gives a_h_tape a_h_letter a_h_letterAt a_h_one a_h_two a_h_kept a_h_trail a_h_crumb a_h_nextCrumb a_h_goal a_h_start a_h_sits a_h_bestSits a_h_without a_h_row y_h_taped y_h_at y_h_statements y_h_hasImage y_h_beforeMany y_h_found y_h_lots y_h_rowMany (m_many q5) (m_odd q5) (m_step q5) (m_bag q5) (m_strokes q5) (m_gave q5) (m_threw q5) (m_isKeeping q5) (m_cursor q5) (m_kind q5) (m_sweets q5) (m_gives q5) (m_kept q5))) (ws' := (w_M_run cI cJ cC a_h a_h_refused a_h_kind a_h_sweets a_h_gives a_h_tape a_h_letter a_h_letterAt a_h_one a_h_two a_h_kept a_h_trail a_h_crumb a_h_nextCrumb a_h_goal a_h_start a_h_sits a_h_bestSits a_h_without a_h_row y_h_taped y_h_at y_h_statements y_h_hasImage y_h_beforeMany y_h_found y_h_lots y_h_rowMany (m_many q5) (m_odd q5) (m_step q5) (m_bag q5) (m_strokes q5) (m_gave q5) (m_threw q5) (m_isKeeping q5) (m_cursor q5) z_h_refused (m_kind q5) (m_sweets q5) (m_gives q5) (m_kept q5))) (As := [.int 1, .int 1]) (rest := []) hx hb hml hown hT (c_M_passesAll (z_h_T := z_h_T) a_h a_h_refused a_h_kind a_h_sweets a_h_gives a_h_tape a_h_letter a_h_letterAt a_h_one a_h_two a_h_kept a_h_trail a_h_crumb a_h_nextCrumb a_h_goal a_h_start a_h_sits a_h_bestSits a_h_without a_h_row y_h_taped y_h_at y_h_statements y_h_hasImage y_h_beforeMany y_h_found y_h_lots y_h_rowMany hq5) k_900 k_902 ks_28 k_8 k_903 hd_M_passesAll ⟨Nat.le_of_ble_eq_true rfl, Nat.le_of_ble_eq_true rfl⟩ xE0_ok trivial hA hK hP hD hS [0, 2, 3, 4, 5] [1] [1, 0, 2, 3, 4, 5] rfl rfl rfl rfl rfl rfl rfl rfl rfl rfl hl.1 rfl (Nat.le_of_ble_eq_true rfl) ⟨Nat.zero_le _, Nat.zero_le _⟩ d_M_run_36 (fun H locs hP hD hS => ?_)
      refine lv_aload_n hx hb d_M_run_39 rfl (lv_at hl 1 rfl) ?_
      refine lv_iload_n hx hb d_M_run_40 rfl (lv_at hl 3 rfl) ?_
      obtain ⟨q6, hq6, hf⟩ := io_b hf
      refine xcVI (wc := (w_M_goes cI cJ cC a_h a_h_refused a_h_kind a_h_sweets a_h_gives a_h_tape a_h_letter a_h_letterAt a_h_one a_h_two a_h_kept a_h_trail a_h_crumb a_h_nextCrumb a_h_goal a_h_start a_h_sits a_h_bestSits a_h_without a_h_row y_h_taped y_h_at y_h_statements y_h_hasImage y_h_beforeMany y_h_found y_h_lots y_h_rowMany (m_many q5) (m_odd q5) (m_step q5) (m_bag q5) (m_strokes q5) (m_gave q5) (m_threw q5) (m_isKeeping q5) (m_cursor q5) (m_kind q5) (m_sweets q5) (m_gives q5) (m_kept q5))) (wc' := (w_M_goes cI cJ cC a_h a_h_refused a_h_kind a_h_sweets a_h_gives a_h_tape a_h_letter a_h_letterAt a_h_one a_h_two a_h_kept a_h_trail a_h_crumb a_h_nextCrumb a_h_goal a_h_start a_h_sits a_h_bestSits a_h_without a_h_row y_h_taped y_h_at y_h_statements y_h_hasImage y_h_beforeMany y_h_found y_h_lots y_h_rowMany (m_many q6.2) (m_odd q6.2) (m_step q6.2) (m_bag q6.2) (m_strokes q6.2) (m_gave q6.2) (m_threw q6.2) (m_isKeeping q6.2) (m_cursor q6.2) (m_kind q6.2) (m_sweets q6.2) (m_gives q6.2) (m_kept q6.2))) (ws' := (w_M_run cI cJ cC a_h a_h_refused a_h_kind a_h_sweets a_h_gives a_h_tape a_h_letter a_h_letterAt a_h_one a_h_two a_h_kept a_h_trail a_h_crumb a_h_nextCrumb a_h_goal a_h_start a_h_sits a_h_bestSits a_h_without a_h_row y_h_taped y_h_at y_h_statements y_h_hasImage y_h_beforeMany y_h_found y_h_lots y_h_rowMany (m_many q6.2) (m_odd q6.2) (m_step q6.2) (m_bag q6.2) (m_strokes q6.2) (m_gave q6.2) (m_threw q6.2) (m_isKeeping q6.2) (m_cursor q6.2) z_h_refused (m_kind q6.2) (m_sweets q6.2) (m_gives q6.2) (m_kept q6.2))) (As := [.int x2]) (rest := []) hx hb hml hown hT (c_M_goes (z_h_T := q5) a_h a_h_refused a_h_kind a_h_sweets a_h_gives a_h_tape a_h_letter a_h_letterAt a_h_one a_h_two a_h_kept a_h_trail a_h_crumb a_h_nextCrumb a_h_goal a_h_start a_h_sits a_h_bestSits a_h_without a_h_row y_h_taped y_h_at y_h_statements y_h_hasImage y_h_beforeMany y_h_found y_h_lots y_h_rowMany hq6) k_964 k_966 ks_36 k_8 k_967 hd_M_goes ⟨Nat.le_of_ble_eq_true rfl, Nat.le_of_ble_eq_true rfl⟩ xE0_ok trivial hA hK hP hD hS [0, 2, 3, 4, 5] [1] [1, 0, 2, 3, 4, 5] rfl rfl rfl rfl rfl rfl rfl rfl rfl rfl hl.1 rfl (Nat.le_of_ble_eq_true rfl) ⟨Nat.zero_le _, Nat.zero_le _⟩ d_M_run_41 (fun H locs hP hD hS => ?_)
      refine lv_pop hx hb d_M_run_44 rfl ?_
      refine lv_aload_n hx hb d_M_run_45 rfl (lv_at hl 1 rfl) ?_
      refine va_get hx hb hT i_M hown hK hP 0 rfl rfl 2 (Nat.le_of_ble_eq_true rfl) (hT _ k_760) (fun _ h => h) rfl d_M_run_46 ?_
      refine lv_iload_n hx hb d_M_run_49 rfl (lv_at hl 2 rfl) ?_
      obtain ⟨c7, hf⟩ := io_n hf
      refine x_iald hx hb hK hP 3 0 rfl rfl (j := x1.toNatClampNeg) rfl c7 d_M_run_50 ?_
      refine lv_istore (lv' := [(4, .int ((m_sweets q6.2) x1.toNatClampNeg)), (3, .int q3), (0, .ref a_h), (1, .int x1), (2, .int x2)]) hx hb d_M_run_51 hl (by decide) rfl (fun ls hl => ?_)
      refine lv_aload_n hx hb d_M_run_53 rfl (lv_at hl 2 rfl) ?_
      refine lv_iconst (v := 1) hx hb d_M_run_54 (by decide) ?_
      refine lv_iconst (v := 0) hx hb d_M_run_55 (by decide) ?_
      obtain ⟨q8, hq8, hf⟩ := io_b hf
      refine xcVV (wc := (w_M_passesAll cI cJ cC a_h a_h_refused a_h_kind a_h_sweets a_h_gives a_h_tape a_h_letter a_h_letterAt a_h_one a_h_two a_h_kept a_h_trail a_h_crumb a_h_nextCrumb a_h_goal a_h_start a_h_sits a_h_bestSits a_h_without a_h_row y_h_taped y_h_at y_h_statements y_h_hasImage y_h_beforeMany y_h_found y_h_lots y_h_rowMany (m_many q6.2) (m_odd q6.2) (m_step q6.2) (m_bag q6.2) (m_strokes q6.2) (m_gave q6.2) (m_threw q6.2) (m_isKeeping q6.2) (m_cursor q6.2) (m_kind q6.2) (m_sweets q6.2) (m_gives q6.2) (m_kept q6.2))) (wc' := (w_M_passesAll cI cJ cC a_h a_h_refused a_h_kind a_h_sweets a_h_gives a_h_tape a_h_letter a_h_letterAt a_h_one a_h_two a_h_kept a_h_trail a_h_crumb a_h_nextCrumb a_h_goal a_h_start a_h_sits a_h_bestSits a_h_without a_h_row y_h_taped y_h_at y_h_statements y_h_hasImage y_h_beforeMany y_h_found y_h_lots y_h_rowMany (m_many q8) (m_odd q8) (m_step q8) (m_bag q8) (m_strokes q8) (m_gave q8) (m_threw q8) (m_isKeeping q8) (m_cursor q8) (m_kind q8) (m_sweets q8) (m_gives q8) (m_kept q8))) (ws' := (w_M_run cI cJ cC a_h a_h_refused a_h_kind a_h_sweets a_h_gives a_h_tape a_h_letter a_h_letterAt a_h_one a_h_two a_h_kept a_h_trail a_h_crumb a_h_nextCrumb a_h_goal a_h_start a_h_sits a_h_bestSits a_h_without a_h_row y_h_taped y_h_at y_h_statements y_h_hasImage y_h_beforeMany y_h_found y_h_lots y_h_rowMany (m_many q8) (m_odd q8) (m_step q8) (m_bag q8) (m_strokes q8) (m_gave q8) (m_threw q8) (m_isKeeping q8) (m_cursor q8) z_h_refused (m_kind q8) (m_sweets q8) (m_gives q8) (m_kept q8))) (As := [.int 1, .int 0]) (rest := []) hx hb hml hown hT (c_M_passesAll (z_h_T := q6.2) a_h a_h_refused a_h_kind a_h_sweets a_h_gives a_h_tape a_h_letter a_h_letterAt a_h_one a_h_two a_h_kept a_h_trail a_h_crumb a_h_nextCrumb a_h_goal a_h_start a_h_sits a_h_bestSits a_h_without a_h_row y_h_taped y_h_at y_h_statements y_h_hasImage y_h_beforeMany y_h_found y_h_lots y_h_rowMany hq8) k_900 k_902 ks_28 k_8 k_903 hd_M_passesAll ⟨Nat.le_of_ble_eq_true rfl, Nat.le_of_ble_eq_true rfl⟩ xE0_ok trivial hA hK hP hD hS [0, 2, 3, 4, 5] [1] [1, 0, 2, 3, 4, 5] rfl rfl rfl rfl rfl rfl rfl rfl rfl rfl hl.1 rfl (Nat.le_of_ble_eq_true rfl) ⟨Nat.zero_le _, Nat.zero_le _⟩ d_M_run_56 (fun H locs hP hD hS => ?_)
      refine lv_iload hx hb d_M_run_59 (lv_at hl 0 rfl) ?_
      have hq := Option.some.inj hf
      subst hq
      exact hret _ _ _ _ _ d_M_run_61 rfl rfl hP hD hS
    · have hf := io_f hf c4
      refine lv_aload_n hx hb d_M_run_27 rfl (lv_at hl 1 rfl) ?_
      refine lv_iload_n hx hb d_M_run_28 rfl (lv_at hl 0 rfl) ?_
      obtain ⟨q9, hq9, hf⟩ := io_b hf
      refine xcVI (wc := (w_M_no cI cJ cC a_h a_h_refused a_h_kind a_h_sweets a_h_gives a_h_tape a_h_letter a_h_letterAt a_h_one a_h_two a_h_kept a_h_trail a_h_crumb a_h_nextCrumb a_h_goal a_h_start a_h_sits a_h_bestSits a_h_without a_h_row (m_many z_h_T) (m_odd z_h_T) (m_step z_h_T) (m_bag z_h_T) (m_strokes z_h_T) (m_gave z_h_T) (m_threw z_h_T) y_h_taped y_h_at y_h_statements y_h_hasImage (m_isKeeping z_h_T) (m_cursor z_h_T) y_h_beforeMany y_h_found y_h_lots y_h_rowMany z_h_refused)) (wc' := (w_M_no cI cJ cC a_h a_h_refused a_h_kind a_h_sweets a_h_gives a_h_tape a_h_letter a_h_letterAt a_h_one a_h_two a_h_kept a_h_trail a_h_crumb a_h_nextCrumb a_h_goal a_h_start a_h_sits a_h_bestSits a_h_without a_h_row (m_many z_h_T) (m_odd z_h_T) (m_step z_h_T) (m_bag z_h_T) (m_strokes z_h_T) (m_gave z_h_T) (m_threw z_h_T) y_h_taped y_h_at y_h_statements y_h_hasImage (m_isKeeping z_h_T) (m_cursor z_h_T) y_h_beforeMany y_h_found y_h_lots y_h_rowMany q9.2)) (ws' := (w_M_run cI cJ cC a_h a_h_refused a_h_kind a_h_sweets a_h_gives a_h_tape a_h_letter a_h_letterAt a_h_one a_h_two a_h_kept a_h_trail a_h_crumb a_h_nextCrumb a_h_goal a_h_start a_h_sits a_h_bestSits a_h_without a_h_row y_h_taped y_h_at y_h_statements y_h_hasImage y_h_beforeMany y_h_found y_h_lots y_h_rowMany (m_many z_h_T) (m_odd z_h_T) (m_step z_h_T) (m_bag z_h_T) (m_strokes z_h_T) (m_gave z_h_T) (m_threw z_h_T) (m_isKeeping z_h_T) (m_cursor z_h_T) q9.2 (m_kind z_h_T) (m_sweets z_h_T) (m_gives z_h_T) (m_kept z_h_T))) (As := [.int q3]) (rest := []) hx hb hml hown hT (c_M_no (z_h_refused := z_h_refused) a_h a_h_refused a_h_kind a_h_sweets a_h_gives a_h_tape a_h_letter a_h_letterAt a_h_one a_h_two a_h_kept a_h_trail a_h_crumb a_h_nextCrumb a_h_goal a_h_start a_h_sits a_h_bestSits a_h_without a_h_row (m_many z_h_T) (m_odd z_h_T) (m_step z_h_T) (m_bag z_h_T) (m_strokes z_h_T) (m_gave z_h_T) (m_threw z_h_T) y_h_taped y_h_at y_h_statements y_h_hasImage (m_isKeeping z_h_T) (m_cursor z_h_T) y_h_beforeMany y_h_found y_h_lots y_h_rowMany hq9) k_874 k_876 ks_24 k_8 k_877 hd_M_no ⟨Nat.le_of_ble_eq_true rfl, Nat.le_of_ble_eq_true rfl⟩ xE0_ok trivial hA hK hP hD hS [0, 1] [2, 3, 4, 5] [4, 5, 0, 1, 2, 3] rfl rfl rfl rfl rfl rfl rfl rfl rfl rfl hl.1 rfl (Nat.le_of_ble_eq_true rfl) ⟨Nat.zero_le _, Nat.zero_le _⟩ d_M_run_29 (fun H locs hP hD hS => ?_)
      have hq := Option.some.inj hf
      subst hq
      exact hret _ _ _ _ _ d_M_run_32 rfl rfl hP hD hS
  · have hf := io_t hf c2
    refine lv_aload_n hx hb d_M_run_8 rfl (lv_at hl 0 rfl) ?_
    refine lv_iconst (v := (-1)) hx hb d_M_run_9 (by decide) ?_
    obtain ⟨q10, hq10, hf⟩ := io_b hf
    refine xcVI (wc := (w_M_no cI cJ cC a_h a_h_refused a_h_kind a_h_sweets a_h_gives a_h_tape a_h_letter a_h_letterAt a_h_one a_h_two a_h_kept a_h_trail a_h_crumb a_h_nextCrumb a_h_goal a_h_start a_h_sits a_h_bestSits a_h_without a_h_row (m_many z_h_T) (m_odd z_h_T) (m_step z_h_T) (m_bag z_h_T) (m_strokes z_h_T) (m_gave z_h_T) (m_threw z_h_T) y_h_taped y_h_at y_h_statements y_h_hasImage (m_isKeeping z_h_T) (m_cursor z_h_T) y_h_beforeMany y_h_found y_h_lots y_h_rowMany z_h_refused)) (wc' := (w_M_no cI cJ cC a_h a_h_refused a_h_kind a_h_sweets a_h_gives a_h_tape a_h_letter a_h_letterAt a_h_one a_h_two a_h_kept a_h_trail a_h_crumb a_h_nextCrumb a_h_goal a_h_start a_h_sits a_h_bestSits a_h_without a_h_row (m_many z_h_T) (m_odd z_h_T) (m_step z_h_T) (m_bag z_h_T) (m_strokes z_h_T) (m_gave z_h_T) (m_threw z_h_T) y_h_taped y_h_at y_h_statements y_h_hasImage (m_isKeeping z_h_T) (m_cursor z_h_T) y_h_beforeMany y_h_found y_h_lots y_h_rowMany q10.2)) (ws' := (w_M_run cI cJ cC a_h a_h_refused a_h_kind a_h_sweets a_h_gives a_h_tape a_h_letter a_h_letterAt a_h_one a_h_two a_h_kept a_h_trail a_h_crumb a_h_nextCrumb a_h_goal a_h_start a_h_sits a_h_bestSits a_h_without a_h_row y_h_taped y_h_at y_h_statements y_h_hasImage y_h_beforeMany y_h_found y_h_lots y_h_rowMany (m_many z_h_T) (m_odd z_h_T) (m_step z_h_T) (m_bag z_h_T) (m_strokes z_h_T) (m_gave z_h_T) (m_threw z_h_T) (m_isKeeping z_h_T) (m_cursor z_h_T) q10.2 (m_kind z_h_T) (m_sweets z_h_T) (m_gives z_h_T) (m_kept z_h_T))) (As := [.int (-1)]) (rest := []) hx hb hml hown hT (c_M_no (z_h_refused := z_h_refused) a_h a_h_refused a_h_kind a_h_sweets a_h_gives a_h_tape a_h_letter a_h_letterAt a_h_one a_h_two a_h_kept a_h_trail a_h_crumb a_h_nextCrumb a_h_goal a_h_start a_h_sits a_h_bestSits a_h_without a_h_row (m_many z_h_T) (m_odd z_h_T) (m_step z_h_T) (m_bag z_h_T) (m_strokes z_h_T) (m_gave z_h_T) (m_threw z_h_T) y_h_taped y_h_at y_h_statements y_h_hasImage (m_isKeeping z_h_T) (m_cursor z_h_T) y_h_beforeMany y_h_found y_h_lots y_h_rowMany hq10) k_874 k_876 ks_24 k_8 k_877 hd_M_no ⟨Nat.le_of_ble_eq_true rfl, Nat.le_of_ble_eq_true rfl⟩ xE0_ok trivial hA hK hP hD hS [0, 1] [2, 3, 4, 5] [4, 5, 0, 1, 2, 3] rfl rfl rfl rfl rfl rfl rfl rfl rfl rfl hl.1 rfl (Nat.le_of_ble_eq_true rfl) ⟨Nat.zero_le _, Nat.zero_le _⟩ d_M_run_10 (fun H locs hP hD hS => ?_)
    have hq := Option.some.inj hf
    subst hq
    exact hret _ _ _ _ _ d_M_run_13 rfl rfl hP hD hS
abbrev w_M_given (cI cJ cC : ClassId) (a_h a_h_refused a_h_kind a_h_sweets a_h_gives a_h_tape a_h_letter a_h_letterAt a_h_one a_h_two a_h_kept a_h_trail a_h_crumb a_h_nextCrumb a_h_goal a_h_start a_h_sits a_h_bestSits a_h_without a_h_row : Nat) (y_h_taped : Int32) (y_h_at : Int32) (y_h_statements : Int32) (y_h_hasImage : Int32) (y_h_beforeMany : Int32) (y_h_found : Int32) (y_h_lots : Int32) (y_h_rowMany : Int32) (p_h_many : Int32) (p_h_odd : Int32) (p_h_step : Int32) (p_h_bag : Int32) (p_h_strokes : Int32) (p_h_gave : Int32) (p_h_threw : Int32) (p_h_isKeeping : Int32) (p_h_cursor : Int32) (p_h_refused : (Nat → Int32)) (p_h_kind : (Nat → Int32)) (p_h_sweets : (Nat → Int32)) (p_h_gives : (Nat → Int32)) (p_h_kept : (Nat → Int32)) : va_W := [(a_h, .inr (7, [.ref a_h_refused, .ref a_h_kind, .ref a_h_sweets, .ref a_h_gives, .int p_h_many, .int p_h_odd, .int p_h_step, .int p_h_bag, .int p_h_strokes, .int p_h_gave, .int p_h_threw, .ref a_h_tape, .ref a_h_letter, .ref a_h_letterAt, .ref a_h_one, .ref a_h_two, .int y_h_taped, .int y_h_at, .int y_h_statements, .ref a_h_kept, .int y_h_hasImage, .int p_h_isKeeping, .int p_h_cursor, .ref a_h_trail, .ref a_h_crumb, .ref a_h_nextCrumb, .ref a_h_goal, .ref a_h_start, .int y_h_beforeMany, .int y_h_found, .ref a_h_sits, .ref a_h_bestSits, .ref a_h_without, .int y_h_lots, .ref a_h_row, .int y_h_rowMany])), (a_h_refused, .inl (cI, (7, .inl p_h_refused))), (a_h_kind, .inl (cI, (8, .inl p_h_kind))), (a_h_sweets, .inl (cI, (8, .inl p_h_sweets))), (a_h_gives, .inl (cI, (8, .inl p_h_gives))), (a_h_kept, .inl (cI, (90, .inl p_h_kept)))]
theorem d_M_given_0 : decode b_M_given 0 = .ok (.iload_n 2, 1) := by decide +kernel
theorem d_M_given_1 : decode b_M_given 1 = .ok (.iconst 0, 1) := by decide +kernel
theorem d_M_given_2 : decode b_M_given 2 = .ok (.iconst 1, 1) := by decide +kernel
theorem d_M_given_3 : decode b_M_given 3 = .ok (.invokestatic 99, 3) := by decide +kernel
theorem d_M_given_6 : decode b_M_given 6 = .ok (.ifCond .ne 10, 3) := by decide +kernel
theorem d_M_given_9 : decode b_M_given 9 = .ok (.aload_n 0, 1) := by decide +kernel
theorem d_M_given_10 : decode b_M_given 10 = .ok (.bipush (-2), 2) := by decide +kernel
theorem d_M_given_12 : decode b_M_given 12 = .ok (.invokevirtual 88, 3) := by decide +kernel
theorem d_M_given_15 : decode b_M_given 15 = .ok (.ireturn, 1) := by decide +kernel
theorem d_M_given_16 : decode b_M_given 16 = .ok (.iload_n 1, 1) := by decide +kernel
theorem d_M_given_17 : decode b_M_given 17 = .ok (.iconst 0, 1) := by decide +kernel
theorem d_M_given_18 : decode b_M_given 18 = .ok (.sipush 200, 3) := by decide +kernel
theorem d_M_given_21 : decode b_M_given 21 = .ok (.invokestatic 81, 3) := by decide +kernel
theorem d_M_given_24 : decode b_M_given 24 = .ok (.istore_n 3, 1) := by decide +kernel
theorem d_M_given_25 : decode b_M_given 25 = .ok (.iload_n 3, 1) := by decide +kernel
theorem d_M_given_26 : decode b_M_given 26 = .ok (.ifCond .eq 9, 3) := by decide +kernel
theorem d_M_given_29 : decode b_M_given 29 = .ok (.aload_n 0, 1) := by decide +kernel
theorem d_M_given_30 : decode b_M_given 30 = .ok (.iload_n 3, 1) := by decide +kernel
theorem d_M_given_31 : decode b_M_given 31 = .ok (.invokevirtual 88, 3) := by decide +kernel
theorem d_M_given_34 : decode b_M_given 34 = .ok (.ireturn, 1) := by decide +kernel
theorem d_M_given_35 : decode b_M_given 35 = .ok (.aload_n 0, 1) := by decide +kernel
theorem d_M_given_36 : decode b_M_given 36 = .ok (.iconst 1, 1) := by decide +kernel
theorem d_M_given_37 : decode b_M_given 37 = .ok (.iconst 1, 1) := by decide +kernel
theorem d_M_given_38 : decode b_M_given 38 = .ok (.invokevirtual 119, 3) := by decide +kernel
theorem d_M_given_41 : decode b_M_given 41 = .ok (.aload_n 0, 1) := by decide +kernel
theorem d_M_given_42 : decode b_M_given 42 = .ok (.getfield 143, 3) := by decide +kernel
theorem d_M_given_45 : decode b_M_given 45 = .ok (.istore 4, 2) := by decide +kernel
theorem d_M_given_47 : decode b_M_given 47 = .ok (.aload_n 0, 1) := by decide +kernel
theorem d_M_given_48 : decode b_M_given 48 = .ok (.iload_n 1, 1) := by decide +kernel
theorem d_M_given_49 : decode b_M_given 49 = .ok (.invokevirtual 179, 3) := by decide +kernel
theorem d_M_given_52 : decode b_M_given 52 = .ok (.istore 5, 2) := by decide +kernel
theorem d_M_given_54 : decode b_M_given 54 = .ok (.iload_n 2, 1) := by decide +kernel
theorem d_M_given_55 : decode b_M_given 55 = .ok (.iconst 1, 1) := by decide +kernel
theorem d_M_given_56 : decode b_M_given 56 = .ok (.if_icmp .ne 12, 3) := by decide +kernel
theorem d_M_given_59 : decode b_M_given 59 = .ok (.aload_n 0, 1) := by decide +kernel
theorem d_M_given_60 : decode b_M_given 60 = .ok (.getfield 143, 3) := by decide +kernel
theorem d_M_given_63 : decode b_M_given 63 = .ok (.iload 4, 2) := by decide +kernel
theorem d_M_given_65 : decode b_M_given 65 = .ok (.isub, 1) := by decide +kernel
theorem d_M_given_66 : decode b_M_given 66 = .ok (.istore 5, 2) := by decide +kernel
theorem d_M_given_68 : decode b_M_given 68 = .ok (.aload_n 0, 1) := by decide +kernel
theorem d_M_given_69 : decode b_M_given 69 = .ok (.iconst 1, 1) := by decide +kernel
theorem d_M_given_70 : decode b_M_given 70 = .ok (.iconst 0, 1) := by decide +kernel
theorem d_M_given_71 : decode b_M_given 71 = .ok (.invokevirtual 119, 3) := by decide +kernel
theorem d_M_given_74 : decode b_M_given 74 = .ok (.iload 5, 2) := by decide +kernel
theorem d_M_given_76 : decode b_M_given 76 = .ok (.ireturn, 1) := by decide +kernel
set_option maxHeartbeats 4000000 in
set_option maxRecDepth 100000 in
theorem c_M_given {l : Launch} {D : va_G} {cI cJ cC : ClassId} (a_h a_h_refused a_h_kind a_h_sweets a_h_gives a_h_tape a_h_letter a_h_letterAt a_h_one a_h_two a_h_kept a_h_trail a_h_crumb a_h_nextCrumb a_h_goal a_h_start a_h_sits a_h_bestSits a_h_without a_h_row : Nat) (y_h_taped : Int32) (y_h_at : Int32) (y_h_statements : Int32) (y_h_hasImage : Int32) (y_h_beforeMany : Int32) (y_h_found : Int32) (y_h_lots : Int32) (y_h_rowMany : Int32) {z_h_T : MT} {z_h_refused : (Nat → Int32)} {x1 : Int32} {x2 : Int32} {q : Int32 × MT × (Nat → Int32)} (hf : f_M_given z_h_T z_h_refused x1 x2 = some q) : xI l y_M_given b_M_given 6 .int 4 89 D (tyK cI cJ cC) xE0 [.ref a_h, .int x1, .int x2] (w_M_given cI cJ cC a_h a_h_refused a_h_kind a_h_sweets a_h_gives a_h_tape a_h_letter a_h_letterAt a_h_one a_h_two a_h_kept a_h_trail a_h_crumb a_h_nextCrumb a_h_goal a_h_start a_h_sits a_h_bestSits a_h_without a_h_row y_h_taped y_h_at y_h_statements y_h_hasImage y_h_beforeMany y_h_found y_h_lots y_h_rowMany (m_many z_h_T) (m_odd z_h_T) (m_step z_h_T) (m_bag z_h_T) (m_strokes z_h_T) (m_gave z_h_T) (m_threw z_h_T) (m_isKeeping z_h_T) (m_cursor z_h_T) z_h_refused (m_kind z_h_T) (m_sweets z_h_T) (m_gives z_h_T) (m_kept z_h_T)) q.1 (w_M_given cI cJ cC a_h a_h_refused a_h_kind a_h_sweets a_h_gives a_h_tape a_h_letter a_h_letterAt a_h_one a_h_two a_h_kept a_h_trail a_h_crumb a_h_nextCrumb a_h_goal a_h_start a_h_sits a_h_bestSits a_h_without a_h_row y_h_taped y_h_at y_h_statements y_h_hasImage y_h_beforeMany y_h_found y_h_lots y_h_rowMany (m_many q.2.1) (m_odd q.2.1) (m_step q.2.1) (m_bag q.2.1) (m_strokes q.2.1) (m_gave q.2.1) (m_threw q.2.1) (m_isKeeping q.2.1) (m_cursor q.2.1) q.2.2 (m_kind q.2.1) (m_sweets q.2.1) (m_gives q.2.1) (m_kept q.2.1)) := by
  refine xI_of (by decide) (Nat.le_of_ble_eq_true rfl) ?_
  intro p e s m args below meth c A Q hx hb hml hown hT hA hP hD hK hS hE hret ls hl
  have hown : s.vm.findClass R_M = some m.cls := hown
  have hl : lv_has ls 6 [(0, .ref a_h), (1, .int x1), (2, .int x2)] := hl
  unfold f_M_given at hf
  refine lv_iload_n hx hb d_M_given_0 rfl (lv_at hl 2 rfl) ?_
  refine lv_iconst (v := 0) hx hb d_M_given_1 (by decide) ?_
  refine lv_iconst (v := 1) hx hb d_M_given_2 (by decide) ?_
  obtain ⟨q1, hq1, hf⟩ := io_b hf
  refine xcSI (wc := []) (wc' := []) (ws' := (w_M_given cI cJ cC a_h a_h_refused a_h_kind a_h_sweets a_h_gives a_h_tape a_h_letter a_h_letterAt a_h_one a_h_two a_h_kept a_h_trail a_h_crumb a_h_nextCrumb a_h_goal a_h_start a_h_sits a_h_bestSits a_h_without a_h_row y_h_taped y_h_at y_h_statements y_h_hasImage y_h_beforeMany y_h_found y_h_lots y_h_rowMany (m_many z_h_T) (m_odd z_h_T) (m_step z_h_T) (m_bag z_h_T) (m_strokes z_h_T) (m_gave z_h_T) (m_threw z_h_T) (m_isKeeping z_h_T) (m_cursor z_h_T) z_h_refused (m_kind z_h_T) (m_sweets z_h_T) (m_gives z_h_T) (m_kept z_h_T))) (As := [.int x2, .int 0, .int 1]) (rest := []) hx hb hml hown hT (c_M_isIn hq1) k_897 k_898 k_8 k_899 hd_M_isIn ⟨Nat.le_of_ble_eq_true rfl, Nat.le_of_ble_eq_true rfl⟩ xE0_ok trivial hA hK hP hD hS [] [0, 1, 2, 3, 4, 5] [0, 1, 2, 3, 4, 5] rfl rfl rfl rfl rfl rfl rfl hl.1 rfl (Nat.le_of_ble_eq_true rfl) ⟨Nat.zero_le _, Nat.zero_le _⟩ d_M_given_3 (fun H locs hP hD hS => ?_)
  refine lv_if_ne (tgt := 16) hx hb d_M_given_6 (by decide) (fun c2 => ?_) (fun c2 => ?_)
  · have hf := io_f hf c2
    refine lv_iload_n hx hb d_M_given_16 rfl (lv_at hl 1 rfl) ?_
    refine lv_iconst (v := 0) hx hb d_M_given_17 (by decide) ?_
    refine lv_sipush (v := 200) hx hb d_M_given_18 (by decide) ?_
    obtain ⟨q3, hq3, hf⟩ := io_b hf
    refine xcSI (wc := []) (wc' := []) (ws' := (w_M_given cI cJ cC a_h a_h_refused a_h_kind a_h_sweets a_h_gives a_h_tape a_h_letter a_h_letterAt a_h_one a_h_two a_h_kept a_h_trail a_h_crumb a_h_nextCrumb a_h_goal a_h_start a_h_sits a_h_bestSits a_h_without a_h_row y_h_taped y_h_at y_h_statements y_h_hasImage y_h_beforeMany y_h_found y_h_lots y_h_rowMany (m_many z_h_T) (m_odd z_h_T) (m_step z_h_T) (m_bag z_h_T) (m_strokes z_h_T) (m_gave z_h_T) (m_threw z_h_T) (m_isKeeping z_h_T) (m_cursor z_h_T) z_h_refused (m_kind z_h_T) (m_sweets z_h_T) (m_gives z_h_T) (m_kept z_h_T))) (As := [.int x1, .int 0, .int 200]) (rest := []) hx hb hml hown hT (c_M_bound hq3) k_871 k_872 k_8 k_873 hd_M_bound ⟨Nat.le_of_ble_eq_true rfl, Nat.le_of_ble_eq_true rfl⟩ xE0_ok trivial hA hK hP hD hS [] [0, 1, 2, 3, 4, 5] [0, 1, 2, 3, 4, 5] rfl rfl rfl rfl rfl rfl rfl hl.1 rfl (Nat.le_of_ble_eq_true rfl) ⟨Nat.zero_le _, Nat.zero_le _⟩ d_M_given_21 (fun H locs hP hD hS => ?_)
    refine lv_istore_n (lv' := [(3, .int q3), (0, .ref a_h), (1, .int x1), (2, .int x2)]) hx hb d_M_given_24 rfl hl (by decide) rfl (fun ls hl => ?_)
    refine lv_iload_n hx hb d_M_given_25 rfl (lv_at hl 0 rfl) ?_
    refine lv_if_eq (tgt := 35) hx hb d_M_given_26 (by decide) (fun c4 => ?_) (fun c4 => ?_)
    · have hf := io_t hf c4
      refine lv_aload_n hx hb d_M_given_35 rfl (lv_at hl 1 rfl) ?_
      refine lv_iconst (v := 1) hx hb d_M_given_36 (by decide) ?_
      refine lv_iconst (v := 1) hx hb d_M_given_37 (by decide) ?_
      obtain ⟨q5, hq5, hf⟩ := io_b hf
      refine xcVV (wc := (w_M_passesAll cI cJ cC a_h a_h_refused a_h_kind a_h_sweets a_h_gives a_h_tape a_h_letter a_h_letterAt a_h_one a_h_two a_h_kept a_h_trail a_h_crumb a_h_nextCrumb a_h_goal a_h_start a_h_sits a_h_bestSits a_h_without a_h_row y_h_taped y_h_at y_h_statements y_h_hasImage y_h_beforeMany y_h_found y_h_lots y_h_rowMany (m_many z_h_T) (m_odd z_h_T) (m_step z_h_T) (m_bag z_h_T) (m_strokes z_h_T) (m_gave z_h_T) (m_threw z_h_T) (m_isKeeping z_h_T) (m_cursor z_h_T) (m_kind z_h_T) (m_sweets z_h_T) (m_gives z_h_T) (m_kept z_h_T))) (wc' := (w_M_passesAll cI cJ cC a_h a_h_refused a_h_kind a_h_sweets a_h_gives a_h_tape a_h_letter a_h_letterAt a_h_one a_h_two a_h_kept a_h_trail a_h_crumb a_h_nextCrumb a_h_goal a_h_start a_h_sits a_h_bestSits a_h_without a_h_row y_h_taped y_h_at y_h_statements y_h_hasImage y_h_beforeMany y_h_found y_h_lots y_h_rowMany (m_many q5) (m_odd q5) (m_step q5) (m_bag q5) (m_strokes q5) (m_gave q5) (m_threw q5) (m_isKeeping q5) (m_cursor q5) (m_kind q5) (m_sweets q5) (m_gives q5) (m_kept q5))) (ws' := (w_M_given cI cJ cC a_h a_h_refused a_h_kind a_h_sweets a_h_gives a_h_tape a_h_letter a_h_letterAt a_h_one a_h_two a_h_kept a_h_trail a_h_crumb a_h_nextCrumb a_h_goal a_h_start a_h_sits a_h_bestSits a_h_without a_h_row y_h_taped y_h_at y_h_statements y_h_hasImage y_h_beforeMany y_h_found y_h_lots y_h_rowMany (m_many q5) (m_odd q5) (m_step q5) (m_bag q5) (m_strokes q5) (m_gave q5) (m_threw q5) (m_isKeeping q5) (m_cursor q5) z_h_refused (m_kind q5) (m_sweets q5) (m_gives q5) (m_kept q5))) (As := [.int 1, .int 1]) (rest := []) hx hb hml hown hT (c_M_passesAll (z_h_T := z_h_T) a_h a_h_refused a_h_kind a_h_sweets a_h_gives a_h_tape a_h_letter a_h_letterAt a_h_one a_h_two a_h_kept a_h_trail a_h_crumb a_h_nextCrumb a_h_goal a_h_start a_h_sits a_h_bestSits a_h_without a_h_row y_h_taped y_h_at y_h_statements y_h_hasImage y_h_beforeMany y_h_found y_h_lots y_h_rowMany hq5) k_900 k_902 ks_28 k_8 k_903 hd_M_passesAll ⟨Nat.le_of_ble_eq_true rfl, Nat.le_of_ble_eq_true rfl⟩ xE0_ok trivial hA hK hP hD hS [0, 2, 3, 4, 5] [1] [1, 0, 2, 3, 4, 5] rfl rfl rfl rfl rfl rfl rfl rfl rfl rfl hl.1 rfl (Nat.le_of_ble_eq_true rfl) ⟨Nat.zero_le _, Nat.zero_le _⟩ d_M_given_38 (fun H locs hP hD hS => ?_)
      refine lv_aload_n hx hb d_M_given_41 rfl (lv_at hl 1 rfl) ?_
      refine va_get hx hb hT i_M hown hK hP 0 rfl rfl 10 (Nat.le_of_ble_eq_true rfl) (hT _ k_768) (fun _ h => h) rfl d_M_given_42 ?_
      refine lv_istore (lv' := [(4, .int (m_threw q5)), (3, .int q3), (0, .ref a_h), (1, .int x1), (2, .int x2)]) hx hb d_M_given_45 hl (by decide) rfl (fun ls hl => ?_)
      refine lv_aload_n hx hb d_M_given_47 rfl (lv_at hl 2 rfl) ?_
      refine lv_iload_n hx hb d_M_given_48 rfl (lv_at hl 3 rfl) ?_
      obtain ⟨q6, hq6, hf⟩ := io_b hf
      refine xcVI (wc := (w_M_goes cI cJ cC a_h a_h_refused a_h_kind a_h_sweets a_h_gives a_h_tape a_h_letter a_h_letterAt a_h_one a_h_two a_h_kept a_h_trail a_h_crumb a_h_nextCrumb a_h_goal a_h_start a_h_sits a_h_bestSits a_h_without a_h_row y_h_taped y_h_at y_h_statements y_h_hasImage y_h_beforeMany y_h_found y_h_lots y_h_rowMany (m_many q5) (m_odd q5) (m_step q5) (m_bag q5) (m_strokes q5) (m_gave q5) (m_threw q5) (m_isKeeping q5) (m_cursor q5) (m_kind q5) (m_sweets q5) (m_gives q5) (m_kept q5))) (wc' := (w_M_goes cI cJ cC a_h a_h_refused a_h_kind a_h_sweets a_h_gives a_h_tape a_h_letter a_h_letterAt a_h_one a_h_two a_h_kept a_h_trail a_h_crumb a_h_nextCrumb a_h_goal a_h_start a_h_sits a_h_bestSits a_h_without a_h_row y_h_taped y_h_at y_h_statements y_h_hasImage y_h_beforeMany y_h_found y_h_lots y_h_rowMany (m_many q6.2) (m_odd q6.2) (m_step q6.2) (m_bag q6.2) (m_strokes q6.2) (m_gave q6.2) (m_threw q6.2) (m_isKeeping q6.2) (m_cursor q6.2) (m_kind q6.2) (m_sweets q6.2) (m_gives q6.2) (m_kept q6.2))) (ws' := (w_M_given cI cJ cC a_h a_h_refused a_h_kind a_h_sweets a_h_gives a_h_tape a_h_letter a_h_letterAt a_h_one a_h_two a_h_kept a_h_trail a_h_crumb a_h_nextCrumb a_h_goal a_h_start a_h_sits a_h_bestSits a_h_without a_h_row y_h_taped y_h_at y_h_statements y_h_hasImage y_h_beforeMany y_h_found y_h_lots y_h_rowMany (m_many q6.2) (m_odd q6.2) (m_step q6.2) (m_bag q6.2) (m_strokes q6.2) (m_gave q6.2) (m_threw q6.2) (m_isKeeping q6.2) (m_cursor q6.2) z_h_refused (m_kind q6.2) (m_sweets q6.2) (m_gives q6.2) (m_kept q6.2))) (As := [.int x1]) (rest := []) hx hb hml hown hT (c_M_goes (z_h_T := q5) a_h a_h_refused a_h_kind a_h_sweets a_h_gives a_h_tape a_h_letter a_h_letterAt a_h_one a_h_two a_h_kept a_h_trail a_h_crumb a_h_nextCrumb a_h_goal a_h_start a_h_sits a_h_bestSits a_h_without a_h_row y_h_taped y_h_at y_h_statements y_h_hasImage y_h_beforeMany y_h_found y_h_lots y_h_rowMany hq6) k_964 k_966 ks_36 k_8 k_967 hd_M_goes ⟨Nat.le_of_ble_eq_true rfl, Nat.le_of_ble_eq_true rfl⟩ xE0_ok trivial hA hK hP hD hS [0, 2, 3, 4, 5] [1] [1, 0, 2, 3, 4, 5] rfl rfl rfl rfl rfl rfl rfl rfl rfl rfl hl.1 rfl (Nat.le_of_ble_eq_true rfl) ⟨Nat.zero_le _, Nat.zero_le _⟩ d_M_given_49 (fun H locs hP hD hS => ?_)
      refine lv_istore (lv' := [(5, .int q6.1), (4, .int (m_threw q5)), (3, .int q3), (0, .ref a_h), (1, .int x1), (2, .int x2)]) hx hb d_M_given_52 hl (by decide) rfl (fun ls hl => ?_)
      refine lv_iload_n hx hb d_M_given_54 rfl (lv_at hl 5 rfl) ?_
      refine lv_iconst (v := 1) hx hb d_M_given_55 (by decide) ?_
      refine lv_icmp_ne (tgt := 68) hx hb d_M_given_56 (by decide) (fun c7 => ?_) (fun c7 => ?_)
      · have hf := io_f hf c7
        refine lv_aload_n hx hb d_M_given_68 rfl (lv_at hl 3 rfl) ?_
        refine lv_iconst (v := 1) hx hb d_M_given_69 (by decide) ?_
        refine lv_iconst (v := 0) hx hb d_M_given_70 (by decide) ?_
        obtain ⟨q8, hq8, hf⟩ := io_b hf
        refine xcVV (wc := (w_M_passesAll cI cJ cC a_h a_h_refused a_h_kind a_h_sweets a_h_gives a_h_tape a_h_letter a_h_letterAt a_h_one a_h_two a_h_kept a_h_trail a_h_crumb a_h_nextCrumb a_h_goal a_h_start a_h_sits a_h_bestSits a_h_without a_h_row y_h_taped y_h_at y_h_statements y_h_hasImage y_h_beforeMany y_h_found y_h_lots y_h_rowMany (m_many q6.2) (m_odd q6.2) (m_step q6.2) (m_bag q6.2) (m_strokes q6.2) (m_gave q6.2) (m_threw q6.2) (m_isKeeping q6.2) (m_cursor q6.2) (m_kind q6.2) (m_sweets q6.2) (m_gives q6.2) (m_kept q6.2))) (wc' := (w_M_passesAll cI cJ cC a_h a_h_refused a_h_kind a_h_sweets a_h_gives a_h_tape a_h_letter a_h_letterAt a_h_one a_h_two a_h_kept a_h_trail a_h_crumb a_h_nextCrumb a_h_goal a_h_start a_h_sits a_h_bestSits a_h_without a_h_row y_h_taped y_h_at y_h_statements y_h_hasImage y_h_beforeMany y_h_found y_h_lots y_h_rowMany (m_many q8) (m_odd q8) (m_step q8) (m_bag q8) (m_strokes q8) (m_gave q8) (m_threw q8) (m_isKeeping q8) (m_cursor q8) (m_kind q8) (m_sweets q8) (m_gives q8) (m_kept q8))) (ws' := (w_M_given cI cJ cC a_h a_h_refused a_h_kind a_h_sweets a_h_gives a_h_tape a_h_letter a_h_letterAt a_h_one a_h_two a_h_kept a_h_trail a_h_crumb a_h_nextCrumb a_h_goal a_h_start a_h_sits a_h_bestSits a_h_without a_h_row y_h_taped y_h_at y_h_statements y_h_hasImage y_h_beforeMany y_h_found y_h_lots y_h_rowMany (m_many q8) (m_odd q8) (m_step q8) (m_bag q8) (m_strokes q8) (m_gave q8) (m_threw q8) (m_isKeeping q8) (m_cursor q8) z_h_refused (m_kind q8) (m_sweets q8) (m_gives q8) (m_kept q8))) (As := [.int 1, .int 0]) (rest := []) hx hb hml hown hT (c_M_passesAll (z_h_T := q6.2) a_h a_h_refused a_h_kind a_h_sweets a_h_gives a_h_tape a_h_letter a_h_letterAt a_h_one a_h_two a_h_kept a_h_trail a_h_crumb a_h_nextCrumb a_h_goal a_h_start a_h_sits a_h_bestSits a_h_without a_h_row y_h_taped y_h_at y_h_statements y_h_hasImage y_h_beforeMany y_h_found y_h_lots y_h_rowMany hq8) k_900 k_902 ks_28 k_8 k_903 hd_M_passesAll ⟨Nat.le_of_ble_eq_true rfl, Nat.le_of_ble_eq_true rfl⟩ xE0_ok trivial hA hK hP hD hS [0, 2, 3, 4, 5] [1] [1, 0, 2, 3, 4, 5] rfl rfl rfl rfl rfl rfl rfl rfl rfl rfl hl.1 rfl (Nat.le_of_ble_eq_true rfl) ⟨Nat.zero_le _, Nat.zero_le _⟩ d_M_given_71 (fun H locs hP hD hS => ?_)
        refine lv_iload hx hb d_M_given_74 (lv_at hl 0 rfl) ?_
        have hq := Option.some.inj hf
        subst hq
        exact hret _ _ _ _ _ d_M_given_76 rfl rfl hP hD hS
      · have hf := io_t hf c7
        refine lv_aload_n hx hb d_M_given_59 rfl (lv_at hl 3 rfl) ?_
        refine va_get hx hb hT i_M hown hK hP 0 rfl rfl 10 (Nat.le_of_ble_eq_true rfl) (hT _ k_768) (fun _ h => h) rfl d_M_given_60 ?_
        refine lv_iload hx hb d_M_given_63 (lv_at hl 1 rfl) ?_
        refine lv_isub hx hb d_M_given_65 ?_
        refine lv_istore (lv' := [(5, .int ((m_threw q6.2) - (m_threw q5))), (4, .int (m_threw q5)), (3, .int q3), (0, .ref a_h), (1, .int x1), (2, .int x2)]) hx hb d_M_given_66 hl (by decide) rfl (fun ls hl => ?_)
        refine lv_aload_n hx hb d_M_given_68 rfl (lv_at hl 3 rfl) ?_
        refine lv_iconst (v := 1) hx hb d_M_given_69 (by decide) ?_
        refine lv_iconst (v := 0) hx hb d_M_given_70 (by decide) ?_
        obtain ⟨q9, hq9, hf⟩ := io_b hf
        refine xcVV (wc := (w_M_passesAll cI cJ cC a_h a_h_refused a_h_kind a_h_sweets a_h_gives a_h_tape a_h_letter a_h_letterAt a_h_one a_h_two a_h_kept a_h_trail a_h_crumb a_h_nextCrumb a_h_goal a_h_start a_h_sits a_h_bestSits a_h_without a_h_row y_h_taped y_h_at y_h_statements y_h_hasImage y_h_beforeMany y_h_found y_h_lots y_h_rowMany (m_many q6.2) (m_odd q6.2) (m_step q6.2) (m_bag q6.2) (m_strokes q6.2) (m_gave q6.2) (m_threw q6.2) (m_isKeeping q6.2) (m_cursor q6.2) (m_kind q6.2) (m_sweets q6.2) (m_gives q6.2) (m_kept q6.2))) (wc' := (w_M_passesAll cI cJ cC a_h a_h_refused a_h_kind a_h_sweets a_h_gives a_h_tape a_h_letter a_h_letterAt a_h_one a_h_two a_h_kept a_h_trail a_h_crumb a_h_nextCrumb a_h_goal a_h_start a_h_sits a_h_bestSits a_h_without a_h_row y_h_taped y_h_at y_h_statements y_h_hasImage y_h_beforeMany y_h_found y_h_lots y_h_rowMany (m_many q9) (m_odd q9) (m_step q9) (m_bag q9) (m_strokes q9) (m_gave q9) (m_threw q9) (m_isKeeping q9) (m_cursor q9) (m_kind q9) (m_sweets q9) (m_gives q9) (m_kept q9))) (ws' := (w_M_given cI cJ cC a_h a_h_refused a_h_kind a_h_sweets a_h_gives a_h_tape a_h_letter a_h_letterAt a_h_one a_h_two a_h_kept a_h_trail a_h_crumb a_h_nextCrumb a_h_goal a_h_start a_h_sits a_h_bestSits a_h_without a_h_row y_h_taped y_h_at y_h_statements y_h_hasImage y_h_beforeMany y_h_found y_h_lots y_h_rowMany (m_many q9) (m_odd q9) (m_step q9) (m_bag q9) (m_strokes q9) (m_gave q9) (m_threw q9) (m_isKeeping q9) (m_cursor q9) z_h_refused (m_kind q9) (m_sweets q9) (m_gives q9) (m_kept q9))) (As := [.int 1, .int 0]) (rest := []) hx hb hml hown hT (c_M_passesAll (z_h_T := q6.2) a_h a_h_refused a_h_kind a_h_sweets a_h_gives a_h_tape a_h_letter a_h_letterAt a_h_one a_h_two a_h_kept a_h_trail a_h_crumb a_h_nextCrumb a_h_goal a_h_start a_h_sits a_h_bestSits a_h_without a_h_row y_h_taped y_h_at y_h_statements y_h_hasImage y_h_beforeMany y_h_found y_h_lots y_h_rowMany hq9) k_900 k_902 ks_28 k_8 k_903 hd_M_passesAll ⟨Nat.le_of_ble_eq_true rfl, Nat.le_of_ble_eq_true rfl⟩ xE0_ok trivial hA hK hP hD hS [0, 2, 3, 4, 5] [1] [1, 0, 2, 3, 4, 5] rfl rfl rfl rfl rfl rfl rfl rfl rfl rfl hl.1 rfl (Nat.le_of_ble_eq_true rfl) ⟨Nat.zero_le _, Nat.zero_le _⟩ d_M_given_71 (fun H locs hP hD hS => ?_)
        refine lv_iload hx hb d_M_given_74 (lv_at hl 0 rfl) ?_
        have hq := Option.some.inj hf
        subst hq
        exact hret _ _ _ _ _ d_M_given_76 rfl rfl hP hD hS
    · have hf := io_f hf c4
      refine lv_aload_n hx hb d_M_given_29 rfl (lv_at hl 1 rfl) ?_
      refine lv_iload_n hx hb d_M_given_30 rfl (lv_at hl 0 rfl) ?_
      obtain ⟨q10, hq10, hf⟩ := io_b hf
      refine xcVI (wc := (w_M_no cI cJ cC a_h a_h_refused a_h_kind a_h_sweets a_h_gives a_h_tape a_h_letter a_h_letterAt a_h_one a_h_two a_h_kept a_h_trail a_h_crumb a_h_nextCrumb a_h_goal a_h_start a_h_sits a_h_bestSits a_h_without a_h_row (m_many z_h_T) (m_odd z_h_T) (m_step z_h_T) (m_bag z_h_T) (m_strokes z_h_T) (m_gave z_h_T) (m_threw z_h_T) y_h_taped y_h_at y_h_statements y_h_hasImage (m_isKeeping z_h_T) (m_cursor z_h_T) y_h_beforeMany y_h_found y_h_lots y_h_rowMany z_h_refused)) (wc' := (w_M_no cI cJ cC a_h a_h_refused a_h_kind a_h_sweets a_h_gives a_h_tape a_h_letter a_h_letterAt a_h_one a_h_two a_h_kept a_h_trail a_h_crumb a_h_nextCrumb a_h_goal a_h_start a_h_sits a_h_bestSits a_h_without a_h_row (m_many z_h_T) (m_odd z_h_T) (m_step z_h_T) (m_bag z_h_T) (m_strokes z_h_T) (m_gave z_h_T) (m_threw z_h_T) y_h_taped y_h_at y_h_statements y_h_hasImage (m_isKeeping z_h_T) (m_cursor z_h_T) y_h_beforeMany y_h_found y_h_lots y_h_rowMany q10.2)) (ws' := (w_M_given cI cJ cC a_h a_h_refused a_h_kind a_h_sweets a_h_gives a_h_tape a_h_letter a_h_letterAt a_h_one a_h_two a_h_kept a_h_trail a_h_crumb a_h_nextCrumb a_h_goal a_h_start a_h_sits a_h_bestSits a_h_without a_h_row y_h_taped y_h_at y_h_statements y_h_hasImage y_h_beforeMany y_h_found y_h_lots y_h_rowMany (m_many z_h_T) (m_odd z_h_T) (m_step z_h_T) (m_bag z_h_T) (m_strokes z_h_T) (m_gave z_h_T) (m_threw z_h_T) (m_isKeeping z_h_T) (m_cursor z_h_T) q10.2 (m_kind z_h_T) (m_sweets z_h_T) (m_gives z_h_T) (m_kept z_h_T))) (As := [.int q3]) (rest := []) hx hb hml hown hT (c_M_no (z_h_refused := z_h_refused) a_h a_h_refused a_h_kind a_h_sweets a_h_gives a_h_tape a_h_letter a_h_letterAt a_h_one a_h_two a_h_kept a_h_trail a_h_crumb a_h_nextCrumb a_h_goal a_h_start a_h_sits a_h_bestSits a_h_without a_h_row (m_many z_h_T) (m_odd z_h_T) (m_step z_h_T) (m_bag z_h_T) (m_strokes z_h_T) (m_gave z_h_T) (m_threw z_h_T) y_h_taped y_h_at y_h_statements y_h_hasImage (m_isKeeping z_h_T) (m_cursor z_h_T) y_h_beforeMany y_h_found y_h_lots y_h_rowMany hq10) k_874 k_876 ks_24 k_8 k_877 hd_M_no ⟨Nat.le_of_ble_eq_true rfl, Nat.le_of_ble_eq_true rfl⟩ xE0_ok trivial hA hK hP hD hS [0, 1] [2, 3, 4, 5] [4, 5, 0, 1, 2, 3] rfl rfl rfl rfl rfl rfl rfl rfl rfl rfl hl.1 rfl (Nat.le_of_ble_eq_true rfl) ⟨Nat.zero_le _, Nat.zero_le _⟩ d_M_given_31 (fun H locs hP hD hS => ?_)
      have hq := Option.some.inj hf
      subst hq
      exact hret _ _ _ _ _ d_M_given_34 rfl rfl hP hD hS
  · have hf := io_t hf c2
    refine lv_aload_n hx hb d_M_given_9 rfl (lv_at hl 0 rfl) ?_
    refine lv_bipush (v := (-2)) hx hb d_M_given_10 (by decide) ?_
    obtain ⟨q11, hq11, hf⟩ := io_b hf
    refine xcVI (wc := (w_M_no cI cJ cC a_h a_h_refused a_h_kind a_h_sweets a_h_gives a_h_tape a_h_letter a_h_letterAt a_h_one a_h_two a_h_kept a_h_trail a_h_crumb a_h_nextCrumb a_h_goal a_h_start a_h_sits a_h_bestSits a_h_without a_h_row (m_many z_h_T) (m_odd z_h_T) (m_step z_h_T) (m_bag z_h_T) (m_strokes z_h_T) (m_gave z_h_T) (m_threw z_h_T) y_h_taped y_h_at y_h_statements y_h_hasImage (m_isKeeping z_h_T) (m_cursor z_h_T) y_h_beforeMany y_h_found y_h_lots y_h_rowMany z_h_refused)) (wc' := (w_M_no cI cJ cC a_h a_h_refused a_h_kind a_h_sweets a_h_gives a_h_tape a_h_letter a_h_letterAt a_h_one a_h_two a_h_kept a_h_trail a_h_crumb a_h_nextCrumb a_h_goal a_h_start a_h_sits a_h_bestSits a_h_without a_h_row (m_many z_h_T) (m_odd z_h_T) (m_step z_h_T) (m_bag z_h_T) (m_strokes z_h_T) (m_gave z_h_T) (m_threw z_h_T) y_h_taped y_h_at y_h_statements y_h_hasImage (m_isKeeping z_h_T) (m_cursor z_h_T) y_h_beforeMany y_h_found y_h_lots y_h_rowMany q11.2)) (ws' := (w_M_given cI cJ cC a_h a_h_refused a_h_kind a_h_sweets a_h_gives a_h_tape a_h_letter a_h_letterAt a_h_one a_h_two a_h_kept a_h_trail a_h_crumb a_h_nextCrumb a_h_goal a_h_start a_h_sits a_h_bestSits a_h_without a_h_row y_h_taped y_h_at y_h_statements y_h_hasImage y_h_beforeMany y_h_found y_h_lots y_h_rowMany (m_many z_h_T) (m_odd z_h_T) (m_step z_h_T) (m_bag z_h_T) (m_strokes z_h_T) (m_gave z_h_T) (m_threw z_h_T) (m_isKeeping z_h_T) (m_cursor z_h_T) q11.2 (m_kind z_h_T) (m_sweets z_h_T) (m_gives z_h_T) (m_kept z_h_T))) (As := [.int (-2)]) (rest := []) hx hb hml hown hT (c_M_no (z_h_refused := z_h_refused) a_h a_h_refused a_h_kind a_h_sweets a_h_gives a_h_tape a_h_letter a_h_letterAt a_h_one a_h_two a_h_kept a_h_trail a_h_crumb a_h_nextCrumb a_h_goal a_h_start a_h_sits a_h_bestSits a_h_without a_h_row (m_many z_h_T) (m_odd z_h_T) (m_step z_h_T) (m_bag z_h_T) (m_strokes z_h_T) (m_gave z_h_T) (m_threw z_h_T) y_h_taped y_h_at y_h_statements y_h_hasImage (m_isKeeping z_h_T) (m_cursor z_h_T) y_h_beforeMany y_h_found y_h_lots y_h_rowMany hq11) k_874 k_876 ks_24 k_8 k_877 hd_M_no ⟨Nat.le_of_ble_eq_true rfl, Nat.le_of_ble_eq_true rfl⟩ xE0_ok trivial hA hK hP hD hS [0, 1] [2, 3, 4, 5] [4, 5, 0, 1, 2, 3] rfl rfl rfl rfl rfl rfl rfl rfl rfl rfl hl.1 rfl (Nat.le_of_ble_eq_true rfl) ⟨Nat.zero_le _, Nat.zero_le _⟩ d_M_given_12 (fun H locs hP hD hS => ?_)
    have hq := Option.some.inj hf
    subst hq
    exact hret _ _ _ _ _ d_M_given_15 rfl rfl hP hD hS
abbrev w_M_writesTrail (cI cJ cC : ClassId) (a_h a_h_refused a_h_kind a_h_sweets a_h_gives a_h_tape a_h_letter a_h_letterAt a_h_one a_h_two a_h_kept a_h_trail a_h_crumb a_h_nextCrumb a_h_goal a_h_start a_h_sits a_h_bestSits a_h_without a_h_row : Nat) (y_h_taped : Int32) (y_h_at : Int32) (y_h_statements : Int32) (y_h_hasImage : Int32) (y_h_beforeMany : Int32) (y_h_found : Int32) (y_h_lots : Int32) (y_h_rowMany : Int32) (p_h_many : Int32) (p_h_odd : Int32) (p_h_step : Int32) (p_h_bag : Int32) (p_h_strokes : Int32) (p_h_gave : Int32) (p_h_threw : Int32) (p_h_isKeeping : Int32) (p_h_cursor : Int32) (p_h_kind : (Nat → Int32)) (p_h_sweets : (Nat → Int32)) (p_h_gives : (Nat → Int32)) (p_h_kept : (Nat → Int32)) (p_h_trail : (Nat → Int32)) : va_W := [(a_h, .inr (7, [.ref a_h_refused, .ref a_h_kind, .ref a_h_sweets, .ref a_h_gives, .int p_h_many, .int p_h_odd, .int p_h_step, .int p_h_bag, .int p_h_strokes, .int p_h_gave, .int p_h_threw, .ref a_h_tape, .ref a_h_letter, .ref a_h_letterAt, .ref a_h_one, .ref a_h_two, .int y_h_taped, .int y_h_at, .int y_h_statements, .ref a_h_kept, .int y_h_hasImage, .int p_h_isKeeping, .int p_h_cursor, .ref a_h_trail, .ref a_h_crumb, .ref a_h_nextCrumb, .ref a_h_goal, .ref a_h_start, .int y_h_beforeMany, .int y_h_found, .ref a_h_sits, .ref a_h_bestSits, .ref a_h_without, .int y_h_lots, .ref a_h_row, .int y_h_rowMany])), (a_h_kind, .inl (cI, (8, .inl p_h_kind))), (a_h_sweets, .inl (cI, (8, .inl p_h_sweets))), (a_h_gives, .inl (cI, (8, .inl p_h_gives))), (a_h_kept, .inl (cI, (90, .inl p_h_kept))), (a_h_trail, .inl (cI, (1827, .inl p_h_trail)))]
theorem d_M_writesTrail_0 : decode b_M_writesTrail 0 = .ok (.aload_n 0, 1) := by decide +kernel
theorem d_M_writesTrail_1 : decode b_M_writesTrail 1 = .ok (.iconst 1, 1) := by decide +kernel
theorem d_M_writesTrail_2 : decode b_M_writesTrail 2 = .ok (.iconst 1, 1) := by decide +kernel
theorem d_M_writesTrail_3 : decode b_M_writesTrail 3 = .ok (.invokevirtual 119, 3) := by decide +kernel
theorem d_M_writesTrail_6 : decode b_M_writesTrail 6 = .ok (.iconst 0, 1) := by decide +kernel
theorem d_M_writesTrail_7 : decode b_M_writesTrail 7 = .ok (.istore_n 2, 1) := by decide +kernel
theorem d_M_writesTrail_8 : decode b_M_writesTrail 8 = .ok (.iload_n 2, 1) := by decide +kernel
theorem d_M_writesTrail_9 : decode b_M_writesTrail 9 = .ok (.iload_n 1, 1) := by decide +kernel
theorem d_M_writesTrail_10 : decode b_M_writesTrail 10 = .ok (.if_icmp .gt 77, 3) := by decide +kernel
theorem d_M_writesTrail_13 : decode b_M_writesTrail 13 = .ok (.iconst 0, 1) := by decide +kernel
theorem d_M_writesTrail_14 : decode b_M_writesTrail 14 = .ok (.istore_n 3, 1) := by decide +kernel
theorem d_M_writesTrail_15 : decode b_M_writesTrail 15 = .ok (.iload_n 3, 1) := by decide +kernel
theorem d_M_writesTrail_16 : decode b_M_writesTrail 16 = .ok (.bipush 8, 2) := by decide +kernel
theorem d_M_writesTrail_18 : decode b_M_writesTrail 18 = .ok (.if_icmp .ge 38, 3) := by decide +kernel
theorem d_M_writesTrail_21 : decode b_M_writesTrail 21 = .ok (.aload_n 0, 1) := by decide +kernel
theorem d_M_writesTrail_22 : decode b_M_writesTrail 22 = .ok (.getfield 47, 3) := by decide +kernel
theorem d_M_writesTrail_25 : decode b_M_writesTrail 25 = .ok (.bipush 9, 2) := by decide +kernel
theorem d_M_writesTrail_27 : decode b_M_writesTrail 27 = .ok (.iload_n 2, 1) := by decide +kernel
theorem d_M_writesTrail_28 : decode b_M_writesTrail 28 = .ok (.imul, 1) := by decide +kernel
theorem d_M_writesTrail_29 : decode b_M_writesTrail 29 = .ok (.iload_n 3, 1) := by decide +kernel
theorem d_M_writesTrail_30 : decode b_M_writesTrail 30 = .ok (.iadd, 1) := by decide +kernel
theorem d_M_writesTrail_31 : decode b_M_writesTrail 31 = .ok (.iload_n 3, 1) := by decide +kernel
theorem d_M_writesTrail_32 : decode b_M_writesTrail 32 = .ok (.aload_n 0, 1) := by decide +kernel
theorem d_M_writesTrail_33 : decode b_M_writesTrail 33 = .ok (.getfield 78, 3) := by decide +kernel
theorem d_M_writesTrail_36 : decode b_M_writesTrail 36 = .ok (.if_icmp .ge 12, 3) := by decide +kernel
theorem d_M_writesTrail_39 : decode b_M_writesTrail 39 = .ok (.aload_n 0, 1) := by decide +kernel
theorem d_M_writesTrail_40 : decode b_M_writesTrail 40 = .ok (.getfield 16, 3) := by decide +kernel
theorem d_M_writesTrail_43 : decode b_M_writesTrail 43 = .ok (.iload_n 3, 1) := by decide +kernel
theorem d_M_writesTrail_44 : decode b_M_writesTrail 44 = .ok (.iaload, 1) := by decide +kernel
theorem d_M_writesTrail_45 : decode b_M_writesTrail 45 = .ok (.goto 4, 3) := by decide +kernel
theorem d_M_writesTrail_48 : decode b_M_writesTrail 48 = .ok (.iconst 0, 1) := by decide +kernel
theorem d_M_writesTrail_49 : decode b_M_writesTrail 49 = .ok (.iastore, 1) := by decide +kernel
theorem d_M_writesTrail_50 : decode b_M_writesTrail 50 = .ok (.iinc 3 1, 3) := by decide +kernel
theorem d_M_writesTrail_53 : decode b_M_writesTrail 53 = .ok (.goto (-38), 3) := by decide +kernel
theorem d_M_writesTrail_56 : decode b_M_writesTrail 56 = .ok (.aload_n 0, 1) := by decide +kernel
theorem d_M_writesTrail_57 : decode b_M_writesTrail 57 = .ok (.getfield 47, 3) := by decide +kernel
theorem d_M_writesTrail_60 : decode b_M_writesTrail 60 = .ok (.bipush 9, 2) := by decide +kernel
theorem d_M_writesTrail_62 : decode b_M_writesTrail 62 = .ok (.iload_n 2, 1) := by decide +kernel
theorem d_M_writesTrail_63 : decode b_M_writesTrail 63 = .ok (.imul, 1) := by decide +kernel
theorem d_M_writesTrail_64 : decode b_M_writesTrail 64 = .ok (.bipush 8, 2) := by decide +kernel
theorem d_M_writesTrail_66 : decode b_M_writesTrail 66 = .ok (.iadd, 1) := by decide +kernel
theorem d_M_writesTrail_67 : decode b_M_writesTrail 67 = .ok (.aload_n 0, 1) := by decide +kernel
theorem d_M_writesTrail_68 : decode b_M_writesTrail 68 = .ok (.getfield 26, 3) := by decide +kernel
theorem d_M_writesTrail_71 : decode b_M_writesTrail 71 = .ok (.iastore, 1) := by decide +kernel
theorem d_M_writesTrail_72 : decode b_M_writesTrail 72 = .ok (.iload_n 2, 1) := by decide +kernel
theorem d_M_writesTrail_73 : decode b_M_writesTrail 73 = .ok (.iload_n 1, 1) := by decide +kernel
theorem d_M_writesTrail_74 : decode b_M_writesTrail 74 = .ok (.if_icmp .ge 7, 3) := by decide +kernel
theorem d_M_writesTrail_77 : decode b_M_writesTrail 77 = .ok (.aload_n 0, 1) := by decide +kernel
theorem d_M_writesTrail_78 : decode b_M_writesTrail 78 = .ok (.invokevirtual 165, 3) := by decide +kernel
theorem d_M_writesTrail_81 : decode b_M_writesTrail 81 = .ok (.iinc 2 1, 3) := by decide +kernel
theorem d_M_writesTrail_84 : decode b_M_writesTrail 84 = .ok (.goto (-76), 3) := by decide +kernel
theorem d_M_writesTrail_87 : decode b_M_writesTrail 87 = .ok (.aload_n 0, 1) := by decide +kernel
theorem d_M_writesTrail_88 : decode b_M_writesTrail 88 = .ok (.iconst 1, 1) := by decide +kernel
theorem d_M_writesTrail_89 : decode b_M_writesTrail 89 = .ok (.iconst 0, 1) := by decide +kernel
theorem d_M_writesTrail_90 : decode b_M_writesTrail 90 = .ok (.invokevirtual 119, 3) := by decide +kernel
theorem d_M_writesTrail_93 : decode b_M_writesTrail 93 = .ok (.return_, 1) := by decide +kernel
set_option maxHeartbeats 4000000 in
set_option maxRecDepth 100000 in
theorem c_M_writesTrail {l : Launch} {D : va_G} {cI cJ cC : ClassId} (a_h a_h_refused a_h_kind a_h_sweets a_h_gives a_h_tape a_h_letter a_h_letterAt a_h_one a_h_two a_h_kept a_h_trail a_h_crumb a_h_nextCrumb a_h_goal a_h_start a_h_sits a_h_bestSits a_h_without a_h_row : Nat) (y_h_taped : Int32) (y_h_at : Int32) (y_h_statements : Int32) (y_h_hasImage : Int32) (y_h_beforeMany : Int32) (y_h_found : Int32) (y_h_lots : Int32) (y_h_rowMany : Int32) {z_h_T : MT} {z_h_trail : (Nat → Int32)} {x1 : Int32} {q : MT × (Nat → Int32)} (hf : f_M_writesTrail z_h_T z_h_trail x1 = some q) : xV l y_M_writesTrail b_M_writesTrail 4 3 66 D (tyK cI cJ cC) xE0 [.ref a_h, .int x1] (w_M_writesTrail cI cJ cC a_h a_h_refused a_h_kind a_h_sweets a_h_gives a_h_tape a_h_letter a_h_letterAt a_h_one a_h_two a_h_kept a_h_trail a_h_crumb a_h_nextCrumb a_h_goal a_h_start a_h_sits a_h_bestSits a_h_without a_h_row y_h_taped y_h_at y_h_statements y_h_hasImage y_h_beforeMany y_h_found y_h_lots y_h_rowMany (m_many z_h_T) (m_odd z_h_T) (m_step z_h_T) (m_bag z_h_T) (m_strokes z_h_T) (m_gave z_h_T) (m_threw z_h_T) (m_isKeeping z_h_T) (m_cursor z_h_T) (m_kind z_h_T) (m_sweets z_h_T) (m_gives z_h_T) (m_kept z_h_T) z_h_trail) (w_M_writesTrail cI cJ cC a_h a_h_refused a_h_kind a_h_sweets a_h_gives a_h_tape a_h_letter a_h_letterAt a_h_one a_h_two a_h_kept a_h_trail a_h_crumb a_h_nextCrumb a_h_goal a_h_start a_h_sits a_h_bestSits a_h_without a_h_row y_h_taped y_h_at y_h_statements y_h_hasImage y_h_beforeMany y_h_found y_h_lots y_h_rowMany (m_many q.1) (m_odd q.1) (m_step q.1) (m_bag q.1) (m_strokes q.1) (m_gave q.1) (m_threw q.1) (m_isKeeping q.1) (m_cursor q.1) (m_kind q.1) (m_sweets q.1) (m_gives q.1) (m_kept q.1) q.2) := by
  refine xV_of (by decide) (Nat.le_of_ble_eq_true rfl) ?_
  intro p e s m args below meth c A Q hx hb hml hown hT hA hP hD hK hS hE hret ls hl
  have hown : s.vm.findClass R_M = some m.cls := hown
  have hl : lv_has ls 4 [(0, .ref a_h), (1, .int x1)] := hl
  unfold f_M_writesTrail at hf
  have L15 : ∀ (z_h_T : MT) (x2 : Int32) (k : (Nat → Int32) → Option (MT × (Nat → Int32))), (∀ (z_h_trail : (Nat → Int32)) (H : Heap) (locs : List Loc) (ls : Array Slot), k z_h_trail = some q → va_P D classes (w_M_writesTrail cI cJ cC a_h a_h_refused a_h_kind a_h_sweets a_h_gives a_h_tape a_h_letter a_h_letterAt a_h_one a_h_two a_h_kept a_h_trail a_h_crumb a_h_nextCrumb a_h_goal a_h_start a_h_sits a_h_bestSits a_h_without a_h_row y_h_taped y_h_at y_h_statements y_h_hasImage y_h_beforeMany y_h_found y_h_lots y_h_rowMany (m_many z_h_T) (m_odd z_h_T) (m_step z_h_T) (m_bag z_h_T) (m_strokes z_h_T) (m_gave z_h_T) (m_threw z_h_T) (m_isKeeping z_h_T) (m_cursor z_h_T) (m_kind z_h_T) (m_sweets z_h_T) (m_gives z_h_T) (m_kept z_h_T) z_h_trail) H → va_D A (w_M_writesTrail cI cJ cC a_h a_h_refused a_h_kind a_h_sweets a_h_gives a_h_tape a_h_letter a_h_letterAt a_h_one a_h_two a_h_kept a_h_trail a_h_crumb a_h_nextCrumb a_h_goal a_h_start a_h_sits a_h_bestSits a_h_without a_h_row y_h_taped y_h_at y_h_statements y_h_hasImage y_h_beforeMany y_h_found y_h_lots y_h_rowMany (m_many z_h_T) (m_odd z_h_T) (m_step z_h_T) (m_bag z_h_T) (m_strokes z_h_T) (m_gave z_h_T) (m_threw z_h_T) (m_isKeeping z_h_T) (m_cursor z_h_T) (m_kind z_h_T) (m_sweets z_h_T) (m_gives z_h_T) (m_kept z_h_T) z_h_trail) → va_S A s.heap H locs → lv_has ls 4 [(0, .ref a_h), (1, .int x1), (2, .int x2)] → W p l e (xRm 3 66) s m args below meth c H locs 0 0 Q (F0 m 56 ls [])) → ∀ (n : Nat) (z_h_trail : (Nat → Int32)) (x3 : Int32) (H : Heap) (locs : List Loc) (ls : Array Slot), f_M_writesTrail_L15 z_h_T x2 k n z_h_trail x3 = some q → va_P D classes (w_M_writesTrail cI cJ cC a_h a_h_refused a_h_kind a_h_sweets a_h_gives a_h_tape a_h_letter a_h_letterAt a_h_one a_h_two a_h_kept a_h_trail a_h_crumb a_h_nextCrumb a_h_goal a_h_start a_h_sits a_h_bestSits a_h_without a_h_row y_h_taped y_h_at y_h_statements y_h_hasImage y_h_beforeMany y_h_found y_h_lots y_h_rowMany (m_many z_h_T) (m_odd z_h_T) (m_step z_h_T) (m_bag z_h_T) (m_strokes z_h_T) (m_gave z_h_T) (m_threw z_h_T) (m_isKeeping z_h_T) (m_cursor z_h_T) (m_kind z_h_T) (m_sweets z_h_T) (m_gives z_h_T) (m_kept z_h_T) z_h_trail) H → va_D A (w_M_writesTrail cI cJ cC a_h a_h_refused a_h_kind a_h_sweets a_h_gives a_h_tape a_h_letter a_h_letterAt a_h_one a_h_two a_h_kept a_h_trail a_h_crumb a_h_nextCrumb a_h_goal a_h_start a_h_sits a_h_bestSits a_h_without a_h_row y_h_taped y_h_at y_h_statements y_h_hasImage y_h_beforeMany y_h_found y_h_lots y_h_rowMany (m_many z_h_T) (m_odd z_h_T) (m_step z_h_T) (m_bag z_h_T) (m_strokes z_h_T) (m_gave z_h_T) (m_threw z_h_T) (m_isKeeping z_h_T) (m_cursor z_h_T) (m_kind z_h_T) (m_sweets z_h_T) (m_gives z_h_T) (m_kept z_h_T) z_h_trail) → va_S A s.heap H locs → lv_has ls 4 [(0, .ref a_h), (1, .int x1), (2, .int x2), (3, .int x3)] → W p l e (xRm 3 66) s m args below meth c H locs 0 0 Q (F0 m 15 ls []) := by
    intro z_h_T x2 k hk n
    induction n with
    | zero => intro z_h_trail x3 H locs ls hf hP hD hS hl; exact nomatch (show (none : Option (MT × (Nat → Int32))) = some q from hf)
    | succ n ih =>
      intro z_h_trail x3 H locs ls hf hP hD hS hl
      refine lv_iload_n hx hb d_M_writesTrail_15 rfl (lv_at hl 3 rfl) ?_
      refine lv_bipush (v := 8) hx hb d_M_writesTrail_16 (by decide) ?_
      refine lv_icmp_ge (tgt := 56) hx hb d_M_writesTrail_18 (by decide) (fun c3 => ?_) (fun c3 => ?_)
      · have hf := io_t hf c3
        exact hk z_h_trail _ _ _ hf hP hD hS (lv_sub hl [0, 1, 2] rfl)
      · have hf := io_f hf c3
        refine lv_aload_n hx hb d_M_writesTrail_21 rfl (lv_at hl 0 rfl) ?_
        refine va_get hx hb hT i_M hown hK hP 0 rfl rfl 23 (Nat.le_of_ble_eq_true rfl) (hT _ k_781) (fun _ h => h) rfl d_M_writesTrail_22 ?_
        refine lv_bipush (v := 9) hx hb d_M_writesTrail_25 (by decide) ?_
        refine lv_iload_n hx hb d_M_writesTrail_27 rfl (lv_at hl 2 rfl) ?_
        refine lv_imul hx hb d_M_writesTrail_28 ?_
        refine lv_iload_n hx hb d_M_writesTrail_29 rfl (lv_at hl 3 rfl) ?_
        refine lv_iadd hx hb d_M_writesTrail_30 ?_
        refine lv_iload_n hx hb d_M_writesTrail_31 rfl (lv_at hl 3 rfl) ?_
        refine lv_aload_n hx hb d_M_writesTrail_32 rfl (lv_at hl 0 rfl) ?_
        refine va_get hx hb hT i_M hown hK hP 0 rfl rfl 4 (Nat.le_of_ble_eq_true rfl) (hT _ k_762) (fun _ h => h) rfl d_M_writesTrail_33 ?_
        refine lv_icmp_ge (tgt := 48) hx hb d_M_writesTrail_36 (by decide) (fun c4 => ?_) (fun c4 => ?_)
        · have hf := io_t hf c4
          refine lv_iconst (v := 0) hx hb d_M_writesTrail_48 (by decide) ?_
          obtain ⟨c5, hf⟩ := io_n hf
          refine x_iast hx hb hK hP hD hS 5 0 rfl rfl (j := ((9 * x2) + x3).toNatClampNeg) rfl c5 d_M_writesTrail_49 (fun H locs hP hD hS => ?_)
          have hP : va_P D classes (w_M_writesTrail cI cJ cC a_h a_h_refused a_h_kind a_h_sweets a_h_gives a_h_tape a_h_letter a_h_letterAt a_h_one a_h_two a_h_kept a_h_trail a_h_crumb a_h_nextCrumb a_h_goal a_h_start a_h_sits a_h_bestSits a_h_without a_h_row y_h_taped y_h_at y_h_statements y_h_hasImage y_h_beforeMany y_h_found y_h_lots y_h_rowMany (m_many z_h_T) (m_odd z_h_T) (m_step z_h_T) (m_bag z_h_T) (m_strokes z_h_T) (m_gave z_h_T) (m_threw z_h_T) (m_isKeeping z_h_T) (m_cursor z_h_T) (m_kind z_h_T) (m_sweets z_h_T) (m_gives z_h_T) (m_kept z_h_T) (upd z_h_trail ((9 * x2) + x3).toNatClampNeg 0)) H := hP
          have hD : va_D A (w_M_writesTrail cI cJ cC a_h a_h_refused a_h_kind a_h_sweets a_h_gives a_h_tape a_h_letter a_h_letterAt a_h_one a_h_two a_h_kept a_h_trail a_h_crumb a_h_nextCrumb a_h_goal a_h_start a_h_sits a_h_bestSits a_h_without a_h_row y_h_taped y_h_at y_h_statements y_h_hasImage y_h_beforeMany y_h_found y_h_lots y_h_rowMany (m_many z_h_T) (m_odd z_h_T) (m_step z_h_T) (m_bag z_h_T) (m_strokes z_h_T) (m_gave z_h_T) (m_threw z_h_T) (m_isKeeping z_h_T) (m_cursor z_h_T) (m_kind z_h_T) (m_sweets z_h_T) (m_gives z_h_T) (m_kept z_h_T) (upd z_h_trail ((9 * x2) + x3).toNatClampNeg 0)) := hD
          refine lv_iinc (v := (x3 + 1)) (lv' := [(3, .int (x3 + 1)), (0, .ref a_h), (1, .int x1), (2, .int x2)]) hx hb d_M_writesTrail_50 hl (k := 3) rfl (by rfl) (by decide) rfl (fun ls hl => ?_)
          refine lv_goto (tgt := 15) hx hb d_M_writesTrail_53 (by decide) ?_
          exact ih (upd z_h_trail ((9 * x2) + x3).toNatClampNeg 0) (x3 + 1) _ _ _ hf hP hD hS (lv_sub hl [1, 2, 3, 0] rfl)
        · have hf := io_f hf c4
          refine lv_aload_n hx hb d_M_writesTrail_39 rfl (lv_at hl 0 rfl) ?_
          refine va_get hx hb hT i_M hown hK hP 0 rfl rfl 2 (Nat.le_of_ble_eq_true rfl) (hT _ k_760) (fun _ h => h) rfl d_M_writesTrail_40 ?_
          refine lv_iload_n hx hb d_M_writesTrail_43 rfl (lv_at hl 3 rfl) ?_
          obtain ⟨c6, hf⟩ := io_n hf
          refine x_iald hx hb hK hP 2 0 rfl rfl (j := x3.toNatClampNeg) rfl c6 d_M_writesTrail_44 ?_
          refine lv_goto (tgt := 49) hx hb d_M_writesTrail_45 (by decide) ?_
          obtain ⟨c7, hf⟩ := io_n hf
          refine x_iast hx hb hK hP hD hS 5 0 rfl rfl (j := ((9 * x2) + x3).toNatClampNeg) rfl c7 d_M_writesTrail_49 (fun H locs hP hD hS => ?_)
          have hP : va_P D classes (w_M_writesTrail cI cJ cC a_h a_h_refused a_h_kind a_h_sweets a_h_gives a_h_tape a_h_letter a_h_letterAt a_h_one a_h_two a_h_kept a_h_trail a_h_crumb a_h_nextCrumb a_h_goal a_h_start a_h_sits a_h_bestSits a_h_without a_h_row y_h_taped y_h_at y_h_statements y_h_hasImage y_h_beforeMany y_h_found y_h_lots y_h_rowMany (m_many z_h_T) (m_odd z_h_T) (m_step z_h_T) (m_bag z_h_T) (m_strokes z_h_T) (m_gave z_h_T) (m_threw z_h_T) (m_isKeeping z_h_T) (m_cursor z_h_T) (m_kind z_h_T) (m_sweets z_h_T) (m_gives z_h_T) (m_kept z_h_T) (upd z_h_trail ((9 * x2) + x3).toNatClampNeg ((m_sweets z_h_T) x3.toNatClampNeg))) H := hP
          have hD : va_D A (w_M_writesTrail cI cJ cC a_h a_h_refused a_h_kind a_h_sweets a_h_gives a_h_tape a_h_letter a_h_letterAt a_h_one a_h_two a_h_kept a_h_trail a_h_crumb a_h_nextCrumb a_h_goal a_h_start a_h_sits a_h_bestSits a_h_without a_h_row y_h_taped y_h_at y_h_statements y_h_hasImage y_h_beforeMany y_h_found y_h_lots y_h_rowMany (m_many z_h_T) (m_odd z_h_T) (m_step z_h_T) (m_bag z_h_T) (m_strokes z_h_T) (m_gave z_h_T) (m_threw z_h_T) (m_isKeeping z_h_T) (m_cursor z_h_T) (m_kind z_h_T) (m_sweets z_h_T) (m_gives z_h_T) (m_kept z_h_T) (upd z_h_trail ((9 * x2) + x3).toNatClampNeg ((m_sweets z_h_T) x3.toNatClampNeg))) := hD
          refine lv_iinc (v := (x3 + 1)) (lv' := [(3, .int (x3 + 1)), (0, .ref a_h), (1, .int x1), (2, .int x2)]) hx hb d_M_writesTrail_50 hl (k := 3) rfl (by rfl) (by decide) rfl (fun ls hl => ?_)
          refine lv_goto (tgt := 15) hx hb d_M_writesTrail_53 (by decide) ?_
          exact ih (upd z_h_trail ((9 * x2) + x3).toNatClampNeg ((m_sweets z_h_T) x3.toNatClampNeg)) (x3 + 1) _ _ _ hf hP hD hS (lv_sub hl [1, 2, 3, 0] rfl)
  have L8 : ∀ k : MT → (Nat → Int32) → Option (MT × (Nat → Int32)), (∀ (z_h_T : MT) (z_h_trail : (Nat → Int32)) (H : Heap) (locs : List Loc) (ls : Array Slot), k z_h_T z_h_trail = some q → va_P D classes (w_M_writesTrail cI cJ cC a_h a_h_refused a_h_kind a_h_sweets a_h_gives a_h_tape a_h_letter a_h_letterAt a_h_one a_h_two a_h_kept a_h_trail a_h_crumb a_h_nextCrumb a_h_goal a_h_start a_h_sits a_h_bestSits a_h_without a_h_row y_h_taped y_h_at y_h_statements y_h_hasImage y_h_beforeMany y_h_found y_h_lots y_h_rowMany (m_many z_h_T) (m_odd z_h_T) (m_step z_h_T) (m_bag z_h_T) (m_strokes z_h_T) (m_gave z_h_T) (m_threw z_h_T) (m_isKeeping z_h_T) (m_cursor z_h_T) (m_kind z_h_T) (m_sweets z_h_T) (m_gives z_h_T) (m_kept z_h_T) z_h_trail) H → va_D A (w_M_writesTrail cI cJ cC a_h a_h_refused a_h_kind a_h_sweets a_h_gives a_h_tape a_h_letter a_h_letterAt a_h_one a_h_two a_h_kept a_h_trail a_h_crumb a_h_nextCrumb a_h_goal a_h_start a_h_sits a_h_bestSits a_h_without a_h_row y_h_taped y_h_at y_h_statements y_h_hasImage y_h_beforeMany y_h_found y_h_lots y_h_rowMany (m_many z_h_T) (m_odd z_h_T) (m_step z_h_T) (m_bag z_h_T) (m_strokes z_h_T) (m_gave z_h_T) (m_threw z_h_T) (m_isKeeping z_h_T) (m_cursor z_h_T) (m_kind z_h_T) (m_sweets z_h_T) (m_gives z_h_T) (m_kept z_h_T) z_h_trail) → va_S A s.heap H locs → lv_has ls 4 [(0, .ref a_h)] → W p l e (xRm 3 66) s m args below meth c H locs 0 0 Q (F0 m 87 ls [])) → ∀ (n : Nat) (z_h_T : MT) (z_h_trail : (Nat → Int32)) (x2 : Int32) (H : Heap) (locs : List Loc) (ls : Array Slot), f_M_writesTrail_L8 x1 k n z_h_T z_h_trail x2 = some q → va_P D classes (w_M_writesTrail cI cJ cC a_h a_h_refused a_h_kind a_h_sweets a_h_gives a_h_tape a_h_letter a_h_letterAt a_h_one a_h_two a_h_kept a_h_trail a_h_crumb a_h_nextCrumb a_h_goal a_h_start a_h_sits a_h_bestSits a_h_without a_h_row y_h_taped y_h_at y_h_statements y_h_hasImage y_h_beforeMany y_h_found y_h_lots y_h_rowMany (m_many z_h_T) (m_odd z_h_T) (m_step z_h_T) (m_bag z_h_T) (m_strokes z_h_T) (m_gave z_h_T) (m_threw z_h_T) (m_isKeeping z_h_T) (m_cursor z_h_T) (m_kind z_h_T) (m_sweets z_h_T) (m_gives z_h_T) (m_kept z_h_T) z_h_trail) H → va_D A (w_M_writesTrail cI cJ cC a_h a_h_refused a_h_kind a_h_sweets a_h_gives a_h_tape a_h_letter a_h_letterAt a_h_one a_h_two a_h_kept a_h_trail a_h_crumb a_h_nextCrumb a_h_goal a_h_start a_h_sits a_h_bestSits a_h_without a_h_row y_h_taped y_h_at y_h_statements y_h_hasImage y_h_beforeMany y_h_found y_h_lots y_h_rowMany (m_many z_h_T) (m_odd z_h_T) (m_step z_h_T) (m_bag z_h_T) (m_strokes z_h_T) (m_gave z_h_T) (m_threw z_h_T) (m_isKeeping z_h_T) (m_cursor z_h_T) (m_kind z_h_T) (m_sweets z_h_T) (m_gives z_h_T) (m_kept z_h_T) z_h_trail) → va_S A s.heap H locs → lv_has ls 4 [(0, .ref a_h), (1, .int x1), (2, .int x2)] → W p l e (xRm 3 66) s m args below meth c H locs 0 0 Q (F0 m 8 ls []) := by
    intro k hk n
    induction n with
    | zero => intro z_h_T z_h_trail x2 H locs ls hf hP hD hS hl; exact nomatch (show (none : Option (MT × (Nat → Int32))) = some q from hf)
    | succ n ih =>
      intro z_h_T z_h_trail x2 H locs ls hf hP hD hS hl
      refine lv_iload_n hx hb d_M_writesTrail_8 rfl (lv_at hl 2 rfl) ?_
      refine lv_iload_n hx hb d_M_writesTrail_9 rfl (lv_at hl 1 rfl) ?_
      refine lv_icmp_gt (tgt := 87) hx hb d_M_writesTrail_10 (by decide) (fun c2 => ?_) (fun c2 => ?_)
      · have hf := io_t hf c2
        exact hk z_h_T z_h_trail _ _ _ hf hP hD hS (lv_sub hl [0] rfl)
      · have hf := io_f hf c2
        refine lv_iconst (v := 0) hx hb d_M_writesTrail_13 (by decide) ?_
        refine lv_istore_n (lv' := [(3, .int 0), (0, .ref a_h), (1, .int x1), (2, .int x2)]) hx hb d_M_writesTrail_14 rfl hl (by decide) rfl (fun ls hl => ?_)
        refine L15 z_h_T x2 _ (fun z_h_trail_8 H locs ls hf hP hD hS hl => ?_) FU z_h_trail 0 _ _ _ hf hP hD hS (lv_sub hl [1, 2, 3, 0] rfl)
        refine lv_aload_n hx hb d_M_writesTrail_56 rfl (lv_at hl 0 rfl) ?_
        refine va_get hx hb hT i_M hown hK hP 0 rfl rfl 23 (Nat.le_of_ble_eq_true rfl) (hT _ k_781) (fun _ h => h) rfl d_M_writesTrail_57 ?_
        refine lv_bipush (v := 9) hx hb d_M_writesTrail_60 (by decide) ?_
        refine lv_iload_n hx hb d_M_writesTrail_62 rfl (lv_at hl 2 rfl) ?_
        refine lv_imul hx hb d_M_writesTrail_63 ?_
        refine lv_bipush (v := 8) hx hb d_M_writesTrail_64 (by decide) ?_
        refine lv_iadd hx hb d_M_writesTrail_66 ?_
        refine lv_aload_n hx hb d_M_writesTrail_67 rfl (lv_at hl 0 rfl) ?_
        refine va_get hx hb hT i_M hown hK hP 0 rfl rfl 7 (Nat.le_of_ble_eq_true rfl) (hT _ k_765) (fun _ h => h) rfl d_M_writesTrail_68 ?_
        obtain ⟨c9, hf⟩ := io_n hf
        refine x_iast hx hb hK hP hD hS 5 0 rfl rfl (j := ((9 * x2) + 8).toNatClampNeg) rfl c9 d_M_writesTrail_71 (fun H locs hP hD hS => ?_)
        have hP : va_P D classes (w_M_writesTrail cI cJ cC a_h a_h_refused a_h_kind a_h_sweets a_h_gives a_h_tape a_h_letter a_h_letterAt a_h_one a_h_two a_h_kept a_h_trail a_h_crumb a_h_nextCrumb a_h_goal a_h_start a_h_sits a_h_bestSits a_h_without a_h_row y_h_taped y_h_at y_h_statements y_h_hasImage y_h_beforeMany y_h_found y_h_lots y_h_rowMany (m_many z_h_T) (m_odd z_h_T) (m_step z_h_T) (m_bag z_h_T) (m_strokes z_h_T) (m_gave z_h_T) (m_threw z_h_T) (m_isKeeping z_h_T) (m_cursor z_h_T) (m_kind z_h_T) (m_sweets z_h_T) (m_gives z_h_T) (m_kept z_h_T) (upd z_h_trail_8 ((9 * x2) + 8).toNatClampNeg (m_bag z_h_T))) H := hP
        have hD : va_D A (w_M_writesTrail cI cJ cC a_h a_h_refused a_h_kind a_h_sweets a_h_gives a_h_tape a_h_letter a_h_letterAt a_h_one a_h_two a_h_kept a_h_trail a_h_crumb a_h_nextCrumb a_h_goal a_h_start a_h_sits a_h_bestSits a_h_without a_h_row y_h_taped y_h_at y_h_statements y_h_hasImage y_h_beforeMany y_h_found y_h_lots y_h_rowMany (m_many z_h_T) (m_odd z_h_T) (m_step z_h_T) (m_bag z_h_T) (m_strokes z_h_T) (m_gave z_h_T) (m_threw z_h_T) (m_isKeeping z_h_T) (m_cursor z_h_T) (m_kind z_h_T) (m_sweets z_h_T) (m_gives z_h_T) (m_kept z_h_T) (upd z_h_trail_8 ((9 * x2) + 8).toNatClampNeg (m_bag z_h_T))) := hD
        refine lv_iload_n hx hb d_M_writesTrail_72 rfl (lv_at hl 2 rfl) ?_
        refine lv_iload_n hx hb d_M_writesTrail_73 rfl (lv_at hl 1 rfl) ?_
        refine lv_icmp_ge (tgt := 81) hx hb d_M_writesTrail_74 (by decide) (fun c10 => ?_) (fun c10 => ?_)
        · have hf := io_t hf c10
          refine lv_iinc (v := (x2 + 1)) (lv' := [(2, .int (x2 + 1)), (0, .ref a_h), (1, .int x1)]) hx hb d_M_writesTrail_81 hl (k := 2) rfl (by rfl) (by decide) rfl (fun ls hl => ?_)
          refine lv_goto (tgt := 8) hx hb d_M_writesTrail_84 (by decide) ?_
          exact ih z_h_T (upd z_h_trail_8 ((9 * x2) + 8).toNatClampNeg (m_bag z_h_T)) (x2 + 1) _ _ _ hf hP hD hS (lv_sub hl [1, 2, 0] rfl)
        · have hf := io_f hf c10
          refine lv_aload_n hx hb d_M_writesTrail_77 rfl (lv_at hl 0 rfl) ?_
          obtain ⟨q11, hq11, hf⟩ := io_b hf
          refine xcVV (wc := (w_M_goesOnce cI cJ cC a_h a_h_refused a_h_kind a_h_sweets a_h_gives a_h_tape a_h_letter a_h_letterAt a_h_one a_h_two a_h_kept a_h_trail a_h_crumb a_h_nextCrumb a_h_goal a_h_start a_h_sits a_h_bestSits a_h_without a_h_row y_h_taped y_h_at y_h_statements y_h_hasImage y_h_beforeMany y_h_found y_h_lots y_h_rowMany (m_many z_h_T) (m_odd z_h_T) (m_step z_h_T) (m_bag z_h_T) (m_strokes z_h_T) (m_gave z_h_T) (m_threw z_h_T) (m_isKeeping z_h_T) (m_cursor z_h_T) (m_kind z_h_T) (m_sweets z_h_T) (m_gives z_h_T) (m_kept z_h_T))) (wc' := (w_M_goesOnce cI cJ cC a_h a_h_refused a_h_kind a_h_sweets a_h_gives a_h_tape a_h_letter a_h_letterAt a_h_one a_h_two a_h_kept a_h_trail a_h_crumb a_h_nextCrumb a_h_goal a_h_start a_h_sits a_h_bestSits a_h_without a_h_row y_h_taped y_h_at y_h_statements y_h_hasImage y_h_beforeMany y_h_found y_h_lots y_h_rowMany (m_many q11) (m_odd q11) (m_step q11) (m_bag q11) (m_strokes q11) (m_gave q11) (m_threw q11) (m_isKeeping q11) (m_cursor q11) (m_kind q11) (m_sweets q11) (m_gives q11) (m_kept q11))) (ws' := (w_M_writesTrail cI cJ cC a_h a_h_refused a_h_kind a_h_sweets a_h_gives a_h_tape a_h_letter a_h_letterAt a_h_one a_h_two a_h_kept a_h_trail a_h_crumb a_h_nextCrumb a_h_goal a_h_start a_h_sits a_h_bestSits a_h_without a_h_row y_h_taped y_h_at y_h_statements y_h_hasImage y_h_beforeMany y_h_found y_h_lots y_h_rowMany (m_many q11) (m_odd q11) (m_step q11) (m_bag q11) (m_strokes q11) (m_gave q11) (m_threw q11) (m_isKeeping q11) (m_cursor q11) (m_kind q11) (m_sweets q11) (m_gives q11) (m_kept q11) (upd z_h_trail_8 ((9 * x2) + 8).toNatClampNeg (m_bag z_h_T)))) (As := []) (rest := []) hx hb hml hown hT (c_M_goesOnce (z_h_T := z_h_T) a_h a_h_refused a_h_kind a_h_sweets a_h_gives a_h_tape a_h_letter a_h_letterAt a_h_one a_h_two a_h_kept a_h_trail a_h_crumb a_h_nextCrumb a_h_goal a_h_start a_h_sits a_h_bestSits a_h_without a_h_row y_h_taped y_h_at y_h_statements y_h_hasImage y_h_beforeMany y_h_found y_h_lots y_h_rowMany hq11) k_968 k_970 ks_37 k_8 k_971 hd_M_goesOnce ⟨Nat.le_of_ble_eq_true rfl, Nat.le_of_ble_eq_true rfl⟩ xE0_ok trivial hA hK hP hD hS [0, 1, 2, 3, 4] [5] [1, 2, 3, 4, 5, 0] rfl rfl rfl rfl rfl rfl rfl rfl rfl rfl hl.1 rfl (Nat.le_of_ble_eq_true rfl) ⟨Nat.zero_le _, Nat.zero_le _⟩ d_M_writesTrail_78 (fun H locs hP hD hS => ?_)
          refine lv_iinc (v := (x2 + 1)) (lv' := [(2, .int (x2 + 1)), (0, .ref a_h), (1, .int x1)]) hx hb d_M_writesTrail_81 hl (k := 2) rfl (by rfl) (by decide) rfl (fun ls hl => ?_)
          refine lv_goto (tgt := 8) hx hb d_M_writesTrail_84 (by decide) ?_
          exact ih q11 (upd z_h_trail_8 ((9 * x2) + 8).toNatClampNeg (m_bag z_h_T)) (x2 + 1) _ _ _ hf hP hD hS (lv_sub hl [1, 2, 0] rfl)
  refine lv_aload_n hx hb d_M_writesTrail_0 rfl (lv_at hl 0 rfl) ?_
  refine lv_iconst (v := 1) hx hb d_M_writesTrail_1 (by decide) ?_
  refine lv_iconst (v := 1) hx hb d_M_writesTrail_2 (by decide) ?_
  obtain ⟨q1, hq1, hf⟩ := io_b hf
  refine xcVV (wc := (w_M_passesAll cI cJ cC a_h a_h_refused a_h_kind a_h_sweets a_h_gives a_h_tape a_h_letter a_h_letterAt a_h_one a_h_two a_h_kept a_h_trail a_h_crumb a_h_nextCrumb a_h_goal a_h_start a_h_sits a_h_bestSits a_h_without a_h_row y_h_taped y_h_at y_h_statements y_h_hasImage y_h_beforeMany y_h_found y_h_lots y_h_rowMany (m_many z_h_T) (m_odd z_h_T) (m_step z_h_T) (m_bag z_h_T) (m_strokes z_h_T) (m_gave z_h_T) (m_threw z_h_T) (m_isKeeping z_h_T) (m_cursor z_h_T) (m_kind z_h_T) (m_sweets z_h_T) (m_gives z_h_T) (m_kept z_h_T))) (wc' := (w_M_passesAll cI cJ cC a_h a_h_refused a_h_kind a_h_sweets a_h_gives a_h_tape a_h_letter a_h_letterAt a_h_one a_h_two a_h_kept a_h_trail a_h_crumb a_h_nextCrumb a_h_goal a_h_start a_h_sits a_h_bestSits a_h_without a_h_row y_h_taped y_h_at y_h_statements y_h_hasImage y_h_beforeMany y_h_found y_h_lots y_h_rowMany (m_many q1) (m_odd q1) (m_step q1) (m_bag q1) (m_strokes q1) (m_gave q1) (m_threw q1) (m_isKeeping q1) (m_cursor q1) (m_kind q1) (m_sweets q1) (m_gives q1) (m_kept q1))) (ws' := (w_M_writesTrail cI cJ cC a_h a_h_refused a_h_kind a_h_sweets a_h_gives a_h_tape a_h_letter a_h_letterAt a_h_one a_h_two a_h_kept a_h_trail a_h_crumb a_h_nextCrumb a_h_goal a_h_start a_h_sits a_h_bestSits a_h_without a_h_row y_h_taped y_h_at y_h_statements y_h_hasImage y_h_beforeMany y_h_found y_h_lots y_h_rowMany (m_many q1) (m_odd q1) (m_step q1) (m_bag q1) (m_strokes q1) (m_gave q1) (m_threw q1) (m_isKeeping q1) (m_cursor q1) (m_kind q1) (m_sweets q1) (m_gives q1) (m_kept q1) z_h_trail)) (As := [.int 1, .int 1]) (rest := []) hx hb hml hown hT (c_M_passesAll (z_h_T := z_h_T) a_h a_h_refused a_h_kind a_h_sweets a_h_gives a_h_tape a_h_letter a_h_letterAt a_h_one a_h_two a_h_kept a_h_trail a_h_crumb a_h_nextCrumb a_h_goal a_h_start a_h_sits a_h_bestSits a_h_without a_h_row y_h_taped y_h_at y_h_statements y_h_hasImage y_h_beforeMany y_h_found y_h_lots y_h_rowMany hq1) k_900 k_902 ks_28 k_8 k_903 hd_M_passesAll ⟨Nat.le_of_ble_eq_true rfl, Nat.le_of_ble_eq_true rfl⟩ xE0_ok trivial hA hK hP hD hS [0, 1, 2, 3, 4] [5] [1, 2, 3, 4, 5, 0] rfl rfl rfl rfl rfl rfl rfl rfl rfl rfl hl.1 rfl (Nat.le_of_ble_eq_true rfl) ⟨Nat.zero_le _, Nat.zero_le _⟩ d_M_writesTrail_3 (fun H locs hP hD hS => ?_)
  refine lv_iconst (v := 0) hx hb d_M_writesTrail_6 (by decide) ?_
  refine lv_istore_n (lv' := [(2, .int 0), (0, .ref a_h), (1, .int x1)]) hx hb d_M_writesTrail_7 rfl hl (by decide) rfl (fun ls hl => ?_)
  refine L8 _ (fun z_h_T_12 z_h_trail_12 H locs ls hf hP hD hS hl => ?_) FU q1 z_h_trail 0 _ _ _ hf hP hD hS (lv_sub hl [1, 2, 0] rfl)
  refine lv_aload_n hx hb d_M_writesTrail_87 rfl (lv_at hl 0 rfl) ?_
  refine lv_iconst (v := 1) hx hb d_M_writesTrail_88 (by decide) ?_
  refine lv_iconst (v := 0) hx hb d_M_writesTrail_89 (by decide) ?_
  obtain ⟨q13, hq13, hf⟩ := io_b hf
  refine xcVV (wc := (w_M_passesAll cI cJ cC a_h a_h_refused a_h_kind a_h_sweets a_h_gives a_h_tape a_h_letter a_h_letterAt a_h_one a_h_two a_h_kept a_h_trail a_h_crumb a_h_nextCrumb a_h_goal a_h_start a_h_sits a_h_bestSits a_h_without a_h_row y_h_taped y_h_at y_h_statements y_h_hasImage y_h_beforeMany y_h_found y_h_lots y_h_rowMany (m_many z_h_T_12) (m_odd z_h_T_12) (m_step z_h_T_12) (m_bag z_h_T_12) (m_strokes z_h_T_12) (m_gave z_h_T_12) (m_threw z_h_T_12) (m_isKeeping z_h_T_12) (m_cursor z_h_T_12) (m_kind z_h_T_12) (m_sweets z_h_T_12) (m_gives z_h_T_12) (m_kept z_h_T_12))) (wc' := (w_M_passesAll cI cJ cC a_h a_h_refused a_h_kind a_h_sweets a_h_gives a_h_tape a_h_letter a_h_letterAt a_h_one a_h_two a_h_kept a_h_trail a_h_crumb a_h_nextCrumb a_h_goal a_h_start a_h_sits a_h_bestSits a_h_without a_h_row y_h_taped y_h_at y_h_statements y_h_hasImage y_h_beforeMany y_h_found y_h_lots y_h_rowMany (m_many q13) (m_odd q13) (m_step q13) (m_bag q13) (m_strokes q13) (m_gave q13) (m_threw q13) (m_isKeeping q13) (m_cursor q13) (m_kind q13) (m_sweets q13) (m_gives q13) (m_kept q13))) (ws' := (w_M_writesTrail cI cJ cC a_h a_h_refused a_h_kind a_h_sweets a_h_gives a_h_tape a_h_letter a_h_letterAt a_h_one a_h_two a_h_kept a_h_trail a_h_crumb a_h_nextCrumb a_h_goal a_h_start a_h_sits a_h_bestSits a_h_without a_h_row y_h_taped y_h_at y_h_statements y_h_hasImage y_h_beforeMany y_h_found y_h_lots y_h_rowMany (m_many q13) (m_odd q13) (m_step q13) (m_bag q13) (m_strokes q13) (m_gave q13) (m_threw q13) (m_isKeeping q13) (m_cursor q13) (m_kind q13) (m_sweets q13) (m_gives q13) (m_kept q13) z_h_trail_12)) (As := [.int 1, .int 0]) (rest := []) hx hb hml hown hT (c_M_passesAll (z_h_T := z_h_T_12) a_h a_h_refused a_h_kind a_h_sweets a_h_gives a_h_tape a_h_letter a_h_letterAt a_h_one a_h_two a_h_kept a_h_trail a_h_crumb a_h_nextCrumb a_h_goal a_h_start a_h_sits a_h_bestSits a_h_without a_h_row y_h_taped y_h_at y_h_statements y_h_hasImage y_h_beforeMany y_h_found y_h_lots y_h_rowMany hq13) k_900 k_902 ks_28 k_8 k_903 hd_M_passesAll ⟨Nat.le_of_ble_eq_true rfl, Nat.le_of_ble_eq_true rfl⟩ xE0_ok trivial hA hK hP hD hS [0, 1, 2, 3, 4] [5] [1, 2, 3, 4, 5, 0] rfl rfl rfl rfl rfl rfl rfl rfl rfl rfl hl.1 rfl (Nat.le_of_ble_eq_true rfl) ⟨Nat.zero_le _, Nat.zero_le _⟩ d_M_writesTrail_90 (fun H locs hP hD hS => ?_)
  have hq := Option.some.inj hf
  subst hq
  exact hret _ _ _ _ d_M_writesTrail_93 hP hD hS
abbrev w_M_areSame (cI cJ cC : ClassId) (a_h a_h_refused a_h_kind a_h_sweets a_h_gives a_h_tape a_h_letter a_h_letterAt a_h_one a_h_two a_h_kept a_h_trail a_h_crumb a_h_nextCrumb a_h_goal a_h_start a_h_sits a_h_bestSits a_h_without a_h_row : Nat) (y_h_many : Int32) (y_h_odd : Int32) (y_h_step : Int32) (y_h_bag : Int32) (y_h_strokes : Int32) (y_h_gave : Int32) (y_h_threw : Int32) (y_h_taped : Int32) (y_h_at : Int32) (y_h_statements : Int32) (y_h_hasImage : Int32) (y_h_isKeeping : Int32) (y_h_cursor : Int32) (y_h_beforeMany : Int32) (y_h_found : Int32) (y_h_lots : Int32) (y_h_rowMany : Int32) (p_h_trail : (Nat → Int32)) : va_W := [(a_h, .inr (7, [.ref a_h_refused, .ref a_h_kind, .ref a_h_sweets, .ref a_h_gives, .int y_h_many, .int y_h_odd, .int y_h_step, .int y_h_bag, .int y_h_strokes, .int y_h_gave, .int y_h_threw, .ref a_h_tape, .ref a_h_letter, .ref a_h_letterAt, .ref a_h_one, .ref a_h_two, .int y_h_taped, .int y_h_at, .int y_h_statements, .ref a_h_kept, .int y_h_hasImage, .int y_h_isKeeping, .int y_h_cursor, .ref a_h_trail, .ref a_h_crumb, .ref a_h_nextCrumb, .ref a_h_goal, .ref a_h_start, .int y_h_beforeMany, .int y_h_found, .ref a_h_sits, .ref a_h_bestSits, .ref a_h_without, .int y_h_lots, .ref a_h_row, .int y_h_rowMany])), (a_h_trail, .inl (cI, (1827, .inl p_h_trail)))]
theorem d_M_areSame_0 : decode b_M_areSame 0 = .ok (.iconst 0, 1) := by decide +kernel
theorem d_M_areSame_1 : decode b_M_areSame 1 = .ok (.istore 4, 2) := by decide +kernel
theorem d_M_areSame_3 : decode b_M_areSame 3 = .ok (.iload 4, 2) := by decide +kernel
theorem d_M_areSame_5 : decode b_M_areSame 5 = .ok (.iload_n 3, 1) := by decide +kernel
theorem d_M_areSame_6 : decode b_M_areSame 6 = .ok (.if_icmp .ge 38, 3) := by decide +kernel
theorem d_M_areSame_9 : decode b_M_areSame 9 = .ok (.aload_n 0, 1) := by decide +kernel
theorem d_M_areSame_10 : decode b_M_areSame 10 = .ok (.getfield 47, 3) := by decide +kernel
theorem d_M_areSame_13 : decode b_M_areSame 13 = .ok (.bipush 9, 2) := by decide +kernel
theorem d_M_areSame_15 : decode b_M_areSame 15 = .ok (.iload_n 1, 1) := by decide +kernel
theorem d_M_areSame_16 : decode b_M_areSame 16 = .ok (.imul, 1) := by decide +kernel
theorem d_M_areSame_17 : decode b_M_areSame 17 = .ok (.iload 4, 2) := by decide +kernel
theorem d_M_areSame_19 : decode b_M_areSame 19 = .ok (.iadd, 1) := by decide +kernel
theorem d_M_areSame_20 : decode b_M_areSame 20 = .ok (.iaload, 1) := by decide +kernel
theorem d_M_areSame_21 : decode b_M_areSame 21 = .ok (.aload_n 0, 1) := by decide +kernel
theorem d_M_areSame_22 : decode b_M_areSame 22 = .ok (.getfield 47, 3) := by decide +kernel
theorem d_M_areSame_25 : decode b_M_areSame 25 = .ok (.bipush 9, 2) := by decide +kernel
theorem d_M_areSame_27 : decode b_M_areSame 27 = .ok (.iload_n 2, 1) := by decide +kernel
theorem d_M_areSame_28 : decode b_M_areSame 28 = .ok (.imul, 1) := by decide +kernel
theorem d_M_areSame_29 : decode b_M_areSame 29 = .ok (.iload 4, 2) := by decide +kernel
theorem d_M_areSame_31 : decode b_M_areSame 31 = .ok (.iadd, 1) := by decide +kernel
theorem d_M_areSame_32 : decode b_M_areSame 32 = .ok (.iaload, 1) := by decide +kernel
theorem d_M_areSame_33 : decode b_M_areSame 33 = .ok (.if_icmp .eq 5, 3) := by decide +kernel
theorem d_M_areSame_36 : decode b_M_areSame 36 = .ok (.iconst 0, 1) := by decide +kernel
theorem d_M_areSame_37 : decode b_M_areSame 37 = .ok (.ireturn, 1) := by decide +kernel
theorem d_M_areSame_38 : decode b_M_areSame 38 = .ok (.iinc 4 1, 3) := by decide +kernel
theorem d_M_areSame_41 : decode b_M_areSame 41 = .ok (.goto (-38), 3) := by decide +kernel
theorem d_M_areSame_44 : decode b_M_areSame 44 = .ok (.iconst 1, 1) := by decide +kernel
theorem d_M_areSame_45 : decode b_M_areSame 45 = .ok (.ireturn, 1) := by decide +kernel
set_option maxHeartbeats 4000000 in
set_option maxRecDepth 100000 in
theorem c_M_areSame {l : Launch} {D : va_G} {cI cJ cC : ClassId} (a_h a_h_refused a_h_kind a_h_sweets a_h_gives a_h_tape a_h_letter a_h_letterAt a_h_one a_h_two a_h_kept a_h_trail a_h_crumb a_h_nextCrumb a_h_goal a_h_start a_h_sits a_h_bestSits a_h_without a_h_row : Nat) (y_h_many : Int32) (y_h_odd : Int32) (y_h_step : Int32) (y_h_bag : Int32) (y_h_strokes : Int32) (y_h_gave : Int32) (y_h_threw : Int32) (y_h_taped : Int32) (y_h_at : Int32) (y_h_statements : Int32) (y_h_hasImage : Int32) (y_h_isKeeping : Int32) (y_h_cursor : Int32) (y_h_beforeMany : Int32) (y_h_found : Int32) (y_h_lots : Int32) (y_h_rowMany : Int32) {z_h_trail : (Nat → Int32)} {x1 : Int32} {x2 : Int32} {x3 : Int32} {q : Int32} (hf : f_M_areSame z_h_trail x1 x2 x3 = some q) : xI l y_M_areSame b_M_areSame 5 .boolean 0 0 D (tyK cI cJ cC) xE0 [.ref a_h, .int x1, .int x2, .int x3] (w_M_areSame cI cJ cC a_h a_h_refused a_h_kind a_h_sweets a_h_gives a_h_tape a_h_letter a_h_letterAt a_h_one a_h_two a_h_kept a_h_trail a_h_crumb a_h_nextCrumb a_h_goal a_h_start a_h_sits a_h_bestSits a_h_without a_h_row y_h_many y_h_odd y_h_step y_h_bag y_h_strokes y_h_gave y_h_threw y_h_taped y_h_at y_h_statements y_h_hasImage y_h_isKeeping y_h_cursor y_h_beforeMany y_h_found y_h_lots y_h_rowMany z_h_trail) q (w_M_areSame cI cJ cC a_h a_h_refused a_h_kind a_h_sweets a_h_gives a_h_tape a_h_letter a_h_letterAt a_h_one a_h_two a_h_kept a_h_trail a_h_crumb a_h_nextCrumb a_h_goal a_h_start a_h_sits a_h_bestSits a_h_without a_h_row y_h_many y_h_odd y_h_step y_h_bag y_h_strokes y_h_gave y_h_threw y_h_taped y_h_at y_h_statements y_h_hasImage y_h_isKeeping y_h_cursor y_h_beforeMany y_h_found y_h_lots y_h_rowMany z_h_trail) := by
  refine xI_of (by decide) (Nat.le_of_ble_eq_true rfl) ?_
  intro p e s m args below meth c A Q hx hb hml hown hT hA hP hD hK hS hE hret ls hl
  have hown : s.vm.findClass R_M = some m.cls := hown
  have hl : lv_has ls 5 [(0, .ref a_h), (1, .int x1), (2, .int x2), (3, .int x3)] := hl
  unfold f_M_areSame at hf
  have L3 : ∀ (n : Nat) (x4 : Int32) (H : Heap) (locs : List Loc) (ls : Array Slot), f_M_areSame_L3 z_h_trail x1 x2 x3 n x4 = some q → va_P D classes (w_M_areSame cI cJ cC a_h a_h_refused a_h_kind a_h_sweets a_h_gives a_h_tape a_h_letter a_h_letterAt a_h_one a_h_two a_h_kept a_h_trail a_h_crumb a_h_nextCrumb a_h_goal a_h_start a_h_sits a_h_bestSits a_h_without a_h_row y_h_many y_h_odd y_h_step y_h_bag y_h_strokes y_h_gave y_h_threw y_h_taped y_h_at y_h_statements y_h_hasImage y_h_isKeeping y_h_cursor y_h_beforeMany y_h_found y_h_lots y_h_rowMany z_h_trail) H → va_D A (w_M_areSame cI cJ cC a_h a_h_refused a_h_kind a_h_sweets a_h_gives a_h_tape a_h_letter a_h_letterAt a_h_one a_h_two a_h_kept a_h_trail a_h_crumb a_h_nextCrumb a_h_goal a_h_start a_h_sits a_h_bestSits a_h_without a_h_row y_h_many y_h_odd y_h_step y_h_bag y_h_strokes y_h_gave y_h_threw y_h_taped y_h_at y_h_statements y_h_hasImage y_h_isKeeping y_h_cursor y_h_beforeMany y_h_found y_h_lots y_h_rowMany z_h_trail) → va_S A s.heap H locs → lv_has ls 5 [(0, .ref a_h), (1, .int x1), (2, .int x2), (3, .int x3), (4, .int x4)] → W p l e (xRm 0 0) s m args below meth c H locs 0 0 Q (F0 m 3 ls []) := by
    intro n
    induction n with
    | zero => intro x4 H locs ls hf hP hD hS hl; exact nomatch (show (none : Option (Int32)) = some q from hf)
    | succ n ih =>
      intro x4 H locs ls hf hP hD hS hl
      refine lv_iload hx hb d_M_areSame_3 (lv_at hl 4 rfl) ?_
      refine lv_iload_n hx hb d_M_areSame_5 rfl (lv_at hl 3 rfl) ?_
      refine lv_icmp_ge (tgt := 44) hx hb d_M_areSame_6 (by decide) (fun c1 => ?_) (fun c1 => ?_)
      · have hf := io_t hf c1
        refine lv_iconst (v := 1) hx hb d_M_areSame_44 (by decide) ?_
        have hq := Option.some.inj hf
        subst hq
        exact hret _ _ _ _ _ d_M_areSame_45 (by decide) rfl hP hD hS
      · have hf := io_f hf c1
        refine lv_aload_n hx hb d_M_areSame_9 rfl (lv_at hl 0 rfl) ?_
        refine va_get hx hb hT i_M hown hK hP 0 rfl rfl 23 (Nat.le_of_ble_eq_true rfl) (hT _ k_781) (fun _ h => h) rfl d_M_areSame_10 ?_
        refine lv_bipush (v := 9) hx hb d_M_areSame_13 (by decide) ?_
        refine lv_iload_n hx hb d_M_areSame_15 rfl (lv_at hl 1 rfl) ?_
        refine lv_imul hx hb d_M_areSame_16 ?_
        refine lv_iload hx hb d_M_areSame_17 (lv_at hl 4 rfl) ?_
        refine lv_iadd hx hb d_M_areSame_19 ?_
        obtain ⟨c2, hf⟩ := io_n hf
        refine x_iald hx hb hK hP 1 0 rfl rfl (j := ((9 * x1) + x4).toNatClampNeg) rfl c2 d_M_areSame_20 ?_
        refine lv_aload_n hx hb d_M_areSame_21 rfl (lv_at hl 0 rfl) ?_
        refine va_get hx hb hT i_M hown hK hP 0 rfl rfl 23 (Nat.le_of_ble_eq_true rfl) (hT _ k_781) (fun _ h => h) rfl d_M_areSame_22 ?_
        refine lv_bipush (v := 9) hx hb d_M_areSame_25 (by decide) ?_
        refine lv_iload_n hx hb d_M_areSame_27 rfl (lv_at hl 2 rfl) ?_
        refine lv_imul hx hb d_M_areSame_28 ?_
        refine lv_iload hx hb d_M_areSame_29 (lv_at hl 4 rfl) ?_
        refine lv_iadd hx hb d_M_areSame_31 ?_
        obtain ⟨c3, hf⟩ := io_n hf
        refine x_iald hx hb hK hP 1 0 rfl rfl (j := ((9 * x2) + x4).toNatClampNeg) rfl c3 d_M_areSame_32 ?_
        refine lv_icmp_eq (tgt := 38) hx hb d_M_areSame_33 (by decide) (fun c4 => ?_) (fun c4 => ?_)
        · have hf := io_t hf c4
          refine lv_iinc (v := (x4 + 1)) (lv' := [(4, .int (x4 + 1)), (0, .ref a_h), (1, .int x1), (2, .int x2), (3, .int x3)]) hx hb d_M_areSame_38 hl (k := 4) rfl (by rfl) (by decide) rfl (fun ls hl => ?_)
          refine lv_goto (tgt := 3) hx hb d_M_areSame_41 (by decide) ?_
          exact ih (x4 + 1) _ _ _ hf hP hD hS (lv_sub hl [1, 2, 3, 4, 0] rfl)
        · have hf := io_f hf c4
          refine lv_iconst (v := 0) hx hb d_M_areSame_36 (by decide) ?_
          have hq := Option.some.inj hf
          subst hq
          exact hret _ _ _ _ _ d_M_areSame_37 (by decide) rfl hP hD hS
  refine lv_iconst (v := 0) hx hb d_M_areSame_0 (by decide) ?_
  refine lv_istore (lv' := [(4, .int 0), (0, .ref a_h), (1, .int x1), (2, .int x2), (3, .int x3)]) hx hb d_M_areSame_1 hl (by decide) rfl (fun ls hl => ?_)
  exact L3 FU 0 _ _ _ hf hP hD hS (lv_sub hl [1, 2, 3, 4, 0] rfl)
