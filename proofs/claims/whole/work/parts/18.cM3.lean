/-! Contracts: M3. Printed by wip/whole/gen. -/
abbrev w_M_areAlike (cI cJ cC : ClassId) (a_h a_h_refused a_h_kind a_h_sweets a_h_gives a_h_tape a_h_letter a_h_letterAt a_h_one a_h_two a_h_kept a_h_trail a_h_crumb a_h_nextCrumb a_h_goal a_h_start a_h_sits a_h_bestSits a_h_without a_h_row : Nat) (y_h_taped : Int32) (y_h_at : Int32) (y_h_statements : Int32) (y_h_hasImage : Int32) (y_h_beforeMany : Int32) (y_h_found : Int32) (y_h_lots : Int32) (y_h_rowMany : Int32) (p_h_many : Int32) (p_h_odd : Int32) (p_h_step : Int32) (p_h_bag : Int32) (p_h_strokes : Int32) (p_h_gave : Int32) (p_h_threw : Int32) (p_h_isKeeping : Int32) (p_h_cursor : Int32) (p_h_trail : (Nat → Int32)) : va_W := [(a_h, .inr (7, [.ref a_h_refused, .ref a_h_kind, .ref a_h_sweets, .ref a_h_gives, .int p_h_many, .int p_h_odd, .int p_h_step, .int p_h_bag, .int p_h_strokes, .int p_h_gave, .int p_h_threw, .ref a_h_tape, .ref a_h_letter, .ref a_h_letterAt, .ref a_h_one, .ref a_h_two, .int y_h_taped, .int y_h_at, .int y_h_statements, .ref a_h_kept, .int y_h_hasImage, .int p_h_isKeeping, .int p_h_cursor, .ref a_h_trail, .ref a_h_crumb, .ref a_h_nextCrumb, .ref a_h_goal, .ref a_h_start, .int y_h_beforeMany, .int y_h_found, .ref a_h_sits, .ref a_h_bestSits, .ref a_h_without, .int y_h_lots, .ref a_h_row, .int y_h_rowMany])), (a_h_trail, .inl (cI, (1827, .inl p_h_trail)))]
theorem d_M_areAlike_0 : decode b_M_areAlike 0 = .ok (.iconst 1, 1) := by decide +kernel
theorem d_M_areAlike_1 : decode b_M_areAlike 1 = .ok (.istore_n 2, 1) := by decide +kernel
theorem d_M_areAlike_2 : decode b_M_areAlike 2 = .ok (.iload_n 2, 1) := by decide +kernel
theorem d_M_areAlike_3 : decode b_M_areAlike 3 = .ok (.aload_n 0, 1) := by decide +kernel
theorem d_M_areAlike_4 : decode b_M_areAlike 4 = .ok (.getfield 78, 3) := by decide +kernel
theorem d_M_areAlike_7 : decode b_M_areAlike 7 = .ok (.if_icmp .ge 34, 3) := by decide +kernel
theorem d_M_areAlike_10 : decode b_M_areAlike 10 = .ok (.aload_n 0, 1) := by decide +kernel
theorem d_M_areAlike_11 : decode b_M_areAlike 11 = .ok (.getfield 47, 3) := by decide +kernel
theorem d_M_areAlike_14 : decode b_M_areAlike 14 = .ok (.bipush 9, 2) := by decide +kernel
theorem d_M_areAlike_16 : decode b_M_areAlike 16 = .ok (.iload_n 1, 1) := by decide +kernel
theorem d_M_areAlike_17 : decode b_M_areAlike 17 = .ok (.imul, 1) := by decide +kernel
theorem d_M_areAlike_18 : decode b_M_areAlike 18 = .ok (.iload_n 2, 1) := by decide +kernel
theorem d_M_areAlike_19 : decode b_M_areAlike 19 = .ok (.iadd, 1) := by decide +kernel
theorem d_M_areAlike_20 : decode b_M_areAlike 20 = .ok (.iaload, 1) := by decide +kernel
theorem d_M_areAlike_21 : decode b_M_areAlike 21 = .ok (.aload_n 0, 1) := by decide +kernel
theorem d_M_areAlike_22 : decode b_M_areAlike 22 = .ok (.getfield 47, 3) := by decide +kernel
theorem d_M_areAlike_25 : decode b_M_areAlike 25 = .ok (.bipush 9, 2) := by decide +kernel
theorem d_M_areAlike_27 : decode b_M_areAlike 27 = .ok (.iload_n 1, 1) := by decide +kernel
theorem d_M_areAlike_28 : decode b_M_areAlike 28 = .ok (.imul, 1) := by decide +kernel
theorem d_M_areAlike_29 : decode b_M_areAlike 29 = .ok (.iaload, 1) := by decide +kernel
theorem d_M_areAlike_30 : decode b_M_areAlike 30 = .ok (.if_icmp .eq 5, 3) := by decide +kernel
theorem d_M_areAlike_33 : decode b_M_areAlike 33 = .ok (.iconst 0, 1) := by decide +kernel
theorem d_M_areAlike_34 : decode b_M_areAlike 34 = .ok (.ireturn, 1) := by decide +kernel
theorem d_M_areAlike_35 : decode b_M_areAlike 35 = .ok (.iinc 2 1, 3) := by decide +kernel
theorem d_M_areAlike_38 : decode b_M_areAlike 38 = .ok (.goto (-36), 3) := by decide +kernel
theorem d_M_areAlike_41 : decode b_M_areAlike 41 = .ok (.iconst 1, 1) := by decide +kernel
theorem d_M_areAlike_42 : decode b_M_areAlike 42 = .ok (.ireturn, 1) := by decide +kernel
set_option maxHeartbeats 4000000 in
set_option maxRecDepth 100000 in
theorem c_M_areAlike {l : Launch} {D : va_G} {cI cJ cC : ClassId} (a_h a_h_refused a_h_kind a_h_sweets a_h_gives a_h_tape a_h_letter a_h_letterAt a_h_one a_h_two a_h_kept a_h_trail a_h_crumb a_h_nextCrumb a_h_goal a_h_start a_h_sits a_h_bestSits a_h_without a_h_row : Nat) (y_h_taped : Int32) (y_h_at : Int32) (y_h_statements : Int32) (y_h_hasImage : Int32) (y_h_beforeMany : Int32) (y_h_found : Int32) (y_h_lots : Int32) (y_h_rowMany : Int32) {z_h_T : MT} {z_h_trail : (Nat → Int32)} {x1 : Int32} {q : Int32} (hf : f_M_areAlike z_h_T z_h_trail x1 = some q) : xI l y_M_areAlike b_M_areAlike 3 .boolean 0 0 D (tyK cI cJ cC) xE0 [.ref a_h, .int x1] (w_M_areAlike cI cJ cC a_h a_h_refused a_h_kind a_h_sweets a_h_gives a_h_tape a_h_letter a_h_letterAt a_h_one a_h_two a_h_kept a_h_trail a_h_crumb a_h_nextCrumb a_h_goal a_h_start a_h_sits a_h_bestSits a_h_without a_h_row y_h_taped y_h_at y_h_statements y_h_hasImage y_h_beforeMany y_h_found y_h_lots y_h_rowMany (m_many z_h_T) (m_odd z_h_T) (m_step z_h_T) (m_bag z_h_T) (m_strokes z_h_T) (m_gave z_h_T) (m_threw z_h_T) (m_isKeeping z_h_T) (m_cursor z_h_T) z_h_trail) q (w_M_areAlike cI cJ cC a_h a_h_refused a_h_kind a_h_sweets a_h_gives a_h_tape a_h_letter a_h_letterAt a_h_one a_h_two a_h_kept a_h_trail a_h_crumb a_h_nextCrumb a_h_goal a_h_start a_h_sits a_h_bestSits a_h_without a_h_row y_h_taped y_h_at y_h_statements y_h_hasImage y_h_beforeMany y_h_found y_h_lots y_h_rowMany (m_many z_h_T) (m_odd z_h_T) (m_step z_h_T) (m_bag z_h_T) (m_strokes z_h_T) (m_gave z_h_T) (m_threw z_h_T) (m_isKeeping z_h_T) (m_cursor z_h_T) z_h_trail) := by
  refine xI_of (by decide) (Nat.le_of_ble_eq_true rfl) ?_
  intro p e s m args below meth c A Q hx hb hml hown hT hA hP hD hK hS hE hret ls hl
  have hown : s.vm.findClass R_M = some m.cls := hown
  have hl : lv_has ls 3 [(0, .ref a_h), (1, .int x1)] := hl
  unfold f_M_areAlike at hf
  have L2 : ∀ (n : Nat) (x2 : Int32) (H : Heap) (locs : List Loc) (ls : Array Slot), f_M_areAlike_L2 z_h_T z_h_trail x1 n x2 = some q → va_P D classes (w_M_areAlike cI cJ cC a_h a_h_refused a_h_kind a_h_sweets a_h_gives a_h_tape a_h_letter a_h_letterAt a_h_one a_h_two a_h_kept a_h_trail a_h_crumb a_h_nextCrumb a_h_goal a_h_start a_h_sits a_h_bestSits a_h_without a_h_row y_h_taped y_h_at y_h_statements y_h_hasImage y_h_beforeMany y_h_found y_h_lots y_h_rowMany (m_many z_h_T) (m_odd z_h_T) (m_step z_h_T) (m_bag z_h_T) (m_strokes z_h_T) (m_gave z_h_T) (m_threw z_h_T) (m_isKeeping z_h_T) (m_cursor z_h_T) z_h_trail) H → va_D A (w_M_areAlike cI cJ cC a_h a_h_refused a_h_kind a_h_sweets a_h_gives a_h_tape a_h_letter a_h_letterAt a_h_one a_h_two a_h_kept a_h_trail a_h_crumb a_h_nextCrumb a_h_goal a_h_start a_h_sits a_h_bestSits a_h_without a_h_row y_h_taped y_h_at y_h_statements y_h_hasImage y_h_beforeMany y_h_found y_h_lots y_h_rowMany (m_many z_h_T) (m_odd z_h_T) (m_step z_h_T) (m_bag z_h_T) (m_strokes z_h_T) (m_gave z_h_T) (m_threw z_h_T) (m_isKeeping z_h_T) (m_cursor z_h_T) z_h_trail) → va_S A s.heap H locs → lv_has ls 3 [(0, .ref a_h), (1, .int x1), (2, .int x2)] → W p l e (xRm 0 0) s m args below meth c H locs 0 0 Q (F0 m 2 ls []) := by
    intro n
    induction n with
    | zero => intro x2 H locs ls hf hP hD hS hl; exact nomatch (show (none : Option (Int32)) = some q from hf)
    | succ n ih =>
      intro x2 H locs ls hf hP hD hS hl
      refine lv_iload_n hx hb d_M_areAlike_2 rfl (lv_at hl 2 rfl) ?_
      refine lv_aload_n hx hb d_M_areAlike_3 rfl (lv_at hl 0 rfl) ?_
      refine va_get hx hb hT i_M hown hK hP 0 rfl rfl 4 (Nat.le_of_ble_eq_true rfl) (hT _ k_762) (fun _ h => h) rfl d_M_areAlike_4 ?_
      refine lv_icmp_ge (tgt := 41) hx hb d_M_areAlike_7 (by decide) (fun c1 => ?_) (fun c1 => ?_)
      · have hf := io_t hf c1
        refine lv_iconst (v := 1) hx hb d_M_areAlike_41 (by decide) ?_
        have hq := Option.some.inj hf
        subst hq
        exact hret _ _ _ _ _ d_M_areAlike_42 (by decide) rfl hP hD hS
      · have hf := io_f hf c1
        refine lv_aload_n hx hb d_M_areAlike_10 rfl (lv_at hl 0 rfl) ?_
        refine va_get hx hb hT i_M hown hK hP 0 rfl rfl 23 (Nat.le_of_ble_eq_true rfl) (hT _ k_781) (fun _ h => h) rfl d_M_areAlike_11 ?_
        refine lv_bipush (v := 9) hx hb d_M_areAlike_14 (by decide) ?_
        refine lv_iload_n hx hb d_M_areAlike_16 rfl (lv_at hl 1 rfl) ?_
        refine lv_imul hx hb d_M_areAlike_17 ?_
        refine lv_iload_n hx hb d_M_areAlike_18 rfl (lv_at hl 2 rfl) ?_
        refine lv_iadd hx hb d_M_areAlike_19 ?_
        obtain ⟨c2, hf⟩ := io_n hf
        refine x_iald hx hb hK hP 1 0 rfl rfl (j := ((9 * x1) + x2).toNatClampNeg) rfl c2 d_M_areAlike_20 ?_
        refine lv_aload_n hx hb d_M_areAlike_21 rfl (lv_at hl 0 rfl) ?_
        refine va_get hx hb hT i_M hown hK hP 0 rfl rfl 23 (Nat.le_of_ble_eq_true rfl) (hT _ k_781) (fun _ h => h) rfl d_M_areAlike_22 ?_
        refine lv_bipush (v := 9) hx hb d_M_areAlike_25 (by decide) ?_
        refine lv_iload_n hx hb d_M_areAlike_27 rfl (lv_at hl 1 rfl) ?_
        refine lv_imul hx hb d_M_areAlike_28 ?_
        obtain ⟨c3, hf⟩ := io_n hf
        refine x_iald hx hb hK hP 1 0 rfl rfl (j := (9 * x1).toNatClampNeg) rfl c3 d_M_areAlike_29 ?_
        refine lv_icmp_eq (tgt := 35) hx hb d_M_areAlike_30 (by decide) (fun c4 => ?_) (fun c4 => ?_)
        · have hf := io_t hf c4
          refine lv_iinc (v := (x2 + 1)) (lv' := [(2, .int (x2 + 1)), (0, .ref a_h), (1, .int x1)]) hx hb d_M_areAlike_35 hl (k := 2) rfl (by rfl) (by decide) rfl (fun ls hl => ?_)
          refine lv_goto (tgt := 2) hx hb d_M_areAlike_38 (by decide) ?_
          exact ih (x2 + 1) _ _ _ hf hP hD hS (lv_sub hl [1, 2, 0] rfl)
        · have hf := io_f hf c4
          refine lv_iconst (v := 0) hx hb d_M_areAlike_33 (by decide) ?_
          have hq := Option.some.inj hf
          subst hq
          exact hret _ _ _ _ _ d_M_areAlike_34 (by decide) rfl hP hD hS
  refine lv_iconst (v := 1) hx hb d_M_areAlike_0 (by decide) ?_
  refine lv_istore_n (lv' := [(2, .int 1), (0, .ref a_h), (1, .int x1)]) hx hb d_M_areAlike_1 rfl hl (by decide) rfl (fun ls hl => ?_)
  exact L2 FU 1 _ _ _ hf hP hD hS (lv_sub hl [1, 2, 0] rfl)
abbrev w_M_rests (cI cJ cC : ClassId) (a_h a_h_refused a_h_kind a_h_sweets a_h_gives a_h_tape a_h_letter a_h_letterAt a_h_one a_h_two a_h_kept a_h_trail a_h_crumb a_h_nextCrumb a_h_goal a_h_start a_h_sits a_h_bestSits a_h_without a_h_row : Nat) (y_h_taped : Int32) (y_h_at : Int32) (y_h_statements : Int32) (y_h_hasImage : Int32) (y_h_beforeMany : Int32) (y_h_found : Int32) (y_h_lots : Int32) (y_h_rowMany : Int32) (p_h_many : Int32) (p_h_odd : Int32) (p_h_step : Int32) (p_h_bag : Int32) (p_h_strokes : Int32) (p_h_gave : Int32) (p_h_threw : Int32) (p_h_isKeeping : Int32) (p_h_cursor : Int32) (p_h_refused : (Nat → Int32)) (p_h_kind : (Nat → Int32)) (p_h_sweets : (Nat → Int32)) (p_h_gives : (Nat → Int32)) (p_h_kept : (Nat → Int32)) (p_h_trail : (Nat → Int32)) : va_W := [(a_h, .inr (7, [.ref a_h_refused, .ref a_h_kind, .ref a_h_sweets, .ref a_h_gives, .int p_h_many, .int p_h_odd, .int p_h_step, .int p_h_bag, .int p_h_strokes, .int p_h_gave, .int p_h_threw, .ref a_h_tape, .ref a_h_letter, .ref a_h_letterAt, .ref a_h_one, .ref a_h_two, .int y_h_taped, .int y_h_at, .int y_h_statements, .ref a_h_kept, .int y_h_hasImage, .int p_h_isKeeping, .int p_h_cursor, .ref a_h_trail, .ref a_h_crumb, .ref a_h_nextCrumb, .ref a_h_goal, .ref a_h_start, .int y_h_beforeMany, .int y_h_found, .ref a_h_sits, .ref a_h_bestSits, .ref a_h_without, .int y_h_lots, .ref a_h_row, .int y_h_rowMany])), (a_h_refused, .inl (cI, (7, .inl p_h_refused))), (a_h_kind, .inl (cI, (8, .inl p_h_kind))), (a_h_sweets, .inl (cI, (8, .inl p_h_sweets))), (a_h_gives, .inl (cI, (8, .inl p_h_gives))), (a_h_kept, .inl (cI, (90, .inl p_h_kept))), (a_h_trail, .inl (cI, (1827, .inl p_h_trail)))]
theorem d_M_rests_0 : decode b_M_rests 0 = .ok (.aload_n 0, 1) := by decide +kernel
theorem d_M_rests_1 : decode b_M_rests 1 = .ok (.getfield 78, 3) := by decide +kernel
theorem d_M_rests_4 : decode b_M_rests 4 = .ok (.ifCond .ne 10, 3) := by decide +kernel
theorem d_M_rests_7 : decode b_M_rests 7 = .ok (.aload_n 0, 1) := by decide +kernel
theorem d_M_rests_8 : decode b_M_rests 8 = .ok (.bipush (-3), 2) := by decide +kernel
theorem d_M_rests_10 : decode b_M_rests 10 = .ok (.invokevirtual 88, 3) := by decide +kernel
theorem d_M_rests_13 : decode b_M_rests 13 = .ok (.ireturn, 1) := by decide +kernel
theorem d_M_rests_14 : decode b_M_rests 14 = .ok (.aload_n 0, 1) := by decide +kernel
theorem d_M_rests_15 : decode b_M_rests 15 = .ok (.sipush 201, 3) := by decide +kernel
theorem d_M_rests_18 : decode b_M_rests 18 = .ok (.invokevirtual 182, 3) := by decide +kernel
theorem d_M_rests_21 : decode b_M_rests 21 = .ok (.iconst 0, 1) := by decide +kernel
theorem d_M_rests_22 : decode b_M_rests 22 = .ok (.istore_n 1, 1) := by decide +kernel
theorem d_M_rests_23 : decode b_M_rests 23 = .ok (.iload_n 1, 1) := by decide +kernel
theorem d_M_rests_24 : decode b_M_rests 24 = .ok (.sipush 200, 3) := by decide +kernel
theorem d_M_rests_27 : decode b_M_rests 27 = .ok (.if_icmp .gt 24, 3) := by decide +kernel
theorem d_M_rests_30 : decode b_M_rests 30 = .ok (.aload_n 0, 1) := by decide +kernel
theorem d_M_rests_31 : decode b_M_rests 31 = .ok (.iload_n 1, 1) := by decide +kernel
theorem d_M_rests_32 : decode b_M_rests 32 = .ok (.iload_n 1, 1) := by decide +kernel
theorem d_M_rests_33 : decode b_M_rests 33 = .ok (.iconst 1, 1) := by decide +kernel
theorem d_M_rests_34 : decode b_M_rests 34 = .ok (.iadd, 1) := by decide +kernel
theorem d_M_rests_35 : decode b_M_rests 35 = .ok (.bipush 8, 2) := by decide +kernel
theorem d_M_rests_37 : decode b_M_rests 37 = .ok (.invokevirtual 185, 3) := by decide +kernel
theorem d_M_rests_40 : decode b_M_rests 40 = .ok (.ifCond .eq 5, 3) := by decide +kernel
theorem d_M_rests_43 : decode b_M_rests 43 = .ok (.iload_n 1, 1) := by decide +kernel
theorem d_M_rests_44 : decode b_M_rests 44 = .ok (.ireturn, 1) := by decide +kernel
theorem d_M_rests_45 : decode b_M_rests 45 = .ok (.iinc 1 1, 3) := by decide +kernel
theorem d_M_rests_48 : decode b_M_rests 48 = .ok (.goto (-25), 3) := by decide +kernel
theorem d_M_rests_51 : decode b_M_rests 51 = .ok (.bipush (-9), 2) := by decide +kernel
theorem d_M_rests_53 : decode b_M_rests 53 = .ok (.ireturn, 1) := by decide +kernel
set_option maxHeartbeats 4000000 in
set_option maxRecDepth 100000 in
theorem c_M_rests {l : Launch} {D : va_G} {cI cJ cC : ClassId} (a_h a_h_refused a_h_kind a_h_sweets a_h_gives a_h_tape a_h_letter a_h_letterAt a_h_one a_h_two a_h_kept a_h_trail a_h_crumb a_h_nextCrumb a_h_goal a_h_start a_h_sits a_h_bestSits a_h_without a_h_row : Nat) (y_h_taped : Int32) (y_h_at : Int32) (y_h_statements : Int32) (y_h_hasImage : Int32) (y_h_beforeMany : Int32) (y_h_found : Int32) (y_h_lots : Int32) (y_h_rowMany : Int32) {z_h_T : MT} {z_h_refused : (Nat → Int32)} {z_h_trail : (Nat → Int32)} {q : Int32 × MT × (Nat → Int32) × (Nat → Int32)} (hf : f_M_rests z_h_T z_h_refused z_h_trail = some q) : xI l y_M_rests b_M_rests 2 .int 4 89 D (tyK cI cJ cC) xE0 [.ref a_h] (w_M_rests cI cJ cC a_h a_h_refused a_h_kind a_h_sweets a_h_gives a_h_tape a_h_letter a_h_letterAt a_h_one a_h_two a_h_kept a_h_trail a_h_crumb a_h_nextCrumb a_h_goal a_h_start a_h_sits a_h_bestSits a_h_without a_h_row y_h_taped y_h_at y_h_statements y_h_hasImage y_h_beforeMany y_h_found y_h_lots y_h_rowMany (m_many z_h_T) (m_odd z_h_T) (m_step z_h_T) (m_bag z_h_T) (m_strokes z_h_T) (m_gave z_h_T) (m_threw z_h_T) (m_isKeeping z_h_T) (m_cursor z_h_T) z_h_refused (m_kind z_h_T) (m_sweets z_h_T) (m_gives z_h_T) (m_kept z_h_T) z_h_trail) q.1 (w_M_rests cI cJ cC a_h a_h_refused a_h_kind a_h_sweets a_h_gives a_h_tape a_h_letter a_h_letterAt a_h_one a_h_two a_h_kept a_h_trail a_h_crumb a_h_nextCrumb a_h_goal a_h_start a_h_sits a_h_bestSits a_h_without a_h_row y_h_taped y_h_at y_h_statements y_h_hasImage y_h_beforeMany y_h_found y_h_lots y_h_rowMany (m_many q.2.1) (m_odd q.2.1) (m_step q.2.1) (m_bag q.2.1) (m_strokes q.2.1) (m_gave q.2.1) (m_threw q.2.1) (m_isKeeping q.2.1) (m_cursor q.2.1) q.2.2.1 (m_kind q.2.1) (m_sweets q.2.1) (m_gives q.2.1) (m_kept q.2.1) q.2.2.2) := by
  refine xI_of (by decide) (Nat.le_of_ble_eq_true rfl) ?_
  intro p e s m args below meth c A Q hx hb hml hown hT hA hP hD hK hS hE hret ls hl
  have hown : s.vm.findClass R_M = some m.cls := hown
  have hl : lv_has ls 2 [(0, .ref a_h)] := hl
  unfold f_M_rests at hf
  have L23 : ∀ (z_h_T : MT) (z_h_refused : (Nat → Int32)) (z_h_trail : (Nat → Int32)), ∀ (n : Nat) (x1 : Int32) (H : Heap) (locs : List Loc) (ls : Array Slot), f_M_rests_L23 z_h_T z_h_refused z_h_trail n x1 = some q → va_P D classes (w_M_rests cI cJ cC a_h a_h_refused a_h_kind a_h_sweets a_h_gives a_h_tape a_h_letter a_h_letterAt a_h_one a_h_two a_h_kept a_h_trail a_h_crumb a_h_nextCrumb a_h_goal a_h_start a_h_sits a_h_bestSits a_h_without a_h_row y_h_taped y_h_at y_h_statements y_h_hasImage y_h_beforeMany y_h_found y_h_lots y_h_rowMany (m_many z_h_T) (m_odd z_h_T) (m_step z_h_T) (m_bag z_h_T) (m_strokes z_h_T) (m_gave z_h_T) (m_threw z_h_T) (m_isKeeping z_h_T) (m_cursor z_h_T) z_h_refused (m_kind z_h_T) (m_sweets z_h_T) (m_gives z_h_T) (m_kept z_h_T) z_h_trail) H → va_D A (w_M_rests cI cJ cC a_h a_h_refused a_h_kind a_h_sweets a_h_gives a_h_tape a_h_letter a_h_letterAt a_h_one a_h_two a_h_kept a_h_trail a_h_crumb a_h_nextCrumb a_h_goal a_h_start a_h_sits a_h_bestSits a_h_without a_h_row y_h_taped y_h_at y_h_statements y_h_hasImage y_h_beforeMany y_h_found y_h_lots y_h_rowMany (m_many z_h_T) (m_odd z_h_T) (m_step z_h_T) (m_bag z_h_T) (m_strokes z_h_T) (m_gave z_h_T) (m_threw z_h_T) (m_isKeeping z_h_T) (m_cursor z_h_T) z_h_refused (m_kind z_h_T) (m_sweets z_h_T) (m_gives z_h_T) (m_kept z_h_T) z_h_trail) → va_S A s.heap H locs → lv_has ls 2 [(0, .ref a_h), (1, .int x1)] → W p l e (xRm 4 89) s m args below meth c H locs 0 0 Q (F0 m 23 ls []) := by
    intro z_h_T z_h_refused z_h_trail n
    induction n with
    | zero => intro x1 H locs ls hf hP hD hS hl; exact nomatch (show (none : Option (Int32 × MT × (Nat → Int32) × (Nat → Int32))) = some q from hf)
    | succ n ih =>
      intro x1 H locs ls hf hP hD hS hl
      refine lv_iload_n hx hb d_M_rests_23 rfl (lv_at hl 1 rfl) ?_
      refine lv_sipush (v := 200) hx hb d_M_rests_24 (by decide) ?_
      refine lv_icmp_gt (tgt := 51) hx hb d_M_rests_27 (by decide) (fun c3 => ?_) (fun c3 => ?_)
      · have hf := io_t hf c3
        refine lv_bipush (v := (-9)) hx hb d_M_rests_51 (by decide) ?_
        have hq := Option.some.inj hf
        subst hq
        exact hret _ _ _ _ _ d_M_rests_53 rfl rfl hP hD hS
      · have hf := io_f hf c3
        refine lv_aload_n hx hb d_M_rests_30 rfl (lv_at hl 0 rfl) ?_
        refine lv_iload_n hx hb d_M_rests_31 rfl (lv_at hl 1 rfl) ?_
        refine lv_iload_n hx hb d_M_rests_32 rfl (lv_at hl 1 rfl) ?_
        refine lv_iconst (v := 1) hx hb d_M_rests_33 (by decide) ?_
        refine lv_iadd hx hb d_M_rests_34 ?_
        refine lv_bipush (v := 8) hx hb d_M_rests_35 (by decide) ?_
        obtain ⟨q4, hq4, hf⟩ := io_b hf
        refine xcVI (wc := (w_M_areSame cI cJ cC a_h a_h_refused a_h_kind a_h_sweets a_h_gives a_h_tape a_h_letter a_h_letterAt a_h_one a_h_two a_h_kept a_h_trail a_h_crumb a_h_nextCrumb a_h_goal a_h_start a_h_sits a_h_bestSits a_h_without a_h_row (m_many z_h_T) (m_odd z_h_T) (m_step z_h_T) (m_bag z_h_T) (m_strokes z_h_T) (m_gave z_h_T) (m_threw z_h_T) y_h_taped y_h_at y_h_statements y_h_hasImage (m_isKeeping z_h_T) (m_cursor z_h_T) y_h_beforeMany y_h_found y_h_lots y_h_rowMany z_h_trail)) (wc' := (w_M_areSame cI cJ cC a_h a_h_refused a_h_kind a_h_sweets a_h_gives a_h_tape a_h_letter a_h_letterAt a_h_one a_h_two a_h_kept a_h_trail a_h_crumb a_h_nextCrumb a_h_goal a_h_start a_h_sits a_h_bestSits a_h_without a_h_row (m_many z_h_T) (m_odd z_h_T) (m_step z_h_T) (m_bag z_h_T) (m_strokes z_h_T) (m_gave z_h_T) (m_threw z_h_T) y_h_taped y_h_at y_h_statements y_h_hasImage (m_isKeeping z_h_T) (m_cursor z_h_T) y_h_beforeMany y_h_found y_h_lots y_h_rowMany z_h_trail)) (ws' := (w_M_rests cI cJ cC a_h a_h_refused a_h_kind a_h_sweets a_h_gives a_h_tape a_h_letter a_h_letterAt a_h_one a_h_two a_h_kept a_h_trail a_h_crumb a_h_nextCrumb a_h_goal a_h_start a_h_sits a_h_bestSits a_h_without a_h_row y_h_taped y_h_at y_h_statements y_h_hasImage y_h_beforeMany y_h_found y_h_lots y_h_rowMany (m_many z_h_T) (m_odd z_h_T) (m_step z_h_T) (m_bag z_h_T) (m_strokes z_h_T) (m_gave z_h_T) (m_threw z_h_T) (m_isKeeping z_h_T) (m_cursor z_h_T) z_h_refused (m_kind z_h_T) (m_sweets z_h_T) (m_gives z_h_T) (m_kept z_h_T) z_h_trail)) (As := [.int x1, .int (x1 + 1), .int 8]) (rest := []) hx hb hml hown hT (c_M_areSame (z_h_trail := z_h_trail) a_h a_h_refused a_h_kind a_h_sweets a_h_gives a_h_tape a_h_letter a_h_letterAt a_h_one a_h_two a_h_kept a_h_trail a_h_crumb a_h_nextCrumb a_h_goal a_h_start a_h_sits a_h_bestSits a_h_without a_h_row (m_many z_h_T) (m_odd z_h_T) (m_step z_h_T) (m_bag z_h_T) (m_strokes z_h_T) (m_gave z_h_T) (m_threw z_h_T) y_h_taped y_h_at y_h_statements y_h_hasImage (m_isKeeping z_h_T) (m_cursor z_h_T) y_h_beforeMany y_h_found y_h_lots y_h_rowMany hq4) k_999 k_1001 ks_41 k_8 k_1002 hd_M_areSame ⟨Nat.le_of_ble_eq_true rfl, Nat.le_of_ble_eq_true rfl⟩ xE0_ok trivial hA hK hP hD hS [0, 6] [1, 2, 3, 4, 5] [5, 0, 1, 2, 3, 4, 6] rfl rfl rfl rfl rfl rfl rfl rfl rfl rfl hl.1 rfl (Nat.le_of_ble_eq_true rfl) ⟨Nat.zero_le _, Nat.zero_le _⟩ d_M_rests_37 (fun H locs hP hD hS => ?_)
        refine lv_if_eq (tgt := 45) hx hb d_M_rests_40 (by decide) (fun c5 => ?_) (fun c5 => ?_)
        · have hf := io_t hf c5
          refine lv_iinc (v := (x1 + 1)) (lv' := [(1, .int (x1 + 1)), (0, .ref a_h)]) hx hb d_M_rests_45 hl (k := 1) rfl (by rfl) (by decide) rfl (fun ls hl => ?_)
          refine lv_goto (tgt := 23) hx hb d_M_rests_48 (by decide) ?_
          exact ih (x1 + 1) _ _ _ hf hP hD hS (lv_sub hl [1, 0] rfl)
        · have hf := io_f hf c5
          refine lv_iload_n hx hb d_M_rests_43 rfl (lv_at hl 1 rfl) ?_
          have hq := Option.some.inj hf
          subst hq
          exact hret _ _ _ _ _ d_M_rests_44 rfl rfl hP hD hS
  refine lv_aload_n hx hb d_M_rests_0 rfl (lv_at hl 0 rfl) ?_
  refine va_get hx hb hT i_M hown hK hP 0 rfl rfl 4 (Nat.le_of_ble_eq_true rfl) (hT _ k_762) (fun _ h => h) rfl d_M_rests_1 ?_
  refine lv_if_ne (tgt := 14) hx hb d_M_rests_4 (by decide) (fun c1 => ?_) (fun c1 => ?_)
  · have hf := io_f hf c1
    refine lv_aload_n hx hb d_M_rests_14 rfl (lv_at hl 0 rfl) ?_
    refine lv_sipush (v := 201) hx hb d_M_rests_15 (by decide) ?_
    obtain ⟨q2, hq2, hf⟩ := io_b hf
    refine xcVV (wc := (w_M_writesTrail cI cJ cC a_h a_h_refused a_h_kind a_h_sweets a_h_gives a_h_tape a_h_letter a_h_letterAt a_h_one a_h_two a_h_kept a_h_trail a_h_crumb a_h_nextCrumb a_h_goal a_h_start a_h_sits a_h_bestSits a_h_without a_h_row y_h_taped y_h_at y_h_statements y_h_hasImage y_h_beforeMany y_h_found y_h_lots y_h_rowMany (m_many z_h_T) (m_odd z_h_T) (m_step z_h_T) (m_bag z_h_T) (m_strokes z_h_T) (m_gave z_h_T) (m_threw z_h_T) (m_isKeeping z_h_T) (m_cursor z_h_T) (m_kind z_h_T) (m_sweets z_h_T) (m_gives z_h_T) (m_kept z_h_T) z_h_trail)) (wc' := (w_M_writesTrail cI cJ cC a_h a_h_refused a_h_kind a_h_sweets a_h_gives a_h_tape a_h_letter a_h_letterAt a_h_one a_h_two a_h_kept a_h_trail a_h_crumb a_h_nextCrumb a_h_goal a_h_start a_h_sits a_h_bestSits a_h_without a_h_row y_h_taped y_h_at y_h_statements y_h_hasImage y_h_beforeMany y_h_found y_h_lots y_h_rowMany (m_many q2.1) (m_odd q2.1) (m_step q2.1) (m_bag q2.1) (m_strokes q2.1) (m_gave q2.1) (m_threw q2.1) (m_isKeeping q2.1) (m_cursor q2.1) (m_kind q2.1) (m_sweets q2.1) (m_gives q2.1) (m_kept q2.1) q2.2)) (ws' := (w_M_rests cI cJ cC a_h a_h_refused a_h_kind a_h_sweets a_h_gives a_h_tape a_h_letter a_h_letterAt a_h_one a_h_two a_h_kept a_h_trail a_h_crumb a_h_nextCrumb a_h_goal a_h_start a_h_sits a_h_bestSits a_h_without a_h_row y_h_taped y_h_at y_h_statements y_h_hasImage y_h_beforeMany y_h_found y_h_lots y_h_rowMany (m_many q2.1) (m_odd q2.1) (m_step q2.1) (m_bag q2.1) (m_strokes q2.1) (m_gave q2.1) (m_threw q2.1) (m_isKeeping q2.1) (m_cursor q2.1) z_h_refused (m_kind q2.1) (m_sweets q2.1) (m_gives q2.1) (m_kept q2.1) q2.2)) (As := [.int 201]) (rest := []) hx hb hml hown hT (c_M_writesTrail (z_h_T := z_h_T) (z_h_trail := z_h_trail) a_h a_h_refused a_h_kind a_h_sweets a_h_gives a_h_tape a_h_letter a_h_letterAt a_h_one a_h_two a_h_kept a_h_trail a_h_crumb a_h_nextCrumb a_h_goal a_h_start a_h_sits a_h_bestSits a_h_without a_h_row y_h_taped y_h_at y_h_statements y_h_hasImage y_h_beforeMany y_h_found y_h_lots y_h_rowMany hq2) k_995 k_997 ks_40 k_8 k_998 hd_M_writesTrail ⟨Nat.le_of_ble_eq_true rfl, Nat.le_of_ble_eq_true rfl⟩ xE0_ok trivial hA hK hP hD hS [0, 2, 3, 4, 5, 6] [1] [1, 0, 2, 3, 4, 5, 6] rfl rfl rfl rfl rfl rfl rfl rfl rfl rfl hl.1 rfl (Nat.le_of_ble_eq_true rfl) ⟨Nat.zero_le _, Nat.zero_le _⟩ d_M_rests_18 (fun H locs hP hD hS => ?_)
    refine lv_iconst (v := 0) hx hb d_M_rests_21 (by decide) ?_
    refine lv_istore_n (lv' := [(1, .int 0), (0, .ref a_h)]) hx hb d_M_rests_22 rfl hl (by decide) rfl (fun ls hl => ?_)
    exact L23 q2.1 z_h_refused q2.2 FU 0 _ _ _ hf hP hD hS (lv_sub hl [1, 0] rfl)
  · have hf := io_t hf c1
    refine lv_aload_n hx hb d_M_rests_7 rfl (lv_at hl 0 rfl) ?_
    refine lv_bipush (v := (-3)) hx hb d_M_rests_8 (by decide) ?_
    obtain ⟨q6, hq6, hf⟩ := io_b hf
    refine xcVI (wc := (w_M_no cI cJ cC a_h a_h_refused a_h_kind a_h_sweets a_h_gives a_h_tape a_h_letter a_h_letterAt a_h_one a_h_two a_h_kept a_h_trail a_h_crumb a_h_nextCrumb a_h_goal a_h_start a_h_sits a_h_bestSits a_h_without a_h_row (m_many z_h_T) (m_odd z_h_T) (m_step z_h_T) (m_bag z_h_T) (m_strokes z_h_T) (m_gave z_h_T) (m_threw z_h_T) y_h_taped y_h_at y_h_statements y_h_hasImage (m_isKeeping z_h_T) (m_cursor z_h_T) y_h_beforeMany y_h_found y_h_lots y_h_rowMany z_h_refused)) (wc' := (w_M_no cI cJ cC a_h a_h_refused a_h_kind a_h_sweets a_h_gives a_h_tape a_h_letter a_h_letterAt a_h_one a_h_two a_h_kept a_h_trail a_h_crumb a_h_nextCrumb a_h_goal a_h_start a_h_sits a_h_bestSits a_h_without a_h_row (m_many z_h_T) (m_odd z_h_T) (m_step z_h_T) (m_bag z_h_T) (m_strokes z_h_T) (m_gave z_h_T) (m_threw z_h_T) y_h_taped y_h_at y_h_statements y_h_hasImage (m_isKeeping z_h_T) (m_cursor z_h_T) y_h_beforeMany y_h_found y_h_lots y_h_rowMany q6.2)) (ws' := (w_M_rests cI cJ cC a_h a_h_refused a_h_kind a_h_sweets a_h_gives a_h_tape a_h_letter a_h_letterAt a_h_one a_h_two a_h_kept a_h_trail a_h_crumb a_h_nextCrumb a_h_goal a_h_start a_h_sits a_h_bestSits a_h_without a_h_row y_h_taped y_h_at y_h_statements y_h_hasImage y_h_beforeMany y_h_found y_h_lots y_h_rowMany (m_many z_h_T) (m_odd z_h_T) (m_step z_h_T) (m_bag z_h_T) (m_strokes z_h_T) (m_gave z_h_T) (m_threw z_h_T) (m_isKeeping z_h_T) (m_cursor z_h_T) q6.2 (m_kind z_h_T) (m_sweets z_h_T) (m_gives z_h_T) (m_kept z_h_T) z_h_trail)) (As := [.int (-3)]) (rest := []) hx hb hml hown hT (c_M_no (z_h_refused := z_h_refused) a_h a_h_refused a_h_kind a_h_sweets a_h_gives a_h_tape a_h_letter a_h_letterAt a_h_one a_h_two a_h_kept a_h_trail a_h_crumb a_h_nextCrumb a_h_goal a_h_start a_h_sits a_h_bestSits a_h_without a_h_row (m_many z_h_T) (m_odd z_h_T) (m_step z_h_T) (m_bag z_h_T) (m_strokes z_h_T) (m_gave z_h_T) (m_threw z_h_T) y_h_taped y_h_at y_h_statements y_h_hasImage (m_isKeeping z_h_T) (m_cursor z_h_T) y_h_beforeMany y_h_found y_h_lots y_h_rowMany hq6) k_874 k_876 ks_24 k_8 k_877 hd_M_no ⟨Nat.le_of_ble_eq_true rfl, Nat.le_of_ble_eq_true rfl⟩ xE0_ok trivial hA hK hP hD hS [0, 1] [2, 3, 4, 5, 6] [5, 6, 0, 1, 2, 3, 4] rfl rfl rfl rfl rfl rfl rfl rfl rfl rfl hl.1 rfl (Nat.le_of_ble_eq_true rfl) ⟨Nat.zero_le _, Nat.zero_le _⟩ d_M_rests_10 (fun H locs hP hD hS => ?_)
    have hq := Option.some.inj hf
    subst hq
    exact hret _ _ _ _ _ d_M_rests_13 rfl rfl hP hD hS
abbrev w_M_firstAlike (cI cJ cC : ClassId) (a_h a_h_refused a_h_kind a_h_sweets a_h_gives a_h_tape a_h_letter a_h_letterAt a_h_one a_h_two a_h_kept a_h_trail a_h_crumb a_h_nextCrumb a_h_goal a_h_start a_h_sits a_h_bestSits a_h_without a_h_row : Nat) (y_h_taped : Int32) (y_h_at : Int32) (y_h_statements : Int32) (y_h_hasImage : Int32) (y_h_beforeMany : Int32) (y_h_found : Int32) (y_h_lots : Int32) (y_h_rowMany : Int32) (p_h_many : Int32) (p_h_odd : Int32) (p_h_step : Int32) (p_h_bag : Int32) (p_h_strokes : Int32) (p_h_gave : Int32) (p_h_threw : Int32) (p_h_isKeeping : Int32) (p_h_cursor : Int32) (p_h_kind : (Nat → Int32)) (p_h_sweets : (Nat → Int32)) (p_h_gives : (Nat → Int32)) (p_h_kept : (Nat → Int32)) (p_h_trail : (Nat → Int32)) : va_W := [(a_h, .inr (7, [.ref a_h_refused, .ref a_h_kind, .ref a_h_sweets, .ref a_h_gives, .int p_h_many, .int p_h_odd, .int p_h_step, .int p_h_bag, .int p_h_strokes, .int p_h_gave, .int p_h_threw, .ref a_h_tape, .ref a_h_letter, .ref a_h_letterAt, .ref a_h_one, .ref a_h_two, .int y_h_taped, .int y_h_at, .int y_h_statements, .ref a_h_kept, .int y_h_hasImage, .int p_h_isKeeping, .int p_h_cursor, .ref a_h_trail, .ref a_h_crumb, .ref a_h_nextCrumb, .ref a_h_goal, .ref a_h_start, .int y_h_beforeMany, .int y_h_found, .ref a_h_sits, .ref a_h_bestSits, .ref a_h_without, .int y_h_lots, .ref a_h_row, .int y_h_rowMany])), (a_h_kind, .inl (cI, (8, .inl p_h_kind))), (a_h_sweets, .inl (cI, (8, .inl p_h_sweets))), (a_h_gives, .inl (cI, (8, .inl p_h_gives))), (a_h_kept, .inl (cI, (90, .inl p_h_kept))), (a_h_trail, .inl (cI, (1827, .inl p_h_trail)))]
theorem d_M_firstAlike_0 : decode b_M_firstAlike 0 = .ok (.aload_n 0, 1) := by decide +kernel
theorem d_M_firstAlike_1 : decode b_M_firstAlike 1 = .ok (.iload_n 1, 1) := by decide +kernel
theorem d_M_firstAlike_2 : decode b_M_firstAlike 2 = .ok (.invokevirtual 182, 3) := by decide +kernel
theorem d_M_firstAlike_5 : decode b_M_firstAlike 5 = .ok (.iconst 0, 1) := by decide +kernel
theorem d_M_firstAlike_6 : decode b_M_firstAlike 6 = .ok (.istore_n 2, 1) := by decide +kernel
theorem d_M_firstAlike_7 : decode b_M_firstAlike 7 = .ok (.iload_n 2, 1) := by decide +kernel
theorem d_M_firstAlike_8 : decode b_M_firstAlike 8 = .ok (.iload_n 1, 1) := by decide +kernel
theorem d_M_firstAlike_9 : decode b_M_firstAlike 9 = .ok (.if_icmp .gt 19, 3) := by decide +kernel
theorem d_M_firstAlike_12 : decode b_M_firstAlike 12 = .ok (.aload_n 0, 1) := by decide +kernel
theorem d_M_firstAlike_13 : decode b_M_firstAlike 13 = .ok (.iload_n 2, 1) := by decide +kernel
theorem d_M_firstAlike_14 : decode b_M_firstAlike 14 = .ok (.invokevirtual 188, 3) := by decide +kernel
theorem d_M_firstAlike_17 : decode b_M_firstAlike 17 = .ok (.ifCond .eq 5, 3) := by decide +kernel
theorem d_M_firstAlike_20 : decode b_M_firstAlike 20 = .ok (.iload_n 2, 1) := by decide +kernel
theorem d_M_firstAlike_21 : decode b_M_firstAlike 21 = .ok (.ireturn, 1) := by decide +kernel
theorem d_M_firstAlike_22 : decode b_M_firstAlike 22 = .ok (.iinc 2 1, 3) := by decide +kernel
theorem d_M_firstAlike_25 : decode b_M_firstAlike 25 = .ok (.goto (-18), 3) := by decide +kernel
theorem d_M_firstAlike_28 : decode b_M_firstAlike 28 = .ok (.bipush (-9), 2) := by decide +kernel
theorem d_M_firstAlike_30 : decode b_M_firstAlike 30 = .ok (.ireturn, 1) := by decide +kernel
set_option maxHeartbeats 4000000 in
set_option maxRecDepth 100000 in
theorem c_M_firstAlike {l : Launch} {D : va_G} {cI cJ cC : ClassId} (a_h a_h_refused a_h_kind a_h_sweets a_h_gives a_h_tape a_h_letter a_h_letterAt a_h_one a_h_two a_h_kept a_h_trail a_h_crumb a_h_nextCrumb a_h_goal a_h_start a_h_sits a_h_bestSits a_h_without a_h_row : Nat) (y_h_taped : Int32) (y_h_at : Int32) (y_h_statements : Int32) (y_h_hasImage : Int32) (y_h_beforeMany : Int32) (y_h_found : Int32) (y_h_lots : Int32) (y_h_rowMany : Int32) {z_h_T : MT} {z_h_trail : (Nat → Int32)} {x1 : Int32} {q : Int32 × MT × (Nat → Int32)} (hf : f_M_firstAlike z_h_T z_h_trail x1 = some q) : xI l y_M_firstAlike b_M_firstAlike 3 .int 4 89 D (tyK cI cJ cC) xE0 [.ref a_h, .int x1] (w_M_firstAlike cI cJ cC a_h a_h_refused a_h_kind a_h_sweets a_h_gives a_h_tape a_h_letter a_h_letterAt a_h_one a_h_two a_h_kept a_h_trail a_h_crumb a_h_nextCrumb a_h_goal a_h_start a_h_sits a_h_bestSits a_h_without a_h_row y_h_taped y_h_at y_h_statements y_h_hasImage y_h_beforeMany y_h_found y_h_lots y_h_rowMany (m_many z_h_T) (m_odd z_h_T) (m_step z_h_T) (m_bag z_h_T) (m_strokes z_h_T) (m_gave z_h_T) (m_threw z_h_T) (m_isKeeping z_h_T) (m_cursor z_h_T) (m_kind z_h_T) (m_sweets z_h_T) (m_gives z_h_T) (m_kept z_h_T) z_h_trail) q.1 (w_M_firstAlike cI cJ cC a_h a_h_refused a_h_kind a_h_sweets a_h_gives a_h_tape a_h_letter a_h_letterAt a_h_one a_h_two a_h_kept a_h_trail a_h_crumb a_h_nextCrumb a_h_goal a_h_start a_h_sits a_h_bestSits a_h_without a_h_row y_h_taped y_h_at y_h_statements y_h_hasImage y_h_beforeMany y_h_found y_h_lots y_h_rowMany (m_many q.2.1) (m_odd q.2.1) (m_step q.2.1) (m_bag q.2.1) (m_strokes q.2.1) (m_gave q.2.1) (m_threw q.2.1) (m_isKeeping q.2.1) (m_cursor q.2.1) (m_kind q.2.1) (m_sweets q.2.1) (m_gives q.2.1) (m_kept q.2.1) q.2.2) := by
  refine xI_of (by decide) (Nat.le_of_ble_eq_true rfl) ?_
  intro p e s m args below meth c A Q hx hb hml hown hT hA hP hD hK hS hE hret ls hl
  have hown : s.vm.findClass R_M = some m.cls := hown
  have hl : lv_has ls 3 [(0, .ref a_h), (1, .int x1)] := hl
  unfold f_M_firstAlike at hf
  have L7 : ∀ (z_h_T : MT) (z_h_trail : (Nat → Int32)), ∀ (n : Nat) (x2 : Int32) (H : Heap) (locs : List Loc) (ls : Array Slot), f_M_firstAlike_L7 z_h_T z_h_trail x1 n x2 = some q → va_P D classes (w_M_firstAlike cI cJ cC a_h a_h_refused a_h_kind a_h_sweets a_h_gives a_h_tape a_h_letter a_h_letterAt a_h_one a_h_two a_h_kept a_h_trail a_h_crumb a_h_nextCrumb a_h_goal a_h_start a_h_sits a_h_bestSits a_h_without a_h_row y_h_taped y_h_at y_h_statements y_h_hasImage y_h_beforeMany y_h_found y_h_lots y_h_rowMany (m_many z_h_T) (m_odd z_h_T) (m_step z_h_T) (m_bag z_h_T) (m_strokes z_h_T) (m_gave z_h_T) (m_threw z_h_T) (m_isKeeping z_h_T) (m_cursor z_h_T) (m_kind z_h_T) (m_sweets z_h_T) (m_gives z_h_T) (m_kept z_h_T) z_h_trail) H → va_D A (w_M_firstAlike cI cJ cC a_h a_h_refused a_h_kind a_h_sweets a_h_gives a_h_tape a_h_letter a_h_letterAt a_h_one a_h_two a_h_kept a_h_trail a_h_crumb a_h_nextCrumb a_h_goal a_h_start a_h_sits a_h_bestSits a_h_without a_h_row y_h_taped y_h_at y_h_statements y_h_hasImage y_h_beforeMany y_h_found y_h_lots y_h_rowMany (m_many z_h_T) (m_odd z_h_T) (m_step z_h_T) (m_bag z_h_T) (m_strokes z_h_T) (m_gave z_h_T) (m_threw z_h_T) (m_isKeeping z_h_T) (m_cursor z_h_T) (m_kind z_h_T) (m_sweets z_h_T) (m_gives z_h_T) (m_kept z_h_T) z_h_trail) → va_S A s.heap H locs → lv_has ls 3 [(0, .ref a_h), (1, .int x1), (2, .int x2)] → W p l e (xRm 4 89) s m args below meth c H locs 0 0 Q (F0 m 7 ls []) := by
    intro z_h_T z_h_trail n
    induction n with
    | zero => intro x2 H locs ls hf hP hD hS hl; exact nomatch (show (none : Option (Int32 × MT × (Nat → Int32))) = some q from hf)
    | succ n ih =>
      intro x2 H locs ls hf hP hD hS hl
      refine lv_iload_n hx hb d_M_firstAlike_7 rfl (lv_at hl 2 rfl) ?_
      refine lv_iload_n hx hb d_M_firstAlike_8 rfl (lv_at hl 1 rfl) ?_
      refine lv_icmp_gt (tgt := 28) hx hb d_M_firstAlike_9 (by decide) (fun c2 => ?_) (fun c2 => ?_)
      · have hf := io_t hf c2
        refine lv_bipush (v := (-9)) hx hb d_M_firstAlike_28 (by decide) ?_
        have hq := Option.some.inj hf
        subst hq
        exact hret _ _ _ _ _ d_M_firstAlike_30 rfl rfl hP hD hS
      · have hf := io_f hf c2
        refine lv_aload_n hx hb d_M_firstAlike_12 rfl (lv_at hl 0 rfl) ?_
        refine lv_iload_n hx hb d_M_firstAlike_13 rfl (lv_at hl 2 rfl) ?_
        obtain ⟨q3, hq3, hf⟩ := io_b hf
        refine xcVI (wc := (w_M_areAlike cI cJ cC a_h a_h_refused a_h_kind a_h_sweets a_h_gives a_h_tape a_h_letter a_h_letterAt a_h_one a_h_two a_h_kept a_h_trail a_h_crumb a_h_nextCrumb a_h_goal a_h_start a_h_sits a_h_bestSits a_h_without a_h_row y_h_taped y_h_at y_h_statements y_h_hasImage y_h_beforeMany y_h_found y_h_lots y_h_rowMany (m_many z_h_T) (m_odd z_h_T) (m_step z_h_T) (m_bag z_h_T) (m_strokes z_h_T) (m_gave z_h_T) (m_threw z_h_T) (m_isKeeping z_h_T) (m_cursor z_h_T) z_h_trail)) (wc' := (w_M_areAlike cI cJ cC a_h a_h_refused a_h_kind a_h_sweets a_h_gives a_h_tape a_h_letter a_h_letterAt a_h_one a_h_two a_h_kept a_h_trail a_h_crumb a_h_nextCrumb a_h_goal a_h_start a_h_sits a_h_bestSits a_h_without a_h_row y_h_taped y_h_at y_h_statements y_h_hasImage y_h_beforeMany y_h_found y_h_lots y_h_rowMany (m_many z_h_T) (m_odd z_h_T) (m_step z_h_T) (m_bag z_h_T) (m_strokes z_h_T) (m_gave z_h_T) (m_threw z_h_T) (m_isKeeping z_h_T) (m_cursor z_h_T) z_h_trail)) (ws' := (w_M_firstAlike cI cJ cC a_h a_h_refused a_h_kind a_h_sweets a_h_gives a_h_tape a_h_letter a_h_letterAt a_h_one a_h_two a_h_kept a_h_trail a_h_crumb a_h_nextCrumb a_h_goal a_h_start a_h_sits a_h_bestSits a_h_without a_h_row y_h_taped y_h_at y_h_statements y_h_hasImage y_h_beforeMany y_h_found y_h_lots y_h_rowMany (m_many z_h_T) (m_odd z_h_T) (m_step z_h_T) (m_bag z_h_T) (m_strokes z_h_T) (m_gave z_h_T) (m_threw z_h_T) (m_isKeeping z_h_T) (m_cursor z_h_T) (m_kind z_h_T) (m_sweets z_h_T) (m_gives z_h_T) (m_kept z_h_T) z_h_trail)) (As := [.int x2]) (rest := []) hx hb hml hown hT (c_M_areAlike (z_h_T := z_h_T) (z_h_trail := z_h_trail) a_h a_h_refused a_h_kind a_h_sweets a_h_gives a_h_tape a_h_letter a_h_letterAt a_h_one a_h_two a_h_kept a_h_trail a_h_crumb a_h_nextCrumb a_h_goal a_h_start a_h_sits a_h_bestSits a_h_without a_h_row y_h_taped y_h_at y_h_statements y_h_hasImage y_h_beforeMany y_h_found y_h_lots y_h_rowMany hq3) k_1011 k_1013 ks_43 k_8 k_1014 hd_M_areAlike ⟨Nat.le_of_ble_eq_true rfl, Nat.le_of_ble_eq_true rfl⟩ xE0_ok trivial hA hK hP hD hS [0, 5] [1, 2, 3, 4] [4, 0, 1, 2, 3, 5] rfl rfl rfl rfl rfl rfl rfl rfl rfl rfl hl.1 rfl (Nat.le_of_ble_eq_true rfl) ⟨Nat.zero_le _, Nat.zero_le _⟩ d_M_firstAlike_14 (fun H locs hP hD hS => ?_)
        refine lv_if_eq (tgt := 22) hx hb d_M_firstAlike_17 (by decide) (fun c4 => ?_) (fun c4 => ?_)
        · have hf := io_t hf c4
          refine lv_iinc (v := (x2 + 1)) (lv' := [(2, .int (x2 + 1)), (0, .ref a_h), (1, .int x1)]) hx hb d_M_firstAlike_22 hl (k := 2) rfl (by rfl) (by decide) rfl (fun ls hl => ?_)
          refine lv_goto (tgt := 7) hx hb d_M_firstAlike_25 (by decide) ?_
          exact ih (x2 + 1) _ _ _ hf hP hD hS (lv_sub hl [1, 2, 0] rfl)
        · have hf := io_f hf c4
          refine lv_iload_n hx hb d_M_firstAlike_20 rfl (lv_at hl 2 rfl) ?_
          have hq := Option.some.inj hf
          subst hq
          exact hret _ _ _ _ _ d_M_firstAlike_21 rfl rfl hP hD hS
  refine lv_aload_n hx hb d_M_firstAlike_0 rfl (lv_at hl 0 rfl) ?_
  refine lv_iload_n hx hb d_M_firstAlike_1 rfl (lv_at hl 1 rfl) ?_
  obtain ⟨q1, hq1, hf⟩ := io_b hf
  refine xcVV (wc := (w_M_writesTrail cI cJ cC a_h a_h_refused a_h_kind a_h_sweets a_h_gives a_h_tape a_h_letter a_h_letterAt a_h_one a_h_two a_h_kept a_h_trail a_h_crumb a_h_nextCrumb a_h_goal a_h_start a_h_sits a_h_bestSits a_h_without a_h_row y_h_taped y_h_at y_h_statements y_h_hasImage y_h_beforeMany y_h_found y_h_lots y_h_rowMany (m_many z_h_T) (m_odd z_h_T) (m_step z_h_T) (m_bag z_h_T) (m_strokes z_h_T) (m_gave z_h_T) (m_threw z_h_T) (m_isKeeping z_h_T) (m_cursor z_h_T) (m_kind z_h_T) (m_sweets z_h_T) (m_gives z_h_T) (m_kept z_h_T) z_h_trail)) (wc' := (w_M_writesTrail cI cJ cC a_h a_h_refused a_h_kind a_h_sweets a_h_gives a_h_tape a_h_letter a_h_letterAt a_h_one a_h_two a_h_kept a_h_trail a_h_crumb a_h_nextCrumb a_h_goal a_h_start a_h_sits a_h_bestSits a_h_without a_h_row y_h_taped y_h_at y_h_statements y_h_hasImage y_h_beforeMany y_h_found y_h_lots y_h_rowMany (m_many q1.1) (m_odd q1.1) (m_step q1.1) (m_bag q1.1) (m_strokes q1.1) (m_gave q1.1) (m_threw q1.1) (m_isKeeping q1.1) (m_cursor q1.1) (m_kind q1.1) (m_sweets q1.1) (m_gives q1.1) (m_kept q1.1) q1.2)) (ws' := (w_M_firstAlike cI cJ cC a_h a_h_refused a_h_kind a_h_sweets a_h_gives a_h_tape a_h_letter a_h_letterAt a_h_one a_h_two a_h_kept a_h_trail a_h_crumb a_h_nextCrumb a_h_goal a_h_start a_h_sits a_h_bestSits a_h_without a_h_row y_h_taped y_h_at y_h_statements y_h_hasImage y_h_beforeMany y_h_found y_h_lots y_h_rowMany (m_many q1.1) (m_odd q1.1) (m_step q1.1) (m_bag q1.1) (m_strokes q1.1) (m_gave q1.1) (m_threw q1.1) (m_isKeeping q1.1) (m_cursor q1.1) (m_kind q1.1) (m_sweets q1.1) (m_gives q1.1) (m_kept q1.1) q1.2)) (As := [.int x1]) (rest := []) hx hb hml hown hT (c_M_writesTrail (z_h_T := z_h_T) (z_h_trail := z_h_trail) a_h a_h_refused a_h_kind a_h_sweets a_h_gives a_h_tape a_h_letter a_h_letterAt a_h_one a_h_two a_h_kept a_h_trail a_h_crumb a_h_nextCrumb a_h_goal a_h_start a_h_sits a_h_bestSits a_h_without a_h_row y_h_taped y_h_at y_h_statements y_h_hasImage y_h_beforeMany y_h_found y_h_lots y_h_rowMany hq1) k_995 k_997 ks_40 k_8 k_998 hd_M_writesTrail ⟨Nat.le_of_ble_eq_true rfl, Nat.le_of_ble_eq_true rfl⟩ xE0_ok trivial hA hK hP hD hS [0, 1, 2, 3, 4, 5] [] [0, 1, 2, 3, 4, 5] rfl rfl rfl rfl rfl rfl rfl rfl rfl rfl hl.1 rfl (Nat.le_of_ble_eq_true rfl) ⟨Nat.zero_le _, Nat.zero_le _⟩ d_M_firstAlike_2 (fun H locs hP hD hS => ?_)
  refine lv_iconst (v := 0) hx hb d_M_firstAlike_5 (by decide) ?_
  refine lv_istore_n (lv' := [(2, .int 0), (0, .ref a_h), (1, .int x1)]) hx hb d_M_firstAlike_6 rfl hl (by decide) rfl (fun ls hl => ?_)
  exact L7 q1.1 q1.2 FU 0 _ _ _ hf hP hD hS (lv_sub hl [1, 2, 0] rfl)
abbrev w_M_alike (cI cJ cC : ClassId) (a_h a_h_refused a_h_kind a_h_sweets a_h_gives a_h_tape a_h_letter a_h_letterAt a_h_one a_h_two a_h_kept a_h_trail a_h_crumb a_h_nextCrumb a_h_goal a_h_start a_h_sits a_h_bestSits a_h_without a_h_row : Nat) (y_h_taped : Int32) (y_h_at : Int32) (y_h_statements : Int32) (y_h_hasImage : Int32) (y_h_beforeMany : Int32) (y_h_found : Int32) (y_h_lots : Int32) (y_h_rowMany : Int32) (p_h_many : Int32) (p_h_odd : Int32) (p_h_step : Int32) (p_h_bag : Int32) (p_h_strokes : Int32) (p_h_gave : Int32) (p_h_threw : Int32) (p_h_isKeeping : Int32) (p_h_cursor : Int32) (p_h_refused : (Nat → Int32)) (p_h_kind : (Nat → Int32)) (p_h_sweets : (Nat → Int32)) (p_h_gives : (Nat → Int32)) (p_h_kept : (Nat → Int32)) (p_h_trail : (Nat → Int32)) : va_W := [(a_h, .inr (7, [.ref a_h_refused, .ref a_h_kind, .ref a_h_sweets, .ref a_h_gives, .int p_h_many, .int p_h_odd, .int p_h_step, .int p_h_bag, .int p_h_strokes, .int p_h_gave, .int p_h_threw, .ref a_h_tape, .ref a_h_letter, .ref a_h_letterAt, .ref a_h_one, .ref a_h_two, .int y_h_taped, .int y_h_at, .int y_h_statements, .ref a_h_kept, .int y_h_hasImage, .int p_h_isKeeping, .int p_h_cursor, .ref a_h_trail, .ref a_h_crumb, .ref a_h_nextCrumb, .ref a_h_goal, .ref a_h_start, .int y_h_beforeMany, .int y_h_found, .ref a_h_sits, .ref a_h_bestSits, .ref a_h_without, .int y_h_lots, .ref a_h_row, .int y_h_rowMany])), (a_h_refused, .inl (cI, (7, .inl p_h_refused))), (a_h_kind, .inl (cI, (8, .inl p_h_kind))), (a_h_sweets, .inl (cI, (8, .inl p_h_sweets))), (a_h_gives, .inl (cI, (8, .inl p_h_gives))), (a_h_kept, .inl (cI, (90, .inl p_h_kept))), (a_h_trail, .inl (cI, (1827, .inl p_h_trail)))]
theorem d_M_alike_0 : decode b_M_alike 0 = .ok (.aload_n 0, 1) := by decide +kernel
theorem d_M_alike_1 : decode b_M_alike 1 = .ok (.getfield 78, 3) := by decide +kernel
theorem d_M_alike_4 : decode b_M_alike 4 = .ok (.ifCond .ne 12, 3) := by decide +kernel
theorem d_M_alike_7 : decode b_M_alike 7 = .ok (.aload_n 0, 1) := by decide +kernel
theorem d_M_alike_8 : decode b_M_alike 8 = .ok (.bipush (-3), 2) := by decide +kernel
theorem d_M_alike_10 : decode b_M_alike 10 = .ok (.invokevirtual 88, 3) := by decide +kernel
theorem d_M_alike_13 : decode b_M_alike 13 = .ok (.goto 10, 3) := by decide +kernel
theorem d_M_alike_16 : decode b_M_alike 16 = .ok (.aload_n 0, 1) := by decide +kernel
theorem d_M_alike_17 : decode b_M_alike 17 = .ok (.sipush 200, 3) := by decide +kernel
theorem d_M_alike_20 : decode b_M_alike 20 = .ok (.invokevirtual 191, 3) := by decide +kernel
theorem d_M_alike_23 : decode b_M_alike 23 = .ok (.ireturn, 1) := by decide +kernel
set_option maxHeartbeats 4000000 in
set_option maxRecDepth 100000 in
theorem c_M_alike {l : Launch} {D : va_G} {cI cJ cC : ClassId} (a_h a_h_refused a_h_kind a_h_sweets a_h_gives a_h_tape a_h_letter a_h_letterAt a_h_one a_h_two a_h_kept a_h_trail a_h_crumb a_h_nextCrumb a_h_goal a_h_start a_h_sits a_h_bestSits a_h_without a_h_row : Nat) (y_h_taped : Int32) (y_h_at : Int32) (y_h_statements : Int32) (y_h_hasImage : Int32) (y_h_beforeMany : Int32) (y_h_found : Int32) (y_h_lots : Int32) (y_h_rowMany : Int32) {z_h_T : MT} {z_h_refused : (Nat → Int32)} {z_h_trail : (Nat → Int32)} {q : Int32 × MT × (Nat → Int32) × (Nat → Int32)} (hf : f_M_alike z_h_T z_h_refused z_h_trail = some q) : xI l y_M_alike b_M_alike 1 .int 5 111 D (tyK cI cJ cC) xE0 [.ref a_h] (w_M_alike cI cJ cC a_h a_h_refused a_h_kind a_h_sweets a_h_gives a_h_tape a_h_letter a_h_letterAt a_h_one a_h_two a_h_kept a_h_trail a_h_crumb a_h_nextCrumb a_h_goal a_h_start a_h_sits a_h_bestSits a_h_without a_h_row y_h_taped y_h_at y_h_statements y_h_hasImage y_h_beforeMany y_h_found y_h_lots y_h_rowMany (m_many z_h_T) (m_odd z_h_T) (m_step z_h_T) (m_bag z_h_T) (m_strokes z_h_T) (m_gave z_h_T) (m_threw z_h_T) (m_isKeeping z_h_T) (m_cursor z_h_T) z_h_refused (m_kind z_h_T) (m_sweets z_h_T) (m_gives z_h_T) (m_kept z_h_T) z_h_trail) q.1 (w_M_alike cI cJ cC a_h a_h_refused a_h_kind a_h_sweets a_h_gives a_h_tape a_h_letter a_h_letterAt a_h_one a_h_two a_h_kept a_h_trail a_h_crumb a_h_nextCrumb a_h_goal a_h_start a_h_sits a_h_bestSits a_h_without a_h_row y_h_taped y_h_at y_h_statements y_h_hasImage y_h_beforeMany y_h_found y_h_lots y_h_rowMany (m_many q.2.1) (m_odd q.2.1) (m_step q.2.1) (m_bag q.2.1) (m_strokes q.2.1) (m_gave q.2.1) (m_threw q.2.1) (m_isKeeping q.2.1) (m_cursor q.2.1) q.2.2.1 (m_kind q.2.1) (m_sweets q.2.1) (m_gives q.2.1) (m_kept q.2.1) q.2.2.2) := by
  refine xI_of (by decide) (Nat.le_of_ble_eq_true rfl) ?_
  intro p e s m args below meth c A Q hx hb hml hown hT hA hP hD hK hS hE hret ls hl
  have hown : s.vm.findClass R_M = some m.cls := hown
  have hl : lv_has ls 1 [(0, .ref a_h)] := hl
  unfold f_M_alike at hf
  refine lv_aload_n hx hb d_M_alike_0 rfl (lv_at hl 0 rfl) ?_
  refine va_get hx hb hT i_M hown hK hP 0 rfl rfl 4 (Nat.le_of_ble_eq_true rfl) (hT _ k_762) (fun _ h => h) rfl d_M_alike_1 ?_
  refine lv_if_ne (tgt := 16) hx hb d_M_alike_4 (by decide) (fun c1 => ?_) (fun c1 => ?_)
  · have hf := io_f hf c1
    refine lv_aload_n hx hb d_M_alike_16 rfl (lv_at hl 0 rfl) ?_
    refine lv_sipush (v := 200) hx hb d_M_alike_17 (by decide) ?_
    obtain ⟨q2, hq2, hf⟩ := io_b hf
    refine xcVI (wc := (w_M_firstAlike cI cJ cC a_h a_h_refused a_h_kind a_h_sweets a_h_gives a_h_tape a_h_letter a_h_letterAt a_h_one a_h_two a_h_kept a_h_trail a_h_crumb a_h_nextCrumb a_h_goal a_h_start a_h_sits a_h_bestSits a_h_without a_h_row y_h_taped y_h_at y_h_statements y_h_hasImage y_h_beforeMany y_h_found y_h_lots y_h_rowMany (m_many z_h_T) (m_odd z_h_T) (m_step z_h_T) (m_bag z_h_T) (m_strokes z_h_T) (m_gave z_h_T) (m_threw z_h_T) (m_isKeeping z_h_T) (m_cursor z_h_T) (m_kind z_h_T) (m_sweets z_h_T) (m_gives z_h_T) (m_kept z_h_T) z_h_trail)) (wc' := (w_M_firstAlike cI cJ cC a_h a_h_refused a_h_kind a_h_sweets a_h_gives a_h_tape a_h_letter a_h_letterAt a_h_one a_h_two a_h_kept a_h_trail a_h_crumb a_h_nextCrumb a_h_goal a_h_start a_h_sits a_h_bestSits a_h_without a_h_row y_h_taped y_h_at y_h_statements y_h_hasImage y_h_beforeMany y_h_found y_h_lots y_h_rowMany (m_many q2.2.1) (m_odd q2.2.1) (m_step q2.2.1) (m_bag q2.2.1) (m_strokes q2.2.1) (m_gave q2.2.1) (m_threw q2.2.1) (m_isKeeping q2.2.1) (m_cursor q2.2.1) (m_kind q2.2.1) (m_sweets q2.2.1) (m_gives q2.2.1) (m_kept q2.2.1) q2.2.2)) (ws' := (w_M_alike cI cJ cC a_h a_h_refused a_h_kind a_h_sweets a_h_gives a_h_tape a_h_letter a_h_letterAt a_h_one a_h_two a_h_kept a_h_trail a_h_crumb a_h_nextCrumb a_h_goal a_h_start a_h_sits a_h_bestSits a_h_without a_h_row y_h_taped y_h_at y_h_statements y_h_hasImage y_h_beforeMany y_h_found y_h_lots y_h_rowMany (m_many q2.2.1) (m_odd q2.2.1) (m_step q2.2.1) (m_bag q2.2.1) (m_strokes q2.2.1) (m_gave q2.2.1) (m_threw q2.2.1) (m_isKeeping q2.2.1) (m_cursor q2.2.1) z_h_refused (m_kind q2.2.1) (m_sweets q2.2.1) (m_gives q2.2.1) (m_kept q2.2.1) q2.2.2)) (As := [.int 200]) (rest := []) hx hb hml hown hT (c_M_firstAlike (z_h_T := z_h_T) (z_h_trail := z_h_trail) a_h a_h_refused a_h_kind a_h_sweets a_h_gives a_h_tape a_h_letter a_h_letterAt a_h_one a_h_two a_h_kept a_h_trail a_h_crumb a_h_nextCrumb a_h_goal a_h_start a_h_sits a_h_bestSits a_h_without a_h_row y_h_taped y_h_at y_h_statements y_h_hasImage y_h_beforeMany y_h_found y_h_lots y_h_rowMany hq2) k_1007 k_1009 ks_42 k_8 k_1010 hd_M_firstAlike ⟨Nat.le_of_ble_eq_true rfl, Nat.le_of_ble_eq_true rfl⟩ xE0_ok trivial hA hK hP hD hS [0, 2, 3, 4, 5, 6] [1] [1, 0, 2, 3, 4, 5, 6] rfl rfl rfl rfl rfl rfl rfl rfl rfl rfl hl.1 rfl (Nat.le_of_ble_eq_true rfl) ⟨Nat.zero_le _, Nat.zero_le _⟩ d_M_alike_20 (fun H locs hP hD hS => ?_)
    have hq := Option.some.inj hf
    subst hq
    exact hret _ _ _ _ _ d_M_alike_23 rfl rfl hP hD hS
  · have hf := io_t hf c1
    refine lv_aload_n hx hb d_M_alike_7 rfl (lv_at hl 0 rfl) ?_
    refine lv_bipush (v := (-3)) hx hb d_M_alike_8 (by decide) ?_
    obtain ⟨q3, hq3, hf⟩ := io_b hf
    refine xcVI (wc := (w_M_no cI cJ cC a_h a_h_refused a_h_kind a_h_sweets a_h_gives a_h_tape a_h_letter a_h_letterAt a_h_one a_h_two a_h_kept a_h_trail a_h_crumb a_h_nextCrumb a_h_goal a_h_start a_h_sits a_h_bestSits a_h_without a_h_row (m_many z_h_T) (m_odd z_h_T) (m_step z_h_T) (m_bag z_h_T) (m_strokes z_h_T) (m_gave z_h_T) (m_threw z_h_T) y_h_taped y_h_at y_h_statements y_h_hasImage (m_isKeeping z_h_T) (m_cursor z_h_T) y_h_beforeMany y_h_found y_h_lots y_h_rowMany z_h_refused)) (wc' := (w_M_no cI cJ cC a_h a_h_refused a_h_kind a_h_sweets a_h_gives a_h_tape a_h_letter a_h_letterAt a_h_one a_h_two a_h_kept a_h_trail a_h_crumb a_h_nextCrumb a_h_goal a_h_start a_h_sits a_h_bestSits a_h_without a_h_row (m_many z_h_T) (m_odd z_h_T) (m_step z_h_T) (m_bag z_h_T) (m_strokes z_h_T) (m_gave z_h_T) (m_threw z_h_T) y_h_taped y_h_at y_h_statements y_h_hasImage (m_isKeeping z_h_T) (m_cursor z_h_T) y_h_beforeMany y_h_found y_h_lots y_h_rowMany q3.2)) (ws' := (w_M_alike cI cJ cC a_h a_h_refused a_h_kind a_h_sweets a_h_gives a_h_tape a_h_letter a_h_letterAt a_h_one a_h_two a_h_kept a_h_trail a_h_crumb a_h_nextCrumb a_h_goal a_h_start a_h_sits a_h_bestSits a_h_without a_h_row y_h_taped y_h_at y_h_statements y_h_hasImage y_h_beforeMany y_h_found y_h_lots y_h_rowMany (m_many z_h_T) (m_odd z_h_T) (m_step z_h_T) (m_bag z_h_T) (m_strokes z_h_T) (m_gave z_h_T) (m_threw z_h_T) (m_isKeeping z_h_T) (m_cursor z_h_T) q3.2 (m_kind z_h_T) (m_sweets z_h_T) (m_gives z_h_T) (m_kept z_h_T) z_h_trail)) (As := [.int (-3)]) (rest := []) hx hb hml hown hT (c_M_no (z_h_refused := z_h_refused) a_h a_h_refused a_h_kind a_h_sweets a_h_gives a_h_tape a_h_letter a_h_letterAt a_h_one a_h_two a_h_kept a_h_trail a_h_crumb a_h_nextCrumb a_h_goal a_h_start a_h_sits a_h_bestSits a_h_without a_h_row (m_many z_h_T) (m_odd z_h_T) (m_step z_h_T) (m_bag z_h_T) (m_strokes z_h_T) (m_gave z_h_T) (m_threw z_h_T) y_h_taped y_h_at y_h_statements y_h_hasImage (m_isKeeping z_h_T) (m_cursor z_h_T) y_h_beforeMany y_h_found y_h_lots y_h_rowMany hq3) k_874 k_876 ks_24 k_8 k_877 hd_M_no ⟨Nat.le_of_ble_eq_true rfl, Nat.le_of_ble_eq_true rfl⟩ xE0_ok trivial hA hK hP hD hS [0, 1] [2, 3, 4, 5, 6] [5, 6, 0, 1, 2, 3, 4] rfl rfl rfl rfl rfl rfl rfl rfl rfl rfl hl.1 rfl (Nat.le_of_ble_eq_true rfl) ⟨Nat.zero_le _, Nat.zero_le _⟩ d_M_alike_10 (fun H locs hP hD hS => ?_)
    refine lv_goto (tgt := 23) hx hb d_M_alike_13 (by decide) ?_
    have hq := Option.some.inj hf
    subst hq
    exact hret _ _ _ _ _ d_M_alike_23 rfl rfl hP hD hS
abbrev w_M_ring (cI cJ cC : ClassId) (a_h a_h_refused a_h_kind a_h_sweets a_h_gives a_h_tape a_h_letter a_h_letterAt a_h_one a_h_two a_h_kept a_h_trail a_h_crumb a_h_nextCrumb a_h_goal a_h_start a_h_sits a_h_bestSits a_h_without a_h_row : Nat) (y_h_taped : Int32) (y_h_at : Int32) (y_h_statements : Int32) (y_h_hasImage : Int32) (y_h_beforeMany : Int32) (y_h_found : Int32) (y_h_lots : Int32) (y_h_rowMany : Int32) (p_h_many : Int32) (p_h_odd : Int32) (p_h_step : Int32) (p_h_bag : Int32) (p_h_strokes : Int32) (p_h_gave : Int32) (p_h_threw : Int32) (p_h_isKeeping : Int32) (p_h_cursor : Int32) (p_h_refused : (Nat → Int32)) (p_h_kind : (Nat → Int32)) (p_h_sweets : (Nat → Int32)) (p_h_gives : (Nat → Int32)) (p_h_kept : (Nat → Int32)) (p_h_trail : (Nat → Int32)) : va_W := [(a_h, .inr (7, [.ref a_h_refused, .ref a_h_kind, .ref a_h_sweets, .ref a_h_gives, .int p_h_many, .int p_h_odd, .int p_h_step, .int p_h_bag, .int p_h_strokes, .int p_h_gave, .int p_h_threw, .ref a_h_tape, .ref a_h_letter, .ref a_h_letterAt, .ref a_h_one, .ref a_h_two, .int y_h_taped, .int y_h_at, .int y_h_statements, .ref a_h_kept, .int y_h_hasImage, .int p_h_isKeeping, .int p_h_cursor, .ref a_h_trail, .ref a_h_crumb, .ref a_h_nextCrumb, .ref a_h_goal, .ref a_h_start, .int y_h_beforeMany, .int y_h_found, .ref a_h_sits, .ref a_h_bestSits, .ref a_h_without, .int y_h_lots, .ref a_h_row, .int y_h_rowMany])), (a_h_refused, .inl (cI, (7, .inl p_h_refused))), (a_h_kind, .inl (cI, (8, .inl p_h_kind))), (a_h_sweets, .inl (cI, (8, .inl p_h_sweets))), (a_h_gives, .inl (cI, (8, .inl p_h_gives))), (a_h_kept, .inl (cI, (90, .inl p_h_kept))), (a_h_trail, .inl (cI, (1827, .inl p_h_trail)))]
theorem d_M_ring_0 : decode b_M_ring 0 = .ok (.iload_n 1, 1) := by decide +kernel
theorem d_M_ring_1 : decode b_M_ring 1 = .ok (.iconst 0, 1) := by decide +kernel
theorem d_M_ring_2 : decode b_M_ring 2 = .ok (.iconst 1, 1) := by decide +kernel
theorem d_M_ring_3 : decode b_M_ring 3 = .ok (.invokestatic 99, 3) := by decide +kernel
theorem d_M_ring_6 : decode b_M_ring 6 = .ok (.ifCond .ne 10, 3) := by decide +kernel
theorem d_M_ring_9 : decode b_M_ring 9 = .ok (.aload_n 0, 1) := by decide +kernel
theorem d_M_ring_10 : decode b_M_ring 10 = .ok (.bipush (-2), 2) := by decide +kernel
theorem d_M_ring_12 : decode b_M_ring 12 = .ok (.invokevirtual 88, 3) := by decide +kernel
theorem d_M_ring_15 : decode b_M_ring 15 = .ok (.ireturn, 1) := by decide +kernel
theorem d_M_ring_16 : decode b_M_ring 16 = .ok (.aload_n 0, 1) := by decide +kernel
theorem d_M_ring_17 : decode b_M_ring 17 = .ok (.getfield 78, 3) := by decide +kernel
theorem d_M_ring_20 : decode b_M_ring 20 = .ok (.ifCond .ne 10, 3) := by decide +kernel
theorem d_M_ring_23 : decode b_M_ring 23 = .ok (.aload_n 0, 1) := by decide +kernel
theorem d_M_ring_24 : decode b_M_ring 24 = .ok (.bipush (-3), 2) := by decide +kernel
theorem d_M_ring_26 : decode b_M_ring 26 = .ok (.invokevirtual 88, 3) := by decide +kernel
theorem d_M_ring_29 : decode b_M_ring 29 = .ok (.ireturn, 1) := by decide +kernel
theorem d_M_ring_30 : decode b_M_ring 30 = .ok (.aload_n 0, 1) := by decide +kernel
theorem d_M_ring_31 : decode b_M_ring 31 = .ok (.sipush 200, 3) := by decide +kernel
theorem d_M_ring_34 : decode b_M_ring 34 = .ok (.invokevirtual 182, 3) := by decide +kernel
theorem d_M_ring_37 : decode b_M_ring 37 = .ok (.iconst 0, 1) := by decide +kernel
theorem d_M_ring_38 : decode b_M_ring 38 = .ok (.istore_n 2, 1) := by decide +kernel
theorem d_M_ring_39 : decode b_M_ring 39 = .ok (.iload_n 2, 1) := by decide +kernel
theorem d_M_ring_40 : decode b_M_ring 40 = .ok (.bipush 100, 2) := by decide +kernel
theorem d_M_ring_42 : decode b_M_ring 42 = .ok (.if_icmp .gt 46, 3) := by decide +kernel
theorem d_M_ring_45 : decode b_M_ring 45 = .ok (.iconst 1, 1) := by decide +kernel
theorem d_M_ring_46 : decode b_M_ring 46 = .ok (.istore_n 3, 1) := by decide +kernel
theorem d_M_ring_47 : decode b_M_ring 47 = .ok (.iload_n 3, 1) := by decide +kernel
theorem d_M_ring_48 : decode b_M_ring 48 = .ok (.bipush 100, 2) := by decide +kernel
theorem d_M_ring_50 : decode b_M_ring 50 = .ok (.if_icmp .gt 32, 3) := by decide +kernel
theorem d_M_ring_53 : decode b_M_ring 53 = .ok (.aload_n 0, 1) := by decide +kernel
theorem d_M_ring_54 : decode b_M_ring 54 = .ok (.iload_n 2, 1) := by decide +kernel
theorem d_M_ring_55 : decode b_M_ring 55 = .ok (.iload_n 2, 1) := by decide +kernel
theorem d_M_ring_56 : decode b_M_ring 56 = .ok (.iload_n 3, 1) := by decide +kernel
theorem d_M_ring_57 : decode b_M_ring 57 = .ok (.iadd, 1) := by decide +kernel
theorem d_M_ring_58 : decode b_M_ring 58 = .ok (.bipush 9, 2) := by decide +kernel
theorem d_M_ring_60 : decode b_M_ring 60 = .ok (.invokevirtual 185, 3) := by decide +kernel
theorem d_M_ring_63 : decode b_M_ring 63 = .ok (.ifCond .eq 13, 3) := by decide +kernel
theorem d_M_ring_66 : decode b_M_ring 66 = .ok (.iload_n 1, 1) := by decide +kernel
theorem d_M_ring_67 : decode b_M_ring 67 = .ok (.ifCond .ne 7, 3) := by decide +kernel
theorem d_M_ring_70 : decode b_M_ring 70 = .ok (.iload_n 2, 1) := by decide +kernel
theorem d_M_ring_71 : decode b_M_ring 71 = .ok (.goto 4, 3) := by decide +kernel
theorem d_M_ring_74 : decode b_M_ring 74 = .ok (.iload_n 3, 1) := by decide +kernel
theorem d_M_ring_75 : decode b_M_ring 75 = .ok (.ireturn, 1) := by decide +kernel
theorem d_M_ring_76 : decode b_M_ring 76 = .ok (.iinc 3 1, 3) := by decide +kernel
theorem d_M_ring_79 : decode b_M_ring 79 = .ok (.goto (-32), 3) := by decide +kernel
theorem d_M_ring_82 : decode b_M_ring 82 = .ok (.iinc 2 1, 3) := by decide +kernel
theorem d_M_ring_85 : decode b_M_ring 85 = .ok (.goto (-46), 3) := by decide +kernel
theorem d_M_ring_88 : decode b_M_ring 88 = .ok (.bipush (-9), 2) := by decide +kernel
theorem d_M_ring_90 : decode b_M_ring 90 = .ok (.ireturn, 1) := by decide +kernel
set_option maxHeartbeats 4000000 in
set_option maxRecDepth 100000 in
theorem c_M_ring {l : Launch} {D : va_G} {cI cJ cC : ClassId} (a_h a_h_refused a_h_kind a_h_sweets a_h_gives a_h_tape a_h_letter a_h_letterAt a_h_one a_h_two a_h_kept a_h_trail a_h_crumb a_h_nextCrumb a_h_goal a_h_start a_h_sits a_h_bestSits a_h_without a_h_row : Nat) (y_h_taped : Int32) (y_h_at : Int32) (y_h_statements : Int32) (y_h_hasImage : Int32) (y_h_beforeMany : Int32) (y_h_found : Int32) (y_h_lots : Int32) (y_h_rowMany : Int32) {z_h_T : MT} {z_h_refused : (Nat → Int32)} {z_h_trail : (Nat → Int32)} {x1 : Int32} {q : Int32 × MT × (Nat → Int32) × (Nat → Int32)} (hf : f_M_ring z_h_T z_h_refused z_h_trail x1 = some q) : xI l y_M_ring b_M_ring 4 .int 4 89 D (tyK cI cJ cC) xE0 [.ref a_h, .int x1] (w_M_ring cI cJ cC a_h a_h_refused a_h_kind a_h_sweets a_h_gives a_h_tape a_h_letter a_h_letterAt a_h_one a_h_two a_h_kept a_h_trail a_h_crumb a_h_nextCrumb a_h_goal a_h_start a_h_sits a_h_bestSits a_h_without a_h_row y_h_taped y_h_at y_h_statements y_h_hasImage y_h_beforeMany y_h_found y_h_lots y_h_rowMany (m_many z_h_T) (m_odd z_h_T) (m_step z_h_T) (m_bag z_h_T) (m_strokes z_h_T) (m_gave z_h_T) (m_threw z_h_T) (m_isKeeping z_h_T) (m_cursor z_h_T) z_h_refused (m_kind z_h_T) (m_sweets z_h_T) (m_gives z_h_T) (m_kept z_h_T) z_h_trail) q.1 (w_M_ring cI cJ cC a_h a_h_refused a_h_kind a_h_sweets a_h_gives a_h_tape a_h_letter a_h_letterAt a_h_one a_h_two a_h_kept a_h_trail a_h_crumb a_h_nextCrumb a_h_goal a_h_start a_h_sits a_h_bestSits a_h_without a_h_row y_h_taped y_h_at y_h_statements y_h_hasImage y_h_beforeMany y_h_found y_h_lots y_h_rowMany (m_many q.2.1) (m_odd q.2.1) (m_step q.2.1) (m_bag q.2.1) (m_strokes q.2.1) (m_gave q.2.1) (m_threw q.2.1) (m_isKeeping q.2.1) (m_cursor q.2.1) q.2.2.1 (m_kind q.2.1) (m_sweets q.2.1) (m_gives q.2.1) (m_kept q.2.1) q.2.2.2) := by
  refine xI_of (by decide) (Nat.le_of_ble_eq_true rfl) ?_
  intro p e s m args below meth c A Q hx hb hml hown hT hA hP hD hK hS hE hret ls hl
  have hown : s.vm.findClass R_M = some m.cls := hown
  have hl : lv_has ls 4 [(0, .ref a_h), (1, .int x1)] := hl
  unfold f_M_ring at hf
  have L47 : ∀ (z_h_T : MT) (z_h_refused : (Nat → Int32)) (z_h_trail : (Nat → Int32)) (x2 : Int32) (k : Option (Int32 × MT × (Nat → Int32) × (Nat → Int32))), (∀ (H : Heap) (locs : List Loc) (ls : Array Slot), k = some q → va_P D classes (w_M_ring cI cJ cC a_h a_h_refused a_h_kind a_h_sweets a_h_gives a_h_tape a_h_letter a_h_letterAt a_h_one a_h_two a_h_kept a_h_trail a_h_crumb a_h_nextCrumb a_h_goal a_h_start a_h_sits a_h_bestSits a_h_without a_h_row y_h_taped y_h_at y_h_statements y_h_hasImage y_h_beforeMany y_h_found y_h_lots y_h_rowMany (m_many z_h_T) (m_odd z_h_T) (m_step z_h_T) (m_bag z_h_T) (m_strokes z_h_T) (m_gave z_h_T) (m_threw z_h_T) (m_isKeeping z_h_T) (m_cursor z_h_T) z_h_refused (m_kind z_h_T) (m_sweets z_h_T) (m_gives z_h_T) (m_kept z_h_T) z_h_trail) H → va_D A (w_M_ring cI cJ cC a_h a_h_refused a_h_kind a_h_sweets a_h_gives a_h_tape a_h_letter a_h_letterAt a_h_one a_h_two a_h_kept a_h_trail a_h_crumb a_h_nextCrumb a_h_goal a_h_start a_h_sits a_h_bestSits a_h_without a_h_row y_h_taped y_h_at y_h_statements y_h_hasImage y_h_beforeMany y_h_found y_h_lots y_h_rowMany (m_many z_h_T) (m_odd z_h_T) (m_step z_h_T) (m_bag z_h_T) (m_strokes z_h_T) (m_gave z_h_T) (m_threw z_h_T) (m_isKeeping z_h_T) (m_cursor z_h_T) z_h_refused (m_kind z_h_T) (m_sweets z_h_T) (m_gives z_h_T) (m_kept z_h_T) z_h_trail) → va_S A s.heap H locs → lv_has ls 4 [(0, .ref a_h), (1, .int x1), (2, .int x2)] → W p l e (xRm 4 89) s m args below meth c H locs 0 0 Q (F0 m 82 ls [])) → ∀ (n : Nat) (x3 : Int32) (H : Heap) (locs : List Loc) (ls : Array Slot), f_M_ring_L47 z_h_T z_h_refused z_h_trail x1 x2 k n x3 = some q → va_P D classes (w_M_ring cI cJ cC a_h a_h_refused a_h_kind a_h_sweets a_h_gives a_h_tape a_h_letter a_h_letterAt a_h_one a_h_two a_h_kept a_h_trail a_h_crumb a_h_nextCrumb a_h_goal a_h_start a_h_sits a_h_bestSits a_h_without a_h_row y_h_taped y_h_at y_h_statements y_h_hasImage y_h_beforeMany y_h_found y_h_lots y_h_rowMany (m_many z_h_T) (m_odd z_h_T) (m_step z_h_T) (m_bag z_h_T) (m_strokes z_h_T) (m_gave z_h_T) (m_threw z_h_T) (m_isKeeping z_h_T) (m_cursor z_h_T) z_h_refused (m_kind z_h_T) (m_sweets z_h_T) (m_gives z_h_T) (m_kept z_h_T) z_h_trail) H → va_D A (w_M_ring cI cJ cC a_h a_h_refused a_h_kind a_h_sweets a_h_gives a_h_tape a_h_letter a_h_letterAt a_h_one a_h_two a_h_kept a_h_trail a_h_crumb a_h_nextCrumb a_h_goal a_h_start a_h_sits a_h_bestSits a_h_without a_h_row y_h_taped y_h_at y_h_statements y_h_hasImage y_h_beforeMany y_h_found y_h_lots y_h_rowMany (m_many z_h_T) (m_odd z_h_T) (m_step z_h_T) (m_bag z_h_T) (m_strokes z_h_T) (m_gave z_h_T) (m_threw z_h_T) (m_isKeeping z_h_T) (m_cursor z_h_T) z_h_refused (m_kind z_h_T) (m_sweets z_h_T) (m_gives z_h_T) (m_kept z_h_T) z_h_trail) → va_S A s.heap H locs → lv_has ls 4 [(0, .ref a_h), (1, .int x1), (2, .int x2), (3, .int x3)] → W p l e (xRm 4 89) s m args below meth c H locs 0 0 Q (F0 m 47 ls []) := by
    intro z_h_T z_h_refused z_h_trail x2 k hk n
    induction n with
    | zero => intro x3 H locs ls hf hP hD hS hl; exact nomatch (show (none : Option (Int32 × MT × (Nat → Int32) × (Nat → Int32))) = some q from hf)
    | succ n ih =>
      intro x3 H locs ls hf hP hD hS hl
      refine lv_iload_n hx hb d_M_ring_47 rfl (lv_at hl 3 rfl) ?_
      refine lv_bipush (v := 100) hx hb d_M_ring_48 (by decide) ?_
      refine lv_icmp_gt (tgt := 82) hx hb d_M_ring_50 (by decide) (fun c6 => ?_) (fun c6 => ?_)
      · have hf := io_t hf c6
        exact hk _ _ _ hf hP hD hS (lv_sub hl [0, 1, 2] rfl)
      · have hf := io_f hf c6
        refine lv_aload_n hx hb d_M_ring_53 rfl (lv_at hl 0 rfl) ?_
        refine lv_iload_n hx hb d_M_ring_54 rfl (lv_at hl 2 rfl) ?_
        refine lv_iload_n hx hb d_M_ring_55 rfl (lv_at hl 2 rfl) ?_
        refine lv_iload_n hx hb d_M_ring_56 rfl (lv_at hl 3 rfl) ?_
        refine lv_iadd hx hb d_M_ring_57 ?_
        refine lv_bipush (v := 9) hx hb d_M_ring_58 (by decide) ?_
        obtain ⟨q7, hq7, hf⟩ := io_b hf
        refine xcVI (wc := (w_M_areSame cI cJ cC a_h a_h_refused a_h_kind a_h_sweets a_h_gives a_h_tape a_h_letter a_h_letterAt a_h_one a_h_two a_h_kept a_h_trail a_h_crumb a_h_nextCrumb a_h_goal a_h_start a_h_sits a_h_bestSits a_h_without a_h_row (m_many z_h_T) (m_odd z_h_T) (m_step z_h_T) (m_bag z_h_T) (m_strokes z_h_T) (m_gave z_h_T) (m_threw z_h_T) y_h_taped y_h_at y_h_statements y_h_hasImage (m_isKeeping z_h_T) (m_cursor z_h_T) y_h_beforeMany y_h_found y_h_lots y_h_rowMany z_h_trail)) (wc' := (w_M_areSame cI cJ cC a_h a_h_refused a_h_kind a_h_sweets a_h_gives a_h_tape a_h_letter a_h_letterAt a_h_one a_h_two a_h_kept a_h_trail a_h_crumb a_h_nextCrumb a_h_goal a_h_start a_h_sits a_h_bestSits a_h_without a_h_row (m_many z_h_T) (m_odd z_h_T) (m_step z_h_T) (m_bag z_h_T) (m_strokes z_h_T) (m_gave z_h_T) (m_threw z_h_T) y_h_taped y_h_at y_h_statements y_h_hasImage (m_isKeeping z_h_T) (m_cursor z_h_T) y_h_beforeMany y_h_found y_h_lots y_h_rowMany z_h_trail)) (ws' := (w_M_ring cI cJ cC a_h a_h_refused a_h_kind a_h_sweets a_h_gives a_h_tape a_h_letter a_h_letterAt a_h_one a_h_two a_h_kept a_h_trail a_h_crumb a_h_nextCrumb a_h_goal a_h_start a_h_sits a_h_bestSits a_h_without a_h_row y_h_taped y_h_at y_h_statements y_h_hasImage y_h_beforeMany y_h_found y_h_lots y_h_rowMany (m_many z_h_T) (m_odd z_h_T) (m_step z_h_T) (m_bag z_h_T) (m_strokes z_h_T) (m_gave z_h_T) (m_threw z_h_T) (m_isKeeping z_h_T) (m_cursor z_h_T) z_h_refused (m_kind z_h_T) (m_sweets z_h_T) (m_gives z_h_T) (m_kept z_h_T) z_h_trail)) (As := [.int x2, .int (x2 + x3), .int 9]) (rest := []) hx hb hml hown hT (c_M_areSame (z_h_trail := z_h_trail) a_h a_h_refused a_h_kind a_h_sweets a_h_gives a_h_tape a_h_letter a_h_letterAt a_h_one a_h_two a_h_kept a_h_trail a_h_crumb a_h_nextCrumb a_h_goal a_h_start a_h_sits a_h_bestSits a_h_without a_h_row (m_many z_h_T) (m_odd z_h_T) (m_step z_h_T) (m_bag z_h_T) (m_strokes z_h_T) (m_gave z_h_T) (m_threw z_h_T) y_h_taped y_h_at y_h_statements y_h_hasImage (m_isKeeping z_h_T) (m_cursor z_h_T) y_h_beforeMany y_h_found y_h_lots y_h_rowMany hq7) k_999 k_1001 ks_41 k_8 k_1002 hd_M_areSame ⟨Nat.le_of_ble_eq_true rfl, Nat.le_of_ble_eq_true rfl⟩ xE0_ok trivial hA hK hP hD hS [0, 6] [1, 2, 3, 4, 5] [5, 0, 1, 2, 3, 4, 6] rfl rfl rfl rfl rfl rfl rfl rfl rfl rfl hl.1 rfl (Nat.le_of_ble_eq_true rfl) ⟨Nat.zero_le _, Nat.zero_le _⟩ d_M_ring_60 (fun H locs hP hD hS => ?_)
        refine lv_if_eq (tgt := 76) hx hb d_M_ring_63 (by decide) (fun c8 => ?_) (fun c8 => ?_)
        · have hf := io_t hf c8
          refine lv_iinc (v := (x3 + 1)) (lv' := [(3, .int (x3 + 1)), (0, .ref a_h), (1, .int x1), (2, .int x2)]) hx hb d_M_ring_76 hl (k := 3) rfl (by rfl) (by decide) rfl (fun ls hl => ?_)
          refine lv_goto (tgt := 47) hx hb d_M_ring_79 (by decide) ?_
          exact ih (x3 + 1) _ _ _ hf hP hD hS (lv_sub hl [1, 2, 3, 0] rfl)
        · have hf := io_f hf c8
          refine lv_iload_n hx hb d_M_ring_66 rfl (lv_at hl 1 rfl) ?_
          refine lv_if_ne (tgt := 74) hx hb d_M_ring_67 (by decide) (fun c9 => ?_) (fun c9 => ?_)
          · have hf := io_f hf c9
            refine lv_iload_n hx hb d_M_ring_74 rfl (lv_at hl 3 rfl) ?_
            have hq := Option.some.inj hf
            subst hq
            exact hret _ _ _ _ _ d_M_ring_75 rfl rfl hP hD hS
          · have hf := io_t hf c9
            refine lv_iload_n hx hb d_M_ring_70 rfl (lv_at hl 2 rfl) ?_
            refine lv_goto (tgt := 75) hx hb d_M_ring_71 (by decide) ?_
            have hq := Option.some.inj hf
            subst hq
            exact hret _ _ _ _ _ d_M_ring_75 rfl rfl hP hD hS
  have L39 : ∀ (z_h_T : MT) (z_h_refused : (Nat → Int32)) (z_h_trail : (Nat → Int32)), ∀ (n : Nat) (x2 : Int32) (H : Heap) (locs : List Loc) (ls : Array Slot), f_M_ring_L39 z_h_T z_h_refused z_h_trail x1 n x2 = some q → va_P D classes (w_M_ring cI cJ cC a_h a_h_refused a_h_kind a_h_sweets a_h_gives a_h_tape a_h_letter a_h_letterAt a_h_one a_h_two a_h_kept a_h_trail a_h_crumb a_h_nextCrumb a_h_goal a_h_start a_h_sits a_h_bestSits a_h_without a_h_row y_h_taped y_h_at y_h_statements y_h_hasImage y_h_beforeMany y_h_found y_h_lots y_h_rowMany (m_many z_h_T) (m_odd z_h_T) (m_step z_h_T) (m_bag z_h_T) (m_strokes z_h_T) (m_gave z_h_T) (m_threw z_h_T) (m_isKeeping z_h_T) (m_cursor z_h_T) z_h_refused (m_kind z_h_T) (m_sweets z_h_T) (m_gives z_h_T) (m_kept z_h_T) z_h_trail) H → va_D A (w_M_ring cI cJ cC a_h a_h_refused a_h_kind a_h_sweets a_h_gives a_h_tape a_h_letter a_h_letterAt a_h_one a_h_two a_h_kept a_h_trail a_h_crumb a_h_nextCrumb a_h_goal a_h_start a_h_sits a_h_bestSits a_h_without a_h_row y_h_taped y_h_at y_h_statements y_h_hasImage y_h_beforeMany y_h_found y_h_lots y_h_rowMany (m_many z_h_T) (m_odd z_h_T) (m_step z_h_T) (m_bag z_h_T) (m_strokes z_h_T) (m_gave z_h_T) (m_threw z_h_T) (m_isKeeping z_h_T) (m_cursor z_h_T) z_h_refused (m_kind z_h_T) (m_sweets z_h_T) (m_gives z_h_T) (m_kept z_h_T) z_h_trail) → va_S A s.heap H locs → lv_has ls 4 [(0, .ref a_h), (1, .int x1), (2, .int x2)] → W p l e (xRm 4 89) s m args below meth c H locs 0 0 Q (F0 m 39 ls []) := by
    intro z_h_T z_h_refused z_h_trail n
    induction n with
    | zero => intro x2 H locs ls hf hP hD hS hl; exact nomatch (show (none : Option (Int32 × MT × (Nat → Int32) × (Nat → Int32))) = some q from hf)
    | succ n ih =>
      intro x2 H locs ls hf hP hD hS hl
      refine lv_iload_n hx hb d_M_ring_39 rfl (lv_at hl 2 rfl) ?_
      refine lv_bipush (v := 100) hx hb d_M_ring_40 (by decide) ?_
      refine lv_icmp_gt (tgt := 88) hx hb d_M_ring_42 (by decide) (fun c5 => ?_) (fun c5 => ?_)
      · have hf := io_t hf c5
        refine lv_bipush (v := (-9)) hx hb d_M_ring_88 (by decide) ?_
        have hq := Option.some.inj hf
        subst hq
        exact hret _ _ _ _ _ d_M_ring_90 rfl rfl hP hD hS
      · have hf := io_f hf c5
        refine lv_iconst (v := 1) hx hb d_M_ring_45 (by decide) ?_
        refine lv_istore_n (lv' := [(3, .int 1), (0, .ref a_h), (1, .int x1), (2, .int x2)]) hx hb d_M_ring_46 rfl hl (by decide) rfl (fun ls hl => ?_)
        refine L47 z_h_T z_h_refused z_h_trail x2 _ (fun H locs ls hf hP hD hS hl => ?_) FU 1 _ _ _ hf hP hD hS (lv_sub hl [1, 2, 3, 0] rfl)
        refine lv_iinc (v := (x2 + 1)) (lv' := [(2, .int (x2 + 1)), (0, .ref a_h), (1, .int x1)]) hx hb d_M_ring_82 hl (k := 2) rfl (by rfl) (by decide) rfl (fun ls hl => ?_)
        refine lv_goto (tgt := 39) hx hb d_M_ring_85 (by decide) ?_
        exact ih (x2 + 1) _ _ _ hf hP hD hS (lv_sub hl [1, 2, 0] rfl)
  refine lv_iload_n hx hb d_M_ring_0 rfl (lv_at hl 1 rfl) ?_
  refine lv_iconst (v := 0) hx hb d_M_ring_1 (by decide) ?_
  refine lv_iconst (v := 1) hx hb d_M_ring_2 (by decide) ?_
  obtain ⟨q1, hq1, hf⟩ := io_b hf
  refine xcSI (wc := []) (wc' := []) (ws' := (w_M_ring cI cJ cC a_h a_h_refused a_h_kind a_h_sweets a_h_gives a_h_tape a_h_letter a_h_letterAt a_h_one a_h_two a_h_kept a_h_trail a_h_crumb a_h_nextCrumb a_h_goal a_h_start a_h_sits a_h_bestSits a_h_without a_h_row y_h_taped y_h_at y_h_statements y_h_hasImage y_h_beforeMany y_h_found y_h_lots y_h_rowMany (m_many z_h_T) (m_odd z_h_T) (m_step z_h_T) (m_bag z_h_T) (m_strokes z_h_T) (m_gave z_h_T) (m_threw z_h_T) (m_isKeeping z_h_T) (m_cursor z_h_T) z_h_refused (m_kind z_h_T) (m_sweets z_h_T) (m_gives z_h_T) (m_kept z_h_T) z_h_trail)) (As := [.int x1, .int 0, .int 1]) (rest := []) hx hb hml hown hT (c_M_isIn hq1) k_897 k_898 k_8 k_899 hd_M_isIn ⟨Nat.le_of_ble_eq_true rfl, Nat.le_of_ble_eq_true rfl⟩ xE0_ok trivial hA hK hP hD hS [] [0, 1, 2, 3, 4, 5, 6] [0, 1, 2, 3, 4, 5, 6] rfl rfl rfl rfl rfl rfl rfl hl.1 rfl (Nat.le_of_ble_eq_true rfl) ⟨Nat.zero_le _, Nat.zero_le _⟩ d_M_ring_3 (fun H locs hP hD hS => ?_)
  refine lv_if_ne (tgt := 16) hx hb d_M_ring_6 (by decide) (fun c2 => ?_) (fun c2 => ?_)
  · have hf := io_f hf c2
    refine lv_aload_n hx hb d_M_ring_16 rfl (lv_at hl 0 rfl) ?_
    refine va_get hx hb hT i_M hown hK hP 0 rfl rfl 4 (Nat.le_of_ble_eq_true rfl) (hT _ k_762) (fun _ h => h) rfl d_M_ring_17 ?_
    refine lv_if_ne (tgt := 30) hx hb d_M_ring_20 (by decide) (fun c3 => ?_) (fun c3 => ?_)
    · have hf := io_f hf c3
      refine lv_aload_n hx hb d_M_ring_30 rfl (lv_at hl 0 rfl) ?_
      refine lv_sipush (v := 200) hx hb d_M_ring_31 (by decide) ?_
      obtain ⟨q4, hq4, hf⟩ := io_b hf
      refine xcVV (wc := (w_M_writesTrail cI cJ cC a_h a_h_refused a_h_kind a_h_sweets a_h_gives a_h_tape a_h_letter a_h_letterAt a_h_one a_h_two a_h_kept a_h_trail a_h_crumb a_h_nextCrumb a_h_goal a_h_start a_h_sits a_h_bestSits a_h_without a_h_row y_h_taped y_h_at y_h_statements y_h_hasImage y_h_beforeMany y_h_found y_h_lots y_h_rowMany (m_many z_h_T) (m_odd z_h_T) (m_step z_h_T) (m_bag z_h_T) (m_strokes z_h_T) (m_gave z_h_T) (m_threw z_h_T) (m_isKeeping z_h_T) (m_cursor z_h_T) (m_kind z_h_T) (m_sweets z_h_T) (m_gives z_h_T) (m_kept z_h_T) z_h_trail)) (wc' := (w_M_writesTrail cI cJ cC a_h a_h_refused a_h_kind a_h_sweets a_h_gives a_h_tape a_h_letter a_h_letterAt a_h_one a_h_two a_h_kept a_h_trail a_h_crumb a_h_nextCrumb a_h_goal a_h_start a_h_sits a_h_bestSits a_h_without a_h_row y_h_taped y_h_at y_h_statements y_h_hasImage y_h_beforeMany y_h_found y_h_lots y_h_rowMany (m_many q4.1) (m_odd q4.1) (m_step q4.1) (m_bag q4.1) (m_strokes q4.1) (m_gave q4.1) (m_threw q4.1) (m_isKeeping q4.1) (m_cursor q4.1) (m_kind q4.1) (m_sweets q4.1) (m_gives q4.1) (m_kept q4.1) q4.2)) (ws' := (w_M_ring cI cJ cC a_h a_h_refused a_h_kind a_h_sweets a_h_gives a_h_tape a_h_letter a_h_letterAt a_h_one a_h_two a_h_kept a_h_trail a_h_crumb a_h_nextCrumb a_h_goal a_h_start a_h_sits a_h_bestSits a_h_without a_h_row y_h_taped y_h_at y_h_statements y_h_hasImage y_h_beforeMany y_h_found y_h_lots y_h_rowMany (m_many q4.1) (m_odd q4.1) (m_step q4.1) (m_bag q4.1) (m_strokes q4.1) (m_gave q4.1) (m_threw q4.1) (m_isKeeping q4.1) (m_cursor q4.1) z_h_refused (m_kind q4.1) (m_sweets q4.1) (m_gives q4.1) (m_kept q4.1) q4.2)) (As := [.int 200]) (rest := []) hx hb hml hown hT (c_M_writesTrail (z_h_T := z_h_T) (z_h_trail := z_h_trail) a_h a_h_refused a_h_kind a_h_sweets a_h_gives a_h_tape a_h_letter a_h_letterAt a_h_one a_h_two a_h_kept a_h_trail a_h_crumb a_h_nextCrumb a_h_goal a_h_start a_h_sits a_h_bestSits a_h_without a_h_row y_h_taped y_h_at y_h_statements y_h_hasImage y_h_beforeMany y_h_found y_h_lots y_h_rowMany hq4) k_995 k_997 ks_40 k_8 k_998 hd_M_writesTrail ⟨Nat.le_of_ble_eq_true rfl, Nat.le_of_ble_eq_true rfl⟩ xE0_ok trivial hA hK hP hD hS [0, 2, 3, 4, 5, 6] [1] [1, 0, 2, 3, 4, 5, 6] rfl rfl rfl rfl rfl rfl rfl rfl rfl rfl hl.1 rfl (Nat.le_of_ble_eq_true rfl) ⟨Nat.zero_le _, Nat.zero_le _⟩ d_M_ring_34 (fun H locs hP hD hS => ?_)
      refine lv_iconst (v := 0) hx hb d_M_ring_37 (by decide) ?_
      refine lv_istore_n (lv' := [(2, .int 0), (0, .ref a_h), (1, .int x1)]) hx hb d_M_ring_38 rfl hl (by decide) rfl (fun ls hl => ?_)
      exact L39 q4.1 z_h_refused q4.2 FU 0 _ _ _ hf hP hD hS (lv_sub hl [1, 2, 0] rfl)
    · have hf := io_t hf c3
      refine lv_aload_n hx hb d_M_ring_23 rfl (lv_at hl 0 rfl) ?_
      refine lv_bipush (v := (-3)) hx hb d_M_ring_24 (by decide) ?_
      obtain ⟨q11, hq11, hf⟩ := io_b hf
      refine xcVI (wc := (w_M_no cI cJ cC a_h a_h_refused a_h_kind a_h_sweets a_h_gives a_h_tape a_h_letter a_h_letterAt a_h_one a_h_two a_h_kept a_h_trail a_h_crumb a_h_nextCrumb a_h_goal a_h_start a_h_sits a_h_bestSits a_h_without a_h_row (m_many z_h_T) (m_odd z_h_T) (m_step z_h_T) (m_bag z_h_T) (m_strokes z_h_T) (m_gave z_h_T) (m_threw z_h_T) y_h_taped y_h_at y_h_statements y_h_hasImage (m_isKeeping z_h_T) (m_cursor z_h_T) y_h_beforeMany y_h_found y_h_lots y_h_rowMany z_h_refused)) (wc' := (w_M_no cI cJ cC a_h a_h_refused a_h_kind a_h_sweets a_h_gives a_h_tape a_h_letter a_h_letterAt a_h_one a_h_two a_h_kept a_h_trail a_h_crumb a_h_nextCrumb a_h_goal a_h_start a_h_sits a_h_bestSits a_h_without a_h_row (m_many z_h_T) (m_odd z_h_T) (m_step z_h_T) (m_bag z_h_T) (m_strokes z_h_T) (m_gave z_h_T) (m_threw z_h_T) y_h_taped y_h_at y_h_statements y_h_hasImage (m_isKeeping z_h_T) (m_cursor z_h_T) y_h_beforeMany y_h_found y_h_lots y_h_rowMany q11.2)) (ws' := (w_M_ring cI cJ cC a_h a_h_refused a_h_kind a_h_sweets a_h_gives a_h_tape a_h_letter a_h_letterAt a_h_one a_h_two a_h_kept a_h_trail a_h_crumb a_h_nextCrumb a_h_goal a_h_start a_h_sits a_h_bestSits a_h_without a_h_row y_h_taped y_h_at y_h_statements y_h_hasImage y_h_beforeMany y_h_found y_h_lots y_h_rowMany (m_many z_h_T) (m_odd z_h_T) (m_step z_h_T) (m_bag z_h_T) (m_strokes z_h_T) (m_gave z_h_T) (m_threw z_h_T) (m_isKeeping z_h_T) (m_cursor z_h_T) q11.2 (m_kind z_h_T) (m_sweets z_h_T) (m_gives z_h_T) (m_kept z_h_T) z_h_trail)) (As := [.int (-3)]) (rest := []) hx hb hml hown hT (c_M_no (z_h_refused := z_h_refused) a_h a_h_refused a_h_kind a_h_sweets a_h_gives a_h_tape a_h_letter a_h_letterAt a_h_one a_h_two a_h_kept a_h_trail a_h_crumb a_h_nextCrumb a_h_goal a_h_start a_h_sits a_h_bestSits a_h_without a_h_row (m_many z_h_T) (m_odd z_h_T) (m_step z_h_T) (m_bag z_h_T) (m_strokes z_h_T) (m_gave z_h_T) (m_threw z_h_T) y_h_taped y_h_at y_h_statements y_h_hasImage (m_isKeeping z_h_T) (m_cursor z_h_T) y_h_beforeMany y_h_found y_h_lots y_h_rowMany hq11) k_874 k_876 ks_24 k_8 k_877 hd_M_no ⟨Nat.le_of_ble_eq_true rfl, Nat.le_of_ble_eq_true rfl⟩ xE0_ok trivial hA hK hP hD hS [0, 1] [2, 3, 4, 5, 6] [5, 6, 0, 1, 2, 3, 4] rfl rfl rfl rfl rfl rfl rfl rfl rfl rfl hl.1 rfl (Nat.le_of_ble_eq_true rfl) ⟨Nat.zero_le _, Nat.zero_le _⟩ d_M_ring_26 (fun H locs hP hD hS => ?_)
      have hq := Option.some.inj hf
      subst hq
      exact hret _ _ _ _ _ d_M_ring_29 rfl rfl hP hD hS
  · have hf := io_t hf c2
    refine lv_aload_n hx hb d_M_ring_9 rfl (lv_at hl 0 rfl) ?_
    refine lv_bipush (v := (-2)) hx hb d_M_ring_10 (by decide) ?_
    obtain ⟨q12, hq12, hf⟩ := io_b hf
    refine xcVI (wc := (w_M_no cI cJ cC a_h a_h_refused a_h_kind a_h_sweets a_h_gives a_h_tape a_h_letter a_h_letterAt a_h_one a_h_two a_h_kept a_h_trail a_h_crumb a_h_nextCrumb a_h_goal a_h_start a_h_sits a_h_bestSits a_h_without a_h_row (m_many z_h_T) (m_odd z_h_T) (m_step z_h_T) (m_bag z_h_T) (m_strokes z_h_T) (m_gave z_h_T) (m_threw z_h_T) y_h_taped y_h_at y_h_statements y_h_hasImage (m_isKeeping z_h_T) (m_cursor z_h_T) y_h_beforeMany y_h_found y_h_lots y_h_rowMany z_h_refused)) (wc' := (w_M_no cI cJ cC a_h a_h_refused a_h_kind a_h_sweets a_h_gives a_h_tape a_h_letter a_h_letterAt a_h_one a_h_two a_h_kept a_h_trail a_h_crumb a_h_nextCrumb a_h_goal a_h_start a_h_sits a_h_bestSits a_h_without a_h_row (m_many z_h_T) (m_odd z_h_T) (m_step z_h_T) (m_bag z_h_T) (m_strokes z_h_T) (m_gave z_h_T) (m_threw z_h_T) y_h_taped y_h_at y_h_statements y_h_hasImage (m_isKeeping z_h_T) (m_cursor z_h_T) y_h_beforeMany y_h_found y_h_lots y_h_rowMany q12.2)) (ws' := (w_M_ring cI cJ cC a_h a_h_refused a_h_kind a_h_sweets a_h_gives a_h_tape a_h_letter a_h_letterAt a_h_one a_h_two a_h_kept a_h_trail a_h_crumb a_h_nextCrumb a_h_goal a_h_start a_h_sits a_h_bestSits a_h_without a_h_row y_h_taped y_h_at y_h_statements y_h_hasImage y_h_beforeMany y_h_found y_h_lots y_h_rowMany (m_many z_h_T) (m_odd z_h_T) (m_step z_h_T) (m_bag z_h_T) (m_strokes z_h_T) (m_gave z_h_T) (m_threw z_h_T) (m_isKeeping z_h_T) (m_cursor z_h_T) q12.2 (m_kind z_h_T) (m_sweets z_h_T) (m_gives z_h_T) (m_kept z_h_T) z_h_trail)) (As := [.int (-2)]) (rest := []) hx hb hml hown hT (c_M_no (z_h_refused := z_h_refused) a_h a_h_refused a_h_kind a_h_sweets a_h_gives a_h_tape a_h_letter a_h_letterAt a_h_one a_h_two a_h_kept a_h_trail a_h_crumb a_h_nextCrumb a_h_goal a_h_start a_h_sits a_h_bestSits a_h_without a_h_row (m_many z_h_T) (m_odd z_h_T) (m_step z_h_T) (m_bag z_h_T) (m_strokes z_h_T) (m_gave z_h_T) (m_threw z_h_T) y_h_taped y_h_at y_h_statements y_h_hasImage (m_isKeeping z_h_T) (m_cursor z_h_T) y_h_beforeMany y_h_found y_h_lots y_h_rowMany hq12) k_874 k_876 ks_24 k_8 k_877 hd_M_no ⟨Nat.le_of_ble_eq_true rfl, Nat.le_of_ble_eq_true rfl⟩ xE0_ok trivial hA hK hP hD hS [0, 1] [2, 3, 4, 5, 6] [5, 6, 0, 1, 2, 3, 4] rfl rfl rfl rfl rfl rfl rfl rfl rfl rfl hl.1 rfl (Nat.le_of_ble_eq_true rfl) ⟨Nat.zero_le _, Nat.zero_le _⟩ d_M_ring_12 (fun H locs hP hD hS => ?_)
    have hq := Option.some.inj hf
    subst hq
    exact hret _ _ _ _ _ d_M_ring_15 rfl rfl hP hD hS
abbrev w_M_meet (cI cJ cC : ClassId) (a_h a_h_refused a_h_kind a_h_sweets a_h_gives a_h_tape a_h_letter a_h_letterAt a_h_one a_h_two a_h_kept a_h_trail a_h_crumb a_h_nextCrumb a_h_goal a_h_start a_h_sits a_h_bestSits a_h_without a_h_row : Nat) (y_h_taped : Int32) (y_h_at : Int32) (y_h_statements : Int32) (y_h_hasImage : Int32) (y_h_beforeMany : Int32) (y_h_found : Int32) (y_h_lots : Int32) (y_h_rowMany : Int32) (p_h_many : Int32) (p_h_odd : Int32) (p_h_step : Int32) (p_h_bag : Int32) (p_h_strokes : Int32) (p_h_gave : Int32) (p_h_threw : Int32) (p_h_isKeeping : Int32) (p_h_cursor : Int32) (p_h_refused : (Nat → Int32)) (p_h_kind : (Nat → Int32)) (p_h_sweets : (Nat → Int32)) (p_h_gives : (Nat → Int32)) (p_h_kept : (Nat → Int32)) (p_h_trail : (Nat → Int32)) : va_W := [(a_h, .inr (7, [.ref a_h_refused, .ref a_h_kind, .ref a_h_sweets, .ref a_h_gives, .int p_h_many, .int p_h_odd, .int p_h_step, .int p_h_bag, .int p_h_strokes, .int p_h_gave, .int p_h_threw, .ref a_h_tape, .ref a_h_letter, .ref a_h_letterAt, .ref a_h_one, .ref a_h_two, .int y_h_taped, .int y_h_at, .int y_h_statements, .ref a_h_kept, .int y_h_hasImage, .int p_h_isKeeping, .int p_h_cursor, .ref a_h_trail, .ref a_h_crumb, .ref a_h_nextCrumb, .ref a_h_goal, .ref a_h_start, .int y_h_beforeMany, .int y_h_found, .ref a_h_sits, .ref a_h_bestSits, .ref a_h_without, .int y_h_lots, .ref a_h_row, .int y_h_rowMany])), (a_h_refused, .inl (cI, (7, .inl p_h_refused))), (a_h_kind, .inl (cI, (8, .inl p_h_kind))), (a_h_sweets, .inl (cI, (8, .inl p_h_sweets))), (a_h_gives, .inl (cI, (8, .inl p_h_gives))), (a_h_kept, .inl (cI, (90, .inl p_h_kept))), (a_h_trail, .inl (cI, (1827, .inl p_h_trail)))]
theorem d_M_meet_0 : decode b_M_meet 0 = .ok (.aload_n 0, 1) := by decide +kernel
theorem d_M_meet_1 : decode b_M_meet 1 = .ok (.iload_n 1, 1) := by decide +kernel
theorem d_M_meet_2 : decode b_M_meet 2 = .ok (.iload_n 2, 1) := by decide +kernel
theorem d_M_meet_3 : decode b_M_meet 3 = .ok (.invokevirtual 171, 3) := by decide +kernel
theorem d_M_meet_6 : decode b_M_meet 6 = .ok (.ifCond .ne 9, 3) := by decide +kernel
theorem d_M_meet_9 : decode b_M_meet 9 = .ok (.aload_n 0, 1) := by decide +kernel
theorem d_M_meet_10 : decode b_M_meet 10 = .ok (.iconst (-1), 1) := by decide +kernel
theorem d_M_meet_11 : decode b_M_meet 11 = .ok (.invokevirtual 88, 3) := by decide +kernel
theorem d_M_meet_14 : decode b_M_meet 14 = .ok (.ireturn, 1) := by decide +kernel
theorem d_M_meet_15 : decode b_M_meet 15 = .ok (.aload_n 0, 1) := by decide +kernel
theorem d_M_meet_16 : decode b_M_meet 16 = .ok (.sipush 200, 3) := by decide +kernel
theorem d_M_meet_19 : decode b_M_meet 19 = .ok (.invokevirtual 182, 3) := by decide +kernel
theorem d_M_meet_22 : decode b_M_meet 22 = .ok (.iconst 0, 1) := by decide +kernel
theorem d_M_meet_23 : decode b_M_meet 23 = .ok (.istore_n 3, 1) := by decide +kernel
theorem d_M_meet_24 : decode b_M_meet 24 = .ok (.iload_n 3, 1) := by decide +kernel
theorem d_M_meet_25 : decode b_M_meet 25 = .ok (.sipush 200, 3) := by decide +kernel
theorem d_M_meet_28 : decode b_M_meet 28 = .ok (.if_icmp .gt 36, 3) := by decide +kernel
theorem d_M_meet_31 : decode b_M_meet 31 = .ok (.aload_n 0, 1) := by decide +kernel
theorem d_M_meet_32 : decode b_M_meet 32 = .ok (.getfield 47, 3) := by decide +kernel
theorem d_M_meet_35 : decode b_M_meet 35 = .ok (.bipush 9, 2) := by decide +kernel
theorem d_M_meet_37 : decode b_M_meet 37 = .ok (.iload_n 3, 1) := by decide +kernel
theorem d_M_meet_38 : decode b_M_meet 38 = .ok (.imul, 1) := by decide +kernel
theorem d_M_meet_39 : decode b_M_meet 39 = .ok (.iload_n 1, 1) := by decide +kernel
theorem d_M_meet_40 : decode b_M_meet 40 = .ok (.iadd, 1) := by decide +kernel
theorem d_M_meet_41 : decode b_M_meet 41 = .ok (.iaload, 1) := by decide +kernel
theorem d_M_meet_42 : decode b_M_meet 42 = .ok (.aload_n 0, 1) := by decide +kernel
theorem d_M_meet_43 : decode b_M_meet 43 = .ok (.getfield 47, 3) := by decide +kernel
theorem d_M_meet_46 : decode b_M_meet 46 = .ok (.bipush 9, 2) := by decide +kernel
theorem d_M_meet_48 : decode b_M_meet 48 = .ok (.iload_n 3, 1) := by decide +kernel
theorem d_M_meet_49 : decode b_M_meet 49 = .ok (.imul, 1) := by decide +kernel
theorem d_M_meet_50 : decode b_M_meet 50 = .ok (.iload_n 2, 1) := by decide +kernel
theorem d_M_meet_51 : decode b_M_meet 51 = .ok (.iadd, 1) := by decide +kernel
theorem d_M_meet_52 : decode b_M_meet 52 = .ok (.iaload, 1) := by decide +kernel
theorem d_M_meet_53 : decode b_M_meet 53 = .ok (.if_icmp .ne 5, 3) := by decide +kernel
theorem d_M_meet_56 : decode b_M_meet 56 = .ok (.iload_n 3, 1) := by decide +kernel
theorem d_M_meet_57 : decode b_M_meet 57 = .ok (.ireturn, 1) := by decide +kernel
theorem d_M_meet_58 : decode b_M_meet 58 = .ok (.iinc 3 1, 3) := by decide +kernel
theorem d_M_meet_61 : decode b_M_meet 61 = .ok (.goto (-37), 3) := by decide +kernel
theorem d_M_meet_64 : decode b_M_meet 64 = .ok (.bipush (-9), 2) := by decide +kernel
theorem d_M_meet_66 : decode b_M_meet 66 = .ok (.ireturn, 1) := by decide +kernel
set_option maxHeartbeats 4000000 in
set_option maxRecDepth 100000 in
theorem c_M_meet {l : Launch} {D : va_G} {cI cJ cC : ClassId} (a_h a_h_refused a_h_kind a_h_sweets a_h_gives a_h_tape a_h_letter a_h_letterAt a_h_one a_h_two a_h_kept a_h_trail a_h_crumb a_h_nextCrumb a_h_goal a_h_start a_h_sits a_h_bestSits a_h_without a_h_row : Nat) (y_h_taped : Int32) (y_h_at : Int32) (y_h_statements : Int32) (y_h_hasImage : Int32) (y_h_beforeMany : Int32) (y_h_found : Int32) (y_h_lots : Int32) (y_h_rowMany : Int32) {z_h_T : MT} {z_h_refused : (Nat → Int32)} {z_h_trail : (Nat → Int32)} {x1 : Int32} {x2 : Int32} {q : Int32 × MT × (Nat → Int32) × (Nat → Int32)} (hf : f_M_meet z_h_T z_h_refused z_h_trail x1 x2 = some q) : xI l y_M_meet b_M_meet 4 .int 4 89 D (tyK cI cJ cC) xE0 [.ref a_h, .int x1, .int x2] (w_M_meet cI cJ cC a_h a_h_refused a_h_kind a_h_sweets a_h_gives a_h_tape a_h_letter a_h_letterAt a_h_one a_h_two a_h_kept a_h_trail a_h_crumb a_h_nextCrumb a_h_goal a_h_start a_h_sits a_h_bestSits a_h_without a_h_row y_h_taped y_h_at y_h_statements y_h_hasImage y_h_beforeMany y_h_found y_h_lots y_h_rowMany (m_many z_h_T) (m_odd z_h_T) (m_step z_h_T) (m_bag z_h_T) (m_strokes z_h_T) (m_gave z_h_T) (m_threw z_h_T) (m_isKeeping z_h_T) (m_cursor z_h_T) z_h_refused (m_kind z_h_T) (m_sweets z_h_T) (m_gives z_h_T) (m_kept z_h_T) z_h_trail) q.1 (w_M_meet cI cJ cC a_h a_h_refused a_h_kind a_h_sweets a_h_gives a_h_tape a_h_letter a_h_letterAt a_h_one a_h_two a_h_kept a_h_trail a_h_crumb a_h_nextCrumb a_h_goal a_h_start a_h_sits a_h_bestSits a_h_without a_h_row y_h_taped y_h_at y_h_statements y_h_hasImage y_h_beforeMany y_h_found y_h_lots y_h_rowMany (m_many q.2.1) (m_odd q.2.1) (m_step q.2.1) (m_bag q.2.1) (m_strokes q.2.1) (m_gave q.2.1) (m_threw q.2.1) (m_isKeeping q.2.1) (m_cursor q.2.1) q.2.2.1 (m_kind q.2.1) (m_sweets q.2.1) (m_gives q.2.1) (m_kept q.2.1) q.2.2.2) := by
  refine xI_of (by decide) (Nat.le_of_ble_eq_true rfl) ?_
  intro p e s m args below meth c A Q hx hb hml hown hT hA hP hD hK hS hE hret ls hl
  have hown : s.vm.findClass R_M = some m.cls := hown
  have hl : lv_has ls 4 [(0, .ref a_h), (1, .int x1), (2, .int x2)] := hl
  unfold f_M_meet at hf
  have L24 : ∀ (z_h_T : MT) (z_h_refused : (Nat → Int32)) (z_h_trail : (Nat → Int32)), ∀ (n : Nat) (x3 : Int32) (H : Heap) (locs : List Loc) (ls : Array Slot), f_M_meet_L24 z_h_T z_h_refused z_h_trail x1 x2 n x3 = some q → va_P D classes (w_M_meet cI cJ cC a_h a_h_refused a_h_kind a_h_sweets a_h_gives a_h_tape a_h_letter a_h_letterAt a_h_one a_h_two a_h_kept a_h_trail a_h_crumb a_h_nextCrumb a_h_goal a_h_start a_h_sits a_h_bestSits a_h_without a_h_row y_h_taped y_h_at y_h_statements y_h_hasImage y_h_beforeMany y_h_found y_h_lots y_h_rowMany (m_many z_h_T) (m_odd z_h_T) (m_step z_h_T) (m_bag z_h_T) (m_strokes z_h_T) (m_gave z_h_T) (m_threw z_h_T) (m_isKeeping z_h_T) (m_cursor z_h_T) z_h_refused (m_kind z_h_T) (m_sweets z_h_T) (m_gives z_h_T) (m_kept z_h_T) z_h_trail) H → va_D A (w_M_meet cI cJ cC a_h a_h_refused a_h_kind a_h_sweets a_h_gives a_h_tape a_h_letter a_h_letterAt a_h_one a_h_two a_h_kept a_h_trail a_h_crumb a_h_nextCrumb a_h_goal a_h_start a_h_sits a_h_bestSits a_h_without a_h_row y_h_taped y_h_at y_h_statements y_h_hasImage y_h_beforeMany y_h_found y_h_lots y_h_rowMany (m_many z_h_T) (m_odd z_h_T) (m_step z_h_T) (m_bag z_h_T) (m_strokes z_h_T) (m_gave z_h_T) (m_threw z_h_T) (m_isKeeping z_h_T) (m_cursor z_h_T) z_h_refused (m_kind z_h_T) (m_sweets z_h_T) (m_gives z_h_T) (m_kept z_h_T) z_h_trail) → va_S A s.heap H locs → lv_has ls 4 [(0, .ref a_h), (1, .int x1), (2, .int x2), (3, .int x3)] → W p l e (xRm 4 89) s m args below meth c H locs 0 0 Q (F0 m 24 ls []) := by
    intro z_h_T z_h_refused z_h_trail n
    induction n with
    | zero => intro x3 H locs ls hf hP hD hS hl; exact nomatch (show (none : Option (Int32 × MT × (Nat → Int32) × (Nat → Int32))) = some q from hf)
    | succ n ih =>
      intro x3 H locs ls hf hP hD hS hl
      refine lv_iload_n hx hb d_M_meet_24 rfl (lv_at hl 3 rfl) ?_
      refine lv_sipush (v := 200) hx hb d_M_meet_25 (by decide) ?_
      refine lv_icmp_gt (tgt := 64) hx hb d_M_meet_28 (by decide) (fun c4 => ?_) (fun c4 => ?_)
      · have hf := io_t hf c4
        refine lv_bipush (v := (-9)) hx hb d_M_meet_64 (by decide) ?_
        have hq := Option.some.inj hf
        subst hq
        exact hret _ _ _ _ _ d_M_meet_66 rfl rfl hP hD hS
      · have hf := io_f hf c4
        refine lv_aload_n hx hb d_M_meet_31 rfl (lv_at hl 0 rfl) ?_
        refine va_get hx hb hT i_M hown hK hP 0 rfl rfl 23 (Nat.le_of_ble_eq_true rfl) (hT _ k_781) (fun _ h => h) rfl d_M_meet_32 ?_
        refine lv_bipush (v := 9) hx hb d_M_meet_35 (by decide) ?_
        refine lv_iload_n hx hb d_M_meet_37 rfl (lv_at hl 3 rfl) ?_
        refine lv_imul hx hb d_M_meet_38 ?_
        refine lv_iload_n hx hb d_M_meet_39 rfl (lv_at hl 1 rfl) ?_
        refine lv_iadd hx hb d_M_meet_40 ?_
        obtain ⟨c5, hf⟩ := io_n hf
        refine x_iald hx hb hK hP 6 0 rfl rfl (j := ((9 * x3) + x1).toNatClampNeg) rfl c5 d_M_meet_41 ?_
        refine lv_aload_n hx hb d_M_meet_42 rfl (lv_at hl 0 rfl) ?_
        refine va_get hx hb hT i_M hown hK hP 0 rfl rfl 23 (Nat.le_of_ble_eq_true rfl) (hT _ k_781) (fun _ h => h) rfl d_M_meet_43 ?_
        refine lv_bipush (v := 9) hx hb d_M_meet_46 (by decide) ?_
        refine lv_iload_n hx hb d_M_meet_48 rfl (lv_at hl 3 rfl) ?_
        refine lv_imul hx hb d_M_meet_49 ?_
        refine lv_iload_n hx hb d_M_meet_50 rfl (lv_at hl 2 rfl) ?_
        refine lv_iadd hx hb d_M_meet_51 ?_
        obtain ⟨c6, hf⟩ := io_n hf
        refine x_iald hx hb hK hP 6 0 rfl rfl (j := ((9 * x3) + x2).toNatClampNeg) rfl c6 d_M_meet_52 ?_
        refine lv_icmp_ne (tgt := 58) hx hb d_M_meet_53 (by decide) (fun c7 => ?_) (fun c7 => ?_)
        · have hf := io_f hf c7
          refine lv_iinc (v := (x3 + 1)) (lv' := [(3, .int (x3 + 1)), (0, .ref a_h), (1, .int x1), (2, .int x2)]) hx hb d_M_meet_58 hl (k := 3) rfl (by rfl) (by decide) rfl (fun ls hl => ?_)
          refine lv_goto (tgt := 24) hx hb d_M_meet_61 (by decide) ?_
          exact ih (x3 + 1) _ _ _ hf hP hD hS (lv_sub hl [1, 2, 3, 0] rfl)
        · have hf := io_t hf c7
          refine lv_iload_n hx hb d_M_meet_56 rfl (lv_at hl 3 rfl) ?_
          have hq := Option.some.inj hf
          subst hq
          exact hret _ _ _ _ _ d_M_meet_57 rfl rfl hP hD hS
  refine lv_aload_n hx hb d_M_meet_0 rfl (lv_at hl 0 rfl) ?_
  refine lv_iload_n hx hb d_M_meet_1 rfl (lv_at hl 1 rfl) ?_
  refine lv_iload_n hx hb d_M_meet_2 rfl (lv_at hl 2 rfl) ?_
  obtain ⟨q1, hq1, hf⟩ := io_b hf
  refine xcVI (wc := (w_M_areTwo cI cJ cC a_h a_h_refused a_h_kind a_h_sweets a_h_gives a_h_tape a_h_letter a_h_letterAt a_h_one a_h_two a_h_kept a_h_trail a_h_crumb a_h_nextCrumb a_h_goal a_h_start a_h_sits a_h_bestSits a_h_without a_h_row y_h_taped y_h_at y_h_statements y_h_hasImage y_h_beforeMany y_h_found y_h_lots y_h_rowMany (m_many z_h_T) (m_odd z_h_T) (m_step z_h_T) (m_bag z_h_T) (m_strokes z_h_T) (m_gave z_h_T) (m_threw z_h_T) (m_isKeeping z_h_T) (m_cursor z_h_T))) (wc' := (w_M_areTwo cI cJ cC a_h a_h_refused a_h_kind a_h_sweets a_h_gives a_h_tape a_h_letter a_h_letterAt a_h_one a_h_two a_h_kept a_h_trail a_h_crumb a_h_nextCrumb a_h_goal a_h_start a_h_sits a_h_bestSits a_h_without a_h_row y_h_taped y_h_at y_h_statements y_h_hasImage y_h_beforeMany y_h_found y_h_lots y_h_rowMany (m_many z_h_T) (m_odd z_h_T) (m_step z_h_T) (m_bag z_h_T) (m_strokes z_h_T) (m_gave z_h_T) (m_threw z_h_T) (m_isKeeping z_h_T) (m_cursor z_h_T))) (ws' := (w_M_meet cI cJ cC a_h a_h_refused a_h_kind a_h_sweets a_h_gives a_h_tape a_h_letter a_h_letterAt a_h_one a_h_two a_h_kept a_h_trail a_h_crumb a_h_nextCrumb a_h_goal a_h_start a_h_sits a_h_bestSits a_h_without a_h_row y_h_taped y_h_at y_h_statements y_h_hasImage y_h_beforeMany y_h_found y_h_lots y_h_rowMany (m_many z_h_T) (m_odd z_h_T) (m_step z_h_T) (m_bag z_h_T) (m_strokes z_h_T) (m_gave z_h_T) (m_threw z_h_T) (m_isKeeping z_h_T) (m_cursor z_h_T) z_h_refused (m_kind z_h_T) (m_sweets z_h_T) (m_gives z_h_T) (m_kept z_h_T) z_h_trail)) (As := [.int x1, .int x2]) (rest := []) hx hb hml hown hT (c_M_areTwo (z_h_T := z_h_T) a_h a_h_refused a_h_kind a_h_sweets a_h_gives a_h_tape a_h_letter a_h_letterAt a_h_one a_h_two a_h_kept a_h_trail a_h_crumb a_h_nextCrumb a_h_goal a_h_start a_h_sits a_h_bestSits a_h_without a_h_row y_h_taped y_h_at y_h_statements y_h_hasImage y_h_beforeMany y_h_found y_h_lots y_h_rowMany hq1) k_952 k_954 ks_34 k_8 k_955 hd_M_areTwo ⟨Nat.le_of_ble_eq_true rfl, Nat.le_of_ble_eq_true rfl⟩ xE0_ok trivial hA hK hP hD hS [0] [1, 2, 3, 4, 5, 6] [6, 0, 1, 2, 3, 4, 5] rfl rfl rfl rfl rfl rfl rfl rfl rfl rfl hl.1 rfl (Nat.le_of_ble_eq_true rfl) ⟨Nat.zero_le _, Nat.zero_le _⟩ d_M_meet_3 (fun H locs hP hD hS => ?_)
  refine lv_if_ne (tgt := 15) hx hb d_M_meet_6 (by decide) (fun c2 => ?_) (fun c2 => ?_)
  · have hf := io_f hf c2
    refine lv_aload_n hx hb d_M_meet_15 rfl (lv_at hl 0 rfl) ?_
    refine lv_sipush (v := 200) hx hb d_M_meet_16 (by decide) ?_
    obtain ⟨q3, hq3, hf⟩ := io_b hf
    refine xcVV (wc := (w_M_writesTrail cI cJ cC a_h a_h_refused a_h_kind a_h_sweets a_h_gives a_h_tape a_h_letter a_h_letterAt a_h_one a_h_two a_h_kept a_h_trail a_h_crumb a_h_nextCrumb a_h_goal a_h_start a_h_sits a_h_bestSits a_h_without a_h_row y_h_taped y_h_at y_h_statements y_h_hasImage y_h_beforeMany y_h_found y_h_lots y_h_rowMany (m_many z_h_T) (m_odd z_h_T) (m_step z_h_T) (m_bag z_h_T) (m_strokes z_h_T) (m_gave z_h_T) (m_threw z_h_T) (m_isKeeping z_h_T) (m_cursor z_h_T) (m_kind z_h_T) (m_sweets z_h_T) (m_gives z_h_T) (m_kept z_h_T) z_h_trail)) (wc' := (w_M_writesTrail cI cJ cC a_h a_h_refused a_h_kind a_h_sweets a_h_gives a_h_tape a_h_letter a_h_letterAt a_h_one a_h_two a_h_kept a_h_trail a_h_crumb a_h_nextCrumb a_h_goal a_h_start a_h_sits a_h_bestSits a_h_without a_h_row y_h_taped y_h_at y_h_statements y_h_hasImage y_h_beforeMany y_h_found y_h_lots y_h_rowMany (m_many q3.1) (m_odd q3.1) (m_step q3.1) (m_bag q3.1) (m_strokes q3.1) (m_gave q3.1) (m_threw q3.1) (m_isKeeping q3.1) (m_cursor q3.1) (m_kind q3.1) (m_sweets q3.1) (m_gives q3.1) (m_kept q3.1) q3.2)) (ws' := (w_M_meet cI cJ cC a_h a_h_refused a_h_kind a_h_sweets a_h_gives a_h_tape a_h_letter a_h_letterAt a_h_one a_h_two a_h_kept a_h_trail a_h_crumb a_h_nextCrumb a_h_goal a_h_start a_h_sits a_h_bestSits a_h_without a_h_row y_h_taped y_h_at y_h_statements y_h_hasImage y_h_beforeMany y_h_found y_h_lots y_h_rowMany (m_many q3.1) (m_odd q3.1) (m_step q3.1) (m_bag q3.1) (m_strokes q3.1) (m_gave q3.1) (m_threw q3.1) (m_isKeeping q3.1) (m_cursor q3.1) z_h_refused (m_kind q3.1) (m_sweets q3.1) (m_gives q3.1) (m_kept q3.1) q3.2)) (As := [.int 200]) (rest := []) hx hb hml hown hT (c_M_writesTrail (z_h_T := z_h_T) (z_h_trail := z_h_trail) a_h a_h_refused a_h_kind a_h_sweets a_h_gives a_h_tape a_h_letter a_h_letterAt a_h_one a_h_two a_h_kept a_h_trail a_h_crumb a_h_nextCrumb a_h_goal a_h_start a_h_sits a_h_bestSits a_h_without a_h_row y_h_taped y_h_at y_h_statements y_h_hasImage y_h_beforeMany y_h_found y_h_lots y_h_rowMany hq3) k_995 k_997 ks_40 k_8 k_998 hd_M_writesTrail ⟨Nat.le_of_ble_eq_true rfl, Nat.le_of_ble_eq_true rfl⟩ xE0_ok trivial hA hK hP hD hS [0, 2, 3, 4, 5, 6] [1] [1, 0, 2, 3, 4, 5, 6] rfl rfl rfl rfl rfl rfl rfl rfl rfl rfl hl.1 rfl (Nat.le_of_ble_eq_true rfl) ⟨Nat.zero_le _, Nat.zero_le _⟩ d_M_meet_19 (fun H locs hP hD hS => ?_)
    refine lv_iconst (v := 0) hx hb d_M_meet_22 (by decide) ?_
    refine lv_istore_n (lv' := [(3, .int 0), (0, .ref a_h), (1, .int x1), (2, .int x2)]) hx hb d_M_meet_23 rfl hl (by decide) rfl (fun ls hl => ?_)
    exact L24 q3.1 z_h_refused q3.2 FU 0 _ _ _ hf hP hD hS (lv_sub hl [1, 2, 3, 0] rfl)
  · have hf := io_t hf c2
    refine lv_aload_n hx hb d_M_meet_9 rfl (lv_at hl 0 rfl) ?_
    refine lv_iconst (v := (-1)) hx hb d_M_meet_10 (by decide) ?_
    obtain ⟨q8, hq8, hf⟩ := io_b hf
    refine xcVI (wc := (w_M_no cI cJ cC a_h a_h_refused a_h_kind a_h_sweets a_h_gives a_h_tape a_h_letter a_h_letterAt a_h_one a_h_two a_h_kept a_h_trail a_h_crumb a_h_nextCrumb a_h_goal a_h_start a_h_sits a_h_bestSits a_h_without a_h_row (m_many z_h_T) (m_odd z_h_T) (m_step z_h_T) (m_bag z_h_T) (m_strokes z_h_T) (m_gave z_h_T) (m_threw z_h_T) y_h_taped y_h_at y_h_statements y_h_hasImage (m_isKeeping z_h_T) (m_cursor z_h_T) y_h_beforeMany y_h_found y_h_lots y_h_rowMany z_h_refused)) (wc' := (w_M_no cI cJ cC a_h a_h_refused a_h_kind a_h_sweets a_h_gives a_h_tape a_h_letter a_h_letterAt a_h_one a_h_two a_h_kept a_h_trail a_h_crumb a_h_nextCrumb a_h_goal a_h_start a_h_sits a_h_bestSits a_h_without a_h_row (m_many z_h_T) (m_odd z_h_T) (m_step z_h_T) (m_bag z_h_T) (m_strokes z_h_T) (m_gave z_h_T) (m_threw z_h_T) y_h_taped y_h_at y_h_statements y_h_hasImage (m_isKeeping z_h_T) (m_cursor z_h_T) y_h_beforeMany y_h_found y_h_lots y_h_rowMany q8.2)) (ws' := (w_M_meet cI cJ cC a_h a_h_refused a_h_kind a_h_sweets a_h_gives a_h_tape a_h_letter a_h_letterAt a_h_one a_h_two a_h_kept a_h_trail a_h_crumb a_h_nextCrumb a_h_goal a_h_start a_h_sits a_h_bestSits a_h_without a_h_row y_h_taped y_h_at y_h_statements y_h_hasImage y_h_beforeMany y_h_found y_h_lots y_h_rowMany (m_many z_h_T) (m_odd z_h_T) (m_step z_h_T) (m_bag z_h_T) (m_strokes z_h_T) (m_gave z_h_T) (m_threw z_h_T) (m_isKeeping z_h_T) (m_cursor z_h_T) q8.2 (m_kind z_h_T) (m_sweets z_h_T) (m_gives z_h_T) (m_kept z_h_T) z_h_trail)) (As := [.int (-1)]) (rest := []) hx hb hml hown hT (c_M_no (z_h_refused := z_h_refused) a_h a_h_refused a_h_kind a_h_sweets a_h_gives a_h_tape a_h_letter a_h_letterAt a_h_one a_h_two a_h_kept a_h_trail a_h_crumb a_h_nextCrumb a_h_goal a_h_start a_h_sits a_h_bestSits a_h_without a_h_row (m_many z_h_T) (m_odd z_h_T) (m_step z_h_T) (m_bag z_h_T) (m_strokes z_h_T) (m_gave z_h_T) (m_threw z_h_T) y_h_taped y_h_at y_h_statements y_h_hasImage (m_isKeeping z_h_T) (m_cursor z_h_T) y_h_beforeMany y_h_found y_h_lots y_h_rowMany hq8) k_874 k_876 ks_24 k_8 k_877 hd_M_no ⟨Nat.le_of_ble_eq_true rfl, Nat.le_of_ble_eq_true rfl⟩ xE0_ok trivial hA hK hP hD hS [0, 1] [2, 3, 4, 5, 6] [5, 6, 0, 1, 2, 3, 4] rfl rfl rfl rfl rfl rfl rfl rfl rfl rfl hl.1 rfl (Nat.le_of_ble_eq_true rfl) ⟨Nat.zero_le _, Nat.zero_le _⟩ d_M_meet_11 (fun H locs hP hD hS => ?_)
    have hq := Option.some.inj hf
    subst hq
    exact hret _ _ _ _ _ d_M_meet_14 rfl rfl hP hD hS
abbrev w_M_begins (cI cJ cC : ClassId) (a_h a_h_refused a_h_kind a_h_sweets a_h_gives a_h_tape a_h_letter a_h_letterAt a_h_one a_h_two a_h_kept a_h_trail a_h_crumb a_h_nextCrumb a_h_goal a_h_start a_h_sits a_h_bestSits a_h_without a_h_row : Nat) (y_h_taped : Int32) (y_h_at : Int32) (y_h_statements : Int32) (y_h_hasImage : Int32) (y_h_beforeMany : Int32) (y_h_found : Int32) (y_h_lots : Int32) (y_h_rowMany : Int32) (p_h_many : Int32) (p_h_odd : Int32) (p_h_step : Int32) (p_h_bag : Int32) (p_h_strokes : Int32) (p_h_gave : Int32) (p_h_threw : Int32) (p_h_isKeeping : Int32) (p_h_cursor : Int32) (p_h_sweets : (Nat → Int32)) (p_h_crumb : (Nat → Int64)) : va_W := [(a_h, .inr (7, [.ref a_h_refused, .ref a_h_kind, .ref a_h_sweets, .ref a_h_gives, .int p_h_many, .int p_h_odd, .int p_h_step, .int p_h_bag, .int p_h_strokes, .int p_h_gave, .int p_h_threw, .ref a_h_tape, .ref a_h_letter, .ref a_h_letterAt, .ref a_h_one, .ref a_h_two, .int y_h_taped, .int y_h_at, .int y_h_statements, .ref a_h_kept, .int y_h_hasImage, .int p_h_isKeeping, .int p_h_cursor, .ref a_h_trail, .ref a_h_crumb, .ref a_h_nextCrumb, .ref a_h_goal, .ref a_h_start, .int y_h_beforeMany, .int y_h_found, .ref a_h_sits, .ref a_h_bestSits, .ref a_h_without, .int y_h_lots, .ref a_h_row, .int y_h_rowMany])), (a_h_sweets, .inl (cI, (8, .inl p_h_sweets))), (a_h_crumb, .inl (cJ, (8, .inr (.inl p_h_crumb))))]
theorem d_M_begins_0 : decode b_M_begins 0 = .ok (.iconst 0, 1) := by decide +kernel
theorem d_M_begins_1 : decode b_M_begins 1 = .ok (.istore_n 1, 1) := by decide +kernel
theorem d_M_begins_2 : decode b_M_begins 2 = .ok (.iload_n 1, 1) := by decide +kernel
theorem d_M_begins_3 : decode b_M_begins 3 = .ok (.aload_n 0, 1) := by decide +kernel
theorem d_M_begins_4 : decode b_M_begins 4 = .ok (.getfield 78, 3) := by decide +kernel
theorem d_M_begins_7 : decode b_M_begins 7 = .ok (.if_icmp .ge 22, 3) := by decide +kernel
theorem d_M_begins_10 : decode b_M_begins 10 = .ok (.aload_n 0, 1) := by decide +kernel
theorem d_M_begins_11 : decode b_M_begins 11 = .ok (.getfield 50, 3) := by decide +kernel
theorem d_M_begins_14 : decode b_M_begins 14 = .ok (.iload_n 1, 1) := by decide +kernel
theorem d_M_begins_15 : decode b_M_begins 15 = .ok (.aload_n 0, 1) := by decide +kernel
theorem d_M_begins_16 : decode b_M_begins 16 = .ok (.getfield 16, 3) := by decide +kernel
theorem d_M_begins_19 : decode b_M_begins 19 = .ok (.iload_n 1, 1) := by decide +kernel
theorem d_M_begins_20 : decode b_M_begins 20 = .ok (.iaload, 1) := by decide +kernel
theorem d_M_begins_21 : decode b_M_begins 21 = .ok (.i2l, 1) := by decide +kernel
theorem d_M_begins_22 : decode b_M_begins 22 = .ok (.lastore, 1) := by decide +kernel
theorem d_M_begins_23 : decode b_M_begins 23 = .ok (.iinc 1 1, 3) := by decide +kernel
theorem d_M_begins_26 : decode b_M_begins 26 = .ok (.goto (-24), 3) := by decide +kernel
theorem d_M_begins_29 : decode b_M_begins 29 = .ok (.return_, 1) := by decide +kernel
set_option maxHeartbeats 4000000 in
set_option maxRecDepth 100000 in
theorem c_M_begins {l : Launch} {D : va_G} {cI cJ cC : ClassId} (a_h a_h_refused a_h_kind a_h_sweets a_h_gives a_h_tape a_h_letter a_h_letterAt a_h_one a_h_two a_h_kept a_h_trail a_h_crumb a_h_nextCrumb a_h_goal a_h_start a_h_sits a_h_bestSits a_h_without a_h_row : Nat) (y_h_taped : Int32) (y_h_at : Int32) (y_h_statements : Int32) (y_h_hasImage : Int32) (y_h_beforeMany : Int32) (y_h_found : Int32) (y_h_lots : Int32) (y_h_rowMany : Int32) {z_h_T : MT} {z_h_crumb : (Nat → Int64)} {q : (Nat → Int64)} (hf : f_M_begins z_h_T z_h_crumb = some q) : xV l y_M_begins b_M_begins 2 0 0 D (tyK cI cJ cC) xE0 [.ref a_h] (w_M_begins cI cJ cC a_h a_h_refused a_h_kind a_h_sweets a_h_gives a_h_tape a_h_letter a_h_letterAt a_h_one a_h_two a_h_kept a_h_trail a_h_crumb a_h_nextCrumb a_h_goal a_h_start a_h_sits a_h_bestSits a_h_without a_h_row y_h_taped y_h_at y_h_statements y_h_hasImage y_h_beforeMany y_h_found y_h_lots y_h_rowMany (m_many z_h_T) (m_odd z_h_T) (m_step z_h_T) (m_bag z_h_T) (m_strokes z_h_T) (m_gave z_h_T) (m_threw z_h_T) (m_isKeeping z_h_T) (m_cursor z_h_T) (m_sweets z_h_T) z_h_crumb) (w_M_begins cI cJ cC a_h a_h_refused a_h_kind a_h_sweets a_h_gives a_h_tape a_h_letter a_h_letterAt a_h_one a_h_two a_h_kept a_h_trail a_h_crumb a_h_nextCrumb a_h_goal a_h_start a_h_sits a_h_bestSits a_h_without a_h_row y_h_taped y_h_at y_h_statements y_h_hasImage y_h_beforeMany y_h_found y_h_lots y_h_rowMany (m_many z_h_T) (m_odd z_h_T) (m_step z_h_T) (m_bag z_h_T) (m_strokes z_h_T) (m_gave z_h_T) (m_threw z_h_T) (m_isKeeping z_h_T) (m_cursor z_h_T) (m_sweets z_h_T) q) := by
  refine xV_of (by decide) (Nat.le_of_ble_eq_true rfl) ?_
  intro p e s m args below meth c A Q hx hb hml hown hT hA hP hD hK hS hE hret ls hl
  have hown : s.vm.findClass R_M = some m.cls := hown
  have hl : lv_has ls 2 [(0, .ref a_h)] := hl
  unfold f_M_begins at hf
  have L2 : ∀ (n : Nat) (z_h_crumb : (Nat → Int64)) (x1 : Int32) (H : Heap) (locs : List Loc) (ls : Array Slot), f_M_begins_L2 z_h_T n z_h_crumb x1 = some q → va_P D classes (w_M_begins cI cJ cC a_h a_h_refused a_h_kind a_h_sweets a_h_gives a_h_tape a_h_letter a_h_letterAt a_h_one a_h_two a_h_kept a_h_trail a_h_crumb a_h_nextCrumb a_h_goal a_h_start a_h_sits a_h_bestSits a_h_without a_h_row y_h_taped y_h_at y_h_statements y_h_hasImage y_h_beforeMany y_h_found y_h_lots y_h_rowMany (m_many z_h_T) (m_odd z_h_T) (m_step z_h_T) (m_bag z_h_T) (m_strokes z_h_T) (m_gave z_h_T) (m_threw z_h_T) (m_isKeeping z_h_T) (m_cursor z_h_T) (m_sweets z_h_T) z_h_crumb) H → va_D A (w_M_begins cI cJ cC a_h a_h_refused a_h_kind a_h_sweets a_h_gives a_h_tape a_h_letter a_h_letterAt a_h_one a_h_two a_h_kept a_h_trail a_h_crumb a_h_nextCrumb a_h_goal a_h_start a_h_sits a_h_bestSits a_h_without a_h_row y_h_taped y_h_at y_h_statements y_h_hasImage y_h_beforeMany y_h_found y_h_lots y_h_rowMany (m_many z_h_T) (m_odd z_h_T) (m_step z_h_T) (m_bag z_h_T) (m_strokes z_h_T) (m_gave z_h_T) (m_threw z_h_T) (m_isKeeping z_h_T) (m_cursor z_h_T) (m_sweets z_h_T) z_h_crumb) → va_S A s.heap H locs → lv_has ls 2 [(0, .ref a_h), (1, .int x1)] → W p l e (xRm 0 0) s m args below meth c H locs 0 0 Q (F0 m 2 ls []) := by
    intro n
    induction n with
    | zero => intro z_h_crumb x1 H locs ls hf hP hD hS hl; exact nomatch (show (none : Option ((Nat → Int64))) = some q from hf)
    | succ n ih =>
      intro z_h_crumb x1 H locs ls hf hP hD hS hl
      refine lv_iload_n hx hb d_M_begins_2 rfl (lv_at hl 1 rfl) ?_
      refine lv_aload_n hx hb d_M_begins_3 rfl (lv_at hl 0 rfl) ?_
      refine va_get hx hb hT i_M hown hK hP 0 rfl rfl 4 (Nat.le_of_ble_eq_true rfl) (hT _ k_762) (fun _ h => h) rfl d_M_begins_4 ?_
      refine lv_icmp_ge (tgt := 29) hx hb d_M_begins_7 (by decide) (fun c1 => ?_) (fun c1 => ?_)
      · have hf := io_t hf c1
        have hq := Option.some.inj hf
        subst hq
        exact hret _ _ _ _ d_M_begins_29 hP hD hS
      · have hf := io_f hf c1
        refine lv_aload_n hx hb d_M_begins_10 rfl (lv_at hl 0 rfl) ?_
        refine va_get hx hb hT i_M hown hK hP 0 rfl rfl 24 (Nat.le_of_ble_eq_true rfl) (hT _ k_782) (fun _ h => h) rfl d_M_begins_11 ?_
        refine lv_iload_n hx hb d_M_begins_14 rfl (lv_at hl 1 rfl) ?_
        refine lv_aload_n hx hb d_M_begins_15 rfl (lv_at hl 0 rfl) ?_
        refine va_get hx hb hT i_M hown hK hP 0 rfl rfl 2 (Nat.le_of_ble_eq_true rfl) (hT _ k_760) (fun _ h => h) rfl d_M_begins_16 ?_
        refine lv_iload_n hx hb d_M_begins_19 rfl (lv_at hl 1 rfl) ?_
        obtain ⟨c2, hf⟩ := io_n hf
        refine x_iald hx hb hK hP 1 0 rfl rfl (j := x1.toNatClampNeg) rfl c2 d_M_begins_20 ?_
        refine lv_i2l (v := (((m_sweets z_h_T) x1.toNatClampNeg).toInt64)) hx hb d_M_begins_21 rfl ?_
        refine x_last hx hb hK hP hD hS 2 1 rfl rfl (j := x1.toNatClampNeg) rfl c2 d_M_begins_22 (fun H locs hP hD hS => ?_)
        have hP : va_P D classes (w_M_begins cI cJ cC a_h a_h_refused a_h_kind a_h_sweets a_h_gives a_h_tape a_h_letter a_h_letterAt a_h_one a_h_two a_h_kept a_h_trail a_h_crumb a_h_nextCrumb a_h_goal a_h_start a_h_sits a_h_bestSits a_h_without a_h_row y_h_taped y_h_at y_h_statements y_h_hasImage y_h_beforeMany y_h_found y_h_lots y_h_rowMany (m_many z_h_T) (m_odd z_h_T) (m_step z_h_T) (m_bag z_h_T) (m_strokes z_h_T) (m_gave z_h_T) (m_threw z_h_T) (m_isKeeping z_h_T) (m_cursor z_h_T) (m_sweets z_h_T) (vp_updL z_h_crumb x1.toNatClampNeg (((m_sweets z_h_T) x1.toNatClampNeg).toInt64))) H := hP
        have hD : va_D A (w_M_begins cI cJ cC a_h a_h_refused a_h_kind a_h_sweets a_h_gives a_h_tape a_h_letter a_h_letterAt a_h_one a_h_two a_h_kept a_h_trail a_h_crumb a_h_nextCrumb a_h_goal a_h_start a_h_sits a_h_bestSits a_h_without a_h_row y_h_taped y_h_at y_h_statements y_h_hasImage y_h_beforeMany y_h_found y_h_lots y_h_rowMany (m_many z_h_T) (m_odd z_h_T) (m_step z_h_T) (m_bag z_h_T) (m_strokes z_h_T) (m_gave z_h_T) (m_threw z_h_T) (m_isKeeping z_h_T) (m_cursor z_h_T) (m_sweets z_h_T) (vp_updL z_h_crumb x1.toNatClampNeg (((m_sweets z_h_T) x1.toNatClampNeg).toInt64))) := hD
        refine lv_iinc (v := (x1 + 1)) (lv' := [(1, .int (x1 + 1)), (0, .ref a_h)]) hx hb d_M_begins_23 hl (k := 1) rfl (by rfl) (by decide) rfl (fun ls hl => ?_)
        refine lv_goto (tgt := 2) hx hb d_M_begins_26 (by decide) ?_
        exact ih (vp_updL z_h_crumb x1.toNatClampNeg (((m_sweets z_h_T) x1.toNatClampNeg).toInt64)) (x1 + 1) _ _ _ hf hP hD hS (lv_sub hl [1, 0] rfl)
  refine lv_iconst (v := 0) hx hb d_M_begins_0 (by decide) ?_
  refine lv_istore_n (lv' := [(1, .int 0), (0, .ref a_h)]) hx hb d_M_begins_1 rfl hl (by decide) rfl (fun ls hl => ?_)
  exact L2 FU z_h_crumb 0 _ _ _ hf hP hD hS (lv_sub hl [1, 0] rfl)
abbrev w_M_halves (cI cJ cC : ClassId) (a_h a_h_refused a_h_kind a_h_sweets a_h_gives a_h_tape a_h_letter a_h_letterAt a_h_one a_h_two a_h_kept a_h_trail a_h_crumb a_h_nextCrumb a_h_goal a_h_start a_h_sits a_h_bestSits a_h_without a_h_row : Nat) (y_h_taped : Int32) (y_h_at : Int32) (y_h_statements : Int32) (y_h_hasImage : Int32) (y_h_beforeMany : Int32) (y_h_found : Int32) (y_h_lots : Int32) (y_h_rowMany : Int32) (p_h_many : Int32) (p_h_odd : Int32) (p_h_step : Int32) (p_h_bag : Int32) (p_h_strokes : Int32) (p_h_gave : Int32) (p_h_threw : Int32) (p_h_isKeeping : Int32) (p_h_cursor : Int32) (p_h_crumb : (Nat → Int64)) (p_h_nextCrumb : (Nat → Int64)) : va_W := [(a_h, .inr (7, [.ref a_h_refused, .ref a_h_kind, .ref a_h_sweets, .ref a_h_gives, .int p_h_many, .int p_h_odd, .int p_h_step, .int p_h_bag, .int p_h_strokes, .int p_h_gave, .int p_h_threw, .ref a_h_tape, .ref a_h_letter, .ref a_h_letterAt, .ref a_h_one, .ref a_h_two, .int y_h_taped, .int y_h_at, .int y_h_statements, .ref a_h_kept, .int y_h_hasImage, .int p_h_isKeeping, .int p_h_cursor, .ref a_h_trail, .ref a_h_crumb, .ref a_h_nextCrumb, .ref a_h_goal, .ref a_h_start, .int y_h_beforeMany, .int y_h_found, .ref a_h_sits, .ref a_h_bestSits, .ref a_h_without, .int y_h_lots, .ref a_h_row, .int y_h_rowMany])), (a_h_crumb, .inl (cJ, (8, .inr (.inl p_h_crumb)))), (a_h_nextCrumb, .inl (cJ, (8, .inr (.inl p_h_nextCrumb))))]
theorem d_M_halves_0 : decode b_M_halves 0 = .ok (.iconst 0, 1) := by decide +kernel
theorem d_M_halves_1 : decode b_M_halves 1 = .ok (.istore_n 1, 1) := by decide +kernel
theorem d_M_halves_2 : decode b_M_halves 2 = .ok (.iload_n 1, 1) := by decide +kernel
theorem d_M_halves_3 : decode b_M_halves 3 = .ok (.aload_n 0, 1) := by decide +kernel
theorem d_M_halves_4 : decode b_M_halves 4 = .ok (.getfield 78, 3) := by decide +kernel
theorem d_M_halves_7 : decode b_M_halves 7 = .ok (.if_icmp .ge 43, 3) := by decide +kernel
theorem d_M_halves_10 : decode b_M_halves 10 = .ok (.aload_n 0, 1) := by decide +kernel
theorem d_M_halves_11 : decode b_M_halves 11 = .ok (.getfield 54, 3) := by decide +kernel
theorem d_M_halves_14 : decode b_M_halves 14 = .ok (.iload_n 1, 1) := by decide +kernel
theorem d_M_halves_15 : decode b_M_halves 15 = .ok (.aload_n 0, 1) := by decide +kernel
theorem d_M_halves_16 : decode b_M_halves 16 = .ok (.iload_n 1, 1) := by decide +kernel
theorem d_M_halves_17 : decode b_M_halves 17 = .ok (.invokevirtual 149, 3) := by decide +kernel
theorem d_M_halves_20 : decode b_M_halves 20 = .ok (.iload_n 1, 1) := by decide +kernel
theorem d_M_halves_21 : decode b_M_halves 21 = .ok (.if_icmp .ne 16, 3) := by decide +kernel
theorem d_M_halves_24 : decode b_M_halves 24 = .ok (.ldc2_w 194, 3) := by decide +kernel
theorem d_M_halves_27 : decode b_M_halves 27 = .ok (.aload_n 0, 1) := by decide +kernel
theorem d_M_halves_28 : decode b_M_halves 28 = .ok (.getfield 50, 3) := by decide +kernel
theorem d_M_halves_31 : decode b_M_halves 31 = .ok (.iload_n 1, 1) := by decide +kernel
theorem d_M_halves_32 : decode b_M_halves 32 = .ok (.laload, 1) := by decide +kernel
theorem d_M_halves_33 : decode b_M_halves 33 = .ok (.lmul, 1) := by decide +kernel
theorem d_M_halves_34 : decode b_M_halves 34 = .ok (.goto 9, 3) := by decide +kernel
theorem d_M_halves_37 : decode b_M_halves 37 = .ok (.aload_n 0, 1) := by decide +kernel
theorem d_M_halves_38 : decode b_M_halves 38 = .ok (.getfield 50, 3) := by decide +kernel
theorem d_M_halves_41 : decode b_M_halves 41 = .ok (.iload_n 1, 1) := by decide +kernel
theorem d_M_halves_42 : decode b_M_halves 42 = .ok (.laload, 1) := by decide +kernel
theorem d_M_halves_43 : decode b_M_halves 43 = .ok (.lastore, 1) := by decide +kernel
theorem d_M_halves_44 : decode b_M_halves 44 = .ok (.iinc 1 1, 3) := by decide +kernel
theorem d_M_halves_47 : decode b_M_halves 47 = .ok (.goto (-45), 3) := by decide +kernel
theorem d_M_halves_50 : decode b_M_halves 50 = .ok (.iconst 0, 1) := by decide +kernel
theorem d_M_halves_51 : decode b_M_halves 51 = .ok (.istore_n 1, 1) := by decide +kernel
theorem d_M_halves_52 : decode b_M_halves 52 = .ok (.iload_n 1, 1) := by decide +kernel
theorem d_M_halves_53 : decode b_M_halves 53 = .ok (.aload_n 0, 1) := by decide +kernel
theorem d_M_halves_54 : decode b_M_halves 54 = .ok (.getfield 78, 3) := by decide +kernel
theorem d_M_halves_57 : decode b_M_halves 57 = .ok (.if_icmp .ge 37, 3) := by decide +kernel
theorem d_M_halves_60 : decode b_M_halves 60 = .ok (.aload_n 0, 1) := by decide +kernel
theorem d_M_halves_61 : decode b_M_halves 61 = .ok (.iload_n 1, 1) := by decide +kernel
theorem d_M_halves_62 : decode b_M_halves 62 = .ok (.invokevirtual 149, 3) := by decide +kernel
theorem d_M_halves_65 : decode b_M_halves 65 = .ok (.iload_n 1, 1) := by decide +kernel
theorem d_M_halves_66 : decode b_M_halves 66 = .ok (.if_icmp .eq 22, 3) := by decide +kernel
theorem d_M_halves_69 : decode b_M_halves 69 = .ok (.aload_n 0, 1) := by decide +kernel
theorem d_M_halves_70 : decode b_M_halves 70 = .ok (.getfield 54, 3) := by decide +kernel
theorem d_M_halves_73 : decode b_M_halves 73 = .ok (.aload_n 0, 1) := by decide +kernel
theorem d_M_halves_74 : decode b_M_halves 74 = .ok (.iload_n 1, 1) := by decide +kernel
theorem d_M_halves_75 : decode b_M_halves 75 = .ok (.invokevirtual 149, 3) := by decide +kernel
theorem d_M_halves_78 : decode b_M_halves 78 = .ok (.dup2, 1) := by decide +kernel
theorem d_M_halves_79 : decode b_M_halves 79 = .ok (.laload, 1) := by decide +kernel
theorem d_M_halves_80 : decode b_M_halves 80 = .ok (.aload_n 0, 1) := by decide +kernel
theorem d_M_halves_81 : decode b_M_halves 81 = .ok (.getfield 50, 3) := by decide +kernel
theorem d_M_halves_84 : decode b_M_halves 84 = .ok (.iload_n 1, 1) := by decide +kernel
theorem d_M_halves_85 : decode b_M_halves 85 = .ok (.laload, 1) := by decide +kernel
theorem d_M_halves_86 : decode b_M_halves 86 = .ok (.ladd, 1) := by decide +kernel
theorem d_M_halves_87 : decode b_M_halves 87 = .ok (.lastore, 1) := by decide +kernel
theorem d_M_halves_88 : decode b_M_halves 88 = .ok (.iinc 1 1, 3) := by decide +kernel
theorem d_M_halves_91 : decode b_M_halves 91 = .ok (.goto (-39), 3) := by decide +kernel
theorem d_M_halves_94 : decode b_M_halves 94 = .ok (.iconst 0, 1) := by decide +kernel
theorem d_M_halves_95 : decode b_M_halves 95 = .ok (.istore_n 1, 1) := by decide +kernel
theorem d_M_halves_96 : decode b_M_halves 96 = .ok (.iload_n 1, 1) := by decide +kernel
theorem d_M_halves_97 : decode b_M_halves 97 = .ok (.aload_n 0, 1) := by decide +kernel
theorem d_M_halves_98 : decode b_M_halves 98 = .ok (.getfield 78, 3) := by decide +kernel
theorem d_M_halves_101 : decode b_M_halves 101 = .ok (.if_icmp .ge 21, 3) := by decide +kernel
theorem d_M_halves_104 : decode b_M_halves 104 = .ok (.aload_n 0, 1) := by decide +kernel
theorem d_M_halves_105 : decode b_M_halves 105 = .ok (.getfield 50, 3) := by decide +kernel
theorem d_M_halves_108 : decode b_M_halves 108 = .ok (.iload_n 1, 1) := by decide +kernel
theorem d_M_halves_109 : decode b_M_halves 109 = .ok (.aload_n 0, 1) := by decide +kernel
theorem d_M_halves_110 : decode b_M_halves 110 = .ok (.getfield 54, 3) := by decide +kernel
theorem d_M_halves_113 : decode b_M_halves 113 = .ok (.iload_n 1, 1) := by decide +kernel
theorem d_M_halves_114 : decode b_M_halves 114 = .ok (.laload, 1) := by decide +kernel
theorem d_M_halves_115 : decode b_M_halves 115 = .ok (.lastore, 1) := by decide +kernel
theorem d_M_halves_116 : decode b_M_halves 116 = .ok (.iinc 1 1, 3) := by decide +kernel
theorem d_M_halves_119 : decode b_M_halves 119 = .ok (.goto (-23), 3) := by decide +kernel
theorem d_M_halves_122 : decode b_M_halves 122 = .ok (.return_, 1) := by decide +kernel
set_option maxHeartbeats 4000000 in
set_option maxRecDepth 100000 in
theorem c_M_halves {l : Launch} {D : va_G} {cI cJ cC : ClassId} (a_h a_h_refused a_h_kind a_h_sweets a_h_gives a_h_tape a_h_letter a_h_letterAt a_h_one a_h_two a_h_kept a_h_trail a_h_crumb a_h_nextCrumb a_h_goal a_h_start a_h_sits a_h_bestSits a_h_without a_h_row : Nat) (y_h_taped : Int32) (y_h_at : Int32) (y_h_statements : Int32) (y_h_hasImage : Int32) (y_h_beforeMany : Int32) (y_h_found : Int32) (y_h_lots : Int32) (y_h_rowMany : Int32) {z_h_T : MT} {z_h_crumb : (Nat → Int64)} {z_h_nextCrumb : (Nat → Int64)} {q : (Nat → Int64) × (Nat → Int64)} (hf : f_M_halves z_h_T z_h_crumb z_h_nextCrumb = some q) : xV l y_M_halves b_M_halves 2 1 21 D (tyK cI cJ cC) xE0 [.ref a_h] (w_M_halves cI cJ cC a_h a_h_refused a_h_kind a_h_sweets a_h_gives a_h_tape a_h_letter a_h_letterAt a_h_one a_h_two a_h_kept a_h_trail a_h_crumb a_h_nextCrumb a_h_goal a_h_start a_h_sits a_h_bestSits a_h_without a_h_row y_h_taped y_h_at y_h_statements y_h_hasImage y_h_beforeMany y_h_found y_h_lots y_h_rowMany (m_many z_h_T) (m_odd z_h_T) (m_step z_h_T) (m_bag z_h_T) (m_strokes z_h_T) (m_gave z_h_T) (m_threw z_h_T) (m_isKeeping z_h_T) (m_cursor z_h_T) z_h_crumb z_h_nextCrumb) (w_M_halves cI cJ cC a_h a_h_refused a_h_kind a_h_sweets a_h_gives a_h_tape a_h_letter a_h_letterAt a_h_one a_h_two a_h_kept a_h_trail a_h_crumb a_h_nextCrumb a_h_goal a_h_start a_h_sits a_h_bestSits a_h_without a_h_row y_h_taped y_h_at y_h_statements y_h_hasImage y_h_beforeMany y_h_found y_h_lots y_h_rowMany (m_many z_h_T) (m_odd z_h_T) (m_step z_h_T) (m_bag z_h_T) (m_strokes z_h_T) (m_gave z_h_T) (m_threw z_h_T) (m_isKeeping z_h_T) (m_cursor z_h_T) q.1 q.2) := by
  refine xV_of (by decide) (Nat.le_of_ble_eq_true rfl) ?_
  intro p e s m args below meth c A Q hx hb hml hown hT hA hP hD hK hS hE hret ls hl
  have hown : s.vm.findClass R_M = some m.cls := hown
  have hl : lv_has ls 2 [(0, .ref a_h)] := hl
  unfold f_M_halves at hf
  have L2 : ∀ (z_h_crumb : (Nat → Int64)) (k : (Nat → Int64) → Option ((Nat → Int64) × (Nat → Int64))), (∀ (z_h_nextCrumb : (Nat → Int64)) (H : Heap) (locs : List Loc) (ls : Array Slot), k z_h_nextCrumb = some q → va_P D classes (w_M_halves cI cJ cC a_h a_h_refused a_h_kind a_h_sweets a_h_gives a_h_tape a_h_letter a_h_letterAt a_h_one a_h_two a_h_kept a_h_trail a_h_crumb a_h_nextCrumb a_h_goal a_h_start a_h_sits a_h_bestSits a_h_without a_h_row y_h_taped y_h_at y_h_statements y_h_hasImage y_h_beforeMany y_h_found y_h_lots y_h_rowMany (m_many z_h_T) (m_odd z_h_T) (m_step z_h_T) (m_bag z_h_T) (m_strokes z_h_T) (m_gave z_h_T) (m_threw z_h_T) (m_isKeeping z_h_T) (m_cursor z_h_T) z_h_crumb z_h_nextCrumb) H → va_D A (w_M_halves cI cJ cC a_h a_h_refused a_h_kind a_h_sweets a_h_gives a_h_tape a_h_letter a_h_letterAt a_h_one a_h_two a_h_kept a_h_trail a_h_crumb a_h_nextCrumb a_h_goal a_h_start a_h_sits a_h_bestSits a_h_without a_h_row y_h_taped y_h_at y_h_statements y_h_hasImage y_h_beforeMany y_h_found y_h_lots y_h_rowMany (m_many z_h_T) (m_odd z_h_T) (m_step z_h_T) (m_bag z_h_T) (m_strokes z_h_T) (m_gave z_h_T) (m_threw z_h_T) (m_isKeeping z_h_T) (m_cursor z_h_T) z_h_crumb z_h_nextCrumb) → va_S A s.heap H locs → lv_has ls 2 [(0, .ref a_h)] → W p l e (xRm 1 21) s m args below meth c H locs 0 0 Q (F0 m 50 ls [])) → ∀ (n : Nat) (z_h_nextCrumb : (Nat → Int64)) (x1 : Int32) (H : Heap) (locs : List Loc) (ls : Array Slot), f_M_halves_L2 z_h_T z_h_crumb k n z_h_nextCrumb x1 = some q → va_P D classes (w_M_halves cI cJ cC a_h a_h_refused a_h_kind a_h_sweets a_h_gives a_h_tape a_h_letter a_h_letterAt a_h_one a_h_two a_h_kept a_h_trail a_h_crumb a_h_nextCrumb a_h_goal a_h_start a_h_sits a_h_bestSits a_h_without a_h_row y_h_taped y_h_at y_h_statements y_h_hasImage y_h_beforeMany y_h_found y_h_lots y_h_rowMany (m_many z_h_T) (m_odd z_h_T) (m_step z_h_T) (m_bag z_h_T) (m_strokes z_h_T) (m_gave z_h_T) (m_threw z_h_T) (m_isKeeping z_h_T) (m_cursor z_h_T) z_h_crumb z_h_nextCrumb) H → va_D A (w_M_halves cI cJ cC a_h a_h_refused a_h_kind a_h_sweets a_h_gives a_h_tape a_h_letter a_h_letterAt a_h_one a_h_two a_h_kept a_h_trail a_h_crumb a_h_nextCrumb a_h_goal a_h_start a_h_sits a_h_bestSits a_h_without a_h_row y_h_taped y_h_at y_h_statements y_h_hasImage y_h_beforeMany y_h_found y_h_lots y_h_rowMany (m_many z_h_T) (m_odd z_h_T) (m_step z_h_T) (m_bag z_h_T) (m_strokes z_h_T) (m_gave z_h_T) (m_threw z_h_T) (m_isKeeping z_h_T) (m_cursor z_h_T) z_h_crumb z_h_nextCrumb) → va_S A s.heap H locs → lv_has ls 2 [(0, .ref a_h), (1, .int x1)] → W p l e (xRm 1 21) s m args below meth c H locs 0 0 Q (F0 m 2 ls []) := by
    intro z_h_crumb k hk n
    induction n with
    | zero => intro z_h_nextCrumb x1 H locs ls hf hP hD hS hl; exact nomatch (show (none : Option ((Nat → Int64) × (Nat → Int64))) = some q from hf)
    | succ n ih =>
      intro z_h_nextCrumb x1 H locs ls hf hP hD hS hl
      refine lv_iload_n hx hb d_M_halves_2 rfl (lv_at hl 1 rfl) ?_
      refine lv_aload_n hx hb d_M_halves_3 rfl (lv_at hl 0 rfl) ?_
      refine va_get hx hb hT i_M hown hK hP 0 rfl rfl 4 (Nat.le_of_ble_eq_true rfl) (hT _ k_762) (fun _ h => h) rfl d_M_halves_4 ?_
      refine lv_icmp_ge (tgt := 50) hx hb d_M_halves_7 (by decide) (fun c1 => ?_) (fun c1 => ?_)
      · have hf := io_t hf c1
        exact hk z_h_nextCrumb _ _ _ hf hP hD hS (lv_sub hl [0] rfl)
      · have hf := io_f hf c1
        refine lv_aload_n hx hb d_M_halves_10 rfl (lv_at hl 0 rfl) ?_
        refine va_get hx hb hT i_M hown hK hP 0 rfl rfl 25 (Nat.le_of_ble_eq_true rfl) (hT _ k_783) (fun _ h => h) rfl d_M_halves_11 ?_
        refine lv_iload_n hx hb d_M_halves_14 rfl (lv_at hl 1 rfl) ?_
        refine lv_aload_n hx hb d_M_halves_15 rfl (lv_at hl 0 rfl) ?_
        refine lv_iload_n hx hb d_M_halves_16 rfl (lv_at hl 1 rfl) ?_
        obtain ⟨q2, hq2, hf⟩ := io_b hf
        refine xcVI (wc := (w_M_leftOf cI cJ cC a_h a_h_refused a_h_kind a_h_sweets a_h_gives a_h_tape a_h_letter a_h_letterAt a_h_one a_h_two a_h_kept a_h_trail a_h_crumb a_h_nextCrumb a_h_goal a_h_start a_h_sits a_h_bestSits a_h_without a_h_row y_h_taped y_h_at y_h_statements y_h_hasImage y_h_beforeMany y_h_found y_h_lots y_h_rowMany (m_many z_h_T) (m_odd z_h_T) (m_step z_h_T) (m_bag z_h_T) (m_strokes z_h_T) (m_gave z_h_T) (m_threw z_h_T) (m_isKeeping z_h_T) (m_cursor z_h_T))) (wc' := (w_M_leftOf cI cJ cC a_h a_h_refused a_h_kind a_h_sweets a_h_gives a_h_tape a_h_letter a_h_letterAt a_h_one a_h_two a_h_kept a_h_trail a_h_crumb a_h_nextCrumb a_h_goal a_h_start a_h_sits a_h_bestSits a_h_without a_h_row y_h_taped y_h_at y_h_statements y_h_hasImage y_h_beforeMany y_h_found y_h_lots y_h_rowMany (m_many z_h_T) (m_odd z_h_T) (m_step z_h_T) (m_bag z_h_T) (m_strokes z_h_T) (m_gave z_h_T) (m_threw z_h_T) (m_isKeeping z_h_T) (m_cursor z_h_T))) (ws' := (w_M_halves cI cJ cC a_h a_h_refused a_h_kind a_h_sweets a_h_gives a_h_tape a_h_letter a_h_letterAt a_h_one a_h_two a_h_kept a_h_trail a_h_crumb a_h_nextCrumb a_h_goal a_h_start a_h_sits a_h_bestSits a_h_without a_h_row y_h_taped y_h_at y_h_statements y_h_hasImage y_h_beforeMany y_h_found y_h_lots y_h_rowMany (m_many z_h_T) (m_odd z_h_T) (m_step z_h_T) (m_bag z_h_T) (m_strokes z_h_T) (m_gave z_h_T) (m_threw z_h_T) (m_isKeeping z_h_T) (m_cursor z_h_T) z_h_crumb z_h_nextCrumb)) (As := [.int x1]) (rest := [.int x1, .ref a_h_nextCrumb]) hx hb hml hown hT (c_M_leftOf (z_h_T := z_h_T) a_h a_h_refused a_h_kind a_h_sweets a_h_gives a_h_tape a_h_letter a_h_letterAt a_h_one a_h_two a_h_kept a_h_trail a_h_crumb a_h_nextCrumb a_h_goal a_h_start a_h_sits a_h_bestSits a_h_without a_h_row y_h_taped y_h_at y_h_statements y_h_hasImage y_h_beforeMany y_h_found y_h_lots y_h_rowMany hq2) k_932 k_934 ks_33 k_8 k_935 hd_M_leftOf ⟨Nat.le_of_ble_eq_true rfl, Nat.le_of_ble_eq_true rfl⟩ xE0_ok trivial hA hK hP hD hS [0] [1, 2] [2, 0, 1] rfl rfl rfl rfl rfl rfl rfl rfl rfl rfl hl.1 rfl (Nat.le_of_ble_eq_true rfl) ⟨Nat.zero_le _, Nat.zero_le _⟩ d_M_halves_17 (fun H locs hP hD hS => ?_)
        refine lv_iload_n hx hb d_M_halves_20 rfl (lv_at hl 1 rfl) ?_
        refine lv_icmp_ne (tgt := 37) hx hb d_M_halves_21 (by decide) (fun c3 => ?_) (fun c3 => ?_)
        · have hf := io_f hf c3
          refine lv_aload_n hx hb d_M_halves_37 rfl (lv_at hl 0 rfl) ?_
          refine va_get hx hb hT i_M hown hK hP 0 rfl rfl 24 (Nat.le_of_ble_eq_true rfl) (hT _ k_782) (fun _ h => h) rfl d_M_halves_38 ?_
          refine lv_iload_n hx hb d_M_halves_41 rfl (lv_at hl 1 rfl) ?_
          obtain ⟨c4, hf⟩ := io_n hf
          refine x_lald hx hb hK hP 1 1 rfl rfl (j := x1.toNatClampNeg) rfl c4 d_M_halves_42 ?_
          refine x_last hx hb hK hP hD hS 2 1 rfl rfl (j := x1.toNatClampNeg) rfl c4 d_M_halves_43 (fun H locs hP hD hS => ?_)
          have hP : va_P D classes (w_M_halves cI cJ cC a_h a_h_refused a_h_kind a_h_sweets a_h_gives a_h_tape a_h_letter a_h_letterAt a_h_one a_h_two a_h_kept a_h_trail a_h_crumb a_h_nextCrumb a_h_goal a_h_start a_h_sits a_h_bestSits a_h_without a_h_row y_h_taped y_h_at y_h_statements y_h_hasImage y_h_beforeMany y_h_found y_h_lots y_h_rowMany (m_many z_h_T) (m_odd z_h_T) (m_step z_h_T) (m_bag z_h_T) (m_strokes z_h_T) (m_gave z_h_T) (m_threw z_h_T) (m_isKeeping z_h_T) (m_cursor z_h_T) z_h_crumb (vp_updL z_h_nextCrumb x1.toNatClampNeg (z_h_crumb x1.toNatClampNeg))) H := hP
          have hD : va_D A (w_M_halves cI cJ cC a_h a_h_refused a_h_kind a_h_sweets a_h_gives a_h_tape a_h_letter a_h_letterAt a_h_one a_h_two a_h_kept a_h_trail a_h_crumb a_h_nextCrumb a_h_goal a_h_start a_h_sits a_h_bestSits a_h_without a_h_row y_h_taped y_h_at y_h_statements y_h_hasImage y_h_beforeMany y_h_found y_h_lots y_h_rowMany (m_many z_h_T) (m_odd z_h_T) (m_step z_h_T) (m_bag z_h_T) (m_strokes z_h_T) (m_gave z_h_T) (m_threw z_h_T) (m_isKeeping z_h_T) (m_cursor z_h_T) z_h_crumb (vp_updL z_h_nextCrumb x1.toNatClampNeg (z_h_crumb x1.toNatClampNeg))) := hD
          refine lv_iinc (v := (x1 + 1)) (lv' := [(1, .int (x1 + 1)), (0, .ref a_h)]) hx hb d_M_halves_44 hl (k := 1) rfl (by rfl) (by decide) rfl (fun ls hl => ?_)
          refine lv_goto (tgt := 2) hx hb d_M_halves_47 (by decide) ?_
          exact ih (vp_updL z_h_nextCrumb x1.toNatClampNeg (z_h_crumb x1.toNatClampNeg)) (x1 + 1) _ _ _ hf hP hD hS (lv_sub hl [1, 0] rfl)
        · have hf := io_t hf c3
          refine lv_ldc2 (v := 2) hx hb hown (hT _ k_1040) d_M_halves_24 ?_
          refine lv_aload_n hx hb d_M_halves_27 rfl (lv_at hl 0 rfl) ?_
          refine va_get hx hb hT i_M hown hK hP 0 rfl rfl 24 (Nat.le_of_ble_eq_true rfl) (hT _ k_782) (fun _ h => h) rfl d_M_halves_28 ?_
          refine lv_iload_n hx hb d_M_halves_31 rfl (lv_at hl 1 rfl) ?_
          obtain ⟨c5, hf⟩ := io_n hf
          refine x_lald hx hb hK hP 1 1 rfl rfl (j := x1.toNatClampNeg) rfl c5 d_M_halves_32 ?_
          refine lv_lmul hx hb d_M_halves_33 ?_
          refine lv_goto (tgt := 43) hx hb d_M_halves_34 (by decide) ?_
          refine x_last hx hb hK hP hD hS 2 1 rfl rfl (j := x1.toNatClampNeg) rfl c5 d_M_halves_43 (fun H locs hP hD hS => ?_)
          have hP : va_P D classes (w_M_halves cI cJ cC a_h a_h_refused a_h_kind a_h_sweets a_h_gives a_h_tape a_h_letter a_h_letterAt a_h_one a_h_two a_h_kept a_h_trail a_h_crumb a_h_nextCrumb a_h_goal a_h_start a_h_sits a_h_bestSits a_h_without a_h_row y_h_taped y_h_at y_h_statements y_h_hasImage y_h_beforeMany y_h_found y_h_lots y_h_rowMany (m_many z_h_T) (m_odd z_h_T) (m_step z_h_T) (m_bag z_h_T) (m_strokes z_h_T) (m_gave z_h_T) (m_threw z_h_T) (m_isKeeping z_h_T) (m_cursor z_h_T) z_h_crumb (vp_updL z_h_nextCrumb x1.toNatClampNeg (2 * (z_h_crumb x1.toNatClampNeg)))) H := hP
          have hD : va_D A (w_M_halves cI cJ cC a_h a_h_refused a_h_kind a_h_sweets a_h_gives a_h_tape a_h_letter a_h_letterAt a_h_one a_h_two a_h_kept a_h_trail a_h_crumb a_h_nextCrumb a_h_goal a_h_start a_h_sits a_h_bestSits a_h_without a_h_row y_h_taped y_h_at y_h_statements y_h_hasImage y_h_beforeMany y_h_found y_h_lots y_h_rowMany (m_many z_h_T) (m_odd z_h_T) (m_step z_h_T) (m_bag z_h_T) (m_strokes z_h_T) (m_gave z_h_T) (m_threw z_h_T) (m_isKeeping z_h_T) (m_cursor z_h_T) z_h_crumb (vp_updL z_h_nextCrumb x1.toNatClampNeg (2 * (z_h_crumb x1.toNatClampNeg)))) := hD
          refine lv_iinc (v := (x1 + 1)) (lv' := [(1, .int (x1 + 1)), (0, .ref a_h)]) hx hb d_M_halves_44 hl (k := 1) rfl (by rfl) (by decide) rfl (fun ls hl => ?_)
          refine lv_goto (tgt := 2) hx hb d_M_halves_47 (by decide) ?_
          exact ih (vp_updL z_h_nextCrumb x1.toNatClampNeg (2 * (z_h_crumb x1.toNatClampNeg))) (x1 + 1) _ _ _ hf hP hD hS (lv_sub hl [1, 0] rfl)
  have L52 : ∀ (z_h_crumb : (Nat → Int64)) (k : (Nat → Int64) → Option ((Nat → Int64) × (Nat → Int64))), (∀ (z_h_nextCrumb : (Nat → Int64)) (H : Heap) (locs : List Loc) (ls : Array Slot), k z_h_nextCrumb = some q → va_P D classes (w_M_halves cI cJ cC a_h a_h_refused a_h_kind a_h_sweets a_h_gives a_h_tape a_h_letter a_h_letterAt a_h_one a_h_two a_h_kept a_h_trail a_h_crumb a_h_nextCrumb a_h_goal a_h_start a_h_sits a_h_bestSits a_h_without a_h_row y_h_taped y_h_at y_h_statements y_h_hasImage y_h_beforeMany y_h_found y_h_lots y_h_rowMany (m_many z_h_T) (m_odd z_h_T) (m_step z_h_T) (m_bag z_h_T) (m_strokes z_h_T) (m_gave z_h_T) (m_threw z_h_T) (m_isKeeping z_h_T) (m_cursor z_h_T) z_h_crumb z_h_nextCrumb) H → va_D A (w_M_halves cI cJ cC a_h a_h_refused a_h_kind a_h_sweets a_h_gives a_h_tape a_h_letter a_h_letterAt a_h_one a_h_two a_h_kept a_h_trail a_h_crumb a_h_nextCrumb a_h_goal a_h_start a_h_sits a_h_bestSits a_h_without a_h_row y_h_taped y_h_at y_h_statements y_h_hasImage y_h_beforeMany y_h_found y_h_lots y_h_rowMany (m_many z_h_T) (m_odd z_h_T) (m_step z_h_T) (m_bag z_h_T) (m_strokes z_h_T) (m_gave z_h_T) (m_threw z_h_T) (m_isKeeping z_h_T) (m_cursor z_h_T) z_h_crumb z_h_nextCrumb) → va_S A s.heap H locs → lv_has ls 2 [(0, .ref a_h)] → W p l e (xRm 1 21) s m args below meth c H locs 0 0 Q (F0 m 94 ls [])) → ∀ (n : Nat) (z_h_nextCrumb : (Nat → Int64)) (x1 : Int32) (H : Heap) (locs : List Loc) (ls : Array Slot), f_M_halves_L52 z_h_T z_h_crumb k n z_h_nextCrumb x1 = some q → va_P D classes (w_M_halves cI cJ cC a_h a_h_refused a_h_kind a_h_sweets a_h_gives a_h_tape a_h_letter a_h_letterAt a_h_one a_h_two a_h_kept a_h_trail a_h_crumb a_h_nextCrumb a_h_goal a_h_start a_h_sits a_h_bestSits a_h_without a_h_row y_h_taped y_h_at y_h_statements y_h_hasImage y_h_beforeMany y_h_found y_h_lots y_h_rowMany (m_many z_h_T) (m_odd z_h_T) (m_step z_h_T) (m_bag z_h_T) (m_strokes z_h_T) (m_gave z_h_T) (m_threw z_h_T) (m_isKeeping z_h_T) (m_cursor z_h_T) z_h_crumb z_h_nextCrumb) H → va_D A (w_M_halves cI cJ cC a_h a_h_refused a_h_kind a_h_sweets a_h_gives a_h_tape a_h_letter a_h_letterAt a_h_one a_h_two a_h_kept a_h_trail a_h_crumb a_h_nextCrumb a_h_goal a_h_start a_h_sits a_h_bestSits a_h_without a_h_row y_h_taped y_h_at y_h_statements y_h_hasImage y_h_beforeMany y_h_found y_h_lots y_h_rowMany (m_many z_h_T) (m_odd z_h_T) (m_step z_h_T) (m_bag z_h_T) (m_strokes z_h_T) (m_gave z_h_T) (m_threw z_h_T) (m_isKeeping z_h_T) (m_cursor z_h_T) z_h_crumb z_h_nextCrumb) → va_S A s.heap H locs → lv_has ls 2 [(0, .ref a_h), (1, .int x1)] → W p l e (xRm 1 21) s m args below meth c H locs 0 0 Q (F0 m 52 ls []) := by
    intro z_h_crumb k hk n
    induction n with
    | zero => intro z_h_nextCrumb x1 H locs ls hf hP hD hS hl; exact nomatch (show (none : Option ((Nat → Int64) × (Nat → Int64))) = some q from hf)
    | succ n ih =>
      intro z_h_nextCrumb x1 H locs ls hf hP hD hS hl
      refine lv_iload_n hx hb d_M_halves_52 rfl (lv_at hl 1 rfl) ?_
      refine lv_aload_n hx hb d_M_halves_53 rfl (lv_at hl 0 rfl) ?_
      refine va_get hx hb hT i_M hown hK hP 0 rfl rfl 4 (Nat.le_of_ble_eq_true rfl) (hT _ k_762) (fun _ h => h) rfl d_M_halves_54 ?_
      refine lv_icmp_ge (tgt := 94) hx hb d_M_halves_57 (by decide) (fun c7 => ?_) (fun c7 => ?_)
      · have hf := io_t hf c7
        exact hk z_h_nextCrumb _ _ _ hf hP hD hS (lv_sub hl [0] rfl)
      · have hf := io_f hf c7
        refine lv_aload_n hx hb d_M_halves_60 rfl (lv_at hl 0 rfl) ?_
        refine lv_iload_n hx hb d_M_halves_61 rfl (lv_at hl 1 rfl) ?_
        obtain ⟨q8, hq8, hf⟩ := io_b hf
        refine xcVI (wc := (w_M_leftOf cI cJ cC a_h a_h_refused a_h_kind a_h_sweets a_h_gives a_h_tape a_h_letter a_h_letterAt a_h_one a_h_two a_h_kept a_h_trail a_h_crumb a_h_nextCrumb a_h_goal a_h_start a_h_sits a_h_bestSits a_h_without a_h_row y_h_taped y_h_at y_h_statements y_h_hasImage y_h_beforeMany y_h_found y_h_lots y_h_rowMany (m_many z_h_T) (m_odd z_h_T) (m_step z_h_T) (m_bag z_h_T) (m_strokes z_h_T) (m_gave z_h_T) (m_threw z_h_T) (m_isKeeping z_h_T) (m_cursor z_h_T))) (wc' := (w_M_leftOf cI cJ cC a_h a_h_refused a_h_kind a_h_sweets a_h_gives a_h_tape a_h_letter a_h_letterAt a_h_one a_h_two a_h_kept a_h_trail a_h_crumb a_h_nextCrumb a_h_goal a_h_start a_h_sits a_h_bestSits a_h_without a_h_row y_h_taped y_h_at y_h_statements y_h_hasImage y_h_beforeMany y_h_found y_h_lots y_h_rowMany (m_many z_h_T) (m_odd z_h_T) (m_step z_h_T) (m_bag z_h_T) (m_strokes z_h_T) (m_gave z_h_T) (m_threw z_h_T) (m_isKeeping z_h_T) (m_cursor z_h_T))) (ws' := (w_M_halves cI cJ cC a_h a_h_refused a_h_kind a_h_sweets a_h_gives a_h_tape a_h_letter a_h_letterAt a_h_one a_h_two a_h_kept a_h_trail a_h_crumb a_h_nextCrumb a_h_goal a_h_start a_h_sits a_h_bestSits a_h_without a_h_row y_h_taped y_h_at y_h_statements y_h_hasImage y_h_beforeMany y_h_found y_h_lots y_h_rowMany (m_many z_h_T) (m_odd z_h_T) (m_step z_h_T) (m_bag z_h_T) (m_strokes z_h_T) (m_gave z_h_T) (m_threw z_h_T) (m_isKeeping z_h_T) (m_cursor z_h_T) z_h_crumb z_h_nextCrumb)) (As := [.int x1]) (rest := []) hx hb hml hown hT (c_M_leftOf (z_h_T := z_h_T) a_h a_h_refused a_h_kind a_h_sweets a_h_gives a_h_tape a_h_letter a_h_letterAt a_h_one a_h_two a_h_kept a_h_trail a_h_crumb a_h_nextCrumb a_h_goal a_h_start a_h_sits a_h_bestSits a_h_without a_h_row y_h_taped y_h_at y_h_statements y_h_hasImage y_h_beforeMany y_h_found y_h_lots y_h_rowMany hq8) k_932 k_934 ks_33 k_8 k_935 hd_M_leftOf ⟨Nat.le_of_ble_eq_true rfl, Nat.le_of_ble_eq_true rfl⟩ xE0_ok trivial hA hK hP hD hS [0] [1, 2] [2, 0, 1] rfl rfl rfl rfl rfl rfl rfl rfl rfl rfl hl.1 rfl (Nat.le_of_ble_eq_true rfl) ⟨Nat.zero_le _, Nat.zero_le _⟩ d_M_halves_62 (fun H locs hP hD hS => ?_)
        refine lv_iload_n hx hb d_M_halves_65 rfl (lv_at hl 1 rfl) ?_
        refine lv_icmp_eq (tgt := 88) hx hb d_M_halves_66 (by decide) (fun c9 => ?_) (fun c9 => ?_)
        · have hf := io_t hf c9
          refine lv_iinc (v := (x1 + 1)) (lv' := [(1, .int (x1 + 1)), (0, .ref a_h)]) hx hb d_M_halves_88 hl (k := 1) rfl (by rfl) (by decide) rfl (fun ls hl => ?_)
          refine lv_goto (tgt := 52) hx hb d_M_halves_91 (by decide) ?_
          exact ih z_h_nextCrumb (x1 + 1) _ _ _ hf hP hD hS (lv_sub hl [1, 0] rfl)
        · have hf := io_f hf c9
          refine lv_aload_n hx hb d_M_halves_69 rfl (lv_at hl 0 rfl) ?_
          refine va_get hx hb hT i_M hown hK hP 0 rfl rfl 25 (Nat.le_of_ble_eq_true rfl) (hT _ k_783) (fun _ h => h) rfl d_M_halves_70 ?_
          refine lv_aload_n hx hb d_M_halves_73 rfl (lv_at hl 0 rfl) ?_
          refine lv_iload_n hx hb d_M_halves_74 rfl (lv_at hl 1 rfl) ?_
          obtain ⟨q10, hq10, hf⟩ := io_b hf
          refine xcVI (wc := (w_M_leftOf cI cJ cC a_h a_h_refused a_h_kind a_h_sweets a_h_gives a_h_tape a_h_letter a_h_letterAt a_h_one a_h_two a_h_kept a_h_trail a_h_crumb a_h_nextCrumb a_h_goal a_h_start a_h_sits a_h_bestSits a_h_without a_h_row y_h_taped y_h_at y_h_statements y_h_hasImage y_h_beforeMany y_h_found y_h_lots y_h_rowMany (m_many z_h_T) (m_odd z_h_T) (m_step z_h_T) (m_bag z_h_T) (m_strokes z_h_T) (m_gave z_h_T) (m_threw z_h_T) (m_isKeeping z_h_T) (m_cursor z_h_T))) (wc' := (w_M_leftOf cI cJ cC a_h a_h_refused a_h_kind a_h_sweets a_h_gives a_h_tape a_h_letter a_h_letterAt a_h_one a_h_two a_h_kept a_h_trail a_h_crumb a_h_nextCrumb a_h_goal a_h_start a_h_sits a_h_bestSits a_h_without a_h_row y_h_taped y_h_at y_h_statements y_h_hasImage y_h_beforeMany y_h_found y_h_lots y_h_rowMany (m_many z_h_T) (m_odd z_h_T) (m_step z_h_T) (m_bag z_h_T) (m_strokes z_h_T) (m_gave z_h_T) (m_threw z_h_T) (m_isKeeping z_h_T) (m_cursor z_h_T))) (ws' := (w_M_halves cI cJ cC a_h a_h_refused a_h_kind a_h_sweets a_h_gives a_h_tape a_h_letter a_h_letterAt a_h_one a_h_two a_h_kept a_h_trail a_h_crumb a_h_nextCrumb a_h_goal a_h_start a_h_sits a_h_bestSits a_h_without a_h_row y_h_taped y_h_at y_h_statements y_h_hasImage y_h_beforeMany y_h_found y_h_lots y_h_rowMany (m_many z_h_T) (m_odd z_h_T) (m_step z_h_T) (m_bag z_h_T) (m_strokes z_h_T) (m_gave z_h_T) (m_threw z_h_T) (m_isKeeping z_h_T) (m_cursor z_h_T) z_h_crumb z_h_nextCrumb)) (As := [.int x1]) (rest := [.ref a_h_nextCrumb]) hx hb hml hown hT (c_M_leftOf (z_h_T := z_h_T) a_h a_h_refused a_h_kind a_h_sweets a_h_gives a_h_tape a_h_letter a_h_letterAt a_h_one a_h_two a_h_kept a_h_trail a_h_crumb a_h_nextCrumb a_h_goal a_h_start a_h_sits a_h_bestSits a_h_without a_h_row y_h_taped y_h_at y_h_statements y_h_hasImage y_h_beforeMany y_h_found y_h_lots y_h_rowMany hq10) k_932 k_934 ks_33 k_8 k_935 hd_M_leftOf ⟨Nat.le_of_ble_eq_true rfl, Nat.le_of_ble_eq_true rfl⟩ xE0_ok trivial hA hK hP hD hS [0] [1, 2] [2, 0, 1] rfl rfl rfl rfl rfl rfl rfl rfl rfl rfl hl.1 rfl (Nat.le_of_ble_eq_true rfl) ⟨Nat.zero_le _, Nat.zero_le _⟩ d_M_halves_75 (fun H locs hP hD hS => ?_)
          refine lv_dup2_11 hx hb d_M_halves_78 rfl rfl ?_
          obtain ⟨c11, hf⟩ := io_n hf
          refine x_lald hx hb hK hP 2 1 rfl rfl (j := q10.toNatClampNeg) rfl c11 d_M_halves_79 ?_
          refine lv_aload_n hx hb d_M_halves_80 rfl (lv_at hl 0 rfl) ?_
          refine va_get hx hb hT i_M hown hK hP 0 rfl rfl 24 (Nat.le_of_ble_eq_true rfl) (hT _ k_782) (fun _ h => h) rfl d_M_halves_81 ?_
          refine lv_iload_n hx hb d_M_halves_84 rfl (lv_at hl 1 rfl) ?_
          obtain ⟨c12, hf⟩ := io_n hf
          refine x_lald hx hb hK hP 1 1 rfl rfl (j := x1.toNatClampNeg) rfl c12 d_M_halves_85 ?_
          refine lv_ladd hx hb d_M_halves_86 ?_
          refine x_last hx hb hK hP hD hS 2 1 rfl rfl (j := q10.toNatClampNeg) rfl c11 d_M_halves_87 (fun H locs hP hD hS => ?_)
          have hP : va_P D classes (w_M_halves cI cJ cC a_h a_h_refused a_h_kind a_h_sweets a_h_gives a_h_tape a_h_letter a_h_letterAt a_h_one a_h_two a_h_kept a_h_trail a_h_crumb a_h_nextCrumb a_h_goal a_h_start a_h_sits a_h_bestSits a_h_without a_h_row y_h_taped y_h_at y_h_statements y_h_hasImage y_h_beforeMany y_h_found y_h_lots y_h_rowMany (m_many z_h_T) (m_odd z_h_T) (m_step z_h_T) (m_bag z_h_T) (m_strokes z_h_T) (m_gave z_h_T) (m_threw z_h_T) (m_isKeeping z_h_T) (m_cursor z_h_T) z_h_crumb (vp_updL z_h_nextCrumb q10.toNatClampNeg ((z_h_nextCrumb q10.toNatClampNeg) + (z_h_crumb x1.toNatClampNeg)))) H := hP
          have hD : va_D A (w_M_halves cI cJ cC a_h a_h_refused a_h_kind a_h_sweets a_h_gives a_h_tape a_h_letter a_h_letterAt a_h_one a_h_two a_h_kept a_h_trail a_h_crumb a_h_nextCrumb a_h_goal a_h_start a_h_sits a_h_bestSits a_h_without a_h_row y_h_taped y_h_at y_h_statements y_h_hasImage y_h_beforeMany y_h_found y_h_lots y_h_rowMany (m_many z_h_T) (m_odd z_h_T) (m_step z_h_T) (m_bag z_h_T) (m_strokes z_h_T) (m_gave z_h_T) (m_threw z_h_T) (m_isKeeping z_h_T) (m_cursor z_h_T) z_h_crumb (vp_updL z_h_nextCrumb q10.toNatClampNeg ((z_h_nextCrumb q10.toNatClampNeg) + (z_h_crumb x1.toNatClampNeg)))) := hD
          refine lv_iinc (v := (x1 + 1)) (lv' := [(1, .int (x1 + 1)), (0, .ref a_h)]) hx hb d_M_halves_88 hl (k := 1) rfl (by rfl) (by decide) rfl (fun ls hl => ?_)
          refine lv_goto (tgt := 52) hx hb d_M_halves_91 (by decide) ?_
          exact ih (vp_updL z_h_nextCrumb q10.toNatClampNeg ((z_h_nextCrumb q10.toNatClampNeg) + (z_h_crumb x1.toNatClampNeg))) (x1 + 1) _ _ _ hf hP hD hS (lv_sub hl [1, 0] rfl)
  have L96 : ∀ (z_h_nextCrumb : (Nat → Int64)), ∀ (n : Nat) (z_h_crumb : (Nat → Int64)) (x1 : Int32) (H : Heap) (locs : List Loc) (ls : Array Slot), f_M_halves_L96 z_h_T z_h_nextCrumb n z_h_crumb x1 = some q → va_P D classes (w_M_halves cI cJ cC a_h a_h_refused a_h_kind a_h_sweets a_h_gives a_h_tape a_h_letter a_h_letterAt a_h_one a_h_two a_h_kept a_h_trail a_h_crumb a_h_nextCrumb a_h_goal a_h_start a_h_sits a_h_bestSits a_h_without a_h_row y_h_taped y_h_at y_h_statements y_h_hasImage y_h_beforeMany y_h_found y_h_lots y_h_rowMany (m_many z_h_T) (m_odd z_h_T) (m_step z_h_T) (m_bag z_h_T) (m_strokes z_h_T) (m_gave z_h_T) (m_threw z_h_T) (m_isKeeping z_h_T) (m_cursor z_h_T) z_h_crumb z_h_nextCrumb) H → va_D A (w_M_halves cI cJ cC a_h a_h_refused a_h_kind a_h_sweets a_h_gives a_h_tape a_h_letter a_h_letterAt a_h_one a_h_two a_h_kept a_h_trail a_h_crumb a_h_nextCrumb a_h_goal a_h_start a_h_sits a_h_bestSits a_h_without a_h_row y_h_taped y_h_at y_h_statements y_h_hasImage y_h_beforeMany y_h_found y_h_lots y_h_rowMany (m_many z_h_T) (m_odd z_h_T) (m_step z_h_T) (m_bag z_h_T) (m_strokes z_h_T) (m_gave z_h_T) (m_threw z_h_T) (m_isKeeping z_h_T) (m_cursor z_h_T) z_h_crumb z_h_nextCrumb) → va_S A s.heap H locs → lv_has ls 2 [(0, .ref a_h), (1, .int x1)] → W p l e (xRm 1 21) s m args below meth c H locs 0 0 Q (F0 m 96 ls []) := by
    intro z_h_nextCrumb n
    induction n with
    | zero => intro z_h_crumb x1 H locs ls hf hP hD hS hl; exact nomatch (show (none : Option ((Nat → Int64) × (Nat → Int64))) = some q from hf)
    | succ n ih =>
      intro z_h_crumb x1 H locs ls hf hP hD hS hl
      refine lv_iload_n hx hb d_M_halves_96 rfl (lv_at hl 1 rfl) ?_
      refine lv_aload_n hx hb d_M_halves_97 rfl (lv_at hl 0 rfl) ?_
      refine va_get hx hb hT i_M hown hK hP 0 rfl rfl 4 (Nat.le_of_ble_eq_true rfl) (hT _ k_762) (fun _ h => h) rfl d_M_halves_98 ?_
      refine lv_icmp_ge (tgt := 122) hx hb d_M_halves_101 (by decide) (fun c14 => ?_) (fun c14 => ?_)
      · have hf := io_t hf c14
        have hq := Option.some.inj hf
        subst hq
        exact hret _ _ _ _ d_M_halves_122 hP hD hS
      · have hf := io_f hf c14
        refine lv_aload_n hx hb d_M_halves_104 rfl (lv_at hl 0 rfl) ?_
        refine va_get hx hb hT i_M hown hK hP 0 rfl rfl 24 (Nat.le_of_ble_eq_true rfl) (hT _ k_782) (fun _ h => h) rfl d_M_halves_105 ?_
        refine lv_iload_n hx hb d_M_halves_108 rfl (lv_at hl 1 rfl) ?_
        refine lv_aload_n hx hb d_M_halves_109 rfl (lv_at hl 0 rfl) ?_
        refine va_get hx hb hT i_M hown hK hP 0 rfl rfl 25 (Nat.le_of_ble_eq_true rfl) (hT _ k_783) (fun _ h => h) rfl d_M_halves_110 ?_
        refine lv_iload_n hx hb d_M_halves_113 rfl (lv_at hl 1 rfl) ?_
        obtain ⟨c15, hf⟩ := io_n hf
        refine x_lald hx hb hK hP 2 1 rfl rfl (j := x1.toNatClampNeg) rfl c15 d_M_halves_114 ?_
        refine x_last hx hb hK hP hD hS 1 1 rfl rfl (j := x1.toNatClampNeg) rfl c15 d_M_halves_115 (fun H locs hP hD hS => ?_)
        have hP : va_P D classes (w_M_halves cI cJ cC a_h a_h_refused a_h_kind a_h_sweets a_h_gives a_h_tape a_h_letter a_h_letterAt a_h_one a_h_two a_h_kept a_h_trail a_h_crumb a_h_nextCrumb a_h_goal a_h_start a_h_sits a_h_bestSits a_h_without a_h_row y_h_taped y_h_at y_h_statements y_h_hasImage y_h_beforeMany y_h_found y_h_lots y_h_rowMany (m_many z_h_T) (m_odd z_h_T) (m_step z_h_T) (m_bag z_h_T) (m_strokes z_h_T) (m_gave z_h_T) (m_threw z_h_T) (m_isKeeping z_h_T) (m_cursor z_h_T) (vp_updL z_h_crumb x1.toNatClampNeg (z_h_nextCrumb x1.toNatClampNeg)) z_h_nextCrumb) H := hP
        have hD : va_D A (w_M_halves cI cJ cC a_h a_h_refused a_h_kind a_h_sweets a_h_gives a_h_tape a_h_letter a_h_letterAt a_h_one a_h_two a_h_kept a_h_trail a_h_crumb a_h_nextCrumb a_h_goal a_h_start a_h_sits a_h_bestSits a_h_without a_h_row y_h_taped y_h_at y_h_statements y_h_hasImage y_h_beforeMany y_h_found y_h_lots y_h_rowMany (m_many z_h_T) (m_odd z_h_T) (m_step z_h_T) (m_bag z_h_T) (m_strokes z_h_T) (m_gave z_h_T) (m_threw z_h_T) (m_isKeeping z_h_T) (m_cursor z_h_T) (vp_updL z_h_crumb x1.toNatClampNeg (z_h_nextCrumb x1.toNatClampNeg)) z_h_nextCrumb) := hD
        refine lv_iinc (v := (x1 + 1)) (lv' := [(1, .int (x1 + 1)), (0, .ref a_h)]) hx hb d_M_halves_116 hl (k := 1) rfl (by rfl) (by decide) rfl (fun ls hl => ?_)
        refine lv_goto (tgt := 96) hx hb d_M_halves_119 (by decide) ?_
        exact ih (vp_updL z_h_crumb x1.toNatClampNeg (z_h_nextCrumb x1.toNatClampNeg)) (x1 + 1) _ _ _ hf hP hD hS (lv_sub hl [1, 0] rfl)
  refine lv_iconst (v := 0) hx hb d_M_halves_0 (by decide) ?_
  refine lv_istore_n (lv' := [(1, .int 0), (0, .ref a_h)]) hx hb d_M_halves_1 rfl hl (by decide) rfl (fun ls hl => ?_)
  refine L2 z_h_crumb _ (fun z_h_nextCrumb_6 H locs ls hf hP hD hS hl => ?_) FU z_h_nextCrumb 0 _ _ _ hf hP hD hS (lv_sub hl [1, 0] rfl)
  refine lv_iconst (v := 0) hx hb d_M_halves_50 (by decide) ?_
  refine lv_istore_n (lv' := [(1, .int 0), (0, .ref a_h)]) hx hb d_M_halves_51 rfl hl (by decide) rfl (fun ls hl => ?_)
  refine L52 z_h_crumb _ (fun z_h_nextCrumb_13 H locs ls hf hP hD hS hl => ?_) FU z_h_nextCrumb_6 0 _ _ _ hf hP hD hS (lv_sub hl [1, 0] rfl)
  refine lv_iconst (v := 0) hx hb d_M_halves_94 (by decide) ?_
  refine lv_istore_n (lv' := [(1, .int 0), (0, .ref a_h)]) hx hb d_M_halves_95 rfl hl (by decide) rfl (fun ls hl => ?_)
  exact L96 z_h_nextCrumb_13 FU z_h_crumb 0 _ _ _ hf hP hD hS (lv_sub hl [1, 0] rfl)
theorem d_M_divisor_0 : decode b_M_divisor 0 = .ok (.lload_n 0, 1) := by decide +kernel
theorem d_M_divisor_1 : decode b_M_divisor 1 = .ok (.lstore 4, 2) := by decide +kernel
theorem d_M_divisor_3 : decode b_M_divisor 3 = .ok (.lload_n 2, 1) := by decide +kernel
theorem d_M_divisor_4 : decode b_M_divisor 4 = .ok (.lstore 6, 2) := by decide +kernel
theorem d_M_divisor_6 : decode b_M_divisor 6 = .ok (.lload 6, 2) := by decide +kernel
theorem d_M_divisor_8 : decode b_M_divisor 8 = .ok (.lconst 0, 1) := by decide +kernel
theorem d_M_divisor_9 : decode b_M_divisor 9 = .ok (.lcmp, 1) := by decide +kernel
theorem d_M_divisor_10 : decode b_M_divisor 10 = .ok (.ifCond .eq 21, 3) := by decide +kernel
theorem d_M_divisor_13 : decode b_M_divisor 13 = .ok (.lload 4, 2) := by decide +kernel
theorem d_M_divisor_15 : decode b_M_divisor 15 = .ok (.lload 6, 2) := by decide +kernel
theorem d_M_divisor_17 : decode b_M_divisor 17 = .ok (.lrem, 1) := by decide +kernel
theorem d_M_divisor_18 : decode b_M_divisor 18 = .ok (.lstore 8, 2) := by decide +kernel
theorem d_M_divisor_20 : decode b_M_divisor 20 = .ok (.lload 6, 2) := by decide +kernel
theorem d_M_divisor_22 : decode b_M_divisor 22 = .ok (.lstore 4, 2) := by decide +kernel
theorem d_M_divisor_24 : decode b_M_divisor 24 = .ok (.lload 8, 2) := by decide +kernel
theorem d_M_divisor_26 : decode b_M_divisor 26 = .ok (.lstore 6, 2) := by decide +kernel
theorem d_M_divisor_28 : decode b_M_divisor 28 = .ok (.goto (-22), 3) := by decide +kernel
theorem d_M_divisor_31 : decode b_M_divisor 31 = .ok (.lload 4, 2) := by decide +kernel
theorem d_M_divisor_33 : decode b_M_divisor 33 = .ok (.lreturn, 1) := by decide +kernel
set_option maxHeartbeats 4000000 in
set_option maxRecDepth 100000 in
theorem c_M_divisor {l : Launch} {D : va_G} {cI cJ cC : ClassId} {x0 : Int64} {x2 : Int64} {q : Int64} (hf : f_M_divisor x0 x2 = some q) : xL l y_M_divisor b_M_divisor 10 .long 0 0 D (tyK cI cJ cC) xE0 [.long x0, .long x2] [] q [] := by
  refine xL_of (by decide) (Nat.le_of_ble_eq_true rfl) ?_
  intro p e s m args below meth c A Q hx hb hml hown hT hA hP hD hK hS hE hret ls hl
  have hown : s.vm.findClass R_M = some m.cls := hown
  have hl : lv_has ls 10 [(0, .long x0), (2, .long x2)] := hl
  unfold f_M_divisor at hf
  have L6 : ∀ (n : Nat) (x4 : Int64) (x6 : Int64) (H : Heap) (locs : List Loc) (ls : Array Slot), f_M_divisor_L6 n x4 x6 = some q → va_P D classes [] H → va_D A [] → va_S A s.heap H locs → lv_has ls 10 [(4, .long x4), (6, .long x6)] → W p l e (xRm 0 0) s m args below meth c H locs 0 0 Q (F0 m 6 ls []) := by
    intro n
    induction n with
    | zero => intro x4 x6 H locs ls hf hP hD hS hl; exact nomatch (show (none : Option (Int64)) = some q from hf)
    | succ n ih =>
      intro x4 x6 H locs ls hf hP hD hS hl
      refine lv_lload hx hb d_M_divisor_6 (lv_at hl 1 rfl) ?_
      refine lv_lconst (v := 0) hx hb d_M_divisor_8 (by decide) ?_
      refine W.lcmp hx hb d_M_divisor_9 ?_
      refine lv_if_eq (tgt := 31) hx hb d_M_divisor_10 (by decide) (fun c1 => ?_) (fun c1 => ?_)
      · have hf := io_t hf c1
        refine lv_lload hx hb d_M_divisor_31 (lv_at hl 0 rfl) ?_
        have hq := Option.some.inj hf
        subst hq
        exact hret _ _ _ _ _ d_M_divisor_33 rfl hP hD hS
      · have hf := io_f hf c1
        refine lv_lload hx hb d_M_divisor_13 (lv_at hl 0 rfl) ?_
        refine lv_lload hx hb d_M_divisor_15 (lv_at hl 1 rfl) ?_
        obtain ⟨c2, hf⟩ := io_n hf
        refine x_lrem hx hb d_M_divisor_17 c2 ?_
        refine lv_lstore (lv' := [(8, .long (x4 % x6)), (4, .long x4), (6, .long x6)]) hx hb d_M_divisor_18 hl (by decide) rfl (fun ls hl => ?_)
        refine lv_lload hx hb d_M_divisor_20 (lv_at hl 2 rfl) ?_
        refine lv_lstore (lv' := [(4, .long x6), (8, .long (x4 % x6)), (6, .long x6)]) hx hb d_M_divisor_22 hl (by decide) rfl (fun ls hl => ?_)
        refine lv_lload hx hb d_M_divisor_24 (lv_at hl 1 rfl) ?_
        refine lv_lstore (lv' := [(6, .long (x4 % x6)), (4, .long x6), (8, .long (x4 % x6))]) hx hb d_M_divisor_26 hl (by decide) rfl (fun ls hl => ?_)
        refine lv_goto (tgt := 6) hx hb d_M_divisor_28 (by decide) ?_
        exact ih x6 (x4 % x6) _ _ _ hf hP hD hS (lv_sub hl [1, 0] rfl)
  refine lv_lload_n hx hb d_M_divisor_0 rfl (lv_at hl 0 rfl) ?_
  refine lv_lstore (lv' := [(4, .long x0), (0, .long x0), (2, .long x2)]) hx hb d_M_divisor_1 hl (by decide) rfl (fun ls hl => ?_)
  refine lv_lload_n hx hb d_M_divisor_3 rfl (lv_at hl 2 rfl) ?_
  refine lv_lstore (lv' := [(6, .long x2), (4, .long x0), (0, .long x0), (2, .long x2)]) hx hb d_M_divisor_4 hl (by decide) rfl (fun ls hl => ?_)
  exact L6 FU x0 x2 _ _ _ hf hP hD hS (lv_sub hl [1, 0] rfl)
abbrev w_M_crumbs (cI cJ cC : ClassId) (a_h a_h_refused a_h_kind a_h_sweets a_h_gives a_h_tape a_h_letter a_h_letterAt a_h_one a_h_two a_h_kept a_h_trail a_h_crumb a_h_nextCrumb a_h_goal a_h_start a_h_sits a_h_bestSits a_h_without a_h_row : Nat) (y_h_taped : Int32) (y_h_at : Int32) (y_h_statements : Int32) (y_h_hasImage : Int32) (y_h_beforeMany : Int32) (y_h_found : Int32) (y_h_lots : Int32) (y_h_rowMany : Int32) (p_h_many : Int32) (p_h_odd : Int32) (p_h_step : Int32) (p_h_bag : Int32) (p_h_strokes : Int32) (p_h_gave : Int32) (p_h_threw : Int32) (p_h_isKeeping : Int32) (p_h_cursor : Int32) (p_h_refused : (Nat → Int32)) (p_h_sweets : (Nat → Int32)) (p_h_crumb : (Nat → Int64)) (p_h_nextCrumb : (Nat → Int64)) : va_W := [(a_h, .inr (7, [.ref a_h_refused, .ref a_h_kind, .ref a_h_sweets, .ref a_h_gives, .int p_h_many, .int p_h_odd, .int p_h_step, .int p_h_bag, .int p_h_strokes, .int p_h_gave, .int p_h_threw, .ref a_h_tape, .ref a_h_letter, .ref a_h_letterAt, .ref a_h_one, .ref a_h_two, .int y_h_taped, .int y_h_at, .int y_h_statements, .ref a_h_kept, .int y_h_hasImage, .int p_h_isKeeping, .int p_h_cursor, .ref a_h_trail, .ref a_h_crumb, .ref a_h_nextCrumb, .ref a_h_goal, .ref a_h_start, .int y_h_beforeMany, .int y_h_found, .ref a_h_sits, .ref a_h_bestSits, .ref a_h_without, .int y_h_lots, .ref a_h_row, .int y_h_rowMany])), (a_h_refused, .inl (cI, (7, .inl p_h_refused))), (a_h_sweets, .inl (cI, (8, .inl p_h_sweets))), (a_h_crumb, .inl (cJ, (8, .inr (.inl p_h_crumb)))), (a_h_nextCrumb, .inl (cJ, (8, .inr (.inl p_h_nextCrumb))))]
theorem d_M_crumbs_0 : decode b_M_crumbs 0 = .ok (.aload_n 0, 1) := by decide +kernel
theorem d_M_crumbs_1 : decode b_M_crumbs 1 = .ok (.iload_n 1, 1) := by decide +kernel
theorem d_M_crumbs_2 : decode b_M_crumbs 2 = .ok (.invokevirtual 168, 3) := by decide +kernel
theorem d_M_crumbs_5 : decode b_M_crumbs 5 = .ok (.ifCond .ne 9, 3) := by decide +kernel
theorem d_M_crumbs_8 : decode b_M_crumbs 8 = .ok (.aload_n 0, 1) := by decide +kernel
theorem d_M_crumbs_9 : decode b_M_crumbs 9 = .ok (.iconst (-1), 1) := by decide +kernel
theorem d_M_crumbs_10 : decode b_M_crumbs 10 = .ok (.invokevirtual 196, 3) := by decide +kernel
theorem d_M_crumbs_13 : decode b_M_crumbs 13 = .ok (.lreturn, 1) := by decide +kernel
theorem d_M_crumbs_14 : decode b_M_crumbs 14 = .ok (.iload_n 3, 1) := by decide +kernel
theorem d_M_crumbs_15 : decode b_M_crumbs 15 = .ok (.iconst 0, 1) := by decide +kernel
theorem d_M_crumbs_16 : decode b_M_crumbs 16 = .ok (.iconst 1, 1) := by decide +kernel
theorem d_M_crumbs_17 : decode b_M_crumbs 17 = .ok (.invokestatic 99, 3) := by decide +kernel
theorem d_M_crumbs_20 : decode b_M_crumbs 20 = .ok (.ifCond .ne 10, 3) := by decide +kernel
theorem d_M_crumbs_23 : decode b_M_crumbs 23 = .ok (.aload_n 0, 1) := by decide +kernel
theorem d_M_crumbs_24 : decode b_M_crumbs 24 = .ok (.bipush (-2), 2) := by decide +kernel
theorem d_M_crumbs_26 : decode b_M_crumbs 26 = .ok (.invokevirtual 196, 3) := by decide +kernel
theorem d_M_crumbs_29 : decode b_M_crumbs 29 = .ok (.lreturn, 1) := by decide +kernel
theorem d_M_crumbs_30 : decode b_M_crumbs 30 = .ok (.iload_n 2, 1) := by decide +kernel
theorem d_M_crumbs_31 : decode b_M_crumbs 31 = .ok (.iconst 0, 1) := by decide +kernel
theorem d_M_crumbs_32 : decode b_M_crumbs 32 = .ok (.bipush 20, 2) := by decide +kernel
theorem d_M_crumbs_34 : decode b_M_crumbs 34 = .ok (.invokestatic 81, 3) := by decide +kernel
theorem d_M_crumbs_37 : decode b_M_crumbs 37 = .ok (.istore 4, 2) := by decide +kernel
theorem d_M_crumbs_39 : decode b_M_crumbs 39 = .ok (.iload 4, 2) := by decide +kernel
theorem d_M_crumbs_41 : decode b_M_crumbs 41 = .ok (.ifCond .eq 10, 3) := by decide +kernel
theorem d_M_crumbs_44 : decode b_M_crumbs 44 = .ok (.aload_n 0, 1) := by decide +kernel
theorem d_M_crumbs_45 : decode b_M_crumbs 45 = .ok (.iload 4, 2) := by decide +kernel
theorem d_M_crumbs_47 : decode b_M_crumbs 47 = .ok (.invokevirtual 196, 3) := by decide +kernel
theorem d_M_crumbs_50 : decode b_M_crumbs 50 = .ok (.lreturn, 1) := by decide +kernel
theorem d_M_crumbs_51 : decode b_M_crumbs 51 = .ok (.aload_n 0, 1) := by decide +kernel
theorem d_M_crumbs_52 : decode b_M_crumbs 52 = .ok (.invokevirtual 200, 3) := by decide +kernel
theorem d_M_crumbs_55 : decode b_M_crumbs 55 = .ok (.lconst 1, 1) := by decide +kernel
theorem d_M_crumbs_56 : decode b_M_crumbs 56 = .ok (.lstore 5, 2) := by decide +kernel
theorem d_M_crumbs_58 : decode b_M_crumbs 58 = .ok (.iconst 0, 1) := by decide +kernel
theorem d_M_crumbs_59 : decode b_M_crumbs 59 = .ok (.istore 7, 2) := by decide +kernel
theorem d_M_crumbs_61 : decode b_M_crumbs 61 = .ok (.iload 7, 2) := by decide +kernel
theorem d_M_crumbs_63 : decode b_M_crumbs 63 = .ok (.iload_n 2, 1) := by decide +kernel
theorem d_M_crumbs_64 : decode b_M_crumbs 64 = .ok (.if_icmp .ge 21, 3) := by decide +kernel
theorem d_M_crumbs_67 : decode b_M_crumbs 67 = .ok (.aload_n 0, 1) := by decide +kernel
theorem d_M_crumbs_68 : decode b_M_crumbs 68 = .ok (.invokevirtual 203, 3) := by decide +kernel
theorem d_M_crumbs_71 : decode b_M_crumbs 71 = .ok (.lload 5, 2) := by decide +kernel
theorem d_M_crumbs_73 : decode b_M_crumbs 73 = .ok (.ldc2_w 194, 3) := by decide +kernel
theorem d_M_crumbs_76 : decode b_M_crumbs 76 = .ok (.lmul, 1) := by decide +kernel
theorem d_M_crumbs_77 : decode b_M_crumbs 77 = .ok (.lstore 5, 2) := by decide +kernel
theorem d_M_crumbs_79 : decode b_M_crumbs 79 = .ok (.iinc 7 1, 3) := by decide +kernel
theorem d_M_crumbs_82 : decode b_M_crumbs 82 = .ok (.goto (-21), 3) := by decide +kernel
theorem d_M_crumbs_85 : decode b_M_crumbs 85 = .ok (.iload_n 3, 1) := by decide +kernel
theorem d_M_crumbs_86 : decode b_M_crumbs 86 = .ok (.ifCond .ne 12, 3) := by decide +kernel
theorem d_M_crumbs_89 : decode b_M_crumbs 89 = .ok (.aload_n 0, 1) := by decide +kernel
theorem d_M_crumbs_90 : decode b_M_crumbs 90 = .ok (.getfield 50, 3) := by decide +kernel
theorem d_M_crumbs_93 : decode b_M_crumbs 93 = .ok (.iload_n 1, 1) := by decide +kernel
theorem d_M_crumbs_94 : decode b_M_crumbs 94 = .ok (.laload, 1) := by decide +kernel
theorem d_M_crumbs_95 : decode b_M_crumbs 95 = .ok (.goto 5, 3) := by decide +kernel
theorem d_M_crumbs_98 : decode b_M_crumbs 98 = .ok (.lload 5, 2) := by decide +kernel
theorem d_M_crumbs_100 : decode b_M_crumbs 100 = .ok (.aload_n 0, 1) := by decide +kernel
theorem d_M_crumbs_101 : decode b_M_crumbs 101 = .ok (.getfield 50, 3) := by decide +kernel
theorem d_M_crumbs_104 : decode b_M_crumbs 104 = .ok (.iload_n 1, 1) := by decide +kernel
theorem d_M_crumbs_105 : decode b_M_crumbs 105 = .ok (.laload, 1) := by decide +kernel
theorem d_M_crumbs_106 : decode b_M_crumbs 106 = .ok (.lload 5, 2) := by decide +kernel
theorem d_M_crumbs_108 : decode b_M_crumbs 108 = .ok (.invokestatic 206, 3) := by decide +kernel
theorem d_M_crumbs_111 : decode b_M_crumbs 111 = .ok (.ldiv, 1) := by decide +kernel
theorem d_M_crumbs_112 : decode b_M_crumbs 112 = .ok (.lreturn, 1) := by decide +kernel
set_option maxHeartbeats 4000000 in
set_option maxRecDepth 100000 in
theorem c_M_crumbs {l : Launch} {D : va_G} {cI cJ cC : ClassId} (a_h a_h_refused a_h_kind a_h_sweets a_h_gives a_h_tape a_h_letter a_h_letterAt a_h_one a_h_two a_h_kept a_h_trail a_h_crumb a_h_nextCrumb a_h_goal a_h_start a_h_sits a_h_bestSits a_h_without a_h_row : Nat) (y_h_taped : Int32) (y_h_at : Int32) (y_h_statements : Int32) (y_h_hasImage : Int32) (y_h_beforeMany : Int32) (y_h_found : Int32) (y_h_lots : Int32) (y_h_rowMany : Int32) {z_h_T : MT} {z_h_refused : (Nat → Int32)} {z_h_crumb : (Nat → Int64)} {z_h_nextCrumb : (Nat → Int64)} {x1 : Int32} {x2 : Int32} {x3 : Int32} {q : Int64 × (Nat → Int32) × (Nat → Int64) × (Nat → Int64)} (hf : f_M_crumbs z_h_T z_h_refused z_h_crumb z_h_nextCrumb x1 x2 x3 = some q) : xL l y_M_crumbs b_M_crumbs 8 .long 2 42 D (tyK cI cJ cC) xE0 [.ref a_h, .int x1, .int x2, .int x3] (w_M_crumbs cI cJ cC a_h a_h_refused a_h_kind a_h_sweets a_h_gives a_h_tape a_h_letter a_h_letterAt a_h_one a_h_two a_h_kept a_h_trail a_h_crumb a_h_nextCrumb a_h_goal a_h_start a_h_sits a_h_bestSits a_h_without a_h_row y_h_taped y_h_at y_h_statements y_h_hasImage y_h_beforeMany y_h_found y_h_lots y_h_rowMany (m_many z_h_T) (m_odd z_h_T) (m_step z_h_T) (m_bag z_h_T) (m_strokes z_h_T) (m_gave z_h_T) (m_threw z_h_T) (m_isKeeping z_h_T) (m_cursor z_h_T) z_h_refused (m_sweets z_h_T) z_h_crumb z_h_nextCrumb) q.1 (w_M_crumbs cI cJ cC a_h a_h_refused a_h_kind a_h_sweets a_h_gives a_h_tape a_h_letter a_h_letterAt a_h_one a_h_two a_h_kept a_h_trail a_h_crumb a_h_nextCrumb a_h_goal a_h_start a_h_sits a_h_bestSits a_h_without a_h_row y_h_taped y_h_at y_h_statements y_h_hasImage y_h_beforeMany y_h_found y_h_lots y_h_rowMany (m_many z_h_T) (m_odd z_h_T) (m_step z_h_T) (m_bag z_h_T) (m_strokes z_h_T) (m_gave z_h_T) (m_threw z_h_T) (m_isKeeping z_h_T) (m_cursor z_h_T) q.2.1 (m_sweets z_h_T) q.2.2.1 q.2.2.2) := by
  refine xL_of (by decide) (Nat.le_of_ble_eq_true rfl) ?_
  intro p e s m args below meth c A Q hx hb hml hown hT hA hP hD hK hS hE hret ls hl
  have hown : s.vm.findClass R_M = some m.cls := hown
  have hl : lv_has ls 8 [(0, .ref a_h), (1, .int x1), (2, .int x2), (3, .int x3)] := hl
  unfold f_M_crumbs at hf
  have L61 : ∀ (z_h_refused : (Nat → Int32)) (k : (Nat → Int64) → (Nat → Int64) → Int64 → Option (Int64 × (Nat → Int32) × (Nat → Int64) × (Nat → Int64))), (∀ (z_h_crumb : (Nat → Int64)) (z_h_nextCrumb : (Nat → Int64)) (x5 : Int64) (H : Heap) (locs : List Loc) (ls : Array Slot), k z_h_crumb z_h_nextCrumb x5 = some q → va_P D classes (w_M_crumbs cI cJ cC a_h a_h_refused a_h_kind a_h_sweets a_h_gives a_h_tape a_h_letter a_h_letterAt a_h_one a_h_two a_h_kept a_h_trail a_h_crumb a_h_nextCrumb a_h_goal a_h_start a_h_sits a_h_bestSits a_h_without a_h_row y_h_taped y_h_at y_h_statements y_h_hasImage y_h_beforeMany y_h_found y_h_lots y_h_rowMany (m_many z_h_T) (m_odd z_h_T) (m_step z_h_T) (m_bag z_h_T) (m_strokes z_h_T) (m_gave z_h_T) (m_threw z_h_T) (m_isKeeping z_h_T) (m_cursor z_h_T) z_h_refused (m_sweets z_h_T) z_h_crumb z_h_nextCrumb) H → va_D A (w_M_crumbs cI cJ cC a_h a_h_refused a_h_kind a_h_sweets a_h_gives a_h_tape a_h_letter a_h_letterAt a_h_one a_h_two a_h_kept a_h_trail a_h_crumb a_h_nextCrumb a_h_goal a_h_start a_h_sits a_h_bestSits a_h_without a_h_row y_h_taped y_h_at y_h_statements y_h_hasImage y_h_beforeMany y_h_found y_h_lots y_h_rowMany (m_many z_h_T) (m_odd z_h_T) (m_step z_h_T) (m_bag z_h_T) (m_strokes z_h_T) (m_gave z_h_T) (m_threw z_h_T) (m_isKeeping z_h_T) (m_cursor z_h_T) z_h_refused (m_sweets z_h_T) z_h_crumb z_h_nextCrumb) → va_S A s.heap H locs → lv_has ls 8 [(0, .ref a_h), (1, .int x1), (3, .int x3), (5, .long x5)] → W p l e (xRm 2 42) s m args below meth c H locs 0 0 Q (F0 m 85 ls [])) → ∀ (n : Nat) (z_h_crumb : (Nat → Int64)) (z_h_nextCrumb : (Nat → Int64)) (x5 : Int64) (x7 : Int32) (H : Heap) (locs : List Loc) (ls : Array Slot), f_M_crumbs_L61 z_h_T x2 k n z_h_crumb z_h_nextCrumb x5 x7 = some q → va_P D classes (w_M_crumbs cI cJ cC a_h a_h_refused a_h_kind a_h_sweets a_h_gives a_h_tape a_h_letter a_h_letterAt a_h_one a_h_two a_h_kept a_h_trail a_h_crumb a_h_nextCrumb a_h_goal a_h_start a_h_sits a_h_bestSits a_h_without a_h_row y_h_taped y_h_at y_h_statements y_h_hasImage y_h_beforeMany y_h_found y_h_lots y_h_rowMany (m_many z_h_T) (m_odd z_h_T) (m_step z_h_T) (m_bag z_h_T) (m_strokes z_h_T) (m_gave z_h_T) (m_threw z_h_T) (m_isKeeping z_h_T) (m_cursor z_h_T) z_h_refused (m_sweets z_h_T) z_h_crumb z_h_nextCrumb) H → va_D A (w_M_crumbs cI cJ cC a_h a_h_refused a_h_kind a_h_sweets a_h_gives a_h_tape a_h_letter a_h_letterAt a_h_one a_h_two a_h_kept a_h_trail a_h_crumb a_h_nextCrumb a_h_goal a_h_start a_h_sits a_h_bestSits a_h_without a_h_row y_h_taped y_h_at y_h_statements y_h_hasImage y_h_beforeMany y_h_found y_h_lots y_h_rowMany (m_many z_h_T) (m_odd z_h_T) (m_step z_h_T) (m_bag z_h_T) (m_strokes z_h_T) (m_gave z_h_T) (m_threw z_h_T) (m_isKeeping z_h_T) (m_cursor z_h_T) z_h_refused (m_sweets z_h_T) z_h_crumb z_h_nextCrumb) → va_S A s.heap H locs → lv_has ls 8 [(0, .ref a_h), (1, .int x1), (2, .int x2), (3, .int x3), (5, .long x5), (7, .int x7)] → W p l e (xRm 2 42) s m args below meth c H locs 0 0 Q (F0 m 61 ls []) := by
    intro z_h_refused k hk n
    induction n with
    | zero => intro z_h_crumb z_h_nextCrumb x5 x7 H locs ls hf hP hD hS hl; exact nomatch (show (none : Option (Int64 × (Nat → Int32) × (Nat → Int64) × (Nat → Int64))) = some q from hf)
    | succ n ih =>
      intro z_h_crumb z_h_nextCrumb x5 x7 H locs ls hf hP hD hS hl
      refine lv_iload hx hb d_M_crumbs_61 (lv_at hl 5 rfl) ?_
      refine lv_iload_n hx hb d_M_crumbs_63 rfl (lv_at hl 2 rfl) ?_
      refine lv_icmp_ge (tgt := 85) hx hb d_M_crumbs_64 (by decide) (fun c8 => ?_) (fun c8 => ?_)
      · have hf := io_t hf c8
        exact hk z_h_crumb z_h_nextCrumb x5 _ _ _ hf hP hD hS (lv_sub hl [0, 1, 3, 4] rfl)
      · have hf := io_f hf c8
        refine lv_aload_n hx hb d_M_crumbs_67 rfl (lv_at hl 0 rfl) ?_
        obtain ⟨q9, hq9, hf⟩ := io_b hf
        refine xcVV (wc := (w_M_halves cI cJ cC a_h a_h_refused a_h_kind a_h_sweets a_h_gives a_h_tape a_h_letter a_h_letterAt a_h_one a_h_two a_h_kept a_h_trail a_h_crumb a_h_nextCrumb a_h_goal a_h_start a_h_sits a_h_bestSits a_h_without a_h_row y_h_taped y_h_at y_h_statements y_h_hasImage y_h_beforeMany y_h_found y_h_lots y_h_rowMany (m_many z_h_T) (m_odd z_h_T) (m_step z_h_T) (m_bag z_h_T) (m_strokes z_h_T) (m_gave z_h_T) (m_threw z_h_T) (m_isKeeping z_h_T) (m_cursor z_h_T) z_h_crumb z_h_nextCrumb)) (wc' := (w_M_halves cI cJ cC a_h a_h_refused a_h_kind a_h_sweets a_h_gives a_h_tape a_h_letter a_h_letterAt a_h_one a_h_two a_h_kept a_h_trail a_h_crumb a_h_nextCrumb a_h_goal a_h_start a_h_sits a_h_bestSits a_h_without a_h_row y_h_taped y_h_at y_h_statements y_h_hasImage y_h_beforeMany y_h_found y_h_lots y_h_rowMany (m_many z_h_T) (m_odd z_h_T) (m_step z_h_T) (m_bag z_h_T) (m_strokes z_h_T) (m_gave z_h_T) (m_threw z_h_T) (m_isKeeping z_h_T) (m_cursor z_h_T) q9.1 q9.2)) (ws' := (w_M_crumbs cI cJ cC a_h a_h_refused a_h_kind a_h_sweets a_h_gives a_h_tape a_h_letter a_h_letterAt a_h_one a_h_two a_h_kept a_h_trail a_h_crumb a_h_nextCrumb a_h_goal a_h_start a_h_sits a_h_bestSits a_h_without a_h_row y_h_taped y_h_at y_h_statements y_h_hasImage y_h_beforeMany y_h_found y_h_lots y_h_rowMany (m_many z_h_T) (m_odd z_h_T) (m_step z_h_T) (m_bag z_h_T) (m_strokes z_h_T) (m_gave z_h_T) (m_threw z_h_T) (m_isKeeping z_h_T) (m_cursor z_h_T) z_h_refused (m_sweets z_h_T) q9.1 q9.2)) (As := []) (rest := []) hx hb hml hown hT (c_M_halves (z_h_T := z_h_T) (z_h_crumb := z_h_crumb) (z_h_nextCrumb := z_h_nextCrumb) a_h a_h_refused a_h_kind a_h_sweets a_h_gives a_h_tape a_h_letter a_h_letterAt a_h_one a_h_two a_h_kept a_h_trail a_h_crumb a_h_nextCrumb a_h_goal a_h_start a_h_sits a_h_bestSits a_h_without a_h_row y_h_taped y_h_at y_h_statements y_h_hasImage y_h_beforeMany y_h_found y_h_lots y_h_rowMany hq9) k_1036 k_1038 ks_46 k_8 k_1039 hd_M_halves ⟨Nat.le_of_ble_eq_true rfl, Nat.le_of_ble_eq_true rfl⟩ xE0_ok trivial hA hK hP hD hS [0, 3, 4] [1, 2] [2, 0, 1, 3, 4] rfl rfl rfl rfl rfl rfl rfl rfl rfl rfl hl.1 rfl (Nat.le_of_ble_eq_true rfl) ⟨Nat.zero_le _, Nat.zero_le _⟩ d_M_crumbs_68 (fun H locs hP hD hS => ?_)
        refine lv_lload hx hb d_M_crumbs_71 (lv_at hl 4 rfl) ?_
        refine lv_ldc2 (v := 2) hx hb hown (hT _ k_1040) d_M_crumbs_73 ?_
        refine lv_lmul hx hb d_M_crumbs_76 ?_
        refine lv_lstore (lv' := [(5, .long (x5 * 2)), (0, .ref a_h), (1, .int x1), (2, .int x2), (3, .int x3), (7, .int x7)]) hx hb d_M_crumbs_77 hl (by decide) rfl (fun ls hl => ?_)
        refine lv_iinc (v := (x7 + 1)) (lv' := [(7, .int (x7 + 1)), (5, .long (x5 * 2)), (0, .ref a_h), (1, .int x1), (2, .int x2), (3, .int x3)]) hx hb d_M_crumbs_79 hl (k := 5) rfl (by rfl) (by decide) rfl (fun ls hl => ?_)
        refine lv_goto (tgt := 61) hx hb d_M_crumbs_82 (by decide) ?_
        exact ih q9.1 q9.2 (x5 * 2) (x7 + 1) _ _ _ hf hP hD hS (lv_sub hl [2, 3, 4, 5, 1, 0] rfl)
  refine lv_aload_n hx hb d_M_crumbs_0 rfl (lv_at hl 0 rfl) ?_
  refine lv_iload_n hx hb d_M_crumbs_1 rfl (lv_at hl 1 rfl) ?_
  obtain ⟨q1, hq1, hf⟩ := io_b hf
  refine xcVI (wc := (w_M_isChild cI cJ cC a_h a_h_refused a_h_kind a_h_sweets a_h_gives a_h_tape a_h_letter a_h_letterAt a_h_one a_h_two a_h_kept a_h_trail a_h_crumb a_h_nextCrumb a_h_goal a_h_start a_h_sits a_h_bestSits a_h_without a_h_row y_h_taped y_h_at y_h_statements y_h_hasImage y_h_beforeMany y_h_found y_h_lots y_h_rowMany (m_many z_h_T) (m_odd z_h_T) (m_step z_h_T) (m_bag z_h_T) (m_strokes z_h_T) (m_gave z_h_T) (m_threw z_h_T) (m_isKeeping z_h_T) (m_cursor z_h_T))) (wc' := (w_M_isChild cI cJ cC a_h a_h_refused a_h_kind a_h_sweets a_h_gives a_h_tape a_h_letter a_h_letterAt a_h_one a_h_two a_h_kept a_h_trail a_h_crumb a_h_nextCrumb a_h_goal a_h_start a_h_sits a_h_bestSits a_h_without a_h_row y_h_taped y_h_at y_h_statements y_h_hasImage y_h_beforeMany y_h_found y_h_lots y_h_rowMany (m_many z_h_T) (m_odd z_h_T) (m_step z_h_T) (m_bag z_h_T) (m_strokes z_h_T) (m_gave z_h_T) (m_threw z_h_T) (m_isKeeping z_h_T) (m_cursor z_h_T))) (ws' := (w_M_crumbs cI cJ cC a_h a_h_refused a_h_kind a_h_sweets a_h_gives a_h_tape a_h_letter a_h_letterAt a_h_one a_h_two a_h_kept a_h_trail a_h_crumb a_h_nextCrumb a_h_goal a_h_start a_h_sits a_h_bestSits a_h_without a_h_row y_h_taped y_h_at y_h_statements y_h_hasImage y_h_beforeMany y_h_found y_h_lots y_h_rowMany (m_many z_h_T) (m_odd z_h_T) (m_step z_h_T) (m_bag z_h_T) (m_strokes z_h_T) (m_gave z_h_T) (m_threw z_h_T) (m_isKeeping z_h_T) (m_cursor z_h_T) z_h_refused (m_sweets z_h_T) z_h_crumb z_h_nextCrumb)) (As := [.int x1]) (rest := []) hx hb hml hown hT (c_M_isChild (z_h_T := z_h_T) a_h a_h_refused a_h_kind a_h_sweets a_h_gives a_h_tape a_h_letter a_h_letterAt a_h_one a_h_two a_h_kept a_h_trail a_h_crumb a_h_nextCrumb a_h_goal a_h_start a_h_sits a_h_bestSits a_h_without a_h_row y_h_taped y_h_at y_h_statements y_h_hasImage y_h_beforeMany y_h_found y_h_lots y_h_rowMany hq1) k_924 k_926 ks_31 k_8 k_927 hd_M_isChild ⟨Nat.le_of_ble_eq_true rfl, Nat.le_of_ble_eq_true rfl⟩ xE0_ok trivial hA hK hP hD hS [0] [1, 2, 3, 4] [4, 0, 1, 2, 3] rfl rfl rfl rfl rfl rfl rfl rfl rfl rfl hl.1 rfl (Nat.le_of_ble_eq_true rfl) ⟨Nat.zero_le _, Nat.zero_le _⟩ d_M_crumbs_2 (fun H locs hP hD hS => ?_)
  refine lv_if_ne (tgt := 14) hx hb d_M_crumbs_5 (by decide) (fun c2 => ?_) (fun c2 => ?_)
  · have hf := io_f hf c2
    refine lv_iload_n hx hb d_M_crumbs_14 rfl (lv_at hl 3 rfl) ?_
    refine lv_iconst (v := 0) hx hb d_M_crumbs_15 (by decide) ?_
    refine lv_iconst (v := 1) hx hb d_M_crumbs_16 (by decide) ?_
    obtain ⟨q3, hq3, hf⟩ := io_b hf
    refine xcSI (wc := []) (wc' := []) (ws' := (w_M_crumbs cI cJ cC a_h a_h_refused a_h_kind a_h_sweets a_h_gives a_h_tape a_h_letter a_h_letterAt a_h_one a_h_two a_h_kept a_h_trail a_h_crumb a_h_nextCrumb a_h_goal a_h_start a_h_sits a_h_bestSits a_h_without a_h_row y_h_taped y_h_at y_h_statements y_h_hasImage y_h_beforeMany y_h_found y_h_lots y_h_rowMany (m_many z_h_T) (m_odd z_h_T) (m_step z_h_T) (m_bag z_h_T) (m_strokes z_h_T) (m_gave z_h_T) (m_threw z_h_T) (m_isKeeping z_h_T) (m_cursor z_h_T) z_h_refused (m_sweets z_h_T) z_h_crumb z_h_nextCrumb)) (As := [.int x3, .int 0, .int 1]) (rest := []) hx hb hml hown hT (c_M_isIn hq3) k_897 k_898 k_8 k_899 hd_M_isIn ⟨Nat.le_of_ble_eq_true rfl, Nat.le_of_ble_eq_true rfl⟩ xE0_ok trivial hA hK hP hD hS [] [0, 1, 2, 3, 4] [0, 1, 2, 3, 4] rfl rfl rfl rfl rfl rfl rfl hl.1 rfl (Nat.le_of_ble_eq_true rfl) ⟨Nat.zero_le _, Nat.zero_le _⟩ d_M_crumbs_17 (fun H locs hP hD hS => ?_)
    refine lv_if_ne (tgt := 30) hx hb d_M_crumbs_20 (by decide) (fun c4 => ?_) (fun c4 => ?_)
    · have hf := io_f hf c4
      refine lv_iload_n hx hb d_M_crumbs_30 rfl (lv_at hl 2 rfl) ?_
      refine lv_iconst (v := 0) hx hb d_M_crumbs_31 (by decide) ?_
      refine lv_bipush (v := 20) hx hb d_M_crumbs_32 (by decide) ?_
      obtain ⟨q5, hq5, hf⟩ := io_b hf
      refine xcSI (wc := []) (wc' := []) (ws' := (w_M_crumbs cI cJ cC a_h a_h_refused a_h_kind a_h_sweets a_h_gives a_h_tape a_h_letter a_h_letterAt a_h_one a_h_two a_h_kept a_h_trail a_h_crumb a_h_nextCrumb a_h_goal a_h_start a_h_sits a_h_bestSits a_h_without a_h_row y_h_taped y_h_at y_h_statements y_h_hasImage y_h_beforeMany y_h_found y_h_lots y_h_rowMany (m_many z_h_T) (m_odd z_h_T) (m_step z_h_T) (m_bag z_h_T) (m_strokes z_h_T) (m_gave z_h_T) (m_threw z_h_T) (m_isKeeping z_h_T) (m_cursor z_h_T) z_h_refused (m_sweets z_h_T) z_h_crumb z_h_nextCrumb)) (As := [.int x2, .int 0, .int 20]) (rest := []) hx hb hml hown hT (c_M_bound hq5) k_871 k_872 k_8 k_873 hd_M_bound ⟨Nat.le_of_ble_eq_true rfl, Nat.le_of_ble_eq_true rfl⟩ xE0_ok trivial hA hK hP hD hS [] [0, 1, 2, 3, 4] [0, 1, 2, 3, 4] rfl rfl rfl rfl rfl rfl rfl hl.1 rfl (Nat.le_of_ble_eq_true rfl) ⟨Nat.zero_le _, Nat.zero_le _⟩ d_M_crumbs_34 (fun H locs hP hD hS => ?_)
      refine lv_istore (lv' := [(4, .int q5), (0, .ref a_h), (1, .int x1), (2, .int x2), (3, .int x3)]) hx hb d_M_crumbs_37 hl (by decide) rfl (fun ls hl => ?_)
      refine lv_iload hx hb d_M_crumbs_39 (lv_at hl 0 rfl) ?_
      refine lv_if_eq (tgt := 51) hx hb d_M_crumbs_41 (by decide) (fun c6 => ?_) (fun c6 => ?_)
      · have hf := io_t hf c6
        refine lv_aload_n hx hb d_M_crumbs_51 rfl (lv_at hl 1 rfl) ?_
        obtain ⟨q7, hq7, hf⟩ := io_b hf
        refine xcVV (wc := (w_M_begins cI cJ cC a_h a_h_refused a_h_kind a_h_sweets a_h_gives a_h_tape a_h_letter a_h_letterAt a_h_one a_h_two a_h_kept a_h_trail a_h_crumb a_h_nextCrumb a_h_goal a_h_start a_h_sits a_h_bestSits a_h_without a_h_row y_h_taped y_h_at y_h_statements y_h_hasImage y_h_beforeMany y_h_found y_h_lots y_h_rowMany (m_many z_h_T) (m_odd z_h_T) (m_step z_h_T) (m_bag z_h_T) (m_strokes z_h_T) (m_gave z_h_T) (m_threw z_h_T) (m_isKeeping z_h_T) (m_cursor z_h_T) (m_sweets z_h_T) z_h_crumb)) (wc' := (w_M_begins cI cJ cC a_h a_h_refused a_h_kind a_h_sweets a_h_gives a_h_tape a_h_letter a_h_letterAt a_h_one a_h_two a_h_kept a_h_trail a_h_crumb a_h_nextCrumb a_h_goal a_h_start a_h_sits a_h_bestSits a_h_without a_h_row y_h_taped y_h_at y_h_statements y_h_hasImage y_h_beforeMany y_h_found y_h_lots y_h_rowMany (m_many z_h_T) (m_odd z_h_T) (m_step z_h_T) (m_bag z_h_T) (m_strokes z_h_T) (m_gave z_h_T) (m_threw z_h_T) (m_isKeeping z_h_T) (m_cursor z_h_T) (m_sweets z_h_T) q7)) (ws' := (w_M_crumbs cI cJ cC a_h a_h_refused a_h_kind a_h_sweets a_h_gives a_h_tape a_h_letter a_h_letterAt a_h_one a_h_two a_h_kept a_h_trail a_h_crumb a_h_nextCrumb a_h_goal a_h_start a_h_sits a_h_bestSits a_h_without a_h_row y_h_taped y_h_at y_h_statements y_h_hasImage y_h_beforeMany y_h_found y_h_lots y_h_rowMany (m_many z_h_T) (m_odd z_h_T) (m_step z_h_T) (m_bag z_h_T) (m_strokes z_h_T) (m_gave z_h_T) (m_threw z_h_T) (m_isKeeping z_h_T) (m_cursor z_h_T) z_h_refused (m_sweets z_h_T) q7 z_h_nextCrumb)) (As := []) (rest := []) hx hb hml hown hT (c_M_begins (z_h_T := z_h_T) (z_h_crumb := z_h_crumb) a_h a_h_refused a_h_kind a_h_sweets a_h_gives a_h_tape a_h_letter a_h_letterAt a_h_one a_h_two a_h_kept a_h_trail a_h_crumb a_h_nextCrumb a_h_goal a_h_start a_h_sits a_h_bestSits a_h_without a_h_row y_h_taped y_h_at y_h_statements y_h_hasImage y_h_beforeMany y_h_found y_h_lots y_h_rowMany hq7) k_1032 k_1034 ks_45 k_8 k_1035 hd_M_begins ⟨Nat.le_of_ble_eq_true rfl, Nat.le_of_ble_eq_true rfl⟩ xE0_ok trivial hA hK hP hD hS [0, 2, 3] [1, 4] [2, 0, 3, 4, 1] rfl rfl rfl rfl rfl rfl rfl rfl rfl rfl hl.1 rfl (Nat.le_of_ble_eq_true rfl) ⟨Nat.zero_le _, Nat.zero_le _⟩ d_M_crumbs_52 (fun H locs hP hD hS => ?_)
        refine lv_lconst (v := 1) hx hb d_M_crumbs_55 (by decide) ?_
        refine lv_lstore (lv' := [(5, .long 1), (4, .int q5), (0, .ref a_h), (1, .int x1), (2, .int x2), (3, .int x3)]) hx hb d_M_crumbs_56 hl (by decide) rfl (fun ls hl => ?_)
        refine lv_iconst (v := 0) hx hb d_M_crumbs_58 (by decide) ?_
        refine lv_istore (lv' := [(7, .int 0), (5, .long 1), (4, .int q5), (0, .ref a_h), (1, .int x1), (2, .int x2), (3, .int x3)]) hx hb d_M_crumbs_59 hl (by decide) rfl (fun ls hl => ?_)
        refine L61 z_h_refused _ (fun z_h_crumb_10 z_h_nextCrumb_10 x5_10 H locs ls hf hP hD hS hl => ?_) FU q7 z_h_nextCrumb 1 0 _ _ _ hf hP hD hS (lv_sub hl [3, 4, 5, 6, 1, 0] rfl)
        refine lv_iload_n hx hb d_M_crumbs_85 rfl (lv_at hl 2 rfl) ?_
        refine lv_if_ne (tgt := 98) hx hb d_M_crumbs_86 (by decide) (fun c11 => ?_) (fun c11 => ?_)
        · have hf := io_f hf c11
          refine lv_lload hx hb d_M_crumbs_98 (lv_at hl 3 rfl) ?_
          refine lv_aload_n hx hb d_M_crumbs_100 rfl (lv_at hl 0 rfl) ?_
          refine va_get hx hb hT i_M hown hK hP 0 rfl rfl 24 (Nat.le_of_ble_eq_true rfl) (hT _ k_782) (fun _ h => h) rfl d_M_crumbs_101 ?_
          refine lv_iload_n hx hb d_M_crumbs_104 rfl (lv_at hl 1 rfl) ?_
          obtain ⟨c12, hf⟩ := io_n hf
          refine x_lald hx hb hK hP 3 1 rfl rfl (j := x1.toNatClampNeg) rfl c12 d_M_crumbs_105 ?_
          refine lv_lload hx hb d_M_crumbs_106 (lv_at hl 3 rfl) ?_
          obtain ⟨q13, hq13, hf⟩ := io_b hf
          refine xcSL (wc := []) (wc' := []) (ws' := (w_M_crumbs cI cJ cC a_h a_h_refused a_h_kind a_h_sweets a_h_gives a_h_tape a_h_letter a_h_letterAt a_h_one a_h_two a_h_kept a_h_trail a_h_crumb a_h_nextCrumb a_h_goal a_h_start a_h_sits a_h_bestSits a_h_without a_h_row y_h_taped y_h_at y_h_statements y_h_hasImage y_h_beforeMany y_h_found y_h_lots y_h_rowMany (m_many z_h_T) (m_odd z_h_T) (m_step z_h_T) (m_bag z_h_T) (m_strokes z_h_T) (m_gave z_h_T) (m_threw z_h_T) (m_isKeeping z_h_T) (m_cursor z_h_T) z_h_refused (m_sweets z_h_T) z_h_crumb_10 z_h_nextCrumb_10)) (As := [.long (z_h_crumb_10 x1.toNatClampNeg), .long x5_10]) (rest := [.long x5_10]) hx hb hml hown hT (c_M_divisor hq13) k_1041 k_1042 k_8 k_1043 hd_M_divisor ⟨Nat.le_of_ble_eq_true rfl, Nat.le_of_ble_eq_true rfl⟩ xE0_ok trivial hA hK hP hD hS [] [0, 1, 2, 3, 4] [0, 1, 2, 3, 4] rfl rfl rfl rfl rfl rfl rfl hl.1 rfl (Nat.le_of_ble_eq_true rfl) ⟨Nat.zero_le _, Nat.zero_le _⟩ d_M_crumbs_108 (fun H locs hP hD hS => ?_)
          obtain ⟨c14, hf⟩ := io_n hf
          refine x_ldiv hx hb d_M_crumbs_111 c14 ?_
          have hq := Option.some.inj hf
          subst hq
          exact hret _ _ _ _ _ d_M_crumbs_112 rfl hP hD hS
        · have hf := io_t hf c11
          refine lv_aload_n hx hb d_M_crumbs_89 rfl (lv_at hl 0 rfl) ?_
          refine va_get hx hb hT i_M hown hK hP 0 rfl rfl 24 (Nat.le_of_ble_eq_true rfl) (hT _ k_782) (fun _ h => h) rfl d_M_crumbs_90 ?_
          refine lv_iload_n hx hb d_M_crumbs_93 rfl (lv_at hl 1 rfl) ?_
          obtain ⟨c15, hf⟩ := io_n hf
          refine x_lald hx hb hK hP 3 1 rfl rfl (j := x1.toNatClampNeg) rfl c15 d_M_crumbs_94 ?_
          refine lv_goto (tgt := 100) hx hb d_M_crumbs_95 (by decide) ?_
          refine lv_aload_n hx hb d_M_crumbs_100 rfl (lv_at hl 0 rfl) ?_
          refine va_get hx hb hT i_M hown hK hP 0 rfl rfl 24 (Nat.le_of_ble_eq_true rfl) (hT _ k_782) (fun _ h => h) rfl d_M_crumbs_101 ?_
          refine lv_iload_n hx hb d_M_crumbs_104 rfl (lv_at hl 1 rfl) ?_
          refine x_lald hx hb hK hP 3 1 rfl rfl (j := x1.toNatClampNeg) rfl c15 d_M_crumbs_105 ?_
          refine lv_lload hx hb d_M_crumbs_106 (lv_at hl 3 rfl) ?_
          obtain ⟨q16, hq16, hf⟩ := io_b hf
          refine xcSL (wc := []) (wc' := []) (ws' := (w_M_crumbs cI cJ cC a_h a_h_refused a_h_kind a_h_sweets a_h_gives a_h_tape a_h_letter a_h_letterAt a_h_one a_h_two a_h_kept a_h_trail a_h_crumb a_h_nextCrumb a_h_goal a_h_start a_h_sits a_h_bestSits a_h_without a_h_row y_h_taped y_h_at y_h_statements y_h_hasImage y_h_beforeMany y_h_found y_h_lots y_h_rowMany (m_many z_h_T) (m_odd z_h_T) (m_step z_h_T) (m_bag z_h_T) (m_strokes z_h_T) (m_gave z_h_T) (m_threw z_h_T) (m_isKeeping z_h_T) (m_cursor z_h_T) z_h_refused (m_sweets z_h_T) z_h_crumb_10 z_h_nextCrumb_10)) (As := [.long (z_h_crumb_10 x1.toNatClampNeg), .long x5_10]) (rest := [.long (z_h_crumb_10 x1.toNatClampNeg)]) hx hb hml hown hT (c_M_divisor hq16) k_1041 k_1042 k_8 k_1043 hd_M_divisor ⟨Nat.le_of_ble_eq_true rfl, Nat.le_of_ble_eq_true rfl⟩ xE0_ok trivial hA hK hP hD hS [] [0, 1, 2, 3, 4] [0, 1, 2, 3, 4] rfl rfl rfl rfl rfl rfl rfl hl.1 rfl (Nat.le_of_ble_eq_true rfl) ⟨Nat.zero_le _, Nat.zero_le _⟩ d_M_crumbs_108 (fun H locs hP hD hS => ?_)
          obtain ⟨c17, hf⟩ := io_n hf
          refine x_ldiv hx hb d_M_crumbs_111 c17 ?_
          have hq := Option.some.inj hf
          subst hq
          exact hret _ _ _ _ _ d_M_crumbs_112 rfl hP hD hS
      · have hf := io_f hf c6
        refine lv_aload_n hx hb d_M_crumbs_44 rfl (lv_at hl 1 rfl) ?_
        refine lv_iload hx hb d_M_crumbs_45 (lv_at hl 0 rfl) ?_
        obtain ⟨q18, hq18, hf⟩ := io_b hf
        refine xcVL (wc := (w_M_lowest cI cJ cC a_h a_h_refused a_h_kind a_h_sweets a_h_gives a_h_tape a_h_letter a_h_letterAt a_h_one a_h_two a_h_kept a_h_trail a_h_crumb a_h_nextCrumb a_h_goal a_h_start a_h_sits a_h_bestSits a_h_without a_h_row (m_many z_h_T) (m_odd z_h_T) (m_step z_h_T) (m_bag z_h_T) (m_strokes z_h_T) (m_gave z_h_T) (m_threw z_h_T) y_h_taped y_h_at y_h_statements y_h_hasImage (m_isKeeping z_h_T) (m_cursor z_h_T) y_h_beforeMany y_h_found y_h_lots y_h_rowMany z_h_refused)) (wc' := (w_M_lowest cI cJ cC a_h a_h_refused a_h_kind a_h_sweets a_h_gives a_h_tape a_h_letter a_h_letterAt a_h_one a_h_two a_h_kept a_h_trail a_h_crumb a_h_nextCrumb a_h_goal a_h_start a_h_sits a_h_bestSits a_h_without a_h_row (m_many z_h_T) (m_odd z_h_T) (m_step z_h_T) (m_bag z_h_T) (m_strokes z_h_T) (m_gave z_h_T) (m_threw z_h_T) y_h_taped y_h_at y_h_statements y_h_hasImage (m_isKeeping z_h_T) (m_cursor z_h_T) y_h_beforeMany y_h_found y_h_lots y_h_rowMany q18.2)) (ws' := (w_M_crumbs cI cJ cC a_h a_h_refused a_h_kind a_h_sweets a_h_gives a_h_tape a_h_letter a_h_letterAt a_h_one a_h_two a_h_kept a_h_trail a_h_crumb a_h_nextCrumb a_h_goal a_h_start a_h_sits a_h_bestSits a_h_without a_h_row y_h_taped y_h_at y_h_statements y_h_hasImage y_h_beforeMany y_h_found y_h_lots y_h_rowMany (m_many z_h_T) (m_odd z_h_T) (m_step z_h_T) (m_bag z_h_T) (m_strokes z_h_T) (m_gave z_h_T) (m_threw z_h_T) (m_isKeeping z_h_T) (m_cursor z_h_T) q18.2 (m_sweets z_h_T) z_h_crumb z_h_nextCrumb)) (As := [.int q5]) (rest := []) hx hb hml hown hT (c_M_lowest (z_h_refused := z_h_refused) a_h a_h_refused a_h_kind a_h_sweets a_h_gives a_h_tape a_h_letter a_h_letterAt a_h_one a_h_two a_h_kept a_h_trail a_h_crumb a_h_nextCrumb a_h_goal a_h_start a_h_sits a_h_bestSits a_h_without a_h_row (m_many z_h_T) (m_odd z_h_T) (m_step z_h_T) (m_bag z_h_T) (m_strokes z_h_T) (m_gave z_h_T) (m_threw z_h_T) y_h_taped y_h_at y_h_statements y_h_hasImage (m_isKeeping z_h_T) (m_cursor z_h_T) y_h_beforeMany y_h_found y_h_lots y_h_rowMany hq18) k_1027 k_1029 ks_44 k_8 k_1030 hd_M_lowest ⟨Nat.le_of_ble_eq_true rfl, Nat.le_of_ble_eq_true rfl⟩ xE0_ok trivial hA hK hP hD hS [0, 1] [2, 3, 4] [3, 4, 0, 1, 2] rfl rfl rfl rfl rfl rfl rfl rfl rfl rfl hl.1 rfl (Nat.le_of_ble_eq_true rfl) ⟨Nat.zero_le _, Nat.zero_le _⟩ d_M_crumbs_47 (fun H locs hP hD hS => ?_)
        have hq := Option.some.inj hf
        subst hq
        exact hret _ _ _ _ _ d_M_crumbs_50 rfl hP hD hS
    · have hf := io_t hf c4
      refine lv_aload_n hx hb d_M_crumbs_23 rfl (lv_at hl 0 rfl) ?_
      refine lv_bipush (v := (-2)) hx hb d_M_crumbs_24 (by decide) ?_
      obtain ⟨q19, hq19, hf⟩ := io_b hf
      refine xcVL (wc := (w_M_lowest cI cJ cC a_h a_h_refused a_h_kind a_h_sweets a_h_gives a_h_tape a_h_letter a_h_letterAt a_h_one a_h_two a_h_kept a_h_trail a_h_crumb a_h_nextCrumb a_h_goal a_h_start a_h_sits a_h_bestSits a_h_without a_h_row (m_many z_h_T) (m_odd z_h_T) (m_step z_h_T) (m_bag z_h_T) (m_strokes z_h_T) (m_gave z_h_T) (m_threw z_h_T) y_h_taped y_h_at y_h_statements y_h_hasImage (m_isKeeping z_h_T) (m_cursor z_h_T) y_h_beforeMany y_h_found y_h_lots y_h_rowMany z_h_refused)) (wc' := (w_M_lowest cI cJ cC a_h a_h_refused a_h_kind a_h_sweets a_h_gives a_h_tape a_h_letter a_h_letterAt a_h_one a_h_two a_h_kept a_h_trail a_h_crumb a_h_nextCrumb a_h_goal a_h_start a_h_sits a_h_bestSits a_h_without a_h_row (m_many z_h_T) (m_odd z_h_T) (m_step z_h_T) (m_bag z_h_T) (m_strokes z_h_T) (m_gave z_h_T) (m_threw z_h_T) y_h_taped y_h_at y_h_statements y_h_hasImage (m_isKeeping z_h_T) (m_cursor z_h_T) y_h_beforeMany y_h_found y_h_lots y_h_rowMany q19.2)) (ws' := (w_M_crumbs cI cJ cC a_h a_h_refused a_h_kind a_h_sweets a_h_gives a_h_tape a_h_letter a_h_letterAt a_h_one a_h_two a_h_kept a_h_trail a_h_crumb a_h_nextCrumb a_h_goal a_h_start a_h_sits a_h_bestSits a_h_without a_h_row y_h_taped y_h_at y_h_statements y_h_hasImage y_h_beforeMany y_h_found y_h_lots y_h_rowMany (m_many z_h_T) (m_odd z_h_T) (m_step z_h_T) (m_bag z_h_T) (m_strokes z_h_T) (m_gave z_h_T) (m_threw z_h_T) (m_isKeeping z_h_T) (m_cursor z_h_T) q19.2 (m_sweets z_h_T) z_h_crumb z_h_nextCrumb)) (As := [.int (-2)]) (rest := []) hx hb hml hown hT (c_M_lowest (z_h_refused := z_h_refused) a_h a_h_refused a_h_kind a_h_sweets a_h_gives a_h_tape a_h_letter a_h_letterAt a_h_one a_h_two a_h_kept a_h_trail a_h_crumb a_h_nextCrumb a_h_goal a_h_start a_h_sits a_h_bestSits a_h_without a_h_row (m_many z_h_T) (m_odd z_h_T) (m_step z_h_T) (m_bag z_h_T) (m_strokes z_h_T) (m_gave z_h_T) (m_threw z_h_T) y_h_taped y_h_at y_h_statements y_h_hasImage (m_isKeeping z_h_T) (m_cursor z_h_T) y_h_beforeMany y_h_found y_h_lots y_h_rowMany hq19) k_1027 k_1029 ks_44 k_8 k_1030 hd_M_lowest ⟨Nat.le_of_ble_eq_true rfl, Nat.le_of_ble_eq_true rfl⟩ xE0_ok trivial hA hK hP hD hS [0, 1] [2, 3, 4] [3, 4, 0, 1, 2] rfl rfl rfl rfl rfl rfl rfl rfl rfl rfl hl.1 rfl (Nat.le_of_ble_eq_true rfl) ⟨Nat.zero_le _, Nat.zero_le _⟩ d_M_crumbs_26 (fun H locs hP hD hS => ?_)
      have hq := Option.some.inj hf
      subst hq
      exact hret _ _ _ _ _ d_M_crumbs_29 rfl hP hD hS
  · have hf := io_t hf c2
    refine lv_aload_n hx hb d_M_crumbs_8 rfl (lv_at hl 0 rfl) ?_
    refine lv_iconst (v := (-1)) hx hb d_M_crumbs_9 (by decide) ?_
    obtain ⟨q20, hq20, hf⟩ := io_b hf
    refine xcVL (wc := (w_M_lowest cI cJ cC a_h a_h_refused a_h_kind a_h_sweets a_h_gives a_h_tape a_h_letter a_h_letterAt a_h_one a_h_two a_h_kept a_h_trail a_h_crumb a_h_nextCrumb a_h_goal a_h_start a_h_sits a_h_bestSits a_h_without a_h_row (m_many z_h_T) (m_odd z_h_T) (m_step z_h_T) (m_bag z_h_T) (m_strokes z_h_T) (m_gave z_h_T) (m_threw z_h_T) y_h_taped y_h_at y_h_statements y_h_hasImage (m_isKeeping z_h_T) (m_cursor z_h_T) y_h_beforeMany y_h_found y_h_lots y_h_rowMany z_h_refused)) (wc' := (w_M_lowest cI cJ cC a_h a_h_refused a_h_kind a_h_sweets a_h_gives a_h_tape a_h_letter a_h_letterAt a_h_one a_h_two a_h_kept a_h_trail a_h_crumb a_h_nextCrumb a_h_goal a_h_start a_h_sits a_h_bestSits a_h_without a_h_row (m_many z_h_T) (m_odd z_h_T) (m_step z_h_T) (m_bag z_h_T) (m_strokes z_h_T) (m_gave z_h_T) (m_threw z_h_T) y_h_taped y_h_at y_h_statements y_h_hasImage (m_isKeeping z_h_T) (m_cursor z_h_T) y_h_beforeMany y_h_found y_h_lots y_h_rowMany q20.2)) (ws' := (w_M_crumbs cI cJ cC a_h a_h_refused a_h_kind a_h_sweets a_h_gives a_h_tape a_h_letter a_h_letterAt a_h_one a_h_two a_h_kept a_h_trail a_h_crumb a_h_nextCrumb a_h_goal a_h_start a_h_sits a_h_bestSits a_h_without a_h_row y_h_taped y_h_at y_h_statements y_h_hasImage y_h_beforeMany y_h_found y_h_lots y_h_rowMany (m_many z_h_T) (m_odd z_h_T) (m_step z_h_T) (m_bag z_h_T) (m_strokes z_h_T) (m_gave z_h_T) (m_threw z_h_T) (m_isKeeping z_h_T) (m_cursor z_h_T) q20.2 (m_sweets z_h_T) z_h_crumb z_h_nextCrumb)) (As := [.int (-1)]) (rest := []) hx hb hml hown hT (c_M_lowest (z_h_refused := z_h_refused) a_h a_h_refused a_h_kind a_h_sweets a_h_gives a_h_tape a_h_letter a_h_letterAt a_h_one a_h_two a_h_kept a_h_trail a_h_crumb a_h_nextCrumb a_h_goal a_h_start a_h_sits a_h_bestSits a_h_without a_h_row (m_many z_h_T) (m_odd z_h_T) (m_step z_h_T) (m_bag z_h_T) (m_strokes z_h_T) (m_gave z_h_T) (m_threw z_h_T) y_h_taped y_h_at y_h_statements y_h_hasImage (m_isKeeping z_h_T) (m_cursor z_h_T) y_h_beforeMany y_h_found y_h_lots y_h_rowMany hq20) k_1027 k_1029 ks_44 k_8 k_1030 hd_M_lowest ⟨Nat.le_of_ble_eq_true rfl, Nat.le_of_ble_eq_true rfl⟩ xE0_ok trivial hA hK hP hD hS [0, 1] [2, 3, 4] [3, 4, 0, 1, 2] rfl rfl rfl rfl rfl rfl rfl rfl rfl rfl hl.1 rfl (Nat.le_of_ble_eq_true rfl) ⟨Nat.zero_le _, Nat.zero_le _⟩ d_M_crumbs_10 (fun H locs hP hD hS => ?_)
    have hq := Option.some.inj hf
    subst hq
    exact hret _ _ _ _ _ d_M_crumbs_13 rfl hP hD hS
abbrev w_M_sum (cI cJ cC : ClassId) (a_h a_h_refused a_h_kind a_h_sweets a_h_gives a_h_tape a_h_letter a_h_letterAt a_h_one a_h_two a_h_kept a_h_trail a_h_crumb a_h_nextCrumb a_h_goal a_h_start a_h_sits a_h_bestSits a_h_without a_h_row : Nat) (y_h_taped : Int32) (y_h_at : Int32) (y_h_statements : Int32) (y_h_hasImage : Int32) (y_h_beforeMany : Int32) (y_h_found : Int32) (y_h_lots : Int32) (y_h_rowMany : Int32) (p_h_many : Int32) (p_h_odd : Int32) (p_h_step : Int32) (p_h_bag : Int32) (p_h_strokes : Int32) (p_h_gave : Int32) (p_h_threw : Int32) (p_h_isKeeping : Int32) (p_h_cursor : Int32) (p_h_sweets : (Nat → Int32)) : va_W := [(a_h, .inr (7, [.ref a_h_refused, .ref a_h_kind, .ref a_h_sweets, .ref a_h_gives, .int p_h_many, .int p_h_odd, .int p_h_step, .int p_h_bag, .int p_h_strokes, .int p_h_gave, .int p_h_threw, .ref a_h_tape, .ref a_h_letter, .ref a_h_letterAt, .ref a_h_one, .ref a_h_two, .int y_h_taped, .int y_h_at, .int y_h_statements, .ref a_h_kept, .int y_h_hasImage, .int p_h_isKeeping, .int p_h_cursor, .ref a_h_trail, .ref a_h_crumb, .ref a_h_nextCrumb, .ref a_h_goal, .ref a_h_start, .int y_h_beforeMany, .int y_h_found, .ref a_h_sits, .ref a_h_bestSits, .ref a_h_without, .int y_h_lots, .ref a_h_row, .int y_h_rowMany])), (a_h_sweets, .inl (cI, (8, .inl p_h_sweets)))]
theorem d_M_sum_0 : decode b_M_sum 0 = .ok (.iconst 0, 1) := by decide +kernel
theorem d_M_sum_1 : decode b_M_sum 1 = .ok (.istore_n 1, 1) := by decide +kernel
theorem d_M_sum_2 : decode b_M_sum 2 = .ok (.iconst 0, 1) := by decide +kernel
theorem d_M_sum_3 : decode b_M_sum 3 = .ok (.istore_n 2, 1) := by decide +kernel
theorem d_M_sum_4 : decode b_M_sum 4 = .ok (.iload_n 2, 1) := by decide +kernel
theorem d_M_sum_5 : decode b_M_sum 5 = .ok (.aload_n 0, 1) := by decide +kernel
theorem d_M_sum_6 : decode b_M_sum 6 = .ok (.getfield 78, 3) := by decide +kernel
theorem d_M_sum_9 : decode b_M_sum 9 = .ok (.if_icmp .ge 18, 3) := by decide +kernel
theorem d_M_sum_12 : decode b_M_sum 12 = .ok (.iload_n 1, 1) := by decide +kernel
theorem d_M_sum_13 : decode b_M_sum 13 = .ok (.aload_n 0, 1) := by decide +kernel
theorem d_M_sum_14 : decode b_M_sum 14 = .ok (.getfield 16, 3) := by decide +kernel
theorem d_M_sum_17 : decode b_M_sum 17 = .ok (.iload_n 2, 1) := by decide +kernel
theorem d_M_sum_18 : decode b_M_sum 18 = .ok (.iaload, 1) := by decide +kernel
theorem d_M_sum_19 : decode b_M_sum 19 = .ok (.iadd, 1) := by decide +kernel
theorem d_M_sum_20 : decode b_M_sum 20 = .ok (.istore_n 1, 1) := by decide +kernel
theorem d_M_sum_21 : decode b_M_sum 21 = .ok (.iinc 2 1, 3) := by decide +kernel
theorem d_M_sum_24 : decode b_M_sum 24 = .ok (.goto (-20), 3) := by decide +kernel
theorem d_M_sum_27 : decode b_M_sum 27 = .ok (.iload_n 1, 1) := by decide +kernel
theorem d_M_sum_28 : decode b_M_sum 28 = .ok (.ireturn, 1) := by decide +kernel
set_option maxHeartbeats 4000000 in
set_option maxRecDepth 100000 in
theorem c_M_sum {l : Launch} {D : va_G} {cI cJ cC : ClassId} (a_h a_h_refused a_h_kind a_h_sweets a_h_gives a_h_tape a_h_letter a_h_letterAt a_h_one a_h_two a_h_kept a_h_trail a_h_crumb a_h_nextCrumb a_h_goal a_h_start a_h_sits a_h_bestSits a_h_without a_h_row : Nat) (y_h_taped : Int32) (y_h_at : Int32) (y_h_statements : Int32) (y_h_hasImage : Int32) (y_h_beforeMany : Int32) (y_h_found : Int32) (y_h_lots : Int32) (y_h_rowMany : Int32) {z_h_T : MT} {q : Int32} (hf : f_M_sum z_h_T = some q) : xI l y_M_sum b_M_sum 3 .int 0 0 D (tyK cI cJ cC) xE0 [.ref a_h] (w_M_sum cI cJ cC a_h a_h_refused a_h_kind a_h_sweets a_h_gives a_h_tape a_h_letter a_h_letterAt a_h_one a_h_two a_h_kept a_h_trail a_h_crumb a_h_nextCrumb a_h_goal a_h_start a_h_sits a_h_bestSits a_h_without a_h_row y_h_taped y_h_at y_h_statements y_h_hasImage y_h_beforeMany y_h_found y_h_lots y_h_rowMany (m_many z_h_T) (m_odd z_h_T) (m_step z_h_T) (m_bag z_h_T) (m_strokes z_h_T) (m_gave z_h_T) (m_threw z_h_T) (m_isKeeping z_h_T) (m_cursor z_h_T) (m_sweets z_h_T)) q (w_M_sum cI cJ cC a_h a_h_refused a_h_kind a_h_sweets a_h_gives a_h_tape a_h_letter a_h_letterAt a_h_one a_h_two a_h_kept a_h_trail a_h_crumb a_h_nextCrumb a_h_goal a_h_start a_h_sits a_h_bestSits a_h_without a_h_row y_h_taped y_h_at y_h_statements y_h_hasImage y_h_beforeMany y_h_found y_h_lots y_h_rowMany (m_many z_h_T) (m_odd z_h_T) (m_step z_h_T) (m_bag z_h_T) (m_strokes z_h_T) (m_gave z_h_T) (m_threw z_h_T) (m_isKeeping z_h_T) (m_cursor z_h_T) (m_sweets z_h_T)) := by
  refine xI_of (by decide) (Nat.le_of_ble_eq_true rfl) ?_
  intro p e s m args below meth c A Q hx hb hml hown hT hA hP hD hK hS hE hret ls hl
  have hown : s.vm.findClass R_M = some m.cls := hown
  have hl : lv_has ls 3 [(0, .ref a_h)] := hl
  unfold f_M_sum at hf
  have L4 : ∀ (n : Nat) (x1 : Int32) (x2 : Int32) (H : Heap) (locs : List Loc) (ls : Array Slot), f_M_sum_L4 z_h_T n x1 x2 = some q → va_P D classes (w_M_sum cI cJ cC a_h a_h_refused a_h_kind a_h_sweets a_h_gives a_h_tape a_h_letter a_h_letterAt a_h_one a_h_two a_h_kept a_h_trail a_h_crumb a_h_nextCrumb a_h_goal a_h_start a_h_sits a_h_bestSits a_h_without a_h_row y_h_taped y_h_at y_h_statements y_h_hasImage y_h_beforeMany y_h_found y_h_lots y_h_rowMany (m_many z_h_T) (m_odd z_h_T) (m_step z_h_T) (m_bag z_h_T) (m_strokes z_h_T) (m_gave z_h_T) (m_threw z_h_T) (m_isKeeping z_h_T) (m_cursor z_h_T) (m_sweets z_h_T)) H → va_D A (w_M_sum cI cJ cC a_h a_h_refused a_h_kind a_h_sweets a_h_gives a_h_tape a_h_letter a_h_letterAt a_h_one a_h_two a_h_kept a_h_trail a_h_crumb a_h_nextCrumb a_h_goal a_h_start a_h_sits a_h_bestSits a_h_without a_h_row y_h_taped y_h_at y_h_statements y_h_hasImage y_h_beforeMany y_h_found y_h_lots y_h_rowMany (m_many z_h_T) (m_odd z_h_T) (m_step z_h_T) (m_bag z_h_T) (m_strokes z_h_T) (m_gave z_h_T) (m_threw z_h_T) (m_isKeeping z_h_T) (m_cursor z_h_T) (m_sweets z_h_T)) → va_S A s.heap H locs → lv_has ls 3 [(0, .ref a_h), (1, .int x1), (2, .int x2)] → W p l e (xRm 0 0) s m args below meth c H locs 0 0 Q (F0 m 4 ls []) := by
    intro n
    induction n with
    | zero => intro x1 x2 H locs ls hf hP hD hS hl; exact nomatch (show (none : Option (Int32)) = some q from hf)
    | succ n ih =>
      intro x1 x2 H locs ls hf hP hD hS hl
      refine lv_iload_n hx hb d_M_sum_4 rfl (lv_at hl 2 rfl) ?_
      refine lv_aload_n hx hb d_M_sum_5 rfl (lv_at hl 0 rfl) ?_
      refine va_get hx hb hT i_M hown hK hP 0 rfl rfl 4 (Nat.le_of_ble_eq_true rfl) (hT _ k_762) (fun _ h => h) rfl d_M_sum_6 ?_
      refine lv_icmp_ge (tgt := 27) hx hb d_M_sum_9 (by decide) (fun c1 => ?_) (fun c1 => ?_)
      · have hf := io_t hf c1
        refine lv_iload_n hx hb d_M_sum_27 rfl (lv_at hl 1 rfl) ?_
        have hq := Option.some.inj hf
        subst hq
        exact hret _ _ _ _ _ d_M_sum_28 rfl rfl hP hD hS
      · have hf := io_f hf c1
        refine lv_iload_n hx hb d_M_sum_12 rfl (lv_at hl 1 rfl) ?_
        refine lv_aload_n hx hb d_M_sum_13 rfl (lv_at hl 0 rfl) ?_
        refine va_get hx hb hT i_M hown hK hP 0 rfl rfl 2 (Nat.le_of_ble_eq_true rfl) (hT _ k_760) (fun _ h => h) rfl d_M_sum_14 ?_
        refine lv_iload_n hx hb d_M_sum_17 rfl (lv_at hl 2 rfl) ?_
        obtain ⟨c2, hf⟩ := io_n hf
        refine x_iald hx hb hK hP 1 0 rfl rfl (j := x2.toNatClampNeg) rfl c2 d_M_sum_18 ?_
        refine lv_iadd hx hb d_M_sum_19 ?_
        refine lv_istore_n (lv' := [(1, .int (x1 + ((m_sweets z_h_T) x2.toNatClampNeg))), (0, .ref a_h), (2, .int x2)]) hx hb d_M_sum_20 rfl hl (by decide) rfl (fun ls hl => ?_)
        refine lv_iinc (v := (x2 + 1)) (lv' := [(2, .int (x2 + 1)), (1, .int (x1 + ((m_sweets z_h_T) x2.toNatClampNeg))), (0, .ref a_h)]) hx hb d_M_sum_21 hl (k := 2) rfl (by rfl) (by decide) rfl (fun ls hl => ?_)
        refine lv_goto (tgt := 4) hx hb d_M_sum_24 (by decide) ?_
        exact ih (x1 + ((m_sweets z_h_T) x2.toNatClampNeg)) (x2 + 1) _ _ _ hf hP hD hS (lv_sub hl [2, 1, 0] rfl)
  refine lv_iconst (v := 0) hx hb d_M_sum_0 (by decide) ?_
  refine lv_istore_n (lv' := [(1, .int 0), (0, .ref a_h)]) hx hb d_M_sum_1 rfl hl (by decide) rfl (fun ls hl => ?_)
  refine lv_iconst (v := 0) hx hb d_M_sum_2 (by decide) ?_
  refine lv_istore_n (lv' := [(2, .int 0), (1, .int 0), (0, .ref a_h)]) hx hb d_M_sum_3 rfl hl (by decide) rfl (fun ls hl => ?_)
  exact L4 FU 0 0 _ _ _ hf hP hD hS (lv_sub hl [2, 1, 0] rfl)
abbrev w_M_mean (cI cJ cC : ClassId) (a_h a_h_refused a_h_kind a_h_sweets a_h_gives a_h_tape a_h_letter a_h_letterAt a_h_one a_h_two a_h_kept a_h_trail a_h_crumb a_h_nextCrumb a_h_goal a_h_start a_h_sits a_h_bestSits a_h_without a_h_row : Nat) (y_h_taped : Int32) (y_h_at : Int32) (y_h_statements : Int32) (y_h_hasImage : Int32) (y_h_beforeMany : Int32) (y_h_found : Int32) (y_h_lots : Int32) (y_h_rowMany : Int32) (p_h_many : Int32) (p_h_odd : Int32) (p_h_step : Int32) (p_h_bag : Int32) (p_h_strokes : Int32) (p_h_gave : Int32) (p_h_threw : Int32) (p_h_isKeeping : Int32) (p_h_cursor : Int32) (p_h_refused : (Nat → Int32)) (p_h_sweets : (Nat → Int32)) : va_W := [(a_h, .inr (7, [.ref a_h_refused, .ref a_h_kind, .ref a_h_sweets, .ref a_h_gives, .int p_h_many, .int p_h_odd, .int p_h_step, .int p_h_bag, .int p_h_strokes, .int p_h_gave, .int p_h_threw, .ref a_h_tape, .ref a_h_letter, .ref a_h_letterAt, .ref a_h_one, .ref a_h_two, .int y_h_taped, .int y_h_at, .int y_h_statements, .ref a_h_kept, .int y_h_hasImage, .int p_h_isKeeping, .int p_h_cursor, .ref a_h_trail, .ref a_h_crumb, .ref a_h_nextCrumb, .ref a_h_goal, .ref a_h_start, .int y_h_beforeMany, .int y_h_found, .ref a_h_sits, .ref a_h_bestSits, .ref a_h_without, .int y_h_lots, .ref a_h_row, .int y_h_rowMany])), (a_h_refused, .inl (cI, (7, .inl p_h_refused))), (a_h_sweets, .inl (cI, (8, .inl p_h_sweets)))]
theorem d_M_mean_0 : decode b_M_mean 0 = .ok (.iload_n 1, 1) := by decide +kernel
theorem d_M_mean_1 : decode b_M_mean 1 = .ok (.iconst 0, 1) := by decide +kernel
theorem d_M_mean_2 : decode b_M_mean 2 = .ok (.iconst 1, 1) := by decide +kernel
theorem d_M_mean_3 : decode b_M_mean 3 = .ok (.invokestatic 99, 3) := by decide +kernel
theorem d_M_mean_6 : decode b_M_mean 6 = .ok (.ifCond .ne 10, 3) := by decide +kernel
theorem d_M_mean_9 : decode b_M_mean 9 = .ok (.aload_n 0, 1) := by decide +kernel
theorem d_M_mean_10 : decode b_M_mean 10 = .ok (.bipush (-2), 2) := by decide +kernel
theorem d_M_mean_12 : decode b_M_mean 12 = .ok (.invokevirtual 88, 3) := by decide +kernel
theorem d_M_mean_15 : decode b_M_mean 15 = .ok (.ireturn, 1) := by decide +kernel
theorem d_M_mean_16 : decode b_M_mean 16 = .ok (.aload_n 0, 1) := by decide +kernel
theorem d_M_mean_17 : decode b_M_mean 17 = .ok (.getfield 78, 3) := by decide +kernel
theorem d_M_mean_20 : decode b_M_mean 20 = .ok (.ifCond .ne 10, 3) := by decide +kernel
theorem d_M_mean_23 : decode b_M_mean 23 = .ok (.aload_n 0, 1) := by decide +kernel
theorem d_M_mean_24 : decode b_M_mean 24 = .ok (.bipush (-3), 2) := by decide +kernel
theorem d_M_mean_26 : decode b_M_mean 26 = .ok (.invokevirtual 88, 3) := by decide +kernel
theorem d_M_mean_29 : decode b_M_mean 29 = .ok (.ireturn, 1) := by decide +kernel
theorem d_M_mean_30 : decode b_M_mean 30 = .ok (.iload_n 1, 1) := by decide +kernel
theorem d_M_mean_31 : decode b_M_mean 31 = .ok (.ifCond .ne 10, 3) := by decide +kernel
theorem d_M_mean_34 : decode b_M_mean 34 = .ok (.aload_n 0, 1) := by decide +kernel
theorem d_M_mean_35 : decode b_M_mean 35 = .ok (.invokevirtual 210, 3) := by decide +kernel
theorem d_M_mean_38 : decode b_M_mean 38 = .ok (.goto 7, 3) := by decide +kernel
theorem d_M_mean_41 : decode b_M_mean 41 = .ok (.aload_n 0, 1) := by decide +kernel
theorem d_M_mean_42 : decode b_M_mean 42 = .ok (.getfield 78, 3) := by decide +kernel
theorem d_M_mean_45 : decode b_M_mean 45 = .ok (.aload_n 0, 1) := by decide +kernel
theorem d_M_mean_46 : decode b_M_mean 46 = .ok (.invokevirtual 210, 3) := by decide +kernel
theorem d_M_mean_49 : decode b_M_mean 49 = .ok (.i2l, 1) := by decide +kernel
theorem d_M_mean_50 : decode b_M_mean 50 = .ok (.aload_n 0, 1) := by decide +kernel
theorem d_M_mean_51 : decode b_M_mean 51 = .ok (.getfield 78, 3) := by decide +kernel
theorem d_M_mean_54 : decode b_M_mean 54 = .ok (.i2l, 1) := by decide +kernel
theorem d_M_mean_55 : decode b_M_mean 55 = .ok (.invokestatic 206, 3) := by decide +kernel
theorem d_M_mean_58 : decode b_M_mean 58 = .ok (.l2i, 1) := by decide +kernel
theorem d_M_mean_59 : decode b_M_mean 59 = .ok (.idiv, 1) := by decide +kernel
theorem d_M_mean_60 : decode b_M_mean 60 = .ok (.ireturn, 1) := by decide +kernel
set_option maxHeartbeats 4000000 in
set_option maxRecDepth 100000 in
theorem c_M_mean {l : Launch} {D : va_G} {cI cJ cC : ClassId} (a_h a_h_refused a_h_kind a_h_sweets a_h_gives a_h_tape a_h_letter a_h_letterAt a_h_one a_h_two a_h_kept a_h_trail a_h_crumb a_h_nextCrumb a_h_goal a_h_start a_h_sits a_h_bestSits a_h_without a_h_row : Nat) (y_h_taped : Int32) (y_h_at : Int32) (y_h_statements : Int32) (y_h_hasImage : Int32) (y_h_beforeMany : Int32) (y_h_found : Int32) (y_h_lots : Int32) (y_h_rowMany : Int32) {z_h_T : MT} {z_h_refused : (Nat → Int32)} {x1 : Int32} {q : Int32 × (Nat → Int32)} (hf : f_M_mean z_h_T z_h_refused x1 = some q) : xI l y_M_mean b_M_mean 2 .int 1 29 D (tyK cI cJ cC) xE0 [.ref a_h, .int x1] (w_M_mean cI cJ cC a_h a_h_refused a_h_kind a_h_sweets a_h_gives a_h_tape a_h_letter a_h_letterAt a_h_one a_h_two a_h_kept a_h_trail a_h_crumb a_h_nextCrumb a_h_goal a_h_start a_h_sits a_h_bestSits a_h_without a_h_row y_h_taped y_h_at y_h_statements y_h_hasImage y_h_beforeMany y_h_found y_h_lots y_h_rowMany (m_many z_h_T) (m_odd z_h_T) (m_step z_h_T) (m_bag z_h_T) (m_strokes z_h_T) (m_gave z_h_T) (m_threw z_h_T) (m_isKeeping z_h_T) (m_cursor z_h_T) z_h_refused (m_sweets z_h_T)) q.1 (w_M_mean cI cJ cC a_h a_h_refused a_h_kind a_h_sweets a_h_gives a_h_tape a_h_letter a_h_letterAt a_h_one a_h_two a_h_kept a_h_trail a_h_crumb a_h_nextCrumb a_h_goal a_h_start a_h_sits a_h_bestSits a_h_without a_h_row y_h_taped y_h_at y_h_statements y_h_hasImage y_h_beforeMany y_h_found y_h_lots y_h_rowMany (m_many z_h_T) (m_odd z_h_T) (m_step z_h_T) (m_bag z_h_T) (m_strokes z_h_T) (m_gave z_h_T) (m_threw z_h_T) (m_isKeeping z_h_T) (m_cursor z_h_T) q.2 (m_sweets z_h_T)) := by
  refine xI_of (by decide) (Nat.le_of_ble_eq_true rfl) ?_
  intro p e s m args below meth c A Q hx hb hml hown hT hA hP hD hK hS hE hret ls hl
  have hown : s.vm.findClass R_M = some m.cls := hown
  have hl : lv_has ls 2 [(0, .ref a_h), (1, .int x1)] := hl
  unfold f_M_mean at hf
  refine lv_iload_n hx hb d_M_mean_0 rfl (lv_at hl 1 rfl) ?_
  refine lv_iconst (v := 0) hx hb d_M_mean_1 (by decide) ?_
  refine lv_iconst (v := 1) hx hb d_M_mean_2 (by decide) ?_
  obtain ⟨q1, hq1, hf⟩ := io_b hf
  refine xcSI (wc := []) (wc' := []) (ws' := (w_M_mean cI cJ cC a_h a_h_refused a_h_kind a_h_sweets a_h_gives a_h_tape a_h_letter a_h_letterAt a_h_one a_h_two a_h_kept a_h_trail a_h_crumb a_h_nextCrumb a_h_goal a_h_start a_h_sits a_h_bestSits a_h_without a_h_row y_h_taped y_h_at y_h_statements y_h_hasImage y_h_beforeMany y_h_found y_h_lots y_h_rowMany (m_many z_h_T) (m_odd z_h_T) (m_step z_h_T) (m_bag z_h_T) (m_strokes z_h_T) (m_gave z_h_T) (m_threw z_h_T) (m_isKeeping z_h_T) (m_cursor z_h_T) z_h_refused (m_sweets z_h_T))) (As := [.int x1, .int 0, .int 1]) (rest := []) hx hb hml hown hT (c_M_isIn hq1) k_897 k_898 k_8 k_899 hd_M_isIn ⟨Nat.le_of_ble_eq_true rfl, Nat.le_of_ble_eq_true rfl⟩ xE0_ok trivial hA hK hP hD hS [] [0, 1, 2] [0, 1, 2] rfl rfl rfl rfl rfl rfl rfl hl.1 rfl (Nat.le_of_ble_eq_true rfl) ⟨Nat.zero_le _, Nat.zero_le _⟩ d_M_mean_3 (fun H locs hP hD hS => ?_)
  refine lv_if_ne (tgt := 16) hx hb d_M_mean_6 (by decide) (fun c2 => ?_) (fun c2 => ?_)
  · have hf := io_f hf c2
    refine lv_aload_n hx hb d_M_mean_16 rfl (lv_at hl 0 rfl) ?_
    refine va_get hx hb hT i_M hown hK hP 0 rfl rfl 4 (Nat.le_of_ble_eq_true rfl) (hT _ k_762) (fun _ h => h) rfl d_M_mean_17 ?_
    refine lv_if_ne (tgt := 30) hx hb d_M_mean_20 (by decide) (fun c3 => ?_) (fun c3 => ?_)
    · have hf := io_f hf c3
      refine lv_iload_n hx hb d_M_mean_30 rfl (lv_at hl 1 rfl) ?_
      refine lv_if_ne (tgt := 41) hx hb d_M_mean_31 (by decide) (fun c4 => ?_) (fun c4 => ?_)
      · have hf := io_f hf c4
        refine lv_aload_n hx hb d_M_mean_41 rfl (lv_at hl 0 rfl) ?_
        refine va_get hx hb hT i_M hown hK hP 0 rfl rfl 4 (Nat.le_of_ble_eq_true rfl) (hT _ k_762) (fun _ h => h) rfl d_M_mean_42 ?_
        refine lv_aload_n hx hb d_M_mean_45 rfl (lv_at hl 0 rfl) ?_
        obtain ⟨q5, hq5, hf⟩ := io_b hf
        refine xcVI (wc := (w_M_sum cI cJ cC a_h a_h_refused a_h_kind a_h_sweets a_h_gives a_h_tape a_h_letter a_h_letterAt a_h_one a_h_two a_h_kept a_h_trail a_h_crumb a_h_nextCrumb a_h_goal a_h_start a_h_sits a_h_bestSits a_h_without a_h_row y_h_taped y_h_at y_h_statements y_h_hasImage y_h_beforeMany y_h_found y_h_lots y_h_rowMany (m_many z_h_T) (m_odd z_h_T) (m_step z_h_T) (m_bag z_h_T) (m_strokes z_h_T) (m_gave z_h_T) (m_threw z_h_T) (m_isKeeping z_h_T) (m_cursor z_h_T) (m_sweets z_h_T))) (wc' := (w_M_sum cI cJ cC a_h a_h_refused a_h_kind a_h_sweets a_h_gives a_h_tape a_h_letter a_h_letterAt a_h_one a_h_two a_h_kept a_h_trail a_h_crumb a_h_nextCrumb a_h_goal a_h_start a_h_sits a_h_bestSits a_h_without a_h_row y_h_taped y_h_at y_h_statements y_h_hasImage y_h_beforeMany y_h_found y_h_lots y_h_rowMany (m_many z_h_T) (m_odd z_h_T) (m_step z_h_T) (m_bag z_h_T) (m_strokes z_h_T) (m_gave z_h_T) (m_threw z_h_T) (m_isKeeping z_h_T) (m_cursor z_h_T) (m_sweets z_h_T))) (ws' := (w_M_mean cI cJ cC a_h a_h_refused a_h_kind a_h_sweets a_h_gives a_h_tape a_h_letter a_h_letterAt a_h_one a_h_two a_h_kept a_h_trail a_h_crumb a_h_nextCrumb a_h_goal a_h_start a_h_sits a_h_bestSits a_h_without a_h_row y_h_taped y_h_at y_h_statements y_h_hasImage y_h_beforeMany y_h_found y_h_lots y_h_rowMany (m_many z_h_T) (m_odd z_h_T) (m_step z_h_T) (m_bag z_h_T) (m_strokes z_h_T) (m_gave z_h_T) (m_threw z_h_T) (m_isKeeping z_h_T) (m_cursor z_h_T) z_h_refused (m_sweets z_h_T))) (As := []) (rest := [.int (m_many z_h_T)]) hx hb hml hown hT (c_M_sum (z_h_T := z_h_T) a_h a_h_refused a_h_kind a_h_sweets a_h_gives a_h_tape a_h_letter a_h_letterAt a_h_one a_h_two a_h_kept a_h_trail a_h_crumb a_h_nextCrumb a_h_goal a_h_start a_h_sits a_h_bestSits a_h_without a_h_row y_h_taped y_h_at y_h_statements y_h_hasImage y_h_beforeMany y_h_found y_h_lots y_h_rowMany hq5) k_1048 k_1050 ks_47 k_8 k_1051 hd_M_sum ⟨Nat.le_of_ble_eq_true rfl, Nat.le_of_ble_eq_true rfl⟩ xE0_ok trivial hA hK hP hD hS [0, 2] [1] [1, 0, 2] rfl rfl rfl rfl rfl rfl rfl rfl rfl rfl hl.1 rfl (Nat.le_of_ble_eq_true rfl) ⟨Nat.zero_le _, Nat.zero_le _⟩ d_M_mean_46 (fun H locs hP hD hS => ?_)
        refine lv_i2l (v := (q5.toInt64)) hx hb d_M_mean_49 rfl ?_
        refine lv_aload_n hx hb d_M_mean_50 rfl (lv_at hl 0 rfl) ?_
        refine va_get hx hb hT i_M hown hK hP 0 rfl rfl 4 (Nat.le_of_ble_eq_true rfl) (hT _ k_762) (fun _ h => h) rfl d_M_mean_51 ?_
        refine lv_i2l (v := ((m_many z_h_T).toInt64)) hx hb d_M_mean_54 rfl ?_
        obtain ⟨q6, hq6, hf⟩ := io_b hf
        refine xcSL (wc := []) (wc' := []) (ws' := (w_M_mean cI cJ cC a_h a_h_refused a_h_kind a_h_sweets a_h_gives a_h_tape a_h_letter a_h_letterAt a_h_one a_h_two a_h_kept a_h_trail a_h_crumb a_h_nextCrumb a_h_goal a_h_start a_h_sits a_h_bestSits a_h_without a_h_row y_h_taped y_h_at y_h_statements y_h_hasImage y_h_beforeMany y_h_found y_h_lots y_h_rowMany (m_many z_h_T) (m_odd z_h_T) (m_step z_h_T) (m_bag z_h_T) (m_strokes z_h_T) (m_gave z_h_T) (m_threw z_h_T) (m_isKeeping z_h_T) (m_cursor z_h_T) z_h_refused (m_sweets z_h_T))) (As := [.long (q5.toInt64), .long ((m_many z_h_T).toInt64)]) (rest := [.int (m_many z_h_T)]) hx hb hml hown hT (c_M_divisor hq6) k_1041 k_1042 k_8 k_1043 hd_M_divisor ⟨Nat.le_of_ble_eq_true rfl, Nat.le_of_ble_eq_true rfl⟩ xE0_ok trivial hA hK hP hD hS [] [0, 1, 2] [0, 1, 2] rfl rfl rfl rfl rfl rfl rfl hl.1 rfl (Nat.le_of_ble_eq_true rfl) ⟨Nat.zero_le _, Nat.zero_le _⟩ d_M_mean_55 (fun H locs hP hD hS => ?_)
        refine lv_l2i (v := (q6.toInt32)) hx hb d_M_mean_58 rfl ?_
        obtain ⟨c7, hf⟩ := io_n hf
        refine x_idiv hx hb d_M_mean_59 c7 ?_
        have hq := Option.some.inj hf
        subst hq
        exact hret _ _ _ _ _ d_M_mean_60 rfl rfl hP hD hS
      · have hf := io_t hf c4
        refine lv_aload_n hx hb d_M_mean_34 rfl (lv_at hl 0 rfl) ?_
        obtain ⟨q8, hq8, hf⟩ := io_b hf
        refine xcVI (wc := (w_M_sum cI cJ cC a_h a_h_refused a_h_kind a_h_sweets a_h_gives a_h_tape a_h_letter a_h_letterAt a_h_one a_h_two a_h_kept a_h_trail a_h_crumb a_h_nextCrumb a_h_goal a_h_start a_h_sits a_h_bestSits a_h_without a_h_row y_h_taped y_h_at y_h_statements y_h_hasImage y_h_beforeMany y_h_found y_h_lots y_h_rowMany (m_many z_h_T) (m_odd z_h_T) (m_step z_h_T) (m_bag z_h_T) (m_strokes z_h_T) (m_gave z_h_T) (m_threw z_h_T) (m_isKeeping z_h_T) (m_cursor z_h_T) (m_sweets z_h_T))) (wc' := (w_M_sum cI cJ cC a_h a_h_refused a_h_kind a_h_sweets a_h_gives a_h_tape a_h_letter a_h_letterAt a_h_one a_h_two a_h_kept a_h_trail a_h_crumb a_h_nextCrumb a_h_goal a_h_start a_h_sits a_h_bestSits a_h_without a_h_row y_h_taped y_h_at y_h_statements y_h_hasImage y_h_beforeMany y_h_found y_h_lots y_h_rowMany (m_many z_h_T) (m_odd z_h_T) (m_step z_h_T) (m_bag z_h_T) (m_strokes z_h_T) (m_gave z_h_T) (m_threw z_h_T) (m_isKeeping z_h_T) (m_cursor z_h_T) (m_sweets z_h_T))) (ws' := (w_M_mean cI cJ cC a_h a_h_refused a_h_kind a_h_sweets a_h_gives a_h_tape a_h_letter a_h_letterAt a_h_one a_h_two a_h_kept a_h_trail a_h_crumb a_h_nextCrumb a_h_goal a_h_start a_h_sits a_h_bestSits a_h_without a_h_row y_h_taped y_h_at y_h_statements y_h_hasImage y_h_beforeMany y_h_found y_h_lots y_h_rowMany (m_many z_h_T) (m_odd z_h_T) (m_step z_h_T) (m_bag z_h_T) (m_strokes z_h_T) (m_gave z_h_T) (m_threw z_h_T) (m_isKeeping z_h_T) (m_cursor z_h_T) z_h_refused (m_sweets z_h_T))) (As := []) (rest := []) hx hb hml hown hT (c_M_sum (z_h_T := z_h_T) a_h a_h_refused a_h_kind a_h_sweets a_h_gives a_h_tape a_h_letter a_h_letterAt a_h_one a_h_two a_h_kept a_h_trail a_h_crumb a_h_nextCrumb a_h_goal a_h_start a_h_sits a_h_bestSits a_h_without a_h_row y_h_taped y_h_at y_h_statements y_h_hasImage y_h_beforeMany y_h_found y_h_lots y_h_rowMany hq8) k_1048 k_1050 ks_47 k_8 k_1051 hd_M_sum ⟨Nat.le_of_ble_eq_true rfl, Nat.le_of_ble_eq_true rfl⟩ xE0_ok trivial hA hK hP hD hS [0, 2] [1] [1, 0, 2] rfl rfl rfl rfl rfl rfl rfl rfl rfl rfl hl.1 rfl (Nat.le_of_ble_eq_true rfl) ⟨Nat.zero_le _, Nat.zero_le _⟩ d_M_mean_35 (fun H locs hP hD hS => ?_)
        refine lv_goto (tgt := 45) hx hb d_M_mean_38 (by decide) ?_
        refine lv_aload_n hx hb d_M_mean_45 rfl (lv_at hl 0 rfl) ?_
        obtain ⟨q9, hq9, hf⟩ := io_b hf
        refine xcVI (wc := (w_M_sum cI cJ cC a_h a_h_refused a_h_kind a_h_sweets a_h_gives a_h_tape a_h_letter a_h_letterAt a_h_one a_h_two a_h_kept a_h_trail a_h_crumb a_h_nextCrumb a_h_goal a_h_start a_h_sits a_h_bestSits a_h_without a_h_row y_h_taped y_h_at y_h_statements y_h_hasImage y_h_beforeMany y_h_found y_h_lots y_h_rowMany (m_many z_h_T) (m_odd z_h_T) (m_step z_h_T) (m_bag z_h_T) (m_strokes z_h_T) (m_gave z_h_T) (m_threw z_h_T) (m_isKeeping z_h_T) (m_cursor z_h_T) (m_sweets z_h_T))) (wc' := (w_M_sum cI cJ cC a_h a_h_refused a_h_kind a_h_sweets a_h_gives a_h_tape a_h_letter a_h_letterAt a_h_one a_h_two a_h_kept a_h_trail a_h_crumb a_h_nextCrumb a_h_goal a_h_start a_h_sits a_h_bestSits a_h_without a_h_row y_h_taped y_h_at y_h_statements y_h_hasImage y_h_beforeMany y_h_found y_h_lots y_h_rowMany (m_many z_h_T) (m_odd z_h_T) (m_step z_h_T) (m_bag z_h_T) (m_strokes z_h_T) (m_gave z_h_T) (m_threw z_h_T) (m_isKeeping z_h_T) (m_cursor z_h_T) (m_sweets z_h_T))) (ws' := (w_M_mean cI cJ cC a_h a_h_refused a_h_kind a_h_sweets a_h_gives a_h_tape a_h_letter a_h_letterAt a_h_one a_h_two a_h_kept a_h_trail a_h_crumb a_h_nextCrumb a_h_goal a_h_start a_h_sits a_h_bestSits a_h_without a_h_row y_h_taped y_h_at y_h_statements y_h_hasImage y_h_beforeMany y_h_found y_h_lots y_h_rowMany (m_many z_h_T) (m_odd z_h_T) (m_step z_h_T) (m_bag z_h_T) (m_strokes z_h_T) (m_gave z_h_T) (m_threw z_h_T) (m_isKeeping z_h_T) (m_cursor z_h_T) z_h_refused (m_sweets z_h_T))) (As := []) (rest := [.int q8]) hx hb hml hown hT (c_M_sum (z_h_T := z_h_T) a_h a_h_refused a_h_kind a_h_sweets a_h_gives a_h_tape a_h_letter a_h_letterAt a_h_one a_h_two a_h_kept a_h_trail a_h_crumb a_h_nextCrumb a_h_goal a_h_start a_h_sits a_h_bestSits a_h_without a_h_row y_h_taped y_h_at y_h_statements y_h_hasImage y_h_beforeMany y_h_found y_h_lots y_h_rowMany hq9) k_1048 k_1050 ks_47 k_8 k_1051 hd_M_sum ⟨Nat.le_of_ble_eq_true rfl, Nat.le_of_ble_eq_true rfl⟩ xE0_ok trivial hA hK hP hD hS [0, 2] [1] [1, 0, 2] rfl rfl rfl rfl rfl rfl rfl rfl rfl rfl hl.1 rfl (Nat.le_of_ble_eq_true rfl) ⟨Nat.zero_le _, Nat.zero_le _⟩ d_M_mean_46 (fun H locs hP hD hS => ?_)
        refine lv_i2l (v := (q9.toInt64)) hx hb d_M_mean_49 rfl ?_
        refine lv_aload_n hx hb d_M_mean_50 rfl (lv_at hl 0 rfl) ?_
        refine va_get hx hb hT i_M hown hK hP 0 rfl rfl 4 (Nat.le_of_ble_eq_true rfl) (hT _ k_762) (fun _ h => h) rfl d_M_mean_51 ?_
        refine lv_i2l (v := ((m_many z_h_T).toInt64)) hx hb d_M_mean_54 rfl ?_
        obtain ⟨q10, hq10, hf⟩ := io_b hf
        refine xcSL (wc := []) (wc' := []) (ws' := (w_M_mean cI cJ cC a_h a_h_refused a_h_kind a_h_sweets a_h_gives a_h_tape a_h_letter a_h_letterAt a_h_one a_h_two a_h_kept a_h_trail a_h_crumb a_h_nextCrumb a_h_goal a_h_start a_h_sits a_h_bestSits a_h_without a_h_row y_h_taped y_h_at y_h_statements y_h_hasImage y_h_beforeMany y_h_found y_h_lots y_h_rowMany (m_many z_h_T) (m_odd z_h_T) (m_step z_h_T) (m_bag z_h_T) (m_strokes z_h_T) (m_gave z_h_T) (m_threw z_h_T) (m_isKeeping z_h_T) (m_cursor z_h_T) z_h_refused (m_sweets z_h_T))) (As := [.long (q9.toInt64), .long ((m_many z_h_T).toInt64)]) (rest := [.int q8]) hx hb hml hown hT (c_M_divisor hq10) k_1041 k_1042 k_8 k_1043 hd_M_divisor ⟨Nat.le_of_ble_eq_true rfl, Nat.le_of_ble_eq_true rfl⟩ xE0_ok trivial hA hK hP hD hS [] [0, 1, 2] [0, 1, 2] rfl rfl rfl rfl rfl rfl rfl hl.1 rfl (Nat.le_of_ble_eq_true rfl) ⟨Nat.zero_le _, Nat.zero_le _⟩ d_M_mean_55 (fun H locs hP hD hS => ?_)
        refine lv_l2i (v := (q10.toInt32)) hx hb d_M_mean_58 rfl ?_
        obtain ⟨c11, hf⟩ := io_n hf
        refine x_idiv hx hb d_M_mean_59 c11 ?_
        have hq := Option.some.inj hf
        subst hq
        exact hret _ _ _ _ _ d_M_mean_60 rfl rfl hP hD hS
    · have hf := io_t hf c3
      refine lv_aload_n hx hb d_M_mean_23 rfl (lv_at hl 0 rfl) ?_
      refine lv_bipush (v := (-3)) hx hb d_M_mean_24 (by decide) ?_
      obtain ⟨q12, hq12, hf⟩ := io_b hf
      refine xcVI (wc := (w_M_no cI cJ cC a_h a_h_refused a_h_kind a_h_sweets a_h_gives a_h_tape a_h_letter a_h_letterAt a_h_one a_h_two a_h_kept a_h_trail a_h_crumb a_h_nextCrumb a_h_goal a_h_start a_h_sits a_h_bestSits a_h_without a_h_row (m_many z_h_T) (m_odd z_h_T) (m_step z_h_T) (m_bag z_h_T) (m_strokes z_h_T) (m_gave z_h_T) (m_threw z_h_T) y_h_taped y_h_at y_h_statements y_h_hasImage (m_isKeeping z_h_T) (m_cursor z_h_T) y_h_beforeMany y_h_found y_h_lots y_h_rowMany z_h_refused)) (wc' := (w_M_no cI cJ cC a_h a_h_refused a_h_kind a_h_sweets a_h_gives a_h_tape a_h_letter a_h_letterAt a_h_one a_h_two a_h_kept a_h_trail a_h_crumb a_h_nextCrumb a_h_goal a_h_start a_h_sits a_h_bestSits a_h_without a_h_row (m_many z_h_T) (m_odd z_h_T) (m_step z_h_T) (m_bag z_h_T) (m_strokes z_h_T) (m_gave z_h_T) (m_threw z_h_T) y_h_taped y_h_at y_h_statements y_h_hasImage (m_isKeeping z_h_T) (m_cursor z_h_T) y_h_beforeMany y_h_found y_h_lots y_h_rowMany q12.2)) (ws' := (w_M_mean cI cJ cC a_h a_h_refused a_h_kind a_h_sweets a_h_gives a_h_tape a_h_letter a_h_letterAt a_h_one a_h_two a_h_kept a_h_trail a_h_crumb a_h_nextCrumb a_h_goal a_h_start a_h_sits a_h_bestSits a_h_without a_h_row y_h_taped y_h_at y_h_statements y_h_hasImage y_h_beforeMany y_h_found y_h_lots y_h_rowMany (m_many z_h_T) (m_odd z_h_T) (m_step z_h_T) (m_bag z_h_T) (m_strokes z_h_T) (m_gave z_h_T) (m_threw z_h_T) (m_isKeeping z_h_T) (m_cursor z_h_T) q12.2 (m_sweets z_h_T))) (As := [.int (-3)]) (rest := []) hx hb hml hown hT (c_M_no (z_h_refused := z_h_refused) a_h a_h_refused a_h_kind a_h_sweets a_h_gives a_h_tape a_h_letter a_h_letterAt a_h_one a_h_two a_h_kept a_h_trail a_h_crumb a_h_nextCrumb a_h_goal a_h_start a_h_sits a_h_bestSits a_h_without a_h_row (m_many z_h_T) (m_odd z_h_T) (m_step z_h_T) (m_bag z_h_T) (m_strokes z_h_T) (m_gave z_h_T) (m_threw z_h_T) y_h_taped y_h_at y_h_statements y_h_hasImage (m_isKeeping z_h_T) (m_cursor z_h_T) y_h_beforeMany y_h_found y_h_lots y_h_rowMany hq12) k_874 k_876 ks_24 k_8 k_877 hd_M_no ⟨Nat.le_of_ble_eq_true rfl, Nat.le_of_ble_eq_true rfl⟩ xE0_ok trivial hA hK hP hD hS [0, 1] [2] [1, 2, 0] rfl rfl rfl rfl rfl rfl rfl rfl rfl rfl hl.1 rfl (Nat.le_of_ble_eq_true rfl) ⟨Nat.zero_le _, Nat.zero_le _⟩ d_M_mean_26 (fun H locs hP hD hS => ?_)
      have hq := Option.some.inj hf
      subst hq
      exact hret _ _ _ _ _ d_M_mean_29 rfl rfl hP hD hS
  · have hf := io_t hf c2
    refine lv_aload_n hx hb d_M_mean_9 rfl (lv_at hl 0 rfl) ?_
    refine lv_bipush (v := (-2)) hx hb d_M_mean_10 (by decide) ?_
    obtain ⟨q13, hq13, hf⟩ := io_b hf
    refine xcVI (wc := (w_M_no cI cJ cC a_h a_h_refused a_h_kind a_h_sweets a_h_gives a_h_tape a_h_letter a_h_letterAt a_h_one a_h_two a_h_kept a_h_trail a_h_crumb a_h_nextCrumb a_h_goal a_h_start a_h_sits a_h_bestSits a_h_without a_h_row (m_many z_h_T) (m_odd z_h_T) (m_step z_h_T) (m_bag z_h_T) (m_strokes z_h_T) (m_gave z_h_T) (m_threw z_h_T) y_h_taped y_h_at y_h_statements y_h_hasImage (m_isKeeping z_h_T) (m_cursor z_h_T) y_h_beforeMany y_h_found y_h_lots y_h_rowMany z_h_refused)) (wc' := (w_M_no cI cJ cC a_h a_h_refused a_h_kind a_h_sweets a_h_gives a_h_tape a_h_letter a_h_letterAt a_h_one a_h_two a_h_kept a_h_trail a_h_crumb a_h_nextCrumb a_h_goal a_h_start a_h_sits a_h_bestSits a_h_without a_h_row (m_many z_h_T) (m_odd z_h_T) (m_step z_h_T) (m_bag z_h_T) (m_strokes z_h_T) (m_gave z_h_T) (m_threw z_h_T) y_h_taped y_h_at y_h_statements y_h_hasImage (m_isKeeping z_h_T) (m_cursor z_h_T) y_h_beforeMany y_h_found y_h_lots y_h_rowMany q13.2)) (ws' := (w_M_mean cI cJ cC a_h a_h_refused a_h_kind a_h_sweets a_h_gives a_h_tape a_h_letter a_h_letterAt a_h_one a_h_two a_h_kept a_h_trail a_h_crumb a_h_nextCrumb a_h_goal a_h_start a_h_sits a_h_bestSits a_h_without a_h_row y_h_taped y_h_at y_h_statements y_h_hasImage y_h_beforeMany y_h_found y_h_lots y_h_rowMany (m_many z_h_T) (m_odd z_h_T) (m_step z_h_T) (m_bag z_h_T) (m_strokes z_h_T) (m_gave z_h_T) (m_threw z_h_T) (m_isKeeping z_h_T) (m_cursor z_h_T) q13.2 (m_sweets z_h_T))) (As := [.int (-2)]) (rest := []) hx hb hml hown hT (c_M_no (z_h_refused := z_h_refused) a_h a_h_refused a_h_kind a_h_sweets a_h_gives a_h_tape a_h_letter a_h_letterAt a_h_one a_h_two a_h_kept a_h_trail a_h_crumb a_h_nextCrumb a_h_goal a_h_start a_h_sits a_h_bestSits a_h_without a_h_row (m_many z_h_T) (m_odd z_h_T) (m_step z_h_T) (m_bag z_h_T) (m_strokes z_h_T) (m_gave z_h_T) (m_threw z_h_T) y_h_taped y_h_at y_h_statements y_h_hasImage (m_isKeeping z_h_T) (m_cursor z_h_T) y_h_beforeMany y_h_found y_h_lots y_h_rowMany hq13) k_874 k_876 ks_24 k_8 k_877 hd_M_no ⟨Nat.le_of_ble_eq_true rfl, Nat.le_of_ble_eq_true rfl⟩ xE0_ok trivial hA hK hP hD hS [0, 1] [2] [1, 2, 0] rfl rfl rfl rfl rfl rfl rfl rfl rfl rfl hl.1 rfl (Nat.le_of_ble_eq_true rfl) ⟨Nat.zero_le _, Nat.zero_le _⟩ d_M_mean_12 (fun H locs hP hD hS => ?_)
    have hq := Option.some.inj hf
    subst hq
    exact hret _ _ _ _ _ d_M_mean_15 rfl rfl hP hD hS
abbrev w_M_areNear (cI cJ cC : ClassId) (a_h a_h_refused a_h_kind a_h_sweets a_h_gives a_h_tape a_h_letter a_h_letterAt a_h_one a_h_two a_h_kept a_h_trail a_h_crumb a_h_nextCrumb a_h_goal a_h_start a_h_sits a_h_bestSits a_h_without a_h_row : Nat) (y_h_taped : Int32) (y_h_at : Int32) (y_h_statements : Int32) (y_h_hasImage : Int32) (y_h_beforeMany : Int32) (y_h_found : Int32) (y_h_lots : Int32) (y_h_rowMany : Int32) (p_h_many : Int32) (p_h_odd : Int32) (p_h_step : Int32) (p_h_bag : Int32) (p_h_strokes : Int32) (p_h_gave : Int32) (p_h_threw : Int32) (p_h_isKeeping : Int32) (p_h_cursor : Int32) (p_h_sweets : (Nat → Int32)) (p_h_crumb : (Nat → Int64)) : va_W := [(a_h, .inr (7, [.ref a_h_refused, .ref a_h_kind, .ref a_h_sweets, .ref a_h_gives, .int p_h_many, .int p_h_odd, .int p_h_step, .int p_h_bag, .int p_h_strokes, .int p_h_gave, .int p_h_threw, .ref a_h_tape, .ref a_h_letter, .ref a_h_letterAt, .ref a_h_one, .ref a_h_two, .int y_h_taped, .int y_h_at, .int y_h_statements, .ref a_h_kept, .int y_h_hasImage, .int p_h_isKeeping, .int p_h_cursor, .ref a_h_trail, .ref a_h_crumb, .ref a_h_nextCrumb, .ref a_h_goal, .ref a_h_start, .int y_h_beforeMany, .int y_h_found, .ref a_h_sits, .ref a_h_bestSits, .ref a_h_without, .int y_h_lots, .ref a_h_row, .int y_h_rowMany])), (a_h_sweets, .inl (cI, (8, .inl p_h_sweets))), (a_h_crumb, .inl (cJ, (8, .inr (.inl p_h_crumb))))]
theorem d_M_areNear_0 : decode b_M_areNear 0 = .ok (.iconst 0, 1) := by decide +kernel
theorem d_M_areNear_1 : decode b_M_areNear 1 = .ok (.istore 4, 2) := by decide +kernel
theorem d_M_areNear_3 : decode b_M_areNear 3 = .ok (.iload 4, 2) := by decide +kernel
theorem d_M_areNear_5 : decode b_M_areNear 5 = .ok (.aload_n 0, 1) := by decide +kernel
theorem d_M_areNear_6 : decode b_M_areNear 6 = .ok (.getfield 78, 3) := by decide +kernel
theorem d_M_areNear_9 : decode b_M_areNear 9 = .ok (.if_icmp .ge 67, 3) := by decide +kernel
theorem d_M_areNear_12 : decode b_M_areNear 12 = .ok (.aload_n 0, 1) := by decide +kernel
theorem d_M_areNear_13 : decode b_M_areNear 13 = .ok (.getfield 50, 3) := by decide +kernel
theorem d_M_areNear_16 : decode b_M_areNear 16 = .ok (.iload 4, 2) := by decide +kernel
theorem d_M_areNear_18 : decode b_M_areNear 18 = .ok (.laload, 1) := by decide +kernel
theorem d_M_areNear_19 : decode b_M_areNear 19 = .ok (.aload_n 0, 1) := by decide +kernel
theorem d_M_areNear_20 : decode b_M_areNear 20 = .ok (.getfield 78, 3) := by decide +kernel
theorem d_M_areNear_23 : decode b_M_areNear 23 = .ok (.i2l, 1) := by decide +kernel
theorem d_M_areNear_24 : decode b_M_areNear 24 = .ok (.lmul, 1) := by decide +kernel
theorem d_M_areNear_25 : decode b_M_areNear 25 = .ok (.aload_n 0, 1) := by decide +kernel
theorem d_M_areNear_26 : decode b_M_areNear 26 = .ok (.invokevirtual 210, 3) := by decide +kernel
theorem d_M_areNear_29 : decode b_M_areNear 29 = .ok (.i2l, 1) := by decide +kernel
theorem d_M_areNear_30 : decode b_M_areNear 30 = .ok (.lload_n 1, 1) := by decide +kernel
theorem d_M_areNear_31 : decode b_M_areNear 31 = .ok (.lmul, 1) := by decide +kernel
theorem d_M_areNear_32 : decode b_M_areNear 32 = .ok (.lsub, 1) := by decide +kernel
theorem d_M_areNear_33 : decode b_M_areNear 33 = .ok (.lstore 5, 2) := by decide +kernel
theorem d_M_areNear_35 : decode b_M_areNear 35 = .ok (.lload 5, 2) := by decide +kernel
theorem d_M_areNear_37 : decode b_M_areNear 37 = .ok (.lconst 0, 1) := by decide +kernel
theorem d_M_areNear_38 : decode b_M_areNear 38 = .ok (.lcmp, 1) := by decide +kernel
theorem d_M_areNear_39 : decode b_M_areNear 39 = .ok (.ifCond .ge 9, 3) := by decide +kernel
theorem d_M_areNear_42 : decode b_M_areNear 42 = .ok (.lload 5, 2) := by decide +kernel
theorem d_M_areNear_44 : decode b_M_areNear 44 = .ok (.lneg, 1) := by decide +kernel
theorem d_M_areNear_45 : decode b_M_areNear 45 = .ok (.goto 5, 3) := by decide +kernel
theorem d_M_areNear_48 : decode b_M_areNear 48 = .ok (.lload 5, 2) := by decide +kernel
theorem d_M_areNear_50 : decode b_M_areNear 50 = .ok (.lstore 5, 2) := by decide +kernel
theorem d_M_areNear_52 : decode b_M_areNear 52 = .ok (.lload 5, 2) := by decide +kernel
theorem d_M_areNear_54 : decode b_M_areNear 54 = .ok (.iload_n 3, 1) := by decide +kernel
theorem d_M_areNear_55 : decode b_M_areNear 55 = .ok (.i2l, 1) := by decide +kernel
theorem d_M_areNear_56 : decode b_M_areNear 56 = .ok (.lmul, 1) := by decide +kernel
theorem d_M_areNear_57 : decode b_M_areNear 57 = .ok (.aload_n 0, 1) := by decide +kernel
theorem d_M_areNear_58 : decode b_M_areNear 58 = .ok (.getfield 78, 3) := by decide +kernel
theorem d_M_areNear_61 : decode b_M_areNear 61 = .ok (.i2l, 1) := by decide +kernel
theorem d_M_areNear_62 : decode b_M_areNear 62 = .ok (.lload_n 1, 1) := by decide +kernel
theorem d_M_areNear_63 : decode b_M_areNear 63 = .ok (.lmul, 1) := by decide +kernel
theorem d_M_areNear_64 : decode b_M_areNear 64 = .ok (.lcmp, 1) := by decide +kernel
theorem d_M_areNear_65 : decode b_M_areNear 65 = .ok (.ifCond .lt 5, 3) := by decide +kernel
theorem d_M_areNear_68 : decode b_M_areNear 68 = .ok (.iconst 0, 1) := by decide +kernel
theorem d_M_areNear_69 : decode b_M_areNear 69 = .ok (.ireturn, 1) := by decide +kernel
theorem d_M_areNear_70 : decode b_M_areNear 70 = .ok (.iinc 4 1, 3) := by decide +kernel
theorem d_M_areNear_73 : decode b_M_areNear 73 = .ok (.goto (-70), 3) := by decide +kernel
theorem d_M_areNear_76 : decode b_M_areNear 76 = .ok (.iconst 1, 1) := by decide +kernel
theorem d_M_areNear_77 : decode b_M_areNear 77 = .ok (.ireturn, 1) := by decide +kernel
set_option maxHeartbeats 4000000 in
set_option maxRecDepth 100000 in
theorem c_M_areNear {l : Launch} {D : va_G} {cI cJ cC : ClassId} (a_h a_h_refused a_h_kind a_h_sweets a_h_gives a_h_tape a_h_letter a_h_letterAt a_h_one a_h_two a_h_kept a_h_trail a_h_crumb a_h_nextCrumb a_h_goal a_h_start a_h_sits a_h_bestSits a_h_without a_h_row : Nat) (y_h_taped : Int32) (y_h_at : Int32) (y_h_statements : Int32) (y_h_hasImage : Int32) (y_h_beforeMany : Int32) (y_h_found : Int32) (y_h_lots : Int32) (y_h_rowMany : Int32) {z_h_T : MT} {z_h_crumb : (Nat → Int64)} {x1 : Int64} {x3 : Int32} {q : Int32} (hf : f_M_areNear z_h_T z_h_crumb x1 x3 = some q) : xI l y_M_areNear b_M_areNear 7 .boolean 1 22 D (tyK cI cJ cC) xE0 [.ref a_h, .long x1, .int x3] (w_M_areNear cI cJ cC a_h a_h_refused a_h_kind a_h_sweets a_h_gives a_h_tape a_h_letter a_h_letterAt a_h_one a_h_two a_h_kept a_h_trail a_h_crumb a_h_nextCrumb a_h_goal a_h_start a_h_sits a_h_bestSits a_h_without a_h_row y_h_taped y_h_at y_h_statements y_h_hasImage y_h_beforeMany y_h_found y_h_lots y_h_rowMany (m_many z_h_T) (m_odd z_h_T) (m_step z_h_T) (m_bag z_h_T) (m_strokes z_h_T) (m_gave z_h_T) (m_threw z_h_T) (m_isKeeping z_h_T) (m_cursor z_h_T) (m_sweets z_h_T) z_h_crumb) q (w_M_areNear cI cJ cC a_h a_h_refused a_h_kind a_h_sweets a_h_gives a_h_tape a_h_letter a_h_letterAt a_h_one a_h_two a_h_kept a_h_trail a_h_crumb a_h_nextCrumb a_h_goal a_h_start a_h_sits a_h_bestSits a_h_without a_h_row y_h_taped y_h_at y_h_statements y_h_hasImage y_h_beforeMany y_h_found y_h_lots y_h_rowMany (m_many z_h_T) (m_odd z_h_T) (m_step z_h_T) (m_bag z_h_T) (m_strokes z_h_T) (m_gave z_h_T) (m_threw z_h_T) (m_isKeeping z_h_T) (m_cursor z_h_T) (m_sweets z_h_T) z_h_crumb) := by
  refine xI_of (by decide) (Nat.le_of_ble_eq_true rfl) ?_
  intro p e s m args below meth c A Q hx hb hml hown hT hA hP hD hK hS hE hret ls hl
  have hown : s.vm.findClass R_M = some m.cls := hown
  have hl : lv_has ls 7 [(0, .ref a_h), (1, .long x1), (3, .int x3)] := hl
  unfold f_M_areNear at hf
  have L3 : ∀ (n : Nat) (x4 : Int32) (H : Heap) (locs : List Loc) (ls : Array Slot), f_M_areNear_L3 z_h_T z_h_crumb x1 x3 n x4 = some q → va_P D classes (w_M_areNear cI cJ cC a_h a_h_refused a_h_kind a_h_sweets a_h_gives a_h_tape a_h_letter a_h_letterAt a_h_one a_h_two a_h_kept a_h_trail a_h_crumb a_h_nextCrumb a_h_goal a_h_start a_h_sits a_h_bestSits a_h_without a_h_row y_h_taped y_h_at y_h_statements y_h_hasImage y_h_beforeMany y_h_found y_h_lots y_h_rowMany (m_many z_h_T) (m_odd z_h_T) (m_step z_h_T) (m_bag z_h_T) (m_strokes z_h_T) (m_gave z_h_T) (m_threw z_h_T) (m_isKeeping z_h_T) (m_cursor z_h_T) (m_sweets z_h_T) z_h_crumb) H → va_D A (w_M_areNear cI cJ cC a_h a_h_refused a_h_kind a_h_sweets a_h_gives a_h_tape a_h_letter a_h_letterAt a_h_one a_h_two a_h_kept a_h_trail a_h_crumb a_h_nextCrumb a_h_goal a_h_start a_h_sits a_h_bestSits a_h_without a_h_row y_h_taped y_h_at y_h_statements y_h_hasImage y_h_beforeMany y_h_found y_h_lots y_h_rowMany (m_many z_h_T) (m_odd z_h_T) (m_step z_h_T) (m_bag z_h_T) (m_strokes z_h_T) (m_gave z_h_T) (m_threw z_h_T) (m_isKeeping z_h_T) (m_cursor z_h_T) (m_sweets z_h_T) z_h_crumb) → va_S A s.heap H locs → lv_has ls 7 [(0, .ref a_h), (1, .long x1), (3, .int x3), (4, .int x4)] → W p l e (xRm 1 22) s m args below meth c H locs 0 0 Q (F0 m 3 ls []) := by
    intro n
    induction n with
    | zero => intro x4 H locs ls hf hP hD hS hl; exact nomatch (show (none : Option (Int32)) = some q from hf)
    | succ n ih =>
      intro x4 H locs ls hf hP hD hS hl
      refine lv_iload hx hb d_M_areNear_3 (lv_at hl 3 rfl) ?_
      refine lv_aload_n hx hb d_M_areNear_5 rfl (lv_at hl 0 rfl) ?_
      refine va_get hx hb hT i_M hown hK hP 0 rfl rfl 4 (Nat.le_of_ble_eq_true rfl) (hT _ k_762) (fun _ h => h) rfl d_M_areNear_6 ?_
      refine lv_icmp_ge (tgt := 76) hx hb d_M_areNear_9 (by decide) (fun c1 => ?_) (fun c1 => ?_)
      · have hf := io_t hf c1
        refine lv_iconst (v := 1) hx hb d_M_areNear_76 (by decide) ?_
        have hq := Option.some.inj hf
        subst hq
        exact hret _ _ _ _ _ d_M_areNear_77 (by decide) rfl hP hD hS
      · have hf := io_f hf c1
        refine lv_aload_n hx hb d_M_areNear_12 rfl (lv_at hl 0 rfl) ?_
        refine va_get hx hb hT i_M hown hK hP 0 rfl rfl 24 (Nat.le_of_ble_eq_true rfl) (hT _ k_782) (fun _ h => h) rfl d_M_areNear_13 ?_
        refine lv_iload hx hb d_M_areNear_16 (lv_at hl 3 rfl) ?_
        obtain ⟨c2, hf⟩ := io_n hf
        refine x_lald hx hb hK hP 2 1 rfl rfl (j := x4.toNatClampNeg) rfl c2 d_M_areNear_18 ?_
        refine lv_aload_n hx hb d_M_areNear_19 rfl (lv_at hl 0 rfl) ?_
        refine va_get hx hb hT i_M hown hK hP 0 rfl rfl 4 (Nat.le_of_ble_eq_true rfl) (hT _ k_762) (fun _ h => h) rfl d_M_areNear_20 ?_
        refine lv_i2l (v := ((m_many z_h_T).toInt64)) hx hb d_M_areNear_23 rfl ?_
        refine lv_lmul hx hb d_M_areNear_24 ?_
        refine lv_aload_n hx hb d_M_areNear_25 rfl (lv_at hl 0 rfl) ?_
        obtain ⟨q3, hq3, hf⟩ := io_b hf
        refine xcVI (wc := (w_M_sum cI cJ cC a_h a_h_refused a_h_kind a_h_sweets a_h_gives a_h_tape a_h_letter a_h_letterAt a_h_one a_h_two a_h_kept a_h_trail a_h_crumb a_h_nextCrumb a_h_goal a_h_start a_h_sits a_h_bestSits a_h_without a_h_row y_h_taped y_h_at y_h_statements y_h_hasImage y_h_beforeMany y_h_found y_h_lots y_h_rowMany (m_many z_h_T) (m_odd z_h_T) (m_step z_h_T) (m_bag z_h_T) (m_strokes z_h_T) (m_gave z_h_T) (m_threw z_h_T) (m_isKeeping z_h_T) (m_cursor z_h_T) (m_sweets z_h_T))) (wc' := (w_M_sum cI cJ cC a_h a_h_refused a_h_kind a_h_sweets a_h_gives a_h_tape a_h_letter a_h_letterAt a_h_one a_h_two a_h_kept a_h_trail a_h_crumb a_h_nextCrumb a_h_goal a_h_start a_h_sits a_h_bestSits a_h_without a_h_row y_h_taped y_h_at y_h_statements y_h_hasImage y_h_beforeMany y_h_found y_h_lots y_h_rowMany (m_many z_h_T) (m_odd z_h_T) (m_step z_h_T) (m_bag z_h_T) (m_strokes z_h_T) (m_gave z_h_T) (m_threw z_h_T) (m_isKeeping z_h_T) (m_cursor z_h_T) (m_sweets z_h_T))) (ws' := (w_M_areNear cI cJ cC a_h a_h_refused a_h_kind a_h_sweets a_h_gives a_h_tape a_h_letter a_h_letterAt a_h_one a_h_two a_h_kept a_h_trail a_h_crumb a_h_nextCrumb a_h_goal a_h_start a_h_sits a_h_bestSits a_h_without a_h_row y_h_taped y_h_at y_h_statements y_h_hasImage y_h_beforeMany y_h_found y_h_lots y_h_rowMany (m_many z_h_T) (m_odd z_h_T) (m_step z_h_T) (m_bag z_h_T) (m_strokes z_h_T) (m_gave z_h_T) (m_threw z_h_T) (m_isKeeping z_h_T) (m_cursor z_h_T) (m_sweets z_h_T) z_h_crumb)) (As := []) (rest := [.long ((z_h_crumb x4.toNatClampNeg) * ((m_many z_h_T).toInt64))]) hx hb hml hown hT (c_M_sum (z_h_T := z_h_T) a_h a_h_refused a_h_kind a_h_sweets a_h_gives a_h_tape a_h_letter a_h_letterAt a_h_one a_h_two a_h_kept a_h_trail a_h_crumb a_h_nextCrumb a_h_goal a_h_start a_h_sits a_h_bestSits a_h_without a_h_row y_h_taped y_h_at y_h_statements y_h_hasImage y_h_beforeMany y_h_found y_h_lots y_h_rowMany hq3) k_1048 k_1050 ks_47 k_8 k_1051 hd_M_sum ⟨Nat.le_of_ble_eq_true rfl, Nat.le_of_ble_eq_true rfl⟩ xE0_ok trivial hA hK hP hD hS [0, 1] [2] [1, 2, 0] rfl rfl rfl rfl rfl rfl rfl rfl rfl rfl hl.1 rfl (Nat.le_of_ble_eq_true rfl) ⟨Nat.zero_le _, Nat.zero_le _⟩ d_M_areNear_26 (fun H locs hP hD hS => ?_)
        refine lv_i2l (v := (q3.toInt64)) hx hb d_M_areNear_29 rfl ?_
        refine lv_lload_n hx hb d_M_areNear_30 rfl (lv_at hl 1 rfl) ?_
        refine lv_lmul hx hb d_M_areNear_31 ?_
        refine lv_lsub hx hb d_M_areNear_32 ?_
        refine lv_lstore (lv' := [(5, .long (((z_h_crumb x4.toNatClampNeg) * ((m_many z_h_T).toInt64)) - ((q3.toInt64) * x1))), (0, .ref a_h), (1, .long x1), (3, .int x3), (4, .int x4)]) hx hb d_M_areNear_33 hl (by decide) rfl (fun ls hl => ?_)
        refine lv_lload hx hb d_M_areNear_35 (lv_at hl 0 rfl) ?_
        refine lv_lconst (v := 0) hx hb d_M_areNear_37 (by decide) ?_
        refine W.lcmp hx hb d_M_areNear_38 ?_
        refine lv_if_ge (tgt := 48) hx hb d_M_areNear_39 (by decide) (fun c4 => ?_) (fun c4 => ?_)
        · have hf := io_t hf c4
          refine lv_lload hx hb d_M_areNear_48 (lv_at hl 0 rfl) ?_
          refine lv_lstore (lv' := [(5, .long (((z_h_crumb x4.toNatClampNeg) * ((m_many z_h_T).toInt64)) - ((q3.toInt64) * x1))), (0, .ref a_h), (1, .long x1), (3, .int x3), (4, .int x4)]) hx hb d_M_areNear_50 hl (by decide) rfl (fun ls hl => ?_)
          refine lv_lload hx hb d_M_areNear_52 (lv_at hl 0 rfl) ?_
          refine lv_iload_n hx hb d_M_areNear_54 rfl (lv_at hl 3 rfl) ?_
          refine lv_i2l (v := (x3.toInt64)) hx hb d_M_areNear_55 rfl ?_
          refine lv_lmul hx hb d_M_areNear_56 ?_
          refine lv_aload_n hx hb d_M_areNear_57 rfl (lv_at hl 1 rfl) ?_
          refine va_get hx hb hT i_M hown hK hP 0 rfl rfl 4 (Nat.le_of_ble_eq_true rfl) (hT _ k_762) (fun _ h => h) rfl d_M_areNear_58 ?_
          refine lv_i2l (v := ((m_many z_h_T).toInt64)) hx hb d_M_areNear_61 rfl ?_
          refine lv_lload_n hx hb d_M_areNear_62 rfl (lv_at hl 2 rfl) ?_
          refine lv_lmul hx hb d_M_areNear_63 ?_
          refine W.lcmp hx hb d_M_areNear_64 ?_
          refine lv_if_lt (tgt := 70) hx hb d_M_areNear_65 (by decide) (fun c5 => ?_) (fun c5 => ?_)
          · have hf := io_t hf c5
            refine lv_iinc (v := (x4 + 1)) (lv' := [(4, .int (x4 + 1)), (5, .long (((z_h_crumb x4.toNatClampNeg) * ((m_many z_h_T).toInt64)) - ((q3.toInt64) * x1))), (0, .ref a_h), (1, .long x1), (3, .int x3)]) hx hb d_M_areNear_70 hl (k := 4) rfl (by rfl) (by decide) rfl (fun ls hl => ?_)
            refine lv_goto (tgt := 3) hx hb d_M_areNear_73 (by decide) ?_
            exact ih (x4 + 1) _ _ _ hf hP hD hS (lv_sub hl [2, 3, 4, 0] rfl)
          · have hf := io_f hf c5
            refine lv_iconst (v := 0) hx hb d_M_areNear_68 (by decide) ?_
            have hq := Option.some.inj hf
            subst hq
            exact hret _ _ _ _ _ d_M_areNear_69 (by decide) rfl hP hD hS
        · have hf := io_f hf c4
          refine lv_lload hx hb d_M_areNear_42 (lv_at hl 0 rfl) ?_
          refine lv_lneg hx hb d_M_areNear_44 ?_
          refine lv_goto (tgt := 50) hx hb d_M_areNear_45 (by decide) ?_
          refine lv_lstore (lv' := [(5, .long (-(((z_h_crumb x4.toNatClampNeg) * ((m_many z_h_T).toInt64)) - ((q3.toInt64) * x1)))), (0, .ref a_h), (1, .long x1), (3, .int x3), (4, .int x4)]) hx hb d_M_areNear_50 hl (by decide) rfl (fun ls hl => ?_)
          refine lv_lload hx hb d_M_areNear_52 (lv_at hl 0 rfl) ?_
          refine lv_iload_n hx hb d_M_areNear_54 rfl (lv_at hl 3 rfl) ?_
          refine lv_i2l (v := (x3.toInt64)) hx hb d_M_areNear_55 rfl ?_
          refine lv_lmul hx hb d_M_areNear_56 ?_
          refine lv_aload_n hx hb d_M_areNear_57 rfl (lv_at hl 1 rfl) ?_
          refine va_get hx hb hT i_M hown hK hP 0 rfl rfl 4 (Nat.le_of_ble_eq_true rfl) (hT _ k_762) (fun _ h => h) rfl d_M_areNear_58 ?_
          refine lv_i2l (v := ((m_many z_h_T).toInt64)) hx hb d_M_areNear_61 rfl ?_
          refine lv_lload_n hx hb d_M_areNear_62 rfl (lv_at hl 2 rfl) ?_
          refine lv_lmul hx hb d_M_areNear_63 ?_
          refine W.lcmp hx hb d_M_areNear_64 ?_
          refine lv_if_lt (tgt := 70) hx hb d_M_areNear_65 (by decide) (fun c6 => ?_) (fun c6 => ?_)
          · have hf := io_t hf c6
            refine lv_iinc (v := (x4 + 1)) (lv' := [(4, .int (x4 + 1)), (5, .long (-(((z_h_crumb x4.toNatClampNeg) * ((m_many z_h_T).toInt64)) - ((q3.toInt64) * x1)))), (0, .ref a_h), (1, .long x1), (3, .int x3)]) hx hb d_M_areNear_70 hl (k := 4) rfl (by rfl) (by decide) rfl (fun ls hl => ?_)
            refine lv_goto (tgt := 3) hx hb d_M_areNear_73 (by decide) ?_
            exact ih (x4 + 1) _ _ _ hf hP hD hS (lv_sub hl [2, 3, 4, 0] rfl)
          · have hf := io_f hf c6
            refine lv_iconst (v := 0) hx hb d_M_areNear_68 (by decide) ?_
            have hq := Option.some.inj hf
            subst hq
            exact hret _ _ _ _ _ d_M_areNear_69 (by decide) rfl hP hD hS
  refine lv_iconst (v := 0) hx hb d_M_areNear_0 (by decide) ?_
  refine lv_istore (lv' := [(4, .int 0), (0, .ref a_h), (1, .long x1), (3, .int x3)]) hx hb d_M_areNear_1 hl (by decide) rfl (fun ls hl => ?_)
  exact L3 FU 0 _ _ _ hf hP hD hS (lv_sub hl [1, 2, 3, 0] rfl)
abbrev w_M_near (cI cJ cC : ClassId) (a_h a_h_refused a_h_kind a_h_sweets a_h_gives a_h_tape a_h_letter a_h_letterAt a_h_one a_h_two a_h_kept a_h_trail a_h_crumb a_h_nextCrumb a_h_goal a_h_start a_h_sits a_h_bestSits a_h_without a_h_row : Nat) (y_h_taped : Int32) (y_h_at : Int32) (y_h_statements : Int32) (y_h_hasImage : Int32) (y_h_beforeMany : Int32) (y_h_found : Int32) (y_h_lots : Int32) (y_h_rowMany : Int32) (p_h_many : Int32) (p_h_odd : Int32) (p_h_step : Int32) (p_h_bag : Int32) (p_h_strokes : Int32) (p_h_gave : Int32) (p_h_threw : Int32) (p_h_isKeeping : Int32) (p_h_cursor : Int32) (p_h_refused : (Nat → Int32)) (p_h_sweets : (Nat → Int32)) (p_h_crumb : (Nat → Int64)) (p_h_nextCrumb : (Nat → Int64)) : va_W := [(a_h, .inr (7, [.ref a_h_refused, .ref a_h_kind, .ref a_h_sweets, .ref a_h_gives, .int p_h_many, .int p_h_odd, .int p_h_step, .int p_h_bag, .int p_h_strokes, .int p_h_gave, .int p_h_threw, .ref a_h_tape, .ref a_h_letter, .ref a_h_letterAt, .ref a_h_one, .ref a_h_two, .int y_h_taped, .int y_h_at, .int y_h_statements, .ref a_h_kept, .int y_h_hasImage, .int p_h_isKeeping, .int p_h_cursor, .ref a_h_trail, .ref a_h_crumb, .ref a_h_nextCrumb, .ref a_h_goal, .ref a_h_start, .int y_h_beforeMany, .int y_h_found, .ref a_h_sits, .ref a_h_bestSits, .ref a_h_without, .int y_h_lots, .ref a_h_row, .int y_h_rowMany])), (a_h_refused, .inl (cI, (7, .inl p_h_refused))), (a_h_sweets, .inl (cI, (8, .inl p_h_sweets))), (a_h_crumb, .inl (cJ, (8, .inr (.inl p_h_crumb)))), (a_h_nextCrumb, .inl (cJ, (8, .inr (.inl p_h_nextCrumb))))]
theorem d_M_near_0 : decode b_M_near 0 = .ok (.iload_n 1, 1) := by decide +kernel
theorem d_M_near_1 : decode b_M_near 1 = .ok (.iconst 1, 1) := by decide +kernel
theorem d_M_near_2 : decode b_M_near 2 = .ok (.bipush 99, 2) := by decide +kernel
theorem d_M_near_4 : decode b_M_near 4 = .ok (.invokestatic 81, 3) := by decide +kernel
theorem d_M_near_7 : decode b_M_near 7 = .ok (.istore_n 2, 1) := by decide +kernel
theorem d_M_near_8 : decode b_M_near 8 = .ok (.iload_n 2, 1) := by decide +kernel
theorem d_M_near_9 : decode b_M_near 9 = .ok (.ifCond .eq 9, 3) := by decide +kernel
theorem d_M_near_12 : decode b_M_near 12 = .ok (.aload_n 0, 1) := by decide +kernel
theorem d_M_near_13 : decode b_M_near 13 = .ok (.iload_n 2, 1) := by decide +kernel
theorem d_M_near_14 : decode b_M_near 14 = .ok (.invokevirtual 88, 3) := by decide +kernel
theorem d_M_near_17 : decode b_M_near 17 = .ok (.ireturn, 1) := by decide +kernel
theorem d_M_near_18 : decode b_M_near 18 = .ok (.aload_n 0, 1) := by decide +kernel
theorem d_M_near_19 : decode b_M_near 19 = .ok (.getfield 78, 3) := by decide +kernel
theorem d_M_near_22 : decode b_M_near 22 = .ok (.ifCond .ne 10, 3) := by decide +kernel
theorem d_M_near_25 : decode b_M_near 25 = .ok (.aload_n 0, 1) := by decide +kernel
theorem d_M_near_26 : decode b_M_near 26 = .ok (.bipush (-3), 2) := by decide +kernel
theorem d_M_near_28 : decode b_M_near 28 = .ok (.invokevirtual 88, 3) := by decide +kernel
theorem d_M_near_31 : decode b_M_near 31 = .ok (.ireturn, 1) := by decide +kernel
theorem d_M_near_32 : decode b_M_near 32 = .ok (.aload_n 0, 1) := by decide +kernel
theorem d_M_near_33 : decode b_M_near 33 = .ok (.invokevirtual 200, 3) := by decide +kernel
theorem d_M_near_36 : decode b_M_near 36 = .ok (.lconst 1, 1) := by decide +kernel
theorem d_M_near_37 : decode b_M_near 37 = .ok (.lstore_n 3, 1) := by decide +kernel
theorem d_M_near_38 : decode b_M_near 38 = .ok (.iconst 0, 1) := by decide +kernel
theorem d_M_near_39 : decode b_M_near 39 = .ok (.istore 5, 2) := by decide +kernel
theorem d_M_near_41 : decode b_M_near 41 = .ok (.iload 5, 2) := by decide +kernel
theorem d_M_near_43 : decode b_M_near 43 = .ok (.bipush 20, 2) := by decide +kernel
theorem d_M_near_45 : decode b_M_near 45 = .ok (.if_icmp .gt 31, 3) := by decide +kernel
theorem d_M_near_48 : decode b_M_near 48 = .ok (.aload_n 0, 1) := by decide +kernel
theorem d_M_near_49 : decode b_M_near 49 = .ok (.lload_n 3, 1) := by decide +kernel
theorem d_M_near_50 : decode b_M_near 50 = .ok (.iload_n 1, 1) := by decide +kernel
theorem d_M_near_51 : decode b_M_near 51 = .ok (.invokevirtual 213, 3) := by decide +kernel
theorem d_M_near_54 : decode b_M_near 54 = .ok (.ifCond .eq 6, 3) := by decide +kernel
theorem d_M_near_57 : decode b_M_near 57 = .ok (.iload 5, 2) := by decide +kernel
theorem d_M_near_59 : decode b_M_near 59 = .ok (.ireturn, 1) := by decide +kernel
theorem d_M_near_60 : decode b_M_near 60 = .ok (.aload_n 0, 1) := by decide +kernel
theorem d_M_near_61 : decode b_M_near 61 = .ok (.invokevirtual 203, 3) := by decide +kernel
theorem d_M_near_64 : decode b_M_near 64 = .ok (.lload_n 3, 1) := by decide +kernel
theorem d_M_near_65 : decode b_M_near 65 = .ok (.ldc2_w 194, 3) := by decide +kernel
theorem d_M_near_68 : decode b_M_near 68 = .ok (.lmul, 1) := by decide +kernel
theorem d_M_near_69 : decode b_M_near 69 = .ok (.lstore_n 3, 1) := by decide +kernel
theorem d_M_near_70 : decode b_M_near 70 = .ok (.iinc 5 1, 3) := by decide +kernel
theorem d_M_near_73 : decode b_M_near 73 = .ok (.goto (-32), 3) := by decide +kernel
theorem d_M_near_76 : decode b_M_near 76 = .ok (.bipush (-9), 2) := by decide +kernel
theorem d_M_near_78 : decode b_M_near 78 = .ok (.ireturn, 1) := by decide +kernel
set_option maxHeartbeats 4000000 in
set_option maxRecDepth 100000 in
theorem c_M_near {l : Launch} {D : va_G} {cI cJ cC : ClassId} (a_h a_h_refused a_h_kind a_h_sweets a_h_gives a_h_tape a_h_letter a_h_letterAt a_h_one a_h_two a_h_kept a_h_trail a_h_crumb a_h_nextCrumb a_h_goal a_h_start a_h_sits a_h_bestSits a_h_without a_h_row : Nat) (y_h_taped : Int32) (y_h_at : Int32) (y_h_statements : Int32) (y_h_hasImage : Int32) (y_h_beforeMany : Int32) (y_h_found : Int32) (y_h_lots : Int32) (y_h_rowMany : Int32) {z_h_T : MT} {z_h_refused : (Nat → Int32)} {z_h_crumb : (Nat → Int64)} {z_h_nextCrumb : (Nat → Int64)} {x1 : Int32} {q : Int32 × (Nat → Int32) × (Nat → Int64) × (Nat → Int64)} (hf : f_M_near z_h_T z_h_refused z_h_crumb z_h_nextCrumb x1 = some q) : xI l y_M_near b_M_near 6 .int 2 48 D (tyK cI cJ cC) xE0 [.ref a_h, .int x1] (w_M_near cI cJ cC a_h a_h_refused a_h_kind a_h_sweets a_h_gives a_h_tape a_h_letter a_h_letterAt a_h_one a_h_two a_h_kept a_h_trail a_h_crumb a_h_nextCrumb a_h_goal a_h_start a_h_sits a_h_bestSits a_h_without a_h_row y_h_taped y_h_at y_h_statements y_h_hasImage y_h_beforeMany y_h_found y_h_lots y_h_rowMany (m_many z_h_T) (m_odd z_h_T) (m_step z_h_T) (m_bag z_h_T) (m_strokes z_h_T) (m_gave z_h_T) (m_threw z_h_T) (m_isKeeping z_h_T) (m_cursor z_h_T) z_h_refused (m_sweets z_h_T) z_h_crumb z_h_nextCrumb) q.1 (w_M_near cI cJ cC a_h a_h_refused a_h_kind a_h_sweets a_h_gives a_h_tape a_h_letter a_h_letterAt a_h_one a_h_two a_h_kept a_h_trail a_h_crumb a_h_nextCrumb a_h_goal a_h_start a_h_sits a_h_bestSits a_h_without a_h_row y_h_taped y_h_at y_h_statements y_h_hasImage y_h_beforeMany y_h_found y_h_lots y_h_rowMany (m_many z_h_T) (m_odd z_h_T) (m_step z_h_T) (m_bag z_h_T) (m_strokes z_h_T) (m_gave z_h_T) (m_threw z_h_T) (m_isKeeping z_h_T) (m_cursor z_h_T) q.2.1 (m_sweets z_h_T) q.2.2.1 q.2.2.2) := by
  refine xI_of (by decide) (Nat.le_of_ble_eq_true rfl) ?_
  intro p e s m args below meth c A Q hx hb hml hown hT hA hP hD hK hS hE hret ls hl
  have hown : s.vm.findClass R_M = some m.cls := hown
  have hl : lv_has ls 6 [(0, .ref a_h), (1, .int x1)] := hl
  unfold f_M_near at hf
  have L41 : ∀ (z_h_refused : (Nat → Int32)), ∀ (n : Nat) (z_h_crumb : (Nat → Int64)) (z_h_nextCrumb : (Nat → Int64)) (x3 : Int64) (x5 : Int32) (H : Heap) (locs : List Loc) (ls : Array Slot), f_M_near_L41 z_h_T z_h_refused x1 n z_h_crumb z_h_nextCrumb x3 x5 = some q → va_P D classes (w_M_near cI cJ cC a_h a_h_refused a_h_kind a_h_sweets a_h_gives a_h_tape a_h_letter a_h_letterAt a_h_one a_h_two a_h_kept a_h_trail a_h_crumb a_h_nextCrumb a_h_goal a_h_start a_h_sits a_h_bestSits a_h_without a_h_row y_h_taped y_h_at y_h_statements y_h_hasImage y_h_beforeMany y_h_found y_h_lots y_h_rowMany (m_many z_h_T) (m_odd z_h_T) (m_step z_h_T) (m_bag z_h_T) (m_strokes z_h_T) (m_gave z_h_T) (m_threw z_h_T) (m_isKeeping z_h_T) (m_cursor z_h_T) z_h_refused (m_sweets z_h_T) z_h_crumb z_h_nextCrumb) H → va_D A (w_M_near cI cJ cC a_h a_h_refused a_h_kind a_h_sweets a_h_gives a_h_tape a_h_letter a_h_letterAt a_h_one a_h_two a_h_kept a_h_trail a_h_crumb a_h_nextCrumb a_h_goal a_h_start a_h_sits a_h_bestSits a_h_without a_h_row y_h_taped y_h_at y_h_statements y_h_hasImage y_h_beforeMany y_h_found y_h_lots y_h_rowMany (m_many z_h_T) (m_odd z_h_T) (m_step z_h_T) (m_bag z_h_T) (m_strokes z_h_T) (m_gave z_h_T) (m_threw z_h_T) (m_isKeeping z_h_T) (m_cursor z_h_T) z_h_refused (m_sweets z_h_T) z_h_crumb z_h_nextCrumb) → va_S A s.heap H locs → lv_has ls 6 [(0, .ref a_h), (1, .int x1), (3, .long x3), (5, .int x5)] → W p l e (xRm 2 48) s m args below meth c H locs 0 0 Q (F0 m 41 ls []) := by
    intro z_h_refused n
    induction n with
    | zero => intro z_h_crumb z_h_nextCrumb x3 x5 H locs ls hf hP hD hS hl; exact nomatch (show (none : Option (Int32 × (Nat → Int32) × (Nat → Int64) × (Nat → Int64))) = some q from hf)
    | succ n ih =>
      intro z_h_crumb z_h_nextCrumb x3 x5 H locs ls hf hP hD hS hl
      refine lv_iload hx hb d_M_near_41 (lv_at hl 3 rfl) ?_
      refine lv_bipush (v := 20) hx hb d_M_near_43 (by decide) ?_
      refine lv_icmp_gt (tgt := 76) hx hb d_M_near_45 (by decide) (fun c5 => ?_) (fun c5 => ?_)
      · have hf := io_t hf c5
        refine lv_bipush (v := (-9)) hx hb d_M_near_76 (by decide) ?_
        have hq := Option.some.inj hf
        subst hq
        exact hret _ _ _ _ _ d_M_near_78 rfl rfl hP hD hS
      · have hf := io_f hf c5
        refine lv_aload_n hx hb d_M_near_48 rfl (lv_at hl 0 rfl) ?_
        refine lv_lload_n hx hb d_M_near_49 rfl (lv_at hl 2 rfl) ?_
        refine lv_iload_n hx hb d_M_near_50 rfl (lv_at hl 1 rfl) ?_
        obtain ⟨q6, hq6, hf⟩ := io_b hf
        refine xcVI (wc := (w_M_areNear cI cJ cC a_h a_h_refused a_h_kind a_h_sweets a_h_gives a_h_tape a_h_letter a_h_letterAt a_h_one a_h_two a_h_kept a_h_trail a_h_crumb a_h_nextCrumb a_h_goal a_h_start a_h_sits a_h_bestSits a_h_without a_h_row y_h_taped y_h_at y_h_statements y_h_hasImage y_h_beforeMany y_h_found y_h_lots y_h_rowMany (m_many z_h_T) (m_odd z_h_T) (m_step z_h_T) (m_bag z_h_T) (m_strokes z_h_T) (m_gave z_h_T) (m_threw z_h_T) (m_isKeeping z_h_T) (m_cursor z_h_T) (m_sweets z_h_T) z_h_crumb)) (wc' := (w_M_areNear cI cJ cC a_h a_h_refused a_h_kind a_h_sweets a_h_gives a_h_tape a_h_letter a_h_letterAt a_h_one a_h_two a_h_kept a_h_trail a_h_crumb a_h_nextCrumb a_h_goal a_h_start a_h_sits a_h_bestSits a_h_without a_h_row y_h_taped y_h_at y_h_statements y_h_hasImage y_h_beforeMany y_h_found y_h_lots y_h_rowMany (m_many z_h_T) (m_odd z_h_T) (m_step z_h_T) (m_bag z_h_T) (m_strokes z_h_T) (m_gave z_h_T) (m_threw z_h_T) (m_isKeeping z_h_T) (m_cursor z_h_T) (m_sweets z_h_T) z_h_crumb)) (ws' := (w_M_near cI cJ cC a_h a_h_refused a_h_kind a_h_sweets a_h_gives a_h_tape a_h_letter a_h_letterAt a_h_one a_h_two a_h_kept a_h_trail a_h_crumb a_h_nextCrumb a_h_goal a_h_start a_h_sits a_h_bestSits a_h_without a_h_row y_h_taped y_h_at y_h_statements y_h_hasImage y_h_beforeMany y_h_found y_h_lots y_h_rowMany (m_many z_h_T) (m_odd z_h_T) (m_step z_h_T) (m_bag z_h_T) (m_strokes z_h_T) (m_gave z_h_T) (m_threw z_h_T) (m_isKeeping z_h_T) (m_cursor z_h_T) z_h_refused (m_sweets z_h_T) z_h_crumb z_h_nextCrumb)) (As := [.long x3, .int x1]) (rest := []) hx hb hml hown hT (c_M_areNear (z_h_T := z_h_T) (z_h_crumb := z_h_crumb) a_h a_h_refused a_h_kind a_h_sweets a_h_gives a_h_tape a_h_letter a_h_letterAt a_h_one a_h_two a_h_kept a_h_trail a_h_crumb a_h_nextCrumb a_h_goal a_h_start a_h_sits a_h_bestSits a_h_without a_h_row y_h_taped y_h_at y_h_statements y_h_hasImage y_h_beforeMany y_h_found y_h_lots y_h_rowMany hq6) k_1056 k_1058 ks_48 k_8 k_1059 hd_M_areNear ⟨Nat.le_of_ble_eq_true rfl, Nat.le_of_ble_eq_true rfl⟩ xE0_ok trivial hA hK hP hD hS [0, 2, 3] [1, 4] [2, 0, 3, 4, 1] rfl rfl rfl rfl rfl rfl rfl rfl rfl rfl hl.1 rfl (Nat.le_of_ble_eq_true rfl) ⟨Nat.zero_le _, Nat.zero_le _⟩ d_M_near_51 (fun H locs hP hD hS => ?_)
        refine lv_if_eq (tgt := 60) hx hb d_M_near_54 (by decide) (fun c7 => ?_) (fun c7 => ?_)
        · have hf := io_t hf c7
          refine lv_aload_n hx hb d_M_near_60 rfl (lv_at hl 0 rfl) ?_
          obtain ⟨q8, hq8, hf⟩ := io_b hf
          refine xcVV (wc := (w_M_halves cI cJ cC a_h a_h_refused a_h_kind a_h_sweets a_h_gives a_h_tape a_h_letter a_h_letterAt a_h_one a_h_two a_h_kept a_h_trail a_h_crumb a_h_nextCrumb a_h_goal a_h_start a_h_sits a_h_bestSits a_h_without a_h_row y_h_taped y_h_at y_h_statements y_h_hasImage y_h_beforeMany y_h_found y_h_lots y_h_rowMany (m_many z_h_T) (m_odd z_h_T) (m_step z_h_T) (m_bag z_h_T) (m_strokes z_h_T) (m_gave z_h_T) (m_threw z_h_T) (m_isKeeping z_h_T) (m_cursor z_h_T) z_h_crumb z_h_nextCrumb)) (wc' := (w_M_halves cI cJ cC a_h a_h_refused a_h_kind a_h_sweets a_h_gives a_h_tape a_h_letter a_h_letterAt a_h_one a_h_two a_h_kept a_h_trail a_h_crumb a_h_nextCrumb a_h_goal a_h_start a_h_sits a_h_bestSits a_h_without a_h_row y_h_taped y_h_at y_h_statements y_h_hasImage y_h_beforeMany y_h_found y_h_lots y_h_rowMany (m_many z_h_T) (m_odd z_h_T) (m_step z_h_T) (m_bag z_h_T) (m_strokes z_h_T) (m_gave z_h_T) (m_threw z_h_T) (m_isKeeping z_h_T) (m_cursor z_h_T) q8.1 q8.2)) (ws' := (w_M_near cI cJ cC a_h a_h_refused a_h_kind a_h_sweets a_h_gives a_h_tape a_h_letter a_h_letterAt a_h_one a_h_two a_h_kept a_h_trail a_h_crumb a_h_nextCrumb a_h_goal a_h_start a_h_sits a_h_bestSits a_h_without a_h_row y_h_taped y_h_at y_h_statements y_h_hasImage y_h_beforeMany y_h_found y_h_lots y_h_rowMany (m_many z_h_T) (m_odd z_h_T) (m_step z_h_T) (m_bag z_h_T) (m_strokes z_h_T) (m_gave z_h_T) (m_threw z_h_T) (m_isKeeping z_h_T) (m_cursor z_h_T) z_h_refused (m_sweets z_h_T) q8.1 q8.2)) (As := []) (rest := []) hx hb hml hown hT (c_M_halves (z_h_T := z_h_T) (z_h_crumb := z_h_crumb) (z_h_nextCrumb := z_h_nextCrumb) a_h a_h_refused a_h_kind a_h_sweets a_h_gives a_h_tape a_h_letter a_h_letterAt a_h_one a_h_two a_h_kept a_h_trail a_h_crumb a_h_nextCrumb a_h_goal a_h_start a_h_sits a_h_bestSits a_h_without a_h_row y_h_taped y_h_at y_h_statements y_h_hasImage y_h_beforeMany y_h_found y_h_lots y_h_rowMany hq8) k_1036 k_1038 ks_46 k_8 k_1039 hd_M_halves ⟨Nat.le_of_ble_eq_true rfl, Nat.le_of_ble_eq_true rfl⟩ xE0_ok trivial hA hK hP hD hS [0, 3, 4] [1, 2] [2, 0, 1, 3, 4] rfl rfl rfl rfl rfl rfl rfl rfl rfl rfl hl.1 rfl (Nat.le_of_ble_eq_true rfl) ⟨Nat.zero_le _, Nat.zero_le _⟩ d_M_near_61 (fun H locs hP hD hS => ?_)
          refine lv_lload_n hx hb d_M_near_64 rfl (lv_at hl 2 rfl) ?_
          refine lv_ldc2 (v := 2) hx hb hown (hT _ k_1040) d_M_near_65 ?_
          refine lv_lmul hx hb d_M_near_68 ?_
          refine lv_lstore_n (lv' := [(3, .long (x3 * 2)), (0, .ref a_h), (1, .int x1), (5, .int x5)]) hx hb d_M_near_69 rfl hl (by decide) rfl (fun ls hl => ?_)
          refine lv_iinc (v := (x5 + 1)) (lv' := [(5, .int (x5 + 1)), (3, .long (x3 * 2)), (0, .ref a_h), (1, .int x1)]) hx hb d_M_near_70 hl (k := 3) rfl (by rfl) (by decide) rfl (fun ls hl => ?_)
          refine lv_goto (tgt := 41) hx hb d_M_near_73 (by decide) ?_
          exact ih q8.1 q8.2 (x3 * 2) (x5 + 1) _ _ _ hf hP hD hS (lv_sub hl [2, 3, 1, 0] rfl)
        · have hf := io_f hf c7
          refine lv_iload hx hb d_M_near_57 (lv_at hl 3 rfl) ?_
          have hq := Option.some.inj hf
          subst hq
          exact hret _ _ _ _ _ d_M_near_59 rfl rfl hP hD hS
  refine lv_iload_n hx hb d_M_near_0 rfl (lv_at hl 1 rfl) ?_
  refine lv_iconst (v := 1) hx hb d_M_near_1 (by decide) ?_
  refine lv_bipush (v := 99) hx hb d_M_near_2 (by decide) ?_
  obtain ⟨q1, hq1, hf⟩ := io_b hf
  refine xcSI (wc := []) (wc' := []) (ws' := (w_M_near cI cJ cC a_h a_h_refused a_h_kind a_h_sweets a_h_gives a_h_tape a_h_letter a_h_letterAt a_h_one a_h_two a_h_kept a_h_trail a_h_crumb a_h_nextCrumb a_h_goal a_h_start a_h_sits a_h_bestSits a_h_without a_h_row y_h_taped y_h_at y_h_statements y_h_hasImage y_h_beforeMany y_h_found y_h_lots y_h_rowMany (m_many z_h_T) (m_odd z_h_T) (m_step z_h_T) (m_bag z_h_T) (m_strokes z_h_T) (m_gave z_h_T) (m_threw z_h_T) (m_isKeeping z_h_T) (m_cursor z_h_T) z_h_refused (m_sweets z_h_T) z_h_crumb z_h_nextCrumb)) (As := [.int x1, .int 1, .int 99]) (rest := []) hx hb hml hown hT (c_M_bound hq1) k_871 k_872 k_8 k_873 hd_M_bound ⟨Nat.le_of_ble_eq_true rfl, Nat.le_of_ble_eq_true rfl⟩ xE0_ok trivial hA hK hP hD hS [] [0, 1, 2, 3, 4] [0, 1, 2, 3, 4] rfl rfl rfl rfl rfl rfl rfl hl.1 rfl (Nat.le_of_ble_eq_true rfl) ⟨Nat.zero_le _, Nat.zero_le _⟩ d_M_near_4 (fun H locs hP hD hS => ?_)
  refine lv_istore_n (lv' := [(2, .int q1), (0, .ref a_h), (1, .int x1)]) hx hb d_M_near_7 rfl hl (by decide) rfl (fun ls hl => ?_)
  refine lv_iload_n hx hb d_M_near_8 rfl (lv_at hl 0 rfl) ?_
  refine lv_if_eq (tgt := 18) hx hb d_M_near_9 (by decide) (fun c2 => ?_) (fun c2 => ?_)
  · have hf := io_t hf c2
    refine lv_aload_n hx hb d_M_near_18 rfl (lv_at hl 1 rfl) ?_
    refine va_get hx hb hT i_M hown hK hP 0 rfl rfl 4 (Nat.le_of_ble_eq_true rfl) (hT _ k_762) (fun _ h => h) rfl d_M_near_19 ?_
    refine lv_if_ne (tgt := 32) hx hb d_M_near_22 (by decide) (fun c3 => ?_) (fun c3 => ?_)
    · have hf := io_f hf c3
      refine lv_aload_n hx hb d_M_near_32 rfl (lv_at hl 1 rfl) ?_
      obtain ⟨q4, hq4, hf⟩ := io_b hf
      refine xcVV (wc := (w_M_begins cI cJ cC a_h a_h_refused a_h_kind a_h_sweets a_h_gives a_h_tape a_h_letter a_h_letterAt a_h_one a_h_two a_h_kept a_h_trail a_h_crumb a_h_nextCrumb a_h_goal a_h_start a_h_sits a_h_bestSits a_h_without a_h_row y_h_taped y_h_at y_h_statements y_h_hasImage y_h_beforeMany y_h_found y_h_lots y_h_rowMany (m_many z_h_T) (m_odd z_h_T) (m_step z_h_T) (m_bag z_h_T) (m_strokes z_h_T) (m_gave z_h_T) (m_threw z_h_T) (m_isKeeping z_h_T) (m_cursor z_h_T) (m_sweets z_h_T) z_h_crumb)) (wc' := (w_M_begins cI cJ cC a_h a_h_refused a_h_kind a_h_sweets a_h_gives a_h_tape a_h_letter a_h_letterAt a_h_one a_h_two a_h_kept a_h_trail a_h_crumb a_h_nextCrumb a_h_goal a_h_start a_h_sits a_h_bestSits a_h_without a_h_row y_h_taped y_h_at y_h_statements y_h_hasImage y_h_beforeMany y_h_found y_h_lots y_h_rowMany (m_many z_h_T) (m_odd z_h_T) (m_step z_h_T) (m_bag z_h_T) (m_strokes z_h_T) (m_gave z_h_T) (m_threw z_h_T) (m_isKeeping z_h_T) (m_cursor z_h_T) (m_sweets z_h_T) q4)) (ws' := (w_M_near cI cJ cC a_h a_h_refused a_h_kind a_h_sweets a_h_gives a_h_tape a_h_letter a_h_letterAt a_h_one a_h_two a_h_kept a_h_trail a_h_crumb a_h_nextCrumb a_h_goal a_h_start a_h_sits a_h_bestSits a_h_without a_h_row y_h_taped y_h_at y_h_statements y_h_hasImage y_h_beforeMany y_h_found y_h_lots y_h_rowMany (m_many z_h_T) (m_odd z_h_T) (m_step z_h_T) (m_bag z_h_T) (m_strokes z_h_T) (m_gave z_h_T) (m_threw z_h_T) (m_isKeeping z_h_T) (m_cursor z_h_T) z_h_refused (m_sweets z_h_T) q4 z_h_nextCrumb)) (As := []) (rest := []) hx hb hml hown hT (c_M_begins (z_h_T := z_h_T) (z_h_crumb := z_h_crumb) a_h a_h_refused a_h_kind a_h_sweets a_h_gives a_h_tape a_h_letter a_h_letterAt a_h_one a_h_two a_h_kept a_h_trail a_h_crumb a_h_nextCrumb a_h_goal a_h_start a_h_sits a_h_bestSits a_h_without a_h_row y_h_taped y_h_at y_h_statements y_h_hasImage y_h_beforeMany y_h_found y_h_lots y_h_rowMany hq4) k_1032 k_1034 ks_45 k_8 k_1035 hd_M_begins ⟨Nat.le_of_ble_eq_true rfl, Nat.le_of_ble_eq_true rfl⟩ xE0_ok trivial hA hK hP hD hS [0, 2, 3] [1, 4] [2, 0, 3, 4, 1] rfl rfl rfl rfl rfl rfl rfl rfl rfl rfl hl.1 rfl (Nat.le_of_ble_eq_true rfl) ⟨Nat.zero_le _, Nat.zero_le _⟩ d_M_near_33 (fun H locs hP hD hS => ?_)
      refine lv_lconst (v := 1) hx hb d_M_near_36 (by decide) ?_
      refine lv_lstore_n (lv' := [(3, .long 1), (2, .int q1), (0, .ref a_h), (1, .int x1)]) hx hb d_M_near_37 rfl hl (by decide) rfl (fun ls hl => ?_)
      refine lv_iconst (v := 0) hx hb d_M_near_38 (by decide) ?_
      refine lv_istore (lv' := [(5, .int 0), (3, .long 1), (2, .int q1), (0, .ref a_h), (1, .int x1)]) hx hb d_M_near_39 hl (by decide) rfl (fun ls hl => ?_)
      exact L41 z_h_refused FU q4 z_h_nextCrumb 1 0 _ _ _ hf hP hD hS (lv_sub hl [3, 4, 1, 0] rfl)
    · have hf := io_t hf c3
      refine lv_aload_n hx hb d_M_near_25 rfl (lv_at hl 1 rfl) ?_
      refine lv_bipush (v := (-3)) hx hb d_M_near_26 (by decide) ?_
      obtain ⟨q9, hq9, hf⟩ := io_b hf
      refine xcVI (wc := (w_M_no cI cJ cC a_h a_h_refused a_h_kind a_h_sweets a_h_gives a_h_tape a_h_letter a_h_letterAt a_h_one a_h_two a_h_kept a_h_trail a_h_crumb a_h_nextCrumb a_h_goal a_h_start a_h_sits a_h_bestSits a_h_without a_h_row (m_many z_h_T) (m_odd z_h_T) (m_step z_h_T) (m_bag z_h_T) (m_strokes z_h_T) (m_gave z_h_T) (m_threw z_h_T) y_h_taped y_h_at y_h_statements y_h_hasImage (m_isKeeping z_h_T) (m_cursor z_h_T) y_h_beforeMany y_h_found y_h_lots y_h_rowMany z_h_refused)) (wc' := (w_M_no cI cJ cC a_h a_h_refused a_h_kind a_h_sweets a_h_gives a_h_tape a_h_letter a_h_letterAt a_h_one a_h_two a_h_kept a_h_trail a_h_crumb a_h_nextCrumb a_h_goal a_h_start a_h_sits a_h_bestSits a_h_without a_h_row (m_many z_h_T) (m_odd z_h_T) (m_step z_h_T) (m_bag z_h_T) (m_strokes z_h_T) (m_gave z_h_T) (m_threw z_h_T) y_h_taped y_h_at y_h_statements y_h_hasImage (m_isKeeping z_h_T) (m_cursor z_h_T) y_h_beforeMany y_h_found y_h_lots y_h_rowMany q9.2)) (ws' := (w_M_near cI cJ cC a_h a_h_refused a_h_kind a_h_sweets a_h_gives a_h_tape a_h_letter a_h_letterAt a_h_one a_h_two a_h_kept a_h_trail a_h_crumb a_h_nextCrumb a_h_goal a_h_start a_h_sits a_h_bestSits a_h_without a_h_row y_h_taped y_h_at y_h_statements y_h_hasImage y_h_beforeMany y_h_found y_h_lots y_h_rowMany (m_many z_h_T) (m_odd z_h_T) (m_step z_h_T) (m_bag z_h_T) (m_strokes z_h_T) (m_gave z_h_T) (m_threw z_h_T) (m_isKeeping z_h_T) (m_cursor z_h_T) q9.2 (m_sweets z_h_T) z_h_crumb z_h_nextCrumb)) (As := [.int (-3)]) (rest := []) hx hb hml hown hT (c_M_no (z_h_refused := z_h_refused) a_h a_h_refused a_h_kind a_h_sweets a_h_gives a_h_tape a_h_letter a_h_letterAt a_h_one a_h_two a_h_kept a_h_trail a_h_crumb a_h_nextCrumb a_h_goal a_h_start a_h_sits a_h_bestSits a_h_without a_h_row (m_many z_h_T) (m_odd z_h_T) (m_step z_h_T) (m_bag z_h_T) (m_strokes z_h_T) (m_gave z_h_T) (m_threw z_h_T) y_h_taped y_h_at y_h_statements y_h_hasImage (m_isKeeping z_h_T) (m_cursor z_h_T) y_h_beforeMany y_h_found y_h_lots y_h_rowMany hq9) k_874 k_876 ks_24 k_8 k_877 hd_M_no ⟨Nat.le_of_ble_eq_true rfl, Nat.le_of_ble_eq_true rfl⟩ xE0_ok trivial hA hK hP hD hS [0, 1] [2, 3, 4] [3, 4, 0, 1, 2] rfl rfl rfl rfl rfl rfl rfl rfl rfl rfl hl.1 rfl (Nat.le_of_ble_eq_true rfl) ⟨Nat.zero_le _, Nat.zero_le _⟩ d_M_near_28 (fun H locs hP hD hS => ?_)
      have hq := Option.some.inj hf
      subst hq
      exact hret _ _ _ _ _ d_M_near_31 rfl rfl hP hD hS
  · have hf := io_f hf c2
    refine lv_aload_n hx hb d_M_near_12 rfl (lv_at hl 1 rfl) ?_
    refine lv_iload_n hx hb d_M_near_13 rfl (lv_at hl 0 rfl) ?_
    obtain ⟨q10, hq10, hf⟩ := io_b hf
    refine xcVI (wc := (w_M_no cI cJ cC a_h a_h_refused a_h_kind a_h_sweets a_h_gives a_h_tape a_h_letter a_h_letterAt a_h_one a_h_two a_h_kept a_h_trail a_h_crumb a_h_nextCrumb a_h_goal a_h_start a_h_sits a_h_bestSits a_h_without a_h_row (m_many z_h_T) (m_odd z_h_T) (m_step z_h_T) (m_bag z_h_T) (m_strokes z_h_T) (m_gave z_h_T) (m_threw z_h_T) y_h_taped y_h_at y_h_statements y_h_hasImage (m_isKeeping z_h_T) (m_cursor z_h_T) y_h_beforeMany y_h_found y_h_lots y_h_rowMany z_h_refused)) (wc' := (w_M_no cI cJ cC a_h a_h_refused a_h_kind a_h_sweets a_h_gives a_h_tape a_h_letter a_h_letterAt a_h_one a_h_two a_h_kept a_h_trail a_h_crumb a_h_nextCrumb a_h_goal a_h_start a_h_sits a_h_bestSits a_h_without a_h_row (m_many z_h_T) (m_odd z_h_T) (m_step z_h_T) (m_bag z_h_T) (m_strokes z_h_T) (m_gave z_h_T) (m_threw z_h_T) y_h_taped y_h_at y_h_statements y_h_hasImage (m_isKeeping z_h_T) (m_cursor z_h_T) y_h_beforeMany y_h_found y_h_lots y_h_rowMany q10.2)) (ws' := (w_M_near cI cJ cC a_h a_h_refused a_h_kind a_h_sweets a_h_gives a_h_tape a_h_letter a_h_letterAt a_h_one a_h_two a_h_kept a_h_trail a_h_crumb a_h_nextCrumb a_h_goal a_h_start a_h_sits a_h_bestSits a_h_without a_h_row y_h_taped y_h_at y_h_statements y_h_hasImage y_h_beforeMany y_h_found y_h_lots y_h_rowMany (m_many z_h_T) (m_odd z_h_T) (m_step z_h_T) (m_bag z_h_T) (m_strokes z_h_T) (m_gave z_h_T) (m_threw z_h_T) (m_isKeeping z_h_T) (m_cursor z_h_T) q10.2 (m_sweets z_h_T) z_h_crumb z_h_nextCrumb)) (As := [.int q1]) (rest := []) hx hb hml hown hT (c_M_no (z_h_refused := z_h_refused) a_h a_h_refused a_h_kind a_h_sweets a_h_gives a_h_tape a_h_letter a_h_letterAt a_h_one a_h_two a_h_kept a_h_trail a_h_crumb a_h_nextCrumb a_h_goal a_h_start a_h_sits a_h_bestSits a_h_without a_h_row (m_many z_h_T) (m_odd z_h_T) (m_step z_h_T) (m_bag z_h_T) (m_strokes z_h_T) (m_gave z_h_T) (m_threw z_h_T) y_h_taped y_h_at y_h_statements y_h_hasImage (m_isKeeping z_h_T) (m_cursor z_h_T) y_h_beforeMany y_h_found y_h_lots y_h_rowMany hq10) k_874 k_876 ks_24 k_8 k_877 hd_M_no ⟨Nat.le_of_ble_eq_true rfl, Nat.le_of_ble_eq_true rfl⟩ xE0_ok trivial hA hK hP hD hS [0, 1] [2, 3, 4] [3, 4, 0, 1, 2] rfl rfl rfl rfl rfl rfl rfl rfl rfl rfl hl.1 rfl (Nat.le_of_ble_eq_true rfl) ⟨Nat.zero_le _, Nat.zero_le _⟩ d_M_near_14 (fun H locs hP hD hS => ?_)
    have hq := Option.some.inj hf
    subst hq
    exact hret _ _ _ _ _ d_M_near_17 rfl rfl hP hD hS
abbrev w_M_notBefore (cI cJ cC : ClassId) (a_h a_h_refused a_h_kind a_h_sweets a_h_gives a_h_tape a_h_letter a_h_letterAt a_h_one a_h_two a_h_kept a_h_trail a_h_crumb a_h_nextCrumb a_h_goal a_h_start a_h_sits a_h_bestSits a_h_without a_h_row : Nat) (y_h_taped : Int32) (y_h_at : Int32) (y_h_statements : Int32) (y_h_hasImage : Int32) (y_h_beforeMany : Int32) (y_h_found : Int32) (y_h_lots : Int32) (y_h_rowMany : Int32) (p_h_many : Int32) (p_h_odd : Int32) (p_h_step : Int32) (p_h_bag : Int32) (p_h_strokes : Int32) (p_h_gave : Int32) (p_h_threw : Int32) (p_h_isKeeping : Int32) (p_h_cursor : Int32) : va_W := [(a_h, .inr (7, [.ref a_h_refused, .ref a_h_kind, .ref a_h_sweets, .ref a_h_gives, .int p_h_many, .int p_h_odd, .int p_h_step, .int p_h_bag, .int p_h_strokes, .int p_h_gave, .int p_h_threw, .ref a_h_tape, .ref a_h_letter, .ref a_h_letterAt, .ref a_h_one, .ref a_h_two, .int y_h_taped, .int y_h_at, .int y_h_statements, .ref a_h_kept, .int y_h_hasImage, .int p_h_isKeeping, .int p_h_cursor, .ref a_h_trail, .ref a_h_crumb, .ref a_h_nextCrumb, .ref a_h_goal, .ref a_h_start, .int y_h_beforeMany, .int y_h_found, .ref a_h_sits, .ref a_h_bestSits, .ref a_h_without, .int y_h_lots, .ref a_h_row, .int y_h_rowMany]))]
theorem d_M_notBefore_0 : decode b_M_notBefore 0 = .ok (.iload_n 1, 1) := by decide +kernel
theorem d_M_notBefore_1 : decode b_M_notBefore 1 = .ok (.bipush 9, 2) := by decide +kernel
theorem d_M_notBefore_3 : decode b_M_notBefore 3 = .ok (.if_icmp .gt 11, 3) := by decide +kernel
theorem d_M_notBefore_6 : decode b_M_notBefore 6 = .ok (.aload_n 0, 1) := by decide +kernel
theorem d_M_notBefore_7 : decode b_M_notBefore 7 = .ok (.getfield 78, 3) := by decide +kernel
theorem d_M_notBefore_10 : decode b_M_notBefore 10 = .ok (.iconst 5, 1) := by decide +kernel
theorem d_M_notBefore_11 : decode b_M_notBefore 11 = .ok (.if_icmp .le 8, 3) := by decide +kernel
theorem d_M_notBefore_14 : decode b_M_notBefore 14 = .ok (.bipush (-6), 2) := by decide +kernel
theorem d_M_notBefore_16 : decode b_M_notBefore 16 = .ok (.goto 4, 3) := by decide +kernel
theorem d_M_notBefore_19 : decode b_M_notBefore 19 = .ok (.iconst 0, 1) := by decide +kernel
theorem d_M_notBefore_20 : decode b_M_notBefore 20 = .ok (.ireturn, 1) := by decide +kernel
set_option maxHeartbeats 4000000 in
set_option maxRecDepth 100000 in
theorem c_M_notBefore {l : Launch} {D : va_G} {cI cJ cC : ClassId} (a_h a_h_refused a_h_kind a_h_sweets a_h_gives a_h_tape a_h_letter a_h_letterAt a_h_one a_h_two a_h_kept a_h_trail a_h_crumb a_h_nextCrumb a_h_goal a_h_start a_h_sits a_h_bestSits a_h_without a_h_row : Nat) (y_h_taped : Int32) (y_h_at : Int32) (y_h_statements : Int32) (y_h_hasImage : Int32) (y_h_beforeMany : Int32) (y_h_found : Int32) (y_h_lots : Int32) (y_h_rowMany : Int32) {z_h_T : MT} {x1 : Int32} {q : Int32} (hf : f_M_notBefore z_h_T x1 = some q) : xI l y_M_notBefore b_M_notBefore 2 .int 0 0 D (tyK cI cJ cC) xE0 [.ref a_h, .int x1] (w_M_notBefore cI cJ cC a_h a_h_refused a_h_kind a_h_sweets a_h_gives a_h_tape a_h_letter a_h_letterAt a_h_one a_h_two a_h_kept a_h_trail a_h_crumb a_h_nextCrumb a_h_goal a_h_start a_h_sits a_h_bestSits a_h_without a_h_row y_h_taped y_h_at y_h_statements y_h_hasImage y_h_beforeMany y_h_found y_h_lots y_h_rowMany (m_many z_h_T) (m_odd z_h_T) (m_step z_h_T) (m_bag z_h_T) (m_strokes z_h_T) (m_gave z_h_T) (m_threw z_h_T) (m_isKeeping z_h_T) (m_cursor z_h_T)) q (w_M_notBefore cI cJ cC a_h a_h_refused a_h_kind a_h_sweets a_h_gives a_h_tape a_h_letter a_h_letterAt a_h_one a_h_two a_h_kept a_h_trail a_h_crumb a_h_nextCrumb a_h_goal a_h_start a_h_sits a_h_bestSits a_h_without a_h_row y_h_taped y_h_at y_h_statements y_h_hasImage y_h_beforeMany y_h_found y_h_lots y_h_rowMany (m_many z_h_T) (m_odd z_h_T) (m_step z_h_T) (m_bag z_h_T) (m_strokes z_h_T) (m_gave z_h_T) (m_threw z_h_T) (m_isKeeping z_h_T) (m_cursor z_h_T)) := by
  refine xI_of (by decide) (Nat.le_of_ble_eq_true rfl) ?_
  intro p e s m args below meth c A Q hx hb hml hown hT hA hP hD hK hS hE hret ls hl
  have hown : s.vm.findClass R_M = some m.cls := hown
  have hl : lv_has ls 2 [(0, .ref a_h), (1, .int x1)] := hl
  unfold f_M_notBefore at hf
  refine lv_iload_n hx hb d_M_notBefore_0 rfl (lv_at hl 1 rfl) ?_
  refine lv_bipush (v := 9) hx hb d_M_notBefore_1 (by decide) ?_
  refine lv_icmp_gt (tgt := 14) hx hb d_M_notBefore_3 (by decide) (fun c1 => ?_) (fun c1 => ?_)
  · have hf := io_t hf c1
    refine lv_bipush (v := (-6)) hx hb d_M_notBefore_14 (by decide) ?_
    refine lv_goto (tgt := 20) hx hb d_M_notBefore_16 (by decide) ?_
    have hq := Option.some.inj hf
    subst hq
    exact hret _ _ _ _ _ d_M_notBefore_20 rfl rfl hP hD hS
  · have hf := io_f hf c1
    refine lv_aload_n hx hb d_M_notBefore_6 rfl (lv_at hl 0 rfl) ?_
    refine va_get hx hb hT i_M hown hK hP 0 rfl rfl 4 (Nat.le_of_ble_eq_true rfl) (hT _ k_762) (fun _ h => h) rfl d_M_notBefore_7 ?_
    refine lv_iconst (v := 5) hx hb d_M_notBefore_10 (by decide) ?_
    refine lv_icmp_le (tgt := 19) hx hb d_M_notBefore_11 (by decide) (fun c2 => ?_) (fun c2 => ?_)
    · have hf := io_t hf c2
      refine lv_iconst (v := 0) hx hb d_M_notBefore_19 (by decide) ?_
      have hq := Option.some.inj hf
      subst hq
      exact hret _ _ _ _ _ d_M_notBefore_20 rfl rfl hP hD hS
    · have hf := io_f hf c2
      refine lv_bipush (v := (-6)) hx hb d_M_notBefore_14 (by decide) ?_
      refine lv_goto (tgt := 20) hx hb d_M_notBefore_16 (by decide) ?_
      have hq := Option.some.inj hf
      subst hq
      exact hret _ _ _ _ _ d_M_notBefore_20 rfl rfl hP hD hS
abbrev w_M_findBefore (cI cJ cC : ClassId) (a_h a_h_refused a_h_kind a_h_sweets a_h_gives a_h_tape a_h_letter a_h_letterAt a_h_one a_h_two a_h_kept a_h_trail a_h_crumb a_h_nextCrumb a_h_goal a_h_start a_h_sits a_h_bestSits a_h_without a_h_row : Nat) (y_h_taped : Int32) (y_h_at : Int32) (y_h_statements : Int32) (y_h_hasImage : Int32) (y_h_lots : Int32) (y_h_rowMany : Int32) (p_h_many : Int32) (p_h_odd : Int32) (p_h_step : Int32) (p_h_bag : Int32) (p_h_strokes : Int32) (p_h_gave : Int32) (p_h_threw : Int32) (p_h_isKeeping : Int32) (p_h_cursor : Int32) (p_h_beforeMany : Int32) (p_h_found : Int32) (p_h_kind : (Nat → Int32)) (p_h_sweets : (Nat → Int32)) (p_h_gives : (Nat → Int32)) (p_h_kept : (Nat → Int32)) (p_h_goal : (Nat → Int32)) (p_h_start : (Nat → Int32)) : va_W := [(a_h, .inr (7, [.ref a_h_refused, .ref a_h_kind, .ref a_h_sweets, .ref a_h_gives, .int p_h_many, .int p_h_odd, .int p_h_step, .int p_h_bag, .int p_h_strokes, .int p_h_gave, .int p_h_threw, .ref a_h_tape, .ref a_h_letter, .ref a_h_letterAt, .ref a_h_one, .ref a_h_two, .int y_h_taped, .int y_h_at, .int y_h_statements, .ref a_h_kept, .int y_h_hasImage, .int p_h_isKeeping, .int p_h_cursor, .ref a_h_trail, .ref a_h_crumb, .ref a_h_nextCrumb, .ref a_h_goal, .ref a_h_start, .int p_h_beforeMany, .int p_h_found, .ref a_h_sits, .ref a_h_bestSits, .ref a_h_without, .int y_h_lots, .ref a_h_row, .int y_h_rowMany])), (a_h_kind, .inl (cI, (8, .inl p_h_kind))), (a_h_sweets, .inl (cI, (8, .inl p_h_sweets))), (a_h_gives, .inl (cI, (8, .inl p_h_gives))), (a_h_kept, .inl (cI, (90, .inl p_h_kept))), (a_h_goal, .inl (cI, (8, .inl p_h_goal))), (a_h_start, .inl (cI, (8, .inl p_h_start)))]
theorem d_M_findBefore_0 : decode b_M_findBefore 0 = .ok (.aload_n 0, 1) := by decide +kernel
theorem d_M_findBefore_1 : decode b_M_findBefore 1 = .ok (.iconst 0, 1) := by decide +kernel
theorem d_M_findBefore_2 : decode b_M_findBefore 2 = .ok (.putfield 217, 3) := by decide +kernel
theorem d_M_findBefore_5 : decode b_M_findBefore 5 = .ok (.aload_n 0, 1) := by decide +kernel
theorem d_M_findBefore_6 : decode b_M_findBefore 6 = .ok (.bipush (-9), 2) := by decide +kernel
theorem d_M_findBefore_8 : decode b_M_findBefore 8 = .ok (.putfield 220, 3) := by decide +kernel
theorem d_M_findBefore_11 : decode b_M_findBefore 11 = .ok (.aload_n 0, 1) := by decide +kernel
theorem d_M_findBefore_12 : decode b_M_findBefore 12 = .ok (.iconst 1, 1) := by decide +kernel
theorem d_M_findBefore_13 : decode b_M_findBefore 13 = .ok (.iconst 1, 1) := by decide +kernel
theorem d_M_findBefore_14 : decode b_M_findBefore 14 = .ok (.invokevirtual 119, 3) := by decide +kernel
theorem d_M_findBefore_17 : decode b_M_findBefore 17 = .ok (.iconst 1, 1) := by decide +kernel
theorem d_M_findBefore_18 : decode b_M_findBefore 18 = .ok (.istore 4, 2) := by decide +kernel
theorem d_M_findBefore_20 : decode b_M_findBefore 20 = .ok (.iconst 0, 1) := by decide +kernel
theorem d_M_findBefore_21 : decode b_M_findBefore 21 = .ok (.istore 5, 2) := by decide +kernel
theorem d_M_findBefore_23 : decode b_M_findBefore 23 = .ok (.iload 5, 2) := by decide +kernel
theorem d_M_findBefore_25 : decode b_M_findBefore 25 = .ok (.aload_n 0, 1) := by decide +kernel
theorem d_M_findBefore_26 : decode b_M_findBefore 26 = .ok (.getfield 78, 3) := by decide +kernel
theorem d_M_findBefore_29 : decode b_M_findBefore 29 = .ok (.if_icmp .ge 31, 3) := by decide +kernel
theorem d_M_findBefore_32 : decode b_M_findBefore 32 = .ok (.aload_n 0, 1) := by decide +kernel
theorem d_M_findBefore_33 : decode b_M_findBefore 33 = .ok (.getfield 57, 3) := by decide +kernel
theorem d_M_findBefore_36 : decode b_M_findBefore 36 = .ok (.iload 5, 2) := by decide +kernel
theorem d_M_findBefore_38 : decode b_M_findBefore 38 = .ok (.aload_n 0, 1) := by decide +kernel
theorem d_M_findBefore_39 : decode b_M_findBefore 39 = .ok (.getfield 16, 3) := by decide +kernel
theorem d_M_findBefore_42 : decode b_M_findBefore 42 = .ok (.iload 5, 2) := by decide +kernel
theorem d_M_findBefore_44 : decode b_M_findBefore 44 = .ok (.iaload, 1) := by decide +kernel
theorem d_M_findBefore_45 : decode b_M_findBefore 45 = .ok (.iastore, 1) := by decide +kernel
theorem d_M_findBefore_46 : decode b_M_findBefore 46 = .ok (.iload 4, 2) := by decide +kernel
theorem d_M_findBefore_48 : decode b_M_findBefore 48 = .ok (.iload_n 1, 1) := by decide +kernel
theorem d_M_findBefore_49 : decode b_M_findBefore 49 = .ok (.iconst 1, 1) := by decide +kernel
theorem d_M_findBefore_50 : decode b_M_findBefore 50 = .ok (.iadd, 1) := by decide +kernel
theorem d_M_findBefore_51 : decode b_M_findBefore 51 = .ok (.imul, 1) := by decide +kernel
theorem d_M_findBefore_52 : decode b_M_findBefore 52 = .ok (.istore 4, 2) := by decide +kernel
theorem d_M_findBefore_54 : decode b_M_findBefore 54 = .ok (.iinc 5 1, 3) := by decide +kernel
theorem d_M_findBefore_57 : decode b_M_findBefore 57 = .ok (.goto (-34), 3) := by decide +kernel
theorem d_M_findBefore_60 : decode b_M_findBefore 60 = .ok (.aload_n 0, 1) := by decide +kernel
theorem d_M_findBefore_61 : decode b_M_findBefore 61 = .ok (.getfield 26, 3) := by decide +kernel
theorem d_M_findBefore_64 : decode b_M_findBefore 64 = .ok (.istore 5, 2) := by decide +kernel
theorem d_M_findBefore_66 : decode b_M_findBefore 66 = .ok (.iconst 0, 1) := by decide +kernel
theorem d_M_findBefore_67 : decode b_M_findBefore 67 = .ok (.istore 6, 2) := by decide +kernel
theorem d_M_findBefore_69 : decode b_M_findBefore 69 = .ok (.iload 6, 2) := by decide +kernel
theorem d_M_findBefore_71 : decode b_M_findBefore 71 = .ok (.iload 4, 2) := by decide +kernel
theorem d_M_findBefore_73 : decode b_M_findBefore 73 = .ok (.if_icmp .ge 163, 3) := by decide +kernel
theorem d_M_findBefore_76 : decode b_M_findBefore 76 = .ok (.iload 6, 2) := by decide +kernel
theorem d_M_findBefore_78 : decode b_M_findBefore 78 = .ok (.istore 7, 2) := by decide +kernel
theorem d_M_findBefore_80 : decode b_M_findBefore 80 = .ok (.aload_n 0, 1) := by decide +kernel
theorem d_M_findBefore_81 : decode b_M_findBefore 81 = .ok (.getfield 78, 3) := by decide +kernel
theorem d_M_findBefore_84 : decode b_M_findBefore 84 = .ok (.iconst 1, 1) := by decide +kernel
theorem d_M_findBefore_85 : decode b_M_findBefore 85 = .ok (.isub, 1) := by decide +kernel
theorem d_M_findBefore_86 : decode b_M_findBefore 86 = .ok (.istore 8, 2) := by decide +kernel
theorem d_M_findBefore_88 : decode b_M_findBefore 88 = .ok (.iload 8, 2) := by decide +kernel
theorem d_M_findBefore_90 : decode b_M_findBefore 90 = .ok (.ifCond .lt 44, 3) := by decide +kernel
theorem d_M_findBefore_93 : decode b_M_findBefore 93 = .ok (.aload_n 0, 1) := by decide +kernel
theorem d_M_findBefore_94 : decode b_M_findBefore 94 = .ok (.getfield 60, 3) := by decide +kernel
theorem d_M_findBefore_97 : decode b_M_findBefore 97 = .ok (.iload 8, 2) := by decide +kernel
theorem d_M_findBefore_99 : decode b_M_findBefore 99 = .ok (.iload 7, 2) := by decide +kernel
theorem d_M_findBefore_101 : decode b_M_findBefore 101 = .ok (.iload_n 1, 1) := by decide +kernel
theorem d_M_findBefore_102 : decode b_M_findBefore 102 = .ok (.iconst 1, 1) := by decide +kernel
theorem d_M_findBefore_103 : decode b_M_findBefore 103 = .ok (.iadd, 1) := by decide +kernel
theorem d_M_findBefore_104 : decode b_M_findBefore 104 = .ok (.irem, 1) := by decide +kernel
theorem d_M_findBefore_105 : decode b_M_findBefore 105 = .ok (.iastore, 1) := by decide +kernel
theorem d_M_findBefore_106 : decode b_M_findBefore 106 = .ok (.aload_n 0, 1) := by decide +kernel
theorem d_M_findBefore_107 : decode b_M_findBefore 107 = .ok (.getfield 16, 3) := by decide +kernel
theorem d_M_findBefore_110 : decode b_M_findBefore 110 = .ok (.iload 8, 2) := by decide +kernel
theorem d_M_findBefore_112 : decode b_M_findBefore 112 = .ok (.aload_n 0, 1) := by decide +kernel
theorem d_M_findBefore_113 : decode b_M_findBefore 113 = .ok (.getfield 60, 3) := by decide +kernel
theorem d_M_findBefore_116 : decode b_M_findBefore 116 = .ok (.iload 8, 2) := by decide +kernel
theorem d_M_findBefore_118 : decode b_M_findBefore 118 = .ok (.iaload, 1) := by decide +kernel
theorem d_M_findBefore_119 : decode b_M_findBefore 119 = .ok (.iastore, 1) := by decide +kernel
theorem d_M_findBefore_120 : decode b_M_findBefore 120 = .ok (.iload 7, 2) := by decide +kernel
theorem d_M_findBefore_122 : decode b_M_findBefore 122 = .ok (.iload_n 1, 1) := by decide +kernel
theorem d_M_findBefore_123 : decode b_M_findBefore 123 = .ok (.iconst 1, 1) := by decide +kernel
theorem d_M_findBefore_124 : decode b_M_findBefore 124 = .ok (.iadd, 1) := by decide +kernel
theorem d_M_findBefore_125 : decode b_M_findBefore 125 = .ok (.idiv, 1) := by decide +kernel
theorem d_M_findBefore_126 : decode b_M_findBefore 126 = .ok (.istore 7, 2) := by decide +kernel
theorem d_M_findBefore_128 : decode b_M_findBefore 128 = .ok (.iinc 8 (-1), 3) := by decide +kernel
theorem d_M_findBefore_131 : decode b_M_findBefore 131 = .ok (.goto (-43), 3) := by decide +kernel
theorem d_M_findBefore_134 : decode b_M_findBefore 134 = .ok (.aload_n 0, 1) := by decide +kernel
theorem d_M_findBefore_135 : decode b_M_findBefore 135 = .ok (.iload 5, 2) := by decide +kernel
theorem d_M_findBefore_137 : decode b_M_findBefore 137 = .ok (.putfield 26, 3) := by decide +kernel
theorem d_M_findBefore_140 : decode b_M_findBefore 140 = .ok (.aload_n 0, 1) := by decide +kernel
theorem d_M_findBefore_141 : decode b_M_findBefore 141 = .ok (.invokevirtual 165, 3) := by decide +kernel
theorem d_M_findBefore_144 : decode b_M_findBefore 144 = .ok (.iconst 1, 1) := by decide +kernel
theorem d_M_findBefore_145 : decode b_M_findBefore 145 = .ok (.istore 8, 2) := by decide +kernel
theorem d_M_findBefore_147 : decode b_M_findBefore 147 = .ok (.iconst 0, 1) := by decide +kernel
theorem d_M_findBefore_148 : decode b_M_findBefore 148 = .ok (.istore 9, 2) := by decide +kernel
theorem d_M_findBefore_150 : decode b_M_findBefore 150 = .ok (.iload 9, 2) := by decide +kernel
theorem d_M_findBefore_152 : decode b_M_findBefore 152 = .ok (.aload_n 0, 1) := by decide +kernel
theorem d_M_findBefore_153 : decode b_M_findBefore 153 = .ok (.getfield 78, 3) := by decide +kernel
theorem d_M_findBefore_156 : decode b_M_findBefore 156 = .ok (.if_icmp .ge 38, 3) := by decide +kernel
theorem d_M_findBefore_159 : decode b_M_findBefore 159 = .ok (.iload 8, 2) := by decide +kernel
theorem d_M_findBefore_161 : decode b_M_findBefore 161 = .ok (.ifCond .eq 24, 3) := by decide +kernel
theorem d_M_findBefore_164 : decode b_M_findBefore 164 = .ok (.aload_n 0, 1) := by decide +kernel
theorem d_M_findBefore_165 : decode b_M_findBefore 165 = .ok (.getfield 16, 3) := by decide +kernel
theorem d_M_findBefore_168 : decode b_M_findBefore 168 = .ok (.iload 9, 2) := by decide +kernel
theorem d_M_findBefore_170 : decode b_M_findBefore 170 = .ok (.iaload, 1) := by decide +kernel
theorem d_M_findBefore_171 : decode b_M_findBefore 171 = .ok (.aload_n 0, 1) := by decide +kernel
theorem d_M_findBefore_172 : decode b_M_findBefore 172 = .ok (.getfield 57, 3) := by decide +kernel
theorem d_M_findBefore_175 : decode b_M_findBefore 175 = .ok (.iload 9, 2) := by decide +kernel
theorem d_M_findBefore_177 : decode b_M_findBefore 177 = .ok (.iaload, 1) := by decide +kernel
theorem d_M_findBefore_178 : decode b_M_findBefore 178 = .ok (.if_icmp .ne 7, 3) := by decide +kernel
theorem d_M_findBefore_181 : decode b_M_findBefore 181 = .ok (.iconst 1, 1) := by decide +kernel
theorem d_M_findBefore_182 : decode b_M_findBefore 182 = .ok (.goto 4, 3) := by decide +kernel
theorem d_M_findBefore_185 : decode b_M_findBefore 185 = .ok (.iconst 0, 1) := by decide +kernel
theorem d_M_findBefore_186 : decode b_M_findBefore 186 = .ok (.istore 8, 2) := by decide +kernel
theorem d_M_findBefore_188 : decode b_M_findBefore 188 = .ok (.iinc 9 1, 3) := by decide +kernel
theorem d_M_findBefore_191 : decode b_M_findBefore 191 = .ok (.goto (-41), 3) := by decide +kernel
theorem d_M_findBefore_194 : decode b_M_findBefore 194 = .ok (.iload 8, 2) := by decide +kernel
theorem d_M_findBefore_196 : decode b_M_findBefore 196 = .ok (.ifCond .ne 6, 3) := by decide +kernel
theorem d_M_findBefore_199 : decode b_M_findBefore 199 = .ok (.goto 31, 3) := by decide +kernel
theorem d_M_findBefore_202 : decode b_M_findBefore 202 = .ok (.aload_n 0, 1) := by decide +kernel
theorem d_M_findBefore_203 : decode b_M_findBefore 203 = .ok (.getfield 217, 3) := by decide +kernel
theorem d_M_findBefore_206 : decode b_M_findBefore 206 = .ok (.iload_n 3, 1) := by decide +kernel
theorem d_M_findBefore_207 : decode b_M_findBefore 207 = .ok (.if_icmp .ne 13, 3) := by decide +kernel
theorem d_M_findBefore_210 : decode b_M_findBefore 210 = .ok (.aload_n 0, 1) := by decide +kernel
theorem d_M_findBefore_211 : decode b_M_findBefore 211 = .ok (.aload_n 0, 1) := by decide +kernel
theorem d_M_findBefore_212 : decode b_M_findBefore 212 = .ok (.getfield 60, 3) := by decide +kernel
theorem d_M_findBefore_215 : decode b_M_findBefore 215 = .ok (.iload_n 2, 1) := by decide +kernel
theorem d_M_findBefore_216 : decode b_M_findBefore 216 = .ok (.iaload, 1) := by decide +kernel
theorem d_M_findBefore_217 : decode b_M_findBefore 217 = .ok (.putfield 220, 3) := by decide +kernel
theorem d_M_findBefore_220 : decode b_M_findBefore 220 = .ok (.aload_n 0, 1) := by decide +kernel
theorem d_M_findBefore_221 : decode b_M_findBefore 221 = .ok (.dup, 1) := by decide +kernel
theorem d_M_findBefore_222 : decode b_M_findBefore 222 = .ok (.getfield 217, 3) := by decide +kernel
theorem d_M_findBefore_225 : decode b_M_findBefore 225 = .ok (.iconst 1, 1) := by decide +kernel
theorem d_M_findBefore_226 : decode b_M_findBefore 226 = .ok (.iadd, 1) := by decide +kernel
theorem d_M_findBefore_227 : decode b_M_findBefore 227 = .ok (.putfield 217, 3) := by decide +kernel
theorem d_M_findBefore_230 : decode b_M_findBefore 230 = .ok (.iinc 6 1, 3) := by decide +kernel
theorem d_M_findBefore_233 : decode b_M_findBefore 233 = .ok (.goto (-164), 3) := by decide +kernel
theorem d_M_findBefore_236 : decode b_M_findBefore 236 = .ok (.aload_n 0, 1) := by decide +kernel
theorem d_M_findBefore_237 : decode b_M_findBefore 237 = .ok (.iconst 1, 1) := by decide +kernel
theorem d_M_findBefore_238 : decode b_M_findBefore 238 = .ok (.iconst 0, 1) := by decide +kernel
theorem d_M_findBefore_239 : decode b_M_findBefore 239 = .ok (.invokevirtual 119, 3) := by decide +kernel
theorem d_M_findBefore_242 : decode b_M_findBefore 242 = .ok (.return_, 1) := by decide +kernel
set_option maxHeartbeats 4000000 in
set_option maxRecDepth 100000 in
theorem c_M_findBefore {l : Launch} {D : va_G} {cI cJ cC : ClassId} (a_h a_h_refused a_h_kind a_h_sweets a_h_gives a_h_tape a_h_letter a_h_letterAt a_h_one a_h_two a_h_kept a_h_trail a_h_crumb a_h_nextCrumb a_h_goal a_h_start a_h_sits a_h_bestSits a_h_without a_h_row : Nat) (y_h_taped : Int32) (y_h_at : Int32) (y_h_statements : Int32) (y_h_hasImage : Int32) (y_h_lots : Int32) (y_h_rowMany : Int32) {z_h_T : MT} {z_h_beforeMany : Int32} {z_h_found : Int32} {z_h_goal : (Nat → Int32)} {z_h_start : (Nat → Int32)} {x1 : Int32} {x2 : Int32} {x3 : Int32} {q : MT × Int32 × Int32 × (Nat → Int32) × (Nat → Int32)} (hf : f_M_findBefore z_h_T z_h_beforeMany z_h_found z_h_goal z_h_start x1 x2 x3 = some q) : xV l y_M_findBefore b_M_findBefore 10 3 66 D (tyK cI cJ cC) xE0 [.ref a_h, .int x1, .int x2, .int x3] (w_M_findBefore cI cJ cC a_h a_h_refused a_h_kind a_h_sweets a_h_gives a_h_tape a_h_letter a_h_letterAt a_h_one a_h_two a_h_kept a_h_trail a_h_crumb a_h_nextCrumb a_h_goal a_h_start a_h_sits a_h_bestSits a_h_without a_h_row y_h_taped y_h_at y_h_statements y_h_hasImage y_h_lots y_h_rowMany (m_many z_h_T) (m_odd z_h_T) (m_step z_h_T) (m_bag z_h_T) (m_strokes z_h_T) (m_gave z_h_T) (m_threw z_h_T) (m_isKeeping z_h_T) (m_cursor z_h_T) z_h_beforeMany z_h_found (m_kind z_h_T) (m_sweets z_h_T) (m_gives z_h_T) (m_kept z_h_T) z_h_goal z_h_start) (w_M_findBefore cI cJ cC a_h a_h_refused a_h_kind a_h_sweets a_h_gives a_h_tape a_h_letter a_h_letterAt a_h_one a_h_two a_h_kept a_h_trail a_h_crumb a_h_nextCrumb a_h_goal a_h_start a_h_sits a_h_bestSits a_h_without a_h_row y_h_taped y_h_at y_h_statements y_h_hasImage y_h_lots y_h_rowMany (m_many q.1) (m_odd q.1) (m_step q.1) (m_bag q.1) (m_strokes q.1) (m_gave q.1) (m_threw q.1) (m_isKeeping q.1) (m_cursor q.1) q.2.1 q.2.2.1 (m_kind q.1) (m_sweets q.1) (m_gives q.1) (m_kept q.1) q.2.2.2.1 q.2.2.2.2) := by
  refine xV_of (by decide) (Nat.le_of_ble_eq_true rfl) ?_
  intro p e s m args below meth c A Q hx hb hml hown hT hA hP hD hK hS hE hret ls hl
  have hown : s.vm.findClass R_M = some m.cls := hown
  have hl : lv_has ls 10 [(0, .ref a_h), (1, .int x1), (2, .int x2), (3, .int x3)] := hl
  unfold f_M_findBefore at hf
  have L23 : ∀ (z_h_T : MT) (z_h_beforeMany : Int32) (z_h_found : Int32) (z_h_start : (Nat → Int32)) (k : (Nat → Int32) → Int32 → Option (MT × Int32 × Int32 × (Nat → Int32) × (Nat → Int32))), (∀ (z_h_goal : (Nat → Int32)) (x4 : Int32) (H : Heap) (locs : List Loc) (ls : Array Slot), k z_h_goal x4 = some q → va_P D classes (w_M_findBefore cI cJ cC a_h a_h_refused a_h_kind a_h_sweets a_h_gives a_h_tape a_h_letter a_h_letterAt a_h_one a_h_two a_h_kept a_h_trail a_h_crumb a_h_nextCrumb a_h_goal a_h_start a_h_sits a_h_bestSits a_h_without a_h_row y_h_taped y_h_at y_h_statements y_h_hasImage y_h_lots y_h_rowMany (m_many z_h_T) (m_odd z_h_T) (m_step z_h_T) (m_bag z_h_T) (m_strokes z_h_T) (m_gave z_h_T) (m_threw z_h_T) (m_isKeeping z_h_T) (m_cursor z_h_T) z_h_beforeMany z_h_found (m_kind z_h_T) (m_sweets z_h_T) (m_gives z_h_T) (m_kept z_h_T) z_h_goal z_h_start) H → va_D A (w_M_findBefore cI cJ cC a_h a_h_refused a_h_kind a_h_sweets a_h_gives a_h_tape a_h_letter a_h_letterAt a_h_one a_h_two a_h_kept a_h_trail a_h_crumb a_h_nextCrumb a_h_goal a_h_start a_h_sits a_h_bestSits a_h_without a_h_row y_h_taped y_h_at y_h_statements y_h_hasImage y_h_lots y_h_rowMany (m_many z_h_T) (m_odd z_h_T) (m_step z_h_T) (m_bag z_h_T) (m_strokes z_h_T) (m_gave z_h_T) (m_threw z_h_T) (m_isKeeping z_h_T) (m_cursor z_h_T) z_h_beforeMany z_h_found (m_kind z_h_T) (m_sweets z_h_T) (m_gives z_h_T) (m_kept z_h_T) z_h_goal z_h_start) → va_S A s.heap H locs → lv_has ls 10 [(0, .ref a_h), (1, .int x1), (2, .int x2), (3, .int x3), (4, .int x4)] → W p l e (xRm 3 66) s m args below meth c H locs 0 0 Q (F0 m 60 ls [])) → ∀ (n : Nat) (z_h_goal : (Nat → Int32)) (x4 : Int32) (x5 : Int32) (H : Heap) (locs : List Loc) (ls : Array Slot), f_M_findBefore_L23 z_h_T x1 k n z_h_goal x4 x5 = some q → va_P D classes (w_M_findBefore cI cJ cC a_h a_h_refused a_h_kind a_h_sweets a_h_gives a_h_tape a_h_letter a_h_letterAt a_h_one a_h_two a_h_kept a_h_trail a_h_crumb a_h_nextCrumb a_h_goal a_h_start a_h_sits a_h_bestSits a_h_without a_h_row y_h_taped y_h_at y_h_statements y_h_hasImage y_h_lots y_h_rowMany (m_many z_h_T) (m_odd z_h_T) (m_step z_h_T) (m_bag z_h_T) (m_strokes z_h_T) (m_gave z_h_T) (m_threw z_h_T) (m_isKeeping z_h_T) (m_cursor z_h_T) z_h_beforeMany z_h_found (m_kind z_h_T) (m_sweets z_h_T) (m_gives z_h_T) (m_kept z_h_T) z_h_goal z_h_start) H → va_D A (w_M_findBefore cI cJ cC a_h a_h_refused a_h_kind a_h_sweets a_h_gives a_h_tape a_h_letter a_h_letterAt a_h_one a_h_two a_h_kept a_h_trail a_h_crumb a_h_nextCrumb a_h_goal a_h_start a_h_sits a_h_bestSits a_h_without a_h_row y_h_taped y_h_at y_h_statements y_h_hasImage y_h_lots y_h_rowMany (m_many z_h_T) (m_odd z_h_T) (m_step z_h_T) (m_bag z_h_T) (m_strokes z_h_T) (m_gave z_h_T) (m_threw z_h_T) (m_isKeeping z_h_T) (m_cursor z_h_T) z_h_beforeMany z_h_found (m_kind z_h_T) (m_sweets z_h_T) (m_gives z_h_T) (m_kept z_h_T) z_h_goal z_h_start) → va_S A s.heap H locs → lv_has ls 10 [(0, .ref a_h), (1, .int x1), (2, .int x2), (3, .int x3), (4, .int x4), (5, .int x5)] → W p l e (xRm 3 66) s m args below meth c H locs 0 0 Q (F0 m 23 ls []) := by
    intro z_h_T z_h_beforeMany z_h_found z_h_start k hk n
    induction n with
    | zero => intro z_h_goal x4 x5 H locs ls hf hP hD hS hl; exact nomatch (show (none : Option (MT × Int32 × Int32 × (Nat → Int32) × (Nat → Int32))) = some q from hf)
    | succ n ih =>
      intro z_h_goal x4 x5 H locs ls hf hP hD hS hl
      refine lv_iload hx hb d_M_findBefore_23 (lv_at hl 5 rfl) ?_
      refine lv_aload_n hx hb d_M_findBefore_25 rfl (lv_at hl 0 rfl) ?_
      refine va_get hx hb hT i_M hown hK hP 0 rfl rfl 4 (Nat.le_of_ble_eq_true rfl) (hT _ k_762) (fun _ h => h) rfl d_M_findBefore_26 ?_
      refine lv_icmp_ge (tgt := 60) hx hb d_M_findBefore_29 (by decide) (fun c2 => ?_) (fun c2 => ?_)
      · have hf := io_t hf c2
        exact hk z_h_goal x4 _ _ _ hf hP hD hS (lv_sub hl [0, 1, 2, 3, 4] rfl)
      · have hf := io_f hf c2
        refine lv_aload_n hx hb d_M_findBefore_32 rfl (lv_at hl 0 rfl) ?_
        refine va_get hx hb hT i_M hown hK hP 0 rfl rfl 26 (Nat.le_of_ble_eq_true rfl) (hT _ k_784) (fun _ h => h) rfl d_M_findBefore_33 ?_
        refine lv_iload hx hb d_M_findBefore_36 (lv_at hl 5 rfl) ?_
        refine lv_aload_n hx hb d_M_findBefore_38 rfl (lv_at hl 0 rfl) ?_
        refine va_get hx hb hT i_M hown hK hP 0 rfl rfl 2 (Nat.le_of_ble_eq_true rfl) (hT _ k_760) (fun _ h => h) rfl d_M_findBefore_39 ?_
        refine lv_iload hx hb d_M_findBefore_42 (lv_at hl 5 rfl) ?_
        obtain ⟨c3, hf⟩ := io_n hf
        refine x_iald hx hb hK hP 2 0 rfl rfl (j := x5.toNatClampNeg) rfl c3 d_M_findBefore_44 ?_
        refine x_iast hx hb hK hP hD hS 5 0 rfl rfl (j := x5.toNatClampNeg) rfl c3 d_M_findBefore_45 (fun H locs hP hD hS => ?_)
        have hP : va_P D classes (w_M_findBefore cI cJ cC a_h a_h_refused a_h_kind a_h_sweets a_h_gives a_h_tape a_h_letter a_h_letterAt a_h_one a_h_two a_h_kept a_h_trail a_h_crumb a_h_nextCrumb a_h_goal a_h_start a_h_sits a_h_bestSits a_h_without a_h_row y_h_taped y_h_at y_h_statements y_h_hasImage y_h_lots y_h_rowMany (m_many z_h_T) (m_odd z_h_T) (m_step z_h_T) (m_bag z_h_T) (m_strokes z_h_T) (m_gave z_h_T) (m_threw z_h_T) (m_isKeeping z_h_T) (m_cursor z_h_T) z_h_beforeMany z_h_found (m_kind z_h_T) (m_sweets z_h_T) (m_gives z_h_T) (m_kept z_h_T) (upd z_h_goal x5.toNatClampNeg ((m_sweets z_h_T) x5.toNatClampNeg)) z_h_start) H := hP
        have hD : va_D A (w_M_findBefore cI cJ cC a_h a_h_refused a_h_kind a_h_sweets a_h_gives a_h_tape a_h_letter a_h_letterAt a_h_one a_h_two a_h_kept a_h_trail a_h_crumb a_h_nextCrumb a_h_goal a_h_start a_h_sits a_h_bestSits a_h_without a_h_row y_h_taped y_h_at y_h_statements y_h_hasImage y_h_lots y_h_rowMany (m_many z_h_T) (m_odd z_h_T) (m_step z_h_T) (m_bag z_h_T) (m_strokes z_h_T) (m_gave z_h_T) (m_threw z_h_T) (m_isKeeping z_h_T) (m_cursor z_h_T) z_h_beforeMany z_h_found (m_kind z_h_T) (m_sweets z_h_T) (m_gives z_h_T) (m_kept z_h_T) (upd z_h_goal x5.toNatClampNeg ((m_sweets z_h_T) x5.toNatClampNeg)) z_h_start) := hD
        refine lv_iload hx hb d_M_findBefore_46 (lv_at hl 4 rfl) ?_
        refine lv_iload_n hx hb d_M_findBefore_48 rfl (lv_at hl 1 rfl) ?_
        refine lv_iconst (v := 1) hx hb d_M_findBefore_49 (by decide) ?_
        refine lv_iadd hx hb d_M_findBefore_50 ?_
        refine lv_imul hx hb d_M_findBefore_51 ?_
        refine lv_istore (lv' := [(4, .int (x4 * (x1 + 1))), (0, .ref a_h), (1, .int x1), (2, .int x2), (3, .int x3), (5, .int x5)]) hx hb d_M_findBefore_52 hl (by decide) rfl (fun ls hl => ?_)
        refine lv_iinc (v := (x5 + 1)) (lv' := [(5, .int (x5 + 1)), (4, .int (x4 * (x1 + 1))), (0, .ref a_h), (1, .int x1), (2, .int x2), (3, .int x3)]) hx hb d_M_findBefore_54 hl (k := 5) rfl (by rfl) (by decide) rfl (fun ls hl => ?_)
        refine lv_goto (tgt := 23) hx hb d_M_findBefore_57 (by decide) ?_
        exact ih (upd z_h_goal x5.toNatClampNeg ((m_sweets z_h_T) x5.toNatClampNeg)) (x4 * (x1 + 1)) (x5 + 1) _ _ _ hf hP hD hS (lv_sub hl [2, 3, 4, 5, 1, 0] rfl)
  have L88 : ∀ (z_h_beforeMany : Int32) (z_h_found : Int32) (z_h_goal : (Nat → Int32)) (x4 : Int32) (x5 : Int32) (x6 : Int32) (k : MT → (Nat → Int32) → Option (MT × Int32 × Int32 × (Nat → Int32) × (Nat → Int32))), (∀ (z_h_T : MT) (z_h_start : (Nat → Int32)) (H : Heap) (locs : List Loc) (ls : Array Slot), k z_h_T z_h_start = some q → va_P D classes (w_M_findBefore cI cJ cC a_h a_h_refused a_h_kind a_h_sweets a_h_gives a_h_tape a_h_letter a_h_letterAt a_h_one a_h_two a_h_kept a_h_trail a_h_crumb a_h_nextCrumb a_h_goal a_h_start a_h_sits a_h_bestSits a_h_without a_h_row y_h_taped y_h_at y_h_statements y_h_hasImage y_h_lots y_h_rowMany (m_many z_h_T) (m_odd z_h_T) (m_step z_h_T) (m_bag z_h_T) (m_strokes z_h_T) (m_gave z_h_T) (m_threw z_h_T) (m_isKeeping z_h_T) (m_cursor z_h_T) z_h_beforeMany z_h_found (m_kind z_h_T) (m_sweets z_h_T) (m_gives z_h_T) (m_kept z_h_T) z_h_goal z_h_start) H → va_D A (w_M_findBefore cI cJ cC a_h a_h_refused a_h_kind a_h_sweets a_h_gives a_h_tape a_h_letter a_h_letterAt a_h_one a_h_two a_h_kept a_h_trail a_h_crumb a_h_nextCrumb a_h_goal a_h_start a_h_sits a_h_bestSits a_h_without a_h_row y_h_taped y_h_at y_h_statements y_h_hasImage y_h_lots y_h_rowMany (m_many z_h_T) (m_odd z_h_T) (m_step z_h_T) (m_bag z_h_T) (m_strokes z_h_T) (m_gave z_h_T) (m_threw z_h_T) (m_isKeeping z_h_T) (m_cursor z_h_T) z_h_beforeMany z_h_found (m_kind z_h_T) (m_sweets z_h_T) (m_gives z_h_T) (m_kept z_h_T) z_h_goal z_h_start) → va_S A s.heap H locs → lv_has ls 10 [(0, .ref a_h), (1, .int x1), (2, .int x2), (3, .int x3), (4, .int x4), (5, .int x5), (6, .int x6)] → W p l e (xRm 3 66) s m args below meth c H locs 0 0 Q (F0 m 134 ls [])) → ∀ (n : Nat) (z_h_T : MT) (z_h_start : (Nat → Int32)) (x7 : Int32) (x8 : Int32) (H : Heap) (locs : List Loc) (ls : Array Slot), f_M_findBefore_L88 x1 k n z_h_T z_h_start x7 x8 = some q → va_P D classes (w_M_findBefore cI cJ cC a_h a_h_refused a_h_kind a_h_sweets a_h_gives a_h_tape a_h_letter a_h_letterAt a_h_one a_h_two a_h_kept a_h_trail a_h_crumb a_h_nextCrumb a_h_goal a_h_start a_h_sits a_h_bestSits a_h_without a_h_row y_h_taped y_h_at y_h_statements y_h_hasImage y_h_lots y_h_rowMany (m_many z_h_T) (m_odd z_h_T) (m_step z_h_T) (m_bag z_h_T) (m_strokes z_h_T) (m_gave z_h_T) (m_threw z_h_T) (m_isKeeping z_h_T) (m_cursor z_h_T) z_h_beforeMany z_h_found (m_kind z_h_T) (m_sweets z_h_T) (m_gives z_h_T) (m_kept z_h_T) z_h_goal z_h_start) H → va_D A (w_M_findBefore cI cJ cC a_h a_h_refused a_h_kind a_h_sweets a_h_gives a_h_tape a_h_letter a_h_letterAt a_h_one a_h_two a_h_kept a_h_trail a_h_crumb a_h_nextCrumb a_h_goal a_h_start a_h_sits a_h_bestSits a_h_without a_h_row y_h_taped y_h_at y_h_statements y_h_hasImage y_h_lots y_h_rowMany (m_many z_h_T) (m_odd z_h_T) (m_step z_h_T) (m_bag z_h_T) (m_strokes z_h_T) (m_gave z_h_T) (m_threw z_h_T) (m_isKeeping z_h_T) (m_cursor z_h_T) z_h_beforeMany z_h_found (m_kind z_h_T) (m_sweets z_h_T) (m_gives z_h_T) (m_kept z_h_T) z_h_goal z_h_start) → va_S A s.heap H locs → lv_has ls 10 [(0, .ref a_h), (1, .int x1), (2, .int x2), (3, .int x3), (4, .int x4), (5, .int x5), (6, .int x6), (7, .int x7), (8, .int x8)] → W p l e (xRm 3 66) s m args below meth c H locs 0 0 Q (F0 m 88 ls []) := by
    intro z_h_beforeMany z_h_found z_h_goal x4 x5 x6 k hk n
    induction n with
    | zero => intro z_h_T z_h_start x7 x8 H locs ls hf hP hD hS hl; exact nomatch (show (none : Option (MT × Int32 × Int32 × (Nat → Int32) × (Nat → Int32))) = some q from hf)
    | succ n ih =>
      intro z_h_T z_h_start x7 x8 H locs ls hf hP hD hS hl
      refine lv_iload hx hb d_M_findBefore_88 (lv_at hl 8 rfl) ?_
      refine lv_if_lt (tgt := 134) hx hb d_M_findBefore_90 (by decide) (fun c6 => ?_) (fun c6 => ?_)
      · have hf := io_t hf c6
        exact hk z_h_T z_h_start _ _ _ hf hP hD hS (lv_sub hl [0, 1, 2, 3, 4, 5, 6] rfl)
      · have hf := io_f hf c6
        refine lv_aload_n hx hb d_M_findBefore_93 rfl (lv_at hl 0 rfl) ?_
        refine va_get hx hb hT i_M hown hK hP 0 rfl rfl 27 (Nat.le_of_ble_eq_true rfl) (hT _ k_785) (fun _ h => h) rfl d_M_findBefore_94 ?_
        refine lv_iload hx hb d_M_findBefore_97 (lv_at hl 8 rfl) ?_
        refine lv_iload hx hb d_M_findBefore_99 (lv_at hl 7 rfl) ?_
        refine lv_iload_n hx hb d_M_findBefore_101 rfl (lv_at hl 1 rfl) ?_
        refine lv_iconst (v := 1) hx hb d_M_findBefore_102 (by decide) ?_
        refine lv_iadd hx hb d_M_findBefore_103 ?_
        obtain ⟨c7, hf⟩ := io_n hf
        refine x_irem hx hb d_M_findBefore_104 c7 ?_
        obtain ⟨c8, hf⟩ := io_n hf
        refine x_iast hx hb hK hP hD hS 6 0 rfl rfl (j := x8.toNatClampNeg) rfl c8 d_M_findBefore_105 (fun H locs hP hD hS => ?_)
        have hP : va_P D classes (w_M_findBefore cI cJ cC a_h a_h_refused a_h_kind a_h_sweets a_h_gives a_h_tape a_h_letter a_h_letterAt a_h_one a_h_two a_h_kept a_h_trail a_h_crumb a_h_nextCrumb a_h_goal a_h_start a_h_sits a_h_bestSits a_h_without a_h_row y_h_taped y_h_at y_h_statements y_h_hasImage y_h_lots y_h_rowMany (m_many z_h_T) (m_odd z_h_T) (m_step z_h_T) (m_bag z_h_T) (m_strokes z_h_T) (m_gave z_h_T) (m_threw z_h_T) (m_isKeeping z_h_T) (m_cursor z_h_T) z_h_beforeMany z_h_found (m_kind z_h_T) (m_sweets z_h_T) (m_gives z_h_T) (m_kept z_h_T) z_h_goal (upd z_h_start x8.toNatClampNeg (x7 % (x1 + 1)))) H := hP
        have hD : va_D A (w_M_findBefore cI cJ cC a_h a_h_refused a_h_kind a_h_sweets a_h_gives a_h_tape a_h_letter a_h_letterAt a_h_one a_h_two a_h_kept a_h_trail a_h_crumb a_h_nextCrumb a_h_goal a_h_start a_h_sits a_h_bestSits a_h_without a_h_row y_h_taped y_h_at y_h_statements y_h_hasImage y_h_lots y_h_rowMany (m_many z_h_T) (m_odd z_h_T) (m_step z_h_T) (m_bag z_h_T) (m_strokes z_h_T) (m_gave z_h_T) (m_threw z_h_T) (m_isKeeping z_h_T) (m_cursor z_h_T) z_h_beforeMany z_h_found (m_kind z_h_T) (m_sweets z_h_T) (m_gives z_h_T) (m_kept z_h_T) z_h_goal (upd z_h_start x8.toNatClampNeg (x7 % (x1 + 1)))) := hD
        refine lv_aload_n hx hb d_M_findBefore_106 rfl (lv_at hl 0 rfl) ?_
        refine va_get hx hb hT i_M hown hK hP 0 rfl rfl 2 (Nat.le_of_ble_eq_true rfl) (hT _ k_760) (fun _ h => h) rfl d_M_findBefore_107 ?_
        refine lv_iload hx hb d_M_findBefore_110 (lv_at hl 8 rfl) ?_
        refine lv_aload_n hx hb d_M_findBefore_112 rfl (lv_at hl 0 rfl) ?_
        refine va_get hx hb hT i_M hown hK hP 0 rfl rfl 27 (Nat.le_of_ble_eq_true rfl) (hT _ k_785) (fun _ h => h) rfl d_M_findBefore_113 ?_
        refine lv_iload hx hb d_M_findBefore_116 (lv_at hl 8 rfl) ?_
        refine x_iald hx hb hK hP 6 0 rfl rfl (j := x8.toNatClampNeg) rfl c8 d_M_findBefore_118 ?_
        refine x_iast hx hb hK hP hD hS 2 0 rfl rfl (j := x8.toNatClampNeg) rfl c8 d_M_findBefore_119 (fun H locs hP hD hS => ?_)
        have hP : va_P D classes (w_M_findBefore cI cJ cC a_h a_h_refused a_h_kind a_h_sweets a_h_gives a_h_tape a_h_letter a_h_letterAt a_h_one a_h_two a_h_kept a_h_trail a_h_crumb a_h_nextCrumb a_h_goal a_h_start a_h_sits a_h_bestSits a_h_without a_h_row y_h_taped y_h_at y_h_statements y_h_hasImage y_h_lots y_h_rowMany (m_many z_h_T) (m_odd z_h_T) (m_step z_h_T) (m_bag z_h_T) (m_strokes z_h_T) (m_gave z_h_T) (m_threw z_h_T) (m_isKeeping z_h_T) (m_cursor z_h_T) z_h_beforeMany z_h_found (m_kind z_h_T) (upd (m_sweets z_h_T) x8.toNatClampNeg ((upd z_h_start x8.toNatClampNeg (x7 % (x1 + 1))) x8.toNatClampNeg)) (m_gives z_h_T) (m_kept z_h_T) z_h_goal (upd z_h_start x8.toNatClampNeg (x7 % (x1 + 1)))) H := hP
        have hD : va_D A (w_M_findBefore cI cJ cC a_h a_h_refused a_h_kind a_h_sweets a_h_gives a_h_tape a_h_letter a_h_letterAt a_h_one a_h_two a_h_kept a_h_trail a_h_crumb a_h_nextCrumb a_h_goal a_h_start a_h_sits a_h_bestSits a_h_without a_h_row y_h_taped y_h_at y_h_statements y_h_hasImage y_h_lots y_h_rowMany (m_many z_h_T) (m_odd z_h_T) (m_step z_h_T) (m_bag z_h_T) (m_strokes z_h_T) (m_gave z_h_T) (m_threw z_h_T) (m_isKeeping z_h_T) (m_cursor z_h_T) z_h_beforeMany z_h_found (m_kind z_h_T) (upd (m_sweets z_h_T) x8.toNatClampNeg ((upd z_h_start x8.toNatClampNeg (x7 % (x1 + 1))) x8.toNatClampNeg)) (m_gives z_h_T) (m_kept z_h_T) z_h_goal (upd z_h_start x8.toNatClampNeg (x7 % (x1 + 1)))) := hD
        refine lv_iload hx hb d_M_findBefore_120 (lv_at hl 7 rfl) ?_
        refine lv_iload_n hx hb d_M_findBefore_122 rfl (lv_at hl 1 rfl) ?_
        refine lv_iconst (v := 1) hx hb d_M_findBefore_123 (by decide) ?_
        refine lv_iadd hx hb d_M_findBefore_124 ?_
        refine x_idiv hx hb d_M_findBefore_125 c7 ?_
        refine lv_istore (lv' := [(7, .int (x7 / (x1 + 1))), (0, .ref a_h), (1, .int x1), (2, .int x2), (3, .int x3), (4, .int x4), (5, .int x5), (6, .int x6), (8, .int x8)]) hx hb d_M_findBefore_126 hl (by decide) rfl (fun ls hl => ?_)
        refine lv_iinc (v := (x8 + (-1))) (lv' := [(8, .int (x8 + (-1))), (7, .int (x7 / (x1 + 1))), (0, .ref a_h), (1, .int x1), (2, .int x2), (3, .int x3), (4, .int x4), (5, .int x5), (6, .int x6)]) hx hb d_M_findBefore_128 hl (k := 8) rfl (by rfl) (by decide) rfl (fun ls hl => ?_)
        refine lv_goto (tgt := 88) hx hb d_M_findBefore_131 (by decide) ?_
        exact ih ((m_kind z_h_T), (upd (m_sweets z_h_T) x8.toNatClampNeg ((upd z_h_start x8.toNatClampNeg (x7 % (x1 + 1))) x8.toNatClampNeg)), (m_gives z_h_T), (m_kept z_h_T), (m_many z_h_T), (m_odd z_h_T), (m_step z_h_T), (m_bag z_h_T), (m_strokes z_h_T), (m_gave z_h_T), (m_threw z_h_T), (m_isKeeping z_h_T), (m_cursor z_h_T)) (upd z_h_start x8.toNatClampNeg (x7 % (x1 + 1))) (x7 / (x1 + 1)) (x8 + (-1)) _ _ _ hf hP hD hS (lv_sub hl [2, 3, 4, 5, 6, 7, 8, 1, 0] rfl)
  have L150 : ∀ (z_h_T : MT) (z_h_beforeMany : Int32) (z_h_found : Int32) (z_h_goal : (Nat → Int32)) (z_h_start : (Nat → Int32)) (x4 : Int32) (x5 : Int32) (x6 : Int32) (k : Int32 → Option (MT × Int32 × Int32 × (Nat → Int32) × (Nat → Int32))), (∀ (x8 : Int32) (H : Heap) (locs : List Loc) (ls : Array Slot), k x8 = some q → va_P D classes (w_M_findBefore cI cJ cC a_h a_h_refused a_h_kind a_h_sweets a_h_gives a_h_tape a_h_letter a_h_letterAt a_h_one a_h_two a_h_kept a_h_trail a_h_crumb a_h_nextCrumb a_h_goal a_h_start a_h_sits a_h_bestSits a_h_without a_h_row y_h_taped y_h_at y_h_statements y_h_hasImage y_h_lots y_h_rowMany (m_many z_h_T) (m_odd z_h_T) (m_step z_h_T) (m_bag z_h_T) (m_strokes z_h_T) (m_gave z_h_T) (m_threw z_h_T) (m_isKeeping z_h_T) (m_cursor z_h_T) z_h_beforeMany z_h_found (m_kind z_h_T) (m_sweets z_h_T) (m_gives z_h_T) (m_kept z_h_T) z_h_goal z_h_start) H → va_D A (w_M_findBefore cI cJ cC a_h a_h_refused a_h_kind a_h_sweets a_h_gives a_h_tape a_h_letter a_h_letterAt a_h_one a_h_two a_h_kept a_h_trail a_h_crumb a_h_nextCrumb a_h_goal a_h_start a_h_sits a_h_bestSits a_h_without a_h_row y_h_taped y_h_at y_h_statements y_h_hasImage y_h_lots y_h_rowMany (m_many z_h_T) (m_odd z_h_T) (m_step z_h_T) (m_bag z_h_T) (m_strokes z_h_T) (m_gave z_h_T) (m_threw z_h_T) (m_isKeeping z_h_T) (m_cursor z_h_T) z_h_beforeMany z_h_found (m_kind z_h_T) (m_sweets z_h_T) (m_gives z_h_T) (m_kept z_h_T) z_h_goal z_h_start) → va_S A s.heap H locs → lv_has ls 10 [(0, .ref a_h), (1, .int x1), (2, .int x2), (3, .int x3), (4, .int x4), (5, .int x5), (6, .int x6), (8, .int x8)] → W p l e (xRm 3 66) s m args below meth c H locs 0 0 Q (F0 m 194 ls [])) → ∀ (n : Nat) (x8 : Int32) (x9 : Int32) (H : Heap) (locs : List Loc) (ls : Array Slot), f_M_findBefore_L150 z_h_T z_h_goal k n x8 x9 = some q → va_P D classes (w_M_findBefore cI cJ cC a_h a_h_refused a_h_kind a_h_sweets a_h_gives a_h_tape a_h_letter a_h_letterAt a_h_one a_h_two a_h_kept a_h_trail a_h_crumb a_h_nextCrumb a_h_goal a_h_start a_h_sits a_h_bestSits a_h_without a_h_row y_h_taped y_h_at y_h_statements y_h_hasImage y_h_lots y_h_rowMany (m_many z_h_T) (m_odd z_h_T) (m_step z_h_T) (m_bag z_h_T) (m_strokes z_h_T) (m_gave z_h_T) (m_threw z_h_T) (m_isKeeping z_h_T) (m_cursor z_h_T) z_h_beforeMany z_h_found (m_kind z_h_T) (m_sweets z_h_T) (m_gives z_h_T) (m_kept z_h_T) z_h_goal z_h_start) H → va_D A (w_M_findBefore cI cJ cC a_h a_h_refused a_h_kind a_h_sweets a_h_gives a_h_tape a_h_letter a_h_letterAt a_h_one a_h_two a_h_kept a_h_trail a_h_crumb a_h_nextCrumb a_h_goal a_h_start a_h_sits a_h_bestSits a_h_without a_h_row y_h_taped y_h_at y_h_statements y_h_hasImage y_h_lots y_h_rowMany (m_many z_h_T) (m_odd z_h_T) (m_step z_h_T) (m_bag z_h_T) (m_strokes z_h_T) (m_gave z_h_T) (m_threw z_h_T) (m_isKeeping z_h_T) (m_cursor z_h_T) z_h_beforeMany z_h_found (m_kind z_h_T) (m_sweets z_h_T) (m_gives z_h_T) (m_kept z_h_T) z_h_goal z_h_start) → va_S A s.heap H locs → lv_has ls 10 [(0, .ref a_h), (1, .int x1), (2, .int x2), (3, .int x3), (4, .int x4), (5, .int x5), (6, .int x6), (8, .int x8), (9, .int x9)] → W p l e (xRm 3 66) s m args below meth c H locs 0 0 Q (F0 m 150 ls []) := by
    intro z_h_T z_h_beforeMany z_h_found z_h_goal z_h_start x4 x5 x6 k hk n
    induction n with
    | zero => intro x8 x9 H locs ls hf hP hD hS hl; exact nomatch (show (none : Option (MT × Int32 × Int32 × (Nat → Int32) × (Nat → Int32))) = some q from hf)
    | succ n ih =>
      intro x8 x9 H locs ls hf hP hD hS hl
      refine lv_iload hx hb d_M_findBefore_150 (lv_at hl 8 rfl) ?_
      refine lv_aload_n hx hb d_M_findBefore_152 rfl (lv_at hl 0 rfl) ?_
      refine va_get hx hb hT i_M hown hK hP 0 rfl rfl 4 (Nat.le_of_ble_eq_true rfl) (hT _ k_762) (fun _ h => h) rfl d_M_findBefore_153 ?_
      refine lv_icmp_ge (tgt := 194) hx hb d_M_findBefore_156 (by decide) (fun c11 => ?_) (fun c11 => ?_)
      · have hf := io_t hf c11
        exact hk x8 _ _ _ hf hP hD hS (lv_sub hl [0, 1, 2, 3, 4, 5, 6, 7] rfl)
      · have hf := io_f hf c11
        refine lv_iload hx hb d_M_findBefore_159 (lv_at hl 7 rfl) ?_
        refine lv_if_eq (tgt := 185) hx hb d_M_findBefore_161 (by decide) (fun c12 => ?_) (fun c12 => ?_)
        · have hf := io_t hf c12
          refine lv_iconst (v := 0) hx hb d_M_findBefore_185 (by decide) ?_
          refine lv_istore (lv' := [(8, .int 0), (0, .ref a_h), (1, .int x1), (2, .int x2), (3, .int x3), (4, .int x4), (5, .int x5), (6, .int x6), (9, .int x9)]) hx hb d_M_findBefore_186 hl (by decide) rfl (fun ls hl => ?_)
          refine lv_iinc (v := (x9 + 1)) (lv' := [(9, .int (x9 + 1)), (8, .int 0), (0, .ref a_h), (1, .int x1), (2, .int x2), (3, .int x3), (4, .int x4), (5, .int x5), (6, .int x6)]) hx hb d_M_findBefore_188 hl (k := 8) rfl (by rfl) (by decide) rfl (fun ls hl => ?_)
          refine lv_goto (tgt := 150) hx hb d_M_findBefore_191 (by decide) ?_
          exact ih 0 (x9 + 1) _ _ _ hf hP hD hS (lv_sub hl [2, 3, 4, 5, 6, 7, 8, 1, 0] rfl)
        · have hf := io_f hf c12
          refine lv_aload_n hx hb d_M_findBefore_164 rfl (lv_at hl 0 rfl) ?_
          refine va_get hx hb hT i_M hown hK hP 0 rfl rfl 2 (Nat.le_of_ble_eq_true rfl) (hT _ k_760) (fun _ h => h) rfl d_M_findBefore_165 ?_
          refine lv_iload hx hb d_M_findBefore_168 (lv_at hl 8 rfl) ?_
          obtain ⟨c13, hf⟩ := io_n hf
          refine x_iald hx hb hK hP 2 0 rfl rfl (j := x9.toNatClampNeg) rfl c13 d_M_findBefore_170 ?_
          refine lv_aload_n hx hb d_M_findBefore_171 rfl (lv_at hl 0 rfl) ?_
          refine va_get hx hb hT i_M hown hK hP 0 rfl rfl 26 (Nat.le_of_ble_eq_true rfl) (hT _ k_784) (fun _ h => h) rfl d_M_findBefore_172 ?_
          refine lv_iload hx hb d_M_findBefore_175 (lv_at hl 8 rfl) ?_
          refine x_iald hx hb hK hP 5 0 rfl rfl (j := x9.toNatClampNeg) rfl c13 d_M_findBefore_177 ?_
          refine lv_icmp_ne (tgt := 185) hx hb d_M_findBefore_178 (by decide) (fun c14 => ?_) (fun c14 => ?_)
          · have hf := io_f hf c14
            refine lv_iconst (v := 0) hx hb d_M_findBefore_185 (by decide) ?_
            refine lv_istore (lv' := [(8, .int 0), (0, .ref a_h), (1, .int x1), (2, .int x2), (3, .int x3), (4, .int x4), (5, .int x5), (6, .int x6), (9, .int x9)]) hx hb d_M_findBefore_186 hl (by decide) rfl (fun ls hl => ?_)
            refine lv_iinc (v := (x9 + 1)) (lv' := [(9, .int (x9 + 1)), (8, .int 0), (0, .ref a_h), (1, .int x1), (2, .int x2), (3, .int x3), (4, .int x4), (5, .int x5), (6, .int x6)]) hx hb d_M_findBefore_188 hl (k := 8) rfl (by rfl) (by decide) rfl (fun ls hl => ?_)
            refine lv_goto (tgt := 150) hx hb d_M_findBefore_191 (by decide) ?_
            exact ih 0 (x9 + 1) _ _ _ hf hP hD hS (lv_sub hl [2, 3, 4, 5, 6, 7, 8, 1, 0] rfl)
          · have hf := io_t hf c14
            refine lv_iconst (v := 1) hx hb d_M_findBefore_181 (by decide) ?_
            refine lv_goto (tgt := 186) hx hb d_M_findBefore_182 (by decide) ?_
            refine lv_istore (lv' := [(8, .int 1), (0, .ref a_h), (1, .int x1), (2, .int x2), (3, .int x3), (4, .int x4), (5, .int x5), (6, .int x6), (9, .int x9)]) hx hb d_M_findBefore_186 hl (by decide) rfl (fun ls hl => ?_)
            refine lv_iinc (v := (x9 + 1)) (lv' := [(9, .int (x9 + 1)), (8, .int 1), (0, .ref a_h), (1, .int x1), (2, .int x2), (3, .int x3), (4, .int x4), (5, .int x5), (6, .int x6)]) hx hb d_M_findBefore_188 hl (k := 8) rfl (by rfl) (by decide) rfl (fun ls hl => ?_)
            refine lv_goto (tgt := 150) hx hb d_M_findBefore_191 (by decide) ?_
            exact ih 1 (x9 + 1) _ _ _ hf hP hD hS (lv_sub hl [2, 3, 4, 5, 6, 7, 8, 1, 0] rfl)
  have L69 : ∀ (z_h_goal : (Nat → Int32)) (x4 : Int32) (x5 : Int32) (k : MT → Int32 → Int32 → (Nat → Int32) → Option (MT × Int32 × Int32 × (Nat → Int32) × (Nat → Int32))), (∀ (z_h_T : MT) (z_h_beforeMany : Int32) (z_h_found : Int32) (z_h_start : (Nat → Int32)) (H : Heap) (locs : List Loc) (ls : Array Slot), k z_h_T z_h_beforeMany z_h_found z_h_start = some q → va_P D classes (w_M_findBefore cI cJ cC a_h a_h_refused a_h_kind a_h_sweets a_h_gives a_h_tape a_h_letter a_h_letterAt a_h_one a_h_two a_h_kept a_h_trail a_h_crumb a_h_nextCrumb a_h_goal a_h_start a_h_sits a_h_bestSits a_h_without a_h_row y_h_taped y_h_at y_h_statements y_h_hasImage y_h_lots y_h_rowMany (m_many z_h_T) (m_odd z_h_T) (m_step z_h_T) (m_bag z_h_T) (m_strokes z_h_T) (m_gave z_h_T) (m_threw z_h_T) (m_isKeeping z_h_T) (m_cursor z_h_T) z_h_beforeMany z_h_found (m_kind z_h_T) (m_sweets z_h_T) (m_gives z_h_T) (m_kept z_h_T) z_h_goal z_h_start) H → va_D A (w_M_findBefore cI cJ cC a_h a_h_refused a_h_kind a_h_sweets a_h_gives a_h_tape a_h_letter a_h_letterAt a_h_one a_h_two a_h_kept a_h_trail a_h_crumb a_h_nextCrumb a_h_goal a_h_start a_h_sits a_h_bestSits a_h_without a_h_row y_h_taped y_h_at y_h_statements y_h_hasImage y_h_lots y_h_rowMany (m_many z_h_T) (m_odd z_h_T) (m_step z_h_T) (m_bag z_h_T) (m_strokes z_h_T) (m_gave z_h_T) (m_threw z_h_T) (m_isKeeping z_h_T) (m_cursor z_h_T) z_h_beforeMany z_h_found (m_kind z_h_T) (m_sweets z_h_T) (m_gives z_h_T) (m_kept z_h_T) z_h_goal z_h_start) → va_S A s.heap H locs → lv_has ls 10 [(0, .ref a_h)] → W p l e (xRm 3 66) s m args below meth c H locs 0 0 Q (F0 m 236 ls [])) → ∀ (n : Nat) (z_h_T : MT) (z_h_beforeMany : Int32) (z_h_found : Int32) (z_h_start : (Nat → Int32)) (x6 : Int32) (H : Heap) (locs : List Loc) (ls : Array Slot), f_M_findBefore_L69 z_h_goal x1 x2 x3 x4 x5 k n z_h_T z_h_beforeMany z_h_found z_h_start x6 = some q → va_P D classes (w_M_findBefore cI cJ cC a_h a_h_refused a_h_kind a_h_sweets a_h_gives a_h_tape a_h_letter a_h_letterAt a_h_one a_h_two a_h_kept a_h_trail a_h_crumb a_h_nextCrumb a_h_goal a_h_start a_h_sits a_h_bestSits a_h_without a_h_row y_h_taped y_h_at y_h_statements y_h_hasImage y_h_lots y_h_rowMany (m_many z_h_T) (m_odd z_h_T) (m_step z_h_T) (m_bag z_h_T) (m_strokes z_h_T) (m_gave z_h_T) (m_threw z_h_T) (m_isKeeping z_h_T) (m_cursor z_h_T) z_h_beforeMany z_h_found (m_kind z_h_T) (m_sweets z_h_T) (m_gives z_h_T) (m_kept z_h_T) z_h_goal z_h_start) H → va_D A (w_M_findBefore cI cJ cC a_h a_h_refused a_h_kind a_h_sweets a_h_gives a_h_tape a_h_letter a_h_letterAt a_h_one a_h_two a_h_kept a_h_trail a_h_crumb a_h_nextCrumb a_h_goal a_h_start a_h_sits a_h_bestSits a_h_without a_h_row y_h_taped y_h_at y_h_statements y_h_hasImage y_h_lots y_h_rowMany (m_many z_h_T) (m_odd z_h_T) (m_step z_h_T) (m_bag z_h_T) (m_strokes z_h_T) (m_gave z_h_T) (m_threw z_h_T) (m_isKeeping z_h_T) (m_cursor z_h_T) z_h_beforeMany z_h_found (m_kind z_h_T) (m_sweets z_h_T) (m_gives z_h_T) (m_kept z_h_T) z_h_goal z_h_start) → va_S A s.heap H locs → lv_has ls 10 [(0, .ref a_h), (1, .int x1), (2, .int x2), (3, .int x3), (4, .int x4), (5, .int x5), (6, .int x6)] → W p l e (xRm 3 66) s m args below meth c H locs 0 0 Q (F0 m 69 ls []) := by
    intro z_h_goal x4 x5 k hk n
    induction n with
    | zero => intro z_h_T z_h_beforeMany z_h_found z_h_start x6 H locs ls hf hP hD hS hl; exact nomatch (show (none : Option (MT × Int32 × Int32 × (Nat → Int32) × (Nat → Int32))) = some q from hf)
    | succ n ih =>
      intro z_h_T z_h_beforeMany z_h_found z_h_start x6 H locs ls hf hP hD hS hl
      refine lv_iload hx hb d_M_findBefore_69 (lv_at hl 6 rfl) ?_
      refine lv_iload hx hb d_M_findBefore_71 (lv_at hl 4 rfl) ?_
      refine lv_icmp_ge (tgt := 236) hx hb d_M_findBefore_73 (by decide) (fun c5 => ?_) (fun c5 => ?_)
      · have hf := io_t hf c5
        exact hk z_h_T z_h_beforeMany z_h_found z_h_start _ _ _ hf hP hD hS (lv_sub hl [0] rfl)
      · have hf := io_f hf c5
        refine lv_iload hx hb d_M_findBefore_76 (lv_at hl 6 rfl) ?_
        refine lv_istore (lv' := [(7, .int x6), (0, .ref a_h), (1, .int x1), (2, .int x2), (3, .int x3), (4, .int x4), (5, .int x5), (6, .int x6)]) hx hb d_M_findBefore_78 hl (by decide) rfl (fun ls hl => ?_)
        refine lv_aload_n hx hb d_M_findBefore_80 rfl (lv_at hl 1 rfl) ?_
        refine va_get hx hb hT i_M hown hK hP 0 rfl rfl 4 (Nat.le_of_ble_eq_true rfl) (hT _ k_762) (fun _ h => h) rfl d_M_findBefore_81 ?_
        refine lv_iconst (v := 1) hx hb d_M_findBefore_84 (by decide) ?_
        refine lv_isub hx hb d_M_findBefore_85 ?_
        refine lv_istore (lv' := [(8, .int ((m_many z_h_T) - 1)), (7, .int x6), (0, .ref a_h), (1, .int x1), (2, .int x2), (3, .int x3), (4, .int x4), (5, .int x5), (6, .int x6)]) hx hb d_M_findBefore_86 hl (by decide) rfl (fun ls hl => ?_)
        refine L88 z_h_beforeMany z_h_found z_h_goal x4 x5 x6 _ (fun z_h_T_9 z_h_start_9 H locs ls hf hP hD hS hl => ?_) FU z_h_T z_h_start x6 ((m_many z_h_T) - 1) _ _ _ hf hP hD hS (lv_sub hl [2, 3, 4, 5, 6, 7, 8, 1, 0] rfl)
        refine lv_aload_n hx hb d_M_findBefore_134 rfl (lv_at hl 0 rfl) ?_
        refine lv_iload hx hb d_M_findBefore_135 (lv_at hl 5 rfl) ?_
        refine va_put (ty := .int) hx hb hT i_M t_M t_M_ok n_M hown hK hP hD hS 0 rfl rfl 7 (Nat.le_of_ble_eq_true rfl) (hT _ k_765) (fun _ h => h) rfl rfl rfl rfl (Nat.le_of_ble_eq_true rfl) d_M_findBefore_137 (fun H locs hP hD hS => ?_)
        have hP : va_P D classes (w_M_findBefore cI cJ cC a_h a_h_refused a_h_kind a_h_sweets a_h_gives a_h_tape a_h_letter a_h_letterAt a_h_one a_h_two a_h_kept a_h_trail a_h_crumb a_h_nextCrumb a_h_goal a_h_start a_h_sits a_h_bestSits a_h_without a_h_row y_h_taped y_h_at y_h_statements y_h_hasImage y_h_lots y_h_rowMany (m_many z_h_T_9) (m_odd z_h_T_9) (m_step z_h_T_9) x5 (m_strokes z_h_T_9) (m_gave z_h_T_9) (m_threw z_h_T_9) (m_isKeeping z_h_T_9) (m_cursor z_h_T_9) z_h_beforeMany z_h_found (m_kind z_h_T_9) (m_sweets z_h_T_9) (m_gives z_h_T_9) (m_kept z_h_T_9) z_h_goal z_h_start_9) H := hP
        have hD : va_D A (w_M_findBefore cI cJ cC a_h a_h_refused a_h_kind a_h_sweets a_h_gives a_h_tape a_h_letter a_h_letterAt a_h_one a_h_two a_h_kept a_h_trail a_h_crumb a_h_nextCrumb a_h_goal a_h_start a_h_sits a_h_bestSits a_h_without a_h_row y_h_taped y_h_at y_h_statements y_h_hasImage y_h_lots y_h_rowMany (m_many z_h_T_9) (m_odd z_h_T_9) (m_step z_h_T_9) x5 (m_strokes z_h_T_9) (m_gave z_h_T_9) (m_threw z_h_T_9) (m_isKeeping z_h_T_9) (m_cursor z_h_T_9) z_h_beforeMany z_h_found (m_kind z_h_T_9) (m_sweets z_h_T_9) (m_gives z_h_T_9) (m_kept z_h_T_9) z_h_goal z_h_start_9) := hD
        refine lv_aload_n hx hb d_M_findBefore_140 rfl (lv_at hl 0 rfl) ?_
        obtain ⟨q10, hq10, hf⟩ := io_b hf
        refine xcVV (wc := (w_M_goesOnce cI cJ cC a_h a_h_refused a_h_kind a_h_sweets a_h_gives a_h_tape a_h_letter a_h_letterAt a_h_one a_h_two a_h_kept a_h_trail a_h_crumb a_h_nextCrumb a_h_goal a_h_start a_h_sits a_h_bestSits a_h_without a_h_row y_h_taped y_h_at y_h_statements y_h_hasImage z_h_beforeMany z_h_found y_h_lots y_h_rowMany (m_many z_h_T_9) (m_odd z_h_T_9) (m_step z_h_T_9) x5 (m_strokes z_h_T_9) (m_gave z_h_T_9) (m_threw z_h_T_9) (m_isKeeping z_h_T_9) (m_cursor z_h_T_9) (m_kind z_h_T_9) (m_sweets z_h_T_9) (m_gives z_h_T_9) (m_kept z_h_T_9))) (wc' := (w_M_goesOnce cI cJ cC a_h a_h_refused a_h_kind a_h_sweets a_h_gives a_h_tape a_h_letter a_h_letterAt a_h_one a_h_two a_h_kept a_h_trail a_h_crumb a_h_nextCrumb a_h_goal a_h_start a_h_sits a_h_bestSits a_h_without a_h_row y_h_taped y_h_at y_h_statements y_h_hasImage z_h_beforeMany z_h_found y_h_lots y_h_rowMany (m_many q10) (m_odd q10) (m_step q10) (m_bag q10) (m_strokes q10) (m_gave q10) (m_threw q10) (m_isKeeping q10) (m_cursor q10) (m_kind q10) (m_sweets q10) (m_gives q10) (m_kept q10))) (ws' := (w_M_findBefore cI cJ cC a_h a_h_refused a_h_kind a_h_sweets a_h_gives a_h_tape a_h_letter a_h_letterAt a_h_one a_h_two a_h_kept a_h_trail a_h_crumb a_h_nextCrumb a_h_goal a_h_start a_h_sits a_h_bestSits a_h_without a_h_row y_h_taped y_h_at y_h_statements y_h_hasImage y_h_lots y_h_rowMany (m_many q10) (m_odd q10) (m_step q10) (m_bag q10) (m_strokes q10) (m_gave q10) (m_threw q10) (m_isKeeping q10) (m_cursor q10) z_h_beforeMany z_h_found (m_kind q10) (m_sweets q10) (m_gives q10) (m_kept q10) z_h_goal z_h_start_9)) (As := []) (rest := []) hx hb hml hown hT (c_M_goesOnce (z_h_T := ((m_kind z_h_T_9), (m_sweets z_h_T_9), (m_gives z_h_T_9), (m_kept z_h_T_9), (m_many z_h_T_9), (m_odd z_h_T_9), (m_step z_h_T_9), x5, (m_strokes z_h_T_9), (m_gave z_h_T_9), (m_threw z_h_T_9), (m_isKeeping z_h_T_9), (m_cursor z_h_T_9))) a_h a_h_refused a_h_kind a_h_sweets a_h_gives a_h_tape a_h_letter a_h_letterAt a_h_one a_h_two a_h_kept a_h_trail a_h_crumb a_h_nextCrumb a_h_goal a_h_start a_h_sits a_h_bestSits a_h_without a_h_row y_h_taped y_h_at y_h_statements y_h_hasImage z_h_beforeMany z_h_found y_h_lots y_h_rowMany hq10) k_968 k_970 ks_37 k_8 k_971 hd_M_goesOnce ⟨Nat.le_of_ble_eq_true rfl, Nat.le_of_ble_eq_true rfl⟩ xE0_ok trivial hA hK hP hD hS [0, 1, 2, 3, 4] [5, 6] [2, 3, 4, 5, 6, 0, 1] rfl rfl rfl rfl rfl rfl rfl rfl rfl rfl hl.1 rfl (Nat.le_of_ble_eq_true rfl) ⟨Nat.zero_le _, Nat.zero_le _⟩ d_M_findBefore_141 (fun H locs hP hD hS => ?_)
        refine lv_iconst (v := 1) hx hb d_M_findBefore_144 (by decide) ?_
        refine lv_istore (lv' := [(8, .int 1), (0, .ref a_h), (1, .int x1), (2, .int x2), (3, .int x3), (4, .int x4), (5, .int x5), (6, .int x6)]) hx hb d_M_findBefore_145 hl (by decide) rfl (fun ls hl => ?_)
        refine lv_iconst (v := 0) hx hb d_M_findBefore_147 (by decide) ?_
        refine lv_istore (lv' := [(9, .int 0), (8, .int 1), (0, .ref a_h), (1, .int x1), (2, .int x2), (3, .int x3), (4, .int x4), (5, .int x5), (6, .int x6)]) hx hb d_M_findBefore_148 hl (by decide) rfl (fun ls hl => ?_)
        refine L150 q10 z_h_beforeMany z_h_found z_h_goal z_h_start_9 x4 x5 x6 _ (fun x8_15 H locs ls hf hP hD hS hl => ?_) FU 1 0 _ _ _ hf hP hD hS (lv_sub hl [2, 3, 4, 5, 6, 7, 8, 1, 0] rfl)
        refine lv_iload hx hb d_M_findBefore_194 (lv_at hl 7 rfl) ?_
        refine lv_if_ne (tgt := 202) hx hb d_M_findBefore_196 (by decide) (fun c16 => ?_) (fun c16 => ?_)
        · have hf := io_f hf c16
          refine lv_aload_n hx hb d_M_findBefore_202 rfl (lv_at hl 0 rfl) ?_
          refine va_get hx hb hT i_M hown hK hP 0 rfl rfl 28 (Nat.le_of_ble_eq_true rfl) (hT _ k_786) (fun _ h => h) rfl d_M_findBefore_203 ?_
          refine lv_iload_n hx hb d_M_findBefore_206 rfl (lv_at hl 3 rfl) ?_
          refine lv_icmp_ne (tgt := 220) hx hb d_M_findBefore_207 (by decide) (fun c17 => ?_) (fun c17 => ?_)
          · have hf := io_f hf c17
            refine lv_aload_n hx hb d_M_findBefore_220 rfl (lv_at hl 0 rfl) ?_
            refine lv_dup hx hb d_M_findBefore_221 rfl ?_
            refine va_get hx hb hT i_M hown hK hP 0 rfl rfl 28 (Nat.le_of_ble_eq_true rfl) (hT _ k_786) (fun _ h => h) rfl d_M_findBefore_222 ?_
            refine lv_iconst (v := 1) hx hb d_M_findBefore_225 (by decide) ?_
            refine lv_iadd hx hb d_M_findBefore_226 ?_
            refine va_put (ty := .int) hx hb hT i_M t_M t_M_ok n_M hown hK hP hD hS 0 rfl rfl 28 (Nat.le_of_ble_eq_true rfl) (hT _ k_786) (fun _ h => h) rfl rfl rfl rfl (Nat.le_of_ble_eq_true rfl) d_M_findBefore_227 (fun H locs hP hD hS => ?_)
            have hP : va_P D classes (w_M_findBefore cI cJ cC a_h a_h_refused a_h_kind a_h_sweets a_h_gives a_h_tape a_h_letter a_h_letterAt a_h_one a_h_two a_h_kept a_h_trail a_h_crumb a_h_nextCrumb a_h_goal a_h_start a_h_sits a_h_bestSits a_h_without a_h_row y_h_taped y_h_at y_h_statements y_h_hasImage y_h_lots y_h_rowMany (m_many q10) (m_odd q10) (m_step q10) (m_bag q10) (m_strokes q10) (m_gave q10) (m_threw q10) (m_isKeeping q10) (m_cursor q10) (z_h_beforeMany + 1) z_h_found (m_kind q10) (m_sweets q10) (m_gives q10) (m_kept q10) z_h_goal z_h_start_9) H := hP
            have hD : va_D A (w_M_findBefore cI cJ cC a_h a_h_refused a_h_kind a_h_sweets a_h_gives a_h_tape a_h_letter a_h_letterAt a_h_one a_h_two a_h_kept a_h_trail a_h_crumb a_h_nextCrumb a_h_goal a_h_start a_h_sits a_h_bestSits a_h_without a_h_row y_h_taped y_h_at y_h_statements y_h_hasImage y_h_lots y_h_rowMany (m_many q10) (m_odd q10) (m_step q10) (m_bag q10) (m_strokes q10) (m_gave q10) (m_threw q10) (m_isKeeping q10) (m_cursor q10) (z_h_beforeMany + 1) z_h_found (m_kind q10) (m_sweets q10) (m_gives q10) (m_kept q10) z_h_goal z_h_start_9) := hD
            refine lv_iinc (v := (x6 + 1)) (lv' := [(6, .int (x6 + 1)), (0, .ref a_h), (1, .int x1), (2, .int x2), (3, .int x3), (4, .int x4), (5, .int x5), (8, .int x8_15)]) hx hb d_M_findBefore_230 hl (k := 6) rfl (by rfl) (by decide) rfl (fun ls hl => ?_)
            refine lv_goto (tgt := 69) hx hb d_M_findBefore_233 (by decide) ?_
            exact ih q10 (z_h_beforeMany + 1) z_h_found z_h_start_9 (x6 + 1) _ _ _ hf hP hD hS (lv_sub hl [1, 2, 3, 4, 5, 6, 0] rfl)
          · have hf := io_t hf c17
            refine lv_aload_n hx hb d_M_findBefore_210 rfl (lv_at hl 0 rfl) ?_
            refine lv_aload_n hx hb d_M_findBefore_211 rfl (lv_at hl 0 rfl) ?_
            refine va_get hx hb hT i_M hown hK hP 0 rfl rfl 27 (Nat.le_of_ble_eq_true rfl) (hT _ k_785) (fun _ h => h) rfl d_M_findBefore_212 ?_
            refine lv_iload_n hx hb d_M_findBefore_215 rfl (lv_at hl 2 rfl) ?_
            obtain ⟨c18, hf⟩ := io_n hf
            refine x_iald hx hb hK hP 6 0 rfl rfl (j := x2.toNatClampNeg) rfl c18 d_M_findBefore_216 ?_
            refine va_put (ty := .int) hx hb hT i_M t_M t_M_ok n_M hown hK hP hD hS 0 rfl rfl 29 (Nat.le_of_ble_eq_true rfl) (hT _ k_787) (fun _ h => h) rfl rfl rfl rfl (Nat.le_of_ble_eq_true rfl) d_M_findBefore_217 (fun H locs hP hD hS => ?_)
            have hP : va_P D classes (w_M_findBefore cI cJ cC a_h a_h_refused a_h_kind a_h_sweets a_h_gives a_h_tape a_h_letter a_h_letterAt a_h_one a_h_two a_h_kept a_h_trail a_h_crumb a_h_nextCrumb a_h_goal a_h_start a_h_sits a_h_bestSits a_h_without a_h_row y_h_taped y_h_at y_h_statements y_h_hasImage y_h_lots y_h_rowMany (m_many q10) (m_odd q10) (m_step q10) (m_bag q10) (m_strokes q10) (m_gave q10) (m_threw q10) (m_isKeeping q10) (m_cursor q10) z_h_beforeMany (z_h_start_9 x2.toNatClampNeg) (m_kind q10) (m_sweets q10) (m_gives q10) (m_kept q10) z_h_goal z_h_start_9) H := hP
            have hD : va_D A (w_M_findBefore cI cJ cC a_h a_h_refused a_h_kind a_h_sweets a_h_gives a_h_tape a_h_letter a_h_letterAt a_h_one a_h_two a_h_kept a_h_trail a_h_crumb a_h_nextCrumb a_h_goal a_h_start a_h_sits a_h_bestSits a_h_without a_h_row y_h_taped y_h_at y_h_statements y_h_hasImage y_h_lots y_h_rowMany (m_many q10) (m_odd q10) (m_step q10) (m_bag q10) (m_strokes q10) (m_gave q10) (m_threw q10) (m_isKeeping q10) (m_cursor q10) z_h_beforeMany (z_h_start_9 x2.toNatClampNeg) (m_kind q10) (m_sweets q10) (m_gives q10) (m_kept q10) z_h_goal z_h_start_9) := hD
            refine lv_aload_n hx hb d_M_findBefore_220 rfl (lv_at hl 0 rfl) ?_
            refine lv_dup hx hb d_M_findBefore_221 rfl ?_
            refine va_get hx hb hT i_M hown hK hP 0 rfl rfl 28 (Nat.le_of_ble_eq_true rfl) (hT _ k_786) (fun _ h => h) rfl d_M_findBefore_222 ?_
            refine lv_iconst (v := 1) hx hb d_M_findBefore_225 (by decide) ?_
            refine lv_iadd hx hb d_M_findBefore_226 ?_
            refine va_put (ty := .int) hx hb hT i_M t_M t_M_ok n_M hown hK hP hD hS 0 rfl rfl 28 (Nat.le_of_ble_eq_true rfl) (hT _ k_786) (fun _ h => h) rfl rfl rfl rfl (Nat.le_of_ble_eq_true rfl) d_M_findBefore_227 (fun H locs hP hD hS => ?_)
            have hP : va_P D classes (w_M_findBefore cI cJ cC a_h a_h_refused a_h_kind a_h_sweets a_h_gives a_h_tape a_h_letter a_h_letterAt a_h_one a_h_two a_h_kept a_h_trail a_h_crumb a_h_nextCrumb a_h_goal a_h_start a_h_sits a_h_bestSits a_h_without a_h_row y_h_taped y_h_at y_h_statements y_h_hasImage y_h_lots y_h_rowMany (m_many q10) (m_odd q10) (m_step q10) (m_bag q10) (m_strokes q10) (m_gave q10) (m_threw q10) (m_isKeeping q10) (m_cursor q10) (z_h_beforeMany + 1) (z_h_start_9 x2.toNatClampNeg) (m_kind q10) (m_sweets q10) (m_gives q10) (m_kept q10) z_h_goal z_h_start_9) H := hP
            have hD : va_D A (w_M_findBefore cI cJ cC a_h a_h_refused a_h_kind a_h_sweets a_h_gives a_h_tape a_h_letter a_h_letterAt a_h_one a_h_two a_h_kept a_h_trail a_h_crumb a_h_nextCrumb a_h_goal a_h_start a_h_sits a_h_bestSits a_h_without a_h_row y_h_taped y_h_at y_h_statements y_h_hasImage y_h_lots y_h_rowMany (m_many q10) (m_odd q10) (m_step q10) (m_bag q10) (m_strokes q10) (m_gave q10) (m_threw q10) (m_isKeeping q10) (m_cursor q10) (z_h_beforeMany + 1) (z_h_start_9 x2.toNatClampNeg) (m_kind q10) (m_sweets q10) (m_gives q10) (m_kept q10) z_h_goal z_h_start_9) := hD
            refine lv_iinc (v := (x6 + 1)) (lv' := [(6, .int (x6 + 1)), (0, .ref a_h), (1, .int x1), (2, .int x2), (3, .int x3), (4, .int x4), (5, .int x5), (8, .int x8_15)]) hx hb d_M_findBefore_230 hl (k := 6) rfl (by rfl) (by decide) rfl (fun ls hl => ?_)
            refine lv_goto (tgt := 69) hx hb d_M_findBefore_233 (by decide) ?_
            exact ih q10 (z_h_beforeMany + 1) (z_h_start_9 x2.toNatClampNeg) z_h_start_9 (x6 + 1) _ _ _ hf hP hD hS (lv_sub hl [1, 2, 3, 4, 5, 6, 0] rfl)
        · have hf := io_t hf c16
          refine lv_goto (tgt := 230) hx hb d_M_findBefore_199 (by decide) ?_
          refine lv_iinc (v := (x6 + 1)) (lv' := [(6, .int (x6 + 1)), (0, .ref a_h), (1, .int x1), (2, .int x2), (3, .int x3), (4, .int x4), (5, .int x5), (8, .int x8_15)]) hx hb d_M_findBefore_230 hl (k := 6) rfl (by rfl) (by decide) rfl (fun ls hl => ?_)
          refine lv_goto (tgt := 69) hx hb d_M_findBefore_233 (by decide) ?_
          exact ih q10 z_h_beforeMany z_h_found z_h_start_9 (x6 + 1) _ _ _ hf hP hD hS (lv_sub hl [1, 2, 3, 4, 5, 6, 0] rfl)
  refine lv_aload_n hx hb d_M_findBefore_0 rfl (lv_at hl 0 rfl) ?_
  refine lv_iconst (v := 0) hx hb d_M_findBefore_1 (by decide) ?_
  refine va_put (ty := .int) hx hb hT i_M t_M t_M_ok n_M hown hK hP hD hS 0 rfl rfl 28 (Nat.le_of_ble_eq_true rfl) (hT _ k_786) (fun _ h => h) rfl rfl rfl rfl (Nat.le_of_ble_eq_true rfl) d_M_findBefore_2 (fun H locs hP hD hS => ?_)
  have hP : va_P D classes (w_M_findBefore cI cJ cC a_h a_h_refused a_h_kind a_h_sweets a_h_gives a_h_tape a_h_letter a_h_letterAt a_h_one a_h_two a_h_kept a_h_trail a_h_crumb a_h_nextCrumb a_h_goal a_h_start a_h_sits a_h_bestSits a_h_without a_h_row y_h_taped y_h_at y_h_statements y_h_hasImage y_h_lots y_h_rowMany (m_many z_h_T) (m_odd z_h_T) (m_step z_h_T) (m_bag z_h_T) (m_strokes z_h_T) (m_gave z_h_T) (m_threw z_h_T) (m_isKeeping z_h_T) (m_cursor z_h_T) 0 z_h_found (m_kind z_h_T) (m_sweets z_h_T) (m_gives z_h_T) (m_kept z_h_T) z_h_goal z_h_start) H := hP
  have hD : va_D A (w_M_findBefore cI cJ cC a_h a_h_refused a_h_kind a_h_sweets a_h_gives a_h_tape a_h_letter a_h_letterAt a_h_one a_h_two a_h_kept a_h_trail a_h_crumb a_h_nextCrumb a_h_goal a_h_start a_h_sits a_h_bestSits a_h_without a_h_row y_h_taped y_h_at y_h_statements y_h_hasImage y_h_lots y_h_rowMany (m_many z_h_T) (m_odd z_h_T) (m_step z_h_T) (m_bag z_h_T) (m_strokes z_h_T) (m_gave z_h_T) (m_threw z_h_T) (m_isKeeping z_h_T) (m_cursor z_h_T) 0 z_h_found (m_kind z_h_T) (m_sweets z_h_T) (m_gives z_h_T) (m_kept z_h_T) z_h_goal z_h_start) := hD
  refine lv_aload_n hx hb d_M_findBefore_5 rfl (lv_at hl 0 rfl) ?_
  refine lv_bipush (v := (-9)) hx hb d_M_findBefore_6 (by decide) ?_
  refine va_put (ty := .int) hx hb hT i_M t_M t_M_ok n_M hown hK hP hD hS 0 rfl rfl 29 (Nat.le_of_ble_eq_true rfl) (hT _ k_787) (fun _ h => h) rfl rfl rfl rfl (Nat.le_of_ble_eq_true rfl) d_M_findBefore_8 (fun H locs hP hD hS => ?_)
  have hP : va_P D classes (w_M_findBefore cI cJ cC a_h a_h_refused a_h_kind a_h_sweets a_h_gives a_h_tape a_h_letter a_h_letterAt a_h_one a_h_two a_h_kept a_h_trail a_h_crumb a_h_nextCrumb a_h_goal a_h_start a_h_sits a_h_bestSits a_h_without a_h_row y_h_taped y_h_at y_h_statements y_h_hasImage y_h_lots y_h_rowMany (m_many z_h_T) (m_odd z_h_T) (m_step z_h_T) (m_bag z_h_T) (m_strokes z_h_T) (m_gave z_h_T) (m_threw z_h_T) (m_isKeeping z_h_T) (m_cursor z_h_T) 0 (-9) (m_kind z_h_T) (m_sweets z_h_T) (m_gives z_h_T) (m_kept z_h_T) z_h_goal z_h_start) H := hP
  have hD : va_D A (w_M_findBefore cI cJ cC a_h a_h_refused a_h_kind a_h_sweets a_h_gives a_h_tape a_h_letter a_h_letterAt a_h_one a_h_two a_h_kept a_h_trail a_h_crumb a_h_nextCrumb a_h_goal a_h_start a_h_sits a_h_bestSits a_h_without a_h_row y_h_taped y_h_at y_h_statements y_h_hasImage y_h_lots y_h_rowMany (m_many z_h_T) (m_odd z_h_T) (m_step z_h_T) (m_bag z_h_T) (m_strokes z_h_T) (m_gave z_h_T) (m_threw z_h_T) (m_isKeeping z_h_T) (m_cursor z_h_T) 0 (-9) (m_kind z_h_T) (m_sweets z_h_T) (m_gives z_h_T) (m_kept z_h_T) z_h_goal z_h_start) := hD
  refine lv_aload_n hx hb d_M_findBefore_11 rfl (lv_at hl 0 rfl) ?_
  refine lv_iconst (v := 1) hx hb d_M_findBefore_12 (by decide) ?_
  refine lv_iconst (v := 1) hx hb d_M_findBefore_13 (by decide) ?_
  obtain ⟨q1, hq1, hf⟩ := io_b hf
  refine xcVV (wc := (w_M_passesAll cI cJ cC a_h a_h_refused a_h_kind a_h_sweets a_h_gives a_h_tape a_h_letter a_h_letterAt a_h_one a_h_two a_h_kept a_h_trail a_h_crumb a_h_nextCrumb a_h_goal a_h_start a_h_sits a_h_bestSits a_h_without a_h_row y_h_taped y_h_at y_h_statements y_h_hasImage 0 (-9) y_h_lots y_h_rowMany (m_many z_h_T) (m_odd z_h_T) (m_step z_h_T) (m_bag z_h_T) (m_strokes z_h_T) (m_gave z_h_T) (m_threw z_h_T) (m_isKeeping z_h_T) (m_cursor z_h_T) (m_kind z_h_T) (m_sweets z_h_T) (m_gives z_h_T) (m_kept z_h_T))) (wc' := (w_M_passesAll cI cJ cC a_h a_h_refused a_h_kind a_h_sweets a_h_gives a_h_tape a_h_letter a_h_letterAt a_h_one a_h_two a_h_kept a_h_trail a_h_crumb a_h_nextCrumb a_h_goal a_h_start a_h_sits a_h_bestSits a_h_without a_h_row y_h_taped y_h_at y_h_statements y_h_hasImage 0 (-9) y_h_lots y_h_rowMany (m_many q1) (m_odd q1) (m_step q1) (m_bag q1) (m_strokes q1) (m_gave q1) (m_threw q1) (m_isKeeping q1) (m_cursor q1) (m_kind q1) (m_sweets q1) (m_gives q1) (m_kept q1))) (ws' := (w_M_findBefore cI cJ cC a_h a_h_refused a_h_kind a_h_sweets a_h_gives a_h_tape a_h_letter a_h_letterAt a_h_one a_h_two a_h_kept a_h_trail a_h_crumb a_h_nextCrumb a_h_goal a_h_start a_h_sits a_h_bestSits a_h_without a_h_row y_h_taped y_h_at y_h_statements y_h_hasImage y_h_lots y_h_rowMany (m_many q1) (m_odd q1) (m_step q1) (m_bag q1) (m_strokes q1) (m_gave q1) (m_threw q1) (m_isKeeping q1) (m_cursor q1) 0 (-9) (m_kind q1) (m_sweets q1) (m_gives q1) (m_kept q1) z_h_goal z_h_start)) (As := [.int 1, .int 1]) (rest := []) hx hb hml hown hT (c_M_passesAll (z_h_T := z_h_T) a_h a_h_refused a_h_kind a_h_sweets a_h_gives a_h_tape a_h_letter a_h_letterAt a_h_one a_h_two a_h_kept a_h_trail a_h_crumb a_h_nextCrumb a_h_goal a_h_start a_h_sits a_h_bestSits a_h_without a_h_row y_h_taped y_h_at y_h_statements y_h_hasImage 0 (-9) y_h_lots y_h_rowMany hq1) k_900 k_902 ks_28 k_8 k_903 hd_M_passesAll ⟨Nat.le_of_ble_eq_true rfl, Nat.le_of_ble_eq_true rfl⟩ xE0_ok trivial hA hK hP hD hS [0, 1, 2, 3, 4] [5, 6] [2, 3, 4, 5, 6, 0, 1] rfl rfl rfl rfl rfl rfl rfl rfl rfl rfl hl.1 rfl (Nat.le_of_ble_eq_true rfl) ⟨Nat.zero_le _, Nat.zero_le _⟩ d_M_findBefore_14 (fun H locs hP hD hS => ?_)
  refine lv_iconst (v := 1) hx hb d_M_findBefore_17 (by decide) ?_
  refine lv_istore (lv' := [(4, .int 1), (0, .ref a_h), (1, .int x1), (2, .int x2), (3, .int x3)]) hx hb d_M_findBefore_18 hl (by decide) rfl (fun ls hl => ?_)
  refine lv_iconst (v := 0) hx hb d_M_findBefore_20 (by decide) ?_
  refine lv_istore (lv' := [(5, .int 0), (4, .int 1), (0, .ref a_h), (1, .int x1), (2, .int x2), (3, .int x3)]) hx hb d_M_findBefore_21 hl (by decide) rfl (fun ls hl => ?_)
  refine L23 q1 0 (-9) z_h_start _ (fun z_h_goal_4 x4_4 H locs ls hf hP hD hS hl => ?_) FU z_h_goal 1 0 _ _ _ hf hP hD hS (lv_sub hl [2, 3, 4, 5, 1, 0] rfl)
  refine lv_aload_n hx hb d_M_findBefore_60 rfl (lv_at hl 0 rfl) ?_
  refine va_get hx hb hT i_M hown hK hP 0 rfl rfl 7 (Nat.le_of_ble_eq_true rfl) (hT _ k_765) (fun _ h => h) rfl d_M_findBefore_61 ?_
  refine lv_istore (lv' := [(5, .int (m_bag q1)), (0, .ref a_h), (1, .int x1), (2, .int x2), (3, .int x3), (4, .int x4_4)]) hx hb d_M_findBefore_64 hl (by decide) rfl (fun ls hl => ?_)
  refine lv_iconst (v := 0) hx hb d_M_findBefore_66 (by decide) ?_
  refine lv_istore (lv' := [(6, .int 0), (5, .int (m_bag q1)), (0, .ref a_h), (1, .int x1), (2, .int x2), (3, .int x3), (4, .int x4_4)]) hx hb d_M_findBefore_67 hl (by decide) rfl (fun ls hl => ?_)
  refine L69 z_h_goal_4 x4_4 (m_bag q1) _ (fun z_h_T_19 z_h_beforeMany_19 z_h_found_19 z_h_start_19 H locs ls hf hP hD hS hl => ?_) FU q1 0 (-9) z_h_start 0 _ _ _ hf hP hD hS (lv_sub hl [2, 3, 4, 5, 6, 1, 0] rfl)
  refine lv_aload_n hx hb d_M_findBefore_236 rfl (lv_at hl 0 rfl) ?_
  refine lv_iconst (v := 1) hx hb d_M_findBefore_237 (by decide) ?_
  refine lv_iconst (v := 0) hx hb d_M_findBefore_238 (by decide) ?_
  obtain ⟨q20, hq20, hf⟩ := io_b hf
  refine xcVV (wc := (w_M_passesAll cI cJ cC a_h a_h_refused a_h_kind a_h_sweets a_h_gives a_h_tape a_h_letter a_h_letterAt a_h_one a_h_two a_h_kept a_h_trail a_h_crumb a_h_nextCrumb a_h_goal a_h_start a_h_sits a_h_bestSits a_h_without a_h_row y_h_taped y_h_at y_h_statements y_h_hasImage z_h_beforeMany_19 z_h_found_19 y_h_lots y_h_rowMany (m_many z_h_T_19) (m_odd z_h_T_19) (m_step z_h_T_19) (m_bag z_h_T_19) (m_strokes z_h_T_19) (m_gave z_h_T_19) (m_threw z_h_T_19) (m_isKeeping z_h_T_19) (m_cursor z_h_T_19) (m_kind z_h_T_19) (m_sweets z_h_T_19) (m_gives z_h_T_19) (m_kept z_h_T_19))) (wc' := (w_M_passesAll cI cJ cC a_h a_h_refused a_h_kind a_h_sweets a_h_gives a_h_tape a_h_letter a_h_letterAt a_h_one a_h_two a_h_kept a_h_trail a_h_crumb a_h_nextCrumb a_h_goal a_h_start a_h_sits a_h_bestSits a_h_without a_h_row y_h_taped y_h_at y_h_statements y_h_hasImage z_h_beforeMany_19 z_h_found_19 y_h_lots y_h_rowMany (m_many q20) (m_odd q20) (m_step q20) (m_bag q20) (m_strokes q20) (m_gave q20) (m_threw q20) (m_isKeeping q20) (m_cursor q20) (m_kind q20) (m_sweets q20) (m_gives q20) (m_kept q20))) (ws' := (w_M_findBefore cI cJ cC a_h a_h_refused a_h_kind a_h_sweets a_h_gives a_h_tape a_h_letter a_h_letterAt a_h_one a_h_two a_h_kept a_h_trail a_h_crumb a_h_nextCrumb a_h_goal a_h_start a_h_sits a_h_bestSits a_h_without a_h_row y_h_taped y_h_at y_h_statements y_h_hasImage y_h_lots y_h_rowMany (m_many q20) (m_odd q20) (m_step q20) (m_bag q20) (m_strokes q20) (m_gave q20) (m_threw q20) (m_isKeeping q20) (m_cursor q20) z_h_beforeMany_19 z_h_found_19 (m_kind q20) (m_sweets q20) (m_gives q20) (m_kept q20) z_h_goal_4 z_h_start_19)) (As := [.int 1, .int 0]) (rest := []) hx hb hml hown hT (c_M_passesAll (z_h_T := z_h_T_19) a_h a_h_refused a_h_kind a_h_sweets a_h_gives a_h_tape a_h_letter a_h_letterAt a_h_one a_h_two a_h_kept a_h_trail a_h_crumb a_h_nextCrumb a_h_goal a_h_start a_h_sits a_h_bestSits a_h_without a_h_row y_h_taped y_h_at y_h_statements y_h_hasImage z_h_beforeMany_19 z_h_found_19 y_h_lots y_h_rowMany hq20) k_900 k_902 ks_28 k_8 k_903 hd_M_passesAll ⟨Nat.le_of_ble_eq_true rfl, Nat.le_of_ble_eq_true rfl⟩ xE0_ok trivial hA hK hP hD hS [0, 1, 2, 3, 4] [5, 6] [2, 3, 4, 5, 6, 0, 1] rfl rfl rfl rfl rfl rfl rfl rfl rfl rfl hl.1 rfl (Nat.le_of_ble_eq_true rfl) ⟨Nat.zero_le _, Nat.zero_le _⟩ d_M_findBefore_239 (fun H locs hP hD hS => ?_)
  have hq := Option.some.inj hf
  subst hq
  exact hret _ _ _ _ d_M_findBefore_242 hP hD hS
abbrev w_M_before (cI cJ cC : ClassId) (a_h a_h_refused a_h_kind a_h_sweets a_h_gives a_h_tape a_h_letter a_h_letterAt a_h_one a_h_two a_h_kept a_h_trail a_h_crumb a_h_nextCrumb a_h_goal a_h_start a_h_sits a_h_bestSits a_h_without a_h_row : Nat) (y_h_taped : Int32) (y_h_at : Int32) (y_h_statements : Int32) (y_h_hasImage : Int32) (y_h_lots : Int32) (y_h_rowMany : Int32) (p_h_many : Int32) (p_h_odd : Int32) (p_h_step : Int32) (p_h_bag : Int32) (p_h_strokes : Int32) (p_h_gave : Int32) (p_h_threw : Int32) (p_h_isKeeping : Int32) (p_h_cursor : Int32) (p_h_beforeMany : Int32) (p_h_found : Int32) (p_h_refused : (Nat → Int32)) (p_h_kind : (Nat → Int32)) (p_h_sweets : (Nat → Int32)) (p_h_gives : (Nat → Int32)) (p_h_kept : (Nat → Int32)) (p_h_goal : (Nat → Int32)) (p_h_start : (Nat → Int32)) : va_W := [(a_h, .inr (7, [.ref a_h_refused, .ref a_h_kind, .ref a_h_sweets, .ref a_h_gives, .int p_h_many, .int p_h_odd, .int p_h_step, .int p_h_bag, .int p_h_strokes, .int p_h_gave, .int p_h_threw, .ref a_h_tape, .ref a_h_letter, .ref a_h_letterAt, .ref a_h_one, .ref a_h_two, .int y_h_taped, .int y_h_at, .int y_h_statements, .ref a_h_kept, .int y_h_hasImage, .int p_h_isKeeping, .int p_h_cursor, .ref a_h_trail, .ref a_h_crumb, .ref a_h_nextCrumb, .ref a_h_goal, .ref a_h_start, .int p_h_beforeMany, .int p_h_found, .ref a_h_sits, .ref a_h_bestSits, .ref a_h_without, .int y_h_lots, .ref a_h_row, .int y_h_rowMany])), (a_h_refused, .inl (cI, (7, .inl p_h_refused))), (a_h_kind, .inl (cI, (8, .inl p_h_kind))), (a_h_sweets, .inl (cI, (8, .inl p_h_sweets))), (a_h_gives, .inl (cI, (8, .inl p_h_gives))), (a_h_kept, .inl (cI, (90, .inl p_h_kept))), (a_h_goal, .inl (cI, (8, .inl p_h_goal))), (a_h_start, .inl (cI, (8, .inl p_h_start)))]
theorem d_M_before_0 : decode b_M_before 0 = .ok (.iload_n 1, 1) := by decide +kernel
theorem d_M_before_1 : decode b_M_before 1 = .ok (.ifCond .ge 8, 3) := by decide +kernel
theorem d_M_before_4 : decode b_M_before 4 = .ok (.bipush (-4), 2) := by decide +kernel
theorem d_M_before_6 : decode b_M_before 6 = .ok (.goto 8, 3) := by decide +kernel
theorem d_M_before_9 : decode b_M_before 9 = .ok (.aload_n 0, 1) := by decide +kernel
theorem d_M_before_10 : decode b_M_before 10 = .ok (.iload_n 1, 1) := by decide +kernel
theorem d_M_before_11 : decode b_M_before 11 = .ok (.invokevirtual 223, 3) := by decide +kernel
theorem d_M_before_14 : decode b_M_before 14 = .ok (.istore_n 2, 1) := by decide +kernel
theorem d_M_before_15 : decode b_M_before 15 = .ok (.iload_n 2, 1) := by decide +kernel
theorem d_M_before_16 : decode b_M_before 16 = .ok (.ifCond .ne 13, 3) := by decide +kernel
theorem d_M_before_19 : decode b_M_before 19 = .ok (.aload_n 0, 1) := by decide +kernel
theorem d_M_before_20 : decode b_M_before 20 = .ok (.getfield 78, 3) := by decide +kernel
theorem d_M_before_23 : decode b_M_before 23 = .ok (.ifCond .ne 6, 3) := by decide +kernel
theorem d_M_before_26 : decode b_M_before 26 = .ok (.bipush (-3), 2) := by decide +kernel
theorem d_M_before_28 : decode b_M_before 28 = .ok (.istore_n 2, 1) := by decide +kernel
theorem d_M_before_29 : decode b_M_before 29 = .ok (.iload_n 2, 1) := by decide +kernel
theorem d_M_before_30 : decode b_M_before 30 = .ok (.ifCond .eq 9, 3) := by decide +kernel
theorem d_M_before_33 : decode b_M_before 33 = .ok (.aload_n 0, 1) := by decide +kernel
theorem d_M_before_34 : decode b_M_before 34 = .ok (.iload_n 2, 1) := by decide +kernel
theorem d_M_before_35 : decode b_M_before 35 = .ok (.invokevirtual 88, 3) := by decide +kernel
theorem d_M_before_38 : decode b_M_before 38 = .ok (.ireturn, 1) := by decide +kernel
theorem d_M_before_39 : decode b_M_before 39 = .ok (.aload_n 0, 1) := by decide +kernel
theorem d_M_before_40 : decode b_M_before 40 = .ok (.iload_n 1, 1) := by decide +kernel
theorem d_M_before_41 : decode b_M_before 41 = .ok (.iconst 0, 1) := by decide +kernel
theorem d_M_before_42 : decode b_M_before 42 = .ok (.iconst (-1), 1) := by decide +kernel
theorem d_M_before_43 : decode b_M_before 43 = .ok (.invokevirtual 226, 3) := by decide +kernel
theorem d_M_before_46 : decode b_M_before 46 = .ok (.aload_n 0, 1) := by decide +kernel
theorem d_M_before_47 : decode b_M_before 47 = .ok (.getfield 217, 3) := by decide +kernel
theorem d_M_before_50 : decode b_M_before 50 = .ok (.ireturn, 1) := by decide +kernel
set_option maxHeartbeats 4000000 in
set_option maxRecDepth 100000 in
theorem c_M_before {l : Launch} {D : va_G} {cI cJ cC : ClassId} (a_h a_h_refused a_h_kind a_h_sweets a_h_gives a_h_tape a_h_letter a_h_letterAt a_h_one a_h_two a_h_kept a_h_trail a_h_crumb a_h_nextCrumb a_h_goal a_h_start a_h_sits a_h_bestSits a_h_without a_h_row : Nat) (y_h_taped : Int32) (y_h_at : Int32) (y_h_statements : Int32) (y_h_hasImage : Int32) (y_h_lots : Int32) (y_h_rowMany : Int32) {z_h_T : MT} {z_h_beforeMany : Int32} {z_h_found : Int32} {z_h_refused : (Nat → Int32)} {z_h_goal : (Nat → Int32)} {z_h_start : (Nat → Int32)} {x1 : Int32} {q : Int32 × MT × Int32 × Int32 × (Nat → Int32) × (Nat → Int32) × (Nat → Int32)} (hf : f_M_before z_h_T z_h_beforeMany z_h_found z_h_refused z_h_goal z_h_start x1 = some q) : xI l y_M_before b_M_before 3 .int 4 95 D (tyK cI cJ cC) xE0 [.ref a_h, .int x1] (w_M_before cI cJ cC a_h a_h_refused a_h_kind a_h_sweets a_h_gives a_h_tape a_h_letter a_h_letterAt a_h_one a_h_two a_h_kept a_h_trail a_h_crumb a_h_nextCrumb a_h_goal a_h_start a_h_sits a_h_bestSits a_h_without a_h_row y_h_taped y_h_at y_h_statements y_h_hasImage y_h_lots y_h_rowMany (m_many z_h_T) (m_odd z_h_T) (m_step z_h_T) (m_bag z_h_T) (m_strokes z_h_T) (m_gave z_h_T) (m_threw z_h_T) (m_isKeeping z_h_T) (m_cursor z_h_T) z_h_beforeMany z_h_found z_h_refused (m_kind z_h_T) (m_sweets z_h_T) (m_gives z_h_T) (m_kept z_h_T) z_h_goal z_h_start) q.1 (w_M_before cI cJ cC a_h a_h_refused a_h_kind a_h_sweets a_h_gives a_h_tape a_h_letter a_h_letterAt a_h_one a_h_two a_h_kept a_h_trail a_h_crumb a_h_nextCrumb a_h_goal a_h_start a_h_sits a_h_bestSits a_h_without a_h_row y_h_taped y_h_at y_h_statements y_h_hasImage y_h_lots y_h_rowMany (m_many q.2.1) (m_odd q.2.1) (m_step q.2.1) (m_bag q.2.1) (m_strokes q.2.1) (m_gave q.2.1) (m_threw q.2.1) (m_isKeeping q.2.1) (m_cursor q.2.1) q.2.2.1 q.2.2.2.1 q.2.2.2.2.1 (m_kind q.2.1) (m_sweets q.2.1) (m_gives q.2.1) (m_kept q.2.1) q.2.2.2.2.2.1 q.2.2.2.2.2.2) := by
  refine xI_of (by decide) (Nat.le_of_ble_eq_true rfl) ?_
  intro p e s m args below meth c A Q hx hb hml hown hT hA hP hD hK hS hE hret ls hl
  have hown : s.vm.findClass R_M = some m.cls := hown
  have hl : lv_has ls 3 [(0, .ref a_h), (1, .int x1)] := hl
  unfold f_M_before at hf
  refine lv_iload_n hx hb d_M_before_0 rfl (lv_at hl 1 rfl) ?_
  refine lv_if_ge (tgt := 9) hx hb d_M_before_1 (by decide) (fun c1 => ?_) (fun c1 => ?_)
  · have hf := io_t hf c1
    refine lv_aload_n hx hb d_M_before_9 rfl (lv_at hl 0 rfl) ?_
    refine lv_iload_n hx hb d_M_before_10 rfl (lv_at hl 1 rfl) ?_
    obtain ⟨q2, hq2, hf⟩ := io_b hf
    refine xcVI (wc := (w_M_notBefore cI cJ cC a_h a_h_refused a_h_kind a_h_sweets a_h_gives a_h_tape a_h_letter a_h_letterAt a_h_one a_h_two a_h_kept a_h_trail a_h_crumb a_h_nextCrumb a_h_goal a_h_start a_h_sits a_h_bestSits a_h_without a_h_row y_h_taped y_h_at y_h_statements y_h_hasImage z_h_beforeMany z_h_found y_h_lots y_h_rowMany (m_many z_h_T) (m_odd z_h_T) (m_step z_h_T) (m_bag z_h_T) (m_strokes z_h_T) (m_gave z_h_T) (m_threw z_h_T) (m_isKeeping z_h_T) (m_cursor z_h_T))) (wc' := (w_M_notBefore cI cJ cC a_h a_h_refused a_h_kind a_h_sweets a_h_gives a_h_tape a_h_letter a_h_letterAt a_h_one a_h_two a_h_kept a_h_trail a_h_crumb a_h_nextCrumb a_h_goal a_h_start a_h_sits a_h_bestSits a_h_without a_h_row y_h_taped y_h_at y_h_statements y_h_hasImage z_h_beforeMany z_h_found y_h_lots y_h_rowMany (m_many z_h_T) (m_odd z_h_T) (m_step z_h_T) (m_bag z_h_T) (m_strokes z_h_T) (m_gave z_h_T) (m_threw z_h_T) (m_isKeeping z_h_T) (m_cursor z_h_T))) (ws' := (w_M_before cI cJ cC a_h a_h_refused a_h_kind a_h_sweets a_h_gives a_h_tape a_h_letter a_h_letterAt a_h_one a_h_two a_h_kept a_h_trail a_h_crumb a_h_nextCrumb a_h_goal a_h_start a_h_sits a_h_bestSits a_h_without a_h_row y_h_taped y_h_at y_h_statements y_h_hasImage y_h_lots y_h_rowMany (m_many z_h_T) (m_odd z_h_T) (m_step z_h_T) (m_bag z_h_T) (m_strokes z_h_T) (m_gave z_h_T) (m_threw z_h_T) (m_isKeeping z_h_T) (m_cursor z_h_T) z_h_beforeMany z_h_found z_h_refused (m_kind z_h_T) (m_sweets z_h_T) (m_gives z_h_T) (m_kept z_h_T) z_h_goal z_h_start)) (As := [.int x1]) (rest := []) hx hb hml hown hT (c_M_notBefore (z_h_T := z_h_T) a_h a_h_refused a_h_kind a_h_sweets a_h_gives a_h_tape a_h_letter a_h_letterAt a_h_one a_h_two a_h_kept a_h_trail a_h_crumb a_h_nextCrumb a_h_goal a_h_start a_h_sits a_h_bestSits a_h_without a_h_row y_h_taped y_h_at y_h_statements y_h_hasImage z_h_beforeMany z_h_found y_h_lots y_h_rowMany hq2) k_1064 k_1066 ks_49 k_8 k_1067 hd_M_notBefore ⟨Nat.le_of_ble_eq_true rfl, Nat.le_of_ble_eq_true rfl⟩ xE0_ok trivial hA hK hP hD hS [0] [1, 2, 3, 4, 5, 6, 7] [7, 0, 1, 2, 3, 4, 5, 6] rfl rfl rfl rfl rfl rfl rfl rfl rfl rfl hl.1 rfl (Nat.le_of_ble_eq_true rfl) ⟨Nat.zero_le _, Nat.zero_le _⟩ d_M_before_11 (fun H locs hP hD hS => ?_)
    refine lv_istore_n (lv' := [(2, .int q2), (0, .ref a_h), (1, .int x1)]) hx hb d_M_before_14 rfl hl (by decide) rfl (fun ls hl => ?_)
    refine lv_iload_n hx hb d_M_before_15 rfl (lv_at hl 0 rfl) ?_
    refine lv_if_ne (tgt := 29) hx hb d_M_before_16 (by decide) (fun c3 => ?_) (fun c3 => ?_)
    · have hf := io_f hf c3
      refine lv_iload_n hx hb d_M_before_29 rfl (lv_at hl 0 rfl) ?_
      refine lv_if_eq (tgt := 39) hx hb d_M_before_30 (by decide) (fun c => absurd c c3) (fun _ => ?_)
      refine lv_aload_n hx hb d_M_before_33 rfl (lv_at hl 1 rfl) ?_
      refine lv_iload_n hx hb d_M_before_34 rfl (lv_at hl 0 rfl) ?_
      obtain ⟨q4, hq4, hf⟩ := io_b hf
      refine xcVI (wc := (w_M_no cI cJ cC a_h a_h_refused a_h_kind a_h_sweets a_h_gives a_h_tape a_h_letter a_h_letterAt a_h_one a_h_two a_h_kept a_h_trail a_h_crumb a_h_nextCrumb a_h_goal a_h_start a_h_sits a_h_bestSits a_h_without a_h_row (m_many z_h_T) (m_odd z_h_T) (m_step z_h_T) (m_bag z_h_T) (m_strokes z_h_T) (m_gave z_h_T) (m_threw z_h_T) y_h_taped y_h_at y_h_statements y_h_hasImage (m_isKeeping z_h_T) (m_cursor z_h_T) z_h_beforeMany z_h_found y_h_lots y_h_rowMany z_h_refused)) (wc' := (w_M_no cI cJ cC a_h a_h_refused a_h_kind a_h_sweets a_h_gives a_h_tape a_h_letter a_h_letterAt a_h_one a_h_two a_h_kept a_h_trail a_h_crumb a_h_nextCrumb a_h_goal a_h_start a_h_sits a_h_bestSits a_h_without a_h_row (m_many z_h_T) (m_odd z_h_T) (m_step z_h_T) (m_bag z_h_T) (m_strokes z_h_T) (m_gave z_h_T) (m_threw z_h_T) y_h_taped y_h_at y_h_statements y_h_hasImage (m_isKeeping z_h_T) (m_cursor z_h_T) z_h_beforeMany z_h_found y_h_lots y_h_rowMany q4.2)) (ws' := (w_M_before cI cJ cC a_h a_h_refused a_h_kind a_h_sweets a_h_gives a_h_tape a_h_letter a_h_letterAt a_h_one a_h_two a_h_kept a_h_trail a_h_crumb a_h_nextCrumb a_h_goal a_h_start a_h_sits a_h_bestSits a_h_without a_h_row y_h_taped y_h_at y_h_statements y_h_hasImage y_h_lots y_h_rowMany (m_many z_h_T) (m_odd z_h_T) (m_step z_h_T) (m_bag z_h_T) (m_strokes z_h_T) (m_gave z_h_T) (m_threw z_h_T) (m_isKeeping z_h_T) (m_cursor z_h_T) z_h_beforeMany z_h_found q4.2 (m_kind z_h_T) (m_sweets z_h_T) (m_gives z_h_T) (m_kept z_h_T) z_h_goal z_h_start)) (As := [.int q2]) (rest := []) hx hb hml hown hT (c_M_no (z_h_refused := z_h_refused) a_h a_h_refused a_h_kind a_h_sweets a_h_gives a_h_tape a_h_letter a_h_letterAt a_h_one a_h_two a_h_kept a_h_trail a_h_crumb a_h_nextCrumb a_h_goal a_h_start a_h_sits a_h_bestSits a_h_without a_h_row (m_many z_h_T) (m_odd z_h_T) (m_step z_h_T) (m_bag z_h_T) (m_strokes z_h_T) (m_gave z_h_T) (m_threw z_h_T) y_h_taped y_h_at y_h_statements y_h_hasImage (m_isKeeping z_h_T) (m_cursor z_h_T) z_h_beforeMany z_h_found y_h_lots y_h_rowMany hq4) k_874 k_876 ks_24 k_8 k_877 hd_M_no ⟨Nat.le_of_ble_eq_true rfl, Nat.le_of_ble_eq_true rfl⟩ xE0_ok trivial hA hK hP hD hS [0, 1] [2, 3, 4, 5, 6, 7] [6, 7, 0, 1, 2, 3, 4, 5] rfl rfl rfl rfl rfl rfl rfl rfl rfl rfl hl.1 rfl (Nat.le_of_ble_eq_true rfl) ⟨Nat.zero_le _, Nat.zero_le _⟩ d_M_before_35 (fun H locs hP hD hS => ?_)
      have hq := Option.some.inj hf
      subst hq
      exact hret _ _ _ _ _ d_M_before_38 rfl rfl hP hD hS
    · have hf := io_t hf c3
      refine lv_aload_n hx hb d_M_before_19 rfl (lv_at hl 1 rfl) ?_
      refine va_get hx hb hT i_M hown hK hP 0 rfl rfl 4 (Nat.le_of_ble_eq_true rfl) (hT _ k_762) (fun _ h => h) rfl d_M_before_20 ?_
      refine lv_if_ne (tgt := 29) hx hb d_M_before_23 (by decide) (fun c5 => ?_) (fun c5 => ?_)
      · have hf := io_f hf c5
        refine lv_iload_n hx hb d_M_before_29 rfl (lv_at hl 0 rfl) ?_
        refine lv_if_eq (tgt := 39) hx hb d_M_before_30 (by decide) (fun _ => ?_) (fun c => absurd c3 c)
        refine lv_aload_n hx hb d_M_before_39 rfl (lv_at hl 1 rfl) ?_
        refine lv_iload_n hx hb d_M_before_40 rfl (lv_at hl 2 rfl) ?_
        refine lv_iconst (v := 0) hx hb d_M_before_41 (by decide) ?_
        refine lv_iconst (v := (-1)) hx hb d_M_before_42 (by decide) ?_
        obtain ⟨q6, hq6, hf⟩ := io_b hf
        refine xcVV (wc := (w_M_findBefore cI cJ cC a_h a_h_refused a_h_kind a_h_sweets a_h_gives a_h_tape a_h_letter a_h_letterAt a_h_one a_h_two a_h_kept a_h_trail a_h_crumb a_h_nextCrumb a_h_goal a_h_start a_h_sits a_h_bestSits a_h_without a_h_row y_h_taped y_h_at y_h_statements y_h_hasImage y_h_lots y_h_rowMany (m_many z_h_T) (m_odd z_h_T) (m_step z_h_T) (m_bag z_h_T) (m_strokes z_h_T) (m_gave z_h_T) (m_threw z_h_T) (m_isKeeping z_h_T) (m_cursor z_h_T) z_h_beforeMany z_h_found (m_kind z_h_T) (m_sweets z_h_T) (m_gives z_h_T) (m_kept z_h_T) z_h_goal z_h_start)) (wc' := (w_M_findBefore cI cJ cC a_h a_h_refused a_h_kind a_h_sweets a_h_gives a_h_tape a_h_letter a_h_letterAt a_h_one a_h_two a_h_kept a_h_trail a_h_crumb a_h_nextCrumb a_h_goal a_h_start a_h_sits a_h_bestSits a_h_without a_h_row y_h_taped y_h_at y_h_statements y_h_hasImage y_h_lots y_h_rowMany (m_many q6.1) (m_odd q6.1) (m_step q6.1) (m_bag q6.1) (m_strokes q6.1) (m_gave q6.1) (m_threw q6.1) (m_isKeeping q6.1) (m_cursor q6.1) q6.2.1 q6.2.2.1 (m_kind q6.1) (m_sweets q6.1) (m_gives q6.1) (m_kept q6.1) q6.2.2.2.1 q6.2.2.2.2)) (ws' := (w_M_before cI cJ cC a_h a_h_refused a_h_kind a_h_sweets a_h_gives a_h_tape a_h_letter a_h_letterAt a_h_one a_h_two a_h_kept a_h_trail a_h_crumb a_h_nextCrumb a_h_goal a_h_start a_h_sits a_h_bestSits a_h_without a_h_row y_h_taped y_h_at y_h_statements y_h_hasImage y_h_lots y_h_rowMany (m_many q6.1) (m_odd q6.1) (m_step q6.1) (m_bag q6.1) (m_strokes q6.1) (m_gave q6.1) (m_threw q6.1) (m_isKeeping q6.1) (m_cursor q6.1) q6.2.1 q6.2.2.1 z_h_refused (m_kind q6.1) (m_sweets q6.1) (m_gives q6.1) (m_kept q6.1) q6.2.2.2.1 q6.2.2.2.2)) (As := [.int x1, .int 0, .int (-1)]) (rest := []) hx hb hml hown hT (c_M_findBefore (z_h_T := z_h_T) (z_h_beforeMany := z_h_beforeMany) (z_h_found := z_h_found) (z_h_goal := z_h_goal) (z_h_start := z_h_start) a_h a_h_refused a_h_kind a_h_sweets a_h_gives a_h_tape a_h_letter a_h_letterAt a_h_one a_h_two a_h_kept a_h_trail a_h_crumb a_h_nextCrumb a_h_goal a_h_start a_h_sits a_h_bestSits a_h_without a_h_row y_h_taped y_h_at y_h_statements y_h_hasImage y_h_lots y_h_rowMany hq6) k_1068 k_1070 ks_50 k_8 k_1071 hd_M_findBefore ⟨Nat.le_of_ble_eq_true rfl, Nat.le_of_ble_eq_true rfl⟩ xE0_ok trivial hA hK hP hD hS [0, 2, 3, 4, 5, 6, 7] [1] [1, 0, 2, 3, 4, 5, 6, 7] rfl rfl rfl rfl rfl rfl rfl rfl rfl rfl hl.1 rfl (Nat.le_of_ble_eq_true rfl) ⟨Nat.zero_le _, Nat.zero_le _⟩ d_M_before_43 (fun H locs hP hD hS => ?_)
        refine lv_aload_n hx hb d_M_before_46 rfl (lv_at hl 1 rfl) ?_
        refine va_get hx hb hT i_M hown hK hP 0 rfl rfl 28 (Nat.le_of_ble_eq_true rfl) (hT _ k_786) (fun _ h => h) rfl d_M_before_47 ?_
        have hq := Option.some.inj hf
        subst hq
        exact hret _ _ _ _ _ d_M_before_50 rfl rfl hP hD hS
      · have hf := io_t hf c5
        refine lv_bipush (v := (-3)) hx hb d_M_before_26 (by decide) ?_
        refine lv_istore_n (lv' := [(2, .int (-3)), (0, .ref a_h), (1, .int x1)]) hx hb d_M_before_28 rfl hl (by decide) rfl (fun ls hl => ?_)
        refine lv_iload_n hx hb d_M_before_29 rfl (lv_at hl 0 rfl) ?_
        refine lv_if_eq (tgt := 39) hx hb d_M_before_30 (by decide) (fun c => absurd c (show ¬ ((-3) : Int32) = 0 from by decide +kernel)) (fun _ => ?_)
        refine lv_aload_n hx hb d_M_before_33 rfl (lv_at hl 1 rfl) ?_
        refine lv_iload_n hx hb d_M_before_34 rfl (lv_at hl 0 rfl) ?_
        obtain ⟨q7, hq7, hf⟩ := io_b hf
        refine xcVI (wc := (w_M_no cI cJ cC a_h a_h_refused a_h_kind a_h_sweets a_h_gives a_h_tape a_h_letter a_h_letterAt a_h_one a_h_two a_h_kept a_h_trail a_h_crumb a_h_nextCrumb a_h_goal a_h_start a_h_sits a_h_bestSits a_h_without a_h_row (m_many z_h_T) (m_odd z_h_T) (m_step z_h_T) (m_bag z_h_T) (m_strokes z_h_T) (m_gave z_h_T) (m_threw z_h_T) y_h_taped y_h_at y_h_statements y_h_hasImage (m_isKeeping z_h_T) (m_cursor z_h_T) z_h_beforeMany z_h_found y_h_lots y_h_rowMany z_h_refused)) (wc' := (w_M_no cI cJ cC a_h a_h_refused a_h_kind a_h_sweets a_h_gives a_h_tape a_h_letter a_h_letterAt a_h_one a_h_two a_h_kept a_h_trail a_h_crumb a_h_nextCrumb a_h_goal a_h_start a_h_sits a_h_bestSits a_h_without a_h_row (m_many z_h_T) (m_odd z_h_T) (m_step z_h_T) (m_bag z_h_T) (m_strokes z_h_T) (m_gave z_h_T) (m_threw z_h_T) y_h_taped y_h_at y_h_statements y_h_hasImage (m_isKeeping z_h_T) (m_cursor z_h_T) z_h_beforeMany z_h_found y_h_lots y_h_rowMany q7.2)) (ws' := (w_M_before cI cJ cC a_h a_h_refused a_h_kind a_h_sweets a_h_gives a_h_tape a_h_letter a_h_letterAt a_h_one a_h_two a_h_kept a_h_trail a_h_crumb a_h_nextCrumb a_h_goal a_h_start a_h_sits a_h_bestSits a_h_without a_h_row y_h_taped y_h_at y_h_statements y_h_hasImage y_h_lots y_h_rowMany (m_many z_h_T) (m_odd z_h_T) (m_step z_h_T) (m_bag z_h_T) (m_strokes z_h_T) (m_gave z_h_T) (m_threw z_h_T) (m_isKeeping z_h_T) (m_cursor z_h_T) z_h_beforeMany z_h_found q7.2 (m_kind z_h_T) (m_sweets z_h_T) (m_gives z_h_T) (m_kept z_h_T) z_h_goal z_h_start)) (As := [.int (-3)]) (rest := []) hx hb hml hown hT (c_M_no (z_h_refused := z_h_refused) a_h a_h_refused a_h_kind a_h_sweets a_h_gives a_h_tape a_h_letter a_h_letterAt a_h_one a_h_two a_h_kept a_h_trail a_h_crumb a_h_nextCrumb a_h_goal a_h_start a_h_sits a_h_bestSits a_h_without a_h_row (m_many z_h_T) (m_odd z_h_T) (m_step z_h_T) (m_bag z_h_T) (m_strokes z_h_T) (m_gave z_h_T) (m_threw z_h_T) y_h_taped y_h_at y_h_statements y_h_hasImage (m_isKeeping z_h_T) (m_cursor z_h_T) z_h_beforeMany z_h_found y_h_lots y_h_rowMany hq7) k_874 k_876 ks_24 k_8 k_877 hd_M_no ⟨Nat.le_of_ble_eq_true rfl, Nat.le_of_ble_eq_true rfl⟩ xE0_ok trivial hA hK hP hD hS [0, 1] [2, 3, 4, 5, 6, 7] [6, 7, 0, 1, 2, 3, 4, 5] rfl rfl rfl rfl rfl rfl rfl rfl rfl rfl hl.1 rfl (Nat.le_of_ble_eq_true rfl) ⟨Nat.zero_le _, Nat.zero_le _⟩ d_M_before_35 (fun H locs hP hD hS => ?_)
        have hq := Option.some.inj hf
        subst hq
        exact hret _ _ _ _ _ d_M_before_38 rfl rfl hP hD hS
  · have hf := io_f hf c1
    refine lv_bipush (v := (-4)) hx hb d_M_before_4 (by decide) ?_
    refine lv_goto (tgt := 14) hx hb d_M_before_6 (by decide) ?_
    refine lv_istore_n (lv' := [(2, .int (-4)), (0, .ref a_h), (1, .int x1)]) hx hb d_M_before_14 rfl hl (by decide) rfl (fun ls hl => ?_)
    refine lv_iload_n hx hb d_M_before_15 rfl (lv_at hl 0 rfl) ?_
    refine lv_if_ne (tgt := 29) hx hb d_M_before_16 (by decide) (fun _ => ?_) (fun c => absurd c (show ¬ ((-4) : Int32) = 0 from by decide +kernel))
    refine lv_iload_n hx hb d_M_before_29 rfl (lv_at hl 0 rfl) ?_
    refine lv_if_eq (tgt := 39) hx hb d_M_before_30 (by decide) (fun c => absurd c (show ¬ ((-4) : Int32) = 0 from by decide +kernel)) (fun _ => ?_)
    refine lv_aload_n hx hb d_M_before_33 rfl (lv_at hl 1 rfl) ?_
    refine lv_iload_n hx hb d_M_before_34 rfl (lv_at hl 0 rfl) ?_
    obtain ⟨q8, hq8, hf⟩ := io_b hf
    refine xcVI (wc := (w_M_no cI cJ cC a_h a_h_refused a_h_kind a_h_sweets a_h_gives a_h_tape a_h_letter a_h_letterAt a_h_one a_h_two a_h_kept a_h_trail a_h_crumb a_h_nextCrumb a_h_goal a_h_start a_h_sits a_h_bestSits a_h_without a_h_row (m_many z_h_T) (m_odd z_h_T) (m_step z_h_T) (m_bag z_h_T) (m_strokes z_h_T) (m_gave z_h_T) (m_threw z_h_T) y_h_taped y_h_at y_h_statements y_h_hasImage (m_isKeeping z_h_T) (m_cursor z_h_T) z_h_beforeMany z_h_found y_h_lots y_h_rowMany z_h_refused)) (wc' := (w_M_no cI cJ cC a_h a_h_refused a_h_kind a_h_sweets a_h_gives a_h_tape a_h_letter a_h_letterAt a_h_one a_h_two a_h_kept a_h_trail a_h_crumb a_h_nextCrumb a_h_goal a_h_start a_h_sits a_h_bestSits a_h_without a_h_row (m_many z_h_T) (m_odd z_h_T) (m_step z_h_T) (m_bag z_h_T) (m_strokes z_h_T) (m_gave z_h_T) (m_threw z_h_T) y_h_taped y_h_at y_h_statements y_h_hasImage (m_isKeeping z_h_T) (m_cursor z_h_T) z_h_beforeMany z_h_found y_h_lots y_h_rowMany q8.2)) (ws' := (w_M_before cI cJ cC a_h a_h_refused a_h_kind a_h_sweets a_h_gives a_h_tape a_h_letter a_h_letterAt a_h_one a_h_two a_h_kept a_h_trail a_h_crumb a_h_nextCrumb a_h_goal a_h_start a_h_sits a_h_bestSits a_h_without a_h_row y_h_taped y_h_at y_h_statements y_h_hasImage y_h_lots y_h_rowMany (m_many z_h_T) (m_odd z_h_T) (m_step z_h_T) (m_bag z_h_T) (m_strokes z_h_T) (m_gave z_h_T) (m_threw z_h_T) (m_isKeeping z_h_T) (m_cursor z_h_T) z_h_beforeMany z_h_found q8.2 (m_kind z_h_T) (m_sweets z_h_T) (m_gives z_h_T) (m_kept z_h_T) z_h_goal z_h_start)) (As := [.int (-4)]) (rest := []) hx hb hml hown hT (c_M_no (z_h_refused := z_h_refused) a_h a_h_refused a_h_kind a_h_sweets a_h_gives a_h_tape a_h_letter a_h_letterAt a_h_one a_h_two a_h_kept a_h_trail a_h_crumb a_h_nextCrumb a_h_goal a_h_start a_h_sits a_h_bestSits a_h_without a_h_row (m_many z_h_T) (m_odd z_h_T) (m_step z_h_T) (m_bag z_h_T) (m_strokes z_h_T) (m_gave z_h_T) (m_threw z_h_T) y_h_taped y_h_at y_h_statements y_h_hasImage (m_isKeeping z_h_T) (m_cursor z_h_T) z_h_beforeMany z_h_found y_h_lots y_h_rowMany hq8) k_874 k_876 ks_24 k_8 k_877 hd_M_no ⟨Nat.le_of_ble_eq_true rfl, Nat.le_of_ble_eq_true rfl⟩ xE0_ok trivial hA hK hP hD hS [0, 1] [2, 3, 4, 5, 6, 7] [6, 7, 0, 1, 2, 3, 4, 5] rfl rfl rfl rfl rfl rfl rfl rfl rfl rfl hl.1 rfl (Nat.le_of_ble_eq_true rfl) ⟨Nat.zero_le _, Nat.zero_le _⟩ d_M_before_35 (fun H locs hP hD hS => ?_)
    have hq := Option.some.inj hf
    subst hq
    exact hret _ _ _ _ _ d_M_before_38 rfl rfl hP hD hS
abbrev w_M_beforeOf (cI cJ cC : ClassId) (a_h a_h_refused a_h_kind a_h_sweets a_h_gives a_h_tape a_h_letter a_h_letterAt a_h_one a_h_two a_h_kept a_h_trail a_h_crumb a_h_nextCrumb a_h_goal a_h_start a_h_sits a_h_bestSits a_h_without a_h_row : Nat) (y_h_taped : Int32) (y_h_at : Int32) (y_h_statements : Int32) (y_h_hasImage : Int32) (y_h_lots : Int32) (y_h_rowMany : Int32) (p_h_many : Int32) (p_h_odd : Int32) (p_h_step : Int32) (p_h_bag : Int32) (p_h_strokes : Int32) (p_h_gave : Int32) (p_h_threw : Int32) (p_h_isKeeping : Int32) (p_h_cursor : Int32) (p_h_beforeMany : Int32) (p_h_found : Int32) (p_h_refused : (Nat → Int32)) (p_h_kind : (Nat → Int32)) (p_h_sweets : (Nat → Int32)) (p_h_gives : (Nat → Int32)) (p_h_kept : (Nat → Int32)) (p_h_goal : (Nat → Int32)) (p_h_start : (Nat → Int32)) : va_W := [(a_h, .inr (7, [.ref a_h_refused, .ref a_h_kind, .ref a_h_sweets, .ref a_h_gives, .int p_h_many, .int p_h_odd, .int p_h_step, .int p_h_bag, .int p_h_strokes, .int p_h_gave, .int p_h_threw, .ref a_h_tape, .ref a_h_letter, .ref a_h_letterAt, .ref a_h_one, .ref a_h_two, .int y_h_taped, .int y_h_at, .int y_h_statements, .ref a_h_kept, .int y_h_hasImage, .int p_h_isKeeping, .int p_h_cursor, .ref a_h_trail, .ref a_h_crumb, .ref a_h_nextCrumb, .ref a_h_goal, .ref a_h_start, .int p_h_beforeMany, .int p_h_found, .ref a_h_sits, .ref a_h_bestSits, .ref a_h_without, .int y_h_lots, .ref a_h_row, .int y_h_rowMany])), (a_h_refused, .inl (cI, (7, .inl p_h_refused))), (a_h_kind, .inl (cI, (8, .inl p_h_kind))), (a_h_sweets, .inl (cI, (8, .inl p_h_sweets))), (a_h_gives, .inl (cI, (8, .inl p_h_gives))), (a_h_kept, .inl (cI, (90, .inl p_h_kept))), (a_h_goal, .inl (cI, (8, .inl p_h_goal))), (a_h_start, .inl (cI, (8, .inl p_h_start)))]
theorem d_M_beforeOf_0 : decode b_M_beforeOf 0 = .ok (.aload_n 0, 1) := by decide +kernel
theorem d_M_beforeOf_1 : decode b_M_beforeOf 1 = .ok (.iload_n 1, 1) := by decide +kernel
theorem d_M_beforeOf_2 : decode b_M_beforeOf 2 = .ok (.invokevirtual 168, 3) := by decide +kernel
theorem d_M_beforeOf_5 : decode b_M_beforeOf 5 = .ok (.ifCond .ne 7, 3) := by decide +kernel
theorem d_M_beforeOf_8 : decode b_M_beforeOf 8 = .ok (.iconst (-1), 1) := by decide +kernel
theorem d_M_beforeOf_9 : decode b_M_beforeOf 9 = .ok (.goto 21, 3) := by decide +kernel
theorem d_M_beforeOf_12 : decode b_M_beforeOf 12 = .ok (.iload_n 2, 1) := by decide +kernel
theorem d_M_beforeOf_13 : decode b_M_beforeOf 13 = .ok (.ifCond .lt 7, 3) := by decide +kernel
theorem d_M_beforeOf_16 : decode b_M_beforeOf 16 = .ok (.iload_n 3, 1) := by decide +kernel
theorem d_M_beforeOf_17 : decode b_M_beforeOf 17 = .ok (.ifCond .ge 8, 3) := by decide +kernel
theorem d_M_beforeOf_20 : decode b_M_beforeOf 20 = .ok (.bipush (-4), 2) := by decide +kernel
theorem d_M_beforeOf_22 : decode b_M_beforeOf 22 = .ok (.goto 8, 3) := by decide +kernel
theorem d_M_beforeOf_25 : decode b_M_beforeOf 25 = .ok (.aload_n 0, 1) := by decide +kernel
theorem d_M_beforeOf_26 : decode b_M_beforeOf 26 = .ok (.iload_n 2, 1) := by decide +kernel
theorem d_M_beforeOf_27 : decode b_M_beforeOf 27 = .ok (.invokevirtual 223, 3) := by decide +kernel
theorem d_M_beforeOf_30 : decode b_M_beforeOf 30 = .ok (.istore 4, 2) := by decide +kernel
theorem d_M_beforeOf_32 : decode b_M_beforeOf 32 = .ok (.iload 4, 2) := by decide +kernel
theorem d_M_beforeOf_34 : decode b_M_beforeOf 34 = .ok (.ifCond .eq 10, 3) := by decide +kernel
theorem d_M_beforeOf_37 : decode b_M_beforeOf 37 = .ok (.aload_n 0, 1) := by decide +kernel
theorem d_M_beforeOf_38 : decode b_M_beforeOf 38 = .ok (.iload 4, 2) := by decide +kernel
theorem d_M_beforeOf_40 : decode b_M_beforeOf 40 = .ok (.invokevirtual 88, 3) := by decide +kernel
theorem d_M_beforeOf_43 : decode b_M_beforeOf 43 = .ok (.ireturn, 1) := by decide +kernel
theorem d_M_beforeOf_44 : decode b_M_beforeOf 44 = .ok (.aload_n 0, 1) := by decide +kernel
theorem d_M_beforeOf_45 : decode b_M_beforeOf 45 = .ok (.iload_n 2, 1) := by decide +kernel
theorem d_M_beforeOf_46 : decode b_M_beforeOf 46 = .ok (.iload_n 1, 1) := by decide +kernel
theorem d_M_beforeOf_47 : decode b_M_beforeOf 47 = .ok (.iload_n 3, 1) := by decide +kernel
theorem d_M_beforeOf_48 : decode b_M_beforeOf 48 = .ok (.invokevirtual 226, 3) := by decide +kernel
theorem d_M_beforeOf_51 : decode b_M_beforeOf 51 = .ok (.aload_n 0, 1) := by decide +kernel
theorem d_M_beforeOf_52 : decode b_M_beforeOf 52 = .ok (.getfield 220, 3) := by decide +kernel
theorem d_M_beforeOf_55 : decode b_M_beforeOf 55 = .ok (.ireturn, 1) := by decide +kernel
set_option maxHeartbeats 4000000 in
set_option maxRecDepth 100000 in
theorem c_M_beforeOf {l : Launch} {D : va_G} {cI cJ cC : ClassId} (a_h a_h_refused a_h_kind a_h_sweets a_h_gives a_h_tape a_h_letter a_h_letterAt a_h_one a_h_two a_h_kept a_h_trail a_h_crumb a_h_nextCrumb a_h_goal a_h_start a_h_sits a_h_bestSits a_h_without a_h_row : Nat) (y_h_taped : Int32) (y_h_at : Int32) (y_h_statements : Int32) (y_h_hasImage : Int32) (y_h_lots : Int32) (y_h_rowMany : Int32) {z_h_T : MT} {z_h_beforeMany : Int32} {z_h_found : Int32} {z_h_refused : (Nat → Int32)} {z_h_goal : (Nat → Int32)} {z_h_start : (Nat → Int32)} {x1 : Int32} {x2 : Int32} {x3 : Int32} {q : Int32 × MT × Int32 × Int32 × (Nat → Int32) × (Nat → Int32) × (Nat → Int32)} (hf : f_M_beforeOf z_h_T z_h_beforeMany z_h_found z_h_refused z_h_goal z_h_start x1 x2 x3 = some q) : xI l y_M_beforeOf b_M_beforeOf 5 .int 4 95 D (tyK cI cJ cC) xE0 [.ref a_h, .int x1, .int x2, .int x3] (w_M_beforeOf cI cJ cC a_h a_h_refused a_h_kind a_h_sweets a_h_gives a_h_tape a_h_letter a_h_letterAt a_h_one a_h_two a_h_kept a_h_trail a_h_crumb a_h_nextCrumb a_h_goal a_h_start a_h_sits a_h_bestSits a_h_without a_h_row y_h_taped y_h_at y_h_statements y_h_hasImage y_h_lots y_h_rowMany (m_many z_h_T) (m_odd z_h_T) (m_step z_h_T) (m_bag z_h_T) (m_strokes z_h_T) (m_gave z_h_T) (m_threw z_h_T) (m_isKeeping z_h_T) (m_cursor z_h_T) z_h_beforeMany z_h_found z_h_refused (m_kind z_h_T) (m_sweets z_h_T) (m_gives z_h_T) (m_kept z_h_T) z_h_goal z_h_start) q.1 (w_M_beforeOf cI cJ cC a_h a_h_refused a_h_kind a_h_sweets a_h_gives a_h_tape a_h_letter a_h_letterAt a_h_one a_h_two a_h_kept a_h_trail a_h_crumb a_h_nextCrumb a_h_goal a_h_start a_h_sits a_h_bestSits a_h_without a_h_row y_h_taped y_h_at y_h_statements y_h_hasImage y_h_lots y_h_rowMany (m_many q.2.1) (m_odd q.2.1) (m_step q.2.1) (m_bag q.2.1) (m_strokes q.2.1) (m_gave q.2.1) (m_threw q.2.1) (m_isKeeping q.2.1) (m_cursor q.2.1) q.2.2.1 q.2.2.2.1 q.2.2.2.2.1 (m_kind q.2.1) (m_sweets q.2.1) (m_gives q.2.1) (m_kept q.2.1) q.2.2.2.2.2.1 q.2.2.2.2.2.2) := by
  refine xI_of (by decide) (Nat.le_of_ble_eq_true rfl) ?_
  intro p e s m args below meth c A Q hx hb hml hown hT hA hP hD hK hS hE hret ls hl
  have hown : s.vm.findClass R_M = some m.cls := hown
  have hl : lv_has ls 5 [(0, .ref a_h), (1, .int x1), (2, .int x2), (3, .int x3)] := hl
  unfold f_M_beforeOf at hf
  refine lv_aload_n hx hb d_M_beforeOf_0 rfl (lv_at hl 0 rfl) ?_
  refine lv_iload_n hx hb d_M_beforeOf_1 rfl (lv_at hl 1 rfl) ?_
  obtain ⟨q1, hq1, hf⟩ := io_b hf
  refine xcVI (wc := (w_M_isChild cI cJ cC a_h a_h_refused a_h_kind a_h_sweets a_h_gives a_h_tape a_h_letter a_h_letterAt a_h_one a_h_two a_h_kept a_h_trail a_h_crumb a_h_nextCrumb a_h_goal a_h_start a_h_sits a_h_bestSits a_h_without a_h_row y_h_taped y_h_at y_h_statements y_h_hasImage z_h_beforeMany z_h_found y_h_lots y_h_rowMany (m_many z_h_T) (m_odd z_h_T) (m_step z_h_T) (m_bag z_h_T) (m_strokes z_h_T) (m_gave z_h_T) (m_threw z_h_T) (m_isKeeping z_h_T) (m_cursor z_h_T))) (wc' := (w_M_isChild cI cJ cC a_h a_h_refused a_h_kind a_h_sweets a_h_gives a_h_tape a_h_letter a_h_letterAt a_h_one a_h_two a_h_kept a_h_trail a_h_crumb a_h_nextCrumb a_h_goal a_h_start a_h_sits a_h_bestSits a_h_without a_h_row y_h_taped y_h_at y_h_statements y_h_hasImage z_h_beforeMany z_h_found y_h_lots y_h_rowMany (m_many z_h_T) (m_odd z_h_T) (m_step z_h_T) (m_bag z_h_T) (m_strokes z_h_T) (m_gave z_h_T) (m_threw z_h_T) (m_isKeeping z_h_T) (m_cursor z_h_T))) (ws' := (w_M_beforeOf cI cJ cC a_h a_h_refused a_h_kind a_h_sweets a_h_gives a_h_tape a_h_letter a_h_letterAt a_h_one a_h_two a_h_kept a_h_trail a_h_crumb a_h_nextCrumb a_h_goal a_h_start a_h_sits a_h_bestSits a_h_without a_h_row y_h_taped y_h_at y_h_statements y_h_hasImage y_h_lots y_h_rowMany (m_many z_h_T) (m_odd z_h_T) (m_step z_h_T) (m_bag z_h_T) (m_strokes z_h_T) (m_gave z_h_T) (m_threw z_h_T) (m_isKeeping z_h_T) (m_cursor z_h_T) z_h_beforeMany z_h_found z_h_refused (m_kind z_h_T) (m_sweets z_h_T) (m_gives z_h_T) (m_kept z_h_T) z_h_goal z_h_start)) (As := [.int x1]) (rest := []) hx hb hml hown hT (c_M_isChild (z_h_T := z_h_T) a_h a_h_refused a_h_kind a_h_sweets a_h_gives a_h_tape a_h_letter a_h_letterAt a_h_one a_h_two a_h_kept a_h_trail a_h_crumb a_h_nextCrumb a_h_goal a_h_start a_h_sits a_h_bestSits a_h_without a_h_row y_h_taped y_h_at y_h_statements y_h_hasImage z_h_beforeMany z_h_found y_h_lots y_h_rowMany hq1) k_924 k_926 ks_31 k_8 k_927 hd_M_isChild ⟨Nat.le_of_ble_eq_true rfl, Nat.le_of_ble_eq_true rfl⟩ xE0_ok trivial hA hK hP hD hS [0] [1, 2, 3, 4, 5, 6, 7] [7, 0, 1, 2, 3, 4, 5, 6] rfl rfl rfl rfl rfl rfl rfl rfl rfl rfl hl.1 rfl (Nat.le_of_ble_eq_true rfl) ⟨Nat.zero_le _, Nat.zero_le _⟩ d_M_beforeOf_2 (fun H locs hP hD hS => ?_)
  refine lv_if_ne (tgt := 12) hx hb d_M_beforeOf_5 (by decide) (fun c2 => ?_) (fun c2 => ?_)
  · have hf := io_f hf c2
    refine lv_iload_n hx hb d_M_beforeOf_12 rfl (lv_at hl 2 rfl) ?_
    refine lv_if_lt (tgt := 20) hx hb d_M_beforeOf_13 (by decide) (fun c3 => ?_) (fun c3 => ?_)
    · have hf := io_t hf c3
      refine lv_bipush (v := (-4)) hx hb d_M_beforeOf_20 (by decide) ?_
      refine lv_goto (tgt := 30) hx hb d_M_beforeOf_22 (by decide) ?_
      refine lv_istore (lv' := [(4, .int (-4)), (0, .ref a_h), (1, .int x1), (2, .int x2), (3, .int x3)]) hx hb d_M_beforeOf_30 hl (by decide) rfl (fun ls hl => ?_)
      refine lv_iload hx hb d_M_beforeOf_32 (lv_at hl 0 rfl) ?_
      refine lv_if_eq (tgt := 44) hx hb d_M_beforeOf_34 (by decide) (fun c => absurd c (show ¬ ((-4) : Int32) = 0 from by decide +kernel)) (fun _ => ?_)
      refine lv_aload_n hx hb d_M_beforeOf_37 rfl (lv_at hl 1 rfl) ?_
      refine lv_iload hx hb d_M_beforeOf_38 (lv_at hl 0 rfl) ?_
      obtain ⟨q4, hq4, hf⟩ := io_b hf
      refine xcVI (wc := (w_M_no cI cJ cC a_h a_h_refused a_h_kind a_h_sweets a_h_gives a_h_tape a_h_letter a_h_letterAt a_h_one a_h_two a_h_kept a_h_trail a_h_crumb a_h_nextCrumb a_h_goal a_h_start a_h_sits a_h_bestSits a_h_without a_h_row (m_many z_h_T) (m_odd z_h_T) (m_step z_h_T) (m_bag z_h_T) (m_strokes z_h_T) (m_gave z_h_T) (m_threw z_h_T) y_h_taped y_h_at y_h_statements y_h_hasImage (m_isKeeping z_h_T) (m_cursor z_h_T) z_h_beforeMany z_h_found y_h_lots y_h_rowMany z_h_refused)) (wc' := (w_M_no cI cJ cC a_h a_h_refused a_h_kind a_h_sweets a_h_gives a_h_tape a_h_letter a_h_letterAt a_h_one a_h_two a_h_kept a_h_trail a_h_crumb a_h_nextCrumb a_h_goal a_h_start a_h_sits a_h_bestSits a_h_without a_h_row (m_many z_h_T) (m_odd z_h_T) (m_step z_h_T) (m_bag z_h_T) (m_strokes z_h_T) (m_gave z_h_T) (m_threw z_h_T) y_h_taped y_h_at y_h_statements y_h_hasImage (m_isKeeping z_h_T) (m_cursor z_h_T) z_h_beforeMany z_h_found y_h_lots y_h_rowMany q4.2)) (ws' := (w_M_beforeOf cI cJ cC a_h a_h_refused a_h_kind a_h_sweets a_h_gives a_h_tape a_h_letter a_h_letterAt a_h_one a_h_two a_h_kept a_h_trail a_h_crumb a_h_nextCrumb a_h_goal a_h_start a_h_sits a_h_bestSits a_h_without a_h_row y_h_taped y_h_at y_h_statements y_h_hasImage y_h_lots y_h_rowMany (m_many z_h_T) (m_odd z_h_T) (m_step z_h_T) (m_bag z_h_T) (m_strokes z_h_T) (m_gave z_h_T) (m_threw z_h_T) (m_isKeeping z_h_T) (m_cursor z_h_T) z_h_beforeMany z_h_found q4.2 (m_kind z_h_T) (m_sweets z_h_T) (m_gives z_h_T) (m_kept z_h_T) z_h_goal z_h_start)) (As := [.int (-4)]) (rest := []) hx hb hml hown hT (c_M_no (z_h_refused := z_h_refused) a_h a_h_refused a_h_kind a_h_sweets a_h_gives a_h_tape a_h_letter a_h_letterAt a_h_one a_h_two a_h_kept a_h_trail a_h_crumb a_h_nextCrumb a_h_goal a_h_start a_h_sits a_h_bestSits a_h_without a_h_row (m_many z_h_T) (m_odd z_h_T) (m_step z_h_T) (m_bag z_h_T) (m_strokes z_h_T) (m_gave z_h_T) (m_threw z_h_T) y_h_taped y_h_at y_h_statements y_h_hasImage (m_isKeeping z_h_T) (m_cursor z_h_T) z_h_beforeMany z_h_found y_h_lots y_h_rowMany hq4) k_874 k_876 ks_24 k_8 k_877 hd_M_no ⟨Nat.le_of_ble_eq_true rfl, Nat.le_of_ble_eq_true rfl⟩ xE0_ok trivial hA hK hP hD hS [0, 1] [2, 3, 4, 5, 6, 7] [6, 7, 0, 1, 2, 3, 4, 5] rfl rfl rfl rfl rfl rfl rfl rfl rfl rfl hl.1 rfl (Nat.le_of_ble_eq_true rfl) ⟨Nat.zero_le _, Nat.zero_le _⟩ d_M_beforeOf_40 (fun H locs hP hD hS => ?_)
      have hq := Option.some.inj hf
      subst hq
      exact hret _ _ _ _ _ d_M_beforeOf_43 rfl rfl hP hD hS
    · have hf := io_f hf c3
      refine lv_iload_n hx hb d_M_beforeOf_16 rfl (lv_at hl 3 rfl) ?_
      refine lv_if_ge (tgt := 25) hx hb d_M_beforeOf_17 (by decide) (fun c5 => ?_) (fun c5 => ?_)
      · have hf := io_t hf c5
        refine lv_aload_n hx hb d_M_beforeOf_25 rfl (lv_at hl 0 rfl) ?_
        refine lv_iload_n hx hb d_M_beforeOf_26 rfl (lv_at hl 2 rfl) ?_
        obtain ⟨q6, hq6, hf⟩ := io_b hf
        refine xcVI (wc := (w_M_notBefore cI cJ cC a_h a_h_refused a_h_kind a_h_sweets a_h_gives a_h_tape a_h_letter a_h_letterAt a_h_one a_h_two a_h_kept a_h_trail a_h_crumb a_h_nextCrumb a_h_goal a_h_start a_h_sits a_h_bestSits a_h_without a_h_row y_h_taped y_h_at y_h_statements y_h_hasImage z_h_beforeMany z_h_found y_h_lots y_h_rowMany (m_many z_h_T) (m_odd z_h_T) (m_step z_h_T) (m_bag z_h_T) (m_strokes z_h_T) (m_gave z_h_T) (m_threw z_h_T) (m_isKeeping z_h_T) (m_cursor z_h_T))) (wc' := (w_M_notBefore cI cJ cC a_h a_h_refused a_h_kind a_h_sweets a_h_gives a_h_tape a_h_letter a_h_letterAt a_h_one a_h_two a_h_kept a_h_trail a_h_crumb a_h_nextCrumb a_h_goal a_h_start a_h_sits a_h_bestSits a_h_without a_h_row y_h_taped y_h_at y_h_statements y_h_hasImage z_h_beforeMany z_h_found y_h_lots y_h_rowMany (m_many z_h_T) (m_odd z_h_T) (m_step z_h_T) (m_bag z_h_T) (m_strokes z_h_T) (m_gave z_h_T) (m_threw z_h_T) (m_isKeeping z_h_T) (m_cursor z_h_T))) (ws' := (w_M_beforeOf cI cJ cC a_h a_h_refused a_h_kind a_h_sweets a_h_gives a_h_tape a_h_letter a_h_letterAt a_h_one a_h_two a_h_kept a_h_trail a_h_crumb a_h_nextCrumb a_h_goal a_h_start a_h_sits a_h_bestSits a_h_without a_h_row y_h_taped y_h_at y_h_statements y_h_hasImage y_h_lots y_h_rowMany (m_many z_h_T) (m_odd z_h_T) (m_step z_h_T) (m_bag z_h_T) (m_strokes z_h_T) (m_gave z_h_T) (m_threw z_h_T) (m_isKeeping z_h_T) (m_cursor z_h_T) z_h_beforeMany z_h_found z_h_refused (m_kind z_h_T) (m_sweets z_h_T) (m_gives z_h_T) (m_kept z_h_T) z_h_goal z_h_start)) (As := [.int x2]) (rest := []) hx hb hml hown hT (c_M_notBefore (z_h_T := z_h_T) a_h a_h_refused a_h_kind a_h_sweets a_h_gives a_h_tape a_h_letter a_h_letterAt a_h_one a_h_two a_h_kept a_h_trail a_h_crumb a_h_nextCrumb a_h_goal a_h_start a_h_sits a_h_bestSits a_h_without a_h_row y_h_taped y_h_at y_h_statements y_h_hasImage z_h_beforeMany z_h_found y_h_lots y_h_rowMany hq6) k_1064 k_1066 ks_49 k_8 k_1067 hd_M_notBefore ⟨Nat.le_of_ble_eq_true rfl, Nat.le_of_ble_eq_true rfl⟩ xE0_ok trivial hA hK hP hD hS [0] [1, 2, 3, 4, 5, 6, 7] [7, 0, 1, 2, 3, 4, 5, 6] rfl rfl rfl rfl rfl rfl rfl rfl rfl rfl hl.1 rfl (Nat.le_of_ble_eq_true rfl) ⟨Nat.zero_le _, Nat.zero_le _⟩ d_M_beforeOf_27 (fun H locs hP hD hS => ?_)
        refine lv_istore (lv' := [(4, .int q6), (0, .ref a_h), (1, .int x1), (2, .int x2), (3, .int x3)]) hx hb d_M_beforeOf_30 hl (by decide) rfl (fun ls hl => ?_)
        refine lv_iload hx hb d_M_beforeOf_32 (lv_at hl 0 rfl) ?_
        refine lv_if_eq (tgt := 44) hx hb d_M_beforeOf_34 (by decide) (fun c7 => ?_) (fun c7 => ?_)
        · have hf := io_t hf c7
          refine lv_aload_n hx hb d_M_beforeOf_44 rfl (lv_at hl 1 rfl) ?_
          refine lv_iload_n hx hb d_M_beforeOf_45 rfl (lv_at hl 3 rfl) ?_
          refine lv_iload_n hx hb d_M_beforeOf_46 rfl (lv_at hl 2 rfl) ?_
          refine lv_iload_n hx hb d_M_beforeOf_47 rfl (lv_at hl 4 rfl) ?_
          obtain ⟨q8, hq8, hf⟩ := io_b hf
          refine xcVV (wc := (w_M_findBefore cI cJ cC a_h a_h_refused a_h_kind a_h_sweets a_h_gives a_h_tape a_h_letter a_h_letterAt a_h_one a_h_two a_h_kept a_h_trail a_h_crumb a_h_nextCrumb a_h_goal a_h_start a_h_sits a_h_bestSits a_h_without a_h_row y_h_taped y_h_at y_h_statements y_h_hasImage y_h_lots y_h_rowMany (m_many z_h_T) (m_odd z_h_T) (m_step z_h_T) (m_bag z_h_T) (m_strokes z_h_T) (m_gave z_h_T) (m_threw z_h_T) (m_isKeeping z_h_T) (m_cursor z_h_T) z_h_beforeMany z_h_found (m_kind z_h_T) (m_sweets z_h_T) (m_gives z_h_T) (m_kept z_h_T) z_h_goal z_h_start)) (wc' := (w_M_findBefore cI cJ cC a_h a_h_refused a_h_kind a_h_sweets a_h_gives a_h_tape a_h_letter a_h_letterAt a_h_one a_h_two a_h_kept a_h_trail a_h_crumb a_h_nextCrumb a_h_goal a_h_start a_h_sits a_h_bestSits a_h_without a_h_row y_h_taped y_h_at y_h_statements y_h_hasImage y_h_lots y_h_rowMany (m_many q8.1) (m_odd q8.1) (m_step q8.1) (m_bag q8.1) (m_strokes q8.1) (m_gave q8.1) (m_threw q8.1) (m_isKeeping q8.1) (m_cursor q8.1) q8.2.1 q8.2.2.1 (m_kind q8.1) (m_sweets q8.1) (m_gives q8.1) (m_kept q8.1) q8.2.2.2.1 q8.2.2.2.2)) (ws' := (w_M_beforeOf cI cJ cC a_h a_h_refused a_h_kind a_h_sweets a_h_gives a_h_tape a_h_letter a_h_letterAt a_h_one a_h_two a_h_kept a_h_trail a_h_crumb a_h_nextCrumb a_h_goal a_h_start a_h_sits a_h_bestSits a_h_without a_h_row y_h_taped y_h_at y_h_statements y_h_hasImage y_h_lots y_h_rowMany (m_many q8.1) (m_odd q8.1) (m_step q8.1) (m_bag q8.1) (m_strokes q8.1) (m_gave q8.1) (m_threw q8.1) (m_isKeeping q8.1) (m_cursor q8.1) q8.2.1 q8.2.2.1 z_h_refused (m_kind q8.1) (m_sweets q8.1) (m_gives q8.1) (m_kept q8.1) q8.2.2.2.1 q8.2.2.2.2)) (As := [.int x2, .int x1, .int x3]) (rest := []) hx hb hml hown hT (c_M_findBefore (z_h_T := z_h_T) (z_h_beforeMany := z_h_beforeMany) (z_h_found := z_h_found) (z_h_goal := z_h_goal) (z_h_start := z_h_start) a_h a_h_refused a_h_kind a_h_sweets a_h_gives a_h_tape a_h_letter a_h_letterAt a_h_one a_h_two a_h_kept a_h_trail a_h_crumb a_h_nextCrumb a_h_goal a_h_start a_h_sits a_h_bestSits a_h_without a_h_row y_h_taped y_h_at y_h_statements y_h_hasImage y_h_lots y_h_rowMany hq8) k_1068 k_1070 ks_50 k_8 k_1071 hd_M_findBefore ⟨Nat.le_of_ble_eq_true rfl, Nat.le_of_ble_eq_true rfl⟩ xE0_ok trivial hA hK hP hD hS [0, 2, 3, 4, 5, 6, 7] [1] [1, 0, 2, 3, 4, 5, 6, 7] rfl rfl rfl rfl rfl rfl rfl rfl rfl rfl hl.1 rfl (Nat.le_of_ble_eq_true rfl) ⟨Nat.zero_le _, Nat.zero_le _⟩ d_M_beforeOf_48 (fun H locs hP hD hS => ?_)
          refine lv_aload_n hx hb d_M_beforeOf_51 rfl (lv_at hl 1 rfl) ?_
          refine va_get hx hb hT i_M hown hK hP 0 rfl rfl 29 (Nat.le_of_ble_eq_true rfl) (hT _ k_787) (fun _ h => h) rfl d_M_beforeOf_52 ?_
          have hq := Option.some.inj hf
          subst hq
          exact hret _ _ _ _ _ d_M_beforeOf_55 rfl rfl hP hD hS
        · have hf := io_f hf c7
          refine lv_aload_n hx hb d_M_beforeOf_37 rfl (lv_at hl 1 rfl) ?_
          refine lv_iload hx hb d_M_beforeOf_38 (lv_at hl 0 rfl) ?_
          obtain ⟨q9, hq9, hf⟩ := io_b hf
          refine xcVI (wc := (w_M_no cI cJ cC a_h a_h_refused a_h_kind a_h_sweets a_h_gives a_h_tape a_h_letter a_h_letterAt a_h_one a_h_two a_h_kept a_h_trail a_h_crumb a_h_nextCrumb a_h_goal a_h_start a_h_sits a_h_bestSits a_h_without a_h_row (m_many z_h_T) (m_odd z_h_T) (m_step z_h_T) (m_bag z_h_T) (m_strokes z_h_T) (m_gave z_h_T) (m_threw z_h_T) y_h_taped y_h_at y_h_statements y_h_hasImage (m_isKeeping z_h_T) (m_cursor z_h_T) z_h_beforeMany z_h_found y_h_lots y_h_rowMany z_h_refused)) (wc' := (w_M_no cI cJ cC a_h a_h_refused a_h_kind a_h_sweets a_h_gives a_h_tape a_h_letter a_h_letterAt a_h_one a_h_two a_h_kept a_h_trail a_h_crumb a_h_nextCrumb a_h_goal a_h_start a_h_sits a_h_bestSits a_h_without a_h_row (m_many z_h_T) (m_odd z_h_T) (m_step z_h_T) (m_bag z_h_T) (m_strokes z_h_T) (m_gave z_h_T) (m_threw z_h_T) y_h_taped y_h_at y_h_statements y_h_hasImage (m_isKeeping z_h_T) (m_cursor z_h_T) z_h_beforeMany z_h_found y_h_lots y_h_rowMany q9.2)) (ws' := (w_M_beforeOf cI cJ cC a_h a_h_refused a_h_kind a_h_sweets a_h_gives a_h_tape a_h_letter a_h_letterAt a_h_one a_h_two a_h_kept a_h_trail a_h_crumb a_h_nextCrumb a_h_goal a_h_start a_h_sits a_h_bestSits a_h_without a_h_row y_h_taped y_h_at y_h_statements y_h_hasImage y_h_lots y_h_rowMany (m_many z_h_T) (m_odd z_h_T) (m_step z_h_T) (m_bag z_h_T) (m_strokes z_h_T) (m_gave z_h_T) (m_threw z_h_T) (m_isKeeping z_h_T) (m_cursor z_h_T) z_h_beforeMany z_h_found q9.2 (m_kind z_h_T) (m_sweets z_h_T) (m_gives z_h_T) (m_kept z_h_T) z_h_goal z_h_start)) (As := [.int q6]) (rest := []) hx hb hml hown hT (c_M_no (z_h_refused := z_h_refused) a_h a_h_refused a_h_kind a_h_sweets a_h_gives a_h_tape a_h_letter a_h_letterAt a_h_one a_h_two a_h_kept a_h_trail a_h_crumb a_h_nextCrumb a_h_goal a_h_start a_h_sits a_h_bestSits a_h_without a_h_row (m_many z_h_T) (m_odd z_h_T) (m_step z_h_T) (m_bag z_h_T) (m_strokes z_h_T) (m_gave z_h_T) (m_threw z_h_T) y_h_taped y_h_at y_h_statements y_h_hasImage (m_isKeeping z_h_T) (m_cursor z_h_T) z_h_beforeMany z_h_found y_h_lots y_h_rowMany hq9) k_874 k_876 ks_24 k_8 k_877 hd_M_no ⟨Nat.le_of_ble_eq_true rfl, Nat.le_of_ble_eq_true rfl⟩ xE0_ok trivial hA hK hP hD hS [0, 1] [2, 3, 4, 5, 6, 7] [6, 7, 0, 1, 2, 3, 4, 5] rfl rfl rfl rfl rfl rfl rfl rfl rfl rfl hl.1 rfl (Nat.le_of_ble_eq_true rfl) ⟨Nat.zero_le _, Nat.zero_le _⟩ d_M_beforeOf_40 (fun H locs hP hD hS => ?_)
          have hq := Option.some.inj hf
          subst hq
          exact hret _ _ _ _ _ d_M_beforeOf_43 rfl rfl hP hD hS
      · have hf := io_f hf c5
        refine lv_bipush (v := (-4)) hx hb d_M_beforeOf_20 (by decide) ?_
        refine lv_goto (tgt := 30) hx hb d_M_beforeOf_22 (by decide) ?_
        refine lv_istore (lv' := [(4, .int (-4)), (0, .ref a_h), (1, .int x1), (2, .int x2), (3, .int x3)]) hx hb d_M_beforeOf_30 hl (by decide) rfl (fun ls hl => ?_)
        refine lv_iload hx hb d_M_beforeOf_32 (lv_at hl 0 rfl) ?_
        refine lv_if_eq (tgt := 44) hx hb d_M_beforeOf_34 (by decide) (fun c => absurd c (show ¬ ((-4) : Int32) = 0 from by decide +kernel)) (fun _ => ?_)
        refine lv_aload_n hx hb d_M_beforeOf_37 rfl (lv_at hl 1 rfl) ?_
        refine lv_iload hx hb d_M_beforeOf_38 (lv_at hl 0 rfl) ?_
        obtain ⟨q10, hq10, hf⟩ := io_b hf
        refine xcVI (wc := (w_M_no cI cJ cC a_h a_h_refused a_h_kind a_h_sweets a_h_gives a_h_tape a_h_letter a_h_letterAt a_h_one a_h_two a_h_kept a_h_trail a_h_crumb a_h_nextCrumb a_h_goal a_h_start a_h_sits a_h_bestSits a_h_without a_h_row (m_many z_h_T) (m_odd z_h_T) (m_step z_h_T) (m_bag z_h_T) (m_strokes z_h_T) (m_gave z_h_T) (m_threw z_h_T) y_h_taped y_h_at y_h_statements y_h_hasImage (m_isKeeping z_h_T) (m_cursor z_h_T) z_h_beforeMany z_h_found y_h_lots y_h_rowMany z_h_refused)) (wc' := (w_M_no cI cJ cC a_h a_h_refused a_h_kind a_h_sweets a_h_gives a_h_tape a_h_letter a_h_letterAt a_h_one a_h_two a_h_kept a_h_trail a_h_crumb a_h_nextCrumb a_h_goal a_h_start a_h_sits a_h_bestSits a_h_without a_h_row (m_many z_h_T) (m_odd z_h_T) (m_step z_h_T) (m_bag z_h_T) (m_strokes z_h_T) (m_gave z_h_T) (m_threw z_h_T) y_h_taped y_h_at y_h_statements y_h_hasImage (m_isKeeping z_h_T) (m_cursor z_h_T) z_h_beforeMany z_h_found y_h_lots y_h_rowMany q10.2)) (ws' := (w_M_beforeOf cI cJ cC a_h a_h_refused a_h_kind a_h_sweets a_h_gives a_h_tape a_h_letter a_h_letterAt a_h_one a_h_two a_h_kept a_h_trail a_h_crumb a_h_nextCrumb a_h_goal a_h_start a_h_sits a_h_bestSits a_h_without a_h_row y_h_taped y_h_at y_h_statements y_h_hasImage y_h_lots y_h_rowMany (m_many z_h_T) (m_odd z_h_T) (m_step z_h_T) (m_bag z_h_T) (m_strokes z_h_T) (m_gave z_h_T) (m_threw z_h_T) (m_isKeeping z_h_T) (m_cursor z_h_T) z_h_beforeMany z_h_found q10.2 (m_kind z_h_T) (m_sweets z_h_T) (m_gives z_h_T) (m_kept z_h_T) z_h_goal z_h_start)) (As := [.int (-4)]) (rest := []) hx hb hml hown hT (c_M_no (z_h_refused := z_h_refused) a_h a_h_refused a_h_kind a_h_sweets a_h_gives a_h_tape a_h_letter a_h_letterAt a_h_one a_h_two a_h_kept a_h_trail a_h_crumb a_h_nextCrumb a_h_goal a_h_start a_h_sits a_h_bestSits a_h_without a_h_row (m_many z_h_T) (m_odd z_h_T) (m_step z_h_T) (m_bag z_h_T) (m_strokes z_h_T) (m_gave z_h_T) (m_threw z_h_T) y_h_taped y_h_at y_h_statements y_h_hasImage (m_isKeeping z_h_T) (m_cursor z_h_T) z_h_beforeMany z_h_found y_h_lots y_h_rowMany hq10) k_874 k_876 ks_24 k_8 k_877 hd_M_no ⟨Nat.le_of_ble_eq_true rfl, Nat.le_of_ble_eq_true rfl⟩ xE0_ok trivial hA hK hP hD hS [0, 1] [2, 3, 4, 5, 6, 7] [6, 7, 0, 1, 2, 3, 4, 5] rfl rfl rfl rfl rfl rfl rfl rfl rfl rfl hl.1 rfl (Nat.le_of_ble_eq_true rfl) ⟨Nat.zero_le _, Nat.zero_le _⟩ d_M_beforeOf_40 (fun H locs hP hD hS => ?_)
        have hq := Option.some.inj hf
        subst hq
        exact hret _ _ _ _ _ d_M_beforeOf_43 rfl rfl hP hD hS
  · have hf := io_t hf c2
    refine lv_iconst (v := (-1)) hx hb d_M_beforeOf_8 (by decide) ?_
    refine lv_goto (tgt := 30) hx hb d_M_beforeOf_9 (by decide) ?_
    refine lv_istore (lv' := [(4, .int (-1)), (0, .ref a_h), (1, .int x1), (2, .int x2), (3, .int x3)]) hx hb d_M_beforeOf_30 hl (by decide) rfl (fun ls hl => ?_)
    refine lv_iload hx hb d_M_beforeOf_32 (lv_at hl 0 rfl) ?_
    refine lv_if_eq (tgt := 44) hx hb d_M_beforeOf_34 (by decide) (fun c => absurd c (show ¬ ((-1) : Int32) = 0 from by decide +kernel)) (fun _ => ?_)
    refine lv_aload_n hx hb d_M_beforeOf_37 rfl (lv_at hl 1 rfl) ?_
    refine lv_iload hx hb d_M_beforeOf_38 (lv_at hl 0 rfl) ?_
    obtain ⟨q11, hq11, hf⟩ := io_b hf
    refine xcVI (wc := (w_M_no cI cJ cC a_h a_h_refused a_h_kind a_h_sweets a_h_gives a_h_tape a_h_letter a_h_letterAt a_h_one a_h_two a_h_kept a_h_trail a_h_crumb a_h_nextCrumb a_h_goal a_h_start a_h_sits a_h_bestSits a_h_without a_h_row (m_many z_h_T) (m_odd z_h_T) (m_step z_h_T) (m_bag z_h_T) (m_strokes z_h_T) (m_gave z_h_T) (m_threw z_h_T) y_h_taped y_h_at y_h_statements y_h_hasImage (m_isKeeping z_h_T) (m_cursor z_h_T) z_h_beforeMany z_h_found y_h_lots y_h_rowMany z_h_refused)) (wc' := (w_M_no cI cJ cC a_h a_h_refused a_h_kind a_h_sweets a_h_gives a_h_tape a_h_letter a_h_letterAt a_h_one a_h_two a_h_kept a_h_trail a_h_crumb a_h_nextCrumb a_h_goal a_h_start a_h_sits a_h_bestSits a_h_without a_h_row (m_many z_h_T) (m_odd z_h_T) (m_step z_h_T) (m_bag z_h_T) (m_strokes z_h_T) (m_gave z_h_T) (m_threw z_h_T) y_h_taped y_h_at y_h_statements y_h_hasImage (m_isKeeping z_h_T) (m_cursor z_h_T) z_h_beforeMany z_h_found y_h_lots y_h_rowMany q11.2)) (ws' := (w_M_beforeOf cI cJ cC a_h a_h_refused a_h_kind a_h_sweets a_h_gives a_h_tape a_h_letter a_h_letterAt a_h_one a_h_two a_h_kept a_h_trail a_h_crumb a_h_nextCrumb a_h_goal a_h_start a_h_sits a_h_bestSits a_h_without a_h_row y_h_taped y_h_at y_h_statements y_h_hasImage y_h_lots y_h_rowMany (m_many z_h_T) (m_odd z_h_T) (m_step z_h_T) (m_bag z_h_T) (m_strokes z_h_T) (m_gave z_h_T) (m_threw z_h_T) (m_isKeeping z_h_T) (m_cursor z_h_T) z_h_beforeMany z_h_found q11.2 (m_kind z_h_T) (m_sweets z_h_T) (m_gives z_h_T) (m_kept z_h_T) z_h_goal z_h_start)) (As := [.int (-1)]) (rest := []) hx hb hml hown hT (c_M_no (z_h_refused := z_h_refused) a_h a_h_refused a_h_kind a_h_sweets a_h_gives a_h_tape a_h_letter a_h_letterAt a_h_one a_h_two a_h_kept a_h_trail a_h_crumb a_h_nextCrumb a_h_goal a_h_start a_h_sits a_h_bestSits a_h_without a_h_row (m_many z_h_T) (m_odd z_h_T) (m_step z_h_T) (m_bag z_h_T) (m_strokes z_h_T) (m_gave z_h_T) (m_threw z_h_T) y_h_taped y_h_at y_h_statements y_h_hasImage (m_isKeeping z_h_T) (m_cursor z_h_T) z_h_beforeMany z_h_found y_h_lots y_h_rowMany hq11) k_874 k_876 ks_24 k_8 k_877 hd_M_no ⟨Nat.le_of_ble_eq_true rfl, Nat.le_of_ble_eq_true rfl⟩ xE0_ok trivial hA hK hP hD hS [0, 1] [2, 3, 4, 5, 6, 7] [6, 7, 0, 1, 2, 3, 4, 5] rfl rfl rfl rfl rfl rfl rfl rfl rfl rfl hl.1 rfl (Nat.le_of_ble_eq_true rfl) ⟨Nat.zero_le _, Nat.zero_le _⟩ d_M_beforeOf_40 (fun H locs hP hD hS => ?_)
    have hq := Option.some.inj hf
    subst hq
    exact hret _ _ _ _ _ d_M_beforeOf_43 rfl rfl hP hD hS
