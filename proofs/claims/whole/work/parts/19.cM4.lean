/-! Contracts: M4. Printed by wip/whole/gen. -/
abbrev w_M_nextSeats (cI cJ cC : ClassId) (a_h a_h_refused a_h_kind a_h_sweets a_h_gives a_h_tape a_h_letter a_h_letterAt a_h_one a_h_two a_h_kept a_h_trail a_h_crumb a_h_nextCrumb a_h_goal a_h_start a_h_sits a_h_bestSits a_h_without a_h_row : Nat) (y_h_taped : Int32) (y_h_at : Int32) (y_h_statements : Int32) (y_h_hasImage : Int32) (y_h_beforeMany : Int32) (y_h_found : Int32) (y_h_lots : Int32) (y_h_rowMany : Int32) (p_h_many : Int32) (p_h_odd : Int32) (p_h_step : Int32) (p_h_bag : Int32) (p_h_strokes : Int32) (p_h_gave : Int32) (p_h_threw : Int32) (p_h_isKeeping : Int32) (p_h_cursor : Int32) (p_h_sits : (Nat → Int32)) : va_W := [(a_h, .inr (7, [.ref a_h_refused, .ref a_h_kind, .ref a_h_sweets, .ref a_h_gives, .int p_h_many, .int p_h_odd, .int p_h_step, .int p_h_bag, .int p_h_strokes, .int p_h_gave, .int p_h_threw, .ref a_h_tape, .ref a_h_letter, .ref a_h_letterAt, .ref a_h_one, .ref a_h_two, .int y_h_taped, .int y_h_at, .int y_h_statements, .ref a_h_kept, .int y_h_hasImage, .int p_h_isKeeping, .int p_h_cursor, .ref a_h_trail, .ref a_h_crumb, .ref a_h_nextCrumb, .ref a_h_goal, .ref a_h_start, .int y_h_beforeMany, .int y_h_found, .ref a_h_sits, .ref a_h_bestSits, .ref a_h_without, .int y_h_lots, .ref a_h_row, .int y_h_rowMany])), (a_h_sits, .inl (cI, (8, .inl p_h_sits)))]
theorem d_M_nextSeats_0 : decode b_M_nextSeats 0 = .ok (.aload_n 0, 1) := by decide +kernel
theorem d_M_nextSeats_1 : decode b_M_nextSeats 1 = .ok (.getfield 78, 3) := by decide +kernel
theorem d_M_nextSeats_4 : decode b_M_nextSeats 4 = .ok (.iconst 2, 1) := by decide +kernel
theorem d_M_nextSeats_5 : decode b_M_nextSeats 5 = .ok (.isub, 1) := by decide +kernel
theorem d_M_nextSeats_6 : decode b_M_nextSeats 6 = .ok (.istore_n 1, 1) := by decide +kernel
theorem d_M_nextSeats_7 : decode b_M_nextSeats 7 = .ok (.iload_n 1, 1) := by decide +kernel
theorem d_M_nextSeats_8 : decode b_M_nextSeats 8 = .ok (.ifCond .le 26, 3) := by decide +kernel
theorem d_M_nextSeats_11 : decode b_M_nextSeats 11 = .ok (.aload_n 0, 1) := by decide +kernel
theorem d_M_nextSeats_12 : decode b_M_nextSeats 12 = .ok (.getfield 63, 3) := by decide +kernel
theorem d_M_nextSeats_15 : decode b_M_nextSeats 15 = .ok (.iload_n 1, 1) := by decide +kernel
theorem d_M_nextSeats_16 : decode b_M_nextSeats 16 = .ok (.iaload, 1) := by decide +kernel
theorem d_M_nextSeats_17 : decode b_M_nextSeats 17 = .ok (.aload_n 0, 1) := by decide +kernel
theorem d_M_nextSeats_18 : decode b_M_nextSeats 18 = .ok (.getfield 63, 3) := by decide +kernel
theorem d_M_nextSeats_21 : decode b_M_nextSeats 21 = .ok (.iload_n 1, 1) := by decide +kernel
theorem d_M_nextSeats_22 : decode b_M_nextSeats 22 = .ok (.iconst 1, 1) := by decide +kernel
theorem d_M_nextSeats_23 : decode b_M_nextSeats 23 = .ok (.iadd, 1) := by decide +kernel
theorem d_M_nextSeats_24 : decode b_M_nextSeats 24 = .ok (.iaload, 1) := by decide +kernel
theorem d_M_nextSeats_25 : decode b_M_nextSeats 25 = .ok (.if_icmp .le 9, 3) := by decide +kernel
theorem d_M_nextSeats_28 : decode b_M_nextSeats 28 = .ok (.iinc 1 (-1), 3) := by decide +kernel
theorem d_M_nextSeats_31 : decode b_M_nextSeats 31 = .ok (.goto (-24), 3) := by decide +kernel
theorem d_M_nextSeats_34 : decode b_M_nextSeats 34 = .ok (.iload_n 1, 1) := by decide +kernel
theorem d_M_nextSeats_35 : decode b_M_nextSeats 35 = .ok (.ifCond .gt 5, 3) := by decide +kernel
theorem d_M_nextSeats_38 : decode b_M_nextSeats 38 = .ok (.iconst 0, 1) := by decide +kernel
theorem d_M_nextSeats_39 : decode b_M_nextSeats 39 = .ok (.ireturn, 1) := by decide +kernel
theorem d_M_nextSeats_40 : decode b_M_nextSeats 40 = .ok (.aload_n 0, 1) := by decide +kernel
theorem d_M_nextSeats_41 : decode b_M_nextSeats 41 = .ok (.getfield 78, 3) := by decide +kernel
theorem d_M_nextSeats_44 : decode b_M_nextSeats 44 = .ok (.iconst 1, 1) := by decide +kernel
theorem d_M_nextSeats_45 : decode b_M_nextSeats 45 = .ok (.isub, 1) := by decide +kernel
theorem d_M_nextSeats_46 : decode b_M_nextSeats 46 = .ok (.istore_n 2, 1) := by decide +kernel
theorem d_M_nextSeats_47 : decode b_M_nextSeats 47 = .ok (.aload_n 0, 1) := by decide +kernel
theorem d_M_nextSeats_48 : decode b_M_nextSeats 48 = .ok (.getfield 63, 3) := by decide +kernel
theorem d_M_nextSeats_51 : decode b_M_nextSeats 51 = .ok (.iload_n 2, 1) := by decide +kernel
theorem d_M_nextSeats_52 : decode b_M_nextSeats 52 = .ok (.iaload, 1) := by decide +kernel
theorem d_M_nextSeats_53 : decode b_M_nextSeats 53 = .ok (.aload_n 0, 1) := by decide +kernel
theorem d_M_nextSeats_54 : decode b_M_nextSeats 54 = .ok (.getfield 63, 3) := by decide +kernel
theorem d_M_nextSeats_57 : decode b_M_nextSeats 57 = .ok (.iload_n 1, 1) := by decide +kernel
theorem d_M_nextSeats_58 : decode b_M_nextSeats 58 = .ok (.iaload, 1) := by decide +kernel
theorem d_M_nextSeats_59 : decode b_M_nextSeats 59 = .ok (.if_icmp .ge 9, 3) := by decide +kernel
theorem d_M_nextSeats_62 : decode b_M_nextSeats 62 = .ok (.iinc 2 (-1), 3) := by decide +kernel
theorem d_M_nextSeats_65 : decode b_M_nextSeats 65 = .ok (.goto (-18), 3) := by decide +kernel
theorem d_M_nextSeats_68 : decode b_M_nextSeats 68 = .ok (.aload_n 0, 1) := by decide +kernel
theorem d_M_nextSeats_69 : decode b_M_nextSeats 69 = .ok (.getfield 63, 3) := by decide +kernel
theorem d_M_nextSeats_72 : decode b_M_nextSeats 72 = .ok (.iload_n 1, 1) := by decide +kernel
theorem d_M_nextSeats_73 : decode b_M_nextSeats 73 = .ok (.iaload, 1) := by decide +kernel
theorem d_M_nextSeats_74 : decode b_M_nextSeats 74 = .ok (.istore_n 3, 1) := by decide +kernel
theorem d_M_nextSeats_75 : decode b_M_nextSeats 75 = .ok (.aload_n 0, 1) := by decide +kernel
theorem d_M_nextSeats_76 : decode b_M_nextSeats 76 = .ok (.getfield 63, 3) := by decide +kernel
theorem d_M_nextSeats_79 : decode b_M_nextSeats 79 = .ok (.iload_n 1, 1) := by decide +kernel
theorem d_M_nextSeats_80 : decode b_M_nextSeats 80 = .ok (.aload_n 0, 1) := by decide +kernel
theorem d_M_nextSeats_81 : decode b_M_nextSeats 81 = .ok (.getfield 63, 3) := by decide +kernel
theorem d_M_nextSeats_84 : decode b_M_nextSeats 84 = .ok (.iload_n 2, 1) := by decide +kernel
theorem d_M_nextSeats_85 : decode b_M_nextSeats 85 = .ok (.iaload, 1) := by decide +kernel
theorem d_M_nextSeats_86 : decode b_M_nextSeats 86 = .ok (.iastore, 1) := by decide +kernel
theorem d_M_nextSeats_87 : decode b_M_nextSeats 87 = .ok (.aload_n 0, 1) := by decide +kernel
theorem d_M_nextSeats_88 : decode b_M_nextSeats 88 = .ok (.getfield 63, 3) := by decide +kernel
theorem d_M_nextSeats_91 : decode b_M_nextSeats 91 = .ok (.iload_n 2, 1) := by decide +kernel
theorem d_M_nextSeats_92 : decode b_M_nextSeats 92 = .ok (.iload_n 3, 1) := by decide +kernel
theorem d_M_nextSeats_93 : decode b_M_nextSeats 93 = .ok (.iastore, 1) := by decide +kernel
theorem d_M_nextSeats_94 : decode b_M_nextSeats 94 = .ok (.iload_n 1, 1) := by decide +kernel
theorem d_M_nextSeats_95 : decode b_M_nextSeats 95 = .ok (.iconst 1, 1) := by decide +kernel
theorem d_M_nextSeats_96 : decode b_M_nextSeats 96 = .ok (.iadd, 1) := by decide +kernel
theorem d_M_nextSeats_97 : decode b_M_nextSeats 97 = .ok (.istore 4, 2) := by decide +kernel
theorem d_M_nextSeats_99 : decode b_M_nextSeats 99 = .ok (.aload_n 0, 1) := by decide +kernel
theorem d_M_nextSeats_100 : decode b_M_nextSeats 100 = .ok (.getfield 78, 3) := by decide +kernel
theorem d_M_nextSeats_103 : decode b_M_nextSeats 103 = .ok (.iconst 1, 1) := by decide +kernel
theorem d_M_nextSeats_104 : decode b_M_nextSeats 104 = .ok (.isub, 1) := by decide +kernel
theorem d_M_nextSeats_105 : decode b_M_nextSeats 105 = .ok (.istore 5, 2) := by decide +kernel
theorem d_M_nextSeats_107 : decode b_M_nextSeats 107 = .ok (.iload 4, 2) := by decide +kernel
theorem d_M_nextSeats_109 : decode b_M_nextSeats 109 = .ok (.iload 5, 2) := by decide +kernel
theorem d_M_nextSeats_111 : decode b_M_nextSeats 111 = .ok (.if_icmp .ge 42, 3) := by decide +kernel
theorem d_M_nextSeats_114 : decode b_M_nextSeats 114 = .ok (.aload_n 0, 1) := by decide +kernel
theorem d_M_nextSeats_115 : decode b_M_nextSeats 115 = .ok (.getfield 63, 3) := by decide +kernel
theorem d_M_nextSeats_118 : decode b_M_nextSeats 118 = .ok (.iload 4, 2) := by decide +kernel
theorem d_M_nextSeats_120 : decode b_M_nextSeats 120 = .ok (.iaload, 1) := by decide +kernel
theorem d_M_nextSeats_121 : decode b_M_nextSeats 121 = .ok (.istore_n 3, 1) := by decide +kernel
theorem d_M_nextSeats_122 : decode b_M_nextSeats 122 = .ok (.aload_n 0, 1) := by decide +kernel
theorem d_M_nextSeats_123 : decode b_M_nextSeats 123 = .ok (.getfield 63, 3) := by decide +kernel
theorem d_M_nextSeats_126 : decode b_M_nextSeats 126 = .ok (.iload 4, 2) := by decide +kernel
theorem d_M_nextSeats_128 : decode b_M_nextSeats 128 = .ok (.aload_n 0, 1) := by decide +kernel
theorem d_M_nextSeats_129 : decode b_M_nextSeats 129 = .ok (.getfield 63, 3) := by decide +kernel
theorem d_M_nextSeats_132 : decode b_M_nextSeats 132 = .ok (.iload 5, 2) := by decide +kernel
theorem d_M_nextSeats_134 : decode b_M_nextSeats 134 = .ok (.iaload, 1) := by decide +kernel
theorem d_M_nextSeats_135 : decode b_M_nextSeats 135 = .ok (.iastore, 1) := by decide +kernel
theorem d_M_nextSeats_136 : decode b_M_nextSeats 136 = .ok (.aload_n 0, 1) := by decide +kernel
theorem d_M_nextSeats_137 : decode b_M_nextSeats 137 = .ok (.getfield 63, 3) := by decide +kernel
theorem d_M_nextSeats_140 : decode b_M_nextSeats 140 = .ok (.iload 5, 2) := by decide +kernel
theorem d_M_nextSeats_142 : decode b_M_nextSeats 142 = .ok (.iload_n 3, 1) := by decide +kernel
theorem d_M_nextSeats_143 : decode b_M_nextSeats 143 = .ok (.iastore, 1) := by decide +kernel
theorem d_M_nextSeats_144 : decode b_M_nextSeats 144 = .ok (.iinc 4 1, 3) := by decide +kernel
theorem d_M_nextSeats_147 : decode b_M_nextSeats 147 = .ok (.iinc 5 (-1), 3) := by decide +kernel
theorem d_M_nextSeats_150 : decode b_M_nextSeats 150 = .ok (.goto (-43), 3) := by decide +kernel
theorem d_M_nextSeats_153 : decode b_M_nextSeats 153 = .ok (.iconst 1, 1) := by decide +kernel
theorem d_M_nextSeats_154 : decode b_M_nextSeats 154 = .ok (.ireturn, 1) := by decide +kernel
set_option maxHeartbeats 4000000 in
set_option maxRecDepth 100000 in
theorem c_M_nextSeats {l : Launch} {D : va_G} {cI cJ cC : ClassId} (a_h a_h_refused a_h_kind a_h_sweets a_h_gives a_h_tape a_h_letter a_h_letterAt a_h_one a_h_two a_h_kept a_h_trail a_h_crumb a_h_nextCrumb a_h_goal a_h_start a_h_sits a_h_bestSits a_h_without a_h_row : Nat) (y_h_taped : Int32) (y_h_at : Int32) (y_h_statements : Int32) (y_h_hasImage : Int32) (y_h_beforeMany : Int32) (y_h_found : Int32) (y_h_lots : Int32) (y_h_rowMany : Int32) {z_h_T : MT} {z_h_sits : (Nat → Int32)} {q : Int32 × (Nat → Int32)} (hf : f_M_nextSeats z_h_T z_h_sits = some q) : xI l y_M_nextSeats b_M_nextSeats 6 .boolean 0 0 D (tyK cI cJ cC) xE0 [.ref a_h] (w_M_nextSeats cI cJ cC a_h a_h_refused a_h_kind a_h_sweets a_h_gives a_h_tape a_h_letter a_h_letterAt a_h_one a_h_two a_h_kept a_h_trail a_h_crumb a_h_nextCrumb a_h_goal a_h_start a_h_sits a_h_bestSits a_h_without a_h_row y_h_taped y_h_at y_h_statements y_h_hasImage y_h_beforeMany y_h_found y_h_lots y_h_rowMany (m_many z_h_T) (m_odd z_h_T) (m_step z_h_T) (m_bag z_h_T) (m_strokes z_h_T) (m_gave z_h_T) (m_threw z_h_T) (m_isKeeping z_h_T) (m_cursor z_h_T) z_h_sits) q.1 (w_M_nextSeats cI cJ cC a_h a_h_refused a_h_kind a_h_sweets a_h_gives a_h_tape a_h_letter a_h_letterAt a_h_one a_h_two a_h_kept a_h_trail a_h_crumb a_h_nextCrumb a_h_goal a_h_start a_h_sits a_h_bestSits a_h_without a_h_row y_h_taped y_h_at y_h_statements y_h_hasImage y_h_beforeMany y_h_found y_h_lots y_h_rowMany (m_many z_h_T) (m_odd z_h_T) (m_step z_h_T) (m_bag z_h_T) (m_strokes z_h_T) (m_gave z_h_T) (m_threw z_h_T) (m_isKeeping z_h_T) (m_cursor z_h_T) q.2) := by
  refine xI_of (by decide) (Nat.le_of_ble_eq_true rfl) ?_
  intro p e s m args below meth c A Q hx hb hml hown hT hA hP hD hK hS hE hret ls hl
  have hown : s.vm.findClass R_M = some m.cls := hown
  have hl : lv_has ls 6 [(0, .ref a_h)] := hl
  unfold f_M_nextSeats at hf
  have L7 : ∀ (z_h_sits : (Nat → Int32)) (k : Int32 → Option (Int32 × (Nat → Int32))), (∀ (x1 : Int32) (H : Heap) (locs : List Loc) (ls : Array Slot), k x1 = some q → va_P D classes (w_M_nextSeats cI cJ cC a_h a_h_refused a_h_kind a_h_sweets a_h_gives a_h_tape a_h_letter a_h_letterAt a_h_one a_h_two a_h_kept a_h_trail a_h_crumb a_h_nextCrumb a_h_goal a_h_start a_h_sits a_h_bestSits a_h_without a_h_row y_h_taped y_h_at y_h_statements y_h_hasImage y_h_beforeMany y_h_found y_h_lots y_h_rowMany (m_many z_h_T) (m_odd z_h_T) (m_step z_h_T) (m_bag z_h_T) (m_strokes z_h_T) (m_gave z_h_T) (m_threw z_h_T) (m_isKeeping z_h_T) (m_cursor z_h_T) z_h_sits) H → va_D A (w_M_nextSeats cI cJ cC a_h a_h_refused a_h_kind a_h_sweets a_h_gives a_h_tape a_h_letter a_h_letterAt a_h_one a_h_two a_h_kept a_h_trail a_h_crumb a_h_nextCrumb a_h_goal a_h_start a_h_sits a_h_bestSits a_h_without a_h_row y_h_taped y_h_at y_h_statements y_h_hasImage y_h_beforeMany y_h_found y_h_lots y_h_rowMany (m_many z_h_T) (m_odd z_h_T) (m_step z_h_T) (m_bag z_h_T) (m_strokes z_h_T) (m_gave z_h_T) (m_threw z_h_T) (m_isKeeping z_h_T) (m_cursor z_h_T) z_h_sits) → va_S A s.heap H locs → lv_has ls 6 [(0, .ref a_h), (1, .int x1)] → W p l e (xRm 0 0) s m args below meth c H locs 0 0 Q (F0 m 34 ls [])) → ∀ (n : Nat) (x1 : Int32) (H : Heap) (locs : List Loc) (ls : Array Slot), f_M_nextSeats_L7 z_h_sits k n x1 = some q → va_P D classes (w_M_nextSeats cI cJ cC a_h a_h_refused a_h_kind a_h_sweets a_h_gives a_h_tape a_h_letter a_h_letterAt a_h_one a_h_two a_h_kept a_h_trail a_h_crumb a_h_nextCrumb a_h_goal a_h_start a_h_sits a_h_bestSits a_h_without a_h_row y_h_taped y_h_at y_h_statements y_h_hasImage y_h_beforeMany y_h_found y_h_lots y_h_rowMany (m_many z_h_T) (m_odd z_h_T) (m_step z_h_T) (m_bag z_h_T) (m_strokes z_h_T) (m_gave z_h_T) (m_threw z_h_T) (m_isKeeping z_h_T) (m_cursor z_h_T) z_h_sits) H → va_D A (w_M_nextSeats cI cJ cC a_h a_h_refused a_h_kind a_h_sweets a_h_gives a_h_tape a_h_letter a_h_letterAt a_h_one a_h_two a_h_kept a_h_trail a_h_crumb a_h_nextCrumb a_h_goal a_h_start a_h_sits a_h_bestSits a_h_without a_h_row y_h_taped y_h_at y_h_statements y_h_hasImage y_h_beforeMany y_h_found y_h_lots y_h_rowMany (m_many z_h_T) (m_odd z_h_T) (m_step z_h_T) (m_bag z_h_T) (m_strokes z_h_T) (m_gave z_h_T) (m_threw z_h_T) (m_isKeeping z_h_T) (m_cursor z_h_T) z_h_sits) → va_S A s.heap H locs → lv_has ls 6 [(0, .ref a_h), (1, .int x1)] → W p l e (xRm 0 0) s m args below meth c H locs 0 0 Q (F0 m 7 ls []) := by
    intro z_h_sits k hk n
    induction n with
    | zero => intro x1 H locs ls hf hP hD hS hl; exact nomatch (show (none : Option (Int32 × (Nat → Int32))) = some q from hf)
    | succ n ih =>
      intro x1 H locs ls hf hP hD hS hl
      refine lv_iload_n hx hb d_M_nextSeats_7 rfl (lv_at hl 1 rfl) ?_
      refine lv_if_le (tgt := 34) hx hb d_M_nextSeats_8 (by decide) (fun c1 => ?_) (fun c1 => ?_)
      · have hf := io_t hf c1
        exact hk x1 _ _ _ hf hP hD hS (lv_sub hl [0, 1] rfl)
      · have hf := io_f hf c1
        refine lv_aload_n hx hb d_M_nextSeats_11 rfl (lv_at hl 0 rfl) ?_
        refine va_get hx hb hT i_M hown hK hP 0 rfl rfl 30 (Nat.le_of_ble_eq_true rfl) (hT _ k_788) (fun _ h => h) rfl d_M_nextSeats_12 ?_
        refine lv_iload_n hx hb d_M_nextSeats_15 rfl (lv_at hl 1 rfl) ?_
        obtain ⟨c2, hf⟩ := io_n hf
        refine x_iald hx hb hK hP 1 0 rfl rfl (j := x1.toNatClampNeg) rfl c2 d_M_nextSeats_16 ?_
        refine lv_aload_n hx hb d_M_nextSeats_17 rfl (lv_at hl 0 rfl) ?_
        refine va_get hx hb hT i_M hown hK hP 0 rfl rfl 30 (Nat.le_of_ble_eq_true rfl) (hT _ k_788) (fun _ h => h) rfl d_M_nextSeats_18 ?_
        refine lv_iload_n hx hb d_M_nextSeats_21 rfl (lv_at hl 1 rfl) ?_
        refine lv_iconst (v := 1) hx hb d_M_nextSeats_22 (by decide) ?_
        refine lv_iadd hx hb d_M_nextSeats_23 ?_
        obtain ⟨c3, hf⟩ := io_n hf
        refine x_iald hx hb hK hP 1 0 rfl rfl (j := (x1 + 1).toNatClampNeg) rfl c3 d_M_nextSeats_24 ?_
        refine lv_icmp_le (tgt := 34) hx hb d_M_nextSeats_25 (by decide) (fun c4 => ?_) (fun c4 => ?_)
        · have hf := io_t hf c4
          exact hk x1 _ _ _ hf hP hD hS (lv_sub hl [0, 1] rfl)
        · have hf := io_f hf c4
          refine lv_iinc (v := (x1 + (-1))) (lv' := [(1, .int (x1 + (-1))), (0, .ref a_h)]) hx hb d_M_nextSeats_28 hl (k := 1) rfl (by rfl) (by decide) rfl (fun ls hl => ?_)
          refine lv_goto (tgt := 7) hx hb d_M_nextSeats_31 (by decide) ?_
          exact ih (x1 + (-1)) _ _ _ hf hP hD hS (lv_sub hl [1, 0] rfl)
  have L47 : ∀ (z_h_sits : (Nat → Int32)) (x1 : Int32) (k : Int32 → Option (Int32 × (Nat → Int32))), (∀ (x2 : Int32) (H : Heap) (locs : List Loc) (ls : Array Slot), k x2 = some q → va_P D classes (w_M_nextSeats cI cJ cC a_h a_h_refused a_h_kind a_h_sweets a_h_gives a_h_tape a_h_letter a_h_letterAt a_h_one a_h_two a_h_kept a_h_trail a_h_crumb a_h_nextCrumb a_h_goal a_h_start a_h_sits a_h_bestSits a_h_without a_h_row y_h_taped y_h_at y_h_statements y_h_hasImage y_h_beforeMany y_h_found y_h_lots y_h_rowMany (m_many z_h_T) (m_odd z_h_T) (m_step z_h_T) (m_bag z_h_T) (m_strokes z_h_T) (m_gave z_h_T) (m_threw z_h_T) (m_isKeeping z_h_T) (m_cursor z_h_T) z_h_sits) H → va_D A (w_M_nextSeats cI cJ cC a_h a_h_refused a_h_kind a_h_sweets a_h_gives a_h_tape a_h_letter a_h_letterAt a_h_one a_h_two a_h_kept a_h_trail a_h_crumb a_h_nextCrumb a_h_goal a_h_start a_h_sits a_h_bestSits a_h_without a_h_row y_h_taped y_h_at y_h_statements y_h_hasImage y_h_beforeMany y_h_found y_h_lots y_h_rowMany (m_many z_h_T) (m_odd z_h_T) (m_step z_h_T) (m_bag z_h_T) (m_strokes z_h_T) (m_gave z_h_T) (m_threw z_h_T) (m_isKeeping z_h_T) (m_cursor z_h_T) z_h_sits) → va_S A s.heap H locs → lv_has ls 6 [(0, .ref a_h), (1, .int x1), (2, .int x2)] → W p l e (xRm 0 0) s m args below meth c H locs 0 0 Q (F0 m 68 ls [])) → ∀ (n : Nat) (x2 : Int32) (H : Heap) (locs : List Loc) (ls : Array Slot), f_M_nextSeats_L47 z_h_sits x1 k n x2 = some q → va_P D classes (w_M_nextSeats cI cJ cC a_h a_h_refused a_h_kind a_h_sweets a_h_gives a_h_tape a_h_letter a_h_letterAt a_h_one a_h_two a_h_kept a_h_trail a_h_crumb a_h_nextCrumb a_h_goal a_h_start a_h_sits a_h_bestSits a_h_without a_h_row y_h_taped y_h_at y_h_statements y_h_hasImage y_h_beforeMany y_h_found y_h_lots y_h_rowMany (m_many z_h_T) (m_odd z_h_T) (m_step z_h_T) (m_bag z_h_T) (m_strokes z_h_T) (m_gave z_h_T) (m_threw z_h_T) (m_isKeeping z_h_T) (m_cursor z_h_T) z_h_sits) H → va_D A (w_M_nextSeats cI cJ cC a_h a_h_refused a_h_kind a_h_sweets a_h_gives a_h_tape a_h_letter a_h_letterAt a_h_one a_h_two a_h_kept a_h_trail a_h_crumb a_h_nextCrumb a_h_goal a_h_start a_h_sits a_h_bestSits a_h_without a_h_row y_h_taped y_h_at y_h_statements y_h_hasImage y_h_beforeMany y_h_found y_h_lots y_h_rowMany (m_many z_h_T) (m_odd z_h_T) (m_step z_h_T) (m_bag z_h_T) (m_strokes z_h_T) (m_gave z_h_T) (m_threw z_h_T) (m_isKeeping z_h_T) (m_cursor z_h_T) z_h_sits) → va_S A s.heap H locs → lv_has ls 6 [(0, .ref a_h), (1, .int x1), (2, .int x2)] → W p l e (xRm 0 0) s m args below meth c H locs 0 0 Q (F0 m 47 ls []) := by
    intro z_h_sits x1 k hk n
    induction n with
    | zero => intro x2 H locs ls hf hP hD hS hl; exact nomatch (show (none : Option (Int32 × (Nat → Int32))) = some q from hf)
    | succ n ih =>
      intro x2 H locs ls hf hP hD hS hl
      refine lv_aload_n hx hb d_M_nextSeats_47 rfl (lv_at hl 0 rfl) ?_
      refine va_get hx hb hT i_M hown hK hP 0 rfl rfl 30 (Nat.le_of_ble_eq_true rfl) (hT _ k_788) (fun _ h => h) rfl d_M_nextSeats_48 ?_
      refine lv_iload_n hx hb d_M_nextSeats_51 rfl (lv_at hl 2 rfl) ?_
      obtain ⟨c7, hf⟩ := io_n hf
      refine x_iald hx hb hK hP 1 0 rfl rfl (j := x2.toNatClampNeg) rfl c7 d_M_nextSeats_52 ?_
      refine lv_aload_n hx hb d_M_nextSeats_53 rfl (lv_at hl 0 rfl) ?_
      refine va_get hx hb hT i_M hown hK hP 0 rfl rfl 30 (Nat.le_of_ble_eq_true rfl) (hT _ k_788) (fun _ h => h) rfl d_M_nextSeats_54 ?_
      refine lv_iload_n hx hb d_M_nextSeats_57 rfl (lv_at hl 1 rfl) ?_
      obtain ⟨c8, hf⟩ := io_n hf
      refine x_iald hx hb hK hP 1 0 rfl rfl (j := x1.toNatClampNeg) rfl c8 d_M_nextSeats_58 ?_
      refine lv_icmp_ge (tgt := 68) hx hb d_M_nextSeats_59 (by decide) (fun c9 => ?_) (fun c9 => ?_)
      · have hf := io_t hf c9
        exact hk x2 _ _ _ hf hP hD hS (lv_sub hl [0, 1, 2] rfl)
      · have hf := io_f hf c9
        refine lv_iinc (v := (x2 + (-1))) (lv' := [(2, .int (x2 + (-1))), (0, .ref a_h), (1, .int x1)]) hx hb d_M_nextSeats_62 hl (k := 2) rfl (by rfl) (by decide) rfl (fun ls hl => ?_)
        refine lv_goto (tgt := 47) hx hb d_M_nextSeats_65 (by decide) ?_
        exact ih (x2 + (-1)) _ _ _ hf hP hD hS (lv_sub hl [1, 2, 0] rfl)
  have L107 : ∀ (n : Nat) (z_h_sits : (Nat → Int32)) (x4 : Int32) (x5 : Int32) (H : Heap) (locs : List Loc) (ls : Array Slot), f_M_nextSeats_L107 n z_h_sits x4 x5 = some q → va_P D classes (w_M_nextSeats cI cJ cC a_h a_h_refused a_h_kind a_h_sweets a_h_gives a_h_tape a_h_letter a_h_letterAt a_h_one a_h_two a_h_kept a_h_trail a_h_crumb a_h_nextCrumb a_h_goal a_h_start a_h_sits a_h_bestSits a_h_without a_h_row y_h_taped y_h_at y_h_statements y_h_hasImage y_h_beforeMany y_h_found y_h_lots y_h_rowMany (m_many z_h_T) (m_odd z_h_T) (m_step z_h_T) (m_bag z_h_T) (m_strokes z_h_T) (m_gave z_h_T) (m_threw z_h_T) (m_isKeeping z_h_T) (m_cursor z_h_T) z_h_sits) H → va_D A (w_M_nextSeats cI cJ cC a_h a_h_refused a_h_kind a_h_sweets a_h_gives a_h_tape a_h_letter a_h_letterAt a_h_one a_h_two a_h_kept a_h_trail a_h_crumb a_h_nextCrumb a_h_goal a_h_start a_h_sits a_h_bestSits a_h_without a_h_row y_h_taped y_h_at y_h_statements y_h_hasImage y_h_beforeMany y_h_found y_h_lots y_h_rowMany (m_many z_h_T) (m_odd z_h_T) (m_step z_h_T) (m_bag z_h_T) (m_strokes z_h_T) (m_gave z_h_T) (m_threw z_h_T) (m_isKeeping z_h_T) (m_cursor z_h_T) z_h_sits) → va_S A s.heap H locs → lv_has ls 6 [(0, .ref a_h), (4, .int x4), (5, .int x5)] → W p l e (xRm 0 0) s m args below meth c H locs 0 0 Q (F0 m 107 ls []) := by
    intro n
    induction n with
    | zero => intro z_h_sits x4 x5 H locs ls hf hP hD hS hl; exact nomatch (show (none : Option (Int32 × (Nat → Int32))) = some q from hf)
    | succ n ih =>
      intro z_h_sits x4 x5 H locs ls hf hP hD hS hl
      refine lv_iload hx hb d_M_nextSeats_107 (lv_at hl 1 rfl) ?_
      refine lv_iload hx hb d_M_nextSeats_109 (lv_at hl 2 rfl) ?_
      refine lv_icmp_ge (tgt := 153) hx hb d_M_nextSeats_111 (by decide) (fun c13 => ?_) (fun c13 => ?_)
      · have hf := io_t hf c13
        refine lv_iconst (v := 1) hx hb d_M_nextSeats_153 (by decide) ?_
        have hq := Option.some.inj hf
        subst hq
        exact hret _ _ _ _ _ d_M_nextSeats_154 (by decide) rfl hP hD hS
      · have hf := io_f hf c13
        refine lv_aload_n hx hb d_M_nextSeats_114 rfl (lv_at hl 0 rfl) ?_
        refine va_get hx hb hT i_M hown hK hP 0 rfl rfl 30 (Nat.le_of_ble_eq_true rfl) (hT _ k_788) (fun _ h => h) rfl d_M_nextSeats_115 ?_
        refine lv_iload hx hb d_M_nextSeats_118 (lv_at hl 1 rfl) ?_
        obtain ⟨c14, hf⟩ := io_n hf
        refine x_iald hx hb hK hP 1 0 rfl rfl (j := x4.toNatClampNeg) rfl c14 d_M_nextSeats_120 ?_
        refine lv_istore_n (lv' := [(3, .int (z_h_sits x4.toNatClampNeg)), (0, .ref a_h), (4, .int x4), (5, .int x5)]) hx hb d_M_nextSeats_121 rfl hl (by decide) rfl (fun ls hl => ?_)
        refine lv_aload_n hx hb d_M_nextSeats_122 rfl (lv_at hl 1 rfl) ?_
        refine va_get hx hb hT i_M hown hK hP 0 rfl rfl 30 (Nat.le_of_ble_eq_true rfl) (hT _ k_788) (fun _ h => h) rfl d_M_nextSeats_123 ?_
        refine lv_iload hx hb d_M_nextSeats_126 (lv_at hl 2 rfl) ?_
        refine lv_aload_n hx hb d_M_nextSeats_128 rfl (lv_at hl 1 rfl) ?_
        refine va_get hx hb hT i_M hown hK hP 0 rfl rfl 30 (Nat.le_of_ble_eq_true rfl) (hT _ k_788) (fun _ h => h) rfl d_M_nextSeats_129 ?_
        refine lv_iload hx hb d_M_nextSeats_132 (lv_at hl 3 rfl) ?_
        obtain ⟨c15, hf⟩ := io_n hf
        refine x_iald hx hb hK hP 1 0 rfl rfl (j := x5.toNatClampNeg) rfl c15 d_M_nextSeats_134 ?_
        refine x_iast hx hb hK hP hD hS 1 0 rfl rfl (j := x4.toNatClampNeg) rfl c14 d_M_nextSeats_135 (fun H locs hP hD hS => ?_)
        have hP : va_P D classes (w_M_nextSeats cI cJ cC a_h a_h_refused a_h_kind a_h_sweets a_h_gives a_h_tape a_h_letter a_h_letterAt a_h_one a_h_two a_h_kept a_h_trail a_h_crumb a_h_nextCrumb a_h_goal a_h_start a_h_sits a_h_bestSits a_h_without a_h_row y_h_taped y_h_at y_h_statements y_h_hasImage y_h_beforeMany y_h_found y_h_lots y_h_rowMany (m_many z_h_T) (m_odd z_h_T) (m_step z_h_T) (m_bag z_h_T) (m_strokes z_h_T) (m_gave z_h_T) (m_threw z_h_T) (m_isKeeping z_h_T) (m_cursor z_h_T) (upd z_h_sits x4.toNatClampNeg (z_h_sits x5.toNatClampNeg))) H := hP
        have hD : va_D A (w_M_nextSeats cI cJ cC a_h a_h_refused a_h_kind a_h_sweets a_h_gives a_h_tape a_h_letter a_h_letterAt a_h_one a_h_two a_h_kept a_h_trail a_h_crumb a_h_nextCrumb a_h_goal a_h_start a_h_sits a_h_bestSits a_h_without a_h_row y_h_taped y_h_at y_h_statements y_h_hasImage y_h_beforeMany y_h_found y_h_lots y_h_rowMany (m_many z_h_T) (m_odd z_h_T) (m_step z_h_T) (m_bag z_h_T) (m_strokes z_h_T) (m_gave z_h_T) (m_threw z_h_T) (m_isKeeping z_h_T) (m_cursor z_h_T) (upd z_h_sits x4.toNatClampNeg (z_h_sits x5.toNatClampNeg))) := hD
        refine lv_aload_n hx hb d_M_nextSeats_136 rfl (lv_at hl 1 rfl) ?_
        refine va_get hx hb hT i_M hown hK hP 0 rfl rfl 30 (Nat.le_of_ble_eq_true rfl) (hT _ k_788) (fun _ h => h) rfl d_M_nextSeats_137 ?_
        refine lv_iload hx hb d_M_nextSeats_140 (lv_at hl 3 rfl) ?_
        refine lv_iload_n hx hb d_M_nextSeats_142 rfl (lv_at hl 0 rfl) ?_
        refine x_iast hx hb hK hP hD hS 1 0 rfl rfl (j := x5.toNatClampNeg) rfl c15 d_M_nextSeats_143 (fun H locs hP hD hS => ?_)
        have hP : va_P D classes (w_M_nextSeats cI cJ cC a_h a_h_refused a_h_kind a_h_sweets a_h_gives a_h_tape a_h_letter a_h_letterAt a_h_one a_h_two a_h_kept a_h_trail a_h_crumb a_h_nextCrumb a_h_goal a_h_start a_h_sits a_h_bestSits a_h_without a_h_row y_h_taped y_h_at y_h_statements y_h_hasImage y_h_beforeMany y_h_found y_h_lots y_h_rowMany (m_many z_h_T) (m_odd z_h_T) (m_step z_h_T) (m_bag z_h_T) (m_strokes z_h_T) (m_gave z_h_T) (m_threw z_h_T) (m_isKeeping z_h_T) (m_cursor z_h_T) (upd (upd z_h_sits x4.toNatClampNeg (z_h_sits x5.toNatClampNeg)) x5.toNatClampNeg (z_h_sits x4.toNatClampNeg))) H := hP
        have hD : va_D A (w_M_nextSeats cI cJ cC a_h a_h_refused a_h_kind a_h_sweets a_h_gives a_h_tape a_h_letter a_h_letterAt a_h_one a_h_two a_h_kept a_h_trail a_h_crumb a_h_nextCrumb a_h_goal a_h_start a_h_sits a_h_bestSits a_h_without a_h_row y_h_taped y_h_at y_h_statements y_h_hasImage y_h_beforeMany y_h_found y_h_lots y_h_rowMany (m_many z_h_T) (m_odd z_h_T) (m_step z_h_T) (m_bag z_h_T) (m_strokes z_h_T) (m_gave z_h_T) (m_threw z_h_T) (m_isKeeping z_h_T) (m_cursor z_h_T) (upd (upd z_h_sits x4.toNatClampNeg (z_h_sits x5.toNatClampNeg)) x5.toNatClampNeg (z_h_sits x4.toNatClampNeg))) := hD
        refine lv_iinc (v := (x4 + 1)) (lv' := [(4, .int (x4 + 1)), (3, .int (z_h_sits x4.toNatClampNeg)), (0, .ref a_h), (5, .int x5)]) hx hb d_M_nextSeats_144 hl (k := 2) rfl (by rfl) (by decide) rfl (fun ls hl => ?_)
        refine lv_iinc (v := (x5 + (-1))) (lv' := [(5, .int (x5 + (-1))), (4, .int (x4 + 1)), (3, .int (z_h_sits x4.toNatClampNeg)), (0, .ref a_h)]) hx hb d_M_nextSeats_147 hl (k := 3) rfl (by rfl) (by decide) rfl (fun ls hl => ?_)
        refine lv_goto (tgt := 107) hx hb d_M_nextSeats_150 (by decide) ?_
        exact ih (upd (upd z_h_sits x4.toNatClampNeg (z_h_sits x5.toNatClampNeg)) x5.toNatClampNeg (z_h_sits x4.toNatClampNeg)) (x4 + 1) (x5 + (-1)) _ _ _ hf hP hD hS (lv_sub hl [3, 1, 0] rfl)
  refine lv_aload_n hx hb d_M_nextSeats_0 rfl (lv_at hl 0 rfl) ?_
  refine va_get hx hb hT i_M hown hK hP 0 rfl rfl 4 (Nat.le_of_ble_eq_true rfl) (hT _ k_762) (fun _ h => h) rfl d_M_nextSeats_1 ?_
  refine lv_iconst (v := 2) hx hb d_M_nextSeats_4 (by decide) ?_
  refine lv_isub hx hb d_M_nextSeats_5 ?_
  refine lv_istore_n (lv' := [(1, .int ((m_many z_h_T) - 2)), (0, .ref a_h)]) hx hb d_M_nextSeats_6 rfl hl (by decide) rfl (fun ls hl => ?_)
  refine L7 z_h_sits _ (fun x1_5 H locs ls hf hP hD hS hl => ?_) FU ((m_many z_h_T) - 2) _ _ _ hf hP hD hS (lv_sub hl [1, 0] rfl)
  refine lv_iload_n hx hb d_M_nextSeats_34 rfl (lv_at hl 1 rfl) ?_
  refine lv_if_gt (tgt := 40) hx hb d_M_nextSeats_35 (by decide) (fun c6 => ?_) (fun c6 => ?_)
  · have hf := io_t hf c6
    refine lv_aload_n hx hb d_M_nextSeats_40 rfl (lv_at hl 0 rfl) ?_
    refine va_get hx hb hT i_M hown hK hP 0 rfl rfl 4 (Nat.le_of_ble_eq_true rfl) (hT _ k_762) (fun _ h => h) rfl d_M_nextSeats_41 ?_
    refine lv_iconst (v := 1) hx hb d_M_nextSeats_44 (by decide) ?_
    refine lv_isub hx hb d_M_nextSeats_45 ?_
    refine lv_istore_n (lv' := [(2, .int ((m_many z_h_T) - 1)), (0, .ref a_h), (1, .int x1_5)]) hx hb d_M_nextSeats_46 rfl hl (by decide) rfl (fun ls hl => ?_)
    refine L47 z_h_sits x1_5 _ (fun x2_10 H locs ls hf hP hD hS hl => ?_) FU ((m_many z_h_T) - 1) _ _ _ hf hP hD hS (lv_sub hl [1, 2, 0] rfl)
    refine lv_aload_n hx hb d_M_nextSeats_68 rfl (lv_at hl 0 rfl) ?_
    refine va_get hx hb hT i_M hown hK hP 0 rfl rfl 30 (Nat.le_of_ble_eq_true rfl) (hT _ k_788) (fun _ h => h) rfl d_M_nextSeats_69 ?_
    refine lv_iload_n hx hb d_M_nextSeats_72 rfl (lv_at hl 1 rfl) ?_
    obtain ⟨c11, hf⟩ := io_n hf
    refine x_iald hx hb hK hP 1 0 rfl rfl (j := x1_5.toNatClampNeg) rfl c11 d_M_nextSeats_73 ?_
    refine lv_istore_n (lv' := [(3, .int (z_h_sits x1_5.toNatClampNeg)), (0, .ref a_h), (1, .int x1_5), (2, .int x2_10)]) hx hb d_M_nextSeats_74 rfl hl (by decide) rfl (fun ls hl => ?_)
    refine lv_aload_n hx hb d_M_nextSeats_75 rfl (lv_at hl 1 rfl) ?_
    refine va_get hx hb hT i_M hown hK hP 0 rfl rfl 30 (Nat.le_of_ble_eq_true rfl) (hT _ k_788) (fun _ h => h) rfl d_M_nextSeats_76 ?_
    refine lv_iload_n hx hb d_M_nextSeats_79 rfl (lv_at hl 2 rfl) ?_
    refine lv_aload_n hx hb d_M_nextSeats_80 rfl (lv_at hl 1 rfl) ?_
    refine va_get hx hb hT i_M hown hK hP 0 rfl rfl 30 (Nat.le_of_ble_eq_true rfl) (hT _ k_788) (fun _ h => h) rfl d_M_nextSeats_81 ?_
    refine lv_iload_n hx hb d_M_nextSeats_84 rfl (lv_at hl 3 rfl) ?_
    obtain ⟨c12, hf⟩ := io_n hf
    refine x_iald hx hb hK hP 1 0 rfl rfl (j := x2_10.toNatClampNeg) rfl c12 d_M_nextSeats_85 ?_
    refine x_iast hx hb hK hP hD hS 1 0 rfl rfl (j := x1_5.toNatClampNeg) rfl c11 d_M_nextSeats_86 (fun H locs hP hD hS => ?_)
    have hP : va_P D classes (w_M_nextSeats cI cJ cC a_h a_h_refused a_h_kind a_h_sweets a_h_gives a_h_tape a_h_letter a_h_letterAt a_h_one a_h_two a_h_kept a_h_trail a_h_crumb a_h_nextCrumb a_h_goal a_h_start a_h_sits a_h_bestSits a_h_without a_h_row y_h_taped y_h_at y_h_statements y_h_hasImage y_h_beforeMany y_h_found y_h_lots y_h_rowMany (m_many z_h_T) (m_odd z_h_T) (m_step z_h_T) (m_bag z_h_T) (m_strokes z_h_T) (m_gave z_h_T) (m_threw z_h_T) (m_isKeeping z_h_T) (m_cursor z_h_T) (upd z_h_sits x1_5.toNatClampNeg (z_h_sits x2_10.toNatClampNeg))) H := hP
    have hD : va_D A (w_M_nextSeats cI cJ cC a_h a_h_refused a_h_kind a_h_sweets a_h_gives a_h_tape a_h_letter a_h_letterAt a_h_one a_h_two a_h_kept a_h_trail a_h_crumb a_h_nextCrumb a_h_goal a_h_start a_h_sits a_h_bestSits a_h_without a_h_row y_h_taped y_h_at y_h_statements y_h_hasImage y_h_beforeMany y_h_found y_h_lots y_h_rowMany (m_many z_h_T) (m_odd z_h_T) (m_step z_h_T) (m_bag z_h_T) (m_strokes z_h_T) (m_gave z_h_T) (m_threw z_h_T) (m_isKeeping z_h_T) (m_cursor z_h_T) (upd z_h_sits x1_5.toNatClampNeg (z_h_sits x2_10.toNatClampNeg))) := hD
    refine lv_aload_n hx hb d_M_nextSeats_87 rfl (lv_at hl 1 rfl) ?_
    refine va_get hx hb hT i_M hown hK hP 0 rfl rfl 30 (Nat.le_of_ble_eq_true rfl) (hT _ k_788) (fun _ h => h) rfl d_M_nextSeats_88 ?_
    refine lv_iload_n hx hb d_M_nextSeats_91 rfl (lv_at hl 3 rfl) ?_
    refine lv_iload_n hx hb d_M_nextSeats_92 rfl (lv_at hl 0 rfl) ?_
    refine x_iast hx hb hK hP hD hS 1 0 rfl rfl (j := x2_10.toNatClampNeg) rfl c12 d_M_nextSeats_93 (fun H locs hP hD hS => ?_)
    have hP : va_P D classes (w_M_nextSeats cI cJ cC a_h a_h_refused a_h_kind a_h_sweets a_h_gives a_h_tape a_h_letter a_h_letterAt a_h_one a_h_two a_h_kept a_h_trail a_h_crumb a_h_nextCrumb a_h_goal a_h_start a_h_sits a_h_bestSits a_h_without a_h_row y_h_taped y_h_at y_h_statements y_h_hasImage y_h_beforeMany y_h_found y_h_lots y_h_rowMany (m_many z_h_T) (m_odd z_h_T) (m_step z_h_T) (m_bag z_h_T) (m_strokes z_h_T) (m_gave z_h_T) (m_threw z_h_T) (m_isKeeping z_h_T) (m_cursor z_h_T) (upd (upd z_h_sits x1_5.toNatClampNeg (z_h_sits x2_10.toNatClampNeg)) x2_10.toNatClampNeg (z_h_sits x1_5.toNatClampNeg))) H := hP
    have hD : va_D A (w_M_nextSeats cI cJ cC a_h a_h_refused a_h_kind a_h_sweets a_h_gives a_h_tape a_h_letter a_h_letterAt a_h_one a_h_two a_h_kept a_h_trail a_h_crumb a_h_nextCrumb a_h_goal a_h_start a_h_sits a_h_bestSits a_h_without a_h_row y_h_taped y_h_at y_h_statements y_h_hasImage y_h_beforeMany y_h_found y_h_lots y_h_rowMany (m_many z_h_T) (m_odd z_h_T) (m_step z_h_T) (m_bag z_h_T) (m_strokes z_h_T) (m_gave z_h_T) (m_threw z_h_T) (m_isKeeping z_h_T) (m_cursor z_h_T) (upd (upd z_h_sits x1_5.toNatClampNeg (z_h_sits x2_10.toNatClampNeg)) x2_10.toNatClampNeg (z_h_sits x1_5.toNatClampNeg))) := hD
    refine lv_iload_n hx hb d_M_nextSeats_94 rfl (lv_at hl 2 rfl) ?_
    refine lv_iconst (v := 1) hx hb d_M_nextSeats_95 (by decide) ?_
    refine lv_iadd hx hb d_M_nextSeats_96 ?_
    refine lv_istore (lv' := [(4, .int (x1_5 + 1)), (3, .int (z_h_sits x1_5.toNatClampNeg)), (0, .ref a_h), (1, .int x1_5), (2, .int x2_10)]) hx hb d_M_nextSeats_97 hl (by decide) rfl (fun ls hl => ?_)
    refine lv_aload_n hx hb d_M_nextSeats_99 rfl (lv_at hl 2 rfl) ?_
    refine va_get hx hb hT i_M hown hK hP 0 rfl rfl 4 (Nat.le_of_ble_eq_true rfl) (hT _ k_762) (fun _ h => h) rfl d_M_nextSeats_100 ?_
    refine lv_iconst (v := 1) hx hb d_M_nextSeats_103 (by decide) ?_
    refine lv_isub hx hb d_M_nextSeats_104 ?_
    refine lv_istore (lv' := [(5, .int ((m_many z_h_T) - 1)), (4, .int (x1_5 + 1)), (3, .int (z_h_sits x1_5.toNatClampNeg)), (0, .ref a_h), (1, .int x1_5), (2, .int x2_10)]) hx hb d_M_nextSeats_105 hl (by decide) rfl (fun ls hl => ?_)
    exact L107 FU (upd (upd z_h_sits x1_5.toNatClampNeg (z_h_sits x2_10.toNatClampNeg)) x2_10.toNatClampNeg (z_h_sits x1_5.toNatClampNeg)) (x1_5 + 1) ((m_many z_h_T) - 1) _ _ _ hf hP hD hS (lv_sub hl [3, 1, 0] rfl)
  · have hf := io_f hf c6
    refine lv_iconst (v := 0) hx hb d_M_nextSeats_38 (by decide) ?_
    have hq := Option.some.inj hf
    subst hq
    exact hret _ _ _ _ _ d_M_nextSeats_39 (by decide) rfl hP hD hS
abbrev w_M_seated (cI cJ cC : ClassId) (a_h a_h_refused a_h_kind a_h_sweets a_h_gives a_h_tape a_h_letter a_h_letterAt a_h_one a_h_two a_h_kept a_h_trail a_h_crumb a_h_nextCrumb a_h_goal a_h_start a_h_sits a_h_bestSits a_h_without a_h_row : Nat) (y_h_taped : Int32) (y_h_at : Int32) (y_h_statements : Int32) (y_h_hasImage : Int32) (y_h_beforeMany : Int32) (y_h_found : Int32) (y_h_lots : Int32) (y_h_rowMany : Int32) (p_h_many : Int32) (p_h_odd : Int32) (p_h_step : Int32) (p_h_bag : Int32) (p_h_strokes : Int32) (p_h_gave : Int32) (p_h_threw : Int32) (p_h_isKeeping : Int32) (p_h_cursor : Int32) (p_h_kind : (Nat → Int32)) (p_h_sweets : (Nat → Int32)) (p_h_gives : (Nat → Int32)) (p_h_kept : (Nat → Int32)) (p_h_sits : (Nat → Int32)) : va_W := [(a_h, .inr (7, [.ref a_h_refused, .ref a_h_kind, .ref a_h_sweets, .ref a_h_gives, .int p_h_many, .int p_h_odd, .int p_h_step, .int p_h_bag, .int p_h_strokes, .int p_h_gave, .int p_h_threw, .ref a_h_tape, .ref a_h_letter, .ref a_h_letterAt, .ref a_h_one, .ref a_h_two, .int y_h_taped, .int y_h_at, .int y_h_statements, .ref a_h_kept, .int y_h_hasImage, .int p_h_isKeeping, .int p_h_cursor, .ref a_h_trail, .ref a_h_crumb, .ref a_h_nextCrumb, .ref a_h_goal, .ref a_h_start, .int y_h_beforeMany, .int y_h_found, .ref a_h_sits, .ref a_h_bestSits, .ref a_h_without, .int y_h_lots, .ref a_h_row, .int y_h_rowMany])), (a_h_kind, .inl (cI, (8, .inl p_h_kind))), (a_h_sweets, .inl (cI, (8, .inl p_h_sweets))), (a_h_gives, .inl (cI, (8, .inl p_h_gives))), (a_h_kept, .inl (cI, (90, .inl p_h_kept))), (a_h_sits, .inl (cI, (8, .inl p_h_sits)))]
theorem d_M_seated_0 : decode b_M_seated 0 = .ok (.aload_n 0, 1) := by decide +kernel
theorem d_M_seated_1 : decode b_M_seated 1 = .ok (.iconst 2, 1) := by decide +kernel
theorem d_M_seated_2 : decode b_M_seated 2 = .ok (.iconst 1, 1) := by decide +kernel
theorem d_M_seated_3 : decode b_M_seated 3 = .ok (.invokevirtual 119, 3) := by decide +kernel
theorem d_M_seated_6 : decode b_M_seated 6 = .ok (.iconst 0, 1) := by decide +kernel
theorem d_M_seated_7 : decode b_M_seated 7 = .ok (.istore_n 3, 1) := by decide +kernel
theorem d_M_seated_8 : decode b_M_seated 8 = .ok (.iload_n 3, 1) := by decide +kernel
theorem d_M_seated_9 : decode b_M_seated 9 = .ok (.aload_n 0, 1) := by decide +kernel
theorem d_M_seated_10 : decode b_M_seated 10 = .ok (.getfield 78, 3) := by decide +kernel
theorem d_M_seated_13 : decode b_M_seated 13 = .ok (.if_icmp .ge 55, 3) := by decide +kernel
theorem d_M_seated_16 : decode b_M_seated 16 = .ok (.aload_n 0, 1) := by decide +kernel
theorem d_M_seated_17 : decode b_M_seated 17 = .ok (.getfield 13, 3) := by decide +kernel
theorem d_M_seated_20 : decode b_M_seated 20 = .ok (.iload_n 3, 1) := by decide +kernel
theorem d_M_seated_21 : decode b_M_seated 21 = .ok (.aload_n 0, 1) := by decide +kernel
theorem d_M_seated_22 : decode b_M_seated 22 = .ok (.getfield 44, 3) := by decide +kernel
theorem d_M_seated_25 : decode b_M_seated 25 = .ok (.bipush 30, 2) := by decide +kernel
theorem d_M_seated_27 : decode b_M_seated 27 = .ok (.iconst 2, 1) := by decide +kernel
theorem d_M_seated_28 : decode b_M_seated 28 = .ok (.aload_n 0, 1) := by decide +kernel
theorem d_M_seated_29 : decode b_M_seated 29 = .ok (.getfield 63, 3) := by decide +kernel
theorem d_M_seated_32 : decode b_M_seated 32 = .ok (.iload_n 3, 1) := by decide +kernel
theorem d_M_seated_33 : decode b_M_seated 33 = .ok (.iaload, 1) := by decide +kernel
theorem d_M_seated_34 : decode b_M_seated 34 = .ok (.imul, 1) := by decide +kernel
theorem d_M_seated_35 : decode b_M_seated 35 = .ok (.iadd, 1) := by decide +kernel
theorem d_M_seated_36 : decode b_M_seated 36 = .ok (.iaload, 1) := by decide +kernel
theorem d_M_seated_37 : decode b_M_seated 37 = .ok (.iastore, 1) := by decide +kernel
theorem d_M_seated_38 : decode b_M_seated 38 = .ok (.aload_n 0, 1) := by decide +kernel
theorem d_M_seated_39 : decode b_M_seated 39 = .ok (.getfield 16, 3) := by decide +kernel
theorem d_M_seated_42 : decode b_M_seated 42 = .ok (.iload_n 3, 1) := by decide +kernel
theorem d_M_seated_43 : decode b_M_seated 43 = .ok (.aload_n 0, 1) := by decide +kernel
theorem d_M_seated_44 : decode b_M_seated 44 = .ok (.getfield 44, 3) := by decide +kernel
theorem d_M_seated_47 : decode b_M_seated 47 = .ok (.bipush 30, 2) := by decide +kernel
theorem d_M_seated_49 : decode b_M_seated 49 = .ok (.iconst 2, 1) := by decide +kernel
theorem d_M_seated_50 : decode b_M_seated 50 = .ok (.aload_n 0, 1) := by decide +kernel
theorem d_M_seated_51 : decode b_M_seated 51 = .ok (.getfield 63, 3) := by decide +kernel
theorem d_M_seated_54 : decode b_M_seated 54 = .ok (.iload_n 3, 1) := by decide +kernel
theorem d_M_seated_55 : decode b_M_seated 55 = .ok (.iaload, 1) := by decide +kernel
theorem d_M_seated_56 : decode b_M_seated 56 = .ok (.imul, 1) := by decide +kernel
theorem d_M_seated_57 : decode b_M_seated 57 = .ok (.iadd, 1) := by decide +kernel
theorem d_M_seated_58 : decode b_M_seated 58 = .ok (.iconst 1, 1) := by decide +kernel
theorem d_M_seated_59 : decode b_M_seated 59 = .ok (.iadd, 1) := by decide +kernel
theorem d_M_seated_60 : decode b_M_seated 60 = .ok (.iaload, 1) := by decide +kernel
theorem d_M_seated_61 : decode b_M_seated 61 = .ok (.iastore, 1) := by decide +kernel
theorem d_M_seated_62 : decode b_M_seated 62 = .ok (.iinc 3 1, 3) := by decide +kernel
theorem d_M_seated_65 : decode b_M_seated 65 = .ok (.goto (-57), 3) := by decide +kernel
theorem d_M_seated_68 : decode b_M_seated 68 = .ok (.aload_n 0, 1) := by decide +kernel
theorem d_M_seated_69 : decode b_M_seated 69 = .ok (.iload_n 1, 1) := by decide +kernel
theorem d_M_seated_70 : decode b_M_seated 70 = .ok (.invokevirtual 179, 3) := by decide +kernel
theorem d_M_seated_73 : decode b_M_seated 73 = .ok (.istore_n 3, 1) := by decide +kernel
theorem d_M_seated_74 : decode b_M_seated 74 = .ok (.iload_n 2, 1) := by decide +kernel
theorem d_M_seated_75 : decode b_M_seated 75 = .ok (.iconst 2, 1) := by decide +kernel
theorem d_M_seated_76 : decode b_M_seated 76 = .ok (.if_icmp .ne 10, 3) := by decide +kernel
theorem d_M_seated_79 : decode b_M_seated 79 = .ok (.aload_n 0, 1) := by decide +kernel
theorem d_M_seated_80 : decode b_M_seated 80 = .ok (.getfield 16, 3) := by decide +kernel
theorem d_M_seated_83 : decode b_M_seated 83 = .ok (.iconst 0, 1) := by decide +kernel
theorem d_M_seated_84 : decode b_M_seated 84 = .ok (.iaload, 1) := by decide +kernel
theorem d_M_seated_85 : decode b_M_seated 85 = .ok (.istore_n 3, 1) := by decide +kernel
theorem d_M_seated_86 : decode b_M_seated 86 = .ok (.aload_n 0, 1) := by decide +kernel
theorem d_M_seated_87 : decode b_M_seated 87 = .ok (.iconst 2, 1) := by decide +kernel
theorem d_M_seated_88 : decode b_M_seated 88 = .ok (.iconst 0, 1) := by decide +kernel
theorem d_M_seated_89 : decode b_M_seated 89 = .ok (.invokevirtual 119, 3) := by decide +kernel
theorem d_M_seated_92 : decode b_M_seated 92 = .ok (.iload_n 3, 1) := by decide +kernel
theorem d_M_seated_93 : decode b_M_seated 93 = .ok (.ireturn, 1) := by decide +kernel
set_option maxHeartbeats 4000000 in
set_option maxRecDepth 100000 in
theorem c_M_seated {l : Launch} {D : va_G} {cI cJ cC : ClassId} (a_h a_h_refused a_h_kind a_h_sweets a_h_gives a_h_tape a_h_letter a_h_letterAt a_h_one a_h_two a_h_kept a_h_trail a_h_crumb a_h_nextCrumb a_h_goal a_h_start a_h_sits a_h_bestSits a_h_without a_h_row : Nat) (y_h_taped : Int32) (y_h_at : Int32) (y_h_statements : Int32) (y_h_hasImage : Int32) (y_h_beforeMany : Int32) (y_h_found : Int32) (y_h_lots : Int32) (y_h_rowMany : Int32) {z_h_T : MT} {z_h_sits : (Nat → Int32)} {x1 : Int32} {x2 : Int32} {q : Int32 × MT} (hf : f_M_seated z_h_T z_h_sits x1 x2 = some q) : xI l y_M_seated b_M_seated 4 .int 4 89 D (tyK cI cJ cC) xE0 [.ref a_h, .int x1, .int x2] (w_M_seated cI cJ cC a_h a_h_refused a_h_kind a_h_sweets a_h_gives a_h_tape a_h_letter a_h_letterAt a_h_one a_h_two a_h_kept a_h_trail a_h_crumb a_h_nextCrumb a_h_goal a_h_start a_h_sits a_h_bestSits a_h_without a_h_row y_h_taped y_h_at y_h_statements y_h_hasImage y_h_beforeMany y_h_found y_h_lots y_h_rowMany (m_many z_h_T) (m_odd z_h_T) (m_step z_h_T) (m_bag z_h_T) (m_strokes z_h_T) (m_gave z_h_T) (m_threw z_h_T) (m_isKeeping z_h_T) (m_cursor z_h_T) (m_kind z_h_T) (m_sweets z_h_T) (m_gives z_h_T) (m_kept z_h_T) z_h_sits) q.1 (w_M_seated cI cJ cC a_h a_h_refused a_h_kind a_h_sweets a_h_gives a_h_tape a_h_letter a_h_letterAt a_h_one a_h_two a_h_kept a_h_trail a_h_crumb a_h_nextCrumb a_h_goal a_h_start a_h_sits a_h_bestSits a_h_without a_h_row y_h_taped y_h_at y_h_statements y_h_hasImage y_h_beforeMany y_h_found y_h_lots y_h_rowMany (m_many q.2) (m_odd q.2) (m_step q.2) (m_bag q.2) (m_strokes q.2) (m_gave q.2) (m_threw q.2) (m_isKeeping q.2) (m_cursor q.2) (m_kind q.2) (m_sweets q.2) (m_gives q.2) (m_kept q.2) z_h_sits) := by
  refine xI_of (by decide) (Nat.le_of_ble_eq_true rfl) ?_
  intro p e s m args below meth c A Q hx hb hml hown hT hA hP hD hK hS hE hret ls hl
  have hown : s.vm.findClass R_M = some m.cls := hown
  have hl : lv_has ls 4 [(0, .ref a_h), (1, .int x1), (2, .int x2)] := hl
  unfold f_M_seated at hf
  have L8 : ∀ k : MT → Option (Int32 × MT), (∀ (z_h_T : MT) (H : Heap) (locs : List Loc) (ls : Array Slot), k z_h_T = some q → va_P D classes (w_M_seated cI cJ cC a_h a_h_refused a_h_kind a_h_sweets a_h_gives a_h_tape a_h_letter a_h_letterAt a_h_one a_h_two a_h_kept a_h_trail a_h_crumb a_h_nextCrumb a_h_goal a_h_start a_h_sits a_h_bestSits a_h_without a_h_row y_h_taped y_h_at y_h_statements y_h_hasImage y_h_beforeMany y_h_found y_h_lots y_h_rowMany (m_many z_h_T) (m_odd z_h_T) (m_step z_h_T) (m_bag z_h_T) (m_strokes z_h_T) (m_gave z_h_T) (m_threw z_h_T) (m_isKeeping z_h_T) (m_cursor z_h_T) (m_kind z_h_T) (m_sweets z_h_T) (m_gives z_h_T) (m_kept z_h_T) z_h_sits) H → va_D A (w_M_seated cI cJ cC a_h a_h_refused a_h_kind a_h_sweets a_h_gives a_h_tape a_h_letter a_h_letterAt a_h_one a_h_two a_h_kept a_h_trail a_h_crumb a_h_nextCrumb a_h_goal a_h_start a_h_sits a_h_bestSits a_h_without a_h_row y_h_taped y_h_at y_h_statements y_h_hasImage y_h_beforeMany y_h_found y_h_lots y_h_rowMany (m_many z_h_T) (m_odd z_h_T) (m_step z_h_T) (m_bag z_h_T) (m_strokes z_h_T) (m_gave z_h_T) (m_threw z_h_T) (m_isKeeping z_h_T) (m_cursor z_h_T) (m_kind z_h_T) (m_sweets z_h_T) (m_gives z_h_T) (m_kept z_h_T) z_h_sits) → va_S A s.heap H locs → lv_has ls 4 [(0, .ref a_h), (1, .int x1), (2, .int x2)] → W p l e (xRm 4 89) s m args below meth c H locs 0 0 Q (F0 m 68 ls [])) → ∀ (n : Nat) (z_h_T : MT) (x3 : Int32) (H : Heap) (locs : List Loc) (ls : Array Slot), f_M_seated_L8 z_h_sits k n z_h_T x3 = some q → va_P D classes (w_M_seated cI cJ cC a_h a_h_refused a_h_kind a_h_sweets a_h_gives a_h_tape a_h_letter a_h_letterAt a_h_one a_h_two a_h_kept a_h_trail a_h_crumb a_h_nextCrumb a_h_goal a_h_start a_h_sits a_h_bestSits a_h_without a_h_row y_h_taped y_h_at y_h_statements y_h_hasImage y_h_beforeMany y_h_found y_h_lots y_h_rowMany (m_many z_h_T) (m_odd z_h_T) (m_step z_h_T) (m_bag z_h_T) (m_strokes z_h_T) (m_gave z_h_T) (m_threw z_h_T) (m_isKeeping z_h_T) (m_cursor z_h_T) (m_kind z_h_T) (m_sweets z_h_T) (m_gives z_h_T) (m_kept z_h_T) z_h_sits) H → va_D A (w_M_seated cI cJ cC a_h a_h_refused a_h_kind a_h_sweets a_h_gives a_h_tape a_h_letter a_h_letterAt a_h_one a_h_two a_h_kept a_h_trail a_h_crumb a_h_nextCrumb a_h_goal a_h_start a_h_sits a_h_bestSits a_h_without a_h_row y_h_taped y_h_at y_h_statements y_h_hasImage y_h_beforeMany y_h_found y_h_lots y_h_rowMany (m_many z_h_T) (m_odd z_h_T) (m_step z_h_T) (m_bag z_h_T) (m_strokes z_h_T) (m_gave z_h_T) (m_threw z_h_T) (m_isKeeping z_h_T) (m_cursor z_h_T) (m_kind z_h_T) (m_sweets z_h_T) (m_gives z_h_T) (m_kept z_h_T) z_h_sits) → va_S A s.heap H locs → lv_has ls 4 [(0, .ref a_h), (1, .int x1), (2, .int x2), (3, .int x3)] → W p l e (xRm 4 89) s m args below meth c H locs 0 0 Q (F0 m 8 ls []) := by
    intro k hk n
    induction n with
    | zero => intro z_h_T x3 H locs ls hf hP hD hS hl; exact nomatch (show (none : Option (Int32 × MT)) = some q from hf)
    | succ n ih =>
      intro z_h_T x3 H locs ls hf hP hD hS hl
      refine lv_iload_n hx hb d_M_seated_8 rfl (lv_at hl 3 rfl) ?_
      refine lv_aload_n hx hb d_M_seated_9 rfl (lv_at hl 0 rfl) ?_
      refine va_get hx hb hT i_M hown hK hP 0 rfl rfl 4 (Nat.le_of_ble_eq_true rfl) (hT _ k_762) (fun _ h => h) rfl d_M_seated_10 ?_
      refine lv_icmp_ge (tgt := 68) hx hb d_M_seated_13 (by decide) (fun c2 => ?_) (fun c2 => ?_)
      · have hf := io_t hf c2
        exact hk z_h_T _ _ _ hf hP hD hS (lv_sub hl [0, 1, 2] rfl)
      · have hf := io_f hf c2
        refine lv_aload_n hx hb d_M_seated_16 rfl (lv_at hl 0 rfl) ?_
        refine va_get hx hb hT i_M hown hK hP 0 rfl rfl 1 (Nat.le_of_ble_eq_true rfl) (hT _ k_759) (fun _ h => h) rfl d_M_seated_17 ?_
        refine lv_iload_n hx hb d_M_seated_20 rfl (lv_at hl 3 rfl) ?_
        refine lv_aload_n hx hb d_M_seated_21 rfl (lv_at hl 0 rfl) ?_
        refine va_get hx hb hT i_M hown hK hP 0 rfl rfl 19 (Nat.le_of_ble_eq_true rfl) (hT _ k_777) (fun _ h => h) rfl d_M_seated_22 ?_
        refine lv_bipush (v := 30) hx hb d_M_seated_25 (by decide) ?_
        refine lv_iconst (v := 2) hx hb d_M_seated_27 (by decide) ?_
        refine lv_aload_n hx hb d_M_seated_28 rfl (lv_at hl 0 rfl) ?_
        refine va_get hx hb hT i_M hown hK hP 0 rfl rfl 30 (Nat.le_of_ble_eq_true rfl) (hT _ k_788) (fun _ h => h) rfl d_M_seated_29 ?_
        refine lv_iload_n hx hb d_M_seated_32 rfl (lv_at hl 3 rfl) ?_
        obtain ⟨c3, hf⟩ := io_n hf
        refine x_iald hx hb hK hP 5 0 rfl rfl (j := x3.toNatClampNeg) rfl c3 d_M_seated_33 ?_
        refine lv_imul hx hb d_M_seated_34 ?_
        refine lv_iadd hx hb d_M_seated_35 ?_
        obtain ⟨c4, hf⟩ := io_n hf
        refine x_iald hx hb hK hP 4 0 rfl rfl (j := (30 + (2 * (z_h_sits x3.toNatClampNeg))).toNatClampNeg) rfl c4 d_M_seated_36 ?_
        refine x_iast hx hb hK hP hD hS 1 0 rfl rfl (j := x3.toNatClampNeg) rfl c3 d_M_seated_37 (fun H locs hP hD hS => ?_)
        have hP : va_P D classes (w_M_seated cI cJ cC a_h a_h_refused a_h_kind a_h_sweets a_h_gives a_h_tape a_h_letter a_h_letterAt a_h_one a_h_two a_h_kept a_h_trail a_h_crumb a_h_nextCrumb a_h_goal a_h_start a_h_sits a_h_bestSits a_h_without a_h_row y_h_taped y_h_at y_h_statements y_h_hasImage y_h_beforeMany y_h_found y_h_lots y_h_rowMany (m_many z_h_T) (m_odd z_h_T) (m_step z_h_T) (m_bag z_h_T) (m_strokes z_h_T) (m_gave z_h_T) (m_threw z_h_T) (m_isKeeping z_h_T) (m_cursor z_h_T) (upd (m_kind z_h_T) x3.toNatClampNeg ((m_kept z_h_T) (30 + (2 * (z_h_sits x3.toNatClampNeg))).toNatClampNeg)) (m_sweets z_h_T) (m_gives z_h_T) (m_kept z_h_T) z_h_sits) H := hP
        have hD : va_D A (w_M_seated cI cJ cC a_h a_h_refused a_h_kind a_h_sweets a_h_gives a_h_tape a_h_letter a_h_letterAt a_h_one a_h_two a_h_kept a_h_trail a_h_crumb a_h_nextCrumb a_h_goal a_h_start a_h_sits a_h_bestSits a_h_without a_h_row y_h_taped y_h_at y_h_statements y_h_hasImage y_h_beforeMany y_h_found y_h_lots y_h_rowMany (m_many z_h_T) (m_odd z_h_T) (m_step z_h_T) (m_bag z_h_T) (m_strokes z_h_T) (m_gave z_h_T) (m_threw z_h_T) (m_isKeeping z_h_T) (m_cursor z_h_T) (upd (m_kind z_h_T) x3.toNatClampNeg ((m_kept z_h_T) (30 + (2 * (z_h_sits x3.toNatClampNeg))).toNatClampNeg)) (m_sweets z_h_T) (m_gives z_h_T) (m_kept z_h_T) z_h_sits) := hD
        refine lv_aload_n hx hb d_M_seated_38 rfl (lv_at hl 0 rfl) ?_
        refine va_get hx hb hT i_M hown hK hP 0 rfl rfl 2 (Nat.le_of_ble_eq_true rfl) (hT _ k_760) (fun _ h => h) rfl d_M_seated_39 ?_
        refine lv_iload_n hx hb d_M_seated_42 rfl (lv_at hl 3 rfl) ?_
        refine lv_aload_n hx hb d_M_seated_43 rfl (lv_at hl 0 rfl) ?_
        refine va_get hx hb hT i_M hown hK hP 0 rfl rfl 19 (Nat.le_of_ble_eq_true rfl) (hT _ k_777) (fun _ h => h) rfl d_M_seated_44 ?_
        refine lv_bipush (v := 30) hx hb d_M_seated_47 (by decide) ?_
        refine lv_iconst (v := 2) hx hb d_M_seated_49 (by decide) ?_
        refine lv_aload_n hx hb d_M_seated_50 rfl (lv_at hl 0 rfl) ?_
        refine va_get hx hb hT i_M hown hK hP 0 rfl rfl 30 (Nat.le_of_ble_eq_true rfl) (hT _ k_788) (fun _ h => h) rfl d_M_seated_51 ?_
        refine lv_iload_n hx hb d_M_seated_54 rfl (lv_at hl 3 rfl) ?_
        refine x_iald hx hb hK hP 5 0 rfl rfl (j := x3.toNatClampNeg) rfl c3 d_M_seated_55 ?_
        refine lv_imul hx hb d_M_seated_56 ?_
        refine lv_iadd hx hb d_M_seated_57 ?_
        refine lv_iconst (v := 1) hx hb d_M_seated_58 (by decide) ?_
        refine lv_iadd hx hb d_M_seated_59 ?_
        obtain ⟨c5, hf⟩ := io_n hf
        refine x_iald hx hb hK hP 4 0 rfl rfl (j := ((30 + (2 * (z_h_sits x3.toNatClampNeg))) + 1).toNatClampNeg) rfl c5 d_M_seated_60 ?_
        refine x_iast hx hb hK hP hD hS 2 0 rfl rfl (j := x3.toNatClampNeg) rfl c3 d_M_seated_61 (fun H locs hP hD hS => ?_)
        have hP : va_P D classes (w_M_seated cI cJ cC a_h a_h_refused a_h_kind a_h_sweets a_h_gives a_h_tape a_h_letter a_h_letterAt a_h_one a_h_two a_h_kept a_h_trail a_h_crumb a_h_nextCrumb a_h_goal a_h_start a_h_sits a_h_bestSits a_h_without a_h_row y_h_taped y_h_at y_h_statements y_h_hasImage y_h_beforeMany y_h_found y_h_lots y_h_rowMany (m_many z_h_T) (m_odd z_h_T) (m_step z_h_T) (m_bag z_h_T) (m_strokes z_h_T) (m_gave z_h_T) (m_threw z_h_T) (m_isKeeping z_h_T) (m_cursor z_h_T) (upd (m_kind z_h_T) x3.toNatClampNeg ((m_kept z_h_T) (30 + (2 * (z_h_sits x3.toNatClampNeg))).toNatClampNeg)) (upd (m_sweets z_h_T) x3.toNatClampNeg ((m_kept z_h_T) ((30 + (2 * (z_h_sits x3.toNatClampNeg))) + 1).toNatClampNeg)) (m_gives z_h_T) (m_kept z_h_T) z_h_sits) H := hP
        have hD : va_D A (w_M_seated cI cJ cC a_h a_h_refused a_h_kind a_h_sweets a_h_gives a_h_tape a_h_letter a_h_letterAt a_h_one a_h_two a_h_kept a_h_trail a_h_crumb a_h_nextCrumb a_h_goal a_h_start a_h_sits a_h_bestSits a_h_without a_h_row y_h_taped y_h_at y_h_statements y_h_hasImage y_h_beforeMany y_h_found y_h_lots y_h_rowMany (m_many z_h_T) (m_odd z_h_T) (m_step z_h_T) (m_bag z_h_T) (m_strokes z_h_T) (m_gave z_h_T) (m_threw z_h_T) (m_isKeeping z_h_T) (m_cursor z_h_T) (upd (m_kind z_h_T) x3.toNatClampNeg ((m_kept z_h_T) (30 + (2 * (z_h_sits x3.toNatClampNeg))).toNatClampNeg)) (upd (m_sweets z_h_T) x3.toNatClampNeg ((m_kept z_h_T) ((30 + (2 * (z_h_sits x3.toNatClampNeg))) + 1).toNatClampNeg)) (m_gives z_h_T) (m_kept z_h_T) z_h_sits) := hD
        refine lv_iinc (v := (x3 + 1)) (lv' := [(3, .int (x3 + 1)), (0, .ref a_h), (1, .int x1), (2, .int x2)]) hx hb d_M_seated_62 hl (k := 3) rfl (by rfl) (by decide) rfl (fun ls hl => ?_)
        refine lv_goto (tgt := 8) hx hb d_M_seated_65 (by decide) ?_
        exact ih ((upd (m_kind z_h_T) x3.toNatClampNeg ((m_kept z_h_T) (30 + (2 * (z_h_sits x3.toNatClampNeg))).toNatClampNeg)), (upd (m_sweets z_h_T) x3.toNatClampNeg ((m_kept z_h_T) ((30 + (2 * (z_h_sits x3.toNatClampNeg))) + 1).toNatClampNeg)), (m_gives z_h_T), (m_kept z_h_T), (m_many z_h_T), (m_odd z_h_T), (m_step z_h_T), (m_bag z_h_T), (m_strokes z_h_T), (m_gave z_h_T), (m_threw z_h_T), (m_isKeeping z_h_T), (m_cursor z_h_T)) (x3 + 1) _ _ _ hf hP hD hS (lv_sub hl [1, 2, 3, 0] rfl)
  refine lv_aload_n hx hb d_M_seated_0 rfl (lv_at hl 0 rfl) ?_
  refine lv_iconst (v := 2) hx hb d_M_seated_1 (by decide) ?_
  refine lv_iconst (v := 1) hx hb d_M_seated_2 (by decide) ?_
  obtain ⟨q1, hq1, hf⟩ := io_b hf
  refine xcVV (wc := (w_M_passesAll cI cJ cC a_h a_h_refused a_h_kind a_h_sweets a_h_gives a_h_tape a_h_letter a_h_letterAt a_h_one a_h_two a_h_kept a_h_trail a_h_crumb a_h_nextCrumb a_h_goal a_h_start a_h_sits a_h_bestSits a_h_without a_h_row y_h_taped y_h_at y_h_statements y_h_hasImage y_h_beforeMany y_h_found y_h_lots y_h_rowMany (m_many z_h_T) (m_odd z_h_T) (m_step z_h_T) (m_bag z_h_T) (m_strokes z_h_T) (m_gave z_h_T) (m_threw z_h_T) (m_isKeeping z_h_T) (m_cursor z_h_T) (m_kind z_h_T) (m_sweets z_h_T) (m_gives z_h_T) (m_kept z_h_T))) (wc' := (w_M_passesAll cI cJ cC a_h a_h_refused a_h_kind a_h_sweets a_h_gives a_h_tape a_h_letter a_h_letterAt a_h_one a_h_two a_h_kept a_h_trail a_h_crumb a_h_nextCrumb a_h_goal a_h_start a_h_sits a_h_bestSits a_h_without a_h_row y_h_taped y_h_at y_h_statements y_h_hasImage y_h_beforeMany y_h_found y_h_lots y_h_rowMany (m_many q1) (m_odd q1) (m_step q1) (m_bag q1) (m_strokes q1) (m_gave q1) (m_threw q1) (m_isKeeping q1) (m_cursor q1) (m_kind q1) (m_sweets q1) (m_gives q1) (m_kept q1))) (ws' := (w_M_seated cI cJ cC a_h a_h_refused a_h_kind a_h_sweets a_h_gives a_h_tape a_h_letter a_h_letterAt a_h_one a_h_two a_h_kept a_h_trail a_h_crumb a_h_nextCrumb a_h_goal a_h_start a_h_sits a_h_bestSits a_h_without a_h_row y_h_taped y_h_at y_h_statements y_h_hasImage y_h_beforeMany y_h_found y_h_lots y_h_rowMany (m_many q1) (m_odd q1) (m_step q1) (m_bag q1) (m_strokes q1) (m_gave q1) (m_threw q1) (m_isKeeping q1) (m_cursor q1) (m_kind q1) (m_sweets q1) (m_gives q1) (m_kept q1) z_h_sits)) (As := [.int 2, .int 1]) (rest := []) hx hb hml hown hT (c_M_passesAll (z_h_T := z_h_T) a_h a_h_refused a_h_kind a_h_sweets a_h_gives a_h_tape a_h_letter a_h_letterAt a_h_one a_h_two a_h_kept a_h_trail a_h_crumb a_h_nextCrumb a_h_goal a_h_start a_h_sits a_h_bestSits a_h_without a_h_row y_h_taped y_h_at y_h_statements y_h_hasImage y_h_beforeMany y_h_found y_h_lots y_h_rowMany hq1) k_900 k_902 ks_28 k_8 k_903 hd_M_passesAll ⟨Nat.le_of_ble_eq_true rfl, Nat.le_of_ble_eq_true rfl⟩ xE0_ok trivial hA hK hP hD hS [0, 1, 2, 3, 4] [5] [1, 2, 3, 4, 5, 0] rfl rfl rfl rfl rfl rfl rfl rfl rfl rfl hl.1 rfl (Nat.le_of_ble_eq_true rfl) ⟨Nat.zero_le _, Nat.zero_le _⟩ d_M_seated_3 (fun H locs hP hD hS => ?_)
  refine lv_iconst (v := 0) hx hb d_M_seated_6 (by decide) ?_
  refine lv_istore_n (lv' := [(3, .int 0), (0, .ref a_h), (1, .int x1), (2, .int x2)]) hx hb d_M_seated_7 rfl hl (by decide) rfl (fun ls hl => ?_)
  refine L8 _ (fun z_h_T_6 H locs ls hf hP hD hS hl => ?_) FU q1 0 _ _ _ hf hP hD hS (lv_sub hl [1, 2, 3, 0] rfl)
  refine lv_aload_n hx hb d_M_seated_68 rfl (lv_at hl 0 rfl) ?_
  refine lv_iload_n hx hb d_M_seated_69 rfl (lv_at hl 1 rfl) ?_
  obtain ⟨q7, hq7, hf⟩ := io_b hf
  refine xcVI (wc := (w_M_goes cI cJ cC a_h a_h_refused a_h_kind a_h_sweets a_h_gives a_h_tape a_h_letter a_h_letterAt a_h_one a_h_two a_h_kept a_h_trail a_h_crumb a_h_nextCrumb a_h_goal a_h_start a_h_sits a_h_bestSits a_h_without a_h_row y_h_taped y_h_at y_h_statements y_h_hasImage y_h_beforeMany y_h_found y_h_lots y_h_rowMany (m_many z_h_T_6) (m_odd z_h_T_6) (m_step z_h_T_6) (m_bag z_h_T_6) (m_strokes z_h_T_6) (m_gave z_h_T_6) (m_threw z_h_T_6) (m_isKeeping z_h_T_6) (m_cursor z_h_T_6) (m_kind z_h_T_6) (m_sweets z_h_T_6) (m_gives z_h_T_6) (m_kept z_h_T_6))) (wc' := (w_M_goes cI cJ cC a_h a_h_refused a_h_kind a_h_sweets a_h_gives a_h_tape a_h_letter a_h_letterAt a_h_one a_h_two a_h_kept a_h_trail a_h_crumb a_h_nextCrumb a_h_goal a_h_start a_h_sits a_h_bestSits a_h_without a_h_row y_h_taped y_h_at y_h_statements y_h_hasImage y_h_beforeMany y_h_found y_h_lots y_h_rowMany (m_many q7.2) (m_odd q7.2) (m_step q7.2) (m_bag q7.2) (m_strokes q7.2) (m_gave q7.2) (m_threw q7.2) (m_isKeeping q7.2) (m_cursor q7.2) (m_kind q7.2) (m_sweets q7.2) (m_gives q7.2) (m_kept q7.2))) (ws' := (w_M_seated cI cJ cC a_h a_h_refused a_h_kind a_h_sweets a_h_gives a_h_tape a_h_letter a_h_letterAt a_h_one a_h_two a_h_kept a_h_trail a_h_crumb a_h_nextCrumb a_h_goal a_h_start a_h_sits a_h_bestSits a_h_without a_h_row y_h_taped y_h_at y_h_statements y_h_hasImage y_h_beforeMany y_h_found y_h_lots y_h_rowMany (m_many q7.2) (m_odd q7.2) (m_step q7.2) (m_bag q7.2) (m_strokes q7.2) (m_gave q7.2) (m_threw q7.2) (m_isKeeping q7.2) (m_cursor q7.2) (m_kind q7.2) (m_sweets q7.2) (m_gives q7.2) (m_kept q7.2) z_h_sits)) (As := [.int x1]) (rest := []) hx hb hml hown hT (c_M_goes (z_h_T := z_h_T_6) a_h a_h_refused a_h_kind a_h_sweets a_h_gives a_h_tape a_h_letter a_h_letterAt a_h_one a_h_two a_h_kept a_h_trail a_h_crumb a_h_nextCrumb a_h_goal a_h_start a_h_sits a_h_bestSits a_h_without a_h_row y_h_taped y_h_at y_h_statements y_h_hasImage y_h_beforeMany y_h_found y_h_lots y_h_rowMany hq7) k_964 k_966 ks_36 k_8 k_967 hd_M_goes ⟨Nat.le_of_ble_eq_true rfl, Nat.le_of_ble_eq_true rfl⟩ xE0_ok trivial hA hK hP hD hS [0, 1, 2, 3, 4] [5] [1, 2, 3, 4, 5, 0] rfl rfl rfl rfl rfl rfl rfl rfl rfl rfl hl.1 rfl (Nat.le_of_ble_eq_true rfl) ⟨Nat.zero_le _, Nat.zero_le _⟩ d_M_seated_70 (fun H locs hP hD hS => ?_)
  refine lv_istore_n (lv' := [(3, .int q7.1), (0, .ref a_h), (1, .int x1), (2, .int x2)]) hx hb d_M_seated_73 rfl hl (by decide) rfl (fun ls hl => ?_)
  refine lv_iload_n hx hb d_M_seated_74 rfl (lv_at hl 3 rfl) ?_
  refine lv_iconst (v := 2) hx hb d_M_seated_75 (by decide) ?_
  refine lv_icmp_ne (tgt := 86) hx hb d_M_seated_76 (by decide) (fun c8 => ?_) (fun c8 => ?_)
  · have hf := io_f hf c8
    refine lv_aload_n hx hb d_M_seated_86 rfl (lv_at hl 1 rfl) ?_
    refine lv_iconst (v := 2) hx hb d_M_seated_87 (by decide) ?_
    refine lv_iconst (v := 0) hx hb d_M_seated_88 (by decide) ?_
    obtain ⟨q9, hq9, hf⟩ := io_b hf
    refine xcVV (wc := (w_M_passesAll cI cJ cC a_h a_h_refused a_h_kind a_h_sweets a_h_gives a_h_tape a_h_letter a_h_letterAt a_h_one a_h_two a_h_kept a_h_trail a_h_crumb a_h_nextCrumb a_h_goal a_h_start a_h_sits a_h_bestSits a_h_without a_h_row y_h_taped y_h_at y_h_statements y_h_hasImage y_h_beforeMany y_h_found y_h_lots y_h_rowMany (m_many q7.2) (m_odd q7.2) (m_step q7.2) (m_bag q7.2) (m_strokes q7.2) (m_gave q7.2) (m_threw q7.2) (m_isKeeping q7.2) (m_cursor q7.2) (m_kind q7.2) (m_sweets q7.2) (m_gives q7.2) (m_kept q7.2))) (wc' := (w_M_passesAll cI cJ cC a_h a_h_refused a_h_kind a_h_sweets a_h_gives a_h_tape a_h_letter a_h_letterAt a_h_one a_h_two a_h_kept a_h_trail a_h_crumb a_h_nextCrumb a_h_goal a_h_start a_h_sits a_h_bestSits a_h_without a_h_row y_h_taped y_h_at y_h_statements y_h_hasImage y_h_beforeMany y_h_found y_h_lots y_h_rowMany (m_many q9) (m_odd q9) (m_step q9) (m_bag q9) (m_strokes q9) (m_gave q9) (m_threw q9) (m_isKeeping q9) (m_cursor q9) (m_kind q9) (m_sweets q9) (m_gives q9) (m_kept q9))) (ws' := (w_M_seated cI cJ cC a_h a_h_refused a_h_kind a_h_sweets a_h_gives a_h_tape a_h_letter a_h_letterAt a_h_one a_h_two a_h_kept a_h_trail a_h_crumb a_h_nextCrumb a_h_goal a_h_start a_h_sits a_h_bestSits a_h_without a_h_row y_h_taped y_h_at y_h_statements y_h_hasImage y_h_beforeMany y_h_found y_h_lots y_h_rowMany (m_many q9) (m_odd q9) (m_step q9) (m_bag q9) (m_strokes q9) (m_gave q9) (m_threw q9) (m_isKeeping q9) (m_cursor q9) (m_kind q9) (m_sweets q9) (m_gives q9) (m_kept q9) z_h_sits)) (As := [.int 2, .int 0]) (rest := []) hx hb hml hown hT (c_M_passesAll (z_h_T := q7.2) a_h a_h_refused a_h_kind a_h_sweets a_h_gives a_h_tape a_h_letter a_h_letterAt a_h_one a_h_two a_h_kept a_h_trail a_h_crumb a_h_nextCrumb a_h_goal a_h_start a_h_sits a_h_bestSits a_h_without a_h_row y_h_taped y_h_at y_h_statements y_h_hasImage y_h_beforeMany y_h_found y_h_lots y_h_rowMany hq9) k_900 k_902 ks_28 k_8 k_903 hd_M_passesAll ⟨Nat.le_of_ble_eq_true rfl, Nat.le_of_ble_eq_true rfl⟩ xE0_ok trivial hA hK hP hD hS [0, 1, 2, 3, 4] [5] [1, 2, 3, 4, 5, 0] rfl rfl rfl rfl rfl rfl rfl rfl rfl rfl hl.1 rfl (Nat.le_of_ble_eq_true rfl) ⟨Nat.zero_le _, Nat.zero_le _⟩ d_M_seated_89 (fun H locs hP hD hS => ?_)
    refine lv_iload_n hx hb d_M_seated_92 rfl (lv_at hl 0 rfl) ?_
    have hq := Option.some.inj hf
    subst hq
    exact hret _ _ _ _ _ d_M_seated_93 rfl rfl hP hD hS
  · have hf := io_t hf c8
    refine lv_aload_n hx hb d_M_seated_79 rfl (lv_at hl 1 rfl) ?_
    refine va_get hx hb hT i_M hown hK hP 0 rfl rfl 2 (Nat.le_of_ble_eq_true rfl) (hT _ k_760) (fun _ h => h) rfl d_M_seated_80 ?_
    refine lv_iconst (v := 0) hx hb d_M_seated_83 (by decide) ?_
    refine x_iald hx hb hK hP 2 0 rfl rfl (j := 0) (by decide +kernel) (by unfold vp_in; decide +kernel) d_M_seated_84 ?_
    refine lv_istore_n (lv' := [(3, .int ((m_sweets q7.2) 0)), (0, .ref a_h), (1, .int x1), (2, .int x2)]) hx hb d_M_seated_85 rfl hl (by decide) rfl (fun ls hl => ?_)
    refine lv_aload_n hx hb d_M_seated_86 rfl (lv_at hl 1 rfl) ?_
    refine lv_iconst (v := 2) hx hb d_M_seated_87 (by decide) ?_
    refine lv_iconst (v := 0) hx hb d_M_seated_88 (by decide) ?_
    obtain ⟨q10, hq10, hf⟩ := io_b hf
    refine xcVV (wc := (w_M_passesAll cI cJ cC a_h a_h_refused a_h_kind a_h_sweets a_h_gives a_h_tape a_h_letter a_h_letterAt a_h_one a_h_two a_h_kept a_h_trail a_h_crumb a_h_nextCrumb a_h_goal a_h_start a_h_sits a_h_bestSits a_h_without a_h_row y_h_taped y_h_at y_h_statements y_h_hasImage y_h_beforeMany y_h_found y_h_lots y_h_rowMany (m_many q7.2) (m_odd q7.2) (m_step q7.2) (m_bag q7.2) (m_strokes q7.2) (m_gave q7.2) (m_threw q7.2) (m_isKeeping q7.2) (m_cursor q7.2) (m_kind q7.2) (m_sweets q7.2) (m_gives q7.2) (m_kept q7.2))) (wc' := (w_M_passesAll cI cJ cC a_h a_h_refused a_h_kind a_h_sweets a_h_gives a_h_tape a_h_letter a_h_letterAt a_h_one a_h_two a_h_kept a_h_trail a_h_crumb a_h_nextCrumb a_h_goal a_h_start a_h_sits a_h_bestSits a_h_without a_h_row y_h_taped y_h_at y_h_statements y_h_hasImage y_h_beforeMany y_h_found y_h_lots y_h_rowMany (m_many q10) (m_odd q10) (m_step q10) (m_bag q10) (m_strokes q10) (m_gave q10) (m_threw q10) (m_isKeeping q10) (m_cursor q10) (m_kind q10) (m_sweets q10) (m_gives q10) (m_kept q10))) (ws' := (w_M_seated cI cJ cC a_h a_h_refused a_h_kind a_h_sweets a_h_gives a_h_tape a_h_letter a_h_letterAt a_h_one a_h_two a_h_kept a_h_trail a_h_crumb a_h_nextCrumb a_h_goal a_h_start a_h_sits a_h_bestSits a_h_without a_h_row y_h_taped y_h_at y_h_statements y_h_hasImage y_h_beforeMany y_h_found y_h_lots y_h_rowMany (m_many q10) (m_odd q10) (m_step q10) (m_bag q10) (m_strokes q10) (m_gave q10) (m_threw q10) (m_isKeeping q10) (m_cursor q10) (m_kind q10) (m_sweets q10) (m_gives q10) (m_kept q10) z_h_sits)) (As := [.int 2, .int 0]) (rest := []) hx hb hml hown hT (c_M_passesAll (z_h_T := q7.2) a_h a_h_refused a_h_kind a_h_sweets a_h_gives a_h_tape a_h_letter a_h_letterAt a_h_one a_h_two a_h_kept a_h_trail a_h_crumb a_h_nextCrumb a_h_goal a_h_start a_h_sits a_h_bestSits a_h_without a_h_row y_h_taped y_h_at y_h_statements y_h_hasImage y_h_beforeMany y_h_found y_h_lots y_h_rowMany hq10) k_900 k_902 ks_28 k_8 k_903 hd_M_passesAll ⟨Nat.le_of_ble_eq_true rfl, Nat.le_of_ble_eq_true rfl⟩ xE0_ok trivial hA hK hP hD hS [0, 1, 2, 3, 4] [5] [1, 2, 3, 4, 5, 0] rfl rfl rfl rfl rfl rfl rfl rfl rfl rfl hl.1 rfl (Nat.le_of_ble_eq_true rfl) ⟨Nat.zero_le _, Nat.zero_le _⟩ d_M_seated_89 (fun H locs hP hD hS => ?_)
    refine lv_iload_n hx hb d_M_seated_92 rfl (lv_at hl 0 rfl) ?_
    have hq := Option.some.inj hf
    subst hq
    exact hret _ _ _ _ _ d_M_seated_93 rfl rfl hP hD hS
abbrev w_M_findSeats (cI cJ cC : ClassId) (a_h a_h_refused a_h_kind a_h_sweets a_h_gives a_h_tape a_h_letter a_h_letterAt a_h_one a_h_two a_h_kept a_h_trail a_h_crumb a_h_nextCrumb a_h_goal a_h_start a_h_sits a_h_bestSits a_h_without a_h_row : Nat) (y_h_taped : Int32) (y_h_at : Int32) (y_h_statements : Int32) (y_h_hasImage : Int32) (y_h_beforeMany : Int32) (y_h_found : Int32) (y_h_lots : Int32) (y_h_rowMany : Int32) (p_h_many : Int32) (p_h_odd : Int32) (p_h_step : Int32) (p_h_bag : Int32) (p_h_strokes : Int32) (p_h_gave : Int32) (p_h_threw : Int32) (p_h_isKeeping : Int32) (p_h_cursor : Int32) (p_h_kind : (Nat → Int32)) (p_h_sweets : (Nat → Int32)) (p_h_gives : (Nat → Int32)) (p_h_kept : (Nat → Int32)) (p_h_sits : (Nat → Int32)) (p_h_bestSits : (Nat → Int32)) : va_W := [(a_h, .inr (7, [.ref a_h_refused, .ref a_h_kind, .ref a_h_sweets, .ref a_h_gives, .int p_h_many, .int p_h_odd, .int p_h_step, .int p_h_bag, .int p_h_strokes, .int p_h_gave, .int p_h_threw, .ref a_h_tape, .ref a_h_letter, .ref a_h_letterAt, .ref a_h_one, .ref a_h_two, .int y_h_taped, .int y_h_at, .int y_h_statements, .ref a_h_kept, .int y_h_hasImage, .int p_h_isKeeping, .int p_h_cursor, .ref a_h_trail, .ref a_h_crumb, .ref a_h_nextCrumb, .ref a_h_goal, .ref a_h_start, .int y_h_beforeMany, .int y_h_found, .ref a_h_sits, .ref a_h_bestSits, .ref a_h_without, .int y_h_lots, .ref a_h_row, .int y_h_rowMany])), (a_h_kind, .inl (cI, (8, .inl p_h_kind))), (a_h_sweets, .inl (cI, (8, .inl p_h_sweets))), (a_h_gives, .inl (cI, (8, .inl p_h_gives))), (a_h_kept, .inl (cI, (90, .inl p_h_kept))), (a_h_sits, .inl (cI, (8, .inl p_h_sits))), (a_h_bestSits, .inl (cI, (8, .inl p_h_bestSits)))]
theorem d_M_findSeats_0 : decode b_M_findSeats 0 = .ok (.aload_n 0, 1) := by decide +kernel
theorem d_M_findSeats_1 : decode b_M_findSeats 1 = .ok (.iconst 1, 1) := by decide +kernel
theorem d_M_findSeats_2 : decode b_M_findSeats 2 = .ok (.iconst 1, 1) := by decide +kernel
theorem d_M_findSeats_3 : decode b_M_findSeats 3 = .ok (.invokevirtual 119, 3) := by decide +kernel
theorem d_M_findSeats_6 : decode b_M_findSeats 6 = .ok (.iconst 0, 1) := by decide +kernel
theorem d_M_findSeats_7 : decode b_M_findSeats 7 = .ok (.istore_n 3, 1) := by decide +kernel
theorem d_M_findSeats_8 : decode b_M_findSeats 8 = .ok (.iload_n 3, 1) := by decide +kernel
theorem d_M_findSeats_9 : decode b_M_findSeats 9 = .ok (.aload_n 0, 1) := by decide +kernel
theorem d_M_findSeats_10 : decode b_M_findSeats 10 = .ok (.getfield 78, 3) := by decide +kernel
theorem d_M_findSeats_13 : decode b_M_findSeats 13 = .ok (.if_icmp .ge 16, 3) := by decide +kernel
theorem d_M_findSeats_16 : decode b_M_findSeats 16 = .ok (.aload_n 0, 1) := by decide +kernel
theorem d_M_findSeats_17 : decode b_M_findSeats 17 = .ok (.getfield 63, 3) := by decide +kernel
theorem d_M_findSeats_20 : decode b_M_findSeats 20 = .ok (.iload_n 3, 1) := by decide +kernel
theorem d_M_findSeats_21 : decode b_M_findSeats 21 = .ok (.iload_n 3, 1) := by decide +kernel
theorem d_M_findSeats_22 : decode b_M_findSeats 22 = .ok (.iastore, 1) := by decide +kernel
theorem d_M_findSeats_23 : decode b_M_findSeats 23 = .ok (.iinc 3 1, 3) := by decide +kernel
theorem d_M_findSeats_26 : decode b_M_findSeats 26 = .ok (.goto (-18), 3) := by decide +kernel
theorem d_M_findSeats_29 : decode b_M_findSeats 29 = .ok (.iconst 0, 1) := by decide +kernel
theorem d_M_findSeats_30 : decode b_M_findSeats 30 = .ok (.istore_n 3, 1) := by decide +kernel
theorem d_M_findSeats_31 : decode b_M_findSeats 31 = .ok (.iconst 1, 1) := by decide +kernel
theorem d_M_findSeats_32 : decode b_M_findSeats 32 = .ok (.istore 4, 2) := by decide +kernel
theorem d_M_findSeats_34 : decode b_M_findSeats 34 = .ok (.iconst 1, 1) := by decide +kernel
theorem d_M_findSeats_35 : decode b_M_findSeats 35 = .ok (.istore 5, 2) := by decide +kernel
theorem d_M_findSeats_37 : decode b_M_findSeats 37 = .ok (.iload 5, 2) := by decide +kernel
theorem d_M_findSeats_39 : decode b_M_findSeats 39 = .ok (.ifCond .eq 82, 3) := by decide +kernel
theorem d_M_findSeats_42 : decode b_M_findSeats 42 = .ok (.aload_n 0, 1) := by decide +kernel
theorem d_M_findSeats_43 : decode b_M_findSeats 43 = .ok (.iload_n 1, 1) := by decide +kernel
theorem d_M_findSeats_44 : decode b_M_findSeats 44 = .ok (.iload_n 2, 1) := by decide +kernel
theorem d_M_findSeats_45 : decode b_M_findSeats 45 = .ok (.invokevirtual 230, 3) := by decide +kernel
theorem d_M_findSeats_48 : decode b_M_findSeats 48 = .ok (.istore 6, 2) := by decide +kernel
theorem d_M_findSeats_50 : decode b_M_findSeats 50 = .ok (.iload 4, 2) := by decide +kernel
theorem d_M_findSeats_52 : decode b_M_findSeats 52 = .ok (.ifCond .ne 22, 3) := by decide +kernel
theorem d_M_findSeats_55 : decode b_M_findSeats 55 = .ok (.iload_n 2, 1) := by decide +kernel
theorem d_M_findSeats_56 : decode b_M_findSeats 56 = .ok (.ifCond .ne 12, 3) := by decide +kernel
theorem d_M_findSeats_59 : decode b_M_findSeats 59 = .ok (.iload 6, 2) := by decide +kernel
theorem d_M_findSeats_61 : decode b_M_findSeats 61 = .ok (.iload_n 3, 1) := by decide +kernel
theorem d_M_findSeats_62 : decode b_M_findSeats 62 = .ok (.if_icmp .ge 47, 3) := by decide +kernel
theorem d_M_findSeats_65 : decode b_M_findSeats 65 = .ok (.goto 9, 3) := by decide +kernel
theorem d_M_findSeats_68 : decode b_M_findSeats 68 = .ok (.iload 6, 2) := by decide +kernel
theorem d_M_findSeats_70 : decode b_M_findSeats 70 = .ok (.iload_n 3, 1) := by decide +kernel
theorem d_M_findSeats_71 : decode b_M_findSeats 71 = .ok (.if_icmp .le 38, 3) := by decide +kernel
theorem d_M_findSeats_74 : decode b_M_findSeats 74 = .ok (.iload 6, 2) := by decide +kernel
theorem d_M_findSeats_76 : decode b_M_findSeats 76 = .ok (.istore_n 3, 1) := by decide +kernel
theorem d_M_findSeats_77 : decode b_M_findSeats 77 = .ok (.iconst 0, 1) := by decide +kernel
theorem d_M_findSeats_78 : decode b_M_findSeats 78 = .ok (.istore 7, 2) := by decide +kernel
theorem d_M_findSeats_80 : decode b_M_findSeats 80 = .ok (.iload 7, 2) := by decide +kernel
theorem d_M_findSeats_82 : decode b_M_findSeats 82 = .ok (.aload_n 0, 1) := by decide +kernel
theorem d_M_findSeats_83 : decode b_M_findSeats 83 = .ok (.getfield 78, 3) := by decide +kernel
theorem d_M_findSeats_86 : decode b_M_findSeats 86 = .ok (.if_icmp .ge 23, 3) := by decide +kernel
theorem d_M_findSeats_89 : decode b_M_findSeats 89 = .ok (.aload_n 0, 1) := by decide +kernel
theorem d_M_findSeats_90 : decode b_M_findSeats 90 = .ok (.getfield 66, 3) := by decide +kernel
theorem d_M_findSeats_93 : decode b_M_findSeats 93 = .ok (.iload 7, 2) := by decide +kernel
theorem d_M_findSeats_95 : decode b_M_findSeats 95 = .ok (.aload_n 0, 1) := by decide +kernel
theorem d_M_findSeats_96 : decode b_M_findSeats 96 = .ok (.getfield 63, 3) := by decide +kernel
theorem d_M_findSeats_99 : decode b_M_findSeats 99 = .ok (.iload 7, 2) := by decide +kernel
theorem d_M_findSeats_101 : decode b_M_findSeats 101 = .ok (.iaload, 1) := by decide +kernel
theorem d_M_findSeats_102 : decode b_M_findSeats 102 = .ok (.iastore, 1) := by decide +kernel
theorem d_M_findSeats_103 : decode b_M_findSeats 103 = .ok (.iinc 7 1, 3) := by decide +kernel
theorem d_M_findSeats_106 : decode b_M_findSeats 106 = .ok (.goto (-26), 3) := by decide +kernel
theorem d_M_findSeats_109 : decode b_M_findSeats 109 = .ok (.iconst 0, 1) := by decide +kernel
theorem d_M_findSeats_110 : decode b_M_findSeats 110 = .ok (.istore 4, 2) := by decide +kernel
theorem d_M_findSeats_112 : decode b_M_findSeats 112 = .ok (.aload_n 0, 1) := by decide +kernel
theorem d_M_findSeats_113 : decode b_M_findSeats 113 = .ok (.invokevirtual 234, 3) := by decide +kernel
theorem d_M_findSeats_116 : decode b_M_findSeats 116 = .ok (.istore 5, 2) := by decide +kernel
theorem d_M_findSeats_118 : decode b_M_findSeats 118 = .ok (.goto (-81), 3) := by decide +kernel
theorem d_M_findSeats_121 : decode b_M_findSeats 121 = .ok (.aload_n 0, 1) := by decide +kernel
theorem d_M_findSeats_122 : decode b_M_findSeats 122 = .ok (.iconst 1, 1) := by decide +kernel
theorem d_M_findSeats_123 : decode b_M_findSeats 123 = .ok (.iconst 0, 1) := by decide +kernel
theorem d_M_findSeats_124 : decode b_M_findSeats 124 = .ok (.invokevirtual 119, 3) := by decide +kernel
theorem d_M_findSeats_127 : decode b_M_findSeats 127 = .ok (.iload_n 3, 1) := by decide +kernel
theorem d_M_findSeats_128 : decode b_M_findSeats 128 = .ok (.ireturn, 1) := by decide +kernel
set_option maxHeartbeats 4000000 in
set_option maxRecDepth 100000 in
theorem c_M_findSeats {l : Launch} {D : va_G} {cI cJ cC : ClassId} (a_h a_h_refused a_h_kind a_h_sweets a_h_gives a_h_tape a_h_letter a_h_letterAt a_h_one a_h_two a_h_kept a_h_trail a_h_crumb a_h_nextCrumb a_h_goal a_h_start a_h_sits a_h_bestSits a_h_without a_h_row : Nat) (y_h_taped : Int32) (y_h_at : Int32) (y_h_statements : Int32) (y_h_hasImage : Int32) (y_h_beforeMany : Int32) (y_h_found : Int32) (y_h_lots : Int32) (y_h_rowMany : Int32) {z_h_T : MT} {z_h_sits : (Nat → Int32)} {z_h_bestSits : (Nat → Int32)} {x1 : Int32} {x2 : Int32} {q : Int32 × MT × (Nat → Int32) × (Nat → Int32)} (hf : f_M_findSeats z_h_T z_h_sits z_h_bestSits x1 x2 = some q) : xI l y_M_findSeats b_M_findSeats 8 .int 5 112 D (tyK cI cJ cC) xE0 [.ref a_h, .int x1, .int x2] (w_M_findSeats cI cJ cC a_h a_h_refused a_h_kind a_h_sweets a_h_gives a_h_tape a_h_letter a_h_letterAt a_h_one a_h_two a_h_kept a_h_trail a_h_crumb a_h_nextCrumb a_h_goal a_h_start a_h_sits a_h_bestSits a_h_without a_h_row y_h_taped y_h_at y_h_statements y_h_hasImage y_h_beforeMany y_h_found y_h_lots y_h_rowMany (m_many z_h_T) (m_odd z_h_T) (m_step z_h_T) (m_bag z_h_T) (m_strokes z_h_T) (m_gave z_h_T) (m_threw z_h_T) (m_isKeeping z_h_T) (m_cursor z_h_T) (m_kind z_h_T) (m_sweets z_h_T) (m_gives z_h_T) (m_kept z_h_T) z_h_sits z_h_bestSits) q.1 (w_M_findSeats cI cJ cC a_h a_h_refused a_h_kind a_h_sweets a_h_gives a_h_tape a_h_letter a_h_letterAt a_h_one a_h_two a_h_kept a_h_trail a_h_crumb a_h_nextCrumb a_h_goal a_h_start a_h_sits a_h_bestSits a_h_without a_h_row y_h_taped y_h_at y_h_statements y_h_hasImage y_h_beforeMany y_h_found y_h_lots y_h_rowMany (m_many q.2.1) (m_odd q.2.1) (m_step q.2.1) (m_bag q.2.1) (m_strokes q.2.1) (m_gave q.2.1) (m_threw q.2.1) (m_isKeeping q.2.1) (m_cursor q.2.1) (m_kind q.2.1) (m_sweets q.2.1) (m_gives q.2.1) (m_kept q.2.1) q.2.2.1 q.2.2.2) := by
  refine xI_of (by decide) (Nat.le_of_ble_eq_true rfl) ?_
  intro p e s m args below meth c A Q hx hb hml hown hT hA hP hD hK hS hE hret ls hl
  have hown : s.vm.findClass R_M = some m.cls := hown
  have hl : lv_has ls 8 [(0, .ref a_h), (1, .int x1), (2, .int x2)] := hl
  unfold f_M_findSeats at hf
  have L8 : ∀ (z_h_T : MT) (z_h_bestSits : (Nat → Int32)) (k : (Nat → Int32) → Option (Int32 × MT × (Nat → Int32) × (Nat → Int32))), (∀ (z_h_sits : (Nat → Int32)) (H : Heap) (locs : List Loc) (ls : Array Slot), k z_h_sits = some q → va_P D classes (w_M_findSeats cI cJ cC a_h a_h_refused a_h_kind a_h_sweets a_h_gives a_h_tape a_h_letter a_h_letterAt a_h_one a_h_two a_h_kept a_h_trail a_h_crumb a_h_nextCrumb a_h_goal a_h_start a_h_sits a_h_bestSits a_h_without a_h_row y_h_taped y_h_at y_h_statements y_h_hasImage y_h_beforeMany y_h_found y_h_lots y_h_rowMany (m_many z_h_T) (m_odd z_h_T) (m_step z_h_T) (m_bag z_h_T) (m_strokes z_h_T) (m_gave z_h_T) (m_threw z_h_T) (m_isKeeping z_h_T) (m_cursor z_h_T) (m_kind z_h_T) (m_sweets z_h_T) (m_gives z_h_T) (m_kept z_h_T) z_h_sits z_h_bestSits) H → va_D A (w_M_findSeats cI cJ cC a_h a_h_refused a_h_kind a_h_sweets a_h_gives a_h_tape a_h_letter a_h_letterAt a_h_one a_h_two a_h_kept a_h_trail a_h_crumb a_h_nextCrumb a_h_goal a_h_start a_h_sits a_h_bestSits a_h_without a_h_row y_h_taped y_h_at y_h_statements y_h_hasImage y_h_beforeMany y_h_found y_h_lots y_h_rowMany (m_many z_h_T) (m_odd z_h_T) (m_step z_h_T) (m_bag z_h_T) (m_strokes z_h_T) (m_gave z_h_T) (m_threw z_h_T) (m_isKeeping z_h_T) (m_cursor z_h_T) (m_kind z_h_T) (m_sweets z_h_T) (m_gives z_h_T) (m_kept z_h_T) z_h_sits z_h_bestSits) → va_S A s.heap H locs → lv_has ls 8 [(0, .ref a_h), (1, .int x1), (2, .int x2)] → W p l e (xRm 5 112) s m args below meth c H locs 0 0 Q (F0 m 29 ls [])) → ∀ (n : Nat) (z_h_sits : (Nat → Int32)) (x3 : Int32) (H : Heap) (locs : List Loc) (ls : Array Slot), f_M_findSeats_L8 z_h_T k n z_h_sits x3 = some q → va_P D classes (w_M_findSeats cI cJ cC a_h a_h_refused a_h_kind a_h_sweets a_h_gives a_h_tape a_h_letter a_h_letterAt a_h_one a_h_two a_h_kept a_h_trail a_h_crumb a_h_nextCrumb a_h_goal a_h_start a_h_sits a_h_bestSits a_h_without a_h_row y_h_taped y_h_at y_h_statements y_h_hasImage y_h_beforeMany y_h_found y_h_lots y_h_rowMany (m_many z_h_T) (m_odd z_h_T) (m_step z_h_T) (m_bag z_h_T) (m_strokes z_h_T) (m_gave z_h_T) (m_threw z_h_T) (m_isKeeping z_h_T) (m_cursor z_h_T) (m_kind z_h_T) (m_sweets z_h_T) (m_gives z_h_T) (m_kept z_h_T) z_h_sits z_h_bestSits) H → va_D A (w_M_findSeats cI cJ cC a_h a_h_refused a_h_kind a_h_sweets a_h_gives a_h_tape a_h_letter a_h_letterAt a_h_one a_h_two a_h_kept a_h_trail a_h_crumb a_h_nextCrumb a_h_goal a_h_start a_h_sits a_h_bestSits a_h_without a_h_row y_h_taped y_h_at y_h_statements y_h_hasImage y_h_beforeMany y_h_found y_h_lots y_h_rowMany (m_many z_h_T) (m_odd z_h_T) (m_step z_h_T) (m_bag z_h_T) (m_strokes z_h_T) (m_gave z_h_T) (m_threw z_h_T) (m_isKeeping z_h_T) (m_cursor z_h_T) (m_kind z_h_T) (m_sweets z_h_T) (m_gives z_h_T) (m_kept z_h_T) z_h_sits z_h_bestSits) → va_S A s.heap H locs → lv_has ls 8 [(0, .ref a_h), (1, .int x1), (2, .int x2), (3, .int x3)] → W p l e (xRm 5 112) s m args below meth c H locs 0 0 Q (F0 m 8 ls []) := by
    intro z_h_T z_h_bestSits k hk n
    induction n with
    | zero => intro z_h_sits x3 H locs ls hf hP hD hS hl; exact nomatch (show (none : Option (Int32 × MT × (Nat → Int32) × (Nat → Int32))) = some q from hf)
    | succ n ih =>
      intro z_h_sits x3 H locs ls hf hP hD hS hl
      refine lv_iload_n hx hb d_M_findSeats_8 rfl (lv_at hl 3 rfl) ?_
      refine lv_aload_n hx hb d_M_findSeats_9 rfl (lv_at hl 0 rfl) ?_
      refine va_get hx hb hT i_M hown hK hP 0 rfl rfl 4 (Nat.le_of_ble_eq_true rfl) (hT _ k_762) (fun _ h => h) rfl d_M_findSeats_10 ?_
      refine lv_icmp_ge (tgt := 29) hx hb d_M_findSeats_13 (by decide) (fun c2 => ?_) (fun c2 => ?_)
      · have hf := io_t hf c2
        exact hk z_h_sits _ _ _ hf hP hD hS (lv_sub hl [0, 1, 2] rfl)
      · have hf := io_f hf c2
        refine lv_aload_n hx hb d_M_findSeats_16 rfl (lv_at hl 0 rfl) ?_
        refine va_get hx hb hT i_M hown hK hP 0 rfl rfl 30 (Nat.le_of_ble_eq_true rfl) (hT _ k_788) (fun _ h => h) rfl d_M_findSeats_17 ?_
        refine lv_iload_n hx hb d_M_findSeats_20 rfl (lv_at hl 3 rfl) ?_
        refine lv_iload_n hx hb d_M_findSeats_21 rfl (lv_at hl 3 rfl) ?_
        obtain ⟨c3, hf⟩ := io_n hf
        refine x_iast hx hb hK hP hD hS 5 0 rfl rfl (j := x3.toNatClampNeg) rfl c3 d_M_findSeats_22 (fun H locs hP hD hS => ?_)
        have hP : va_P D classes (w_M_findSeats cI cJ cC a_h a_h_refused a_h_kind a_h_sweets a_h_gives a_h_tape a_h_letter a_h_letterAt a_h_one a_h_two a_h_kept a_h_trail a_h_crumb a_h_nextCrumb a_h_goal a_h_start a_h_sits a_h_bestSits a_h_without a_h_row y_h_taped y_h_at y_h_statements y_h_hasImage y_h_beforeMany y_h_found y_h_lots y_h_rowMany (m_many z_h_T) (m_odd z_h_T) (m_step z_h_T) (m_bag z_h_T) (m_strokes z_h_T) (m_gave z_h_T) (m_threw z_h_T) (m_isKeeping z_h_T) (m_cursor z_h_T) (m_kind z_h_T) (m_sweets z_h_T) (m_gives z_h_T) (m_kept z_h_T) (upd z_h_sits x3.toNatClampNeg x3) z_h_bestSits) H := hP
        have hD : va_D A (w_M_findSeats cI cJ cC a_h a_h_refused a_h_kind a_h_sweets a_h_gives a_h_tape a_h_letter a_h_letterAt a_h_one a_h_two a_h_kept a_h_trail a_h_crumb a_h_nextCrumb a_h_goal a_h_start a_h_sits a_h_bestSits a_h_without a_h_row y_h_taped y_h_at y_h_statements y_h_hasImage y_h_beforeMany y_h_found y_h_lots y_h_rowMany (m_many z_h_T) (m_odd z_h_T) (m_step z_h_T) (m_bag z_h_T) (m_strokes z_h_T) (m_gave z_h_T) (m_threw z_h_T) (m_isKeeping z_h_T) (m_cursor z_h_T) (m_kind z_h_T) (m_sweets z_h_T) (m_gives z_h_T) (m_kept z_h_T) (upd z_h_sits x3.toNatClampNeg x3) z_h_bestSits) := hD
        refine lv_iinc (v := (x3 + 1)) (lv' := [(3, .int (x3 + 1)), (0, .ref a_h), (1, .int x1), (2, .int x2)]) hx hb d_M_findSeats_23 hl (k := 3) rfl (by rfl) (by decide) rfl (fun ls hl => ?_)
        refine lv_goto (tgt := 8) hx hb d_M_findSeats_26 (by decide) ?_
        exact ih (upd z_h_sits x3.toNatClampNeg x3) (x3 + 1) _ _ _ hf hP hD hS (lv_sub hl [1, 2, 3, 0] rfl)
  have L80 : ∀ (z_h_T : MT) (z_h_sits : (Nat → Int32)) (x3 : Int32) (k : (Nat → Int32) → Option (Int32 × MT × (Nat → Int32) × (Nat → Int32))), (∀ (z_h_bestSits : (Nat → Int32)) (H : Heap) (locs : List Loc) (ls : Array Slot), k z_h_bestSits = some q → va_P D classes (w_M_findSeats cI cJ cC a_h a_h_refused a_h_kind a_h_sweets a_h_gives a_h_tape a_h_letter a_h_letterAt a_h_one a_h_two a_h_kept a_h_trail a_h_crumb a_h_nextCrumb a_h_goal a_h_start a_h_sits a_h_bestSits a_h_without a_h_row y_h_taped y_h_at y_h_statements y_h_hasImage y_h_beforeMany y_h_found y_h_lots y_h_rowMany (m_many z_h_T) (m_odd z_h_T) (m_step z_h_T) (m_bag z_h_T) (m_strokes z_h_T) (m_gave z_h_T) (m_threw z_h_T) (m_isKeeping z_h_T) (m_cursor z_h_T) (m_kind z_h_T) (m_sweets z_h_T) (m_gives z_h_T) (m_kept z_h_T) z_h_sits z_h_bestSits) H → va_D A (w_M_findSeats cI cJ cC a_h a_h_refused a_h_kind a_h_sweets a_h_gives a_h_tape a_h_letter a_h_letterAt a_h_one a_h_two a_h_kept a_h_trail a_h_crumb a_h_nextCrumb a_h_goal a_h_start a_h_sits a_h_bestSits a_h_without a_h_row y_h_taped y_h_at y_h_statements y_h_hasImage y_h_beforeMany y_h_found y_h_lots y_h_rowMany (m_many z_h_T) (m_odd z_h_T) (m_step z_h_T) (m_bag z_h_T) (m_strokes z_h_T) (m_gave z_h_T) (m_threw z_h_T) (m_isKeeping z_h_T) (m_cursor z_h_T) (m_kind z_h_T) (m_sweets z_h_T) (m_gives z_h_T) (m_kept z_h_T) z_h_sits z_h_bestSits) → va_S A s.heap H locs → lv_has ls 8 [(0, .ref a_h), (1, .int x1), (2, .int x2), (3, .int x3)] → W p l e (xRm 5 112) s m args below meth c H locs 0 0 Q (F0 m 109 ls [])) → ∀ (n : Nat) (z_h_bestSits : (Nat → Int32)) (x7 : Int32) (H : Heap) (locs : List Loc) (ls : Array Slot), f_M_findSeats_L80 z_h_T z_h_sits k n z_h_bestSits x7 = some q → va_P D classes (w_M_findSeats cI cJ cC a_h a_h_refused a_h_kind a_h_sweets a_h_gives a_h_tape a_h_letter a_h_letterAt a_h_one a_h_two a_h_kept a_h_trail a_h_crumb a_h_nextCrumb a_h_goal a_h_start a_h_sits a_h_bestSits a_h_without a_h_row y_h_taped y_h_at y_h_statements y_h_hasImage y_h_beforeMany y_h_found y_h_lots y_h_rowMany (m_many z_h_T) (m_odd z_h_T) (m_step z_h_T) (m_bag z_h_T) (m_strokes z_h_T) (m_gave z_h_T) (m_threw z_h_T) (m_isKeeping z_h_T) (m_cursor z_h_T) (m_kind z_h_T) (m_sweets z_h_T) (m_gives z_h_T) (m_kept z_h_T) z_h_sits z_h_bestSits) H → va_D A (w_M_findSeats cI cJ cC a_h a_h_refused a_h_kind a_h_sweets a_h_gives a_h_tape a_h_letter a_h_letterAt a_h_one a_h_two a_h_kept a_h_trail a_h_crumb a_h_nextCrumb a_h_goal a_h_start a_h_sits a_h_bestSits a_h_without a_h_row y_h_taped y_h_at y_h_statements y_h_hasImage y_h_beforeMany y_h_found y_h_lots y_h_rowMany (m_many z_h_T) (m_odd z_h_T) (m_step z_h_T) (m_bag z_h_T) (m_strokes z_h_T) (m_gave z_h_T) (m_threw z_h_T) (m_isKeeping z_h_T) (m_cursor z_h_T) (m_kind z_h_T) (m_sweets z_h_T) (m_gives z_h_T) (m_kept z_h_T) z_h_sits z_h_bestSits) → va_S A s.heap H locs → lv_has ls 8 [(0, .ref a_h), (1, .int x1), (2, .int x2), (3, .int x3), (7, .int x7)] → W p l e (xRm 5 112) s m args below meth c H locs 0 0 Q (F0 m 80 ls []) := by
    intro z_h_T z_h_sits x3 k hk n
    induction n with
    | zero => intro z_h_bestSits x7 H locs ls hf hP hD hS hl; exact nomatch (show (none : Option (Int32 × MT × (Nat → Int32) × (Nat → Int32))) = some q from hf)
    | succ n ih =>
      intro z_h_bestSits x7 H locs ls hf hP hD hS hl
      refine lv_iload hx hb d_M_findSeats_80 (lv_at hl 4 rfl) ?_
      refine lv_aload_n hx hb d_M_findSeats_82 rfl (lv_at hl 0 rfl) ?_
      refine va_get hx hb hT i_M hown hK hP 0 rfl rfl 4 (Nat.le_of_ble_eq_true rfl) (hT _ k_762) (fun _ h => h) rfl d_M_findSeats_83 ?_
      refine lv_icmp_ge (tgt := 109) hx hb d_M_findSeats_86 (by decide) (fun c8 => ?_) (fun c8 => ?_)
      · have hf := io_t hf c8
        exact hk z_h_bestSits _ _ _ hf hP hD hS (lv_sub hl [0, 1, 2, 3] rfl)
      · have hf := io_f hf c8
        refine lv_aload_n hx hb d_M_findSeats_89 rfl (lv_at hl 0 rfl) ?_
        refine va_get hx hb hT i_M hown hK hP 0 rfl rfl 31 (Nat.le_of_ble_eq_true rfl) (hT _ k_789) (fun _ h => h) rfl d_M_findSeats_90 ?_
        refine lv_iload hx hb d_M_findSeats_93 (lv_at hl 4 rfl) ?_
        refine lv_aload_n hx hb d_M_findSeats_95 rfl (lv_at hl 0 rfl) ?_
        refine va_get hx hb hT i_M hown hK hP 0 rfl rfl 30 (Nat.le_of_ble_eq_true rfl) (hT _ k_788) (fun _ h => h) rfl d_M_findSeats_96 ?_
        refine lv_iload hx hb d_M_findSeats_99 (lv_at hl 4 rfl) ?_
        obtain ⟨c9, hf⟩ := io_n hf
        refine x_iald hx hb hK hP 5 0 rfl rfl (j := x7.toNatClampNeg) rfl c9 d_M_findSeats_101 ?_
        refine x_iast hx hb hK hP hD hS 6 0 rfl rfl (j := x7.toNatClampNeg) rfl c9 d_M_findSeats_102 (fun H locs hP hD hS => ?_)
        have hP : va_P D classes (w_M_findSeats cI cJ cC a_h a_h_refused a_h_kind a_h_sweets a_h_gives a_h_tape a_h_letter a_h_letterAt a_h_one a_h_two a_h_kept a_h_trail a_h_crumb a_h_nextCrumb a_h_goal a_h_start a_h_sits a_h_bestSits a_h_without a_h_row y_h_taped y_h_at y_h_statements y_h_hasImage y_h_beforeMany y_h_found y_h_lots y_h_rowMany (m_many z_h_T) (m_odd z_h_T) (m_step z_h_T) (m_bag z_h_T) (m_strokes z_h_T) (m_gave z_h_T) (m_threw z_h_T) (m_isKeeping z_h_T) (m_cursor z_h_T) (m_kind z_h_T) (m_sweets z_h_T) (m_gives z_h_T) (m_kept z_h_T) z_h_sits (upd z_h_bestSits x7.toNatClampNeg (z_h_sits x7.toNatClampNeg))) H := hP
        have hD : va_D A (w_M_findSeats cI cJ cC a_h a_h_refused a_h_kind a_h_sweets a_h_gives a_h_tape a_h_letter a_h_letterAt a_h_one a_h_two a_h_kept a_h_trail a_h_crumb a_h_nextCrumb a_h_goal a_h_start a_h_sits a_h_bestSits a_h_without a_h_row y_h_taped y_h_at y_h_statements y_h_hasImage y_h_beforeMany y_h_found y_h_lots y_h_rowMany (m_many z_h_T) (m_odd z_h_T) (m_step z_h_T) (m_bag z_h_T) (m_strokes z_h_T) (m_gave z_h_T) (m_threw z_h_T) (m_isKeeping z_h_T) (m_cursor z_h_T) (m_kind z_h_T) (m_sweets z_h_T) (m_gives z_h_T) (m_kept z_h_T) z_h_sits (upd z_h_bestSits x7.toNatClampNeg (z_h_sits x7.toNatClampNeg))) := hD
        refine lv_iinc (v := (x7 + 1)) (lv' := [(7, .int (x7 + 1)), (0, .ref a_h), (1, .int x1), (2, .int x2), (3, .int x3)]) hx hb d_M_findSeats_103 hl (k := 4) rfl (by rfl) (by decide) rfl (fun ls hl => ?_)
        refine lv_goto (tgt := 80) hx hb d_M_findSeats_106 (by decide) ?_
        exact ih (upd z_h_bestSits x7.toNatClampNeg (z_h_sits x7.toNatClampNeg)) (x7 + 1) _ _ _ hf hP hD hS (lv_sub hl [1, 2, 3, 4, 0] rfl)
  have L37 : ∀ k : MT → (Nat → Int32) → (Nat → Int32) → Int32 → Option (Int32 × MT × (Nat → Int32) × (Nat → Int32)), (∀ (z_h_T : MT) (z_h_sits : (Nat → Int32)) (z_h_bestSits : (Nat → Int32)) (x3 : Int32) (H : Heap) (locs : List Loc) (ls : Array Slot), k z_h_T z_h_sits z_h_bestSits x3 = some q → va_P D classes (w_M_findSeats cI cJ cC a_h a_h_refused a_h_kind a_h_sweets a_h_gives a_h_tape a_h_letter a_h_letterAt a_h_one a_h_two a_h_kept a_h_trail a_h_crumb a_h_nextCrumb a_h_goal a_h_start a_h_sits a_h_bestSits a_h_without a_h_row y_h_taped y_h_at y_h_statements y_h_hasImage y_h_beforeMany y_h_found y_h_lots y_h_rowMany (m_many z_h_T) (m_odd z_h_T) (m_step z_h_T) (m_bag z_h_T) (m_strokes z_h_T) (m_gave z_h_T) (m_threw z_h_T) (m_isKeeping z_h_T) (m_cursor z_h_T) (m_kind z_h_T) (m_sweets z_h_T) (m_gives z_h_T) (m_kept z_h_T) z_h_sits z_h_bestSits) H → va_D A (w_M_findSeats cI cJ cC a_h a_h_refused a_h_kind a_h_sweets a_h_gives a_h_tape a_h_letter a_h_letterAt a_h_one a_h_two a_h_kept a_h_trail a_h_crumb a_h_nextCrumb a_h_goal a_h_start a_h_sits a_h_bestSits a_h_without a_h_row y_h_taped y_h_at y_h_statements y_h_hasImage y_h_beforeMany y_h_found y_h_lots y_h_rowMany (m_many z_h_T) (m_odd z_h_T) (m_step z_h_T) (m_bag z_h_T) (m_strokes z_h_T) (m_gave z_h_T) (m_threw z_h_T) (m_isKeeping z_h_T) (m_cursor z_h_T) (m_kind z_h_T) (m_sweets z_h_T) (m_gives z_h_T) (m_kept z_h_T) z_h_sits z_h_bestSits) → va_S A s.heap H locs → lv_has ls 8 [(0, .ref a_h), (3, .int x3)] → W p l e (xRm 5 112) s m args below meth c H locs 0 0 Q (F0 m 121 ls [])) → ∀ (n : Nat) (z_h_T : MT) (z_h_sits : (Nat → Int32)) (z_h_bestSits : (Nat → Int32)) (x3 : Int32) (x4 : Int32) (x5 : Int32) (H : Heap) (locs : List Loc) (ls : Array Slot), f_M_findSeats_L37 x1 x2 k n z_h_T z_h_sits z_h_bestSits x3 x4 x5 = some q → va_P D classes (w_M_findSeats cI cJ cC a_h a_h_refused a_h_kind a_h_sweets a_h_gives a_h_tape a_h_letter a_h_letterAt a_h_one a_h_two a_h_kept a_h_trail a_h_crumb a_h_nextCrumb a_h_goal a_h_start a_h_sits a_h_bestSits a_h_without a_h_row y_h_taped y_h_at y_h_statements y_h_hasImage y_h_beforeMany y_h_found y_h_lots y_h_rowMany (m_many z_h_T) (m_odd z_h_T) (m_step z_h_T) (m_bag z_h_T) (m_strokes z_h_T) (m_gave z_h_T) (m_threw z_h_T) (m_isKeeping z_h_T) (m_cursor z_h_T) (m_kind z_h_T) (m_sweets z_h_T) (m_gives z_h_T) (m_kept z_h_T) z_h_sits z_h_bestSits) H → va_D A (w_M_findSeats cI cJ cC a_h a_h_refused a_h_kind a_h_sweets a_h_gives a_h_tape a_h_letter a_h_letterAt a_h_one a_h_two a_h_kept a_h_trail a_h_crumb a_h_nextCrumb a_h_goal a_h_start a_h_sits a_h_bestSits a_h_without a_h_row y_h_taped y_h_at y_h_statements y_h_hasImage y_h_beforeMany y_h_found y_h_lots y_h_rowMany (m_many z_h_T) (m_odd z_h_T) (m_step z_h_T) (m_bag z_h_T) (m_strokes z_h_T) (m_gave z_h_T) (m_threw z_h_T) (m_isKeeping z_h_T) (m_cursor z_h_T) (m_kind z_h_T) (m_sweets z_h_T) (m_gives z_h_T) (m_kept z_h_T) z_h_sits z_h_bestSits) → va_S A s.heap H locs → lv_has ls 8 [(0, .ref a_h), (1, .int x1), (2, .int x2), (3, .int x3), (4, .int x4), (5, .int x5)] → W p l e (xRm 5 112) s m args below meth c H locs 0 0 Q (F0 m 37 ls []) := by
    intro k hk n
    induction n with
    | zero => intro z_h_T z_h_sits z_h_bestSits x3 x4 x5 H locs ls hf hP hD hS hl; exact nomatch (show (none : Option (Int32 × MT × (Nat → Int32) × (Nat → Int32))) = some q from hf)
    | succ n ih =>
      intro z_h_T z_h_sits z_h_bestSits x3 x4 x5 H locs ls hf hP hD hS hl
      refine lv_iload hx hb d_M_findSeats_37 (lv_at hl 5 rfl) ?_
      refine lv_if_eq (tgt := 121) hx hb d_M_findSeats_39 (by decide) (fun c5 => ?_) (fun c5 => ?_)
      · have hf := io_t hf c5
        exact hk z_h_T z_h_sits z_h_bestSits x3 _ _ _ hf hP hD hS (lv_sub hl [0, 3] rfl)
      · have hf := io_f hf c5
        refine lv_aload_n hx hb d_M_findSeats_42 rfl (lv_at hl 0 rfl) ?_
        refine lv_iload_n hx hb d_M_findSeats_43 rfl (lv_at hl 1 rfl) ?_
        refine lv_iload_n hx hb d_M_findSeats_44 rfl (lv_at hl 2 rfl) ?_
        obtain ⟨q6, hq6, hf⟩ := io_b hf
        refine xcVI (wc := (w_M_seated cI cJ cC a_h a_h_refused a_h_kind a_h_sweets a_h_gives a_h_tape a_h_letter a_h_letterAt a_h_one a_h_two a_h_kept a_h_trail a_h_crumb a_h_nextCrumb a_h_goal a_h_start a_h_sits a_h_bestSits a_h_without a_h_row y_h_taped y_h_at y_h_statements y_h_hasImage y_h_beforeMany y_h_found y_h_lots y_h_rowMany (m_many z_h_T) (m_odd z_h_T) (m_step z_h_T) (m_bag z_h_T) (m_strokes z_h_T) (m_gave z_h_T) (m_threw z_h_T) (m_isKeeping z_h_T) (m_cursor z_h_T) (m_kind z_h_T) (m_sweets z_h_T) (m_gives z_h_T) (m_kept z_h_T) z_h_sits)) (wc' := (w_M_seated cI cJ cC a_h a_h_refused a_h_kind a_h_sweets a_h_gives a_h_tape a_h_letter a_h_letterAt a_h_one a_h_two a_h_kept a_h_trail a_h_crumb a_h_nextCrumb a_h_goal a_h_start a_h_sits a_h_bestSits a_h_without a_h_row y_h_taped y_h_at y_h_statements y_h_hasImage y_h_beforeMany y_h_found y_h_lots y_h_rowMany (m_many q6.2) (m_odd q6.2) (m_step q6.2) (m_bag q6.2) (m_strokes q6.2) (m_gave q6.2) (m_threw q6.2) (m_isKeeping q6.2) (m_cursor q6.2) (m_kind q6.2) (m_sweets q6.2) (m_gives q6.2) (m_kept q6.2) z_h_sits)) (ws' := (w_M_findSeats cI cJ cC a_h a_h_refused a_h_kind a_h_sweets a_h_gives a_h_tape a_h_letter a_h_letterAt a_h_one a_h_two a_h_kept a_h_trail a_h_crumb a_h_nextCrumb a_h_goal a_h_start a_h_sits a_h_bestSits a_h_without a_h_row y_h_taped y_h_at y_h_statements y_h_hasImage y_h_beforeMany y_h_found y_h_lots y_h_rowMany (m_many q6.2) (m_odd q6.2) (m_step q6.2) (m_bag q6.2) (m_strokes q6.2) (m_gave q6.2) (m_threw q6.2) (m_isKeeping q6.2) (m_cursor q6.2) (m_kind q6.2) (m_sweets q6.2) (m_gives q6.2) (m_kept q6.2) z_h_sits z_h_bestSits)) (As := [.int x1, .int x2]) (rest := []) hx hb hml hown hT (c_M_seated (z_h_T := z_h_T) (z_h_sits := z_h_sits) a_h a_h_refused a_h_kind a_h_sweets a_h_gives a_h_tape a_h_letter a_h_letterAt a_h_one a_h_two a_h_kept a_h_trail a_h_crumb a_h_nextCrumb a_h_goal a_h_start a_h_sits a_h_bestSits a_h_without a_h_row y_h_taped y_h_at y_h_statements y_h_hasImage y_h_beforeMany y_h_found y_h_lots y_h_rowMany hq6) k_1084 k_1086 ks_52 k_8 k_1087 hd_M_seated ⟨Nat.le_of_ble_eq_true rfl, Nat.le_of_ble_eq_true rfl⟩ xE0_ok trivial hA hK hP hD hS [0, 1, 2, 3, 4, 5] [6] [1, 2, 3, 4, 5, 6, 0] rfl rfl rfl rfl rfl rfl rfl rfl rfl rfl hl.1 rfl (Nat.le_of_ble_eq_true rfl) ⟨Nat.zero_le _, Nat.zero_le _⟩ d_M_findSeats_45 (fun H locs hP hD hS => ?_)
        refine lv_istore (lv' := [(6, .int q6.1), (0, .ref a_h), (1, .int x1), (2, .int x2), (3, .int x3), (4, .int x4), (5, .int x5)]) hx hb d_M_findSeats_48 hl (by decide) rfl (fun ls hl => ?_)
        refine lv_iload hx hb d_M_findSeats_50 (lv_at hl 5 rfl) ?_
        refine lv_if_ne (tgt := 74) hx hb d_M_findSeats_52 (by decide) (fun c7 => ?_) (fun c7 => ?_)
        · have hf := io_f hf c7
          refine lv_iload hx hb d_M_findSeats_74 (lv_at hl 0 rfl) ?_
          refine lv_istore_n (lv' := [(3, .int q6.1), (6, .int q6.1), (0, .ref a_h), (1, .int x1), (2, .int x2), (4, .int x4), (5, .int x5)]) hx hb d_M_findSeats_76 rfl hl (by decide) rfl (fun ls hl => ?_)
          refine lv_iconst (v := 0) hx hb d_M_findSeats_77 (by decide) ?_
          refine lv_istore (lv' := [(7, .int 0), (3, .int q6.1), (6, .int q6.1), (0, .ref a_h), (1, .int x1), (2, .int x2), (4, .int x4), (5, .int x5)]) hx hb d_M_findSeats_78 hl (by decide) rfl (fun ls hl => ?_)
          refine L80 q6.2 z_h_sits q6.1 _ (fun z_h_bestSits_10 H locs ls hf hP hD hS hl => ?_) FU z_h_bestSits 0 _ _ _ hf hP hD hS (lv_sub hl [3, 4, 5, 1, 0] rfl)
          refine lv_iconst (v := 0) hx hb d_M_findSeats_109 (by decide) ?_
          refine lv_istore (lv' := [(4, .int 0), (0, .ref a_h), (1, .int x1), (2, .int x2), (3, .int q6.1)]) hx hb d_M_findSeats_110 hl (by decide) rfl (fun ls hl => ?_)
          refine lv_aload_n hx hb d_M_findSeats_112 rfl (lv_at hl 1 rfl) ?_
          obtain ⟨q11, hq11, hf⟩ := io_b hf
          refine xcVI (wc := (w_M_nextSeats cI cJ cC a_h a_h_refused a_h_kind a_h_sweets a_h_gives a_h_tape a_h_letter a_h_letterAt a_h_one a_h_two a_h_kept a_h_trail a_h_crumb a_h_nextCrumb a_h_goal a_h_start a_h_sits a_h_bestSits a_h_without a_h_row y_h_taped y_h_at y_h_statements y_h_hasImage y_h_beforeMany y_h_found y_h_lots y_h_rowMany (m_many q6.2) (m_odd q6.2) (m_step q6.2) (m_bag q6.2) (m_strokes q6.2) (m_gave q6.2) (m_threw q6.2) (m_isKeeping q6.2) (m_cursor q6.2) z_h_sits)) (wc' := (w_M_nextSeats cI cJ cC a_h a_h_refused a_h_kind a_h_sweets a_h_gives a_h_tape a_h_letter a_h_letterAt a_h_one a_h_two a_h_kept a_h_trail a_h_crumb a_h_nextCrumb a_h_goal a_h_start a_h_sits a_h_bestSits a_h_without a_h_row y_h_taped y_h_at y_h_statements y_h_hasImage y_h_beforeMany y_h_found y_h_lots y_h_rowMany (m_many q6.2) (m_odd q6.2) (m_step q6.2) (m_bag q6.2) (m_strokes q6.2) (m_gave q6.2) (m_threw q6.2) (m_isKeeping q6.2) (m_cursor q6.2) q11.2)) (ws' := (w_M_findSeats cI cJ cC a_h a_h_refused a_h_kind a_h_sweets a_h_gives a_h_tape a_h_letter a_h_letterAt a_h_one a_h_two a_h_kept a_h_trail a_h_crumb a_h_nextCrumb a_h_goal a_h_start a_h_sits a_h_bestSits a_h_without a_h_row y_h_taped y_h_at y_h_statements y_h_hasImage y_h_beforeMany y_h_found y_h_lots y_h_rowMany (m_many q6.2) (m_odd q6.2) (m_step q6.2) (m_bag q6.2) (m_strokes q6.2) (m_gave q6.2) (m_threw q6.2) (m_isKeeping q6.2) (m_cursor q6.2) (m_kind q6.2) (m_sweets q6.2) (m_gives q6.2) (m_kept q6.2) q11.2 z_h_bestSits_10)) (As := []) (rest := []) hx hb hml hown hT (c_M_nextSeats (z_h_T := q6.2) (z_h_sits := z_h_sits) a_h a_h_refused a_h_kind a_h_sweets a_h_gives a_h_tape a_h_letter a_h_letterAt a_h_one a_h_two a_h_kept a_h_trail a_h_crumb a_h_nextCrumb a_h_goal a_h_start a_h_sits a_h_bestSits a_h_without a_h_row y_h_taped y_h_at y_h_statements y_h_hasImage y_h_beforeMany y_h_found y_h_lots y_h_rowMany hq11) k_1088 k_1090 ks_53 k_8 k_1091 hd_M_nextSeats ⟨Nat.le_of_ble_eq_true rfl, Nat.le_of_ble_eq_true rfl⟩ xE0_ok trivial hA hK hP hD hS [0, 5] [1, 2, 3, 4, 6] [5, 0, 1, 2, 3, 6, 4] rfl rfl rfl rfl rfl rfl rfl rfl rfl rfl hl.1 rfl (Nat.le_of_ble_eq_true rfl) ⟨Nat.zero_le _, Nat.zero_le _⟩ d_M_findSeats_113 (fun H locs hP hD hS => ?_)
          refine lv_istore (lv' := [(5, .int q11.1), (4, .int 0), (0, .ref a_h), (1, .int x1), (2, .int x2), (3, .int q6.1)]) hx hb d_M_findSeats_116 hl (by decide) rfl (fun ls hl => ?_)
          refine lv_goto (tgt := 37) hx hb d_M_findSeats_118 (by decide) ?_
          exact ih q6.2 q11.2 z_h_bestSits_10 q6.1 0 q11.1 _ _ _ hf hP hD hS (lv_sub hl [2, 3, 4, 5, 1, 0] rfl)
        · have hf := io_t hf c7
          refine lv_iload_n hx hb d_M_findSeats_55 rfl (lv_at hl 3 rfl) ?_
          refine lv_if_ne (tgt := 68) hx hb d_M_findSeats_56 (by decide) (fun c12 => ?_) (fun c12 => ?_)
          · have hf := io_f hf c12
            refine lv_iload hx hb d_M_findSeats_68 (lv_at hl 0 rfl) ?_
            refine lv_iload_n hx hb d_M_findSeats_70 rfl (lv_at hl 4 rfl) ?_
            refine lv_icmp_le (tgt := 109) hx hb d_M_findSeats_71 (by decide) (fun c13 => ?_) (fun c13 => ?_)
            · have hf := io_t hf c13
              refine lv_iconst (v := 0) hx hb d_M_findSeats_109 (by decide) ?_
              refine lv_istore (lv' := [(4, .int 0), (6, .int q6.1), (0, .ref a_h), (1, .int x1), (2, .int x2), (3, .int x3), (5, .int x5)]) hx hb d_M_findSeats_110 hl (by decide) rfl (fun ls hl => ?_)
              refine lv_aload_n hx hb d_M_findSeats_112 rfl (lv_at hl 2 rfl) ?_
              obtain ⟨q14, hq14, hf⟩ := io_b hf
              refine xcVI (wc := (w_M_nextSeats cI cJ cC a_h a_h_refused a_h_kind a_h_sweets a_h_gives a_h_tape a_h_letter a_h_letterAt a_h_one a_h_two a_h_kept a_h_trail a_h_crumb a_h_nextCrumb a_h_goal a_h_start a_h_sits a_h_bestSits a_h_without a_h_row y_h_taped y_h_at y_h_statements y_h_hasImage y_h_beforeMany y_h_found y_h_lots y_h_rowMany (m_many q6.2) (m_odd q6.2) (m_step q6.2) (m_bag q6.2) (m_strokes q6.2) (m_gave q6.2) (m_threw q6.2) (m_isKeeping q6.2) (m_cursor q6.2) z_h_sits)) (wc' := (w_M_nextSeats cI cJ cC a_h a_h_refused a_h_kind a_h_sweets a_h_gives a_h_tape a_h_letter a_h_letterAt a_h_one a_h_two a_h_kept a_h_trail a_h_crumb a_h_nextCrumb a_h_goal a_h_start a_h_sits a_h_bestSits a_h_without a_h_row y_h_taped y_h_at y_h_statements y_h_hasImage y_h_beforeMany y_h_found y_h_lots y_h_rowMany (m_many q6.2) (m_odd q6.2) (m_step q6.2) (m_bag q6.2) (m_strokes q6.2) (m_gave q6.2) (m_threw q6.2) (m_isKeeping q6.2) (m_cursor q6.2) q14.2)) (ws' := (w_M_findSeats cI cJ cC a_h a_h_refused a_h_kind a_h_sweets a_h_gives a_h_tape a_h_letter a_h_letterAt a_h_one a_h_two a_h_kept a_h_trail a_h_crumb a_h_nextCrumb a_h_goal a_h_start a_h_sits a_h_bestSits a_h_without a_h_row y_h_taped y_h_at y_h_statements y_h_hasImage y_h_beforeMany y_h_found y_h_lots y_h_rowMany (m_many q6.2) (m_odd q6.2) (m_step q6.2) (m_bag q6.2) (m_strokes q6.2) (m_gave q6.2) (m_threw q6.2) (m_isKeeping q6.2) (m_cursor q6.2) (m_kind q6.2) (m_sweets q6.2) (m_gives q6.2) (m_kept q6.2) q14.2 z_h_bestSits)) (As := []) (rest := []) hx hb hml hown hT (c_M_nextSeats (z_h_T := q6.2) (z_h_sits := z_h_sits) a_h a_h_refused a_h_kind a_h_sweets a_h_gives a_h_tape a_h_letter a_h_letterAt a_h_one a_h_two a_h_kept a_h_trail a_h_crumb a_h_nextCrumb a_h_goal a_h_start a_h_sits a_h_bestSits a_h_without a_h_row y_h_taped y_h_at y_h_statements y_h_hasImage y_h_beforeMany y_h_found y_h_lots y_h_rowMany hq14) k_1088 k_1090 ks_53 k_8 k_1091 hd_M_nextSeats ⟨Nat.le_of_ble_eq_true rfl, Nat.le_of_ble_eq_true rfl⟩ xE0_ok trivial hA hK hP hD hS [0, 5] [1, 2, 3, 4, 6] [5, 0, 1, 2, 3, 6, 4] rfl rfl rfl rfl rfl rfl rfl rfl rfl rfl hl.1 rfl (Nat.le_of_ble_eq_true rfl) ⟨Nat.zero_le _, Nat.zero_le _⟩ d_M_findSeats_113 (fun H locs hP hD hS => ?_)
              refine lv_istore (lv' := [(5, .int q14.1), (4, .int 0), (6, .int q6.1), (0, .ref a_h), (1, .int x1), (2, .int x2), (3, .int x3)]) hx hb d_M_findSeats_116 hl (by decide) rfl (fun ls hl => ?_)
              refine lv_goto (tgt := 37) hx hb d_M_findSeats_118 (by decide) ?_
              exact ih q6.2 q14.2 z_h_bestSits x3 0 q14.1 _ _ _ hf hP hD hS (lv_sub hl [3, 4, 5, 6, 1, 0] rfl)
            · have hf := io_f hf c13
              refine lv_iload hx hb d_M_findSeats_74 (lv_at hl 0 rfl) ?_
              refine lv_istore_n (lv' := [(3, .int q6.1), (6, .int q6.1), (0, .ref a_h), (1, .int x1), (2, .int x2), (4, .int x4), (5, .int x5)]) hx hb d_M_findSeats_76 rfl hl (by decide) rfl (fun ls hl => ?_)
              refine lv_iconst (v := 0) hx hb d_M_findSeats_77 (by decide) ?_
              refine lv_istore (lv' := [(7, .int 0), (3, .int q6.1), (6, .int q6.1), (0, .ref a_h), (1, .int x1), (2, .int x2), (4, .int x4), (5, .int x5)]) hx hb d_M_findSeats_78 hl (by decide) rfl (fun ls hl => ?_)
              refine L80 q6.2 z_h_sits q6.1 _ (fun z_h_bestSits_15 H locs ls hf hP hD hS hl => ?_) FU z_h_bestSits 0 _ _ _ hf hP hD hS (lv_sub hl [3, 4, 5, 1, 0] rfl)
              refine lv_iconst (v := 0) hx hb d_M_findSeats_109 (by decide) ?_
              refine lv_istore (lv' := [(4, .int 0), (0, .ref a_h), (1, .int x1), (2, .int x2), (3, .int q6.1)]) hx hb d_M_findSeats_110 hl (by decide) rfl (fun ls hl => ?_)
              refine lv_aload_n hx hb d_M_findSeats_112 rfl (lv_at hl 1 rfl) ?_
              obtain ⟨q16, hq16, hf⟩ := io_b hf
              refine xcVI (wc := (w_M_nextSeats cI cJ cC a_h a_h_refused a_h_kind a_h_sweets a_h_gives a_h_tape a_h_letter a_h_letterAt a_h_one a_h_two a_h_kept a_h_trail a_h_crumb a_h_nextCrumb a_h_goal a_h_start a_h_sits a_h_bestSits a_h_without a_h_row y_h_taped y_h_at y_h_statements y_h_hasImage y_h_beforeMany y_h_found y_h_lots y_h_rowMany (m_many q6.2) (m_odd q6.2) (m_step q6.2) (m_bag q6.2) (m_strokes q6.2) (m_gave q6.2) (m_threw q6.2) (m_isKeeping q6.2) (m_cursor q6.2) z_h_sits)) (wc' := (w_M_nextSeats cI cJ cC a_h a_h_refused a_h_kind a_h_sweets a_h_gives a_h_tape a_h_letter a_h_letterAt a_h_one a_h_two a_h_kept a_h_trail a_h_crumb a_h_nextCrumb a_h_goal a_h_start a_h_sits a_h_bestSits a_h_without a_h_row y_h_taped y_h_at y_h_statements y_h_hasImage y_h_beforeMany y_h_found y_h_lots y_h_rowMany (m_many q6.2) (m_odd q6.2) (m_step q6.2) (m_bag q6.2) (m_strokes q6.2) (m_gave q6.2) (m_threw q6.2) (m_isKeeping q6.2) (m_cursor q6.2) q16.2)) (ws' := (w_M_findSeats cI cJ cC a_h a_h_refused a_h_kind a_h_sweets a_h_gives a_h_tape a_h_letter a_h_letterAt a_h_one a_h_two a_h_kept a_h_trail a_h_crumb a_h_nextCrumb a_h_goal a_h_start a_h_sits a_h_bestSits a_h_without a_h_row y_h_taped y_h_at y_h_statements y_h_hasImage y_h_beforeMany y_h_found y_h_lots y_h_rowMany (m_many q6.2) (m_odd q6.2) (m_step q6.2) (m_bag q6.2) (m_strokes q6.2) (m_gave q6.2) (m_threw q6.2) (m_isKeeping q6.2) (m_cursor q6.2) (m_kind q6.2) (m_sweets q6.2) (m_gives q6.2) (m_kept q6.2) q16.2 z_h_bestSits_15)) (As := []) (rest := []) hx hb hml hown hT (c_M_nextSeats (z_h_T := q6.2) (z_h_sits := z_h_sits) a_h a_h_refused a_h_kind a_h_sweets a_h_gives a_h_tape a_h_letter a_h_letterAt a_h_one a_h_two a_h_kept a_h_trail a_h_crumb a_h_nextCrumb a_h_goal a_h_start a_h_sits a_h_bestSits a_h_without a_h_row y_h_taped y_h_at y_h_statements y_h_hasImage y_h_beforeMany y_h_found y_h_lots y_h_rowMany hq16) k_1088 k_1090 ks_53 k_8 k_1091 hd_M_nextSeats ⟨Nat.le_of_ble_eq_true rfl, Nat.le_of_ble_eq_true rfl⟩ xE0_ok trivial hA hK hP hD hS [0, 5] [1, 2, 3, 4, 6] [5, 0, 1, 2, 3, 6, 4] rfl rfl rfl rfl rfl rfl rfl rfl rfl rfl hl.1 rfl (Nat.le_of_ble_eq_true rfl) ⟨Nat.zero_le _, Nat.zero_le _⟩ d_M_findSeats_113 (fun H locs hP hD hS => ?_)
              refine lv_istore (lv' := [(5, .int q16.1), (4, .int 0), (0, .ref a_h), (1, .int x1), (2, .int x2), (3, .int q6.1)]) hx hb d_M_findSeats_116 hl (by decide) rfl (fun ls hl => ?_)
              refine lv_goto (tgt := 37) hx hb d_M_findSeats_118 (by decide) ?_
              exact ih q6.2 q16.2 z_h_bestSits_15 q6.1 0 q16.1 _ _ _ hf hP hD hS (lv_sub hl [2, 3, 4, 5, 1, 0] rfl)
          · have hf := io_t hf c12
            refine lv_iload hx hb d_M_findSeats_59 (lv_at hl 0 rfl) ?_
            refine lv_iload_n hx hb d_M_findSeats_61 rfl (lv_at hl 4 rfl) ?_
            refine lv_icmp_ge (tgt := 109) hx hb d_M_findSeats_62 (by decide) (fun c17 => ?_) (fun c17 => ?_)
            · have hf := io_t hf c17
              refine lv_iconst (v := 0) hx hb d_M_findSeats_109 (by decide) ?_
              refine lv_istore (lv' := [(4, .int 0), (6, .int q6.1), (0, .ref a_h), (1, .int x1), (2, .int x2), (3, .int x3), (5, .int x5)]) hx hb d_M_findSeats_110 hl (by decide) rfl (fun ls hl => ?_)
              refine lv_aload_n hx hb d_M_findSeats_112 rfl (lv_at hl 2 rfl) ?_
              obtain ⟨q18, hq18, hf⟩ := io_b hf
              refine xcVI (wc := (w_M_nextSeats cI cJ cC a_h a_h_refused a_h_kind a_h_sweets a_h_gives a_h_tape a_h_letter a_h_letterAt a_h_one a_h_two a_h_kept a_h_trail a_h_crumb a_h_nextCrumb a_h_goal a_h_start a_h_sits a_h_bestSits a_h_without a_h_row y_h_taped y_h_at y_h_statements y_h_hasImage y_h_beforeMany y_h_found y_h_lots y_h_rowMany (m_many q6.2) (m_odd q6.2) (m_step q6.2) (m_bag q6.2) (m_strokes q6.2) (m_gave q6.2) (m_threw q6.2) (m_isKeeping q6.2) (m_cursor q6.2) z_h_sits)) (wc' := (w_M_nextSeats cI cJ cC a_h a_h_refused a_h_kind a_h_sweets a_h_gives a_h_tape a_h_letter a_h_letterAt a_h_one a_h_two a_h_kept a_h_trail a_h_crumb a_h_nextCrumb a_h_goal a_h_start a_h_sits a_h_bestSits a_h_without a_h_row y_h_taped y_h_at y_h_statements y_h_hasImage y_h_beforeMany y_h_found y_h_lots y_h_rowMany (m_many q6.2) (m_odd q6.2) (m_step q6.2) (m_bag q6.2) (m_strokes q6.2) (m_gave q6.2) (m_threw q6.2) (m_isKeeping q6.2) (m_cursor q6.2) q18.2)) (ws' := (w_M_findSeats cI cJ cC a_h a_h_refused a_h_kind a_h_sweets a_h_gives a_h_tape a_h_letter a_h_letterAt a_h_one a_h_two a_h_kept a_h_trail a_h_crumb a_h_nextCrumb a_h_goal a_h_start a_h_sits a_h_bestSits a_h_without a_h_row y_h_taped y_h_at y_h_statements y_h_hasImage y_h_beforeMany y_h_found y_h_lots y_h_rowMany (m_many q6.2) (m_odd q6.2) (m_step q6.2) (m_bag q6.2) (m_strokes q6.2) (m_gave q6.2) (m_threw q6.2) (m_isKeeping q6.2) (m_cursor q6.2) (m_kind q6.2) (m_sweets q6.2) (m_gives q6.2) (m_kept q6.2) q18.2 z_h_bestSits)) (As := []) (rest := []) hx hb hml hown hT (c_M_nextSeats (z_h_T := q6.2) (z_h_sits := z_h_sits) a_h a_h_refused a_h_kind a_h_sweets a_h_gives a_h_tape a_h_letter a_h_letterAt a_h_one a_h_two a_h_kept a_h_trail a_h_crumb a_h_nextCrumb a_h_goal a_h_start a_h_sits a_h_bestSits a_h_without a_h_row y_h_taped y_h_at y_h_statements y_h_hasImage y_h_beforeMany y_h_found y_h_lots y_h_rowMany hq18) k_1088 k_1090 ks_53 k_8 k_1091 hd_M_nextSeats ⟨Nat.le_of_ble_eq_true rfl, Nat.le_of_ble_eq_true rfl⟩ xE0_ok trivial hA hK hP hD hS [0, 5] [1, 2, 3, 4, 6] [5, 0, 1, 2, 3, 6, 4] rfl rfl rfl rfl rfl rfl rfl rfl rfl rfl hl.1 rfl (Nat.le_of_ble_eq_true rfl) ⟨Nat.zero_le _, Nat.zero_le _⟩ d_M_findSeats_113 (fun H locs hP hD hS => ?_)
              refine lv_istore (lv' := [(5, .int q18.1), (4, .int 0), (6, .int q6.1), (0, .ref a_h), (1, .int x1), (2, .int x2), (3, .int x3)]) hx hb d_M_findSeats_116 hl (by decide) rfl (fun ls hl => ?_)
              refine lv_goto (tgt := 37) hx hb d_M_findSeats_118 (by decide) ?_
              exact ih q6.2 q18.2 z_h_bestSits x3 0 q18.1 _ _ _ hf hP hD hS (lv_sub hl [3, 4, 5, 6, 1, 0] rfl)
            · have hf := io_f hf c17
              refine lv_goto (tgt := 74) hx hb d_M_findSeats_65 (by decide) ?_
              refine lv_iload hx hb d_M_findSeats_74 (lv_at hl 0 rfl) ?_
              refine lv_istore_n (lv' := [(3, .int q6.1), (6, .int q6.1), (0, .ref a_h), (1, .int x1), (2, .int x2), (4, .int x4), (5, .int x5)]) hx hb d_M_findSeats_76 rfl hl (by decide) rfl (fun ls hl => ?_)
              refine lv_iconst (v := 0) hx hb d_M_findSeats_77 (by decide) ?_
              refine lv_istore (lv' := [(7, .int 0), (3, .int q6.1), (6, .int q6.1), (0, .ref a_h), (1, .int x1), (2, .int x2), (4, .int x4), (5, .int x5)]) hx hb d_M_findSeats_78 hl (by decide) rfl (fun ls hl => ?_)
              refine L80 q6.2 z_h_sits q6.1 _ (fun z_h_bestSits_19 H locs ls hf hP hD hS hl => ?_) FU z_h_bestSits 0 _ _ _ hf hP hD hS (lv_sub hl [3, 4, 5, 1, 0] rfl)
              refine lv_iconst (v := 0) hx hb d_M_findSeats_109 (by decide) ?_
              refine lv_istore (lv' := [(4, .int 0), (0, .ref a_h), (1, .int x1), (2, .int x2), (3, .int q6.1)]) hx hb d_M_findSeats_110 hl (by decide) rfl (fun ls hl => ?_)
              refine lv_aload_n hx hb d_M_findSeats_112 rfl (lv_at hl 1 rfl) ?_
              obtain ⟨q20, hq20, hf⟩ := io_b hf
              refine xcVI (wc := (w_M_nextSeats cI cJ cC a_h a_h_refused a_h_kind a_h_sweets a_h_gives a_h_tape a_h_letter a_h_letterAt a_h_one a_h_two a_h_kept a_h_trail a_h_crumb a_h_nextCrumb a_h_goal a_h_start a_h_sits a_h_bestSits a_h_without a_h_row y_h_taped y_h_at y_h_statements y_h_hasImage y_h_beforeMany y_h_found y_h_lots y_h_rowMany (m_many q6.2) (m_odd q6.2) (m_step q6.2) (m_bag q6.2) (m_strokes q6.2) (m_gave q6.2) (m_threw q6.2) (m_isKeeping q6.2) (m_cursor q6.2) z_h_sits)) (wc' := (w_M_nextSeats cI cJ cC a_h a_h_refused a_h_kind a_h_sweets a_h_gives a_h_tape a_h_letter a_h_letterAt a_h_one a_h_two a_h_kept a_h_trail a_h_crumb a_h_nextCrumb a_h_goal a_h_start a_h_sits a_h_bestSits a_h_without a_h_row y_h_taped y_h_at y_h_statements y_h_hasImage y_h_beforeMany y_h_found y_h_lots y_h_rowMany (m_many q6.2) (m_odd q6.2) (m_step q6.2) (m_bag q6.2) (m_strokes q6.2) (m_gave q6.2) (m_threw q6.2) (m_isKeeping q6.2) (m_cursor q6.2) q20.2)) (ws' := (w_M_findSeats cI cJ cC a_h a_h_refused a_h_kind a_h_sweets a_h_gives a_h_tape a_h_letter a_h_letterAt a_h_one a_h_two a_h_kept a_h_trail a_h_crumb a_h_nextCrumb a_h_goal a_h_start a_h_sits a_h_bestSits a_h_without a_h_row y_h_taped y_h_at y_h_statements y_h_hasImage y_h_beforeMany y_h_found y_h_lots y_h_rowMany (m_many q6.2) (m_odd q6.2) (m_step q6.2) (m_bag q6.2) (m_strokes q6.2) (m_gave q6.2) (m_threw q6.2) (m_isKeeping q6.2) (m_cursor q6.2) (m_kind q6.2) (m_sweets q6.2) (m_gives q6.2) (m_kept q6.2) q20.2 z_h_bestSits_19)) (As := []) (rest := []) hx hb hml hown hT (c_M_nextSeats (z_h_T := q6.2) (z_h_sits := z_h_sits) a_h a_h_refused a_h_kind a_h_sweets a_h_gives a_h_tape a_h_letter a_h_letterAt a_h_one a_h_two a_h_kept a_h_trail a_h_crumb a_h_nextCrumb a_h_goal a_h_start a_h_sits a_h_bestSits a_h_without a_h_row y_h_taped y_h_at y_h_statements y_h_hasImage y_h_beforeMany y_h_found y_h_lots y_h_rowMany hq20) k_1088 k_1090 ks_53 k_8 k_1091 hd_M_nextSeats ⟨Nat.le_of_ble_eq_true rfl, Nat.le_of_ble_eq_true rfl⟩ xE0_ok trivial hA hK hP hD hS [0, 5] [1, 2, 3, 4, 6] [5, 0, 1, 2, 3, 6, 4] rfl rfl rfl rfl rfl rfl rfl rfl rfl rfl hl.1 rfl (Nat.le_of_ble_eq_true rfl) ⟨Nat.zero_le _, Nat.zero_le _⟩ d_M_findSeats_113 (fun H locs hP hD hS => ?_)
              refine lv_istore (lv' := [(5, .int q20.1), (4, .int 0), (0, .ref a_h), (1, .int x1), (2, .int x2), (3, .int q6.1)]) hx hb d_M_findSeats_116 hl (by decide) rfl (fun ls hl => ?_)
              refine lv_goto (tgt := 37) hx hb d_M_findSeats_118 (by decide) ?_
              exact ih q6.2 q20.2 z_h_bestSits_19 q6.1 0 q20.1 _ _ _ hf hP hD hS (lv_sub hl [2, 3, 4, 5, 1, 0] rfl)
  refine lv_aload_n hx hb d_M_findSeats_0 rfl (lv_at hl 0 rfl) ?_
  refine lv_iconst (v := 1) hx hb d_M_findSeats_1 (by decide) ?_
  refine lv_iconst (v := 1) hx hb d_M_findSeats_2 (by decide) ?_
  obtain ⟨q1, hq1, hf⟩ := io_b hf
  refine xcVV (wc := (w_M_passesAll cI cJ cC a_h a_h_refused a_h_kind a_h_sweets a_h_gives a_h_tape a_h_letter a_h_letterAt a_h_one a_h_two a_h_kept a_h_trail a_h_crumb a_h_nextCrumb a_h_goal a_h_start a_h_sits a_h_bestSits a_h_without a_h_row y_h_taped y_h_at y_h_statements y_h_hasImage y_h_beforeMany y_h_found y_h_lots y_h_rowMany (m_many z_h_T) (m_odd z_h_T) (m_step z_h_T) (m_bag z_h_T) (m_strokes z_h_T) (m_gave z_h_T) (m_threw z_h_T) (m_isKeeping z_h_T) (m_cursor z_h_T) (m_kind z_h_T) (m_sweets z_h_T) (m_gives z_h_T) (m_kept z_h_T))) (wc' := (w_M_passesAll cI cJ cC a_h a_h_refused a_h_kind a_h_sweets a_h_gives a_h_tape a_h_letter a_h_letterAt a_h_one a_h_two a_h_kept a_h_trail a_h_crumb a_h_nextCrumb a_h_goal a_h_start a_h_sits a_h_bestSits a_h_without a_h_row y_h_taped y_h_at y_h_statements y_h_hasImage y_h_beforeMany y_h_found y_h_lots y_h_rowMany (m_many q1) (m_odd q1) (m_step q1) (m_bag q1) (m_strokes q1) (m_gave q1) (m_threw q1) (m_isKeeping q1) (m_cursor q1) (m_kind q1) (m_sweets q1) (m_gives q1) (m_kept q1))) (ws' := (w_M_findSeats cI cJ cC a_h a_h_refused a_h_kind a_h_sweets a_h_gives a_h_tape a_h_letter a_h_letterAt a_h_one a_h_two a_h_kept a_h_trail a_h_crumb a_h_nextCrumb a_h_goal a_h_start a_h_sits a_h_bestSits a_h_without a_h_row y_h_taped y_h_at y_h_statements y_h_hasImage y_h_beforeMany y_h_found y_h_lots y_h_rowMany (m_many q1) (m_odd q1) (m_step q1) (m_bag q1) (m_strokes q1) (m_gave q1) (m_threw q1) (m_isKeeping q1) (m_cursor q1) (m_kind q1) (m_sweets q1) (m_gives q1) (m_kept q1) z_h_sits z_h_bestSits)) (As := [.int 1, .int 1]) (rest := []) hx hb hml hown hT (c_M_passesAll (z_h_T := z_h_T) a_h a_h_refused a_h_kind a_h_sweets a_h_gives a_h_tape a_h_letter a_h_letterAt a_h_one a_h_two a_h_kept a_h_trail a_h_crumb a_h_nextCrumb a_h_goal a_h_start a_h_sits a_h_bestSits a_h_without a_h_row y_h_taped y_h_at y_h_statements y_h_hasImage y_h_beforeMany y_h_found y_h_lots y_h_rowMany hq1) k_900 k_902 ks_28 k_8 k_903 hd_M_passesAll ⟨Nat.le_of_ble_eq_true rfl, Nat.le_of_ble_eq_true rfl⟩ xE0_ok trivial hA hK hP hD hS [0, 1, 2, 3, 4] [5, 6] [2, 3, 4, 5, 6, 0, 1] rfl rfl rfl rfl rfl rfl rfl rfl rfl rfl hl.1 rfl (Nat.le_of_ble_eq_true rfl) ⟨Nat.zero_le _, Nat.zero_le _⟩ d_M_findSeats_3 (fun H locs hP hD hS => ?_)
  refine lv_iconst (v := 0) hx hb d_M_findSeats_6 (by decide) ?_
  refine lv_istore_n (lv' := [(3, .int 0), (0, .ref a_h), (1, .int x1), (2, .int x2)]) hx hb d_M_findSeats_7 rfl hl (by decide) rfl (fun ls hl => ?_)
  refine L8 q1 z_h_bestSits _ (fun z_h_sits_4 H locs ls hf hP hD hS hl => ?_) FU z_h_sits 0 _ _ _ hf hP hD hS (lv_sub hl [1, 2, 3, 0] rfl)
  refine lv_iconst (v := 0) hx hb d_M_findSeats_29 (by decide) ?_
  refine lv_istore_n (lv' := [(3, .int 0), (0, .ref a_h), (1, .int x1), (2, .int x2)]) hx hb d_M_findSeats_30 rfl hl (by decide) rfl (fun ls hl => ?_)
  refine lv_iconst (v := 1) hx hb d_M_findSeats_31 (by decide) ?_
  refine lv_istore (lv' := [(4, .int 1), (3, .int 0), (0, .ref a_h), (1, .int x1), (2, .int x2)]) hx hb d_M_findSeats_32 hl (by decide) rfl (fun ls hl => ?_)
  refine lv_iconst (v := 1) hx hb d_M_findSeats_34 (by decide) ?_
  refine lv_istore (lv' := [(5, .int 1), (4, .int 1), (3, .int 0), (0, .ref a_h), (1, .int x1), (2, .int x2)]) hx hb d_M_findSeats_35 hl (by decide) rfl (fun ls hl => ?_)
  refine L37 _ (fun z_h_T_21 z_h_sits_21 z_h_bestSits_21 x3_21 H locs ls hf hP hD hS hl => ?_) FU q1 z_h_sits_4 z_h_bestSits 0 1 1 _ _ _ hf hP hD hS (lv_sub hl [3, 4, 5, 2, 1, 0] rfl)
  refine lv_aload_n hx hb d_M_findSeats_121 rfl (lv_at hl 0 rfl) ?_
  refine lv_iconst (v := 1) hx hb d_M_findSeats_122 (by decide) ?_
  refine lv_iconst (v := 0) hx hb d_M_findSeats_123 (by decide) ?_
  obtain ⟨q22, hq22, hf⟩ := io_b hf
  refine xcVV (wc := (w_M_passesAll cI cJ cC a_h a_h_refused a_h_kind a_h_sweets a_h_gives a_h_tape a_h_letter a_h_letterAt a_h_one a_h_two a_h_kept a_h_trail a_h_crumb a_h_nextCrumb a_h_goal a_h_start a_h_sits a_h_bestSits a_h_without a_h_row y_h_taped y_h_at y_h_statements y_h_hasImage y_h_beforeMany y_h_found y_h_lots y_h_rowMany (m_many z_h_T_21) (m_odd z_h_T_21) (m_step z_h_T_21) (m_bag z_h_T_21) (m_strokes z_h_T_21) (m_gave z_h_T_21) (m_threw z_h_T_21) (m_isKeeping z_h_T_21) (m_cursor z_h_T_21) (m_kind z_h_T_21) (m_sweets z_h_T_21) (m_gives z_h_T_21) (m_kept z_h_T_21))) (wc' := (w_M_passesAll cI cJ cC a_h a_h_refused a_h_kind a_h_sweets a_h_gives a_h_tape a_h_letter a_h_letterAt a_h_one a_h_two a_h_kept a_h_trail a_h_crumb a_h_nextCrumb a_h_goal a_h_start a_h_sits a_h_bestSits a_h_without a_h_row y_h_taped y_h_at y_h_statements y_h_hasImage y_h_beforeMany y_h_found y_h_lots y_h_rowMany (m_many q22) (m_odd q22) (m_step q22) (m_bag q22) (m_strokes q22) (m_gave q22) (m_threw q22) (m_isKeeping q22) (m_cursor q22) (m_kind q22) (m_sweets q22) (m_gives q22) (m_kept q22))) (ws' := (w_M_findSeats cI cJ cC a_h a_h_refused a_h_kind a_h_sweets a_h_gives a_h_tape a_h_letter a_h_letterAt a_h_one a_h_two a_h_kept a_h_trail a_h_crumb a_h_nextCrumb a_h_goal a_h_start a_h_sits a_h_bestSits a_h_without a_h_row y_h_taped y_h_at y_h_statements y_h_hasImage y_h_beforeMany y_h_found y_h_lots y_h_rowMany (m_many q22) (m_odd q22) (m_step q22) (m_bag q22) (m_strokes q22) (m_gave q22) (m_threw q22) (m_isKeeping q22) (m_cursor q22) (m_kind q22) (m_sweets q22) (m_gives q22) (m_kept q22) z_h_sits_21 z_h_bestSits_21)) (As := [.int 1, .int 0]) (rest := []) hx hb hml hown hT (c_M_passesAll (z_h_T := z_h_T_21) a_h a_h_refused a_h_kind a_h_sweets a_h_gives a_h_tape a_h_letter a_h_letterAt a_h_one a_h_two a_h_kept a_h_trail a_h_crumb a_h_nextCrumb a_h_goal a_h_start a_h_sits a_h_bestSits a_h_without a_h_row y_h_taped y_h_at y_h_statements y_h_hasImage y_h_beforeMany y_h_found y_h_lots y_h_rowMany hq22) k_900 k_902 ks_28 k_8 k_903 hd_M_passesAll ⟨Nat.le_of_ble_eq_true rfl, Nat.le_of_ble_eq_true rfl⟩ xE0_ok trivial hA hK hP hD hS [0, 1, 2, 3, 4] [5, 6] [2, 3, 4, 5, 6, 0, 1] rfl rfl rfl rfl rfl rfl rfl rfl rfl rfl hl.1 rfl (Nat.le_of_ble_eq_true rfl) ⟨Nat.zero_le _, Nat.zero_le _⟩ d_M_findSeats_124 (fun H locs hP hD hS => ?_)
  refine lv_iload_n hx hb d_M_findSeats_127 rfl (lv_at hl 1 rfl) ?_
  have hq := Option.some.inj hf
  subst hq
  exact hret _ _ _ _ _ d_M_findSeats_128 rfl rfl hP hD hS
abbrev w_M_seats (cI cJ cC : ClassId) (a_h a_h_refused a_h_kind a_h_sweets a_h_gives a_h_tape a_h_letter a_h_letterAt a_h_one a_h_two a_h_kept a_h_trail a_h_crumb a_h_nextCrumb a_h_goal a_h_start a_h_sits a_h_bestSits a_h_without a_h_row : Nat) (y_h_taped : Int32) (y_h_at : Int32) (y_h_statements : Int32) (y_h_hasImage : Int32) (y_h_beforeMany : Int32) (y_h_found : Int32) (y_h_lots : Int32) (y_h_rowMany : Int32) (p_h_many : Int32) (p_h_odd : Int32) (p_h_step : Int32) (p_h_bag : Int32) (p_h_strokes : Int32) (p_h_gave : Int32) (p_h_threw : Int32) (p_h_isKeeping : Int32) (p_h_cursor : Int32) (p_h_refused : (Nat → Int32)) (p_h_kind : (Nat → Int32)) (p_h_sweets : (Nat → Int32)) (p_h_gives : (Nat → Int32)) (p_h_kept : (Nat → Int32)) (p_h_sits : (Nat → Int32)) (p_h_bestSits : (Nat → Int32)) : va_W := [(a_h, .inr (7, [.ref a_h_refused, .ref a_h_kind, .ref a_h_sweets, .ref a_h_gives, .int p_h_many, .int p_h_odd, .int p_h_step, .int p_h_bag, .int p_h_strokes, .int p_h_gave, .int p_h_threw, .ref a_h_tape, .ref a_h_letter, .ref a_h_letterAt, .ref a_h_one, .ref a_h_two, .int y_h_taped, .int y_h_at, .int y_h_statements, .ref a_h_kept, .int y_h_hasImage, .int p_h_isKeeping, .int p_h_cursor, .ref a_h_trail, .ref a_h_crumb, .ref a_h_nextCrumb, .ref a_h_goal, .ref a_h_start, .int y_h_beforeMany, .int y_h_found, .ref a_h_sits, .ref a_h_bestSits, .ref a_h_without, .int y_h_lots, .ref a_h_row, .int y_h_rowMany])), (a_h_refused, .inl (cI, (7, .inl p_h_refused))), (a_h_kind, .inl (cI, (8, .inl p_h_kind))), (a_h_sweets, .inl (cI, (8, .inl p_h_sweets))), (a_h_gives, .inl (cI, (8, .inl p_h_gives))), (a_h_kept, .inl (cI, (90, .inl p_h_kept))), (a_h_sits, .inl (cI, (8, .inl p_h_sits))), (a_h_bestSits, .inl (cI, (8, .inl p_h_bestSits)))]
theorem d_M_seats_0 : decode b_M_seats 0 = .ok (.iload_n 2, 1) := by decide +kernel
theorem d_M_seats_1 : decode b_M_seats 1 = .ok (.iconst 0, 1) := by decide +kernel
theorem d_M_seats_2 : decode b_M_seats 2 = .ok (.iconst 2, 1) := by decide +kernel
theorem d_M_seats_3 : decode b_M_seats 3 = .ok (.invokestatic 99, 3) := by decide +kernel
theorem d_M_seats_6 : decode b_M_seats 6 = .ok (.ifCond .ne 8, 3) := by decide +kernel
theorem d_M_seats_9 : decode b_M_seats 9 = .ok (.bipush (-2), 2) := by decide +kernel
theorem d_M_seats_11 : decode b_M_seats 11 = .ok (.goto 45, 3) := by decide +kernel
theorem d_M_seats_14 : decode b_M_seats 14 = .ok (.iload_n 1, 1) := by decide +kernel
theorem d_M_seats_15 : decode b_M_seats 15 = .ok (.ifCond .ge 8, 3) := by decide +kernel
theorem d_M_seats_18 : decode b_M_seats 18 = .ok (.bipush (-4), 2) := by decide +kernel
theorem d_M_seats_20 : decode b_M_seats 20 = .ok (.goto 36, 3) := by decide +kernel
theorem d_M_seats_23 : decode b_M_seats 23 = .ok (.iload_n 1, 1) := by decide +kernel
theorem d_M_seats_24 : decode b_M_seats 24 = .ok (.bipush 50, 2) := by decide +kernel
theorem d_M_seats_26 : decode b_M_seats 26 = .ok (.if_icmp .gt 12, 3) := by decide +kernel
theorem d_M_seats_29 : decode b_M_seats 29 = .ok (.aload_n 0, 1) := by decide +kernel
theorem d_M_seats_30 : decode b_M_seats 30 = .ok (.getfield 78, 3) := by decide +kernel
theorem d_M_seats_33 : decode b_M_seats 33 = .ok (.bipush 6, 2) := by decide +kernel
theorem d_M_seats_35 : decode b_M_seats 35 = .ok (.if_icmp .le 8, 3) := by decide +kernel
theorem d_M_seats_38 : decode b_M_seats 38 = .ok (.bipush (-6), 2) := by decide +kernel
theorem d_M_seats_40 : decode b_M_seats 40 = .ok (.goto 16, 3) := by decide +kernel
theorem d_M_seats_43 : decode b_M_seats 43 = .ok (.aload_n 0, 1) := by decide +kernel
theorem d_M_seats_44 : decode b_M_seats 44 = .ok (.getfield 78, 3) := by decide +kernel
theorem d_M_seats_47 : decode b_M_seats 47 = .ok (.ifCond .ne 8, 3) := by decide +kernel
theorem d_M_seats_50 : decode b_M_seats 50 = .ok (.bipush (-3), 2) := by decide +kernel
theorem d_M_seats_52 : decode b_M_seats 52 = .ok (.goto 4, 3) := by decide +kernel
theorem d_M_seats_55 : decode b_M_seats 55 = .ok (.iconst 0, 1) := by decide +kernel
theorem d_M_seats_56 : decode b_M_seats 56 = .ok (.istore_n 3, 1) := by decide +kernel
theorem d_M_seats_57 : decode b_M_seats 57 = .ok (.iload_n 3, 1) := by decide +kernel
theorem d_M_seats_58 : decode b_M_seats 58 = .ok (.ifCond .eq 11, 3) := by decide +kernel
theorem d_M_seats_61 : decode b_M_seats 61 = .ok (.aload_n 0, 1) := by decide +kernel
theorem d_M_seats_62 : decode b_M_seats 62 = .ok (.iload_n 3, 1) := by decide +kernel
theorem d_M_seats_63 : decode b_M_seats 63 = .ok (.invokevirtual 88, 3) := by decide +kernel
theorem d_M_seats_66 : decode b_M_seats 66 = .ok (.goto 9, 3) := by decide +kernel
theorem d_M_seats_69 : decode b_M_seats 69 = .ok (.aload_n 0, 1) := by decide +kernel
theorem d_M_seats_70 : decode b_M_seats 70 = .ok (.iload_n 1, 1) := by decide +kernel
theorem d_M_seats_71 : decode b_M_seats 71 = .ok (.iload_n 2, 1) := by decide +kernel
theorem d_M_seats_72 : decode b_M_seats 72 = .ok (.invokevirtual 237, 3) := by decide +kernel
theorem d_M_seats_75 : decode b_M_seats 75 = .ok (.ireturn, 1) := by decide +kernel
set_option maxHeartbeats 4000000 in
set_option maxRecDepth 100000 in
theorem c_M_seats {l : Launch} {D : va_G} {cI cJ cC : ClassId} (a_h a_h_refused a_h_kind a_h_sweets a_h_gives a_h_tape a_h_letter a_h_letterAt a_h_one a_h_two a_h_kept a_h_trail a_h_crumb a_h_nextCrumb a_h_goal a_h_start a_h_sits a_h_bestSits a_h_without a_h_row : Nat) (y_h_taped : Int32) (y_h_at : Int32) (y_h_statements : Int32) (y_h_hasImage : Int32) (y_h_beforeMany : Int32) (y_h_found : Int32) (y_h_lots : Int32) (y_h_rowMany : Int32) {z_h_T : MT} {z_h_refused : (Nat → Int32)} {z_h_sits : (Nat → Int32)} {z_h_bestSits : (Nat → Int32)} {x1 : Int32} {x2 : Int32} {q : Int32 × MT × (Nat → Int32) × (Nat → Int32) × (Nat → Int32)} (hf : f_M_seats z_h_T z_h_refused z_h_sits z_h_bestSits x1 x2 = some q) : xI l y_M_seats b_M_seats 4 .int 6 139 D (tyK cI cJ cC) xE0 [.ref a_h, .int x1, .int x2] (w_M_seats cI cJ cC a_h a_h_refused a_h_kind a_h_sweets a_h_gives a_h_tape a_h_letter a_h_letterAt a_h_one a_h_two a_h_kept a_h_trail a_h_crumb a_h_nextCrumb a_h_goal a_h_start a_h_sits a_h_bestSits a_h_without a_h_row y_h_taped y_h_at y_h_statements y_h_hasImage y_h_beforeMany y_h_found y_h_lots y_h_rowMany (m_many z_h_T) (m_odd z_h_T) (m_step z_h_T) (m_bag z_h_T) (m_strokes z_h_T) (m_gave z_h_T) (m_threw z_h_T) (m_isKeeping z_h_T) (m_cursor z_h_T) z_h_refused (m_kind z_h_T) (m_sweets z_h_T) (m_gives z_h_T) (m_kept z_h_T) z_h_sits z_h_bestSits) q.1 (w_M_seats cI cJ cC a_h a_h_refused a_h_kind a_h_sweets a_h_gives a_h_tape a_h_letter a_h_letterAt a_h_one a_h_two a_h_kept a_h_trail a_h_crumb a_h_nextCrumb a_h_goal a_h_start a_h_sits a_h_bestSits a_h_without a_h_row y_h_taped y_h_at y_h_statements y_h_hasImage y_h_beforeMany y_h_found y_h_lots y_h_rowMany (m_many q.2.1) (m_odd q.2.1) (m_step q.2.1) (m_bag q.2.1) (m_strokes q.2.1) (m_gave q.2.1) (m_threw q.2.1) (m_isKeeping q.2.1) (m_cursor q.2.1) q.2.2.1 (m_kind q.2.1) (m_sweets q.2.1) (m_gives q.2.1) (m_kept q.2.1) q.2.2.2.1 q.2.2.2.2) := by
  refine xI_of (by decide) (Nat.le_of_ble_eq_true rfl) ?_
  intro p e s m args below meth c A Q hx hb hml hown hT hA hP hD hK hS hE hret ls hl
  have hown : s.vm.findClass R_M = some m.cls := hown
  have hl : lv_has ls 4 [(0, .ref a_h), (1, .int x1), (2, .int x2)] := hl
  unfold f_M_seats at hf
  refine lv_iload_n hx hb d_M_seats_0 rfl (lv_at hl 2 rfl) ?_
  refine lv_iconst (v := 0) hx hb d_M_seats_1 (by decide) ?_
  refine lv_iconst (v := 2) hx hb d_M_seats_2 (by decide) ?_
  obtain ⟨q1, hq1, hf⟩ := io_b hf
  refine xcSI (wc := []) (wc' := []) (ws' := (w_M_seats cI cJ cC a_h a_h_refused a_h_kind a_h_sweets a_h_gives a_h_tape a_h_letter a_h_letterAt a_h_one a_h_two a_h_kept a_h_trail a_h_crumb a_h_nextCrumb a_h_goal a_h_start a_h_sits a_h_bestSits a_h_without a_h_row y_h_taped y_h_at y_h_statements y_h_hasImage y_h_beforeMany y_h_found y_h_lots y_h_rowMany (m_many z_h_T) (m_odd z_h_T) (m_step z_h_T) (m_bag z_h_T) (m_strokes z_h_T) (m_gave z_h_T) (m_threw z_h_T) (m_isKeeping z_h_T) (m_cursor z_h_T) z_h_refused (m_kind z_h_T) (m_sweets z_h_T) (m_gives z_h_T) (m_kept z_h_T) z_h_sits z_h_bestSits)) (As := [.int x2, .int 0, .int 2]) (rest := []) hx hb hml hown hT (c_M_isIn hq1) k_897 k_898 k_8 k_899 hd_M_isIn ⟨Nat.le_of_ble_eq_true rfl, Nat.le_of_ble_eq_true rfl⟩ xE0_ok trivial hA hK hP hD hS [] [0, 1, 2, 3, 4, 5, 6, 7] [0, 1, 2, 3, 4, 5, 6, 7] rfl rfl rfl rfl rfl rfl rfl hl.1 rfl (Nat.le_of_ble_eq_true rfl) ⟨Nat.zero_le _, Nat.zero_le _⟩ d_M_seats_3 (fun H locs hP hD hS => ?_)
  refine lv_if_ne (tgt := 14) hx hb d_M_seats_6 (by decide) (fun c2 => ?_) (fun c2 => ?_)
  · have hf := io_f hf c2
    refine lv_iload_n hx hb d_M_seats_14 rfl (lv_at hl 1 rfl) ?_
    refine lv_if_ge (tgt := 23) hx hb d_M_seats_15 (by decide) (fun c3 => ?_) (fun c3 => ?_)
    · have hf := io_t hf c3
      refine lv_iload_n hx hb d_M_seats_23 rfl (lv_at hl 1 rfl) ?_
      refine lv_bipush (v := 50) hx hb d_M_seats_24 (by decide) ?_
      refine lv_icmp_gt (tgt := 38) hx hb d_M_seats_26 (by decide) (fun c4 => ?_) (fun c4 => ?_)
      · have hf := io_t hf c4
        refine lv_bipush (v := (-6)) hx hb d_M_seats_38 (by decide) ?_
        refine lv_goto (tgt := 56) hx hb d_M_seats_40 (by decide) ?_
        refine lv_istore_n (lv' := [(3, .int (-6)), (0, .ref a_h), (1, .int x1), (2, .int x2)]) hx hb d_M_seats_56 rfl hl (by decide) rfl (fun ls hl => ?_)
        refine lv_iload_n hx hb d_M_seats_57 rfl (lv_at hl 0 rfl) ?_
        refine lv_if_eq (tgt := 69) hx hb d_M_seats_58 (by decide) (fun c => absurd c (show ¬ ((-6) : Int32) = 0 from by decide +kernel)) (fun _ => ?_)
        refine lv_aload_n hx hb d_M_seats_61 rfl (lv_at hl 1 rfl) ?_
        refine lv_iload_n hx hb d_M_seats_62 rfl (lv_at hl 0 rfl) ?_
        obtain ⟨q5, hq5, hf⟩ := io_b hf
        refine xcVI (wc := (w_M_no cI cJ cC a_h a_h_refused a_h_kind a_h_sweets a_h_gives a_h_tape a_h_letter a_h_letterAt a_h_one a_h_two a_h_kept a_h_trail a_h_crumb a_h_nextCrumb a_h_goal a_h_start a_h_sits a_h_bestSits a_h_without a_h_row (m_many z_h_T) (m_odd z_h_T) (m_step z_h_T) (m_bag z_h_T) (m_strokes z_h_T) (m_gave z_h_T) (m_threw z_h_T) y_h_taped y_h_at y_h_statements y_h_hasImage (m_isKeeping z_h_T) (m_cursor z_h_T) y_h_beforeMany y_h_found y_h_lots y_h_rowMany z_h_refused)) (wc' := (w_M_no cI cJ cC a_h a_h_refused a_h_kind a_h_sweets a_h_gives a_h_tape a_h_letter a_h_letterAt a_h_one a_h_two a_h_kept a_h_trail a_h_crumb a_h_nextCrumb a_h_goal a_h_start a_h_sits a_h_bestSits a_h_without a_h_row (m_many z_h_T) (m_odd z_h_T) (m_step z_h_T) (m_bag z_h_T) (m_strokes z_h_T) (m_gave z_h_T) (m_threw z_h_T) y_h_taped y_h_at y_h_statements y_h_hasImage (m_isKeeping z_h_T) (m_cursor z_h_T) y_h_beforeMany y_h_found y_h_lots y_h_rowMany q5.2)) (ws' := (w_M_seats cI cJ cC a_h a_h_refused a_h_kind a_h_sweets a_h_gives a_h_tape a_h_letter a_h_letterAt a_h_one a_h_two a_h_kept a_h_trail a_h_crumb a_h_nextCrumb a_h_goal a_h_start a_h_sits a_h_bestSits a_h_without a_h_row y_h_taped y_h_at y_h_statements y_h_hasImage y_h_beforeMany y_h_found y_h_lots y_h_rowMany (m_many z_h_T) (m_odd z_h_T) (m_step z_h_T) (m_bag z_h_T) (m_strokes z_h_T) (m_gave z_h_T) (m_threw z_h_T) (m_isKeeping z_h_T) (m_cursor z_h_T) q5.2 (m_kind z_h_T) (m_sweets z_h_T) (m_gives z_h_T) (m_kept z_h_T) z_h_sits z_h_bestSits)) (As := [.int (-6)]) (rest := []) hx hb hml hown hT (c_M_no (z_h_refused := z_h_refused) a_h a_h_refused a_h_kind a_h_sweets a_h_gives a_h_tape a_h_letter a_h_letterAt a_h_one a_h_two a_h_kept a_h_trail a_h_crumb a_h_nextCrumb a_h_goal a_h_start a_h_sits a_h_bestSits a_h_without a_h_row (m_many z_h_T) (m_odd z_h_T) (m_step z_h_T) (m_bag z_h_T) (m_strokes z_h_T) (m_gave z_h_T) (m_threw z_h_T) y_h_taped y_h_at y_h_statements y_h_hasImage (m_isKeeping z_h_T) (m_cursor z_h_T) y_h_beforeMany y_h_found y_h_lots y_h_rowMany hq5) k_874 k_876 ks_24 k_8 k_877 hd_M_no ⟨Nat.le_of_ble_eq_true rfl, Nat.le_of_ble_eq_true rfl⟩ xE0_ok trivial hA hK hP hD hS [0, 1] [2, 3, 4, 5, 6, 7] [6, 7, 0, 1, 2, 3, 4, 5] rfl rfl rfl rfl rfl rfl rfl rfl rfl rfl hl.1 rfl (Nat.le_of_ble_eq_true rfl) ⟨Nat.zero_le _, Nat.zero_le _⟩ d_M_seats_63 (fun H locs hP hD hS => ?_)
        refine lv_goto (tgt := 75) hx hb d_M_seats_66 (by decide) ?_
        have hq := Option.some.inj hf
        subst hq
        exact hret _ _ _ _ _ d_M_seats_75 rfl rfl hP hD hS
      · have hf := io_f hf c4
        refine lv_aload_n hx hb d_M_seats_29 rfl (lv_at hl 0 rfl) ?_
        refine va_get hx hb hT i_M hown hK hP 0 rfl rfl 4 (Nat.le_of_ble_eq_true rfl) (hT _ k_762) (fun _ h => h) rfl d_M_seats_30 ?_
        refine lv_bipush (v := 6) hx hb d_M_seats_33 (by decide) ?_
        refine lv_icmp_le (tgt := 43) hx hb d_M_seats_35 (by decide) (fun c6 => ?_) (fun c6 => ?_)
        · have hf := io_t hf c6
          refine lv_aload_n hx hb d_M_seats_43 rfl (lv_at hl 0 rfl) ?_
          refine va_get hx hb hT i_M hown hK hP 0 rfl rfl 4 (Nat.le_of_ble_eq_true rfl) (hT _ k_762) (fun _ h => h) rfl d_M_seats_44 ?_
          refine lv_if_ne (tgt := 55) hx hb d_M_seats_47 (by decide) (fun c7 => ?_) (fun c7 => ?_)
          · have hf := io_f hf c7
            refine lv_iconst (v := 0) hx hb d_M_seats_55 (by decide) ?_
            refine lv_istore_n (lv' := [(3, .int 0), (0, .ref a_h), (1, .int x1), (2, .int x2)]) hx hb d_M_seats_56 rfl hl (by decide) rfl (fun ls hl => ?_)
            refine lv_iload_n hx hb d_M_seats_57 rfl (lv_at hl 0 rfl) ?_
            refine lv_if_eq (tgt := 69) hx hb d_M_seats_58 (by decide) (fun _ => ?_) (fun c => absurd (show (0 : Int32) = 0 from by decide +kernel) c)
            refine lv_aload_n hx hb d_M_seats_69 rfl (lv_at hl 1 rfl) ?_
            refine lv_iload_n hx hb d_M_seats_70 rfl (lv_at hl 2 rfl) ?_
            refine lv_iload_n hx hb d_M_seats_71 rfl (lv_at hl 3 rfl) ?_
            obtain ⟨q8, hq8, hf⟩ := io_b hf
            refine xcVI (wc := (w_M_findSeats cI cJ cC a_h a_h_refused a_h_kind a_h_sweets a_h_gives a_h_tape a_h_letter a_h_letterAt a_h_one a_h_two a_h_kept a_h_trail a_h_crumb a_h_nextCrumb a_h_goal a_h_start a_h_sits a_h_bestSits a_h_without a_h_row y_h_taped y_h_at y_h_statements y_h_hasImage y_h_beforeMany y_h_found y_h_lots y_h_rowMany (m_many z_h_T) (m_odd z_h_T) (m_step z_h_T) (m_bag z_h_T) (m_strokes z_h_T) (m_gave z_h_T) (m_threw z_h_T) (m_isKeeping z_h_T) (m_cursor z_h_T) (m_kind z_h_T) (m_sweets z_h_T) (m_gives z_h_T) (m_kept z_h_T) z_h_sits z_h_bestSits)) (wc' := (w_M_findSeats cI cJ cC a_h a_h_refused a_h_kind a_h_sweets a_h_gives a_h_tape a_h_letter a_h_letterAt a_h_one a_h_two a_h_kept a_h_trail a_h_crumb a_h_nextCrumb a_h_goal a_h_start a_h_sits a_h_bestSits a_h_without a_h_row y_h_taped y_h_at y_h_statements y_h_hasImage y_h_beforeMany y_h_found y_h_lots y_h_rowMany (m_many q8.2.1) (m_odd q8.2.1) (m_step q8.2.1) (m_bag q8.2.1) (m_strokes q8.2.1) (m_gave q8.2.1) (m_threw q8.2.1) (m_isKeeping q8.2.1) (m_cursor q8.2.1) (m_kind q8.2.1) (m_sweets q8.2.1) (m_gives q8.2.1) (m_kept q8.2.1) q8.2.2.1 q8.2.2.2)) (ws' := (w_M_seats cI cJ cC a_h a_h_refused a_h_kind a_h_sweets a_h_gives a_h_tape a_h_letter a_h_letterAt a_h_one a_h_two a_h_kept a_h_trail a_h_crumb a_h_nextCrumb a_h_goal a_h_start a_h_sits a_h_bestSits a_h_without a_h_row y_h_taped y_h_at y_h_statements y_h_hasImage y_h_beforeMany y_h_found y_h_lots y_h_rowMany (m_many q8.2.1) (m_odd q8.2.1) (m_step q8.2.1) (m_bag q8.2.1) (m_strokes q8.2.1) (m_gave q8.2.1) (m_threw q8.2.1) (m_isKeeping q8.2.1) (m_cursor q8.2.1) z_h_refused (m_kind q8.2.1) (m_sweets q8.2.1) (m_gives q8.2.1) (m_kept q8.2.1) q8.2.2.1 q8.2.2.2)) (As := [.int x1, .int x2]) (rest := []) hx hb hml hown hT (c_M_findSeats (z_h_T := z_h_T) (z_h_sits := z_h_sits) (z_h_bestSits := z_h_bestSits) a_h a_h_refused a_h_kind a_h_sweets a_h_gives a_h_tape a_h_letter a_h_letterAt a_h_one a_h_two a_h_kept a_h_trail a_h_crumb a_h_nextCrumb a_h_goal a_h_start a_h_sits a_h_bestSits a_h_without a_h_row y_h_taped y_h_at y_h_statements y_h_hasImage y_h_beforeMany y_h_found y_h_lots y_h_rowMany hq8) k_1080 k_1082 ks_51 k_8 k_1083 hd_M_findSeats ⟨Nat.le_of_ble_eq_true rfl, Nat.le_of_ble_eq_true rfl⟩ xE0_ok trivial hA hK hP hD hS [0, 2, 3, 4, 5, 6, 7] [1] [1, 0, 2, 3, 4, 5, 6, 7] rfl rfl rfl rfl rfl rfl rfl rfl rfl rfl hl.1 rfl (Nat.le_of_ble_eq_true rfl) ⟨Nat.zero_le _, Nat.zero_le _⟩ d_M_seats_72 (fun H locs hP hD hS => ?_)
            have hq := Option.some.inj hf
            subst hq
            exact hret _ _ _ _ _ d_M_seats_75 rfl rfl hP hD hS
          · have hf := io_t hf c7
            refine lv_bipush (v := (-3)) hx hb d_M_seats_50 (by decide) ?_
            refine lv_goto (tgt := 56) hx hb d_M_seats_52 (by decide) ?_
            refine lv_istore_n (lv' := [(3, .int (-3)), (0, .ref a_h), (1, .int x1), (2, .int x2)]) hx hb d_M_seats_56 rfl hl (by decide) rfl (fun ls hl => ?_)
            refine lv_iload_n hx hb d_M_seats_57 rfl (lv_at hl 0 rfl) ?_
            refine lv_if_eq (tgt := 69) hx hb d_M_seats_58 (by decide) (fun c => absurd c (show ¬ ((-3) : Int32) = 0 from by decide +kernel)) (fun _ => ?_)
            refine lv_aload_n hx hb d_M_seats_61 rfl (lv_at hl 1 rfl) ?_
            refine lv_iload_n hx hb d_M_seats_62 rfl (lv_at hl 0 rfl) ?_
            obtain ⟨q9, hq9, hf⟩ := io_b hf
            refine xcVI (wc := (w_M_no cI cJ cC a_h a_h_refused a_h_kind a_h_sweets a_h_gives a_h_tape a_h_letter a_h_letterAt a_h_one a_h_two a_h_kept a_h_trail a_h_crumb a_h_nextCrumb a_h_goal a_h_start a_h_sits a_h_bestSits a_h_without a_h_row (m_many z_h_T) (m_odd z_h_T) (m_step z_h_T) (m_bag z_h_T) (m_strokes z_h_T) (m_gave z_h_T) (m_threw z_h_T) y_h_taped y_h_at y_h_statements y_h_hasImage (m_isKeeping z_h_T) (m_cursor z_h_T) y_h_beforeMany y_h_found y_h_lots y_h_rowMany z_h_refused)) (wc' := (w_M_no cI cJ cC a_h a_h_refused a_h_kind a_h_sweets a_h_gives a_h_tape a_h_letter a_h_letterAt a_h_one a_h_two a_h_kept a_h_trail a_h_crumb a_h_nextCrumb a_h_goal a_h_start a_h_sits a_h_bestSits a_h_without a_h_row (m_many z_h_T) (m_odd z_h_T) (m_step z_h_T) (m_bag z_h_T) (m_strokes z_h_T) (m_gave z_h_T) (m_threw z_h_T) y_h_taped y_h_at y_h_statements y_h_hasImage (m_isKeeping z_h_T) (m_cursor z_h_T) y_h_beforeMany y_h_found y_h_lots y_h_rowMany q9.2)) (ws' := (w_M_seats cI cJ cC a_h a_h_refused a_h_kind a_h_sweets a_h_gives a_h_tape a_h_letter a_h_letterAt a_h_one a_h_two a_h_kept a_h_trail a_h_crumb a_h_nextCrumb a_h_goal a_h_start a_h_sits a_h_bestSits a_h_without a_h_row y_h_taped y_h_at y_h_statements y_h_hasImage y_h_beforeMany y_h_found y_h_lots y_h_rowMany (m_many z_h_T) (m_odd z_h_T) (m_step z_h_T) (m_bag z_h_T) (m_strokes z_h_T) (m_gave z_h_T) (m_threw z_h_T) (m_isKeeping z_h_T) (m_cursor z_h_T) q9.2 (m_kind z_h_T) (m_sweets z_h_T) (m_gives z_h_T) (m_kept z_h_T) z_h_sits z_h_bestSits)) (As := [.int (-3)]) (rest := []) hx hb hml hown hT (c_M_no (z_h_refused := z_h_refused) a_h a_h_refused a_h_kind a_h_sweets a_h_gives a_h_tape a_h_letter a_h_letterAt a_h_one a_h_two a_h_kept a_h_trail a_h_crumb a_h_nextCrumb a_h_goal a_h_start a_h_sits a_h_bestSits a_h_without a_h_row (m_many z_h_T) (m_odd z_h_T) (m_step z_h_T) (m_bag z_h_T) (m_strokes z_h_T) (m_gave z_h_T) (m_threw z_h_T) y_h_taped y_h_at y_h_statements y_h_hasImage (m_isKeeping z_h_T) (m_cursor z_h_T) y_h_beforeMany y_h_found y_h_lots y_h_rowMany hq9) k_874 k_876 ks_24 k_8 k_877 hd_M_no ⟨Nat.le_of_ble_eq_true rfl, Nat.le_of_ble_eq_true rfl⟩ xE0_ok trivial hA hK hP hD hS [0, 1] [2, 3, 4, 5, 6, 7] [6, 7, 0, 1, 2, 3, 4, 5] rfl rfl rfl rfl rfl rfl rfl rfl rfl rfl hl.1 rfl (Nat.le_of_ble_eq_true rfl) ⟨Nat.zero_le _, Nat.zero_le _⟩ d_M_seats_63 (fun H locs hP hD hS => ?_)
            refine lv_goto (tgt := 75) hx hb d_M_seats_66 (by decide) ?_
            have hq := Option.some.inj hf
            subst hq
            exact hret _ _ _ _ _ d_M_seats_75 rfl rfl hP hD hS
        · have hf := io_f hf c6
          refine lv_bipush (v := (-6)) hx hb d_M_seats_38 (by decide) ?_
          refine lv_goto (tgt := 56) hx hb d_M_seats_40 (by decide) ?_
          refine lv_istore_n (lv' := [(3, .int (-6)), (0, .ref a_h), (1, .int x1), (2, .int x2)]) hx hb d_M_seats_56 rfl hl (by decide) rfl (fun ls hl => ?_)
          refine lv_iload_n hx hb d_M_seats_57 rfl (lv_at hl 0 rfl) ?_
          refine lv_if_eq (tgt := 69) hx hb d_M_seats_58 (by decide) (fun c => absurd c (show ¬ ((-6) : Int32) = 0 from by decide +kernel)) (fun _ => ?_)
          refine lv_aload_n hx hb d_M_seats_61 rfl (lv_at hl 1 rfl) ?_
          refine lv_iload_n hx hb d_M_seats_62 rfl (lv_at hl 0 rfl) ?_
          obtain ⟨q10, hq10, hf⟩ := io_b hf
          refine xcVI (wc := (w_M_no cI cJ cC a_h a_h_refused a_h_kind a_h_sweets a_h_gives a_h_tape a_h_letter a_h_letterAt a_h_one a_h_two a_h_kept a_h_trail a_h_crumb a_h_nextCrumb a_h_goal a_h_start a_h_sits a_h_bestSits a_h_without a_h_row (m_many z_h_T) (m_odd z_h_T) (m_step z_h_T) (m_bag z_h_T) (m_strokes z_h_T) (m_gave z_h_T) (m_threw z_h_T) y_h_taped y_h_at y_h_statements y_h_hasImage (m_isKeeping z_h_T) (m_cursor z_h_T) y_h_beforeMany y_h_found y_h_lots y_h_rowMany z_h_refused)) (wc' := (w_M_no cI cJ cC a_h a_h_refused a_h_kind a_h_sweets a_h_gives a_h_tape a_h_letter a_h_letterAt a_h_one a_h_two a_h_kept a_h_trail a_h_crumb a_h_nextCrumb a_h_goal a_h_start a_h_sits a_h_bestSits a_h_without a_h_row (m_many z_h_T) (m_odd z_h_T) (m_step z_h_T) (m_bag z_h_T) (m_strokes z_h_T) (m_gave z_h_T) (m_threw z_h_T) y_h_taped y_h_at y_h_statements y_h_hasImage (m_isKeeping z_h_T) (m_cursor z_h_T) y_h_beforeMany y_h_found y_h_lots y_h_rowMany q10.2)) (ws' := (w_M_seats cI cJ cC a_h a_h_refused a_h_kind a_h_sweets a_h_gives a_h_tape a_h_letter a_h_letterAt a_h_one a_h_two a_h_kept a_h_trail a_h_crumb a_h_nextCrumb a_h_goal a_h_start a_h_sits a_h_bestSits a_h_without a_h_row y_h_taped y_h_at y_h_statements y_h_hasImage y_h_beforeMany y_h_found y_h_lots y_h_rowMany (m_many z_h_T) (m_odd z_h_T) (m_step z_h_T) (m_bag z_h_T) (m_strokes z_h_T) (m_gave z_h_T) (m_threw z_h_T) (m_isKeeping z_h_T) (m_cursor z_h_T) q10.2 (m_kind z_h_T) (m_sweets z_h_T) (m_gives z_h_T) (m_kept z_h_T) z_h_sits z_h_bestSits)) (As := [.int (-6)]) (rest := []) hx hb hml hown hT (c_M_no (z_h_refused := z_h_refused) a_h a_h_refused a_h_kind a_h_sweets a_h_gives a_h_tape a_h_letter a_h_letterAt a_h_one a_h_two a_h_kept a_h_trail a_h_crumb a_h_nextCrumb a_h_goal a_h_start a_h_sits a_h_bestSits a_h_without a_h_row (m_many z_h_T) (m_odd z_h_T) (m_step z_h_T) (m_bag z_h_T) (m_strokes z_h_T) (m_gave z_h_T) (m_threw z_h_T) y_h_taped y_h_at y_h_statements y_h_hasImage (m_isKeeping z_h_T) (m_cursor z_h_T) y_h_beforeMany y_h_found y_h_lots y_h_rowMany hq10) k_874 k_876 ks_24 k_8 k_877 hd_M_no ⟨Nat.le_of_ble_eq_true rfl, Nat.le_of_ble_eq_true rfl⟩ xE0_ok trivial hA hK hP hD hS [0, 1] [2, 3, 4, 5, 6, 7] [6, 7, 0, 1, 2, 3, 4, 5] rfl rfl rfl rfl rfl rfl rfl rfl rfl rfl hl.1 rfl (Nat.le_of_ble_eq_true rfl) ⟨Nat.zero_le _, Nat.zero_le _⟩ d_M_seats_63 (fun H locs hP hD hS => ?_)
          refine lv_goto (tgt := 75) hx hb d_M_seats_66 (by decide) ?_
          have hq := Option.some.inj hf
          subst hq
          exact hret _ _ _ _ _ d_M_seats_75 rfl rfl hP hD hS
    · have hf := io_f hf c3
      refine lv_bipush (v := (-4)) hx hb d_M_seats_18 (by decide) ?_
      refine lv_goto (tgt := 56) hx hb d_M_seats_20 (by decide) ?_
      refine lv_istore_n (lv' := [(3, .int (-4)), (0, .ref a_h), (1, .int x1), (2, .int x2)]) hx hb d_M_seats_56 rfl hl (by decide) rfl (fun ls hl => ?_)
      refine lv_iload_n hx hb d_M_seats_57 rfl (lv_at hl 0 rfl) ?_
      refine lv_if_eq (tgt := 69) hx hb d_M_seats_58 (by decide) (fun c => absurd c (show ¬ ((-4) : Int32) = 0 from by decide +kernel)) (fun _ => ?_)
      refine lv_aload_n hx hb d_M_seats_61 rfl (lv_at hl 1 rfl) ?_
      refine lv_iload_n hx hb d_M_seats_62 rfl (lv_at hl 0 rfl) ?_
      obtain ⟨q11, hq11, hf⟩ := io_b hf
      refine xcVI (wc := (w_M_no cI cJ cC a_h a_h_refused a_h_kind a_h_sweets a_h_gives a_h_tape a_h_letter a_h_letterAt a_h_one a_h_two a_h_kept a_h_trail a_h_crumb a_h_nextCrumb a_h_goal a_h_start a_h_sits a_h_bestSits a_h_without a_h_row (m_many z_h_T) (m_odd z_h_T) (m_step z_h_T) (m_bag z_h_T) (m_strokes z_h_T) (m_gave z_h_T) (m_threw z_h_T) y_h_taped y_h_at y_h_statements y_h_hasImage (m_isKeeping z_h_T) (m_cursor z_h_T) y_h_beforeMany y_h_found y_h_lots y_h_rowMany z_h_refused)) (wc' := (w_M_no cI cJ cC a_h a_h_refused a_h_kind a_h_sweets a_h_gives a_h_tape a_h_letter a_h_letterAt a_h_one a_h_two a_h_kept a_h_trail a_h_crumb a_h_nextCrumb a_h_goal a_h_start a_h_sits a_h_bestSits a_h_without a_h_row (m_many z_h_T) (m_odd z_h_T) (m_step z_h_T) (m_bag z_h_T) (m_strokes z_h_T) (m_gave z_h_T) (m_threw z_h_T) y_h_taped y_h_at y_h_statements y_h_hasImage (m_isKeeping z_h_T) (m_cursor z_h_T) y_h_beforeMany y_h_found y_h_lots y_h_rowMany q11.2)) (ws' := (w_M_seats cI cJ cC a_h a_h_refused a_h_kind a_h_sweets a_h_gives a_h_tape a_h_letter a_h_letterAt a_h_one a_h_two a_h_kept a_h_trail a_h_crumb a_h_nextCrumb a_h_goal a_h_start a_h_sits a_h_bestSits a_h_without a_h_row y_h_taped y_h_at y_h_statements y_h_hasImage y_h_beforeMany y_h_found y_h_lots y_h_rowMany (m_many z_h_T) (m_odd z_h_T) (m_step z_h_T) (m_bag z_h_T) (m_strokes z_h_T) (m_gave z_h_T) (m_threw z_h_T) (m_isKeeping z_h_T) (m_cursor z_h_T) q11.2 (m_kind z_h_T) (m_sweets z_h_T) (m_gives z_h_T) (m_kept z_h_T) z_h_sits z_h_bestSits)) (As := [.int (-4)]) (rest := []) hx hb hml hown hT (c_M_no (z_h_refused := z_h_refused) a_h a_h_refused a_h_kind a_h_sweets a_h_gives a_h_tape a_h_letter a_h_letterAt a_h_one a_h_two a_h_kept a_h_trail a_h_crumb a_h_nextCrumb a_h_goal a_h_start a_h_sits a_h_bestSits a_h_without a_h_row (m_many z_h_T) (m_odd z_h_T) (m_step z_h_T) (m_bag z_h_T) (m_strokes z_h_T) (m_gave z_h_T) (m_threw z_h_T) y_h_taped y_h_at y_h_statements y_h_hasImage (m_isKeeping z_h_T) (m_cursor z_h_T) y_h_beforeMany y_h_found y_h_lots y_h_rowMany hq11) k_874 k_876 ks_24 k_8 k_877 hd_M_no ⟨Nat.le_of_ble_eq_true rfl, Nat.le_of_ble_eq_true rfl⟩ xE0_ok trivial hA hK hP hD hS [0, 1] [2, 3, 4, 5, 6, 7] [6, 7, 0, 1, 2, 3, 4, 5] rfl rfl rfl rfl rfl rfl rfl rfl rfl rfl hl.1 rfl (Nat.le_of_ble_eq_true rfl) ⟨Nat.zero_le _, Nat.zero_le _⟩ d_M_seats_63 (fun H locs hP hD hS => ?_)
      refine lv_goto (tgt := 75) hx hb d_M_seats_66 (by decide) ?_
      have hq := Option.some.inj hf
      subst hq
      exact hret _ _ _ _ _ d_M_seats_75 rfl rfl hP hD hS
  · have hf := io_t hf c2
    refine lv_bipush (v := (-2)) hx hb d_M_seats_9 (by decide) ?_
    refine lv_goto (tgt := 56) hx hb d_M_seats_11 (by decide) ?_
    refine lv_istore_n (lv' := [(3, .int (-2)), (0, .ref a_h), (1, .int x1), (2, .int x2)]) hx hb d_M_seats_56 rfl hl (by decide) rfl (fun ls hl => ?_)
    refine lv_iload_n hx hb d_M_seats_57 rfl (lv_at hl 0 rfl) ?_
    refine lv_if_eq (tgt := 69) hx hb d_M_seats_58 (by decide) (fun c => absurd c (show ¬ ((-2) : Int32) = 0 from by decide +kernel)) (fun _ => ?_)
    refine lv_aload_n hx hb d_M_seats_61 rfl (lv_at hl 1 rfl) ?_
    refine lv_iload_n hx hb d_M_seats_62 rfl (lv_at hl 0 rfl) ?_
    obtain ⟨q12, hq12, hf⟩ := io_b hf
    refine xcVI (wc := (w_M_no cI cJ cC a_h a_h_refused a_h_kind a_h_sweets a_h_gives a_h_tape a_h_letter a_h_letterAt a_h_one a_h_two a_h_kept a_h_trail a_h_crumb a_h_nextCrumb a_h_goal a_h_start a_h_sits a_h_bestSits a_h_without a_h_row (m_many z_h_T) (m_odd z_h_T) (m_step z_h_T) (m_bag z_h_T) (m_strokes z_h_T) (m_gave z_h_T) (m_threw z_h_T) y_h_taped y_h_at y_h_statements y_h_hasImage (m_isKeeping z_h_T) (m_cursor z_h_T) y_h_beforeMany y_h_found y_h_lots y_h_rowMany z_h_refused)) (wc' := (w_M_no cI cJ cC a_h a_h_refused a_h_kind a_h_sweets a_h_gives a_h_tape a_h_letter a_h_letterAt a_h_one a_h_two a_h_kept a_h_trail a_h_crumb a_h_nextCrumb a_h_goal a_h_start a_h_sits a_h_bestSits a_h_without a_h_row (m_many z_h_T) (m_odd z_h_T) (m_step z_h_T) (m_bag z_h_T) (m_strokes z_h_T) (m_gave z_h_T) (m_threw z_h_T) y_h_taped y_h_at y_h_statements y_h_hasImage (m_isKeeping z_h_T) (m_cursor z_h_T) y_h_beforeMany y_h_found y_h_lots y_h_rowMany q12.2)) (ws' := (w_M_seats cI cJ cC a_h a_h_refused a_h_kind a_h_sweets a_h_gives a_h_tape a_h_letter a_h_letterAt a_h_one a_h_two a_h_kept a_h_trail a_h_crumb a_h_nextCrumb a_h_goal a_h_start a_h_sits a_h_bestSits a_h_without a_h_row y_h_taped y_h_at y_h_statements y_h_hasImage y_h_beforeMany y_h_found y_h_lots y_h_rowMany (m_many z_h_T) (m_odd z_h_T) (m_step z_h_T) (m_bag z_h_T) (m_strokes z_h_T) (m_gave z_h_T) (m_threw z_h_T) (m_isKeeping z_h_T) (m_cursor z_h_T) q12.2 (m_kind z_h_T) (m_sweets z_h_T) (m_gives z_h_T) (m_kept z_h_T) z_h_sits z_h_bestSits)) (As := [.int (-2)]) (rest := []) hx hb hml hown hT (c_M_no (z_h_refused := z_h_refused) a_h a_h_refused a_h_kind a_h_sweets a_h_gives a_h_tape a_h_letter a_h_letterAt a_h_one a_h_two a_h_kept a_h_trail a_h_crumb a_h_nextCrumb a_h_goal a_h_start a_h_sits a_h_bestSits a_h_without a_h_row (m_many z_h_T) (m_odd z_h_T) (m_step z_h_T) (m_bag z_h_T) (m_strokes z_h_T) (m_gave z_h_T) (m_threw z_h_T) y_h_taped y_h_at y_h_statements y_h_hasImage (m_isKeeping z_h_T) (m_cursor z_h_T) y_h_beforeMany y_h_found y_h_lots y_h_rowMany hq12) k_874 k_876 ks_24 k_8 k_877 hd_M_no ⟨Nat.le_of_ble_eq_true rfl, Nat.le_of_ble_eq_true rfl⟩ xE0_ok trivial hA hK hP hD hS [0, 1] [2, 3, 4, 5, 6, 7] [6, 7, 0, 1, 2, 3, 4, 5] rfl rfl rfl rfl rfl rfl rfl rfl rfl rfl hl.1 rfl (Nat.le_of_ble_eq_true rfl) ⟨Nat.zero_le _, Nat.zero_le _⟩ d_M_seats_63 (fun H locs hP hD hS => ?_)
    refine lv_goto (tgt := 75) hx hb d_M_seats_66 (by decide) ?_
    have hq := Option.some.inj hf
    subst hq
    exact hret _ _ _ _ _ d_M_seats_75 rfl rfl hP hD hS
abbrev w_M_seat (cI cJ cC : ClassId) (a_h a_h_refused a_h_kind a_h_sweets a_h_gives a_h_tape a_h_letter a_h_letterAt a_h_one a_h_two a_h_kept a_h_trail a_h_crumb a_h_nextCrumb a_h_goal a_h_start a_h_sits a_h_bestSits a_h_without a_h_row : Nat) (y_h_taped : Int32) (y_h_at : Int32) (y_h_statements : Int32) (y_h_hasImage : Int32) (y_h_beforeMany : Int32) (y_h_found : Int32) (y_h_lots : Int32) (y_h_rowMany : Int32) (p_h_many : Int32) (p_h_odd : Int32) (p_h_step : Int32) (p_h_bag : Int32) (p_h_strokes : Int32) (p_h_gave : Int32) (p_h_threw : Int32) (p_h_isKeeping : Int32) (p_h_cursor : Int32) (p_h_refused : (Nat → Int32)) (p_h_kind : (Nat → Int32)) (p_h_sweets : (Nat → Int32)) (p_h_gives : (Nat → Int32)) (p_h_kept : (Nat → Int32)) (p_h_sits : (Nat → Int32)) (p_h_bestSits : (Nat → Int32)) : va_W := [(a_h, .inr (7, [.ref a_h_refused, .ref a_h_kind, .ref a_h_sweets, .ref a_h_gives, .int p_h_many, .int p_h_odd, .int p_h_step, .int p_h_bag, .int p_h_strokes, .int p_h_gave, .int p_h_threw, .ref a_h_tape, .ref a_h_letter, .ref a_h_letterAt, .ref a_h_one, .ref a_h_two, .int y_h_taped, .int y_h_at, .int y_h_statements, .ref a_h_kept, .int y_h_hasImage, .int p_h_isKeeping, .int p_h_cursor, .ref a_h_trail, .ref a_h_crumb, .ref a_h_nextCrumb, .ref a_h_goal, .ref a_h_start, .int y_h_beforeMany, .int y_h_found, .ref a_h_sits, .ref a_h_bestSits, .ref a_h_without, .int y_h_lots, .ref a_h_row, .int y_h_rowMany])), (a_h_refused, .inl (cI, (7, .inl p_h_refused))), (a_h_kind, .inl (cI, (8, .inl p_h_kind))), (a_h_sweets, .inl (cI, (8, .inl p_h_sweets))), (a_h_gives, .inl (cI, (8, .inl p_h_gives))), (a_h_kept, .inl (cI, (90, .inl p_h_kept))), (a_h_sits, .inl (cI, (8, .inl p_h_sits))), (a_h_bestSits, .inl (cI, (8, .inl p_h_bestSits)))]
theorem d_M_seat_0 : decode b_M_seat 0 = .ok (.iload_n 2, 1) := by decide +kernel
theorem d_M_seat_1 : decode b_M_seat 1 = .ok (.iconst 0, 1) := by decide +kernel
theorem d_M_seat_2 : decode b_M_seat 2 = .ok (.iconst 2, 1) := by decide +kernel
theorem d_M_seat_3 : decode b_M_seat 3 = .ok (.invokestatic 99, 3) := by decide +kernel
theorem d_M_seat_6 : decode b_M_seat 6 = .ok (.ifCond .ne 8, 3) := by decide +kernel
theorem d_M_seat_9 : decode b_M_seat 9 = .ok (.bipush (-2), 2) := by decide +kernel
theorem d_M_seat_11 : decode b_M_seat 11 = .ok (.goto 49, 3) := by decide +kernel
theorem d_M_seat_14 : decode b_M_seat 14 = .ok (.iload_n 1, 1) := by decide +kernel
theorem d_M_seat_15 : decode b_M_seat 15 = .ok (.ifCond .lt 7, 3) := by decide +kernel
theorem d_M_seat_18 : decode b_M_seat 18 = .ok (.iload_n 3, 1) := by decide +kernel
theorem d_M_seat_19 : decode b_M_seat 19 = .ok (.ifCond .ge 8, 3) := by decide +kernel
theorem d_M_seat_22 : decode b_M_seat 22 = .ok (.bipush (-4), 2) := by decide +kernel
theorem d_M_seat_24 : decode b_M_seat 24 = .ok (.goto 36, 3) := by decide +kernel
theorem d_M_seat_27 : decode b_M_seat 27 = .ok (.iload_n 1, 1) := by decide +kernel
theorem d_M_seat_28 : decode b_M_seat 28 = .ok (.bipush 50, 2) := by decide +kernel
theorem d_M_seat_30 : decode b_M_seat 30 = .ok (.if_icmp .gt 12, 3) := by decide +kernel
theorem d_M_seat_33 : decode b_M_seat 33 = .ok (.aload_n 0, 1) := by decide +kernel
theorem d_M_seat_34 : decode b_M_seat 34 = .ok (.getfield 78, 3) := by decide +kernel
theorem d_M_seat_37 : decode b_M_seat 37 = .ok (.bipush 6, 2) := by decide +kernel
theorem d_M_seat_39 : decode b_M_seat 39 = .ok (.if_icmp .le 8, 3) := by decide +kernel
theorem d_M_seat_42 : decode b_M_seat 42 = .ok (.bipush (-6), 2) := by decide +kernel
theorem d_M_seat_44 : decode b_M_seat 44 = .ok (.goto 16, 3) := by decide +kernel
theorem d_M_seat_47 : decode b_M_seat 47 = .ok (.aload_n 0, 1) := by decide +kernel
theorem d_M_seat_48 : decode b_M_seat 48 = .ok (.getfield 78, 3) := by decide +kernel
theorem d_M_seat_51 : decode b_M_seat 51 = .ok (.ifCond .ne 8, 3) := by decide +kernel
theorem d_M_seat_54 : decode b_M_seat 54 = .ok (.bipush (-3), 2) := by decide +kernel
theorem d_M_seat_56 : decode b_M_seat 56 = .ok (.goto 4, 3) := by decide +kernel
theorem d_M_seat_59 : decode b_M_seat 59 = .ok (.iconst 0, 1) := by decide +kernel
theorem d_M_seat_60 : decode b_M_seat 60 = .ok (.istore 4, 2) := by decide +kernel
theorem d_M_seat_62 : decode b_M_seat 62 = .ok (.iload 4, 2) := by decide +kernel
theorem d_M_seat_64 : decode b_M_seat 64 = .ok (.ifCond .eq 10, 3) := by decide +kernel
theorem d_M_seat_67 : decode b_M_seat 67 = .ok (.aload_n 0, 1) := by decide +kernel
theorem d_M_seat_68 : decode b_M_seat 68 = .ok (.iload 4, 2) := by decide +kernel
theorem d_M_seat_70 : decode b_M_seat 70 = .ok (.invokevirtual 88, 3) := by decide +kernel
theorem d_M_seat_73 : decode b_M_seat 73 = .ok (.ireturn, 1) := by decide +kernel
theorem d_M_seat_74 : decode b_M_seat 74 = .ok (.aload_n 0, 1) := by decide +kernel
theorem d_M_seat_75 : decode b_M_seat 75 = .ok (.iload_n 1, 1) := by decide +kernel
theorem d_M_seat_76 : decode b_M_seat 76 = .ok (.iload_n 2, 1) := by decide +kernel
theorem d_M_seat_77 : decode b_M_seat 77 = .ok (.invokevirtual 237, 3) := by decide +kernel
theorem d_M_seat_80 : decode b_M_seat 80 = .ok (.pop, 1) := by decide +kernel
theorem d_M_seat_81 : decode b_M_seat 81 = .ok (.iload_n 3, 1) := by decide +kernel
theorem d_M_seat_82 : decode b_M_seat 82 = .ok (.aload_n 0, 1) := by decide +kernel
theorem d_M_seat_83 : decode b_M_seat 83 = .ok (.getfield 78, 3) := by decide +kernel
theorem d_M_seat_86 : decode b_M_seat 86 = .ok (.if_icmp .ge 12, 3) := by decide +kernel
theorem d_M_seat_89 : decode b_M_seat 89 = .ok (.aload_n 0, 1) := by decide +kernel
theorem d_M_seat_90 : decode b_M_seat 90 = .ok (.getfield 66, 3) := by decide +kernel
theorem d_M_seat_93 : decode b_M_seat 93 = .ok (.iload_n 3, 1) := by decide +kernel
theorem d_M_seat_94 : decode b_M_seat 94 = .ok (.iaload, 1) := by decide +kernel
theorem d_M_seat_95 : decode b_M_seat 95 = .ok (.goto 5, 3) := by decide +kernel
theorem d_M_seat_98 : decode b_M_seat 98 = .ok (.bipush (-9), 2) := by decide +kernel
theorem d_M_seat_100 : decode b_M_seat 100 = .ok (.ireturn, 1) := by decide +kernel
set_option maxHeartbeats 4000000 in
set_option maxRecDepth 100000 in
theorem c_M_seat {l : Launch} {D : va_G} {cI cJ cC : ClassId} (a_h a_h_refused a_h_kind a_h_sweets a_h_gives a_h_tape a_h_letter a_h_letterAt a_h_one a_h_two a_h_kept a_h_trail a_h_crumb a_h_nextCrumb a_h_goal a_h_start a_h_sits a_h_bestSits a_h_without a_h_row : Nat) (y_h_taped : Int32) (y_h_at : Int32) (y_h_statements : Int32) (y_h_hasImage : Int32) (y_h_beforeMany : Int32) (y_h_found : Int32) (y_h_lots : Int32) (y_h_rowMany : Int32) {z_h_T : MT} {z_h_refused : (Nat → Int32)} {z_h_sits : (Nat → Int32)} {z_h_bestSits : (Nat → Int32)} {x1 : Int32} {x2 : Int32} {x3 : Int32} {q : Int32 × MT × (Nat → Int32) × (Nat → Int32) × (Nat → Int32)} (hf : f_M_seat z_h_T z_h_refused z_h_sits z_h_bestSits x1 x2 x3 = some q) : xI l y_M_seat b_M_seat 5 .int 6 139 D (tyK cI cJ cC) xE0 [.ref a_h, .int x1, .int x2, .int x3] (w_M_seat cI cJ cC a_h a_h_refused a_h_kind a_h_sweets a_h_gives a_h_tape a_h_letter a_h_letterAt a_h_one a_h_two a_h_kept a_h_trail a_h_crumb a_h_nextCrumb a_h_goal a_h_start a_h_sits a_h_bestSits a_h_without a_h_row y_h_taped y_h_at y_h_statements y_h_hasImage y_h_beforeMany y_h_found y_h_lots y_h_rowMany (m_many z_h_T) (m_odd z_h_T) (m_step z_h_T) (m_bag z_h_T) (m_strokes z_h_T) (m_gave z_h_T) (m_threw z_h_T) (m_isKeeping z_h_T) (m_cursor z_h_T) z_h_refused (m_kind z_h_T) (m_sweets z_h_T) (m_gives z_h_T) (m_kept z_h_T) z_h_sits z_h_bestSits) q.1 (w_M_seat cI cJ cC a_h a_h_refused a_h_kind a_h_sweets a_h_gives a_h_tape a_h_letter a_h_letterAt a_h_one a_h_two a_h_kept a_h_trail a_h_crumb a_h_nextCrumb a_h_goal a_h_start a_h_sits a_h_bestSits a_h_without a_h_row y_h_taped y_h_at y_h_statements y_h_hasImage y_h_beforeMany y_h_found y_h_lots y_h_rowMany (m_many q.2.1) (m_odd q.2.1) (m_step q.2.1) (m_bag q.2.1) (m_strokes q.2.1) (m_gave q.2.1) (m_threw q.2.1) (m_isKeeping q.2.1) (m_cursor q.2.1) q.2.2.1 (m_kind q.2.1) (m_sweets q.2.1) (m_gives q.2.1) (m_kept q.2.1) q.2.2.2.1 q.2.2.2.2) := by
  refine xI_of (by decide) (Nat.le_of_ble_eq_true rfl) ?_
  intro p e s m args below meth c A Q hx hb hml hown hT hA hP hD hK hS hE hret ls hl
  have hown : s.vm.findClass R_M = some m.cls := hown
  have hl : lv_has ls 5 [(0, .ref a_h), (1, .int x1), (2, .int x2), (3, .int x3)] := hl
  unfold f_M_seat at hf
  refine lv_iload_n hx hb d_M_seat_0 rfl (lv_at hl 2 rfl) ?_
  refine lv_iconst (v := 0) hx hb d_M_seat_1 (by decide) ?_
  refine lv_iconst (v := 2) hx hb d_M_seat_2 (by decide) ?_
  obtain ⟨q1, hq1, hf⟩ := io_b hf
  refine xcSI (wc := []) (wc' := []) (ws' := (w_M_seat cI cJ cC a_h a_h_refused a_h_kind a_h_sweets a_h_gives a_h_tape a_h_letter a_h_letterAt a_h_one a_h_two a_h_kept a_h_trail a_h_crumb a_h_nextCrumb a_h_goal a_h_start a_h_sits a_h_bestSits a_h_without a_h_row y_h_taped y_h_at y_h_statements y_h_hasImage y_h_beforeMany y_h_found y_h_lots y_h_rowMany (m_many z_h_T) (m_odd z_h_T) (m_step z_h_T) (m_bag z_h_T) (m_strokes z_h_T) (m_gave z_h_T) (m_threw z_h_T) (m_isKeeping z_h_T) (m_cursor z_h_T) z_h_refused (m_kind z_h_T) (m_sweets z_h_T) (m_gives z_h_T) (m_kept z_h_T) z_h_sits z_h_bestSits)) (As := [.int x2, .int 0, .int 2]) (rest := []) hx hb hml hown hT (c_M_isIn hq1) k_897 k_898 k_8 k_899 hd_M_isIn ⟨Nat.le_of_ble_eq_true rfl, Nat.le_of_ble_eq_true rfl⟩ xE0_ok trivial hA hK hP hD hS [] [0, 1, 2, 3, 4, 5, 6, 7] [0, 1, 2, 3, 4, 5, 6, 7] rfl rfl rfl rfl rfl rfl rfl hl.1 rfl (Nat.le_of_ble_eq_true rfl) ⟨Nat.zero_le _, Nat.zero_le _⟩ d_M_seat_3 (fun H locs hP hD hS => ?_)
  refine lv_if_ne (tgt := 14) hx hb d_M_seat_6 (by decide) (fun c2 => ?_) (fun c2 => ?_)
  · have hf := io_f hf c2
    refine lv_iload_n hx hb d_M_seat_14 rfl (lv_at hl 1 rfl) ?_
    refine lv_if_lt (tgt := 22) hx hb d_M_seat_15 (by decide) (fun c3 => ?_) (fun c3 => ?_)
    · have hf := io_t hf c3
      refine lv_bipush (v := (-4)) hx hb d_M_seat_22 (by decide) ?_
      refine lv_goto (tgt := 60) hx hb d_M_seat_24 (by decide) ?_
      refine lv_istore (lv' := [(4, .int (-4)), (0, .ref a_h), (1, .int x1), (2, .int x2), (3, .int x3)]) hx hb d_M_seat_60 hl (by decide) rfl (fun ls hl => ?_)
      refine lv_iload hx hb d_M_seat_62 (lv_at hl 0 rfl) ?_
      refine lv_if_eq (tgt := 74) hx hb d_M_seat_64 (by decide) (fun c => absurd c (show ¬ ((-4) : Int32) = 0 from by decide +kernel)) (fun _ => ?_)
      refine lv_aload_n hx hb d_M_seat_67 rfl (lv_at hl 1 rfl) ?_
      refine lv_iload hx hb d_M_seat_68 (lv_at hl 0 rfl) ?_
      obtain ⟨q4, hq4, hf⟩ := io_b hf
      refine xcVI (wc := (w_M_no cI cJ cC a_h a_h_refused a_h_kind a_h_sweets a_h_gives a_h_tape a_h_letter a_h_letterAt a_h_one a_h_two a_h_kept a_h_trail a_h_crumb a_h_nextCrumb a_h_goal a_h_start a_h_sits a_h_bestSits a_h_without a_h_row (m_many z_h_T) (m_odd z_h_T) (m_step z_h_T) (m_bag z_h_T) (m_strokes z_h_T) (m_gave z_h_T) (m_threw z_h_T) y_h_taped y_h_at y_h_statements y_h_hasImage (m_isKeeping z_h_T) (m_cursor z_h_T) y_h_beforeMany y_h_found y_h_lots y_h_rowMany z_h_refused)) (wc' := (w_M_no cI cJ cC a_h a_h_refused a_h_kind a_h_sweets a_h_gives a_h_tape a_h_letter a_h_letterAt a_h_one a_h_two a_h_kept a_h_trail a_h_crumb a_h_nextCrumb a_h_goal a_h_start a_h_sits a_h_bestSits a_h_without a_h_row (m_many z_h_T) (m_odd z_h_T) (m_step z_h_T) (m_bag z_h_T) (m_strokes z_h_T) (m_gave z_h_T) (m_threw z_h_T) y_h_taped y_h_at y_h_statements y_h_hasImage (m_isKeeping z_h_T) (m_cursor z_h_T) y_h_beforeMany y_h_found y_h_lots y_h_rowMany q4.2)) (ws' := (w_M_seat cI cJ cC a_h a_h_refused a_h_kind a_h_sweets a_h_gives a_h_tape a_h_letter a_h_letterAt a_h_one a_h_two a_h_kept a_h_trail a_h_crumb a_h_nextCrumb a_h_goal a_h_start a_h_sits a_h_bestSits a_h_without a_h_row y_h_taped y_h_at y_h_statements y_h_hasImage y_h_beforeMany y_h_found y_h_lots y_h_rowMany (m_many z_h_T) (m_odd z_h_T) (m_step z_h_T) (m_bag z_h_T) (m_strokes z_h_T) (m_gave z_h_T) (m_threw z_h_T) (m_isKeeping z_h_T) (m_cursor z_h_T) q4.2 (m_kind z_h_T) (m_sweets z_h_T) (m_gives z_h_T) (m_kept z_h_T) z_h_sits z_h_bestSits)) (As := [.int (-4)]) (rest := []) hx hb hml hown hT (c_M_no (z_h_refused := z_h_refused) a_h a_h_refused a_h_kind a_h_sweets a_h_gives a_h_tape a_h_letter a_h_letterAt a_h_one a_h_two a_h_kept a_h_trail a_h_crumb a_h_nextCrumb a_h_goal a_h_start a_h_sits a_h_bestSits a_h_without a_h_row (m_many z_h_T) (m_odd z_h_T) (m_step z_h_T) (m_bag z_h_T) (m_strokes z_h_T) (m_gave z_h_T) (m_threw z_h_T) y_h_taped y_h_at y_h_statements y_h_hasImage (m_isKeeping z_h_T) (m_cursor z_h_T) y_h_beforeMany y_h_found y_h_lots y_h_rowMany hq4) k_874 k_876 ks_24 k_8 k_877 hd_M_no ⟨Nat.le_of_ble_eq_true rfl, Nat.le_of_ble_eq_true rfl⟩ xE0_ok trivial hA hK hP hD hS [0, 1] [2, 3, 4, 5, 6, 7] [6, 7, 0, 1, 2, 3, 4, 5] rfl rfl rfl rfl rfl rfl rfl rfl rfl rfl hl.1 rfl (Nat.le_of_ble_eq_true rfl) ⟨Nat.zero_le _, Nat.zero_le _⟩ d_M_seat_70 (fun H locs hP hD hS => ?_)
      have hq := Option.some.inj hf
      subst hq
      exact hret _ _ _ _ _ d_M_seat_73 rfl rfl hP hD hS
    · have hf := io_f hf c3
      refine lv_iload_n hx hb d_M_seat_18 rfl (lv_at hl 3 rfl) ?_
      refine lv_if_ge (tgt := 27) hx hb d_M_seat_19 (by decide) (fun c5 => ?_) (fun c5 => ?_)
      · have hf := io_t hf c5
        refine lv_iload_n hx hb d_M_seat_27 rfl (lv_at hl 1 rfl) ?_
        refine lv_bipush (v := 50) hx hb d_M_seat_28 (by decide) ?_
        refine lv_icmp_gt (tgt := 42) hx hb d_M_seat_30 (by decide) (fun c6 => ?_) (fun c6 => ?_)
        · have hf := io_t hf c6
          refine lv_bipush (v := (-6)) hx hb d_M_seat_42 (by decide) ?_
          refine lv_goto (tgt := 60) hx hb d_M_seat_44 (by decide) ?_
          refine lv_istore (lv' := [(4, .int (-6)), (0, .ref a_h), (1, .int x1), (2, .int x2), (3, .int x3)]) hx hb d_M_seat_60 hl (by decide) rfl (fun ls hl => ?_)
          refine lv_iload hx hb d_M_seat_62 (lv_at hl 0 rfl) ?_
          refine lv_if_eq (tgt := 74) hx hb d_M_seat_64 (by decide) (fun c => absurd c (show ¬ ((-6) : Int32) = 0 from by decide +kernel)) (fun _ => ?_)
          refine lv_aload_n hx hb d_M_seat_67 rfl (lv_at hl 1 rfl) ?_
          refine lv_iload hx hb d_M_seat_68 (lv_at hl 0 rfl) ?_
          obtain ⟨q7, hq7, hf⟩ := io_b hf
          refine xcVI (wc := (w_M_no cI cJ cC a_h a_h_refused a_h_kind a_h_sweets a_h_gives a_h_tape a_h_letter a_h_letterAt a_h_one a_h_two a_h_kept a_h_trail a_h_crumb a_h_nextCrumb a_h_goal a_h_start a_h_sits a_h_bestSits a_h_without a_h_row (m_many z_h_T) (m_odd z_h_T) (m_step z_h_T) (m_bag z_h_T) (m_strokes z_h_T) (m_gave z_h_T) (m_threw z_h_T) y_h_taped y_h_at y_h_statements y_h_hasImage (m_isKeeping z_h_T) (m_cursor z_h_T) y_h_beforeMany y_h_found y_h_lots y_h_rowMany z_h_refused)) (wc' := (w_M_no cI cJ cC a_h a_h_refused a_h_kind a_h_sweets a_h_gives a_h_tape a_h_letter a_h_letterAt a_h_one a_h_two a_h_kept a_h_trail a_h_crumb a_h_nextCrumb a_h_goal a_h_start a_h_sits a_h_bestSits a_h_without a_h_row (m_many z_h_T) (m_odd z_h_T) (m_step z_h_T) (m_bag z_h_T) (m_strokes z_h_T) (m_gave z_h_T) (m_threw z_h_T) y_h_taped y_h_at y_h_statements y_h_hasImage (m_isKeeping z_h_T) (m_cursor z_h_T) y_h_beforeMany y_h_found y_h_lots y_h_rowMany q7.2)) (ws' := (w_M_seat cI cJ cC a_h a_h_refused a_h_kind a_h_sweets a_h_gives a_h_tape a_h_letter a_h_letterAt a_h_one a_h_two a_h_kept a_h_trail a_h_crumb a_h_nextCrumb a_h_goal a_h_start a_h_sits a_h_bestSits a_h_without a_h_row y_h_taped y_h_at y_h_statements y_h_hasImage y_h_beforeMany y_h_found y_h_lots y_h_rowMany (m_many z_h_T) (m_odd z_h_T) (m_step z_h_T) (m_bag z_h_T) (m_strokes z_h_T) (m_gave z_h_T) (m_threw z_h_T) (m_isKeeping z_h_T) (m_cursor z_h_T) q7.2 (m_kind z_h_T) (m_sweets z_h_T) (m_gives z_h_T) (m_kept z_h_T) z_h_sits z_h_bestSits)) (As := [.int (-6)]) (rest := []) hx hb hml hown hT (c_M_no (z_h_refused := z_h_refused) a_h a_h_refused a_h_kind a_h_sweets a_h_gives a_h_tape a_h_letter a_h_letterAt a_h_one a_h_two a_h_kept a_h_trail a_h_crumb a_h_nextCrumb a_h_goal a_h_start a_h_sits a_h_bestSits a_h_without a_h_row (m_many z_h_T) (m_odd z_h_T) (m_step z_h_T) (m_bag z_h_T) (m_strokes z_h_T) (m_gave z_h_T) (m_threw z_h_T) y_h_taped y_h_at y_h_statements y_h_hasImage (m_isKeeping z_h_T) (m_cursor z_h_T) y_h_beforeMany y_h_found y_h_lots y_h_rowMany hq7) k_874 k_876 ks_24 k_8 k_877 hd_M_no ⟨Nat.le_of_ble_eq_true rfl, Nat.le_of_ble_eq_true rfl⟩ xE0_ok trivial hA hK hP hD hS [0, 1] [2, 3, 4, 5, 6, 7] [6, 7, 0, 1, 2, 3, 4, 5] rfl rfl rfl rfl rfl rfl rfl rfl rfl rfl hl.1 rfl (Nat.le_of_ble_eq_true rfl) ⟨Nat.zero_le _, Nat.zero_le _⟩ d_M_seat_70 (fun H locs hP hD hS => ?_)
          have hq := Option.some.inj hf
          subst hq
          exact hret _ _ _ _ _ d_M_seat_73 rfl rfl hP hD hS
        · have hf := io_f hf c6
          refine lv_aload_n hx hb d_M_seat_33 rfl (lv_at hl 0 rfl) ?_
          refine va_get hx hb hT i_M hown hK hP 0 rfl rfl 4 (Nat.le_of_ble_eq_true rfl) (hT _ k_762) (fun _ h => h) rfl d_M_seat_34 ?_
          refine lv_bipush (v := 6) hx hb d_M_seat_37 (by decide) ?_
          refine lv_icmp_le (tgt := 47) hx hb d_M_seat_39 (by decide) (fun c8 => ?_) (fun c8 => ?_)
          · have hf := io_t hf c8
            refine lv_aload_n hx hb d_M_seat_47 rfl (lv_at hl 0 rfl) ?_
            refine va_get hx hb hT i_M hown hK hP 0 rfl rfl 4 (Nat.le_of_ble_eq_true rfl) (hT _ k_762) (fun _ h => h) rfl d_M_seat_48 ?_
            refine lv_if_ne (tgt := 59) hx hb d_M_seat_51 (by decide) (fun c9 => ?_) (fun c9 => ?_)
            · have hf := io_f hf c9
              refine lv_iconst (v := 0) hx hb d_M_seat_59 (by decide) ?_
              refine lv_istore (lv' := [(4, .int 0), (0, .ref a_h), (1, .int x1), (2, .int x2), (3, .int x3)]) hx hb d_M_seat_60 hl (by decide) rfl (fun ls hl => ?_)
              refine lv_iload hx hb d_M_seat_62 (lv_at hl 0 rfl) ?_
              refine lv_if_eq (tgt := 74) hx hb d_M_seat_64 (by decide) (fun _ => ?_) (fun c => absurd (show (0 : Int32) = 0 from by decide +kernel) c)
              refine lv_aload_n hx hb d_M_seat_74 rfl (lv_at hl 1 rfl) ?_
              refine lv_iload_n hx hb d_M_seat_75 rfl (lv_at hl 2 rfl) ?_
              refine lv_iload_n hx hb d_M_seat_76 rfl (lv_at hl 3 rfl) ?_
              obtain ⟨q10, hq10, hf⟩ := io_b hf
              refine xcVI (wc := (w_M_findSeats cI cJ cC a_h a_h_refused a_h_kind a_h_sweets a_h_gives a_h_tape a_h_letter a_h_letterAt a_h_one a_h_two a_h_kept a_h_trail a_h_crumb a_h_nextCrumb a_h_goal a_h_start a_h_sits a_h_bestSits a_h_without a_h_row y_h_taped y_h_at y_h_statements y_h_hasImage y_h_beforeMany y_h_found y_h_lots y_h_rowMany (m_many z_h_T) (m_odd z_h_T) (m_step z_h_T) (m_bag z_h_T) (m_strokes z_h_T) (m_gave z_h_T) (m_threw z_h_T) (m_isKeeping z_h_T) (m_cursor z_h_T) (m_kind z_h_T) (m_sweets z_h_T) (m_gives z_h_T) (m_kept z_h_T) z_h_sits z_h_bestSits)) (wc' := (w_M_findSeats cI cJ cC a_h a_h_refused a_h_kind a_h_sweets a_h_gives a_h_tape a_h_letter a_h_letterAt a_h_one a_h_two a_h_kept a_h_trail a_h_crumb a_h_nextCrumb a_h_goal a_h_start a_h_sits a_h_bestSits a_h_without a_h_row y_h_taped y_h_at y_h_statements y_h_hasImage y_h_beforeMany y_h_found y_h_lots y_h_rowMany (m_many q10.2.1) (m_odd q10.2.1) (m_step q10.2.1) (m_bag q10.2.1) (m_strokes q10.2.1) (m_gave q10.2.1) (m_threw q10.2.1) (m_isKeeping q10.2.1) (m_cursor q10.2.1) (m_kind q10.2.1) (m_sweets q10.2.1) (m_gives q10.2.1) (m_kept q10.2.1) q10.2.2.1 q10.2.2.2)) (ws' := (w_M_seat cI cJ cC a_h a_h_refused a_h_kind a_h_sweets a_h_gives a_h_tape a_h_letter a_h_letterAt a_h_one a_h_two a_h_kept a_h_trail a_h_crumb a_h_nextCrumb a_h_goal a_h_start a_h_sits a_h_bestSits a_h_without a_h_row y_h_taped y_h_at y_h_statements y_h_hasImage y_h_beforeMany y_h_found y_h_lots y_h_rowMany (m_many q10.2.1) (m_odd q10.2.1) (m_step q10.2.1) (m_bag q10.2.1) (m_strokes q10.2.1) (m_gave q10.2.1) (m_threw q10.2.1) (m_isKeeping q10.2.1) (m_cursor q10.2.1) z_h_refused (m_kind q10.2.1) (m_sweets q10.2.1) (m_gives q10.2.1) (m_kept q10.2.1) q10.2.2.1 q10.2.2.2)) (As := [.int x1, .int x2]) (rest := []) hx hb hml hown hT (c_M_findSeats (z_h_T := z_h_T) (z_h_sits := z_h_sits) (z_h_bestSits := z_h_bestSits) a_h a_h_refused a_h_kind a_h_sweets a_h_gives a_h_tape a_h_letter a_h_letterAt a_h_one a_h_two a_h_kept a_h_trail a_h_crumb a_h_nextCrumb a_h_goal a_h_start a_h_sits a_h_bestSits a_h_without a_h_row y_h_taped y_h_at y_h_statements y_h_hasImage y_h_beforeMany y_h_found y_h_lots y_h_rowMany hq10) k_1080 k_1082 ks_51 k_8 k_1083 hd_M_findSeats ⟨Nat.le_of_ble_eq_true rfl, Nat.le_of_ble_eq_true rfl⟩ xE0_ok trivial hA hK hP hD hS [0, 2, 3, 4, 5, 6, 7] [1] [1, 0, 2, 3, 4, 5, 6, 7] rfl rfl rfl rfl rfl rfl rfl rfl rfl rfl hl.1 rfl (Nat.le_of_ble_eq_true rfl) ⟨Nat.zero_le _, Nat.zero_le _⟩ d_M_seat_77 (fun H locs hP hD hS => ?_)
              refine lv_pop hx hb d_M_seat_80 rfl ?_
              refine lv_iload_n hx hb d_M_seat_81 rfl (lv_at hl 4 rfl) ?_
              refine lv_aload_n hx hb d_M_seat_82 rfl (lv_at hl 1 rfl) ?_
              refine va_get hx hb hT i_M hown hK hP 0 rfl rfl 4 (Nat.le_of_ble_eq_true rfl) (hT _ k_762) (fun _ h => h) rfl d_M_seat_83 ?_
              refine lv_icmp_ge (tgt := 98) hx hb d_M_seat_86 (by decide) (fun c11 => ?_) (fun c11 => ?_)
              · have hf := io_t hf c11
                refine lv_bipush (v := (-9)) hx hb d_M_seat_98 (by decide) ?_
                have hq := Option.some.inj hf
                subst hq
                exact hret _ _ _ _ _ d_M_seat_100 rfl rfl hP hD hS
              · have hf := io_f hf c11
                refine lv_aload_n hx hb d_M_seat_89 rfl (lv_at hl 1 rfl) ?_
                refine va_get hx hb hT i_M hown hK hP 0 rfl rfl 31 (Nat.le_of_ble_eq_true rfl) (hT _ k_789) (fun _ h => h) rfl d_M_seat_90 ?_
                refine lv_iload_n hx hb d_M_seat_93 rfl (lv_at hl 4 rfl) ?_
                obtain ⟨c12, hf⟩ := io_n hf
                refine x_iald hx hb hK hP 7 0 rfl rfl (j := x3.toNatClampNeg) rfl c12 d_M_seat_94 ?_
                refine lv_goto (tgt := 100) hx hb d_M_seat_95 (by decide) ?_
                have hq := Option.some.inj hf
                subst hq
                exact hret _ _ _ _ _ d_M_seat_100 rfl rfl hP hD hS
            · have hf := io_t hf c9
              refine lv_bipush (v := (-3)) hx hb d_M_seat_54 (by decide) ?_
              refine lv_goto (tgt := 60) hx hb d_M_seat_56 (by decide) ?_
              refine lv_istore (lv' := [(4, .int (-3)), (0, .ref a_h), (1, .int x1), (2, .int x2), (3, .int x3)]) hx hb d_M_seat_60 hl (by decide) rfl (fun ls hl => ?_)
              refine lv_iload hx hb d_M_seat_62 (lv_at hl 0 rfl) ?_
              refine lv_if_eq (tgt := 74) hx hb d_M_seat_64 (by decide) (fun c => absurd c (show ¬ ((-3) : Int32) = 0 from by decide +kernel)) (fun _ => ?_)
              refine lv_aload_n hx hb d_M_seat_67 rfl (lv_at hl 1 rfl) ?_
              refine lv_iload hx hb d_M_seat_68 (lv_at hl 0 rfl) ?_
              obtain ⟨q13, hq13, hf⟩ := io_b hf
              refine xcVI (wc := (w_M_no cI cJ cC a_h a_h_refused a_h_kind a_h_sweets a_h_gives a_h_tape a_h_letter a_h_letterAt a_h_one a_h_two a_h_kept a_h_trail a_h_crumb a_h_nextCrumb a_h_goal a_h_start a_h_sits a_h_bestSits a_h_without a_h_row (m_many z_h_T) (m_odd z_h_T) (m_step z_h_T) (m_bag z_h_T) (m_strokes z_h_T) (m_gave z_h_T) (m_threw z_h_T) y_h_taped y_h_at y_h_statements y_h_hasImage (m_isKeeping z_h_T) (m_cursor z_h_T) y_h_beforeMany y_h_found y_h_lots y_h_rowMany z_h_refused)) (wc' := (w_M_no cI cJ cC a_h a_h_refused a_h_kind a_h_sweets a_h_gives a_h_tape a_h_letter a_h_letterAt a_h_one a_h_two a_h_kept a_h_trail a_h_crumb a_h_nextCrumb a_h_goal a_h_start a_h_sits a_h_bestSits a_h_without a_h_row (m_many z_h_T) (m_odd z_h_T) (m_step z_h_T) (m_bag z_h_T) (m_strokes z_h_T) (m_gave z_h_T) (m_threw z_h_T) y_h_taped y_h_at y_h_statements y_h_hasImage (m_isKeeping z_h_T) (m_cursor z_h_T) y_h_beforeMany y_h_found y_h_lots y_h_rowMany q13.2)) (ws' := (w_M_seat cI cJ cC a_h a_h_refused a_h_kind a_h_sweets a_h_gives a_h_tape a_h_letter a_h_letterAt a_h_one a_h_two a_h_kept a_h_trail a_h_crumb a_h_nextCrumb a_h_goal a_h_start a_h_sits a_h_bestSits a_h_without a_h_row y_h_taped y_h_at y_h_statements y_h_hasImage y_h_beforeMany y_h_found y_h_lots y_h_rowMany (m_many z_h_T) (m_odd z_h_T) (m_step z_h_T) (m_bag z_h_T) (m_strokes z_h_T) (m_gave z_h_T) (m_threw z_h_T) (m_isKeeping z_h_T) (m_cursor z_h_T) q13.2 (m_kind z_h_T) (m_sweets z_h_T) (m_gives z_h_T) (m_kept z_h_T) z_h_sits z_h_bestSits)) (As := [.int (-3)]) (rest := []) hx hb hml hown hT (c_M_no (z_h_refused := z_h_refused) a_h a_h_refused a_h_kind a_h_sweets a_h_gives a_h_tape a_h_letter a_h_letterAt a_h_one a_h_two a_h_kept a_h_trail a_h_crumb a_h_nextCrumb a_h_goal a_h_start a_h_sits a_h_bestSits a_h_without a_h_row (m_many z_h_T) (m_odd z_h_T) (m_step z_h_T) (m_bag z_h_T) (m_strokes z_h_T) (m_gave z_h_T) (m_threw z_h_T) y_h_taped y_h_at y_h_statements y_h_hasImage (m_isKeeping z_h_T) (m_cursor z_h_T) y_h_beforeMany y_h_found y_h_lots y_h_rowMany hq13) k_874 k_876 ks_24 k_8 k_877 hd_M_no ⟨Nat.le_of_ble_eq_true rfl, Nat.le_of_ble_eq_true rfl⟩ xE0_ok trivial hA hK hP hD hS [0, 1] [2, 3, 4, 5, 6, 7] [6, 7, 0, 1, 2, 3, 4, 5] rfl rfl rfl rfl rfl rfl rfl rfl rfl rfl hl.1 rfl (Nat.le_of_ble_eq_true rfl) ⟨Nat.zero_le _, Nat.zero_le _⟩ d_M_seat_70 (fun H locs hP hD hS => ?_)
              have hq := Option.some.inj hf
              subst hq
              exact hret _ _ _ _ _ d_M_seat_73 rfl rfl hP hD hS
          · have hf := io_f hf c8
            refine lv_bipush (v := (-6)) hx hb d_M_seat_42 (by decide) ?_
            refine lv_goto (tgt := 60) hx hb d_M_seat_44 (by decide) ?_
            refine lv_istore (lv' := [(4, .int (-6)), (0, .ref a_h), (1, .int x1), (2, .int x2), (3, .int x3)]) hx hb d_M_seat_60 hl (by decide) rfl (fun ls hl => ?_)
            refine lv_iload hx hb d_M_seat_62 (lv_at hl 0 rfl) ?_
            refine lv_if_eq (tgt := 74) hx hb d_M_seat_64 (by decide) (fun c => absurd c (show ¬ ((-6) : Int32) = 0 from by decide +kernel)) (fun _ => ?_)
            refine lv_aload_n hx hb d_M_seat_67 rfl (lv_at hl 1 rfl) ?_
            refine lv_iload hx hb d_M_seat_68 (lv_at hl 0 rfl) ?_
            obtain ⟨q14, hq14, hf⟩ := io_b hf
            refine xcVI (wc := (w_M_no cI cJ cC a_h a_h_refused a_h_kind a_h_sweets a_h_gives a_h_tape a_h_letter a_h_letterAt a_h_one a_h_two a_h_kept a_h_trail a_h_crumb a_h_nextCrumb a_h_goal a_h_start a_h_sits a_h_bestSits a_h_without a_h_row (m_many z_h_T) (m_odd z_h_T) (m_step z_h_T) (m_bag z_h_T) (m_strokes z_h_T) (m_gave z_h_T) (m_threw z_h_T) y_h_taped y_h_at y_h_statements y_h_hasImage (m_isKeeping z_h_T) (m_cursor z_h_T) y_h_beforeMany y_h_found y_h_lots y_h_rowMany z_h_refused)) (wc' := (w_M_no cI cJ cC a_h a_h_refused a_h_kind a_h_sweets a_h_gives a_h_tape a_h_letter a_h_letterAt a_h_one a_h_two a_h_kept a_h_trail a_h_crumb a_h_nextCrumb a_h_goal a_h_start a_h_sits a_h_bestSits a_h_without a_h_row (m_many z_h_T) (m_odd z_h_T) (m_step z_h_T) (m_bag z_h_T) (m_strokes z_h_T) (m_gave z_h_T) (m_threw z_h_T) y_h_taped y_h_at y_h_statements y_h_hasImage (m_isKeeping z_h_T) (m_cursor z_h_T) y_h_beforeMany y_h_found y_h_lots y_h_rowMany q14.2)) (ws' := (w_M_seat cI cJ cC a_h a_h_refused a_h_kind a_h_sweets a_h_gives a_h_tape a_h_letter a_h_letterAt a_h_one a_h_two a_h_kept a_h_trail a_h_crumb a_h_nextCrumb a_h_goal a_h_start a_h_sits a_h_bestSits a_h_without a_h_row y_h_taped y_h_at y_h_statements y_h_hasImage y_h_beforeMany y_h_found y_h_lots y_h_rowMany (m_many z_h_T) (m_odd z_h_T) (m_step z_h_T) (m_bag z_h_T) (m_strokes z_h_T) (m_gave z_h_T) (m_threw z_h_T) (m_isKeeping z_h_T) (m_cursor z_h_T) q14.2 (m_kind z_h_T) (m_sweets z_h_T) (m_gives z_h_T) (m_kept z_h_T) z_h_sits z_h_bestSits)) (As := [.int (-6)]) (rest := []) hx hb hml hown hT (c_M_no (z_h_refused := z_h_refused) a_h a_h_refused a_h_kind a_h_sweets a_h_gives a_h_tape a_h_letter a_h_letterAt a_h_one a_h_two a_h_kept a_h_trail a_h_crumb a_h_nextCrumb a_h_goal a_h_start a_h_sits a_h_bestSits a_h_without a_h_row (m_many z_h_T) (m_odd z_h_T) (m_step z_h_T) (m_bag z_h_T) (m_strokes z_h_T) (m_gave z_h_T) (m_threw z_h_T) y_h_taped y_h_at y_h_statements y_h_hasImage (m_isKeeping z_h_T) (m_cursor z_h_T) y_h_beforeMany y_h_found y_h_lots y_h_rowMany hq14) k_874 k_876 ks_24 k_8 k_877 hd_M_no ⟨Nat.le_of_ble_eq_true rfl, Nat.le_of_ble_eq_true rfl⟩ xE0_ok trivial hA hK hP hD hS [0, 1] [2, 3, 4, 5, 6, 7] [6, 7, 0, 1, 2, 3, 4, 5] rfl rfl rfl rfl rfl rfl rfl rfl rfl rfl hl.1 rfl (Nat.le_of_ble_eq_true rfl) ⟨Nat.zero_le _, Nat.zero_le _⟩ d_M_seat_70 (fun H locs hP hD hS => ?_)
            have hq := Option.some.inj hf
            subst hq
            exact hret _ _ _ _ _ d_M_seat_73 rfl rfl hP hD hS
      · have hf := io_f hf c5
        refine lv_bipush (v := (-4)) hx hb d_M_seat_22 (by decide) ?_
        refine lv_goto (tgt := 60) hx hb d_M_seat_24 (by decide) ?_
        refine lv_istore (lv' := [(4, .int (-4)), (0, .ref a_h), (1, .int x1), (2, .int x2), (3, .int x3)]) hx hb d_M_seat_60 hl (by decide) rfl (fun ls hl => ?_)
        refine lv_iload hx hb d_M_seat_62 (lv_at hl 0 rfl) ?_
        refine lv_if_eq (tgt := 74) hx hb d_M_seat_64 (by decide) (fun c => absurd c (show ¬ ((-4) : Int32) = 0 from by decide +kernel)) (fun _ => ?_)
        refine lv_aload_n hx hb d_M_seat_67 rfl (lv_at hl 1 rfl) ?_
        refine lv_iload hx hb d_M_seat_68 (lv_at hl 0 rfl) ?_
        obtain ⟨q15, hq15, hf⟩ := io_b hf
        refine xcVI (wc := (w_M_no cI cJ cC a_h a_h_refused a_h_kind a_h_sweets a_h_gives a_h_tape a_h_letter a_h_letterAt a_h_one a_h_two a_h_kept a_h_trail a_h_crumb a_h_nextCrumb a_h_goal a_h_start a_h_sits a_h_bestSits a_h_without a_h_row (m_many z_h_T) (m_odd z_h_T) (m_step z_h_T) (m_bag z_h_T) (m_strokes z_h_T) (m_gave z_h_T) (m_threw z_h_T) y_h_taped y_h_at y_h_statements y_h_hasImage (m_isKeeping z_h_T) (m_cursor z_h_T) y_h_beforeMany y_h_found y_h_lots y_h_rowMany z_h_refused)) (wc' := (w_M_no cI cJ cC a_h a_h_refused a_h_kind a_h_sweets a_h_gives a_h_tape a_h_letter a_h_letterAt a_h_one a_h_two a_h_kept a_h_trail a_h_crumb a_h_nextCrumb a_h_goal a_h_start a_h_sits a_h_bestSits a_h_without a_h_row (m_many z_h_T) (m_odd z_h_T) (m_step z_h_T) (m_bag z_h_T) (m_strokes z_h_T) (m_gave z_h_T) (m_threw z_h_T) y_h_taped y_h_at y_h_statements y_h_hasImage (m_isKeeping z_h_T) (m_cursor z_h_T) y_h_beforeMany y_h_found y_h_lots y_h_rowMany q15.2)) (ws' := (w_M_seat cI cJ cC a_h a_h_refused a_h_kind a_h_sweets a_h_gives a_h_tape a_h_letter a_h_letterAt a_h_one a_h_two a_h_kept a_h_trail a_h_crumb a_h_nextCrumb a_h_goal a_h_start a_h_sits a_h_bestSits a_h_without a_h_row y_h_taped y_h_at y_h_statements y_h_hasImage y_h_beforeMany y_h_found y_h_lots y_h_rowMany (m_many z_h_T) (m_odd z_h_T) (m_step z_h_T) (m_bag z_h_T) (m_strokes z_h_T) (m_gave z_h_T) (m_threw z_h_T) (m_isKeeping z_h_T) (m_cursor z_h_T) q15.2 (m_kind z_h_T) (m_sweets z_h_T) (m_gives z_h_T) (m_kept z_h_T) z_h_sits z_h_bestSits)) (As := [.int (-4)]) (rest := []) hx hb hml hown hT (c_M_no (z_h_refused := z_h_refused) a_h a_h_refused a_h_kind a_h_sweets a_h_gives a_h_tape a_h_letter a_h_letterAt a_h_one a_h_two a_h_kept a_h_trail a_h_crumb a_h_nextCrumb a_h_goal a_h_start a_h_sits a_h_bestSits a_h_without a_h_row (m_many z_h_T) (m_odd z_h_T) (m_step z_h_T) (m_bag z_h_T) (m_strokes z_h_T) (m_gave z_h_T) (m_threw z_h_T) y_h_taped y_h_at y_h_statements y_h_hasImage (m_isKeeping z_h_T) (m_cursor z_h_T) y_h_beforeMany y_h_found y_h_lots y_h_rowMany hq15) k_874 k_876 ks_24 k_8 k_877 hd_M_no ⟨Nat.le_of_ble_eq_true rfl, Nat.le_of_ble_eq_true rfl⟩ xE0_ok trivial hA hK hP hD hS [0, 1] [2, 3, 4, 5, 6, 7] [6, 7, 0, 1, 2, 3, 4, 5] rfl rfl rfl rfl rfl rfl rfl rfl rfl rfl hl.1 rfl (Nat.le_of_ble_eq_true rfl) ⟨Nat.zero_le _, Nat.zero_le _⟩ d_M_seat_70 (fun H locs hP hD hS => ?_)
        have hq := Option.some.inj hf
        subst hq
        exact hret _ _ _ _ _ d_M_seat_73 rfl rfl hP hD hS
  · have hf := io_t hf c2
    refine lv_bipush (v := (-2)) hx hb d_M_seat_9 (by decide) ?_
    refine lv_goto (tgt := 60) hx hb d_M_seat_11 (by decide) ?_
    refine lv_istore (lv' := [(4, .int (-2)), (0, .ref a_h), (1, .int x1), (2, .int x2), (3, .int x3)]) hx hb d_M_seat_60 hl (by decide) rfl (fun ls hl => ?_)
    refine lv_iload hx hb d_M_seat_62 (lv_at hl 0 rfl) ?_
    refine lv_if_eq (tgt := 74) hx hb d_M_seat_64 (by decide) (fun c => absurd c (show ¬ ((-2) : Int32) = 0 from by decide +kernel)) (fun _ => ?_)
    refine lv_aload_n hx hb d_M_seat_67 rfl (lv_at hl 1 rfl) ?_
    refine lv_iload hx hb d_M_seat_68 (lv_at hl 0 rfl) ?_
    obtain ⟨q16, hq16, hf⟩ := io_b hf
    refine xcVI (wc := (w_M_no cI cJ cC a_h a_h_refused a_h_kind a_h_sweets a_h_gives a_h_tape a_h_letter a_h_letterAt a_h_one a_h_two a_h_kept a_h_trail a_h_crumb a_h_nextCrumb a_h_goal a_h_start a_h_sits a_h_bestSits a_h_without a_h_row (m_many z_h_T) (m_odd z_h_T) (m_step z_h_T) (m_bag z_h_T) (m_strokes z_h_T) (m_gave z_h_T) (m_threw z_h_T) y_h_taped y_h_at y_h_statements y_h_hasImage (m_isKeeping z_h_T) (m_cursor z_h_T) y_h_beforeMany y_h_found y_h_lots y_h_rowMany z_h_refused)) (wc' := (w_M_no cI cJ cC a_h a_h_refused a_h_kind a_h_sweets a_h_gives a_h_tape a_h_letter a_h_letterAt a_h_one a_h_two a_h_kept a_h_trail a_h_crumb a_h_nextCrumb a_h_goal a_h_start a_h_sits a_h_bestSits a_h_without a_h_row (m_many z_h_T) (m_odd z_h_T) (m_step z_h_T) (m_bag z_h_T) (m_strokes z_h_T) (m_gave z_h_T) (m_threw z_h_T) y_h_taped y_h_at y_h_statements y_h_hasImage (m_isKeeping z_h_T) (m_cursor z_h_T) y_h_beforeMany y_h_found y_h_lots y_h_rowMany q16.2)) (ws' := (w_M_seat cI cJ cC a_h a_h_refused a_h_kind a_h_sweets a_h_gives a_h_tape a_h_letter a_h_letterAt a_h_one a_h_two a_h_kept a_h_trail a_h_crumb a_h_nextCrumb a_h_goal a_h_start a_h_sits a_h_bestSits a_h_without a_h_row y_h_taped y_h_at y_h_statements y_h_hasImage y_h_beforeMany y_h_found y_h_lots y_h_rowMany (m_many z_h_T) (m_odd z_h_T) (m_step z_h_T) (m_bag z_h_T) (m_strokes z_h_T) (m_gave z_h_T) (m_threw z_h_T) (m_isKeeping z_h_T) (m_cursor z_h_T) q16.2 (m_kind z_h_T) (m_sweets z_h_T) (m_gives z_h_T) (m_kept z_h_T) z_h_sits z_h_bestSits)) (As := [.int (-2)]) (rest := []) hx hb hml hown hT (c_M_no (z_h_refused := z_h_refused) a_h a_h_refused a_h_kind a_h_sweets a_h_gives a_h_tape a_h_letter a_h_letterAt a_h_one a_h_two a_h_kept a_h_trail a_h_crumb a_h_nextCrumb a_h_goal a_h_start a_h_sits a_h_bestSits a_h_without a_h_row (m_many z_h_T) (m_odd z_h_T) (m_step z_h_T) (m_bag z_h_T) (m_strokes z_h_T) (m_gave z_h_T) (m_threw z_h_T) y_h_taped y_h_at y_h_statements y_h_hasImage (m_isKeeping z_h_T) (m_cursor z_h_T) y_h_beforeMany y_h_found y_h_lots y_h_rowMany hq16) k_874 k_876 ks_24 k_8 k_877 hd_M_no ⟨Nat.le_of_ble_eq_true rfl, Nat.le_of_ble_eq_true rfl⟩ xE0_ok trivial hA hK hP hD hS [0, 1] [2, 3, 4, 5, 6, 7] [6, 7, 0, 1, 2, 3, 4, 5] rfl rfl rfl rfl rfl rfl rfl rfl rfl rfl hl.1 rfl (Nat.le_of_ble_eq_true rfl) ⟨Nat.zero_le _, Nat.zero_le _⟩ d_M_seat_70 (fun H locs hP hD hS => ?_)
    have hq := Option.some.inj hf
    subst hq
    exact hret _ _ _ _ _ d_M_seat_73 rfl rfl hP hD hS
abbrev w_M_othersBehind (cI cJ cC : ClassId) (a_h a_h_refused a_h_kind a_h_sweets a_h_gives a_h_tape a_h_letter a_h_letterAt a_h_one a_h_two a_h_kept a_h_trail a_h_crumb a_h_nextCrumb a_h_goal a_h_start a_h_sits a_h_bestSits a_h_without a_h_row : Nat) (y_h_taped : Int32) (y_h_at : Int32) (y_h_statements : Int32) (y_h_hasImage : Int32) (y_h_beforeMany : Int32) (y_h_found : Int32) (y_h_lots : Int32) (y_h_rowMany : Int32) (p_h_many : Int32) (p_h_odd : Int32) (p_h_step : Int32) (p_h_bag : Int32) (p_h_strokes : Int32) (p_h_gave : Int32) (p_h_threw : Int32) (p_h_isKeeping : Int32) (p_h_cursor : Int32) (p_h_kind : (Nat → Int32)) (p_h_sweets : (Nat → Int32)) (p_h_gives : (Nat → Int32)) (p_h_kept : (Nat → Int32)) : va_W := [(a_h, .inr (7, [.ref a_h_refused, .ref a_h_kind, .ref a_h_sweets, .ref a_h_gives, .int p_h_many, .int p_h_odd, .int p_h_step, .int p_h_bag, .int p_h_strokes, .int p_h_gave, .int p_h_threw, .ref a_h_tape, .ref a_h_letter, .ref a_h_letterAt, .ref a_h_one, .ref a_h_two, .int y_h_taped, .int y_h_at, .int y_h_statements, .ref a_h_kept, .int y_h_hasImage, .int p_h_isKeeping, .int p_h_cursor, .ref a_h_trail, .ref a_h_crumb, .ref a_h_nextCrumb, .ref a_h_goal, .ref a_h_start, .int y_h_beforeMany, .int y_h_found, .ref a_h_sits, .ref a_h_bestSits, .ref a_h_without, .int y_h_lots, .ref a_h_row, .int y_h_rowMany])), (a_h_kind, .inl (cI, (8, .inl p_h_kind))), (a_h_sweets, .inl (cI, (8, .inl p_h_sweets))), (a_h_gives, .inl (cI, (8, .inl p_h_gives))), (a_h_kept, .inl (cI, (90, .inl p_h_kept)))]
theorem d_M_othersBehind_0 : decode b_M_othersBehind 0 = .ok (.aload_n 0, 1) := by decide +kernel
theorem d_M_othersBehind_1 : decode b_M_othersBehind 1 = .ok (.iconst 1, 1) := by decide +kernel
theorem d_M_othersBehind_2 : decode b_M_othersBehind 2 = .ok (.iconst 1, 1) := by decide +kernel
theorem d_M_othersBehind_3 : decode b_M_othersBehind 3 = .ok (.invokevirtual 119, 3) := by decide +kernel
theorem d_M_othersBehind_6 : decode b_M_othersBehind 6 = .ok (.aload_n 0, 1) := by decide +kernel
theorem d_M_othersBehind_7 : decode b_M_othersBehind 7 = .ok (.iload_n 2, 1) := by decide +kernel
theorem d_M_othersBehind_8 : decode b_M_othersBehind 8 = .ok (.invokevirtual 179, 3) := by decide +kernel
theorem d_M_othersBehind_11 : decode b_M_othersBehind 11 = .ok (.pop, 1) := by decide +kernel
theorem d_M_othersBehind_12 : decode b_M_othersBehind 12 = .ok (.aload_n 0, 1) := by decide +kernel
theorem d_M_othersBehind_13 : decode b_M_othersBehind 13 = .ok (.invokevirtual 210, 3) := by decide +kernel
theorem d_M_othersBehind_16 : decode b_M_othersBehind 16 = .ok (.aload_n 0, 1) := by decide +kernel
theorem d_M_othersBehind_17 : decode b_M_othersBehind 17 = .ok (.getfield 16, 3) := by decide +kernel
theorem d_M_othersBehind_20 : decode b_M_othersBehind 20 = .ok (.iload_n 1, 1) := by decide +kernel
theorem d_M_othersBehind_21 : decode b_M_othersBehind 21 = .ok (.iaload, 1) := by decide +kernel
theorem d_M_othersBehind_22 : decode b_M_othersBehind 22 = .ok (.isub, 1) := by decide +kernel
theorem d_M_othersBehind_23 : decode b_M_othersBehind 23 = .ok (.istore_n 3, 1) := by decide +kernel
theorem d_M_othersBehind_24 : decode b_M_othersBehind 24 = .ok (.aload_n 0, 1) := by decide +kernel
theorem d_M_othersBehind_25 : decode b_M_othersBehind 25 = .ok (.iconst 1, 1) := by decide +kernel
theorem d_M_othersBehind_26 : decode b_M_othersBehind 26 = .ok (.iconst 0, 1) := by decide +kernel
theorem d_M_othersBehind_27 : decode b_M_othersBehind 27 = .ok (.invokevirtual 119, 3) := by decide +kernel
theorem d_M_othersBehind_30 : decode b_M_othersBehind 30 = .ok (.iload_n 3, 1) := by decide +kernel
theorem d_M_othersBehind_31 : decode b_M_othersBehind 31 = .ok (.ireturn, 1) := by decide +kernel
set_option maxHeartbeats 4000000 in
set_option maxRecDepth 100000 in
theorem c_M_othersBehind {l : Launch} {D : va_G} {cI cJ cC : ClassId} (a_h a_h_refused a_h_kind a_h_sweets a_h_gives a_h_tape a_h_letter a_h_letterAt a_h_one a_h_two a_h_kept a_h_trail a_h_crumb a_h_nextCrumb a_h_goal a_h_start a_h_sits a_h_bestSits a_h_without a_h_row : Nat) (y_h_taped : Int32) (y_h_at : Int32) (y_h_statements : Int32) (y_h_hasImage : Int32) (y_h_beforeMany : Int32) (y_h_found : Int32) (y_h_lots : Int32) (y_h_rowMany : Int32) {z_h_T : MT} {x1 : Int32} {x2 : Int32} {q : Int32 × MT} (hf : f_M_othersBehind z_h_T x1 x2 = some q) : xI l y_M_othersBehind b_M_othersBehind 4 .int 4 89 D (tyK cI cJ cC) xE0 [.ref a_h, .int x1, .int x2] (w_M_othersBehind cI cJ cC a_h a_h_refused a_h_kind a_h_sweets a_h_gives a_h_tape a_h_letter a_h_letterAt a_h_one a_h_two a_h_kept a_h_trail a_h_crumb a_h_nextCrumb a_h_goal a_h_start a_h_sits a_h_bestSits a_h_without a_h_row y_h_taped y_h_at y_h_statements y_h_hasImage y_h_beforeMany y_h_found y_h_lots y_h_rowMany (m_many z_h_T) (m_odd z_h_T) (m_step z_h_T) (m_bag z_h_T) (m_strokes z_h_T) (m_gave z_h_T) (m_threw z_h_T) (m_isKeeping z_h_T) (m_cursor z_h_T) (m_kind z_h_T) (m_sweets z_h_T) (m_gives z_h_T) (m_kept z_h_T)) q.1 (w_M_othersBehind cI cJ cC a_h a_h_refused a_h_kind a_h_sweets a_h_gives a_h_tape a_h_letter a_h_letterAt a_h_one a_h_two a_h_kept a_h_trail a_h_crumb a_h_nextCrumb a_h_goal a_h_start a_h_sits a_h_bestSits a_h_without a_h_row y_h_taped y_h_at y_h_statements y_h_hasImage y_h_beforeMany y_h_found y_h_lots y_h_rowMany (m_many q.2) (m_odd q.2) (m_step q.2) (m_bag q.2) (m_strokes q.2) (m_gave q.2) (m_threw q.2) (m_isKeeping q.2) (m_cursor q.2) (m_kind q.2) (m_sweets q.2) (m_gives q.2) (m_kept q.2)) := by
  refine xI_of (by decide) (Nat.le_of_ble_eq_true rfl) ?_
  intro p e s m args below meth c A Q hx hb hml hown hT hA hP hD hK hS hE hret ls hl
  have hown : s.vm.findClass R_M = some m.cls := hown
  have hl : lv_has ls 4 [(0, .ref a_h), (1, .int x1), (2, .int x2)] := hl
  unfold f_M_othersBehind at hf
  refine lv_aload_n hx hb d_M_othersBehind_0 rfl (lv_at hl 0 rfl) ?_
  refine lv_iconst (v := 1) hx hb d_M_othersBehind_1 (by decide) ?_
  refine lv_iconst (v := 1) hx hb d_M_othersBehind_2 (by decide) ?_
  obtain ⟨q1, hq1, hf⟩ := io_b hf
  refine xcVV (wc := (w_M_passesAll cI cJ cC a_h a_h_refused a_h_kind a_h_sweets a_h_gives a_h_tape a_h_letter a_h_letterAt a_h_one a_h_two a_h_kept a_h_trail a_h_crumb a_h_nextCrumb a_h_goal a_h_start a_h_sits a_h_bestSits a_h_without a_h_row y_h_taped y_h_at y_h_statements y_h_hasImage y_h_beforeMany y_h_found y_h_lots y_h_rowMany (m_many z_h_T) (m_odd z_h_T) (m_step z_h_T) (m_bag z_h_T) (m_strokes z_h_T) (m_gave z_h_T) (m_threw z_h_T) (m_isKeeping z_h_T) (m_cursor z_h_T) (m_kind z_h_T) (m_sweets z_h_T) (m_gives z_h_T) (m_kept z_h_T))) (wc' := (w_M_passesAll cI cJ cC a_h a_h_refused a_h_kind a_h_sweets a_h_gives a_h_tape a_h_letter a_h_letterAt a_h_one a_h_two a_h_kept a_h_trail a_h_crumb a_h_nextCrumb a_h_goal a_h_start a_h_sits a_h_bestSits a_h_without a_h_row y_h_taped y_h_at y_h_statements y_h_hasImage y_h_beforeMany y_h_found y_h_lots y_h_rowMany (m_many q1) (m_odd q1) (m_step q1) (m_bag q1) (m_strokes q1) (m_gave q1) (m_threw q1) (m_isKeeping q1) (m_cursor q1) (m_kind q1) (m_sweets q1) (m_gives q1) (m_kept q1))) (ws' := (w_M_othersBehind cI cJ cC a_h a_h_refused a_h_kind a_h_sweets a_h_gives a_h_tape a_h_letter a_h_letterAt a_h_one a_h_two a_h_kept a_h_trail a_h_crumb a_h_nextCrumb a_h_goal a_h_start a_h_sits a_h_bestSits a_h_without a_h_row y_h_taped y_h_at y_h_statements y_h_hasImage y_h_beforeMany y_h_found y_h_lots y_h_rowMany (m_many q1) (m_odd q1) (m_step q1) (m_bag q1) (m_strokes q1) (m_gave q1) (m_threw q1) (m_isKeeping q1) (m_cursor q1) (m_kind q1) (m_sweets q1) (m_gives q1) (m_kept q1))) (As := [.int 1, .int 1]) (rest := []) hx hb hml hown hT (c_M_passesAll (z_h_T := z_h_T) a_h a_h_refused a_h_kind a_h_sweets a_h_gives a_h_tape a_h_letter a_h_letterAt a_h_one a_h_two a_h_kept a_h_trail a_h_crumb a_h_nextCrumb a_h_goal a_h_start a_h_sits a_h_bestSits a_h_without a_h_row y_h_taped y_h_at y_h_statements y_h_hasImage y_h_beforeMany y_h_found y_h_lots y_h_rowMany hq1) k_900 k_902 ks_28 k_8 k_903 hd_M_passesAll ⟨Nat.le_of_ble_eq_true rfl, Nat.le_of_ble_eq_true rfl⟩ xE0_ok trivial hA hK hP hD hS [0, 1, 2, 3, 4] [] [0, 1, 2, 3, 4] rfl rfl rfl rfl rfl rfl rfl rfl rfl rfl hl.1 rfl (Nat.le_of_ble_eq_true rfl) ⟨Nat.zero_le _, Nat.zero_le _⟩ d_M_othersBehind_3 (fun H locs hP hD hS => ?_)
  refine lv_aload_n hx hb d_M_othersBehind_6 rfl (lv_at hl 0 rfl) ?_
  refine lv_iload_n hx hb d_M_othersBehind_7 rfl (lv_at hl 2 rfl) ?_
  obtain ⟨q2, hq2, hf⟩ := io_b hf
  refine xcVI (wc := (w_M_goes cI cJ cC a_h a_h_refused a_h_kind a_h_sweets a_h_gives a_h_tape a_h_letter a_h_letterAt a_h_one a_h_two a_h_kept a_h_trail a_h_crumb a_h_nextCrumb a_h_goal a_h_start a_h_sits a_h_bestSits a_h_without a_h_row y_h_taped y_h_at y_h_statements y_h_hasImage y_h_beforeMany y_h_found y_h_lots y_h_rowMany (m_many q1) (m_odd q1) (m_step q1) (m_bag q1) (m_strokes q1) (m_gave q1) (m_threw q1) (m_isKeeping q1) (m_cursor q1) (m_kind q1) (m_sweets q1) (m_gives q1) (m_kept q1))) (wc' := (w_M_goes cI cJ cC a_h a_h_refused a_h_kind a_h_sweets a_h_gives a_h_tape a_h_letter a_h_letterAt a_h_one a_h_two a_h_kept a_h_trail a_h_crumb a_h_nextCrumb a_h_goal a_h_start a_h_sits a_h_bestSits a_h_without a_h_row y_h_taped y_h_at y_h_statements y_h_hasImage y_h_beforeMany y_h_found y_h_lots y_h_rowMany (m_many q2.2) (m_odd q2.2) (m_step q2.2) (m_bag q2.2) (m_strokes q2.2) (m_gave q2.2) (m_threw q2.2) (m_isKeeping q2.2) (m_cursor q2.2) (m_kind q2.2) (m_sweets q2.2) (m_gives q2.2) (m_kept q2.2))) (ws' := (w_M_othersBehind cI cJ cC a_h a_h_refused a_h_kind a_h_sweets a_h_gives a_h_tape a_h_letter a_h_letterAt a_h_one a_h_two a_h_kept a_h_trail a_h_crumb a_h_nextCrumb a_h_goal a_h_start a_h_sits a_h_bestSits a_h_without a_h_row y_h_taped y_h_at y_h_statements y_h_hasImage y_h_beforeMany y_h_found y_h_lots y_h_rowMany (m_many q2.2) (m_odd q2.2) (m_step q2.2) (m_bag q2.2) (m_strokes q2.2) (m_gave q2.2) (m_threw q2.2) (m_isKeeping q2.2) (m_cursor q2.2) (m_kind q2.2) (m_sweets q2.2) (m_gives q2.2) (m_kept q2.2))) (As := [.int x2]) (rest := []) hx hb hml hown hT (c_M_goes (z_h_T := q1) a_h a_h_refused a_h_kind a_h_sweets a_h_gives a_h_tape a_h_letter a_h_letterAt a_h_one a_h_two a_h_kept a_h_trail a_h_crumb a_h_nextCrumb a_h_goal a_h_start a_h_sits a_h_bestSits a_h_without a_h_row y_h_taped y_h_at y_h_statements y_h_hasImage y_h_beforeMany y_h_found y_h_lots y_h_rowMany hq2) k_964 k_966 ks_36 k_8 k_967 hd_M_goes ⟨Nat.le_of_ble_eq_true rfl, Nat.le_of_ble_eq_true rfl⟩ xE0_ok trivial hA hK hP hD hS [0, 1, 2, 3, 4] [] [0, 1, 2, 3, 4] rfl rfl rfl rfl rfl rfl rfl rfl rfl rfl hl.1 rfl (Nat.le_of_ble_eq_true rfl) ⟨Nat.zero_le _, Nat.zero_le _⟩ d_M_othersBehind_8 (fun H locs hP hD hS => ?_)
  refine lv_pop hx hb d_M_othersBehind_11 rfl ?_
  refine lv_aload_n hx hb d_M_othersBehind_12 rfl (lv_at hl 0 rfl) ?_
  obtain ⟨q3, hq3, hf⟩ := io_b hf
  refine xcVI (wc := (w_M_sum cI cJ cC a_h a_h_refused a_h_kind a_h_sweets a_h_gives a_h_tape a_h_letter a_h_letterAt a_h_one a_h_two a_h_kept a_h_trail a_h_crumb a_h_nextCrumb a_h_goal a_h_start a_h_sits a_h_bestSits a_h_without a_h_row y_h_taped y_h_at y_h_statements y_h_hasImage y_h_beforeMany y_h_found y_h_lots y_h_rowMany (m_many q2.2) (m_odd q2.2) (m_step q2.2) (m_bag q2.2) (m_strokes q2.2) (m_gave q2.2) (m_threw q2.2) (m_isKeeping q2.2) (m_cursor q2.2) (m_sweets q2.2))) (wc' := (w_M_sum cI cJ cC a_h a_h_refused a_h_kind a_h_sweets a_h_gives a_h_tape a_h_letter a_h_letterAt a_h_one a_h_two a_h_kept a_h_trail a_h_crumb a_h_nextCrumb a_h_goal a_h_start a_h_sits a_h_bestSits a_h_without a_h_row y_h_taped y_h_at y_h_statements y_h_hasImage y_h_beforeMany y_h_found y_h_lots y_h_rowMany (m_many q2.2) (m_odd q2.2) (m_step q2.2) (m_bag q2.2) (m_strokes q2.2) (m_gave q2.2) (m_threw q2.2) (m_isKeeping q2.2) (m_cursor q2.2) (m_sweets q2.2))) (ws' := (w_M_othersBehind cI cJ cC a_h a_h_refused a_h_kind a_h_sweets a_h_gives a_h_tape a_h_letter a_h_letterAt a_h_one a_h_two a_h_kept a_h_trail a_h_crumb a_h_nextCrumb a_h_goal a_h_start a_h_sits a_h_bestSits a_h_without a_h_row y_h_taped y_h_at y_h_statements y_h_hasImage y_h_beforeMany y_h_found y_h_lots y_h_rowMany (m_many q2.2) (m_odd q2.2) (m_step q2.2) (m_bag q2.2) (m_strokes q2.2) (m_gave q2.2) (m_threw q2.2) (m_isKeeping q2.2) (m_cursor q2.2) (m_kind q2.2) (m_sweets q2.2) (m_gives q2.2) (m_kept q2.2))) (As := []) (rest := []) hx hb hml hown hT (c_M_sum (z_h_T := q2.2) a_h a_h_refused a_h_kind a_h_sweets a_h_gives a_h_tape a_h_letter a_h_letterAt a_h_one a_h_two a_h_kept a_h_trail a_h_crumb a_h_nextCrumb a_h_goal a_h_start a_h_sits a_h_bestSits a_h_without a_h_row y_h_taped y_h_at y_h_statements y_h_hasImage y_h_beforeMany y_h_found y_h_lots y_h_rowMany hq3) k_1048 k_1050 ks_47 k_8 k_1051 hd_M_sum ⟨Nat.le_of_ble_eq_true rfl, Nat.le_of_ble_eq_true rfl⟩ xE0_ok trivial hA hK hP hD hS [0, 2] [1, 3, 4] [3, 0, 4, 1, 2] rfl rfl rfl rfl rfl rfl rfl rfl rfl rfl hl.1 rfl (Nat.le_of_ble_eq_true rfl) ⟨Nat.zero_le _, Nat.zero_le _⟩ d_M_othersBehind_13 (fun H locs hP hD hS => ?_)
  refine lv_aload_n hx hb d_M_othersBehind_16 rfl (lv_at hl 0 rfl) ?_
  refine va_get hx hb hT i_M hown hK hP 0 rfl rfl 2 (Nat.le_of_ble_eq_true rfl) (hT _ k_760) (fun _ h => h) rfl d_M_othersBehind_17 ?_
  refine lv_iload_n hx hb d_M_othersBehind_20 rfl (lv_at hl 1 rfl) ?_
  obtain ⟨c4, hf⟩ := io_n hf
  refine x_iald hx hb hK hP 2 0 rfl rfl (j := x1.toNatClampNeg) rfl c4 d_M_othersBehind_21 ?_
  refine lv_isub hx hb d_M_othersBehind_22 ?_
  refine lv_istore_n (lv' := [(3, .int (q3 - ((m_sweets q2.2) x1.toNatClampNeg))), (0, .ref a_h), (1, .int x1), (2, .int x2)]) hx hb d_M_othersBehind_23 rfl hl (by decide) rfl (fun ls hl => ?_)
  refine lv_aload_n hx hb d_M_othersBehind_24 rfl (lv_at hl 1 rfl) ?_
  refine lv_iconst (v := 1) hx hb d_M_othersBehind_25 (by decide) ?_
  refine lv_iconst (v := 0) hx hb d_M_othersBehind_26 (by decide) ?_
  obtain ⟨q5, hq5, hf⟩ := io_b hf
  refine xcVV (wc := (w_M_passesAll cI cJ cC a_h a_h_refused a_h_kind a_h_sweets a_h_gives a_h_tape a_h_letter a_h_letterAt a_h_one a_h_two a_h_kept a_h_trail a_h_crumb a_h_nextCrumb a_h_goal a_h_start a_h_sits a_h_bestSits a_h_without a_h_row y_h_taped y_h_at y_h_statements y_h_hasImage y_h_beforeMany y_h_found y_h_lots y_h_rowMany (m_many q2.2) (m_odd q2.2) (m_step q2.2) (m_bag q2.2) (m_strokes q2.2) (m_gave q2.2) (m_threw q2.2) (m_isKeeping q2.2) (m_cursor q2.2) (m_kind q2.2) (m_sweets q2.2) (m_gives q2.2) (m_kept q2.2))) (wc' := (w_M_passesAll cI cJ cC a_h a_h_refused a_h_kind a_h_sweets a_h_gives a_h_tape a_h_letter a_h_letterAt a_h_one a_h_two a_h_kept a_h_trail a_h_crumb a_h_nextCrumb a_h_goal a_h_start a_h_sits a_h_bestSits a_h_without a_h_row y_h_taped y_h_at y_h_statements y_h_hasImage y_h_beforeMany y_h_found y_h_lots y_h_rowMany (m_many q5) (m_odd q5) (m_step q5) (m_bag q5) (m_strokes q5) (m_gave q5) (m_threw q5) (m_isKeeping q5) (m_cursor q5) (m_kind q5) (m_sweets q5) (m_gives q5) (m_kept q5))) (ws' := (w_M_othersBehind cI cJ cC a_h a_h_refused a_h_kind a_h_sweets a_h_gives a_h_tape a_h_letter a_h_letterAt a_h_one a_h_two a_h_kept a_h_trail a_h_crumb a_h_nextCrumb a_h_goal a_h_start a_h_sits a_h_bestSits a_h_without a_h_row y_h_taped y_h_at y_h_statements y_h_hasImage y_h_beforeMany y_h_found y_h_lots y_h_rowMany (m_many q5) (m_odd q5) (m_step q5) (m_bag q5) (m_strokes q5) (m_gave q5) (m_threw q5) (m_isKeeping q5) (m_cursor q5) (m_kind q5) (m_sweets q5) (m_gives q5) (m_kept q5))) (As := [.int 1, .int 0]) (rest := []) hx hb hml hown hT (c_M_passesAll (z_h_T := q2.2) a_h a_h_refused a_h_kind a_h_sweets a_h_gives a_h_tape a_h_letter a_h_letterAt a_h_one a_h_two a_h_kept a_h_trail a_h_crumb a_h_nextCrumb a_h_goal a_h_start a_h_sits a_h_bestSits a_h_without a_h_row y_h_taped y_h_at y_h_statements y_h_hasImage y_h_beforeMany y_h_found y_h_lots y_h_rowMany hq5) k_900 k_902 ks_28 k_8 k_903 hd_M_passesAll ⟨Nat.le_of_ble_eq_true rfl, Nat.le_of_ble_eq_true rfl⟩ xE0_ok trivial hA hK hP hD hS [0, 1, 2, 3, 4] [] [0, 1, 2, 3, 4] rfl rfl rfl rfl rfl rfl rfl rfl rfl rfl hl.1 rfl (Nat.le_of_ble_eq_true rfl) ⟨Nat.zero_le _, Nat.zero_le _⟩ d_M_othersBehind_27 (fun H locs hP hD hS => ?_)
  refine lv_iload_n hx hb d_M_othersBehind_30 rfl (lv_at hl 0 rfl) ?_
  have hq := Option.some.inj hf
  subst hq
  exact hret _ _ _ _ _ d_M_othersBehind_31 rfl rfl hP hD hS
abbrev w_M_hides (cI cJ cC : ClassId) (a_h a_h_refused a_h_kind a_h_sweets a_h_gives a_h_tape a_h_letter a_h_letterAt a_h_one a_h_two a_h_kept a_h_trail a_h_crumb a_h_nextCrumb a_h_goal a_h_start a_h_sits a_h_bestSits a_h_without a_h_row : Nat) (y_h_taped : Int32) (y_h_at : Int32) (y_h_statements : Int32) (y_h_hasImage : Int32) (y_h_beforeMany : Int32) (y_h_found : Int32) (y_h_lots : Int32) (y_h_rowMany : Int32) (p_h_many : Int32) (p_h_odd : Int32) (p_h_step : Int32) (p_h_bag : Int32) (p_h_strokes : Int32) (p_h_gave : Int32) (p_h_threw : Int32) (p_h_isKeeping : Int32) (p_h_cursor : Int32) (p_h_refused : (Nat → Int32)) (p_h_kind : (Nat → Int32)) (p_h_sweets : (Nat → Int32)) (p_h_gives : (Nat → Int32)) (p_h_kept : (Nat → Int32)) : va_W := [(a_h, .inr (7, [.ref a_h_refused, .ref a_h_kind, .ref a_h_sweets, .ref a_h_gives, .int p_h_many, .int p_h_odd, .int p_h_step, .int p_h_bag, .int p_h_strokes, .int p_h_gave, .int p_h_threw, .ref a_h_tape, .ref a_h_letter, .ref a_h_letterAt, .ref a_h_one, .ref a_h_two, .int y_h_taped, .int y_h_at, .int y_h_statements, .ref a_h_kept, .int y_h_hasImage, .int p_h_isKeeping, .int p_h_cursor, .ref a_h_trail, .ref a_h_crumb, .ref a_h_nextCrumb, .ref a_h_goal, .ref a_h_start, .int y_h_beforeMany, .int y_h_found, .ref a_h_sits, .ref a_h_bestSits, .ref a_h_without, .int y_h_lots, .ref a_h_row, .int y_h_rowMany])), (a_h_refused, .inl (cI, (7, .inl p_h_refused))), (a_h_kind, .inl (cI, (8, .inl p_h_kind))), (a_h_sweets, .inl (cI, (8, .inl p_h_sweets))), (a_h_gives, .inl (cI, (8, .inl p_h_gives))), (a_h_kept, .inl (cI, (90, .inl p_h_kept)))]
theorem d_M_hides_0 : decode b_M_hides 0 = .ok (.aload_n 0, 1) := by decide +kernel
theorem d_M_hides_1 : decode b_M_hides 1 = .ok (.iload_n 1, 1) := by decide +kernel
theorem d_M_hides_2 : decode b_M_hides 2 = .ok (.invokevirtual 168, 3) := by decide +kernel
theorem d_M_hides_5 : decode b_M_hides 5 = .ok (.ifCond .ne 9, 3) := by decide +kernel
theorem d_M_hides_8 : decode b_M_hides 8 = .ok (.aload_n 0, 1) := by decide +kernel
theorem d_M_hides_9 : decode b_M_hides 9 = .ok (.iconst (-1), 1) := by decide +kernel
theorem d_M_hides_10 : decode b_M_hides 10 = .ok (.invokevirtual 240, 3) := by decide +kernel
theorem d_M_hides_13 : decode b_M_hides 13 = .ok (.ireturn, 1) := by decide +kernel
theorem d_M_hides_14 : decode b_M_hides 14 = .ok (.iload_n 2, 1) := by decide +kernel
theorem d_M_hides_15 : decode b_M_hides 15 = .ok (.iconst 0, 1) := by decide +kernel
theorem d_M_hides_16 : decode b_M_hides 16 = .ok (.bipush 50, 2) := by decide +kernel
theorem d_M_hides_18 : decode b_M_hides 18 = .ok (.invokestatic 81, 3) := by decide +kernel
theorem d_M_hides_21 : decode b_M_hides 21 = .ok (.istore 4, 2) := by decide +kernel
theorem d_M_hides_23 : decode b_M_hides 23 = .ok (.iload 4, 2) := by decide +kernel
theorem d_M_hides_25 : decode b_M_hides 25 = .ok (.ifCond .eq 10, 3) := by decide +kernel
theorem d_M_hides_28 : decode b_M_hides 28 = .ok (.aload_n 0, 1) := by decide +kernel
theorem d_M_hides_29 : decode b_M_hides 29 = .ok (.iload 4, 2) := by decide +kernel
theorem d_M_hides_31 : decode b_M_hides 31 = .ok (.invokevirtual 240, 3) := by decide +kernel
theorem d_M_hides_34 : decode b_M_hides 34 = .ok (.ireturn, 1) := by decide +kernel
theorem d_M_hides_35 : decode b_M_hides 35 = .ok (.aload_n 0, 1) := by decide +kernel
theorem d_M_hides_36 : decode b_M_hides 36 = .ok (.iload_n 1, 1) := by decide +kernel
theorem d_M_hides_37 : decode b_M_hides 37 = .ok (.iload_n 2, 1) := by decide +kernel
theorem d_M_hides_38 : decode b_M_hides 38 = .ok (.invokevirtual 243, 3) := by decide +kernel
theorem d_M_hides_41 : decode b_M_hides 41 = .ok (.istore 5, 2) := by decide +kernel
theorem d_M_hides_43 : decode b_M_hides 43 = .ok (.aload_n 0, 1) := by decide +kernel
theorem d_M_hides_44 : decode b_M_hides 44 = .ok (.getfield 13, 3) := by decide +kernel
theorem d_M_hides_47 : decode b_M_hides 47 = .ok (.iload_n 1, 1) := by decide +kernel
theorem d_M_hides_48 : decode b_M_hides 48 = .ok (.iaload, 1) := by decide +kernel
theorem d_M_hides_49 : decode b_M_hides 49 = .ok (.istore 6, 2) := by decide +kernel
theorem d_M_hides_51 : decode b_M_hides 51 = .ok (.aload_n 0, 1) := by decide +kernel
theorem d_M_hides_52 : decode b_M_hides 52 = .ok (.getfield 13, 3) := by decide +kernel
theorem d_M_hides_55 : decode b_M_hides 55 = .ok (.iload_n 1, 1) := by decide +kernel
theorem d_M_hides_56 : decode b_M_hides 56 = .ok (.iload_n 3, 1) := by decide +kernel
theorem d_M_hides_57 : decode b_M_hides 57 = .ok (.ifCond .eq 7, 3) := by decide +kernel
theorem d_M_hides_60 : decode b_M_hides 60 = .ok (.iconst 4, 1) := by decide +kernel
theorem d_M_hides_61 : decode b_M_hides 61 = .ok (.goto 4, 3) := by decide +kernel
theorem d_M_hides_64 : decode b_M_hides 64 = .ok (.iconst 3, 1) := by decide +kernel
theorem d_M_hides_65 : decode b_M_hides 65 = .ok (.iastore, 1) := by decide +kernel
theorem d_M_hides_66 : decode b_M_hides 66 = .ok (.aload_n 0, 1) := by decide +kernel
theorem d_M_hides_67 : decode b_M_hides 67 = .ok (.iload_n 1, 1) := by decide +kernel
theorem d_M_hides_68 : decode b_M_hides 68 = .ok (.iload_n 2, 1) := by decide +kernel
theorem d_M_hides_69 : decode b_M_hides 69 = .ok (.invokevirtual 243, 3) := by decide +kernel
theorem d_M_hides_72 : decode b_M_hides 72 = .ok (.istore 7, 2) := by decide +kernel
theorem d_M_hides_74 : decode b_M_hides 74 = .ok (.aload_n 0, 1) := by decide +kernel
theorem d_M_hides_75 : decode b_M_hides 75 = .ok (.getfield 13, 3) := by decide +kernel
theorem d_M_hides_78 : decode b_M_hides 78 = .ok (.iload_n 1, 1) := by decide +kernel
theorem d_M_hides_79 : decode b_M_hides 79 = .ok (.iload 6, 2) := by decide +kernel
theorem d_M_hides_81 : decode b_M_hides 81 = .ok (.iastore, 1) := by decide +kernel
theorem d_M_hides_82 : decode b_M_hides 82 = .ok (.iload 7, 2) := by decide +kernel
theorem d_M_hides_84 : decode b_M_hides 84 = .ok (.iload 5, 2) := by decide +kernel
theorem d_M_hides_86 : decode b_M_hides 86 = .ok (.isub, 1) := by decide +kernel
theorem d_M_hides_87 : decode b_M_hides 87 = .ok (.ireturn, 1) := by decide +kernel
set_option maxHeartbeats 4000000 in
set_option maxRecDepth 100000 in
theorem c_M_hides {l : Launch} {D : va_G} {cI cJ cC : ClassId} (a_h a_h_refused a_h_kind a_h_sweets a_h_gives a_h_tape a_h_letter a_h_letterAt a_h_one a_h_two a_h_kept a_h_trail a_h_crumb a_h_nextCrumb a_h_goal a_h_start a_h_sits a_h_bestSits a_h_without a_h_row : Nat) (y_h_taped : Int32) (y_h_at : Int32) (y_h_statements : Int32) (y_h_hasImage : Int32) (y_h_beforeMany : Int32) (y_h_found : Int32) (y_h_lots : Int32) (y_h_rowMany : Int32) {z_h_T : MT} {z_h_refused : (Nat → Int32)} {x1 : Int32} {x2 : Int32} {x3 : Int32} {q : Int32 × MT × (Nat → Int32)} (hf : f_M_hides z_h_T z_h_refused x1 x2 x3 = some q) : xI l y_M_hides b_M_hides 8 .int 5 112 D (tyK cI cJ cC) xE0 [.ref a_h, .int x1, .int x2, .int x3] (w_M_hides cI cJ cC a_h a_h_refused a_h_kind a_h_sweets a_h_gives a_h_tape a_h_letter a_h_letterAt a_h_one a_h_two a_h_kept a_h_trail a_h_crumb a_h_nextCrumb a_h_goal a_h_start a_h_sits a_h_bestSits a_h_without a_h_row y_h_taped y_h_at y_h_statements y_h_hasImage y_h_beforeMany y_h_found y_h_lots y_h_rowMany (m_many z_h_T) (m_odd z_h_T) (m_step z_h_T) (m_bag z_h_T) (m_strokes z_h_T) (m_gave z_h_T) (m_threw z_h_T) (m_isKeeping z_h_T) (m_cursor z_h_T) z_h_refused (m_kind z_h_T) (m_sweets z_h_T) (m_gives z_h_T) (m_kept z_h_T)) q.1 (w_M_hides cI cJ cC a_h a_h_refused a_h_kind a_h_sweets a_h_gives a_h_tape a_h_letter a_h_letterAt a_h_one a_h_two a_h_kept a_h_trail a_h_crumb a_h_nextCrumb a_h_goal a_h_start a_h_sits a_h_bestSits a_h_without a_h_row y_h_taped y_h_at y_h_statements y_h_hasImage y_h_beforeMany y_h_found y_h_lots y_h_rowMany (m_many q.2.1) (m_odd q.2.1) (m_step q.2.1) (m_bag q.2.1) (m_strokes q.2.1) (m_gave q.2.1) (m_threw q.2.1) (m_isKeeping q.2.1) (m_cursor q.2.1) q.2.2 (m_kind q.2.1) (m_sweets q.2.1) (m_gives q.2.1) (m_kept q.2.1)) := by
  refine xI_of (by decide) (Nat.le_of_ble_eq_true rfl) ?_
  intro p e s m args below meth c A Q hx hb hml hown hT hA hP hD hK hS hE hret ls hl
  have hown : s.vm.findClass R_M = some m.cls := hown
  have hl : lv_has ls 8 [(0, .ref a_h), (1, .int x1), (2, .int x2), (3, .int x3)] := hl
  unfold f_M_hides at hf
  refine lv_aload_n hx hb d_M_hides_0 rfl (lv_at hl 0 rfl) ?_
  refine lv_iload_n hx hb d_M_hides_1 rfl (lv_at hl 1 rfl) ?_
  obtain ⟨q1, hq1, hf⟩ := io_b hf
  refine xcVI (wc := (w_M_isChild cI cJ cC a_h a_h_refused a_h_kind a_h_sweets a_h_gives a_h_tape a_h_letter a_h_letterAt a_h_one a_h_two a_h_kept a_h_trail a_h_crumb a_h_nextCrumb a_h_goal a_h_start a_h_sits a_h_bestSits a_h_without a_h_row y_h_taped y_h_at y_h_statements y_h_hasImage y_h_beforeMany y_h_found y_h_lots y_h_rowMany (m_many z_h_T) (m_odd z_h_T) (m_step z_h_T) (m_bag z_h_T) (m_strokes z_h_T) (m_gave z_h_T) (m_threw z_h_T) (m_isKeeping z_h_T) (m_cursor z_h_T))) (wc' := (w_M_isChild cI cJ cC a_h a_h_refused a_h_kind a_h_sweets a_h_gives a_h_tape a_h_letter a_h_letterAt a_h_one a_h_two a_h_kept a_h_trail a_h_crumb a_h_nextCrumb a_h_goal a_h_start a_h_sits a_h_bestSits a_h_without a_h_row y_h_taped y_h_at y_h_statements y_h_hasImage y_h_beforeMany y_h_found y_h_lots y_h_rowMany (m_many z_h_T) (m_odd z_h_T) (m_step z_h_T) (m_bag z_h_T) (m_strokes z_h_T) (m_gave z_h_T) (m_threw z_h_T) (m_isKeeping z_h_T) (m_cursor z_h_T))) (ws' := (w_M_hides cI cJ cC a_h a_h_refused a_h_kind a_h_sweets a_h_gives a_h_tape a_h_letter a_h_letterAt a_h_one a_h_two a_h_kept a_h_trail a_h_crumb a_h_nextCrumb a_h_goal a_h_start a_h_sits a_h_bestSits a_h_without a_h_row y_h_taped y_h_at y_h_statements y_h_hasImage y_h_beforeMany y_h_found y_h_lots y_h_rowMany (m_many z_h_T) (m_odd z_h_T) (m_step z_h_T) (m_bag z_h_T) (m_strokes z_h_T) (m_gave z_h_T) (m_threw z_h_T) (m_isKeeping z_h_T) (m_cursor z_h_T) z_h_refused (m_kind z_h_T) (m_sweets z_h_T) (m_gives z_h_T) (m_kept z_h_T))) (As := [.int x1]) (rest := []) hx hb hml hown hT (c_M_isChild (z_h_T := z_h_T) a_h a_h_refused a_h_kind a_h_sweets a_h_gives a_h_tape a_h_letter a_h_letterAt a_h_one a_h_two a_h_kept a_h_trail a_h_crumb a_h_nextCrumb a_h_goal a_h_start a_h_sits a_h_bestSits a_h_without a_h_row y_h_taped y_h_at y_h_statements y_h_hasImage y_h_beforeMany y_h_found y_h_lots y_h_rowMany hq1) k_924 k_926 ks_31 k_8 k_927 hd_M_isChild ⟨Nat.le_of_ble_eq_true rfl, Nat.le_of_ble_eq_true rfl⟩ xE0_ok trivial hA hK hP hD hS [0] [1, 2, 3, 4, 5] [5, 0, 1, 2, 3, 4] rfl rfl rfl rfl rfl rfl rfl rfl rfl rfl hl.1 rfl (Nat.le_of_ble_eq_true rfl) ⟨Nat.zero_le _, Nat.zero_le _⟩ d_M_hides_2 (fun H locs hP hD hS => ?_)
  refine lv_if_ne (tgt := 14) hx hb d_M_hides_5 (by decide) (fun c2 => ?_) (fun c2 => ?_)
  · have hf := io_f hf c2
    refine lv_iload_n hx hb d_M_hides_14 rfl (lv_at hl 2 rfl) ?_
    refine lv_iconst (v := 0) hx hb d_M_hides_15 (by decide) ?_
    refine lv_bipush (v := 50) hx hb d_M_hides_16 (by decide) ?_
    obtain ⟨q3, hq3, hf⟩ := io_b hf
    refine xcSI (wc := []) (wc' := []) (ws' := (w_M_hides cI cJ cC a_h a_h_refused a_h_kind a_h_sweets a_h_gives a_h_tape a_h_letter a_h_letterAt a_h_one a_h_two a_h_kept a_h_trail a_h_crumb a_h_nextCrumb a_h_goal a_h_start a_h_sits a_h_bestSits a_h_without a_h_row y_h_taped y_h_at y_h_statements y_h_hasImage y_h_beforeMany y_h_found y_h_lots y_h_rowMany (m_many z_h_T) (m_odd z_h_T) (m_step z_h_T) (m_bag z_h_T) (m_strokes z_h_T) (m_gave z_h_T) (m_threw z_h_T) (m_isKeeping z_h_T) (m_cursor z_h_T) z_h_refused (m_kind z_h_T) (m_sweets z_h_T) (m_gives z_h_T) (m_kept z_h_T))) (As := [.int x2, .int 0, .int 50]) (rest := []) hx hb hml hown hT (c_M_bound hq3) k_871 k_872 k_8 k_873 hd_M_bound ⟨Nat.le_of_ble_eq_true rfl, Nat.le_of_ble_eq_true rfl⟩ xE0_ok trivial hA hK hP hD hS [] [0, 1, 2, 3, 4, 5] [0, 1, 2, 3, 4, 5] rfl rfl rfl rfl rfl rfl rfl hl.1 rfl (Nat.le_of_ble_eq_true rfl) ⟨Nat.zero_le _, Nat.zero_le _⟩ d_M_hides_18 (fun H locs hP hD hS => ?_)
    refine lv_istore (lv' := [(4, .int q3), (0, .ref a_h), (1, .int x1), (2, .int x2), (3, .int x3)]) hx hb d_M_hides_21 hl (by decide) rfl (fun ls hl => ?_)
    refine lv_iload hx hb d_M_hides_23 (lv_at hl 0 rfl) ?_
    refine lv_if_eq (tgt := 35) hx hb d_M_hides_25 (by decide) (fun c4 => ?_) (fun c4 => ?_)
    · have hf := io_t hf c4
      refine lv_aload_n hx hb d_M_hides_35 rfl (lv_at hl 1 rfl) ?_
      refine lv_iload_n hx hb d_M_hides_36 rfl (lv_at hl 2 rfl) ?_
      refine lv_iload_n hx hb d_M_hides_37 rfl (lv_at hl 3 rfl) ?_
      obtain ⟨q5, hq5, hf⟩ := io_b hf
      refine xcVI (wc := (w_M_othersBehind cI cJ cC a_h a_h_refused a_h_kind a_h_sweets a_h_gives a_h_tape a_h_letter a_h_letterAt a_h_one a_h_two a_h_kept a_h_trail a_h_crumb a_h_nextCrumb a_h_goal a_h_start a_h_sits a_h_bestSits a_h_without a_h_row y_h_taped y_h_at y_h_statements y_h_hasImage y_h_beforeMany y_h_found y_h_lots y_h_rowMany (m_many z_h_T) (m_odd z_h_T) (m_step z_h_T) (m_bag z_h_T) (m_strokes z_h_T) (m_gave z_h_T) (m_threw z_h_T) (m_isKeeping z_h_T) (m_cursor z_h_T) (m_kind z_h_T) (m_sweets z_h_T) (m_gives z_h_T) (m_kept z_h_T))) (wc' := (w_M_othersBehind cI cJ cC a_h a_h_refused a_h_kind a_h_sweets a_h_gives a_h_tape a_h_letter a_h_letterAt a_h_one a_h_two a_h_kept a_h_trail a_h_crumb a_h_nextCrumb a_h_goal a_h_start a_h_sits a_h_bestSits a_h_without a_h_row y_h_taped y_h_at y_h_statements y_h_hasImage y_h_beforeMany y_h_found y_h_lots y_h_rowMany (m_many q5.2) (m_odd q5.2) (m_step q5.2) (m_bag q5.2) (m_strokes q5.2) (m_gave q5.2) (m_threw q5.2) (m_isKeeping q5.2) (m_cursor q5.2) (m_kind q5.2) (m_sweets q5.2) (m_gives q5.2) (m_kept q5.2))) (ws' := (w_M_hides cI cJ cC a_h a_h_refused a_h_kind a_h_sweets a_h_gives a_h_tape a_h_letter a_h_letterAt a_h_one a_h_two a_h_kept a_h_trail a_h_crumb a_h_nextCrumb a_h_goal a_h_start a_h_sits a_h_bestSits a_h_without a_h_row y_h_taped y_h_at y_h_statements y_h_hasImage y_h_beforeMany y_h_found y_h_lots y_h_rowMany (m_many q5.2) (m_odd q5.2) (m_step q5.2) (m_bag q5.2) (m_strokes q5.2) (m_gave q5.2) (m_threw q5.2) (m_isKeeping q5.2) (m_cursor q5.2) z_h_refused (m_kind q5.2) (m_sweets q5.2) (m_gives q5.2) (m_kept q5.2))) (As := [.int x1, .int x2]) (rest := []) hx hb hml hown hT (c_M_othersBehind (z_h_T := z_h_T) a_h a_h_refused a_h_kind a_h_sweets a_h_gives a_h_tape a_h_letter a_h_letterAt a_h_one a_h_two a_h_kept a_h_trail a_h_crumb a_h_nextCrumb a_h_goal a_h_start a_h_sits a_h_bestSits a_h_without a_h_row y_h_taped y_h_at y_h_statements y_h_hasImage y_h_beforeMany y_h_found y_h_lots y_h_rowMany hq5) k_1105 k_1107 ks_55 k_8 k_1108 hd_M_othersBehind ⟨Nat.le_of_ble_eq_true rfl, Nat.le_of_ble_eq_true rfl⟩ xE0_ok trivial hA hK hP hD hS [0, 2, 3, 4, 5] [1] [1, 0, 2, 3, 4, 5] rfl rfl rfl rfl rfl rfl rfl rfl rfl rfl hl.1 rfl (Nat.le_of_ble_eq_true rfl) ⟨Nat.zero_le _, Nat.zero_le _⟩ d_M_hides_38 (fun H locs hP hD hS => ?_)
      refine lv_istore (lv' := [(5, .int q5.1), (4, .int q3), (0, .ref a_h), (1, .int x1), (2, .int x2), (3, .int x3)]) hx hb d_M_hides_41 hl (by decide) rfl (fun ls hl => ?_)
      refine lv_aload_n hx hb d_M_hides_43 rfl (lv_at hl 2 rfl) ?_
      refine va_get hx hb hT i_M hown hK hP 0 rfl rfl 1 (Nat.le_of_ble_eq_true rfl) (hT _ k_759) (fun _ h => h) rfl d_M_hides_44 ?_
      refine lv_iload_n hx hb d_M_hides_47 rfl (lv_at hl 3 rfl) ?_
      obtain ⟨c6, hf⟩ := io_n hf
      refine x_iald hx hb hK hP 2 0 rfl rfl (j := x1.toNatClampNeg) rfl c6 d_M_hides_48 ?_
      refine lv_istore (lv' := [(6, .int ((m_kind q5.2) x1.toNatClampNeg)), (5, .int q5.1), (4, .int q3), (0, .ref a_h), (1, .int x1), (2, .int x2), (3, .int x3)]) hx hb d_M_hides_49 hl (by decide) rfl (fun ls hl => ?_)
      refine lv_aload_n hx hb d_M_hides_51 rfl (lv_at hl 3 rfl) ?_
      refine va_get hx hb hT i_M hown hK hP 0 rfl rfl 1 (Nat.le_of_ble_eq_true rfl) (hT _ k_759) (fun _ h => h) rfl d_M_hides_52 ?_
      refine lv_iload_n hx hb d_M_hides_55 rfl (lv_at hl 4 rfl) ?_
      refine lv_iload_n hx hb d_M_hides_56 rfl (lv_at hl 6 rfl) ?_
      refine lv_if_eq (tgt := 64) hx hb d_M_hides_57 (by decide) (fun c7 => ?_) (fun c7 => ?_)
      · have hf := io_t hf c7
        refine lv_iconst (v := 3) hx hb d_M_hides_64 (by decide) ?_
        refine x_iast hx hb hK hP hD hS 2 0 rfl rfl (j := x1.toNatClampNeg) rfl c6 d_M_hides_65 (fun H locs hP hD hS => ?_)
        have hP : va_P D classes (w_M_hides cI cJ cC a_h a_h_refused a_h_kind a_h_sweets a_h_gives a_h_tape a_h_letter a_h_letterAt a_h_one a_h_two a_h_kept a_h_trail a_h_crumb a_h_nextCrumb a_h_goal a_h_start a_h_sits a_h_bestSits a_h_without a_h_row y_h_taped y_h_at y_h_statements y_h_hasImage y_h_beforeMany y_h_found y_h_lots y_h_rowMany (m_many q5.2) (m_odd q5.2) (m_step q5.2) (m_bag q5.2) (m_strokes q5.2) (m_gave q5.2) (m_threw q5.2) (m_isKeeping q5.2) (m_cursor q5.2) z_h_refused (upd (m_kind q5.2) x1.toNatClampNeg 3) (m_sweets q5.2) (m_gives q5.2) (m_kept q5.2)) H := hP
        have hD : va_D A (w_M_hides cI cJ cC a_h a_h_refused a_h_kind a_h_sweets a_h_gives a_h_tape a_h_letter a_h_letterAt a_h_one a_h_two a_h_kept a_h_trail a_h_crumb a_h_nextCrumb a_h_goal a_h_start a_h_sits a_h_bestSits a_h_without a_h_row y_h_taped y_h_at y_h_statements y_h_hasImage y_h_beforeMany y_h_found y_h_lots y_h_rowMany (m_many q5.2) (m_odd q5.2) (m_step q5.2) (m_bag q5.2) (m_strokes q5.2) (m_gave q5.2) (m_threw q5.2) (m_isKeeping q5.2) (m_cursor q5.2) z_h_refused (upd (m_kind q5.2) x1.toNatClampNeg 3) (m_sweets q5.2) (m_gives q5.2) (m_kept q5.2)) := hD
        refine lv_aload_n hx hb d_M_hides_66 rfl (lv_at hl 3 rfl) ?_
        refine lv_iload_n hx hb d_M_hides_67 rfl (lv_at hl 4 rfl) ?_
        refine lv_iload_n hx hb d_M_hides_68 rfl (lv_at hl 5 rfl) ?_
        obtain ⟨q8, hq8, hf⟩ := io_b hf
        refine xcVI (wc := (w_M_othersBehind cI cJ cC a_h a_h_refused a_h_kind a_h_sweets a_h_gives a_h_tape a_h_letter a_h_letterAt a_h_one a_h_two a_h_kept a_h_trail a_h_crumb a_h_nextCrumb a_h_goal a_h_start a_h_sits a_h_bestSits a_h_without a_h_row y_h_taped y_h_at y_h_statements y_h_hasImage y_h_beforeMany y_h_found y_h_lots y_h_rowMany (m_many q5.2) (m_odd q5.2) (m_step q5.2) (m_bag q5.2) (m_strokes q5.2) (m_gave q5.2) (m_threw q5.2) (m_isKeeping q5.2) (m_cursor q5.2) (upd (m_kind q5.2) x1.toNatClampNeg 3) (m_sweets q5.2) (m_gives q5.2) (m_kept q5.2))) (wc' := (w_M_othersBehind cI cJ cC a_h a_h_refused a_h_kind a_h_sweets a_h_gives a_h_tape a_h_letter a_h_letterAt a_h_one a_h_two a_h_kept a_h_trail a_h_crumb a_h_nextCrumb a_h_goal a_h_start a_h_sits a_h_bestSits a_h_without a_h_row y_h_taped y_h_at y_h_statements y_h_hasImage y_h_beforeMany y_h_found y_h_lots y_h_rowMany (m_many q8.2) (m_odd q8.2) (m_step q8.2) (m_bag q8.2) (m_strokes q8.2) (m_gave q8.2) (m_threw q8.2) (m_isKeeping q8.2) (m_cursor q8.2) (m_kind q8.2) (m_sweets q8.2) (m_gives q8.2) (m_kept q8.2))) (ws' := (w_M_hides cI cJ cC a_h a_h_refused a_h_kind a_h_sweets a_h_gives a_h_tape a_h_letter a_h_letterAt a_h_one a_h_two a_h_kept a_h_trail a_h_crumb a_h_nextCrumb a_h_goal a_h_start a_h_sits a_h_bestSits a_h_without a_h_row y_h_taped y_h_at y_h_statements y_h_hasImage y_h_beforeMany y_h_found y_h_lots y_h_rowMany (m_many q8.2) (m_odd q8.2) (m_step q8.2) (m_bag q8.2) (m_strokes q8.2) (m_gave q8.2) (m_threw q8.2) (m_isKeeping q8.2) (m_cursor q8.2) z_h_refused (m_kind q8.2) (m_sweets q8.2) (m_gives q8.2) (m_kept q8.2))) (As := [.int x1, .int x2]) (rest := []) hx hb hml hown hT (c_M_othersBehind (z_h_T := ((upd (m_kind q5.2) x1.toNatClampNeg 3), (m_sweets q5.2), (m_gives q5.2), (m_kept q5.2), (m_many q5.2), (m_odd q5.2), (m_step q5.2), (m_bag q5.2), (m_strokes q5.2), (m_gave q5.2), (m_threw q5.2), (m_isKeeping q5.2), (m_cursor q5.2))) a_h a_h_refused a_h_kind a_h_sweets a_h_gives a_h_tape a_h_letter a_h_letterAt a_h_one a_h_two a_h_kept a_h_trail a_h_crumb a_h_nextCrumb a_h_goal a_h_start a_h_sits a_h_bestSits a_h_without a_h_row y_h_taped y_h_at y_h_statements y_h_hasImage y_h_beforeMany y_h_found y_h_lots y_h_rowMany hq8) k_1105 k_1107 ks_55 k_8 k_1108 hd_M_othersBehind ⟨Nat.le_of_ble_eq_true rfl, Nat.le_of_ble_eq_true rfl⟩ xE0_ok trivial hA hK hP hD hS [0, 2, 3, 4, 5] [1] [1, 0, 2, 3, 4, 5] rfl rfl rfl rfl rfl rfl rfl rfl rfl rfl hl.1 rfl (Nat.le_of_ble_eq_true rfl) ⟨Nat.zero_le _, Nat.zero_le _⟩ d_M_hides_69 (fun H locs hP hD hS => ?_)
        refine lv_istore (lv' := [(7, .int q8.1), (6, .int ((m_kind q5.2) x1.toNatClampNeg)), (5, .int q5.1), (4, .int q3), (0, .ref a_h), (1, .int x1), (2, .int x2), (3, .int x3)]) hx hb d_M_hides_72 hl (by decide) rfl (fun ls hl => ?_)
        refine lv_aload_n hx hb d_M_hides_74 rfl (lv_at hl 4 rfl) ?_
        refine va_get hx hb hT i_M hown hK hP 0 rfl rfl 1 (Nat.le_of_ble_eq_true rfl) (hT _ k_759) (fun _ h => h) rfl d_M_hides_75 ?_
        refine lv_iload_n hx hb d_M_hides_78 rfl (lv_at hl 5 rfl) ?_
        refine lv_iload hx hb d_M_hides_79 (lv_at hl 1 rfl) ?_
        refine x_iast hx hb hK hP hD hS 2 0 rfl rfl (j := x1.toNatClampNeg) rfl c6 d_M_hides_81 (fun H locs hP hD hS => ?_)
        have hP : va_P D classes (w_M_hides cI cJ cC a_h a_h_refused a_h_kind a_h_sweets a_h_gives a_h_tape a_h_letter a_h_letterAt a_h_one a_h_two a_h_kept a_h_trail a_h_crumb a_h_nextCrumb a_h_goal a_h_start a_h_sits a_h_bestSits a_h_without a_h_row y_h_taped y_h_at y_h_statements y_h_hasImage y_h_beforeMany y_h_found y_h_lots y_h_rowMany (m_many q8.2) (m_odd q8.2) (m_step q8.2) (m_bag q8.2) (m_strokes q8.2) (m_gave q8.2) (m_threw q8.2) (m_isKeeping q8.2) (m_cursor q8.2) z_h_refused (upd (m_kind q8.2) x1.toNatClampNeg ((m_kind q5.2) x1.toNatClampNeg)) (m_sweets q8.2) (m_gives q8.2) (m_kept q8.2)) H := hP
        have hD : va_D A (w_M_hides cI cJ cC a_h a_h_refused a_h_kind a_h_sweets a_h_gives a_h_tape a_h_letter a_h_letterAt a_h_one a_h_two a_h_kept a_h_trail a_h_crumb a_h_nextCrumb a_h_goal a_h_start a_h_sits a_h_bestSits a_h_without a_h_row y_h_taped y_h_at y_h_statements y_h_hasImage y_h_beforeMany y_h_found y_h_lots y_h_rowMany (m_many q8.2) (m_odd q8.2) (m_step q8.2) (m_bag q8.2) (m_strokes q8.2) (m_gave q8.2) (m_threw q8.2) (m_isKeeping q8.2) (m_cursor q8.2) z_h_refused (upd (m_kind q8.2) x1.toNatClampNeg ((m_kind q5.2) x1.toNatClampNeg)) (m_sweets q8.2) (m_gives q8.2) (m_kept q8.2)) := hD
        refine lv_iload hx hb d_M_hides_82 (lv_at hl 0 rfl) ?_
        refine lv_iload hx hb d_M_hides_84 (lv_at hl 2 rfl) ?_
        refine lv_isub hx hb d_M_hides_86 ?_
        have hq := Option.some.inj hf
        subst hq
        exact hret _ _ _ _ _ d_M_hides_87 rfl rfl hP hD hS
      · have hf := io_f hf c7
        refine lv_iconst (v := 4) hx hb d_M_hides_60 (by decide) ?_
        refine lv_goto (tgt := 65) hx hb d_M_hides_61 (by decide) ?_
        refine x_iast hx hb hK hP hD hS 2 0 rfl rfl (j := x1.toNatClampNeg) rfl c6 d_M_hides_65 (fun H locs hP hD hS => ?_)
        have hP : va_P D classes (w_M_hides cI cJ cC a_h a_h_refused a_h_kind a_h_sweets a_h_gives a_h_tape a_h_letter a_h_letterAt a_h_one a_h_two a_h_kept a_h_trail a_h_crumb a_h_nextCrumb a_h_goal a_h_start a_h_sits a_h_bestSits a_h_without a_h_row y_h_taped y_h_at y_h_statements y_h_hasImage y_h_beforeMany y_h_found y_h_lots y_h_rowMany (m_many q5.2) (m_odd q5.2) (m_step q5.2) (m_bag q5.2) (m_strokes q5.2) (m_gave q5.2) (m_threw q5.2) (m_isKeeping q5.2) (m_cursor q5.2) z_h_refused (upd (m_kind q5.2) x1.toNatClampNeg 4) (m_sweets q5.2) (m_gives q5.2) (m_kept q5.2)) H := hP
        have hD : va_D A (w_M_hides cI cJ cC a_h a_h_refused a_h_kind a_h_sweets a_h_gives a_h_tape a_h_letter a_h_letterAt a_h_one a_h_two a_h_kept a_h_trail a_h_crumb a_h_nextCrumb a_h_goal a_h_start a_h_sits a_h_bestSits a_h_without a_h_row y_h_taped y_h_at y_h_statements y_h_hasImage y_h_beforeMany y_h_found y_h_lots y_h_rowMany (m_many q5.2) (m_odd q5.2) (m_step q5.2) (m_bag q5.2) (m_strokes q5.2) (m_gave q5.2) (m_threw q5.2) (m_isKeeping q5.2) (m_cursor q5.2) z_h_refused (upd (m_kind q5.2) x1.toNatClampNeg 4) (m_sweets q5.2) (m_gives q5.2) (m_kept q5.2)) := hD
        refine lv_aload_n hx hb d_M_hides_66 rfl (lv_at hl 3 rfl) ?_
        refine lv_iload_n hx hb d_M_hides_67 rfl (lv_at hl 4 rfl) ?_
        refine lv_iload_n hx hb d_M_hides_68 rfl (lv_at hl 5 rfl) ?_
        obtain ⟨q9, hq9, hf⟩ := io_b hf
        refine xcVI (wc := (w_M_othersBehind cI cJ cC a_h a_h_refused a_h_kind a_h_sweets a_h_gives a_h_tape a_h_letter a_h_letterAt a_h_one a_h_two a_h_kept a_h_trail a_h_crumb a_h_nextCrumb a_h_goal a_h_start a_h_sits a_h_bestSits a_h_without a_h_row y_h_taped y_h_at y_h_statements y_h_hasImage y_h_beforeMany y_h_found y_h_lots y_h_rowMany (m_many q5.2) (m_odd q5.2) (m_step q5.2) (m_bag q5.2) (m_strokes q5.2) (m_gave q5.2) (m_threw q5.2) (m_isKeeping q5.2) (m_cursor q5.2) (upd (m_kind q5.2) x1.toNatClampNeg 4) (m_sweets q5.2) (m_gives q5.2) (m_kept q5.2))) (wc' := (w_M_othersBehind cI cJ cC a_h a_h_refused a_h_kind a_h_sweets a_h_gives a_h_tape a_h_letter a_h_letterAt a_h_one a_h_two a_h_kept a_h_trail a_h_crumb a_h_nextCrumb a_h_goal a_h_start a_h_sits a_h_bestSits a_h_without a_h_row y_h_taped y_h_at y_h_statements y_h_hasImage y_h_beforeMany y_h_found y_h_lots y_h_rowMany (m_many q9.2) (m_odd q9.2) (m_step q9.2) (m_bag q9.2) (m_strokes q9.2) (m_gave q9.2) (m_threw q9.2) (m_isKeeping q9.2) (m_cursor q9.2) (m_kind q9.2) (m_sweets q9.2) (m_gives q9.2) (m_kept q9.2))) (ws' := (w_M_hides cI cJ cC a_h a_h_refused a_h_kind a_h_sweets a_h_gives a_h_tape a_h_letter a_h_letterAt a_h_one a_h_two a_h_kept a_h_trail a_h_crumb a_h_nextCrumb a_h_goal a_h_start a_h_sits a_h_bestSits a_h_without a_h_row y_h_taped y_h_at y_h_statements y_h_hasImage y_h_beforeMany y_h_found y_h_lots y_h_rowMany (m_many q9.2) (m_odd q9.2) (m_step q9.2) (m_bag q9.2) (m_strokes q9.2) (m_gave q9.2) (m_threw q9.2) (m_isKeeping q9.2) (m_cursor q9.2) z_h_refused (m_kind q9.2) (m_sweets q9.2) (m_gives q9.2) (m_kept q9.2))) (As := [.int x1, .int x2]) (rest := []) hx hb hml hown hT (c_M_othersBehind (z_h_T := ((upd (m_kind q5.2) x1.toNatClampNeg 4), (m_sweets q5.2), (m_gives q5.2), (m_kept q5.2), (m_many q5.2), (m_odd q5.2), (m_step q5.2), (m_bag q5.2), (m_strokes q5.2), (m_gave q5.2), (m_threw q5.2), (m_isKeeping q5.2), (m_cursor q5.2))) a_h a_h_refused a_h_kind a_h_sweets a_h_gives a_h_tape a_h_letter a_h_letterAt a_h_one a_h_two a_h_kept a_h_trail a_h_crumb a_h_nextCrumb a_h_goal a_h_start a_h_sits a_h_bestSits a_h_without a_h_row y_h_taped y_h_at y_h_statements y_h_hasImage y_h_beforeMany y_h_found y_h_lots y_h_rowMany hq9) k_1105 k_1107 ks_55 k_8 k_1108 hd_M_othersBehind ⟨Nat.le_of_ble_eq_true rfl, Nat.le_of_ble_eq_true rfl⟩ xE0_ok trivial hA hK hP hD hS [0, 2, 3, 4, 5] [1] [1, 0, 2, 3, 4, 5] rfl rfl rfl rfl rfl rfl rfl rfl rfl rfl hl.1 rfl (Nat.le_of_ble_eq_true rfl) ⟨Nat.zero_le _, Nat.zero_le _⟩ d_M_hides_69 (fun H locs hP hD hS => ?_)
        refine lv_istore (lv' := [(7, .int q9.1), (6, .int ((m_kind q5.2) x1.toNatClampNeg)), (5, .int q5.1), (4, .int q3), (0, .ref a_h), (1, .int x1), (2, .int x2), (3, .int x3)]) hx hb d_M_hides_72 hl (by decide) rfl (fun ls hl => ?_)
        refine lv_aload_n hx hb d_M_hides_74 rfl (lv_at hl 4 rfl) ?_
        refine va_get hx hb hT i_M hown hK hP 0 rfl rfl 1 (Nat.le_of_ble_eq_true rfl) (hT _ k_759) (fun _ h => h) rfl d_M_hides_75 ?_
        refine lv_iload_n hx hb d_M_hides_78 rfl (lv_at hl 5 rfl) ?_
        refine lv_iload hx hb d_M_hides_79 (lv_at hl 1 rfl) ?_
        refine x_iast hx hb hK hP hD hS 2 0 rfl rfl (j := x1.toNatClampNeg) rfl c6 d_M_hides_81 (fun H locs hP hD hS => ?_)
        have hP : va_P D classes (w_M_hides cI cJ cC a_h a_h_refused a_h_kind a_h_sweets a_h_gives a_h_tape a_h_letter a_h_letterAt a_h_one a_h_two a_h_kept a_h_trail a_h_crumb a_h_nextCrumb a_h_goal a_h_start a_h_sits a_h_bestSits a_h_without a_h_row y_h_taped y_h_at y_h_statements y_h_hasImage y_h_beforeMany y_h_found y_h_lots y_h_rowMany (m_many q9.2) (m_odd q9.2) (m_step q9.2) (m_bag q9.2) (m_strokes q9.2) (m_gave q9.2) (m_threw q9.2) (m_isKeeping q9.2) (m_cursor q9.2) z_h_refused (upd (m_kind q9.2) x1.toNatClampNeg ((m_kind q5.2) x1.toNatClampNeg)) (m_sweets q9.2) (m_gives q9.2) (m_kept q9.2)) H := hP
        have hD : va_D A (w_M_hides cI cJ cC a_h a_h_refused a_h_kind a_h_sweets a_h_gives a_h_tape a_h_letter a_h_letterAt a_h_one a_h_two a_h_kept a_h_trail a_h_crumb a_h_nextCrumb a_h_goal a_h_start a_h_sits a_h_bestSits a_h_without a_h_row y_h_taped y_h_at y_h_statements y_h_hasImage y_h_beforeMany y_h_found y_h_lots y_h_rowMany (m_many q9.2) (m_odd q9.2) (m_step q9.2) (m_bag q9.2) (m_strokes q9.2) (m_gave q9.2) (m_threw q9.2) (m_isKeeping q9.2) (m_cursor q9.2) z_h_refused (upd (m_kind q9.2) x1.toNatClampNeg ((m_kind q5.2) x1.toNatClampNeg)) (m_sweets q9.2) (m_gives q9.2) (m_kept q9.2)) := hD
        refine lv_iload hx hb d_M_hides_82 (lv_at hl 0 rfl) ?_
        refine lv_iload hx hb d_M_hides_84 (lv_at hl 2 rfl) ?_
        refine lv_isub hx hb d_M_hides_86 ?_
        have hq := Option.some.inj hf
        subst hq
        exact hret _ _ _ _ _ d_M_hides_87 rfl rfl hP hD hS
    · have hf := io_f hf c4
      refine lv_aload_n hx hb d_M_hides_28 rfl (lv_at hl 1 rfl) ?_
      refine lv_iload hx hb d_M_hides_29 (lv_at hl 0 rfl) ?_
      obtain ⟨q10, hq10, hf⟩ := io_b hf
      refine xcVI (wc := (w_M_lower cI cJ cC a_h a_h_refused a_h_kind a_h_sweets a_h_gives a_h_tape a_h_letter a_h_letterAt a_h_one a_h_two a_h_kept a_h_trail a_h_crumb a_h_nextCrumb a_h_goal a_h_start a_h_sits a_h_bestSits a_h_without a_h_row (m_many z_h_T) (m_odd z_h_T) (m_step z_h_T) (m_bag z_h_T) (m_strokes z_h_T) (m_gave z_h_T) (m_threw z_h_T) y_h_taped y_h_at y_h_statements y_h_hasImage (m_isKeeping z_h_T) (m_cursor z_h_T) y_h_beforeMany y_h_found y_h_lots y_h_rowMany z_h_refused)) (wc' := (w_M_lower cI cJ cC a_h a_h_refused a_h_kind a_h_sweets a_h_gives a_h_tape a_h_letter a_h_letterAt a_h_one a_h_two a_h_kept a_h_trail a_h_crumb a_h_nextCrumb a_h_goal a_h_start a_h_sits a_h_bestSits a_h_without a_h_row (m_many z_h_T) (m_odd z_h_T) (m_step z_h_T) (m_bag z_h_T) (m_strokes z_h_T) (m_gave z_h_T) (m_threw z_h_T) y_h_taped y_h_at y_h_statements y_h_hasImage (m_isKeeping z_h_T) (m_cursor z_h_T) y_h_beforeMany y_h_found y_h_lots y_h_rowMany q10.2)) (ws' := (w_M_hides cI cJ cC a_h a_h_refused a_h_kind a_h_sweets a_h_gives a_h_tape a_h_letter a_h_letterAt a_h_one a_h_two a_h_kept a_h_trail a_h_crumb a_h_nextCrumb a_h_goal a_h_start a_h_sits a_h_bestSits a_h_without a_h_row y_h_taped y_h_at y_h_statements y_h_hasImage y_h_beforeMany y_h_found y_h_lots y_h_rowMany (m_many z_h_T) (m_odd z_h_T) (m_step z_h_T) (m_bag z_h_T) (m_strokes z_h_T) (m_gave z_h_T) (m_threw z_h_T) (m_isKeeping z_h_T) (m_cursor z_h_T) q10.2 (m_kind z_h_T) (m_sweets z_h_T) (m_gives z_h_T) (m_kept z_h_T))) (As := [.int q3]) (rest := []) hx hb hml hown hT (c_M_lower (z_h_refused := z_h_refused) a_h a_h_refused a_h_kind a_h_sweets a_h_gives a_h_tape a_h_letter a_h_letterAt a_h_one a_h_two a_h_kept a_h_trail a_h_crumb a_h_nextCrumb a_h_goal a_h_start a_h_sits a_h_bestSits a_h_without a_h_row (m_many z_h_T) (m_odd z_h_T) (m_step z_h_T) (m_bag z_h_T) (m_strokes z_h_T) (m_gave z_h_T) (m_threw z_h_T) y_h_taped y_h_at y_h_statements y_h_hasImage (m_isKeeping z_h_T) (m_cursor z_h_T) y_h_beforeMany y_h_found y_h_lots y_h_rowMany hq10) k_1100 k_1102 ks_54 k_8 k_1103 hd_M_lower ⟨Nat.le_of_ble_eq_true rfl, Nat.le_of_ble_eq_true rfl⟩ xE0_ok trivial hA hK hP hD hS [0, 1] [2, 3, 4, 5] [4, 5, 0, 1, 2, 3] rfl rfl rfl rfl rfl rfl rfl rfl rfl rfl hl.1 rfl (Nat.le_of_ble_eq_true rfl) ⟨Nat.zero_le _, Nat.zero_le _⟩ d_M_hides_31 (fun H locs hP hD hS => ?_)
      have hq := Option.some.inj hf
      subst hq
      exact hret _ _ _ _ _ d_M_hides_34 rfl rfl hP hD hS
  · have hf := io_t hf c2
    refine lv_aload_n hx hb d_M_hides_8 rfl (lv_at hl 0 rfl) ?_
    refine lv_iconst (v := (-1)) hx hb d_M_hides_9 (by decide) ?_
    obtain ⟨q11, hq11, hf⟩ := io_b hf
    refine xcVI (wc := (w_M_lower cI cJ cC a_h a_h_refused a_h_kind a_h_sweets a_h_gives a_h_tape a_h_letter a_h_letterAt a_h_one a_h_two a_h_kept a_h_trail a_h_crumb a_h_nextCrumb a_h_goal a_h_start a_h_sits a_h_bestSits a_h_without a_h_row (m_many z_h_T) (m_odd z_h_T) (m_step z_h_T) (m_bag z_h_T) (m_strokes z_h_T) (m_gave z_h_T) (m_threw z_h_T) y_h_taped y_h_at y_h_statements y_h_hasImage (m_isKeeping z_h_T) (m_cursor z_h_T) y_h_beforeMany y_h_found y_h_lots y_h_rowMany z_h_refused)) (wc' := (w_M_lower cI cJ cC a_h a_h_refused a_h_kind a_h_sweets a_h_gives a_h_tape a_h_letter a_h_letterAt a_h_one a_h_two a_h_kept a_h_trail a_h_crumb a_h_nextCrumb a_h_goal a_h_start a_h_sits a_h_bestSits a_h_without a_h_row (m_many z_h_T) (m_odd z_h_T) (m_step z_h_T) (m_bag z_h_T) (m_strokes z_h_T) (m_gave z_h_T) (m_threw z_h_T) y_h_taped y_h_at y_h_statements y_h_hasImage (m_isKeeping z_h_T) (m_cursor z_h_T) y_h_beforeMany y_h_found y_h_lots y_h_rowMany q11.2)) (ws' := (w_M_hides cI cJ cC a_h a_h_refused a_h_kind a_h_sweets a_h_gives a_h_tape a_h_letter a_h_letterAt a_h_one a_h_two a_h_kept a_h_trail a_h_crumb a_h_nextCrumb a_h_goal a_h_start a_h_sits a_h_bestSits a_h_without a_h_row y_h_taped y_h_at y_h_statements y_h_hasImage y_h_beforeMany y_h_found y_h_lots y_h_rowMany (m_many z_h_T) (m_odd z_h_T) (m_step z_h_T) (m_bag z_h_T) (m_strokes z_h_T) (m_gave z_h_T) (m_threw z_h_T) (m_isKeeping z_h_T) (m_cursor z_h_T) q11.2 (m_kind z_h_T) (m_sweets z_h_T) (m_gives z_h_T) (m_kept z_h_T))) (As := [.int (-1)]) (rest := []) hx hb hml hown hT (c_M_lower (z_h_refused := z_h_refused) a_h a_h_refused a_h_kind a_h_sweets a_h_gives a_h_tape a_h_letter a_h_letterAt a_h_one a_h_two a_h_kept a_h_trail a_h_crumb a_h_nextCrumb a_h_goal a_h_start a_h_sits a_h_bestSits a_h_without a_h_row (m_many z_h_T) (m_odd z_h_T) (m_step z_h_T) (m_bag z_h_T) (m_strokes z_h_T) (m_gave z_h_T) (m_threw z_h_T) y_h_taped y_h_at y_h_statements y_h_hasImage (m_isKeeping z_h_T) (m_cursor z_h_T) y_h_beforeMany y_h_found y_h_lots y_h_rowMany hq11) k_1100 k_1102 ks_54 k_8 k_1103 hd_M_lower ⟨Nat.le_of_ble_eq_true rfl, Nat.le_of_ble_eq_true rfl⟩ xE0_ok trivial hA hK hP hD hS [0, 1] [2, 3, 4, 5] [4, 5, 0, 1, 2, 3] rfl rfl rfl rfl rfl rfl rfl rfl rfl rfl hl.1 rfl (Nat.le_of_ble_eq_true rfl) ⟨Nat.zero_le _, Nat.zero_le _⟩ d_M_hides_10 (fun H locs hP hD hS => ?_)
    have hq := Option.some.inj hf
    subst hq
    exact hret _ _ _ _ _ d_M_hides_13 rfl rfl hP hD hS
abbrev w_M_felt (cI cJ cC : ClassId) (a_h a_h_refused a_h_kind a_h_sweets a_h_gives a_h_tape a_h_letter a_h_letterAt a_h_one a_h_two a_h_kept a_h_trail a_h_crumb a_h_nextCrumb a_h_goal a_h_start a_h_sits a_h_bestSits a_h_without a_h_row : Nat) (y_h_taped : Int32) (y_h_at : Int32) (y_h_statements : Int32) (y_h_hasImage : Int32) (y_h_beforeMany : Int32) (y_h_found : Int32) (y_h_lots : Int32) (y_h_rowMany : Int32) (p_h_many : Int32) (p_h_odd : Int32) (p_h_step : Int32) (p_h_bag : Int32) (p_h_strokes : Int32) (p_h_gave : Int32) (p_h_threw : Int32) (p_h_isKeeping : Int32) (p_h_cursor : Int32) (p_h_refused : (Nat → Int32)) (p_h_kind : (Nat → Int32)) (p_h_sweets : (Nat → Int32)) (p_h_gives : (Nat → Int32)) (p_h_kept : (Nat → Int32)) (p_h_trail : (Nat → Int32)) (p_h_without : (Nat → Int32)) : va_W := [(a_h, .inr (7, [.ref a_h_refused, .ref a_h_kind, .ref a_h_sweets, .ref a_h_gives, .int p_h_many, .int p_h_odd, .int p_h_step, .int p_h_bag, .int p_h_strokes, .int p_h_gave, .int p_h_threw, .ref a_h_tape, .ref a_h_letter, .ref a_h_letterAt, .ref a_h_one, .ref a_h_two, .int y_h_taped, .int y_h_at, .int y_h_statements, .ref a_h_kept, .int y_h_hasImage, .int p_h_isKeeping, .int p_h_cursor, .ref a_h_trail, .ref a_h_crumb, .ref a_h_nextCrumb, .ref a_h_goal, .ref a_h_start, .int y_h_beforeMany, .int y_h_found, .ref a_h_sits, .ref a_h_bestSits, .ref a_h_without, .int y_h_lots, .ref a_h_row, .int y_h_rowMany])), (a_h_refused, .inl (cI, (7, .inl p_h_refused))), (a_h_kind, .inl (cI, (8, .inl p_h_kind))), (a_h_sweets, .inl (cI, (8, .inl p_h_sweets))), (a_h_gives, .inl (cI, (8, .inl p_h_gives))), (a_h_kept, .inl (cI, (90, .inl p_h_kept))), (a_h_trail, .inl (cI, (1827, .inl p_h_trail))), (a_h_without, .inl (cI, (51, .inl p_h_without)))]
theorem d_M_felt_0 : decode b_M_felt 0 = .ok (.aload_n 0, 1) := by decide +kernel
theorem d_M_felt_1 : decode b_M_felt 1 = .ok (.iload_n 1, 1) := by decide +kernel
theorem d_M_felt_2 : decode b_M_felt 2 = .ok (.invokevirtual 168, 3) := by decide +kernel
theorem d_M_felt_5 : decode b_M_felt 5 = .ok (.ifCond .eq 11, 3) := by decide +kernel
theorem d_M_felt_8 : decode b_M_felt 8 = .ok (.aload_n 0, 1) := by decide +kernel
theorem d_M_felt_9 : decode b_M_felt 9 = .ok (.iload_n 2, 1) := by decide +kernel
theorem d_M_felt_10 : decode b_M_felt 10 = .ok (.invokevirtual 168, 3) := by decide +kernel
theorem d_M_felt_13 : decode b_M_felt 13 = .ok (.ifCond .ne 9, 3) := by decide +kernel
theorem d_M_felt_16 : decode b_M_felt 16 = .ok (.aload_n 0, 1) := by decide +kernel
theorem d_M_felt_17 : decode b_M_felt 17 = .ok (.iconst (-1), 1) := by decide +kernel
theorem d_M_felt_18 : decode b_M_felt 18 = .ok (.invokevirtual 88, 3) := by decide +kernel
theorem d_M_felt_21 : decode b_M_felt 21 = .ok (.ireturn, 1) := by decide +kernel
theorem d_M_felt_22 : decode b_M_felt 22 = .ok (.aload_n 0, 1) := by decide +kernel
theorem d_M_felt_23 : decode b_M_felt 23 = .ok (.bipush 50, 2) := by decide +kernel
theorem d_M_felt_25 : decode b_M_felt 25 = .ok (.invokevirtual 182, 3) := by decide +kernel
theorem d_M_felt_28 : decode b_M_felt 28 = .ok (.iconst 0, 1) := by decide +kernel
theorem d_M_felt_29 : decode b_M_felt 29 = .ok (.istore_n 3, 1) := by decide +kernel
theorem d_M_felt_30 : decode b_M_felt 30 = .ok (.iload_n 3, 1) := by decide +kernel
theorem d_M_felt_31 : decode b_M_felt 31 = .ok (.bipush 50, 2) := by decide +kernel
theorem d_M_felt_33 : decode b_M_felt 33 = .ok (.if_icmp .gt 26, 3) := by decide +kernel
theorem d_M_felt_36 : decode b_M_felt 36 = .ok (.aload_n 0, 1) := by decide +kernel
theorem d_M_felt_37 : decode b_M_felt 37 = .ok (.getfield 69, 3) := by decide +kernel
theorem d_M_felt_40 : decode b_M_felt 40 = .ok (.iload_n 3, 1) := by decide +kernel
theorem d_M_felt_41 : decode b_M_felt 41 = .ok (.aload_n 0, 1) := by decide +kernel
theorem d_M_felt_42 : decode b_M_felt 42 = .ok (.getfield 47, 3) := by decide +kernel
theorem d_M_felt_45 : decode b_M_felt 45 = .ok (.bipush 9, 2) := by decide +kernel
theorem d_M_felt_47 : decode b_M_felt 47 = .ok (.iload_n 3, 1) := by decide +kernel
theorem d_M_felt_48 : decode b_M_felt 48 = .ok (.imul, 1) := by decide +kernel
theorem d_M_felt_49 : decode b_M_felt 49 = .ok (.iload_n 1, 1) := by decide +kernel
theorem d_M_felt_50 : decode b_M_felt 50 = .ok (.iadd, 1) := by decide +kernel
theorem d_M_felt_51 : decode b_M_felt 51 = .ok (.iaload, 1) := by decide +kernel
theorem d_M_felt_52 : decode b_M_felt 52 = .ok (.iastore, 1) := by decide +kernel
theorem d_M_felt_53 : decode b_M_felt 53 = .ok (.iinc 3 1, 3) := by decide +kernel
theorem d_M_felt_56 : decode b_M_felt 56 = .ok (.goto (-26), 3) := by decide +kernel
theorem d_M_felt_59 : decode b_M_felt 59 = .ok (.aload_n 0, 1) := by decide +kernel
theorem d_M_felt_60 : decode b_M_felt 60 = .ok (.getfield 16, 3) := by decide +kernel
theorem d_M_felt_63 : decode b_M_felt 63 = .ok (.iload_n 2, 1) := by decide +kernel
theorem d_M_felt_64 : decode b_M_felt 64 = .ok (.iaload, 1) := by decide +kernel
theorem d_M_felt_65 : decode b_M_felt 65 = .ok (.istore_n 3, 1) := by decide +kernel
theorem d_M_felt_66 : decode b_M_felt 66 = .ok (.aload_n 0, 1) := by decide +kernel
theorem d_M_felt_67 : decode b_M_felt 67 = .ok (.getfield 16, 3) := by decide +kernel
theorem d_M_felt_70 : decode b_M_felt 70 = .ok (.iload_n 2, 1) := by decide +kernel
theorem d_M_felt_71 : decode b_M_felt 71 = .ok (.iload_n 3, 1) := by decide +kernel
theorem d_M_felt_72 : decode b_M_felt 72 = .ok (.iconst 1, 1) := by decide +kernel
theorem d_M_felt_73 : decode b_M_felt 73 = .ok (.iadd, 1) := by decide +kernel
theorem d_M_felt_74 : decode b_M_felt 74 = .ok (.invokestatic 152, 3) := by decide +kernel
theorem d_M_felt_77 : decode b_M_felt 77 = .ok (.iastore, 1) := by decide +kernel
theorem d_M_felt_78 : decode b_M_felt 78 = .ok (.aload_n 0, 1) := by decide +kernel
theorem d_M_felt_79 : decode b_M_felt 79 = .ok (.bipush 50, 2) := by decide +kernel
theorem d_M_felt_81 : decode b_M_felt 81 = .ok (.invokevirtual 182, 3) := by decide +kernel
theorem d_M_felt_84 : decode b_M_felt 84 = .ok (.aload_n 0, 1) := by decide +kernel
theorem d_M_felt_85 : decode b_M_felt 85 = .ok (.getfield 16, 3) := by decide +kernel
theorem d_M_felt_88 : decode b_M_felt 88 = .ok (.iload_n 2, 1) := by decide +kernel
theorem d_M_felt_89 : decode b_M_felt 89 = .ok (.iload_n 3, 1) := by decide +kernel
theorem d_M_felt_90 : decode b_M_felt 90 = .ok (.iastore, 1) := by decide +kernel
theorem d_M_felt_91 : decode b_M_felt 91 = .ok (.iconst 0, 1) := by decide +kernel
theorem d_M_felt_92 : decode b_M_felt 92 = .ok (.istore 4, 2) := by decide +kernel
theorem d_M_felt_94 : decode b_M_felt 94 = .ok (.iload 4, 2) := by decide +kernel
theorem d_M_felt_96 : decode b_M_felt 96 = .ok (.bipush 50, 2) := by decide +kernel
theorem d_M_felt_98 : decode b_M_felt 98 = .ok (.if_icmp .gt 34, 3) := by decide +kernel
theorem d_M_felt_101 : decode b_M_felt 101 = .ok (.aload_n 0, 1) := by decide +kernel
theorem d_M_felt_102 : decode b_M_felt 102 = .ok (.getfield 47, 3) := by decide +kernel
theorem d_M_felt_105 : decode b_M_felt 105 = .ok (.bipush 9, 2) := by decide +kernel
theorem d_M_felt_107 : decode b_M_felt 107 = .ok (.iload 4, 2) := by decide +kernel
theorem d_M_felt_109 : decode b_M_felt 109 = .ok (.imul, 1) := by decide +kernel
theorem d_M_felt_110 : decode b_M_felt 110 = .ok (.iload_n 1, 1) := by decide +kernel
theorem d_M_felt_111 : decode b_M_felt 111 = .ok (.iadd, 1) := by decide +kernel
theorem d_M_felt_112 : decode b_M_felt 112 = .ok (.iaload, 1) := by decide +kernel
theorem d_M_felt_113 : decode b_M_felt 113 = .ok (.aload_n 0, 1) := by decide +kernel
theorem d_M_felt_114 : decode b_M_felt 114 = .ok (.getfield 69, 3) := by decide +kernel
theorem d_M_felt_117 : decode b_M_felt 117 = .ok (.iload 4, 2) := by decide +kernel
theorem d_M_felt_119 : decode b_M_felt 119 = .ok (.iaload, 1) := by decide +kernel
theorem d_M_felt_120 : decode b_M_felt 120 = .ok (.if_icmp .eq 6, 3) := by decide +kernel
theorem d_M_felt_123 : decode b_M_felt 123 = .ok (.iload 4, 2) := by decide +kernel
theorem d_M_felt_125 : decode b_M_felt 125 = .ok (.ireturn, 1) := by decide +kernel
theorem d_M_felt_126 : decode b_M_felt 126 = .ok (.iinc 4 1, 3) := by decide +kernel
theorem d_M_felt_129 : decode b_M_felt 129 = .ok (.goto (-35), 3) := by decide +kernel
theorem d_M_felt_132 : decode b_M_felt 132 = .ok (.bipush (-9), 2) := by decide +kernel
theorem d_M_felt_134 : decode b_M_felt 134 = .ok (.ireturn, 1) := by decide +kernel
set_option maxHeartbeats 4000000 in
set_option maxRecDepth 100000 in
theorem c_M_felt {l : Launch} {D : va_G} {cI cJ cC : ClassId} (a_h a_h_refused a_h_kind a_h_sweets a_h_gives a_h_tape a_h_letter a_h_letterAt a_h_one a_h_two a_h_kept a_h_trail a_h_crumb a_h_nextCrumb a_h_goal a_h_start a_h_sits a_h_bestSits a_h_without a_h_row : Nat) (y_h_taped : Int32) (y_h_at : Int32) (y_h_statements : Int32) (y_h_hasImage : Int32) (y_h_beforeMany : Int32) (y_h_found : Int32) (y_h_lots : Int32) (y_h_rowMany : Int32) {z_h_T : MT} {z_h_refused : (Nat → Int32)} {z_h_trail : (Nat → Int32)} {z_h_without : (Nat → Int32)} {x1 : Int32} {x2 : Int32} {q : Int32 × MT × (Nat → Int32) × (Nat → Int32) × (Nat → Int32)} (hf : f_M_felt z_h_T z_h_refused z_h_trail z_h_without x1 x2 = some q) : xI l y_M_felt b_M_felt 5 .int 4 89 D (tyK cI cJ cC) xE0 [.ref a_h, .int x1, .int x2] (w_M_felt cI cJ cC a_h a_h_refused a_h_kind a_h_sweets a_h_gives a_h_tape a_h_letter a_h_letterAt a_h_one a_h_two a_h_kept a_h_trail a_h_crumb a_h_nextCrumb a_h_goal a_h_start a_h_sits a_h_bestSits a_h_without a_h_row y_h_taped y_h_at y_h_statements y_h_hasImage y_h_beforeMany y_h_found y_h_lots y_h_rowMany (m_many z_h_T) (m_odd z_h_T) (m_step z_h_T) (m_bag z_h_T) (m_strokes z_h_T) (m_gave z_h_T) (m_threw z_h_T) (m_isKeeping z_h_T) (m_cursor z_h_T) z_h_refused (m_kind z_h_T) (m_sweets z_h_T) (m_gives z_h_T) (m_kept z_h_T) z_h_trail z_h_without) q.1 (w_M_felt cI cJ cC a_h a_h_refused a_h_kind a_h_sweets a_h_gives a_h_tape a_h_letter a_h_letterAt a_h_one a_h_two a_h_kept a_h_trail a_h_crumb a_h_nextCrumb a_h_goal a_h_start a_h_sits a_h_bestSits a_h_without a_h_row y_h_taped y_h_at y_h_statements y_h_hasImage y_h_beforeMany y_h_found y_h_lots y_h_rowMany (m_many q.2.1) (m_odd q.2.1) (m_step q.2.1) (m_bag q.2.1) (m_strokes q.2.1) (m_gave q.2.1) (m_threw q.2.1) (m_isKeeping q.2.1) (m_cursor q.2.1) q.2.2.1 (m_kind q.2.1) (m_sweets q.2.1) (m_gives q.2.1) (m_kept q.2.1) q.2.2.2.1 q.2.2.2.2) := by
  refine xI_of (by decide) (Nat.le_of_ble_eq_true rfl) ?_
  intro p e s m args below meth c A Q hx hb hml hown hT hA hP hD hK hS hE hret ls hl
  have hown : s.vm.findClass R_M = some m.cls := hown
  have hl : lv_has ls 5 [(0, .ref a_h), (1, .int x1), (2, .int x2)] := hl
  unfold f_M_felt at hf
  have L30 : ∀ (z_h_T : MT) (z_h_refused : (Nat → Int32)) (z_h_trail : (Nat → Int32)) (k : (Nat → Int32) → Option (Int32 × MT × (Nat → Int32) × (Nat → Int32) × (Nat → Int32))), (∀ (z_h_without : (Nat → Int32)) (H : Heap) (locs : List Loc) (ls : Array Slot), k z_h_without = some q → va_P D classes (w_M_felt cI cJ cC a_h a_h_refused a_h_kind a_h_sweets a_h_gives a_h_tape a_h_letter a_h_letterAt a_h_one a_h_two a_h_kept a_h_trail a_h_crumb a_h_nextCrumb a_h_goal a_h_start a_h_sits a_h_bestSits a_h_without a_h_row y_h_taped y_h_at y_h_statements y_h_hasImage y_h_beforeMany y_h_found y_h_lots y_h_rowMany (m_many z_h_T) (m_odd z_h_T) (m_step z_h_T) (m_bag z_h_T) (m_strokes z_h_T) (m_gave z_h_T) (m_threw z_h_T) (m_isKeeping z_h_T) (m_cursor z_h_T) z_h_refused (m_kind z_h_T) (m_sweets z_h_T) (m_gives z_h_T) (m_kept z_h_T) z_h_trail z_h_without) H → va_D A (w_M_felt cI cJ cC a_h a_h_refused a_h_kind a_h_sweets a_h_gives a_h_tape a_h_letter a_h_letterAt a_h_one a_h_two a_h_kept a_h_trail a_h_crumb a_h_nextCrumb a_h_goal a_h_start a_h_sits a_h_bestSits a_h_without a_h_row y_h_taped y_h_at y_h_statements y_h_hasImage y_h_beforeMany y_h_found y_h_lots y_h_rowMany (m_many z_h_T) (m_odd z_h_T) (m_step z_h_T) (m_bag z_h_T) (m_strokes z_h_T) (m_gave z_h_T) (m_threw z_h_T) (m_isKeeping z_h_T) (m_cursor z_h_T) z_h_refused (m_kind z_h_T) (m_sweets z_h_T) (m_gives z_h_T) (m_kept z_h_T) z_h_trail z_h_without) → va_S A s.heap H locs → lv_has ls 5 [(0, .ref a_h), (1, .int x1), (2, .int x2)] → W p l e (xRm 4 89) s m args below meth c H locs 0 0 Q (F0 m 59 ls [])) → ∀ (n : Nat) (z_h_without : (Nat → Int32)) (x3 : Int32) (H : Heap) (locs : List Loc) (ls : Array Slot), f_M_felt_L30 z_h_trail x1 k n z_h_without x3 = some q → va_P D classes (w_M_felt cI cJ cC a_h a_h_refused a_h_kind a_h_sweets a_h_gives a_h_tape a_h_letter a_h_letterAt a_h_one a_h_two a_h_kept a_h_trail a_h_crumb a_h_nextCrumb a_h_goal a_h_start a_h_sits a_h_bestSits a_h_without a_h_row y_h_taped y_h_at y_h_statements y_h_hasImage y_h_beforeMany y_h_found y_h_lots y_h_rowMany (m_many z_h_T) (m_odd z_h_T) (m_step z_h_T) (m_bag z_h_T) (m_strokes z_h_T) (m_gave z_h_T) (m_threw z_h_T) (m_isKeeping z_h_T) (m_cursor z_h_T) z_h_refused (m_kind z_h_T) (m_sweets z_h_T) (m_gives z_h_T) (m_kept z_h_T) z_h_trail z_h_without) H → va_D A (w_M_felt cI cJ cC a_h a_h_refused a_h_kind a_h_sweets a_h_gives a_h_tape a_h_letter a_h_letterAt a_h_one a_h_two a_h_kept a_h_trail a_h_crumb a_h_nextCrumb a_h_goal a_h_start a_h_sits a_h_bestSits a_h_without a_h_row y_h_taped y_h_at y_h_statements y_h_hasImage y_h_beforeMany y_h_found y_h_lots y_h_rowMany (m_many z_h_T) (m_odd z_h_T) (m_step z_h_T) (m_bag z_h_T) (m_strokes z_h_T) (m_gave z_h_T) (m_threw z_h_T) (m_isKeeping z_h_T) (m_cursor z_h_T) z_h_refused (m_kind z_h_T) (m_sweets z_h_T) (m_gives z_h_T) (m_kept z_h_T) z_h_trail z_h_without) → va_S A s.heap H locs → lv_has ls 5 [(0, .ref a_h), (1, .int x1), (2, .int x2), (3, .int x3)] → W p l e (xRm 4 89) s m args below meth c H locs 0 0 Q (F0 m 30 ls []) := by
    intro z_h_T z_h_refused z_h_trail k hk n
    induction n with
    | zero => intro z_h_without x3 H locs ls hf hP hD hS hl; exact nomatch (show (none : Option (Int32 × MT × (Nat → Int32) × (Nat → Int32) × (Nat → Int32))) = some q from hf)
    | succ n ih =>
      intro z_h_without x3 H locs ls hf hP hD hS hl
      refine lv_iload_n hx hb d_M_felt_30 rfl (lv_at hl 3 rfl) ?_
      refine lv_bipush (v := 50) hx hb d_M_felt_31 (by decide) ?_
      refine lv_icmp_gt (tgt := 59) hx hb d_M_felt_33 (by decide) (fun c7 => ?_) (fun c7 => ?_)
      · have hf := io_t hf c7
        exact hk z_h_without _ _ _ hf hP hD hS (lv_sub hl [0, 1, 2] rfl)
      · have hf := io_f hf c7
        refine lv_aload_n hx hb d_M_felt_36 rfl (lv_at hl 0 rfl) ?_
        refine va_get hx hb hT i_M hown hK hP 0 rfl rfl 32 (Nat.le_of_ble_eq_true rfl) (hT _ k_790) (fun _ h => h) rfl d_M_felt_37 ?_
        refine lv_iload_n hx hb d_M_felt_40 rfl (lv_at hl 3 rfl) ?_
        refine lv_aload_n hx hb d_M_felt_41 rfl (lv_at hl 0 rfl) ?_
        refine va_get hx hb hT i_M hown hK hP 0 rfl rfl 23 (Nat.le_of_ble_eq_true rfl) (hT _ k_781) (fun _ h => h) rfl d_M_felt_42 ?_
        refine lv_bipush (v := 9) hx hb d_M_felt_45 (by decide) ?_
        refine lv_iload_n hx hb d_M_felt_47 rfl (lv_at hl 3 rfl) ?_
        refine lv_imul hx hb d_M_felt_48 ?_
        refine lv_iload_n hx hb d_M_felt_49 rfl (lv_at hl 1 rfl) ?_
        refine lv_iadd hx hb d_M_felt_50 ?_
        obtain ⟨c8, hf⟩ := io_n hf
        refine x_iald hx hb hK hP 6 0 rfl rfl (j := ((9 * x3) + x1).toNatClampNeg) rfl c8 d_M_felt_51 ?_
        obtain ⟨c9, hf⟩ := io_n hf
        refine x_iast hx hb hK hP hD hS 7 0 rfl rfl (j := x3.toNatClampNeg) rfl c9 d_M_felt_52 (fun H locs hP hD hS => ?_)
        have hP : va_P D classes (w_M_felt cI cJ cC a_h a_h_refused a_h_kind a_h_sweets a_h_gives a_h_tape a_h_letter a_h_letterAt a_h_one a_h_two a_h_kept a_h_trail a_h_crumb a_h_nextCrumb a_h_goal a_h_start a_h_sits a_h_bestSits a_h_without a_h_row y_h_taped y_h_at y_h_statements y_h_hasImage y_h_beforeMany y_h_found y_h_lots y_h_rowMany (m_many z_h_T) (m_odd z_h_T) (m_step z_h_T) (m_bag z_h_T) (m_strokes z_h_T) (m_gave z_h_T) (m_threw z_h_T) (m_isKeeping z_h_T) (m_cursor z_h_T) z_h_refused (m_kind z_h_T) (m_sweets z_h_T) (m_gives z_h_T) (m_kept z_h_T) z_h_trail (upd z_h_without x3.toNatClampNeg (z_h_trail ((9 * x3) + x1).toNatClampNeg))) H := hP
        have hD : va_D A (w_M_felt cI cJ cC a_h a_h_refused a_h_kind a_h_sweets a_h_gives a_h_tape a_h_letter a_h_letterAt a_h_one a_h_two a_h_kept a_h_trail a_h_crumb a_h_nextCrumb a_h_goal a_h_start a_h_sits a_h_bestSits a_h_without a_h_row y_h_taped y_h_at y_h_statements y_h_hasImage y_h_beforeMany y_h_found y_h_lots y_h_rowMany (m_many z_h_T) (m_odd z_h_T) (m_step z_h_T) (m_bag z_h_T) (m_strokes z_h_T) (m_gave z_h_T) (m_threw z_h_T) (m_isKeeping z_h_T) (m_cursor z_h_T) z_h_refused (m_kind z_h_T) (m_sweets z_h_T) (m_gives z_h_T) (m_kept z_h_T) z_h_trail (upd z_h_without x3.toNatClampNeg (z_h_trail ((9 * x3) + x1).toNatClampNeg))) := hD
        refine lv_iinc (v := (x3 + 1)) (lv' := [(3, .int (x3 + 1)), (0, .ref a_h), (1, .int x1), (2, .int x2)]) hx hb d_M_felt_53 hl (k := 3) rfl (by rfl) (by decide) rfl (fun ls hl => ?_)
        refine lv_goto (tgt := 30) hx hb d_M_felt_56 (by decide) ?_
        exact ih (upd z_h_without x3.toNatClampNeg (z_h_trail ((9 * x3) + x1).toNatClampNeg)) (x3 + 1) _ _ _ hf hP hD hS (lv_sub hl [1, 2, 3, 0] rfl)
  have L94 : ∀ (z_h_T : MT) (z_h_refused : (Nat → Int32)) (z_h_trail : (Nat → Int32)) (z_h_without : (Nat → Int32)), ∀ (n : Nat) (x4 : Int32) (H : Heap) (locs : List Loc) (ls : Array Slot), f_M_felt_L94 z_h_T z_h_refused z_h_trail z_h_without x1 n x4 = some q → va_P D classes (w_M_felt cI cJ cC a_h a_h_refused a_h_kind a_h_sweets a_h_gives a_h_tape a_h_letter a_h_letterAt a_h_one a_h_two a_h_kept a_h_trail a_h_crumb a_h_nextCrumb a_h_goal a_h_start a_h_sits a_h_bestSits a_h_without a_h_row y_h_taped y_h_at y_h_statements y_h_hasImage y_h_beforeMany y_h_found y_h_lots y_h_rowMany (m_many z_h_T) (m_odd z_h_T) (m_step z_h_T) (m_bag z_h_T) (m_strokes z_h_T) (m_gave z_h_T) (m_threw z_h_T) (m_isKeeping z_h_T) (m_cursor z_h_T) z_h_refused (m_kind z_h_T) (m_sweets z_h_T) (m_gives z_h_T) (m_kept z_h_T) z_h_trail z_h_without) H → va_D A (w_M_felt cI cJ cC a_h a_h_refused a_h_kind a_h_sweets a_h_gives a_h_tape a_h_letter a_h_letterAt a_h_one a_h_two a_h_kept a_h_trail a_h_crumb a_h_nextCrumb a_h_goal a_h_start a_h_sits a_h_bestSits a_h_without a_h_row y_h_taped y_h_at y_h_statements y_h_hasImage y_h_beforeMany y_h_found y_h_lots y_h_rowMany (m_many z_h_T) (m_odd z_h_T) (m_step z_h_T) (m_bag z_h_T) (m_strokes z_h_T) (m_gave z_h_T) (m_threw z_h_T) (m_isKeeping z_h_T) (m_cursor z_h_T) z_h_refused (m_kind z_h_T) (m_sweets z_h_T) (m_gives z_h_T) (m_kept z_h_T) z_h_trail z_h_without) → va_S A s.heap H locs → lv_has ls 5 [(0, .ref a_h), (1, .int x1), (4, .int x4)] → W p l e (xRm 4 89) s m args below meth c H locs 0 0 Q (F0 m 94 ls []) := by
    intro z_h_T z_h_refused z_h_trail z_h_without n
    induction n with
    | zero => intro x4 H locs ls hf hP hD hS hl; exact nomatch (show (none : Option (Int32 × MT × (Nat → Int32) × (Nat → Int32) × (Nat → Int32))) = some q from hf)
    | succ n ih =>
      intro x4 H locs ls hf hP hD hS hl
      refine lv_iload hx hb d_M_felt_94 (lv_at hl 2 rfl) ?_
      refine lv_bipush (v := 50) hx hb d_M_felt_96 (by decide) ?_
      refine lv_icmp_gt (tgt := 132) hx hb d_M_felt_98 (by decide) (fun c14 => ?_) (fun c14 => ?_)
      · have hf := io_t hf c14
        refine lv_bipush (v := (-9)) hx hb d_M_felt_132 (by decide) ?_
        have hq := Option.some.inj hf
        subst hq
        exact hret _ _ _ _ _ d_M_felt_134 rfl rfl hP hD hS
      · have hf := io_f hf c14
        refine lv_aload_n hx hb d_M_felt_101 rfl (lv_at hl 0 rfl) ?_
        refine va_get hx hb hT i_M hown hK hP 0 rfl rfl 23 (Nat.le_of_ble_eq_true rfl) (hT _ k_781) (fun _ h => h) rfl d_M_felt_102 ?_
        refine lv_bipush (v := 9) hx hb d_M_felt_105 (by decide) ?_
        refine lv_iload hx hb d_M_felt_107 (lv_at hl 2 rfl) ?_
        refine lv_imul hx hb d_M_felt_109 ?_
        refine lv_iload_n hx hb d_M_felt_110 rfl (lv_at hl 1 rfl) ?_
        refine lv_iadd hx hb d_M_felt_111 ?_
        obtain ⟨c15, hf⟩ := io_n hf
        refine x_iald hx hb hK hP 6 0 rfl rfl (j := ((9 * x4) + x1).toNatClampNeg) rfl c15 d_M_felt_112 ?_
        refine lv_aload_n hx hb d_M_felt_113 rfl (lv_at hl 0 rfl) ?_
        refine va_get hx hb hT i_M hown hK hP 0 rfl rfl 32 (Nat.le_of_ble_eq_true rfl) (hT _ k_790) (fun _ h => h) rfl d_M_felt_114 ?_
        refine lv_iload hx hb d_M_felt_117 (lv_at hl 2 rfl) ?_
        obtain ⟨c16, hf⟩ := io_n hf
        refine x_iald hx hb hK hP 7 0 rfl rfl (j := x4.toNatClampNeg) rfl c16 d_M_felt_119 ?_
        refine lv_icmp_eq (tgt := 126) hx hb d_M_felt_120 (by decide) (fun c17 => ?_) (fun c17 => ?_)
        · have hf := io_t hf c17
          refine lv_iinc (v := (x4 + 1)) (lv' := [(4, .int (x4 + 1)), (0, .ref a_h), (1, .int x1)]) hx hb d_M_felt_126 hl (k := 2) rfl (by rfl) (by decide) rfl (fun ls hl => ?_)
          refine lv_goto (tgt := 94) hx hb d_M_felt_129 (by decide) ?_
          exact ih (x4 + 1) _ _ _ hf hP hD hS (lv_sub hl [1, 2, 0] rfl)
        · have hf := io_f hf c17
          refine lv_iload hx hb d_M_felt_123 (lv_at hl 2 rfl) ?_
          have hq := Option.some.inj hf
          subst hq
          exact hret _ _ _ _ _ d_M_felt_125 rfl rfl hP hD hS
  refine lv_aload_n hx hb d_M_felt_0 rfl (lv_at hl 0 rfl) ?_
  refine lv_iload_n hx hb d_M_felt_1 rfl (lv_at hl 1 rfl) ?_
  obtain ⟨q1, hq1, hf⟩ := io_b hf
  refine xcVI (wc := (w_M_isChild cI cJ cC a_h a_h_refused a_h_kind a_h_sweets a_h_gives a_h_tape a_h_letter a_h_letterAt a_h_one a_h_two a_h_kept a_h_trail a_h_crumb a_h_nextCrumb a_h_goal a_h_start a_h_sits a_h_bestSits a_h_without a_h_row y_h_taped y_h_at y_h_statements y_h_hasImage y_h_beforeMany y_h_found y_h_lots y_h_rowMany (m_many z_h_T) (m_odd z_h_T) (m_step z_h_T) (m_bag z_h_T) (m_strokes z_h_T) (m_gave z_h_T) (m_threw z_h_T) (m_isKeeping z_h_T) (m_cursor z_h_T))) (wc' := (w_M_isChild cI cJ cC a_h a_h_refused a_h_kind a_h_sweets a_h_gives a_h_tape a_h_letter a_h_letterAt a_h_one a_h_two a_h_kept a_h_trail a_h_crumb a_h_nextCrumb a_h_goal a_h_start a_h_sits a_h_bestSits a_h_without a_h_row y_h_taped y_h_at y_h_statements y_h_hasImage y_h_beforeMany y_h_found y_h_lots y_h_rowMany (m_many z_h_T) (m_odd z_h_T) (m_step z_h_T) (m_bag z_h_T) (m_strokes z_h_T) (m_gave z_h_T) (m_threw z_h_T) (m_isKeeping z_h_T) (m_cursor z_h_T))) (ws' := (w_M_felt cI cJ cC a_h a_h_refused a_h_kind a_h_sweets a_h_gives a_h_tape a_h_letter a_h_letterAt a_h_one a_h_two a_h_kept a_h_trail a_h_crumb a_h_nextCrumb a_h_goal a_h_start a_h_sits a_h_bestSits a_h_without a_h_row y_h_taped y_h_at y_h_statements y_h_hasImage y_h_beforeMany y_h_found y_h_lots y_h_rowMany (m_many z_h_T) (m_odd z_h_T) (m_step z_h_T) (m_bag z_h_T) (m_strokes z_h_T) (m_gave z_h_T) (m_threw z_h_T) (m_isKeeping z_h_T) (m_cursor z_h_T) z_h_refused (m_kind z_h_T) (m_sweets z_h_T) (m_gives z_h_T) (m_kept z_h_T) z_h_trail z_h_without)) (As := [.int x1]) (rest := []) hx hb hml hown hT (c_M_isChild (z_h_T := z_h_T) a_h a_h_refused a_h_kind a_h_sweets a_h_gives a_h_tape a_h_letter a_h_letterAt a_h_one a_h_two a_h_kept a_h_trail a_h_crumb a_h_nextCrumb a_h_goal a_h_start a_h_sits a_h_bestSits a_h_without a_h_row y_h_taped y_h_at y_h_statements y_h_hasImage y_h_beforeMany y_h_found y_h_lots y_h_rowMany hq1) k_924 k_926 ks_31 k_8 k_927 hd_M_isChild ⟨Nat.le_of_ble_eq_true rfl, Nat.le_of_ble_eq_true rfl⟩ xE0_ok trivial hA hK hP hD hS [0] [1, 2, 3, 4, 5, 6, 7] [7, 0, 1, 2, 3, 4, 5, 6] rfl rfl rfl rfl rfl rfl rfl rfl rfl rfl hl.1 rfl (Nat.le_of_ble_eq_true rfl) ⟨Nat.zero_le _, Nat.zero_le _⟩ d_M_felt_2 (fun H locs hP hD hS => ?_)
  refine lv_if_eq (tgt := 16) hx hb d_M_felt_5 (by decide) (fun c2 => ?_) (fun c2 => ?_)
  · have hf := io_t hf c2
    refine lv_aload_n hx hb d_M_felt_16 rfl (lv_at hl 0 rfl) ?_
    refine lv_iconst (v := (-1)) hx hb d_M_felt_17 (by decide) ?_
    obtain ⟨q3, hq3, hf⟩ := io_b hf
    refine xcVI (wc := (w_M_no cI cJ cC a_h a_h_refused a_h_kind a_h_sweets a_h_gives a_h_tape a_h_letter a_h_letterAt a_h_one a_h_two a_h_kept a_h_trail a_h_crumb a_h_nextCrumb a_h_goal a_h_start a_h_sits a_h_bestSits a_h_without a_h_row (m_many z_h_T) (m_odd z_h_T) (m_step z_h_T) (m_bag z_h_T) (m_strokes z_h_T) (m_gave z_h_T) (m_threw z_h_T) y_h_taped y_h_at y_h_statements y_h_hasImage (m_isKeeping z_h_T) (m_cursor z_h_T) y_h_beforeMany y_h_found y_h_lots y_h_rowMany z_h_refused)) (wc' := (w_M_no cI cJ cC a_h a_h_refused a_h_kind a_h_sweets a_h_gives a_h_tape a_h_letter a_h_letterAt a_h_one a_h_two a_h_kept a_h_trail a_h_crumb a_h_nextCrumb a_h_goal a_h_start a_h_sits a_h_bestSits a_h_without a_h_row (m_many z_h_T) (m_odd z_h_T) (m_step z_h_T) (m_bag z_h_T) (m_strokes z_h_T) (m_gave z_h_T) (m_threw z_h_T) y_h_taped y_h_at y_h_statements y_h_hasImage (m_isKeeping z_h_T) (m_cursor z_h_T) y_h_beforeMany y_h_found y_h_lots y_h_rowMany q3.2)) (ws' := (w_M_felt cI cJ cC a_h a_h_refused a_h_kind a_h_sweets a_h_gives a_h_tape a_h_letter a_h_letterAt a_h_one a_h_two a_h_kept a_h_trail a_h_crumb a_h_nextCrumb a_h_goal a_h_start a_h_sits a_h_bestSits a_h_without a_h_row y_h_taped y_h_at y_h_statements y_h_hasImage y_h_beforeMany y_h_found y_h_lots y_h_rowMany (m_many z_h_T) (m_odd z_h_T) (m_step z_h_T) (m_bag z_h_T) (m_strokes z_h_T) (m_gave z_h_T) (m_threw z_h_T) (m_isKeeping z_h_T) (m_cursor z_h_T) q3.2 (m_kind z_h_T) (m_sweets z_h_T) (m_gives z_h_T) (m_kept z_h_T) z_h_trail z_h_without)) (As := [.int (-1)]) (rest := []) hx hb hml hown hT (c_M_no (z_h_refused := z_h_refused) a_h a_h_refused a_h_kind a_h_sweets a_h_gives a_h_tape a_h_letter a_h_letterAt a_h_one a_h_two a_h_kept a_h_trail a_h_crumb a_h_nextCrumb a_h_goal a_h_start a_h_sits a_h_bestSits a_h_without a_h_row (m_many z_h_T) (m_odd z_h_T) (m_step z_h_T) (m_bag z_h_T) (m_strokes z_h_T) (m_gave z_h_T) (m_threw z_h_T) y_h_taped y_h_at y_h_statements y_h_hasImage (m_isKeeping z_h_T) (m_cursor z_h_T) y_h_beforeMany y_h_found y_h_lots y_h_rowMany hq3) k_874 k_876 ks_24 k_8 k_877 hd_M_no ⟨Nat.le_of_ble_eq_true rfl, Nat.le_of_ble_eq_true rfl⟩ xE0_ok trivial hA hK hP hD hS [0, 1] [2, 3, 4, 5, 6, 7] [6, 7, 0, 1, 2, 3, 4, 5] rfl rfl rfl rfl rfl rfl rfl rfl rfl rfl hl.1 rfl (Nat.le_of_ble_eq_true rfl) ⟨Nat.zero_le _, Nat.zero_le _⟩ d_M_felt_18 (fun H locs hP hD hS => ?_)
    have hq := Option.some.inj hf
    subst hq
    exact hret _ _ _ _ _ d_M_felt_21 rfl rfl hP hD hS
  · have hf := io_f hf c2
    refine lv_aload_n hx hb d_M_felt_8 rfl (lv_at hl 0 rfl) ?_
    refine lv_iload_n hx hb d_M_felt_9 rfl (lv_at hl 2 rfl) ?_
    obtain ⟨q4, hq4, hf⟩ := io_b hf
    refine xcVI (wc := (w_M_isChild cI cJ cC a_h a_h_refused a_h_kind a_h_sweets a_h_gives a_h_tape a_h_letter a_h_letterAt a_h_one a_h_two a_h_kept a_h_trail a_h_crumb a_h_nextCrumb a_h_goal a_h_start a_h_sits a_h_bestSits a_h_without a_h_row y_h_taped y_h_at y_h_statements y_h_hasImage y_h_beforeMany y_h_found y_h_lots y_h_rowMany (m_many z_h_T) (m_odd z_h_T) (m_step z_h_T) (m_bag z_h_T) (m_strokes z_h_T) (m_gave z_h_T) (m_threw z_h_T) (m_isKeeping z_h_T) (m_cursor z_h_T))) (wc' := (w_M_isChild cI cJ cC a_h a_h_refused a_h_kind a_h_sweets a_h_gives a_h_tape a_h_letter a_h_letterAt a_h_one a_h_two a_h_kept a_h_trail a_h_crumb a_h_nextCrumb a_h_goal a_h_start a_h_sits a_h_bestSits a_h_without a_h_row y_h_taped y_h_at y_h_statements y_h_hasImage y_h_beforeMany y_h_found y_h_lots y_h_rowMany (m_many z_h_T) (m_odd z_h_T) (m_step z_h_T) (m_bag z_h_T) (m_strokes z_h_T) (m_gave z_h_T) (m_threw z_h_T) (m_isKeeping z_h_T) (m_cursor z_h_T))) (ws' := (w_M_felt cI cJ cC a_h a_h_refused a_h_kind a_h_sweets a_h_gives a_h_tape a_h_letter a_h_letterAt a_h_one a_h_two a_h_kept a_h_trail a_h_crumb a_h_nextCrumb a_h_goal a_h_start a_h_sits a_h_bestSits a_h_without a_h_row y_h_taped y_h_at y_h_statements y_h_hasImage y_h_beforeMany y_h_found y_h_lots y_h_rowMany (m_many z_h_T) (m_odd z_h_T) (m_step z_h_T) (m_bag z_h_T) (m_strokes z_h_T) (m_gave z_h_T) (m_threw z_h_T) (m_isKeeping z_h_T) (m_cursor z_h_T) z_h_refused (m_kind z_h_T) (m_sweets z_h_T) (m_gives z_h_T) (m_kept z_h_T) z_h_trail z_h_without)) (As := [.int x2]) (rest := []) hx hb hml hown hT (c_M_isChild (z_h_T := z_h_T) a_h a_h_refused a_h_kind a_h_sweets a_h_gives a_h_tape a_h_letter a_h_letterAt a_h_one a_h_two a_h_kept a_h_trail a_h_crumb a_h_nextCrumb a_h_goal a_h_start a_h_sits a_h_bestSits a_h_without a_h_row y_h_taped y_h_at y_h_statements y_h_hasImage y_h_beforeMany y_h_found y_h_lots y_h_rowMany hq4) k_924 k_926 ks_31 k_8 k_927 hd_M_isChild ⟨Nat.le_of_ble_eq_true rfl, Nat.le_of_ble_eq_true rfl⟩ xE0_ok trivial hA hK hP hD hS [0] [1, 2, 3, 4, 5, 6, 7] [7, 0, 1, 2, 3, 4, 5, 6] rfl rfl rfl rfl rfl rfl rfl rfl rfl rfl hl.1 rfl (Nat.le_of_ble_eq_true rfl) ⟨Nat.zero_le _, Nat.zero_le _⟩ d_M_felt_10 (fun H locs hP hD hS => ?_)
    refine lv_if_ne (tgt := 22) hx hb d_M_felt_13 (by decide) (fun c5 => ?_) (fun c5 => ?_)
    · have hf := io_f hf c5
      refine lv_aload_n hx hb d_M_felt_22 rfl (lv_at hl 0 rfl) ?_
      refine lv_bipush (v := 50) hx hb d_M_felt_23 (by decide) ?_
      obtain ⟨q6, hq6, hf⟩ := io_b hf
      refine xcVV (wc := (w_M_writesTrail cI cJ cC a_h a_h_refused a_h_kind a_h_sweets a_h_gives a_h_tape a_h_letter a_h_letterAt a_h_one a_h_two a_h_kept a_h_trail a_h_crumb a_h_nextCrumb a_h_goal a_h_start a_h_sits a_h_bestSits a_h_without a_h_row y_h_taped y_h_at y_h_statements y_h_hasImage y_h_beforeMany y_h_found y_h_lots y_h_rowMany (m_many z_h_T) (m_odd z_h_T) (m_step z_h_T) (m_bag z_h_T) (m_strokes z_h_T) (m_gave z_h_T) (m_threw z_h_T) (m_isKeeping z_h_T) (m_cursor z_h_T) (m_kind z_h_T) (m_sweets z_h_T) (m_gives z_h_T) (m_kept z_h_T) z_h_trail)) (wc' := (w_M_writesTrail cI cJ cC a_h a_h_refused a_h_kind a_h_sweets a_h_gives a_h_tape a_h_letter a_h_letterAt a_h_one a_h_two a_h_kept a_h_trail a_h_crumb a_h_nextCrumb a_h_goal a_h_start a_h_sits a_h_bestSits a_h_without a_h_row y_h_taped y_h_at y_h_statements y_h_hasImage y_h_beforeMany y_h_found y_h_lots y_h_rowMany (m_many q6.1) (m_odd q6.1) (m_step q6.1) (m_bag q6.1) (m_strokes q6.1) (m_gave q6.1) (m_threw q6.1) (m_isKeeping q6.1) (m_cursor q6.1) (m_kind q6.1) (m_sweets q6.1) (m_gives q6.1) (m_kept q6.1) q6.2)) (ws' := (w_M_felt cI cJ cC a_h a_h_refused a_h_kind a_h_sweets a_h_gives a_h_tape a_h_letter a_h_letterAt a_h_one a_h_two a_h_kept a_h_trail a_h_crumb a_h_nextCrumb a_h_goal a_h_start a_h_sits a_h_bestSits a_h_without a_h_row y_h_taped y_h_at y_h_statements y_h_hasImage y_h_beforeMany y_h_found y_h_lots y_h_rowMany (m_many q6.1) (m_odd q6.1) (m_step q6.1) (m_bag q6.1) (m_strokes q6.1) (m_gave q6.1) (m_threw q6.1) (m_isKeeping q6.1) (m_cursor q6.1) z_h_refused (m_kind q6.1) (m_sweets q6.1) (m_gives q6.1) (m_kept q6.1) q6.2 z_h_without)) (As := [.int 50]) (rest := []) hx hb hml hown hT (c_M_writesTrail (z_h_T := z_h_T) (z_h_trail := z_h_trail) a_h a_h_refused a_h_kind a_h_sweets a_h_gives a_h_tape a_h_letter a_h_letterAt a_h_one a_h_two a_h_kept a_h_trail a_h_crumb a_h_nextCrumb a_h_goal a_h_start a_h_sits a_h_bestSits a_h_without a_h_row y_h_taped y_h_at y_h_statements y_h_hasImage y_h_beforeMany y_h_found y_h_lots y_h_rowMany hq6) k_995 k_997 ks_40 k_8 k_998 hd_M_writesTrail ⟨Nat.le_of_ble_eq_true rfl, Nat.le_of_ble_eq_true rfl⟩ xE0_ok trivial hA hK hP hD hS [0, 2, 3, 4, 5, 6] [1, 7] [2, 0, 3, 4, 5, 6, 7, 1] rfl rfl rfl rfl rfl rfl rfl rfl rfl rfl hl.1 rfl (Nat.le_of_ble_eq_true rfl) ⟨Nat.zero_le _, Nat.zero_le _⟩ d_M_felt_25 (fun H locs hP hD hS => ?_)
      refine lv_iconst (v := 0) hx hb d_M_felt_28 (by decide) ?_
      refine lv_istore_n (lv' := [(3, .int 0), (0, .ref a_h), (1, .int x1), (2, .int x2)]) hx hb d_M_felt_29 rfl hl (by decide) rfl (fun ls hl => ?_)
      refine L30 q6.1 z_h_refused q6.2 _ (fun z_h_without_10 H locs ls hf hP hD hS hl => ?_) FU z_h_without 0 _ _ _ hf hP hD hS (lv_sub hl [1, 2, 3, 0] rfl)
      refine lv_aload_n hx hb d_M_felt_59 rfl (lv_at hl 0 rfl) ?_
      refine va_get hx hb hT i_M hown hK hP 0 rfl rfl 2 (Nat.le_of_ble_eq_true rfl) (hT _ k_760) (fun _ h => h) rfl d_M_felt_60 ?_
      refine lv_iload_n hx hb d_M_felt_63 rfl (lv_at hl 2 rfl) ?_
      obtain ⟨c11, hf⟩ := io_n hf
      refine x_iald hx hb hK hP 3 0 rfl rfl (j := x2.toNatClampNeg) rfl c11 d_M_felt_64 ?_
      refine lv_istore_n (lv' := [(3, .int ((m_sweets q6.1) x2.toNatClampNeg)), (0, .ref a_h), (1, .int x1), (2, .int x2)]) hx hb d_M_felt_65 rfl hl (by decide) rfl (fun ls hl => ?_)
      refine lv_aload_n hx hb d_M_felt_66 rfl (lv_at hl 1 rfl) ?_
      refine va_get hx hb hT i_M hown hK hP 0 rfl rfl 2 (Nat.le_of_ble_eq_true rfl) (hT _ k_760) (fun _ h => h) rfl d_M_felt_67 ?_
      refine lv_iload_n hx hb d_M_felt_70 rfl (lv_at hl 3 rfl) ?_
      refine lv_iload_n hx hb d_M_felt_71 rfl (lv_at hl 0 rfl) ?_
      refine lv_iconst (v := 1) hx hb d_M_felt_72 (by decide) ?_
      refine lv_iadd hx hb d_M_felt_73 ?_
      obtain ⟨q12, hq12, hf⟩ := io_b hf
      refine xcSI (wc := []) (wc' := []) (ws' := (w_M_felt cI cJ cC a_h a_h_refused a_h_kind a_h_sweets a_h_gives a_h_tape a_h_letter a_h_letterAt a_h_one a_h_two a_h_kept a_h_trail a_h_crumb a_h_nextCrumb a_h_goal a_h_start a_h_sits a_h_bestSits a_h_without a_h_row y_h_taped y_h_at y_h_statements y_h_hasImage y_h_beforeMany y_h_found y_h_lots y_h_rowMany (m_many q6.1) (m_odd q6.1) (m_step q6.1) (m_bag q6.1) (m_strokes q6.1) (m_gave q6.1) (m_threw q6.1) (m_isKeeping q6.1) (m_cursor q6.1) z_h_refused (m_kind q6.1) (m_sweets q6.1) (m_gives q6.1) (m_kept q6.1) q6.2 z_h_without_10)) (As := [.int (((m_sweets q6.1) x2.toNatClampNeg) + 1)]) (rest := [.int x2, .ref a_h_sweets]) hx hb hml hown hT (c_M_held hq12) k_976 k_977 k_8 k_978 hd_M_held ⟨Nat.le_of_ble_eq_true rfl, Nat.le_of_ble_eq_true rfl⟩ xE0_ok trivial hA hK hP hD hS [] [0, 1, 2, 3, 4, 5, 6, 7] [0, 1, 2, 3, 4, 5, 6, 7] rfl rfl rfl rfl rfl rfl rfl hl.1 rfl (Nat.le_of_ble_eq_true rfl) ⟨Nat.zero_le _, Nat.zero_le _⟩ d_M_felt_74 (fun H locs hP hD hS => ?_)
      refine x_iast hx hb hK hP hD hS 3 0 rfl rfl (j := x2.toNatClampNeg) rfl c11 d_M_felt_77 (fun H locs hP hD hS => ?_)
      have hP : va_P D classes (w_M_felt cI cJ cC a_h a_h_refused a_h_kind a_h_sweets a_h_gives a_h_tape a_h_letter a_h_letterAt a_h_one a_h_two a_h_kept a_h_trail a_h_crumb a_h_nextCrumb a_h_goal a_h_start a_h_sits a_h_bestSits a_h_without a_h_row y_h_taped y_h_at y_h_statements y_h_hasImage y_h_beforeMany y_h_found y_h_lots y_h_rowMany (m_many q6.1) (m_odd q6.1) (m_step q6.1) (m_bag q6.1) (m_strokes q6.1) (m_gave q6.1) (m_threw q6.1) (m_isKeeping q6.1) (m_cursor q6.1) z_h_refused (m_kind q6.1) (upd (m_sweets q6.1) x2.toNatClampNeg q12) (m_gives q6.1) (m_kept q6.1) q6.2 z_h_without_10) H := hP
      have hD : va_D A (w_M_felt cI cJ cC a_h a_h_refused a_h_kind a_h_sweets a_h_gives a_h_tape a_h_letter a_h_letterAt a_h_one a_h_two a_h_kept a_h_trail a_h_crumb a_h_nextCrumb a_h_goal a_h_start a_h_sits a_h_bestSits a_h_without a_h_row y_h_taped y_h_at y_h_statements y_h_hasImage y_h_beforeMany y_h_found y_h_lots y_h_rowMany (m_many q6.1) (m_odd q6.1) (m_step q6.1) (m_bag q6.1) (m_strokes q6.1) (m_gave q6.1) (m_threw q6.1) (m_isKeeping q6.1) (m_cursor q6.1) z_h_refused (m_kind q6.1) (upd (m_sweets q6.1) x2.toNatClampNeg q12) (m_gives q6.1) (m_kept q6.1) q6.2 z_h_without_10) := hD
      refine lv_aload_n hx hb d_M_felt_78 rfl (lv_at hl 1 rfl) ?_
      refine lv_bipush (v := 50) hx hb d_M_felt_79 (by decide) ?_
      obtain ⟨q13, hq13, hf⟩ := io_b hf
      refine xcVV (wc := (w_M_writesTrail cI cJ cC a_h a_h_refused a_h_kind a_h_sweets a_h_gives a_h_tape a_h_letter a_h_letterAt a_h_one a_h_two a_h_kept a_h_trail a_h_crumb a_h_nextCrumb a_h_goal a_h_start a_h_sits a_h_bestSits a_h_without a_h_row y_h_taped y_h_at y_h_statements y_h_hasImage y_h_beforeMany y_h_found y_h_lots y_h_rowMany (m_many q6.1) (m_odd q6.1) (m_step q6.1) (m_bag q6.1) (m_strokes q6.1) (m_gave q6.1) (m_threw q6.1) (m_isKeeping q6.1) (m_cursor q6.1) (m_kind q6.1) (upd (m_sweets q6.1) x2.toNatClampNeg q12) (m_gives q6.1) (m_kept q6.1) q6.2)) (wc' := (w_M_writesTrail cI cJ cC a_h a_h_refused a_h_kind a_h_sweets a_h_gives a_h_tape a_h_letter a_h_letterAt a_h_one a_h_two a_h_kept a_h_trail a_h_crumb a_h_nextCrumb a_h_goal a_h_start a_h_sits a_h_bestSits a_h_without a_h_row y_h_taped y_h_at y_h_statements y_h_hasImage y_h_beforeMany y_h_found y_h_lots y_h_rowMany (m_many q13.1) (m_odd q13.1) (m_step q13.1) (m_bag q13.1) (m_strokes q13.1) (m_gave q13.1) (m_threw q13.1) (m_isKeeping q13.1) (m_cursor q13.1) (m_kind q13.1) (m_sweets q13.1) (m_gives q13.1) (m_kept q13.1) q13.2)) (ws' := (w_M_felt cI cJ cC a_h a_h_refused a_h_kind a_h_sweets a_h_gives a_h_tape a_h_letter a_h_letterAt a_h_one a_h_two a_h_kept a_h_trail a_h_crumb a_h_nextCrumb a_h_goal a_h_start a_h_sits a_h_bestSits a_h_without a_h_row y_h_taped y_h_at y_h_statements y_h_hasImage y_h_beforeMany y_h_found y_h_lots y_h_rowMany (m_many q13.1) (m_odd q13.1) (m_step q13.1) (m_bag q13.1) (m_strokes q13.1) (m_gave q13.1) (m_threw q13.1) (m_isKeeping q13.1) (m_cursor q13.1) z_h_refused (m_kind q13.1) (m_sweets q13.1) (m_gives q13.1) (m_kept q13.1) q13.2 z_h_without_10)) (As := [.int 50]) (rest := []) hx hb hml hown hT (c_M_writesTrail (z_h_T := ((m_kind q6.1), (upd (m_sweets q6.1) x2.toNatClampNeg q12), (m_gives q6.1), (m_kept q6.1), (m_many q6.1), (m_odd q6.1), (m_step q6.1), (m_bag q6.1), (m_strokes q6.1), (m_gave q6.1), (m_threw q6.1), (m_isKeeping q6.1), (m_cursor q6.1))) (z_h_trail := q6.2) a_h a_h_refused a_h_kind a_h_sweets a_h_gives a_h_tape a_h_letter a_h_letterAt a_h_one a_h_two a_h_kept a_h_trail a_h_crumb a_h_nextCrumb a_h_goal a_h_start a_h_sits a_h_bestSits a_h_without a_h_row y_h_taped y_h_at y_h_statements y_h_hasImage y_h_beforeMany y_h_found y_h_lots y_h_rowMany hq13) k_995 k_997 ks_40 k_8 k_998 hd_M_writesTrail ⟨Nat.le_of_ble_eq_true rfl, Nat.le_of_ble_eq_true rfl⟩ xE0_ok trivial hA hK hP hD hS [0, 2, 3, 4, 5, 6] [1, 7] [2, 0, 3, 4, 5, 6, 7, 1] rfl rfl rfl rfl rfl rfl rfl rfl rfl rfl hl.1 rfl (Nat.le_of_ble_eq_true rfl) ⟨Nat.zero_le _, Nat.zero_le _⟩ d_M_felt_81 (fun H locs hP hD hS => ?_)
      refine lv_aload_n hx hb d_M_felt_84 rfl (lv_at hl 1 rfl) ?_
      refine va_get hx hb hT i_M hown hK hP 0 rfl rfl 2 (Nat.le_of_ble_eq_true rfl) (hT _ k_760) (fun _ h => h) rfl d_M_felt_85 ?_
      refine lv_iload_n hx hb d_M_felt_88 rfl (lv_at hl 3 rfl) ?_
      refine lv_iload_n hx hb d_M_felt_89 rfl (lv_at hl 0 rfl) ?_
      refine x_iast hx hb hK hP hD hS 3 0 rfl rfl (j := x2.toNatClampNeg) rfl c11 d_M_felt_90 (fun H locs hP hD hS => ?_)
      have hP : va_P D classes (w_M_felt cI cJ cC a_h a_h_refused a_h_kind a_h_sweets a_h_gives a_h_tape a_h_letter a_h_letterAt a_h_one a_h_two a_h_kept a_h_trail a_h_crumb a_h_nextCrumb a_h_goal a_h_start a_h_sits a_h_bestSits a_h_without a_h_row y_h_taped y_h_at y_h_statements y_h_hasImage y_h_beforeMany y_h_found y_h_lots y_h_rowMany (m_many q13.1) (m_odd q13.1) (m_step q13.1) (m_bag q13.1) (m_strokes q13.1) (m_gave q13.1) (m_threw q13.1) (m_isKeeping q13.1) (m_cursor q13.1) z_h_refused (m_kind q13.1) (upd (m_sweets q13.1) x2.toNatClampNeg ((m_sweets q6.1) x2.toNatClampNeg)) (m_gives q13.1) (m_kept q13.1) q13.2 z_h_without_10) H := hP
      have hD : va_D A (w_M_felt cI cJ cC a_h a_h_refused a_h_kind a_h_sweets a_h_gives a_h_tape a_h_letter a_h_letterAt a_h_one a_h_two a_h_kept a_h_trail a_h_crumb a_h_nextCrumb a_h_goal a_h_start a_h_sits a_h_bestSits a_h_without a_h_row y_h_taped y_h_at y_h_statements y_h_hasImage y_h_beforeMany y_h_found y_h_lots y_h_rowMany (m_many q13.1) (m_odd q13.1) (m_step q13.1) (m_bag q13.1) (m_strokes q13.1) (m_gave q13.1) (m_threw q13.1) (m_isKeeping q13.1) (m_cursor q13.1) z_h_refused (m_kind q13.1) (upd (m_sweets q13.1) x2.toNatClampNeg ((m_sweets q6.1) x2.toNatClampNeg)) (m_gives q13.1) (m_kept q13.1) q13.2 z_h_without_10) := hD
      refine lv_iconst (v := 0) hx hb d_M_felt_91 (by decide) ?_
      refine lv_istore (lv' := [(4, .int 0), (3, .int ((m_sweets q6.1) x2.toNatClampNeg)), (0, .ref a_h), (1, .int x1), (2, .int x2)]) hx hb d_M_felt_92 hl (by decide) rfl (fun ls hl => ?_)
      exact L94 ((m_kind q13.1), (upd (m_sweets q13.1) x2.toNatClampNeg ((m_sweets q6.1) x2.toNatClampNeg)), (m_gives q13.1), (m_kept q13.1), (m_many q13.1), (m_odd q13.1), (m_step q13.1), (m_bag q13.1), (m_strokes q13.1), (m_gave q13.1), (m_threw q13.1), (m_isKeeping q13.1), (m_cursor q13.1)) z_h_refused q13.2 z_h_without_10 FU 0 _ _ _ hf hP hD hS (lv_sub hl [2, 3, 0] rfl)
    · have hf := io_t hf c5
      refine lv_aload_n hx hb d_M_felt_16 rfl (lv_at hl 0 rfl) ?_
      refine lv_iconst (v := (-1)) hx hb d_M_felt_17 (by decide) ?_
      obtain ⟨q18, hq18, hf⟩ := io_b hf
      refine xcVI (wc := (w_M_no cI cJ cC a_h a_h_refused a_h_kind a_h_sweets a_h_gives a_h_tape a_h_letter a_h_letterAt a_h_one a_h_two a_h_kept a_h_trail a_h_crumb a_h_nextCrumb a_h_goal a_h_start a_h_sits a_h_bestSits a_h_without a_h_row (m_many z_h_T) (m_odd z_h_T) (m_step z_h_T) (m_bag z_h_T) (m_strokes z_h_T) (m_gave z_h_T) (m_threw z_h_T) y_h_taped y_h_at y_h_statements y_h_hasImage (m_isKeeping z_h_T) (m_cursor z_h_T) y_h_beforeMany y_h_found y_h_lots y_h_rowMany z_h_refused)) (wc' := (w_M_no cI cJ cC a_h a_h_refused a_h_kind a_h_sweets a_h_gives a_h_tape a_h_letter a_h_letterAt a_h_one a_h_two a_h_kept a_h_trail a_h_crumb a_h_nextCrumb a_h_goal a_h_start a_h_sits a_h_bestSits a_h_without a_h_row (m_many z_h_T) (m_odd z_h_T) (m_step z_h_T) (m_bag z_h_T) (m_strokes z_h_T) (m_gave z_h_T) (m_threw z_h_T) y_h_taped y_h_at y_h_statements y_h_hasImage (m_isKeeping z_h_T) (m_cursor z_h_T) y_h_beforeMany y_h_found y_h_lots y_h_rowMany q18.2)) (ws' := (w_M_felt cI cJ cC a_h a_h_refused a_h_kind a_h_sweets a_h_gives a_h_tape a_h_letter a_h_letterAt a_h_one a_h_two a_h_kept a_h_trail a_h_crumb a_h_nextCrumb a_h_goal a_h_start a_h_sits a_h_bestSits a_h_without a_h_row y_h_taped y_h_at y_h_statements y_h_hasImage y_h_beforeMany y_h_found y_h_lots y_h_rowMany (m_many z_h_T) (m_odd z_h_T) (m_step z_h_T) (m_bag z_h_T) (m_strokes z_h_T) (m_gave z_h_T) (m_threw z_h_T) (m_isKeeping z_h_T) (m_cursor z_h_T) q18.2 (m_kind z_h_T) (m_sweets z_h_T) (m_gives z_h_T) (m_kept z_h_T) z_h_trail z_h_without)) (As := [.int (-1)]) (rest := []) hx hb hml hown hT (c_M_no (z_h_refused := z_h_refused) a_h a_h_refused a_h_kind a_h_sweets a_h_gives a_h_tape a_h_letter a_h_letterAt a_h_one a_h_two a_h_kept a_h_trail a_h_crumb a_h_nextCrumb a_h_goal a_h_start a_h_sits a_h_bestSits a_h_without a_h_row (m_many z_h_T) (m_odd z_h_T) (m_step z_h_T) (m_bag z_h_T) (m_strokes z_h_T) (m_gave z_h_T) (m_threw z_h_T) y_h_taped y_h_at y_h_statements y_h_hasImage (m_isKeeping z_h_T) (m_cursor z_h_T) y_h_beforeMany y_h_found y_h_lots y_h_rowMany hq18) k_874 k_876 ks_24 k_8 k_877 hd_M_no ⟨Nat.le_of_ble_eq_true rfl, Nat.le_of_ble_eq_true rfl⟩ xE0_ok trivial hA hK hP hD hS [0, 1] [2, 3, 4, 5, 6, 7] [6, 7, 0, 1, 2, 3, 4, 5] rfl rfl rfl rfl rfl rfl rfl rfl rfl rfl hl.1 rfl (Nat.le_of_ble_eq_true rfl) ⟨Nat.zero_le _, Nat.zero_le _⟩ d_M_felt_18 (fun H locs hP hD hS => ?_)
      have hq := Option.some.inj hf
      subst hq
      exact hret _ _ _ _ _ d_M_felt_21 rfl rfl hP hD hS
abbrev w_M_joined (cI cJ cC : ClassId) (a_h a_h_refused a_h_kind a_h_sweets a_h_gives a_h_tape a_h_letter a_h_letterAt a_h_one a_h_two a_h_kept a_h_trail a_h_crumb a_h_nextCrumb a_h_goal a_h_start a_h_sits a_h_bestSits a_h_without a_h_row : Nat) (y_h_taped : Int32) (y_h_at : Int32) (y_h_statements : Int32) (y_h_beforeMany : Int32) (y_h_found : Int32) (y_h_lots : Int32) (y_h_rowMany : Int32) (p_h_many : Int32) (p_h_odd : Int32) (p_h_step : Int32) (p_h_bag : Int32) (p_h_strokes : Int32) (p_h_gave : Int32) (p_h_threw : Int32) (p_h_hasImage : Int32) (p_h_isKeeping : Int32) (p_h_cursor : Int32) (p_h_refused : (Nat → Int32)) (p_h_kind : (Nat → Int32)) (p_h_sweets : (Nat → Int32)) (p_h_gives : (Nat → Int32)) (p_h_kept : (Nat → Int32)) : va_W := [(a_h, .inr (7, [.ref a_h_refused, .ref a_h_kind, .ref a_h_sweets, .ref a_h_gives, .int p_h_many, .int p_h_odd, .int p_h_step, .int p_h_bag, .int p_h_strokes, .int p_h_gave, .int p_h_threw, .ref a_h_tape, .ref a_h_letter, .ref a_h_letterAt, .ref a_h_one, .ref a_h_two, .int y_h_taped, .int y_h_at, .int y_h_statements, .ref a_h_kept, .int p_h_hasImage, .int p_h_isKeeping, .int p_h_cursor, .ref a_h_trail, .ref a_h_crumb, .ref a_h_nextCrumb, .ref a_h_goal, .ref a_h_start, .int y_h_beforeMany, .int y_h_found, .ref a_h_sits, .ref a_h_bestSits, .ref a_h_without, .int y_h_lots, .ref a_h_row, .int y_h_rowMany])), (a_h_refused, .inl (cI, (7, .inl p_h_refused))), (a_h_kind, .inl (cI, (8, .inl p_h_kind))), (a_h_sweets, .inl (cI, (8, .inl p_h_sweets))), (a_h_gives, .inl (cI, (8, .inl p_h_gives))), (a_h_kept, .inl (cI, (90, .inl p_h_kept)))]
theorem d_M_joined_0 : decode b_M_joined 0 = .ok (.iload_n 1, 1) := by decide +kernel
theorem d_M_joined_1 : decode b_M_joined 1 = .ok (.iconst 0, 1) := by decide +kernel
theorem d_M_joined_2 : decode b_M_joined 2 = .ok (.bipush 50, 2) := by decide +kernel
theorem d_M_joined_4 : decode b_M_joined 4 = .ok (.invokestatic 81, 3) := by decide +kernel
theorem d_M_joined_7 : decode b_M_joined 7 = .ok (.istore_n 2, 1) := by decide +kernel
theorem d_M_joined_8 : decode b_M_joined 8 = .ok (.iload_n 2, 1) := by decide +kernel
theorem d_M_joined_9 : decode b_M_joined 9 = .ok (.ifCond .ne 30, 3) := by decide +kernel
theorem d_M_joined_12 : decode b_M_joined 12 = .ok (.aload_n 0, 1) := by decide +kernel
theorem d_M_joined_13 : decode b_M_joined 13 = .ok (.getfield 146, 3) := by decide +kernel
theorem d_M_joined_16 : decode b_M_joined 16 = .ok (.ifCond .eq 20, 3) := by decide +kernel
theorem d_M_joined_19 : decode b_M_joined 19 = .ok (.aload_n 0, 1) := by decide +kernel
theorem d_M_joined_20 : decode b_M_joined 20 = .ok (.getfield 78, 3) := by decide +kernel
theorem d_M_joined_23 : decode b_M_joined 23 = .ok (.aload_n 0, 1) := by decide +kernel
theorem d_M_joined_24 : decode b_M_joined 24 = .ok (.getfield 44, 3) := by decide +kernel
theorem d_M_joined_27 : decode b_M_joined 27 = .ok (.bipush 16, 2) := by decide +kernel
theorem d_M_joined_29 : decode b_M_joined 29 = .ok (.iaload, 1) := by decide +kernel
theorem d_M_joined_30 : decode b_M_joined 30 = .ok (.iadd, 1) := by decide +kernel
theorem d_M_joined_31 : decode b_M_joined 31 = .ok (.bipush 8, 2) := by decide +kernel
theorem d_M_joined_33 : decode b_M_joined 33 = .ok (.if_icmp .le 6, 3) := by decide +kernel
theorem d_M_joined_36 : decode b_M_joined 36 = .ok (.bipush (-3), 2) := by decide +kernel
theorem d_M_joined_38 : decode b_M_joined 38 = .ok (.istore_n 2, 1) := by decide +kernel
theorem d_M_joined_39 : decode b_M_joined 39 = .ok (.iload_n 2, 1) := by decide +kernel
theorem d_M_joined_40 : decode b_M_joined 40 = .ok (.ifCond .eq 9, 3) := by decide +kernel
theorem d_M_joined_43 : decode b_M_joined 43 = .ok (.aload_n 0, 1) := by decide +kernel
theorem d_M_joined_44 : decode b_M_joined 44 = .ok (.iload_n 2, 1) := by decide +kernel
theorem d_M_joined_45 : decode b_M_joined 45 = .ok (.invokevirtual 88, 3) := by decide +kernel
theorem d_M_joined_48 : decode b_M_joined 48 = .ok (.ireturn, 1) := by decide +kernel
theorem d_M_joined_49 : decode b_M_joined 49 = .ok (.aload_n 0, 1) := by decide +kernel
theorem d_M_joined_50 : decode b_M_joined 50 = .ok (.iconst 1, 1) := by decide +kernel
theorem d_M_joined_51 : decode b_M_joined 51 = .ok (.iconst 1, 1) := by decide +kernel
theorem d_M_joined_52 : decode b_M_joined 52 = .ok (.invokevirtual 119, 3) := by decide +kernel
theorem d_M_joined_55 : decode b_M_joined 55 = .ok (.iconst 0, 1) := by decide +kernel
theorem d_M_joined_56 : decode b_M_joined 56 = .ok (.istore_n 3, 1) := by decide +kernel
theorem d_M_joined_57 : decode b_M_joined 57 = .ok (.iload_n 3, 1) := by decide +kernel
theorem d_M_joined_58 : decode b_M_joined 58 = .ok (.aload_n 0, 1) := by decide +kernel
theorem d_M_joined_59 : decode b_M_joined 59 = .ok (.getfield 44, 3) := by decide +kernel
theorem d_M_joined_62 : decode b_M_joined 62 = .ok (.bipush 16, 2) := by decide +kernel
theorem d_M_joined_64 : decode b_M_joined 64 = .ok (.iaload, 1) := by decide +kernel
theorem d_M_joined_65 : decode b_M_joined 65 = .ok (.if_icmp .ge 55, 3) := by decide +kernel
theorem d_M_joined_68 : decode b_M_joined 68 = .ok (.aload_n 0, 1) := by decide +kernel
theorem d_M_joined_69 : decode b_M_joined 69 = .ok (.getfield 13, 3) := by decide +kernel
theorem d_M_joined_72 : decode b_M_joined 72 = .ok (.aload_n 0, 1) := by decide +kernel
theorem d_M_joined_73 : decode b_M_joined 73 = .ok (.getfield 78, 3) := by decide +kernel
theorem d_M_joined_76 : decode b_M_joined 76 = .ok (.aload_n 0, 1) := by decide +kernel
theorem d_M_joined_77 : decode b_M_joined 77 = .ok (.getfield 44, 3) := by decide +kernel
theorem d_M_joined_80 : decode b_M_joined 80 = .ok (.iconst 2, 1) := by decide +kernel
theorem d_M_joined_81 : decode b_M_joined 81 = .ok (.iload_n 3, 1) := by decide +kernel
theorem d_M_joined_82 : decode b_M_joined 82 = .ok (.imul, 1) := by decide +kernel
theorem d_M_joined_83 : decode b_M_joined 83 = .ok (.iaload, 1) := by decide +kernel
theorem d_M_joined_84 : decode b_M_joined 84 = .ok (.iastore, 1) := by decide +kernel
theorem d_M_joined_85 : decode b_M_joined 85 = .ok (.aload_n 0, 1) := by decide +kernel
theorem d_M_joined_86 : decode b_M_joined 86 = .ok (.getfield 16, 3) := by decide +kernel
theorem d_M_joined_89 : decode b_M_joined 89 = .ok (.aload_n 0, 1) := by decide +kernel
theorem d_M_joined_90 : decode b_M_joined 90 = .ok (.getfield 78, 3) := by decide +kernel
theorem d_M_joined_93 : decode b_M_joined 93 = .ok (.aload_n 0, 1) := by decide +kernel
theorem d_M_joined_94 : decode b_M_joined 94 = .ok (.getfield 44, 3) := by decide +kernel
theorem d_M_joined_97 : decode b_M_joined 97 = .ok (.iconst 2, 1) := by decide +kernel
theorem d_M_joined_98 : decode b_M_joined 98 = .ok (.iload_n 3, 1) := by decide +kernel
theorem d_M_joined_99 : decode b_M_joined 99 = .ok (.imul, 1) := by decide +kernel
theorem d_M_joined_100 : decode b_M_joined 100 = .ok (.iconst 1, 1) := by decide +kernel
theorem d_M_joined_101 : decode b_M_joined 101 = .ok (.iadd, 1) := by decide +kernel
theorem d_M_joined_102 : decode b_M_joined 102 = .ok (.iaload, 1) := by decide +kernel
theorem d_M_joined_103 : decode b_M_joined 103 = .ok (.iastore, 1) := by decide +kernel
theorem d_M_joined_104 : decode b_M_joined 104 = .ok (.aload_n 0, 1) := by decide +kernel
theorem d_M_joined_105 : decode b_M_joined 105 = .ok (.dup, 1) := by decide +kernel
theorem d_M_joined_106 : decode b_M_joined 106 = .ok (.getfield 78, 3) := by decide +kernel
theorem d_M_joined_109 : decode b_M_joined 109 = .ok (.iconst 1, 1) := by decide +kernel
theorem d_M_joined_110 : decode b_M_joined 110 = .ok (.iadd, 1) := by decide +kernel
theorem d_M_joined_111 : decode b_M_joined 111 = .ok (.putfield 78, 3) := by decide +kernel
theorem d_M_joined_114 : decode b_M_joined 114 = .ok (.iinc 3 1, 3) := by decide +kernel
theorem d_M_joined_117 : decode b_M_joined 117 = .ok (.goto (-60), 3) := by decide +kernel
theorem d_M_joined_120 : decode b_M_joined 120 = .ok (.aload_n 0, 1) := by decide +kernel
theorem d_M_joined_121 : decode b_M_joined 121 = .ok (.getfield 78, 3) := by decide +kernel
theorem d_M_joined_124 : decode b_M_joined 124 = .ok (.ifCond .ne 7, 3) := by decide +kernel
theorem d_M_joined_127 : decode b_M_joined 127 = .ok (.iconst 0, 1) := by decide +kernel
theorem d_M_joined_128 : decode b_M_joined 128 = .ok (.goto 8, 3) := by decide +kernel
theorem d_M_joined_131 : decode b_M_joined 131 = .ok (.aload_n 0, 1) := by decide +kernel
theorem d_M_joined_132 : decode b_M_joined 132 = .ok (.iload_n 1, 1) := by decide +kernel
theorem d_M_joined_133 : decode b_M_joined 133 = .ok (.invokevirtual 179, 3) := by decide +kernel
theorem d_M_joined_136 : decode b_M_joined 136 = .ok (.istore_n 3, 1) := by decide +kernel
theorem d_M_joined_137 : decode b_M_joined 137 = .ok (.aload_n 0, 1) := by decide +kernel
theorem d_M_joined_138 : decode b_M_joined 138 = .ok (.iconst 1, 1) := by decide +kernel
theorem d_M_joined_139 : decode b_M_joined 139 = .ok (.iconst 0, 1) := by decide +kernel
theorem d_M_joined_140 : decode b_M_joined 140 = .ok (.invokevirtual 119, 3) := by decide +kernel
theorem d_M_joined_143 : decode b_M_joined 143 = .ok (.iload_n 3, 1) := by decide +kernel
theorem d_M_joined_144 : decode b_M_joined 144 = .ok (.ireturn, 1) := by decide +kernel
set_option maxHeartbeats 4000000 in
set_option maxRecDepth 100000 in
theorem c_M_joined {l : Launch} {D : va_G} {cI cJ cC : ClassId} (a_h a_h_refused a_h_kind a_h_sweets a_h_gives a_h_tape a_h_letter a_h_letterAt a_h_one a_h_two a_h_kept a_h_trail a_h_crumb a_h_nextCrumb a_h_goal a_h_start a_h_sits a_h_bestSits a_h_without a_h_row : Nat) (y_h_taped : Int32) (y_h_at : Int32) (y_h_statements : Int32) (y_h_beforeMany : Int32) (y_h_found : Int32) (y_h_lots : Int32) (y_h_rowMany : Int32) {z_h_T : MT} {z_h_hasImage : Int32} {z_h_refused : (Nat → Int32)} {x1 : Int32} {q : Int32 × MT × (Nat → Int32)} (hf : f_M_joined z_h_T z_h_hasImage z_h_refused x1 = some q) : xI l y_M_joined b_M_joined 4 .int 4 89 D (tyK cI cJ cC) xE0 [.ref a_h, .int x1] (w_M_joined cI cJ cC a_h a_h_refused a_h_kind a_h_sweets a_h_gives a_h_tape a_h_letter a_h_letterAt a_h_one a_h_two a_h_kept a_h_trail a_h_crumb a_h_nextCrumb a_h_goal a_h_start a_h_sits a_h_bestSits a_h_without a_h_row y_h_taped y_h_at y_h_statements y_h_beforeMany y_h_found y_h_lots y_h_rowMany (m_many z_h_T) (m_odd z_h_T) (m_step z_h_T) (m_bag z_h_T) (m_strokes z_h_T) (m_gave z_h_T) (m_threw z_h_T) z_h_hasImage (m_isKeeping z_h_T) (m_cursor z_h_T) z_h_refused (m_kind z_h_T) (m_sweets z_h_T) (m_gives z_h_T) (m_kept z_h_T)) q.1 (w_M_joined cI cJ cC a_h a_h_refused a_h_kind a_h_sweets a_h_gives a_h_tape a_h_letter a_h_letterAt a_h_one a_h_two a_h_kept a_h_trail a_h_crumb a_h_nextCrumb a_h_goal a_h_start a_h_sits a_h_bestSits a_h_without a_h_row y_h_taped y_h_at y_h_statements y_h_beforeMany y_h_found y_h_lots y_h_rowMany (m_many q.2.1) (m_odd q.2.1) (m_step q.2.1) (m_bag q.2.1) (m_strokes q.2.1) (m_gave q.2.1) (m_threw q.2.1) z_h_hasImage (m_isKeeping q.2.1) (m_cursor q.2.1) q.2.2 (m_kind q.2.1) (m_sweets q.2.1) (m_gives q.2.1) (m_kept q.2.1)) := by
  refine xI_of (by decide) (Nat.le_of_ble_eq_true rfl) ?_
  intro p e s m args below meth c A Q hx hb hml hown hT hA hP hD hK hS hE hret ls hl
  have hown : s.vm.findClass R_M = some m.cls := hown
  have hl : lv_has ls 4 [(0, .ref a_h), (1, .int x1)] := hl
  unfold f_M_joined at hf
  have L57 : ∀ (z_h_refused : (Nat → Int32)) (k : MT → Option (Int32 × MT × (Nat → Int32))), (∀ (z_h_T : MT) (H : Heap) (locs : List Loc) (ls : Array Slot), k z_h_T = some q → va_P D classes (w_M_joined cI cJ cC a_h a_h_refused a_h_kind a_h_sweets a_h_gives a_h_tape a_h_letter a_h_letterAt a_h_one a_h_two a_h_kept a_h_trail a_h_crumb a_h_nextCrumb a_h_goal a_h_start a_h_sits a_h_bestSits a_h_without a_h_row y_h_taped y_h_at y_h_statements y_h_beforeMany y_h_found y_h_lots y_h_rowMany (m_many z_h_T) (m_odd z_h_T) (m_step z_h_T) (m_bag z_h_T) (m_strokes z_h_T) (m_gave z_h_T) (m_threw z_h_T) z_h_hasImage (m_isKeeping z_h_T) (m_cursor z_h_T) z_h_refused (m_kind z_h_T) (m_sweets z_h_T) (m_gives z_h_T) (m_kept z_h_T)) H → va_D A (w_M_joined cI cJ cC a_h a_h_refused a_h_kind a_h_sweets a_h_gives a_h_tape a_h_letter a_h_letterAt a_h_one a_h_two a_h_kept a_h_trail a_h_crumb a_h_nextCrumb a_h_goal a_h_start a_h_sits a_h_bestSits a_h_without a_h_row y_h_taped y_h_at y_h_statements y_h_beforeMany y_h_found y_h_lots y_h_rowMany (m_many z_h_T) (m_odd z_h_T) (m_step z_h_T) (m_bag z_h_T) (m_strokes z_h_T) (m_gave z_h_T) (m_threw z_h_T) z_h_hasImage (m_isKeeping z_h_T) (m_cursor z_h_T) z_h_refused (m_kind z_h_T) (m_sweets z_h_T) (m_gives z_h_T) (m_kept z_h_T)) → va_S A s.heap H locs → lv_has ls 4 [(0, .ref a_h), (1, .int x1)] → W p l e (xRm 4 89) s m args below meth c H locs 0 0 Q (F0 m 120 ls [])) → ∀ (n : Nat) (z_h_T : MT) (x3 : Int32) (H : Heap) (locs : List Loc) (ls : Array Slot), f_M_joined_L57 k n z_h_T x3 = some q → va_P D classes (w_M_joined cI cJ cC a_h a_h_refused a_h_kind a_h_sweets a_h_gives a_h_tape a_h_letter a_h_letterAt a_h_one a_h_two a_h_kept a_h_trail a_h_crumb a_h_nextCrumb a_h_goal a_h_start a_h_sits a_h_bestSits a_h_without a_h_row y_h_taped y_h_at y_h_statements y_h_beforeMany y_h_found y_h_lots y_h_rowMany (m_many z_h_T) (m_odd z_h_T) (m_step z_h_T) (m_bag z_h_T) (m_strokes z_h_T) (m_gave z_h_T) (m_threw z_h_T) z_h_hasImage (m_isKeeping z_h_T) (m_cursor z_h_T) z_h_refused (m_kind z_h_T) (m_sweets z_h_T) (m_gives z_h_T) (m_kept z_h_T)) H → va_D A (w_M_joined cI cJ cC a_h a_h_refused a_h_kind a_h_sweets a_h_gives a_h_tape a_h_letter a_h_letterAt a_h_one a_h_two a_h_kept a_h_trail a_h_crumb a_h_nextCrumb a_h_goal a_h_start a_h_sits a_h_bestSits a_h_without a_h_row y_h_taped y_h_at y_h_statements y_h_beforeMany y_h_found y_h_lots y_h_rowMany (m_many z_h_T) (m_odd z_h_T) (m_step z_h_T) (m_bag z_h_T) (m_strokes z_h_T) (m_gave z_h_T) (m_threw z_h_T) z_h_hasImage (m_isKeeping z_h_T) (m_cursor z_h_T) z_h_refused (m_kind z_h_T) (m_sweets z_h_T) (m_gives z_h_T) (m_kept z_h_T)) → va_S A s.heap H locs → lv_has ls 4 [(0, .ref a_h), (1, .int x1), (3, .int x3)] → W p l e (xRm 4 89) s m args below meth c H locs 0 0 Q (F0 m 57 ls []) := by
    intro z_h_refused k hk n
    induction n with
    | zero => intro z_h_T x3 H locs ls hf hP hD hS hl; exact nomatch (show (none : Option (Int32 × MT × (Nat → Int32))) = some q from hf)
    | succ n ih =>
      intro z_h_T x3 H locs ls hf hP hD hS hl
      refine lv_iload_n hx hb d_M_joined_57 rfl (lv_at hl 2 rfl) ?_
      refine lv_aload_n hx hb d_M_joined_58 rfl (lv_at hl 0 rfl) ?_
      refine va_get hx hb hT i_M hown hK hP 0 rfl rfl 19 (Nat.le_of_ble_eq_true rfl) (hT _ k_777) (fun _ h => h) rfl d_M_joined_59 ?_
      refine lv_bipush (v := 16) hx hb d_M_joined_62 (by decide) ?_
      refine x_iald hx hb hK hP 5 0 rfl rfl (j := 16) (by decide +kernel) (by unfold vp_in; decide +kernel) d_M_joined_64 ?_
      refine lv_icmp_ge (tgt := 120) hx hb d_M_joined_65 (by decide) (fun c8 => ?_) (fun c8 => ?_)
      · have hf := io_t hf c8
        exact hk z_h_T _ _ _ hf hP hD hS (lv_sub hl [0, 1] rfl)
      · have hf := io_f hf c8
        refine lv_aload_n hx hb d_M_joined_68 rfl (lv_at hl 0 rfl) ?_
        refine va_get hx hb hT i_M hown hK hP 0 rfl rfl 1 (Nat.le_of_ble_eq_true rfl) (hT _ k_759) (fun _ h => h) rfl d_M_joined_69 ?_
        refine lv_aload_n hx hb d_M_joined_72 rfl (lv_at hl 0 rfl) ?_
        refine va_get hx hb hT i_M hown hK hP 0 rfl rfl 4 (Nat.le_of_ble_eq_true rfl) (hT _ k_762) (fun _ h => h) rfl d_M_joined_73 ?_
        refine lv_aload_n hx hb d_M_joined_76 rfl (lv_at hl 0 rfl) ?_
        refine va_get hx hb hT i_M hown hK hP 0 rfl rfl 19 (Nat.le_of_ble_eq_true rfl) (hT _ k_777) (fun _ h => h) rfl d_M_joined_77 ?_
        refine lv_iconst (v := 2) hx hb d_M_joined_80 (by decide) ?_
        refine lv_iload_n hx hb d_M_joined_81 rfl (lv_at hl 2 rfl) ?_
        refine lv_imul hx hb d_M_joined_82 ?_
        obtain ⟨c9, hf⟩ := io_n hf
        refine x_iald hx hb hK hP 5 0 rfl rfl (j := (2 * x3).toNatClampNeg) rfl c9 d_M_joined_83 ?_
        obtain ⟨c10, hf⟩ := io_n hf
        refine x_iast hx hb hK hP hD hS 2 0 rfl rfl (j := (m_many z_h_T).toNatClampNeg) rfl c10 d_M_joined_84 (fun H locs hP hD hS => ?_)
        have hP : va_P D classes (w_M_joined cI cJ cC a_h a_h_refused a_h_kind a_h_sweets a_h_gives a_h_tape a_h_letter a_h_letterAt a_h_one a_h_two a_h_kept a_h_trail a_h_crumb a_h_nextCrumb a_h_goal a_h_start a_h_sits a_h_bestSits a_h_without a_h_row y_h_taped y_h_at y_h_statements y_h_beforeMany y_h_found y_h_lots y_h_rowMany (m_many z_h_T) (m_odd z_h_T) (m_step z_h_T) (m_bag z_h_T) (m_strokes z_h_T) (m_gave z_h_T) (m_threw z_h_T) z_h_hasImage (m_isKeeping z_h_T) (m_cursor z_h_T) z_h_refused (upd (m_kind z_h_T) (m_many z_h_T).toNatClampNeg ((m_kept z_h_T) (2 * x3).toNatClampNeg)) (m_sweets z_h_T) (m_gives z_h_T) (m_kept z_h_T)) H := hP
        have hD : va_D A (w_M_joined cI cJ cC a_h a_h_refused a_h_kind a_h_sweets a_h_gives a_h_tape a_h_letter a_h_letterAt a_h_one a_h_two a_h_kept a_h_trail a_h_crumb a_h_nextCrumb a_h_goal a_h_start a_h_sits a_h_bestSits a_h_without a_h_row y_h_taped y_h_at y_h_statements y_h_beforeMany y_h_found y_h_lots y_h_rowMany (m_many z_h_T) (m_odd z_h_T) (m_step z_h_T) (m_bag z_h_T) (m_strokes z_h_T) (m_gave z_h_T) (m_threw z_h_T) z_h_hasImage (m_isKeeping z_h_T) (m_cursor z_h_T) z_h_refused (upd (m_kind z_h_T) (m_many z_h_T).toNatClampNeg ((m_kept z_h_T) (2 * x3).toNatClampNeg)) (m_sweets z_h_T) (m_gives z_h_T) (m_kept z_h_T)) := hD
        refine lv_aload_n hx hb d_M_joined_85 rfl (lv_at hl 0 rfl) ?_
        refine va_get hx hb hT i_M hown hK hP 0 rfl rfl 2 (Nat.le_of_ble_eq_true rfl) (hT _ k_760) (fun _ h => h) rfl d_M_joined_86 ?_
        refine lv_aload_n hx hb d_M_joined_89 rfl (lv_at hl 0 rfl) ?_
        refine va_get hx hb hT i_M hown hK hP 0 rfl rfl 4 (Nat.le_of_ble_eq_true rfl) (hT _ k_762) (fun _ h => h) rfl d_M_joined_90 ?_
        refine lv_aload_n hx hb d_M_joined_93 rfl (lv_at hl 0 rfl) ?_
        refine va_get hx hb hT i_M hown hK hP 0 rfl rfl 19 (Nat.le_of_ble_eq_true rfl) (hT _ k_777) (fun _ h => h) rfl d_M_joined_94 ?_
        refine lv_iconst (v := 2) hx hb d_M_joined_97 (by decide) ?_
        refine lv_iload_n hx hb d_M_joined_98 rfl (lv_at hl 2 rfl) ?_
        refine lv_imul hx hb d_M_joined_99 ?_
        refine lv_iconst (v := 1) hx hb d_M_joined_100 (by decide) ?_
        refine lv_iadd hx hb d_M_joined_101 ?_
        obtain ⟨c11, hf⟩ := io_n hf
        refine x_iald hx hb hK hP 5 0 rfl rfl (j := ((2 * x3) + 1).toNatClampNeg) rfl c11 d_M_joined_102 ?_
        refine x_iast hx hb hK hP hD hS 3 0 rfl rfl (j := (m_many z_h_T).toNatClampNeg) rfl c10 d_M_joined_103 (fun H locs hP hD hS => ?_)
        have hP : va_P D classes (w_M_joined cI cJ cC a_h a_h_refused a_h_kind a_h_sweets a_h_gives a_h_tape a_h_letter a_h_letterAt a_h_one a_h_two a_h_kept a_h_trail a_h_crumb a_h_nextCrumb a_h_goal a_h_start a_h_sits a_h_bestSits a_h_without a_h_row y_h_taped y_h_at y_h_statements y_h_beforeMany y_h_found y_h_lots y_h_rowMany (m_many z_h_T) (m_odd z_h_T) (m_step z_h_T) (m_bag z_h_T) (m_strokes z_h_T) (m_gave z_h_T) (m_threw z_h_T) z_h_hasImage (m_isKeeping z_h_T) (m_cursor z_h_T) z_h_refused (upd (m_kind z_h_T) (m_many z_h_T).toNatClampNeg ((m_kept z_h_T) (2 * x3).toNatClampNeg)) (upd (m_sweets z_h_T) (m_many z_h_T).toNatClampNeg ((m_kept z_h_T) ((2 * x3) + 1).toNatClampNeg)) (m_gives z_h_T) (m_kept z_h_T)) H := hP
        have hD : va_D A (w_M_joined cI cJ cC a_h a_h_refused a_h_kind a_h_sweets a_h_gives a_h_tape a_h_letter a_h_letterAt a_h_one a_h_two a_h_kept a_h_trail a_h_crumb a_h_nextCrumb a_h_goal a_h_start a_h_sits a_h_bestSits a_h_without a_h_row y_h_taped y_h_at y_h_statements y_h_beforeMany y_h_found y_h_lots y_h_rowMany (m_many z_h_T) (m_odd z_h_T) (m_step z_h_T) (m_bag z_h_T) (m_strokes z_h_T) (m_gave z_h_T) (m_threw z_h_T) z_h_hasImage (m_isKeeping z_h_T) (m_cursor z_h_T) z_h_refused (upd (m_kind z_h_T) (m_many z_h_T).toNatClampNeg ((m_kept z_h_T) (2 * x3).toNatClampNeg)) (upd (m_sweets z_h_T) (m_many z_h_T).toNatClampNeg ((m_kept z_h_T) ((2 * x3) + 1).toNatClampNeg)) (m_gives z_h_T) (m_kept z_h_T)) := hD
        refine lv_aload_n hx hb d_M_joined_104 rfl (lv_at hl 0 rfl) ?_
        refine lv_dup hx hb d_M_joined_105 rfl ?_
        refine va_get hx hb hT i_M hown hK hP 0 rfl rfl 4 (Nat.le_of_ble_eq_true rfl) (hT _ k_762) (fun _ h => h) rfl d_M_joined_106 ?_
        refine lv_iconst (v := 1) hx hb d_M_joined_109 (by decide) ?_
        refine lv_iadd hx hb d_M_joined_110 ?_
        refine va_put (ty := .int) hx hb hT i_M t_M t_M_ok n_M hown hK hP hD hS 0 rfl rfl 4 (Nat.le_of_ble_eq_true rfl) (hT _ k_762) (fun _ h => h) rfl rfl rfl rfl (Nat.le_of_ble_eq_true rfl) d_M_joined_111 (fun H locs hP hD hS => ?_)
        have hP : va_P D classes (w_M_joined cI cJ cC a_h a_h_refused a_h_kind a_h_sweets a_h_gives a_h_tape a_h_letter a_h_letterAt a_h_one a_h_two a_h_kept a_h_trail a_h_crumb a_h_nextCrumb a_h_goal a_h_start a_h_sits a_h_bestSits a_h_without a_h_row y_h_taped y_h_at y_h_statements y_h_beforeMany y_h_found y_h_lots y_h_rowMany ((m_many z_h_T) + 1) (m_odd z_h_T) (m_step z_h_T) (m_bag z_h_T) (m_strokes z_h_T) (m_gave z_h_T) (m_threw z_h_T) z_h_hasImage (m_isKeeping z_h_T) (m_cursor z_h_T) z_h_refused (upd (m_kind z_h_T) (m_many z_h_T).toNatClampNeg ((m_kept z_h_T) (2 * x3).toNatClampNeg)) (upd (m_sweets z_h_T) (m_many z_h_T).toNatClampNeg ((m_kept z_h_T) ((2 * x3) + 1).toNatClampNeg)) (m_gives z_h_T) (m_kept z_h_T)) H := hP
        have hD : va_D A (w_M_joined cI cJ cC a_h a_h_refused a_h_kind a_h_sweets a_h_gives a_h_tape a_h_letter a_h_letterAt a_h_one a_h_two a_h_kept a_h_trail a_h_crumb a_h_nextCrumb a_h_goal a_h_start a_h_sits a_h_bestSits a_h_without a_h_row y_h_taped y_h_at y_h_statements y_h_beforeMany y_h_found y_h_lots y_h_rowMany ((m_many z_h_T) + 1) (m_odd z_h_T) (m_step z_h_T) (m_bag z_h_T) (m_strokes z_h_T) (m_gave z_h_T) (m_threw z_h_T) z_h_hasImage (m_isKeeping z_h_T) (m_cursor z_h_T) z_h_refused (upd (m_kind z_h_T) (m_many z_h_T).toNatClampNeg ((m_kept z_h_T) (2 * x3).toNatClampNeg)) (upd (m_sweets z_h_T) (m_many z_h_T).toNatClampNeg ((m_kept z_h_T) ((2 * x3) + 1).toNatClampNeg)) (m_gives z_h_T) (m_kept z_h_T)) := hD
        refine lv_iinc (v := (x3 + 1)) (lv' := [(3, .int (x3 + 1)), (0, .ref a_h), (1, .int x1)]) hx hb d_M_joined_114 hl (k := 2) rfl (by rfl) (by decide) rfl (fun ls hl => ?_)
        refine lv_goto (tgt := 57) hx hb d_M_joined_117 (by decide) ?_
        exact ih ((upd (m_kind z_h_T) (m_many z_h_T).toNatClampNeg ((m_kept z_h_T) (2 * x3).toNatClampNeg)), (upd (m_sweets z_h_T) (m_many z_h_T).toNatClampNeg ((m_kept z_h_T) ((2 * x3) + 1).toNatClampNeg)), (m_gives z_h_T), (m_kept z_h_T), ((m_many z_h_T) + 1), (m_odd z_h_T), (m_step z_h_T), (m_bag z_h_T), (m_strokes z_h_T), (m_gave z_h_T), (m_threw z_h_T), (m_isKeeping z_h_T), (m_cursor z_h_T)) (x3 + 1) _ _ _ hf hP hD hS (lv_sub hl [1, 2, 0] rfl)
  refine lv_iload_n hx hb d_M_joined_0 rfl (lv_at hl 1 rfl) ?_
  refine lv_iconst (v := 0) hx hb d_M_joined_1 (by decide) ?_
  refine lv_bipush (v := 50) hx hb d_M_joined_2 (by decide) ?_
  obtain ⟨q1, hq1, hf⟩ := io_b hf
  refine xcSI (wc := []) (wc' := []) (ws' := (w_M_joined cI cJ cC a_h a_h_refused a_h_kind a_h_sweets a_h_gives a_h_tape a_h_letter a_h_letterAt a_h_one a_h_two a_h_kept a_h_trail a_h_crumb a_h_nextCrumb a_h_goal a_h_start a_h_sits a_h_bestSits a_h_without a_h_row y_h_taped y_h_at y_h_statements y_h_beforeMany y_h_found y_h_lots y_h_rowMany (m_many z_h_T) (m_odd z_h_T) (m_step z_h_T) (m_bag z_h_T) (m_strokes z_h_T) (m_gave z_h_T) (m_threw z_h_T) z_h_hasImage (m_isKeeping z_h_T) (m_cursor z_h_T) z_h_refused (m_kind z_h_T) (m_sweets z_h_T) (m_gives z_h_T) (m_kept z_h_T))) (As := [.int x1, .int 0, .int 50]) (rest := []) hx hb hml hown hT (c_M_bound hq1) k_871 k_872 k_8 k_873 hd_M_bound ⟨Nat.le_of_ble_eq_true rfl, Nat.le_of_ble_eq_true rfl⟩ xE0_ok trivial hA hK hP hD hS [] [0, 1, 2, 3, 4, 5] [0, 1, 2, 3, 4, 5] rfl rfl rfl rfl rfl rfl rfl hl.1 rfl (Nat.le_of_ble_eq_true rfl) ⟨Nat.zero_le _, Nat.zero_le _⟩ d_M_joined_4 (fun H locs hP hD hS => ?_)
  refine lv_istore_n (lv' := [(2, .int q1), (0, .ref a_h), (1, .int x1)]) hx hb d_M_joined_7 rfl hl (by decide) rfl (fun ls hl => ?_)
  refine lv_iload_n hx hb d_M_joined_8 rfl (lv_at hl 0 rfl) ?_
  refine lv_if_ne (tgt := 39) hx hb d_M_joined_9 (by decide) (fun c2 => ?_) (fun c2 => ?_)
  · have hf := io_f hf c2
    refine lv_iload_n hx hb d_M_joined_39 rfl (lv_at hl 0 rfl) ?_
    refine lv_if_eq (tgt := 49) hx hb d_M_joined_40 (by decide) (fun c => absurd c c2) (fun _ => ?_)
    refine lv_aload_n hx hb d_M_joined_43 rfl (lv_at hl 1 rfl) ?_
    refine lv_iload_n hx hb d_M_joined_44 rfl (lv_at hl 0 rfl) ?_
    obtain ⟨q3, hq3, hf⟩ := io_b hf
    refine xcVI (wc := (w_M_no cI cJ cC a_h a_h_refused a_h_kind a_h_sweets a_h_gives a_h_tape a_h_letter a_h_letterAt a_h_one a_h_two a_h_kept a_h_trail a_h_crumb a_h_nextCrumb a_h_goal a_h_start a_h_sits a_h_bestSits a_h_without a_h_row (m_many z_h_T) (m_odd z_h_T) (m_step z_h_T) (m_bag z_h_T) (m_strokes z_h_T) (m_gave z_h_T) (m_threw z_h_T) y_h_taped y_h_at y_h_statements z_h_hasImage (m_isKeeping z_h_T) (m_cursor z_h_T) y_h_beforeMany y_h_found y_h_lots y_h_rowMany z_h_refused)) (wc' := (w_M_no cI cJ cC a_h a_h_refused a_h_kind a_h_sweets a_h_gives a_h_tape a_h_letter a_h_letterAt a_h_one a_h_two a_h_kept a_h_trail a_h_crumb a_h_nextCrumb a_h_goal a_h_start a_h_sits a_h_bestSits a_h_without a_h_row (m_many z_h_T) (m_odd z_h_T) (m_step z_h_T) (m_bag z_h_T) (m_strokes z_h_T) (m_gave z_h_T) (m_threw z_h_T) y_h_taped y_h_at y_h_statements z_h_hasImage (m_isKeeping z_h_T) (m_cursor z_h_T) y_h_beforeMany y_h_found y_h_lots y_h_rowMany q3.2)) (ws' := (w_M_joined cI cJ cC a_h a_h_refused a_h_kind a_h_sweets a_h_gives a_h_tape a_h_letter a_h_letterAt a_h_one a_h_two a_h_kept a_h_trail a_h_crumb a_h_nextCrumb a_h_goal a_h_start a_h_sits a_h_bestSits a_h_without a_h_row y_h_taped y_h_at y_h_statements y_h_beforeMany y_h_found y_h_lots y_h_rowMany (m_many z_h_T) (m_odd z_h_T) (m_step z_h_T) (m_bag z_h_T) (m_strokes z_h_T) (m_gave z_h_T) (m_threw z_h_T) z_h_hasImage (m_isKeeping z_h_T) (m_cursor z_h_T) q3.2 (m_kind z_h_T) (m_sweets z_h_T) (m_gives z_h_T) (m_kept z_h_T))) (As := [.int q1]) (rest := []) hx hb hml hown hT (c_M_no (z_h_refused := z_h_refused) a_h a_h_refused a_h_kind a_h_sweets a_h_gives a_h_tape a_h_letter a_h_letterAt a_h_one a_h_two a_h_kept a_h_trail a_h_crumb a_h_nextCrumb a_h_goal a_h_start a_h_sits a_h_bestSits a_h_without a_h_row (m_many z_h_T) (m_odd z_h_T) (m_step z_h_T) (m_bag z_h_T) (m_strokes z_h_T) (m_gave z_h_T) (m_threw z_h_T) y_h_taped y_h_at y_h_statements z_h_hasImage (m_isKeeping z_h_T) (m_cursor z_h_T) y_h_beforeMany y_h_found y_h_lots y_h_rowMany hq3) k_874 k_876 ks_24 k_8 k_877 hd_M_no ⟨Nat.le_of_ble_eq_true rfl, Nat.le_of_ble_eq_true rfl⟩ xE0_ok trivial hA hK hP hD hS [0, 1] [2, 3, 4, 5] [4, 5, 0, 1, 2, 3] rfl rfl rfl rfl rfl rfl rfl rfl rfl rfl hl.1 rfl (Nat.le_of_ble_eq_true rfl) ⟨Nat.zero_le _, Nat.zero_le _⟩ d_M_joined_45 (fun H locs hP hD hS => ?_)
    have hq := Option.some.inj hf
    subst hq
    exact hret _ _ _ _ _ d_M_joined_48 rfl rfl hP hD hS
  · have hf := io_t hf c2
    refine lv_aload_n hx hb d_M_joined_12 rfl (lv_at hl 1 rfl) ?_
    refine va_get hx hb hT i_M hown hK hP 0 rfl rfl 20 (Nat.le_of_ble_eq_true rfl) (hT _ k_778) (fun _ h => h) rfl d_M_joined_13 ?_
    refine lv_if_eq (tgt := 36) hx hb d_M_joined_16 (by decide) (fun c4 => ?_) (fun c4 => ?_)
    · have hf := io_t hf c4
      refine lv_bipush (v := (-3)) hx hb d_M_joined_36 (by decide) ?_
      refine lv_istore_n (lv' := [(2, .int (-3)), (0, .ref a_h), (1, .int x1)]) hx hb d_M_joined_38 rfl hl (by decide) rfl (fun ls hl => ?_)
      refine lv_iload_n hx hb d_M_joined_39 rfl (lv_at hl 0 rfl) ?_
      refine lv_if_eq (tgt := 49) hx hb d_M_joined_40 (by decide) (fun c => absurd c (show ¬ ((-3) : Int32) = 0 from by decide +kernel)) (fun _ => ?_)
      refine lv_aload_n hx hb d_M_joined_43 rfl (lv_at hl 1 rfl) ?_
      refine lv_iload_n hx hb d_M_joined_44 rfl (lv_at hl 0 rfl) ?_
      obtain ⟨q5, hq5, hf⟩ := io_b hf
      refine xcVI (wc := (w_M_no cI cJ cC a_h a_h_refused a_h_kind a_h_sweets a_h_gives a_h_tape a_h_letter a_h_letterAt a_h_one a_h_two a_h_kept a_h_trail a_h_crumb a_h_nextCrumb a_h_goal a_h_start a_h_sits a_h_bestSits a_h_without a_h_row (m_many z_h_T) (m_odd z_h_T) (m_step z_h_T) (m_bag z_h_T) (m_strokes z_h_T) (m_gave z_h_T) (m_threw z_h_T) y_h_taped y_h_at y_h_statements z_h_hasImage (m_isKeeping z_h_T) (m_cursor z_h_T) y_h_beforeMany y_h_found y_h_lots y_h_rowMany z_h_refused)) (wc' := (w_M_no cI cJ cC a_h a_h_refused a_h_kind a_h_sweets a_h_gives a_h_tape a_h_letter a_h_letterAt a_h_one a_h_two a_h_kept a_h_trail a_h_crumb a_h_nextCrumb a_h_goal a_h_start a_h_sits a_h_bestSits a_h_without a_h_row (m_many z_h_T) (m_odd z_h_T) (m_step z_h_T) (m_bag z_h_T) (m_strokes z_h_T) (m_gave z_h_T) (m_threw z_h_T) y_h_taped y_h_at y_h_statements z_h_hasImage (m_isKeeping z_h_T) (m_cursor z_h_T) y_h_beforeMany y_h_found y_h_lots y_h_rowMany q5.2)) (ws' := (w_M_joined cI cJ cC a_h a_h_refused a_h_kind a_h_sweets a_h_gives a_h_tape a_h_letter a_h_letterAt a_h_one a_h_two a_h_kept a_h_trail a_h_crumb a_h_nextCrumb a_h_goal a_h_start a_h_sits a_h_bestSits a_h_without a_h_row y_h_taped y_h_at y_h_statements y_h_beforeMany y_h_found y_h_lots y_h_rowMany (m_many z_h_T) (m_odd z_h_T) (m_step z_h_T) (m_bag z_h_T) (m_strokes z_h_T) (m_gave z_h_T) (m_threw z_h_T) z_h_hasImage (m_isKeeping z_h_T) (m_cursor z_h_T) q5.2 (m_kind z_h_T) (m_sweets z_h_T) (m_gives z_h_T) (m_kept z_h_T))) (As := [.int (-3)]) (rest := []) hx hb hml hown hT (c_M_no (z_h_refused := z_h_refused) a_h a_h_refused a_h_kind a_h_sweets a_h_gives a_h_tape a_h_letter a_h_letterAt a_h_one a_h_two a_h_kept a_h_trail a_h_crumb a_h_nextCrumb a_h_goal a_h_start a_h_sits a_h_bestSits a_h_without a_h_row (m_many z_h_T) (m_odd z_h_T) (m_step z_h_T) (m_bag z_h_T) (m_strokes z_h_T) (m_gave z_h_T) (m_threw z_h_T) y_h_taped y_h_at y_h_statements z_h_hasImage (m_isKeeping z_h_T) (m_cursor z_h_T) y_h_beforeMany y_h_found y_h_lots y_h_rowMany hq5) k_874 k_876 ks_24 k_8 k_877 hd_M_no ⟨Nat.le_of_ble_eq_true rfl, Nat.le_of_ble_eq_true rfl⟩ xE0_ok trivial hA hK hP hD hS [0, 1] [2, 3, 4, 5] [4, 5, 0, 1, 2, 3] rfl rfl rfl rfl rfl rfl rfl rfl rfl rfl hl.1 rfl (Nat.le_of_ble_eq_true rfl) ⟨Nat.zero_le _, Nat.zero_le _⟩ d_M_joined_45 (fun H locs hP hD hS => ?_)
      have hq := Option.some.inj hf
      subst hq
      exact hret _ _ _ _ _ d_M_joined_48 rfl rfl hP hD hS
    · have hf := io_f hf c4
      refine lv_aload_n hx hb d_M_joined_19 rfl (lv_at hl 1 rfl) ?_
      refine va_get hx hb hT i_M hown hK hP 0 rfl rfl 4 (Nat.le_of_ble_eq_true rfl) (hT _ k_762) (fun _ h => h) rfl d_M_joined_20 ?_
      refine lv_aload_n hx hb d_M_joined_23 rfl (lv_at hl 1 rfl) ?_
      refine va_get hx hb hT i_M hown hK hP 0 rfl rfl 19 (Nat.le_of_ble_eq_true rfl) (hT _ k_777) (fun _ h => h) rfl d_M_joined_24 ?_
      refine lv_bipush (v := 16) hx hb d_M_joined_27 (by decide) ?_
      refine x_iald hx hb hK hP 5 0 rfl rfl (j := 16) (by decide +kernel) (by unfold vp_in; decide +kernel) d_M_joined_29 ?_
      refine lv_iadd hx hb d_M_joined_30 ?_
      refine lv_bipush (v := 8) hx hb d_M_joined_31 (by decide) ?_
      refine lv_icmp_le (tgt := 39) hx hb d_M_joined_33 (by decide) (fun c6 => ?_) (fun c6 => ?_)
      · have hf := io_t hf c6
        refine lv_iload_n hx hb d_M_joined_39 rfl (lv_at hl 0 rfl) ?_
        refine lv_if_eq (tgt := 49) hx hb d_M_joined_40 (by decide) (fun _ => ?_) (fun c => absurd c2 c)
        refine lv_aload_n hx hb d_M_joined_49 rfl (lv_at hl 1 rfl) ?_
        refine lv_iconst (v := 1) hx hb d_M_joined_50 (by decide) ?_
        refine lv_iconst (v := 1) hx hb d_M_joined_51 (by decide) ?_
        obtain ⟨q7, hq7, hf⟩ := io_b hf
        refine xcVV (wc := (w_M_passesAll cI cJ cC a_h a_h_refused a_h_kind a_h_sweets a_h_gives a_h_tape a_h_letter a_h_letterAt a_h_one a_h_two a_h_kept a_h_trail a_h_crumb a_h_nextCrumb a_h_goal a_h_start a_h_sits a_h_bestSits a_h_without a_h_row y_h_taped y_h_at y_h_statements z_h_hasImage y_h_beforeMany y_h_found y_h_lots y_h_rowMany (m_many z_h_T) (m_odd z_h_T) (m_step z_h_T) (m_bag z_h_T) (m_strokes z_h_T) (m_gave z_h_T) (m_threw z_h_T) (m_isKeeping z_h_T) (m_cursor z_h_T) (m_kind z_h_T) (m_sweets z_h_T) (m_gives z_h_T) (m_kept z_h_T))) (wc' := (w_M_passesAll cI cJ cC a_h a_h_refused a_h_kind a_h_sweets a_h_gives a_h_tape a_h_letter a_h_letterAt a_h_one a_h_two a_h_kept a_h_trail a_h_crumb a_h_nextCrumb a_h_goal a_h_start a_h_sits a_h_bestSits a_h_without a_h_row y_h_taped y_h_at y_h_statements z_h_hasImage y_h_beforeMany y_h_found y_h_lots y_h_rowMany (m_many q7) (m_odd q7) (m_step q7) (m_bag q7) (m_strokes q7) (m_gave q7) (m_threw q7) (m_isKeeping q7) (m_cursor q7) (m_kind q7) (m_sweets q7) (m_gives q7) (m_kept q7))) (ws' := (w_M_joined cI cJ cC a_h a_h_refused a_h_kind a_h_sweets a_h_gives a_h_tape a_h_letter a_h_letterAt a_h_one a_h_two a_h_kept a_h_trail a_h_crumb a_h_nextCrumb a_h_goal a_h_start a_h_sits a_h_bestSits a_h_without a_h_row y_h_taped y_h_at y_h_statements y_h_beforeMany y_h_found y_h_lots y_h_rowMany (m_many q7) (m_odd q7) (m_step q7) (m_bag q7) (m_strokes q7) (m_gave q7) (m_threw q7) z_h_hasImage (m_isKeeping q7) (m_cursor q7) z_h_refused (m_kind q7) (m_sweets q7) (m_gives q7) (m_kept q7))) (As := [.int 1, .int 1]) (rest := []) hx hb hml hown hT (c_M_passesAll (z_h_T := z_h_T) a_h a_h_refused a_h_kind a_h_sweets a_h_gives a_h_tape a_h_letter a_h_letterAt a_h_one a_h_two a_h_kept a_h_trail a_h_crumb a_h_nextCrumb a_h_goal a_h_start a_h_sits a_h_bestSits a_h_without a_h_row y_h_taped y_h_at y_h_statements z_h_hasImage y_h_beforeMany y_h_found y_h_lots y_h_rowMany hq7) k_900 k_902 ks_28 k_8 k_903 hd_M_passesAll ⟨Nat.le_of_ble_eq_true rfl, Nat.le_of_ble_eq_true rfl⟩ xE0_ok trivial hA hK hP hD hS [0, 2, 3, 4, 5] [1] [1, 0, 2, 3, 4, 5] rfl rfl rfl rfl rfl rfl rfl rfl rfl rfl hl.1 rfl (Nat.le_of_ble_eq_true rfl) ⟨Nat.zero_le _, Nat.zero_le _⟩ d_M_joined_52 (fun H locs hP hD hS => ?_)
        refine lv_iconst (v := 0) hx hb d_M_joined_55 (by decide) ?_
        refine lv_istore_n (lv' := [(3, .int 0), (2, .int q1), (0, .ref a_h), (1, .int x1)]) hx hb d_M_joined_56 rfl hl (by decide) rfl (fun ls hl => ?_)
        refine L57 z_h_refused _ (fun z_h_T_12 H locs ls hf hP hD hS hl => ?_) FU q7 0 _ _ _ hf hP hD hS (lv_sub hl [2, 3, 0] rfl)
        refine lv_aload_n hx hb d_M_joined_120 rfl (lv_at hl 0 rfl) ?_
        refine va_get hx hb hT i_M hown hK hP 0 rfl rfl 4 (Nat.le_of_ble_eq_true rfl) (hT _ k_762) (fun _ h => h) rfl d_M_joined_121 ?_
        refine lv_if_ne (tgt := 131) hx hb d_M_joined_124 (by decide) (fun c13 => ?_) (fun c13 => ?_)
        · have hf := io_f hf c13
          refine lv_aload_n hx hb d_M_joined_131 rfl (lv_at hl 0 rfl) ?_
          refine lv_iload_n hx hb d_M_joined_132 rfl (lv_at hl 1 rfl) ?_
          obtain ⟨q14, hq14, hf⟩ := io_b hf
          refine xcVI (wc := (w_M_goes cI cJ cC a_h a_h_refused a_h_kind a_h_sweets a_h_gives a_h_tape a_h_letter a_h_letterAt a_h_one a_h_two a_h_kept a_h_trail a_h_crumb a_h_nextCrumb a_h_goal a_h_start a_h_sits a_h_bestSits a_h_without a_h_row y_h_taped y_h_at y_h_statements z_h_hasImage y_h_beforeMany y_h_found y_h_lots y_h_rowMany (m_many z_h_T_12) (m_odd z_h_T_12) (m_step z_h_T_12) (m_bag z_h_T_12) (m_strokes z_h_T_12) (m_gave z_h_T_12) (m_threw z_h_T_12) (m_isKeeping z_h_T_12) (m_cursor z_h_T_12) (m_kind z_h_T_12) (m_sweets z_h_T_12) (m_gives z_h_T_12) (m_kept z_h_T_12))) (wc' := (w_M_goes cI cJ cC a_h a_h_refused a_h_kind a_h_sweets a_h_gives a_h_tape a_h_letter a_h_letterAt a_h_one a_h_two a_h_kept a_h_trail a_h_crumb a_h_nextCrumb a_h_goal a_h_start a_h_sits a_h_bestSits a_h_without a_h_row y_h_taped y_h_at y_h_statements z_h_hasImage y_h_beforeMany y_h_found y_h_lots y_h_rowMany (m_many q14.2) (m_odd q14.2) (m_step q14.2) (m_bag q14.2) (m_strokes q14.2) (m_gave q14.2) (m_threw q14.2) (m_isKeeping q14.2) (m_cursor q14.2) (m_kind q14.2) (m_sweets q14.2) (m_gives q14.2) (m_kept q14.2))) (ws' := (w_M_joined cI cJ cC a_h a_h_refused a_h_kind a_h_sweets a_h_gives a_h_tape a_h_letter a_h_letterAt a_h_one a_h_two a_h_kept a_h_trail a_h_crumb a_h_nextCrumb a_h_goal a_h_start a_h_sits a_h_bestSits a_h_without a_h_row y_h_taped y_h_at y_h_statements y_h_beforeMany y_h_found y_h_lots y_h_rowMany (m_many q14.2) (m_odd q14.2) (m_step q14.2) (m_bag q14.2) (m_strokes q14.2) (m_gave q14.2) (m_threw q14.2) z_h_hasImage (m_isKeeping q14.2) (m_cursor q14.2) z_h_refused (m_kind q14.2) (m_sweets q14.2) (m_gives q14.2) (m_kept q14.2))) (As := [.int x1]) (rest := []) hx hb hml hown hT (c_M_goes (z_h_T := z_h_T_12) a_h a_h_refused a_h_kind a_h_sweets a_h_gives a_h_tape a_h_letter a_h_letterAt a_h_one a_h_two a_h_kept a_h_trail a_h_crumb a_h_nextCrumb a_h_goal a_h_start a_h_sits a_h_bestSits a_h_without a_h_row y_h_taped y_h_at y_h_statements z_h_hasImage y_h_beforeMany y_h_found y_h_lots y_h_rowMany hq14) k_964 k_966 ks_36 k_8 k_967 hd_M_goes ⟨Nat.le_of_ble_eq_true rfl, Nat.le_of_ble_eq_true rfl⟩ xE0_ok trivial hA hK hP hD hS [0, 2, 3, 4, 5] [1] [1, 0, 2, 3, 4, 5] rfl rfl rfl rfl rfl rfl rfl rfl rfl rfl hl.1 rfl (Nat.le_of_ble_eq_true rfl) ⟨Nat.zero_le _, Nat.zero_le _⟩ d_M_joined_133 (fun H locs hP hD hS => ?_)
          refine lv_istore_n (lv' := [(3, .int q14.1), (0, .ref a_h), (1, .int x1)]) hx hb d_M_joined_136 rfl hl (by decide) rfl (fun ls hl => ?_)
          refine lv_aload_n hx hb d_M_joined_137 rfl (lv_at hl 1 rfl) ?_
          refine lv_iconst (v := 1) hx hb d_M_joined_138 (by decide) ?_
          refine lv_iconst (v := 0) hx hb d_M_joined_139 (by decide) ?_
          obtain ⟨q15, hq15, hf⟩ := io_b hf
          refine xcVV (wc := (w_M_passesAll cI cJ cC a_h a_h_refused a_h_kind a_h_sweets a_h_gives a_h_tape a_h_letter a_h_letterAt a_h_one a_h_two a_h_kept a_h_trail a_h_crumb a_h_nextCrumb a_h_goal a_h_start a_h_sits a_h_bestSits a_h_without a_h_row y_h_taped y_h_at y_h_statements z_h_hasImage y_h_beforeMany y_h_found y_h_lots y_h_rowMany (m_many q14.2) (m_odd q14.2) (m_step q14.2) (m_bag q14.2) (m_strokes q14.2) (m_gave q14.2) (m_threw q14.2) (m_isKeeping q14.2) (m_cursor q14.2) (m_kind q14.2) (m_sweets q14.2) (m_gives q14.2) (m_kept q14.2))) (wc' := (w_M_passesAll cI cJ cC a_h a_h_refused a_h_kind a_h_sweets a_h_gives a_h_tape a_h_letter a_h_letterAt a_h_one a_h_two a_h_kept a_h_trail a_h_crumb a_h_nextCrumb a_h_goal a_h_start a_h_sits a_h_bestSits a_h_without a_h_row y_h_taped y_h_at y_h_statements z_h_hasImage y_h_beforeMany y_h_found y_h_lots y_h_rowMany (m_many q15) (m_odd q15) (m_step q15) (m_bag q15) (m_strokes q15) (m_gave q15) (m_threw q15) (m_isKeeping q15) (m_cursor q15) (m_kind q15) (m_sweets q15) (m_gives q15) (m_kept q15))) (ws' := (w_M_joined cI cJ cC a_h a_h_refused a_h_kind a_h_sweets a_h_gives a_h_tape a_h_letter a_h_letterAt a_h_one a_h_two a_h_kept a_h_trail a_h_crumb a_h_nextCrumb a_h_goal a_h_start a_h_sits a_h_bestSits a_h_without a_h_row y_h_taped y_h_at y_h_statements y_h_beforeMany y_h_found y_h_lots y_h_rowMany (m_many q15) (m_odd q15) (m_step q15) (m_bag q15) (m_strokes q15) (m_gave q15) (m_threw q15) z_h_hasImage (m_isKeeping q15) (m_cursor q15) z_h_refused (m_kind q15) (m_sweets q15) (m_gives q15) (m_kept q15))) (As := [.int 1, .int 0]) (rest := []) hx hb hml hown hT (c_M_passesAll (z_h_T := q14.2) a_h a_h_refused a_h_kind a_h_sweets a_h_gives a_h_tape a_h_letter a_h_letterAt a_h_one a_h_two a_h_kept a_h_trail a_h_crumb a_h_nextCrumb a_h_goal a_h_start a_h_sits a_h_bestSits a_h_without a_h_row y_h_taped y_h_at y_h_statements z_h_hasImage y_h_beforeMany y_h_found y_h_lots y_h_rowMany hq15) k_900 k_902 ks_28 k_8 k_903 hd_M_passesAll ⟨Nat.le_of_ble_eq_true rfl, Nat.le_of_ble_eq_true rfl⟩ xE0_ok trivial hA hK hP hD hS [0, 2, 3, 4, 5] [1] [1, 0, 2, 3, 4, 5] rfl rfl rfl rfl rfl rfl rfl rfl rfl rfl hl.1 rfl (Nat.le_of_ble_eq_true rfl) ⟨Nat.zero_le _, Nat.zero_le _⟩ d_M_joined_140 (fun H locs hP hD hS => ?_)
          refine lv_iload_n hx hb d_M_joined_143 rfl (lv_at hl 0 rfl) ?_
          have hq := Option.some.inj hf
          subst hq
          exact hret _ _ _ _ _ d_M_joined_144 rfl rfl hP hD hS
        · have hf := io_t hf c13
          refine lv_iconst (v := 0) hx hb d_M_joined_127 (by decide) ?_
          refine lv_goto (tgt := 136) hx hb d_M_joined_128 (by decide) ?_
          refine lv_istore_n (lv' := [(3, .int 0), (0, .ref a_h), (1, .int x1)]) hx hb d_M_joined_136 rfl hl (by decide) rfl (fun ls hl => ?_)
          refine lv_aload_n hx hb d_M_joined_137 rfl (lv_at hl 1 rfl) ?_
          refine lv_iconst (v := 1) hx hb d_M_joined_138 (by decide) ?_
          refine lv_iconst (v := 0) hx hb d_M_joined_139 (by decide) ?_
          obtain ⟨q16, hq16, hf⟩ := io_b hf
          refine xcVV (wc := (w_M_passesAll cI cJ cC a_h a_h_refused a_h_kind a_h_sweets a_h_gives a_h_tape a_h_letter a_h_letterAt a_h_one a_h_two a_h_kept a_h_trail a_h_crumb a_h_nextCrumb a_h_goal a_h_start a_h_sits a_h_bestSits a_h_without a_h_row y_h_taped y_h_at y_h_statements z_h_hasImage y_h_beforeMany y_h_found y_h_lots y_h_rowMany (m_many z_h_T_12) (m_odd z_h_T_12) (m_step z_h_T_12) (m_bag z_h_T_12) (m_strokes z_h_T_12) (m_gave z_h_T_12) (m_threw z_h_T_12) (m_isKeeping z_h_T_12) (m_cursor z_h_T_12) (m_kind z_h_T_12) (m_sweets z_h_T_12) (m_gives z_h_T_12) (m_kept z_h_T_12))) (wc' := (w_M_passesAll cI cJ cC a_h a_h_refused a_h_kind a_h_sweets a_h_gives a_h_tape a_h_letter a_h_letterAt a_h_one a_h_two a_h_kept a_h_trail a_h_crumb a_h_nextCrumb a_h_goal a_h_start a_h_sits a_h_bestSits a_h_without a_h_row y_h_taped y_h_at y_h_statements z_h_hasImage y_h_beforeMany y_h_found y_h_lots y_h_rowMany (m_many q16) (m_odd q16) (m_step q16) (m_bag q16) (m_strokes q16) (m_gave q16) (m_threw q16) (m_isKeeping q16) (m_cursor q16) (m_kind q16) (m_sweets q16) (m_gives q16) (m_kept q16))) (ws' := (w_M_joined cI cJ cC a_h a_h_refused a_h_kind a_h_sweets a_h_gives a_h_tape a_h_letter a_h_letterAt a_h_one a_h_two a_h_kept a_h_trail a_h_crumb a_h_nextCrumb a_h_goal a_h_start a_h_sits a_h_bestSits a_h_without a_h_row y_h_taped y_h_at y_h_statements y_h_beforeMany y_h_found y_h_lots y_h_rowMany (m_many q16) (m_odd q16) (m_step q16) (m_bag q16) (m_strokes q16) (m_gave q16) (m_threw q16) z_h_hasImage (m_isKeeping q16) (m_cursor q16) z_h_refused (m_kind q16) (m_sweets q16) (m_gives q16) (m_kept q16))) (As := [.int 1, .int 0]) (rest := []) hx hb hml hown hT (c_M_passesAll (z_h_T := z_h_T_12) a_h a_h_refused a_h_kind a_h_sweets a_h_gives a_h_tape a_h_letter a_h_letterAt a_h_one a_h_two a_h_kept a_h_trail a_h_crumb a_h_nextCrumb a_h_goal a_h_start a_h_sits a_h_bestSits a_h_without a_h_row y_h_taped y_h_at y_h_statements z_h_hasImage y_h_beforeMany y_h_found y_h_lots y_h_rowMany hq16) k_900 k_902 ks_28 k_8 k_903 hd_M_passesAll ⟨Nat.le_of_ble_eq_true rfl, Nat.le_of_ble_eq_true rfl⟩ xE0_ok trivial hA hK hP hD hS [0, 2, 3, 4, 5] [1] [1, 0, 2, 3, 4, 5] rfl rfl rfl rfl rfl rfl rfl rfl rfl rfl hl.1 rfl (Nat.le_of_ble_eq_true rfl) ⟨Nat.zero_le _, Nat.zero_le _⟩ d_M_joined_140 (fun H locs hP hD hS => ?_)
          refine lv_iload_n hx hb d_M_joined_143 rfl (lv_at hl 0 rfl) ?_
          have hq := Option.some.inj hf
          subst hq
          exact hret _ _ _ _ _ d_M_joined_144 rfl rfl hP hD hS
      · have hf := io_f hf c6
        refine lv_bipush (v := (-3)) hx hb d_M_joined_36 (by decide) ?_
        refine lv_istore_n (lv' := [(2, .int (-3)), (0, .ref a_h), (1, .int x1)]) hx hb d_M_joined_38 rfl hl (by decide) rfl (fun ls hl => ?_)
        refine lv_iload_n hx hb d_M_joined_39 rfl (lv_at hl 0 rfl) ?_
        refine lv_if_eq (tgt := 49) hx hb d_M_joined_40 (by decide) (fun c => absurd c (show ¬ ((-3) : Int32) = 0 from by decide +kernel)) (fun _ => ?_)
        refine lv_aload_n hx hb d_M_joined_43 rfl (lv_at hl 1 rfl) ?_
        refine lv_iload_n hx hb d_M_joined_44 rfl (lv_at hl 0 rfl) ?_
        obtain ⟨q17, hq17, hf⟩ := io_b hf
        refine xcVI (wc := (w_M_no cI cJ cC a_h a_h_refused a_h_kind a_h_sweets a_h_gives a_h_tape a_h_letter a_h_letterAt a_h_one a_h_two a_h_kept a_h_trail a_h_crumb a_h_nextCrumb a_h_goal a_h_start a_h_sits a_h_bestSits a_h_without a_h_row (m_many z_h_T) (m_odd z_h_T) (m_step z_h_T) (m_bag z_h_T) (m_strokes z_h_T) (m_gave z_h_T) (m_threw z_h_T) y_h_taped y_h_at y_h_statements z_h_hasImage (m_isKeeping z_h_T) (m_cursor z_h_T) y_h_beforeMany y_h_found y_h_lots y_h_rowMany z_h_refused)) (wc' := (w_M_no cI cJ cC a_h a_h_refused a_h_kind a_h_sweets a_h_gives a_h_tape a_h_letter a_h_letterAt a_h_one a_h_two a_h_kept a_h_trail a_h_crumb a_h_nextCrumb a_h_goal a_h_start a_h_sits a_h_bestSits a_h_without a_h_row (m_many z_h_T) (m_odd z_h_T) (m_step z_h_T) (m_bag z_h_T) (m_strokes z_h_T) (m_gave z_h_T) (m_threw z_h_T) y_h_taped y_h_at y_h_statements z_h_hasImage (m_isKeeping z_h_T) (m_cursor z_h_T) y_h_beforeMany y_h_found y_h_lots y_h_rowMany q17.2)) (ws' := (w_M_joined cI cJ cC a_h a_h_refused a_h_kind a_h_sweets a_h_gives a_h_tape a_h_letter a_h_letterAt a_h_one a_h_two a_h_kept a_h_trail a_h_crumb a_h_nextCrumb a_h_goal a_h_start a_h_sits a_h_bestSits a_h_without a_h_row y_h_taped y_h_at y_h_statements y_h_beforeMany y_h_found y_h_lots y_h_rowMany (m_many z_h_T) (m_odd z_h_T) (m_step z_h_T) (m_bag z_h_T) (m_strokes z_h_T) (m_gave z_h_T) (m_threw z_h_T) z_h_hasImage (m_isKeeping z_h_T) (m_cursor z_h_T) q17.2 (m_kind z_h_T) (m_sweets z_h_T) (m_gives z_h_T) (m_kept z_h_T))) (As := [.int (-3)]) (rest := []) hx hb hml hown hT (c_M_no (z_h_refused := z_h_refused) a_h a_h_refused a_h_kind a_h_sweets a_h_gives a_h_tape a_h_letter a_h_letterAt a_h_one a_h_two a_h_kept a_h_trail a_h_crumb a_h_nextCrumb a_h_goal a_h_start a_h_sits a_h_bestSits a_h_without a_h_row (m_many z_h_T) (m_odd z_h_T) (m_step z_h_T) (m_bag z_h_T) (m_strokes z_h_T) (m_gave z_h_T) (m_threw z_h_T) y_h_taped y_h_at y_h_statements z_h_hasImage (m_isKeeping z_h_T) (m_cursor z_h_T) y_h_beforeMany y_h_found y_h_lots y_h_rowMany hq17) k_874 k_876 ks_24 k_8 k_877 hd_M_no ⟨Nat.le_of_ble_eq_true rfl, Nat.le_of_ble_eq_true rfl⟩ xE0_ok trivial hA hK hP hD hS [0, 1] [2, 3, 4, 5] [4, 5, 0, 1, 2, 3] rfl rfl rfl rfl rfl rfl rfl rfl rfl rfl hl.1 rfl (Nat.le_of_ble_eq_true rfl) ⟨Nat.zero_le _, Nat.zero_le _⟩ d_M_joined_45 (fun H locs hP hD hS => ?_)
        have hq := Option.some.inj hf
        subst hq
        exact hret _ _ _ _ _ d_M_joined_48 rfl rfl hP hD hS
abbrev w_M_newly (cI cJ cC : ClassId) (a_h a_h_refused a_h_kind a_h_sweets a_h_gives a_h_tape a_h_letter a_h_letterAt a_h_one a_h_two a_h_kept a_h_trail a_h_crumb a_h_nextCrumb a_h_goal a_h_start a_h_sits a_h_bestSits a_h_without a_h_row : Nat) (y_h_taped : Int32) (y_h_at : Int32) (y_h_statements : Int32) (y_h_hasImage : Int32) (y_h_beforeMany : Int32) (y_h_found : Int32) (y_h_lots : Int32) (y_h_rowMany : Int32) (p_h_many : Int32) (p_h_odd : Int32) (p_h_step : Int32) (p_h_bag : Int32) (p_h_strokes : Int32) (p_h_gave : Int32) (p_h_threw : Int32) (p_h_isKeeping : Int32) (p_h_cursor : Int32) (p_h_refused : (Nat → Int32)) (p_h_kind : (Nat → Int32)) (p_h_sweets : (Nat → Int32)) (p_h_gives : (Nat → Int32)) (p_h_kept : (Nat → Int32)) : va_W := [(a_h, .inr (7, [.ref a_h_refused, .ref a_h_kind, .ref a_h_sweets, .ref a_h_gives, .int p_h_many, .int p_h_odd, .int p_h_step, .int p_h_bag, .int p_h_strokes, .int p_h_gave, .int p_h_threw, .ref a_h_tape, .ref a_h_letter, .ref a_h_letterAt, .ref a_h_one, .ref a_h_two, .int y_h_taped, .int y_h_at, .int y_h_statements, .ref a_h_kept, .int y_h_hasImage, .int p_h_isKeeping, .int p_h_cursor, .ref a_h_trail, .ref a_h_crumb, .ref a_h_nextCrumb, .ref a_h_goal, .ref a_h_start, .int y_h_beforeMany, .int y_h_found, .ref a_h_sits, .ref a_h_bestSits, .ref a_h_without, .int y_h_lots, .ref a_h_row, .int y_h_rowMany])), (a_h_refused, .inl (cI, (7, .inl p_h_refused))), (a_h_kind, .inl (cI, (8, .inl p_h_kind))), (a_h_sweets, .inl (cI, (8, .inl p_h_sweets))), (a_h_gives, .inl (cI, (8, .inl p_h_gives))), (a_h_kept, .inl (cI, (90, .inl p_h_kept)))]
theorem d_M_newly_0 : decode b_M_newly 0 = .ok (.iload_n 1, 1) := by decide +kernel
theorem d_M_newly_1 : decode b_M_newly 1 = .ok (.ifCond .lt 7, 3) := by decide +kernel
theorem d_M_newly_4 : decode b_M_newly 4 = .ok (.iload_n 2, 1) := by decide +kernel
theorem d_M_newly_5 : decode b_M_newly 5 = .ok (.ifCond .ge 8, 3) := by decide +kernel
theorem d_M_newly_8 : decode b_M_newly 8 = .ok (.bipush (-4), 2) := by decide +kernel
theorem d_M_newly_10 : decode b_M_newly 10 = .ok (.goto 31, 3) := by decide +kernel
theorem d_M_newly_13 : decode b_M_newly 13 = .ok (.iload_n 1, 1) := by decide +kernel
theorem d_M_newly_14 : decode b_M_newly 14 = .ok (.sipush 999, 3) := by decide +kernel
theorem d_M_newly_17 : decode b_M_newly 17 = .ok (.if_icmp .gt 18, 3) := by decide +kernel
theorem d_M_newly_20 : decode b_M_newly 20 = .ok (.iload_n 2, 1) := by decide +kernel
theorem d_M_newly_21 : decode b_M_newly 21 = .ok (.bipush 50, 2) := by decide +kernel
theorem d_M_newly_23 : decode b_M_newly 23 = .ok (.if_icmp .gt 12, 3) := by decide +kernel
theorem d_M_newly_26 : decode b_M_newly 26 = .ok (.aload_n 0, 1) := by decide +kernel
theorem d_M_newly_27 : decode b_M_newly 27 = .ok (.getfield 78, 3) := by decide +kernel
theorem d_M_newly_30 : decode b_M_newly 30 = .ok (.bipush 8, 2) := by decide +kernel
theorem d_M_newly_32 : decode b_M_newly 32 = .ok (.if_icmp .ne 8, 3) := by decide +kernel
theorem d_M_newly_35 : decode b_M_newly 35 = .ok (.bipush (-6), 2) := by decide +kernel
theorem d_M_newly_37 : decode b_M_newly 37 = .ok (.goto 4, 3) := by decide +kernel
theorem d_M_newly_40 : decode b_M_newly 40 = .ok (.iconst 0, 1) := by decide +kernel
theorem d_M_newly_41 : decode b_M_newly 41 = .ok (.istore_n 3, 1) := by decide +kernel
theorem d_M_newly_42 : decode b_M_newly 42 = .ok (.iload_n 3, 1) := by decide +kernel
theorem d_M_newly_43 : decode b_M_newly 43 = .ok (.ifCond .eq 9, 3) := by decide +kernel
theorem d_M_newly_46 : decode b_M_newly 46 = .ok (.aload_n 0, 1) := by decide +kernel
theorem d_M_newly_47 : decode b_M_newly 47 = .ok (.iload_n 3, 1) := by decide +kernel
theorem d_M_newly_48 : decode b_M_newly 48 = .ok (.invokevirtual 240, 3) := by decide +kernel
theorem d_M_newly_51 : decode b_M_newly 51 = .ok (.ireturn, 1) := by decide +kernel
theorem d_M_newly_52 : decode b_M_newly 52 = .ok (.aload_n 0, 1) := by decide +kernel
theorem d_M_newly_53 : decode b_M_newly 53 = .ok (.iconst 1, 1) := by decide +kernel
theorem d_M_newly_54 : decode b_M_newly 54 = .ok (.iconst 1, 1) := by decide +kernel
theorem d_M_newly_55 : decode b_M_newly 55 = .ok (.invokevirtual 119, 3) := by decide +kernel
theorem d_M_newly_58 : decode b_M_newly 58 = .ok (.aload_n 0, 1) := by decide +kernel
theorem d_M_newly_59 : decode b_M_newly 59 = .ok (.iload_n 2, 1) := by decide +kernel
theorem d_M_newly_60 : decode b_M_newly 60 = .ok (.invokevirtual 179, 3) := by decide +kernel
theorem d_M_newly_63 : decode b_M_newly 63 = .ok (.istore 4, 2) := by decide +kernel
theorem d_M_newly_65 : decode b_M_newly 65 = .ok (.aload_n 0, 1) := by decide +kernel
theorem d_M_newly_66 : decode b_M_newly 66 = .ok (.iconst 1, 1) := by decide +kernel
theorem d_M_newly_67 : decode b_M_newly 67 = .ok (.iconst 0, 1) := by decide +kernel
theorem d_M_newly_68 : decode b_M_newly 68 = .ok (.invokevirtual 119, 3) := by decide +kernel
theorem d_M_newly_71 : decode b_M_newly 71 = .ok (.aload_n 0, 1) := by decide +kernel
theorem d_M_newly_72 : decode b_M_newly 72 = .ok (.getfield 13, 3) := by decide +kernel
theorem d_M_newly_75 : decode b_M_newly 75 = .ok (.aload_n 0, 1) := by decide +kernel
theorem d_M_newly_76 : decode b_M_newly 76 = .ok (.getfield 78, 3) := by decide +kernel
theorem d_M_newly_79 : decode b_M_newly 79 = .ok (.iconst 0, 1) := by decide +kernel
theorem d_M_newly_80 : decode b_M_newly 80 = .ok (.iastore, 1) := by decide +kernel
theorem d_M_newly_81 : decode b_M_newly 81 = .ok (.aload_n 0, 1) := by decide +kernel
theorem d_M_newly_82 : decode b_M_newly 82 = .ok (.getfield 16, 3) := by decide +kernel
theorem d_M_newly_85 : decode b_M_newly 85 = .ok (.aload_n 0, 1) := by decide +kernel
theorem d_M_newly_86 : decode b_M_newly 86 = .ok (.getfield 78, 3) := by decide +kernel
theorem d_M_newly_89 : decode b_M_newly 89 = .ok (.iload_n 1, 1) := by decide +kernel
theorem d_M_newly_90 : decode b_M_newly 90 = .ok (.iastore, 1) := by decide +kernel
theorem d_M_newly_91 : decode b_M_newly 91 = .ok (.aload_n 0, 1) := by decide +kernel
theorem d_M_newly_92 : decode b_M_newly 92 = .ok (.dup, 1) := by decide +kernel
theorem d_M_newly_93 : decode b_M_newly 93 = .ok (.getfield 78, 3) := by decide +kernel
theorem d_M_newly_96 : decode b_M_newly 96 = .ok (.iconst 1, 1) := by decide +kernel
theorem d_M_newly_97 : decode b_M_newly 97 = .ok (.iadd, 1) := by decide +kernel
theorem d_M_newly_98 : decode b_M_newly 98 = .ok (.putfield 78, 3) := by decide +kernel
theorem d_M_newly_101 : decode b_M_newly 101 = .ok (.aload_n 0, 1) := by decide +kernel
theorem d_M_newly_102 : decode b_M_newly 102 = .ok (.iload_n 2, 1) := by decide +kernel
theorem d_M_newly_103 : decode b_M_newly 103 = .ok (.invokevirtual 179, 3) := by decide +kernel
theorem d_M_newly_106 : decode b_M_newly 106 = .ok (.istore 5, 2) := by decide +kernel
theorem d_M_newly_108 : decode b_M_newly 108 = .ok (.aload_n 0, 1) := by decide +kernel
theorem d_M_newly_109 : decode b_M_newly 109 = .ok (.iconst 1, 1) := by decide +kernel
theorem d_M_newly_110 : decode b_M_newly 110 = .ok (.iconst 0, 1) := by decide +kernel
theorem d_M_newly_111 : decode b_M_newly 111 = .ok (.invokevirtual 119, 3) := by decide +kernel
theorem d_M_newly_114 : decode b_M_newly 114 = .ok (.iload 5, 2) := by decide +kernel
theorem d_M_newly_116 : decode b_M_newly 116 = .ok (.iload 4, 2) := by decide +kernel
theorem d_M_newly_118 : decode b_M_newly 118 = .ok (.isub, 1) := by decide +kernel
theorem d_M_newly_119 : decode b_M_newly 119 = .ok (.ireturn, 1) := by decide +kernel
set_option maxHeartbeats 4000000 in
set_option maxRecDepth 100000 in
theorem c_M_newly {l : Launch} {D : va_G} {cI cJ cC : ClassId} (a_h a_h_refused a_h_kind a_h_sweets a_h_gives a_h_tape a_h_letter a_h_letterAt a_h_one a_h_two a_h_kept a_h_trail a_h_crumb a_h_nextCrumb a_h_goal a_h_start a_h_sits a_h_bestSits a_h_without a_h_row : Nat) (y_h_taped : Int32) (y_h_at : Int32) (y_h_statements : Int32) (y_h_hasImage : Int32) (y_h_beforeMany : Int32) (y_h_found : Int32) (y_h_lots : Int32) (y_h_rowMany : Int32) {z_h_T : MT} {z_h_refused : (Nat → Int32)} {x1 : Int32} {x2 : Int32} {q : Int32 × MT × (Nat → Int32)} (hf : f_M_newly z_h_T z_h_refused x1 x2 = some q) : xI l y_M_newly b_M_newly 6 .int 4 89 D (tyK cI cJ cC) xE0 [.ref a_h, .int x1, .int x2] (w_M_newly cI cJ cC a_h a_h_refused a_h_kind a_h_sweets a_h_gives a_h_tape a_h_letter a_h_letterAt a_h_one a_h_two a_h_kept a_h_trail a_h_crumb a_h_nextCrumb a_h_goal a_h_start a_h_sits a_h_bestSits a_h_without a_h_row y_h_taped y_h_at y_h_statements y_h_hasImage y_h_beforeMany y_h_found y_h_lots y_h_rowMany (m_many z_h_T) (m_odd z_h_T) (m_step z_h_T) (m_bag z_h_T) (m_strokes z_h_T) (m_gave z_h_T) (m_threw z_h_T) (m_isKeeping z_h_T) (m_cursor z_h_T) z_h_refused (m_kind z_h_T) (m_sweets z_h_T) (m_gives z_h_T) (m_kept z_h_T)) q.1 (w_M_newly cI cJ cC a_h a_h_refused a_h_kind a_h_sweets a_h_gives a_h_tape a_h_letter a_h_letterAt a_h_one a_h_two a_h_kept a_h_trail a_h_crumb a_h_nextCrumb a_h_goal a_h_start a_h_sits a_h_bestSits a_h_without a_h_row y_h_taped y_h_at y_h_statements y_h_hasImage y_h_beforeMany y_h_found y_h_lots y_h_rowMany (m_many q.2.1) (m_odd q.2.1) (m_step q.2.1) (m_bag q.2.1) (m_strokes q.2.1) (m_gave q.2.1) (m_threw q.2.1) (m_isKeeping q.2.1) (m_cursor q.2.1) q.2.2 (m_kind q.2.1) (m_sweets q.2.1) (m_gives q.2.1) (m_kept q.2.1)) := by
  refine xI_of (by decide) (Nat.le_of_ble_eq_true rfl) ?_
  intro p e s m args below meth c A Q hx hb hml hown hT hA hP hD hK hS hE hret ls hl
  have hown : s.vm.findClass R_M = some m.cls := hown
  have hl : lv_has ls 6 [(0, .ref a_h), (1, .int x1), (2, .int x2)] := hl
  unfold f_M_newly at hf
  refine lv_iload_n hx hb d_M_newly_0 rfl (lv_at hl 1 rfl) ?_
  refine lv_if_lt (tgt := 8) hx hb d_M_newly_1 (by decide) (fun c1 => ?_) (fun c1 => ?_)
  · have hf := io_t hf c1
    refine lv_bipush (v := (-4)) hx hb d_M_newly_8 (by decide) ?_
    refine lv_goto (tgt := 41) hx hb d_M_newly_10 (by decide) ?_
    refine lv_istore_n (lv' := [(3, .int (-4)), (0, .ref a_h), (1, .int x1), (2, .int x2)]) hx hb d_M_newly_41 rfl hl (by decide) rfl (fun ls hl => ?_)
    refine lv_iload_n hx hb d_M_newly_42 rfl (lv_at hl 0 rfl) ?_
    refine lv_if_eq (tgt := 52) hx hb d_M_newly_43 (by decide) (fun c => absurd c (show ¬ ((-4) : Int32) = 0 from by decide +kernel)) (fun _ => ?_)
    refine lv_aload_n hx hb d_M_newly_46 rfl (lv_at hl 1 rfl) ?_
    refine lv_iload_n hx hb d_M_newly_47 rfl (lv_at hl 0 rfl) ?_
    obtain ⟨q2, hq2, hf⟩ := io_b hf
    refine xcVI (wc := (w_M_lower cI cJ cC a_h a_h_refused a_h_kind a_h_sweets a_h_gives a_h_tape a_h_letter a_h_letterAt a_h_one a_h_two a_h_kept a_h_trail a_h_crumb a_h_nextCrumb a_h_goal a_h_start a_h_sits a_h_bestSits a_h_without a_h_row (m_many z_h_T) (m_odd z_h_T) (m_step z_h_T) (m_bag z_h_T) (m_strokes z_h_T) (m_gave z_h_T) (m_threw z_h_T) y_h_taped y_h_at y_h_statements y_h_hasImage (m_isKeeping z_h_T) (m_cursor z_h_T) y_h_beforeMany y_h_found y_h_lots y_h_rowMany z_h_refused)) (wc' := (w_M_lower cI cJ cC a_h a_h_refused a_h_kind a_h_sweets a_h_gives a_h_tape a_h_letter a_h_letterAt a_h_one a_h_two a_h_kept a_h_trail a_h_crumb a_h_nextCrumb a_h_goal a_h_start a_h_sits a_h_bestSits a_h_without a_h_row (m_many z_h_T) (m_odd z_h_T) (m_step z_h_T) (m_bag z_h_T) (m_strokes z_h_T) (m_gave z_h_T) (m_threw z_h_T) y_h_taped y_h_at y_h_statements y_h_hasImage (m_isKeeping z_h_T) (m_cursor z_h_T) y_h_beforeMany y_h_found y_h_lots y_h_rowMany q2.2)) (ws' := (w_M_newly cI cJ cC a_h a_h_refused a_h_kind a_h_sweets a_h_gives a_h_tape a_h_letter a_h_letterAt a_h_one a_h_two a_h_kept a_h_trail a_h_crumb a_h_nextCrumb a_h_goal a_h_start a_h_sits a_h_bestSits a_h_without a_h_row y_h_taped y_h_at y_h_statements y_h_hasImage y_h_beforeMany y_h_found y_h_lots y_h_rowMany (m_many z_h_T) (m_odd z_h_T) (m_step z_h_T) (m_bag z_h_T) (m_strokes z_h_T) (m_gave z_h_T) (m_threw z_h_T) (m_isKeeping z_h_T) (m_cursor z_h_T) q2.2 (m_kind z_h_T) (m_sweets z_h_T) (m_gives z_h_T) (m_kept z_h_T))) (As := [.int (-4)]) (rest := []) hx hb hml hown hT (c_M_lower (z_h_refused := z_h_refused) a_h a_h_refused a_h_kind a_h_sweets a_h_gives a_h_tape a_h_letter a_h_letterAt a_h_one a_h_two a_h_kept a_h_trail a_h_crumb a_h_nextCrumb a_h_goal a_h_start a_h_sits a_h_bestSits a_h_without a_h_row (m_many z_h_T) (m_odd z_h_T) (m_step z_h_T) (m_bag z_h_T) (m_strokes z_h_T) (m_gave z_h_T) (m_threw z_h_T) y_h_taped y_h_at y_h_statements y_h_hasImage (m_isKeeping z_h_T) (m_cursor z_h_T) y_h_beforeMany y_h_found y_h_lots y_h_rowMany hq2) k_1100 k_1102 ks_54 k_8 k_1103 hd_M_lower ⟨Nat.le_of_ble_eq_true rfl, Nat.le_of_ble_eq_true rfl⟩ xE0_ok trivial hA hK hP hD hS [0, 1] [2, 3, 4, 5] [4, 5, 0, 1, 2, 3] rfl rfl rfl rfl rfl rfl rfl rfl rfl rfl hl.1 rfl (Nat.le_of_ble_eq_true rfl) ⟨Nat.zero_le _, Nat.zero_le _⟩ d_M_newly_48 (fun H locs hP hD hS => ?_)
    have hq := Option.some.inj hf
    subst hq
    exact hret _ _ _ _ _ d_M_newly_51 rfl rfl hP hD hS
  · have hf := io_f hf c1
    refine lv_iload_n hx hb d_M_newly_4 rfl (lv_at hl 2 rfl) ?_
    refine lv_if_ge (tgt := 13) hx hb d_M_newly_5 (by decide) (fun c3 => ?_) (fun c3 => ?_)
    · have hf := io_t hf c3
      refine lv_iload_n hx hb d_M_newly_13 rfl (lv_at hl 1 rfl) ?_
      refine lv_sipush (v := 999) hx hb d_M_newly_14 (by decide) ?_
      refine lv_icmp_gt (tgt := 35) hx hb d_M_newly_17 (by decide) (fun c4 => ?_) (fun c4 => ?_)
      · have hf := io_t hf c4
        refine lv_bipush (v := (-6)) hx hb d_M_newly_35 (by decide) ?_
        refine lv_goto (tgt := 41) hx hb d_M_newly_37 (by decide) ?_
        refine lv_istore_n (lv' := [(3, .int (-6)), (0, .ref a_h), (1, .int x1), (2, .int x2)]) hx hb d_M_newly_41 rfl hl (by decide) rfl (fun ls hl => ?_)
        refine lv_iload_n hx hb d_M_newly_42 rfl (lv_at hl 0 rfl) ?_
        refine lv_if_eq (tgt := 52) hx hb d_M_newly_43 (by decide) (fun c => absurd c (show ¬ ((-6) : Int32) = 0 from by decide +kernel)) (fun _ => ?_)
        refine lv_aload_n hx hb d_M_newly_46 rfl (lv_at hl 1 rfl) ?_
        refine lv_iload_n hx hb d_M_newly_47 rfl (lv_at hl 0 rfl) ?_
        obtain ⟨q5, hq5, hf⟩ := io_b hf
        refine xcVI (wc := (w_M_lower cI cJ cC a_h a_h_refused a_h_kind a_h_sweets a_h_gives a_h_tape a_h_letter a_h_letterAt a_h_one a_h_two a_h_kept a_h_trail a_h_crumb a_h_nextCrumb a_h_goal a_h_start a_h_sits a_h_bestSits a_h_without a_h_row (m_many z_h_T) (m_odd z_h_T) (m_step z_h_T) (m_bag z_h_T) (m_strokes z_h_T) (m_gave z_h_T) (m_threw z_h_T) y_h_taped y_h_at y_h_statements y_h_hasImage (m_isKeeping z_h_T) (m_cursor z_h_T) y_h_beforeMany y_h_found y_h_lots y_h_rowMany z_h_refused)) (wc' := (w_M_lower cI cJ cC a_h a_h_refused a_h_kind a_h_sweets a_h_gives a_h_tape a_h_letter a_h_letterAt a_h_one a_h_two a_h_kept a_h_trail a_h_crumb a_h_nextCrumb a_h_goal a_h_start a_h_sits a_h_bestSits a_h_without a_h_row (m_many z_h_T) (m_odd z_h_T) (m_step z_h_T) (m_bag z_h_T) (m_strokes z_h_T) (m_gave z_h_T) (m_threw z_h_T) y_h_taped y_h_at y_h_statements y_h_hasImage (m_isKeeping z_h_T) (m_cursor z_h_T) y_h_beforeMany y_h_found y_h_lots y_h_rowMany q5.2)) (ws' := (w_M_newly cI cJ cC a_h a_h_refused a_h_kind a_h_sweets a_h_gives a_h_tape a_h_letter a_h_letterAt a_h_one a_h_two a_h_kept a_h_trail a_h_crumb a_h_nextCrumb a_h_goal a_h_start a_h_sits a_h_bestSits a_h_without a_h_row y_h_taped y_h_at y_h_statements y_h_hasImage y_h_beforeMany y_h_found y_h_lots y_h_rowMany (m_many z_h_T) (m_odd z_h_T) (m_step z_h_T) (m_bag z_h_T) (m_strokes z_h_T) (m_gave z_h_T) (m_threw z_h_T) (m_isKeeping z_h_T) (m_cursor z_h_T) q5.2 (m_kind z_h_T) (m_sweets z_h_T) (m_gives z_h_T) (m_kept z_h_T))) (As := [.int (-6)]) (rest := []) hx hb hml hown hT (c_M_lower (z_h_refused := z_h_refused) a_h a_h_refused a_h_kind a_h_sweets a_h_gives a_h_tape a_h_letter a_h_letterAt a_h_one a_h_two a_h_kept a_h_trail a_h_crumb a_h_nextCrumb a_h_goal a_h_start a_h_sits a_h_bestSits a_h_without a_h_row (m_many z_h_T) (m_odd z_h_T) (m_step z_h_T) (m_bag z_h_T) (m_strokes z_h_T) (m_gave z_h_T) (m_threw z_h_T) y_h_taped y_h_at y_h_statements y_h_hasImage (m_isKeeping z_h_T) (m_cursor z_h_T) y_h_beforeMany y_h_found y_h_lots y_h_rowMany hq5) k_1100 k_1102 ks_54 k_8 k_1103 hd_M_lower ⟨Nat.le_of_ble_eq_true rfl, Nat.le_of_ble_eq_true rfl⟩ xE0_ok trivial hA hK hP hD hS [0, 1] [2, 3, 4, 5] [4, 5, 0, 1, 2, 3] rfl rfl rfl rfl rfl rfl rfl rfl rfl rfl hl.1 rfl (Nat.le_of_ble_eq_true rfl) ⟨Nat.zero_le _, Nat.zero_le _⟩ d_M_newly_48 (fun H locs hP hD hS => ?_)
        have hq := Option.some.inj hf
        subst hq
        exact hret _ _ _ _ _ d_M_newly_51 rfl rfl hP hD hS
      · have hf := io_f hf c4
        refine lv_iload_n hx hb d_M_newly_20 rfl (lv_at hl 2 rfl) ?_
        refine lv_bipush (v := 50) hx hb d_M_newly_21 (by decide) ?_
        refine lv_icmp_gt (tgt := 35) hx hb d_M_newly_23 (by decide) (fun c6 => ?_) (fun c6 => ?_)
        · have hf := io_t hf c6
          refine lv_bipush (v := (-6)) hx hb d_M_newly_35 (by decide) ?_
          refine lv_goto (tgt := 41) hx hb d_M_newly_37 (by decide) ?_
          refine lv_istore_n (lv' := [(3, .int (-6)), (0, .ref a_h), (1, .int x1), (2, .int x2)]) hx hb d_M_newly_41 rfl hl (by decide) rfl (fun ls hl => ?_)
          refine lv_iload_n hx hb d_M_newly_42 rfl (lv_at hl 0 rfl) ?_
          refine lv_if_eq (tgt := 52) hx hb d_M_newly_43 (by decide) (fun c => absurd c (show ¬ ((-6) : Int32) = 0 from by decide +kernel)) (fun _ => ?_)
          refine lv_aload_n hx hb d_M_newly_46 rfl (lv_at hl 1 rfl) ?_
          refine lv_iload_n hx hb d_M_newly_47 rfl (lv_at hl 0 rfl) ?_
          obtain ⟨q7, hq7, hf⟩ := io_b hf
          refine xcVI (wc := (w_M_lower cI cJ cC a_h a_h_refused a_h_kind a_h_sweets a_h_gives a_h_tape a_h_letter a_h_letterAt a_h_one a_h_two a_h_kept a_h_trail a_h_crumb a_h_nextCrumb a_h_goal a_h_start a_h_sits a_h_bestSits a_h_without a_h_row (m_many z_h_T) (m_odd z_h_T) (m_step z_h_T) (m_bag z_h_T) (m_strokes z_h_T) (m_gave z_h_T) (m_threw z_h_T) y_h_taped y_h_at y_h_statements y_h_hasImage (m_isKeeping z_h_T) (m_cursor z_h_T) y_h_beforeMany y_h_found y_h_lots y_h_rowMany z_h_refused)) (wc' := (w_M_lower cI cJ cC a_h a_h_refused a_h_kind a_h_sweets a_h_gives a_h_tape a_h_letter a_h_letterAt a_h_one a_h_two a_h_kept a_h_trail a_h_crumb a_h_nextCrumb a_h_goal a_h_start a_h_sits a_h_bestSits a_h_without a_h_row (m_many z_h_T) (m_odd z_h_T) (m_step z_h_T) (m_bag z_h_T) (m_strokes z_h_T) (m_gave z_h_T) (m_threw z_h_T) y_h_taped y_h_at y_h_statements y_h_hasImage (m_isKeeping z_h_T) (m_cursor z_h_T) y_h_beforeMany y_h_found y_h_lots y_h_rowMany q7.2)) (ws' := (w_M_newly cI cJ cC a_h a_h_refused a_h_kind a_h_sweets a_h_gives a_h_tape a_h_letter a_h_letterAt a_h_one a_h_two a_h_kept a_h_trail a_h_crumb a_h_nextCrumb a_h_goal a_h_start a_h_sits a_h_bestSits a_h_without a_h_row y_h_taped y_h_at y_h_statements y_h_hasImage y_h_beforeMany y_h_found y_h_lots y_h_rowMany (m_many z_h_T) (m_odd z_h_T) (m_step z_h_T) (m_bag z_h_T) (m_strokes z_h_T) (m_gave z_h_T) (m_threw z_h_T) (m_isKeeping z_h_T) (m_cursor z_h_T) q7.2 (m_kind z_h_T) (m_sweets z_h_T) (m_gives z_h_T) (m_kept z_h_T))) (As := [.int (-6)]) (rest := []) hx hb hml hown hT (c_M_lower (z_h_refused := z_h_refused) a_h a_h_refused a_h_kind a_h_sweets a_h_gives a_h_tape a_h_letter a_h_letterAt a_h_one a_h_two a_h_kept a_h_trail a_h_crumb a_h_nextCrumb a_h_goal a_h_start a_h_sits a_h_bestSits a_h_without a_h_row (m_many z_h_T) (m_odd z_h_T) (m_step z_h_T) (m_bag z_h_T) (m_strokes z_h_T) (m_gave z_h_T) (m_threw z_h_T) y_h_taped y_h_at y_h_statements y_h_hasImage (m_isKeeping z_h_T) (m_cursor z_h_T) y_h_beforeMany y_h_found y_h_lots y_h_rowMany hq7) k_1100 k_1102 ks_54 k_8 k_1103 hd_M_lower ⟨Nat.le_of_ble_eq_true rfl, Nat.le_of_ble_eq_true rfl⟩ xE0_ok trivial hA hK hP hD hS [0, 1] [2, 3, 4, 5] [4, 5, 0, 1, 2, 3] rfl rfl rfl rfl rfl rfl rfl rfl rfl rfl hl.1 rfl (Nat.le_of_ble_eq_true rfl) ⟨Nat.zero_le _, Nat.zero_le _⟩ d_M_newly_48 (fun H locs hP hD hS => ?_)
          have hq := Option.some.inj hf
          subst hq
          exact hret _ _ _ _ _ d_M_newly_51 rfl rfl hP hD hS
        · have hf := io_f hf c6
          refine lv_aload_n hx hb d_M_newly_26 rfl (lv_at hl 0 rfl) ?_
          refine va_get hx hb hT i_M hown hK hP 0 rfl rfl 4 (Nat.le_of_ble_eq_true rfl) (hT _ k_762) (fun _ h => h) rfl d_M_newly_27 ?_
          refine lv_bipush (v := 8) hx hb d_M_newly_30 (by decide) ?_
          refine lv_icmp_ne (tgt := 40) hx hb d_M_newly_32 (by decide) (fun c8 => ?_) (fun c8 => ?_)
          · have hf := io_f hf c8
            refine lv_iconst (v := 0) hx hb d_M_newly_40 (by decide) ?_
            refine lv_istore_n (lv' := [(3, .int 0), (0, .ref a_h), (1, .int x1), (2, .int x2)]) hx hb d_M_newly_41 rfl hl (by decide) rfl (fun ls hl => ?_)
            refine lv_iload_n hx hb d_M_newly_42 rfl (lv_at hl 0 rfl) ?_
            refine lv_if_eq (tgt := 52) hx hb d_M_newly_43 (by decide) (fun _ => ?_) (fun c => absurd (show (0 : Int32) = 0 from by decide +kernel) c)
            refine lv_aload_n hx hb d_M_newly_52 rfl (lv_at hl 1 rfl) ?_
            refine lv_iconst (v := 1) hx hb d_M_newly_53 (by decide) ?_
            refine lv_iconst (v := 1) hx hb d_M_newly_54 (by decide) ?_
            obtain ⟨q9, hq9, hf⟩ := io_b hf
            refine xcVV (wc := (w_M_passesAll cI cJ cC a_h a_h_refused a_h_kind a_h_sweets a_h_gives a_h_tape a_h_letter a_h_letterAt a_h_one a_h_two a_h_kept a_h_trail a_h_crumb a_h_nextCrumb a_h_goal a_h_start a_h_sits a_h_bestSits a_h_without a_h_row y_h_taped y_h_at y_h_statements y_h_hasImage y_h_beforeMany y_h_found y_h_lots y_h_rowMany (m_many z_h_T) (m_odd z_h_T) (m_step z_h_T) (m_bag z_h_T) (m_strokes z_h_T) (m_gave z_h_T) (m_threw z_h_T) (m_isKeeping z_h_T) (m_cursor z_h_T) (m_kind z_h_T) (m_sweets z_h_T) (m_gives z_h_T) (m_kept z_h_T))) (wc' := (w_M_passesAll cI cJ cC a_h a_h_refused a_h_kind a_h_sweets a_h_gives a_h_tape a_h_letter a_h_letterAt a_h_one a_h_two a_h_kept a_h_trail a_h_crumb a_h_nextCrumb a_h_goal a_h_start a_h_sits a_h_bestSits a_h_without a_h_row y_h_taped y_h_at y_h_statements y_h_hasImage y_h_beforeMany y_h_found y_h_lots y_h_rowMany (m_many q9) (m_odd q9) (m_step q9) (m_bag q9) (m_strokes q9) (m_gave q9) (m_threw q9) (m_isKeeping q9) (m_cursor q9) (m_kind q9) (m_sweets q9) (m_gives q9) (m_kept q9))) (ws' := (w_M_newly cI cJ cC a_h a_h_refused a_h_kind a_h_sweets a_h_gives a_h_tape a_h_letter a_h_letterAt a_h_one a_h_two a_h_kept a_h_trail a_h_crumb a_h_nextCrumb a_h_goal a_h_start a_h_sits a_h_bestSits a_h_without a_h_row y_h_taped y_h_at y_h_statements y_h_hasImage y_h_beforeMany y_h_found y_h_lots y_h_rowMany (m_many q9) (m_odd q9) (m_step q9) (m_bag q9) (m_strokes q9) (m_gave q9) (m_threw q9) (m_isKeeping q9) (m_cursor q9) z_h_refused (m_kind q9) (m_sweets q9) (m_gives q9) (m_kept q9))) (As := [.int 1, .int 1]) (rest := []) hx hb hml hown hT (c_M_passesAll (z_h_T := z_h_T) a_h a_h_refused a_h_kind a_h_sweets a_h_gives a_h_tape a_h_letter a_h_letterAt a_h_one a_h_two a_h_kept a_h_trail a_h_crumb a_h_nextCrumb a_h_goal a_h_start a_h_sits a_h_bestSits a_h_without a_h_row y_h_taped y_h_at y_h_statements y_h_hasImage y_h_beforeMany y_h_found y_h_lots y_h_rowMany hq9) k_900 k_902 ks_28 k_8 k_903 hd_M_passesAll ⟨Nat.le_of_ble_eq_true rfl, Nat.le_of_ble_eq_true rfl⟩ xE0_ok trivial hA hK hP hD hS [0, 2, 3, 4, 5] [1] [1, 0, 2, 3, 4, 5] rfl rfl rfl rfl rfl rfl rfl rfl rfl rfl hl.1 rfl (Nat.le_of_ble_eq_true rfl) ⟨Nat.zero_le _, Nat.zero_le _⟩ d_M_newly_55 (fun H locs hP hD hS => ?_)
            refine lv_aload_n hx hb d_M_newly_58 rfl (lv_at hl 1 rfl) ?_
            refine lv_iload_n hx hb d_M_newly_59 rfl (lv_at hl 3 rfl) ?_
            obtain ⟨q10, hq10, hf⟩ := io_b hf
            refine xcVI (wc := (w_M_goes cI cJ cC a_h a_h_refused a_h_kind a_h_sweets a_h_gives a_h_tape a_h_letter a_h_letterAt a_h_one a_h_two a_h_kept a_h_trail a_h_crumb a_h_nextCrumb a_h_goal a_h_start a_h_sits a_h_bestSits a_h_without a_h_row y_h_taped y_h_at y_h_statements y_h_hasImage y_h_beforeMany y_h_found y_h_lots y_h_rowMany (m_many q9) (m_odd q9) (m_step q9) (m_bag q9) (m_strokes q9) (m_gave q9) (m_threw q9) (m_isKeeping q9) (m_cursor q9) (m_kind q9) (m_sweets q9) (m_gives q9) (m_kept q9))) (wc' := (w_M_goes cI cJ cC a_h a_h_refused a_h_kind a_h_sweets a_h_gives a_h_tape a_h_letter a_h_letterAt a_h_one a_h_two a_h_kept a_h_trail a_h_crumb a_h_nextCrumb a_h_goal a_h_start a_h_sits a_h_bestSits a_h_without a_h_row y_h_taped y_h_at y_h_statements y_h_hasImage y_h_beforeMany y_h_found y_h_lots y_h_rowMany (m_many q10.2) (m_odd q10.2) (m_step q10.2) (m_bag q10.2) (m_strokes q10.2) (m_gave q10.2) (m_threw q10.2) (m_isKeeping q10.2) (m_cursor q10.2) (m_kind q10.2) (m_sweets q10.2) (m_gives q10.2) (m_kept q10.2))) (ws' := (w_M_newly cI cJ cC a_h a_h_refused a_h_kind a_h_sweets a_h_gives a_h_tape a_h_letter a_h_letterAt a_h_one a_h_two a_h_kept a_h_trail a_h_crumb a_h_nextCrumb a_h_goal a_h_start a_h_sits a_h_bestSits a_h_without a_h_row y_h_taped y_h_at y_h_statements y_h_hasImage y_h_beforeMany y_h_found y_h_lots y_h_rowMany (m_many q10.2) (m_odd q10.2) (m_step q10.2) (m_bag q10.2) (m_strokes q10.2) (m_gave q10.2) (m_threw q10.2) (m_isKeeping q10.2) (m_cursor q10.2) z_h_refused (m_kind q10.2) (m_sweets q10.2) (m_gives q10.2) (m_kept q10.2))) (As := [.int x2]) (rest := []) hx hb hml hown hT (c_M_goes (z_h_T := q9) a_h a_h_refused a_h_kind a_h_sweets a_h_gives a_h_tape a_h_letter a_h_letterAt a_h_one a_h_two a_h_kept a_h_trail a_h_crumb a_h_nextCrumb a_h_goal a_h_start a_h_sits a_h_bestSits a_h_without a_h_row y_h_taped y_h_at y_h_statements y_h_hasImage y_h_beforeMany y_h_found y_h_lots y_h_rowMany hq10) k_964 k_966 ks_36 k_8 k_967 hd_M_goes ⟨Nat.le_of_ble_eq_true rfl, Nat.le_of_ble_eq_true rfl⟩ xE0_ok trivial hA hK hP hD hS [0, 2, 3, 4, 5] [1] [1, 0, 2, 3, 4, 5] rfl rfl rfl rfl rfl rfl rfl rfl rfl rfl hl.1 rfl (Nat.le_of_ble_eq_true rfl) ⟨Nat.zero_le _, Nat.zero_le _⟩ d_M_newly_60 (fun H locs hP hD hS => ?_)
            refine lv_istore (lv' := [(4, .int q10.1), (3, .int 0), (0, .ref a_h), (1, .int x1), (2, .int x2)]) hx hb d_M_newly_63 hl (by decide) rfl (fun ls hl => ?_)
            refine lv_aload_n hx hb d_M_newly_65 rfl (lv_at hl 2 rfl) ?_
            refine lv_iconst (v := 1) hx hb d_M_newly_66 (by decide) ?_
            refine lv_iconst (v := 0) hx hb d_M_newly_67 (by decide) ?_
            obtain ⟨q11, hq11, hf⟩ := io_b hf
            refine xcVV (wc := (w_M_passesAll cI cJ cC a_h a_h_refused a_h_kind a_h_sweets a_h_gives a_h_tape a_h_letter a_h_letterAt a_h_one a_h_two a_h_kept a_h_trail a_h_crumb a_h_nextCrumb a_h_goal a_h_start a_h_sits a_h_bestSits a_h_without a_h_row y_h_taped y_h_at y_h_statements y_h_hasImage y_h_beforeMany y_h_found y_h_lots y_h_rowMany (m_many q10.2) (m_odd q10.2) (m_step q10.2) (m_bag q10.2) (m_strokes q10.2) (m_gave q10.2) (m_threw q10.2) (m_isKeeping q10.2) (m_cursor q10.2) (m_kind q10.2) (m_sweets q10.2) (m_gives q10.2) (m_kept q10.2))) (wc' := (w_M_passesAll cI cJ cC a_h a_h_refused a_h_kind a_h_sweets a_h_gives a_h_tape a_h_letter a_h_letterAt a_h_one a_h_two a_h_kept a_h_trail a_h_crumb a_h_nextCrumb a_h_goal a_h_start a_h_sits a_h_bestSits a_h_without a_h_row y_h_taped y_h_at y_h_statements y_h_hasImage y_h_beforeMany y_h_found y_h_lots y_h_rowMany (m_many q11) (m_odd q11) (m_step q11) (m_bag q11) (m_strokes q11) (m_gave q11) (m_threw q11) (m_isKeeping q11) (m_cursor q11) (m_kind q11) (m_sweets q11) (m_gives q11) (m_kept q11))) (ws' := (w_M_newly cI cJ cC a_h a_h_refused a_h_kind a_h_sweets a_h_gives a_h_tape a_h_letter a_h_letterAt a_h_one a_h_two a_h_kept a_h_trail a_h_crumb a_h_nextCrumb a_h_goal a_h_start a_h_sits a_h_bestSits a_h_without a_h_row y_h_taped y_h_at y_h_statements y_h_hasImage y_h_beforeMany y_h_found y_h_lots y_h_rowMany (m_many q11) (m_odd q11) (m_step q11) (m_bag q11) (m_strokes q11) (m_gave q11) (m_threw q11) (m_isKeeping q11) (m_cursor q11) z_h_refused (m_kind q11) (m_sweets q11) (m_gives q11) (m_kept q11))) (As := [.int 1, .int 0]) (rest := []) hx hb hml hown hT (c_M_passesAll (z_h_T := q10.2) a_h a_h_refused a_h_kind a_h_sweets a_h_gives a_h_tape a_h_letter a_h_letterAt a_h_one a_h_two a_h_kept a_h_trail a_h_crumb a_h_nextCrumb a_h_goal a_h_start a_h_sits a_h_bestSits a_h_without a_h_row y_h_taped y_h_at y_h_statements y_h_hasImage y_h_beforeMany y_h_found y_h_lots y_h_rowMany hq11) k_900 k_902 ks_28 k_8 k_903 hd_M_passesAll ⟨Nat.le_of_ble_eq_true rfl, Nat.le_of_ble_eq_true rfl⟩ xE0_ok trivial hA hK hP hD hS [0, 2, 3, 4, 5] [1] [1, 0, 2, 3, 4, 5] rfl rfl rfl rfl rfl rfl rfl rfl rfl rfl hl.1 rfl (Nat.le_of_ble_eq_true rfl) ⟨Nat.zero_le _, Nat.zero_le _⟩ d_M_newly_68 (fun H locs hP hD hS => ?_)
            refine lv_aload_n hx hb d_M_newly_71 rfl (lv_at hl 2 rfl) ?_
            refine va_get hx hb hT i_M hown hK hP 0 rfl rfl 1 (Nat.le_of_ble_eq_true rfl) (hT _ k_759) (fun _ h => h) rfl d_M_newly_72 ?_
            refine lv_aload_n hx hb d_M_newly_75 rfl (lv_at hl 2 rfl) ?_
            refine va_get hx hb hT i_M hown hK hP 0 rfl rfl 4 (Nat.le_of_ble_eq_true rfl) (hT _ k_762) (fun _ h => h) rfl d_M_newly_76 ?_
            refine lv_iconst (v := 0) hx hb d_M_newly_79 (by decide) ?_
            obtain ⟨c12, hf⟩ := io_n hf
            refine x_iast hx hb hK hP hD hS 2 0 rfl rfl (j := (m_many q11).toNatClampNeg) rfl c12 d_M_newly_80 (fun H locs hP hD hS => ?_)
            have hP : va_P D classes (w_M_newly cI cJ cC a_h a_h_refused a_h_kind a_h_sweets a_h_gives a_h_tape a_h_letter a_h_letterAt a_h_one a_h_two a_h_kept a_h_trail a_h_crumb a_h_nextCrumb a_h_goal a_h_start a_h_sits a_h_bestSits a_h_without a_h_row y_h_taped y_h_at y_h_statements y_h_hasImage y_h_beforeMany y_h_found y_h_lots y_h_rowMany (m_many q11) (m_odd q11) (m_step q11) (m_bag q11) (m_strokes q11) (m_gave q11) (m_threw q11) (m_isKeeping q11) (m_cursor q11) z_h_refused (upd (m_kind q11) (m_many q11).toNatClampNeg 0) (m_sweets q11) (m_gives q11) (m_kept q11)) H := hP
            have hD : va_D A (w_M_newly cI cJ cC a_h a_h_refused a_h_kind a_h_sweets a_h_gives a_h_tape a_h_letter a_h_letterAt a_h_one a_h_two a_h_kept a_h_trail a_h_crumb a_h_nextCrumb a_h_goal a_h_start a_h_sits a_h_bestSits a_h_without a_h_row y_h_taped y_h_at y_h_statements y_h_hasImage y_h_beforeMany y_h_found y_h_lots y_h_rowMany (m_many q11) (m_odd q11) (m_step q11) (m_bag q11) (m_strokes q11) (m_gave q11) (m_threw q11) (m_isKeeping q11) (m_cursor q11) z_h_refused (upd (m_kind q11) (m_many q11).toNatClampNeg 0) (m_sweets q11) (m_gives q11) (m_kept q11)) := hD
            refine lv_aload_n hx hb d_M_newly_81 rfl (lv_at hl 2 rfl) ?_
            refine va_get hx hb hT i_M hown hK hP 0 rfl rfl 2 (Nat.le_of_ble_eq_true rfl) (hT _ k_760) (fun _ h => h) rfl d_M_newly_82 ?_
            refine lv_aload_n hx hb d_M_newly_85 rfl (lv_at hl 2 rfl) ?_
            refine va_get hx hb hT i_M hown hK hP 0 rfl rfl 4 (Nat.le_of_ble_eq_true rfl) (hT _ k_762) (fun _ h => h) rfl d_M_newly_86 ?_
            refine lv_iload_n hx hb d_M_newly_89 rfl (lv_at hl 3 rfl) ?_
            refine x_iast hx hb hK hP hD hS 3 0 rfl rfl (j := (m_many q11).toNatClampNeg) rfl c12 d_M_newly_90 (fun H locs hP hD hS => ?_)
            have hP : va_P D classes (w_M_newly cI cJ cC a_h a_h_refused a_h_kind a_h_sweets a_h_gives a_h_tape a_h_letter a_h_letterAt a_h_one a_h_two a_h_kept a_h_trail a_h_crumb a_h_nextCrumb a_h_goal a_h_start a_h_sits a_h_bestSits a_h_without a_h_row y_h_taped y_h_at y_h_statements y_h_hasImage y_h_beforeMany y_h_found y_h_lots y_h_rowMany (m_many q11) (m_odd q11) (m_step q11) (m_bag q11) (m_strokes q11) (m_gave q11) (m_threw q11) (m_isKeeping q11) (m_cursor q11) z_h_refused (upd (m_kind q11) (m_many q11).toNatClampNeg 0) (upd (m_sweets q11) (m_many q11).toNatClampNeg x1) (m_gives q11) (m_kept q11)) H := hP
            have hD : va_D A (w_M_newly cI cJ cC a_h a_h_refused a_h_kind a_h_sweets a_h_gives a_h_tape a_h_letter a_h_letterAt a_h_one a_h_two a_h_kept a_h_trail a_h_crumb a_h_nextCrumb a_h_goal a_h_start a_h_sits a_h_bestSits a_h_without a_h_row y_h_taped y_h_at y_h_statements y_h_hasImage y_h_beforeMany y_h_found y_h_lots y_h_rowMany (m_many q11) (m_odd q11) (m_step q11) (m_bag q11) (m_strokes q11) (m_gave q11) (m_threw q11) (m_isKeeping q11) (m_cursor q11) z_h_refused (upd (m_kind q11) (m_many q11).toNatClampNeg 0) (upd (m_sweets q11) (m_many q11).toNatClampNeg x1) (m_gives q11) (m_kept q11)) := hD
            refine lv_aload_n hx hb d_M_newly_91 rfl (lv_at hl 2 rfl) ?_
            refine lv_dup hx hb d_M_newly_92 rfl ?_
            refine va_get hx hb hT i_M hown hK hP 0 rfl rfl 4 (Nat.le_of_ble_eq_true rfl) (hT _ k_762) (fun _ h => h) rfl d_M_newly_93 ?_
            refine lv_iconst (v := 1) hx hb d_M_newly_96 (by decide) ?_
            refine lv_iadd hx hb d_M_newly_97 ?_
            refine va_put (ty := .int) hx hb hT i_M t_M t_M_ok n_M hown hK hP hD hS 0 rfl rfl 4 (Nat.le_of_ble_eq_true rfl) (hT _ k_762) (fun _ h => h) rfl rfl rfl rfl (Nat.le_of_ble_eq_true rfl) d_M_newly_98 (fun H locs hP hD hS => ?_)
            have hP : va_P D classes (w_M_newly cI cJ cC a_h a_h_refused a_h_kind a_h_sweets a_h_gives a_h_tape a_h_letter a_h_letterAt a_h_one a_h_two a_h_kept a_h_trail a_h_crumb a_h_nextCrumb a_h_goal a_h_start a_h_sits a_h_bestSits a_h_without a_h_row y_h_taped y_h_at y_h_statements y_h_hasImage y_h_beforeMany y_h_found y_h_lots y_h_rowMany ((m_many q11) + 1) (m_odd q11) (m_step q11) (m_bag q11) (m_strokes q11) (m_gave q11) (m_threw q11) (m_isKeeping q11) (m_cursor q11) z_h_refused (upd (m_kind q11) (m_many q11).toNatClampNeg 0) (upd (m_sweets q11) (m_many q11).toNatClampNeg x1) (m_gives q11) (m_kept q11)) H := hP
            have hD : va_D A (w_M_newly cI cJ cC a_h a_h_refused a_h_kind a_h_sweets a_h_gives a_h_tape a_h_letter a_h_letterAt a_h_one a_h_two a_h_kept a_h_trail a_h_crumb a_h_nextCrumb a_h_goal a_h_start a_h_sits a_h_bestSits a_h_without a_h_row y_h_taped y_h_at y_h_statements y_h_hasImage y_h_beforeMany y_h_found y_h_lots y_h_rowMany ((m_many q11) + 1) (m_odd q11) (m_step q11) (m_bag q11) (m_strokes q11) (m_gave q11) (m_threw q11) (m_isKeeping q11) (m_cursor q11) z_h_refused (upd (m_kind q11) (m_many q11).toNatClampNeg 0) (upd (m_sweets q11) (m_many q11).toNatClampNeg x1) (m_gives q11) (m_kept q11)) := hD
            refine lv_aload_n hx hb d_M_newly_101 rfl (lv_at hl 2 rfl) ?_
            refine lv_iload_n hx hb d_M_newly_102 rfl (lv_at hl 4 rfl) ?_
            obtain ⟨q13, hq13, hf⟩ := io_b hf
            refine xcVI (wc := (w_M_goes cI cJ cC a_h a_h_refused a_h_kind a_h_sweets a_h_gives a_h_tape a_h_letter a_h_letterAt a_h_one a_h_two a_h_kept a_h_trail a_h_crumb a_h_nextCrumb a_h_goal a_h_start a_h_sits a_h_bestSits a_h_without a_h_row y_h_taped y_h_at y_h_statements y_h_hasImage y_h_beforeMany y_h_found y_h_lots y_h_rowMany ((m_many q11) + 1) (m_odd q11) (m_step q11) (m_bag q11) (m_strokes q11) (m_gave q11) (m_threw q11) (m_isKeeping q11) (m_cursor q11) (upd (m_kind q11) (m_many q11).toNatClampNeg 0) (upd (m_sweets q11) (m_many q11).toNatClampNeg x1) (m_gives q11) (m_kept q11))) (wc' := (w_M_goes cI cJ cC a_h a_h_refused a_h_kind a_h_sweets a_h_gives a_h_tape a_h_letter a_h_letterAt a_h_one a_h_two a_h_kept a_h_trail a_h_crumb a_h_nextCrumb a_h_goal a_h_start a_h_sits a_h_bestSits a_h_without a_h_row y_h_taped y_h_at y_h_statements y_h_hasImage y_h_beforeMany y_h_found y_h_lots y_h_rowMany (m_many q13.2) (m_odd q13.2) (m_step q13.2) (m_bag q13.2) (m_strokes q13.2) (m_gave q13.2) (m_threw q13.2) (m_isKeeping q13.2) (m_cursor q13.2) (m_kind q13.2) (m_sweets q13.2) (m_gives q13.2) (m_kept q13.2))) (ws' := (w_M_newly cI cJ cC a_h a_h_refused a_h_kind a_h_sweets a_h_gives a_h_tape a_h_letter a_h_letterAt a_h_one a_h_two a_h_kept a_h_trail a_h_crumb a_h_nextCrumb a_h_goal a_h_start a_h_sits a_h_bestSits a_h_without a_h_row y_h_taped y_h_at y_h_statements y_h_hasImage y_h_beforeMany y_h_found y_h_lots y_h_rowMany (m_many q13.2) (m_odd q13.2) (m_step q13.2) (m_bag q13.2) (m_strokes q13.2) (m_gave q13.2) (m_threw q13.2) (m_isKeeping q13.2) (m_cursor q13.2) z_h_refused (m_kind q13.2) (m_sweets q13.2) (m_gives q13.2) (m_kept q13.2))) (As := [.int x2]) (rest := []) hx hb hml hown hT (c_M_goes (z_h_T := ((upd (m_kind q11) (m_many q11).toNatClampNeg 0), (upd (m_sweets q11) (m_many q11).toNatClampNeg x1), (m_gives q11), (m_kept q11), ((m_many q11) + 1), (m_odd q11), (m_step q11), (m_bag q11), (m_strokes q11), (m_gave q11), (m_threw q11), (m_isKeeping q11), (m_cursor q11))) a_h a_h_refused a_h_kind a_h_sweets a_h_gives a_h_tape a_h_letter a_h_letterAt a_h_one a_h_two a_h_kept a_h_trail a_h_crumb a_h_nextCrumb a_h_goal a_h_start a_h_sits a_h_bestSits a_h_without a_h_row y_h_taped y_h_at y_h_statements y_h_hasImage y_h_beforeMany y_h_found y_h_lots y_h_rowMany hq13) k_964 k_966 ks_36 k_8 k_967 hd_M_goes ⟨Nat.le_of_ble_eq_true rfl, Nat.le_of_ble_eq_true rfl⟩ xE0_ok trivial hA hK hP hD hS [0, 2, 3, 4, 5] [1] [1, 0, 2, 3, 4, 5] rfl rfl rfl rfl rfl rfl rfl rfl rfl rfl hl.1 rfl (Nat.le_of_ble_eq_true rfl) ⟨Nat.zero_le _, Nat.zero_le _⟩ d_M_newly_103 (fun H locs hP hD hS => ?_)
            refine lv_istore (lv' := [(5, .int q13.1), (4, .int q10.1), (3, .int 0), (0, .ref a_h), (1, .int x1), (2, .int x2)]) hx hb d_M_newly_106 hl (by decide) rfl (fun ls hl => ?_)
            refine lv_aload_n hx hb d_M_newly_108 rfl (lv_at hl 3 rfl) ?_
            refine lv_iconst (v := 1) hx hb d_M_newly_109 (by decide) ?_
            refine lv_iconst (v := 0) hx hb d_M_newly_110 (by decide) ?_
            obtain ⟨q14, hq14, hf⟩ := io_b hf
            refine xcVV (wc := (w_M_passesAll cI cJ cC a_h a_h_refused a_h_kind a_h_sweets a_h_gives a_h_tape a_h_letter a_h_letterAt a_h_one a_h_two a_h_kept a_h_trail a_h_crumb a_h_nextCrumb a_h_goal a_h_start a_h_sits a_h_bestSits a_h_without a_h_row y_h_taped y_h_at y_h_statements y_h_hasImage y_h_beforeMany y_h_found y_h_lots y_h_rowMany (m_many q13.2) (m_odd q13.2) (m_step q13.2) (m_bag q13.2) (m_strokes q13.2) (m_gave q13.2) (m_threw q13.2) (m_isKeeping q13.2) (m_cursor q13.2) (m_kind q13.2) (m_sweets q13.2) (m_gives q13.2) (m_kept q13.2))) (wc' := (w_M_passesAll cI cJ cC a_h a_h_refused a_h_kind a_h_sweets a_h_gives a_h_tape a_h_letter a_h_letterAt a_h_one a_h_two a_h_kept a_h_trail a_h_crumb a_h_nextCrumb a_h_goal a_h_start a_h_sits a_h_bestSits a_h_without a_h_row y_h_taped y_h_at y_h_statements y_h_hasImage y_h_beforeMany y_h_found y_h_lots y_h_rowMany (m_many q14) (m_odd q14) (m_step q14) (m_bag q14) (m_strokes q14) (m_gave q14) (m_threw q14) (m_isKeeping q14) (m_cursor q14) (m_kind q14) (m_sweets q14) (m_gives q14) (m_kept q14))) (ws' := (w_M_newly cI cJ cC a_h a_h_refused a_h_kind a_h_sweets a_h_gives a_h_tape a_h_letter a_h_letterAt a_h_one a_h_two a_h_kept a_h_trail a_h_crumb a_h_nextCrumb a_h_goal a_h_start a_h_sits a_h_bestSits a_h_without a_h_row y_h_taped y_h_at y_h_statements y_h_hasImage y_h_beforeMany y_h_found y_h_lots y_h_rowMany (m_many q14) (m_odd q14) (m_step q14) (m_bag q14) (m_strokes q14) (m_gave q14) (m_threw q14) (m_isKeeping q14) (m_cursor q14) z_h_refused (m_kind q14) (m_sweets q14) (m_gives q14) (m_kept q14))) (As := [.int 1, .int 0]) (rest := []) hx hb hml hown hT (c_M_passesAll (z_h_T := q13.2) a_h a_h_refused a_h_kind a_h_sweets a_h_gives a_h_tape a_h_letter a_h_letterAt a_h_one a_h_two a_h_kept a_h_trail a_h_crumb a_h_nextCrumb a_h_goal a_h_start a_h_sits a_h_bestSits a_h_without a_h_row y_h_taped y_h_at y_h_statements y_h_hasImage y_h_beforeMany y_h_found y_h_lots y_h_rowMany hq14) k_900 k_902 ks_28 k_8 k_903 hd_M_passesAll ⟨Nat.le_of_ble_eq_true rfl, Nat.le_of_ble_eq_true rfl⟩ xE0_ok trivial hA hK hP hD hS [0, 2, 3, 4, 5] [1] [1, 0, 2, 3, 4, 5] rfl rfl rfl rfl rfl rfl rfl rfl rfl rfl hl.1 rfl (Nat.le_of_ble_eq_true rfl) ⟨Nat.zero_le _, Nat.zero_le _⟩ d_M_newly_111 (fun H locs hP hD hS => ?_)
            refine lv_iload hx hb d_M_newly_114 (lv_at hl 0 rfl) ?_
            refine lv_iload hx hb d_M_newly_116 (lv_at hl 1 rfl) ?_
            refine lv_isub hx hb d_M_newly_118 ?_
            have hq := Option.some.inj hf
            subst hq
            exact hret _ _ _ _ _ d_M_newly_119 rfl rfl hP hD hS
          · have hf := io_t hf c8
            refine lv_bipush (v := (-6)) hx hb d_M_newly_35 (by decide) ?_
            refine lv_goto (tgt := 41) hx hb d_M_newly_37 (by decide) ?_
            refine lv_istore_n (lv' := [(3, .int (-6)), (0, .ref a_h), (1, .int x1), (2, .int x2)]) hx hb d_M_newly_41 rfl hl (by decide) rfl (fun ls hl => ?_)
            refine lv_iload_n hx hb d_M_newly_42 rfl (lv_at hl 0 rfl) ?_
            refine lv_if_eq (tgt := 52) hx hb d_M_newly_43 (by decide) (fun c => absurd c (show ¬ ((-6) : Int32) = 0 from by decide +kernel)) (fun _ => ?_)
            refine lv_aload_n hx hb d_M_newly_46 rfl (lv_at hl 1 rfl) ?_
            refine lv_iload_n hx hb d_M_newly_47 rfl (lv_at hl 0 rfl) ?_
            obtain ⟨q15, hq15, hf⟩ := io_b hf
            refine xcVI (wc := (w_M_lower cI cJ cC a_h a_h_refused a_h_kind a_h_sweets a_h_gives a_h_tape a_h_letter a_h_letterAt a_h_one a_h_two a_h_kept a_h_trail a_h_crumb a_h_nextCrumb a_h_goal a_h_start a_h_sits a_h_bestSits a_h_without a_h_row (m_many z_h_T) (m_odd z_h_T) (m_step z_h_T) (m_bag z_h_T) (m_strokes z_h_T) (m_gave z_h_T) (m_threw z_h_T) y_h_taped y_h_at y_h_statements y_h_hasImage (m_isKeeping z_h_T) (m_cursor z_h_T) y_h_beforeMany y_h_found y_h_lots y_h_rowMany z_h_refused)) (wc' := (w_M_lower cI cJ cC a_h a_h_refused a_h_kind a_h_sweets a_h_gives a_h_tape a_h_letter a_h_letterAt a_h_one a_h_two a_h_kept a_h_trail a_h_crumb a_h_nextCrumb a_h_goal a_h_start a_h_sits a_h_bestSits a_h_without a_h_row (m_many z_h_T) (m_odd z_h_T) (m_step z_h_T) (m_bag z_h_T) (m_strokes z_h_T) (m_gave z_h_T) (m_threw z_h_T) y_h_taped y_h_at y_h_statements y_h_hasImage (m_isKeeping z_h_T) (m_cursor z_h_T) y_h_beforeMany y_h_found y_h_lots y_h_rowMany q15.2)) (ws' := (w_M_newly cI cJ cC a_h a_h_refused a_h_kind a_h_sweets a_h_gives a_h_tape a_h_letter a_h_letterAt a_h_one a_h_two a_h_kept a_h_trail a_h_crumb a_h_nextCrumb a_h_goal a_h_start a_h_sits a_h_bestSits a_h_without a_h_row y_h_taped y_h_at y_h_statements y_h_hasImage y_h_beforeMany y_h_found y_h_lots y_h_rowMany (m_many z_h_T) (m_odd z_h_T) (m_step z_h_T) (m_bag z_h_T) (m_strokes z_h_T) (m_gave z_h_T) (m_threw z_h_T) (m_isKeeping z_h_T) (m_cursor z_h_T) q15.2 (m_kind z_h_T) (m_sweets z_h_T) (m_gives z_h_T) (m_kept z_h_T))) (As := [.int (-6)]) (rest := []) hx hb hml hown hT (c_M_lower (z_h_refused := z_h_refused) a_h a_h_refused a_h_kind a_h_sweets a_h_gives a_h_tape a_h_letter a_h_letterAt a_h_one a_h_two a_h_kept a_h_trail a_h_crumb a_h_nextCrumb a_h_goal a_h_start a_h_sits a_h_bestSits a_h_without a_h_row (m_many z_h_T) (m_odd z_h_T) (m_step z_h_T) (m_bag z_h_T) (m_strokes z_h_T) (m_gave z_h_T) (m_threw z_h_T) y_h_taped y_h_at y_h_statements y_h_hasImage (m_isKeeping z_h_T) (m_cursor z_h_T) y_h_beforeMany y_h_found y_h_lots y_h_rowMany hq15) k_1100 k_1102 ks_54 k_8 k_1103 hd_M_lower ⟨Nat.le_of_ble_eq_true rfl, Nat.le_of_ble_eq_true rfl⟩ xE0_ok trivial hA hK hP hD hS [0, 1] [2, 3, 4, 5] [4, 5, 0, 1, 2, 3] rfl rfl rfl rfl rfl rfl rfl rfl rfl rfl hl.1 rfl (Nat.le_of_ble_eq_true rfl) ⟨Nat.zero_le _, Nat.zero_le _⟩ d_M_newly_48 (fun H locs hP hD hS => ?_)
            have hq := Option.some.inj hf
            subst hq
            exact hret _ _ _ _ _ d_M_newly_51 rfl rfl hP hD hS
    · have hf := io_f hf c3
      refine lv_bipush (v := (-4)) hx hb d_M_newly_8 (by decide) ?_
      refine lv_goto (tgt := 41) hx hb d_M_newly_10 (by decide) ?_
      refine lv_istore_n (lv' := [(3, .int (-4)), (0, .ref a_h), (1, .int x1), (2, .int x2)]) hx hb d_M_newly_41 rfl hl (by decide) rfl (fun ls hl => ?_)
      refine lv_iload_n hx hb d_M_newly_42 rfl (lv_at hl 0 rfl) ?_
      refine lv_if_eq (tgt := 52) hx hb d_M_newly_43 (by decide) (fun c => absurd c (show ¬ ((-4) : Int32) = 0 from by decide +kernel)) (fun _ => ?_)
      refine lv_aload_n hx hb d_M_newly_46 rfl (lv_at hl 1 rfl) ?_
      refine lv_iload_n hx hb d_M_newly_47 rfl (lv_at hl 0 rfl) ?_
      obtain ⟨q16, hq16, hf⟩ := io_b hf
      refine xcVI (wc := (w_M_lower cI cJ cC a_h a_h_refused a_h_kind a_h_sweets a_h_gives a_h_tape a_h_letter a_h_letterAt a_h_one a_h_two a_h_kept a_h_trail a_h_crumb a_h_nextCrumb a_h_goal a_h_start a_h_sits a_h_bestSits a_h_without a_h_row (m_many z_h_T) (m_odd z_h_T) (m_step z_h_T) (m_bag z_h_T) (m_strokes z_h_T) (m_gave z_h_T) (m_threw z_h_T) y_h_taped y_h_at y_h_statements y_h_hasImage (m_isKeeping z_h_T) (m_cursor z_h_T) y_h_beforeMany y_h_found y_h_lots y_h_rowMany z_h_refused)) (wc' := (w_M_lower cI cJ cC a_h a_h_refused a_h_kind a_h_sweets a_h_gives a_h_tape a_h_letter a_h_letterAt a_h_one a_h_two a_h_kept a_h_trail a_h_crumb a_h_nextCrumb a_h_goal a_h_start a_h_sits a_h_bestSits a_h_without a_h_row (m_many z_h_T) (m_odd z_h_T) (m_step z_h_T) (m_bag z_h_T) (m_strokes z_h_T) (m_gave z_h_T) (m_threw z_h_T) y_h_taped y_h_at y_h_statements y_h_hasImage (m_isKeeping z_h_T) (m_cursor z_h_T) y_h_beforeMany y_h_found y_h_lots y_h_rowMany q16.2)) (ws' := (w_M_newly cI cJ cC a_h a_h_refused a_h_kind a_h_sweets a_h_gives a_h_tape a_h_letter a_h_letterAt a_h_one a_h_two a_h_kept a_h_trail a_h_crumb a_h_nextCrumb a_h_goal a_h_start a_h_sits a_h_bestSits a_h_without a_h_row y_h_taped y_h_at y_h_statements y_h_hasImage y_h_beforeMany y_h_found y_h_lots y_h_rowMany (m_many z_h_T) (m_odd z_h_T) (m_step z_h_T) (m_bag z_h_T) (m_strokes z_h_T) (m_gave z_h_T) (m_threw z_h_T) (m_isKeeping z_h_T) (m_cursor z_h_T) q16.2 (m_kind z_h_T) (m_sweets z_h_T) (m_gives z_h_T) (m_kept z_h_T))) (As := [.int (-4)]) (rest := []) hx hb hml hown hT (c_M_lower (z_h_refused := z_h_refused) a_h a_h_refused a_h_kind a_h_sweets a_h_gives a_h_tape a_h_letter a_h_letterAt a_h_one a_h_two a_h_kept a_h_trail a_h_crumb a_h_nextCrumb a_h_goal a_h_start a_h_sits a_h_bestSits a_h_without a_h_row (m_many z_h_T) (m_odd z_h_T) (m_step z_h_T) (m_bag z_h_T) (m_strokes z_h_T) (m_gave z_h_T) (m_threw z_h_T) y_h_taped y_h_at y_h_statements y_h_hasImage (m_isKeeping z_h_T) (m_cursor z_h_T) y_h_beforeMany y_h_found y_h_lots y_h_rowMany hq16) k_1100 k_1102 ks_54 k_8 k_1103 hd_M_lower ⟨Nat.le_of_ble_eq_true rfl, Nat.le_of_ble_eq_true rfl⟩ xE0_ok trivial hA hK hP hD hS [0, 1] [2, 3, 4, 5] [4, 5, 0, 1, 2, 3] rfl rfl rfl rfl rfl rfl rfl rfl rfl rfl hl.1 rfl (Nat.le_of_ble_eq_true rfl) ⟨Nat.zero_le _, Nat.zero_le _⟩ d_M_newly_48 (fun H locs hP hD hS => ?_)
      have hq := Option.some.inj hf
      subst hq
      exact hret _ _ _ _ _ d_M_newly_51 rfl rfl hP hD hS
abbrev w_M_begun (cI cJ cC : ClassId) (a_h a_h_refused a_h_kind a_h_sweets a_h_gives a_h_tape a_h_letter a_h_letterAt a_h_one a_h_two a_h_kept a_h_trail a_h_crumb a_h_nextCrumb a_h_goal a_h_start a_h_sits a_h_bestSits a_h_without a_h_row : Nat) (y_h_taped : Int32) (y_h_at : Int32) (y_h_statements : Int32) (y_h_hasImage : Int32) (y_h_beforeMany : Int32) (y_h_found : Int32) (y_h_lots : Int32) (y_h_rowMany : Int32) (p_h_many : Int32) (p_h_odd : Int32) (p_h_step : Int32) (p_h_bag : Int32) (p_h_strokes : Int32) (p_h_gave : Int32) (p_h_threw : Int32) (p_h_isKeeping : Int32) (p_h_cursor : Int32) (p_h_refused : (Nat → Int32)) (p_h_kind : (Nat → Int32)) (p_h_sweets : (Nat → Int32)) (p_h_gives : (Nat → Int32)) (p_h_kept : (Nat → Int32)) (p_h_trail : (Nat → Int32)) : va_W := [(a_h, .inr (7, [.ref a_h_refused, .ref a_h_kind, .ref a_h_sweets, .ref a_h_gives, .int p_h_many, .int p_h_odd, .int p_h_step, .int p_h_bag, .int p_h_strokes, .int p_h_gave, .int p_h_threw, .ref a_h_tape, .ref a_h_letter, .ref a_h_letterAt, .ref a_h_one, .ref a_h_two, .int y_h_taped, .int y_h_at, .int y_h_statements, .ref a_h_kept, .int y_h_hasImage, .int p_h_isKeeping, .int p_h_cursor, .ref a_h_trail, .ref a_h_crumb, .ref a_h_nextCrumb, .ref a_h_goal, .ref a_h_start, .int y_h_beforeMany, .int y_h_found, .ref a_h_sits, .ref a_h_bestSits, .ref a_h_without, .int y_h_lots, .ref a_h_row, .int y_h_rowMany])), (a_h_refused, .inl (cI, (7, .inl p_h_refused))), (a_h_kind, .inl (cI, (8, .inl p_h_kind))), (a_h_sweets, .inl (cI, (8, .inl p_h_sweets))), (a_h_gives, .inl (cI, (8, .inl p_h_gives))), (a_h_kept, .inl (cI, (90, .inl p_h_kept))), (a_h_trail, .inl (cI, (1827, .inl p_h_trail)))]
theorem d_M_begun_0 : decode b_M_begun 0 = .ok (.iload_n 1, 1) := by decide +kernel
theorem d_M_begun_1 : decode b_M_begun 1 = .ok (.iconst 0, 1) := by decide +kernel
theorem d_M_begun_2 : decode b_M_begun 2 = .ok (.bipush 50, 2) := by decide +kernel
theorem d_M_begun_4 : decode b_M_begun 4 = .ok (.invokestatic 81, 3) := by decide +kernel
theorem d_M_begun_7 : decode b_M_begun 7 = .ok (.istore_n 2, 1) := by decide +kernel
theorem d_M_begun_8 : decode b_M_begun 8 = .ok (.iload_n 2, 1) := by decide +kernel
theorem d_M_begun_9 : decode b_M_begun 9 = .ok (.ifCond .ne 13, 3) := by decide +kernel
theorem d_M_begun_12 : decode b_M_begun 12 = .ok (.aload_n 0, 1) := by decide +kernel
theorem d_M_begun_13 : decode b_M_begun 13 = .ok (.getfield 78, 3) := by decide +kernel
theorem d_M_begun_16 : decode b_M_begun 16 = .ok (.ifCond .ne 6, 3) := by decide +kernel
theorem d_M_begun_19 : decode b_M_begun 19 = .ok (.bipush (-3), 2) := by decide +kernel
theorem d_M_begun_21 : decode b_M_begun 21 = .ok (.istore_n 2, 1) := by decide +kernel
theorem d_M_begun_22 : decode b_M_begun 22 = .ok (.iload_n 2, 1) := by decide +kernel
theorem d_M_begun_23 : decode b_M_begun 23 = .ok (.ifCond .eq 9, 3) := by decide +kernel
theorem d_M_begun_26 : decode b_M_begun 26 = .ok (.aload_n 0, 1) := by decide +kernel
theorem d_M_begun_27 : decode b_M_begun 27 = .ok (.iload_n 2, 1) := by decide +kernel
theorem d_M_begun_28 : decode b_M_begun 28 = .ok (.invokevirtual 88, 3) := by decide +kernel
theorem d_M_begun_31 : decode b_M_begun 31 = .ok (.ireturn, 1) := by decide +kernel
theorem d_M_begun_32 : decode b_M_begun 32 = .ok (.aload_n 0, 1) := by decide +kernel
theorem d_M_begun_33 : decode b_M_begun 33 = .ok (.iconst 2, 1) := by decide +kernel
theorem d_M_begun_34 : decode b_M_begun 34 = .ok (.iconst 1, 1) := by decide +kernel
theorem d_M_begun_35 : decode b_M_begun 35 = .ok (.invokevirtual 119, 3) := by decide +kernel
theorem d_M_begun_38 : decode b_M_begun 38 = .ok (.bipush (-9), 2) := by decide +kernel
theorem d_M_begun_40 : decode b_M_begun 40 = .ok (.istore_n 3, 1) := by decide +kernel
theorem d_M_begun_41 : decode b_M_begun 41 = .ok (.iconst 0, 1) := by decide +kernel
theorem d_M_begun_42 : decode b_M_begun 42 = .ok (.istore 4, 2) := by decide +kernel
theorem d_M_begun_44 : decode b_M_begun 44 = .ok (.iload 4, 2) := by decide +kernel
theorem d_M_begun_46 : decode b_M_begun 46 = .ok (.bipush 100, 2) := by decide +kernel
theorem d_M_begun_48 : decode b_M_begun 48 = .ok (.if_icmp .ge 51, 3) := by decide +kernel
theorem d_M_begun_51 : decode b_M_begun 51 = .ok (.iload_n 3, 1) := by decide +kernel
theorem d_M_begun_52 : decode b_M_begun 52 = .ok (.ifCond .ge 47, 3) := by decide +kernel
theorem d_M_begun_55 : decode b_M_begun 55 = .ok (.iconst 1, 1) := by decide +kernel
theorem d_M_begun_56 : decode b_M_begun 56 = .ok (.istore 5, 2) := by decide +kernel
theorem d_M_begun_58 : decode b_M_begun 58 = .ok (.iload 5, 2) := by decide +kernel
theorem d_M_begun_60 : decode b_M_begun 60 = .ok (.aload_n 0, 1) := by decide +kernel
theorem d_M_begun_61 : decode b_M_begun 61 = .ok (.getfield 78, 3) := by decide +kernel
theorem d_M_begun_64 : decode b_M_begun 64 = .ok (.if_icmp .ge 18, 3) := by decide +kernel
theorem d_M_begun_67 : decode b_M_begun 67 = .ok (.aload_n 0, 1) := by decide +kernel
theorem d_M_begun_68 : decode b_M_begun 68 = .ok (.getfield 16, 3) := by decide +kernel
theorem d_M_begun_71 : decode b_M_begun 71 = .ok (.iload 5, 2) := by decide +kernel
theorem d_M_begun_73 : decode b_M_begun 73 = .ok (.iload 4, 2) := by decide +kernel
theorem d_M_begun_75 : decode b_M_begun 75 = .ok (.iastore, 1) := by decide +kernel
theorem d_M_begun_76 : decode b_M_begun 76 = .ok (.iinc 5 1, 3) := by decide +kernel
theorem d_M_begun_79 : decode b_M_begun 79 = .ok (.goto (-21), 3) := by decide +kernel
theorem d_M_begun_82 : decode b_M_begun 82 = .ok (.aload_n 0, 1) := by decide +kernel
theorem d_M_begun_83 : decode b_M_begun 83 = .ok (.iload_n 1, 1) := by decide +kernel
theorem d_M_begun_84 : decode b_M_begun 84 = .ok (.invokevirtual 191, 3) := by decide +kernel
theorem d_M_begun_87 : decode b_M_begun 87 = .ok (.ifCond .lt 6, 3) := by decide +kernel
theorem d_M_begun_90 : decode b_M_begun 90 = .ok (.iload 4, 2) := by decide +kernel
theorem d_M_begun_92 : decode b_M_begun 92 = .ok (.istore_n 3, 1) := by decide +kernel
theorem d_M_begun_93 : decode b_M_begun 93 = .ok (.iinc 4 1, 3) := by decide +kernel
theorem d_M_begun_96 : decode b_M_begun 96 = .ok (.goto (-52), 3) := by decide +kernel
theorem d_M_begun_99 : decode b_M_begun 99 = .ok (.aload_n 0, 1) := by decide +kernel
theorem d_M_begun_100 : decode b_M_begun 100 = .ok (.iconst 2, 1) := by decide +kernel
theorem d_M_begun_101 : decode b_M_begun 101 = .ok (.iconst 0, 1) := by decide +kernel
theorem d_M_begun_102 : decode b_M_begun 102 = .ok (.invokevirtual 119, 3) := by decide +kernel
theorem d_M_begun_105 : decode b_M_begun 105 = .ok (.iload_n 3, 1) := by decide +kernel
theorem d_M_begun_106 : decode b_M_begun 106 = .ok (.ireturn, 1) := by decide +kernel
set_option maxHeartbeats 4000000 in
set_option maxRecDepth 100000 in
theorem c_M_begun {l : Launch} {D : va_G} {cI cJ cC : ClassId} (a_h a_h_refused a_h_kind a_h_sweets a_h_gives a_h_tape a_h_letter a_h_letterAt a_h_one a_h_two a_h_kept a_h_trail a_h_crumb a_h_nextCrumb a_h_goal a_h_start a_h_sits a_h_bestSits a_h_without a_h_row : Nat) (y_h_taped : Int32) (y_h_at : Int32) (y_h_statements : Int32) (y_h_hasImage : Int32) (y_h_beforeMany : Int32) (y_h_found : Int32) (y_h_lots : Int32) (y_h_rowMany : Int32) {z_h_T : MT} {z_h_refused : (Nat → Int32)} {z_h_trail : (Nat → Int32)} {x1 : Int32} {q : Int32 × MT × (Nat → Int32) × (Nat → Int32)} (hf : f_M_begun z_h_T z_h_refused z_h_trail x1 = some q) : xI l y_M_begun b_M_begun 6 .int 5 111 D (tyK cI cJ cC) xE0 [.ref a_h, .int x1] (w_M_begun cI cJ cC a_h a_h_refused a_h_kind a_h_sweets a_h_gives a_h_tape a_h_letter a_h_letterAt a_h_one a_h_two a_h_kept a_h_trail a_h_crumb a_h_nextCrumb a_h_goal a_h_start a_h_sits a_h_bestSits a_h_without a_h_row y_h_taped y_h_at y_h_statements y_h_hasImage y_h_beforeMany y_h_found y_h_lots y_h_rowMany (m_many z_h_T) (m_odd z_h_T) (m_step z_h_T) (m_bag z_h_T) (m_strokes z_h_T) (m_gave z_h_T) (m_threw z_h_T) (m_isKeeping z_h_T) (m_cursor z_h_T) z_h_refused (m_kind z_h_T) (m_sweets z_h_T) (m_gives z_h_T) (m_kept z_h_T) z_h_trail) q.1 (w_M_begun cI cJ cC a_h a_h_refused a_h_kind a_h_sweets a_h_gives a_h_tape a_h_letter a_h_letterAt a_h_one a_h_two a_h_kept a_h_trail a_h_crumb a_h_nextCrumb a_h_goal a_h_start a_h_sits a_h_bestSits a_h_without a_h_row y_h_taped y_h_at y_h_statements y_h_hasImage y_h_beforeMany y_h_found y_h_lots y_h_rowMany (m_many q.2.1) (m_odd q.2.1) (m_step q.2.1) (m_bag q.2.1) (m_strokes q.2.1) (m_gave q.2.1) (m_threw q.2.1) (m_isKeeping q.2.1) (m_cursor q.2.1) q.2.2.1 (m_kind q.2.1) (m_sweets q.2.1) (m_gives q.2.1) (m_kept q.2.1) q.2.2.2) := by
  refine xI_of (by decide) (Nat.le_of_ble_eq_true rfl) ?_
  intro p e s m args below meth c A Q hx hb hml hown hT hA hP hD hK hS hE hret ls hl
  have hown : s.vm.findClass R_M = some m.cls := hown
  have hl : lv_has ls 6 [(0, .ref a_h), (1, .int x1)] := hl
  unfold f_M_begun at hf
  have L58 : ∀ (z_h_refused : (Nat → Int32)) (z_h_trail : (Nat → Int32)) (x3 : Int32) (x4 : Int32) (k : MT → Option (Int32 × MT × (Nat → Int32) × (Nat → Int32))), (∀ (z_h_T : MT) (H : Heap) (locs : List Loc) (ls : Array Slot), k z_h_T = some q → va_P D classes (w_M_begun cI cJ cC a_h a_h_refused a_h_kind a_h_sweets a_h_gives a_h_tape a_h_letter a_h_letterAt a_h_one a_h_two a_h_kept a_h_trail a_h_crumb a_h_nextCrumb a_h_goal a_h_start a_h_sits a_h_bestSits a_h_without a_h_row y_h_taped y_h_at y_h_statements y_h_hasImage y_h_beforeMany y_h_found y_h_lots y_h_rowMany (m_many z_h_T) (m_odd z_h_T) (m_step z_h_T) (m_bag z_h_T) (m_strokes z_h_T) (m_gave z_h_T) (m_threw z_h_T) (m_isKeeping z_h_T) (m_cursor z_h_T) z_h_refused (m_kind z_h_T) (m_sweets z_h_T) (m_gives z_h_T) (m_kept z_h_T) z_h_trail) H → va_D A (w_M_begun cI cJ cC a_h a_h_refused a_h_kind a_h_sweets a_h_gives a_h_tape a_h_letter a_h_letterAt a_h_one a_h_two a_h_kept a_h_trail a_h_crumb a_h_nextCrumb a_h_goal a_h_start a_h_sits a_h_bestSits a_h_without a_h_row y_h_taped y_h_at y_h_statements y_h_hasImage y_h_beforeMany y_h_found y_h_lots y_h_rowMany (m_many z_h_T) (m_odd z_h_T) (m_step z_h_T) (m_bag z_h_T) (m_strokes z_h_T) (m_gave z_h_T) (m_threw z_h_T) (m_isKeeping z_h_T) (m_cursor z_h_T) z_h_refused (m_kind z_h_T) (m_sweets z_h_T) (m_gives z_h_T) (m_kept z_h_T) z_h_trail) → va_S A s.heap H locs → lv_has ls 6 [(0, .ref a_h), (1, .int x1), (3, .int x3), (4, .int x4)] → W p l e (xRm 5 111) s m args below meth c H locs 0 0 Q (F0 m 82 ls [])) → ∀ (n : Nat) (z_h_T : MT) (x5 : Int32) (H : Heap) (locs : List Loc) (ls : Array Slot), f_M_begun_L58 x4 k n z_h_T x5 = some q → va_P D classes (w_M_begun cI cJ cC a_h a_h_refused a_h_kind a_h_sweets a_h_gives a_h_tape a_h_letter a_h_letterAt a_h_one a_h_two a_h_kept a_h_trail a_h_crumb a_h_nextCrumb a_h_goal a_h_start a_h_sits a_h_bestSits a_h_without a_h_row y_h_taped y_h_at y_h_statements y_h_hasImage y_h_beforeMany y_h_found y_h_lots y_h_rowMany (m_many z_h_T) (m_odd z_h_T) (m_step z_h_T) (m_bag z_h_T) (m_strokes z_h_T) (m_gave z_h_T) (m_threw z_h_T) (m_isKeeping z_h_T) (m_cursor z_h_T) z_h_refused (m_kind z_h_T) (m_sweets z_h_T) (m_gives z_h_T) (m_kept z_h_T) z_h_trail) H → va_D A (w_M_begun cI cJ cC a_h a_h_refused a_h_kind a_h_sweets a_h_gives a_h_tape a_h_letter a_h_letterAt a_h_one a_h_two a_h_kept a_h_trail a_h_crumb a_h_nextCrumb a_h_goal a_h_start a_h_sits a_h_bestSits a_h_without a_h_row y_h_taped y_h_at y_h_statements y_h_hasImage y_h_beforeMany y_h_found y_h_lots y_h_rowMany (m_many z_h_T) (m_odd z_h_T) (m_step z_h_T) (m_bag z_h_T) (m_strokes z_h_T) (m_gave z_h_T) (m_threw z_h_T) (m_isKeeping z_h_T) (m_cursor z_h_T) z_h_refused (m_kind z_h_T) (m_sweets z_h_T) (m_gives z_h_T) (m_kept z_h_T) z_h_trail) → va_S A s.heap H locs → lv_has ls 6 [(0, .ref a_h), (1, .int x1), (3, .int x3), (4, .int x4), (5, .int x5)] → W p l e (xRm 5 111) s m args below meth c H locs 0 0 Q (F0 m 58 ls []) := by
    intro z_h_refused z_h_trail x3 x4 k hk n
    induction n with
    | zero => intro z_h_T x5 H locs ls hf hP hD hS hl; exact nomatch (show (none : Option (Int32 × MT × (Nat → Int32) × (Nat → Int32))) = some q from hf)
    | succ n ih =>
      intro z_h_T x5 H locs ls hf hP hD hS hl
      refine lv_iload hx hb d_M_begun_58 (lv_at hl 4 rfl) ?_
      refine lv_aload_n hx hb d_M_begun_60 rfl (lv_at hl 0 rfl) ?_
      refine va_get hx hb hT i_M hown hK hP 0 rfl rfl 4 (Nat.le_of_ble_eq_true rfl) (hT _ k_762) (fun _ h => h) rfl d_M_begun_61 ?_
      refine lv_icmp_ge (tgt := 82) hx hb d_M_begun_64 (by decide) (fun c8 => ?_) (fun c8 => ?_)
      · have hf := io_t hf c8
        exact hk z_h_T _ _ _ hf hP hD hS (lv_sub hl [0, 1, 2, 3] rfl)
      · have hf := io_f hf c8
        refine lv_aload_n hx hb d_M_begun_67 rfl (lv_at hl 0 rfl) ?_
        refine va_get hx hb hT i_M hown hK hP 0 rfl rfl 2 (Nat.le_of_ble_eq_true rfl) (hT _ k_760) (fun _ h => h) rfl d_M_begun_68 ?_
        refine lv_iload hx hb d_M_begun_71 (lv_at hl 4 rfl) ?_
        refine lv_iload hx hb d_M_begun_73 (lv_at hl 3 rfl) ?_
        obtain ⟨c9, hf⟩ := io_n hf
        refine x_iast hx hb hK hP hD hS 3 0 rfl rfl (j := x5.toNatClampNeg) rfl c9 d_M_begun_75 (fun H locs hP hD hS => ?_)
        have hP : va_P D classes (w_M_begun cI cJ cC a_h a_h_refused a_h_kind a_h_sweets a_h_gives a_h_tape a_h_letter a_h_letterAt a_h_one a_h_two a_h_kept a_h_trail a_h_crumb a_h_nextCrumb a_h_goal a_h_start a_h_sits a_h_bestSits a_h_without a_h_row y_h_taped y_h_at y_h_statements y_h_hasImage y_h_beforeMany y_h_found y_h_lots y_h_rowMany (m_many z_h_T) (m_odd z_h_T) (m_step z_h_T) (m_bag z_h_T) (m_strokes z_h_T) (m_gave z_h_T) (m_threw z_h_T) (m_isKeeping z_h_T) (m_cursor z_h_T) z_h_refused (m_kind z_h_T) (upd (m_sweets z_h_T) x5.toNatClampNeg x4) (m_gives z_h_T) (m_kept z_h_T) z_h_trail) H := hP
        have hD : va_D A (w_M_begun cI cJ cC a_h a_h_refused a_h_kind a_h_sweets a_h_gives a_h_tape a_h_letter a_h_letterAt a_h_one a_h_two a_h_kept a_h_trail a_h_crumb a_h_nextCrumb a_h_goal a_h_start a_h_sits a_h_bestSits a_h_without a_h_row y_h_taped y_h_at y_h_statements y_h_hasImage y_h_beforeMany y_h_found y_h_lots y_h_rowMany (m_many z_h_T) (m_odd z_h_T) (m_step z_h_T) (m_bag z_h_T) (m_strokes z_h_T) (m_gave z_h_T) (m_threw z_h_T) (m_isKeeping z_h_T) (m_cursor z_h_T) z_h_refused (m_kind z_h_T) (upd (m_sweets z_h_T) x5.toNatClampNeg x4) (m_gives z_h_T) (m_kept z_h_T) z_h_trail) := hD
        refine lv_iinc (v := (x5 + 1)) (lv' := [(5, .int (x5 + 1)), (0, .ref a_h), (1, .int x1), (3, .int x3), (4, .int x4)]) hx hb d_M_begun_76 hl (k := 4) rfl (by rfl) (by decide) rfl (fun ls hl => ?_)
        refine lv_goto (tgt := 58) hx hb d_M_begun_79 (by decide) ?_
        exact ih ((m_kind z_h_T), (upd (m_sweets z_h_T) x5.toNatClampNeg x4), (m_gives z_h_T), (m_kept z_h_T), (m_many z_h_T), (m_odd z_h_T), (m_step z_h_T), (m_bag z_h_T), (m_strokes z_h_T), (m_gave z_h_T), (m_threw z_h_T), (m_isKeeping z_h_T), (m_cursor z_h_T)) (x5 + 1) _ _ _ hf hP hD hS (lv_sub hl [1, 2, 3, 4, 0] rfl)
  have L44 : ∀ (z_h_refused : (Nat → Int32)) (k : MT → (Nat → Int32) → Int32 → Option (Int32 × MT × (Nat → Int32) × (Nat → Int32))), (∀ (z_h_T : MT) (z_h_trail : (Nat → Int32)) (x3 : Int32) (H : Heap) (locs : List Loc) (ls : Array Slot), k z_h_T z_h_trail x3 = some q → va_P D classes (w_M_begun cI cJ cC a_h a_h_refused a_h_kind a_h_sweets a_h_gives a_h_tape a_h_letter a_h_letterAt a_h_one a_h_two a_h_kept a_h_trail a_h_crumb a_h_nextCrumb a_h_goal a_h_start a_h_sits a_h_bestSits a_h_without a_h_row y_h_taped y_h_at y_h_statements y_h_hasImage y_h_beforeMany y_h_found y_h_lots y_h_rowMany (m_many z_h_T) (m_odd z_h_T) (m_step z_h_T) (m_bag z_h_T) (m_strokes z_h_T) (m_gave z_h_T) (m_threw z_h_T) (m_isKeeping z_h_T) (m_cursor z_h_T) z_h_refused (m_kind z_h_T) (m_sweets z_h_T) (m_gives z_h_T) (m_kept z_h_T) z_h_trail) H → va_D A (w_M_begun cI cJ cC a_h a_h_refused a_h_kind a_h_sweets a_h_gives a_h_tape a_h_letter a_h_letterAt a_h_one a_h_two a_h_kept a_h_trail a_h_crumb a_h_nextCrumb a_h_goal a_h_start a_h_sits a_h_bestSits a_h_without a_h_row y_h_taped y_h_at y_h_statements y_h_hasImage y_h_beforeMany y_h_found y_h_lots y_h_rowMany (m_many z_h_T) (m_odd z_h_T) (m_step z_h_T) (m_bag z_h_T) (m_strokes z_h_T) (m_gave z_h_T) (m_threw z_h_T) (m_isKeeping z_h_T) (m_cursor z_h_T) z_h_refused (m_kind z_h_T) (m_sweets z_h_T) (m_gives z_h_T) (m_kept z_h_T) z_h_trail) → va_S A s.heap H locs → lv_has ls 6 [(0, .ref a_h), (3, .int x3)] → W p l e (xRm 5 111) s m args below meth c H locs 0 0 Q (F0 m 99 ls [])) → ∀ (n : Nat) (z_h_T : MT) (z_h_trail : (Nat → Int32)) (x3 : Int32) (x4 : Int32) (H : Heap) (locs : List Loc) (ls : Array Slot), f_M_begun_L44 x1 k n z_h_T z_h_trail x3 x4 = some q → va_P D classes (w_M_begun cI cJ cC a_h a_h_refused a_h_kind a_h_sweets a_h_gives a_h_tape a_h_letter a_h_letterAt a_h_one a_h_two a_h_kept a_h_trail a_h_crumb a_h_nextCrumb a_h_goal a_h_start a_h_sits a_h_bestSits a_h_without a_h_row y_h_taped y_h_at y_h_statements y_h_hasImage y_h_beforeMany y_h_found y_h_lots y_h_rowMany (m_many z_h_T) (m_odd z_h_T) (m_step z_h_T) (m_bag z_h_T) (m_strokes z_h_T) (m_gave z_h_T) (m_threw z_h_T) (m_isKeeping z_h_T) (m_cursor z_h_T) z_h_refused (m_kind z_h_T) (m_sweets z_h_T) (m_gives z_h_T) (m_kept z_h_T) z_h_trail) H → va_D A (w_M_begun cI cJ cC a_h a_h_refused a_h_kind a_h_sweets a_h_gives a_h_tape a_h_letter a_h_letterAt a_h_one a_h_two a_h_kept a_h_trail a_h_crumb a_h_nextCrumb a_h_goal a_h_start a_h_sits a_h_bestSits a_h_without a_h_row y_h_taped y_h_at y_h_statements y_h_hasImage y_h_beforeMany y_h_found y_h_lots y_h_rowMany (m_many z_h_T) (m_odd z_h_T) (m_step z_h_T) (m_bag z_h_T) (m_strokes z_h_T) (m_gave z_h_T) (m_threw z_h_T) (m_isKeeping z_h_T) (m_cursor z_h_T) z_h_refused (m_kind z_h_T) (m_sweets z_h_T) (m_gives z_h_T) (m_kept z_h_T) z_h_trail) → va_S A s.heap H locs → lv_has ls 6 [(0, .ref a_h), (1, .int x1), (3, .int x3), (4, .int x4)] → W p l e (xRm 5 111) s m args below meth c H locs 0 0 Q (F0 m 44 ls []) := by
    intro z_h_refused k hk n
    induction n with
    | zero => intro z_h_T z_h_trail x3 x4 H locs ls hf hP hD hS hl; exact nomatch (show (none : Option (Int32 × MT × (Nat → Int32) × (Nat → Int32))) = some q from hf)
    | succ n ih =>
      intro z_h_T z_h_trail x3 x4 H locs ls hf hP hD hS hl
      refine lv_iload hx hb d_M_begun_44 (lv_at hl 3 rfl) ?_
      refine lv_bipush (v := 100) hx hb d_M_begun_46 (by decide) ?_
      refine lv_icmp_ge (tgt := 99) hx hb d_M_begun_48 (by decide) (fun c6 => ?_) (fun c6 => ?_)
      · have hf := io_t hf c6
        exact hk z_h_T z_h_trail x3 _ _ _ hf hP hD hS (lv_sub hl [0, 2] rfl)
      · have hf := io_f hf c6
        refine lv_iload_n hx hb d_M_begun_51 rfl (lv_at hl 2 rfl) ?_
        refine lv_if_ge (tgt := 99) hx hb d_M_begun_52 (by decide) (fun c7 => ?_) (fun c7 => ?_)
        · have hf := io_t hf c7
          exact hk z_h_T z_h_trail x3 _ _ _ hf hP hD hS (lv_sub hl [0, 2] rfl)
        · have hf := io_f hf c7
          refine lv_iconst (v := 1) hx hb d_M_begun_55 (by decide) ?_
          refine lv_istore (lv' := [(5, .int 1), (0, .ref a_h), (1, .int x1), (3, .int x3), (4, .int x4)]) hx hb d_M_begun_56 hl (by decide) rfl (fun ls hl => ?_)
          refine L58 z_h_refused z_h_trail x3 x4 _ (fun z_h_T_10 H locs ls hf hP hD hS hl => ?_) FU z_h_T 1 _ _ _ hf hP hD hS (lv_sub hl [1, 2, 3, 4, 0] rfl)
          refine lv_aload_n hx hb d_M_begun_82 rfl (lv_at hl 0 rfl) ?_
          refine lv_iload_n hx hb d_M_begun_83 rfl (lv_at hl 1 rfl) ?_
          obtain ⟨q11, hq11, hf⟩ := io_b hf
          refine xcVI (wc := (w_M_firstAlike cI cJ cC a_h a_h_refused a_h_kind a_h_sweets a_h_gives a_h_tape a_h_letter a_h_letterAt a_h_one a_h_two a_h_kept a_h_trail a_h_crumb a_h_nextCrumb a_h_goal a_h_start a_h_sits a_h_bestSits a_h_without a_h_row y_h_taped y_h_at y_h_statements y_h_hasImage y_h_beforeMany y_h_found y_h_lots y_h_rowMany (m_many z_h_T_10) (m_odd z_h_T_10) (m_step z_h_T_10) (m_bag z_h_T_10) (m_strokes z_h_T_10) (m_gave z_h_T_10) (m_threw z_h_T_10) (m_isKeeping z_h_T_10) (m_cursor z_h_T_10) (m_kind z_h_T_10) (m_sweets z_h_T_10) (m_gives z_h_T_10) (m_kept z_h_T_10) z_h_trail)) (wc' := (w_M_firstAlike cI cJ cC a_h a_h_refused a_h_kind a_h_sweets a_h_gives a_h_tape a_h_letter a_h_letterAt a_h_one a_h_two a_h_kept a_h_trail a_h_crumb a_h_nextCrumb a_h_goal a_h_start a_h_sits a_h_bestSits a_h_without a_h_row y_h_taped y_h_at y_h_statements y_h_hasImage y_h_beforeMany y_h_found y_h_lots y_h_rowMany (m_many q11.2.1) (m_odd q11.2.1) (m_step q11.2.1) (m_bag q11.2.1) (m_strokes q11.2.1) (m_gave q11.2.1) (m_threw q11.2.1) (m_isKeeping q11.2.1) (m_cursor q11.2.1) (m_kind q11.2.1) (m_sweets q11.2.1) (m_gives q11.2.1) (m_kept q11.2.1) q11.2.2)) (ws' := (w_M_begun cI cJ cC a_h a_h_refused a_h_kind a_h_sweets a_h_gives a_h_tape a_h_letter a_h_letterAt a_h_one a_h_two a_h_kept a_h_trail a_h_crumb a_h_nextCrumb a_h_goal a_h_start a_h_sits a_h_bestSits a_h_without a_h_row y_h_taped y_h_at y_h_statements y_h_hasImage y_h_beforeMany y_h_found y_h_lots y_h_rowMany (m_many q11.2.1) (m_odd q11.2.1) (m_step q11.2.1) (m_bag q11.2.1) (m_strokes q11.2.1) (m_gave q11.2.1) (m_threw q11.2.1) (m_isKeeping q11.2.1) (m_cursor q11.2.1) z_h_refused (m_kind q11.2.1) (m_sweets q11.2.1) (m_gives q11.2.1) (m_kept q11.2.1) q11.2.2)) (As := [.int x1]) (rest := []) hx hb hml hown hT (c_M_firstAlike (z_h_T := z_h_T_10) (z_h_trail := z_h_trail) a_h a_h_refused a_h_kind a_h_sweets a_h_gives a_h_tape a_h_letter a_h_letterAt a_h_one a_h_two a_h_kept a_h_trail a_h_crumb a_h_nextCrumb a_h_goal a_h_start a_h_sits a_h_bestSits a_h_without a_h_row y_h_taped y_h_at y_h_statements y_h_hasImage y_h_beforeMany y_h_found y_h_lots y_h_rowMany hq11) k_1007 k_1009 ks_42 k_8 k_1010 hd_M_firstAlike ⟨Nat.le_of_ble_eq_true rfl, Nat.le_of_ble_eq_true rfl⟩ xE0_ok trivial hA hK hP hD hS [0, 2, 3, 4, 5, 6] [1] [1, 0, 2, 3, 4, 5, 6] rfl rfl rfl rfl rfl rfl rfl rfl rfl rfl hl.1 rfl (Nat.le_of_ble_eq_true rfl) ⟨Nat.zero_le _, Nat.zero_le _⟩ d_M_begun_84 (fun H locs hP hD hS => ?_)
          refine lv_if_lt (tgt := 93) hx hb d_M_begun_87 (by decide) (fun c12 => ?_) (fun c12 => ?_)
          · have hf := io_t hf c12
            refine lv_iinc (v := (x4 + 1)) (lv' := [(4, .int (x4 + 1)), (0, .ref a_h), (1, .int x1), (3, .int x3)]) hx hb d_M_begun_93 hl (k := 3) rfl (by rfl) (by decide) rfl (fun ls hl => ?_)
            refine lv_goto (tgt := 44) hx hb d_M_begun_96 (by decide) ?_
            exact ih q11.2.1 q11.2.2 x3 (x4 + 1) _ _ _ hf hP hD hS (lv_sub hl [1, 2, 3, 0] rfl)
          · have hf := io_f hf c12
            refine lv_iload hx hb d_M_begun_90 (lv_at hl 3 rfl) ?_
            refine lv_istore_n (lv' := [(3, .int x4), (0, .ref a_h), (1, .int x1), (4, .int x4)]) hx hb d_M_begun_92 rfl hl (by decide) rfl (fun ls hl => ?_)
            refine lv_iinc (v := (x4 + 1)) (lv' := [(4, .int (x4 + 1)), (3, .int x4), (0, .ref a_h), (1, .int x1)]) hx hb d_M_begun_93 hl (k := 3) rfl (by rfl) (by decide) rfl (fun ls hl => ?_)
            refine lv_goto (tgt := 44) hx hb d_M_begun_96 (by decide) ?_
            exact ih q11.2.1 q11.2.2 x4 (x4 + 1) _ _ _ hf hP hD hS (lv_sub hl [2, 3, 1, 0] rfl)
  refine lv_iload_n hx hb d_M_begun_0 rfl (lv_at hl 1 rfl) ?_
  refine lv_iconst (v := 0) hx hb d_M_begun_1 (by decide) ?_
  refine lv_bipush (v := 50) hx hb d_M_begun_2 (by decide) ?_
  obtain ⟨q1, hq1, hf⟩ := io_b hf
  refine xcSI (wc := []) (wc' := []) (ws' := (w_M_begun cI cJ cC a_h a_h_refused a_h_kind a_h_sweets a_h_gives a_h_tape a_h_letter a_h_letterAt a_h_one a_h_two a_h_kept a_h_trail a_h_crumb a_h_nextCrumb a_h_goal a_h_start a_h_sits a_h_bestSits a_h_without a_h_row y_h_taped y_h_at y_h_statements y_h_hasImage y_h_beforeMany y_h_found y_h_lots y_h_rowMany (m_many z_h_T) (m_odd z_h_T) (m_step z_h_T) (m_bag z_h_T) (m_strokes z_h_T) (m_gave z_h_T) (m_threw z_h_T) (m_isKeeping z_h_T) (m_cursor z_h_T) z_h_refused (m_kind z_h_T) (m_sweets z_h_T) (m_gives z_h_T) (m_kept z_h_T) z_h_trail)) (As := [.int x1, .int 0, .int 50]) (rest := []) hx hb hml hown hT (c_M_bound hq1) k_871 k_872 k_8 k_873 hd_M_bound ⟨Nat.le_of_ble_eq_true rfl, Nat.le_of_ble_eq_true rfl⟩ xE0_ok trivial hA hK hP hD hS [] [0, 1, 2, 3, 4, 5, 6] [0, 1, 2, 3, 4, 5, 6] rfl rfl rfl rfl rfl rfl rfl hl.1 rfl (Nat.le_of_ble_eq_true rfl) ⟨Nat.zero_le _, Nat.zero_le _⟩ d_M_begun_4 (fun H locs hP hD hS => ?_)
  refine lv_istore_n (lv' := [(2, .int q1), (0, .ref a_h), (1, .int x1)]) hx hb d_M_begun_7 rfl hl (by decide) rfl (fun ls hl => ?_)
  refine lv_iload_n hx hb d_M_begun_8 rfl (lv_at hl 0 rfl) ?_
  refine lv_if_ne (tgt := 22) hx hb d_M_begun_9 (by decide) (fun c2 => ?_) (fun c2 => ?_)
  · have hf := io_f hf c2
    refine lv_iload_n hx hb d_M_begun_22 rfl (lv_at hl 0 rfl) ?_
    refine lv_if_eq (tgt := 32) hx hb d_M_begun_23 (by decide) (fun c => absurd c c2) (fun _ => ?_)
    refine lv_aload_n hx hb d_M_begun_26 rfl (lv_at hl 1 rfl) ?_
    refine lv_iload_n hx hb d_M_begun_27 rfl (lv_at hl 0 rfl) ?_
    obtain ⟨q3, hq3, hf⟩ := io_b hf
    refine xcVI (wc := (w_M_no cI cJ cC a_h a_h_refused a_h_kind a_h_sweets a_h_gives a_h_tape a_h_letter a_h_letterAt a_h_one a_h_two a_h_kept a_h_trail a_h_crumb a_h_nextCrumb a_h_goal a_h_start a_h_sits a_h_bestSits a_h_without a_h_row (m_many z_h_T) (m_odd z_h_T) (m_step z_h_T) (m_bag z_h_T) (m_strokes z_h_T) (m_gave z_h_T) (m_threw z_h_T) y_h_taped y_h_at y_h_statements y_h_hasImage (m_isKeeping z_h_T) (m_cursor z_h_T) y_h_beforeMany y_h_found y_h_lots y_h_rowMany z_h_refused)) (wc' := (w_M_no cI cJ cC a_h a_h_refused a_h_kind a_h_sweets a_h_gives a_h_tape a_h_letter a_h_letterAt a_h_one a_h_two a_h_kept a_h_trail a_h_crumb a_h_nextCrumb a_h_goal a_h_start a_h_sits a_h_bestSits a_h_without a_h_row (m_many z_h_T) (m_odd z_h_T) (m_step z_h_T) (m_bag z_h_T) (m_strokes z_h_T) (m_gave z_h_T) (m_threw z_h_T) y_h_taped y_h_at y_h_statements y_h_hasImage (m_isKeeping z_h_T) (m_cursor z_h_T) y_h_beforeMany y_h_found y_h_lots y_h_rowMany q3.2)) (ws' := (w_M_begun cI cJ cC a_h a_h_refused a_h_kind a_h_sweets a_h_gives a_h_tape a_h_letter a_h_letterAt a_h_one a_h_two a_h_kept a_h_trail a_h_crumb a_h_nextCrumb a_h_goal a_h_start a_h_sits a_h_bestSits a_h_without a_h_row y_h_taped y_h_at y_h_statements y_h_hasImage y_h_beforeMany y_h_found y_h_lots y_h_rowMany (m_many z_h_T) (m_odd z_h_T) (m_step z_h_T) (m_bag z_h_T) (m_strokes z_h_T) (m_gave z_h_T) (m_threw z_h_T) (m_isKeeping z_h_T) (m_cursor z_h_T) q3.2 (m_kind z_h_T) (m_sweets z_h_T) (m_gives z_h_T) (m_kept z_h_T) z_h_trail)) (As := [.int q1]) (rest := []) hx hb hml hown hT (c_M_no (z_h_refused := z_h_refused) a_h a_h_refused a_h_kind a_h_sweets a_h_gives a_h_tape a_h_letter a_h_letterAt a_h_one a_h_two a_h_kept a_h_trail a_h_crumb a_h_nextCrumb a_h_goal a_h_start a_h_sits a_h_bestSits a_h_without a_h_row (m_many z_h_T) (m_odd z_h_T) (m_step z_h_T) (m_bag z_h_T) (m_strokes z_h_T) (m_gave z_h_T) (m_threw z_h_T) y_h_taped y_h_at y_h_statements y_h_hasImage (m_isKeeping z_h_T) (m_cursor z_h_T) y_h_beforeMany y_h_found y_h_lots y_h_rowMany hq3) k_874 k_876 ks_24 k_8 k_877 hd_M_no ⟨Nat.le_of_ble_eq_true rfl, Nat.le_of_ble_eq_true rfl⟩ xE0_ok trivial hA hK hP hD hS [0, 1] [2, 3, 4, 5, 6] [5, 6, 0, 1, 2, 3, 4] rfl rfl rfl rfl rfl rfl rfl rfl rfl rfl hl.1 rfl (Nat.le_of_ble_eq_true rfl) ⟨Nat.zero_le _, Nat.zero_le _⟩ d_M_begun_28 (fun H locs hP hD hS => ?_)
    have hq := Option.some.inj hf
    subst hq
    exact hret _ _ _ _ _ d_M_begun_31 rfl rfl hP hD hS
  · have hf := io_t hf c2
    refine lv_aload_n hx hb d_M_begun_12 rfl (lv_at hl 1 rfl) ?_
    refine va_get hx hb hT i_M hown hK hP 0 rfl rfl 4 (Nat.le_of_ble_eq_true rfl) (hT _ k_762) (fun _ h => h) rfl d_M_begun_13 ?_
    refine lv_if_ne (tgt := 22) hx hb d_M_begun_16 (by decide) (fun c4 => ?_) (fun c4 => ?_)
    · have hf := io_f hf c4
      refine lv_iload_n hx hb d_M_begun_22 rfl (lv_at hl 0 rfl) ?_
      refine lv_if_eq (tgt := 32) hx hb d_M_begun_23 (by decide) (fun _ => ?_) (fun c => absurd c2 c)
      refine lv_aload_n hx hb d_M_begun_32 rfl (lv_at hl 1 rfl) ?_
      refine lv_iconst (v := 2) hx hb d_M_begun_33 (by decide) ?_
      refine lv_iconst (v := 1) hx hb d_M_begun_34 (by decide) ?_
      obtain ⟨q5, hq5, hf⟩ := io_b hf
      refine xcVV (wc := (w_M_passesAll cI cJ cC a_h a_h_refused a_h_kind a_h_sweets a_h_gives a_h_tape a_h_letter a_h_letterAt a_h_one a_h_two a_h_kept a_h_trail a_h_crumb a_h_nextCrumb a_h_goal a_h_start a_h_sits a_h_bestSits a_h_without a_h_row y_h_taped y_h_at y_h_statements y_h_hasImage y_h_beforeMany y_h_found y_h_lots y_h_rowMany (m_many z_h_T) (m_odd z_h_T) (m_step z_h_T) (m_bag z_h_T) (m_strokes z_h_T) (m_gave z_h_T) (m_threw z_h_T) (m_isKeeping z_h_T) (m_cursor z_h_T) (m_kind z_h_T) (m_sweets z_h_T) (m_gives z_h_T) (m_kept z_h_T))) (wc' := (w_M_passesAll cI cJ cC a_h a_h_refused a_h_kind a_h_sweets a_h_gives a_h_tape a_h_letter a_h_letterAt a_h_one a_h_two a_h_kept a_h_trail a_h_crumb a_h_nextCrumb a_h_goal a_h_start a_h_sits a_h_bestSits a_h_without a_h_row y_h_taped y_h_at y_h_statements y_h_hasImage y_h_beforeMany y_h_found y_h_lots y_h_rowMany (m_many q5) (m_odd q5) (m_step q5) (m_bag q5) (m_strokes q5) (m_gave q5) (m_threw q5) (m_isKeeping q5) (m_cursor q5) (m_kind q5) (m_sweets q5) (m_gives q5) (m_kept q5))) (ws' := (w_M_begun cI cJ cC a_h a_h_refused a_h_kind a_h_sweets a_h_gives a_h_tape a_h_letter a_h_letterAt a_h_one a_h_two a_h_kept a_h_trail a_h_crumb a_h_nextCrumb a_h_goal a_h_start a_h_sits a_h_bestSits a_h_without a_h_row y_h_taped y_h_at y_h_statements y_h_hasImage y_h_beforeMany y_h_found y_h_lots y_h_rowMany (m_many q5) (m_odd q5) (m_step q5) (m_bag q5) (m_strokes q5) (m_gave q5) (m_threw q5) (m_isKeeping q5) (m_cursor q5) z_h_refused (m_kind q5) (m_sweets q5) (m_gives q5) (m_kept q5) z_h_trail)) (As := [.int 2, .int 1]) (rest := []) hx hb hml hown hT (c_M_passesAll (z_h_T := z_h_T) a_h a_h_refused a_h_kind a_h_sweets a_h_gives a_h_tape a_h_letter a_h_letterAt a_h_one a_h_two a_h_kept a_h_trail a_h_crumb a_h_nextCrumb a_h_goal a_h_start a_h_sits a_h_bestSits a_h_without a_h_row y_h_taped y_h_at y_h_statements y_h_hasImage y_h_beforeMany y_h_found y_h_lots y_h_rowMany hq5) k_900 k_902 ks_28 k_8 k_903 hd_M_passesAll ⟨Nat.le_of_ble_eq_true rfl, Nat.le_of_ble_eq_true rfl⟩ xE0_ok trivial hA hK hP hD hS [0, 2, 3, 4, 5] [1, 6] [2, 0, 3, 4, 5, 6, 1] rfl rfl rfl rfl rfl rfl rfl rfl rfl rfl hl.1 rfl (Nat.le_of_ble_eq_true rfl) ⟨Nat.zero_le _, Nat.zero_le _⟩ d_M_begun_35 (fun H locs hP hD hS => ?_)
      refine lv_bipush (v := (-9)) hx hb d_M_begun_38 (by decide) ?_
      refine lv_istore_n (lv' := [(3, .int (-9)), (2, .int q1), (0, .ref a_h), (1, .int x1)]) hx hb d_M_begun_40 rfl hl (by decide) rfl (fun ls hl => ?_)
      refine lv_iconst (v := 0) hx hb d_M_begun_41 (by decide) ?_
      refine lv_istore (lv' := [(4, .int 0), (3, .int (-9)), (2, .int q1), (0, .ref a_h), (1, .int x1)]) hx hb d_M_begun_42 hl (by decide) rfl (fun ls hl => ?_)
      refine L44 z_h_refused _ (fun z_h_T_13 z_h_trail_13 x3_13 H locs ls hf hP hD hS hl => ?_) FU q5 z_h_trail (-9) 0 _ _ _ hf hP hD hS (lv_sub hl [3, 4, 1, 0] rfl)
      refine lv_aload_n hx hb d_M_begun_99 rfl (lv_at hl 0 rfl) ?_
      refine lv_iconst (v := 2) hx hb d_M_begun_100 (by decide) ?_
      refine lv_iconst (v := 0) hx hb d_M_begun_101 (by decide) ?_
      obtain ⟨q14, hq14, hf⟩ := io_b hf
      refine xcVV (wc := (w_M_passesAll cI cJ cC a_h a_h_refused a_h_kind a_h_sweets a_h_gives a_h_tape a_h_letter a_h_letterAt a_h_one a_h_two a_h_kept a_h_trail a_h_crumb a_h_nextCrumb a_h_goal a_h_start a_h_sits a_h_bestSits a_h_without a_h_row y_h_taped y_h_at y_h_statements y_h_hasImage y_h_beforeMany y_h_found y_h_lots y_h_rowMany (m_many z_h_T_13) (m_odd z_h_T_13) (m_step z_h_T_13) (m_bag z_h_T_13) (m_strokes z_h_T_13) (m_gave z_h_T_13) (m_threw z_h_T_13) (m_isKeeping z_h_T_13) (m_cursor z_h_T_13) (m_kind z_h_T_13) (m_sweets z_h_T_13) (m_gives z_h_T_13) (m_kept z_h_T_13))) (wc' := (w_M_passesAll cI cJ cC a_h a_h_refused a_h_kind a_h_sweets a_h_gives a_h_tape a_h_letter a_h_letterAt a_h_one a_h_two a_h_kept a_h_trail a_h_crumb a_h_nextCrumb a_h_goal a_h_start a_h_sits a_h_bestSits a_h_without a_h_row y_h_taped y_h_at y_h_statements y_h_hasImage y_h_beforeMany y_h_found y_h_lots y_h_rowMany (m_many q14) (m_odd q14) (m_step q14) (m_bag q14) (m_strokes q14) (m_gave q14) (m_threw q14) (m_isKeeping q14) (m_cursor q14) (m_kind q14) (m_sweets q14) (m_gives q14) (m_kept q14))) (ws' := (w_M_begun cI cJ cC a_h a_h_refused a_h_kind a_h_sweets a_h_gives a_h_tape a_h_letter a_h_letterAt a_h_one a_h_two a_h_kept a_h_trail a_h_crumb a_h_nextCrumb a_h_goal a_h_start a_h_sits a_h_bestSits a_h_without a_h_row y_h_taped y_h_at y_h_statements y_h_hasImage y_h_beforeMany y_h_found y_h_lots y_h_rowMany (m_many q14) (m_odd q14) (m_step q14) (m_bag q14) (m_strokes q14) (m_gave q14) (m_threw q14) (m_isKeeping q14) (m_cursor q14) z_h_refused (m_kind q14) (m_sweets q14) (m_gives q14) (m_kept q14) z_h_trail_13)) (As := [.int 2, .int 0]) (rest := []) hx hb hml hown hT (c_M_passesAll (z_h_T := z_h_T_13) a_h a_h_refused a_h_kind a_h_sweets a_h_gives a_h_tape a_h_letter a_h_letterAt a_h_one a_h_two a_h_kept a_h_trail a_h_crumb a_h_nextCrumb a_h_goal a_h_start a_h_sits a_h_bestSits a_h_without a_h_row y_h_taped y_h_at y_h_statements y_h_hasImage y_h_beforeMany y_h_found y_h_lots y_h_rowMany hq14) k_900 k_902 ks_28 k_8 k_903 hd_M_passesAll ⟨Nat.le_of_ble_eq_true rfl, Nat.le_of_ble_eq_true rfl⟩ xE0_ok trivial hA hK hP hD hS [0, 2, 3, 4, 5] [1, 6] [2, 0, 3, 4, 5, 6, 1] rfl rfl rfl rfl rfl rfl rfl rfl rfl rfl hl.1 rfl (Nat.le_of_ble_eq_true rfl) ⟨Nat.zero_le _, Nat.zero_le _⟩ d_M_begun_102 (fun H locs hP hD hS => ?_)
      refine lv_iload_n hx hb d_M_begun_105 rfl (lv_at hl 1 rfl) ?_
      have hq := Option.some.inj hf
      subst hq
      exact hret _ _ _ _ _ d_M_begun_106 rfl rfl hP hD hS
    · have hf := io_t hf c4
      refine lv_bipush (v := (-3)) hx hb d_M_begun_19 (by decide) ?_
      refine lv_istore_n (lv' := [(2, .int (-3)), (0, .ref a_h), (1, .int x1)]) hx hb d_M_begun_21 rfl hl (by decide) rfl (fun ls hl => ?_)
      refine lv_iload_n hx hb d_M_begun_22 rfl (lv_at hl 0 rfl) ?_
      refine lv_if_eq (tgt := 32) hx hb d_M_begun_23 (by decide) (fun c => absurd c (show ¬ ((-3) : Int32) = 0 from by decide +kernel)) (fun _ => ?_)
      refine lv_aload_n hx hb d_M_begun_26 rfl (lv_at hl 1 rfl) ?_
      refine lv_iload_n hx hb d_M_begun_27 rfl (lv_at hl 0 rfl) ?_
      obtain ⟨q15, hq15, hf⟩ := io_b hf
      refine xcVI (wc := (w_M_no cI cJ cC a_h a_h_refused a_h_kind a_h_sweets a_h_gives a_h_tape a_h_letter a_h_letterAt a_h_one a_h_two a_h_kept a_h_trail a_h_crumb a_h_nextCrumb a_h_goal a_h_start a_h_sits a_h_bestSits a_h_without a_h_row (m_many z_h_T) (m_odd z_h_T) (m_step z_h_T) (m_bag z_h_T) (m_strokes z_h_T) (m_gave z_h_T) (m_threw z_h_T) y_h_taped y_h_at y_h_statements y_h_hasImage (m_isKeeping z_h_T) (m_cursor z_h_T) y_h_beforeMany y_h_found y_h_lots y_h_rowMany z_h_refused)) (wc' := (w_M_no cI cJ cC a_h a_h_refused a_h_kind a_h_sweets a_h_gives a_h_tape a_h_letter a_h_letterAt a_h_one a_h_two a_h_kept a_h_trail a_h_crumb a_h_nextCrumb a_h_goal a_h_start a_h_sits a_h_bestSits a_h_without a_h_row (m_many z_h_T) (m_odd z_h_T) (m_step z_h_T) (m_bag z_h_T) (m_strokes z_h_T) (m_gave z_h_T) (m_threw z_h_T) y_h_taped y_h_at y_h_statements y_h_hasImage (m_isKeeping z_h_T) (m_cursor z_h_T) y_h_beforeMany y_h_found y_h_lots y_h_rowMany q15.2)) (ws' := (w_M_begun cI cJ cC a_h a_h_refused a_h_kind a_h_sweets a_h_gives a_h_tape a_h_letter a_h_letterAt a_h_one a_h_two a_h_kept a_h_trail a_h_crumb a_h_nextCrumb a_h_goal a_h_start a_h_sits a_h_bestSits a_h_without a_h_row y_h_taped y_h_at y_h_statements y_h_hasImage y_h_beforeMany y_h_found y_h_lots y_h_rowMany (m_many z_h_T) (m_odd z_h_T) (m_step z_h_T) (m_bag z_h_T) (m_strokes z_h_T) (m_gave z_h_T) (m_threw z_h_T) (m_isKeeping z_h_T) (m_cursor z_h_T) q15.2 (m_kind z_h_T) (m_sweets z_h_T) (m_gives z_h_T) (m_kept z_h_T) z_h_trail)) (As := [.int (-3)]) (rest := []) hx hb hml hown hT (c_M_no (z_h_refused := z_h_refused) a_h a_h_refused a_h_kind a_h_sweets a_h_gives a_h_tape a_h_letter a_h_letterAt a_h_one a_h_two a_h_kept a_h_trail a_h_crumb a_h_nextCrumb a_h_goal a_h_start a_h_sits a_h_bestSits a_h_without a_h_row (m_many z_h_T) (m_odd z_h_T) (m_step z_h_T) (m_bag z_h_T) (m_strokes z_h_T) (m_gave z_h_T) (m_threw z_h_T) y_h_taped y_h_at y_h_statements y_h_hasImage (m_isKeeping z_h_T) (m_cursor z_h_T) y_h_beforeMany y_h_found y_h_lots y_h_rowMany hq15) k_874 k_876 ks_24 k_8 k_877 hd_M_no ⟨Nat.le_of_ble_eq_true rfl, Nat.le_of_ble_eq_true rfl⟩ xE0_ok trivial hA hK hP hD hS [0, 1] [2, 3, 4, 5, 6] [5, 6, 0, 1, 2, 3, 4] rfl rfl rfl rfl rfl rfl rfl rfl rfl rfl hl.1 rfl (Nat.le_of_ble_eq_true rfl) ⟨Nat.zero_le _, Nat.zero_le _⟩ d_M_begun_28 (fun H locs hP hD hS => ?_)
      have hq := Option.some.inj hf
      subst hq
      exact hret _ _ _ _ _ d_M_begun_31 rfl rfl hP hD hS
abbrev w_M_draw (cI cJ cC : ClassId) (a_h a_h_refused a_h_kind a_h_sweets a_h_gives a_h_tape a_h_letter a_h_letterAt a_h_one a_h_two a_h_kept a_h_trail a_h_crumb a_h_nextCrumb a_h_goal a_h_start a_h_sits a_h_bestSits a_h_without a_h_row : Nat) (y_h_many : Int32) (y_h_odd : Int32) (y_h_step : Int32) (y_h_bag : Int32) (y_h_strokes : Int32) (y_h_gave : Int32) (y_h_threw : Int32) (y_h_taped : Int32) (y_h_at : Int32) (y_h_statements : Int32) (y_h_hasImage : Int32) (y_h_isKeeping : Int32) (y_h_cursor : Int32) (y_h_beforeMany : Int32) (y_h_found : Int32) (y_h_rowMany : Int32) (p_h_lots : Int32) : va_W := [(a_h, .inr (7, [.ref a_h_refused, .ref a_h_kind, .ref a_h_sweets, .ref a_h_gives, .int y_h_many, .int y_h_odd, .int y_h_step, .int y_h_bag, .int y_h_strokes, .int y_h_gave, .int y_h_threw, .ref a_h_tape, .ref a_h_letter, .ref a_h_letterAt, .ref a_h_one, .ref a_h_two, .int y_h_taped, .int y_h_at, .int y_h_statements, .ref a_h_kept, .int y_h_hasImage, .int y_h_isKeeping, .int y_h_cursor, .ref a_h_trail, .ref a_h_crumb, .ref a_h_nextCrumb, .ref a_h_goal, .ref a_h_start, .int y_h_beforeMany, .int y_h_found, .ref a_h_sits, .ref a_h_bestSits, .ref a_h_without, .int p_h_lots, .ref a_h_row, .int y_h_rowMany]))]
theorem d_M_draw_0 : decode b_M_draw 0 = .ok (.aload_n 0, 1) := by decide +kernel
theorem d_M_draw_1 : decode b_M_draw 1 = .ok (.aload_n 0, 1) := by decide +kernel
theorem d_M_draw_2 : decode b_M_draw 2 = .ok (.getfield 246, 3) := by decide +kernel
theorem d_M_draw_5 : decode b_M_draw 5 = .ok (.ldc 249, 2) := by decide +kernel
theorem d_M_draw_7 : decode b_M_draw 7 = .ok (.imul, 1) := by decide +kernel
theorem d_M_draw_8 : decode b_M_draw 8 = .ok (.sipush 12345, 3) := by decide +kernel
theorem d_M_draw_11 : decode b_M_draw 11 = .ok (.iadd, 1) := by decide +kernel
theorem d_M_draw_12 : decode b_M_draw 12 = .ok (.putfield 246, 3) := by decide +kernel
theorem d_M_draw_15 : decode b_M_draw 15 = .ok (.aload_n 0, 1) := by decide +kernel
theorem d_M_draw_16 : decode b_M_draw 16 = .ok (.getfield 246, 3) := by decide +kernel
theorem d_M_draw_19 : decode b_M_draw 19 = .ok (.ldc 250, 2) := by decide +kernel
theorem d_M_draw_21 : decode b_M_draw 21 = .ok (.iand, 1) := by decide +kernel
theorem d_M_draw_22 : decode b_M_draw 22 = .ok (.ldc 251, 2) := by decide +kernel
theorem d_M_draw_24 : decode b_M_draw 24 = .ok (.idiv, 1) := by decide +kernel
theorem d_M_draw_25 : decode b_M_draw 25 = .ok (.iload_n 1, 1) := by decide +kernel
theorem d_M_draw_26 : decode b_M_draw 26 = .ok (.irem, 1) := by decide +kernel
theorem d_M_draw_27 : decode b_M_draw 27 = .ok (.ireturn, 1) := by decide +kernel
set_option maxHeartbeats 4000000 in
set_option maxRecDepth 100000 in
theorem c_M_draw {l : Launch} {D : va_G} {cI cJ cC : ClassId} (a_h a_h_refused a_h_kind a_h_sweets a_h_gives a_h_tape a_h_letter a_h_letterAt a_h_one a_h_two a_h_kept a_h_trail a_h_crumb a_h_nextCrumb a_h_goal a_h_start a_h_sits a_h_bestSits a_h_without a_h_row : Nat) (y_h_many : Int32) (y_h_odd : Int32) (y_h_step : Int32) (y_h_bag : Int32) (y_h_strokes : Int32) (y_h_gave : Int32) (y_h_threw : Int32) (y_h_taped : Int32) (y_h_at : Int32) (y_h_statements : Int32) (y_h_hasImage : Int32) (y_h_isKeeping : Int32) (y_h_cursor : Int32) (y_h_beforeMany : Int32) (y_h_found : Int32) (y_h_rowMany : Int32) {z_h_lots : Int32} {x1 : Int32} {q : Int32 × Int32} (hf : f_M_draw z_h_lots x1 = some q) : xI l y_M_draw b_M_draw 2 .int 0 0 D (tyK cI cJ cC) xE0 [.ref a_h, .int x1] (w_M_draw cI cJ cC a_h a_h_refused a_h_kind a_h_sweets a_h_gives a_h_tape a_h_letter a_h_letterAt a_h_one a_h_two a_h_kept a_h_trail a_h_crumb a_h_nextCrumb a_h_goal a_h_start a_h_sits a_h_bestSits a_h_without a_h_row y_h_many y_h_odd y_h_step y_h_bag y_h_strokes y_h_gave y_h_threw y_h_taped y_h_at y_h_statements y_h_hasImage y_h_isKeeping y_h_cursor y_h_beforeMany y_h_found y_h_rowMany z_h_lots) q.1 (w_M_draw cI cJ cC a_h a_h_refused a_h_kind a_h_sweets a_h_gives a_h_tape a_h_letter a_h_letterAt a_h_one a_h_two a_h_kept a_h_trail a_h_crumb a_h_nextCrumb a_h_goal a_h_start a_h_sits a_h_bestSits a_h_without a_h_row y_h_many y_h_odd y_h_step y_h_bag y_h_strokes y_h_gave y_h_threw y_h_taped y_h_at y_h_statements y_h_hasImage y_h_isKeeping y_h_cursor y_h_beforeMany y_h_found y_h_rowMany q.2) := by
  refine xI_of (by decide) (Nat.le_of_ble_eq_true rfl) ?_
  intro p e s m args below meth c A Q hx hb hml hown hT hA hP hD hK hS hE hret ls hl
  have hown : s.vm.findClass R_M = some m.cls := hown
  have hl : lv_has ls 2 [(0, .ref a_h), (1, .int x1)] := hl
  unfold f_M_draw at hf
  refine lv_aload_n hx hb d_M_draw_0 rfl (lv_at hl 0 rfl) ?_
  refine lv_aload_n hx hb d_M_draw_1 rfl (lv_at hl 0 rfl) ?_
  refine va_get hx hb hT i_M hown hK hP 0 rfl rfl 33 (Nat.le_of_ble_eq_true rfl) (hT _ k_791) (fun _ h => h) rfl d_M_draw_2 ?_
  refine lv_ldc (v := 1103515245) hx hb hown (hT _ k_1133) d_M_draw_5 ?_
  refine lv_imul hx hb d_M_draw_7 ?_
  refine lv_sipush (v := 12345) hx hb d_M_draw_8 (by decide) ?_
  refine lv_iadd hx hb d_M_draw_11 ?_
  refine va_put (ty := .int) hx hb hT i_M t_M t_M_ok n_M hown hK hP hD hS 0 rfl rfl 33 (Nat.le_of_ble_eq_true rfl) (hT _ k_791) (fun _ h => h) rfl rfl rfl rfl (Nat.le_of_ble_eq_true rfl) d_M_draw_12 (fun H locs hP hD hS => ?_)
  have hP : va_P D classes (w_M_draw cI cJ cC a_h a_h_refused a_h_kind a_h_sweets a_h_gives a_h_tape a_h_letter a_h_letterAt a_h_one a_h_two a_h_kept a_h_trail a_h_crumb a_h_nextCrumb a_h_goal a_h_start a_h_sits a_h_bestSits a_h_without a_h_row y_h_many y_h_odd y_h_step y_h_bag y_h_strokes y_h_gave y_h_threw y_h_taped y_h_at y_h_statements y_h_hasImage y_h_isKeeping y_h_cursor y_h_beforeMany y_h_found y_h_rowMany ((z_h_lots * 1103515245) + 12345)) H := hP
  have hD : va_D A (w_M_draw cI cJ cC a_h a_h_refused a_h_kind a_h_sweets a_h_gives a_h_tape a_h_letter a_h_letterAt a_h_one a_h_two a_h_kept a_h_trail a_h_crumb a_h_nextCrumb a_h_goal a_h_start a_h_sits a_h_bestSits a_h_without a_h_row y_h_many y_h_odd y_h_step y_h_bag y_h_strokes y_h_gave y_h_threw y_h_taped y_h_at y_h_statements y_h_hasImage y_h_isKeeping y_h_cursor y_h_beforeMany y_h_found y_h_rowMany ((z_h_lots * 1103515245) + 12345)) := hD
  refine lv_aload_n hx hb d_M_draw_15 rfl (lv_at hl 0 rfl) ?_
  refine va_get hx hb hT i_M hown hK hP 0 rfl rfl 33 (Nat.le_of_ble_eq_true rfl) (hT _ k_791) (fun _ h => h) rfl d_M_draw_16 ?_
  refine lv_ldc (v := 2147483647) hx hb hown (hT _ k_1134) d_M_draw_19 ?_
  refine lv_iand hx hb d_M_draw_21 ?_
  refine lv_ldc (v := 65536) hx hb hown (hT _ k_1135) d_M_draw_22 ?_
  refine x_idiv hx hb d_M_draw_24 (by decide) ?_
  refine lv_iload_n hx hb d_M_draw_25 rfl (lv_at hl 1 rfl) ?_
  obtain ⟨c1, hf⟩ := io_n hf
  refine x_irem hx hb d_M_draw_26 c1 ?_
  have hq := Option.some.inj hf
  subst hq
  exact hret _ _ _ _ _ d_M_draw_27 rfl rfl hP hD hS
abbrev w_M_seeds (cI cJ cC : ClassId) (a_h a_h_refused a_h_kind a_h_sweets a_h_gives a_h_tape a_h_letter a_h_letterAt a_h_one a_h_two a_h_kept a_h_trail a_h_crumb a_h_nextCrumb a_h_goal a_h_start a_h_sits a_h_bestSits a_h_without a_h_row : Nat) (y_h_taped : Int32) (y_h_at : Int32) (y_h_statements : Int32) (y_h_hasImage : Int32) (y_h_beforeMany : Int32) (y_h_found : Int32) (y_h_rowMany : Int32) (p_h_many : Int32) (p_h_odd : Int32) (p_h_step : Int32) (p_h_bag : Int32) (p_h_strokes : Int32) (p_h_gave : Int32) (p_h_threw : Int32) (p_h_isKeeping : Int32) (p_h_cursor : Int32) (p_h_lots : Int32) (p_h_refused : (Nat → Int32)) (p_h_kind : (Nat → Int32)) (p_h_sweets : (Nat → Int32)) (p_h_gives : (Nat → Int32)) (p_h_kept : (Nat → Int32)) : va_W := [(a_h, .inr (7, [.ref a_h_refused, .ref a_h_kind, .ref a_h_sweets, .ref a_h_gives, .int p_h_many, .int p_h_odd, .int p_h_step, .int p_h_bag, .int p_h_strokes, .int p_h_gave, .int p_h_threw, .ref a_h_tape, .ref a_h_letter, .ref a_h_letterAt, .ref a_h_one, .ref a_h_two, .int y_h_taped, .int y_h_at, .int y_h_statements, .ref a_h_kept, .int y_h_hasImage, .int p_h_isKeeping, .int p_h_cursor, .ref a_h_trail, .ref a_h_crumb, .ref a_h_nextCrumb, .ref a_h_goal, .ref a_h_start, .int y_h_beforeMany, .int y_h_found, .ref a_h_sits, .ref a_h_bestSits, .ref a_h_without, .int p_h_lots, .ref a_h_row, .int y_h_rowMany])), (a_h_refused, .inl (cI, (7, .inl p_h_refused))), (a_h_kind, .inl (cI, (8, .inl p_h_kind))), (a_h_sweets, .inl (cI, (8, .inl p_h_sweets))), (a_h_gives, .inl (cI, (8, .inl p_h_gives))), (a_h_kept, .inl (cI, (90, .inl p_h_kept)))]
theorem d_M_seeds_0 : decode b_M_seeds 0 = .ok (.iload_n 1, 1) := by decide +kernel
theorem d_M_seeds_1 : decode b_M_seeds 1 = .ok (.iconst 1, 1) := by decide +kernel
theorem d_M_seeds_2 : decode b_M_seeds 2 = .ok (.bipush 50, 2) := by decide +kernel
theorem d_M_seeds_4 : decode b_M_seeds 4 = .ok (.invokestatic 81, 3) := by decide +kernel
theorem d_M_seeds_7 : decode b_M_seeds 7 = .ok (.istore_n 3, 1) := by decide +kernel
theorem d_M_seeds_8 : decode b_M_seeds 8 = .ok (.iload_n 3, 1) := by decide +kernel
theorem d_M_seeds_9 : decode b_M_seeds 9 = .ok (.ifCond .ne 13, 3) := by decide +kernel
theorem d_M_seeds_12 : decode b_M_seeds 12 = .ok (.aload_n 0, 1) := by decide +kernel
theorem d_M_seeds_13 : decode b_M_seeds 13 = .ok (.getfield 78, 3) := by decide +kernel
theorem d_M_seeds_16 : decode b_M_seeds 16 = .ok (.ifCond .ne 6, 3) := by decide +kernel
theorem d_M_seeds_19 : decode b_M_seeds 19 = .ok (.bipush (-3), 2) := by decide +kernel
theorem d_M_seeds_21 : decode b_M_seeds 21 = .ok (.istore_n 3, 1) := by decide +kernel
theorem d_M_seeds_22 : decode b_M_seeds 22 = .ok (.iload_n 3, 1) := by decide +kernel
theorem d_M_seeds_23 : decode b_M_seeds 23 = .ok (.ifCond .eq 9, 3) := by decide +kernel
theorem d_M_seeds_26 : decode b_M_seeds 26 = .ok (.aload_n 0, 1) := by decide +kernel
theorem d_M_seeds_27 : decode b_M_seeds 27 = .ok (.iload_n 3, 1) := by decide +kernel
theorem d_M_seeds_28 : decode b_M_seeds 28 = .ok (.invokevirtual 88, 3) := by decide +kernel
theorem d_M_seeds_31 : decode b_M_seeds 31 = .ok (.ireturn, 1) := by decide +kernel
theorem d_M_seeds_32 : decode b_M_seeds 32 = .ok (.aload_n 0, 1) := by decide +kernel
theorem d_M_seeds_33 : decode b_M_seeds 33 = .ok (.iconst 1, 1) := by decide +kernel
theorem d_M_seeds_34 : decode b_M_seeds 34 = .ok (.iconst 1, 1) := by decide +kernel
theorem d_M_seeds_35 : decode b_M_seeds 35 = .ok (.invokevirtual 119, 3) := by decide +kernel
theorem d_M_seeds_38 : decode b_M_seeds 38 = .ok (.aload_n 0, 1) := by decide +kernel
theorem d_M_seeds_39 : decode b_M_seeds 39 = .ok (.iload_n 2, 1) := by decide +kernel
theorem d_M_seeds_40 : decode b_M_seeds 40 = .ok (.putfield 246, 3) := by decide +kernel
theorem d_M_seeds_43 : decode b_M_seeds 43 = .ok (.iconst 0, 1) := by decide +kernel
theorem d_M_seeds_44 : decode b_M_seeds 44 = .ok (.istore 4, 2) := by decide +kernel
theorem d_M_seeds_46 : decode b_M_seeds 46 = .ok (.iconst 0, 1) := by decide +kernel
theorem d_M_seeds_47 : decode b_M_seeds 47 = .ok (.istore 5, 2) := by decide +kernel
theorem d_M_seeds_49 : decode b_M_seeds 49 = .ok (.iload 5, 2) := by decide +kernel
theorem d_M_seeds_51 : decode b_M_seeds 51 = .ok (.iload_n 1, 1) := by decide +kernel
theorem d_M_seeds_52 : decode b_M_seeds 52 = .ok (.if_icmp .ge 43, 3) := by decide +kernel
theorem d_M_seeds_55 : decode b_M_seeds 55 = .ok (.aload_n 0, 1) := by decide +kernel
theorem d_M_seeds_56 : decode b_M_seeds 56 = .ok (.aload_n 0, 1) := by decide +kernel
theorem d_M_seeds_57 : decode b_M_seeds 57 = .ok (.getfield 78, 3) := by decide +kernel
theorem d_M_seeds_60 : decode b_M_seeds 60 = .ok (.invokevirtual 252, 3) := by decide +kernel
theorem d_M_seeds_63 : decode b_M_seeds 63 = .ok (.istore 6, 2) := by decide +kernel
theorem d_M_seeds_65 : decode b_M_seeds 65 = .ok (.aload_n 0, 1) := by decide +kernel
theorem d_M_seeds_66 : decode b_M_seeds 66 = .ok (.iload 6, 2) := by decide +kernel
theorem d_M_seeds_68 : decode b_M_seeds 68 = .ok (.aload_n 0, 1) := by decide +kernel
theorem d_M_seeds_69 : decode b_M_seeds 69 = .ok (.aload_n 0, 1) := by decide +kernel
theorem d_M_seeds_70 : decode b_M_seeds 70 = .ok (.getfield 78, 3) := by decide +kernel
theorem d_M_seeds_73 : decode b_M_seeds 73 = .ok (.invokevirtual 252, 3) := by decide +kernel
theorem d_M_seeds_76 : decode b_M_seeds 76 = .ok (.invokevirtual 175, 3) := by decide +kernel
theorem d_M_seeds_79 : decode b_M_seeds 79 = .ok (.iload 4, 2) := by decide +kernel
theorem d_M_seeds_81 : decode b_M_seeds 81 = .ok (.aload_n 0, 1) := by decide +kernel
theorem d_M_seeds_82 : decode b_M_seeds 82 = .ok (.iconst 1, 1) := by decide +kernel
theorem d_M_seeds_83 : decode b_M_seeds 83 = .ok (.invokevirtual 179, 3) := by decide +kernel
theorem d_M_seeds_86 : decode b_M_seeds 86 = .ok (.iadd, 1) := by decide +kernel
theorem d_M_seeds_87 : decode b_M_seeds 87 = .ok (.istore 4, 2) := by decide +kernel
theorem d_M_seeds_89 : decode b_M_seeds 89 = .ok (.iinc 5 1, 3) := by decide +kernel
theorem d_M_seeds_92 : decode b_M_seeds 92 = .ok (.goto (-43), 3) := by decide +kernel
theorem d_M_seeds_95 : decode b_M_seeds 95 = .ok (.aload_n 0, 1) := by decide +kernel
theorem d_M_seeds_96 : decode b_M_seeds 96 = .ok (.iconst 1, 1) := by decide +kernel
theorem d_M_seeds_97 : decode b_M_seeds 97 = .ok (.iconst 0, 1) := by decide +kernel
theorem d_M_seeds_98 : decode b_M_seeds 98 = .ok (.invokevirtual 119, 3) := by decide +kernel
theorem d_M_seeds_101 : decode b_M_seeds 101 = .ok (.iload 4, 2) := by decide +kernel
theorem d_M_seeds_103 : decode b_M_seeds 103 = .ok (.ireturn, 1) := by decide +kernel
set_option maxHeartbeats 4000000 in
set_option maxRecDepth 100000 in
theorem c_M_seeds {l : Launch} {D : va_G} {cI cJ cC : ClassId} (a_h a_h_refused a_h_kind a_h_sweets a_h_gives a_h_tape a_h_letter a_h_letterAt a_h_one a_h_two a_h_kept a_h_trail a_h_crumb a_h_nextCrumb a_h_goal a_h_start a_h_sits a_h_bestSits a_h_without a_h_row : Nat) (y_h_taped : Int32) (y_h_at : Int32) (y_h_statements : Int32) (y_h_hasImage : Int32) (y_h_beforeMany : Int32) (y_h_found : Int32) (y_h_rowMany : Int32) {z_h_T : MT} {z_h_lots : Int32} {z_h_refused : (Nat → Int32)} {x1 : Int32} {x2 : Int32} {q : Int32 × MT × Int32 × (Nat → Int32)} (hf : f_M_seeds z_h_T z_h_lots z_h_refused x1 x2 = some q) : xI l y_M_seeds b_M_seeds 7 .int 4 89 D (tyK cI cJ cC) xE0 [.ref a_h, .int x1, .int x2] (w_M_seeds cI cJ cC a_h a_h_refused a_h_kind a_h_sweets a_h_gives a_h_tape a_h_letter a_h_letterAt a_h_one a_h_two a_h_kept a_h_trail a_h_crumb a_h_nextCrumb a_h_goal a_h_start a_h_sits a_h_bestSits a_h_without a_h_row y_h_taped y_h_at y_h_statements y_h_hasImage y_h_beforeMany y_h_found y_h_rowMany (m_many z_h_T) (m_odd z_h_T) (m_step z_h_T) (m_bag z_h_T) (m_strokes z_h_T) (m_gave z_h_T) (m_threw z_h_T) (m_isKeeping z_h_T) (m_cursor z_h_T) z_h_lots z_h_refused (m_kind z_h_T) (m_sweets z_h_T) (m_gives z_h_T) (m_kept z_h_T)) q.1 (w_M_seeds cI cJ cC a_h a_h_refused a_h_kind a_h_sweets a_h_gives a_h_tape a_h_letter a_h_letterAt a_h_one a_h_two a_h_kept a_h_trail a_h_crumb a_h_nextCrumb a_h_goal a_h_start a_h_sits a_h_bestSits a_h_without a_h_row y_h_taped y_h_at y_h_statements y_h_hasImage y_h_beforeMany y_h_found y_h_rowMany (m_many q.2.1) (m_odd q.2.1) (m_step q.2.1) (m_bag q.2.1) (m_strokes q.2.1) (m_gave q.2.1) (m_threw q.2.1) (m_isKeeping q.2.1) (m_cursor q.2.1) q.2.2.1 q.2.2.2 (m_kind q.2.1) (m_sweets q.2.1) (m_gives q.2.1) (m_kept q.2.1)) := by
  refine xI_of (by decide) (Nat.le_of_ble_eq_true rfl) ?_
  intro p e s m args below meth c A Q hx hb hml hown hT hA hP hD hK hS hE hret ls hl
  have hown : s.vm.findClass R_M = some m.cls := hown
  have hl : lv_has ls 7 [(0, .ref a_h), (1, .int x1), (2, .int x2)] := hl
  unfold f_M_seeds at hf
  have L49 : ∀ (z_h_refused : (Nat → Int32)) (k : MT → Int32 → Int32 → Option (Int32 × MT × Int32 × (Nat → Int32))), (∀ (z_h_T : MT) (z_h_lots : Int32) (x4 : Int32) (H : Heap) (locs : List Loc) (ls : Array Slot), k z_h_T z_h_lots x4 = some q → va_P D classes (w_M_seeds cI cJ cC a_h a_h_refused a_h_kind a_h_sweets a_h_gives a_h_tape a_h_letter a_h_letterAt a_h_one a_h_two a_h_kept a_h_trail a_h_crumb a_h_nextCrumb a_h_goal a_h_start a_h_sits a_h_bestSits a_h_without a_h_row y_h_taped y_h_at y_h_statements y_h_hasImage y_h_beforeMany y_h_found y_h_rowMany (m_many z_h_T) (m_odd z_h_T) (m_step z_h_T) (m_bag z_h_T) (m_strokes z_h_T) (m_gave z_h_T) (m_threw z_h_T) (m_isKeeping z_h_T) (m_cursor z_h_T) z_h_lots z_h_refused (m_kind z_h_T) (m_sweets z_h_T) (m_gives z_h_T) (m_kept z_h_T)) H → va_D A (w_M_seeds cI cJ cC a_h a_h_refused a_h_kind a_h_sweets a_h_gives a_h_tape a_h_letter a_h_letterAt a_h_one a_h_two a_h_kept a_h_trail a_h_crumb a_h_nextCrumb a_h_goal a_h_start a_h_sits a_h_bestSits a_h_without a_h_row y_h_taped y_h_at y_h_statements y_h_hasImage y_h_beforeMany y_h_found y_h_rowMany (m_many z_h_T) (m_odd z_h_T) (m_step z_h_T) (m_bag z_h_T) (m_strokes z_h_T) (m_gave z_h_T) (m_threw z_h_T) (m_isKeeping z_h_T) (m_cursor z_h_T) z_h_lots z_h_refused (m_kind z_h_T) (m_sweets z_h_T) (m_gives z_h_T) (m_kept z_h_T)) → va_S A s.heap H locs → lv_has ls 7 [(0, .ref a_h), (4, .int x4)] → W p l e (xRm 4 89) s m args below meth c H locs 0 0 Q (F0 m 95 ls [])) → ∀ (n : Nat) (z_h_T : MT) (z_h_lots : Int32) (x4 : Int32) (x5 : Int32) (H : Heap) (locs : List Loc) (ls : Array Slot), f_M_seeds_L49 x1 k n z_h_T z_h_lots x4 x5 = some q → va_P D classes (w_M_seeds cI cJ cC a_h a_h_refused a_h_kind a_h_sweets a_h_gives a_h_tape a_h_letter a_h_letterAt a_h_one a_h_two a_h_kept a_h_trail a_h_crumb a_h_nextCrumb a_h_goal a_h_start a_h_sits a_h_bestSits a_h_without a_h_row y_h_taped y_h_at y_h_statements y_h_hasImage y_h_beforeMany y_h_found y_h_rowMany (m_many z_h_T) (m_odd z_h_T) (m_step z_h_T) (m_bag z_h_T) (m_strokes z_h_T) (m_gave z_h_T) (m_threw z_h_T) (m_isKeeping z_h_T) (m_cursor z_h_T) z_h_lots z_h_refused (m_kind z_h_T) (m_sweets z_h_T) (m_gives z_h_T) (m_kept z_h_T)) H → va_D A (w_M_seeds cI cJ cC a_h a_h_refused a_h_kind a_h_sweets a_h_gives a_h_tape a_h_letter a_h_letterAt a_h_one a_h_two a_h_kept a_h_trail a_h_crumb a_h_nextCrumb a_h_goal a_h_start a_h_sits a_h_bestSits a_h_without a_h_row y_h_taped y_h_at y_h_statements y_h_hasImage y_h_beforeMany y_h_found y_h_rowMany (m_many z_h_T) (m_odd z_h_T) (m_step z_h_T) (m_bag z_h_T) (m_strokes z_h_T) (m_gave z_h_T) (m_threw z_h_T) (m_isKeeping z_h_T) (m_cursor z_h_T) z_h_lots z_h_refused (m_kind z_h_T) (m_sweets z_h_T) (m_gives z_h_T) (m_kept z_h_T)) → va_S A s.heap H locs → lv_has ls 7 [(0, .ref a_h), (1, .int x1), (4, .int x4), (5, .int x5)] → W p l e (xRm 4 89) s m args below meth c H locs 0 0 Q (F0 m 49 ls []) := by
    intro z_h_refused k hk n
    induction n with
    | zero => intro z_h_T z_h_lots x4 x5 H locs ls hf hP hD hS hl; exact nomatch (show (none : Option (Int32 × MT × Int32 × (Nat → Int32))) = some q from hf)
    | succ n ih =>
      intro z_h_T z_h_lots x4 x5 H locs ls hf hP hD hS hl
      refine lv_iload hx hb d_M_seeds_49 (lv_at hl 3 rfl) ?_
      refine lv_iload_n hx hb d_M_seeds_51 rfl (lv_at hl 1 rfl) ?_
      refine lv_icmp_ge (tgt := 95) hx hb d_M_seeds_52 (by decide) (fun c6 => ?_) (fun c6 => ?_)
      · have hf := io_t hf c6
        exact hk z_h_T z_h_lots x4 _ _ _ hf hP hD hS (lv_sub hl [0, 2] rfl)
      · have hf := io_f hf c6
        refine lv_aload_n hx hb d_M_seeds_55 rfl (lv_at hl 0 rfl) ?_
        refine lv_aload_n hx hb d_M_seeds_56 rfl (lv_at hl 0 rfl) ?_
        refine va_get hx hb hT i_M hown hK hP 0 rfl rfl 4 (Nat.le_of_ble_eq_true rfl) (hT _ k_762) (fun _ h => h) rfl d_M_seeds_57 ?_
        obtain ⟨q7, hq7, hf⟩ := io_b hf
        refine xcVI (wc := (w_M_draw cI cJ cC a_h a_h_refused a_h_kind a_h_sweets a_h_gives a_h_tape a_h_letter a_h_letterAt a_h_one a_h_two a_h_kept a_h_trail a_h_crumb a_h_nextCrumb a_h_goal a_h_start a_h_sits a_h_bestSits a_h_without a_h_row (m_many z_h_T) (m_odd z_h_T) (m_step z_h_T) (m_bag z_h_T) (m_strokes z_h_T) (m_gave z_h_T) (m_threw z_h_T) y_h_taped y_h_at y_h_statements y_h_hasImage (m_isKeeping z_h_T) (m_cursor z_h_T) y_h_beforeMany y_h_found y_h_rowMany z_h_lots)) (wc' := (w_M_draw cI cJ cC a_h a_h_refused a_h_kind a_h_sweets a_h_gives a_h_tape a_h_letter a_h_letterAt a_h_one a_h_two a_h_kept a_h_trail a_h_crumb a_h_nextCrumb a_h_goal a_h_start a_h_sits a_h_bestSits a_h_without a_h_row (m_many z_h_T) (m_odd z_h_T) (m_step z_h_T) (m_bag z_h_T) (m_strokes z_h_T) (m_gave z_h_T) (m_threw z_h_T) y_h_taped y_h_at y_h_statements y_h_hasImage (m_isKeeping z_h_T) (m_cursor z_h_T) y_h_beforeMany y_h_found y_h_rowMany q7.2)) (ws' := (w_M_seeds cI cJ cC a_h a_h_refused a_h_kind a_h_sweets a_h_gives a_h_tape a_h_letter a_h_letterAt a_h_one a_h_two a_h_kept a_h_trail a_h_crumb a_h_nextCrumb a_h_goal a_h_start a_h_sits a_h_bestSits a_h_without a_h_row y_h_taped y_h_at y_h_statements y_h_hasImage y_h_beforeMany y_h_found y_h_rowMany (m_many z_h_T) (m_odd z_h_T) (m_step z_h_T) (m_bag z_h_T) (m_strokes z_h_T) (m_gave z_h_T) (m_threw z_h_T) (m_isKeeping z_h_T) (m_cursor z_h_T) q7.2 z_h_refused (m_kind z_h_T) (m_sweets z_h_T) (m_gives z_h_T) (m_kept z_h_T))) (As := [.int (m_many z_h_T)]) (rest := []) hx hb hml hown hT (c_M_draw (z_h_lots := z_h_lots) a_h a_h_refused a_h_kind a_h_sweets a_h_gives a_h_tape a_h_letter a_h_letterAt a_h_one a_h_two a_h_kept a_h_trail a_h_crumb a_h_nextCrumb a_h_goal a_h_start a_h_sits a_h_bestSits a_h_without a_h_row (m_many z_h_T) (m_odd z_h_T) (m_step z_h_T) (m_bag z_h_T) (m_strokes z_h_T) (m_gave z_h_T) (m_threw z_h_T) y_h_taped y_h_at y_h_statements y_h_hasImage (m_isKeeping z_h_T) (m_cursor z_h_T) y_h_beforeMany y_h_found y_h_rowMany hq7) k_1129 k_1131 ks_56 k_8 k_1132 hd_M_draw ⟨Nat.le_of_ble_eq_true rfl, Nat.le_of_ble_eq_true rfl⟩ xE0_ok trivial hA hK hP hD hS [0] [1, 2, 3, 4, 5] [5, 0, 1, 2, 3, 4] rfl rfl rfl rfl rfl rfl rfl rfl rfl rfl hl.1 rfl (Nat.le_of_ble_eq_true rfl) ⟨Nat.zero_le _, Nat.zero_le _⟩ d_M_seeds_60 (fun H locs hP hD hS => ?_)
        refine lv_istore (lv' := [(6, .int q7.1), (0, .ref a_h), (1, .int x1), (4, .int x4), (5, .int x5)]) hx hb d_M_seeds_63 hl (by decide) rfl (fun ls hl => ?_)
        refine lv_aload_n hx hb d_M_seeds_65 rfl (lv_at hl 1 rfl) ?_
        refine lv_iload hx hb d_M_seeds_66 (lv_at hl 0 rfl) ?_
        refine lv_aload_n hx hb d_M_seeds_68 rfl (lv_at hl 1 rfl) ?_
        refine lv_aload_n hx hb d_M_seeds_69 rfl (lv_at hl 1 rfl) ?_
        refine va_get hx hb hT i_M hown hK hP 0 rfl rfl 4 (Nat.le_of_ble_eq_true rfl) (hT _ k_762) (fun _ h => h) rfl d_M_seeds_70 ?_
        obtain ⟨q8, hq8, hf⟩ := io_b hf
        refine xcVI (wc := (w_M_draw cI cJ cC a_h a_h_refused a_h_kind a_h_sweets a_h_gives a_h_tape a_h_letter a_h_letterAt a_h_one a_h_two a_h_kept a_h_trail a_h_crumb a_h_nextCrumb a_h_goal a_h_start a_h_sits a_h_bestSits a_h_without a_h_row (m_many z_h_T) (m_odd z_h_T) (m_step z_h_T) (m_bag z_h_T) (m_strokes z_h_T) (m_gave z_h_T) (m_threw z_h_T) y_h_taped y_h_at y_h_statements y_h_hasImage (m_isKeeping z_h_T) (m_cursor z_h_T) y_h_beforeMany y_h_found y_h_rowMany q7.2)) (wc' := (w_M_draw cI cJ cC a_h a_h_refused a_h_kind a_h_sweets a_h_gives a_h_tape a_h_letter a_h_letterAt a_h_one a_h_two a_h_kept a_h_trail a_h_crumb a_h_nextCrumb a_h_goal a_h_start a_h_sits a_h_bestSits a_h_without a_h_row (m_many z_h_T) (m_odd z_h_T) (m_step z_h_T) (m_bag z_h_T) (m_strokes z_h_T) (m_gave z_h_T) (m_threw z_h_T) y_h_taped y_h_at y_h_statements y_h_hasImage (m_isKeeping z_h_T) (m_cursor z_h_T) y_h_beforeMany y_h_found y_h_rowMany q8.2)) (ws' := (w_M_seeds cI cJ cC a_h a_h_refused a_h_kind a_h_sweets a_h_gives a_h_tape a_h_letter a_h_letterAt a_h_one a_h_two a_h_kept a_h_trail a_h_crumb a_h_nextCrumb a_h_goal a_h_start a_h_sits a_h_bestSits a_h_without a_h_row y_h_taped y_h_at y_h_statements y_h_hasImage y_h_beforeMany y_h_found y_h_rowMany (m_many z_h_T) (m_odd z_h_T) (m_step z_h_T) (m_bag z_h_T) (m_strokes z_h_T) (m_gave z_h_T) (m_threw z_h_T) (m_isKeeping z_h_T) (m_cursor z_h_T) q8.2 z_h_refused (m_kind z_h_T) (m_sweets z_h_T) (m_gives z_h_T) (m_kept z_h_T))) (As := [.int (m_many z_h_T)]) (rest := [.int q7.1, .ref a_h]) hx hb hml hown hT (c_M_draw (z_h_lots := q7.2) a_h a_h_refused a_h_kind a_h_sweets a_h_gives a_h_tape a_h_letter a_h_letterAt a_h_one a_h_two a_h_kept a_h_trail a_h_crumb a_h_nextCrumb a_h_goal a_h_start a_h_sits a_h_bestSits a_h_without a_h_row (m_many z_h_T) (m_odd z_h_T) (m_step z_h_T) (m_bag z_h_T) (m_strokes z_h_T) (m_gave z_h_T) (m_threw z_h_T) y_h_taped y_h_at y_h_statements y_h_hasImage (m_isKeeping z_h_T) (m_cursor z_h_T) y_h_beforeMany y_h_found y_h_rowMany hq8) k_1129 k_1131 ks_56 k_8 k_1132 hd_M_draw ⟨Nat.le_of_ble_eq_true rfl, Nat.le_of_ble_eq_true rfl⟩ xE0_ok trivial hA hK hP hD hS [0] [1, 2, 3, 4, 5] [5, 0, 1, 2, 3, 4] rfl rfl rfl rfl rfl rfl rfl rfl rfl rfl hl.1 rfl (Nat.le_of_ble_eq_true rfl) ⟨Nat.zero_le _, Nat.zero_le _⟩ d_M_seeds_73 (fun H locs hP hD hS => ?_)
        obtain ⟨q9, hq9, hf⟩ := io_b hf
        refine xcVV (wc := (w_M_swapsSweets cI cJ cC a_h a_h_refused a_h_kind a_h_sweets a_h_gives a_h_tape a_h_letter a_h_letterAt a_h_one a_h_two a_h_kept a_h_trail a_h_crumb a_h_nextCrumb a_h_goal a_h_start a_h_sits a_h_bestSits a_h_without a_h_row y_h_taped y_h_at y_h_statements y_h_hasImage y_h_beforeMany y_h_found q8.2 y_h_rowMany (m_many z_h_T) (m_odd z_h_T) (m_step z_h_T) (m_bag z_h_T) (m_strokes z_h_T) (m_gave z_h_T) (m_threw z_h_T) (m_isKeeping z_h_T) (m_cursor z_h_T) (m_kind z_h_T) (m_sweets z_h_T) (m_gives z_h_T) (m_kept z_h_T))) (wc' := (w_M_swapsSweets cI cJ cC a_h a_h_refused a_h_kind a_h_sweets a_h_gives a_h_tape a_h_letter a_h_letterAt a_h_one a_h_two a_h_kept a_h_trail a_h_crumb a_h_nextCrumb a_h_goal a_h_start a_h_sits a_h_bestSits a_h_without a_h_row y_h_taped y_h_at y_h_statements y_h_hasImage y_h_beforeMany y_h_found q8.2 y_h_rowMany (m_many q9) (m_odd q9) (m_step q9) (m_bag q9) (m_strokes q9) (m_gave q9) (m_threw q9) (m_isKeeping q9) (m_cursor q9) (m_kind q9) (m_sweets q9) (m_gives q9) (m_kept q9))) (ws' := (w_M_seeds cI cJ cC a_h a_h_refused a_h_kind a_h_sweets a_h_gives a_h_tape a_h_letter a_h_letterAt a_h_one a_h_two a_h_kept a_h_trail a_h_crumb a_h_nextCrumb a_h_goal a_h_start a_h_sits a_h_bestSits a_h_without a_h_row y_h_taped y_h_at y_h_statements y_h_hasImage y_h_beforeMany y_h_found y_h_rowMany (m_many q9) (m_odd q9) (m_step q9) (m_bag q9) (m_strokes q9) (m_gave q9) (m_threw q9) (m_isKeeping q9) (m_cursor q9) q8.2 z_h_refused (m_kind q9) (m_sweets q9) (m_gives q9) (m_kept q9))) (As := [.int q7.1, .int q8.1]) (rest := []) hx hb hml hown hT (c_M_swapsSweets (z_h_T := z_h_T) a_h a_h_refused a_h_kind a_h_sweets a_h_gives a_h_tape a_h_letter a_h_letterAt a_h_one a_h_two a_h_kept a_h_trail a_h_crumb a_h_nextCrumb a_h_goal a_h_start a_h_sits a_h_bestSits a_h_without a_h_row y_h_taped y_h_at y_h_statements y_h_hasImage y_h_beforeMany y_h_found q8.2 y_h_rowMany hq9) k_956 k_958 ks_35 k_8 k_959 hd_M_swapsSweets ⟨Nat.le_of_ble_eq_true rfl, Nat.le_of_ble_eq_true rfl⟩ xE0_ok trivial hA hK hP hD hS [0, 2, 3, 4, 5] [1] [1, 0, 2, 3, 4, 5] rfl rfl rfl rfl rfl rfl rfl rfl rfl rfl hl.1 rfl (Nat.le_of_ble_eq_true rfl) ⟨Nat.zero_le _, Nat.zero_le _⟩ d_M_seeds_76 (fun H locs hP hD hS => ?_)
        refine lv_iload hx hb d_M_seeds_79 (lv_at hl 3 rfl) ?_
        refine lv_aload_n hx hb d_M_seeds_81 rfl (lv_at hl 1 rfl) ?_
        refine lv_iconst (v := 1) hx hb d_M_seeds_82 (by decide) ?_
        obtain ⟨q10, hq10, hf⟩ := io_b hf
        refine xcVI (wc := (w_M_goes cI cJ cC a_h a_h_refused a_h_kind a_h_sweets a_h_gives a_h_tape a_h_letter a_h_letterAt a_h_one a_h_two a_h_kept a_h_trail a_h_crumb a_h_nextCrumb a_h_goal a_h_start a_h_sits a_h_bestSits a_h_without a_h_row y_h_taped y_h_at y_h_statements y_h_hasImage y_h_beforeMany y_h_found q8.2 y_h_rowMany (m_many q9) (m_odd q9) (m_step q9) (m_bag q9) (m_strokes q9) (m_gave q9) (m_threw q9) (m_isKeeping q9) (m_cursor q9) (m_kind q9) (m_sweets q9) (m_gives q9) (m_kept q9))) (wc' := (w_M_goes cI cJ cC a_h a_h_refused a_h_kind a_h_sweets a_h_gives a_h_tape a_h_letter a_h_letterAt a_h_one a_h_two a_h_kept a_h_trail a_h_crumb a_h_nextCrumb a_h_goal a_h_start a_h_sits a_h_bestSits a_h_without a_h_row y_h_taped y_h_at y_h_statements y_h_hasImage y_h_beforeMany y_h_found q8.2 y_h_rowMany (m_many q10.2) (m_odd q10.2) (m_step q10.2) (m_bag q10.2) (m_strokes q10.2) (m_gave q10.2) (m_threw q10.2) (m_isKeeping q10.2) (m_cursor q10.2) (m_kind q10.2) (m_sweets q10.2) (m_gives q10.2) (m_kept q10.2))) (ws' := (w_M_seeds cI cJ cC a_h a_h_refused a_h_kind a_h_sweets a_h_gives a_h_tape a_h_letter a_h_letterAt a_h_one a_h_two a_h_kept a_h_trail a_h_crumb a_h_nextCrumb a_h_goal a_h_start a_h_sits a_h_bestSits a_h_without a_h_row y_h_taped y_h_at y_h_statements y_h_hasImage y_h_beforeMany y_h_found y_h_rowMany (m_many q10.2) (m_odd q10.2) (m_step q10.2) (m_bag q10.2) (m_strokes q10.2) (m_gave q10.2) (m_threw q10.2) (m_isKeeping q10.2) (m_cursor q10.2) q8.2 z_h_refused (m_kind q10.2) (m_sweets q10.2) (m_gives q10.2) (m_kept q10.2))) (As := [.int 1]) (rest := [.int x4]) hx hb hml hown hT (c_M_goes (z_h_T := q9) a_h a_h_refused a_h_kind a_h_sweets a_h_gives a_h_tape a_h_letter a_h_letterAt a_h_one a_h_two a_h_kept a_h_trail a_h_crumb a_h_nextCrumb a_h_goal a_h_start a_h_sits a_h_bestSits a_h_without a_h_row y_h_taped y_h_at y_h_statements y_h_hasImage y_h_beforeMany y_h_found q8.2 y_h_rowMany hq10) k_964 k_966 ks_36 k_8 k_967 hd_M_goes ⟨Nat.le_of_ble_eq_true rfl, Nat.le_of_ble_eq_true rfl⟩ xE0_ok trivial hA hK hP hD hS [0, 2, 3, 4, 5] [1] [1, 0, 2, 3, 4, 5] rfl rfl rfl rfl rfl rfl rfl rfl rfl rfl hl.1 rfl (Nat.le_of_ble_eq_true rfl) ⟨Nat.zero_le _, Nat.zero_le _⟩ d_M_seeds_83 (fun H locs hP hD hS => ?_)
        refine lv_iadd hx hb d_M_seeds_86 ?_
        refine lv_istore (lv' := [(4, .int (x4 + q10.1)), (6, .int q7.1), (0, .ref a_h), (1, .int x1), (5, .int x5)]) hx hb d_M_seeds_87 hl (by decide) rfl (fun ls hl => ?_)
        refine lv_iinc (v := (x5 + 1)) (lv' := [(5, .int (x5 + 1)), (4, .int (x4 + q10.1)), (6, .int q7.1), (0, .ref a_h), (1, .int x1)]) hx hb d_M_seeds_89 hl (k := 4) rfl (by rfl) (by decide) rfl (fun ls hl => ?_)
        refine lv_goto (tgt := 49) hx hb d_M_seeds_92 (by decide) ?_
        exact ih q10.2 q8.2 (x4 + q10.1) (x5 + 1) _ _ _ hf hP hD hS (lv_sub hl [3, 4, 1, 0] rfl)
  refine lv_iload_n hx hb d_M_seeds_0 rfl (lv_at hl 1 rfl) ?_
  refine lv_iconst (v := 1) hx hb d_M_seeds_1 (by decide) ?_
  refine lv_bipush (v := 50) hx hb d_M_seeds_2 (by decide) ?_
  obtain ⟨q1, hq1, hf⟩ := io_b hf
  refine xcSI (wc := []) (wc' := []) (ws' := (w_M_seeds cI cJ cC a_h a_h_refused a_h_kind a_h_sweets a_h_gives a_h_tape a_h_letter a_h_letterAt a_h_one a_h_two a_h_kept a_h_trail a_h_crumb a_h_nextCrumb a_h_goal a_h_start a_h_sits a_h_bestSits a_h_without a_h_row y_h_taped y_h_at y_h_statements y_h_hasImage y_h_beforeMany y_h_found y_h_rowMany (m_many z_h_T) (m_odd z_h_T) (m_step z_h_T) (m_bag z_h_T) (m_strokes z_h_T) (m_gave z_h_T) (m_threw z_h_T) (m_isKeeping z_h_T) (m_cursor z_h_T) z_h_lots z_h_refused (m_kind z_h_T) (m_sweets z_h_T) (m_gives z_h_T) (m_kept z_h_T))) (As := [.int x1, .int 1, .int 50]) (rest := []) hx hb hml hown hT (c_M_bound hq1) k_871 k_872 k_8 k_873 hd_M_bound ⟨Nat.le_of_ble_eq_true rfl, Nat.le_of_ble_eq_true rfl⟩ xE0_ok trivial hA hK hP hD hS [] [0, 1, 2, 3, 4, 5] [0, 1, 2, 3, 4, 5] rfl rfl rfl rfl rfl rfl rfl hl.1 rfl (Nat.le_of_ble_eq_true rfl) ⟨Nat.zero_le _, Nat.zero_le _⟩ d_M_seeds_4 (fun H locs hP hD hS => ?_)
  refine lv_istore_n (lv' := [(3, .int q1), (0, .ref a_h), (1, .int x1), (2, .int x2)]) hx hb d_M_seeds_7 rfl hl (by decide) rfl (fun ls hl => ?_)
  refine lv_iload_n hx hb d_M_seeds_8 rfl (lv_at hl 0 rfl) ?_
  refine lv_if_ne (tgt := 22) hx hb d_M_seeds_9 (by decide) (fun c2 => ?_) (fun c2 => ?_)
  · have hf := io_f hf c2
    refine lv_iload_n hx hb d_M_seeds_22 rfl (lv_at hl 0 rfl) ?_
    refine lv_if_eq (tgt := 32) hx hb d_M_seeds_23 (by decide) (fun c => absurd c c2) (fun _ => ?_)
    refine lv_aload_n hx hb d_M_seeds_26 rfl (lv_at hl 1 rfl) ?_
    refine lv_iload_n hx hb d_M_seeds_27 rfl (lv_at hl 0 rfl) ?_
    obtain ⟨q3, hq3, hf⟩ := io_b hf
    refine xcVI (wc := (w_M_no cI cJ cC a_h a_h_refused a_h_kind a_h_sweets a_h_gives a_h_tape a_h_letter a_h_letterAt a_h_one a_h_two a_h_kept a_h_trail a_h_crumb a_h_nextCrumb a_h_goal a_h_start a_h_sits a_h_bestSits a_h_without a_h_row (m_many z_h_T) (m_odd z_h_T) (m_step z_h_T) (m_bag z_h_T) (m_strokes z_h_T) (m_gave z_h_T) (m_threw z_h_T) y_h_taped y_h_at y_h_statements y_h_hasImage (m_isKeeping z_h_T) (m_cursor z_h_T) y_h_beforeMany y_h_found z_h_lots y_h_rowMany z_h_refused)) (wc' := (w_M_no cI cJ cC a_h a_h_refused a_h_kind a_h_sweets a_h_gives a_h_tape a_h_letter a_h_letterAt a_h_one a_h_two a_h_kept a_h_trail a_h_crumb a_h_nextCrumb a_h_goal a_h_start a_h_sits a_h_bestSits a_h_without a_h_row (m_many z_h_T) (m_odd z_h_T) (m_step z_h_T) (m_bag z_h_T) (m_strokes z_h_T) (m_gave z_h_T) (m_threw z_h_T) y_h_taped y_h_at y_h_statements y_h_hasImage (m_isKeeping z_h_T) (m_cursor z_h_T) y_h_beforeMany y_h_found z_h_lots y_h_rowMany q3.2)) (ws' := (w_M_seeds cI cJ cC a_h a_h_refused a_h_kind a_h_sweets a_h_gives a_h_tape a_h_letter a_h_letterAt a_h_one a_h_two a_h_kept a_h_trail a_h_crumb a_h_nextCrumb a_h_goal a_h_start a_h_sits a_h_bestSits a_h_without a_h_row y_h_taped y_h_at y_h_statements y_h_hasImage y_h_beforeMany y_h_found y_h_rowMany (m_many z_h_T) (m_odd z_h_T) (m_step z_h_T) (m_bag z_h_T) (m_strokes z_h_T) (m_gave z_h_T) (m_threw z_h_T) (m_isKeeping z_h_T) (m_cursor z_h_T) z_h_lots q3.2 (m_kind z_h_T) (m_sweets z_h_T) (m_gives z_h_T) (m_kept z_h_T))) (As := [.int q1]) (rest := []) hx hb hml hown hT (c_M_no (z_h_refused := z_h_refused) a_h a_h_refused a_h_kind a_h_sweets a_h_gives a_h_tape a_h_letter a_h_letterAt a_h_one a_h_two a_h_kept a_h_trail a_h_crumb a_h_nextCrumb a_h_goal a_h_start a_h_sits a_h_bestSits a_h_without a_h_row (m_many z_h_T) (m_odd z_h_T) (m_step z_h_T) (m_bag z_h_T) (m_strokes z_h_T) (m_gave z_h_T) (m_threw z_h_T) y_h_taped y_h_at y_h_statements y_h_hasImage (m_isKeeping z_h_T) (m_cursor z_h_T) y_h_beforeMany y_h_found z_h_lots y_h_rowMany hq3) k_874 k_876 ks_24 k_8 k_877 hd_M_no ⟨Nat.le_of_ble_eq_true rfl, Nat.le_of_ble_eq_true rfl⟩ xE0_ok trivial hA hK hP hD hS [0, 1] [2, 3, 4, 5] [4, 5, 0, 1, 2, 3] rfl rfl rfl rfl rfl rfl rfl rfl rfl rfl hl.1 rfl (Nat.le_of_ble_eq_true rfl) ⟨Nat.zero_le _, Nat.zero_le _⟩ d_M_seeds_28 (fun H locs hP hD hS => ?_)
    have hq := Option.some.inj hf
    subst hq
    exact hret _ _ _ _ _ d_M_seeds_31 rfl rfl hP hD hS
  · have hf := io_t hf c2
    refine lv_aload_n hx hb d_M_seeds_12 rfl (lv_at hl 1 rfl) ?_
    refine va_get hx hb hT i_M hown hK hP 0 rfl rfl 4 (Nat.le_of_ble_eq_true rfl) (hT _ k_762) (fun _ h => h) rfl d_M_seeds_13 ?_
    refine lv_if_ne (tgt := 22) hx hb d_M_seeds_16 (by decide) (fun c4 => ?_) (fun c4 => ?_)
    · have hf := io_f hf c4
      refine lv_iload_n hx hb d_M_seeds_22 rfl (lv_at hl 0 rfl) ?_
      refine lv_if_eq (tgt := 32) hx hb d_M_seeds_23 (by decide) (fun _ => ?_) (fun c => absurd c2 c)
      refine lv_aload_n hx hb d_M_seeds_32 rfl (lv_at hl 1 rfl) ?_
      refine lv_iconst (v := 1) hx hb d_M_seeds_33 (by decide) ?_
      refine lv_iconst (v := 1) hx hb d_M_seeds_34 (by decide) ?_
      obtain ⟨q5, hq5, hf⟩ := io_b hf
      refine xcVV (wc := (w_M_passesAll cI cJ cC a_h a_h_refused a_h_kind a_h_sweets a_h_gives a_h_tape a_h_letter a_h_letterAt a_h_one a_h_two a_h_kept a_h_trail a_h_crumb a_h_nextCrumb a_h_goal a_h_start a_h_sits a_h_bestSits a_h_without a_h_row y_h_taped y_h_at y_h_statements y_h_hasImage y_h_beforeMany y_h_found z_h_lots y_h_rowMany (m_many z_h_T) (m_odd z_h_T) (m_step z_h_T) (m_bag z_h_T) (m_strokes z_h_T) (m_gave z_h_T) (m_threw z_h_T) (m_isKeeping z_h_T) (m_cursor z_h_T) (m_kind z_h_T) (m_sweets z_h_T) (m_gives z_h_T) (m_kept z_h_T))) (wc' := (w_M_passesAll cI cJ cC a_h a_h_refused a_h_kind a_h_sweets a_h_gives a_h_tape a_h_letter a_h_letterAt a_h_one a_h_two a_h_kept a_h_trail a_h_crumb a_h_nextCrumb a_h_goal a_h_start a_h_sits a_h_bestSits a_h_without a_h_row y_h_taped y_h_at y_h_statements y_h_hasImage y_h_beforeMany y_h_found z_h_lots y_h_rowMany (m_many q5) (m_odd q5) (m_step q5) (m_bag q5) (m_strokes q5) (m_gave q5) (m_threw q5) (m_isKeeping q5) (m_cursor q5) (m_kind q5) (m_sweets q5) (m_gives q5) (m_kept q5))) (ws' := (w_M_seeds cI cJ cC a_h a_h_refused a_h_kind a_h_sweets a_h_gives a_h_tape a_h_letter a_h_letterAt a_h_one a_h_two a_h_kept a_h_trail a_h_crumb a_h_nextCrumb a_h_goal a_h_start a_h_sits a_h_bestSits a_h_without a_h_row y_h_taped y_h_at y_h_statements y_h_hasImage y_h_beforeMany y_h_found y_h_rowMany (m_many q5) (m_odd q5) (m_step q5) (m_bag q5) (m_strokes q5) (m_gave q5) (m_threw q5) (m_isKeeping q5) (m_cursor q5) z_h_lots z_h_refused (m_kind q5) (m_sweets q5) (m_gives q5) (m_kept q5))) (As := [.int 1, .int 1]) (rest := []) hx hb hml hown hT (c_M_passesAll (z_h_T := z_h_T) a_h a_h_refused a_h_kind a_h_sweets a_h_gives a_h_tape a_h_letter a_h_letterAt a_h_one a_h_two a_h_kept a_h_trail a_h_crumb a_h_nextCrumb a_h_goal a_h_start a_h_sits a_h_bestSits a_h_without a_h_row y_h_taped y_h_at y_h_statements y_h_hasImage y_h_beforeMany y_h_found z_h_lots y_h_rowMany hq5) k_900 k_902 ks_28 k_8 k_903 hd_M_passesAll ⟨Nat.le_of_ble_eq_true rfl, Nat.le_of_ble_eq_true rfl⟩ xE0_ok trivial hA hK hP hD hS [0, 2, 3, 4, 5] [1] [1, 0, 2, 3, 4, 5] rfl rfl rfl rfl rfl rfl rfl rfl rfl rfl hl.1 rfl (Nat.le_of_ble_eq_true rfl) ⟨Nat.zero_le _, Nat.zero_le _⟩ d_M_seeds_35 (fun H locs hP hD hS => ?_)
      refine lv_aload_n hx hb d_M_seeds_38 rfl (lv_at hl 1 rfl) ?_
      refine lv_iload_n hx hb d_M_seeds_39 rfl (lv_at hl 3 rfl) ?_
      refine va_put (ty := .int) hx hb hT i_M t_M t_M_ok n_M hown hK hP hD hS 0 rfl rfl 33 (Nat.le_of_ble_eq_true rfl) (hT _ k_791) (fun _ h => h) rfl rfl rfl rfl (Nat.le_of_ble_eq_true rfl) d_M_seeds_40 (fun H locs hP hD hS => ?_)
      have hP : va_P D classes (w_M_seeds cI cJ cC a_h a_h_refused a_h_kind a_h_sweets a_h_gives a_h_tape a_h_letter a_h_letterAt a_h_one a_h_two a_h_kept a_h_trail a_h_crumb a_h_nextCrumb a_h_goal a_h_start a_h_sits a_h_bestSits a_h_without a_h_row y_h_taped y_h_at y_h_statements y_h_hasImage y_h_beforeMany y_h_found y_h_rowMany (m_many q5) (m_odd q5) (m_step q5) (m_bag q5) (m_strokes q5) (m_gave q5) (m_threw q5) (m_isKeeping q5) (m_cursor q5) x2 z_h_refused (m_kind q5) (m_sweets q5) (m_gives q5) (m_kept q5)) H := hP
      have hD : va_D A (w_M_seeds cI cJ cC a_h a_h_refused a_h_kind a_h_sweets a_h_gives a_h_tape a_h_letter a_h_letterAt a_h_one a_h_two a_h_kept a_h_trail a_h_crumb a_h_nextCrumb a_h_goal a_h_start a_h_sits a_h_bestSits a_h_without a_h_row y_h_taped y_h_at y_h_statements y_h_hasImage y_h_beforeMany y_h_found y_h_rowMany (m_many q5) (m_odd q5) (m_step q5) (m_bag q5) (m_strokes q5) (m_gave q5) (m_threw q5) (m_isKeeping q5) (m_cursor q5) x2 z_h_refused (m_kind q5) (m_sweets q5) (m_gives q5) (m_kept q5)) := hD
      refine lv_iconst (v := 0) hx hb d_M_seeds_43 (by decide) ?_
      refine lv_istore (lv' := [(4, .int 0), (3, .int q1), (0, .ref a_h), (1, .int x1), (2, .int x2)]) hx hb d_M_seeds_44 hl (by decide) rfl (fun ls hl => ?_)
      refine lv_iconst (v := 0) hx hb d_M_seeds_46 (by decide) ?_
      refine lv_istore (lv' := [(5, .int 0), (4, .int 0), (3, .int q1), (0, .ref a_h), (1, .int x1), (2, .int x2)]) hx hb d_M_seeds_47 hl (by decide) rfl (fun ls hl => ?_)
      refine L49 z_h_refused _ (fun z_h_T_11 z_h_lots_11 x4_11 H locs ls hf hP hD hS hl => ?_) FU q5 x2 0 0 _ _ _ hf hP hD hS (lv_sub hl [3, 4, 1, 0] rfl)
      refine lv_aload_n hx hb d_M_seeds_95 rfl (lv_at hl 0 rfl) ?_
      refine lv_iconst (v := 1) hx hb d_M_seeds_96 (by decide) ?_
      refine lv_iconst (v := 0) hx hb d_M_seeds_97 (by decide) ?_
      obtain ⟨q12, hq12, hf⟩ := io_b hf
      refine xcVV (wc := (w_M_passesAll cI cJ cC a_h a_h_refused a_h_kind a_h_sweets a_h_gives a_h_tape a_h_letter a_h_letterAt a_h_one a_h_two a_h_kept a_h_trail a_h_crumb a_h_nextCrumb a_h_goal a_h_start a_h_sits a_h_bestSits a_h_without a_h_row y_h_taped y_h_at y_h_statements y_h_hasImage y_h_beforeMany y_h_found z_h_lots_11 y_h_rowMany (m_many z_h_T_11) (m_odd z_h_T_11) (m_step z_h_T_11) (m_bag z_h_T_11) (m_strokes z_h_T_11) (m_gave z_h_T_11) (m_threw z_h_T_11) (m_isKeeping z_h_T_11) (m_cursor z_h_T_11) (m_kind z_h_T_11) (m_sweets z_h_T_11) (m_gives z_h_T_11) (m_kept z_h_T_11))) (wc' := (w_M_passesAll cI cJ cC a_h a_h_refused a_h_kind a_h_sweets a_h_gives a_h_tape a_h_letter a_h_letterAt a_h_one a_h_two a_h_kept a_h_trail a_h_crumb a_h_nextCrumb a_h_goal a_h_start a_h_sits a_h_bestSits a_h_without a_h_row y_h_taped y_h_at y_h_statements y_h_hasImage y_h_beforeMany y_h_found z_h_lots_11 y_h_rowMany (m_many q12) (m_odd q12) (m_step q12) (m_bag q12) (m_strokes q12) (m_gave q12) (m_threw q12) (m_isKeeping q12) (m_cursor q12) (m_kind q12) (m_sweets q12) (m_gives q12) (m_kept q12))) (ws' := (w_M_seeds cI cJ cC a_h a_h_refused a_h_kind a_h_sweets a_h_gives a_h_tape a_h_letter a_h_letterAt a_h_one a_h_two a_h_kept a_h_trail a_h_crumb a_h_nextCrumb a_h_goal a_h_start a_h_sits a_h_bestSits a_h_without a_h_row y_h_taped y_h_at y_h_statements y_h_hasImage y_h_beforeMany y_h_found y_h_rowMany (m_many q12) (m_odd q12) (m_step q12) (m_bag q12) (m_strokes q12) (m_gave q12) (m_threw q12) (m_isKeeping q12) (m_cursor q12) z_h_lots_11 z_h_refused (m_kind q12) (m_sweets q12) (m_gives q12) (m_kept q12))) (As := [.int 1, .int 0]) (rest := []) hx hb hml hown hT (c_M_passesAll (z_h_T := z_h_T_11) a_h a_h_refused a_h_kind a_h_sweets a_h_gives a_h_tape a_h_letter a_h_letterAt a_h_one a_h_two a_h_kept a_h_trail a_h_crumb a_h_nextCrumb a_h_goal a_h_start a_h_sits a_h_bestSits a_h_without a_h_row y_h_taped y_h_at y_h_statements y_h_hasImage y_h_beforeMany y_h_found z_h_lots_11 y_h_rowMany hq12) k_900 k_902 ks_28 k_8 k_903 hd_M_passesAll ⟨Nat.le_of_ble_eq_true rfl, Nat.le_of_ble_eq_true rfl⟩ xE0_ok trivial hA hK hP hD hS [0, 2, 3, 4, 5] [1] [1, 0, 2, 3, 4, 5] rfl rfl rfl rfl rfl rfl rfl rfl rfl rfl hl.1 rfl (Nat.le_of_ble_eq_true rfl) ⟨Nat.zero_le _, Nat.zero_le _⟩ d_M_seeds_98 (fun H locs hP hD hS => ?_)
      refine lv_iload hx hb d_M_seeds_101 (lv_at hl 1 rfl) ?_
      have hq := Option.some.inj hf
      subst hq
      exact hret _ _ _ _ _ d_M_seeds_103 rfl rfl hP hD hS
    · have hf := io_t hf c4
      refine lv_bipush (v := (-3)) hx hb d_M_seeds_19 (by decide) ?_
      refine lv_istore_n (lv' := [(3, .int (-3)), (0, .ref a_h), (1, .int x1), (2, .int x2)]) hx hb d_M_seeds_21 rfl hl (by decide) rfl (fun ls hl => ?_)
      refine lv_iload_n hx hb d_M_seeds_22 rfl (lv_at hl 0 rfl) ?_
      refine lv_if_eq (tgt := 32) hx hb d_M_seeds_23 (by decide) (fun c => absurd c (show ¬ ((-3) : Int32) = 0 from by decide +kernel)) (fun _ => ?_)
      refine lv_aload_n hx hb d_M_seeds_26 rfl (lv_at hl 1 rfl) ?_
      refine lv_iload_n hx hb d_M_seeds_27 rfl (lv_at hl 0 rfl) ?_
      obtain ⟨q13, hq13, hf⟩ := io_b hf
      refine xcVI (wc := (w_M_no cI cJ cC a_h a_h_refused a_h_kind a_h_sweets a_h_gives a_h_tape a_h_letter a_h_letterAt a_h_one a_h_two a_h_kept a_h_trail a_h_crumb a_h_nextCrumb a_h_goal a_h_start a_h_sits a_h_bestSits a_h_without a_h_row (m_many z_h_T) (m_odd z_h_T) (m_step z_h_T) (m_bag z_h_T) (m_strokes z_h_T) (m_gave z_h_T) (m_threw z_h_T) y_h_taped y_h_at y_h_statements y_h_hasImage (m_isKeeping z_h_T) (m_cursor z_h_T) y_h_beforeMany y_h_found z_h_lots y_h_rowMany z_h_refused)) (wc' := (w_M_no cI cJ cC a_h a_h_refused a_h_kind a_h_sweets a_h_gives a_h_tape a_h_letter a_h_letterAt a_h_one a_h_two a_h_kept a_h_trail a_h_crumb a_h_nextCrumb a_h_goal a_h_start a_h_sits a_h_bestSits a_h_without a_h_row (m_many z_h_T) (m_odd z_h_T) (m_step z_h_T) (m_bag z_h_T) (m_strokes z_h_T) (m_gave z_h_T) (m_threw z_h_T) y_h_taped y_h_at y_h_statements y_h_hasImage (m_isKeeping z_h_T) (m_cursor z_h_T) y_h_beforeMany y_h_found z_h_lots y_h_rowMany q13.2)) (ws' := (w_M_seeds cI cJ cC a_h a_h_refused a_h_kind a_h_sweets a_h_gives a_h_tape a_h_letter a_h_letterAt a_h_one a_h_two a_h_kept a_h_trail a_h_crumb a_h_nextCrumb a_h_goal a_h_start a_h_sits a_h_bestSits a_h_without a_h_row y_h_taped y_h_at y_h_statements y_h_hasImage y_h_beforeMany y_h_found y_h_rowMany (m_many z_h_T) (m_odd z_h_T) (m_step z_h_T) (m_bag z_h_T) (m_strokes z_h_T) (m_gave z_h_T) (m_threw z_h_T) (m_isKeeping z_h_T) (m_cursor z_h_T) z_h_lots q13.2 (m_kind z_h_T) (m_sweets z_h_T) (m_gives z_h_T) (m_kept z_h_T))) (As := [.int (-3)]) (rest := []) hx hb hml hown hT (c_M_no (z_h_refused := z_h_refused) a_h a_h_refused a_h_kind a_h_sweets a_h_gives a_h_tape a_h_letter a_h_letterAt a_h_one a_h_two a_h_kept a_h_trail a_h_crumb a_h_nextCrumb a_h_goal a_h_start a_h_sits a_h_bestSits a_h_without a_h_row (m_many z_h_T) (m_odd z_h_T) (m_step z_h_T) (m_bag z_h_T) (m_strokes z_h_T) (m_gave z_h_T) (m_threw z_h_T) y_h_taped y_h_at y_h_statements y_h_hasImage (m_isKeeping z_h_T) (m_cursor z_h_T) y_h_beforeMany y_h_found z_h_lots y_h_rowMany hq13) k_874 k_876 ks_24 k_8 k_877 hd_M_no ⟨Nat.le_of_ble_eq_true rfl, Nat.le_of_ble_eq_true rfl⟩ xE0_ok trivial hA hK hP hD hS [0, 1] [2, 3, 4, 5] [4, 5, 0, 1, 2, 3] rfl rfl rfl rfl rfl rfl rfl rfl rfl rfl hl.1 rfl (Nat.le_of_ble_eq_true rfl) ⟨Nat.zero_le _, Nat.zero_le _⟩ d_M_seeds_28 (fun H locs hP hD hS => ?_)
      have hq := Option.some.inj hf
      subst hq
      exact hret _ _ _ _ _ d_M_seeds_31 rfl rfl hP hD hS
abbrev w_M_row (cI cJ cC : ClassId) (a_h a_h_refused a_h_kind a_h_sweets a_h_gives a_h_tape a_h_letter a_h_letterAt a_h_one a_h_two a_h_kept a_h_trail a_h_crumb a_h_nextCrumb a_h_goal a_h_start a_h_sits a_h_bestSits a_h_without a_h_row : Nat) (y_h_many : Int32) (y_h_odd : Int32) (y_h_step : Int32) (y_h_bag : Int32) (y_h_strokes : Int32) (y_h_gave : Int32) (y_h_threw : Int32) (y_h_taped : Int32) (y_h_at : Int32) (y_h_statements : Int32) (y_h_hasImage : Int32) (y_h_isKeeping : Int32) (y_h_cursor : Int32) (y_h_beforeMany : Int32) (y_h_found : Int32) (y_h_lots : Int32) (p_h_rowMany : Int32) (p_h_refused : (Nat → Int32)) (p_h_row : (Nat → Int32)) : va_W := [(a_h, .inr (7, [.ref a_h_refused, .ref a_h_kind, .ref a_h_sweets, .ref a_h_gives, .int y_h_many, .int y_h_odd, .int y_h_step, .int y_h_bag, .int y_h_strokes, .int y_h_gave, .int y_h_threw, .ref a_h_tape, .ref a_h_letter, .ref a_h_letterAt, .ref a_h_one, .ref a_h_two, .int y_h_taped, .int y_h_at, .int y_h_statements, .ref a_h_kept, .int y_h_hasImage, .int y_h_isKeeping, .int y_h_cursor, .ref a_h_trail, .ref a_h_crumb, .ref a_h_nextCrumb, .ref a_h_goal, .ref a_h_start, .int y_h_beforeMany, .int y_h_found, .ref a_h_sits, .ref a_h_bestSits, .ref a_h_without, .int y_h_lots, .ref a_h_row, .int p_h_rowMany])), (a_h_refused, .inl (cI, (7, .inl p_h_refused))), (a_h_row, .inl (cI, (24, .inl p_h_row)))]
theorem d_M_row_0 : decode b_M_row 0 = .ok (.iload_n 1, 1) := by decide +kernel
theorem d_M_row_1 : decode b_M_row 1 = .ok (.iconst 0, 1) := by decide +kernel
theorem d_M_row_2 : decode b_M_row 2 = .ok (.sipush 999, 3) := by decide +kernel
theorem d_M_row_5 : decode b_M_row 5 = .ok (.invokestatic 81, 3) := by decide +kernel
theorem d_M_row_8 : decode b_M_row 8 = .ok (.istore_n 2, 1) := by decide +kernel
theorem d_M_row_9 : decode b_M_row 9 = .ok (.iload_n 2, 1) := by decide +kernel
theorem d_M_row_10 : decode b_M_row 10 = .ok (.ifCond .ne 15, 3) := by decide +kernel
theorem d_M_row_13 : decode b_M_row 13 = .ok (.aload_n 0, 1) := by decide +kernel
theorem d_M_row_14 : decode b_M_row 14 = .ok (.getfield 255, 3) := by decide +kernel
theorem d_M_row_17 : decode b_M_row 17 = .ok (.bipush 24, 2) := by decide +kernel
theorem d_M_row_19 : decode b_M_row 19 = .ok (.if_icmp .ne 6, 3) := by decide +kernel
theorem d_M_row_22 : decode b_M_row 22 = .ok (.bipush (-6), 2) := by decide +kernel
theorem d_M_row_24 : decode b_M_row 24 = .ok (.istore_n 2, 1) := by decide +kernel
theorem d_M_row_25 : decode b_M_row 25 = .ok (.iload_n 2, 1) := by decide +kernel
theorem d_M_row_26 : decode b_M_row 26 = .ok (.ifCond .eq 9, 3) := by decide +kernel
theorem d_M_row_29 : decode b_M_row 29 = .ok (.aload_n 0, 1) := by decide +kernel
theorem d_M_row_30 : decode b_M_row 30 = .ok (.iload_n 2, 1) := by decide +kernel
theorem d_M_row_31 : decode b_M_row 31 = .ok (.invokevirtual 88, 3) := by decide +kernel
theorem d_M_row_34 : decode b_M_row 34 = .ok (.ireturn, 1) := by decide +kernel
theorem d_M_row_35 : decode b_M_row 35 = .ok (.aload_n 0, 1) := by decide +kernel
theorem d_M_row_36 : decode b_M_row 36 = .ok (.getfield 72, 3) := by decide +kernel
theorem d_M_row_39 : decode b_M_row 39 = .ok (.aload_n 0, 1) := by decide +kernel
theorem d_M_row_40 : decode b_M_row 40 = .ok (.getfield 255, 3) := by decide +kernel
theorem d_M_row_43 : decode b_M_row 43 = .ok (.iload_n 1, 1) := by decide +kernel
theorem d_M_row_44 : decode b_M_row 44 = .ok (.iastore, 1) := by decide +kernel
theorem d_M_row_45 : decode b_M_row 45 = .ok (.aload_n 0, 1) := by decide +kernel
theorem d_M_row_46 : decode b_M_row 46 = .ok (.dup, 1) := by decide +kernel
theorem d_M_row_47 : decode b_M_row 47 = .ok (.getfield 255, 3) := by decide +kernel
theorem d_M_row_50 : decode b_M_row 50 = .ok (.iconst 1, 1) := by decide +kernel
theorem d_M_row_51 : decode b_M_row 51 = .ok (.iadd, 1) := by decide +kernel
theorem d_M_row_52 : decode b_M_row 52 = .ok (.putfield 255, 3) := by decide +kernel
theorem d_M_row_55 : decode b_M_row 55 = .ok (.aload_n 0, 1) := by decide +kernel
theorem d_M_row_56 : decode b_M_row 56 = .ok (.getfield 255, 3) := by decide +kernel
theorem d_M_row_59 : decode b_M_row 59 = .ok (.ireturn, 1) := by decide +kernel
set_option maxHeartbeats 4000000 in
set_option maxRecDepth 100000 in
theorem c_M_row {l : Launch} {D : va_G} {cI cJ cC : ClassId} (a_h a_h_refused a_h_kind a_h_sweets a_h_gives a_h_tape a_h_letter a_h_letterAt a_h_one a_h_two a_h_kept a_h_trail a_h_crumb a_h_nextCrumb a_h_goal a_h_start a_h_sits a_h_bestSits a_h_without a_h_row : Nat) (y_h_many : Int32) (y_h_odd : Int32) (y_h_step : Int32) (y_h_bag : Int32) (y_h_strokes : Int32) (y_h_gave : Int32) (y_h_threw : Int32) (y_h_taped : Int32) (y_h_at : Int32) (y_h_statements : Int32) (y_h_hasImage : Int32) (y_h_isKeeping : Int32) (y_h_cursor : Int32) (y_h_beforeMany : Int32) (y_h_found : Int32) (y_h_lots : Int32) {z_h_rowMany : Int32} {z_h_refused : (Nat → Int32)} {z_h_row : (Nat → Int32)} {x1 : Int32} {q : Int32 × Int32 × (Nat → Int32) × (Nat → Int32)} (hf : f_M_row z_h_rowMany z_h_refused z_h_row x1 = some q) : xI l y_M_row b_M_row 3 .int 1 22 D (tyK cI cJ cC) xE0 [.ref a_h, .int x1] (w_M_row cI cJ cC a_h a_h_refused a_h_kind a_h_sweets a_h_gives a_h_tape a_h_letter a_h_letterAt a_h_one a_h_two a_h_kept a_h_trail a_h_crumb a_h_nextCrumb a_h_goal a_h_start a_h_sits a_h_bestSits a_h_without a_h_row y_h_many y_h_odd y_h_step y_h_bag y_h_strokes y_h_gave y_h_threw y_h_taped y_h_at y_h_statements y_h_hasImage y_h_isKeeping y_h_cursor y_h_beforeMany y_h_found y_h_lots z_h_rowMany z_h_refused z_h_row) q.1 (w_M_row cI cJ cC a_h a_h_refused a_h_kind a_h_sweets a_h_gives a_h_tape a_h_letter a_h_letterAt a_h_one a_h_two a_h_kept a_h_trail a_h_crumb a_h_nextCrumb a_h_goal a_h_start a_h_sits a_h_bestSits a_h_without a_h_row y_h_many y_h_odd y_h_step y_h_bag y_h_strokes y_h_gave y_h_threw y_h_taped y_h_at y_h_statements y_h_hasImage y_h_isKeeping y_h_cursor y_h_beforeMany y_h_found y_h_lots q.2.1 q.2.2.1 q.2.2.2) := by
  refine xI_of (by decide) (Nat.le_of_ble_eq_true rfl) ?_
  intro p e s m args below meth c A Q hx hb hml hown hT hA hP hD hK hS hE hret ls hl
  have hown : s.vm.findClass R_M = some m.cls := hown
  have hl : lv_has ls 3 [(0, .ref a_h), (1, .int x1)] := hl
  unfold f_M_row at hf
  refine lv_iload_n hx hb d_M_row_0 rfl (lv_at hl 1 rfl) ?_
  refine lv_iconst (v := 0) hx hb d_M_row_1 (by decide) ?_
  refine lv_sipush (v := 999) hx hb d_M_row_2 (by decide) ?_
  obtain ⟨q1, hq1, hf⟩ := io_b hf
  refine xcSI (wc := []) (wc' := []) (ws' := (w_M_row cI cJ cC a_h a_h_refused a_h_kind a_h_sweets a_h_gives a_h_tape a_h_letter a_h_letterAt a_h_one a_h_two a_h_kept a_h_trail a_h_crumb a_h_nextCrumb a_h_goal a_h_start a_h_sits a_h_bestSits a_h_without a_h_row y_h_many y_h_odd y_h_step y_h_bag y_h_strokes y_h_gave y_h_threw y_h_taped y_h_at y_h_statements y_h_hasImage y_h_isKeeping y_h_cursor y_h_beforeMany y_h_found y_h_lots z_h_rowMany z_h_refused z_h_row)) (As := [.int x1, .int 0, .int 999]) (rest := []) hx hb hml hown hT (c_M_bound hq1) k_871 k_872 k_8 k_873 hd_M_bound ⟨Nat.le_of_ble_eq_true rfl, Nat.le_of_ble_eq_true rfl⟩ xE0_ok trivial hA hK hP hD hS [] [0, 1, 2] [0, 1, 2] rfl rfl rfl rfl rfl rfl rfl hl.1 rfl (Nat.le_of_ble_eq_true rfl) ⟨Nat.zero_le _, Nat.zero_le _⟩ d_M_row_5 (fun H locs hP hD hS => ?_)
  refine lv_istore_n (lv' := [(2, .int q1), (0, .ref a_h), (1, .int x1)]) hx hb d_M_row_8 rfl hl (by decide) rfl (fun ls hl => ?_)
  refine lv_iload_n hx hb d_M_row_9 rfl (lv_at hl 0 rfl) ?_
  refine lv_if_ne (tgt := 25) hx hb d_M_row_10 (by decide) (fun c2 => ?_) (fun c2 => ?_)
  · have hf := io_f hf c2
    refine lv_iload_n hx hb d_M_row_25 rfl (lv_at hl 0 rfl) ?_
    refine lv_if_eq (tgt := 35) hx hb d_M_row_26 (by decide) (fun c => absurd c c2) (fun _ => ?_)
    refine lv_aload_n hx hb d_M_row_29 rfl (lv_at hl 1 rfl) ?_
    refine lv_iload_n hx hb d_M_row_30 rfl (lv_at hl 0 rfl) ?_
    obtain ⟨q3, hq3, hf⟩ := io_b hf
    refine xcVI (wc := (w_M_no cI cJ cC a_h a_h_refused a_h_kind a_h_sweets a_h_gives a_h_tape a_h_letter a_h_letterAt a_h_one a_h_two a_h_kept a_h_trail a_h_crumb a_h_nextCrumb a_h_goal a_h_start a_h_sits a_h_bestSits a_h_without a_h_row y_h_many y_h_odd y_h_step y_h_bag y_h_strokes y_h_gave y_h_threw y_h_taped y_h_at y_h_statements y_h_hasImage y_h_isKeeping y_h_cursor y_h_beforeMany y_h_found y_h_lots z_h_rowMany z_h_refused)) (wc' := (w_M_no cI cJ cC a_h a_h_refused a_h_kind a_h_sweets a_h_gives a_h_tape a_h_letter a_h_letterAt a_h_one a_h_two a_h_kept a_h_trail a_h_crumb a_h_nextCrumb a_h_goal a_h_start a_h_sits a_h_bestSits a_h_without a_h_row y_h_many y_h_odd y_h_step y_h_bag y_h_strokes y_h_gave y_h_threw y_h_taped y_h_at y_h_statements y_h_hasImage y_h_isKeeping y_h_cursor y_h_beforeMany y_h_found y_h_lots z_h_rowMany q3.2)) (ws' := (w_M_row cI cJ cC a_h a_h_refused a_h_kind a_h_sweets a_h_gives a_h_tape a_h_letter a_h_letterAt a_h_one a_h_two a_h_kept a_h_trail a_h_crumb a_h_nextCrumb a_h_goal a_h_start a_h_sits a_h_bestSits a_h_without a_h_row y_h_many y_h_odd y_h_step y_h_bag y_h_strokes y_h_gave y_h_threw y_h_taped y_h_at y_h_statements y_h_hasImage y_h_isKeeping y_h_cursor y_h_beforeMany y_h_found y_h_lots z_h_rowMany q3.2 z_h_row)) (As := [.int q1]) (rest := []) hx hb hml hown hT (c_M_no (z_h_refused := z_h_refused) a_h a_h_refused a_h_kind a_h_sweets a_h_gives a_h_tape a_h_letter a_h_letterAt a_h_one a_h_two a_h_kept a_h_trail a_h_crumb a_h_nextCrumb a_h_goal a_h_start a_h_sits a_h_bestSits a_h_without a_h_row y_h_many y_h_odd y_h_step y_h_bag y_h_strokes y_h_gave y_h_threw y_h_taped y_h_at y_h_statements y_h_hasImage y_h_isKeeping y_h_cursor y_h_beforeMany y_h_found y_h_lots z_h_rowMany hq3) k_874 k_876 ks_24 k_8 k_877 hd_M_no ⟨Nat.le_of_ble_eq_true rfl, Nat.le_of_ble_eq_true rfl⟩ xE0_ok trivial hA hK hP hD hS [0, 1] [2] [1, 2, 0] rfl rfl rfl rfl rfl rfl rfl rfl rfl rfl hl.1 rfl (Nat.le_of_ble_eq_true rfl) ⟨Nat.zero_le _, Nat.zero_le _⟩ d_M_row_31 (fun H locs hP hD hS => ?_)
    have hq := Option.some.inj hf
    subst hq
    exact hret _ _ _ _ _ d_M_row_34 rfl rfl hP hD hS
  · have hf := io_t hf c2
    refine lv_aload_n hx hb d_M_row_13 rfl (lv_at hl 1 rfl) ?_
    refine va_get hx hb hT i_M hown hK hP 0 rfl rfl 35 (Nat.le_of_ble_eq_true rfl) (hT _ k_793) (fun _ h => h) rfl d_M_row_14 ?_
    refine lv_bipush (v := 24) hx hb d_M_row_17 (by decide) ?_
    refine lv_icmp_ne (tgt := 25) hx hb d_M_row_19 (by decide) (fun c4 => ?_) (fun c4 => ?_)
    · have hf := io_f hf c4
      refine lv_iload_n hx hb d_M_row_25 rfl (lv_at hl 0 rfl) ?_
      refine lv_if_eq (tgt := 35) hx hb d_M_row_26 (by decide) (fun _ => ?_) (fun c => absurd c2 c)
      refine lv_aload_n hx hb d_M_row_35 rfl (lv_at hl 1 rfl) ?_
      refine va_get hx hb hT i_M hown hK hP 0 rfl rfl 34 (Nat.le_of_ble_eq_true rfl) (hT _ k_792) (fun _ h => h) rfl d_M_row_36 ?_
      refine lv_aload_n hx hb d_M_row_39 rfl (lv_at hl 1 rfl) ?_
      refine va_get hx hb hT i_M hown hK hP 0 rfl rfl 35 (Nat.le_of_ble_eq_true rfl) (hT _ k_793) (fun _ h => h) rfl d_M_row_40 ?_
      refine lv_iload_n hx hb d_M_row_43 rfl (lv_at hl 2 rfl) ?_
      obtain ⟨c5, hf⟩ := io_n hf
      refine x_iast hx hb hK hP hD hS 2 0 rfl rfl (j := z_h_rowMany.toNatClampNeg) rfl c5 d_M_row_44 (fun H locs hP hD hS => ?_)
      have hP : va_P D classes (w_M_row cI cJ cC a_h a_h_refused a_h_kind a_h_sweets a_h_gives a_h_tape a_h_letter a_h_letterAt a_h_one a_h_two a_h_kept a_h_trail a_h_crumb a_h_nextCrumb a_h_goal a_h_start a_h_sits a_h_bestSits a_h_without a_h_row y_h_many y_h_odd y_h_step y_h_bag y_h_strokes y_h_gave y_h_threw y_h_taped y_h_at y_h_statements y_h_hasImage y_h_isKeeping y_h_cursor y_h_beforeMany y_h_found y_h_lots z_h_rowMany z_h_refused (upd z_h_row z_h_rowMany.toNatClampNeg x1)) H := hP
      have hD : va_D A (w_M_row cI cJ cC a_h a_h_refused a_h_kind a_h_sweets a_h_gives a_h_tape a_h_letter a_h_letterAt a_h_one a_h_two a_h_kept a_h_trail a_h_crumb a_h_nextCrumb a_h_goal a_h_start a_h_sits a_h_bestSits a_h_without a_h_row y_h_many y_h_odd y_h_step y_h_bag y_h_strokes y_h_gave y_h_threw y_h_taped y_h_at y_h_statements y_h_hasImage y_h_isKeeping y_h_cursor y_h_beforeMany y_h_found y_h_lots z_h_rowMany z_h_refused (upd z_h_row z_h_rowMany.toNatClampNeg x1)) := hD
      refine lv_aload_n hx hb d_M_row_45 rfl (lv_at hl 1 rfl) ?_
      refine lv_dup hx hb d_M_row_46 rfl ?_
      refine va_get hx hb hT i_M hown hK hP 0 rfl rfl 35 (Nat.le_of_ble_eq_true rfl) (hT _ k_793) (fun _ h => h) rfl d_M_row_47 ?_
      refine lv_iconst (v := 1) hx hb d_M_row_50 (by decide) ?_
      refine lv_iadd hx hb d_M_row_51 ?_
      refine va_put (ty := .int) hx hb hT i_M t_M t_M_ok n_M hown hK hP hD hS 0 rfl rfl 35 (Nat.le_of_ble_eq_true rfl) (hT _ k_793) (fun _ h => h) rfl rfl rfl rfl (Nat.le_of_ble_eq_true rfl) d_M_row_52 (fun H locs hP hD hS => ?_)
      have hP : va_P D classes (w_M_row cI cJ cC a_h a_h_refused a_h_kind a_h_sweets a_h_gives a_h_tape a_h_letter a_h_letterAt a_h_one a_h_two a_h_kept a_h_trail a_h_crumb a_h_nextCrumb a_h_goal a_h_start a_h_sits a_h_bestSits a_h_without a_h_row y_h_many y_h_odd y_h_step y_h_bag y_h_strokes y_h_gave y_h_threw y_h_taped y_h_at y_h_statements y_h_hasImage y_h_isKeeping y_h_cursor y_h_beforeMany y_h_found y_h_lots (z_h_rowMany + 1) z_h_refused (upd z_h_row z_h_rowMany.toNatClampNeg x1)) H := hP
      have hD : va_D A (w_M_row cI cJ cC a_h a_h_refused a_h_kind a_h_sweets a_h_gives a_h_tape a_h_letter a_h_letterAt a_h_one a_h_two a_h_kept a_h_trail a_h_crumb a_h_nextCrumb a_h_goal a_h_start a_h_sits a_h_bestSits a_h_without a_h_row y_h_many y_h_odd y_h_step y_h_bag y_h_strokes y_h_gave y_h_threw y_h_taped y_h_at y_h_statements y_h_hasImage y_h_isKeeping y_h_cursor y_h_beforeMany y_h_found y_h_lots (z_h_rowMany + 1) z_h_refused (upd z_h_row z_h_rowMany.toNatClampNeg x1)) := hD
      refine lv_aload_n hx hb d_M_row_55 rfl (lv_at hl 1 rfl) ?_
      refine va_get hx hb hT i_M hown hK hP 0 rfl rfl 35 (Nat.le_of_ble_eq_true rfl) (hT _ k_793) (fun _ h => h) rfl d_M_row_56 ?_
      have hq := Option.some.inj hf
      subst hq
      exact hret _ _ _ _ _ d_M_row_59 rfl rfl hP hD hS
    · have hf := io_t hf c4
      refine lv_bipush (v := (-6)) hx hb d_M_row_22 (by decide) ?_
      refine lv_istore_n (lv' := [(2, .int (-6)), (0, .ref a_h), (1, .int x1)]) hx hb d_M_row_24 rfl hl (by decide) rfl (fun ls hl => ?_)
      refine lv_iload_n hx hb d_M_row_25 rfl (lv_at hl 0 rfl) ?_
      refine lv_if_eq (tgt := 35) hx hb d_M_row_26 (by decide) (fun c => absurd c (show ¬ ((-6) : Int32) = 0 from by decide +kernel)) (fun _ => ?_)
      refine lv_aload_n hx hb d_M_row_29 rfl (lv_at hl 1 rfl) ?_
      refine lv_iload_n hx hb d_M_row_30 rfl (lv_at hl 0 rfl) ?_
      obtain ⟨q6, hq6, hf⟩ := io_b hf
      refine xcVI (wc := (w_M_no cI cJ cC a_h a_h_refused a_h_kind a_h_sweets a_h_gives a_h_tape a_h_letter a_h_letterAt a_h_one a_h_two a_h_kept a_h_trail a_h_crumb a_h_nextCrumb a_h_goal a_h_start a_h_sits a_h_bestSits a_h_without a_h_row y_h_many y_h_odd y_h_step y_h_bag y_h_strokes y_h_gave y_h_threw y_h_taped y_h_at y_h_statements y_h_hasImage y_h_isKeeping y_h_cursor y_h_beforeMany y_h_found y_h_lots z_h_rowMany z_h_refused)) (wc' := (w_M_no cI cJ cC a_h a_h_refused a_h_kind a_h_sweets a_h_gives a_h_tape a_h_letter a_h_letterAt a_h_one a_h_two a_h_kept a_h_trail a_h_crumb a_h_nextCrumb a_h_goal a_h_start a_h_sits a_h_bestSits a_h_without a_h_row y_h_many y_h_odd y_h_step y_h_bag y_h_strokes y_h_gave y_h_threw y_h_taped y_h_at y_h_statements y_h_hasImage y_h_isKeeping y_h_cursor y_h_beforeMany y_h_found y_h_lots z_h_rowMany q6.2)) (ws' := (w_M_row cI cJ cC a_h a_h_refused a_h_kind a_h_sweets a_h_gives a_h_tape a_h_letter a_h_letterAt a_h_one a_h_two a_h_kept a_h_trail a_h_crumb a_h_nextCrumb a_h_goal a_h_start a_h_sits a_h_bestSits a_h_without a_h_row y_h_many y_h_odd y_h_step y_h_bag y_h_strokes y_h_gave y_h_threw y_h_taped y_h_at y_h_statements y_h_hasImage y_h_isKeeping y_h_cursor y_h_beforeMany y_h_found y_h_lots z_h_rowMany q6.2 z_h_row)) (As := [.int (-6)]) (rest := []) hx hb hml hown hT (c_M_no (z_h_refused := z_h_refused) a_h a_h_refused a_h_kind a_h_sweets a_h_gives a_h_tape a_h_letter a_h_letterAt a_h_one a_h_two a_h_kept a_h_trail a_h_crumb a_h_nextCrumb a_h_goal a_h_start a_h_sits a_h_bestSits a_h_without a_h_row y_h_many y_h_odd y_h_step y_h_bag y_h_strokes y_h_gave y_h_threw y_h_taped y_h_at y_h_statements y_h_hasImage y_h_isKeeping y_h_cursor y_h_beforeMany y_h_found y_h_lots z_h_rowMany hq6) k_874 k_876 ks_24 k_8 k_877 hd_M_no ⟨Nat.le_of_ble_eq_true rfl, Nat.le_of_ble_eq_true rfl⟩ xE0_ok trivial hA hK hP hD hS [0, 1] [2] [1, 2, 0] rfl rfl rfl rfl rfl rfl rfl rfl rfl rfl hl.1 rfl (Nat.le_of_ble_eq_true rfl) ⟨Nat.zero_le _, Nat.zero_le _⟩ d_M_row_31 (fun H locs hP hD hS => ?_)
      have hq := Option.some.inj hf
      subst hq
      exact hret _ _ _ _ _ d_M_row_34 rfl rfl hP hD hS
abbrev w_M_judge (cI cJ cC : ClassId) (a_h a_h_refused a_h_kind a_h_sweets a_h_gives a_h_tape a_h_letter a_h_letterAt a_h_one a_h_two a_h_kept a_h_trail a_h_crumb a_h_nextCrumb a_h_goal a_h_start a_h_sits a_h_bestSits a_h_without a_h_row : Nat) (y_h_taped : Int32) (y_h_at : Int32) (y_h_statements : Int32) (y_h_hasImage : Int32) (y_h_beforeMany : Int32) (y_h_found : Int32) (y_h_lots : Int32) (p_h_many : Int32) (p_h_odd : Int32) (p_h_step : Int32) (p_h_bag : Int32) (p_h_strokes : Int32) (p_h_gave : Int32) (p_h_threw : Int32) (p_h_isKeeping : Int32) (p_h_cursor : Int32) (p_h_rowMany : Int32) (p_h_refused : (Nat → Int32)) (p_h_kind : (Nat → Int32)) (p_h_sweets : (Nat → Int32)) (p_h_gives : (Nat → Int32)) (p_h_kept : (Nat → Int32)) (p_h_trail : (Nat → Int32)) (p_h_row : (Nat → Int32)) : va_W := [(a_h, .inr (7, [.ref a_h_refused, .ref a_h_kind, .ref a_h_sweets, .ref a_h_gives, .int p_h_many, .int p_h_odd, .int p_h_step, .int p_h_bag, .int p_h_strokes, .int p_h_gave, .int p_h_threw, .ref a_h_tape, .ref a_h_letter, .ref a_h_letterAt, .ref a_h_one, .ref a_h_two, .int y_h_taped, .int y_h_at, .int y_h_statements, .ref a_h_kept, .int y_h_hasImage, .int p_h_isKeeping, .int p_h_cursor, .ref a_h_trail, .ref a_h_crumb, .ref a_h_nextCrumb, .ref a_h_goal, .ref a_h_start, .int y_h_beforeMany, .int y_h_found, .ref a_h_sits, .ref a_h_bestSits, .ref a_h_without, .int y_h_lots, .ref a_h_row, .int p_h_rowMany])), (a_h_refused, .inl (cI, (7, .inl p_h_refused))), (a_h_kind, .inl (cI, (8, .inl p_h_kind))), (a_h_sweets, .inl (cI, (8, .inl p_h_sweets))), (a_h_gives, .inl (cI, (8, .inl p_h_gives))), (a_h_kept, .inl (cI, (90, .inl p_h_kept))), (a_h_trail, .inl (cI, (1827, .inl p_h_trail))), (a_h_row, .inl (cI, (24, .inl p_h_row)))]
theorem d_M_judge_0 : decode b_M_judge 0 = .ok (.aload_n 0, 1) := by decide +kernel
theorem d_M_judge_1 : decode b_M_judge 1 = .ok (.getfield 78, 3) := by decide +kernel
theorem d_M_judge_4 : decode b_M_judge 4 = .ok (.ifCond .ne 10, 3) := by decide +kernel
theorem d_M_judge_7 : decode b_M_judge 7 = .ok (.aload_n 0, 1) := by decide +kernel
theorem d_M_judge_8 : decode b_M_judge 8 = .ok (.bipush (-3), 2) := by decide +kernel
theorem d_M_judge_10 : decode b_M_judge 10 = .ok (.invokevirtual 88, 3) := by decide +kernel
theorem d_M_judge_13 : decode b_M_judge 13 = .ok (.ireturn, 1) := by decide +kernel
theorem d_M_judge_14 : decode b_M_judge 14 = .ok (.aload_n 0, 1) := by decide +kernel
theorem d_M_judge_15 : decode b_M_judge 15 = .ok (.getfield 255, 3) := by decide +kernel
theorem d_M_judge_18 : decode b_M_judge 18 = .ok (.istore_n 1, 1) := by decide +kernel
theorem d_M_judge_19 : decode b_M_judge 19 = .ok (.aload_n 0, 1) := by decide +kernel
theorem d_M_judge_20 : decode b_M_judge 20 = .ok (.iconst 0, 1) := by decide +kernel
theorem d_M_judge_21 : decode b_M_judge 21 = .ok (.putfield 255, 3) := by decide +kernel
theorem d_M_judge_24 : decode b_M_judge 24 = .ok (.aload_n 0, 1) := by decide +kernel
theorem d_M_judge_25 : decode b_M_judge 25 = .ok (.bipush 24, 2) := by decide +kernel
theorem d_M_judge_27 : decode b_M_judge 27 = .ok (.invokevirtual 182, 3) := by decide +kernel
theorem d_M_judge_30 : decode b_M_judge 30 = .ok (.iconst 0, 1) := by decide +kernel
theorem d_M_judge_31 : decode b_M_judge 31 = .ok (.istore_n 2, 1) := by decide +kernel
theorem d_M_judge_32 : decode b_M_judge 32 = .ok (.iload_n 2, 1) := by decide +kernel
theorem d_M_judge_33 : decode b_M_judge 33 = .ok (.iload_n 1, 1) := by decide +kernel
theorem d_M_judge_34 : decode b_M_judge 34 = .ok (.if_icmp .ge 43, 3) := by decide +kernel
theorem d_M_judge_37 : decode b_M_judge 37 = .ok (.aload_n 0, 1) := by decide +kernel
theorem d_M_judge_38 : decode b_M_judge 38 = .ok (.getfield 72, 3) := by decide +kernel
theorem d_M_judge_41 : decode b_M_judge 41 = .ok (.iload_n 2, 1) := by decide +kernel
theorem d_M_judge_42 : decode b_M_judge 42 = .ok (.iaload, 1) := by decide +kernel
theorem d_M_judge_43 : decode b_M_judge 43 = .ok (.aload_n 0, 1) := by decide +kernel
theorem d_M_judge_44 : decode b_M_judge 44 = .ok (.getfield 47, 3) := by decide +kernel
theorem d_M_judge_47 : decode b_M_judge 47 = .ok (.bipush 9, 2) := by decide +kernel
theorem d_M_judge_49 : decode b_M_judge 49 = .ok (.iconst 1, 1) := by decide +kernel
theorem d_M_judge_50 : decode b_M_judge 50 = .ok (.iload_n 2, 1) := by decide +kernel
theorem d_M_judge_51 : decode b_M_judge 51 = .ok (.aload_n 0, 1) := by decide +kernel
theorem d_M_judge_52 : decode b_M_judge 52 = .ok (.getfield 78, 3) := by decide +kernel
theorem d_M_judge_55 : decode b_M_judge 55 = .ok (.idiv, 1) := by decide +kernel
theorem d_M_judge_56 : decode b_M_judge 56 = .ok (.iadd, 1) := by decide +kernel
theorem d_M_judge_57 : decode b_M_judge 57 = .ok (.imul, 1) := by decide +kernel
theorem d_M_judge_58 : decode b_M_judge 58 = .ok (.iload_n 2, 1) := by decide +kernel
theorem d_M_judge_59 : decode b_M_judge 59 = .ok (.aload_n 0, 1) := by decide +kernel
theorem d_M_judge_60 : decode b_M_judge 60 = .ok (.getfield 78, 3) := by decide +kernel
theorem d_M_judge_63 : decode b_M_judge 63 = .ok (.irem, 1) := by decide +kernel
theorem d_M_judge_64 : decode b_M_judge 64 = .ok (.iadd, 1) := by decide +kernel
theorem d_M_judge_65 : decode b_M_judge 65 = .ok (.iaload, 1) := by decide +kernel
theorem d_M_judge_66 : decode b_M_judge 66 = .ok (.if_icmp .eq 5, 3) := by decide +kernel
theorem d_M_judge_69 : decode b_M_judge 69 = .ok (.iload_n 2, 1) := by decide +kernel
theorem d_M_judge_70 : decode b_M_judge 70 = .ok (.ireturn, 1) := by decide +kernel
theorem d_M_judge_71 : decode b_M_judge 71 = .ok (.iinc 2 1, 3) := by decide +kernel
theorem d_M_judge_74 : decode b_M_judge 74 = .ok (.goto (-42), 3) := by decide +kernel
theorem d_M_judge_77 : decode b_M_judge 77 = .ok (.bipush (-9), 2) := by decide +kernel
theorem d_M_judge_79 : decode b_M_judge 79 = .ok (.ireturn, 1) := by decide +kernel
set_option maxHeartbeats 4000000 in
set_option maxRecDepth 100000 in
theorem c_M_judge {l : Launch} {D : va_G} {cI cJ cC : ClassId} (a_h a_h_refused a_h_kind a_h_sweets a_h_gives a_h_tape a_h_letter a_h_letterAt a_h_one a_h_two a_h_kept a_h_trail a_h_crumb a_h_nextCrumb a_h_goal a_h_start a_h_sits a_h_bestSits a_h_without a_h_row : Nat) (y_h_taped : Int32) (y_h_at : Int32) (y_h_statements : Int32) (y_h_hasImage : Int32) (y_h_beforeMany : Int32) (y_h_found : Int32) (y_h_lots : Int32) {z_h_T : MT} {z_h_rowMany : Int32} {z_h_refused : (Nat → Int32)} {z_h_trail : (Nat → Int32)} {z_h_row : (Nat → Int32)} {q : Int32 × MT × Int32 × (Nat → Int32) × (Nat → Int32)} (hf : f_M_judge z_h_T z_h_rowMany z_h_refused z_h_trail z_h_row = some q) : xI l y_M_judge b_M_judge 3 .int 4 89 D (tyK cI cJ cC) xE0 [.ref a_h] (w_M_judge cI cJ cC a_h a_h_refused a_h_kind a_h_sweets a_h_gives a_h_tape a_h_letter a_h_letterAt a_h_one a_h_two a_h_kept a_h_trail a_h_crumb a_h_nextCrumb a_h_goal a_h_start a_h_sits a_h_bestSits a_h_without a_h_row y_h_taped y_h_at y_h_statements y_h_hasImage y_h_beforeMany y_h_found y_h_lots (m_many z_h_T) (m_odd z_h_T) (m_step z_h_T) (m_bag z_h_T) (m_strokes z_h_T) (m_gave z_h_T) (m_threw z_h_T) (m_isKeeping z_h_T) (m_cursor z_h_T) z_h_rowMany z_h_refused (m_kind z_h_T) (m_sweets z_h_T) (m_gives z_h_T) (m_kept z_h_T) z_h_trail z_h_row) q.1 (w_M_judge cI cJ cC a_h a_h_refused a_h_kind a_h_sweets a_h_gives a_h_tape a_h_letter a_h_letterAt a_h_one a_h_two a_h_kept a_h_trail a_h_crumb a_h_nextCrumb a_h_goal a_h_start a_h_sits a_h_bestSits a_h_without a_h_row y_h_taped y_h_at y_h_statements y_h_hasImage y_h_beforeMany y_h_found y_h_lots (m_many q.2.1) (m_odd q.2.1) (m_step q.2.1) (m_bag q.2.1) (m_strokes q.2.1) (m_gave q.2.1) (m_threw q.2.1) (m_isKeeping q.2.1) (m_cursor q.2.1) q.2.2.1 q.2.2.2.1 (m_kind q.2.1) (m_sweets q.2.1) (m_gives q.2.1) (m_kept q.2.1) q.2.2.2.2 z_h_row) := by
  refine xI_of (by decide) (Nat.le_of_ble_eq_true rfl) ?_
  intro p e s m args below meth c A Q hx hb hml hown hT hA hP hD hK hS hE hret ls hl
  have hown : s.vm.findClass R_M = some m.cls := hown
  have hl : lv_has ls 3 [(0, .ref a_h)] := hl
  unfold f_M_judge at hf
  have L32 : ∀ (z_h_T : MT) (z_h_rowMany : Int32) (z_h_refused : (Nat → Int32)) (z_h_trail : (Nat → Int32)) (x1 : Int32), ∀ (n : Nat) (x2 : Int32) (H : Heap) (locs : List Loc) (ls : Array Slot), f_M_judge_L32 z_h_T z_h_rowMany z_h_refused z_h_trail z_h_row x1 n x2 = some q → va_P D classes (w_M_judge cI cJ cC a_h a_h_refused a_h_kind a_h_sweets a_h_gives a_h_tape a_h_letter a_h_letterAt a_h_one a_h_two a_h_kept a_h_trail a_h_crumb a_h_nextCrumb a_h_goal a_h_start a_h_sits a_h_bestSits a_h_without a_h_row y_h_taped y_h_at y_h_statements y_h_hasImage y_h_beforeMany y_h_found y_h_lots (m_many z_h_T) (m_odd z_h_T) (m_step z_h_T) (m_bag z_h_T) (m_strokes z_h_T) (m_gave z_h_T) (m_threw z_h_T) (m_isKeeping z_h_T) (m_cursor z_h_T) z_h_rowMany z_h_refused (m_kind z_h_T) (m_sweets z_h_T) (m_gives z_h_T) (m_kept z_h_T) z_h_trail z_h_row) H → va_D A (w_M_judge cI cJ cC a_h a_h_refused a_h_kind a_h_sweets a_h_gives a_h_tape a_h_letter a_h_letterAt a_h_one a_h_two a_h_kept a_h_trail a_h_crumb a_h_nextCrumb a_h_goal a_h_start a_h_sits a_h_bestSits a_h_without a_h_row y_h_taped y_h_at y_h_statements y_h_hasImage y_h_beforeMany y_h_found y_h_lots (m_many z_h_T) (m_odd z_h_T) (m_step z_h_T) (m_bag z_h_T) (m_strokes z_h_T) (m_gave z_h_T) (m_threw z_h_T) (m_isKeeping z_h_T) (m_cursor z_h_T) z_h_rowMany z_h_refused (m_kind z_h_T) (m_sweets z_h_T) (m_gives z_h_T) (m_kept z_h_T) z_h_trail z_h_row) → va_S A s.heap H locs → lv_has ls 3 [(0, .ref a_h), (1, .int x1), (2, .int x2)] → W p l e (xRm 4 89) s m args below meth c H locs 0 0 Q (F0 m 32 ls []) := by
    intro z_h_T z_h_rowMany z_h_refused z_h_trail x1 n
    induction n with
    | zero => intro x2 H locs ls hf hP hD hS hl; exact nomatch (show (none : Option (Int32 × MT × Int32 × (Nat → Int32) × (Nat → Int32))) = some q from hf)
    | succ n ih =>
      intro x2 H locs ls hf hP hD hS hl
      refine lv_iload_n hx hb d_M_judge_32 rfl (lv_at hl 2 rfl) ?_
      refine lv_iload_n hx hb d_M_judge_33 rfl (lv_at hl 1 rfl) ?_
      refine lv_icmp_ge (tgt := 77) hx hb d_M_judge_34 (by decide) (fun c3 => ?_) (fun c3 => ?_)
      · have hf := io_t hf c3
        refine lv_bipush (v := (-9)) hx hb d_M_judge_77 (by decide) ?_
        have hq := Option.some.inj hf
        subst hq
        exact hret _ _ _ _ _ d_M_judge_79 rfl rfl hP hD hS
      · have hf := io_f hf c3
        refine lv_aload_n hx hb d_M_judge_37 rfl (lv_at hl 0 rfl) ?_
        refine va_get hx hb hT i_M hown hK hP 0 rfl rfl 34 (Nat.le_of_ble_eq_true rfl) (hT _ k_792) (fun _ h => h) rfl d_M_judge_38 ?_
        refine lv_iload_n hx hb d_M_judge_41 rfl (lv_at hl 2 rfl) ?_
        obtain ⟨c4, hf⟩ := io_n hf
        refine x_iald hx hb hK hP 7 0 rfl rfl (j := x2.toNatClampNeg) rfl c4 d_M_judge_42 ?_
        refine lv_aload_n hx hb d_M_judge_43 rfl (lv_at hl 0 rfl) ?_
        refine va_get hx hb hT i_M hown hK hP 0 rfl rfl 23 (Nat.le_of_ble_eq_true rfl) (hT _ k_781) (fun _ h => h) rfl d_M_judge_44 ?_
        refine lv_bipush (v := 9) hx hb d_M_judge_47 (by decide) ?_
        refine lv_iconst (v := 1) hx hb d_M_judge_49 (by decide) ?_
        refine lv_iload_n hx hb d_M_judge_50 rfl (lv_at hl 2 rfl) ?_
        refine lv_aload_n hx hb d_M_judge_51 rfl (lv_at hl 0 rfl) ?_
        refine va_get hx hb hT i_M hown hK hP 0 rfl rfl 4 (Nat.le_of_ble_eq_true rfl) (hT _ k_762) (fun _ h => h) rfl d_M_judge_52 ?_
        obtain ⟨c5, hf⟩ := io_n hf
        refine x_idiv hx hb d_M_judge_55 c5 ?_
        refine lv_iadd hx hb d_M_judge_56 ?_
        refine lv_imul hx hb d_M_judge_57 ?_
        refine lv_iload_n hx hb d_M_judge_58 rfl (lv_at hl 2 rfl) ?_
        refine lv_aload_n hx hb d_M_judge_59 rfl (lv_at hl 0 rfl) ?_
        refine va_get hx hb hT i_M hown hK hP 0 rfl rfl 4 (Nat.le_of_ble_eq_true rfl) (hT _ k_762) (fun _ h => h) rfl d_M_judge_60 ?_
        refine x_irem hx hb d_M_judge_63 c5 ?_
        refine lv_iadd hx hb d_M_judge_64 ?_
        obtain ⟨c6, hf⟩ := io_n hf
        refine x_iald hx hb hK hP 6 0 rfl rfl (j := ((9 * (1 + (x2 / (m_many z_h_T)))) + (x2 % (m_many z_h_T))).toNatClampNeg) rfl c6 d_M_judge_65 ?_
        refine lv_icmp_eq (tgt := 71) hx hb d_M_judge_66 (by decide) (fun c7 => ?_) (fun c7 => ?_)
        · have hf := io_t hf c7
          refine lv_iinc (v := (x2 + 1)) (lv' := [(2, .int (x2 + 1)), (0, .ref a_h), (1, .int x1)]) hx hb d_M_judge_71 hl (k := 2) rfl (by rfl) (by decide) rfl (fun ls hl => ?_)
          refine lv_goto (tgt := 32) hx hb d_M_judge_74 (by decide) ?_
          exact ih (x2 + 1) _ _ _ hf hP hD hS (lv_sub hl [1, 2, 0] rfl)
        · have hf := io_f hf c7
          refine lv_iload_n hx hb d_M_judge_69 rfl (lv_at hl 2 rfl) ?_
          have hq := Option.some.inj hf
          subst hq
          exact hret _ _ _ _ _ d_M_judge_70 rfl rfl hP hD hS
  refine lv_aload_n hx hb d_M_judge_0 rfl (lv_at hl 0 rfl) ?_
  refine va_get hx hb hT i_M hown hK hP 0 rfl rfl 4 (Nat.le_of_ble_eq_true rfl) (hT _ k_762) (fun _ h => h) rfl d_M_judge_1 ?_
  refine lv_if_ne (tgt := 14) hx hb d_M_judge_4 (by decide) (fun c1 => ?_) (fun c1 => ?_)
  · have hf := io_f hf c1
    refine lv_aload_n hx hb d_M_judge_14 rfl (lv_at hl 0 rfl) ?_
    refine va_get hx hb hT i_M hown hK hP 0 rfl rfl 35 (Nat.le_of_ble_eq_true rfl) (hT _ k_793) (fun _ h => h) rfl d_M_judge_15 ?_
    refine lv_istore_n (lv' := [(1, .int z_h_rowMany), (0, .ref a_h)]) hx hb d_M_judge_18 rfl hl (by decide) rfl (fun ls hl => ?_)
    refine lv_aload_n hx hb d_M_judge_19 rfl (lv_at hl 1 rfl) ?_
    refine lv_iconst (v := 0) hx hb d_M_judge_20 (by decide) ?_
    refine va_put (ty := .int) hx hb hT i_M t_M t_M_ok n_M hown hK hP hD hS 0 rfl rfl 35 (Nat.le_of_ble_eq_true rfl) (hT _ k_793) (fun _ h => h) rfl rfl rfl rfl (Nat.le_of_ble_eq_true rfl) d_M_judge_21 (fun H locs hP hD hS => ?_)
    have hP : va_P D classes (w_M_judge cI cJ cC a_h a_h_refused a_h_kind a_h_sweets a_h_gives a_h_tape a_h_letter a_h_letterAt a_h_one a_h_two a_h_kept a_h_trail a_h_crumb a_h_nextCrumb a_h_goal a_h_start a_h_sits a_h_bestSits a_h_without a_h_row y_h_taped y_h_at y_h_statements y_h_hasImage y_h_beforeMany y_h_found y_h_lots (m_many z_h_T) (m_odd z_h_T) (m_step z_h_T) (m_bag z_h_T) (m_strokes z_h_T) (m_gave z_h_T) (m_threw z_h_T) (m_isKeeping z_h_T) (m_cursor z_h_T) 0 z_h_refused (m_kind z_h_T) (m_sweets z_h_T) (m_gives z_h_T) (m_kept z_h_T) z_h_trail z_h_row) H := hP
    have hD : va_D A (w_M_judge cI cJ cC a_h a_h_refused a_h_kind a_h_sweets a_h_gives a_h_tape a_h_letter a_h_letterAt a_h_one a_h_two a_h_kept a_h_trail a_h_crumb a_h_nextCrumb a_h_goal a_h_start a_h_sits a_h_bestSits a_h_without a_h_row y_h_taped y_h_at y_h_statements y_h_hasImage y_h_beforeMany y_h_found y_h_lots (m_many z_h_T) (m_odd z_h_T) (m_step z_h_T) (m_bag z_h_T) (m_strokes z_h_T) (m_gave z_h_T) (m_threw z_h_T) (m_isKeeping z_h_T) (m_cursor z_h_T) 0 z_h_refused (m_kind z_h_T) (m_sweets z_h_T) (m_gives z_h_T) (m_kept z_h_T) z_h_trail z_h_row) := hD
    refine lv_aload_n hx hb d_M_judge_24 rfl (lv_at hl 1 rfl) ?_
    refine lv_bipush (v := 24) hx hb d_M_judge_25 (by decide) ?_
    obtain ⟨q2, hq2, hf⟩ := io_b hf
    refine xcVV (wc := (w_M_writesTrail cI cJ cC a_h a_h_refused a_h_kind a_h_sweets a_h_gives a_h_tape a_h_letter a_h_letterAt a_h_one a_h_two a_h_kept a_h_trail a_h_crumb a_h_nextCrumb a_h_goal a_h_start a_h_sits a_h_bestSits a_h_without a_h_row y_h_taped y_h_at y_h_statements y_h_hasImage y_h_beforeMany y_h_found y_h_lots 0 (m_many z_h_T) (m_odd z_h_T) (m_step z_h_T) (m_bag z_h_T) (m_strokes z_h_T) (m_gave z_h_T) (m_threw z_h_T) (m_isKeeping z_h_T) (m_cursor z_h_T) (m_kind z_h_T) (m_sweets z_h_T) (m_gives z_h_T) (m_kept z_h_T) z_h_trail)) (wc' := (w_M_writesTrail cI cJ cC a_h a_h_refused a_h_kind a_h_sweets a_h_gives a_h_tape a_h_letter a_h_letterAt a_h_one a_h_two a_h_kept a_h_trail a_h_crumb a_h_nextCrumb a_h_goal a_h_start a_h_sits a_h_bestSits a_h_without a_h_row y_h_taped y_h_at y_h_statements y_h_hasImage y_h_beforeMany y_h_found y_h_lots 0 (m_many q2.1) (m_odd q2.1) (m_step q2.1) (m_bag q2.1) (m_strokes q2.1) (m_gave q2.1) (m_threw q2.1) (m_isKeeping q2.1) (m_cursor q2.1) (m_kind q2.1) (m_sweets q2.1) (m_gives q2.1) (m_kept q2.1) q2.2)) (ws' := (w_M_judge cI cJ cC a_h a_h_refused a_h_kind a_h_sweets a_h_gives a_h_tape a_h_letter a_h_letterAt a_h_one a_h_two a_h_kept a_h_trail a_h_crumb a_h_nextCrumb a_h_goal a_h_start a_h_sits a_h_bestSits a_h_without a_h_row y_h_taped y_h_at y_h_statements y_h_hasImage y_h_beforeMany y_h_found y_h_lots (m_many q2.1) (m_odd q2.1) (m_step q2.1) (m_bag q2.1) (m_strokes q2.1) (m_gave q2.1) (m_threw q2.1) (m_isKeeping q2.1) (m_cursor q2.1) 0 z_h_refused (m_kind q2.1) (m_sweets q2.1) (m_gives q2.1) (m_kept q2.1) q2.2 z_h_row)) (As := [.int 24]) (rest := []) hx hb hml hown hT (c_M_writesTrail (z_h_T := z_h_T) (z_h_trail := z_h_trail) a_h a_h_refused a_h_kind a_h_sweets a_h_gives a_h_tape a_h_letter a_h_letterAt a_h_one a_h_two a_h_kept a_h_trail a_h_crumb a_h_nextCrumb a_h_goal a_h_start a_h_sits a_h_bestSits a_h_without a_h_row y_h_taped y_h_at y_h_statements y_h_hasImage y_h_beforeMany y_h_found y_h_lots 0 hq2) k_995 k_997 ks_40 k_8 k_998 hd_M_writesTrail ⟨Nat.le_of_ble_eq_true rfl, Nat.le_of_ble_eq_true rfl⟩ xE0_ok trivial hA hK hP hD hS [0, 2, 3, 4, 5, 6] [1, 7] [2, 0, 3, 4, 5, 6, 7, 1] rfl rfl rfl rfl rfl rfl rfl rfl rfl rfl hl.1 rfl (Nat.le_of_ble_eq_true rfl) ⟨Nat.zero_le _, Nat.zero_le _⟩ d_M_judge_27 (fun H locs hP hD hS => ?_)
    refine lv_iconst (v := 0) hx hb d_M_judge_30 (by decide) ?_
    refine lv_istore_n (lv' := [(2, .int 0), (1, .int z_h_rowMany), (0, .ref a_h)]) hx hb d_M_judge_31 rfl hl (by decide) rfl (fun ls hl => ?_)
    exact L32 q2.1 0 z_h_refused q2.2 z_h_rowMany FU 0 _ _ _ hf hP hD hS (lv_sub hl [2, 1, 0] rfl)
  · have hf := io_t hf c1
    refine lv_aload_n hx hb d_M_judge_7 rfl (lv_at hl 0 rfl) ?_
    refine lv_bipush (v := (-3)) hx hb d_M_judge_8 (by decide) ?_
    obtain ⟨q8, hq8, hf⟩ := io_b hf
    refine xcVI (wc := (w_M_no cI cJ cC a_h a_h_refused a_h_kind a_h_sweets a_h_gives a_h_tape a_h_letter a_h_letterAt a_h_one a_h_two a_h_kept a_h_trail a_h_crumb a_h_nextCrumb a_h_goal a_h_start a_h_sits a_h_bestSits a_h_without a_h_row (m_many z_h_T) (m_odd z_h_T) (m_step z_h_T) (m_bag z_h_T) (m_strokes z_h_T) (m_gave z_h_T) (m_threw z_h_T) y_h_taped y_h_at y_h_statements y_h_hasImage (m_isKeeping z_h_T) (m_cursor z_h_T) y_h_beforeMany y_h_found y_h_lots z_h_rowMany z_h_refused)) (wc' := (w_M_no cI cJ cC a_h a_h_refused a_h_kind a_h_sweets a_h_gives a_h_tape a_h_letter a_h_letterAt a_h_one a_h_two a_h_kept a_h_trail a_h_crumb a_h_nextCrumb a_h_goal a_h_start a_h_sits a_h_bestSits a_h_without a_h_row (m_many z_h_T) (m_odd z_h_T) (m_step z_h_T) (m_bag z_h_T) (m_strokes z_h_T) (m_gave z_h_T) (m_threw z_h_T) y_h_taped y_h_at y_h_statements y_h_hasImage (m_isKeeping z_h_T) (m_cursor z_h_T) y_h_beforeMany y_h_found y_h_lots z_h_rowMany q8.2)) (ws' := (w_M_judge cI cJ cC a_h a_h_refused a_h_kind a_h_sweets a_h_gives a_h_tape a_h_letter a_h_letterAt a_h_one a_h_two a_h_kept a_h_trail a_h_crumb a_h_nextCrumb a_h_goal a_h_start a_h_sits a_h_bestSits a_h_without a_h_row y_h_taped y_h_at y_h_statements y_h_hasImage y_h_beforeMany y_h_found y_h_lots (m_many z_h_T) (m_odd z_h_T) (m_step z_h_T) (m_bag z_h_T) (m_strokes z_h_T) (m_gave z_h_T) (m_threw z_h_T) (m_isKeeping z_h_T) (m_cursor z_h_T) z_h_rowMany q8.2 (m_kind z_h_T) (m_sweets z_h_T) (m_gives z_h_T) (m_kept z_h_T) z_h_trail z_h_row)) (As := [.int (-3)]) (rest := []) hx hb hml hown hT (c_M_no (z_h_refused := z_h_refused) a_h a_h_refused a_h_kind a_h_sweets a_h_gives a_h_tape a_h_letter a_h_letterAt a_h_one a_h_two a_h_kept a_h_trail a_h_crumb a_h_nextCrumb a_h_goal a_h_start a_h_sits a_h_bestSits a_h_without a_h_row (m_many z_h_T) (m_odd z_h_T) (m_step z_h_T) (m_bag z_h_T) (m_strokes z_h_T) (m_gave z_h_T) (m_threw z_h_T) y_h_taped y_h_at y_h_statements y_h_hasImage (m_isKeeping z_h_T) (m_cursor z_h_T) y_h_beforeMany y_h_found y_h_lots z_h_rowMany hq8) k_874 k_876 ks_24 k_8 k_877 hd_M_no ⟨Nat.le_of_ble_eq_true rfl, Nat.le_of_ble_eq_true rfl⟩ xE0_ok trivial hA hK hP hD hS [0, 1] [2, 3, 4, 5, 6, 7] [6, 7, 0, 1, 2, 3, 4, 5] rfl rfl rfl rfl rfl rfl rfl rfl rfl rfl hl.1 rfl (Nat.le_of_ble_eq_true rfl) ⟨Nat.zero_le _, Nat.zero_le _⟩ d_M_judge_10 (fun H locs hP hD hS => ?_)
    have hq := Option.some.inj hf
    subst hq
    exact hret _ _ _ _ _ d_M_judge_13 rfl rfl hP hD hS
abbrev w_M_count (cI cJ cC : ClassId) (a_h a_h_refused a_h_kind a_h_sweets a_h_gives a_h_tape a_h_letter a_h_letterAt a_h_one a_h_two a_h_kept a_h_trail a_h_crumb a_h_nextCrumb a_h_goal a_h_start a_h_sits a_h_bestSits a_h_without a_h_row : Nat) (y_h_at : Int32) (y_h_statements : Int32) (y_h_hasImage : Int32) (y_h_beforeMany : Int32) (y_h_found : Int32) (y_h_lots : Int32) (p_h_many : Int32) (p_h_odd : Int32) (p_h_step : Int32) (p_h_bag : Int32) (p_h_strokes : Int32) (p_h_gave : Int32) (p_h_threw : Int32) (p_h_taped : Int32) (p_h_isKeeping : Int32) (p_h_cursor : Int32) (p_h_rowMany : Int32) (p_h_refused : (Nat → Int32)) (p_h_sweets : (Nat → Int32)) : va_W := [(a_h, .inr (7, [.ref a_h_refused, .ref a_h_kind, .ref a_h_sweets, .ref a_h_gives, .int p_h_many, .int p_h_odd, .int p_h_step, .int p_h_bag, .int p_h_strokes, .int p_h_gave, .int p_h_threw, .ref a_h_tape, .ref a_h_letter, .ref a_h_letterAt, .ref a_h_one, .ref a_h_two, .int p_h_taped, .int y_h_at, .int y_h_statements, .ref a_h_kept, .int y_h_hasImage, .int p_h_isKeeping, .int p_h_cursor, .ref a_h_trail, .ref a_h_crumb, .ref a_h_nextCrumb, .ref a_h_goal, .ref a_h_start, .int y_h_beforeMany, .int y_h_found, .ref a_h_sits, .ref a_h_bestSits, .ref a_h_without, .int y_h_lots, .ref a_h_row, .int p_h_rowMany])), (a_h_refused, .inl (cI, (7, .inl p_h_refused))), (a_h_sweets, .inl (cI, (8, .inl p_h_sweets)))]
theorem d_M_count_0 : decode b_M_count 0 = .ok (.iload_n 1, 1) := by decide +kernel
theorem d_M_count_1 : decode b_M_count 1 = .ok (.bipush 11, 2) := by decide +kernel
theorem d_M_count_3 : decode b_M_count 3 = .ok (.bipush 16, 2) := by decide +kernel
theorem d_M_count_5 : decode b_M_count 5 = .ok (.invokestatic 99, 3) := by decide +kernel
theorem d_M_count_8 : decode b_M_count 8 = .ok (.ifCond .eq 13, 3) := by decide +kernel
theorem d_M_count_11 : decode b_M_count 11 = .ok (.aload_n 0, 1) := by decide +kernel
theorem d_M_count_12 : decode b_M_count 12 = .ok (.getfield 7, 3) := by decide +kernel
theorem d_M_count_15 : decode b_M_count 15 = .ok (.iload_n 1, 1) := by decide +kernel
theorem d_M_count_16 : decode b_M_count 16 = .ok (.bipush 10, 2) := by decide +kernel
theorem d_M_count_18 : decode b_M_count 18 = .ok (.isub, 1) := by decide +kernel
theorem d_M_count_19 : decode b_M_count 19 = .ok (.iaload, 1) := by decide +kernel
theorem d_M_count_20 : decode b_M_count 20 = .ok (.ireturn, 1) := by decide +kernel
theorem d_M_count_21 : decode b_M_count 21 = .ok (.iconst 0, 1) := by decide +kernel
theorem d_M_count_22 : decode b_M_count 22 = .ok (.istore_n 2, 1) := by decide +kernel
theorem d_M_count_23 : decode b_M_count 23 = .ok (.iload_n 1, 1) := by decide +kernel
theorem d_M_count_24 : decode b_M_count 24 = .ok (.tableswitch 112 0 7 #[48, 53, 58, 63, 68, 73, 78, 83], 48) := by decide +kernel
theorem d_M_count_72 : decode b_M_count 72 = .ok (.aload_n 0, 1) := by decide +kernel
theorem d_M_count_73 : decode b_M_count 73 = .ok (.getfield 78, 3) := by decide +kernel
theorem d_M_count_76 : decode b_M_count 76 = .ok (.ireturn, 1) := by decide +kernel
theorem d_M_count_77 : decode b_M_count 77 = .ok (.aload_n 0, 1) := by decide +kernel
theorem d_M_count_78 : decode b_M_count 78 = .ok (.invokevirtual 210, 3) := by decide +kernel
theorem d_M_count_81 : decode b_M_count 81 = .ok (.ireturn, 1) := by decide +kernel
theorem d_M_count_82 : decode b_M_count 82 = .ok (.aload_n 0, 1) := by decide +kernel
theorem d_M_count_83 : decode b_M_count 83 = .ok (.getfield 137, 3) := by decide +kernel
theorem d_M_count_86 : decode b_M_count 86 = .ok (.ireturn, 1) := by decide +kernel
theorem d_M_count_87 : decode b_M_count 87 = .ok (.aload_n 0, 1) := by decide +kernel
theorem d_M_count_88 : decode b_M_count 88 = .ok (.getfield 140, 3) := by decide +kernel
theorem d_M_count_91 : decode b_M_count 91 = .ok (.ireturn, 1) := by decide +kernel
theorem d_M_count_92 : decode b_M_count 92 = .ok (.aload_n 0, 1) := by decide +kernel
theorem d_M_count_93 : decode b_M_count 93 = .ok (.getfield 143, 3) := by decide +kernel
theorem d_M_count_96 : decode b_M_count 96 = .ok (.ireturn, 1) := by decide +kernel
theorem d_M_count_97 : decode b_M_count 97 = .ok (.aload_n 0, 1) := by decide +kernel
theorem d_M_count_98 : decode b_M_count 98 = .ok (.getfield 85, 3) := by decide +kernel
theorem d_M_count_101 : decode b_M_count 101 = .ok (.ireturn, 1) := by decide +kernel
theorem d_M_count_102 : decode b_M_count 102 = .ok (.aload_n 0, 1) := by decide +kernel
theorem d_M_count_103 : decode b_M_count 103 = .ok (.getfield 255, 3) := by decide +kernel
theorem d_M_count_106 : decode b_M_count 106 = .ok (.ireturn, 1) := by decide +kernel
theorem d_M_count_107 : decode b_M_count 107 = .ok (.iconst 0, 1) := by decide +kernel
theorem d_M_count_108 : decode b_M_count 108 = .ok (.istore_n 3, 1) := by decide +kernel
theorem d_M_count_109 : decode b_M_count 109 = .ok (.iload_n 3, 1) := by decide +kernel
theorem d_M_count_110 : decode b_M_count 110 = .ok (.aload_n 0, 1) := by decide +kernel
theorem d_M_count_111 : decode b_M_count 111 = .ok (.getfield 78, 3) := by decide +kernel
theorem d_M_count_114 : decode b_M_count 114 = .ok (.if_icmp .ge 20, 3) := by decide +kernel
theorem d_M_count_117 : decode b_M_count 117 = .ok (.iload_n 2, 1) := by decide +kernel
theorem d_M_count_118 : decode b_M_count 118 = .ok (.aload_n 0, 1) := by decide +kernel
theorem d_M_count_119 : decode b_M_count 119 = .ok (.getfield 16, 3) := by decide +kernel
theorem d_M_count_122 : decode b_M_count 122 = .ok (.iload_n 3, 1) := by decide +kernel
theorem d_M_count_123 : decode b_M_count 123 = .ok (.iaload, 1) := by decide +kernel
theorem d_M_count_124 : decode b_M_count 124 = .ok (.iconst 2, 1) := by decide +kernel
theorem d_M_count_125 : decode b_M_count 125 = .ok (.irem, 1) := by decide +kernel
theorem d_M_count_126 : decode b_M_count 126 = .ok (.iadd, 1) := by decide +kernel
theorem d_M_count_127 : decode b_M_count 127 = .ok (.istore_n 2, 1) := by decide +kernel
theorem d_M_count_128 : decode b_M_count 128 = .ok (.iinc 3 1, 3) := by decide +kernel
theorem d_M_count_131 : decode b_M_count 131 = .ok (.goto (-22), 3) := by decide +kernel
theorem d_M_count_134 : decode b_M_count 134 = .ok (.iload_n 2, 1) := by decide +kernel
theorem d_M_count_135 : decode b_M_count 135 = .ok (.ireturn, 1) := by decide +kernel
theorem d_M_count_136 : decode b_M_count 136 = .ok (.bipush (-9), 2) := by decide +kernel
theorem d_M_count_138 : decode b_M_count 138 = .ok (.ireturn, 1) := by decide +kernel
set_option maxHeartbeats 4000000 in
set_option maxRecDepth 100000 in
theorem c_M_count {l : Launch} {D : va_G} {cI cJ cC : ClassId} (a_h a_h_refused a_h_kind a_h_sweets a_h_gives a_h_tape a_h_letter a_h_letterAt a_h_one a_h_two a_h_kept a_h_trail a_h_crumb a_h_nextCrumb a_h_goal a_h_start a_h_sits a_h_bestSits a_h_without a_h_row : Nat) (y_h_at : Int32) (y_h_statements : Int32) (y_h_hasImage : Int32) (y_h_beforeMany : Int32) (y_h_found : Int32) (y_h_lots : Int32) {z_h_T : MT} {z_h_taped : Int32} {z_h_rowMany : Int32} {z_h_refused : (Nat → Int32)} {x1 : Int32} {q : Int32} (hf : f_M_count z_h_T z_h_taped z_h_rowMany z_h_refused x1 = some q) : xI l y_M_count b_M_count 4 .int 1 22 D (tyK cI cJ cC) xE0 [.ref a_h, .int x1] (w_M_count cI cJ cC a_h a_h_refused a_h_kind a_h_sweets a_h_gives a_h_tape a_h_letter a_h_letterAt a_h_one a_h_two a_h_kept a_h_trail a_h_crumb a_h_nextCrumb a_h_goal a_h_start a_h_sits a_h_bestSits a_h_without a_h_row y_h_at y_h_statements y_h_hasImage y_h_beforeMany y_h_found y_h_lots (m_many z_h_T) (m_odd z_h_T) (m_step z_h_T) (m_bag z_h_T) (m_strokes z_h_T) (m_gave z_h_T) (m_threw z_h_T) z_h_taped (m_isKeeping z_h_T) (m_cursor z_h_T) z_h_rowMany z_h_refused (m_sweets z_h_T)) q (w_M_count cI cJ cC a_h a_h_refused a_h_kind a_h_sweets a_h_gives a_h_tape a_h_letter a_h_letterAt a_h_one a_h_two a_h_kept a_h_trail a_h_crumb a_h_nextCrumb a_h_goal a_h_start a_h_sits a_h_bestSits a_h_without a_h_row y_h_at y_h_statements y_h_hasImage y_h_beforeMany y_h_found y_h_lots (m_many z_h_T) (m_odd z_h_T) (m_step z_h_T) (m_bag z_h_T) (m_strokes z_h_T) (m_gave z_h_T) (m_threw z_h_T) z_h_taped (m_isKeeping z_h_T) (m_cursor z_h_T) z_h_rowMany z_h_refused (m_sweets z_h_T)) := by
  refine xI_of (by decide) (Nat.le_of_ble_eq_true rfl) ?_
  intro p e s m args below meth c A Q hx hb hml hown hT hA hP hD hK hS hE hret ls hl
  have hown : s.vm.findClass R_M = some m.cls := hown
  have hl : lv_has ls 4 [(0, .ref a_h), (1, .int x1)] := hl
  unfold f_M_count at hf
  have L109 : ∀ (n : Nat) (x2 : Int32) (x3 : Int32) (H : Heap) (locs : List Loc) (ls : Array Slot), f_M_count_L109 z_h_T n x2 x3 = some q → va_P D classes (w_M_count cI cJ cC a_h a_h_refused a_h_kind a_h_sweets a_h_gives a_h_tape a_h_letter a_h_letterAt a_h_one a_h_two a_h_kept a_h_trail a_h_crumb a_h_nextCrumb a_h_goal a_h_start a_h_sits a_h_bestSits a_h_without a_h_row y_h_at y_h_statements y_h_hasImage y_h_beforeMany y_h_found y_h_lots (m_many z_h_T) (m_odd z_h_T) (m_step z_h_T) (m_bag z_h_T) (m_strokes z_h_T) (m_gave z_h_T) (m_threw z_h_T) z_h_taped (m_isKeeping z_h_T) (m_cursor z_h_T) z_h_rowMany z_h_refused (m_sweets z_h_T)) H → va_D A (w_M_count cI cJ cC a_h a_h_refused a_h_kind a_h_sweets a_h_gives a_h_tape a_h_letter a_h_letterAt a_h_one a_h_two a_h_kept a_h_trail a_h_crumb a_h_nextCrumb a_h_goal a_h_start a_h_sits a_h_bestSits a_h_without a_h_row y_h_at y_h_statements y_h_hasImage y_h_beforeMany y_h_found y_h_lots (m_many z_h_T) (m_odd z_h_T) (m_step z_h_T) (m_bag z_h_T) (m_strokes z_h_T) (m_gave z_h_T) (m_threw z_h_T) z_h_taped (m_isKeeping z_h_T) (m_cursor z_h_T) z_h_rowMany z_h_refused (m_sweets z_h_T)) → va_S A s.heap H locs → lv_has ls 4 [(0, .ref a_h), (2, .int x2), (3, .int x3)] → W p l e (xRm 1 22) s m args below meth c H locs 0 0 Q (F0 m 109 ls []) := by
    intro n
    induction n with
    | zero => intro x2 x3 H locs ls hf hP hD hS hl; exact nomatch (show (none : Option (Int32)) = some q from hf)
    | succ n ih =>
      intro x2 x3 H locs ls hf hP hD hS hl
      refine lv_iload_n hx hb d_M_count_109 rfl (lv_at hl 2 rfl) ?_
      refine lv_aload_n hx hb d_M_count_110 rfl (lv_at hl 0 rfl) ?_
      refine va_get hx hb hT i_M hown hK hP 0 rfl rfl 4 (Nat.le_of_ble_eq_true rfl) (hT _ k_762) (fun _ h => h) rfl d_M_count_111 ?_
      refine lv_icmp_ge (tgt := 134) hx hb d_M_count_114 (by decide) (fun c12 => ?_) (fun c12 => ?_)
      · have hf := io_t hf c12
        refine lv_iload_n hx hb d_M_count_134 rfl (lv_at hl 1 rfl) ?_
        have hq := Option.some.inj hf
        subst hq
        exact hret _ _ _ _ _ d_M_count_135 rfl rfl hP hD hS
      · have hf := io_f hf c12
        refine lv_iload_n hx hb d_M_count_117 rfl (lv_at hl 1 rfl) ?_
        refine lv_aload_n hx hb d_M_count_118 rfl (lv_at hl 0 rfl) ?_
        refine va_get hx hb hT i_M hown hK hP 0 rfl rfl 2 (Nat.le_of_ble_eq_true rfl) (hT _ k_760) (fun _ h => h) rfl d_M_count_119 ?_
        refine lv_iload_n hx hb d_M_count_122 rfl (lv_at hl 2 rfl) ?_
        obtain ⟨c13, hf⟩ := io_n hf
        refine x_iald hx hb hK hP 2 0 rfl rfl (j := x3.toNatClampNeg) rfl c13 d_M_count_123 ?_
        refine lv_iconst (v := 2) hx hb d_M_count_124 (by decide) ?_
        refine x_irem hx hb d_M_count_125 (by decide) ?_
        refine lv_iadd hx hb d_M_count_126 ?_
        refine lv_istore_n (lv' := [(2, .int (x2 + (((m_sweets z_h_T) x3.toNatClampNeg) % 2))), (0, .ref a_h), (3, .int x3)]) hx hb d_M_count_127 rfl hl (by decide) rfl (fun ls hl => ?_)
        refine lv_iinc (v := (x3 + 1)) (lv' := [(3, .int (x3 + 1)), (2, .int (x2 + (((m_sweets z_h_T) x3.toNatClampNeg) % 2))), (0, .ref a_h)]) hx hb d_M_count_128 hl (k := 2) rfl (by rfl) (by decide) rfl (fun ls hl => ?_)
        refine lv_goto (tgt := 109) hx hb d_M_count_131 (by decide) ?_
        exact ih (x2 + (((m_sweets z_h_T) x3.toNatClampNeg) % 2)) (x3 + 1) _ _ _ hf hP hD hS (lv_sub hl [2, 1, 0] rfl)
  refine lv_iload_n hx hb d_M_count_0 rfl (lv_at hl 1 rfl) ?_
  refine lv_bipush (v := 11) hx hb d_M_count_1 (by decide) ?_
  refine lv_bipush (v := 16) hx hb d_M_count_3 (by decide) ?_
  obtain ⟨q1, hq1, hf⟩ := io_b hf
  refine xcSI (wc := []) (wc' := []) (ws' := (w_M_count cI cJ cC a_h a_h_refused a_h_kind a_h_sweets a_h_gives a_h_tape a_h_letter a_h_letterAt a_h_one a_h_two a_h_kept a_h_trail a_h_crumb a_h_nextCrumb a_h_goal a_h_start a_h_sits a_h_bestSits a_h_without a_h_row y_h_at y_h_statements y_h_hasImage y_h_beforeMany y_h_found y_h_lots (m_many z_h_T) (m_odd z_h_T) (m_step z_h_T) (m_bag z_h_T) (m_strokes z_h_T) (m_gave z_h_T) (m_threw z_h_T) z_h_taped (m_isKeeping z_h_T) (m_cursor z_h_T) z_h_rowMany z_h_refused (m_sweets z_h_T))) (As := [.int x1, .int 11, .int 16]) (rest := []) hx hb hml hown hT (c_M_isIn hq1) k_897 k_898 k_8 k_899 hd_M_isIn ⟨Nat.le_of_ble_eq_true rfl, Nat.le_of_ble_eq_true rfl⟩ xE0_ok trivial hA hK hP hD hS [] [0, 1, 2] [0, 1, 2] rfl rfl rfl rfl rfl rfl rfl hl.1 rfl (Nat.le_of_ble_eq_true rfl) ⟨Nat.zero_le _, Nat.zero_le _⟩ d_M_count_5 (fun H locs hP hD hS => ?_)
  refine lv_if_eq (tgt := 21) hx hb d_M_count_8 (by decide) (fun c2 => ?_) (fun c2 => ?_)
  · have hf := io_t hf c2
    refine lv_iconst (v := 0) hx hb d_M_count_21 (by decide) ?_
    refine lv_istore_n (lv' := [(2, .int 0), (0, .ref a_h), (1, .int x1)]) hx hb d_M_count_22 rfl hl (by decide) rfl (fun ls hl => ?_)
    refine lv_iload_n hx hb d_M_count_23 rfl (lv_at hl 2 rfl) ?_
    rcases Decidable.em (x1 = 0) with c3 | c3
    · have hf := io_t hf c3
      refine lv_tableIn (off := 48) (tgt := 72) hx hb d_M_count_24 (by rw [c3]; decide +kernel) (by rw [c3]; decide +kernel) (by rw [c3]; rfl) (by decide) ?_
      refine lv_aload_n hx hb d_M_count_72 rfl (lv_at hl 1 rfl) ?_
      refine va_get hx hb hT i_M hown hK hP 0 rfl rfl 4 (Nat.le_of_ble_eq_true rfl) (hT _ k_762) (fun _ h => h) rfl d_M_count_73 ?_
      have hq := Option.some.inj hf
      subst hq
      exact hret _ _ _ _ _ d_M_count_76 rfl rfl hP hD hS
    · have hf := io_f hf c3
      rcases Decidable.em (x1 = 1) with c4 | c4
      · have hf := io_t hf c4
        refine lv_tableIn (off := 53) (tgt := 77) hx hb d_M_count_24 (by rw [c4]; decide +kernel) (by rw [c4]; decide +kernel) (by rw [c4]; rfl) (by decide) ?_
        refine lv_aload_n hx hb d_M_count_77 rfl (lv_at hl 1 rfl) ?_
        obtain ⟨q5, hq5, hf⟩ := io_b hf
        refine xcVI (wc := (w_M_sum cI cJ cC a_h a_h_refused a_h_kind a_h_sweets a_h_gives a_h_tape a_h_letter a_h_letterAt a_h_one a_h_two a_h_kept a_h_trail a_h_crumb a_h_nextCrumb a_h_goal a_h_start a_h_sits a_h_bestSits a_h_without a_h_row z_h_taped y_h_at y_h_statements y_h_hasImage y_h_beforeMany y_h_found y_h_lots z_h_rowMany (m_many z_h_T) (m_odd z_h_T) (m_step z_h_T) (m_bag z_h_T) (m_strokes z_h_T) (m_gave z_h_T) (m_threw z_h_T) (m_isKeeping z_h_T) (m_cursor z_h_T) (m_sweets z_h_T))) (wc' := (w_M_sum cI cJ cC a_h a_h_refused a_h_kind a_h_sweets a_h_gives a_h_tape a_h_letter a_h_letterAt a_h_one a_h_two a_h_kept a_h_trail a_h_crumb a_h_nextCrumb a_h_goal a_h_start a_h_sits a_h_bestSits a_h_without a_h_row z_h_taped y_h_at y_h_statements y_h_hasImage y_h_beforeMany y_h_found y_h_lots z_h_rowMany (m_many z_h_T) (m_odd z_h_T) (m_step z_h_T) (m_bag z_h_T) (m_strokes z_h_T) (m_gave z_h_T) (m_threw z_h_T) (m_isKeeping z_h_T) (m_cursor z_h_T) (m_sweets z_h_T))) (ws' := (w_M_count cI cJ cC a_h a_h_refused a_h_kind a_h_sweets a_h_gives a_h_tape a_h_letter a_h_letterAt a_h_one a_h_two a_h_kept a_h_trail a_h_crumb a_h_nextCrumb a_h_goal a_h_start a_h_sits a_h_bestSits a_h_without a_h_row y_h_at y_h_statements y_h_hasImage y_h_beforeMany y_h_found y_h_lots (m_many z_h_T) (m_odd z_h_T) (m_step z_h_T) (m_bag z_h_T) (m_strokes z_h_T) (m_gave z_h_T) (m_threw z_h_T) z_h_taped (m_isKeeping z_h_T) (m_cursor z_h_T) z_h_rowMany z_h_refused (m_sweets z_h_T))) (As := []) (rest := []) hx hb hml hown hT (c_M_sum (z_h_T := z_h_T) a_h a_h_refused a_h_kind a_h_sweets a_h_gives a_h_tape a_h_letter a_h_letterAt a_h_one a_h_two a_h_kept a_h_trail a_h_crumb a_h_nextCrumb a_h_goal a_h_start a_h_sits a_h_bestSits a_h_without a_h_row z_h_taped y_h_at y_h_statements y_h_hasImage y_h_beforeMany y_h_found y_h_lots z_h_rowMany hq5) k_1048 k_1050 ks_47 k_8 k_1051 hd_M_sum ⟨Nat.le_of_ble_eq_true rfl, Nat.le_of_ble_eq_true rfl⟩ xE0_ok trivial hA hK hP hD hS [0, 2] [1] [1, 0, 2] rfl rfl rfl rfl rfl rfl rfl rfl rfl rfl hl.1 rfl (Nat.le_of_ble_eq_true rfl) ⟨Nat.zero_le _, Nat.zero_le _⟩ d_M_count_78 (fun H locs hP hD hS => ?_)
        have hq := Option.some.inj hf
        subst hq
        exact hret _ _ _ _ _ d_M_count_81 rfl rfl hP hD hS
      · have hf := io_f hf c4
        rcases Decidable.em (x1 = 2) with c6 | c6
        · have hf := io_t hf c6
          refine lv_tableIn (off := 58) (tgt := 82) hx hb d_M_count_24 (by rw [c6]; decide +kernel) (by rw [c6]; decide +kernel) (by rw [c6]; rfl) (by decide) ?_
          refine lv_aload_n hx hb d_M_count_82 rfl (lv_at hl 1 rfl) ?_
          refine va_get hx hb hT i_M hown hK hP 0 rfl rfl 8 (Nat.le_of_ble_eq_true rfl) (hT _ k_766) (fun _ h => h) rfl d_M_count_83 ?_
          have hq := Option.some.inj hf
          subst hq
          exact hret _ _ _ _ _ d_M_count_86 rfl rfl hP hD hS
        · have hf := io_f hf c6
          rcases Decidable.em (x1 = 3) with c7 | c7
          · have hf := io_t hf c7
            refine lv_tableIn (off := 63) (tgt := 87) hx hb d_M_count_24 (by rw [c7]; decide +kernel) (by rw [c7]; decide +kernel) (by rw [c7]; rfl) (by decide) ?_
            refine lv_aload_n hx hb d_M_count_87 rfl (lv_at hl 1 rfl) ?_
            refine va_get hx hb hT i_M hown hK hP 0 rfl rfl 9 (Nat.le_of_ble_eq_true rfl) (hT _ k_767) (fun _ h => h) rfl d_M_count_88 ?_
            have hq := Option.some.inj hf
            subst hq
            exact hret _ _ _ _ _ d_M_count_91 rfl rfl hP hD hS
          · have hf := io_f hf c7
            rcases Decidable.em (x1 = 4) with c8 | c8
            · have hf := io_t hf c8
              refine lv_tableIn (off := 68) (tgt := 92) hx hb d_M_count_24 (by rw [c8]; decide +kernel) (by rw [c8]; decide +kernel) (by rw [c8]; rfl) (by decide) ?_
              refine lv_aload_n hx hb d_M_count_92 rfl (lv_at hl 1 rfl) ?_
              refine va_get hx hb hT i_M hown hK hP 0 rfl rfl 10 (Nat.le_of_ble_eq_true rfl) (hT _ k_768) (fun _ h => h) rfl d_M_count_93 ?_
              have hq := Option.some.inj hf
              subst hq
              exact hret _ _ _ _ _ d_M_count_96 rfl rfl hP hD hS
            · have hf := io_f hf c8
              rcases Decidable.em (x1 = 5) with c9 | c9
              · have hf := io_t hf c9
                refine lv_tableIn (off := 73) (tgt := 97) hx hb d_M_count_24 (by rw [c9]; decide +kernel) (by rw [c9]; decide +kernel) (by rw [c9]; rfl) (by decide) ?_
                refine lv_aload_n hx hb d_M_count_97 rfl (lv_at hl 1 rfl) ?_
                refine va_get hx hb hT i_M hown hK hP 0 rfl rfl 16 (Nat.le_of_ble_eq_true rfl) (hT _ k_774) (fun _ h => h) rfl d_M_count_98 ?_
                have hq := Option.some.inj hf
                subst hq
                exact hret _ _ _ _ _ d_M_count_101 rfl rfl hP hD hS
              · have hf := io_f hf c9
                rcases Decidable.em (x1 = 6) with c10 | c10
                · have hf := io_t hf c10
                  refine lv_tableIn (off := 78) (tgt := 102) hx hb d_M_count_24 (by rw [c10]; decide +kernel) (by rw [c10]; decide +kernel) (by rw [c10]; rfl) (by decide) ?_
                  refine lv_aload_n hx hb d_M_count_102 rfl (lv_at hl 1 rfl) ?_
                  refine va_get hx hb hT i_M hown hK hP 0 rfl rfl 35 (Nat.le_of_ble_eq_true rfl) (hT _ k_793) (fun _ h => h) rfl d_M_count_103 ?_
                  have hq := Option.some.inj hf
                  subst hq
                  exact hret _ _ _ _ _ d_M_count_106 rfl rfl hP hD hS
                · have hf := io_f hf c10
                  rcases Decidable.em (x1 = 7) with c11 | c11
                  · have hf := io_t hf c11
                    refine lv_tableIn (off := 83) (tgt := 107) hx hb d_M_count_24 (by rw [c11]; decide +kernel) (by rw [c11]; decide +kernel) (by rw [c11]; rfl) (by decide) ?_
                    refine lv_iconst (v := 0) hx hb d_M_count_107 (by decide) ?_
                    refine lv_istore_n (lv' := [(3, .int 0), (2, .int 0), (0, .ref a_h), (1, .int x1)]) hx hb d_M_count_108 rfl hl (by decide) rfl (fun ls hl => ?_)
                    exact L109 FU 0 0 _ _ _ hf hP hD hS (lv_sub hl [2, 1, 0] rfl)
                  · have hf := io_f hf c11
                    refine lv_tableOut (tgt := 136) hx hb d_M_count_24 (by have e0 := lv_neT (a := 0) c3 (by decide +kernel); have e1 := lv_neT (a := 1) c4 (by decide +kernel); have e2 := lv_neT (a := 2) c6 (by decide +kernel); have e3 := lv_neT (a := 3) c7 (by decide +kernel); have e4 := lv_neT (a := 4) c8 (by decide +kernel); have e5 := lv_neT (a := 5) c9 (by decide +kernel); have e6 := lv_neT (a := 6) c10 (by decide +kernel); have e7 := lv_neT (a := 7) c11 (by decide +kernel); omega) (by decide) ?_
                    refine lv_bipush (v := (-9)) hx hb d_M_count_136 (by decide) ?_
                    have hq := Option.some.inj hf
                    subst hq
                    exact hret _ _ _ _ _ d_M_count_138 rfl rfl hP hD hS
  · have hf := io_f hf c2
    refine lv_aload_n hx hb d_M_count_11 rfl (lv_at hl 0 rfl) ?_
    refine va_get hx hb hT i_M hown hK hP 0 rfl rfl 0 (Nat.le_of_ble_eq_true rfl) (hT _ k_758) (fun _ h => h) rfl d_M_count_12 ?_
    refine lv_iload_n hx hb d_M_count_15 rfl (lv_at hl 1 rfl) ?_
    refine lv_bipush (v := 10) hx hb d_M_count_16 (by decide) ?_
    refine lv_isub hx hb d_M_count_18 ?_
    obtain ⟨c14, hf⟩ := io_n hf
    refine x_iald hx hb hK hP 1 0 rfl rfl (j := (x1 - 10).toNatClampNeg) rfl c14 d_M_count_19 ?_
    have hq := Option.some.inj hf
    subst hq
    exact hret _ _ _ _ _ d_M_count_20 rfl rfl hP hD hS
