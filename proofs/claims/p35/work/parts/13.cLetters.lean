/-! Contracts: Letters. Printed by wip/whole/gen. -/
abbrev w_Letters_add (cI cJ cC : ClassId) (a_h a_h_text a_h_trial : Nat) (p_h_length : Int32) (p_h_text : (Nat → Int32)) : va_W := [(a_h, .inr (2, [.int p_h_length, .ref a_h_text, .ref a_h_trial])), (a_h_text, .inl (cC, (64, .inl p_h_text)))]
theorem d_Letters_add_0 : decode b_Letters_add 0 = .ok (.aload_n 0, 1) := by decide +kernel
theorem d_Letters_add_1 : decode b_Letters_add 1 = .ok (.getfield 9, 3) := by decide +kernel
theorem d_Letters_add_4 : decode b_Letters_add 4 = .ok (.bipush 64, 2) := by decide +kernel
theorem d_Letters_add_6 : decode b_Letters_add 6 = .ok (.if_icmp .ge 23, 3) := by decide +kernel
theorem d_Letters_add_9 : decode b_Letters_add 9 = .ok (.aload_n 0, 1) := by decide +kernel
theorem d_Letters_add_10 : decode b_Letters_add 10 = .ok (.getfield 15, 3) := by decide +kernel
theorem d_Letters_add_13 : decode b_Letters_add 13 = .ok (.aload_n 0, 1) := by decide +kernel
theorem d_Letters_add_14 : decode b_Letters_add 14 = .ok (.getfield 9, 3) := by decide +kernel
theorem d_Letters_add_17 : decode b_Letters_add 17 = .ok (.iload_n 1, 1) := by decide +kernel
theorem d_Letters_add_18 : decode b_Letters_add 18 = .ok (.castore, 1) := by decide +kernel
theorem d_Letters_add_19 : decode b_Letters_add 19 = .ok (.aload_n 0, 1) := by decide +kernel
theorem d_Letters_add_20 : decode b_Letters_add 20 = .ok (.dup, 1) := by decide +kernel
theorem d_Letters_add_21 : decode b_Letters_add 21 = .ok (.getfield 9, 3) := by decide +kernel
theorem d_Letters_add_24 : decode b_Letters_add 24 = .ok (.iconst 1, 1) := by decide +kernel
theorem d_Letters_add_25 : decode b_Letters_add 25 = .ok (.iadd, 1) := by decide +kernel
theorem d_Letters_add_26 : decode b_Letters_add 26 = .ok (.putfield 9, 3) := by decide +kernel
theorem d_Letters_add_29 : decode b_Letters_add 29 = .ok (.aload_n 0, 1) := by decide +kernel
theorem d_Letters_add_30 : decode b_Letters_add 30 = .ok (.getfield 9, 3) := by decide +kernel
theorem d_Letters_add_33 : decode b_Letters_add 33 = .ok (.ireturn, 1) := by decide +kernel
set_option maxHeartbeats 4000000 in
set_option maxRecDepth 100000 in
theorem c_Letters_add {l : Launch} {D : va_G} {cI cJ cC : ClassId} (a_h a_h_text a_h_trial : Nat) {z_h_length : Int32} {z_h_text : (Nat → Int32)} {x1 : Int32} {q : Int32 × Int32 × (Nat → Int32)} (hf : f_Letters_add z_h_length z_h_text x1 = some q) : xI l y_Letters_add b_Letters_add 2 .int 0 0 D (tyK cI cJ cC) xE0 [.ref a_h, .int x1] (w_Letters_add cI cJ cC a_h a_h_text a_h_trial z_h_length z_h_text) q.1 (w_Letters_add cI cJ cC a_h a_h_text a_h_trial q.2.1 q.2.2) := by
  refine xI_of (by decide) (Nat.le_of_ble_eq_true rfl) ?_
  intro p e s m args below meth c A Q hx hb hml hown hT hA hP hD hK hS hE hret ls hl
  have hown : s.vm.findClass R_Letters = some m.cls := hown
  have hl : lv_has ls 2 [(0, .ref a_h), (1, .int x1)] := hl
  unfold f_Letters_add at hf
  refine lv_aload_n hx hb d_Letters_add_0 rfl (lv_at hl 0 rfl) ?_
  refine va_get hx hb hT i_Letters hown hK hP 0 rfl rfl 0 (Nat.le_of_ble_eq_true rfl) (hT _ k_76) (fun _ h => h) rfl d_Letters_add_1 ?_
  refine lv_bipush (v := 64) hx hb d_Letters_add_4 (by decide) ?_
  refine lv_icmp_ge (tgt := 29) hx hb d_Letters_add_6 (by decide) (fun c1 => ?_) (fun c1 => ?_)
  · have hf := io_t hf c1
    refine lv_aload_n hx hb d_Letters_add_29 rfl (lv_at hl 0 rfl) ?_
    refine va_get hx hb hT i_Letters hown hK hP 0 rfl rfl 0 (Nat.le_of_ble_eq_true rfl) (hT _ k_76) (fun _ h => h) rfl d_Letters_add_30 ?_
    have hq := Option.some.inj hf
    subst hq
    exact hret _ _ _ _ _ d_Letters_add_33 rfl rfl hP hD hS
  · have hf := io_f hf c1
    refine lv_aload_n hx hb d_Letters_add_9 rfl (lv_at hl 0 rfl) ?_
    refine va_get hx hb hT i_Letters hown hK hP 0 rfl rfl 1 (Nat.le_of_ble_eq_true rfl) (hT _ k_78) (fun _ h => h) rfl d_Letters_add_10 ?_
    refine lv_aload_n hx hb d_Letters_add_13 rfl (lv_at hl 0 rfl) ?_
    refine va_get hx hb hT i_Letters hown hK hP 0 rfl rfl 0 (Nat.le_of_ble_eq_true rfl) (hT _ k_76) (fun _ h => h) rfl d_Letters_add_14 ?_
    refine lv_iload_n hx hb d_Letters_add_17 rfl (lv_at hl 1 rfl) ?_
    obtain ⟨c2, hf⟩ := io_n hf
    refine x_cast hx hb hK hP hD hS 1 2 rfl rfl (j := z_h_length.toNatClampNeg) rfl c2 d_Letters_add_18 (fun H locs hP hD hS => ?_)
    have hP : va_P D classes (w_Letters_add cI cJ cC a_h a_h_text a_h_trial z_h_length (upd z_h_text z_h_length.toNatClampNeg (vp_nar .char x1))) H := hP
    have hD : va_D A (w_Letters_add cI cJ cC a_h a_h_text a_h_trial z_h_length (upd z_h_text z_h_length.toNatClampNeg (vp_nar .char x1))) := hD
    refine lv_aload_n hx hb d_Letters_add_19 rfl (lv_at hl 0 rfl) ?_
    refine lv_dup hx hb d_Letters_add_20 rfl ?_
    refine va_get hx hb hT i_Letters hown hK hP 0 rfl rfl 0 (Nat.le_of_ble_eq_true rfl) (hT _ k_76) (fun _ h => h) rfl d_Letters_add_21 ?_
    refine lv_iconst (v := 1) hx hb d_Letters_add_24 (by decide) ?_
    refine lv_iadd hx hb d_Letters_add_25 ?_
    refine va_put (ty := .int) hx hb hT i_Letters t_Letters t_Letters_ok n_Letters hown hK hP hD hS 0 rfl rfl 0 (Nat.le_of_ble_eq_true rfl) (hT _ k_76) (fun _ h => h) rfl rfl rfl rfl (Nat.le_of_ble_eq_true rfl) d_Letters_add_26 (fun H locs hP hD hS => ?_)
    have hP : va_P D classes (w_Letters_add cI cJ cC a_h a_h_text a_h_trial (z_h_length + 1) (upd z_h_text z_h_length.toNatClampNeg (vp_nar .char x1))) H := hP
    have hD : va_D A (w_Letters_add cI cJ cC a_h a_h_text a_h_trial (z_h_length + 1) (upd z_h_text z_h_length.toNatClampNeg (vp_nar .char x1))) := hD
    refine lv_aload_n hx hb d_Letters_add_29 rfl (lv_at hl 0 rfl) ?_
    refine va_get hx hb hT i_Letters hown hK hP 0 rfl rfl 0 (Nat.le_of_ble_eq_true rfl) (hT _ k_76) (fun _ h => h) rfl d_Letters_add_30 ?_
    have hq := Option.some.inj hf
    subst hq
    exact hret _ _ _ _ _ d_Letters_add_33 rfl rfl hP hD hS
theorem d_Letters_behindStart_0 : decode b_Letters_behindStart 0 = .ok (.iload_n 0, 1) := by decide +kernel
theorem d_Letters_behindStart_1 : decode b_Letters_behindStart 1 = .ok (.lookupswitch 42 #[(99, 35), (103, 40), (108, 37)], 35) := by decide +kernel
theorem d_Letters_behindStart_36 : decode b_Letters_behindStart 36 = .ok (.iconst 1, 1) := by decide +kernel
theorem d_Letters_behindStart_37 : decode b_Letters_behindStart 37 = .ok (.ireturn, 1) := by decide +kernel
theorem d_Letters_behindStart_38 : decode b_Letters_behindStart 38 = .ok (.bipush 6, 2) := by decide +kernel
theorem d_Letters_behindStart_40 : decode b_Letters_behindStart 40 = .ok (.ireturn, 1) := by decide +kernel
theorem d_Letters_behindStart_41 : decode b_Letters_behindStart 41 = .ok (.iconst 2, 1) := by decide +kernel
theorem d_Letters_behindStart_42 : decode b_Letters_behindStart 42 = .ok (.ireturn, 1) := by decide +kernel
theorem d_Letters_behindStart_43 : decode b_Letters_behindStart 43 = .ok (.iconst (-1), 1) := by decide +kernel
theorem d_Letters_behindStart_44 : decode b_Letters_behindStart 44 = .ok (.ireturn, 1) := by decide +kernel
set_option maxHeartbeats 4000000 in
set_option maxRecDepth 100000 in
theorem c_Letters_behindStart {l : Launch} {D : va_G} {cI cJ cC : ClassId} {x0 : Int32} {q : Int32} (hf : f_Letters_behindStart x0 = some q) : xI l y_Letters_behindStart b_Letters_behindStart 1 .int 0 0 D (tyK cI cJ cC) xE0 [.int x0] [] q [] := by
  refine xI_of (by decide) (Nat.le_of_ble_eq_true rfl) ?_
  intro p e s m args below meth c A Q hx hb hml hown hT hA hP hD hK hS hE hret ls hl
  have hown : s.vm.findClass R_Letters = some m.cls := hown
  have hl : lv_has ls 1 [(0, .int x0)] := hl
  unfold f_Letters_behindStart at hf
  refine lv_iload_n hx hb d_Letters_behindStart_0 rfl (lv_at hl 0 rfl) ?_
  rcases Decidable.em (x0 = 99) with c1 | c1
  · have hf := io_t hf c1
    refine lv_lookup (off := 35) (tgt := 36) hx hb d_Letters_behindStart_1 (by decide +kernel) (by rw [c1]; rfl) (by decide) ?_
    refine lv_iconst (v := 1) hx hb d_Letters_behindStart_36 (by decide) ?_
    have hq := Option.some.inj hf
    subst hq
    exact hret _ _ _ _ _ d_Letters_behindStart_37 rfl rfl hP hD hS
  · have hf := io_f hf c1
    rcases Decidable.em (x0 = 103) with c2 | c2
    · have hf := io_t hf c2
      refine lv_lookup (off := 40) (tgt := 41) hx hb d_Letters_behindStart_1 (by decide +kernel) (by rw [c2]; rfl) (by decide) ?_
      refine lv_iconst (v := 2) hx hb d_Letters_behindStart_41 (by decide) ?_
      have hq := Option.some.inj hf
      subst hq
      exact hret _ _ _ _ _ d_Letters_behindStart_42 rfl rfl hP hD hS
    · have hf := io_f hf c2
      rcases Decidable.em (x0 = 108) with c3 | c3
      · have hf := io_t hf c3
        refine lv_lookup (off := 37) (tgt := 38) hx hb d_Letters_behindStart_1 (by decide +kernel) (by rw [c3]; rfl) (by decide) ?_
        refine lv_bipush (v := 6) hx hb d_Letters_behindStart_38 (by decide) ?_
        have hq := Option.some.inj hf
        subst hq
        exact hret _ _ _ _ _ d_Letters_behindStart_40 rfl rfl hP hD hS
      · have hf := io_f hf c3
        refine lv_lookup (off := 42) (tgt := 43) hx hb d_Letters_behindStart_1 (by decide +kernel) (by refine (lv_osw (k := 99) c1 (by decide +kernel)).trans ?_; refine (lv_osw (k := 103) c2 (by decide +kernel)).trans ?_; refine (lv_osw (k := 108) c3 (by decide +kernel)).trans ?_; rfl) (by decide) ?_
        refine lv_iconst (v := (-1)) hx hb d_Letters_behindStart_43 (by decide) ?_
        have hq := Option.some.inj hf
        subst hq
        exact hret _ _ _ _ _ d_Letters_behindStart_44 rfl rfl hP hD hS
theorem d_Letters_isDigit_0 : decode b_Letters_isDigit 0 = .ok (.iload_n 0, 1) := by decide +kernel
theorem d_Letters_isDigit_1 : decode b_Letters_isDigit 1 = .ok (.bipush 48, 2) := by decide +kernel
theorem d_Letters_isDigit_3 : decode b_Letters_isDigit 3 = .ok (.if_icmp .lt 13, 3) := by decide +kernel
theorem d_Letters_isDigit_6 : decode b_Letters_isDigit 6 = .ok (.iload_n 0, 1) := by decide +kernel
theorem d_Letters_isDigit_7 : decode b_Letters_isDigit 7 = .ok (.bipush 57, 2) := by decide +kernel
theorem d_Letters_isDigit_9 : decode b_Letters_isDigit 9 = .ok (.if_icmp .gt 7, 3) := by decide +kernel
theorem d_Letters_isDigit_12 : decode b_Letters_isDigit 12 = .ok (.iconst 1, 1) := by decide +kernel
theorem d_Letters_isDigit_13 : decode b_Letters_isDigit 13 = .ok (.goto 4, 3) := by decide +kernel
theorem d_Letters_isDigit_16 : decode b_Letters_isDigit 16 = .ok (.iconst 0, 1) := by decide +kernel
theorem d_Letters_isDigit_17 : decode b_Letters_isDigit 17 = .ok (.ireturn, 1) := by decide +kernel
set_option maxHeartbeats 4000000 in
set_option maxRecDepth 100000 in
theorem c_Letters_isDigit {l : Launch} {D : va_G} {cI cJ cC : ClassId} {x0 : Int32} {q : Int32} (hf : f_Letters_isDigit x0 = some q) : xI l y_Letters_isDigit b_Letters_isDigit 1 .boolean 0 0 D (tyK cI cJ cC) xE0 [.int x0] [] q [] := by
  refine xI_of (by decide) (Nat.le_of_ble_eq_true rfl) ?_
  intro p e s m args below meth c A Q hx hb hml hown hT hA hP hD hK hS hE hret ls hl
  have hown : s.vm.findClass R_Letters = some m.cls := hown
  have hl : lv_has ls 1 [(0, .int x0)] := hl
  unfold f_Letters_isDigit at hf
  refine lv_iload_n hx hb d_Letters_isDigit_0 rfl (lv_at hl 0 rfl) ?_
  refine lv_bipush (v := 48) hx hb d_Letters_isDigit_1 (by decide) ?_
  refine lv_icmp_lt (tgt := 16) hx hb d_Letters_isDigit_3 (by decide) (fun c1 => ?_) (fun c1 => ?_)
  · have hf := io_t hf c1
    refine lv_iconst (v := 0) hx hb d_Letters_isDigit_16 (by decide) ?_
    have hq := Option.some.inj hf
    subst hq
    exact hret _ _ _ _ _ d_Letters_isDigit_17 (by decide) rfl hP hD hS
  · have hf := io_f hf c1
    refine lv_iload_n hx hb d_Letters_isDigit_6 rfl (lv_at hl 0 rfl) ?_
    refine lv_bipush (v := 57) hx hb d_Letters_isDigit_7 (by decide) ?_
    refine lv_icmp_gt (tgt := 16) hx hb d_Letters_isDigit_9 (by decide) (fun c2 => ?_) (fun c2 => ?_)
    · have hf := io_t hf c2
      refine lv_iconst (v := 0) hx hb d_Letters_isDigit_16 (by decide) ?_
      have hq := Option.some.inj hf
      subst hq
      exact hret _ _ _ _ _ d_Letters_isDigit_17 (by decide) rfl hP hD hS
    · have hf := io_f hf c2
      refine lv_iconst (v := 1) hx hb d_Letters_isDigit_12 (by decide) ?_
      refine lv_goto (tgt := 17) hx hb d_Letters_isDigit_13 (by decide) ?_
      have hq := Option.some.inj hf
      subst hq
      exact hret _ _ _ _ _ d_Letters_isDigit_17 (by decide) rfl hP hD hS
theorem d_Letters_behindEnd_0 : decode b_Letters_behindEnd 0 = .ok (.iload_n 0, 1) := by decide +kernel
theorem d_Letters_behindEnd_1 : decode b_Letters_behindEnd 1 = .ok (.bipush 59, 2) := by decide +kernel
theorem d_Letters_behindEnd_3 : decode b_Letters_behindEnd 3 = .ok (.if_icmp .ne 7, 3) := by decide +kernel
theorem d_Letters_behindEnd_6 : decode b_Letters_behindEnd 6 = .ok (.iconst 0, 1) := by decide +kernel
theorem d_Letters_behindEnd_7 : decode b_Letters_behindEnd 7 = .ok (.goto 4, 3) := by decide +kernel
theorem d_Letters_behindEnd_10 : decode b_Letters_behindEnd 10 = .ok (.iconst (-1), 1) := by decide +kernel
theorem d_Letters_behindEnd_11 : decode b_Letters_behindEnd 11 = .ok (.ireturn, 1) := by decide +kernel
set_option maxHeartbeats 4000000 in
set_option maxRecDepth 100000 in
theorem c_Letters_behindEnd {l : Launch} {D : va_G} {cI cJ cC : ClassId} {x0 : Int32} {q : Int32} (hf : f_Letters_behindEnd x0 = some q) : xI l y_Letters_behindEnd b_Letters_behindEnd 1 .int 0 0 D (tyK cI cJ cC) xE0 [.int x0] [] q [] := by
  refine xI_of (by decide) (Nat.le_of_ble_eq_true rfl) ?_
  intro p e s m args below meth c A Q hx hb hml hown hT hA hP hD hK hS hE hret ls hl
  have hown : s.vm.findClass R_Letters = some m.cls := hown
  have hl : lv_has ls 1 [(0, .int x0)] := hl
  unfold f_Letters_behindEnd at hf
  refine lv_iload_n hx hb d_Letters_behindEnd_0 rfl (lv_at hl 0 rfl) ?_
  refine lv_bipush (v := 59) hx hb d_Letters_behindEnd_1 (by decide) ?_
  refine lv_icmp_ne (tgt := 10) hx hb d_Letters_behindEnd_3 (by decide) (fun c1 => ?_) (fun c1 => ?_)
  · have hf := io_f hf c1
    refine lv_iconst (v := (-1)) hx hb d_Letters_behindEnd_10 (by decide) ?_
    have hq := Option.some.inj hf
    subst hq
    exact hret _ _ _ _ _ d_Letters_behindEnd_11 rfl rfl hP hD hS
  · have hf := io_t hf c1
    refine lv_iconst (v := 0) hx hb d_Letters_behindEnd_6 (by decide) ?_
    refine lv_goto (tgt := 11) hx hb d_Letters_behindEnd_7 (by decide) ?_
    have hq := Option.some.inj hf
    subst hq
    exact hret _ _ _ _ _ d_Letters_behindEnd_11 rfl rfl hP hD hS
theorem d_Str_isLatin1_0 : decode b_Str_isLatin1 0 = .ok (.getstatic 38, 3) := by decide +kernel
theorem d_Str_isLatin1_3 : decode b_Str_isLatin1 3 = .ok (.ifCond .eq 14, 3) := by decide +kernel
theorem d_Str_isLatin1_6 : decode b_Str_isLatin1 6 = .ok (.aload_n 0, 1) := by decide +kernel
theorem d_Str_isLatin1_7 : decode b_Str_isLatin1 7 = .ok (.getfield 15, 3) := by decide +kernel
theorem d_Str_isLatin1_10 : decode b_Str_isLatin1 10 = .ok (.ifCond .ne 7, 3) := by decide +kernel
theorem d_Str_isLatin1_13 : decode b_Str_isLatin1 13 = .ok (.iconst 1, 1) := by decide +kernel
theorem d_Str_isLatin1_14 : decode b_Str_isLatin1 14 = .ok (.goto 4, 3) := by decide +kernel
theorem d_Str_isLatin1_17 : decode b_Str_isLatin1 17 = .ok (.iconst 0, 1) := by decide +kernel
theorem d_Str_isLatin1_18 : decode b_Str_isLatin1 18 = .ok (.ireturn, 1) := by decide +kernel
set_option maxHeartbeats 4000000 in
set_option maxRecDepth 100000 in
theorem c_Str_isLatin1 {l : Launch} {D : va_G} {cI cJ cC : ClassId} {t_LEAST_SETTING t_GREATEST_SETTING t_str t_val : Nat} {q : Int32} (hf : f_Str_isLatin1 = some q) : xI l y_Str_isLatin1 b_Str_isLatin1 1 .boolean 0 0 D (tyK cI cJ cC) (xEv t_LEAST_SETTING t_GREATEST_SETTING t_str t_val) [.ref t_str] [] q [] := by
  refine xI_of (by decide) (Nat.le_of_ble_eq_true rfl) ?_
  intro p e s m args below meth c A Q hx hb hml hown hT hA hP hD hK hS hE hret ls hl
  have hown : s.vm.findClass R_Str = some m.cls := hown
  have hl : lv_has ls 1 [(0, .ref t_str)] := hl
  unfold f_Str_isLatin1 at hf
  obtain ⟨hZ_LEAST_SETTING, hT_LEAST_SETTING, hZ_GREATEST_SETTING, hT_GREATEST_SETTING, hZ_CS, hO_str, hC_str, hV_str, hT_str, hR_str, hN_X_outside, hNF_LEAST_SETTING, hNF_GREATEST_SETTING⟩ := id hE
  refine va_gets hx hb hZ_CS hS hown (hT _ k_444) (fun _ h => h) d_Str_isLatin1_0 ?_
  refine lv_if_eq (tgt := 17) hx hb d_Str_isLatin1_3 (by decide) (fun c => absurd c (show ¬ (1 : Int32) = 0 from by decide +kernel)) (fun _ => ?_)
  refine lv_aload_n hx hb d_Str_isLatin1_6 rfl (lv_at hl 0 rfl) ?_
  refine vk_getf hx hb hC_str hS hown (hT _ k_555) (fun _ h => h) d_Str_isLatin1_7 ?_
  refine lv_if_ne (tgt := 17) hx hb d_Str_isLatin1_10 (by decide) (fun c => absurd (show (0 : Int32) = 0 from by decide +kernel) c) (fun _ => ?_)
  refine lv_iconst (v := 1) hx hb d_Str_isLatin1_13 (by decide) ?_
  refine lv_goto (tgt := 18) hx hb d_Str_isLatin1_14 (by decide) ?_
  have hq := Option.some.inj hf
  subst hq
  exact hret _ _ _ _ _ d_Str_isLatin1_18 (by decide) rfl hP hD hS
theorem d_Str_coder_0 : decode b_Str_coder 0 = .ok (.getstatic 38, 3) := by decide +kernel
theorem d_Str_coder_3 : decode b_Str_coder 3 = .ok (.ifCond .eq 10, 3) := by decide +kernel
theorem d_Str_coder_6 : decode b_Str_coder 6 = .ok (.aload_n 0, 1) := by decide +kernel
theorem d_Str_coder_7 : decode b_Str_coder 7 = .ok (.getfield 15, 3) := by decide +kernel
theorem d_Str_coder_10 : decode b_Str_coder 10 = .ok (.goto 4, 3) := by decide +kernel
theorem d_Str_coder_13 : decode b_Str_coder 13 = .ok (.iconst 1, 1) := by decide +kernel
theorem d_Str_coder_14 : decode b_Str_coder 14 = .ok (.ireturn, 1) := by decide +kernel
set_option maxHeartbeats 4000000 in
set_option maxRecDepth 100000 in
theorem c_Str_coder {l : Launch} {D : va_G} {cI cJ cC : ClassId} {t_LEAST_SETTING t_GREATEST_SETTING t_str t_val : Nat} {q : Int32} (hf : f_Str_coder = some q) : xI l y_Str_coder b_Str_coder 1 .byte 0 0 D (tyK cI cJ cC) (xEv t_LEAST_SETTING t_GREATEST_SETTING t_str t_val) [.ref t_str] [] q [] := by
  refine xI_of (by decide) (Nat.le_of_ble_eq_true rfl) ?_
  intro p e s m args below meth c A Q hx hb hml hown hT hA hP hD hK hS hE hret ls hl
  have hown : s.vm.findClass R_Str = some m.cls := hown
  have hl : lv_has ls 1 [(0, .ref t_str)] := hl
  unfold f_Str_coder at hf
  obtain ⟨hZ_LEAST_SETTING, hT_LEAST_SETTING, hZ_GREATEST_SETTING, hT_GREATEST_SETTING, hZ_CS, hO_str, hC_str, hV_str, hT_str, hR_str, hN_X_outside, hNF_LEAST_SETTING, hNF_GREATEST_SETTING⟩ := id hE
  refine va_gets hx hb hZ_CS hS hown (hT _ k_444) (fun _ h => h) d_Str_coder_0 ?_
  refine lv_if_eq (tgt := 13) hx hb d_Str_coder_3 (by decide) (fun c => absurd c (show ¬ (1 : Int32) = 0 from by decide +kernel)) (fun _ => ?_)
  refine lv_aload_n hx hb d_Str_coder_6 rfl (lv_at hl 0 rfl) ?_
  refine vk_getf hx hb hC_str hS hown (hT _ k_555) (fun _ h => h) d_Str_coder_7 ?_
  refine lv_goto (tgt := 14) hx hb d_Str_coder_10 (by decide) ?_
  have hq := Option.some.inj hf
  subst hq
  exact hret _ _ _ _ _ d_Str_coder_14 (by decide) rfl hP hD hS
theorem d_Str_length_0 : decode b_Str_length 0 = .ok (.aload_n 0, 1) := by decide +kernel
theorem d_Str_length_1 : decode b_Str_length 1 = .ok (.getfield 9, 3) := by decide +kernel
theorem d_Str_length_4 : decode b_Str_length 4 = .ok (.arraylength, 1) := by decide +kernel
theorem d_Str_length_5 : decode b_Str_length 5 = .ok (.aload_n 0, 1) := by decide +kernel
theorem d_Str_length_6 : decode b_Str_length 6 = .ok (.invokevirtual 335, 3) := by decide +kernel
theorem d_Str_length_9 : decode b_Str_length 9 = .ok (.ishr, 1) := by decide +kernel
theorem d_Str_length_10 : decode b_Str_length 10 = .ok (.ireturn, 1) := by decide +kernel
set_option maxHeartbeats 4000000 in
set_option maxRecDepth 100000 in
theorem c_Str_length {l : Launch} {D : va_G} {cI cJ cC : ClassId} {t_LEAST_SETTING t_GREATEST_SETTING t_str t_val : Nat} {q : Int32} (hf : f_Str_length = some q) : xI l y_Str_length b_Str_length 1 .int 1 20 D (tyK cI cJ cC) (xEv t_LEAST_SETTING t_GREATEST_SETTING t_str t_val) [.ref t_str] [] q [] := by
  refine xI_of (by decide) (Nat.le_of_ble_eq_true rfl) ?_
  intro p e s m args below meth c A Q hx hb hml hown hT hA hP hD hK hS hE hret ls hl
  have hown : s.vm.findClass R_Str = some m.cls := hown
  have hl : lv_has ls 1 [(0, .ref t_str)] := hl
  unfold f_Str_length at hf
  obtain ⟨hZ_LEAST_SETTING, hT_LEAST_SETTING, hZ_GREATEST_SETTING, hT_GREATEST_SETTING, hZ_CS, hO_str, hC_str, hV_str, hT_str, hR_str, hN_X_outside, hNF_LEAST_SETTING, hNF_GREATEST_SETTING⟩ := id hE
  refine lv_aload_n hx hb d_Str_length_0 rfl (lv_at hl 0 rfl) ?_
  refine vk_getf hx hb hV_str hS hown (hT _ k_556) (fun _ h => h) d_Str_length_1 ?_
  refine va_tlen (v := 7) hx hb hT_str hS (by decide +kernel) d_Str_length_4 ?_
  refine lv_aload_n hx hb d_Str_length_5 rfl (lv_at hl 0 rfl) ?_
  obtain ⟨q1, hq1, hf⟩ := io_b hf
  refine xcTI (wc := []) (wc' := []) (ws' := []) (As := []) (rest := [.int 7]) hx hb hml hown hT (c_Str_coder hq1) k_450 k_451 k_452 k_8 k_453 hd_Str_coder ⟨Nat.le_of_ble_eq_true rfl, Nat.le_of_ble_eq_true rfl⟩ (xEv_ok _ _ _ _) hE hA hK hP hD hS [] [] [] rfl rfl rfl rfl rfl rfl rfl (x_rec hO_str hS) hl.1 rfl (Nat.le_of_ble_eq_true rfl) ⟨Nat.zero_le _, Nat.zero_le _⟩ d_Str_length_6 (fun H locs hP hD hS => ?_)
  refine lv_ishr hx hb d_Str_length_9 ?_
  have hq := Option.some.inj hf
  subst hq
  exact hret _ _ _ _ _ d_Str_length_10 rfl rfl hP hD hS
theorem d_Lat_canEncode_0 : decode b_Lat_canEncode 0 = .ok (.iload_n 0, 1) := by decide +kernel
theorem d_Lat_canEncode_1 : decode b_Lat_canEncode 1 = .ok (.ifCond .lt 14, 3) := by decide +kernel
theorem d_Lat_canEncode_4 : decode b_Lat_canEncode 4 = .ok (.iload_n 0, 1) := by decide +kernel
theorem d_Lat_canEncode_5 : decode b_Lat_canEncode 5 = .ok (.sipush 255, 3) := by decide +kernel
theorem d_Lat_canEncode_8 : decode b_Lat_canEncode 8 = .ok (.if_icmp .gt 7, 3) := by decide +kernel
theorem d_Lat_canEncode_11 : decode b_Lat_canEncode 11 = .ok (.iconst 1, 1) := by decide +kernel
theorem d_Lat_canEncode_12 : decode b_Lat_canEncode 12 = .ok (.goto 4, 3) := by decide +kernel
theorem d_Lat_canEncode_15 : decode b_Lat_canEncode 15 = .ok (.iconst 0, 1) := by decide +kernel
theorem d_Lat_canEncode_16 : decode b_Lat_canEncode 16 = .ok (.ireturn, 1) := by decide +kernel
set_option maxHeartbeats 4000000 in
set_option maxRecDepth 100000 in
theorem c_Lat_canEncode {l : Launch} {D : va_G} {cI cJ cC : ClassId} {x0 : Int32} {q : Int32} (hf : f_Lat_canEncode x0 = some q) : xI l y_Lat_canEncode b_Lat_canEncode 1 .boolean 0 0 D (tyK cI cJ cC) xE0 [.int x0] [] q [] := by
  refine xI_of (by decide) (Nat.le_of_ble_eq_true rfl) ?_
  intro p e s m args below meth c A Q hx hb hml hown hT hA hP hD hK hS hE hret ls hl
  have hown : s.vm.findClass R_Lat = some m.cls := hown
  have hl : lv_has ls 1 [(0, .int x0)] := hl
  unfold f_Lat_canEncode at hf
  refine lv_iload_n hx hb d_Lat_canEncode_0 rfl (lv_at hl 0 rfl) ?_
  refine lv_if_lt (tgt := 15) hx hb d_Lat_canEncode_1 (by decide) (fun c1 => ?_) (fun c1 => ?_)
  · have hf := io_t hf c1
    refine lv_iconst (v := 0) hx hb d_Lat_canEncode_15 (by decide) ?_
    have hq := Option.some.inj hf
    subst hq
    exact hret _ _ _ _ _ d_Lat_canEncode_16 (by decide) rfl hP hD hS
  · have hf := io_f hf c1
    refine lv_iload_n hx hb d_Lat_canEncode_4 rfl (lv_at hl 0 rfl) ?_
    refine lv_sipush (v := 255) hx hb d_Lat_canEncode_5 (by decide) ?_
    refine lv_icmp_gt (tgt := 15) hx hb d_Lat_canEncode_8 (by decide) (fun c2 => ?_) (fun c2 => ?_)
    · have hf := io_t hf c2
      refine lv_iconst (v := 0) hx hb d_Lat_canEncode_15 (by decide) ?_
      have hq := Option.some.inj hf
      subst hq
      exact hret _ _ _ _ _ d_Lat_canEncode_16 (by decide) rfl hP hD hS
    · have hf := io_f hf c2
      refine lv_iconst (v := 1) hx hb d_Lat_canEncode_11 (by decide) ?_
      refine lv_goto (tgt := 16) hx hb d_Lat_canEncode_12 (by decide) ?_
      have hq := Option.some.inj hf
      subst hq
      exact hret _ _ _ _ _ d_Lat_canEncode_16 (by decide) rfl hP hD hS
theorem d_Lat_indexOfChar_0 : decode b_Lat_indexOfChar 0 = .ok (.iload_n 1, 1) := by decide +kernel
theorem d_Lat_indexOfChar_1 : decode b_Lat_indexOfChar 1 = .ok (.i2b, 1) := by decide +kernel
theorem d_Lat_indexOfChar_2 : decode b_Lat_indexOfChar 2 = .ok (.istore 4, 2) := by decide +kernel
theorem d_Lat_indexOfChar_4 : decode b_Lat_indexOfChar 4 = .ok (.iload_n 2, 1) := by decide +kernel
theorem d_Lat_indexOfChar_5 : decode b_Lat_indexOfChar 5 = .ok (.istore 5, 2) := by decide +kernel
theorem d_Lat_indexOfChar_7 : decode b_Lat_indexOfChar 7 = .ok (.iload 5, 2) := by decide +kernel
theorem d_Lat_indexOfChar_9 : decode b_Lat_indexOfChar 9 = .ok (.iload_n 3, 1) := by decide +kernel
theorem d_Lat_indexOfChar_10 : decode b_Lat_indexOfChar 10 = .ok (.if_icmp .ge 21, 3) := by decide +kernel
theorem d_Lat_indexOfChar_13 : decode b_Lat_indexOfChar 13 = .ok (.aload_n 0, 1) := by decide +kernel
theorem d_Lat_indexOfChar_14 : decode b_Lat_indexOfChar 14 = .ok (.iload 5, 2) := by decide +kernel
theorem d_Lat_indexOfChar_16 : decode b_Lat_indexOfChar 16 = .ok (.baload, 1) := by decide +kernel
theorem d_Lat_indexOfChar_17 : decode b_Lat_indexOfChar 17 = .ok (.iload 4, 2) := by decide +kernel
theorem d_Lat_indexOfChar_19 : decode b_Lat_indexOfChar 19 = .ok (.if_icmp .ne 6, 3) := by decide +kernel
theorem d_Lat_indexOfChar_22 : decode b_Lat_indexOfChar 22 = .ok (.iload 5, 2) := by decide +kernel
theorem d_Lat_indexOfChar_24 : decode b_Lat_indexOfChar 24 = .ok (.ireturn, 1) := by decide +kernel
theorem d_Lat_indexOfChar_25 : decode b_Lat_indexOfChar 25 = .ok (.iinc 5 1, 3) := by decide +kernel
theorem d_Lat_indexOfChar_28 : decode b_Lat_indexOfChar 28 = .ok (.goto (-21), 3) := by decide +kernel
theorem d_Lat_indexOfChar_31 : decode b_Lat_indexOfChar 31 = .ok (.iconst (-1), 1) := by decide +kernel
theorem d_Lat_indexOfChar_32 : decode b_Lat_indexOfChar 32 = .ok (.ireturn, 1) := by decide +kernel
set_option maxHeartbeats 4000000 in
set_option maxRecDepth 100000 in
theorem c_Lat_indexOfChar {l : Launch} {D : va_G} {cI cJ cC : ClassId} {t_LEAST_SETTING t_GREATEST_SETTING t_str t_val : Nat} {x1 : Int32} {x2 : Int32} {x3 : Int32} {q : Int32} (hf : f_Lat_indexOfChar x1 x2 x3 = some q) : xI l y_Lat_indexOfChar b_Lat_indexOfChar 6 .int 0 0 D (tyK cI cJ cC) (xEv t_LEAST_SETTING t_GREATEST_SETTING t_str t_val) [.ref t_val, .int x1, .int x2, .int x3] [] q [] := by
  refine xI_of (by decide) (Nat.le_of_ble_eq_true rfl) ?_
  intro p e s m args below meth c A Q hx hb hml hown hT hA hP hD hK hS hE hret ls hl
  have hown : s.vm.findClass R_Lat = some m.cls := hown
  have hl : lv_has ls 6 [(0, .ref t_val), (1, .int x1), (2, .int x2), (3, .int x3)] := hl
  unfold f_Lat_indexOfChar at hf
  obtain ⟨hZ_LEAST_SETTING, hT_LEAST_SETTING, hZ_GREATEST_SETTING, hT_GREATEST_SETTING, hZ_CS, hO_str, hC_str, hV_str, hT_str, hR_str, hN_X_outside, hNF_LEAST_SETTING, hNF_GREATEST_SETTING⟩ := id hE
  have L7 : ∀ (x4 : Int32), ∀ (n : Nat) (x5 : Int32) (H : Heap) (locs : List Loc) (ls : Array Slot), f_Lat_indexOfChar_L7 x3 x4 n x5 = some q → va_P D classes [] H → va_D A [] → va_S A s.heap H locs → lv_has ls 6 [(0, .ref t_val), (3, .int x3), (4, .int x4), (5, .int x5)] → W p l e (xRm 0 0) s m args below meth c H locs 0 0 Q (F0 m 7 ls []) := by
    intro x4 n
    induction n with
    | zero => intro x5 H locs ls hf hP hD hS hl; exact nomatch (show (none : Option (Int32)) = some q from hf)
    | succ n ih =>
      intro x5 H locs ls hf hP hD hS hl
      refine lv_iload hx hb d_Lat_indexOfChar_7 (lv_at hl 3 rfl) ?_
      refine lv_iload_n hx hb d_Lat_indexOfChar_9 rfl (lv_at hl 1 rfl) ?_
      refine lv_icmp_ge (tgt := 31) hx hb d_Lat_indexOfChar_10 (by decide) (fun c1 => ?_) (fun c1 => ?_)
      · have hf := io_t hf c1
        refine lv_iconst (v := (-1)) hx hb d_Lat_indexOfChar_31 (by decide) ?_
        have hq := Option.some.inj hf
        subst hq
        exact hret _ _ _ _ _ d_Lat_indexOfChar_32 rfl rfl hP hD hS
      · have hf := io_f hf c1
        refine lv_aload_n hx hb d_Lat_indexOfChar_13 rfl (lv_at hl 0 rfl) ?_
        refine lv_iload hx hb d_Lat_indexOfChar_14 (lv_at hl 3 rfl) ?_
        obtain ⟨c2, hf⟩ := io_n hf
        refine va_tb (v := .int (s_text x5.toNatClampNeg)) hx hb hT_str hS c2 rfl d_Lat_indexOfChar_16 ?_
        refine lv_iload hx hb d_Lat_indexOfChar_17 (lv_at hl 2 rfl) ?_
        refine lv_icmp_ne (tgt := 25) hx hb d_Lat_indexOfChar_19 (by decide) (fun c3 => ?_) (fun c3 => ?_)
        · have hf := io_f hf c3
          refine lv_iinc (v := (x5 + 1)) (lv' := [(5, .int (x5 + 1)), (0, .ref t_val), (3, .int x3), (4, .int x4)]) hx hb d_Lat_indexOfChar_25 hl (k := 3) rfl (by rfl) (by decide) rfl (fun ls hl => ?_)
          refine lv_goto (tgt := 7) hx hb d_Lat_indexOfChar_28 (by decide) ?_
          exact ih (x5 + 1) _ _ _ hf hP hD hS (lv_sub hl [1, 2, 3, 0] rfl)
        · have hf := io_t hf c3
          refine lv_iload hx hb d_Lat_indexOfChar_22 (lv_at hl 3 rfl) ?_
          have hq := Option.some.inj hf
          subst hq
          exact hret _ _ _ _ _ d_Lat_indexOfChar_24 rfl rfl hP hD hS
  refine lv_iload_n hx hb d_Lat_indexOfChar_0 rfl (lv_at hl 1 rfl) ?_
  refine lv_i2b (v := (x1.toInt8.toInt32)) hx hb d_Lat_indexOfChar_1 rfl ?_
  refine lv_istore (lv' := [(4, .int (x1.toInt8.toInt32)), (0, .ref t_val), (1, .int x1), (2, .int x2), (3, .int x3)]) hx hb d_Lat_indexOfChar_2 hl (by decide) rfl (fun ls hl => ?_)
  refine lv_iload_n hx hb d_Lat_indexOfChar_4 rfl (lv_at hl 3 rfl) ?_
  refine lv_istore (lv' := [(5, .int x2), (4, .int (x1.toInt8.toInt32)), (0, .ref t_val), (1, .int x1), (2, .int x2), (3, .int x3)]) hx hb d_Lat_indexOfChar_5 hl (by decide) rfl (fun ls hl => ?_)
  exact L7 (x1.toInt8.toInt32) FU x2 _ _ _ hf hP hD hS (lv_sub hl [2, 5, 1, 0] rfl)
theorem d_Lat_indexOf_0 : decode b_Lat_indexOf 0 = .ok (.iload_n 1, 1) := by decide +kernel
theorem d_Lat_indexOf_1 : decode b_Lat_indexOf 1 = .ok (.invokestatic 88, 3) := by decide +kernel
theorem d_Lat_indexOf_4 : decode b_Lat_indexOf 4 = .ok (.ifCond .ne 5, 3) := by decide +kernel
theorem d_Lat_indexOf_7 : decode b_Lat_indexOf 7 = .ok (.iconst (-1), 1) := by decide +kernel
theorem d_Lat_indexOf_8 : decode b_Lat_indexOf 8 = .ok (.ireturn, 1) := by decide +kernel
theorem d_Lat_indexOf_9 : decode b_Lat_indexOf 9 = .ok (.iload_n 2, 1) := by decide +kernel
theorem d_Lat_indexOf_10 : decode b_Lat_indexOf 10 = .ok (.iconst 0, 1) := by decide +kernel
theorem d_Lat_indexOf_11 : decode b_Lat_indexOf 11 = .ok (.invokestatic 92, 3) := by decide +kernel
theorem d_Lat_indexOf_14 : decode b_Lat_indexOf 14 = .ok (.istore_n 2, 1) := by decide +kernel
theorem d_Lat_indexOf_15 : decode b_Lat_indexOf 15 = .ok (.iload_n 3, 1) := by decide +kernel
theorem d_Lat_indexOf_16 : decode b_Lat_indexOf 16 = .ok (.aload_n 0, 1) := by decide +kernel
theorem d_Lat_indexOf_17 : decode b_Lat_indexOf 17 = .ok (.arraylength, 1) := by decide +kernel
theorem d_Lat_indexOf_18 : decode b_Lat_indexOf 18 = .ok (.invokestatic 38, 3) := by decide +kernel
theorem d_Lat_indexOf_21 : decode b_Lat_indexOf 21 = .ok (.istore_n 3, 1) := by decide +kernel
theorem d_Lat_indexOf_22 : decode b_Lat_indexOf 22 = .ok (.iload_n 2, 1) := by decide +kernel
theorem d_Lat_indexOf_23 : decode b_Lat_indexOf 23 = .ok (.iload_n 3, 1) := by decide +kernel
theorem d_Lat_indexOf_24 : decode b_Lat_indexOf 24 = .ok (.if_icmp .lt 5, 3) := by decide +kernel
theorem d_Lat_indexOf_27 : decode b_Lat_indexOf 27 = .ok (.iconst (-1), 1) := by decide +kernel
theorem d_Lat_indexOf_28 : decode b_Lat_indexOf 28 = .ok (.ireturn, 1) := by decide +kernel
theorem d_Lat_indexOf_29 : decode b_Lat_indexOf 29 = .ok (.aload_n 0, 1) := by decide +kernel
theorem d_Lat_indexOf_30 : decode b_Lat_indexOf 30 = .ok (.iload_n 1, 1) := by decide +kernel
theorem d_Lat_indexOf_31 : decode b_Lat_indexOf 31 = .ok (.iload_n 2, 1) := by decide +kernel
theorem d_Lat_indexOf_32 : decode b_Lat_indexOf 32 = .ok (.iload_n 3, 1) := by decide +kernel
theorem d_Lat_indexOf_33 : decode b_Lat_indexOf 33 = .ok (.invokestatic 95, 3) := by decide +kernel
theorem d_Lat_indexOf_36 : decode b_Lat_indexOf 36 = .ok (.ireturn, 1) := by decide +kernel
set_option maxHeartbeats 4000000 in
set_option maxRecDepth 100000 in
theorem c_Lat_indexOf {l : Launch} {D : va_G} {cI cJ cC : ClassId} {t_LEAST_SETTING t_GREATEST_SETTING t_str t_val : Nat} {x1 : Int32} {x2 : Int32} {x3 : Int32} {q : Int32} (hf : f_Lat_indexOf x1 x2 x3 = some q) : xI l y_Lat_indexOf b_Lat_indexOf 4 .int 1 25 D (tyK cI cJ cC) (xEv t_LEAST_SETTING t_GREATEST_SETTING t_str t_val) [.ref t_val, .int x1, .int x2, .int x3] [] q [] := by
  refine xI_of (by decide) (Nat.le_of_ble_eq_true rfl) ?_
  intro p e s m args below meth c A Q hx hb hml hown hT hA hP hD hK hS hE hret ls hl
  have hown : s.vm.findClass R_Lat = some m.cls := hown
  have hl : lv_has ls 4 [(0, .ref t_val), (1, .int x1), (2, .int x2), (3, .int x3)] := hl
  unfold f_Lat_indexOf at hf
  obtain ⟨hZ_LEAST_SETTING, hT_LEAST_SETTING, hZ_GREATEST_SETTING, hT_GREATEST_SETTING, hZ_CS, hO_str, hC_str, hV_str, hT_str, hR_str, hN_X_outside, hNF_LEAST_SETTING, hNF_GREATEST_SETTING⟩ := id hE
  refine lv_iload_n hx hb d_Lat_indexOf_0 rfl (lv_at hl 1 rfl) ?_
  obtain ⟨q1, hq1, hf⟩ := io_b hf
  refine xcSI (wc := []) (wc' := []) (ws' := []) (As := [.int x1]) (rest := []) hx hb hml hown hT (c_Lat_canEncode hq1) k_457 k_458 k_9 k_459 hd_Lat_canEncode ⟨Nat.le_of_ble_eq_true rfl, Nat.le_of_ble_eq_true rfl⟩ xE0_ok trivial hA hK hP hD hS [] [] [] rfl rfl rfl rfl rfl rfl rfl hl.1 rfl (Nat.le_of_ble_eq_true rfl) ⟨Nat.zero_le _, Nat.zero_le _⟩ d_Lat_indexOf_1 (fun H locs hP hD hS => ?_)
  refine lv_if_ne (tgt := 9) hx hb d_Lat_indexOf_4 (by decide) (fun c2 => ?_) (fun c2 => ?_)
  · have hf := io_f hf c2
    refine lv_iload_n hx hb d_Lat_indexOf_9 rfl (lv_at hl 2 rfl) ?_
    refine lv_iconst (v := 0) hx hb d_Lat_indexOf_10 (by decide) ?_
    refine va_mmax hx hb (hml.trans hl.1.symm) hown (hT _ k_460) (hT _ k_378) (hT _ k_10) (hT _ k_379) (Nat.le_of_ble_eq_true rfl) (Nat.le_of_ble_eq_true rfl) (Nat.zero_le _) (Nat.zero_le _) d_Lat_indexOf_11 ?_
    refine lv_istore_n (lv' := [(2, .int (jmax x2 0)), (0, .ref t_val), (1, .int x1), (3, .int x3)]) hx hb d_Lat_indexOf_14 rfl hl (by decide) rfl (fun ls hl => ?_)
    refine lv_iload_n hx hb d_Lat_indexOf_15 rfl (lv_at hl 3 rfl) ?_
    refine lv_aload_n hx hb d_Lat_indexOf_16 rfl (lv_at hl 1 rfl) ?_
    refine va_tlen (v := 7) hx hb hT_str hS (by decide +kernel) d_Lat_indexOf_17 ?_
    refine va_mmin hx hb (hml.trans hl.1.symm) hown (hT _ k_461) (hT _ k_235) (hT _ k_10) (hT _ k_236) (Nat.le_of_ble_eq_true rfl) (Nat.le_of_ble_eq_true rfl) (Nat.zero_le _) (Nat.zero_le _) d_Lat_indexOf_18 ?_
    refine lv_istore_n (lv' := [(3, .int (jmin x3 7)), (2, .int (jmax x2 0)), (0, .ref t_val), (1, .int x1)]) hx hb d_Lat_indexOf_21 rfl hl (by decide) rfl (fun ls hl => ?_)
    refine lv_iload_n hx hb d_Lat_indexOf_22 rfl (lv_at hl 1 rfl) ?_
    refine lv_iload_n hx hb d_Lat_indexOf_23 rfl (lv_at hl 0 rfl) ?_
    refine lv_icmp_lt (tgt := 29) hx hb d_Lat_indexOf_24 (by decide) (fun c3 => ?_) (fun c3 => ?_)
    · have hf := io_t hf c3
      refine lv_aload_n hx hb d_Lat_indexOf_29 rfl (lv_at hl 2 rfl) ?_
      refine lv_iload_n hx hb d_Lat_indexOf_30 rfl (lv_at hl 3 rfl) ?_
      refine lv_iload_n hx hb d_Lat_indexOf_31 rfl (lv_at hl 1 rfl) ?_
      refine lv_iload_n hx hb d_Lat_indexOf_32 rfl (lv_at hl 0 rfl) ?_
      obtain ⟨q4, hq4, hf⟩ := io_b hf
      refine xcSI (wc := []) (wc' := []) (ws' := []) (As := [.ref t_val, .int x1, .int (jmax x2 0), .int (jmin x3 7)]) (rest := []) hx hb hml hown hT (c_Lat_indexOfChar hq4) k_462 k_463 k_9 k_464 hd_Lat_indexOfChar ⟨Nat.le_of_ble_eq_true rfl, Nat.le_of_ble_eq_true rfl⟩ (xEv_ok _ _ _ _) hE hA hK hP hD hS [] [] [] rfl rfl rfl rfl rfl rfl rfl hl.1 rfl (Nat.le_of_ble_eq_true rfl) ⟨Nat.zero_le _, Nat.zero_le _⟩ d_Lat_indexOf_33 (fun H locs hP hD hS => ?_)
      have hq := Option.some.inj hf
      subst hq
      exact hret _ _ _ _ _ d_Lat_indexOf_36 rfl rfl hP hD hS
    · have hf := io_f hf c3
      refine lv_iconst (v := (-1)) hx hb d_Lat_indexOf_27 (by decide) ?_
      have hq := Option.some.inj hf
      subst hq
      exact hret _ _ _ _ _ d_Lat_indexOf_28 rfl rfl hP hD hS
  · have hf := io_t hf c2
    refine lv_iconst (v := (-1)) hx hb d_Lat_indexOf_7 (by decide) ?_
    have hq := Option.some.inj hf
    subst hq
    exact hret _ _ _ _ _ d_Lat_indexOf_8 rfl rfl hP hD hS
theorem d_Str_indexOf2_0 : decode b_Str_indexOf2 0 = .ok (.aload_n 0, 1) := by decide +kernel
theorem d_Str_indexOf2_1 : decode b_Str_indexOf2 1 = .ok (.invokevirtual 492, 3) := by decide +kernel
theorem d_Str_indexOf2_4 : decode b_Str_indexOf2 4 = .ok (.ifCond .eq 19, 3) := by decide +kernel
theorem d_Str_indexOf2_7 : decode b_Str_indexOf2 7 = .ok (.aload_n 0, 1) := by decide +kernel
theorem d_Str_indexOf2_8 : decode b_Str_indexOf2 8 = .ok (.getfield 9, 3) := by decide +kernel
theorem d_Str_indexOf2_11 : decode b_Str_indexOf2 11 = .ok (.iload_n 1, 1) := by decide +kernel
theorem d_Str_indexOf2_12 : decode b_Str_indexOf2 12 = .ok (.iload_n 2, 1) := by decide +kernel
theorem d_Str_indexOf2_13 : decode b_Str_indexOf2 13 = .ok (.aload_n 0, 1) := by decide +kernel
theorem d_Str_indexOf2_14 : decode b_Str_indexOf2 14 = .ok (.invokevirtual 505, 3) := by decide +kernel
theorem d_Str_indexOf2_17 : decode b_Str_indexOf2 17 = .ok (.invokestatic 637, 3) := by decide +kernel
theorem d_Str_indexOf2_20 : decode b_Str_indexOf2 20 = .ok (.goto 16, 3) := by decide +kernel
theorem d_Str_indexOf2_23 : decode b_Str_indexOf2 23 = .ok (.aload_n 0, 1) := by decide +kernel
theorem d_Str_indexOf2_24 : decode b_Str_indexOf2 24 = .ok (.getfield 9, 3) := by decide +kernel
theorem d_Str_indexOf2_27 : decode b_Str_indexOf2 27 = .ok (.iload_n 1, 1) := by decide +kernel
theorem d_Str_indexOf2_28 : decode b_Str_indexOf2 28 = .ok (.iload_n 2, 1) := by decide +kernel
theorem d_Str_indexOf2_29 : decode b_Str_indexOf2 29 = .ok (.aload_n 0, 1) := by decide +kernel
theorem d_Str_indexOf2_30 : decode b_Str_indexOf2 30 = .ok (.invokevirtual 505, 3) := by decide +kernel
theorem d_Str_indexOf2_33 : decode b_Str_indexOf2 33 = .ok (.invokestatic 640, 3) := by decide +kernel
theorem d_Str_indexOf2_36 : decode b_Str_indexOf2 36 = .ok (.ireturn, 1) := by decide +kernel
set_option maxHeartbeats 4000000 in
set_option maxRecDepth 100000 in
theorem c_Str_indexOf2 {l : Launch} {D : va_G} {cI cJ cC : ClassId} {t_LEAST_SETTING t_GREATEST_SETTING t_str t_val : Nat} {x1 : Int32} {x2 : Int32} {q : Int32} (hf : f_Str_indexOf2 x1 x2 = some q) : xI l y_Str_indexOf2 b_Str_indexOf2 3 .int 2 48 D (tyK cI cJ cC) (xEv t_LEAST_SETTING t_GREATEST_SETTING t_str t_val) [.ref t_str, .int x1, .int x2] [] q [] := by
  refine xI_of (by decide) (Nat.le_of_ble_eq_true rfl) ?_
  intro p e s m args below meth c A Q hx hb hml hown hT hA hP hD hK hS hE hret ls hl
  have hown : s.vm.findClass R_Str = some m.cls := hown
  have hl : lv_has ls 3 [(0, .ref t_str), (1, .int x1), (2, .int x2)] := hl
  unfold f_Str_indexOf2 at hf
  obtain ⟨hZ_LEAST_SETTING, hT_LEAST_SETTING, hZ_GREATEST_SETTING, hT_GREATEST_SETTING, hZ_CS, hO_str, hC_str, hV_str, hT_str, hR_str, hN_X_outside, hNF_LEAST_SETTING, hNF_GREATEST_SETTING⟩ := id hE
  refine lv_aload_n hx hb d_Str_indexOf2_0 rfl (lv_at hl 0 rfl) ?_
  obtain ⟨q1, hq1, hf⟩ := io_b hf
  refine xcTI (wc := []) (wc' := []) (ws' := []) (As := []) (rest := []) hx hb hml hown hT (c_Str_isLatin1 hq1) k_440 k_441 k_442 k_8 k_443 hd_Str_isLatin1 ⟨Nat.le_of_ble_eq_true rfl, Nat.le_of_ble_eq_true rfl⟩ (xEv_ok _ _ _ _) hE hA hK hP hD hS [] [] [] rfl rfl rfl rfl rfl rfl rfl (x_rec hO_str hS) hl.1 rfl (Nat.le_of_ble_eq_true rfl) ⟨Nat.zero_le _, Nat.zero_le _⟩ d_Str_indexOf2_1 (fun H locs hP hD hS => ?_)
  refine lv_if_eq (tgt := 23) hx hb d_Str_indexOf2_4 (by decide) (fun c2 => ?_) (fun c2 => ?_)
  · have hf := io_t hf c2
    refine lv_aload_n hx hb d_Str_indexOf2_23 rfl (lv_at hl 0 rfl) ?_
    refine vk_getf hx hb hV_str hS hown (hT _ k_556) (fun _ h => h) d_Str_indexOf2_24 ?_
    refine lv_iload_n hx hb d_Str_indexOf2_27 rfl (lv_at hl 1 rfl) ?_
    refine lv_iload_n hx hb d_Str_indexOf2_28 rfl (lv_at hl 2 rfl) ?_
    refine lv_aload_n hx hb d_Str_indexOf2_29 rfl (lv_at hl 0 rfl) ?_
    obtain ⟨q3, hq3, hf⟩ := io_b hf
    refine xcTI (wc := []) (wc' := []) (ws' := []) (As := []) (rest := [.int x2, .int x1, .ref t_val]) hx hb hml hown hT (c_Str_length hq3) k_446 k_447 k_448 k_8 k_449 hd_Str_length ⟨Nat.le_of_ble_eq_true rfl, Nat.le_of_ble_eq_true rfl⟩ (xEv_ok _ _ _ _) hE hA hK hP hD hS [] [] [] rfl rfl rfl rfl rfl rfl rfl (x_rec hO_str hS) hl.1 rfl (Nat.le_of_ble_eq_true rfl) ⟨Nat.zero_le _, Nat.zero_le _⟩ d_Str_indexOf2_30 (fun H locs hP hD hS => ?_)
    exact nomatch (show (none : Option (Int32)) = some q from hf)
  · have hf := io_f hf c2
    refine lv_aload_n hx hb d_Str_indexOf2_7 rfl (lv_at hl 0 rfl) ?_
    refine vk_getf hx hb hV_str hS hown (hT _ k_556) (fun _ h => h) d_Str_indexOf2_8 ?_
    refine lv_iload_n hx hb d_Str_indexOf2_11 rfl (lv_at hl 1 rfl) ?_
    refine lv_iload_n hx hb d_Str_indexOf2_12 rfl (lv_at hl 2 rfl) ?_
    refine lv_aload_n hx hb d_Str_indexOf2_13 rfl (lv_at hl 0 rfl) ?_
    obtain ⟨q4, hq4, hf⟩ := io_b hf
    refine xcTI (wc := []) (wc' := []) (ws' := []) (As := []) (rest := [.int x2, .int x1, .ref t_val]) hx hb hml hown hT (c_Str_length hq4) k_446 k_447 k_448 k_8 k_449 hd_Str_length ⟨Nat.le_of_ble_eq_true rfl, Nat.le_of_ble_eq_true rfl⟩ (xEv_ok _ _ _ _) hE hA hK hP hD hS [] [] [] rfl rfl rfl rfl rfl rfl rfl (x_rec hO_str hS) hl.1 rfl (Nat.le_of_ble_eq_true rfl) ⟨Nat.zero_le _, Nat.zero_le _⟩ d_Str_indexOf2_14 (fun H locs hP hD hS => ?_)
    obtain ⟨q5, hq5, hf⟩ := io_b hf
    refine xcSI (wc := []) (wc' := []) (ws' := []) (As := [.ref t_val, .int x1, .int x2, .int q4]) (rest := []) hx hb hml hown hT (c_Lat_indexOf hq5) k_454 k_455 k_9 k_456 hd_Lat_indexOf ⟨Nat.le_of_ble_eq_true rfl, Nat.le_of_ble_eq_true rfl⟩ (xEv_ok _ _ _ _) hE hA hK hP hD hS [] [] [] rfl rfl rfl rfl rfl rfl rfl hl.1 rfl (Nat.le_of_ble_eq_true rfl) ⟨Nat.zero_le _, Nat.zero_le _⟩ d_Str_indexOf2_17 (fun H locs hP hD hS => ?_)
    refine lv_goto (tgt := 36) hx hb d_Str_indexOf2_20 (by decide) ?_
    have hq := Option.some.inj hf
    subst hq
    exact hret _ _ _ _ _ d_Str_indexOf2_36 rfl rfl hP hD hS
theorem d_Str_indexOf1_0 : decode b_Str_indexOf1 0 = .ok (.aload_n 0, 1) := by decide +kernel
theorem d_Str_indexOf1_1 : decode b_Str_indexOf1 1 = .ok (.iload_n 1, 1) := by decide +kernel
theorem d_Str_indexOf1_2 : decode b_Str_indexOf1 2 = .ok (.iconst 0, 1) := by decide +kernel
theorem d_Str_indexOf1_3 : decode b_Str_indexOf1 3 = .ok (.invokevirtual 633, 3) := by decide +kernel
theorem d_Str_indexOf1_6 : decode b_Str_indexOf1 6 = .ok (.ireturn, 1) := by decide +kernel
set_option maxHeartbeats 4000000 in
set_option maxRecDepth 100000 in
theorem c_Str_indexOf1 {l : Launch} {D : va_G} {cI cJ cC : ClassId} {t_LEAST_SETTING t_GREATEST_SETTING t_str t_val : Nat} {x1 : Int32} {q : Int32} (hf : f_Str_indexOf1 x1 = some q) : xI l y_Str_indexOf1 b_Str_indexOf1 2 .int 3 70 D (tyK cI cJ cC) (xEv t_LEAST_SETTING t_GREATEST_SETTING t_str t_val) [.ref t_str, .int x1] [] q [] := by
  refine xI_of (by decide) (Nat.le_of_ble_eq_true rfl) ?_
  intro p e s m args below meth c A Q hx hb hml hown hT hA hP hD hK hS hE hret ls hl
  have hown : s.vm.findClass R_Str = some m.cls := hown
  have hl : lv_has ls 2 [(0, .ref t_str), (1, .int x1)] := hl
  unfold f_Str_indexOf1 at hf
  obtain ⟨hZ_LEAST_SETTING, hT_LEAST_SETTING, hZ_GREATEST_SETTING, hT_GREATEST_SETTING, hZ_CS, hO_str, hC_str, hV_str, hT_str, hR_str, hN_X_outside, hNF_LEAST_SETTING, hNF_GREATEST_SETTING⟩ := id hE
  refine lv_aload_n hx hb d_Str_indexOf1_0 rfl (lv_at hl 0 rfl) ?_
  refine lv_iload_n hx hb d_Str_indexOf1_1 rfl (lv_at hl 1 rfl) ?_
  refine lv_iconst (v := 0) hx hb d_Str_indexOf1_2 (by decide) ?_
  obtain ⟨q1, hq1, hf⟩ := io_b hf
  refine xcTI (wc := []) (wc' := []) (ws' := []) (As := [.int x1, .int 0]) (rest := []) hx hb hml hown hT (c_Str_indexOf2 hq1) k_436 k_437 k_438 k_8 k_439 hd_Str_indexOf2 ⟨Nat.le_of_ble_eq_true rfl, Nat.le_of_ble_eq_true rfl⟩ (xEv_ok _ _ _ _) hE hA hK hP hD hS [] [] [] rfl rfl rfl rfl rfl rfl rfl (x_rec hO_str hS) hl.1 rfl (Nat.le_of_ble_eq_true rfl) ⟨Nat.zero_le _, Nat.zero_le _⟩ d_Str_indexOf1_3 (fun H locs hP hD hS => ?_)
  have hq := Option.some.inj hf
  subst hq
  exact hret _ _ _ _ _ d_Str_indexOf1_6 rfl rfl hP hD hS
theorem d_Letters_behind_0 : decode b_Letters_behind 0 = .ok (.iload_n 0, 1) := by decide +kernel
theorem d_Letters_behind_1 : decode b_Letters_behind 1 = .ok (.tableswitch 144 0 7 #[47, 52, 67, 80, 96, 112, 117, 131], 47) := by decide +kernel
theorem d_Letters_behind_48 : decode b_Letters_behind 48 = .ok (.iload_n 1, 1) := by decide +kernel
theorem d_Letters_behind_49 : decode b_Letters_behind 49 = .ok (.invokestatic 42, 3) := by decide +kernel
theorem d_Letters_behind_52 : decode b_Letters_behind 52 = .ok (.ireturn, 1) := by decide +kernel
theorem d_Letters_behind_53 : decode b_Letters_behind 53 = .ok (.ldc 46, 2) := by decide +kernel
theorem d_Letters_behind_55 : decode b_Letters_behind 55 = .ok (.iload_n 1, 1) := by decide +kernel
theorem d_Letters_behind_56 : decode b_Letters_behind 56 = .ok (.invokevirtual 48, 3) := by decide +kernel
theorem d_Letters_behind_59 : decode b_Letters_behind 59 = .ok (.ifCond .lt 7, 3) := by decide +kernel
theorem d_Letters_behind_62 : decode b_Letters_behind 62 = .ok (.iconst 2, 1) := by decide +kernel
theorem d_Letters_behind_63 : decode b_Letters_behind 63 = .ok (.goto 4, 3) := by decide +kernel
theorem d_Letters_behind_66 : decode b_Letters_behind 66 = .ok (.iconst (-1), 1) := by decide +kernel
theorem d_Letters_behind_67 : decode b_Letters_behind 67 = .ok (.ireturn, 1) := by decide +kernel
theorem d_Letters_behind_68 : decode b_Letters_behind 68 = .ok (.iload_n 1, 1) := by decide +kernel
theorem d_Letters_behind_69 : decode b_Letters_behind 69 = .ok (.invokestatic 54, 3) := by decide +kernel
theorem d_Letters_behind_72 : decode b_Letters_behind 72 = .ok (.ifCond .eq 7, 3) := by decide +kernel
theorem d_Letters_behind_75 : decode b_Letters_behind 75 = .ok (.iconst 3, 1) := by decide +kernel
theorem d_Letters_behind_76 : decode b_Letters_behind 76 = .ok (.goto 4, 3) := by decide +kernel
theorem d_Letters_behind_79 : decode b_Letters_behind 79 = .ok (.iconst (-1), 1) := by decide +kernel
theorem d_Letters_behind_80 : decode b_Letters_behind 80 = .ok (.ireturn, 1) := by decide +kernel
theorem d_Letters_behind_81 : decode b_Letters_behind 81 = .ok (.iload_n 1, 1) := by decide +kernel
theorem d_Letters_behind_82 : decode b_Letters_behind 82 = .ok (.invokestatic 54, 3) := by decide +kernel
theorem d_Letters_behind_85 : decode b_Letters_behind 85 = .ok (.ifCond .eq 7, 3) := by decide +kernel
theorem d_Letters_behind_88 : decode b_Letters_behind 88 = .ok (.iconst 4, 1) := by decide +kernel
theorem d_Letters_behind_89 : decode b_Letters_behind 89 = .ok (.goto 7, 3) := by decide +kernel
theorem d_Letters_behind_92 : decode b_Letters_behind 92 = .ok (.iload_n 1, 1) := by decide +kernel
theorem d_Letters_behind_93 : decode b_Letters_behind 93 = .ok (.invokestatic 58, 3) := by decide +kernel
theorem d_Letters_behind_96 : decode b_Letters_behind 96 = .ok (.ireturn, 1) := by decide +kernel
theorem d_Letters_behind_97 : decode b_Letters_behind 97 = .ok (.iload_n 1, 1) := by decide +kernel
theorem d_Letters_behind_98 : decode b_Letters_behind 98 = .ok (.invokestatic 54, 3) := by decide +kernel
theorem d_Letters_behind_101 : decode b_Letters_behind 101 = .ok (.ifCond .eq 7, 3) := by decide +kernel
theorem d_Letters_behind_104 : decode b_Letters_behind 104 = .ok (.iconst 5, 1) := by decide +kernel
theorem d_Letters_behind_105 : decode b_Letters_behind 105 = .ok (.goto 7, 3) := by decide +kernel
theorem d_Letters_behind_108 : decode b_Letters_behind 108 = .ok (.iload_n 1, 1) := by decide +kernel
theorem d_Letters_behind_109 : decode b_Letters_behind 109 = .ok (.invokestatic 58, 3) := by decide +kernel
theorem d_Letters_behind_112 : decode b_Letters_behind 112 = .ok (.ireturn, 1) := by decide +kernel
theorem d_Letters_behind_113 : decode b_Letters_behind 113 = .ok (.iload_n 1, 1) := by decide +kernel
theorem d_Letters_behind_114 : decode b_Letters_behind 114 = .ok (.invokestatic 58, 3) := by decide +kernel
theorem d_Letters_behind_117 : decode b_Letters_behind 117 = .ok (.ireturn, 1) := by decide +kernel
theorem d_Letters_behind_118 : decode b_Letters_behind 118 = .ok (.iload_n 1, 1) := by decide +kernel
theorem d_Letters_behind_119 : decode b_Letters_behind 119 = .ok (.invokestatic 54, 3) := by decide +kernel
theorem d_Letters_behind_122 : decode b_Letters_behind 122 = .ok (.ifCond .eq 8, 3) := by decide +kernel
theorem d_Letters_behind_125 : decode b_Letters_behind 125 = .ok (.bipush 7, 2) := by decide +kernel
theorem d_Letters_behind_127 : decode b_Letters_behind 127 = .ok (.goto 4, 3) := by decide +kernel
theorem d_Letters_behind_130 : decode b_Letters_behind 130 = .ok (.iconst (-1), 1) := by decide +kernel
theorem d_Letters_behind_131 : decode b_Letters_behind 131 = .ok (.ireturn, 1) := by decide +kernel
theorem d_Letters_behind_132 : decode b_Letters_behind 132 = .ok (.iload_n 1, 1) := by decide +kernel
theorem d_Letters_behind_133 : decode b_Letters_behind 133 = .ok (.invokestatic 54, 3) := by decide +kernel
theorem d_Letters_behind_136 : decode b_Letters_behind 136 = .ok (.ifCond .eq 7, 3) := by decide +kernel
theorem d_Letters_behind_139 : decode b_Letters_behind 139 = .ok (.iconst 5, 1) := by decide +kernel
theorem d_Letters_behind_140 : decode b_Letters_behind 140 = .ok (.goto 4, 3) := by decide +kernel
theorem d_Letters_behind_143 : decode b_Letters_behind 143 = .ok (.iconst (-1), 1) := by decide +kernel
theorem d_Letters_behind_144 : decode b_Letters_behind 144 = .ok (.ireturn, 1) := by decide +kernel
theorem d_Letters_behind_145 : decode b_Letters_behind 145 = .ok (.iconst (-1), 1) := by decide +kernel
theorem d_Letters_behind_146 : decode b_Letters_behind 146 = .ok (.ireturn, 1) := by decide +kernel
set_option maxHeartbeats 4000000 in
set_option maxRecDepth 100000 in
theorem c_Letters_behind {l : Launch} {D : va_G} {cI cJ cC : ClassId} {t_LEAST_SETTING t_GREATEST_SETTING t_str t_val : Nat} {x0 : Int32} {x1 : Int32} {q : Int32} (hf : f_Letters_behind x0 x1 = some q) : xI l y_Letters_behind b_Letters_behind 2 .int 4 91 D (tyK cI cJ cC) (xEv t_LEAST_SETTING t_GREATEST_SETTING t_str t_val) [.int x0, .int x1] [] q [] := by
  refine xI_of (by decide) (Nat.le_of_ble_eq_true rfl) ?_
  intro p e s m args below meth c A Q hx hb hml hown hT hA hP hD hK hS hE hret ls hl
  have hown : s.vm.findClass R_Letters = some m.cls := hown
  have hl : lv_has ls 2 [(0, .int x0), (1, .int x1)] := hl
  unfold f_Letters_behind at hf
  obtain ⟨hZ_LEAST_SETTING, hT_LEAST_SETTING, hZ_GREATEST_SETTING, hT_GREATEST_SETTING, hZ_CS, hO_str, hC_str, hV_str, hT_str, hR_str, hN_X_outside, hNF_LEAST_SETTING, hNF_GREATEST_SETTING⟩ := id hE
  refine lv_iload_n hx hb d_Letters_behind_0 rfl (lv_at hl 0 rfl) ?_
  rcases Decidable.em (x0 = 0) with c1 | c1
  · have hf := io_t hf c1
    refine lv_tableIn (off := 47) (tgt := 48) hx hb d_Letters_behind_1 (by rw [c1]; decide +kernel) (by rw [c1]; decide +kernel) (by rw [c1]; rfl) (by decide) ?_
    refine lv_iload_n hx hb d_Letters_behind_48 rfl (lv_at hl 1 rfl) ?_
    obtain ⟨q2, hq2, hf⟩ := io_b hf
    refine xcSI (wc := []) (wc' := []) (ws' := []) (As := [.int x1]) (rest := []) hx hb hml hown hT (c_Letters_behindStart hq2) k_428 k_429 k_3 k_430 hd_Letters_behindStart ⟨Nat.le_of_ble_eq_true rfl, Nat.le_of_ble_eq_true rfl⟩ xE0_ok trivial hA hK hP hD hS [] [] [] rfl rfl rfl rfl rfl rfl rfl hl.1 rfl (Nat.le_of_ble_eq_true rfl) ⟨Nat.zero_le _, Nat.zero_le _⟩ d_Letters_behind_49 (fun H locs hP hD hS => ?_)
    have hq := Option.some.inj hf
    subst hq
    exact hret _ _ _ _ _ d_Letters_behind_52 rfl rfl hP hD hS
  · have hf := io_f hf c1
    rcases Decidable.em (x0 = 1) with c3 | c3
    · have hf := io_t hf c3
      refine lv_tableIn (off := 52) (tgt := 53) hx hb d_Letters_behind_1 (by rw [c3]; decide +kernel) (by rw [c3]; decide +kernel) (by rw [c3]; rfl) (by decide) ?_
      refine va_ldcS hx hb hown hR_str d_Letters_behind_53 ?_
      refine lv_iload_n hx hb d_Letters_behind_55 rfl (lv_at hl 1 rfl) ?_
      obtain ⟨q4, hq4, hf⟩ := io_b hf
      refine xcTI (wc := []) (wc' := []) (ws' := []) (As := [.int x1]) (rest := []) hx hb hml hown hT (c_Str_indexOf1 hq4) k_432 k_433 k_434 k_8 k_435 hd_Str_indexOf1 ⟨Nat.le_of_ble_eq_true rfl, Nat.le_of_ble_eq_true rfl⟩ (xEv_ok _ _ _ _) hE hA hK hP hD hS [] [] [] rfl rfl rfl rfl rfl rfl rfl (x_rec hO_str hS) hl.1 rfl (Nat.le_of_ble_eq_true rfl) ⟨Nat.zero_le _, Nat.zero_le _⟩ d_Letters_behind_56 (fun H locs hP hD hS => ?_)
      refine lv_if_lt (tgt := 66) hx hb d_Letters_behind_59 (by decide) (fun c5 => ?_) (fun c5 => ?_)
      · have hf := io_t hf c5
        refine lv_iconst (v := (-1)) hx hb d_Letters_behind_66 (by decide) ?_
        have hq := Option.some.inj hf
        subst hq
        exact hret _ _ _ _ _ d_Letters_behind_67 rfl rfl hP hD hS
      · have hf := io_f hf c5
        refine lv_iconst (v := 2) hx hb d_Letters_behind_62 (by decide) ?_
        refine lv_goto (tgt := 67) hx hb d_Letters_behind_63 (by decide) ?_
        have hq := Option.some.inj hf
        subst hq
        exact hret _ _ _ _ _ d_Letters_behind_67 rfl rfl hP hD hS
    · have hf := io_f hf c3
      rcases Decidable.em (x0 = 2) with c6 | c6
      · have hf := io_t hf c6
        refine lv_tableIn (off := 67) (tgt := 68) hx hb d_Letters_behind_1 (by rw [c6]; decide +kernel) (by rw [c6]; decide +kernel) (by rw [c6]; rfl) (by decide) ?_
        refine lv_iload_n hx hb d_Letters_behind_68 rfl (lv_at hl 1 rfl) ?_
        obtain ⟨q7, hq7, hf⟩ := io_b hf
        refine xcSI (wc := []) (wc' := []) (ws' := []) (As := [.int x1]) (rest := []) hx hb hml hown hT (c_Letters_isDigit hq7) k_514 k_515 k_3 k_516 hd_Letters_isDigit ⟨Nat.le_of_ble_eq_true rfl, Nat.le_of_ble_eq_true rfl⟩ xE0_ok trivial hA hK hP hD hS [] [] [] rfl rfl rfl rfl rfl rfl rfl hl.1 rfl (Nat.le_of_ble_eq_true rfl) ⟨Nat.zero_le _, Nat.zero_le _⟩ d_Letters_behind_69 (fun H locs hP hD hS => ?_)
        refine lv_if_eq (tgt := 79) hx hb d_Letters_behind_72 (by decide) (fun c8 => ?_) (fun c8 => ?_)
        · have hf := io_t hf c8
          refine lv_iconst (v := (-1)) hx hb d_Letters_behind_79 (by decide) ?_
          have hq := Option.some.inj hf
          subst hq
          exact hret _ _ _ _ _ d_Letters_behind_80 rfl rfl hP hD hS
        · have hf := io_f hf c8
          refine lv_iconst (v := 3) hx hb d_Letters_behind_75 (by decide) ?_
          refine lv_goto (tgt := 80) hx hb d_Letters_behind_76 (by decide) ?_
          have hq := Option.some.inj hf
          subst hq
          exact hret _ _ _ _ _ d_Letters_behind_80 rfl rfl hP hD hS
      · have hf := io_f hf c6
        rcases Decidable.em (x0 = 3) with c9 | c9
        · have hf := io_t hf c9
          refine lv_tableIn (off := 80) (tgt := 81) hx hb d_Letters_behind_1 (by rw [c9]; decide +kernel) (by rw [c9]; decide +kernel) (by rw [c9]; rfl) (by decide) ?_
          refine lv_iload_n hx hb d_Letters_behind_81 rfl (lv_at hl 1 rfl) ?_
          obtain ⟨q10, hq10, hf⟩ := io_b hf
          refine xcSI (wc := []) (wc' := []) (ws' := []) (As := [.int x1]) (rest := []) hx hb hml hown hT (c_Letters_isDigit hq10) k_514 k_515 k_3 k_516 hd_Letters_isDigit ⟨Nat.le_of_ble_eq_true rfl, Nat.le_of_ble_eq_true rfl⟩ xE0_ok trivial hA hK hP hD hS [] [] [] rfl rfl rfl rfl rfl rfl rfl hl.1 rfl (Nat.le_of_ble_eq_true rfl) ⟨Nat.zero_le _, Nat.zero_le _⟩ d_Letters_behind_82 (fun H locs hP hD hS => ?_)
          refine lv_if_eq (tgt := 92) hx hb d_Letters_behind_85 (by decide) (fun c11 => ?_) (fun c11 => ?_)
          · have hf := io_t hf c11
            refine lv_iload_n hx hb d_Letters_behind_92 rfl (lv_at hl 1 rfl) ?_
            obtain ⟨q12, hq12, hf⟩ := io_b hf
            refine xcSI (wc := []) (wc' := []) (ws' := []) (As := [.int x1]) (rest := []) hx hb hml hown hT (c_Letters_behindEnd hq12) k_517 k_518 k_3 k_519 hd_Letters_behindEnd ⟨Nat.le_of_ble_eq_true rfl, Nat.le_of_ble_eq_true rfl⟩ xE0_ok trivial hA hK hP hD hS [] [] [] rfl rfl rfl rfl rfl rfl rfl hl.1 rfl (Nat.le_of_ble_eq_true rfl) ⟨Nat.zero_le _, Nat.zero_le _⟩ d_Letters_behind_93 (fun H locs hP hD hS => ?_)
            have hq := Option.some.inj hf
            subst hq
            exact hret _ _ _ _ _ d_Letters_behind_96 rfl rfl hP hD hS
          · have hf := io_f hf c11
            refine lv_iconst (v := 4) hx hb d_Letters_behind_88 (by decide) ?_
            refine lv_goto (tgt := 96) hx hb d_Letters_behind_89 (by decide) ?_
            have hq := Option.some.inj hf
            subst hq
            exact hret _ _ _ _ _ d_Letters_behind_96 rfl rfl hP hD hS
        · have hf := io_f hf c9
          rcases Decidable.em (x0 = 4) with c13 | c13
          · have hf := io_t hf c13
            refine lv_tableIn (off := 96) (tgt := 97) hx hb d_Letters_behind_1 (by rw [c13]; decide +kernel) (by rw [c13]; decide +kernel) (by rw [c13]; rfl) (by decide) ?_
            refine lv_iload_n hx hb d_Letters_behind_97 rfl (lv_at hl 1 rfl) ?_
            obtain ⟨q14, hq14, hf⟩ := io_b hf
            refine xcSI (wc := []) (wc' := []) (ws' := []) (As := [.int x1]) (rest := []) hx hb hml hown hT (c_Letters_isDigit hq14) k_514 k_515 k_3 k_516 hd_Letters_isDigit ⟨Nat.le_of_ble_eq_true rfl, Nat.le_of_ble_eq_true rfl⟩ xE0_ok trivial hA hK hP hD hS [] [] [] rfl rfl rfl rfl rfl rfl rfl hl.1 rfl (Nat.le_of_ble_eq_true rfl) ⟨Nat.zero_le _, Nat.zero_le _⟩ d_Letters_behind_98 (fun H locs hP hD hS => ?_)
            refine lv_if_eq (tgt := 108) hx hb d_Letters_behind_101 (by decide) (fun c15 => ?_) (fun c15 => ?_)
            · have hf := io_t hf c15
              refine lv_iload_n hx hb d_Letters_behind_108 rfl (lv_at hl 1 rfl) ?_
              obtain ⟨q16, hq16, hf⟩ := io_b hf
              refine xcSI (wc := []) (wc' := []) (ws' := []) (As := [.int x1]) (rest := []) hx hb hml hown hT (c_Letters_behindEnd hq16) k_517 k_518 k_3 k_519 hd_Letters_behindEnd ⟨Nat.le_of_ble_eq_true rfl, Nat.le_of_ble_eq_true rfl⟩ xE0_ok trivial hA hK hP hD hS [] [] [] rfl rfl rfl rfl rfl rfl rfl hl.1 rfl (Nat.le_of_ble_eq_true rfl) ⟨Nat.zero_le _, Nat.zero_le _⟩ d_Letters_behind_109 (fun H locs hP hD hS => ?_)
              have hq := Option.some.inj hf
              subst hq
              exact hret _ _ _ _ _ d_Letters_behind_112 rfl rfl hP hD hS
            · have hf := io_f hf c15
              refine lv_iconst (v := 5) hx hb d_Letters_behind_104 (by decide) ?_
              refine lv_goto (tgt := 112) hx hb d_Letters_behind_105 (by decide) ?_
              have hq := Option.some.inj hf
              subst hq
              exact hret _ _ _ _ _ d_Letters_behind_112 rfl rfl hP hD hS
          · have hf := io_f hf c13
            rcases Decidable.em (x0 = 5) with c17 | c17
            · have hf := io_t hf c17
              refine lv_tableIn (off := 112) (tgt := 113) hx hb d_Letters_behind_1 (by rw [c17]; decide +kernel) (by rw [c17]; decide +kernel) (by rw [c17]; rfl) (by decide) ?_
              refine lv_iload_n hx hb d_Letters_behind_113 rfl (lv_at hl 1 rfl) ?_
              obtain ⟨q18, hq18, hf⟩ := io_b hf
              refine xcSI (wc := []) (wc' := []) (ws' := []) (As := [.int x1]) (rest := []) hx hb hml hown hT (c_Letters_behindEnd hq18) k_517 k_518 k_3 k_519 hd_Letters_behindEnd ⟨Nat.le_of_ble_eq_true rfl, Nat.le_of_ble_eq_true rfl⟩ xE0_ok trivial hA hK hP hD hS [] [] [] rfl rfl rfl rfl rfl rfl rfl hl.1 rfl (Nat.le_of_ble_eq_true rfl) ⟨Nat.zero_le _, Nat.zero_le _⟩ d_Letters_behind_114 (fun H locs hP hD hS => ?_)
              have hq := Option.some.inj hf
              subst hq
              exact hret _ _ _ _ _ d_Letters_behind_117 rfl rfl hP hD hS
            · have hf := io_f hf c17
              rcases Decidable.em (x0 = 6) with c19 | c19
              · have hf := io_t hf c19
                refine lv_tableIn (off := 117) (tgt := 118) hx hb d_Letters_behind_1 (by rw [c19]; decide +kernel) (by rw [c19]; decide +kernel) (by rw [c19]; rfl) (by decide) ?_
                refine lv_iload_n hx hb d_Letters_behind_118 rfl (lv_at hl 1 rfl) ?_
                obtain ⟨q20, hq20, hf⟩ := io_b hf
                refine xcSI (wc := []) (wc' := []) (ws' := []) (As := [.int x1]) (rest := []) hx hb hml hown hT (c_Letters_isDigit hq20) k_514 k_515 k_3 k_516 hd_Letters_isDigit ⟨Nat.le_of_ble_eq_true rfl, Nat.le_of_ble_eq_true rfl⟩ xE0_ok trivial hA hK hP hD hS [] [] [] rfl rfl rfl rfl rfl rfl rfl hl.1 rfl (Nat.le_of_ble_eq_true rfl) ⟨Nat.zero_le _, Nat.zero_le _⟩ d_Letters_behind_119 (fun H locs hP hD hS => ?_)
                refine lv_if_eq (tgt := 130) hx hb d_Letters_behind_122 (by decide) (fun c21 => ?_) (fun c21 => ?_)
                · have hf := io_t hf c21
                  refine lv_iconst (v := (-1)) hx hb d_Letters_behind_130 (by decide) ?_
                  have hq := Option.some.inj hf
                  subst hq
                  exact hret _ _ _ _ _ d_Letters_behind_131 rfl rfl hP hD hS
                · have hf := io_f hf c21
                  refine lv_bipush (v := 7) hx hb d_Letters_behind_125 (by decide) ?_
                  refine lv_goto (tgt := 131) hx hb d_Letters_behind_127 (by decide) ?_
                  have hq := Option.some.inj hf
                  subst hq
                  exact hret _ _ _ _ _ d_Letters_behind_131 rfl rfl hP hD hS
              · have hf := io_f hf c19
                rcases Decidable.em (x0 = 7) with c22 | c22
                · have hf := io_t hf c22
                  refine lv_tableIn (off := 131) (tgt := 132) hx hb d_Letters_behind_1 (by rw [c22]; decide +kernel) (by rw [c22]; decide +kernel) (by rw [c22]; rfl) (by decide) ?_
                  refine lv_iload_n hx hb d_Letters_behind_132 rfl (lv_at hl 1 rfl) ?_
                  obtain ⟨q23, hq23, hf⟩ := io_b hf
                  refine xcSI (wc := []) (wc' := []) (ws' := []) (As := [.int x1]) (rest := []) hx hb hml hown hT (c_Letters_isDigit hq23) k_514 k_515 k_3 k_516 hd_Letters_isDigit ⟨Nat.le_of_ble_eq_true rfl, Nat.le_of_ble_eq_true rfl⟩ xE0_ok trivial hA hK hP hD hS [] [] [] rfl rfl rfl rfl rfl rfl rfl hl.1 rfl (Nat.le_of_ble_eq_true rfl) ⟨Nat.zero_le _, Nat.zero_le _⟩ d_Letters_behind_133 (fun H locs hP hD hS => ?_)
                  refine lv_if_eq (tgt := 143) hx hb d_Letters_behind_136 (by decide) (fun c24 => ?_) (fun c24 => ?_)
                  · have hf := io_t hf c24
                    refine lv_iconst (v := (-1)) hx hb d_Letters_behind_143 (by decide) ?_
                    have hq := Option.some.inj hf
                    subst hq
                    exact hret _ _ _ _ _ d_Letters_behind_144 rfl rfl hP hD hS
                  · have hf := io_f hf c24
                    refine lv_iconst (v := 5) hx hb d_Letters_behind_139 (by decide) ?_
                    refine lv_goto (tgt := 144) hx hb d_Letters_behind_140 (by decide) ?_
                    have hq := Option.some.inj hf
                    subst hq
                    exact hret _ _ _ _ _ d_Letters_behind_144 rfl rfl hP hD hS
                · have hf := io_f hf c22
                  refine lv_tableOut (tgt := 145) hx hb d_Letters_behind_1 (by have e0 := lv_neT (a := 0) c1 (by decide +kernel); have e1 := lv_neT (a := 1) c3 (by decide +kernel); have e2 := lv_neT (a := 2) c6 (by decide +kernel); have e3 := lv_neT (a := 3) c9 (by decide +kernel); have e4 := lv_neT (a := 4) c13 (by decide +kernel); have e5 := lv_neT (a := 5) c17 (by decide +kernel); have e6 := lv_neT (a := 6) c19 (by decide +kernel); have e7 := lv_neT (a := 7) c22 (by decide +kernel); omega) (by decide) ?_
                  refine lv_iconst (v := (-1)) hx hb d_Letters_behind_145 (by decide) ?_
                  have hq := Option.some.inj hf
                  subst hq
                  exact hret _ _ _ _ _ d_Letters_behind_146 rfl rfl hP hD hS
abbrev w_Letters_placeOfBadForm (cI cJ cC : ClassId) (a_h a_h_text a_h_trial : Nat) (p_h_length : Int32) (p_h_text : (Nat → Int32)) : va_W := [(a_h, .inr (2, [.int p_h_length, .ref a_h_text, .ref a_h_trial])), (a_h_text, .inl (cC, (64, .inl p_h_text)))]
theorem d_Letters_placeOfBadForm_0 : decode b_Letters_placeOfBadForm 0 = .ok (.iconst 0, 1) := by decide +kernel
theorem d_Letters_placeOfBadForm_1 : decode b_Letters_placeOfBadForm 1 = .ok (.istore_n 1, 1) := by decide +kernel
theorem d_Letters_placeOfBadForm_2 : decode b_Letters_placeOfBadForm 2 = .ok (.iconst 0, 1) := by decide +kernel
theorem d_Letters_placeOfBadForm_3 : decode b_Letters_placeOfBadForm 3 = .ok (.istore_n 2, 1) := by decide +kernel
theorem d_Letters_placeOfBadForm_4 : decode b_Letters_placeOfBadForm 4 = .ok (.iload_n 2, 1) := by decide +kernel
theorem d_Letters_placeOfBadForm_5 : decode b_Letters_placeOfBadForm 5 = .ok (.aload_n 0, 1) := by decide +kernel
theorem d_Letters_placeOfBadForm_6 : decode b_Letters_placeOfBadForm 6 = .ok (.getfield 9, 3) := by decide +kernel
theorem d_Letters_placeOfBadForm_9 : decode b_Letters_placeOfBadForm 9 = .ok (.if_icmp .ge 27, 3) := by decide +kernel
theorem d_Letters_placeOfBadForm_12 : decode b_Letters_placeOfBadForm 12 = .ok (.iload_n 1, 1) := by decide +kernel
theorem d_Letters_placeOfBadForm_13 : decode b_Letters_placeOfBadForm 13 = .ok (.aload_n 0, 1) := by decide +kernel
theorem d_Letters_placeOfBadForm_14 : decode b_Letters_placeOfBadForm 14 = .ok (.getfield 15, 3) := by decide +kernel
theorem d_Letters_placeOfBadForm_17 : decode b_Letters_placeOfBadForm 17 = .ok (.iload_n 2, 1) := by decide +kernel
theorem d_Letters_placeOfBadForm_18 : decode b_Letters_placeOfBadForm 18 = .ok (.caload, 1) := by decide +kernel
theorem d_Letters_placeOfBadForm_19 : decode b_Letters_placeOfBadForm 19 = .ok (.invokestatic 38, 3) := by decide +kernel
theorem d_Letters_placeOfBadForm_22 : decode b_Letters_placeOfBadForm 22 = .ok (.istore_n 1, 1) := by decide +kernel
theorem d_Letters_placeOfBadForm_23 : decode b_Letters_placeOfBadForm 23 = .ok (.iload_n 1, 1) := by decide +kernel
theorem d_Letters_placeOfBadForm_24 : decode b_Letters_placeOfBadForm 24 = .ok (.iconst (-1), 1) := by decide +kernel
theorem d_Letters_placeOfBadForm_25 : decode b_Letters_placeOfBadForm 25 = .ok (.if_icmp .ne 5, 3) := by decide +kernel
theorem d_Letters_placeOfBadForm_28 : decode b_Letters_placeOfBadForm 28 = .ok (.iload_n 2, 1) := by decide +kernel
theorem d_Letters_placeOfBadForm_29 : decode b_Letters_placeOfBadForm 29 = .ok (.ireturn, 1) := by decide +kernel
theorem d_Letters_placeOfBadForm_30 : decode b_Letters_placeOfBadForm 30 = .ok (.iinc 2 1, 3) := by decide +kernel
theorem d_Letters_placeOfBadForm_33 : decode b_Letters_placeOfBadForm 33 = .ok (.goto (-29), 3) := by decide +kernel
theorem d_Letters_placeOfBadForm_36 : decode b_Letters_placeOfBadForm 36 = .ok (.aload_n 0, 1) := by decide +kernel
theorem d_Letters_placeOfBadForm_37 : decode b_Letters_placeOfBadForm 37 = .ok (.getfield 9, 3) := by decide +kernel
theorem d_Letters_placeOfBadForm_40 : decode b_Letters_placeOfBadForm 40 = .ok (.ifCond .le 11, 3) := by decide +kernel
theorem d_Letters_placeOfBadForm_43 : decode b_Letters_placeOfBadForm 43 = .ok (.iload_n 1, 1) := by decide +kernel
theorem d_Letters_placeOfBadForm_44 : decode b_Letters_placeOfBadForm 44 = .ok (.ifCond .ne 7, 3) := by decide +kernel
theorem d_Letters_placeOfBadForm_47 : decode b_Letters_placeOfBadForm 47 = .ok (.iconst (-1), 1) := by decide +kernel
theorem d_Letters_placeOfBadForm_48 : decode b_Letters_placeOfBadForm 48 = .ok (.goto 7, 3) := by decide +kernel
theorem d_Letters_placeOfBadForm_51 : decode b_Letters_placeOfBadForm 51 = .ok (.aload_n 0, 1) := by decide +kernel
theorem d_Letters_placeOfBadForm_52 : decode b_Letters_placeOfBadForm 52 = .ok (.getfield 9, 3) := by decide +kernel
theorem d_Letters_placeOfBadForm_55 : decode b_Letters_placeOfBadForm 55 = .ok (.ireturn, 1) := by decide +kernel
set_option maxHeartbeats 4000000 in
set_option maxRecDepth 100000 in
theorem c_Letters_placeOfBadForm {l : Launch} {D : va_G} {cI cJ cC : ClassId} {t_LEAST_SETTING t_GREATEST_SETTING t_str t_val : Nat} (a_h a_h_text a_h_trial : Nat) {z_h_length : Int32} {z_h_text : (Nat → Int32)} {q : Int32} (hf : f_Letters_placeOfBadForm z_h_length z_h_text = some q) : xI l y_Letters_placeOfBadForm b_Letters_placeOfBadForm 3 .int 5 112 D (tyK cI cJ cC) (xEv t_LEAST_SETTING t_GREATEST_SETTING t_str t_val) [.ref a_h] (w_Letters_placeOfBadForm cI cJ cC a_h a_h_text a_h_trial z_h_length z_h_text) q (w_Letters_placeOfBadForm cI cJ cC a_h a_h_text a_h_trial z_h_length z_h_text) := by
  refine xI_of (by decide) (Nat.le_of_ble_eq_true rfl) ?_
  intro p e s m args below meth c A Q hx hb hml hown hT hA hP hD hK hS hE hret ls hl
  have hown : s.vm.findClass R_Letters = some m.cls := hown
  have hl : lv_has ls 3 [(0, .ref a_h)] := hl
  unfold f_Letters_placeOfBadForm at hf
  obtain ⟨hZ_LEAST_SETTING, hT_LEAST_SETTING, hZ_GREATEST_SETTING, hT_GREATEST_SETTING, hZ_CS, hO_str, hC_str, hV_str, hT_str, hR_str, hN_X_outside, hNF_LEAST_SETTING, hNF_GREATEST_SETTING⟩ := id hE
  have L4 : ∀ (n : Nat) (x1 : Int32) (x2 : Int32) (H : Heap) (locs : List Loc) (ls : Array Slot), f_Letters_placeOfBadForm_L4 z_h_length z_h_text n x1 x2 = some q → va_P D classes (w_Letters_placeOfBadForm cI cJ cC a_h a_h_text a_h_trial z_h_length z_h_text) H → va_D A (w_Letters_placeOfBadForm cI cJ cC a_h a_h_text a_h_trial z_h_length z_h_text) → va_S A s.heap H locs → lv_has ls 3 [(0, .ref a_h), (1, .int x1), (2, .int x2)] → W p l e (xRm 5 112) s m args below meth c H locs 0 0 Q (F0 m 4 ls []) := by
    intro n
    induction n with
    | zero => intro x1 x2 H locs ls hf hP hD hS hl; exact nomatch (show (none : Option (Int32)) = some q from hf)
    | succ n ih =>
      intro x1 x2 H locs ls hf hP hD hS hl
      refine lv_iload_n hx hb d_Letters_placeOfBadForm_4 rfl (lv_at hl 2 rfl) ?_
      refine lv_aload_n hx hb d_Letters_placeOfBadForm_5 rfl (lv_at hl 0 rfl) ?_
      refine va_get hx hb hT i_Letters hown hK hP 0 rfl rfl 0 (Nat.le_of_ble_eq_true rfl) (hT _ k_76) (fun _ h => h) rfl d_Letters_placeOfBadForm_6 ?_
      refine lv_icmp_ge (tgt := 36) hx hb d_Letters_placeOfBadForm_9 (by decide) (fun c1 => ?_) (fun c1 => ?_)
      · have hf := io_t hf c1
        refine lv_aload_n hx hb d_Letters_placeOfBadForm_36 rfl (lv_at hl 0 rfl) ?_
        refine va_get hx hb hT i_Letters hown hK hP 0 rfl rfl 0 (Nat.le_of_ble_eq_true rfl) (hT _ k_76) (fun _ h => h) rfl d_Letters_placeOfBadForm_37 ?_
        refine lv_if_le (tgt := 51) hx hb d_Letters_placeOfBadForm_40 (by decide) (fun c2 => ?_) (fun c2 => ?_)
        · have hf := io_t hf c2
          refine lv_aload_n hx hb d_Letters_placeOfBadForm_51 rfl (lv_at hl 0 rfl) ?_
          refine va_get hx hb hT i_Letters hown hK hP 0 rfl rfl 0 (Nat.le_of_ble_eq_true rfl) (hT _ k_76) (fun _ h => h) rfl d_Letters_placeOfBadForm_52 ?_
          have hq := Option.some.inj hf
          subst hq
          exact hret _ _ _ _ _ d_Letters_placeOfBadForm_55 rfl rfl hP hD hS
        · have hf := io_f hf c2
          refine lv_iload_n hx hb d_Letters_placeOfBadForm_43 rfl (lv_at hl 1 rfl) ?_
          refine lv_if_ne (tgt := 51) hx hb d_Letters_placeOfBadForm_44 (by decide) (fun c3 => ?_) (fun c3 => ?_)
          · have hf := io_f hf c3
            refine lv_aload_n hx hb d_Letters_placeOfBadForm_51 rfl (lv_at hl 0 rfl) ?_
            refine va_get hx hb hT i_Letters hown hK hP 0 rfl rfl 0 (Nat.le_of_ble_eq_true rfl) (hT _ k_76) (fun _ h => h) rfl d_Letters_placeOfBadForm_52 ?_
            have hq := Option.some.inj hf
            subst hq
            exact hret _ _ _ _ _ d_Letters_placeOfBadForm_55 rfl rfl hP hD hS
          · have hf := io_t hf c3
            refine lv_iconst (v := (-1)) hx hb d_Letters_placeOfBadForm_47 (by decide) ?_
            refine lv_goto (tgt := 55) hx hb d_Letters_placeOfBadForm_48 (by decide) ?_
            have hq := Option.some.inj hf
            subst hq
            exact hret _ _ _ _ _ d_Letters_placeOfBadForm_55 rfl rfl hP hD hS
      · have hf := io_f hf c1
        refine lv_iload_n hx hb d_Letters_placeOfBadForm_12 rfl (lv_at hl 1 rfl) ?_
        refine lv_aload_n hx hb d_Letters_placeOfBadForm_13 rfl (lv_at hl 0 rfl) ?_
        refine va_get hx hb hT i_Letters hown hK hP 0 rfl rfl 1 (Nat.le_of_ble_eq_true rfl) (hT _ k_78) (fun _ h => h) rfl d_Letters_placeOfBadForm_14 ?_
        refine lv_iload_n hx hb d_Letters_placeOfBadForm_17 rfl (lv_at hl 2 rfl) ?_
        obtain ⟨c4, hf⟩ := io_n hf
        refine x_cald hx hb hK hP 1 2 rfl rfl (j := x2.toNatClampNeg) rfl c4 d_Letters_placeOfBadForm_18 ?_
        obtain ⟨q5, hq5, hf⟩ := io_b hf
        refine xcSI (wc := []) (wc' := []) (ws' := (w_Letters_placeOfBadForm cI cJ cC a_h a_h_text a_h_trial z_h_length z_h_text)) (As := [.int x1, .int (z_h_text x2.toNatClampNeg)]) (rest := []) hx hb hml hown hT (c_Letters_behind hq5) k_425 k_426 k_3 k_427 hd_Letters_behind ⟨Nat.le_of_ble_eq_true rfl, Nat.le_of_ble_eq_true rfl⟩ (xEv_ok _ _ _ _) hE hA hK hP hD hS [] [0, 1] [0, 1] rfl rfl rfl rfl rfl rfl rfl hl.1 rfl (Nat.le_of_ble_eq_true rfl) ⟨Nat.zero_le _, Nat.zero_le _⟩ d_Letters_placeOfBadForm_19 (fun H locs hP hD hS => ?_)
        refine lv_istore_n (lv' := [(1, .int q5), (0, .ref a_h), (2, .int x2)]) hx hb d_Letters_placeOfBadForm_22 rfl hl (by decide) rfl (fun ls hl => ?_)
        refine lv_iload_n hx hb d_Letters_placeOfBadForm_23 rfl (lv_at hl 0 rfl) ?_
        refine lv_iconst (v := (-1)) hx hb d_Letters_placeOfBadForm_24 (by decide) ?_
        refine lv_icmp_ne (tgt := 30) hx hb d_Letters_placeOfBadForm_25 (by decide) (fun c6 => ?_) (fun c6 => ?_)
        · have hf := io_f hf c6
          refine lv_iinc (v := (x2 + 1)) (lv' := [(2, .int (x2 + 1)), (1, .int q5), (0, .ref a_h)]) hx hb d_Letters_placeOfBadForm_30 hl (k := 2) rfl (by rfl) (by decide) rfl (fun ls hl => ?_)
          refine lv_goto (tgt := 4) hx hb d_Letters_placeOfBadForm_33 (by decide) ?_
          exact ih q5 (x2 + 1) _ _ _ hf hP hD hS (lv_sub hl [2, 1, 0] rfl)
        · have hf := io_t hf c6
          refine lv_iload_n hx hb d_Letters_placeOfBadForm_28 rfl (lv_at hl 2 rfl) ?_
          have hq := Option.some.inj hf
          subst hq
          exact hret _ _ _ _ _ d_Letters_placeOfBadForm_29 rfl rfl hP hD hS
  refine lv_iconst (v := 0) hx hb d_Letters_placeOfBadForm_0 (by decide) ?_
  refine lv_istore_n (lv' := [(1, .int 0), (0, .ref a_h)]) hx hb d_Letters_placeOfBadForm_1 rfl hl (by decide) rfl (fun ls hl => ?_)
  refine lv_iconst (v := 0) hx hb d_Letters_placeOfBadForm_2 (by decide) ?_
  refine lv_istore_n (lv' := [(2, .int 0), (1, .int 0), (0, .ref a_h)]) hx hb d_Letters_placeOfBadForm_3 rfl hl (by decide) rfl (fun ls hl => ?_)
  exact L4 FU 0 0 _ _ _ hf hP hD hS (lv_sub hl [2, 1, 0] rfl)
abbrev w_Letters_letterAt (cI cJ cC : ClassId) (a_h a_h_text a_h_trial : Nat) (p_h_length : Int32) (p_h_text : (Nat → Int32)) : va_W := [(a_h, .inr (2, [.int p_h_length, .ref a_h_text, .ref a_h_trial])), (a_h_text, .inl (cC, (64, .inl p_h_text)))]
theorem d_Letters_letterAt_0 : decode b_Letters_letterAt 0 = .ok (.iload_n 1, 1) := by decide +kernel
theorem d_Letters_letterAt_1 : decode b_Letters_letterAt 1 = .ok (.ifCond .lt 20, 3) := by decide +kernel
theorem d_Letters_letterAt_4 : decode b_Letters_letterAt 4 = .ok (.iload_n 1, 1) := by decide +kernel
theorem d_Letters_letterAt_5 : decode b_Letters_letterAt 5 = .ok (.aload_n 0, 1) := by decide +kernel
theorem d_Letters_letterAt_6 : decode b_Letters_letterAt 6 = .ok (.getfield 9, 3) := by decide +kernel
theorem d_Letters_letterAt_9 : decode b_Letters_letterAt 9 = .ok (.if_icmp .ge 12, 3) := by decide +kernel
theorem d_Letters_letterAt_12 : decode b_Letters_letterAt 12 = .ok (.aload_n 0, 1) := by decide +kernel
theorem d_Letters_letterAt_13 : decode b_Letters_letterAt 13 = .ok (.getfield 15, 3) := by decide +kernel
theorem d_Letters_letterAt_16 : decode b_Letters_letterAt 16 = .ok (.iload_n 1, 1) := by decide +kernel
theorem d_Letters_letterAt_17 : decode b_Letters_letterAt 17 = .ok (.caload, 1) := by decide +kernel
theorem d_Letters_letterAt_18 : decode b_Letters_letterAt 18 = .ok (.goto 5, 3) := by decide +kernel
theorem d_Letters_letterAt_21 : decode b_Letters_letterAt 21 = .ok (.bipush 32, 2) := by decide +kernel
theorem d_Letters_letterAt_23 : decode b_Letters_letterAt 23 = .ok (.ireturn, 1) := by decide +kernel
set_option maxHeartbeats 4000000 in
set_option maxRecDepth 100000 in
theorem c_Letters_letterAt {l : Launch} {D : va_G} {cI cJ cC : ClassId} (a_h a_h_text a_h_trial : Nat) {z_h_length : Int32} {z_h_text : (Nat → Int32)} {x1 : Int32} {q : Int32} (hf : f_Letters_letterAt z_h_length z_h_text x1 = some q) : xI l y_Letters_letterAt b_Letters_letterAt 2 .char 0 0 D (tyK cI cJ cC) xE0 [.ref a_h, .int x1] (w_Letters_letterAt cI cJ cC a_h a_h_text a_h_trial z_h_length z_h_text) q (w_Letters_letterAt cI cJ cC a_h a_h_text a_h_trial z_h_length z_h_text) := by
  refine xI_of (by decide) (Nat.le_of_ble_eq_true rfl) ?_
  intro p e s m args below meth c A Q hx hb hml hown hT hA hP hD hK hS hE hret ls hl
  have hown : s.vm.findClass R_Letters = some m.cls := hown
  have hl : lv_has ls 2 [(0, .ref a_h), (1, .int x1)] := hl
  unfold f_Letters_letterAt at hf
  refine lv_iload_n hx hb d_Letters_letterAt_0 rfl (lv_at hl 1 rfl) ?_
  refine lv_if_lt (tgt := 21) hx hb d_Letters_letterAt_1 (by decide) (fun c1 => ?_) (fun c1 => ?_)
  · have hf := io_t hf c1
    refine lv_bipush (v := 32) hx hb d_Letters_letterAt_21 (by decide) ?_
    have hq := Option.some.inj hf
    subst hq
    exact hret _ _ _ _ _ d_Letters_letterAt_23 (by decide) rfl hP hD hS
  · have hf := io_f hf c1
    refine lv_iload_n hx hb d_Letters_letterAt_4 rfl (lv_at hl 1 rfl) ?_
    refine lv_aload_n hx hb d_Letters_letterAt_5 rfl (lv_at hl 0 rfl) ?_
    refine va_get hx hb hT i_Letters hown hK hP 0 rfl rfl 0 (Nat.le_of_ble_eq_true rfl) (hT _ k_76) (fun _ h => h) rfl d_Letters_letterAt_6 ?_
    refine lv_icmp_ge (tgt := 21) hx hb d_Letters_letterAt_9 (by decide) (fun c2 => ?_) (fun c2 => ?_)
    · have hf := io_t hf c2
      refine lv_bipush (v := 32) hx hb d_Letters_letterAt_21 (by decide) ?_
      have hq := Option.some.inj hf
      subst hq
      exact hret _ _ _ _ _ d_Letters_letterAt_23 (by decide) rfl hP hD hS
    · have hf := io_f hf c2
      refine lv_aload_n hx hb d_Letters_letterAt_12 rfl (lv_at hl 0 rfl) ?_
      refine va_get hx hb hT i_Letters hown hK hP 0 rfl rfl 1 (Nat.le_of_ble_eq_true rfl) (hT _ k_78) (fun _ h => h) rfl d_Letters_letterAt_13 ?_
      refine lv_iload_n hx hb d_Letters_letterAt_16 rfl (lv_at hl 1 rfl) ?_
      obtain ⟨c3, hf⟩ := io_n hf
      refine x_cald hx hb hK hP 1 2 rfl rfl (j := x1.toNatClampNeg) rfl c3 d_Letters_letterAt_17 ?_
      refine lv_goto (tgt := 23) hx hb d_Letters_letterAt_18 (by decide) ?_
      obtain ⟨c4, hf⟩ := io_n hf
      have hq := Option.some.inj hf
      subst hq
      exact hret _ _ _ _ _ d_Letters_letterAt_23 (x_narC c4) rfl hP hD hS
abbrev w_Letters_number (cI cJ cC : ClassId) (a_h a_h_text a_h_trial : Nat) (p_h_length : Int32) (p_h_text : (Nat → Int32)) : va_W := [(a_h, .inr (2, [.int p_h_length, .ref a_h_text, .ref a_h_trial])), (a_h_text, .inl (cC, (64, .inl p_h_text)))]
theorem d_Letters_number_0 : decode b_Letters_number 0 = .ok (.iconst 0, 1) := by decide +kernel
theorem d_Letters_number_1 : decode b_Letters_number 1 = .ok (.istore_n 3, 1) := by decide +kernel
theorem d_Letters_number_2 : decode b_Letters_number 2 = .ok (.iload_n 1, 1) := by decide +kernel
theorem d_Letters_number_3 : decode b_Letters_number 3 = .ok (.istore 4, 2) := by decide +kernel
theorem d_Letters_number_5 : decode b_Letters_number 5 = .ok (.iload 4, 2) := by decide +kernel
theorem d_Letters_number_7 : decode b_Letters_number 7 = .ok (.iload_n 2, 1) := by decide +kernel
theorem d_Letters_number_8 : decode b_Letters_number 8 = .ok (.if_icmp .ge 24, 3) := by decide +kernel
theorem d_Letters_number_11 : decode b_Letters_number 11 = .ok (.iload_n 3, 1) := by decide +kernel
theorem d_Letters_number_12 : decode b_Letters_number 12 = .ok (.bipush 10, 2) := by decide +kernel
theorem d_Letters_number_14 : decode b_Letters_number 14 = .ok (.imul, 1) := by decide +kernel
theorem d_Letters_number_15 : decode b_Letters_number 15 = .ok (.aload_n 0, 1) := by decide +kernel
theorem d_Letters_number_16 : decode b_Letters_number 16 = .ok (.iload 4, 2) := by decide +kernel
theorem d_Letters_number_18 : decode b_Letters_number 18 = .ok (.invokevirtual 61, 3) := by decide +kernel
theorem d_Letters_number_21 : decode b_Letters_number 21 = .ok (.iadd, 1) := by decide +kernel
theorem d_Letters_number_22 : decode b_Letters_number 22 = .ok (.bipush 48, 2) := by decide +kernel
theorem d_Letters_number_24 : decode b_Letters_number 24 = .ok (.isub, 1) := by decide +kernel
theorem d_Letters_number_25 : decode b_Letters_number 25 = .ok (.istore_n 3, 1) := by decide +kernel
theorem d_Letters_number_26 : decode b_Letters_number 26 = .ok (.iinc 4 1, 3) := by decide +kernel
theorem d_Letters_number_29 : decode b_Letters_number 29 = .ok (.goto (-24), 3) := by decide +kernel
theorem d_Letters_number_32 : decode b_Letters_number 32 = .ok (.iload_n 3, 1) := by decide +kernel
theorem d_Letters_number_33 : decode b_Letters_number 33 = .ok (.ireturn, 1) := by decide +kernel
set_option maxHeartbeats 4000000 in
set_option maxRecDepth 100000 in
theorem c_Letters_number {l : Launch} {D : va_G} {cI cJ cC : ClassId} (a_h a_h_text a_h_trial : Nat) {z_h_length : Int32} {z_h_text : (Nat → Int32)} {x1 : Int32} {x2 : Int32} {q : Int32} (hf : f_Letters_number z_h_length z_h_text x1 x2 = some q) : xI l y_Letters_number b_Letters_number 5 .int 1 21 D (tyK cI cJ cC) xE0 [.ref a_h, .int x1, .int x2] (w_Letters_number cI cJ cC a_h a_h_text a_h_trial z_h_length z_h_text) q (w_Letters_number cI cJ cC a_h a_h_text a_h_trial z_h_length z_h_text) := by
  refine xI_of (by decide) (Nat.le_of_ble_eq_true rfl) ?_
  intro p e s m args below meth c A Q hx hb hml hown hT hA hP hD hK hS hE hret ls hl
  have hown : s.vm.findClass R_Letters = some m.cls := hown
  have hl : lv_has ls 5 [(0, .ref a_h), (1, .int x1), (2, .int x2)] := hl
  unfold f_Letters_number at hf
  have L5 : ∀ (n : Nat) (x3 : Int32) (x4 : Int32) (H : Heap) (locs : List Loc) (ls : Array Slot), f_Letters_number_L5 z_h_length z_h_text x2 n x3 x4 = some q → va_P D classes (w_Letters_number cI cJ cC a_h a_h_text a_h_trial z_h_length z_h_text) H → va_D A (w_Letters_number cI cJ cC a_h a_h_text a_h_trial z_h_length z_h_text) → va_S A s.heap H locs → lv_has ls 5 [(0, .ref a_h), (2, .int x2), (3, .int x3), (4, .int x4)] → W p l e (xRm 1 21) s m args below meth c H locs 0 0 Q (F0 m 5 ls []) := by
    intro n
    induction n with
    | zero => intro x3 x4 H locs ls hf hP hD hS hl; exact nomatch (show (none : Option (Int32)) = some q from hf)
    | succ n ih =>
      intro x3 x4 H locs ls hf hP hD hS hl
      refine lv_iload hx hb d_Letters_number_5 (lv_at hl 3 rfl) ?_
      refine lv_iload_n hx hb d_Letters_number_7 rfl (lv_at hl 1 rfl) ?_
      refine lv_icmp_ge (tgt := 32) hx hb d_Letters_number_8 (by decide) (fun c1 => ?_) (fun c1 => ?_)
      · have hf := io_t hf c1
        refine lv_iload_n hx hb d_Letters_number_32 rfl (lv_at hl 2 rfl) ?_
        have hq := Option.some.inj hf
        subst hq
        exact hret _ _ _ _ _ d_Letters_number_33 rfl rfl hP hD hS
      · have hf := io_f hf c1
        refine lv_iload_n hx hb d_Letters_number_11 rfl (lv_at hl 2 rfl) ?_
        refine lv_bipush (v := 10) hx hb d_Letters_number_12 (by decide) ?_
        refine lv_imul hx hb d_Letters_number_14 ?_
        refine lv_aload_n hx hb d_Letters_number_15 rfl (lv_at hl 0 rfl) ?_
        refine lv_iload hx hb d_Letters_number_16 (lv_at hl 3 rfl) ?_
        obtain ⟨q2, hq2, hf⟩ := io_b hf
        refine xcVI (wc := (w_Letters_letterAt cI cJ cC a_h a_h_text a_h_trial z_h_length z_h_text)) (wc' := (w_Letters_letterAt cI cJ cC a_h a_h_text a_h_trial z_h_length z_h_text)) (ws' := (w_Letters_number cI cJ cC a_h a_h_text a_h_trial z_h_length z_h_text)) (As := [.int x4]) (rest := [.int (x3 * 10)]) hx hb hml hown hT (c_Letters_letterAt (z_h_length := z_h_length) (z_h_text := z_h_text) a_h a_h_text a_h_trial hq2) k_525 k_527 ks_9 k_3 k_528 hd_Letters_letterAt ⟨Nat.le_of_ble_eq_true rfl, Nat.le_of_ble_eq_true rfl⟩ xE0_ok trivial hA hK hP hD hS [0, 1] [] [0, 1] rfl rfl rfl rfl rfl rfl rfl rfl rfl rfl hl.1 rfl (Nat.le_of_ble_eq_true rfl) ⟨Nat.zero_le _, Nat.zero_le _⟩ d_Letters_number_18 (fun H locs hP hD hS => ?_)
        refine lv_iadd hx hb d_Letters_number_21 ?_
        refine lv_bipush (v := 48) hx hb d_Letters_number_22 (by decide) ?_
        refine lv_isub hx hb d_Letters_number_24 ?_
        refine lv_istore_n (lv' := [(3, .int (((x3 * 10) + q2) - 48)), (0, .ref a_h), (2, .int x2), (4, .int x4)]) hx hb d_Letters_number_25 rfl hl (by decide) rfl (fun ls hl => ?_)
        refine lv_iinc (v := (x4 + 1)) (lv' := [(4, .int (x4 + 1)), (3, .int (((x3 * 10) + q2) - 48)), (0, .ref a_h), (2, .int x2)]) hx hb d_Letters_number_26 hl (k := 3) rfl (by rfl) (by decide) rfl (fun ls hl => ?_)
        refine lv_goto (tgt := 5) hx hb d_Letters_number_29 (by decide) ?_
        exact ih (((x3 * 10) + q2) - 48) (x4 + 1) _ _ _ hf hP hD hS (lv_sub hl [2, 3, 1, 0] rfl)
  refine lv_iconst (v := 0) hx hb d_Letters_number_0 (by decide) ?_
  refine lv_istore_n (lv' := [(3, .int 0), (0, .ref a_h), (1, .int x1), (2, .int x2)]) hx hb d_Letters_number_1 rfl hl (by decide) rfl (fun ls hl => ?_)
  refine lv_iload_n hx hb d_Letters_number_2 rfl (lv_at hl 2 rfl) ?_
  refine lv_istore (lv' := [(4, .int x1), (3, .int 0), (0, .ref a_h), (1, .int x1), (2, .int x2)]) hx hb d_Letters_number_3 hl (by decide) rfl (fun ls hl => ?_)
  exact L5 FU 0 x1 _ _ _ hf hP hD hS (lv_sub hl [2, 4, 1, 0] rfl)
theorem d_X_outside_0 : decode b_X_outside 0 = .ok (.iload_n 0, 1) := by decide +kernel
theorem d_X_outside_1 : decode b_X_outside 1 = .ok (.iload_n 1, 1) := by decide +kernel
theorem d_X_outside_2 : decode b_X_outside 2 = .ok (.if_icmp .ge 6, 3) := by decide +kernel
theorem d_X_outside_5 : decode b_X_outside 5 = .ok (.bipush (-4), 2) := by decide +kernel
theorem d_X_outside_7 : decode b_X_outside 7 = .ok (.ireturn, 1) := by decide +kernel
theorem d_X_outside_8 : decode b_X_outside 8 = .ok (.iload_n 0, 1) := by decide +kernel
theorem d_X_outside_9 : decode b_X_outside 9 = .ok (.iload_n 2, 1) := by decide +kernel
theorem d_X_outside_10 : decode b_X_outside 10 = .ok (.if_icmp .le 8, 3) := by decide +kernel
theorem d_X_outside_13 : decode b_X_outside 13 = .ok (.bipush (-6), 2) := by decide +kernel
theorem d_X_outside_15 : decode b_X_outside 15 = .ok (.goto 4, 3) := by decide +kernel
theorem d_X_outside_18 : decode b_X_outside 18 = .ok (.iconst 0, 1) := by decide +kernel
theorem d_X_outside_19 : decode b_X_outside 19 = .ok (.ireturn, 1) := by decide +kernel
set_option maxHeartbeats 4000000 in
set_option maxRecDepth 100000 in
theorem c_X_outside {l : Launch} {D : va_G} {cI cJ cC : ClassId} {x0 : Int32} {x1 : Int32} {x2 : Int32} {q : Int32} (hf : f_X_outside x0 x1 x2 = some q) : xI l y_X_outside b_X_outside 3 .int 0 0 D (tyK cI cJ cC) xE0 [.int x0, .int x1, .int x2] [] q [] := by
  refine xI_of (by decide) (Nat.le_of_ble_eq_true rfl) ?_
  intro p e s m args below meth c A Q hx hb hml hown hT hA hP hD hK hS hE hret ls hl
  have hown : s.vm.findClass R_X = some m.cls := hown
  have hl : lv_has ls 3 [(0, .int x0), (1, .int x1), (2, .int x2)] := hl
  unfold f_X_outside at hf
  refine lv_iload_n hx hb d_X_outside_0 rfl (lv_at hl 0 rfl) ?_
  refine lv_iload_n hx hb d_X_outside_1 rfl (lv_at hl 1 rfl) ?_
  refine lv_icmp_ge (tgt := 8) hx hb d_X_outside_2 (by decide) (fun c1 => ?_) (fun c1 => ?_)
  · have hf := io_t hf c1
    refine lv_iload_n hx hb d_X_outside_8 rfl (lv_at hl 0 rfl) ?_
    refine lv_iload_n hx hb d_X_outside_9 rfl (lv_at hl 2 rfl) ?_
    refine lv_icmp_le (tgt := 18) hx hb d_X_outside_10 (by decide) (fun c2 => ?_) (fun c2 => ?_)
    · have hf := io_t hf c2
      refine lv_iconst (v := 0) hx hb d_X_outside_18 (by decide) ?_
      have hq := Option.some.inj hf
      subst hq
      exact hret _ _ _ _ _ d_X_outside_19 rfl rfl hP hD hS
    · have hf := io_f hf c2
      refine lv_bipush (v := (-6)) hx hb d_X_outside_13 (by decide) ?_
      refine lv_goto (tgt := 19) hx hb d_X_outside_15 (by decide) ?_
      have hq := Option.some.inj hf
      subst hq
      exact hret _ _ _ _ _ d_X_outside_19 rfl rfl hP hD hS
  · have hf := io_f hf c1
    refine lv_bipush (v := (-4)) hx hb d_X_outside_5 (by decide) ?_
    have hq := Option.some.inj hf
    subst hq
    exact hret _ _ _ _ _ d_X_outside_7 rfl rfl hP hD hS
abbrev w_Letters_bring (cI cJ cC : ClassId) (a_h a_h_text a_h_trial a_h_trial_kinds a_h_trial_sweets a_h_trial_settings a_h_trial_heaps : Nat) (y_h_length : Int32) (p_h_trial_children : Int32) (p_h_trial_strokes : Int32) (p_h_trial_gave : Int32) (p_h_trial_threw : Int32) (p_h_trial_kinds : (Nat → Int32)) (p_h_trial_sweets : (Nat → Int32)) (p_h_trial_settings : (Nat → Int32)) (p_h_trial_heaps : (Nat → Int32)) : va_W := [(a_h, .inr (2, [.int y_h_length, .ref a_h_text, .ref a_h_trial])), (a_h_trial, .inr (1, [.ref a_h_trial_kinds, .ref a_h_trial_sweets, .ref a_h_trial_settings, .int p_h_trial_children, .int p_h_trial_strokes, .int p_h_trial_gave, .int p_h_trial_threw, .ref a_h_trial_heaps])), (a_h_trial_kinds, .inl (cI, (8, .inl p_h_trial_kinds))), (a_h_trial_sweets, .inl (cI, (8, .inl p_h_trial_sweets))), (a_h_trial_settings, .inl (cI, (3, .inl p_h_trial_settings))), (a_h_trial_heaps, .inl (cI, (8, .inl p_h_trial_heaps)))]
theorem d_Letters_bring_0 : decode b_Letters_bring 0 = .ok (.iload_n 2, 1) := by decide +kernel
theorem d_Letters_bring_1 : decode b_Letters_bring 1 = .ok (.getstatic 75, 3) := by decide +kernel
theorem d_Letters_bring_4 : decode b_Letters_bring 4 = .ok (.iload_n 1, 1) := by decide +kernel
theorem d_Letters_bring_5 : decode b_Letters_bring 5 = .ok (.iaload, 1) := by decide +kernel
theorem d_Letters_bring_6 : decode b_Letters_bring 6 = .ok (.getstatic 79, 3) := by decide +kernel
theorem d_Letters_bring_9 : decode b_Letters_bring 9 = .ok (.iload_n 1, 1) := by decide +kernel
theorem d_Letters_bring_10 : decode b_Letters_bring 10 = .ok (.iaload, 1) := by decide +kernel
theorem d_Letters_bring_11 : decode b_Letters_bring 11 = .ok (.invokestatic 82, 3) := by decide +kernel
theorem d_Letters_bring_14 : decode b_Letters_bring 14 = .ok (.ifCond .eq 5, 3) := by decide +kernel
theorem d_Letters_bring_17 : decode b_Letters_bring 17 = .ok (.iconst 0, 1) := by decide +kernel
theorem d_Letters_bring_18 : decode b_Letters_bring 18 = .ok (.ireturn, 1) := by decide +kernel
theorem d_Letters_bring_19 : decode b_Letters_bring 19 = .ok (.aload_n 0, 1) := by decide +kernel
theorem d_Letters_bring_20 : decode b_Letters_bring 20 = .ok (.getfield 22, 3) := by decide +kernel
theorem d_Letters_bring_23 : decode b_Letters_bring 23 = .ok (.getfield 86, 3) := by decide +kernel
theorem d_Letters_bring_26 : decode b_Letters_bring 26 = .ok (.iload_n 1, 1) := by decide +kernel
theorem d_Letters_bring_27 : decode b_Letters_bring 27 = .ok (.iload_n 2, 1) := by decide +kernel
theorem d_Letters_bring_28 : decode b_Letters_bring 28 = .ok (.iastore, 1) := by decide +kernel
theorem d_Letters_bring_29 : decode b_Letters_bring 29 = .ok (.iconst 1, 1) := by decide +kernel
theorem d_Letters_bring_30 : decode b_Letters_bring 30 = .ok (.ireturn, 1) := by decide +kernel
set_option maxHeartbeats 4000000 in
set_option maxRecDepth 100000 in
theorem c_Letters_bring {l : Launch} {D : va_G} {cI cJ cC : ClassId} {t_LEAST_SETTING t_GREATEST_SETTING t_str t_val : Nat} (a_h a_h_text a_h_trial a_h_trial_kinds a_h_trial_sweets a_h_trial_settings a_h_trial_heaps : Nat) (y_h_length : Int32) {z_h_trial : RS} {x1 : Int32} {x2 : Int32} {q : Int32 × RS} (hf : f_Letters_bring z_h_trial x1 x2 = some q) : xI l y_Letters_bring b_Letters_bring 3 .boolean 1 22 D (tyK cI cJ cC) (xEv t_LEAST_SETTING t_GREATEST_SETTING t_str t_val) [.ref a_h, .int x1, .int x2] (w_Letters_bring cI cJ cC a_h a_h_text a_h_trial a_h_trial_kinds a_h_trial_sweets a_h_trial_settings a_h_trial_heaps y_h_length (r_children z_h_trial) (r_strokes z_h_trial) (r_gave z_h_trial) (r_threw z_h_trial) (r_kinds z_h_trial) (r_sweets z_h_trial) (r_settings z_h_trial) (r_heaps z_h_trial)) q.1 (w_Letters_bring cI cJ cC a_h a_h_text a_h_trial a_h_trial_kinds a_h_trial_sweets a_h_trial_settings a_h_trial_heaps y_h_length (r_children q.2) (r_strokes q.2) (r_gave q.2) (r_threw q.2) (r_kinds q.2) (r_sweets q.2) (r_settings q.2) (r_heaps q.2)) := by
  refine xI_of (by decide) (Nat.le_of_ble_eq_true rfl) ?_
  intro p e s m args below meth c A Q hx hb hml hown hT hA hP hD hK hS hE hret ls hl
  have hown : s.vm.findClass R_Letters = some m.cls := hown
  have hl : lv_has ls 3 [(0, .ref a_h), (1, .int x1), (2, .int x2)] := hl
  unfold f_Letters_bring at hf
  obtain ⟨hZ_LEAST_SETTING, hT_LEAST_SETTING, hZ_GREATEST_SETTING, hT_GREATEST_SETTING, hZ_CS, hO_str, hC_str, hV_str, hT_str, hR_str, hN_X_outside, hNF_LEAST_SETTING, hNF_GREATEST_SETTING⟩ := id hE
  refine lv_iload_n hx hb d_Letters_bring_0 rfl (lv_at hl 2 rfl) ?_
  refine va_getsN hx hb hZ_LEAST_SETTING hS hown (va_Nw.use rfl hNF_LEAST_SETTING) (fun _ h => h) d_Letters_bring_1 ?_
  refine lv_iload_n hx hb d_Letters_bring_4 rfl (lv_at hl 1 rfl) ?_
  obtain ⟨c1, hf⟩ := io_n hf
  refine va_ti (v := .int (s_LEAST_SETTING x1.toNatClampNeg)) hx hb hT_LEAST_SETTING hS c1 rfl d_Letters_bring_5 ?_
  refine va_getsN hx hb hZ_GREATEST_SETTING hS hown (va_Nw.use rfl hNF_GREATEST_SETTING) (fun _ h => h) d_Letters_bring_6 ?_
  refine lv_iload_n hx hb d_Letters_bring_9 rfl (lv_at hl 1 rfl) ?_
  refine va_ti (v := .int (s_GREATEST_SETTING x1.toNatClampNeg)) hx hb hT_GREATEST_SETTING hS c1 rfl d_Letters_bring_10 ?_
  obtain ⟨q2, hq2, hf⟩ := io_b hf
  refine xcNI (wc := []) (wc' := []) (ws' := (w_Letters_bring cI cJ cC a_h a_h_text a_h_trial a_h_trial_kinds a_h_trial_sweets a_h_trial_settings a_h_trial_heaps y_h_length (r_children z_h_trial) (r_strokes z_h_trial) (r_gave z_h_trial) (r_threw z_h_trial) (r_kinds z_h_trial) (r_sweets z_h_trial) (r_settings z_h_trial) (r_heaps z_h_trial))) (As := [.int x2, .int (s_LEAST_SETTING x1.toNatClampNeg), .int (s_GREATEST_SETTING x1.toNatClampNeg)]) (rest := []) hx hb hml hown hT (c_X_outside hq2) (va_Nw.use rfl hN_X_outside) k_246 k_1 k_247 hd_X_outside ⟨Nat.le_of_ble_eq_true rfl, Nat.le_of_ble_eq_true rfl⟩ xE0_ok trivial hA hK hP hD hS [] [0, 1, 2, 3, 4, 5] [0, 1, 2, 3, 4, 5] rfl rfl rfl rfl rfl rfl rfl hl.1 rfl (Nat.le_of_ble_eq_true rfl) ⟨Nat.zero_le _, Nat.zero_le _⟩ d_Letters_bring_11 (fun H locs hP hD hS => ?_)
  refine lv_if_eq (tgt := 19) hx hb d_Letters_bring_14 (by decide) (fun c3 => ?_) (fun c3 => ?_)
  · have hf := io_t hf c3
    refine lv_aload_n hx hb d_Letters_bring_19 rfl (lv_at hl 0 rfl) ?_
    refine va_get hx hb hT i_Letters hown hK hP 0 rfl rfl 2 (Nat.le_of_ble_eq_true rfl) (hT _ k_79) (fun _ h => h) rfl d_Letters_bring_20 ?_
    refine va_get hx hb hT i_Ring hown hK hP 1 rfl rfl 2 (Nat.le_of_ble_eq_true rfl) (hT _ k_37) (fun _ h => h) rfl d_Letters_bring_23 ?_
    refine lv_iload_n hx hb d_Letters_bring_26 rfl (lv_at hl 1 rfl) ?_
    refine lv_iload_n hx hb d_Letters_bring_27 rfl (lv_at hl 2 rfl) ?_
    refine x_iast hx hb hK hP hD hS 4 0 rfl rfl (j := x1.toNatClampNeg) rfl c1 d_Letters_bring_28 (fun H locs hP hD hS => ?_)
    have hP : va_P D classes (w_Letters_bring cI cJ cC a_h a_h_text a_h_trial a_h_trial_kinds a_h_trial_sweets a_h_trial_settings a_h_trial_heaps y_h_length (r_children z_h_trial) (r_strokes z_h_trial) (r_gave z_h_trial) (r_threw z_h_trial) (r_kinds z_h_trial) (r_sweets z_h_trial) (upd (r_settings z_h_trial) x1.toNatClampNeg x2) (r_heaps z_h_trial)) H := hP
    have hD : va_D A (w_Letters_bring cI cJ cC a_h a_h_text a_h_trial a_h_trial_kinds a_h_trial_sweets a_h_trial_settings a_h_trial_heaps y_h_length (r_children z_h_trial) (r_strokes z_h_trial) (r_gave z_h_trial) (r_threw z_h_trial) (r_kinds z_h_trial) (r_sweets z_h_trial) (upd (r_settings z_h_trial) x1.toNatClampNeg x2) (r_heaps z_h_trial)) := hD
    refine lv_iconst (v := 1) hx hb d_Letters_bring_29 (by decide) ?_
    have hq := Option.some.inj hf
    subst hq
    exact hret _ _ _ _ _ d_Letters_bring_30 (by decide) rfl hP hD hS
  · have hf := io_f hf c3
    refine lv_iconst (v := 0) hx hb d_Letters_bring_17 (by decide) ?_
    have hq := Option.some.inj hf
    subst hq
    exact hret _ _ _ _ _ d_Letters_bring_18 (by decide) rfl hP hD hS
abbrev w_Letters_carryOutOne (cI cJ cC : ClassId) (a_h a_h_text a_h_trial a_h_trial_kinds a_h_trial_sweets a_h_trial_settings a_h_trial_heaps : Nat) (p_h_length : Int32) (p_h_text : (Nat → Int32)) (p_h_trial_children : Int32) (p_h_trial_strokes : Int32) (p_h_trial_gave : Int32) (p_h_trial_threw : Int32) (p_h_trial_kinds : (Nat → Int32)) (p_h_trial_sweets : (Nat → Int32)) (p_h_trial_settings : (Nat → Int32)) (p_h_trial_heaps : (Nat → Int32)) : va_W := [(a_h, .inr (2, [.int p_h_length, .ref a_h_text, .ref a_h_trial])), (a_h_text, .inl (cC, (64, .inl p_h_text))), (a_h_trial, .inr (1, [.ref a_h_trial_kinds, .ref a_h_trial_sweets, .ref a_h_trial_settings, .int p_h_trial_children, .int p_h_trial_strokes, .int p_h_trial_gave, .int p_h_trial_threw, .ref a_h_trial_heaps])), (a_h_trial_kinds, .inl (cI, (8, .inl p_h_trial_kinds))), (a_h_trial_sweets, .inl (cI, (8, .inl p_h_trial_sweets))), (a_h_trial_settings, .inl (cI, (3, .inl p_h_trial_settings))), (a_h_trial_heaps, .inl (cI, (8, .inl p_h_trial_heaps)))]
theorem d_Letters_carryOutOne_0 : decode b_Letters_carryOutOne 0 = .ok (.aload_n 0, 1) := by decide +kernel
theorem d_Letters_carryOutOne_1 : decode b_Letters_carryOutOne 1 = .ok (.iload_n 1, 1) := by decide +kernel
theorem d_Letters_carryOutOne_2 : decode b_Letters_carryOutOne 2 = .ok (.invokevirtual 61, 3) := by decide +kernel
theorem d_Letters_carryOutOne_5 : decode b_Letters_carryOutOne 5 = .ok (.lookupswitch 117 #[(99, 35), (103, 103), (108, 63)], 35) := by decide +kernel
theorem d_Letters_carryOutOne_40 : decode b_Letters_carryOutOne 40 = .ok (.aload_n 0, 1) := by decide +kernel
theorem d_Letters_carryOutOne_41 : decode b_Letters_carryOutOne 41 = .ok (.getfield 22, 3) := by decide +kernel
theorem d_Letters_carryOutOne_44 : decode b_Letters_carryOutOne 44 = .ok (.ldc 46, 2) := by decide +kernel
theorem d_Letters_carryOutOne_46 : decode b_Letters_carryOutOne 46 = .ok (.aload_n 0, 1) := by decide +kernel
theorem d_Letters_carryOutOne_47 : decode b_Letters_carryOutOne 47 = .ok (.iload_n 1, 1) := by decide +kernel
theorem d_Letters_carryOutOne_48 : decode b_Letters_carryOutOne 48 = .ok (.iconst 1, 1) := by decide +kernel
theorem d_Letters_carryOutOne_49 : decode b_Letters_carryOutOne 49 = .ok (.iadd, 1) := by decide +kernel
theorem d_Letters_carryOutOne_50 : decode b_Letters_carryOutOne 50 = .ok (.invokevirtual 61, 3) := by decide +kernel
theorem d_Letters_carryOutOne_53 : decode b_Letters_carryOutOne 53 = .ok (.invokevirtual 48, 3) := by decide +kernel
theorem d_Letters_carryOutOne_56 : decode b_Letters_carryOutOne 56 = .ok (.aload_n 0, 1) := by decide +kernel
theorem d_Letters_carryOutOne_57 : decode b_Letters_carryOutOne 57 = .ok (.iload_n 1, 1) := by decide +kernel
theorem d_Letters_carryOutOne_58 : decode b_Letters_carryOutOne 58 = .ok (.iconst 2, 1) := by decide +kernel
theorem d_Letters_carryOutOne_59 : decode b_Letters_carryOutOne 59 = .ok (.iadd, 1) := by decide +kernel
theorem d_Letters_carryOutOne_60 : decode b_Letters_carryOutOne 60 = .ok (.iload_n 2, 1) := by decide +kernel
theorem d_Letters_carryOutOne_61 : decode b_Letters_carryOutOne 61 = .ok (.invokevirtual 65, 3) := by decide +kernel
theorem d_Letters_carryOutOne_64 : decode b_Letters_carryOutOne 64 = .ok (.invokevirtual 69, 3) := by decide +kernel
theorem d_Letters_carryOutOne_67 : decode b_Letters_carryOutOne 67 = .ok (.ireturn, 1) := by decide +kernel
theorem d_Letters_carryOutOne_68 : decode b_Letters_carryOutOne 68 = .ok (.aload_n 0, 1) := by decide +kernel
theorem d_Letters_carryOutOne_69 : decode b_Letters_carryOutOne 69 = .ok (.iconst 0, 1) := by decide +kernel
theorem d_Letters_carryOutOne_70 : decode b_Letters_carryOutOne 70 = .ok (.aload_n 0, 1) := by decide +kernel
theorem d_Letters_carryOutOne_71 : decode b_Letters_carryOutOne 71 = .ok (.iload_n 1, 1) := by decide +kernel
theorem d_Letters_carryOutOne_72 : decode b_Letters_carryOutOne 72 = .ok (.iconst 1, 1) := by decide +kernel
theorem d_Letters_carryOutOne_73 : decode b_Letters_carryOutOne 73 = .ok (.iadd, 1) := by decide +kernel
theorem d_Letters_carryOutOne_74 : decode b_Letters_carryOutOne 74 = .ok (.iload_n 1, 1) := by decide +kernel
theorem d_Letters_carryOutOne_75 : decode b_Letters_carryOutOne 75 = .ok (.iconst 2, 1) := by decide +kernel
theorem d_Letters_carryOutOne_76 : decode b_Letters_carryOutOne 76 = .ok (.iadd, 1) := by decide +kernel
theorem d_Letters_carryOutOne_77 : decode b_Letters_carryOutOne 77 = .ok (.invokevirtual 65, 3) := by decide +kernel
theorem d_Letters_carryOutOne_80 : decode b_Letters_carryOutOne 80 = .ok (.invokevirtual 72, 3) := by decide +kernel
theorem d_Letters_carryOutOne_83 : decode b_Letters_carryOutOne 83 = .ok (.ifCond .eq 23, 3) := by decide +kernel
theorem d_Letters_carryOutOne_86 : decode b_Letters_carryOutOne 86 = .ok (.aload_n 0, 1) := by decide +kernel
theorem d_Letters_carryOutOne_87 : decode b_Letters_carryOutOne 87 = .ok (.iconst 1, 1) := by decide +kernel
theorem d_Letters_carryOutOne_88 : decode b_Letters_carryOutOne 88 = .ok (.aload_n 0, 1) := by decide +kernel
theorem d_Letters_carryOutOne_89 : decode b_Letters_carryOutOne 89 = .ok (.iload_n 1, 1) := by decide +kernel
theorem d_Letters_carryOutOne_90 : decode b_Letters_carryOutOne 90 = .ok (.iconst 2, 1) := by decide +kernel
theorem d_Letters_carryOutOne_91 : decode b_Letters_carryOutOne 91 = .ok (.iadd, 1) := by decide +kernel
theorem d_Letters_carryOutOne_92 : decode b_Letters_carryOutOne 92 = .ok (.iload_n 2, 1) := by decide +kernel
theorem d_Letters_carryOutOne_93 : decode b_Letters_carryOutOne 93 = .ok (.invokevirtual 65, 3) := by decide +kernel
theorem d_Letters_carryOutOne_96 : decode b_Letters_carryOutOne 96 = .ok (.invokevirtual 72, 3) := by decide +kernel
theorem d_Letters_carryOutOne_99 : decode b_Letters_carryOutOne 99 = .ok (.ifCond .eq 7, 3) := by decide +kernel
theorem d_Letters_carryOutOne_102 : decode b_Letters_carryOutOne 102 = .ok (.iconst 1, 1) := by decide +kernel
theorem d_Letters_carryOutOne_103 : decode b_Letters_carryOutOne 103 = .ok (.goto 4, 3) := by decide +kernel
theorem d_Letters_carryOutOne_106 : decode b_Letters_carryOutOne 106 = .ok (.iconst 0, 1) := by decide +kernel
theorem d_Letters_carryOutOne_107 : decode b_Letters_carryOutOne 107 = .ok (.ireturn, 1) := by decide +kernel
theorem d_Letters_carryOutOne_108 : decode b_Letters_carryOutOne 108 = .ok (.aload_n 0, 1) := by decide +kernel
theorem d_Letters_carryOutOne_109 : decode b_Letters_carryOutOne 109 = .ok (.iconst 2, 1) := by decide +kernel
theorem d_Letters_carryOutOne_110 : decode b_Letters_carryOutOne 110 = .ok (.aload_n 0, 1) := by decide +kernel
theorem d_Letters_carryOutOne_111 : decode b_Letters_carryOutOne 111 = .ok (.iload_n 1, 1) := by decide +kernel
theorem d_Letters_carryOutOne_112 : decode b_Letters_carryOutOne 112 = .ok (.iconst 1, 1) := by decide +kernel
theorem d_Letters_carryOutOne_113 : decode b_Letters_carryOutOne 113 = .ok (.iadd, 1) := by decide +kernel
theorem d_Letters_carryOutOne_114 : decode b_Letters_carryOutOne 114 = .ok (.iload_n 2, 1) := by decide +kernel
theorem d_Letters_carryOutOne_115 : decode b_Letters_carryOutOne 115 = .ok (.invokevirtual 65, 3) := by decide +kernel
theorem d_Letters_carryOutOne_118 : decode b_Letters_carryOutOne 118 = .ok (.invokevirtual 72, 3) := by decide +kernel
theorem d_Letters_carryOutOne_121 : decode b_Letters_carryOutOne 121 = .ok (.ireturn, 1) := by decide +kernel
theorem d_Letters_carryOutOne_122 : decode b_Letters_carryOutOne 122 = .ok (.iconst 0, 1) := by decide +kernel
theorem d_Letters_carryOutOne_123 : decode b_Letters_carryOutOne 123 = .ok (.ireturn, 1) := by decide +kernel
set_option maxHeartbeats 4000000 in
set_option maxRecDepth 100000 in
theorem c_Letters_carryOutOne {l : Launch} {D : va_G} {cI cJ cC : ClassId} {t_LEAST_SETTING t_GREATEST_SETTING t_str t_val : Nat} (a_h a_h_text a_h_trial a_h_trial_kinds a_h_trial_sweets a_h_trial_settings a_h_trial_heaps : Nat) {z_h_length : Int32} {z_h_text : (Nat → Int32)} {z_h_trial : RS} {x1 : Int32} {x2 : Int32} {q : Int32 × RS} (hf : f_Letters_carryOutOne z_h_length z_h_text z_h_trial x1 x2 = some q) : xI l y_Letters_carryOutOne b_Letters_carryOutOne 3 .boolean 4 91 D (tyK cI cJ cC) (xEv t_LEAST_SETTING t_GREATEST_SETTING t_str t_val) [.ref a_h, .int x1, .int x2] (w_Letters_carryOutOne cI cJ cC a_h a_h_text a_h_trial a_h_trial_kinds a_h_trial_sweets a_h_trial_settings a_h_trial_heaps z_h_length z_h_text (r_children z_h_trial) (r_strokes z_h_trial) (r_gave z_h_trial) (r_threw z_h_trial) (r_kinds z_h_trial) (r_sweets z_h_trial) (r_settings z_h_trial) (r_heaps z_h_trial)) q.1 (w_Letters_carryOutOne cI cJ cC a_h a_h_text a_h_trial a_h_trial_kinds a_h_trial_sweets a_h_trial_settings a_h_trial_heaps z_h_length z_h_text (r_children q.2) (r_strokes q.2) (r_gave q.2) (r_threw q.2) (r_kinds q.2) (r_sweets q.2) (r_settings q.2) (r_heaps q.2)) := by
  refine xI_of (by decide) (Nat.le_of_ble_eq_true rfl) ?_
  intro p e s m args below meth c A Q hx hb hml hown hT hA hP hD hK hS hE hret ls hl
  have hown : s.vm.findClass R_Letters = some m.cls := hown
  have hl : lv_has ls 3 [(0, .ref a_h), (1, .int x1), (2, .int x2)] := hl
  unfold f_Letters_carryOutOne at hf
  obtain ⟨hZ_LEAST_SETTING, hT_LEAST_SETTING, hZ_GREATEST_SETTING, hT_GREATEST_SETTING, hZ_CS, hO_str, hC_str, hV_str, hT_str, hR_str, hN_X_outside, hNF_LEAST_SETTING, hNF_GREATEST_SETTING⟩ := id hE
  refine lv_aload_n hx hb d_Letters_carryOutOne_0 rfl (lv_at hl 0 rfl) ?_
  refine lv_iload_n hx hb d_Letters_carryOutOne_1 rfl (lv_at hl 1 rfl) ?_
  obtain ⟨q1, hq1, hf⟩ := io_b hf
  refine xcVI (wc := (w_Letters_letterAt cI cJ cC a_h a_h_text a_h_trial z_h_length z_h_text)) (wc' := (w_Letters_letterAt cI cJ cC a_h a_h_text a_h_trial z_h_length z_h_text)) (ws' := (w_Letters_carryOutOne cI cJ cC a_h a_h_text a_h_trial a_h_trial_kinds a_h_trial_sweets a_h_trial_settings a_h_trial_heaps z_h_length z_h_text (r_children z_h_trial) (r_strokes z_h_trial) (r_gave z_h_trial) (r_threw z_h_trial) (r_kinds z_h_trial) (r_sweets z_h_trial) (r_settings z_h_trial) (r_heaps z_h_trial))) (As := [.int x1]) (rest := []) hx hb hml hown hT (c_Letters_letterAt (z_h_length := z_h_length) (z_h_text := z_h_text) a_h a_h_text a_h_trial hq1) k_525 k_527 ks_9 k_3 k_528 hd_Letters_letterAt ⟨Nat.le_of_ble_eq_true rfl, Nat.le_of_ble_eq_true rfl⟩ xE0_ok trivial hA hK hP hD hS [0, 1] [2, 3, 4, 5, 6] [5, 6, 0, 1, 2, 3, 4] rfl rfl rfl rfl rfl rfl rfl rfl rfl rfl hl.1 rfl (Nat.le_of_ble_eq_true rfl) ⟨Nat.zero_le _, Nat.zero_le _⟩ d_Letters_carryOutOne_2 (fun H locs hP hD hS => ?_)
  rcases Decidable.em (q1 = 99) with c2 | c2
  · have hf := io_t hf c2
    refine lv_lookup (off := 35) (tgt := 40) hx hb d_Letters_carryOutOne_5 (by decide +kernel) (by rw [c2]; rfl) (by decide) ?_
    refine lv_aload_n hx hb d_Letters_carryOutOne_40 rfl (lv_at hl 0 rfl) ?_
    refine va_get hx hb hT i_Letters hown hK hP 0 rfl rfl 2 (Nat.le_of_ble_eq_true rfl) (hT _ k_79) (fun _ h => h) rfl d_Letters_carryOutOne_41 ?_
    refine va_ldcS hx hb hown hR_str d_Letters_carryOutOne_44 ?_
    refine lv_aload_n hx hb d_Letters_carryOutOne_46 rfl (lv_at hl 0 rfl) ?_
    refine lv_iload_n hx hb d_Letters_carryOutOne_47 rfl (lv_at hl 1 rfl) ?_
    refine lv_iconst (v := 1) hx hb d_Letters_carryOutOne_48 (by decide) ?_
    refine lv_iadd hx hb d_Letters_carryOutOne_49 ?_
    obtain ⟨q3, hq3, hf⟩ := io_b hf
    refine xcVI (wc := (w_Letters_letterAt cI cJ cC a_h a_h_text a_h_trial z_h_length z_h_text)) (wc' := (w_Letters_letterAt cI cJ cC a_h a_h_text a_h_trial z_h_length z_h_text)) (ws' := (w_Letters_carryOutOne cI cJ cC a_h a_h_text a_h_trial a_h_trial_kinds a_h_trial_sweets a_h_trial_settings a_h_trial_heaps z_h_length z_h_text (r_children z_h_trial) (r_strokes z_h_trial) (r_gave z_h_trial) (r_threw z_h_trial) (r_kinds z_h_trial) (r_sweets z_h_trial) (r_settings z_h_trial) (r_heaps z_h_trial))) (As := [.int (x1 + 1)]) (rest := [.ref t_str, .ref a_h_trial]) hx hb hml hown hT (c_Letters_letterAt (z_h_length := z_h_length) (z_h_text := z_h_text) a_h a_h_text a_h_trial hq3) k_525 k_527 ks_9 k_3 k_528 hd_Letters_letterAt ⟨Nat.le_of_ble_eq_true rfl, Nat.le_of_ble_eq_true rfl⟩ xE0_ok trivial hA hK hP hD hS [0, 1] [2, 3, 4, 5, 6] [5, 6, 0, 1, 2, 3, 4] rfl rfl rfl rfl rfl rfl rfl rfl rfl rfl hl.1 rfl (Nat.le_of_ble_eq_true rfl) ⟨Nat.zero_le _, Nat.zero_le _⟩ d_Letters_carryOutOne_50 (fun H locs hP hD hS => ?_)
    obtain ⟨q4, hq4, hf⟩ := io_b hf
    refine xcTI (wc := []) (wc' := []) (ws' := (w_Letters_carryOutOne cI cJ cC a_h a_h_text a_h_trial a_h_trial_kinds a_h_trial_sweets a_h_trial_settings a_h_trial_heaps z_h_length z_h_text (r_children z_h_trial) (r_strokes z_h_trial) (r_gave z_h_trial) (r_threw z_h_trial) (r_kinds z_h_trial) (r_sweets z_h_trial) (r_settings z_h_trial) (r_heaps z_h_trial))) (As := [.int q3]) (rest := [.ref a_h_trial]) hx hb hml hown hT (c_Str_indexOf1 hq4) k_432 k_433 k_434 k_8 k_435 hd_Str_indexOf1 ⟨Nat.le_of_ble_eq_true rfl, Nat.le_of_ble_eq_true rfl⟩ (xEv_ok _ _ _ _) hE hA hK hP hD hS [] [0, 1, 2, 3, 4, 5, 6] [0, 1, 2, 3, 4, 5, 6] rfl rfl rfl rfl rfl rfl rfl (x_rec hO_str hS) hl.1 rfl (Nat.le_of_ble_eq_true rfl) ⟨Nat.zero_le _, Nat.zero_le _⟩ d_Letters_carryOutOne_53 (fun H locs hP hD hS => ?_)
    refine lv_aload_n hx hb d_Letters_carryOutOne_56 rfl (lv_at hl 0 rfl) ?_
    refine lv_iload_n hx hb d_Letters_carryOutOne_57 rfl (lv_at hl 1 rfl) ?_
    refine lv_iconst (v := 2) hx hb d_Letters_carryOutOne_58 (by decide) ?_
    refine lv_iadd hx hb d_Letters_carryOutOne_59 ?_
    refine lv_iload_n hx hb d_Letters_carryOutOne_60 rfl (lv_at hl 2 rfl) ?_
    obtain ⟨q5, hq5, hf⟩ := io_b hf
    refine xcVI (wc := (w_Letters_number cI cJ cC a_h a_h_text a_h_trial z_h_length z_h_text)) (wc' := (w_Letters_number cI cJ cC a_h a_h_text a_h_trial z_h_length z_h_text)) (ws' := (w_Letters_carryOutOne cI cJ cC a_h a_h_text a_h_trial a_h_trial_kinds a_h_trial_sweets a_h_trial_settings a_h_trial_heaps z_h_length z_h_text (r_children z_h_trial) (r_strokes z_h_trial) (r_gave z_h_trial) (r_threw z_h_trial) (r_kinds z_h_trial) (r_sweets z_h_trial) (r_settings z_h_trial) (r_heaps z_h_trial))) (As := [.int (x1 + 2), .int x2]) (rest := [.int q4, .ref a_h_trial]) hx hb hml hown hT (c_Letters_number (z_h_length := z_h_length) (z_h_text := z_h_text) a_h a_h_text a_h_trial hq5) k_529 k_531 ks_10 k_3 k_532 hd_Letters_number ⟨Nat.le_of_ble_eq_true rfl, Nat.le_of_ble_eq_true rfl⟩ xE0_ok trivial hA hK hP hD hS [0, 1] [2, 3, 4, 5, 6] [5, 6, 0, 1, 2, 3, 4] rfl rfl rfl rfl rfl rfl rfl rfl rfl rfl hl.1 rfl (Nat.le_of_ble_eq_true rfl) ⟨Nat.zero_le _, Nat.zero_le _⟩ d_Letters_carryOutOne_61 (fun H locs hP hD hS => ?_)
    obtain ⟨q6, hq6, hf⟩ := io_b hf
    refine xcVI (wc := (w_Ring_seatLast cI cJ cC a_h_trial a_h_trial_kinds a_h_trial_sweets a_h_trial_settings a_h_trial_heaps (r_children z_h_trial) (r_strokes z_h_trial) (r_gave z_h_trial) (r_threw z_h_trial) (r_kinds z_h_trial) (r_sweets z_h_trial) (r_settings z_h_trial) (r_heaps z_h_trial))) (wc' := (w_Ring_seatLast cI cJ cC a_h_trial a_h_trial_kinds a_h_trial_sweets a_h_trial_settings a_h_trial_heaps (r_children q6.2) (r_strokes q6.2) (r_gave q6.2) (r_threw q6.2) (r_kinds q6.2) (r_sweets q6.2) (r_settings q6.2) (r_heaps q6.2))) (ws' := (w_Letters_carryOutOne cI cJ cC a_h a_h_text a_h_trial a_h_trial_kinds a_h_trial_sweets a_h_trial_settings a_h_trial_heaps z_h_length z_h_text (r_children q6.2) (r_strokes q6.2) (r_gave q6.2) (r_threw q6.2) (r_kinds q6.2) (r_sweets q6.2) (r_settings q6.2) (r_heaps q6.2))) (As := [.int q4, .int q5]) (rest := []) hx hb hml hown hT (c_Ring_seatLast (z_h := z_h_trial) a_h_trial a_h_trial_kinds a_h_trial_sweets a_h_trial_settings a_h_trial_heaps hq6) k_533 k_534 k_535 k_2 k_536 hd_Ring_seatLast ⟨Nat.le_of_ble_eq_true rfl, Nat.le_of_ble_eq_true rfl⟩ xE0_ok trivial hA hK hP hD hS [2, 3, 4, 5, 6] [0, 1] [0, 1, 2, 3, 4, 5, 6] rfl rfl rfl rfl rfl rfl rfl rfl rfl rfl hl.1 rfl (Nat.le_of_ble_eq_true rfl) ⟨Nat.zero_le _, Nat.zero_le _⟩ d_Letters_carryOutOne_64 (fun H locs hP hD hS => ?_)
    obtain ⟨c7, hf⟩ := io_n hf
    have hq := Option.some.inj hf
    subst hq
    exact hret _ _ _ _ _ d_Letters_carryOutOne_67 (x_narZ c7) rfl hP hD hS
  · have hf := io_f hf c2
    rcases Decidable.em (q1 = 103) with c8 | c8
    · have hf := io_t hf c8
      refine lv_lookup (off := 103) (tgt := 108) hx hb d_Letters_carryOutOne_5 (by decide +kernel) (by rw [c8]; rfl) (by decide) ?_
      refine lv_aload_n hx hb d_Letters_carryOutOne_108 rfl (lv_at hl 0 rfl) ?_
      refine lv_iconst (v := 2) hx hb d_Letters_carryOutOne_109 (by decide) ?_
      refine lv_aload_n hx hb d_Letters_carryOutOne_110 rfl (lv_at hl 0 rfl) ?_
      refine lv_iload_n hx hb d_Letters_carryOutOne_111 rfl (lv_at hl 1 rfl) ?_
      refine lv_iconst (v := 1) hx hb d_Letters_carryOutOne_112 (by decide) ?_
      refine lv_iadd hx hb d_Letters_carryOutOne_113 ?_
      refine lv_iload_n hx hb d_Letters_carryOutOne_114 rfl (lv_at hl 2 rfl) ?_
      obtain ⟨q9, hq9, hf⟩ := io_b hf
      refine xcVI (wc := (w_Letters_number cI cJ cC a_h a_h_text a_h_trial z_h_length z_h_text)) (wc' := (w_Letters_number cI cJ cC a_h a_h_text a_h_trial z_h_length z_h_text)) (ws' := (w_Letters_carryOutOne cI cJ cC a_h a_h_text a_h_trial a_h_trial_kinds a_h_trial_sweets a_h_trial_settings a_h_trial_heaps z_h_length z_h_text (r_children z_h_trial) (r_strokes z_h_trial) (r_gave z_h_trial) (r_threw z_h_trial) (r_kinds z_h_trial) (r_sweets z_h_trial) (r_settings z_h_trial) (r_heaps z_h_trial))) (As := [.int (x1 + 1), .int x2]) (rest := [.int 2, .ref a_h]) hx hb hml hown hT (c_Letters_number (z_h_length := z_h_length) (z_h_text := z_h_text) a_h a_h_text a_h_trial hq9) k_529 k_531 ks_10 k_3 k_532 hd_Letters_number ⟨Nat.le_of_ble_eq_true rfl, Nat.le_of_ble_eq_true rfl⟩ xE0_ok trivial hA hK hP hD hS [0, 1] [2, 3, 4, 5, 6] [5, 6, 0, 1, 2, 3, 4] rfl rfl rfl rfl rfl rfl rfl rfl rfl rfl hl.1 rfl (Nat.le_of_ble_eq_true rfl) ⟨Nat.zero_le _, Nat.zero_le _⟩ d_Letters_carryOutOne_115 (fun H locs hP hD hS => ?_)
      obtain ⟨q10, hq10, hf⟩ := io_b hf
      refine xcVI (wc := (w_Letters_bring cI cJ cC a_h a_h_text a_h_trial a_h_trial_kinds a_h_trial_sweets a_h_trial_settings a_h_trial_heaps z_h_length (r_children z_h_trial) (r_strokes z_h_trial) (r_gave z_h_trial) (r_threw z_h_trial) (r_kinds z_h_trial) (r_sweets z_h_trial) (r_settings z_h_trial) (r_heaps z_h_trial))) (wc' := (w_Letters_bring cI cJ cC a_h a_h_text a_h_trial a_h_trial_kinds a_h_trial_sweets a_h_trial_settings a_h_trial_heaps z_h_length (r_children q10.2) (r_strokes q10.2) (r_gave q10.2) (r_threw q10.2) (r_kinds q10.2) (r_sweets q10.2) (r_settings q10.2) (r_heaps q10.2))) (ws' := (w_Letters_carryOutOne cI cJ cC a_h a_h_text a_h_trial a_h_trial_kinds a_h_trial_sweets a_h_trial_settings a_h_trial_heaps z_h_length z_h_text (r_children q10.2) (r_strokes q10.2) (r_gave q10.2) (r_threw q10.2) (r_kinds q10.2) (r_sweets q10.2) (r_settings q10.2) (r_heaps q10.2))) (As := [.int 2, .int q9]) (rest := []) hx hb hml hown hT (c_Letters_bring (z_h_trial := z_h_trial) a_h a_h_text a_h_trial a_h_trial_kinds a_h_trial_sweets a_h_trial_settings a_h_trial_heaps z_h_length hq10) k_537 k_539 ks_11 k_3 k_540 hd_Letters_bring ⟨Nat.le_of_ble_eq_true rfl, Nat.le_of_ble_eq_true rfl⟩ (xEv_ok _ _ _ _) hE hA hK hP hD hS [0, 2, 3, 4, 5, 6] [1] [1, 0, 2, 3, 4, 5, 6] rfl rfl rfl rfl rfl rfl rfl rfl rfl rfl hl.1 rfl (Nat.le_of_ble_eq_true rfl) ⟨Nat.zero_le _, Nat.zero_le _⟩ d_Letters_carryOutOne_118 (fun H locs hP hD hS => ?_)
      obtain ⟨c11, hf⟩ := io_n hf
      have hq := Option.some.inj hf
      subst hq
      exact hret _ _ _ _ _ d_Letters_carryOutOne_121 (x_narZ c11) rfl hP hD hS
    · have hf := io_f hf c8
      rcases Decidable.em (q1 = 108) with c12 | c12
      · have hf := io_t hf c12
        refine lv_lookup (off := 63) (tgt := 68) hx hb d_Letters_carryOutOne_5 (by decide +kernel) (by rw [c12]; rfl) (by decide) ?_
        refine lv_aload_n hx hb d_Letters_carryOutOne_68 rfl (lv_at hl 0 rfl) ?_
        refine lv_iconst (v := 0) hx hb d_Letters_carryOutOne_69 (by decide) ?_
        refine lv_aload_n hx hb d_Letters_carryOutOne_70 rfl (lv_at hl 0 rfl) ?_
        refine lv_iload_n hx hb d_Letters_carryOutOne_71 rfl (lv_at hl 1 rfl) ?_
        refine lv_iconst (v := 1) hx hb d_Letters_carryOutOne_72 (by decide) ?_
        refine lv_iadd hx hb d_Letters_carryOutOne_73 ?_
        refine lv_iload_n hx hb d_Letters_carryOutOne_74 rfl (lv_at hl 1 rfl) ?_
        refine lv_iconst (v := 2) hx hb d_Letters_carryOutOne_75 (by decide) ?_
        refine lv_iadd hx hb d_Letters_carryOutOne_76 ?_
        obtain ⟨q13, hq13, hf⟩ := io_b hf
        refine xcVI (wc := (w_Letters_number cI cJ cC a_h a_h_text a_h_trial z_h_length z_h_text)) (wc' := (w_Letters_number cI cJ cC a_h a_h_text a_h_trial z_h_length z_h_text)) (ws' := (w_Letters_carryOutOne cI cJ cC a_h a_h_text a_h_trial a_h_trial_kinds a_h_trial_sweets a_h_trial_settings a_h_trial_heaps z_h_length z_h_text (r_children z_h_trial) (r_strokes z_h_trial) (r_gave z_h_trial) (r_threw z_h_trial) (r_kinds z_h_trial) (r_sweets z_h_trial) (r_settings z_h_trial) (r_heaps z_h_trial))) (As := [.int (x1 + 1), .int (x1 + 2)]) (rest := [.int 0, .ref a_h]) hx hb hml hown hT (c_Letters_number (z_h_length := z_h_length) (z_h_text := z_h_text) a_h a_h_text a_h_trial hq13) k_529 k_531 ks_10 k_3 k_532 hd_Letters_number ⟨Nat.le_of_ble_eq_true rfl, Nat.le_of_ble_eq_true rfl⟩ xE0_ok trivial hA hK hP hD hS [0, 1] [2, 3, 4, 5, 6] [5, 6, 0, 1, 2, 3, 4] rfl rfl rfl rfl rfl rfl rfl rfl rfl rfl hl.1 rfl (Nat.le_of_ble_eq_true rfl) ⟨Nat.zero_le _, Nat.zero_le _⟩ d_Letters_carryOutOne_77 (fun H locs hP hD hS => ?_)
        obtain ⟨q14, hq14, hf⟩ := io_b hf
        refine xcVI (wc := (w_Letters_bring cI cJ cC a_h a_h_text a_h_trial a_h_trial_kinds a_h_trial_sweets a_h_trial_settings a_h_trial_heaps z_h_length (r_children z_h_trial) (r_strokes z_h_trial) (r_gave z_h_trial) (r_threw z_h_trial) (r_kinds z_h_trial) (r_sweets z_h_trial) (r_settings z_h_trial) (r_heaps z_h_trial))) (wc' := (w_Letters_bring cI cJ cC a_h a_h_text a_h_trial a_h_trial_kinds a_h_trial_sweets a_h_trial_settings a_h_trial_heaps z_h_length (r_children q14.2) (r_strokes q14.2) (r_gave q14.2) (r_threw q14.2) (r_kinds q14.2) (r_sweets q14.2) (r_settings q14.2) (r_heaps q14.2))) (ws' := (w_Letters_carryOutOne cI cJ cC a_h a_h_text a_h_trial a_h_trial_kinds a_h_trial_sweets a_h_trial_settings a_h_trial_heaps z_h_length z_h_text (r_children q14.2) (r_strokes q14.2) (r_gave q14.2) (r_threw q14.2) (r_kinds q14.2) (r_sweets q14.2) (r_settings q14.2) (r_heaps q14.2))) (As := [.int 0, .int q13]) (rest := []) hx hb hml hown hT (c_Letters_bring (z_h_trial := z_h_trial) a_h a_h_text a_h_trial a_h_trial_kinds a_h_trial_sweets a_h_trial_settings a_h_trial_heaps z_h_length hq14) k_537 k_539 ks_11 k_3 k_540 hd_Letters_bring ⟨Nat.le_of_ble_eq_true rfl, Nat.le_of_ble_eq_true rfl⟩ (xEv_ok _ _ _ _) hE hA hK hP hD hS [0, 2, 3, 4, 5, 6] [1] [1, 0, 2, 3, 4, 5, 6] rfl rfl rfl rfl rfl rfl rfl rfl rfl rfl hl.1 rfl (Nat.le_of_ble_eq_true rfl) ⟨Nat.zero_le _, Nat.zero_le _⟩ d_Letters_carryOutOne_80 (fun H locs hP hD hS => ?_)
        refine lv_if_eq (tgt := 106) hx hb d_Letters_carryOutOne_83 (by decide) (fun c15 => ?_) (fun c15 => ?_)
        · have hf := io_t hf c15
          refine lv_iconst (v := 0) hx hb d_Letters_carryOutOne_106 (by decide) ?_
          have hq := Option.some.inj hf
          subst hq
          exact hret _ _ _ _ _ d_Letters_carryOutOne_107 (by decide) rfl hP hD hS
        · have hf := io_f hf c15
          refine lv_aload_n hx hb d_Letters_carryOutOne_86 rfl (lv_at hl 0 rfl) ?_
          refine lv_iconst (v := 1) hx hb d_Letters_carryOutOne_87 (by decide) ?_
          refine lv_aload_n hx hb d_Letters_carryOutOne_88 rfl (lv_at hl 0 rfl) ?_
          refine lv_iload_n hx hb d_Letters_carryOutOne_89 rfl (lv_at hl 1 rfl) ?_
          refine lv_iconst (v := 2) hx hb d_Letters_carryOutOne_90 (by decide) ?_
          refine lv_iadd hx hb d_Letters_carryOutOne_91 ?_
          refine lv_iload_n hx hb d_Letters_carryOutOne_92 rfl (lv_at hl 2 rfl) ?_
          obtain ⟨q16, hq16, hf⟩ := io_b hf
          refine xcVI (wc := (w_Letters_number cI cJ cC a_h a_h_text a_h_trial z_h_length z_h_text)) (wc' := (w_Letters_number cI cJ cC a_h a_h_text a_h_trial z_h_length z_h_text)) (ws' := (w_Letters_carryOutOne cI cJ cC a_h a_h_text a_h_trial a_h_trial_kinds a_h_trial_sweets a_h_trial_settings a_h_trial_heaps z_h_length z_h_text (r_children q14.2) (r_strokes q14.2) (r_gave q14.2) (r_threw q14.2) (r_kinds q14.2) (r_sweets q14.2) (r_settings q14.2) (r_heaps q14.2))) (As := [.int (x1 + 2), .int x2]) (rest := [.int 1, .ref a_h]) hx hb hml hown hT (c_Letters_number (z_h_length := z_h_length) (z_h_text := z_h_text) a_h a_h_text a_h_trial hq16) k_529 k_531 ks_10 k_3 k_532 hd_Letters_number ⟨Nat.le_of_ble_eq_true rfl, Nat.le_of_ble_eq_true rfl⟩ xE0_ok trivial hA hK hP hD hS [0, 1] [2, 3, 4, 5, 6] [5, 6, 0, 1, 2, 3, 4] rfl rfl rfl rfl rfl rfl rfl rfl rfl rfl hl.1 rfl (Nat.le_of_ble_eq_true rfl) ⟨Nat.zero_le _, Nat.zero_le _⟩ d_Letters_carryOutOne_93 (fun H locs hP hD hS => ?_)
          obtain ⟨q17, hq17, hf⟩ := io_b hf
          refine xcVI (wc := (w_Letters_bring cI cJ cC a_h a_h_text a_h_trial a_h_trial_kinds a_h_trial_sweets a_h_trial_settings a_h_trial_heaps z_h_length (r_children q14.2) (r_strokes q14.2) (r_gave q14.2) (r_threw q14.2) (r_kinds q14.2) (r_sweets q14.2) (r_settings q14.2) (r_heaps q14.2))) (wc' := (w_Letters_bring cI cJ cC a_h a_h_text a_h_trial a_h_trial_kinds a_h_trial_sweets a_h_trial_settings a_h_trial_heaps z_h_length (r_children q17.2) (r_strokes q17.2) (r_gave q17.2) (r_threw q17.2) (r_kinds q17.2) (r_sweets q17.2) (r_settings q17.2) (r_heaps q17.2))) (ws' := (w_Letters_carryOutOne cI cJ cC a_h a_h_text a_h_trial a_h_trial_kinds a_h_trial_sweets a_h_trial_settings a_h_trial_heaps z_h_length z_h_text (r_children q17.2) (r_strokes q17.2) (r_gave q17.2) (r_threw q17.2) (r_kinds q17.2) (r_sweets q17.2) (r_settings q17.2) (r_heaps q17.2))) (As := [.int 1, .int q16]) (rest := []) hx hb hml hown hT (c_Letters_bring (z_h_trial := q14.2) a_h a_h_text a_h_trial a_h_trial_kinds a_h_trial_sweets a_h_trial_settings a_h_trial_heaps z_h_length hq17) k_537 k_539 ks_11 k_3 k_540 hd_Letters_bring ⟨Nat.le_of_ble_eq_true rfl, Nat.le_of_ble_eq_true rfl⟩ (xEv_ok _ _ _ _) hE hA hK hP hD hS [0, 2, 3, 4, 5, 6] [1] [1, 0, 2, 3, 4, 5, 6] rfl rfl rfl rfl rfl rfl rfl rfl rfl rfl hl.1 rfl (Nat.le_of_ble_eq_true rfl) ⟨Nat.zero_le _, Nat.zero_le _⟩ d_Letters_carryOutOne_96 (fun H locs hP hD hS => ?_)
          refine lv_if_eq (tgt := 106) hx hb d_Letters_carryOutOne_99 (by decide) (fun c18 => ?_) (fun c18 => ?_)
          · have hf := io_t hf c18
            refine lv_iconst (v := 0) hx hb d_Letters_carryOutOne_106 (by decide) ?_
            have hq := Option.some.inj hf
            subst hq
            exact hret _ _ _ _ _ d_Letters_carryOutOne_107 (by decide) rfl hP hD hS
          · have hf := io_f hf c18
            refine lv_iconst (v := 1) hx hb d_Letters_carryOutOne_102 (by decide) ?_
            refine lv_goto (tgt := 107) hx hb d_Letters_carryOutOne_103 (by decide) ?_
            have hq := Option.some.inj hf
            subst hq
            exact hret _ _ _ _ _ d_Letters_carryOutOne_107 (by decide) rfl hP hD hS
      · have hf := io_f hf c12
        refine lv_lookup (off := 117) (tgt := 122) hx hb d_Letters_carryOutOne_5 (by decide +kernel) (by refine (lv_osw (k := 99) c2 (by decide +kernel)).trans ?_; refine (lv_osw (k := 103) c8 (by decide +kernel)).trans ?_; refine (lv_osw (k := 108) c12 (by decide +kernel)).trans ?_; rfl) (by decide) ?_
        refine lv_iconst (v := 0) hx hb d_Letters_carryOutOne_122 (by decide) ?_
        have hq := Option.some.inj hf
        subst hq
        exact hret _ _ _ _ _ d_Letters_carryOutOne_123 (by decide) rfl hP hD hS
abbrev w_Letters_carryOut (cI cJ cC : ClassId) (a_h a_h_text a_h_trial a_h_trial_kinds a_h_trial_sweets a_h_trial_settings a_h_trial_heaps a_g1 a_g1_kinds a_g1_sweets a_g1_settings a_g1_heaps : Nat) (p_h_length : Int32) (p_h_text : (Nat → Int32)) (p_h_trial_children : Int32) (p_h_trial_strokes : Int32) (p_h_trial_gave : Int32) (p_h_trial_threw : Int32) (p_h_trial_kinds : (Nat → Int32)) (p_h_trial_sweets : (Nat → Int32)) (p_h_trial_settings : (Nat → Int32)) (p_h_trial_heaps : (Nat → Int32)) (p_g1_children : Int32) (p_g1_strokes : Int32) (p_g1_gave : Int32) (p_g1_threw : Int32) (p_g1_kinds : (Nat → Int32)) (p_g1_sweets : (Nat → Int32)) (p_g1_settings : (Nat → Int32)) (p_g1_heaps : (Nat → Int32)) : va_W := [(a_h, .inr (2, [.int p_h_length, .ref a_h_text, .ref a_h_trial])), (a_h_text, .inl (cC, (64, .inl p_h_text))), (a_h_trial, .inr (1, [.ref a_h_trial_kinds, .ref a_h_trial_sweets, .ref a_h_trial_settings, .int p_h_trial_children, .int p_h_trial_strokes, .int p_h_trial_gave, .int p_h_trial_threw, .ref a_h_trial_heaps])), (a_h_trial_kinds, .inl (cI, (8, .inl p_h_trial_kinds))), (a_h_trial_sweets, .inl (cI, (8, .inl p_h_trial_sweets))), (a_h_trial_settings, .inl (cI, (3, .inl p_h_trial_settings))), (a_h_trial_heaps, .inl (cI, (8, .inl p_h_trial_heaps))), (a_g1, .inr (1, [.ref a_g1_kinds, .ref a_g1_sweets, .ref a_g1_settings, .int p_g1_children, .int p_g1_strokes, .int p_g1_gave, .int p_g1_threw, .ref a_g1_heaps])), (a_g1_kinds, .inl (cI, (8, .inl p_g1_kinds))), (a_g1_sweets, .inl (cI, (8, .inl p_g1_sweets))), (a_g1_settings, .inl (cI, (3, .inl p_g1_settings))), (a_g1_heaps, .inl (cI, (8, .inl p_g1_heaps)))]
theorem d_Letters_carryOut_0 : decode b_Letters_carryOut 0 = .ok (.aload_n 0, 1) := by decide +kernel
theorem d_Letters_carryOut_1 : decode b_Letters_carryOut 1 = .ok (.invokevirtual 26, 3) := by decide +kernel
theorem d_Letters_carryOut_4 : decode b_Letters_carryOut 4 = .ok (.istore_n 2, 1) := by decide +kernel
theorem d_Letters_carryOut_5 : decode b_Letters_carryOut 5 = .ok (.iload_n 2, 1) := by decide +kernel
theorem d_Letters_carryOut_6 : decode b_Letters_carryOut 6 = .ok (.ifCond .lt 9, 3) := by decide +kernel
theorem d_Letters_carryOut_9 : decode b_Letters_carryOut 9 = .ok (.sipush (-1000), 3) := by decide +kernel
theorem d_Letters_carryOut_12 : decode b_Letters_carryOut 12 = .ok (.iload_n 2, 1) := by decide +kernel
theorem d_Letters_carryOut_13 : decode b_Letters_carryOut 13 = .ok (.isub, 1) := by decide +kernel
theorem d_Letters_carryOut_14 : decode b_Letters_carryOut 14 = .ok (.ireturn, 1) := by decide +kernel
theorem d_Letters_carryOut_15 : decode b_Letters_carryOut 15 = .ok (.aload_n 0, 1) := by decide +kernel
theorem d_Letters_carryOut_16 : decode b_Letters_carryOut 16 = .ok (.getfield 22, 3) := by decide +kernel
theorem d_Letters_carryOut_19 : decode b_Letters_carryOut 19 = .ok (.aload_n 1, 1) := by decide +kernel
theorem d_Letters_carryOut_20 : decode b_Letters_carryOut 20 = .ok (.invokevirtual 30, 3) := by decide +kernel
theorem d_Letters_carryOut_23 : decode b_Letters_carryOut 23 = .ok (.iconst 0, 1) := by decide +kernel
theorem d_Letters_carryOut_24 : decode b_Letters_carryOut 24 = .ok (.istore_n 3, 1) := by decide +kernel
theorem d_Letters_carryOut_25 : decode b_Letters_carryOut 25 = .ok (.iconst 0, 1) := by decide +kernel
theorem d_Letters_carryOut_26 : decode b_Letters_carryOut 26 = .ok (.istore 4, 2) := by decide +kernel
theorem d_Letters_carryOut_28 : decode b_Letters_carryOut 28 = .ok (.iconst 0, 1) := by decide +kernel
theorem d_Letters_carryOut_29 : decode b_Letters_carryOut 29 = .ok (.istore 5, 2) := by decide +kernel
theorem d_Letters_carryOut_31 : decode b_Letters_carryOut 31 = .ok (.iload 5, 2) := by decide +kernel
theorem d_Letters_carryOut_33 : decode b_Letters_carryOut 33 = .ok (.aload_n 0, 1) := by decide +kernel
theorem d_Letters_carryOut_34 : decode b_Letters_carryOut 34 = .ok (.getfield 9, 3) := by decide +kernel
theorem d_Letters_carryOut_37 : decode b_Letters_carryOut 37 = .ok (.if_icmp .ge 48, 3) := by decide +kernel
theorem d_Letters_carryOut_40 : decode b_Letters_carryOut 40 = .ok (.aload_n 0, 1) := by decide +kernel
theorem d_Letters_carryOut_41 : decode b_Letters_carryOut 41 = .ok (.getfield 15, 3) := by decide +kernel
theorem d_Letters_carryOut_44 : decode b_Letters_carryOut 44 = .ok (.iload 5, 2) := by decide +kernel
theorem d_Letters_carryOut_46 : decode b_Letters_carryOut 46 = .ok (.caload, 1) := by decide +kernel
theorem d_Letters_carryOut_47 : decode b_Letters_carryOut 47 = .ok (.bipush 59, 2) := by decide +kernel
theorem d_Letters_carryOut_49 : decode b_Letters_carryOut 49 = .ok (.if_icmp .ne 30, 3) := by decide +kernel
theorem d_Letters_carryOut_52 : decode b_Letters_carryOut 52 = .ok (.aload_n 0, 1) := by decide +kernel
theorem d_Letters_carryOut_53 : decode b_Letters_carryOut 53 = .ok (.iload 4, 2) := by decide +kernel
theorem d_Letters_carryOut_55 : decode b_Letters_carryOut 55 = .ok (.iload 5, 2) := by decide +kernel
theorem d_Letters_carryOut_57 : decode b_Letters_carryOut 57 = .ok (.invokevirtual 34, 3) := by decide +kernel
theorem d_Letters_carryOut_60 : decode b_Letters_carryOut 60 = .ok (.ifCond .ne 10, 3) := by decide +kernel
theorem d_Letters_carryOut_63 : decode b_Letters_carryOut 63 = .ok (.sipush (-2000), 3) := by decide +kernel
theorem d_Letters_carryOut_66 : decode b_Letters_carryOut 66 = .ok (.iload 4, 2) := by decide +kernel
theorem d_Letters_carryOut_68 : decode b_Letters_carryOut 68 = .ok (.isub, 1) := by decide +kernel
theorem d_Letters_carryOut_69 : decode b_Letters_carryOut 69 = .ok (.ireturn, 1) := by decide +kernel
theorem d_Letters_carryOut_70 : decode b_Letters_carryOut 70 = .ok (.iinc 3 1, 3) := by decide +kernel
theorem d_Letters_carryOut_73 : decode b_Letters_carryOut 73 = .ok (.iload 5, 2) := by decide +kernel
theorem d_Letters_carryOut_75 : decode b_Letters_carryOut 75 = .ok (.iconst 1, 1) := by decide +kernel
theorem d_Letters_carryOut_76 : decode b_Letters_carryOut 76 = .ok (.iadd, 1) := by decide +kernel
theorem d_Letters_carryOut_77 : decode b_Letters_carryOut 77 = .ok (.istore 4, 2) := by decide +kernel
theorem d_Letters_carryOut_79 : decode b_Letters_carryOut 79 = .ok (.iinc 5 1, 3) := by decide +kernel
theorem d_Letters_carryOut_82 : decode b_Letters_carryOut 82 = .ok (.goto (-51), 3) := by decide +kernel
theorem d_Letters_carryOut_85 : decode b_Letters_carryOut 85 = .ok (.aload_n 1, 1) := by decide +kernel
theorem d_Letters_carryOut_86 : decode b_Letters_carryOut 86 = .ok (.aload_n 0, 1) := by decide +kernel
theorem d_Letters_carryOut_87 : decode b_Letters_carryOut 87 = .ok (.getfield 22, 3) := by decide +kernel
theorem d_Letters_carryOut_90 : decode b_Letters_carryOut 90 = .ok (.invokevirtual 30, 3) := by decide +kernel
theorem d_Letters_carryOut_93 : decode b_Letters_carryOut 93 = .ok (.iload_n 3, 1) := by decide +kernel
theorem d_Letters_carryOut_94 : decode b_Letters_carryOut 94 = .ok (.ireturn, 1) := by decide +kernel
set_option maxHeartbeats 4000000 in
set_option maxRecDepth 100000 in
theorem c_Letters_carryOut {l : Launch} {D : va_G} {cI cJ cC : ClassId} {t_LEAST_SETTING t_GREATEST_SETTING t_str t_val : Nat} (a_h a_h_text a_h_trial a_h_trial_kinds a_h_trial_sweets a_h_trial_settings a_h_trial_heaps a_g1 a_g1_kinds a_g1_sweets a_g1_settings a_g1_heaps : Nat) {z_h_length : Int32} {z_h_text : (Nat → Int32)} {z_h_trial : RS} {z_g1 : RS} {q : Int32 × RS × RS} (hf : f_Letters_carryOut z_h_length z_h_text z_h_trial z_g1 = some q) : xI l y_Letters_carryOut b_Letters_carryOut 6 .int 6 134 D (tyK cI cJ cC) (xEv t_LEAST_SETTING t_GREATEST_SETTING t_str t_val) [.ref a_h, .ref a_g1] (w_Letters_carryOut cI cJ cC a_h a_h_text a_h_trial a_h_trial_kinds a_h_trial_sweets a_h_trial_settings a_h_trial_heaps a_g1 a_g1_kinds a_g1_sweets a_g1_settings a_g1_heaps z_h_length z_h_text (r_children z_h_trial) (r_strokes z_h_trial) (r_gave z_h_trial) (r_threw z_h_trial) (r_kinds z_h_trial) (r_sweets z_h_trial) (r_settings z_h_trial) (r_heaps z_h_trial) (r_children z_g1) (r_strokes z_g1) (r_gave z_g1) (r_threw z_g1) (r_kinds z_g1) (r_sweets z_g1) (r_settings z_g1) (r_heaps z_g1)) q.1 (w_Letters_carryOut cI cJ cC a_h a_h_text a_h_trial a_h_trial_kinds a_h_trial_sweets a_h_trial_settings a_h_trial_heaps a_g1 a_g1_kinds a_g1_sweets a_g1_settings a_g1_heaps z_h_length z_h_text (r_children q.2.1) (r_strokes q.2.1) (r_gave q.2.1) (r_threw q.2.1) (r_kinds q.2.1) (r_sweets q.2.1) (r_settings q.2.1) (r_heaps q.2.1) (r_children q.2.2) (r_strokes q.2.2) (r_gave q.2.2) (r_threw q.2.2) (r_kinds q.2.2) (r_sweets q.2.2) (r_settings q.2.2) (r_heaps q.2.2)) := by
  refine xI_of (by decide) (Nat.le_of_ble_eq_true rfl) ?_
  intro p e s m args below meth c A Q hx hb hml hown hT hA hP hD hK hS hE hret ls hl
  have hown : s.vm.findClass R_Letters = some m.cls := hown
  have hl : lv_has ls 6 [(0, .ref a_h), (1, .ref a_g1)] := hl
  unfold f_Letters_carryOut at hf
  obtain ⟨hZ_LEAST_SETTING, hT_LEAST_SETTING, hZ_GREATEST_SETTING, hT_GREATEST_SETTING, hZ_CS, hO_str, hC_str, hV_str, hT_str, hR_str, hN_X_outside, hNF_LEAST_SETTING, hNF_GREATEST_SETTING⟩ := id hE
  have L31 : ∀ (z_g1 : RS) (k : RS → Int32 → Option (Int32 × RS × RS)), (∀ (z_h_trial : RS) (x3 : Int32) (H : Heap) (locs : List Loc) (ls : Array Slot), k z_h_trial x3 = some q → va_P D classes (w_Letters_carryOut cI cJ cC a_h a_h_text a_h_trial a_h_trial_kinds a_h_trial_sweets a_h_trial_settings a_h_trial_heaps a_g1 a_g1_kinds a_g1_sweets a_g1_settings a_g1_heaps z_h_length z_h_text (r_children z_h_trial) (r_strokes z_h_trial) (r_gave z_h_trial) (r_threw z_h_trial) (r_kinds z_h_trial) (r_sweets z_h_trial) (r_settings z_h_trial) (r_heaps z_h_trial) (r_children z_g1) (r_strokes z_g1) (r_gave z_g1) (r_threw z_g1) (r_kinds z_g1) (r_sweets z_g1) (r_settings z_g1) (r_heaps z_g1)) H → va_D A (w_Letters_carryOut cI cJ cC a_h a_h_text a_h_trial a_h_trial_kinds a_h_trial_sweets a_h_trial_settings a_h_trial_heaps a_g1 a_g1_kinds a_g1_sweets a_g1_settings a_g1_heaps z_h_length z_h_text (r_children z_h_trial) (r_strokes z_h_trial) (r_gave z_h_trial) (r_threw z_h_trial) (r_kinds z_h_trial) (r_sweets z_h_trial) (r_settings z_h_trial) (r_heaps z_h_trial) (r_children z_g1) (r_strokes z_g1) (r_gave z_g1) (r_threw z_g1) (r_kinds z_g1) (r_sweets z_g1) (r_settings z_g1) (r_heaps z_g1)) → va_S A s.heap H locs → lv_has ls 6 [(0, .ref a_h), (1, .ref a_g1), (3, .int x3)] → W p l e (xRm 6 134) s m args below meth c H locs 0 0 Q (F0 m 85 ls [])) → ∀ (n : Nat) (z_h_trial : RS) (x3 : Int32) (x4 : Int32) (x5 : Int32) (H : Heap) (locs : List Loc) (ls : Array Slot), f_Letters_carryOut_L31 z_h_length z_h_text z_g1 k n z_h_trial x3 x4 x5 = some q → va_P D classes (w_Letters_carryOut cI cJ cC a_h a_h_text a_h_trial a_h_trial_kinds a_h_trial_sweets a_h_trial_settings a_h_trial_heaps a_g1 a_g1_kinds a_g1_sweets a_g1_settings a_g1_heaps z_h_length z_h_text (r_children z_h_trial) (r_strokes z_h_trial) (r_gave z_h_trial) (r_threw z_h_trial) (r_kinds z_h_trial) (r_sweets z_h_trial) (r_settings z_h_trial) (r_heaps z_h_trial) (r_children z_g1) (r_strokes z_g1) (r_gave z_g1) (r_threw z_g1) (r_kinds z_g1) (r_sweets z_g1) (r_settings z_g1) (r_heaps z_g1)) H → va_D A (w_Letters_carryOut cI cJ cC a_h a_h_text a_h_trial a_h_trial_kinds a_h_trial_sweets a_h_trial_settings a_h_trial_heaps a_g1 a_g1_kinds a_g1_sweets a_g1_settings a_g1_heaps z_h_length z_h_text (r_children z_h_trial) (r_strokes z_h_trial) (r_gave z_h_trial) (r_threw z_h_trial) (r_kinds z_h_trial) (r_sweets z_h_trial) (r_settings z_h_trial) (r_heaps z_h_trial) (r_children z_g1) (r_strokes z_g1) (r_gave z_g1) (r_threw z_g1) (r_kinds z_g1) (r_sweets z_g1) (r_settings z_g1) (r_heaps z_g1)) → va_S A s.heap H locs → lv_has ls 6 [(0, .ref a_h), (1, .ref a_g1), (3, .int x3), (4, .int x4), (5, .int x5)] → W p l e (xRm 6 134) s m args below meth c H locs 0 0 Q (F0 m 31 ls []) := by
    intro z_g1 k hk n
    induction n with
    | zero => intro z_h_trial x3 x4 x5 H locs ls hf hP hD hS hl; exact nomatch (show (none : Option (Int32 × RS × RS)) = some q from hf)
    | succ n ih =>
      intro z_h_trial x3 x4 x5 H locs ls hf hP hD hS hl
      refine lv_iload hx hb d_Letters_carryOut_31 (lv_at hl 4 rfl) ?_
      refine lv_aload_n hx hb d_Letters_carryOut_33 rfl (lv_at hl 0 rfl) ?_
      refine va_get hx hb hT i_Letters hown hK hP 0 rfl rfl 0 (Nat.le_of_ble_eq_true rfl) (hT _ k_76) (fun _ h => h) rfl d_Letters_carryOut_34 ?_
      refine lv_icmp_ge (tgt := 85) hx hb d_Letters_carryOut_37 (by decide) (fun c4 => ?_) (fun c4 => ?_)
      · have hf := io_t hf c4
        exact hk z_h_trial x3 _ _ _ hf hP hD hS (lv_sub hl [0, 1, 2] rfl)
      · have hf := io_f hf c4
        refine lv_aload_n hx hb d_Letters_carryOut_40 rfl (lv_at hl 0 rfl) ?_
        refine va_get hx hb hT i_Letters hown hK hP 0 rfl rfl 1 (Nat.le_of_ble_eq_true rfl) (hT _ k_78) (fun _ h => h) rfl d_Letters_carryOut_41 ?_
        refine lv_iload hx hb d_Letters_carryOut_44 (lv_at hl 4 rfl) ?_
        obtain ⟨c5, hf⟩ := io_n hf
        refine x_cald hx hb hK hP 1 2 rfl rfl (j := x5.toNatClampNeg) rfl c5 d_Letters_carryOut_46 ?_
        refine lv_bipush (v := 59) hx hb d_Letters_carryOut_47 (by decide) ?_
        refine lv_icmp_ne (tgt := 79) hx hb d_Letters_carryOut_49 (by decide) (fun c6 => ?_) (fun c6 => ?_)
        · have hf := io_f hf c6
          refine lv_iinc (v := (x5 + 1)) (lv' := [(5, .int (x5 + 1)), (0, .ref a_h), (1, .ref a_g1), (3, .int x3), (4, .int x4)]) hx hb d_Letters_carryOut_79 hl (k := 4) rfl (by rfl) (by decide) rfl (fun ls hl => ?_)
          refine lv_goto (tgt := 31) hx hb d_Letters_carryOut_82 (by decide) ?_
          exact ih z_h_trial x3 x4 (x5 + 1) _ _ _ hf hP hD hS (lv_sub hl [1, 2, 3, 4, 0] rfl)
        · have hf := io_t hf c6
          refine lv_aload_n hx hb d_Letters_carryOut_52 rfl (lv_at hl 0 rfl) ?_
          refine lv_iload hx hb d_Letters_carryOut_53 (lv_at hl 3 rfl) ?_
          refine lv_iload hx hb d_Letters_carryOut_55 (lv_at hl 4 rfl) ?_
          obtain ⟨q7, hq7, hf⟩ := io_b hf
          refine xcVI (wc := (w_Letters_carryOutOne cI cJ cC a_h a_h_text a_h_trial a_h_trial_kinds a_h_trial_sweets a_h_trial_settings a_h_trial_heaps z_h_length z_h_text (r_children z_h_trial) (r_strokes z_h_trial) (r_gave z_h_trial) (r_threw z_h_trial) (r_kinds z_h_trial) (r_sweets z_h_trial) (r_settings z_h_trial) (r_heaps z_h_trial))) (wc' := (w_Letters_carryOutOne cI cJ cC a_h a_h_text a_h_trial a_h_trial_kinds a_h_trial_sweets a_h_trial_settings a_h_trial_heaps z_h_length z_h_text (r_children q7.2) (r_strokes q7.2) (r_gave q7.2) (r_threw q7.2) (r_kinds q7.2) (r_sweets q7.2) (r_settings q7.2) (r_heaps q7.2))) (ws' := (w_Letters_carryOut cI cJ cC a_h a_h_text a_h_trial a_h_trial_kinds a_h_trial_sweets a_h_trial_settings a_h_trial_heaps a_g1 a_g1_kinds a_g1_sweets a_g1_settings a_g1_heaps z_h_length z_h_text (r_children q7.2) (r_strokes q7.2) (r_gave q7.2) (r_threw q7.2) (r_kinds q7.2) (r_sweets q7.2) (r_settings q7.2) (r_heaps q7.2) (r_children z_g1) (r_strokes z_g1) (r_gave z_g1) (r_threw z_g1) (r_kinds z_g1) (r_sweets z_g1) (r_settings z_g1) (r_heaps z_g1))) (As := [.int x4, .int x5]) (rest := []) hx hb hml hown hT (c_Letters_carryOutOne (z_h_length := z_h_length) (z_h_text := z_h_text) (z_h_trial := z_h_trial) a_h a_h_text a_h_trial a_h_trial_kinds a_h_trial_sweets a_h_trial_settings a_h_trial_heaps hq7) k_521 k_523 ks_8 k_3 k_524 hd_Letters_carryOutOne ⟨Nat.le_of_ble_eq_true rfl, Nat.le_of_ble_eq_true rfl⟩ (xEv_ok _ _ _ _) hE hA hK hP hD hS [0, 1, 2, 3, 4, 5, 6] [7, 8, 9, 10, 11] [5, 6, 7, 8, 9, 10, 11, 0, 1, 2, 3, 4] rfl rfl rfl rfl rfl rfl rfl rfl rfl rfl hl.1 rfl (Nat.le_of_ble_eq_true rfl) ⟨Nat.zero_le _, Nat.zero_le _⟩ d_Letters_carryOut_57 (fun H locs hP hD hS => ?_)
          refine lv_if_ne (tgt := 70) hx hb d_Letters_carryOut_60 (by decide) (fun c8 => ?_) (fun c8 => ?_)
          · have hf := io_f hf c8
            refine lv_iinc (v := (x3 + 1)) (lv' := [(3, .int (x3 + 1)), (0, .ref a_h), (1, .ref a_g1), (4, .int x4), (5, .int x5)]) hx hb d_Letters_carryOut_70 hl (k := 2) rfl (by rfl) (by decide) rfl (fun ls hl => ?_)
            refine lv_iload hx hb d_Letters_carryOut_73 (lv_at hl 4 rfl) ?_
            refine lv_iconst (v := 1) hx hb d_Letters_carryOut_75 (by decide) ?_
            refine lv_iadd hx hb d_Letters_carryOut_76 ?_
            refine lv_istore (lv' := [(4, .int (x5 + 1)), (3, .int (x3 + 1)), (0, .ref a_h), (1, .ref a_g1), (5, .int x5)]) hx hb d_Letters_carryOut_77 hl (by decide) rfl (fun ls hl => ?_)
            refine lv_iinc (v := (x5 + 1)) (lv' := [(5, .int (x5 + 1)), (4, .int (x5 + 1)), (3, .int (x3 + 1)), (0, .ref a_h), (1, .ref a_g1)]) hx hb d_Letters_carryOut_79 hl (k := 4) rfl (by rfl) (by decide) rfl (fun ls hl => ?_)
            refine lv_goto (tgt := 31) hx hb d_Letters_carryOut_82 (by decide) ?_
            exact ih q7.2 (x3 + 1) (x5 + 1) (x5 + 1) _ _ _ hf hP hD hS (lv_sub hl [3, 4, 2, 1, 0] rfl)
          · have hf := io_t hf c8
            refine lv_sipush (v := (-2000)) hx hb d_Letters_carryOut_63 (by decide) ?_
            refine lv_iload hx hb d_Letters_carryOut_66 (lv_at hl 3 rfl) ?_
            refine lv_isub hx hb d_Letters_carryOut_68 ?_
            have hq := Option.some.inj hf
            subst hq
            exact hret _ _ _ _ _ d_Letters_carryOut_69 rfl rfl hP hD hS
  refine lv_aload_n hx hb d_Letters_carryOut_0 rfl (lv_at hl 0 rfl) ?_
  obtain ⟨q1, hq1, hf⟩ := io_b hf
  refine xcVI (wc := (w_Letters_placeOfBadForm cI cJ cC a_h a_h_text a_h_trial z_h_length z_h_text)) (wc' := (w_Letters_placeOfBadForm cI cJ cC a_h a_h_text a_h_trial z_h_length z_h_text)) (ws' := (w_Letters_carryOut cI cJ cC a_h a_h_text a_h_trial a_h_trial_kinds a_h_trial_sweets a_h_trial_settings a_h_trial_heaps a_g1 a_g1_kinds a_g1_sweets a_g1_settings a_g1_heaps z_h_length z_h_text (r_children z_h_trial) (r_strokes z_h_trial) (r_gave z_h_trial) (r_threw z_h_trial) (r_kinds z_h_trial) (r_sweets z_h_trial) (r_settings z_h_trial) (r_heaps z_h_trial) (r_children z_g1) (r_strokes z_g1) (r_gave z_g1) (r_threw z_g1) (r_kinds z_g1) (r_sweets z_g1) (r_settings z_g1) (r_heaps z_g1))) (As := []) (rest := []) hx hb hml hown hT (c_Letters_placeOfBadForm (z_h_length := z_h_length) (z_h_text := z_h_text) a_h a_h_text a_h_trial hq1) k_421 k_423 ks_7 k_3 k_424 hd_Letters_placeOfBadForm ⟨Nat.le_of_ble_eq_true rfl, Nat.le_of_ble_eq_true rfl⟩ (xEv_ok _ _ _ _) hE hA hK hP hD hS [0, 1] [2, 3, 4, 5, 6, 7, 8, 9, 10, 11] [10, 11, 0, 1, 2, 3, 4, 5, 6, 7, 8, 9] rfl rfl rfl rfl rfl rfl rfl rfl rfl rfl hl.1 rfl (Nat.le_of_ble_eq_true rfl) ⟨Nat.zero_le _, Nat.zero_le _⟩ d_Letters_carryOut_1 (fun H locs hP hD hS => ?_)
  refine lv_istore_n (lv' := [(2, .int q1), (0, .ref a_h), (1, .ref a_g1)]) hx hb d_Letters_carryOut_4 rfl hl (by decide) rfl (fun ls hl => ?_)
  refine lv_iload_n hx hb d_Letters_carryOut_5 rfl (lv_at hl 0 rfl) ?_
  refine lv_if_lt (tgt := 15) hx hb d_Letters_carryOut_6 (by decide) (fun c2 => ?_) (fun c2 => ?_)
  · have hf := io_t hf c2
    refine lv_aload_n hx hb d_Letters_carryOut_15 rfl (lv_at hl 1 rfl) ?_
    refine va_get hx hb hT i_Letters hown hK hP 0 rfl rfl 2 (Nat.le_of_ble_eq_true rfl) (hT _ k_79) (fun _ h => h) rfl d_Letters_carryOut_16 ?_
    refine lv_aload_n hx hb d_Letters_carryOut_19 rfl (lv_at hl 2 rfl) ?_
    obtain ⟨q3, hq3, hf⟩ := io_b hf
    refine xcVV (wc := (w_Ring_copyFrom cI cJ cC a_h_trial a_h_trial_kinds a_h_trial_sweets a_h_trial_settings a_h_trial_heaps a_g1 a_g1_kinds a_g1_sweets a_g1_settings a_g1_heaps (r_children z_h_trial) (r_strokes z_h_trial) (r_gave z_h_trial) (r_threw z_h_trial) (r_kinds z_h_trial) (r_sweets z_h_trial) (r_settings z_h_trial) (r_heaps z_h_trial) (r_children z_g1) (r_strokes z_g1) (r_gave z_g1) (r_threw z_g1) (r_kinds z_g1) (r_sweets z_g1) (r_settings z_g1))) (wc' := (w_Ring_copyFrom cI cJ cC a_h_trial a_h_trial_kinds a_h_trial_sweets a_h_trial_settings a_h_trial_heaps a_g1 a_g1_kinds a_g1_sweets a_g1_settings a_g1_heaps (r_children q3) (r_strokes q3) (r_gave q3) (r_threw q3) (r_kinds q3) (r_sweets q3) (r_settings q3) (r_heaps q3) (r_children z_g1) (r_strokes z_g1) (r_gave z_g1) (r_threw z_g1) (r_kinds z_g1) (r_sweets z_g1) (r_settings z_g1))) (ws' := (w_Letters_carryOut cI cJ cC a_h a_h_text a_h_trial a_h_trial_kinds a_h_trial_sweets a_h_trial_settings a_h_trial_heaps a_g1 a_g1_kinds a_g1_sweets a_g1_settings a_g1_heaps z_h_length z_h_text (r_children q3) (r_strokes q3) (r_gave q3) (r_threw q3) (r_kinds q3) (r_sweets q3) (r_settings q3) (r_heaps q3) (r_children z_g1) (r_strokes z_g1) (r_gave z_g1) (r_threw z_g1) (r_kinds z_g1) (r_sweets z_g1) (r_settings z_g1) (r_heaps z_g1))) (As := [.ref a_g1]) (rest := []) hx hb hml hown hT (c_Ring_copyFrom (z_h := z_h_trial) (z_g1 := z_g1) a_h_trial a_h_trial_kinds a_h_trial_sweets a_h_trial_settings a_h_trial_heaps a_g1 a_g1_kinds a_g1_sweets a_g1_settings a_g1_heaps hq3) k_520 k_253 k_254 k_2 k_255 hd_Ring_copyFrom ⟨Nat.le_of_ble_eq_true rfl, Nat.le_of_ble_eq_true rfl⟩ xE0_ok trivial hA hK hP hD hS [2, 3, 4, 5, 6, 7, 8, 9, 10] [0, 1, 11] [0, 1, 3, 4, 5, 6, 7, 8, 9, 10, 11, 2] rfl rfl rfl rfl rfl rfl rfl rfl rfl rfl hl.1 rfl (Nat.le_of_ble_eq_true rfl) ⟨Nat.zero_le _, Nat.zero_le _⟩ d_Letters_carryOut_20 (fun H locs hP hD hS => ?_)
    refine lv_iconst (v := 0) hx hb d_Letters_carryOut_23 (by decide) ?_
    refine lv_istore_n (lv' := [(3, .int 0), (2, .int q1), (0, .ref a_h), (1, .ref a_g1)]) hx hb d_Letters_carryOut_24 rfl hl (by decide) rfl (fun ls hl => ?_)
    refine lv_iconst (v := 0) hx hb d_Letters_carryOut_25 (by decide) ?_
    refine lv_istore (lv' := [(4, .int 0), (3, .int 0), (2, .int q1), (0, .ref a_h), (1, .ref a_g1)]) hx hb d_Letters_carryOut_26 hl (by decide) rfl (fun ls hl => ?_)
    refine lv_iconst (v := 0) hx hb d_Letters_carryOut_28 (by decide) ?_
    refine lv_istore (lv' := [(5, .int 0), (4, .int 0), (3, .int 0), (2, .int q1), (0, .ref a_h), (1, .ref a_g1)]) hx hb d_Letters_carryOut_29 hl (by decide) rfl (fun ls hl => ?_)
    refine L31 z_g1 _ (fun z_h_trial_9 x3_9 H locs ls hf hP hD hS hl => ?_) FU q3 0 0 0 _ _ _ hf hP hD hS (lv_sub hl [4, 5, 2, 1, 0] rfl)
    refine lv_aload_n hx hb d_Letters_carryOut_85 rfl (lv_at hl 1 rfl) ?_
    refine lv_aload_n hx hb d_Letters_carryOut_86 rfl (lv_at hl 0 rfl) ?_
    refine va_get hx hb hT i_Letters hown hK hP 0 rfl rfl 2 (Nat.le_of_ble_eq_true rfl) (hT _ k_79) (fun _ h => h) rfl d_Letters_carryOut_87 ?_
    obtain ⟨q10, hq10, hf⟩ := io_b hf
    refine xcVV (wc := (w_Ring_copyFrom cI cJ cC a_g1 a_g1_kinds a_g1_sweets a_g1_settings a_g1_heaps a_h_trial a_h_trial_kinds a_h_trial_sweets a_h_trial_settings a_h_trial_heaps (r_children z_g1) (r_strokes z_g1) (r_gave z_g1) (r_threw z_g1) (r_kinds z_g1) (r_sweets z_g1) (r_settings z_g1) (r_heaps z_g1) (r_children z_h_trial_9) (r_strokes z_h_trial_9) (r_gave z_h_trial_9) (r_threw z_h_trial_9) (r_kinds z_h_trial_9) (r_sweets z_h_trial_9) (r_settings z_h_trial_9))) (wc' := (w_Ring_copyFrom cI cJ cC a_g1 a_g1_kinds a_g1_sweets a_g1_settings a_g1_heaps a_h_trial a_h_trial_kinds a_h_trial_sweets a_h_trial_settings a_h_trial_heaps (r_children q10) (r_strokes q10) (r_gave q10) (r_threw q10) (r_kinds q10) (r_sweets q10) (r_settings q10) (r_heaps q10) (r_children z_h_trial_9) (r_strokes z_h_trial_9) (r_gave z_h_trial_9) (r_threw z_h_trial_9) (r_kinds z_h_trial_9) (r_sweets z_h_trial_9) (r_settings z_h_trial_9))) (ws' := (w_Letters_carryOut cI cJ cC a_h a_h_text a_h_trial a_h_trial_kinds a_h_trial_sweets a_h_trial_settings a_h_trial_heaps a_g1 a_g1_kinds a_g1_sweets a_g1_settings a_g1_heaps z_h_length z_h_text (r_children z_h_trial_9) (r_strokes z_h_trial_9) (r_gave z_h_trial_9) (r_threw z_h_trial_9) (r_kinds z_h_trial_9) (r_sweets z_h_trial_9) (r_settings z_h_trial_9) (r_heaps z_h_trial_9) (r_children q10) (r_strokes q10) (r_gave q10) (r_threw q10) (r_kinds q10) (r_sweets q10) (r_settings q10) (r_heaps q10))) (As := [.ref a_h_trial]) (rest := []) hx hb hml hown hT (c_Ring_copyFrom (z_h := z_g1) (z_g1 := z_h_trial_9) a_g1 a_g1_kinds a_g1_sweets a_g1_settings a_g1_heaps a_h_trial a_h_trial_kinds a_h_trial_sweets a_h_trial_settings a_h_trial_heaps hq10) k_520 k_253 k_254 k_2 k_255 hd_Ring_copyFrom ⟨Nat.le_of_ble_eq_true rfl, Nat.le_of_ble_eq_true rfl⟩ xE0_ok trivial hA hK hP hD hS [7, 8, 9, 10, 11, 2, 3, 4, 5] [0, 1, 6] [0, 1, 8, 9, 10, 11, 2, 3, 4, 5, 6, 7] rfl rfl rfl rfl rfl rfl rfl rfl rfl rfl hl.1 rfl (Nat.le_of_ble_eq_true rfl) ⟨Nat.zero_le _, Nat.zero_le _⟩ d_Letters_carryOut_90 (fun H locs hP hD hS => ?_)
    refine lv_iload_n hx hb d_Letters_carryOut_93 rfl (lv_at hl 2 rfl) ?_
    have hq := Option.some.inj hf
    subst hq
    exact hret _ _ _ _ _ d_Letters_carryOut_94 rfl rfl hP hD hS
  · have hf := io_f hf c2
    refine lv_sipush (v := (-1000)) hx hb d_Letters_carryOut_9 (by decide) ?_
    refine lv_iload_n hx hb d_Letters_carryOut_12 rfl (lv_at hl 0 rfl) ?_
    refine lv_isub hx hb d_Letters_carryOut_13 ?_
    have hq := Option.some.inj hf
    subst hq
    exact hret _ _ _ _ _ d_Letters_carryOut_14 rfl rfl hP hD hS
