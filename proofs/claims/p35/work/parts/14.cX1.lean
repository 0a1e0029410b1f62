/-! Contracts: X1. Printed by wip/whole/gen. -/
abbrev w_X_refuse (cI cJ cC : ClassId) (a_h a_h_now a_h_kept a_h_letters a_h_numbers a_h_refusals a_h_mind a_h_parts a_h_past a_h_seating : Nat) (y_h_isKept : Int32) (y_h_numberCount : Int32) (p_h_refusals : (Nat → Int32)) : va_W := [(a_h, .inr (0, [.ref a_h_now, .ref a_h_kept, .int y_h_isKept, .ref a_h_letters, .ref a_h_numbers, .int y_h_numberCount, .ref a_h_refusals, .ref a_h_mind, .ref a_h_parts, .ref a_h_past, .ref a_h_seating])), (a_h_refusals, .inl (cI, (7, .inl p_h_refusals)))]
theorem d_X_refuse_0 : decode b_X_refuse 0 = .ok (.iload_n 1, 1) := by decide +kernel
theorem d_X_refuse_1 : decode b_X_refuse 1 = .ok (.bipush (-6), 2) := by decide +kernel
theorem d_X_refuse_3 : decode b_X_refuse 3 = .ok (.if_icmp .lt 19, 3) := by decide +kernel
theorem d_X_refuse_6 : decode b_X_refuse 6 = .ok (.iload_n 1, 1) := by decide +kernel
theorem d_X_refuse_7 : decode b_X_refuse 7 = .ok (.iconst (-1), 1) := by decide +kernel
theorem d_X_refuse_8 : decode b_X_refuse 8 = .ok (.if_icmp .gt 14, 3) := by decide +kernel
theorem d_X_refuse_11 : decode b_X_refuse 11 = .ok (.aload_n 0, 1) := by decide +kernel
theorem d_X_refuse_12 : decode b_X_refuse 12 = .ok (.getfield 38, 3) := by decide +kernel
theorem d_X_refuse_15 : decode b_X_refuse 15 = .ok (.iload_n 1, 1) := by decide +kernel
theorem d_X_refuse_16 : decode b_X_refuse 16 = .ok (.ineg, 1) := by decide +kernel
theorem d_X_refuse_17 : decode b_X_refuse 17 = .ok (.dup2, 1) := by decide +kernel
theorem d_X_refuse_18 : decode b_X_refuse 18 = .ok (.iaload, 1) := by decide +kernel
theorem d_X_refuse_19 : decode b_X_refuse 19 = .ok (.iconst 1, 1) := by decide +kernel
theorem d_X_refuse_20 : decode b_X_refuse 20 = .ok (.iadd, 1) := by decide +kernel
theorem d_X_refuse_21 : decode b_X_refuse 21 = .ok (.iastore, 1) := by decide +kernel
theorem d_X_refuse_22 : decode b_X_refuse 22 = .ok (.iload_n 1, 1) := by decide +kernel
theorem d_X_refuse_23 : decode b_X_refuse 23 = .ok (.ireturn, 1) := by decide +kernel
set_option maxHeartbeats 4000000 in
set_option maxRecDepth 100000 in
theorem c_X_refuse {l : Launch} {D : va_G} {cI cJ cC : ClassId} (a_h a_h_now a_h_kept a_h_letters a_h_numbers a_h_refusals a_h_mind a_h_parts a_h_past a_h_seating : Nat) (y_h_isKept : Int32) (y_h_numberCount : Int32) {z_h_refusals : (Nat → Int32)} {x1 : Int32} {q : Int32 × (Nat → Int32)} (hf : f_X_refuse z_h_refusals x1 = some q) : xI l y_X_refuse b_X_refuse 2 .int 0 0 D (tyK cI cJ cC) xE0 [.ref a_h, .int x1] (w_X_refuse cI cJ cC a_h a_h_now a_h_kept a_h_letters a_h_numbers a_h_refusals a_h_mind a_h_parts a_h_past a_h_seating y_h_isKept y_h_numberCount z_h_refusals) q.1 (w_X_refuse cI cJ cC a_h a_h_now a_h_kept a_h_letters a_h_numbers a_h_refusals a_h_mind a_h_parts a_h_past a_h_seating y_h_isKept y_h_numberCount q.2) := by
  refine xI_of (by decide) (Nat.le_of_ble_eq_true rfl) ?_
  intro p e s m args below meth c A Q hx hb hml hown hT hA hP hD hK hS hE hret ls hl
  have hown : s.vm.findClass R_X = some m.cls := hown
  have hl : lv_has ls 2 [(0, .ref a_h), (1, .int x1)] := hl
  unfold f_X_refuse at hf
  refine lv_iload_n hx hb d_X_refuse_0 rfl (lv_at hl 1 rfl) ?_
  refine lv_bipush (v := (-6)) hx hb d_X_refuse_1 (by decide) ?_
  refine lv_icmp_lt (tgt := 22) hx hb d_X_refuse_3 (by decide) (fun c1 => ?_) (fun c1 => ?_)
  · have hf := io_t hf c1
    refine lv_iload_n hx hb d_X_refuse_22 rfl (lv_at hl 1 rfl) ?_
    have hq := Option.some.inj hf
    subst hq
    exact hret _ _ _ _ _ d_X_refuse_23 rfl rfl hP hD hS
  · have hf := io_f hf c1
    refine lv_iload_n hx hb d_X_refuse_6 rfl (lv_at hl 1 rfl) ?_
    refine lv_iconst (v := (-1)) hx hb d_X_refuse_7 (by decide) ?_
    refine lv_icmp_gt (tgt := 22) hx hb d_X_refuse_8 (by decide) (fun c2 => ?_) (fun c2 => ?_)
    · have hf := io_t hf c2
      refine lv_iload_n hx hb d_X_refuse_22 rfl (lv_at hl 1 rfl) ?_
      have hq := Option.some.inj hf
      subst hq
      exact hret _ _ _ _ _ d_X_refuse_23 rfl rfl hP hD hS
    · have hf := io_f hf c2
      refine lv_aload_n hx hb d_X_refuse_11 rfl (lv_at hl 0 rfl) ?_
      refine va_get hx hb hT i_X hown hK hP 0 rfl rfl 6 (Nat.le_of_ble_eq_true rfl) (hT _ k_162) (fun _ h => h) rfl d_X_refuse_12 ?_
      refine lv_iload_n hx hb d_X_refuse_15 rfl (lv_at hl 1 rfl) ?_
      refine lv_ineg hx hb d_X_refuse_16 ?_
      refine lv_dup2_11 hx hb d_X_refuse_17 rfl rfl ?_
      obtain ⟨c3, hf⟩ := io_n hf
      refine x_iald hx hb hK hP 1 0 rfl rfl (j := (-x1).toNatClampNeg) rfl c3 d_X_refuse_18 ?_
      refine lv_iconst (v := 1) hx hb d_X_refuse_19 (by decide) ?_
      refine lv_iadd hx hb d_X_refuse_20 ?_
      refine x_iast hx hb hK hP hD hS 1 0 rfl rfl (j := (-x1).toNatClampNeg) rfl c3 d_X_refuse_21 (fun H locs hP hD hS => ?_)
      have hP : va_P D classes (w_X_refuse cI cJ cC a_h a_h_now a_h_kept a_h_letters a_h_numbers a_h_refusals a_h_mind a_h_parts a_h_past a_h_seating y_h_isKept y_h_numberCount (upd z_h_refusals (-x1).toNatClampNeg ((z_h_refusals (-x1).toNatClampNeg) + 1))) H := hP
      have hD : va_D A (w_X_refuse cI cJ cC a_h a_h_now a_h_kept a_h_letters a_h_numbers a_h_refusals a_h_mind a_h_parts a_h_past a_h_seating y_h_isKept y_h_numberCount (upd z_h_refusals (-x1).toNatClampNeg ((z_h_refusals (-x1).toNatClampNeg) + 1))) := hD
      refine lv_iload_n hx hb d_X_refuse_22 rfl (lv_at hl 1 rfl) ?_
      have hq := Option.some.inj hf
      subst hq
      exact hret _ _ _ _ _ d_X_refuse_23 rfl rfl hP hD hS
abbrev w_X_feed (cI cJ cC : ClassId) (a_h a_h_now a_h_kept a_h_letters a_h_numbers a_h_refusals a_h_mind a_h_parts a_h_past a_h_seating a_h_letters_text a_h_letters_trial : Nat) (y_h_isKept : Int32) (y_h_numberCount : Int32) (p_h_letters_length : Int32) (p_h_letters_text : (Nat → Int32)) (p_h_refusals : (Nat → Int32)) : va_W := [(a_h, .inr (0, [.ref a_h_now, .ref a_h_kept, .int y_h_isKept, .ref a_h_letters, .ref a_h_numbers, .int y_h_numberCount, .ref a_h_refusals, .ref a_h_mind, .ref a_h_parts, .ref a_h_past, .ref a_h_seating])), (a_h_letters, .inr (2, [.int p_h_letters_length, .ref a_h_letters_text, .ref a_h_letters_trial])), (a_h_letters_text, .inl (cC, (64, .inl p_h_letters_text))), (a_h_refusals, .inl (cI, (7, .inl p_h_refusals)))]
theorem d_X_feed_0 : decode b_X_feed 0 = .ok (.iload_n 1, 1) := by decide +kernel
theorem d_X_feed_1 : decode b_X_feed 1 = .ok (.ifCond .ge 10, 3) := by decide +kernel
theorem d_X_feed_4 : decode b_X_feed 4 = .ok (.aload_n 0, 1) := by decide +kernel
theorem d_X_feed_5 : decode b_X_feed 5 = .ok (.bipush (-4), 2) := by decide +kernel
theorem d_X_feed_7 : decode b_X_feed 7 = .ok (.invokevirtual 69, 3) := by decide +kernel
theorem d_X_feed_10 : decode b_X_feed 10 = .ok (.ireturn, 1) := by decide +kernel
theorem d_X_feed_11 : decode b_X_feed 11 = .ok (.iload_n 1, 1) := by decide +kernel
theorem d_X_feed_12 : decode b_X_feed 12 = .ok (.sipush 255, 3) := by decide +kernel
theorem d_X_feed_15 : decode b_X_feed 15 = .ok (.if_icmp .gt 15, 3) := by decide +kernel
theorem d_X_feed_18 : decode b_X_feed 18 = .ok (.aload_n 0, 1) := by decide +kernel
theorem d_X_feed_19 : decode b_X_feed 19 = .ok (.getfield 26, 3) := by decide +kernel
theorem d_X_feed_22 : decode b_X_feed 22 = .ok (.getfield 73, 3) := by decide +kernel
theorem d_X_feed_25 : decode b_X_feed 25 = .ok (.bipush 64, 2) := by decide +kernel
theorem d_X_feed_27 : decode b_X_feed 27 = .ok (.if_icmp .lt 10, 3) := by decide +kernel
theorem d_X_feed_30 : decode b_X_feed 30 = .ok (.aload_n 0, 1) := by decide +kernel
theorem d_X_feed_31 : decode b_X_feed 31 = .ok (.bipush (-6), 2) := by decide +kernel
theorem d_X_feed_33 : decode b_X_feed 33 = .ok (.invokevirtual 69, 3) := by decide +kernel
theorem d_X_feed_36 : decode b_X_feed 36 = .ok (.ireturn, 1) := by decide +kernel
theorem d_X_feed_37 : decode b_X_feed 37 = .ok (.aload_n 0, 1) := by decide +kernel
theorem d_X_feed_38 : decode b_X_feed 38 = .ok (.getfield 26, 3) := by decide +kernel
theorem d_X_feed_41 : decode b_X_feed 41 = .ok (.iload_n 1, 1) := by decide +kernel
theorem d_X_feed_42 : decode b_X_feed 42 = .ok (.i2c, 1) := by decide +kernel
theorem d_X_feed_43 : decode b_X_feed 43 = .ok (.invokevirtual 76, 3) := by decide +kernel
theorem d_X_feed_46 : decode b_X_feed 46 = .ok (.ireturn, 1) := by decide +kernel
set_option maxHeartbeats 4000000 in
set_option maxRecDepth 100000 in
theorem c_X_feed {l : Launch} {D : va_G} {cI cJ cC : ClassId} (a_h a_h_now a_h_kept a_h_letters a_h_numbers a_h_refusals a_h_mind a_h_parts a_h_past a_h_seating a_h_letters_text a_h_letters_trial : Nat) (y_h_isKept : Int32) (y_h_numberCount : Int32) {z_h_letters_length : Int32} {z_h_letters_text : (Nat → Int32)} {z_h_refusals : (Nat → Int32)} {x1 : Int32} {q : Int32 × Int32 × (Nat → Int32) × (Nat → Int32)} (hf : f_X_feed z_h_letters_length z_h_letters_text z_h_refusals x1 = some q) : xI l y_X_feed b_X_feed 2 .int 1 21 D (tyK cI cJ cC) xE0 [.ref a_h, .int x1] (w_X_feed cI cJ cC a_h a_h_now a_h_kept a_h_letters a_h_numbers a_h_refusals a_h_mind a_h_parts a_h_past a_h_seating a_h_letters_text a_h_letters_trial y_h_isKept y_h_numberCount z_h_letters_length z_h_letters_text z_h_refusals) q.1 (w_X_feed cI cJ cC a_h a_h_now a_h_kept a_h_letters a_h_numbers a_h_refusals a_h_mind a_h_parts a_h_past a_h_seating a_h_letters_text a_h_letters_trial y_h_isKept y_h_numberCount q.2.1 q.2.2.1 q.2.2.2) := by
  refine xI_of (by decide) (Nat.le_of_ble_eq_true rfl) ?_
  intro p e s m args below meth c A Q hx hb hml hown hT hA hP hD hK hS hE hret ls hl
  have hown : s.vm.findClass R_X = some m.cls := hown
  have hl : lv_has ls 2 [(0, .ref a_h), (1, .int x1)] := hl
  unfold f_X_feed at hf
  refine lv_iload_n hx hb d_X_feed_0 rfl (lv_at hl 1 rfl) ?_
  refine lv_if_ge (tgt := 11) hx hb d_X_feed_1 (by decide) (fun c1 => ?_) (fun c1 => ?_)
  · have hf := io_t hf c1
    refine lv_iload_n hx hb d_X_feed_11 rfl (lv_at hl 1 rfl) ?_
    refine lv_sipush (v := 255) hx hb d_X_feed_12 (by decide) ?_
    refine lv_icmp_gt (tgt := 30) hx hb d_X_feed_15 (by decide) (fun c2 => ?_) (fun c2 => ?_)
    · have hf := io_t hf c2
      refine lv_aload_n hx hb d_X_feed_30 rfl (lv_at hl 0 rfl) ?_
      refine lv_bipush (v := (-6)) hx hb d_X_feed_31 (by decide) ?_
      obtain ⟨q3, hq3, hf⟩ := io_b hf
      refine xcVI (wc := (w_X_refuse cI cJ cC a_h a_h_now a_h_kept a_h_letters a_h_numbers a_h_refusals a_h_mind a_h_parts a_h_past a_h_seating y_h_isKept y_h_numberCount z_h_refusals)) (wc' := (w_X_refuse cI cJ cC a_h a_h_now a_h_kept a_h_letters a_h_numbers a_h_refusals a_h_mind a_h_parts a_h_past a_h_seating y_h_isKept y_h_numberCount q3.2)) (ws' := (w_X_feed cI cJ cC a_h a_h_now a_h_kept a_h_letters a_h_numbers a_h_refusals a_h_mind a_h_parts a_h_past a_h_seating a_h_letters_text a_h_letters_trial y_h_isKept y_h_numberCount z_h_letters_length z_h_letters_text q3.2)) (As := [.int (-6)]) (rest := []) hx hb hml hown hT (c_X_refuse (z_h_refusals := z_h_refusals) a_h a_h_now a_h_kept a_h_letters a_h_numbers a_h_refusals a_h_mind a_h_parts a_h_past a_h_seating y_h_isKept y_h_numberCount hq3) k_198 k_200 ks_0 k_1 k_201 hd_X_refuse ⟨Nat.le_of_ble_eq_true rfl, Nat.le_of_ble_eq_true rfl⟩ xE0_ok trivial hA hK hP hD hS [0, 3] [1, 2] [2, 0, 1, 3] rfl rfl rfl rfl rfl rfl rfl rfl rfl rfl hl.1 rfl (Nat.le_of_ble_eq_true rfl) ⟨Nat.zero_le _, Nat.zero_le _⟩ d_X_feed_33 (fun H locs hP hD hS => ?_)
      have hq := Option.some.inj hf
      subst hq
      exact hret _ _ _ _ _ d_X_feed_36 rfl rfl hP hD hS
    · have hf := io_f hf c2
      refine lv_aload_n hx hb d_X_feed_18 rfl (lv_at hl 0 rfl) ?_
      refine va_get hx hb hT i_X hown hK hP 0 rfl rfl 3 (Nat.le_of_ble_eq_true rfl) (hT _ k_159) (fun _ h => h) rfl d_X_feed_19 ?_
      refine va_get hx hb hT i_Letters hown hK hP 1 rfl rfl 0 (Nat.le_of_ble_eq_true rfl) (hT _ k_77) (fun _ h => h) rfl d_X_feed_22 ?_
      refine lv_bipush (v := 64) hx hb d_X_feed_25 (by decide) ?_
      refine lv_icmp_lt (tgt := 37) hx hb d_X_feed_27 (by decide) (fun c4 => ?_) (fun c4 => ?_)
      · have hf := io_t hf c4
        refine lv_aload_n hx hb d_X_feed_37 rfl (lv_at hl 0 rfl) ?_
        refine va_get hx hb hT i_X hown hK hP 0 rfl rfl 3 (Nat.le_of_ble_eq_true rfl) (hT _ k_159) (fun _ h => h) rfl d_X_feed_38 ?_
        refine lv_iload_n hx hb d_X_feed_41 rfl (lv_at hl 1 rfl) ?_
        refine lv_i2c (v := ((x1.toUInt32 % 65536).toInt32)) hx hb d_X_feed_42 rfl ?_
        obtain ⟨q5, hq5, hf⟩ := io_b hf
        refine xcVI (wc := (w_Letters_add cI cJ cC a_h_letters a_h_letters_text a_h_letters_trial z_h_letters_length z_h_letters_text)) (wc' := (w_Letters_add cI cJ cC a_h_letters a_h_letters_text a_h_letters_trial q5.2.1 q5.2.2)) (ws' := (w_X_feed cI cJ cC a_h a_h_now a_h_kept a_h_letters a_h_numbers a_h_refusals a_h_mind a_h_parts a_h_past a_h_seating a_h_letters_text a_h_letters_trial y_h_isKept y_h_numberCount q5.2.1 q5.2.2 z_h_refusals)) (As := [.int ((x1.toUInt32 % 65536).toInt32)]) (rest := []) hx hb hml hown hT (c_Letters_add (z_h_length := z_h_letters_length) (z_h_text := z_h_letters_text) a_h_letters a_h_letters_text a_h_letters_trial hq5) k_409 k_410 k_411 k_3 k_412 hd_Letters_add ⟨Nat.le_of_ble_eq_true rfl, Nat.le_of_ble_eq_true rfl⟩ xE0_ok trivial hA hK hP hD hS [1, 2] [0, 3] [0, 2, 3, 1] rfl rfl rfl rfl rfl rfl rfl rfl rfl rfl hl.1 rfl (Nat.le_of_ble_eq_true rfl) ⟨Nat.zero_le _, Nat.zero_le _⟩ d_X_feed_43 (fun H locs hP hD hS => ?_)
        have hq := Option.some.inj hf
        subst hq
        exact hret _ _ _ _ _ d_X_feed_46 rfl rfl hP hD hS
      · have hf := io_f hf c4
        refine lv_aload_n hx hb d_X_feed_30 rfl (lv_at hl 0 rfl) ?_
        refine lv_bipush (v := (-6)) hx hb d_X_feed_31 (by decide) ?_
        obtain ⟨q6, hq6, hf⟩ := io_b hf
        refine xcVI (wc := (w_X_refuse cI cJ cC a_h a_h_now a_h_kept a_h_letters a_h_numbers a_h_refusals a_h_mind a_h_parts a_h_past a_h_seating y_h_isKept y_h_numberCount z_h_refusals)) (wc' := (w_X_refuse cI cJ cC a_h a_h_now a_h_kept a_h_letters a_h_numbers a_h_refusals a_h_mind a_h_parts a_h_past a_h_seating y_h_isKept y_h_numberCount q6.2)) (ws' := (w_X_feed cI cJ cC a_h a_h_now a_h_kept a_h_letters a_h_numbers a_h_refusals a_h_mind a_h_parts a_h_past a_h_seating a_h_letters_text a_h_letters_trial y_h_isKept y_h_numberCount z_h_letters_length z_h_letters_text q6.2)) (As := [.int (-6)]) (rest := []) hx hb hml hown hT (c_X_refuse (z_h_refusals := z_h_refusals) a_h a_h_now a_h_kept a_h_letters a_h_numbers a_h_refusals a_h_mind a_h_parts a_h_past a_h_seating y_h_isKept y_h_numberCount hq6) k_198 k_200 ks_0 k_1 k_201 hd_X_refuse ⟨Nat.le_of_ble_eq_true rfl, Nat.le_of_ble_eq_true rfl⟩ xE0_ok trivial hA hK hP hD hS [0, 3] [1, 2] [2, 0, 1, 3] rfl rfl rfl rfl rfl rfl rfl rfl rfl rfl hl.1 rfl (Nat.le_of_ble_eq_true rfl) ⟨Nat.zero_le _, Nat.zero_le _⟩ d_X_feed_33 (fun H locs hP hD hS => ?_)
        have hq := Option.some.inj hf
        subst hq
        exact hret _ _ _ _ _ d_X_feed_36 rfl rfl hP hD hS
  · have hf := io_f hf c1
    refine lv_aload_n hx hb d_X_feed_4 rfl (lv_at hl 0 rfl) ?_
    refine lv_bipush (v := (-4)) hx hb d_X_feed_5 (by decide) ?_
    obtain ⟨q7, hq7, hf⟩ := io_b hf
    refine xcVI (wc := (w_X_refuse cI cJ cC a_h a_h_now a_h_kept a_h_letters a_h_numbers a_h_refusals a_h_mind a_h_parts a_h_past a_h_seating y_h_isKept y_h_numberCount z_h_refusals)) (wc' := (w_X_refuse cI cJ cC a_h a_h_now a_h_kept a_h_letters a_h_numbers a_h_refusals a_h_mind a_h_parts a_h_past a_h_seating y_h_isKept y_h_numberCount q7.2)) (ws' := (w_X_feed cI cJ cC a_h a_h_now a_h_kept a_h_letters a_h_numbers a_h_refusals a_h_mind a_h_parts a_h_past a_h_seating a_h_letters_text a_h_letters_trial y_h_isKept y_h_numberCount z_h_letters_length z_h_letters_text q7.2)) (As := [.int (-4)]) (rest := []) hx hb hml hown hT (c_X_refuse (z_h_refusals := z_h_refusals) a_h a_h_now a_h_kept a_h_letters a_h_numbers a_h_refusals a_h_mind a_h_parts a_h_past a_h_seating y_h_isKept y_h_numberCount hq7) k_198 k_200 ks_0 k_1 k_201 hd_X_refuse ⟨Nat.le_of_ble_eq_true rfl, Nat.le_of_ble_eq_true rfl⟩ xE0_ok trivial hA hK hP hD hS [0, 3] [1, 2] [2, 0, 1, 3] rfl rfl rfl rfl rfl rfl rfl rfl rfl rfl hl.1 rfl (Nat.le_of_ble_eq_true rfl) ⟨Nat.zero_le _, Nat.zero_le _⟩ d_X_feed_7 (fun H locs hP hD hS => ?_)
    have hq := Option.some.inj hf
    subst hq
    exact hret _ _ _ _ _ d_X_feed_10 rfl rfl hP hD hS
abbrev w_X_table (cI cJ cC : ClassId) (a_h a_h_now a_h_kept a_h_letters a_h_numbers a_h_refusals a_h_mind a_h_parts a_h_past a_h_seating a_h_now_kinds a_h_now_sweets a_h_now_settings a_h_now_heaps a_h_letters_text a_h_letters_trial a_h_letters_trial_kinds a_h_letters_trial_sweets a_h_letters_trial_settings a_h_letters_trial_heaps : Nat) (y_h_isKept : Int32) (y_h_numberCount : Int32) (p_h_now_children : Int32) (p_h_now_strokes : Int32) (p_h_now_gave : Int32) (p_h_now_threw : Int32) (p_h_now_kinds : (Nat → Int32)) (p_h_now_sweets : (Nat → Int32)) (p_h_now_settings : (Nat → Int32)) (p_h_now_heaps : (Nat → Int32)) (p_h_letters_length : Int32) (p_h_letters_text : (Nat → Int32)) (p_h_letters_trial_children : Int32) (p_h_letters_trial_strokes : Int32) (p_h_letters_trial_gave : Int32) (p_h_letters_trial_threw : Int32) (p_h_letters_trial_kinds : (Nat → Int32)) (p_h_letters_trial_sweets : (Nat → Int32)) (p_h_letters_trial_settings : (Nat → Int32)) (p_h_letters_trial_heaps : (Nat → Int32)) : va_W := [(a_h, .inr (0, [.ref a_h_now, .ref a_h_kept, .int y_h_isKept, .ref a_h_letters, .ref a_h_numbers, .int y_h_numberCount, .ref a_h_refusals, .ref a_h_mind, .ref a_h_parts, .ref a_h_past, .ref a_h_seating])), (a_h_now, .inr (1, [.ref a_h_now_kinds, .ref a_h_now_sweets, .ref a_h_now_settings, .int p_h_now_children, .int p_h_now_strokes, .int p_h_now_gave, .int p_h_now_threw, .ref a_h_now_heaps])), (a_h_now_kinds, .inl (cI, (8, .inl p_h_now_kinds))), (a_h_now_sweets, .inl (cI, (8, .inl p_h_now_sweets))), (a_h_now_settings, .inl (cI, (3, .inl p_h_now_settings))), (a_h_now_heaps, .inl (cI, (8, .inl p_h_now_heaps))), (a_h_letters, .inr (2, [.int p_h_letters_length, .ref a_h_letters_text, .ref a_h_letters_trial])), (a_h_letters_text, .inl (cC, (64, .inl p_h_letters_text))), (a_h_letters_trial, .inr (1, [.ref a_h_letters_trial_kinds, .ref a_h_letters_trial_sweets, .ref a_h_letters_trial_settings, .int p_h_letters_trial_children, .int p_h_letters_trial_strokes, .int p_h_letters_trial_gave, .int p_h_letters_trial_threw, .ref a_h_letters_trial_heaps])), (a_h_letters_trial_kinds, .inl (cI, (8, .inl p_h_letters_trial_kinds))), (a_h_letters_trial_sweets, .inl (cI, (8, .inl p_h_letters_trial_sweets))), (a_h_letters_trial_settings, .inl (cI, (3, .inl p_h_letters_trial_settings))), (a_h_letters_trial_heaps, .inl (cI, (8, .inl p_h_letters_trial_heaps)))]
theorem d_X_table_0 : decode b_X_table 0 = .ok (.aload_n 0, 1) := by decide +kernel
theorem d_X_table_1 : decode b_X_table 1 = .ok (.getfield 26, 3) := by decide +kernel
theorem d_X_table_4 : decode b_X_table 4 = .ok (.aload_n 0, 1) := by decide +kernel
theorem d_X_table_5 : decode b_X_table 5 = .ok (.getfield 10, 3) := by decide +kernel
theorem d_X_table_8 : decode b_X_table 8 = .ok (.invokevirtual 80, 3) := by decide +kernel
theorem d_X_table_11 : decode b_X_table 11 = .ok (.istore_n 1, 1) := by decide +kernel
theorem d_X_table_12 : decode b_X_table 12 = .ok (.aload_n 0, 1) := by decide +kernel
theorem d_X_table_13 : decode b_X_table 13 = .ok (.getfield 26, 3) := by decide +kernel
theorem d_X_table_16 : decode b_X_table 16 = .ok (.iconst 0, 1) := by decide +kernel
theorem d_X_table_17 : decode b_X_table 17 = .ok (.putfield 73, 3) := by decide +kernel
theorem d_X_table_20 : decode b_X_table 20 = .ok (.iload_n 1, 1) := by decide +kernel
theorem d_X_table_21 : decode b_X_table 21 = .ok (.ireturn, 1) := by decide +kernel
set_option maxHeartbeats 4000000 in
set_option maxRecDepth 100000 in
theorem c_X_table {l : Launch} {D : va_G} {cI cJ cC : ClassId} {t_LEAST_SETTING t_GREATEST_SETTING t_str t_val : Nat} (a_h a_h_now a_h_kept a_h_letters a_h_numbers a_h_refusals a_h_mind a_h_parts a_h_past a_h_seating a_h_now_kinds a_h_now_sweets a_h_now_settings a_h_now_heaps a_h_letters_text a_h_letters_trial a_h_letters_trial_kinds a_h_letters_trial_sweets a_h_letters_trial_settings a_h_letters_trial_heaps : Nat) (y_h_isKept : Int32) (y_h_numberCount : Int32) {z_h_now : RS} {z_h_letters_length : Int32} {z_h_letters_text : (Nat → Int32)} {z_h_letters_trial : RS} {q : Int32 × RS × Int32 × RS} (hf : f_X_table z_h_now z_h_letters_length z_h_letters_text z_h_letters_trial = some q) : xI l y_X_table b_X_table 2 .int 7 159 D (tyK cI cJ cC) (xEv t_LEAST_SETTING t_GREATEST_SETTING t_str t_val) [.ref a_h] (w_X_table cI cJ cC a_h a_h_now a_h_kept a_h_letters a_h_numbers a_h_refusals a_h_mind a_h_parts a_h_past a_h_seating a_h_now_kinds a_h_now_sweets a_h_now_settings a_h_now_heaps a_h_letters_text a_h_letters_trial a_h_letters_trial_kinds a_h_letters_trial_sweets a_h_letters_trial_settings a_h_letters_trial_heaps y_h_isKept y_h_numberCount (r_children z_h_now) (r_strokes z_h_now) (r_gave z_h_now) (r_threw z_h_now) (r_kinds z_h_now) (r_sweets z_h_now) (r_settings z_h_now) (r_heaps z_h_now) z_h_letters_length z_h_letters_text (r_children z_h_letters_trial) (r_strokes z_h_letters_trial) (r_gave z_h_letters_trial) (r_threw z_h_letters_trial) (r_kinds z_h_letters_trial) (r_sweets z_h_letters_trial) (r_settings z_h_letters_trial) (r_heaps z_h_letters_trial)) q.1 (w_X_table cI cJ cC a_h a_h_now a_h_kept a_h_letters a_h_numbers a_h_refusals a_h_mind a_h_parts a_h_past a_h_seating a_h_now_kinds a_h_now_sweets a_h_now_settings a_h_now_heaps a_h_letters_text a_h_letters_trial a_h_letters_trial_kinds a_h_letters_trial_sweets a_h_letters_trial_settings a_h_letters_trial_heaps y_h_isKept y_h_numberCount (r_children q.2.1) (r_strokes q.2.1) (r_gave q.2.1) (r_threw q.2.1) (r_kinds q.2.1) (r_sweets q.2.1) (r_settings q.2.1) (r_heaps q.2.1) q.2.2.1 z_h_letters_text (r_children q.2.2.2) (r_strokes q.2.2.2) (r_gave q.2.2.2) (r_threw q.2.2.2) (r_kinds q.2.2.2) (r_sweets q.2.2.2) (r_settings q.2.2.2) (r_heaps q.2.2.2)) := by
  refine xI_of (by decide) (Nat.le_of_ble_eq_true rfl) ?_
  intro p e s m args below meth c A Q hx hb hml hown hT hA hP hD hK hS hE hret ls hl
  have hown : s.vm.findClass R_X = some m.cls := hown
  have hl : lv_has ls 2 [(0, .ref a_h)] := hl
  unfold f_X_table at hf
  obtain ⟨hZ_LEAST_SETTING, hT_LEAST_SETTING, hZ_GREATEST_SETTING, hT_GREATEST_SETTING, hZ_CS, hO_str, hC_str, hV_str, hT_str, hR_str, hN_X_outside, hNF_LEAST_SETTING, hNF_GREATEST_SETTING⟩ := id hE
  refine lv_aload_n hx hb d_X_table_0 rfl (lv_at hl 0 rfl) ?_
  refine va_get hx hb hT i_X hown hK hP 0 rfl rfl 3 (Nat.le_of_ble_eq_true rfl) (hT _ k_159) (fun _ h => h) rfl d_X_table_1 ?_
  refine lv_aload_n hx hb d_X_table_4 rfl (lv_at hl 0 rfl) ?_
  refine va_get hx hb hT i_X hown hK hP 0 rfl rfl 0 (Nat.le_of_ble_eq_true rfl) (hT _ k_156) (fun _ h => h) rfl d_X_table_5 ?_
  obtain ⟨q1, hq1, hf⟩ := io_b hf
  refine xcVI (wc := (w_Letters_carryOut cI cJ cC a_h_letters a_h_letters_text a_h_letters_trial a_h_letters_trial_kinds a_h_letters_trial_sweets a_h_letters_trial_settings a_h_letters_trial_heaps a_h_now a_h_now_kinds a_h_now_sweets a_h_now_settings a_h_now_heaps z_h_letters_length z_h_letters_text (r_children z_h_letters_trial) (r_strokes z_h_letters_trial) (r_gave z_h_letters_trial) (r_threw z_h_letters_trial) (r_kinds z_h_letters_trial) (r_sweets z_h_letters_trial) (r_settings z_h_letters_trial) (r_heaps z_h_letters_trial) (r_children z_h_now) (r_strokes z_h_now) (r_gave z_h_now) (r_threw z_h_now) (r_kinds z_h_now) (r_sweets z_h_now) (r_settings z_h_now) (r_heaps z_h_now))) (wc' := (w_Letters_carryOut cI cJ cC a_h_letters a_h_letters_text a_h_letters_trial a_h_letters_trial_kinds a_h_letters_trial_sweets a_h_letters_trial_settings a_h_letters_trial_heaps a_h_now a_h_now_kinds a_h_now_sweets a_h_now_settings a_h_now_heaps z_h_letters_length z_h_letters_text (r_children q1.2.1) (r_strokes q1.2.1) (r_gave q1.2.1) (r_threw q1.2.1) (r_kinds q1.2.1) (r_sweets q1.2.1) (r_settings q1.2.1) (r_heaps q1.2.1) (r_children q1.2.2) (r_strokes q1.2.2) (r_gave q1.2.2) (r_threw q1.2.2) (r_kinds q1.2.2) (r_sweets q1.2.2) (r_settings q1.2.2) (r_heaps q1.2.2))) (ws' := (w_X_table cI cJ cC a_h a_h_now a_h_kept a_h_letters a_h_numbers a_h_refusals a_h_mind a_h_parts a_h_past a_h_seating a_h_now_kinds a_h_now_sweets a_h_now_settings a_h_now_heaps a_h_letters_text a_h_letters_trial a_h_letters_trial_kinds a_h_letters_trial_sweets a_h_letters_trial_settings a_h_letters_trial_heaps y_h_isKept y_h_numberCount (r_children q1.2.2) (r_strokes q1.2.2) (r_gave q1.2.2) (r_threw q1.2.2) (r_kinds q1.2.2) (r_sweets q1.2.2) (r_settings q1.2.2) (r_heaps q1.2.2) z_h_letters_length z_h_letters_text (r_children q1.2.1) (r_strokes q1.2.1) (r_gave q1.2.1) (r_threw q1.2.1) (r_kinds q1.2.1) (r_sweets q1.2.1) (r_settings q1.2.1) (r_heaps q1.2.1))) (As := [.ref a_h_now]) (rest := []) hx hb hml hown hT (c_Letters_carryOut (z_h_length := z_h_letters_length) (z_h_text := z_h_letters_text) (z_h_trial := z_h_letters_trial) (z_g1 := z_h_now) a_h_letters a_h_letters_text a_h_letters_trial a_h_letters_trial_kinds a_h_letters_trial_sweets a_h_letters_trial_settings a_h_letters_trial_heaps a_h_now a_h_now_kinds a_h_now_sweets a_h_now_settings a_h_now_heaps hq1) k_417 k_418 k_419 k_3 k_420 hd_Letters_carryOut ⟨Nat.le_of_ble_eq_true rfl, Nat.le_of_ble_eq_true rfl⟩ (xEv_ok _ _ _ _) hE hA hK hP hD hS [6, 7, 8, 9, 10, 11, 12, 1, 2, 3, 4, 5] [0] [0, 8, 9, 10, 11, 12, 1, 2, 3, 4, 5, 6, 7] rfl rfl rfl rfl rfl rfl rfl rfl rfl rfl hl.1 rfl (Nat.le_of_ble_eq_true rfl) ⟨Nat.zero_le _, Nat.zero_le _⟩ d_X_table_8 (fun H locs hP hD hS => ?_)
  refine lv_istore_n (lv' := [(1, .int q1.1), (0, .ref a_h)]) hx hb d_X_table_11 rfl hl (by decide) rfl (fun ls hl => ?_)
  refine lv_aload_n hx hb d_X_table_12 rfl (lv_at hl 1 rfl) ?_
  refine va_get hx hb hT i_X hown hK hP 0 rfl rfl 3 (Nat.le_of_ble_eq_true rfl) (hT _ k_159) (fun _ h => h) rfl d_X_table_13 ?_
  refine lv_iconst (v := 0) hx hb d_X_table_16 (by decide) ?_
  refine va_put (ty := .int) hx hb hT i_Letters t_Letters t_Letters_ok n_Letters hown hK hP hD hS 6 rfl rfl 0 (Nat.le_of_ble_eq_true rfl) (hT _ k_77) (fun _ h => h) rfl rfl rfl rfl (Nat.le_of_ble_eq_true rfl) d_X_table_17 (fun H locs hP hD hS => ?_)
  have hP : va_P D classes (w_X_table cI cJ cC a_h a_h_now a_h_kept a_h_letters a_h_numbers a_h_refusals a_h_mind a_h_parts a_h_past a_h_seating a_h_now_kinds a_h_now_sweets a_h_now_settings a_h_now_heaps a_h_letters_text a_h_letters_trial a_h_letters_trial_kinds a_h_letters_trial_sweets a_h_letters_trial_settings a_h_letters_trial_heaps y_h_isKept y_h_numberCount (r_children q1.2.2) (r_strokes q1.2.2) (r_gave q1.2.2) (r_threw q1.2.2) (r_kinds q1.2.2) (r_sweets q1.2.2) (r_settings q1.2.2) (r_heaps q1.2.2) 0 z_h_letters_text (r_children q1.2.1) (r_strokes q1.2.1) (r_gave q1.2.1) (r_threw q1.2.1) (r_kinds q1.2.1) (r_sweets q1.2.1) (r_settings q1.2.1) (r_heaps q1.2.1)) H := hP
  have hD : va_D A (w_X_table cI cJ cC a_h a_h_now a_h_kept a_h_letters a_h_numbers a_h_refusals a_h_mind a_h_parts a_h_past a_h_seating a_h_now_kinds a_h_now_sweets a_h_now_settings a_h_now_heaps a_h_letters_text a_h_letters_trial a_h_letters_trial_kinds a_h_letters_trial_sweets a_h_letters_trial_settings a_h_letters_trial_heaps y_h_isKept y_h_numberCount (r_children q1.2.2) (r_strokes q1.2.2) (r_gave q1.2.2) (r_threw q1.2.2) (r_kinds q1.2.2) (r_sweets q1.2.2) (r_settings q1.2.2) (r_heaps q1.2.2) 0 z_h_letters_text (r_children q1.2.1) (r_strokes q1.2.1) (r_gave q1.2.1) (r_threw q1.2.1) (r_kinds q1.2.1) (r_sweets q1.2.1) (r_settings q1.2.1) (r_heaps q1.2.1)) := hD
  refine lv_iload_n hx hb d_X_table_20 rfl (lv_at hl 0 rfl) ?_
  have hq := Option.some.inj hf
  subst hq
  exact hret _ _ _ _ _ d_X_table_21 rfl rfl hP hD hS
abbrev w_X_child (cI cJ cC : ClassId) (a_h a_h_now a_h_kept a_h_letters a_h_numbers a_h_refusals a_h_mind a_h_parts a_h_past a_h_seating a_h_now_kinds a_h_now_sweets a_h_now_settings a_h_now_heaps : Nat) (y_h_isKept : Int32) (y_h_numberCount : Int32) (p_h_now_children : Int32) (p_h_now_strokes : Int32) (p_h_now_gave : Int32) (p_h_now_threw : Int32) (p_h_now_kinds : (Nat → Int32)) (p_h_now_sweets : (Nat → Int32)) (p_h_now_settings : (Nat → Int32)) (p_h_refusals : (Nat → Int32)) : va_W := [(a_h, .inr (0, [.ref a_h_now, .ref a_h_kept, .int y_h_isKept, .ref a_h_letters, .ref a_h_numbers, .int y_h_numberCount, .ref a_h_refusals, .ref a_h_mind, .ref a_h_parts, .ref a_h_past, .ref a_h_seating])), (a_h_now, .inr (1, [.ref a_h_now_kinds, .ref a_h_now_sweets, .ref a_h_now_settings, .int p_h_now_children, .int p_h_now_strokes, .int p_h_now_gave, .int p_h_now_threw, .ref a_h_now_heaps])), (a_h_now_kinds, .inl (cI, (8, .inl p_h_now_kinds))), (a_h_now_sweets, .inl (cI, (8, .inl p_h_now_sweets))), (a_h_now_settings, .inl (cI, (3, .inl p_h_now_settings))), (a_h_refusals, .inl (cI, (7, .inl p_h_refusals)))]
theorem d_X_child_0 : decode b_X_child 0 = .ok (.aload_n 0, 1) := by decide +kernel
theorem d_X_child_1 : decode b_X_child 1 = .ok (.getfield 10, 3) := by decide +kernel
theorem d_X_child_4 : decode b_X_child 4 = .ok (.iload_n 1, 1) := by decide +kernel
theorem d_X_child_5 : decode b_X_child 5 = .ok (.invokevirtual 84, 3) := by decide +kernel
theorem d_X_child_8 : decode b_X_child 8 = .ok (.ifCond .ne 9, 3) := by decide +kernel
theorem d_X_child_11 : decode b_X_child 11 = .ok (.aload_n 0, 1) := by decide +kernel
theorem d_X_child_12 : decode b_X_child 12 = .ok (.iconst (-1), 1) := by decide +kernel
theorem d_X_child_13 : decode b_X_child 13 = .ok (.invokevirtual 69, 3) := by decide +kernel
theorem d_X_child_16 : decode b_X_child 16 = .ok (.ireturn, 1) := by decide +kernel
theorem d_X_child_17 : decode b_X_child 17 = .ok (.iload_n 2, 1) := by decide +kernel
theorem d_X_child_18 : decode b_X_child 18 = .ok (.tableswitch 68 0 3 #[30, 40, 50, 59], 30) := by decide +kernel
theorem d_X_child_48 : decode b_X_child 48 = .ok (.aload_n 0, 1) := by decide +kernel
theorem d_X_child_49 : decode b_X_child 49 = .ok (.getfield 10, 3) := by decide +kernel
theorem d_X_child_52 : decode b_X_child 52 = .ok (.getfield 88, 3) := by decide +kernel
theorem d_X_child_55 : decode b_X_child 55 = .ok (.iload_n 1, 1) := by decide +kernel
theorem d_X_child_56 : decode b_X_child 56 = .ok (.iaload, 1) := by decide +kernel
theorem d_X_child_57 : decode b_X_child 57 = .ok (.ireturn, 1) := by decide +kernel
theorem d_X_child_58 : decode b_X_child 58 = .ok (.aload_n 0, 1) := by decide +kernel
theorem d_X_child_59 : decode b_X_child 59 = .ok (.getfield 10, 3) := by decide +kernel
theorem d_X_child_62 : decode b_X_child 62 = .ok (.getfield 91, 3) := by decide +kernel
theorem d_X_child_65 : decode b_X_child 65 = .ok (.iload_n 1, 1) := by decide +kernel
theorem d_X_child_66 : decode b_X_child 66 = .ok (.iaload, 1) := by decide +kernel
theorem d_X_child_67 : decode b_X_child 67 = .ok (.ireturn, 1) := by decide +kernel
theorem d_X_child_68 : decode b_X_child 68 = .ok (.aload_n 0, 1) := by decide +kernel
theorem d_X_child_69 : decode b_X_child 69 = .ok (.getfield 10, 3) := by decide +kernel
theorem d_X_child_72 : decode b_X_child 72 = .ok (.iload_n 1, 1) := by decide +kernel
theorem d_X_child_73 : decode b_X_child 73 = .ok (.invokevirtual 94, 3) := by decide +kernel
theorem d_X_child_76 : decode b_X_child 76 = .ok (.ireturn, 1) := by decide +kernel
theorem d_X_child_77 : decode b_X_child 77 = .ok (.aload_n 0, 1) := by decide +kernel
theorem d_X_child_78 : decode b_X_child 78 = .ok (.getfield 10, 3) := by decide +kernel
theorem d_X_child_81 : decode b_X_child 81 = .ok (.iload_n 1, 1) := by decide +kernel
theorem d_X_child_82 : decode b_X_child 82 = .ok (.invokevirtual 97, 3) := by decide +kernel
theorem d_X_child_85 : decode b_X_child 85 = .ok (.ireturn, 1) := by decide +kernel
theorem d_X_child_86 : decode b_X_child 86 = .ok (.aload_n 0, 1) := by decide +kernel
theorem d_X_child_87 : decode b_X_child 87 = .ok (.bipush (-2), 2) := by decide +kernel
theorem d_X_child_89 : decode b_X_child 89 = .ok (.invokevirtual 69, 3) := by decide +kernel
theorem d_X_child_92 : decode b_X_child 92 = .ok (.ireturn, 1) := by decide +kernel
set_option maxHeartbeats 4000000 in
set_option maxRecDepth 100000 in
theorem c_X_child {l : Launch} {D : va_G} {cI cJ cC : ClassId} (a_h a_h_now a_h_kept a_h_letters a_h_numbers a_h_refusals a_h_mind a_h_parts a_h_past a_h_seating a_h_now_kinds a_h_now_sweets a_h_now_settings a_h_now_heaps : Nat) (y_h_isKept : Int32) (y_h_numberCount : Int32) {z_h_now : RS} {z_h_refusals : (Nat → Int32)} {x1 : Int32} {x2 : Int32} {q : Int32 × (Nat → Int32)} (hf : f_X_child z_h_now z_h_refusals x1 x2 = some q) : xI l y_X_child b_X_child 3 .int 3 66 D (tyK cI cJ cC) xE0 [.ref a_h, .int x1, .int x2] (w_X_child cI cJ cC a_h a_h_now a_h_kept a_h_letters a_h_numbers a_h_refusals a_h_mind a_h_parts a_h_past a_h_seating a_h_now_kinds a_h_now_sweets a_h_now_settings a_h_now_heaps y_h_isKept y_h_numberCount (r_children z_h_now) (r_strokes z_h_now) (r_gave z_h_now) (r_threw z_h_now) (r_kinds z_h_now) (r_sweets z_h_now) (r_settings z_h_now) z_h_refusals) q.1 (w_X_child cI cJ cC a_h a_h_now a_h_kept a_h_letters a_h_numbers a_h_refusals a_h_mind a_h_parts a_h_past a_h_seating a_h_now_kinds a_h_now_sweets a_h_now_settings a_h_now_heaps y_h_isKept y_h_numberCount (r_children z_h_now) (r_strokes z_h_now) (r_gave z_h_now) (r_threw z_h_now) (r_kinds z_h_now) (r_sweets z_h_now) (r_settings z_h_now) q.2) := by
  refine xI_of (by decide) (Nat.le_of_ble_eq_true rfl) ?_
  intro p e s m args below meth c A Q hx hb hml hown hT hA hP hD hK hS hE hret ls hl
  have hown : s.vm.findClass R_X = some m.cls := hown
  have hl : lv_has ls 3 [(0, .ref a_h), (1, .int x1), (2, .int x2)] := hl
  unfold f_X_child at hf
  refine lv_aload_n hx hb d_X_child_0 rfl (lv_at hl 0 rfl) ?_
  refine va_get hx hb hT i_X hown hK hP 0 rfl rfl 0 (Nat.le_of_ble_eq_true rfl) (hT _ k_156) (fun _ h => h) rfl d_X_child_1 ?_
  refine lv_iload_n hx hb d_X_child_4 rfl (lv_at hl 1 rfl) ?_
  obtain ⟨q1, hq1, hf⟩ := io_b hf
  refine xcVI (wc := (w_Ring_has cI cJ cC a_h_now a_h_now_kinds a_h_now_sweets a_h_now_settings a_h_now_heaps (r_children z_h_now) (r_strokes z_h_now) (r_gave z_h_now) (r_threw z_h_now))) (wc' := (w_Ring_has cI cJ cC a_h_now a_h_now_kinds a_h_now_sweets a_h_now_settings a_h_now_heaps (r_children z_h_now) (r_strokes z_h_now) (r_gave z_h_now) (r_threw z_h_now))) (ws' := (w_X_child cI cJ cC a_h a_h_now a_h_kept a_h_letters a_h_numbers a_h_refusals a_h_mind a_h_parts a_h_past a_h_seating a_h_now_kinds a_h_now_sweets a_h_now_settings a_h_now_heaps y_h_isKept y_h_numberCount (r_children z_h_now) (r_strokes z_h_now) (r_gave z_h_now) (r_threw z_h_now) (r_kinds z_h_now) (r_sweets z_h_now) (r_settings z_h_now) z_h_refusals)) (As := [.int x1]) (rest := []) hx hb hml hown hT (c_Ring_has (z_h := z_h_now) a_h_now a_h_now_kinds a_h_now_sweets a_h_now_settings a_h_now_heaps hq1) k_194 k_195 k_196 k_2 k_197 hd_Ring_has ⟨Nat.le_of_ble_eq_true rfl, Nat.le_of_ble_eq_true rfl⟩ xE0_ok trivial hA hK hP hD hS [1] [0, 2, 3, 4, 5] [0, 5, 1, 2, 3, 4] rfl rfl rfl rfl rfl rfl rfl rfl rfl rfl hl.1 rfl (Nat.le_of_ble_eq_true rfl) ⟨Nat.zero_le _, Nat.zero_le _⟩ d_X_child_5 (fun H locs hP hD hS => ?_)
  refine lv_if_ne (tgt := 17) hx hb d_X_child_8 (by decide) (fun c2 => ?_) (fun c2 => ?_)
  · have hf := io_f hf c2
    refine lv_iload_n hx hb d_X_child_17 rfl (lv_at hl 2 rfl) ?_
    rcases Decidable.em (x2 = 0) with c3 | c3
    · have hf := io_t hf c3
      refine lv_tableIn (off := 30) (tgt := 48) hx hb d_X_child_18 (by rw [c3]; decide +kernel) (by rw [c3]; decide +kernel) (by rw [c3]; rfl) (by decide) ?_
      refine lv_aload_n hx hb d_X_child_48 rfl (lv_at hl 0 rfl) ?_
      refine va_get hx hb hT i_X hown hK hP 0 rfl rfl 0 (Nat.le_of_ble_eq_true rfl) (hT _ k_156) (fun _ h => h) rfl d_X_child_49 ?_
      refine va_get hx hb hT i_Ring hown hK hP 1 rfl rfl 0 (Nat.le_of_ble_eq_true rfl) (hT _ k_30) (fun _ h => h) rfl d_X_child_52 ?_
      refine lv_iload_n hx hb d_X_child_55 rfl (lv_at hl 1 rfl) ?_
      obtain ⟨c4, hf⟩ := io_n hf
      refine x_iald hx hb hK hP 2 0 rfl rfl (j := x1.toNatClampNeg) rfl c4 d_X_child_56 ?_
      have hq := Option.some.inj hf
      subst hq
      exact hret _ _ _ _ _ d_X_child_57 rfl rfl hP hD hS
    · have hf := io_f hf c3
      rcases Decidable.em (x2 = 1) with c5 | c5
      · have hf := io_t hf c5
        refine lv_tableIn (off := 40) (tgt := 58) hx hb d_X_child_18 (by rw [c5]; decide +kernel) (by rw [c5]; decide +kernel) (by rw [c5]; rfl) (by decide) ?_
        refine lv_aload_n hx hb d_X_child_58 rfl (lv_at hl 0 rfl) ?_
        refine va_get hx hb hT i_X hown hK hP 0 rfl rfl 0 (Nat.le_of_ble_eq_true rfl) (hT _ k_156) (fun _ h => h) rfl d_X_child_59 ?_
        refine va_get hx hb hT i_Ring hown hK hP 1 rfl rfl 1 (Nat.le_of_ble_eq_true rfl) (hT _ k_34) (fun _ h => h) rfl d_X_child_62 ?_
        refine lv_iload_n hx hb d_X_child_65 rfl (lv_at hl 1 rfl) ?_
        obtain ⟨c6, hf⟩ := io_n hf
        refine x_iald hx hb hK hP 3 0 rfl rfl (j := x1.toNatClampNeg) rfl c6 d_X_child_66 ?_
        have hq := Option.some.inj hf
        subst hq
        exact hret _ _ _ _ _ d_X_child_67 rfl rfl hP hD hS
      · have hf := io_f hf c5
        rcases Decidable.em (x2 = 2) with c7 | c7
        · have hf := io_t hf c7
          refine lv_tableIn (off := 50) (tgt := 68) hx hb d_X_child_18 (by rw [c7]; decide +kernel) (by rw [c7]; decide +kernel) (by rw [c7]; rfl) (by decide) ?_
          refine lv_aload_n hx hb d_X_child_68 rfl (lv_at hl 0 rfl) ?_
          refine va_get hx hb hT i_X hown hK hP 0 rfl rfl 0 (Nat.le_of_ble_eq_true rfl) (hT _ k_156) (fun _ h => h) rfl d_X_child_69 ?_
          refine lv_iload_n hx hb d_X_child_72 rfl (lv_at hl 1 rfl) ?_
          obtain ⟨q8, hq8, hf⟩ := io_b hf
          refine xcVI (wc := (w_Ring_gift cI cJ cC a_h_now a_h_now_kinds a_h_now_sweets a_h_now_settings a_h_now_heaps (r_children z_h_now) (r_strokes z_h_now) (r_gave z_h_now) (r_threw z_h_now) (r_kinds z_h_now) (r_sweets z_h_now) (r_settings z_h_now))) (wc' := (w_Ring_gift cI cJ cC a_h_now a_h_now_kinds a_h_now_sweets a_h_now_settings a_h_now_heaps (r_children z_h_now) (r_strokes z_h_now) (r_gave z_h_now) (r_threw z_h_now) (r_kinds z_h_now) (r_sweets z_h_now) (r_settings z_h_now))) (ws' := (w_X_child cI cJ cC a_h a_h_now a_h_kept a_h_letters a_h_numbers a_h_refusals a_h_mind a_h_parts a_h_past a_h_seating a_h_now_kinds a_h_now_sweets a_h_now_settings a_h_now_heaps y_h_isKept y_h_numberCount (r_children z_h_now) (r_strokes z_h_now) (r_gave z_h_now) (r_threw z_h_now) (r_kinds z_h_now) (r_sweets z_h_now) (r_settings z_h_now) z_h_refusals)) (As := [.int x1]) (rest := []) hx hb hml hown hT (c_Ring_gift (z_h := z_h_now) a_h_now a_h_now_kinds a_h_now_sweets a_h_now_settings a_h_now_heaps hq8) k_202 k_203 k_204 k_2 k_205 hd_Ring_gift ⟨Nat.le_of_ble_eq_true rfl, Nat.le_of_ble_eq_true rfl⟩ xE0_ok trivial hA hK hP hD hS [1, 2, 3, 4] [0, 5] [0, 2, 3, 4, 5, 1] rfl rfl rfl rfl rfl rfl rfl rfl rfl rfl hl.1 rfl (Nat.le_of_ble_eq_true rfl) ⟨Nat.zero_le _, Nat.zero_le _⟩ d_X_child_73 (fun H locs hP hD hS => ?_)
          have hq := Option.some.inj hf
          subst hq
          exact hret _ _ _ _ _ d_X_child_76 rfl rfl hP hD hS
        · have hf := io_f hf c7
          rcases Decidable.em (x2 = 3) with c9 | c9
          · have hf := io_t hf c9
            refine lv_tableIn (off := 59) (tgt := 77) hx hb d_X_child_18 (by rw [c9]; decide +kernel) (by rw [c9]; decide +kernel) (by rw [c9]; rfl) (by decide) ?_
            refine lv_aload_n hx hb d_X_child_77 rfl (lv_at hl 0 rfl) ?_
            refine va_get hx hb hT i_X hown hK hP 0 rfl rfl 0 (Nat.le_of_ble_eq_true rfl) (hT _ k_156) (fun _ h => h) rfl d_X_child_78 ?_
            refine lv_iload_n hx hb d_X_child_81 rfl (lv_at hl 1 rfl) ?_
            obtain ⟨q10, hq10, hf⟩ := io_b hf
            refine xcVI (wc := (w_Ring_sides cI cJ cC a_h_now a_h_now_kinds a_h_now_sweets a_h_now_settings a_h_now_heaps (r_children z_h_now) (r_strokes z_h_now) (r_gave z_h_now) (r_threw z_h_now) (r_kinds z_h_now) (r_sweets z_h_now) (r_settings z_h_now))) (wc' := (w_Ring_sides cI cJ cC a_h_now a_h_now_kinds a_h_now_sweets a_h_now_settings a_h_now_heaps (r_children z_h_now) (r_strokes z_h_now) (r_gave z_h_now) (r_threw z_h_now) (r_kinds z_h_now) (r_sweets z_h_now) (r_settings z_h_now))) (ws' := (w_X_child cI cJ cC a_h a_h_now a_h_kept a_h_letters a_h_numbers a_h_refusals a_h_mind a_h_parts a_h_past a_h_seating a_h_now_kinds a_h_now_sweets a_h_now_settings a_h_now_heaps y_h_isKept y_h_numberCount (r_children z_h_now) (r_strokes z_h_now) (r_gave z_h_now) (r_threw z_h_now) (r_kinds z_h_now) (r_sweets z_h_now) (r_settings z_h_now) z_h_refusals)) (As := [.int x1]) (rest := []) hx hb hml hown hT (c_Ring_sides (z_h := z_h_now) a_h_now a_h_now_kinds a_h_now_sweets a_h_now_settings a_h_now_heaps hq10) k_210 k_211 k_212 k_2 k_213 hd_Ring_sides ⟨Nat.le_of_ble_eq_true rfl, Nat.le_of_ble_eq_true rfl⟩ xE0_ok trivial hA hK hP hD hS [1, 2, 3, 4] [0, 5] [0, 2, 3, 4, 5, 1] rfl rfl rfl rfl rfl rfl rfl rfl rfl rfl hl.1 rfl (Nat.le_of_ble_eq_true rfl) ⟨Nat.zero_le _, Nat.zero_le _⟩ d_X_child_82 (fun H locs hP hD hS => ?_)
            have hq := Option.some.inj hf
            subst hq
            exact hret _ _ _ _ _ d_X_child_85 rfl rfl hP hD hS
          · have hf := io_f hf c9
            refine lv_tableOut (tgt := 86) hx hb d_X_child_18 (by have e0 := lv_neT (a := 0) c3 (by decide +kernel); have e1 := lv_neT (a := 1) c5 (by decide +kernel); have e2 := lv_neT (a := 2) c7 (by decide +kernel); have e3 := lv_neT (a := 3) c9 (by decide +kernel); omega) (by decide) ?_
            refine lv_aload_n hx hb d_X_child_86 rfl (lv_at hl 0 rfl) ?_
            refine lv_bipush (v := (-2)) hx hb d_X_child_87 (by decide) ?_
            obtain ⟨q11, hq11, hf⟩ := io_b hf
            refine xcVI (wc := (w_X_refuse cI cJ cC a_h a_h_now a_h_kept a_h_letters a_h_numbers a_h_refusals a_h_mind a_h_parts a_h_past a_h_seating y_h_isKept y_h_numberCount z_h_refusals)) (wc' := (w_X_refuse cI cJ cC a_h a_h_now a_h_kept a_h_letters a_h_numbers a_h_refusals a_h_mind a_h_parts a_h_past a_h_seating y_h_isKept y_h_numberCount q11.2)) (ws' := (w_X_child cI cJ cC a_h a_h_now a_h_kept a_h_letters a_h_numbers a_h_refusals a_h_mind a_h_parts a_h_past a_h_seating a_h_now_kinds a_h_now_sweets a_h_now_settings a_h_now_heaps y_h_isKept y_h_numberCount (r_children z_h_now) (r_strokes z_h_now) (r_gave z_h_now) (r_threw z_h_now) (r_kinds z_h_now) (r_sweets z_h_now) (r_settings z_h_now) q11.2)) (As := [.int (-2)]) (rest := []) hx hb hml hown hT (c_X_refuse (z_h_refusals := z_h_refusals) a_h a_h_now a_h_kept a_h_letters a_h_numbers a_h_refusals a_h_mind a_h_parts a_h_past a_h_seating y_h_isKept y_h_numberCount hq11) k_198 k_200 ks_0 k_1 k_201 hd_X_refuse ⟨Nat.le_of_ble_eq_true rfl, Nat.le_of_ble_eq_true rfl⟩ xE0_ok trivial hA hK hP hD hS [0, 5] [1, 2, 3, 4] [4, 0, 1, 2, 3, 5] rfl rfl rfl rfl rfl rfl rfl rfl rfl rfl hl.1 rfl (Nat.le_of_ble_eq_true rfl) ⟨Nat.zero_le _, Nat.zero_le _⟩ d_X_child_89 (fun H locs hP hD hS => ?_)
            have hq := Option.some.inj hf
            subst hq
            exact hret _ _ _ _ _ d_X_child_92 rfl rfl hP hD hS
  · have hf := io_t hf c2
    refine lv_aload_n hx hb d_X_child_11 rfl (lv_at hl 0 rfl) ?_
    refine lv_iconst (v := (-1)) hx hb d_X_child_12 (by decide) ?_
    obtain ⟨q12, hq12, hf⟩ := io_b hf
    refine xcVI (wc := (w_X_refuse cI cJ cC a_h a_h_now a_h_kept a_h_letters a_h_numbers a_h_refusals a_h_mind a_h_parts a_h_past a_h_seating y_h_isKept y_h_numberCount z_h_refusals)) (wc' := (w_X_refuse cI cJ cC a_h a_h_now a_h_kept a_h_letters a_h_numbers a_h_refusals a_h_mind a_h_parts a_h_past a_h_seating y_h_isKept y_h_numberCount q12.2)) (ws' := (w_X_child cI cJ cC a_h a_h_now a_h_kept a_h_letters a_h_numbers a_h_refusals a_h_mind a_h_parts a_h_past a_h_seating a_h_now_kinds a_h_now_sweets a_h_now_settings a_h_now_heaps y_h_isKept y_h_numberCount (r_children z_h_now) (r_strokes z_h_now) (r_gave z_h_now) (r_threw z_h_now) (r_kinds z_h_now) (r_sweets z_h_now) (r_settings z_h_now) q12.2)) (As := [.int (-1)]) (rest := []) hx hb hml hown hT (c_X_refuse (z_h_refusals := z_h_refusals) a_h a_h_now a_h_kept a_h_letters a_h_numbers a_h_refusals a_h_mind a_h_parts a_h_past a_h_seating y_h_isKept y_h_numberCount hq12) k_198 k_200 ks_0 k_1 k_201 hd_X_refuse ⟨Nat.le_of_ble_eq_true rfl, Nat.le_of_ble_eq_true rfl⟩ xE0_ok trivial hA hK hP hD hS [0, 5] [1, 2, 3, 4] [4, 0, 1, 2, 3, 5] rfl rfl rfl rfl rfl rfl rfl rfl rfl rfl hl.1 rfl (Nat.le_of_ble_eq_true rfl) ⟨Nat.zero_le _, Nat.zero_le _⟩ d_X_child_13 (fun H locs hP hD hS => ?_)
    have hq := Option.some.inj hf
    subst hq
    exact hret _ _ _ _ _ d_X_child_16 rfl rfl hP hD hS
abbrev w_X_set (cI cJ cC : ClassId) (a_h a_h_now a_h_kept a_h_letters a_h_numbers a_h_refusals a_h_mind a_h_parts a_h_past a_h_seating a_h_now_kinds a_h_now_sweets a_h_now_settings a_h_now_heaps : Nat) (y_h_isKept : Int32) (y_h_numberCount : Int32) (p_h_now_children : Int32) (p_h_now_strokes : Int32) (p_h_now_gave : Int32) (p_h_now_threw : Int32) (p_h_now_kinds : (Nat → Int32)) (p_h_now_sweets : (Nat → Int32)) (p_h_now_settings : (Nat → Int32)) (p_h_now_heaps : (Nat → Int32)) (p_h_refusals : (Nat → Int32)) : va_W := [(a_h, .inr (0, [.ref a_h_now, .ref a_h_kept, .int y_h_isKept, .ref a_h_letters, .ref a_h_numbers, .int y_h_numberCount, .ref a_h_refusals, .ref a_h_mind, .ref a_h_parts, .ref a_h_past, .ref a_h_seating])), (a_h_now, .inr (1, [.ref a_h_now_kinds, .ref a_h_now_sweets, .ref a_h_now_settings, .int p_h_now_children, .int p_h_now_strokes, .int p_h_now_gave, .int p_h_now_threw, .ref a_h_now_heaps])), (a_h_now_kinds, .inl (cI, (8, .inl p_h_now_kinds))), (a_h_now_sweets, .inl (cI, (8, .inl p_h_now_sweets))), (a_h_now_settings, .inl (cI, (3, .inl p_h_now_settings))), (a_h_now_heaps, .inl (cI, (8, .inl p_h_now_heaps))), (a_h_refusals, .inl (cI, (7, .inl p_h_refusals)))]
theorem d_X_set_0 : decode b_X_set 0 = .ok (.iload_n 1, 1) := by decide +kernel
theorem d_X_set_1 : decode b_X_set 1 = .ok (.ifCond .lt 8, 3) := by decide +kernel
theorem d_X_set_4 : decode b_X_set 4 = .ok (.iload_n 1, 1) := by decide +kernel
theorem d_X_set_5 : decode b_X_set 5 = .ok (.iconst 2, 1) := by decide +kernel
theorem d_X_set_6 : decode b_X_set 6 = .ok (.if_icmp .le 10, 3) := by decide +kernel
theorem d_X_set_9 : decode b_X_set 9 = .ok (.aload_n 0, 1) := by decide +kernel
theorem d_X_set_10 : decode b_X_set 10 = .ok (.bipush (-2), 2) := by decide +kernel
theorem d_X_set_12 : decode b_X_set 12 = .ok (.invokevirtual 69, 3) := by decide +kernel
theorem d_X_set_15 : decode b_X_set 15 = .ok (.ireturn, 1) := by decide +kernel
theorem d_X_set_16 : decode b_X_set 16 = .ok (.iload_n 2, 1) := by decide +kernel
theorem d_X_set_17 : decode b_X_set 17 = .ok (.getstatic 104, 3) := by decide +kernel
theorem d_X_set_20 : decode b_X_set 20 = .ok (.iload_n 1, 1) := by decide +kernel
theorem d_X_set_21 : decode b_X_set 21 = .ok (.iaload, 1) := by decide +kernel
theorem d_X_set_22 : decode b_X_set 22 = .ok (.getstatic 107, 3) := by decide +kernel
theorem d_X_set_25 : decode b_X_set 25 = .ok (.iload_n 1, 1) := by decide +kernel
theorem d_X_set_26 : decode b_X_set 26 = .ok (.iaload, 1) := by decide +kernel
theorem d_X_set_27 : decode b_X_set 27 = .ok (.invokestatic 100, 3) := by decide +kernel
theorem d_X_set_30 : decode b_X_set 30 = .ok (.istore_n 3, 1) := by decide +kernel
theorem d_X_set_31 : decode b_X_set 31 = .ok (.iload_n 3, 1) := by decide +kernel
theorem d_X_set_32 : decode b_X_set 32 = .ok (.ifCond .eq 9, 3) := by decide +kernel
theorem d_X_set_35 : decode b_X_set 35 = .ok (.aload_n 0, 1) := by decide +kernel
theorem d_X_set_36 : decode b_X_set 36 = .ok (.iload_n 3, 1) := by decide +kernel
theorem d_X_set_37 : decode b_X_set 37 = .ok (.invokevirtual 69, 3) := by decide +kernel
theorem d_X_set_40 : decode b_X_set 40 = .ok (.ireturn, 1) := by decide +kernel
theorem d_X_set_41 : decode b_X_set 41 = .ok (.aload_n 0, 1) := by decide +kernel
theorem d_X_set_42 : decode b_X_set 42 = .ok (.getfield 10, 3) := by decide +kernel
theorem d_X_set_45 : decode b_X_set 45 = .ok (.getfield 110, 3) := by decide +kernel
theorem d_X_set_48 : decode b_X_set 48 = .ok (.iload_n 1, 1) := by decide +kernel
theorem d_X_set_49 : decode b_X_set 49 = .ok (.iaload, 1) := by decide +kernel
theorem d_X_set_50 : decode b_X_set 50 = .ok (.istore 4, 2) := by decide +kernel
theorem d_X_set_52 : decode b_X_set 52 = .ok (.aload_n 0, 1) := by decide +kernel
theorem d_X_set_53 : decode b_X_set 53 = .ok (.getfield 10, 3) := by decide +kernel
theorem d_X_set_56 : decode b_X_set 56 = .ok (.getfield 110, 3) := by decide +kernel
theorem d_X_set_59 : decode b_X_set 59 = .ok (.iload_n 1, 1) := by decide +kernel
theorem d_X_set_60 : decode b_X_set 60 = .ok (.iload_n 2, 1) := by decide +kernel
theorem d_X_set_61 : decode b_X_set 61 = .ok (.iastore, 1) := by decide +kernel
theorem d_X_set_62 : decode b_X_set 62 = .ok (.iload 4, 2) := by decide +kernel
theorem d_X_set_64 : decode b_X_set 64 = .ok (.ireturn, 1) := by decide +kernel
set_option maxHeartbeats 4000000 in
set_option maxRecDepth 100000 in
theorem c_X_set {l : Launch} {D : va_G} {cI cJ cC : ClassId} {t_LEAST_SETTING t_GREATEST_SETTING t_str t_val : Nat} (a_h a_h_now a_h_kept a_h_letters a_h_numbers a_h_refusals a_h_mind a_h_parts a_h_past a_h_seating a_h_now_kinds a_h_now_sweets a_h_now_settings a_h_now_heaps : Nat) (y_h_isKept : Int32) (y_h_numberCount : Int32) {z_h_now : RS} {z_h_refusals : (Nat → Int32)} {x1 : Int32} {x2 : Int32} {q : Int32 × RS × (Nat → Int32)} (hf : f_X_set z_h_now z_h_refusals x1 x2 = some q) : xI l y_X_set b_X_set 5 .int 1 22 D (tyK cI cJ cC) (xEv t_LEAST_SETTING t_GREATEST_SETTING t_str t_val) [.ref a_h, .int x1, .int x2] (w_X_set cI cJ cC a_h a_h_now a_h_kept a_h_letters a_h_numbers a_h_refusals a_h_mind a_h_parts a_h_past a_h_seating a_h_now_kinds a_h_now_sweets a_h_now_settings a_h_now_heaps y_h_isKept y_h_numberCount (r_children z_h_now) (r_strokes z_h_now) (r_gave z_h_now) (r_threw z_h_now) (r_kinds z_h_now) (r_sweets z_h_now) (r_settings z_h_now) (r_heaps z_h_now) z_h_refusals) q.1 (w_X_set cI cJ cC a_h a_h_now a_h_kept a_h_letters a_h_numbers a_h_refusals a_h_mind a_h_parts a_h_past a_h_seating a_h_now_kinds a_h_now_sweets a_h_now_settings a_h_now_heaps y_h_isKept y_h_numberCount (r_children q.2.1) (r_strokes q.2.1) (r_gave q.2.1) (r_threw q.2.1) (r_kinds q.2.1) (r_sweets q.2.1) (r_settings q.2.1) (r_heaps q.2.1) q.2.2) := by
  refine xI_of (by decide) (Nat.le_of_ble_eq_true rfl) ?_
  intro p e s m args below meth c A Q hx hb hml hown hT hA hP hD hK hS hE hret ls hl
  have hown : s.vm.findClass R_X = some m.cls := hown
  have hl : lv_has ls 5 [(0, .ref a_h), (1, .int x1), (2, .int x2)] := hl
  unfold f_X_set at hf
  obtain ⟨hZ_LEAST_SETTING, hT_LEAST_SETTING, hZ_GREATEST_SETTING, hT_GREATEST_SETTING, hZ_CS, hO_str, hC_str, hV_str, hT_str, hR_str, hN_X_outside, hNF_LEAST_SETTING, hNF_GREATEST_SETTING⟩ := id hE
  refine lv_iload_n hx hb d_X_set_0 rfl (lv_at hl 1 rfl) ?_
  refine lv_if_lt (tgt := 9) hx hb d_X_set_1 (by decide) (fun c1 => ?_) (fun c1 => ?_)
  · have hf := io_t hf c1
    refine lv_aload_n hx hb d_X_set_9 rfl (lv_at hl 0 rfl) ?_
    refine lv_bipush (v := (-2)) hx hb d_X_set_10 (by decide) ?_
    obtain ⟨q2, hq2, hf⟩ := io_b hf
    refine xcVI (wc := (w_X_refuse cI cJ cC a_h a_h_now a_h_kept a_h_letters a_h_numbers a_h_refusals a_h_mind a_h_parts a_h_past a_h_seating y_h_isKept y_h_numberCount z_h_refusals)) (wc' := (w_X_refuse cI cJ cC a_h a_h_now a_h_kept a_h_letters a_h_numbers a_h_refusals a_h_mind a_h_parts a_h_past a_h_seating y_h_isKept y_h_numberCount q2.2)) (ws' := (w_X_set cI cJ cC a_h a_h_now a_h_kept a_h_letters a_h_numbers a_h_refusals a_h_mind a_h_parts a_h_past a_h_seating a_h_now_kinds a_h_now_sweets a_h_now_settings a_h_now_heaps y_h_isKept y_h_numberCount (r_children z_h_now) (r_strokes z_h_now) (r_gave z_h_now) (r_threw z_h_now) (r_kinds z_h_now) (r_sweets z_h_now) (r_settings z_h_now) (r_heaps z_h_now) q2.2)) (As := [.int (-2)]) (rest := []) hx hb hml hown hT (c_X_refuse (z_h_refusals := z_h_refusals) a_h a_h_now a_h_kept a_h_letters a_h_numbers a_h_refusals a_h_mind a_h_parts a_h_past a_h_seating y_h_isKept y_h_numberCount hq2) k_198 k_200 ks_0 k_1 k_201 hd_X_refuse ⟨Nat.le_of_ble_eq_true rfl, Nat.le_of_ble_eq_true rfl⟩ xE0_ok trivial hA hK hP hD hS [0, 6] [1, 2, 3, 4, 5] [5, 0, 1, 2, 3, 4, 6] rfl rfl rfl rfl rfl rfl rfl rfl rfl rfl hl.1 rfl (Nat.le_of_ble_eq_true rfl) ⟨Nat.zero_le _, Nat.zero_le _⟩ d_X_set_12 (fun H locs hP hD hS => ?_)
    have hq := Option.some.inj hf
    subst hq
    exact hret _ _ _ _ _ d_X_set_15 rfl rfl hP hD hS
  · have hf := io_f hf c1
    refine lv_iload_n hx hb d_X_set_4 rfl (lv_at hl 1 rfl) ?_
    refine lv_iconst (v := 2) hx hb d_X_set_5 (by decide) ?_
    refine lv_icmp_le (tgt := 16) hx hb d_X_set_6 (by decide) (fun c3 => ?_) (fun c3 => ?_)
    · have hf := io_t hf c3
      refine lv_iload_n hx hb d_X_set_16 rfl (lv_at hl 2 rfl) ?_
      refine va_gets hx hb hZ_LEAST_SETTING hS hown (hT _ k_550) (fun _ h => h) d_X_set_17 ?_
      refine lv_iload_n hx hb d_X_set_20 rfl (lv_at hl 1 rfl) ?_
      obtain ⟨c4, hf⟩ := io_n hf
      refine va_ti (v := .int (s_LEAST_SETTING x1.toNatClampNeg)) hx hb hT_LEAST_SETTING hS c4 rfl d_X_set_21 ?_
      refine va_gets hx hb hZ_GREATEST_SETTING hS hown (hT _ k_551) (fun _ h => h) d_X_set_22 ?_
      refine lv_iload_n hx hb d_X_set_25 rfl (lv_at hl 1 rfl) ?_
      refine va_ti (v := .int (s_GREATEST_SETTING x1.toNatClampNeg)) hx hb hT_GREATEST_SETTING hS c4 rfl d_X_set_26 ?_
      obtain ⟨q5, hq5, hf⟩ := io_b hf
      refine xcSI (wc := []) (wc' := []) (ws' := (w_X_set cI cJ cC a_h a_h_now a_h_kept a_h_letters a_h_numbers a_h_refusals a_h_mind a_h_parts a_h_past a_h_seating a_h_now_kinds a_h_now_sweets a_h_now_settings a_h_now_heaps y_h_isKept y_h_numberCount (r_children z_h_now) (r_strokes z_h_now) (r_gave z_h_now) (r_threw z_h_now) (r_kinds z_h_now) (r_sweets z_h_now) (r_settings z_h_now) (r_heaps z_h_now) z_h_refusals)) (As := [.int x2, .int (s_LEAST_SETTING x1.toNatClampNeg), .int (s_GREATEST_SETTING x1.toNatClampNeg)]) (rest := []) hx hb hml hown hT (c_X_outside hq5) k_245 k_246 k_1 k_247 hd_X_outside ⟨Nat.le_of_ble_eq_true rfl, Nat.le_of_ble_eq_true rfl⟩ xE0_ok trivial hA hK hP hD hS [] [0, 1, 2, 3, 4, 5, 6] [0, 1, 2, 3, 4, 5, 6] rfl rfl rfl rfl rfl rfl rfl hl.1 rfl (Nat.le_of_ble_eq_true rfl) ⟨Nat.zero_le _, Nat.zero_le _⟩ d_X_set_27 (fun H locs hP hD hS => ?_)
      refine lv_istore_n (lv' := [(3, .int q5), (0, .ref a_h), (1, .int x1), (2, .int x2)]) hx hb d_X_set_30 rfl hl (by decide) rfl (fun ls hl => ?_)
      refine lv_iload_n hx hb d_X_set_31 rfl (lv_at hl 0 rfl) ?_
      refine lv_if_eq (tgt := 41) hx hb d_X_set_32 (by decide) (fun c6 => ?_) (fun c6 => ?_)
      · have hf := io_t hf c6
        refine lv_aload_n hx hb d_X_set_41 rfl (lv_at hl 1 rfl) ?_
        refine va_get hx hb hT i_X hown hK hP 0 rfl rfl 0 (Nat.le_of_ble_eq_true rfl) (hT _ k_156) (fun _ h => h) rfl d_X_set_42 ?_
        refine va_get hx hb hT i_Ring hown hK hP 1 rfl rfl 2 (Nat.le_of_ble_eq_true rfl) (hT _ k_36) (fun _ h => h) rfl d_X_set_45 ?_
        refine lv_iload_n hx hb d_X_set_48 rfl (lv_at hl 2 rfl) ?_
        refine x_iald hx hb hK hP 4 0 rfl rfl (j := x1.toNatClampNeg) rfl c4 d_X_set_49 ?_
        refine lv_istore (lv' := [(4, .int ((r_settings z_h_now) x1.toNatClampNeg)), (3, .int q5), (0, .ref a_h), (1, .int x1), (2, .int x2)]) hx hb d_X_set_50 hl (by decide) rfl (fun ls hl => ?_)
        refine lv_aload_n hx hb d_X_set_52 rfl (lv_at hl 2 rfl) ?_
        refine va_get hx hb hT i_X hown hK hP 0 rfl rfl 0 (Nat.le_of_ble_eq_true rfl) (hT _ k_156) (fun _ h => h) rfl d_X_set_53 ?_
        refine va_get hx hb hT i_Ring hown hK hP 1 rfl rfl 2 (Nat.le_of_ble_eq_true rfl) (hT _ k_36) (fun _ h => h) rfl d_X_set_56 ?_
        refine lv_iload_n hx hb d_X_set_59 rfl (lv_at hl 3 rfl) ?_
        refine lv_iload_n hx hb d_X_set_60 rfl (lv_at hl 4 rfl) ?_
        refine x_iast hx hb hK hP hD hS 4 0 rfl rfl (j := x1.toNatClampNeg) rfl c4 d_X_set_61 (fun H locs hP hD hS => ?_)
        have hP : va_P D classes (w_X_set cI cJ cC a_h a_h_now a_h_kept a_h_letters a_h_numbers a_h_refusals a_h_mind a_h_parts a_h_past a_h_seating a_h_now_kinds a_h_now_sweets a_h_now_settings a_h_now_heaps y_h_isKept y_h_numberCount (r_children z_h_now) (r_strokes z_h_now) (r_gave z_h_now) (r_threw z_h_now) (r_kinds z_h_now) (r_sweets z_h_now) (upd (r_settings z_h_now) x1.toNatClampNeg x2) (r_heaps z_h_now) z_h_refusals) H := hP
        have hD : va_D A (w_X_set cI cJ cC a_h a_h_now a_h_kept a_h_letters a_h_numbers a_h_refusals a_h_mind a_h_parts a_h_past a_h_seating a_h_now_kinds a_h_now_sweets a_h_now_settings a_h_now_heaps y_h_isKept y_h_numberCount (r_children z_h_now) (r_strokes z_h_now) (r_gave z_h_now) (r_threw z_h_now) (r_kinds z_h_now) (r_sweets z_h_now) (upd (r_settings z_h_now) x1.toNatClampNeg x2) (r_heaps z_h_now) z_h_refusals) := hD
        refine lv_iload hx hb d_X_set_62 (lv_at hl 0 rfl) ?_
        have hq := Option.some.inj hf
        subst hq
        exact hret _ _ _ _ _ d_X_set_64 rfl rfl hP hD hS
      · have hf := io_f hf c6
        refine lv_aload_n hx hb d_X_set_35 rfl (lv_at hl 1 rfl) ?_
        refine lv_iload_n hx hb d_X_set_36 rfl (lv_at hl 0 rfl) ?_
        obtain ⟨q7, hq7, hf⟩ := io_b hf
        refine xcVI (wc := (w_X_refuse cI cJ cC a_h a_h_now a_h_kept a_h_letters a_h_numbers a_h_refusals a_h_mind a_h_parts a_h_past a_h_seating y_h_isKept y_h_numberCount z_h_refusals)) (wc' := (w_X_refuse cI cJ cC a_h a_h_now a_h_kept a_h_letters a_h_numbers a_h_refusals a_h_mind a_h_parts a_h_past a_h_seating y_h_isKept y_h_numberCount q7.2)) (ws' := (w_X_set cI cJ cC a_h a_h_now a_h_kept a_h_letters a_h_numbers a_h_refusals a_h_mind a_h_parts a_h_past a_h_seating a_h_now_kinds a_h_now_sweets a_h_now_settings a_h_now_heaps y_h_isKept y_h_numberCount (r_children z_h_now) (r_strokes z_h_now) (r_gave z_h_now) (r_threw z_h_now) (r_kinds z_h_now) (r_sweets z_h_now) (r_settings z_h_now) (r_heaps z_h_now) q7.2)) (As := [.int q5]) (rest := []) hx hb hml hown hT (c_X_refuse (z_h_refusals := z_h_refusals) a_h a_h_now a_h_kept a_h_letters a_h_numbers a_h_refusals a_h_mind a_h_parts a_h_past a_h_seating y_h_isKept y_h_numberCount hq7) k_198 k_200 ks_0 k_1 k_201 hd_X_refuse ⟨Nat.le_of_ble_eq_true rfl, Nat.le_of_ble_eq_true rfl⟩ xE0_ok trivial hA hK hP hD hS [0, 6] [1, 2, 3, 4, 5] [5, 0, 1, 2, 3, 4, 6] rfl rfl rfl rfl rfl rfl rfl rfl rfl rfl hl.1 rfl (Nat.le_of_ble_eq_true rfl) ⟨Nat.zero_le _, Nat.zero_le _⟩ d_X_set_37 (fun H locs hP hD hS => ?_)
        have hq := Option.some.inj hf
        subst hq
        exact hret _ _ _ _ _ d_X_set_40 rfl rfl hP hD hS
    · have hf := io_f hf c3
      refine lv_aload_n hx hb d_X_set_9 rfl (lv_at hl 0 rfl) ?_
      refine lv_bipush (v := (-2)) hx hb d_X_set_10 (by decide) ?_
      obtain ⟨q8, hq8, hf⟩ := io_b hf
      refine xcVI (wc := (w_X_refuse cI cJ cC a_h a_h_now a_h_kept a_h_letters a_h_numbers a_h_refusals a_h_mind a_h_parts a_h_past a_h_seating y_h_isKept y_h_numberCount z_h_refusals)) (wc' := (w_X_refuse cI cJ cC a_h a_h_now a_h_kept a_h_letters a_h_numbers a_h_refusals a_h_mind a_h_parts a_h_past a_h_seating y_h_isKept y_h_numberCount q8.2)) (ws' := (w_X_set cI cJ cC a_h a_h_now a_h_kept a_h_letters a_h_numbers a_h_refusals a_h_mind a_h_parts a_h_past a_h_seating a_h_now_kinds a_h_now_sweets a_h_now_settings a_h_now_heaps y_h_isKept y_h_numberCount (r_children z_h_now) (r_strokes z_h_now) (r_gave z_h_now) (r_threw z_h_now) (r_kinds z_h_now) (r_sweets z_h_now) (r_settings z_h_now) (r_heaps z_h_now) q8.2)) (As := [.int (-2)]) (rest := []) hx hb hml hown hT (c_X_refuse (z_h_refusals := z_h_refusals) a_h a_h_now a_h_kept a_h_letters a_h_numbers a_h_refusals a_h_mind a_h_parts a_h_past a_h_seating y_h_isKept y_h_numberCount hq8) k_198 k_200 ks_0 k_1 k_201 hd_X_refuse ⟨Nat.le_of_ble_eq_true rfl, Nat.le_of_ble_eq_true rfl⟩ xE0_ok trivial hA hK hP hD hS [0, 6] [1, 2, 3, 4, 5] [5, 0, 1, 2, 3, 4, 6] rfl rfl rfl rfl rfl rfl rfl rfl rfl rfl hl.1 rfl (Nat.le_of_ble_eq_true rfl) ⟨Nat.zero_le _, Nat.zero_le _⟩ d_X_set_12 (fun H locs hP hD hS => ?_)
      have hq := Option.some.inj hf
      subst hq
      exact hret _ _ _ _ _ d_X_set_15 rfl rfl hP hD hS
abbrev w_X_stroke (cI cJ cC : ClassId) (a_h a_h_now a_h_kept a_h_letters a_h_numbers a_h_refusals a_h_mind a_h_parts a_h_past a_h_seating a_h_now_kinds a_h_now_sweets a_h_now_settings a_h_now_heaps : Nat) (y_h_isKept : Int32) (y_h_numberCount : Int32) (p_h_now_children : Int32) (p_h_now_strokes : Int32) (p_h_now_gave : Int32) (p_h_now_threw : Int32) (p_h_now_kinds : (Nat → Int32)) (p_h_now_sweets : (Nat → Int32)) (p_h_now_settings : (Nat → Int32)) (p_h_now_heaps : (Nat → Int32)) (p_h_refusals : (Nat → Int32)) : va_W := [(a_h, .inr (0, [.ref a_h_now, .ref a_h_kept, .int y_h_isKept, .ref a_h_letters, .ref a_h_numbers, .int y_h_numberCount, .ref a_h_refusals, .ref a_h_mind, .ref a_h_parts, .ref a_h_past, .ref a_h_seating])), (a_h_now, .inr (1, [.ref a_h_now_kinds, .ref a_h_now_sweets, .ref a_h_now_settings, .int p_h_now_children, .int p_h_now_strokes, .int p_h_now_gave, .int p_h_now_threw, .ref a_h_now_heaps])), (a_h_now_kinds, .inl (cI, (8, .inl p_h_now_kinds))), (a_h_now_sweets, .inl (cI, (8, .inl p_h_now_sweets))), (a_h_now_settings, .inl (cI, (3, .inl p_h_now_settings))), (a_h_now_heaps, .inl (cI, (8, .inl p_h_now_heaps))), (a_h_refusals, .inl (cI, (7, .inl p_h_refusals)))]
theorem d_X_stroke_0 : decode b_X_stroke 0 = .ok (.aload_n 0, 1) := by decide +kernel
theorem d_X_stroke_1 : decode b_X_stroke 1 = .ok (.getfield 10, 3) := by decide +kernel
theorem d_X_stroke_4 : decode b_X_stroke 4 = .ok (.getfield 121, 3) := by decide +kernel
theorem d_X_stroke_7 : decode b_X_stroke 7 = .ok (.ifCond .ne 10, 3) := by decide +kernel
theorem d_X_stroke_10 : decode b_X_stroke 10 = .ok (.aload_n 0, 1) := by decide +kernel
theorem d_X_stroke_11 : decode b_X_stroke 11 = .ok (.bipush (-3), 2) := by decide +kernel
theorem d_X_stroke_13 : decode b_X_stroke 13 = .ok (.invokevirtual 69, 3) := by decide +kernel
theorem d_X_stroke_16 : decode b_X_stroke 16 = .ok (.ireturn, 1) := by decide +kernel
theorem d_X_stroke_17 : decode b_X_stroke 17 = .ok (.aload_n 0, 1) := by decide +kernel
theorem d_X_stroke_18 : decode b_X_stroke 18 = .ok (.getfield 10, 3) := by decide +kernel
theorem d_X_stroke_21 : decode b_X_stroke 21 = .ok (.invokevirtual 124, 3) := by decide +kernel
theorem d_X_stroke_24 : decode b_X_stroke 24 = .ok (.ireturn, 1) := by decide +kernel
set_option maxHeartbeats 4000000 in
set_option maxRecDepth 100000 in
theorem c_X_stroke {l : Launch} {D : va_G} {cI cJ cC : ClassId} (a_h a_h_now a_h_kept a_h_letters a_h_numbers a_h_refusals a_h_mind a_h_parts a_h_past a_h_seating a_h_now_kinds a_h_now_sweets a_h_now_settings a_h_now_heaps : Nat) (y_h_isKept : Int32) (y_h_numberCount : Int32) {z_h_now : RS} {z_h_refusals : (Nat → Int32)} {q : Int32 × RS × (Nat → Int32)} (hf : f_X_stroke z_h_now z_h_refusals = some q) : xI l y_X_stroke b_X_stroke 1 .int 4 89 D (tyK cI cJ cC) xE0 [.ref a_h] (w_X_stroke cI cJ cC a_h a_h_now a_h_kept a_h_letters a_h_numbers a_h_refusals a_h_mind a_h_parts a_h_past a_h_seating a_h_now_kinds a_h_now_sweets a_h_now_settings a_h_now_heaps y_h_isKept y_h_numberCount (r_children z_h_now) (r_strokes z_h_now) (r_gave z_h_now) (r_threw z_h_now) (r_kinds z_h_now) (r_sweets z_h_now) (r_settings z_h_now) (r_heaps z_h_now) z_h_refusals) q.1 (w_X_stroke cI cJ cC a_h a_h_now a_h_kept a_h_letters a_h_numbers a_h_refusals a_h_mind a_h_parts a_h_past a_h_seating a_h_now_kinds a_h_now_sweets a_h_now_settings a_h_now_heaps y_h_isKept y_h_numberCount (r_children q.2.1) (r_strokes q.2.1) (r_gave q.2.1) (r_threw q.2.1) (r_kinds q.2.1) (r_sweets q.2.1) (r_settings q.2.1) (r_heaps q.2.1) q.2.2) := by
  refine xI_of (by decide) (Nat.le_of_ble_eq_true rfl) ?_
  intro p e s m args below meth c A Q hx hb hml hown hT hA hP hD hK hS hE hret ls hl
  have hown : s.vm.findClass R_X = some m.cls := hown
  have hl : lv_has ls 1 [(0, .ref a_h)] := hl
  unfold f_X_stroke at hf
  refine lv_aload_n hx hb d_X_stroke_0 rfl (lv_at hl 0 rfl) ?_
  refine va_get hx hb hT i_X hown hK hP 0 rfl rfl 0 (Nat.le_of_ble_eq_true rfl) (hT _ k_156) (fun _ h => h) rfl d_X_stroke_1 ?_
  refine va_get hx hb hT i_Ring hown hK hP 1 rfl rfl 3 (Nat.le_of_ble_eq_true rfl) (hT _ k_40) (fun _ h => h) rfl d_X_stroke_4 ?_
  refine lv_if_ne (tgt := 17) hx hb d_X_stroke_7 (by decide) (fun c1 => ?_) (fun c1 => ?_)
  · have hf := io_f hf c1
    refine lv_aload_n hx hb d_X_stroke_17 rfl (lv_at hl 0 rfl) ?_
    refine va_get hx hb hT i_X hown hK hP 0 rfl rfl 0 (Nat.le_of_ble_eq_true rfl) (hT _ k_156) (fun _ h => h) rfl d_X_stroke_18 ?_
    obtain ⟨q2, hq2, hf⟩ := io_b hf
    refine xcVI (wc := (w_Ring_strike cI cJ cC a_h_now a_h_now_kinds a_h_now_sweets a_h_now_settings a_h_now_heaps (r_children z_h_now) (r_strokes z_h_now) (r_gave z_h_now) (r_threw z_h_now) (r_kinds z_h_now) (r_sweets z_h_now) (r_settings z_h_now) (r_heaps z_h_now))) (wc' := (w_Ring_strike cI cJ cC a_h_now a_h_now_kinds a_h_now_sweets a_h_now_settings a_h_now_heaps (r_children q2.2) (r_strokes q2.2) (r_gave q2.2) (r_threw q2.2) (r_kinds q2.2) (r_sweets q2.2) (r_settings q2.2) (r_heaps q2.2))) (ws' := (w_X_stroke cI cJ cC a_h a_h_now a_h_kept a_h_letters a_h_numbers a_h_refusals a_h_mind a_h_parts a_h_past a_h_seating a_h_now_kinds a_h_now_sweets a_h_now_settings a_h_now_heaps y_h_isKept y_h_numberCount (r_children q2.2) (r_strokes q2.2) (r_gave q2.2) (r_threw q2.2) (r_kinds q2.2) (r_sweets q2.2) (r_settings q2.2) (r_heaps q2.2) z_h_refusals)) (As := []) (rest := []) hx hb hml hown hT (c_Ring_strike (z_h := z_h_now) a_h_now a_h_now_kinds a_h_now_sweets a_h_now_settings a_h_now_heaps hq2) k_219 k_220 k_221 k_2 k_222 hd_Ring_strike ⟨Nat.le_of_ble_eq_true rfl, Nat.le_of_ble_eq_true rfl⟩ xE0_ok trivial hA hK hP hD hS [1, 2, 3, 4, 5] [0, 6] [0, 2, 3, 4, 5, 6, 1] rfl rfl rfl rfl rfl rfl rfl rfl rfl rfl hl.1 rfl (Nat.le_of_ble_eq_true rfl) ⟨Nat.zero_le _, Nat.zero_le _⟩ d_X_stroke_21 (fun H locs hP hD hS => ?_)
    have hq := Option.some.inj hf
    subst hq
    exact hret _ _ _ _ _ d_X_stroke_24 rfl rfl hP hD hS
  · have hf := io_t hf c1
    refine lv_aload_n hx hb d_X_stroke_10 rfl (lv_at hl 0 rfl) ?_
    refine lv_bipush (v := (-3)) hx hb d_X_stroke_11 (by decide) ?_
    obtain ⟨q3, hq3, hf⟩ := io_b hf
    refine xcVI (wc := (w_X_refuse cI cJ cC a_h a_h_now a_h_kept a_h_letters a_h_numbers a_h_refusals a_h_mind a_h_parts a_h_past a_h_seating y_h_isKept y_h_numberCount z_h_refusals)) (wc' := (w_X_refuse cI cJ cC a_h a_h_now a_h_kept a_h_letters a_h_numbers a_h_refusals a_h_mind a_h_parts a_h_past a_h_seating y_h_isKept y_h_numberCount q3.2)) (ws' := (w_X_stroke cI cJ cC a_h a_h_now a_h_kept a_h_letters a_h_numbers a_h_refusals a_h_mind a_h_parts a_h_past a_h_seating a_h_now_kinds a_h_now_sweets a_h_now_settings a_h_now_heaps y_h_isKept y_h_numberCount (r_children z_h_now) (r_strokes z_h_now) (r_gave z_h_now) (r_threw z_h_now) (r_kinds z_h_now) (r_sweets z_h_now) (r_settings z_h_now) (r_heaps z_h_now) q3.2)) (As := [.int (-3)]) (rest := []) hx hb hml hown hT (c_X_refuse (z_h_refusals := z_h_refusals) a_h a_h_now a_h_kept a_h_letters a_h_numbers a_h_refusals a_h_mind a_h_parts a_h_past a_h_seating y_h_isKept y_h_numberCount hq3) k_198 k_200 ks_0 k_1 k_201 hd_X_refuse ⟨Nat.le_of_ble_eq_true rfl, Nat.le_of_ble_eq_true rfl⟩ xE0_ok trivial hA hK hP hD hS [0, 6] [1, 2, 3, 4, 5] [5, 0, 1, 2, 3, 4, 6] rfl rfl rfl rfl rfl rfl rfl rfl rfl rfl hl.1 rfl (Nat.le_of_ble_eq_true rfl) ⟨Nat.zero_le _, Nat.zero_le _⟩ d_X_stroke_13 (fun H locs hP hD hS => ?_)
    have hq := Option.some.inj hf
    subst hq
    exact hret _ _ _ _ _ d_X_stroke_16 rfl rfl hP hD hS
abbrev w_X_run (cI cJ cC : ClassId) (a_h a_h_now a_h_kept a_h_letters a_h_numbers a_h_refusals a_h_mind a_h_parts a_h_past a_h_seating a_h_now_kinds a_h_now_sweets a_h_now_settings a_h_now_heaps a_h_mind_one a_h_mind_two a_h_mind_one_kinds a_h_mind_one_sweets a_h_mind_one_settings a_h_mind_one_heaps : Nat) (y_h_isKept : Int32) (y_h_numberCount : Int32) (y_h_mind_seed : Int32) (p_h_now_children : Int32) (p_h_now_strokes : Int32) (p_h_now_gave : Int32) (p_h_now_threw : Int32) (p_h_now_kinds : (Nat → Int32)) (p_h_now_sweets : (Nat → Int32)) (p_h_now_settings : (Nat → Int32)) (p_h_refusals : (Nat → Int32)) (p_h_mind_one_children : Int32) (p_h_mind_one_strokes : Int32) (p_h_mind_one_gave : Int32) (p_h_mind_one_threw : Int32) (p_h_mind_one_kinds : (Nat → Int32)) (p_h_mind_one_sweets : (Nat → Int32)) (p_h_mind_one_settings : (Nat → Int32)) (p_h_mind_one_heaps : (Nat → Int32)) : va_W := [(a_h, .inr (0, [.ref a_h_now, .ref a_h_kept, .int y_h_isKept, .ref a_h_letters, .ref a_h_numbers, .int y_h_numberCount, .ref a_h_refusals, .ref a_h_mind, .ref a_h_parts, .ref a_h_past, .ref a_h_seating])), (a_h_now, .inr (1, [.ref a_h_now_kinds, .ref a_h_now_sweets, .ref a_h_now_settings, .int p_h_now_children, .int p_h_now_strokes, .int p_h_now_gave, .int p_h_now_threw, .ref a_h_now_heaps])), (a_h_now_kinds, .inl (cI, (8, .inl p_h_now_kinds))), (a_h_now_sweets, .inl (cI, (8, .inl p_h_now_sweets))), (a_h_now_settings, .inl (cI, (3, .inl p_h_now_settings))), (a_h_refusals, .inl (cI, (7, .inl p_h_refusals))), (a_h_mind, .inr (3, [.ref a_h_mind_one, .ref a_h_mind_two, .int y_h_mind_seed])), (a_h_mind_one, .inr (1, [.ref a_h_mind_one_kinds, .ref a_h_mind_one_sweets, .ref a_h_mind_one_settings, .int p_h_mind_one_children, .int p_h_mind_one_strokes, .int p_h_mind_one_gave, .int p_h_mind_one_threw, .ref a_h_mind_one_heaps])), (a_h_mind_one_kinds, .inl (cI, (8, .inl p_h_mind_one_kinds))), (a_h_mind_one_sweets, .inl (cI, (8, .inl p_h_mind_one_sweets))), (a_h_mind_one_settings, .inl (cI, (3, .inl p_h_mind_one_settings))), (a_h_mind_one_heaps, .inl (cI, (8, .inl p_h_mind_one_heaps)))]
theorem d_X_run_0 : decode b_X_run 0 = .ok (.aload_n 0, 1) := by decide +kernel
theorem d_X_run_1 : decode b_X_run 1 = .ok (.getfield 10, 3) := by decide +kernel
theorem d_X_run_4 : decode b_X_run 4 = .ok (.iload_n 1, 1) := by decide +kernel
theorem d_X_run_5 : decode b_X_run 5 = .ok (.invokevirtual 84, 3) := by decide +kernel
theorem d_X_run_8 : decode b_X_run 8 = .ok (.ifCond .eq 14, 3) := by decide +kernel
theorem d_X_run_11 : decode b_X_run 11 = .ok (.iload_n 2, 1) := by decide +kernel
theorem d_X_run_12 : decode b_X_run 12 = .ok (.iconst 0, 1) := by decide +kernel
theorem d_X_run_13 : decode b_X_run 13 = .ok (.sipush 200, 3) := by decide +kernel
theorem d_X_run_16 : decode b_X_run 16 = .ok (.invokestatic 100, 3) := by decide +kernel
theorem d_X_run_19 : decode b_X_run 19 = .ok (.goto 4, 3) := by decide +kernel
theorem d_X_run_22 : decode b_X_run 22 = .ok (.iconst (-1), 1) := by decide +kernel
theorem d_X_run_23 : decode b_X_run 23 = .ok (.istore_n 3, 1) := by decide +kernel
theorem d_X_run_24 : decode b_X_run 24 = .ok (.iload_n 3, 1) := by decide +kernel
theorem d_X_run_25 : decode b_X_run 25 = .ok (.ifCond .eq 9, 3) := by decide +kernel
theorem d_X_run_28 : decode b_X_run 28 = .ok (.aload_n 0, 1) := by decide +kernel
theorem d_X_run_29 : decode b_X_run 29 = .ok (.iload_n 3, 1) := by decide +kernel
theorem d_X_run_30 : decode b_X_run 30 = .ok (.invokevirtual 69, 3) := by decide +kernel
theorem d_X_run_33 : decode b_X_run 33 = .ok (.ireturn, 1) := by decide +kernel
theorem d_X_run_34 : decode b_X_run 34 = .ok (.aload_n 0, 1) := by decide +kernel
theorem d_X_run_35 : decode b_X_run 35 = .ok (.getfield 44, 3) := by decide +kernel
theorem d_X_run_38 : decode b_X_run 38 = .ok (.aload_n 0, 1) := by decide +kernel
theorem d_X_run_39 : decode b_X_run 39 = .ok (.getfield 10, 3) := by decide +kernel
theorem d_X_run_42 : decode b_X_run 42 = .ok (.iload_n 1, 1) := by decide +kernel
theorem d_X_run_43 : decode b_X_run 43 = .ok (.iload_n 2, 1) := by decide +kernel
theorem d_X_run_44 : decode b_X_run 44 = .ok (.invokevirtual 128, 3) := by decide +kernel
theorem d_X_run_47 : decode b_X_run 47 = .ok (.ireturn, 1) := by decide +kernel
set_option maxHeartbeats 4000000 in
set_option maxRecDepth 100000 in
theorem c_X_run {l : Launch} {D : va_G} {cI cJ cC : ClassId} (a_h a_h_now a_h_kept a_h_letters a_h_numbers a_h_refusals a_h_mind a_h_parts a_h_past a_h_seating a_h_now_kinds a_h_now_sweets a_h_now_settings a_h_now_heaps a_h_mind_one a_h_mind_two a_h_mind_one_kinds a_h_mind_one_sweets a_h_mind_one_settings a_h_mind_one_heaps : Nat) (y_h_isKept : Int32) (y_h_numberCount : Int32) (y_h_mind_seed : Int32) {z_h_now : RS} {z_h_refusals : (Nat → Int32)} {z_h_mind_one : RS} {x1 : Int32} {x2 : Int32} {q : Int32 × (Nat → Int32) × RS} (hf : f_X_run z_h_now z_h_refusals z_h_mind_one x1 x2 = some q) : xI l y_X_run b_X_run 4 .int 6 134 D (tyK cI cJ cC) xE0 [.ref a_h, .int x1, .int x2] (w_X_run cI cJ cC a_h a_h_now a_h_kept a_h_letters a_h_numbers a_h_refusals a_h_mind a_h_parts a_h_past a_h_seating a_h_now_kinds a_h_now_sweets a_h_now_settings a_h_now_heaps a_h_mind_one a_h_mind_two a_h_mind_one_kinds a_h_mind_one_sweets a_h_mind_one_settings a_h_mind_one_heaps y_h_isKept y_h_numberCount y_h_mind_seed (r_children z_h_now) (r_strokes z_h_now) (r_gave z_h_now) (r_threw z_h_now) (r_kinds z_h_now) (r_sweets z_h_now) (r_settings z_h_now) z_h_refusals (r_children z_h_mind_one) (r_strokes z_h_mind_one) (r_gave z_h_mind_one) (r_threw z_h_mind_one) (r_kinds z_h_mind_one) (r_sweets z_h_mind_one) (r_settings z_h_mind_one) (r_heaps z_h_mind_one)) q.1 (w_X_run cI cJ cC a_h a_h_now a_h_kept a_h_letters a_h_numbers a_h_refusals a_h_mind a_h_parts a_h_past a_h_seating a_h_now_kinds a_h_now_sweets a_h_now_settings a_h_now_heaps a_h_mind_one a_h_mind_two a_h_mind_one_kinds a_h_mind_one_sweets a_h_mind_one_settings a_h_mind_one_heaps y_h_isKept y_h_numberCount y_h_mind_seed (r_children z_h_now) (r_strokes z_h_now) (r_gave z_h_now) (r_threw z_h_now) (r_kinds z_h_now) (r_sweets z_h_now) (r_settings z_h_now) q.2.1 (r_children q.2.2) (r_strokes q.2.2) (r_gave q.2.2) (r_threw q.2.2) (r_kinds q.2.2) (r_sweets q.2.2) (r_settings q.2.2) (r_heaps q.2.2)) := by
  refine xI_of (by decide) (Nat.le_of_ble_eq_true rfl) ?_
  intro p e s m args below meth c A Q hx hb hml hown hT hA hP hD hK hS hE hret ls hl
  have hown : s.vm.findClass R_X = some m.cls := hown
  have hl : lv_has ls 4 [(0, .ref a_h), (1, .int x1), (2, .int x2)] := hl
  unfold f_X_run at hf
  refine lv_aload_n hx hb d_X_run_0 rfl (lv_at hl 0 rfl) ?_
  refine va_get hx hb hT i_X hown hK hP 0 rfl rfl 0 (Nat.le_of_ble_eq_true rfl) (hT _ k_156) (fun _ h => h) rfl d_X_run_1 ?_
  refine lv_iload_n hx hb d_X_run_4 rfl (lv_at hl 1 rfl) ?_
  obtain ⟨q1, hq1, hf⟩ := io_b hf
  refine xcVI (wc := (w_Ring_has cI cJ cC a_h_now a_h_now_kinds a_h_now_sweets a_h_now_settings a_h_now_heaps (r_children z_h_now) (r_strokes z_h_now) (r_gave z_h_now) (r_threw z_h_now))) (wc' := (w_Ring_has cI cJ cC a_h_now a_h_now_kinds a_h_now_sweets a_h_now_settings a_h_now_heaps (r_children z_h_now) (r_strokes z_h_now) (r_gave z_h_now) (r_threw z_h_now))) (ws' := (w_X_run cI cJ cC a_h a_h_now a_h_kept a_h_letters a_h_numbers a_h_refusals a_h_mind a_h_parts a_h_past a_h_seating a_h_now_kinds a_h_now_sweets a_h_now_settings a_h_now_heaps a_h_mind_one a_h_mind_two a_h_mind_one_kinds a_h_mind_one_sweets a_h_mind_one_settings a_h_mind_one_heaps y_h_isKept y_h_numberCount y_h_mind_seed (r_children z_h_now) (r_strokes z_h_now) (r_gave z_h_now) (r_threw z_h_now) (r_kinds z_h_now) (r_sweets z_h_now) (r_settings z_h_now) z_h_refusals (r_children z_h_mind_one) (r_strokes z_h_mind_one) (r_gave z_h_mind_one) (r_threw z_h_mind_one) (r_kinds z_h_mind_one) (r_sweets z_h_mind_one) (r_settings z_h_mind_one) (r_heaps z_h_mind_one))) (As := [.int x1]) (rest := []) hx hb hml hown hT (c_Ring_has (z_h := z_h_now) a_h_now a_h_now_kinds a_h_now_sweets a_h_now_settings a_h_now_heaps hq1) k_194 k_195 k_196 k_2 k_197 hd_Ring_has ⟨Nat.le_of_ble_eq_true rfl, Nat.le_of_ble_eq_true rfl⟩ xE0_ok trivial hA hK hP hD hS [1] [0, 2, 3, 4, 5, 6, 7, 8, 9, 10, 11] [0, 11, 1, 2, 3, 4, 5, 6, 7, 8, 9, 10] rfl rfl rfl rfl rfl rfl rfl rfl rfl rfl hl.1 rfl (Nat.le_of_ble_eq_true rfl) ⟨Nat.zero_le _, Nat.zero_le _⟩ d_X_run_5 (fun H locs hP hD hS => ?_)
  refine lv_if_eq (tgt := 22) hx hb d_X_run_8 (by decide) (fun c2 => ?_) (fun c2 => ?_)
  · have hf := io_t hf c2
    refine lv_iconst (v := (-1)) hx hb d_X_run_22 (by decide) ?_
    refine lv_istore_n (lv' := [(3, .int (-1)), (0, .ref a_h), (1, .int x1), (2, .int x2)]) hx hb d_X_run_23 rfl hl (by decide) rfl (fun ls hl => ?_)
    refine lv_iload_n hx hb d_X_run_24 rfl (lv_at hl 0 rfl) ?_
    refine lv_if_eq (tgt := 34) hx hb d_X_run_25 (by decide) (fun c => absurd c (show ¬ ((-1) : Int32) = 0 from by decide +kernel)) (fun _ => ?_)
    refine lv_aload_n hx hb d_X_run_28 rfl (lv_at hl 1 rfl) ?_
    refine lv_iload_n hx hb d_X_run_29 rfl (lv_at hl 0 rfl) ?_
    obtain ⟨q3, hq3, hf⟩ := io_b hf
    refine xcVI (wc := (w_X_refuse cI cJ cC a_h a_h_now a_h_kept a_h_letters a_h_numbers a_h_refusals a_h_mind a_h_parts a_h_past a_h_seating y_h_isKept y_h_numberCount z_h_refusals)) (wc' := (w_X_refuse cI cJ cC a_h a_h_now a_h_kept a_h_letters a_h_numbers a_h_refusals a_h_mind a_h_parts a_h_past a_h_seating y_h_isKept y_h_numberCount q3.2)) (ws' := (w_X_run cI cJ cC a_h a_h_now a_h_kept a_h_letters a_h_numbers a_h_refusals a_h_mind a_h_parts a_h_past a_h_seating a_h_now_kinds a_h_now_sweets a_h_now_settings a_h_now_heaps a_h_mind_one a_h_mind_two a_h_mind_one_kinds a_h_mind_one_sweets a_h_mind_one_settings a_h_mind_one_heaps y_h_isKept y_h_numberCount y_h_mind_seed (r_children z_h_now) (r_strokes z_h_now) (r_gave z_h_now) (r_threw z_h_now) (r_kinds z_h_now) (r_sweets z_h_now) (r_settings z_h_now) q3.2 (r_children z_h_mind_one) (r_strokes z_h_mind_one) (r_gave z_h_mind_one) (r_threw z_h_mind_one) (r_kinds z_h_mind_one) (r_sweets z_h_mind_one) (r_settings z_h_mind_one) (r_heaps z_h_mind_one))) (As := [.int (-1)]) (rest := []) hx hb hml hown hT (c_X_refuse (z_h_refusals := z_h_refusals) a_h a_h_now a_h_kept a_h_letters a_h_numbers a_h_refusals a_h_mind a_h_parts a_h_past a_h_seating y_h_isKept y_h_numberCount hq3) k_198 k_200 ks_0 k_1 k_201 hd_X_refuse ⟨Nat.le_of_ble_eq_true rfl, Nat.le_of_ble_eq_true rfl⟩ xE0_ok trivial hA hK hP hD hS [0, 5] [1, 2, 3, 4, 6, 7, 8, 9, 10, 11] [10, 0, 1, 2, 3, 11, 4, 5, 6, 7, 8, 9] rfl rfl rfl rfl rfl rfl rfl rfl rfl rfl hl.1 rfl (Nat.le_of_ble_eq_true rfl) ⟨Nat.zero_le _, Nat.zero_le _⟩ d_X_run_30 (fun H locs hP hD hS => ?_)
    have hq := Option.some.inj hf
    subst hq
    exact hret _ _ _ _ _ d_X_run_33 rfl rfl hP hD hS
  · have hf := io_f hf c2
    refine lv_iload_n hx hb d_X_run_11 rfl (lv_at hl 2 rfl) ?_
    refine lv_iconst (v := 0) hx hb d_X_run_12 (by decide) ?_
    refine lv_sipush (v := 200) hx hb d_X_run_13 (by decide) ?_
    obtain ⟨q4, hq4, hf⟩ := io_b hf
    refine xcSI (wc := []) (wc' := []) (ws' := (w_X_run cI cJ cC a_h a_h_now a_h_kept a_h_letters a_h_numbers a_h_refusals a_h_mind a_h_parts a_h_past a_h_seating a_h_now_kinds a_h_now_sweets a_h_now_settings a_h_now_heaps a_h_mind_one a_h_mind_two a_h_mind_one_kinds a_h_mind_one_sweets a_h_mind_one_settings a_h_mind_one_heaps y_h_isKept y_h_numberCount y_h_mind_seed (r_children z_h_now) (r_strokes z_h_now) (r_gave z_h_now) (r_threw z_h_now) (r_kinds z_h_now) (r_sweets z_h_now) (r_settings z_h_now) z_h_refusals (r_children z_h_mind_one) (r_strokes z_h_mind_one) (r_gave z_h_mind_one) (r_threw z_h_mind_one) (r_kinds z_h_mind_one) (r_sweets z_h_mind_one) (r_settings z_h_mind_one) (r_heaps z_h_mind_one))) (As := [.int x2, .int 0, .int 200]) (rest := []) hx hb hml hown hT (c_X_outside hq4) k_245 k_246 k_1 k_247 hd_X_outside ⟨Nat.le_of_ble_eq_true rfl, Nat.le_of_ble_eq_true rfl⟩ xE0_ok trivial hA hK hP hD hS [] [0, 1, 2, 3, 4, 5, 6, 7, 8, 9, 10, 11] [0, 1, 2, 3, 4, 5, 6, 7, 8, 9, 10, 11] rfl rfl rfl rfl rfl rfl rfl hl.1 rfl (Nat.le_of_ble_eq_true rfl) ⟨Nat.zero_le _, Nat.zero_le _⟩ d_X_run_16 (fun H locs hP hD hS => ?_)
    refine lv_goto (tgt := 23) hx hb d_X_run_19 (by decide) ?_
    refine lv_istore_n (lv' := [(3, .int q4), (0, .ref a_h), (1, .int x1), (2, .int x2)]) hx hb d_X_run_23 rfl hl (by decide) rfl (fun ls hl => ?_)
    refine lv_iload_n hx hb d_X_run_24 rfl (lv_at hl 0 rfl) ?_
    refine lv_if_eq (tgt := 34) hx hb d_X_run_25 (by decide) (fun c5 => ?_) (fun c5 => ?_)
    · have hf := io_t hf c5
      refine lv_aload_n hx hb d_X_run_34 rfl (lv_at hl 1 rfl) ?_
      refine va_get hx hb hT i_X hown hK hP 0 rfl rfl 7 (Nat.le_of_ble_eq_true rfl) (hT _ k_163) (fun _ h => h) rfl d_X_run_35 ?_
      refine lv_aload_n hx hb d_X_run_38 rfl (lv_at hl 1 rfl) ?_
      refine va_get hx hb hT i_X hown hK hP 0 rfl rfl 0 (Nat.le_of_ble_eq_true rfl) (hT _ k_156) (fun _ h => h) rfl d_X_run_39 ?_
      refine lv_iload_n hx hb d_X_run_42 rfl (lv_at hl 2 rfl) ?_
      refine lv_iload_n hx hb d_X_run_43 rfl (lv_at hl 3 rfl) ?_
      obtain ⟨q6, hq6, hf⟩ := io_b hf
      refine xcVI (wc := (w_Mind_sweetsBehind cI cJ cC a_h_mind a_h_mind_one a_h_mind_two a_h_mind_one_kinds a_h_mind_one_sweets a_h_mind_one_settings a_h_mind_one_heaps a_h_now a_h_now_kinds a_h_now_sweets a_h_now_settings a_h_now_heaps y_h_mind_seed (r_children z_h_mind_one) (r_strokes z_h_mind_one) (r_gave z_h_mind_one) (r_threw z_h_mind_one) (r_kinds z_h_mind_one) (r_sweets z_h_mind_one) (r_settings z_h_mind_one) (r_heaps z_h_mind_one) (r_children z_h_now) (r_strokes z_h_now) (r_gave z_h_now) (r_threw z_h_now) (r_kinds z_h_now) (r_sweets z_h_now) (r_settings z_h_now))) (wc' := (w_Mind_sweetsBehind cI cJ cC a_h_mind a_h_mind_one a_h_mind_two a_h_mind_one_kinds a_h_mind_one_sweets a_h_mind_one_settings a_h_mind_one_heaps a_h_now a_h_now_kinds a_h_now_sweets a_h_now_settings a_h_now_heaps y_h_mind_seed (r_children q6.2) (r_strokes q6.2) (r_gave q6.2) (r_threw q6.2) (r_kinds q6.2) (r_sweets q6.2) (r_settings q6.2) (r_heaps q6.2) (r_children z_h_now) (r_strokes z_h_now) (r_gave z_h_now) (r_threw z_h_now) (r_kinds z_h_now) (r_sweets z_h_now) (r_settings z_h_now))) (ws' := (w_X_run cI cJ cC a_h a_h_now a_h_kept a_h_letters a_h_numbers a_h_refusals a_h_mind a_h_parts a_h_past a_h_seating a_h_now_kinds a_h_now_sweets a_h_now_settings a_h_now_heaps a_h_mind_one a_h_mind_two a_h_mind_one_kinds a_h_mind_one_sweets a_h_mind_one_settings a_h_mind_one_heaps y_h_isKept y_h_numberCount y_h_mind_seed (r_children z_h_now) (r_strokes z_h_now) (r_gave z_h_now) (r_threw z_h_now) (r_kinds z_h_now) (r_sweets z_h_now) (r_settings z_h_now) z_h_refusals (r_children q6.2) (r_strokes q6.2) (r_gave q6.2) (r_threw q6.2) (r_kinds q6.2) (r_sweets q6.2) (r_settings q6.2) (r_heaps q6.2))) (As := [.ref a_h_now, .int x1, .int x2]) (rest := []) hx hb hml hown hT (c_Mind_sweetsBehind (z_h_one := z_h_mind_one) (z_g1 := z_h_now) a_h_mind a_h_mind_one a_h_mind_two a_h_mind_one_kinds a_h_mind_one_sweets a_h_mind_one_settings a_h_mind_one_heaps a_h_now a_h_now_kinds a_h_now_sweets a_h_now_settings a_h_now_heaps y_h_mind_seed hq6) k_248 k_249 k_250 k_4 k_251 hd_Mind_sweetsBehind ⟨Nat.le_of_ble_eq_true rfl, Nat.le_of_ble_eq_true rfl⟩ xE0_ok trivial hA hK hP hD hS [6, 7, 8, 9, 10, 11, 1, 2, 3, 4] [0, 5] [0, 8, 9, 10, 11, 1, 2, 3, 4, 5, 6, 7] rfl rfl rfl rfl rfl rfl rfl rfl rfl rfl hl.1 rfl (Nat.le_of_ble_eq_true rfl) ⟨Nat.zero_le _, Nat.zero_le _⟩ d_X_run_44 (fun H locs hP hD hS => ?_)
      have hq := Option.some.inj hf
      subst hq
      exact hret _ _ _ _ _ d_X_run_47 rfl rfl hP hD hS
    · have hf := io_f hf c5
      refine lv_aload_n hx hb d_X_run_28 rfl (lv_at hl 1 rfl) ?_
      refine lv_iload_n hx hb d_X_run_29 rfl (lv_at hl 0 rfl) ?_
      obtain ⟨q7, hq7, hf⟩ := io_b hf
      refine xcVI (wc := (w_X_refuse cI cJ cC a_h a_h_now a_h_kept a_h_letters a_h_numbers a_h_refusals a_h_mind a_h_parts a_h_past a_h_seating y_h_isKept y_h_numberCount z_h_refusals)) (wc' := (w_X_refuse cI cJ cC a_h a_h_now a_h_kept a_h_letters a_h_numbers a_h_refusals a_h_mind a_h_parts a_h_past a_h_seating y_h_isKept y_h_numberCount q7.2)) (ws' := (w_X_run cI cJ cC a_h a_h_now a_h_kept a_h_letters a_h_numbers a_h_refusals a_h_mind a_h_parts a_h_past a_h_seating a_h_now_kinds a_h_now_sweets a_h_now_settings a_h_now_heaps a_h_mind_one a_h_mind_two a_h_mind_one_kinds a_h_mind_one_sweets a_h_mind_one_settings a_h_mind_one_heaps y_h_isKept y_h_numberCount y_h_mind_seed (r_children z_h_now) (r_strokes z_h_now) (r_gave z_h_now) (r_threw z_h_now) (r_kinds z_h_now) (r_sweets z_h_now) (r_settings z_h_now) q7.2 (r_children z_h_mind_one) (r_strokes z_h_mind_one) (r_gave z_h_mind_one) (r_threw z_h_mind_one) (r_kinds z_h_mind_one) (r_sweets z_h_mind_one) (r_settings z_h_mind_one) (r_heaps z_h_mind_one))) (As := [.int q4]) (rest := []) hx hb hml hown hT (c_X_refuse (z_h_refusals := z_h_refusals) a_h a_h_now a_h_kept a_h_letters a_h_numbers a_h_refusals a_h_mind a_h_parts a_h_past a_h_seating y_h_isKept y_h_numberCount hq7) k_198 k_200 ks_0 k_1 k_201 hd_X_refuse ⟨Nat.le_of_ble_eq_true rfl, Nat.le_of_ble_eq_true rfl⟩ xE0_ok trivial hA hK hP hD hS [0, 5] [1, 2, 3, 4, 6, 7, 8, 9, 10, 11] [10, 0, 1, 2, 3, 11, 4, 5, 6, 7, 8, 9] rfl rfl rfl rfl rfl rfl rfl rfl rfl rfl hl.1 rfl (Nat.le_of_ble_eq_true rfl) ⟨Nat.zero_le _, Nat.zero_le _⟩ d_X_run_30 (fun H locs hP hD hS => ?_)
      have hq := Option.some.inj hf
      subst hq
      exact hret _ _ _ _ _ d_X_run_33 rfl rfl hP hD hS
theorem d_X_isPart_0 : decode b_X_isPart 0 = .ok (.iload_n 0, 1) := by decide +kernel
theorem d_X_isPart_1 : decode b_X_isPart 1 = .ok (.ifCond .eq 8, 3) := by decide +kernel
theorem d_X_isPart_4 : decode b_X_isPart 4 = .ok (.iload_n 0, 1) := by decide +kernel
theorem d_X_isPart_5 : decode b_X_isPart 5 = .ok (.iconst 1, 1) := by decide +kernel
theorem d_X_isPart_6 : decode b_X_isPart 6 = .ok (.if_icmp .ne 7, 3) := by decide +kernel
theorem d_X_isPart_9 : decode b_X_isPart 9 = .ok (.iconst 1, 1) := by decide +kernel
theorem d_X_isPart_10 : decode b_X_isPart 10 = .ok (.goto 4, 3) := by decide +kernel
theorem d_X_isPart_13 : decode b_X_isPart 13 = .ok (.iconst 0, 1) := by decide +kernel
theorem d_X_isPart_14 : decode b_X_isPart 14 = .ok (.ireturn, 1) := by decide +kernel
set_option maxHeartbeats 4000000 in
set_option maxRecDepth 100000 in
theorem c_X_isPart {l : Launch} {D : va_G} {cI cJ cC : ClassId} {x0 : Int32} {q : Int32} (hf : f_X_isPart x0 = some q) : xI l y_X_isPart b_X_isPart 1 .boolean 0 0 D (tyK cI cJ cC) xE0 [.int x0] [] q [] := by
  refine xI_of (by decide) (Nat.le_of_ble_eq_true rfl) ?_
  intro p e s m args below meth c A Q hx hb hml hown hT hA hP hD hK hS hE hret ls hl
  have hown : s.vm.findClass R_X = some m.cls := hown
  have hl : lv_has ls 1 [(0, .int x0)] := hl
  unfold f_X_isPart at hf
  refine lv_iload_n hx hb d_X_isPart_0 rfl (lv_at hl 0 rfl) ?_
  refine lv_if_eq (tgt := 9) hx hb d_X_isPart_1 (by decide) (fun c1 => ?_) (fun c1 => ?_)
  · have hf := io_t hf c1
    refine lv_iconst (v := 1) hx hb d_X_isPart_9 (by decide) ?_
    refine lv_goto (tgt := 14) hx hb d_X_isPart_10 (by decide) ?_
    have hq := Option.some.inj hf
    subst hq
    exact hret _ _ _ _ _ d_X_isPart_14 (by decide) rfl hP hD hS
  · have hf := io_f hf c1
    refine lv_iload_n hx hb d_X_isPart_4 rfl (lv_at hl 0 rfl) ?_
    refine lv_iconst (v := 1) hx hb d_X_isPart_5 (by decide) ?_
    refine lv_icmp_ne (tgt := 13) hx hb d_X_isPart_6 (by decide) (fun c2 => ?_) (fun c2 => ?_)
    · have hf := io_f hf c2
      refine lv_iconst (v := 0) hx hb d_X_isPart_13 (by decide) ?_
      have hq := Option.some.inj hf
      subst hq
      exact hret _ _ _ _ _ d_X_isPart_14 (by decide) rfl hP hD hS
    · have hf := io_t hf c2
      refine lv_iconst (v := 1) hx hb d_X_isPart_9 (by decide) ?_
      refine lv_goto (tgt := 14) hx hb d_X_isPart_10 (by decide) ?_
      have hq := Option.some.inj hf
      subst hq
      exact hret _ _ _ _ _ d_X_isPart_14 (by decide) rfl hP hD hS
