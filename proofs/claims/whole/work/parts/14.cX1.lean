/-! Contracts: X1. Printed by wip/whole/gen. -/
abbrev w_X_refuse (cI cJ cC : ClassId) (a_h a_h_now a_h_kept a_h_letters a_h_numbers a_h_refusals a_h_mind a_h_parts a_h_past a_h_seating : Nat) (y_h_isKept : Int32) (y_h_numberCount : Int32) (p_h_refusals : (Nat → Int32)) : va_W := [(a_h, .inr (0, [.ref a_h_now, .ref a_h_kept, .int y_h_isKept, .ref a_h_letters, .ref a_h_numbers, .int y_h_numberCount, .ref a_h_refusals, .ref a_h_mind, .ref a_h_parts, .ref a_h_past, .ref a_h_seating])), (a_h_refusals, .inl (cI, (7, .inl p_h_refusals)))]
theorem d_X_refuse_0 : decode b_X_refuse 0 = .ok (.iload_n 1, 1) := by decide +kernel
theorem d_X_refuse_1 : decode b_X_refuse 1 = .ok (.bipush (-6), 2) := by decide +kernel
theorem d_X_refuse_3 : decode b_X_refuse 3 = .ok (.if_icmp .lt 19, 3) := by decide +kernel
theorem d_X_refuse_6 : decode b_X_refuse 6 = .ok (.iload_n 1, 1) := by decide +kernel
theorem d_X_refuse_7 : decode b_X_refuse 7 = .ok (.iconst (-1), 1) := by decide +kernel
theorem d_X_refuse_8 : decode b_X_refuse 8 = .ok (.if_icmp .gt 14, 3) := by decide +kernel
theorem d_X_refuse_11 : decode b_X_refuse 11 = .ok (.aload_n 0, 1) := by decide +kernel
theorem d_X_refuse_12 : decode b_X_refuse 12 = .ok (.getfield 38, 3) := by decide +kernel
theorem d_X_refuse_15 : decode b_X_refuse 15 = .ok (.iload_n 1, 1) := by decide +kernel
theorem d_X_refuse_16 : decode b_X_refuse 16 = .ok (.ineg, 1) := by decide +kernel
theorem d_X_refuse_17 : decode b_X_refuse 17 = .ok (.dup2, 1) := by decide +kernel
theorem d_X_refuse_18 : decode b_X_refuse 18 = .ok (.iaload, 1) := by decide +kernel
theorem d_X_refuse_19 : decode b_X_refuse 19 = .ok (.iconst 1, 1) := by decide +kernel
theorem d_X_refuse_20 : decode b_X_refuse 20 = .ok (.iadd, 1) := by decide +kernel
theorem d_X_refuse_21 : decode b_X_refuse 21 = .ok (.iastore, 1) := by decide +kernel
theorem d_X_refuse_22 : decode b_X_refuse 22 = .ok (.iload_n 1, 1) := by decide +kernel
theorem d_X_refuse_23 : decode b_X_refuse 23 = .ok (.ireturn, 1) := by decide +kernel
set_option maxHeartbeats 4000000 in
set_option maxRecDepth 100000 in
theorem c_X_refuse {l : Launch} {D : va_G} {cI cJ cC : ClassId} (a_h a_h_now a_h_kept a_h_letters a_h_numbers a_h_refusals a_h_mind a_h_parts a_h_past a_h_seating : Nat) (y_h_isKept : Int32) (y_h_numberCount : Int32) {z_h_refusals : (Nat → Int32)} {x1 : Int32} {q : Int32 × (Nat → Int32)} (hf : f_X_refuse z_h_refusals x1 = some q) : xI l y_X_refuse b_X_refuse 2 .int 0 0 D (tyK cI cJ cC) xE0 [.ref a_h, .int x1] (w_X_refuse cI cJ cC a_h a_h_now a_h_kept a_h_letters a_h_numbers a_h_refusals a_h_mind a_h_parts a_h_past a_h_seating y_h_isKept y_h_numberCount z_h_refusals) q.1 (w_X_refuse cI cJ cC a_h a_h_now a_h_kept a_h_letters a_h_numbers a_h_refusals a_h_mind a_h_parts a_h_past a_h_seating y_h_isKept y_h_numberCount q.2) := by
  refine xI_of (by decide) (Nat.le_of_ble_eq_true rfl) ?_
  intro p e s m args below meth c A Q hx hb hml hown hT hA hP hD hK hS hE hret ls hl
  have hown : s.vm.findClass R_X = some m.cls := hown
  have hl : lv_has ls 2 [(0, .ref a_h), (1, .int x1)] := hl
  unfold f_X_refuse at hf
  refine lv_iload_n hx hb d_X_refuse_0 rfl (lv_at hl 1 rfl) ?_
  refine lv_bipush (v := (-6)) hx hb d_X_refuse_1 (by decide) ?_
  refine lv_icmp_lt (tgt := 22) hx hb d_X_refuse_3 (by decide) (fun c1 => ?_) (fun c1 => ?_)
  · have hf := io_t hf c1
    refine lv_iload_n hx hb d_X_refuse_22 rfl (lv_at hl 1 rfl) ?_
    have hq := Option.some.inj hf
    subst hq
    exact hret _ _ _ _ _ d_X_refuse_23 rfl rfl hP hD hS
  · have hf := io_f hf c1
    refine lv_iload_n hx hb d_X_refuse_6 rfl (lv_at hl 1 rfl) ?_
    refine lv_iconst (v := (-1)) hx hb d_X_refuse_7 (by decide) ?_
    refine lv_icmp_gt (tgt := 22) hx hb d_X_refuse_8 (by decide) (fun c2 => ?_) (fun c2 => ?_)
    · have hf := io_t hf c2
      refine lv_iload_n hx hb d_X_refuse_22 rfl (lv_at hl 1 rfl) ?_
      have hq := Option.some.inj hf
      subst hq
      exact hret _ _ _ _ _ d_X_refuse_23 rfl rfl hP hD hS
    · have hf := io_f hf c2
      refine lv_aload_n hx hb d_X_refuse_11 rfl (lv_at hl 0 rfl) ?_
      refine va_get hx hb hT i_X hown hK hP 0 rfl rfl 6 (Nat.le_of_ble_eq_true rfl) (hT _ k_174) (fun _ h => h) rfl d_X_refuse_12 ?_
      refine lv_iload_n hx hb d_X_refuse_15 rfl (lv_at hl 1 rfl) ?_
      refine lv_ineg hx hb d_X_refuse_16 ?_
      refine lv_dup2_11 hx hb d_X_refuse_17 rfl rfl ?_
      obtain ⟨c3, hf⟩ := io_n hf
      refine x_iald hx hb hK hP 1 0 rfl rfl (j := (-x1).toNatClampNeg) rfl c3 d_X_refuse_18 ?_
      refine lv_iconst (v := 1) hx hb d_X_refuse_19 (by decide) ?_
      refine lv_iadd hx hb d_X_refuse_20 ?_
      refine x_iast hx hb hK hP hD hS 1 0 rfl rfl (j := (-x1).toNatClampNeg) rfl c3 d_X_refuse_21 (fun H locs hP hD hS => ?_)
      have hP : va_P D classes (w_X_refuse cI cJ cC a_h a_h_now a_h_kept a_h_letters a_h_numbers a_h_refusals a_h_mind a_h_parts a_h_past a_h_seating y_h_isKept y_h_numberCount (upd z_h_refusals (-x1).toNatClampNeg ((z_h_refusals (-x1).toNatClampNeg) + 1))) H := hP
      have hD : va_D A (w_X_refuse cI cJ cC a_h a_h_now a_h_kept a_h_letters a_h_numbers a_h_refusals a_h_mind a_h_parts a_h_past a_h_seating y_h_isKept y_h_numberCount (upd z_h_refusals (-x1).toNatClampNeg ((z_h_refusals (-x1).toNatClampNeg) + 1))) := hD
      refine lv_iload_n hx hb d_X_refuse_22 rfl (lv_at hl 1 rfl) ?_
      have hq := Option.some.inj hf
      subst hq
      exact hret _ _ _ _ _ d_X_refuse_23 rfl rfl hP hD hS
abbrev w_X_feed (cI cJ cC : ClassId) (a_h a_h_now a_h_kept a_h_letters a_h_numbers a_h_refusals a_h_mind a_h_parts a_h_past a_h_seating a_h_letters_text a_h_letters_trial : Nat) (y_h_isKept : Int32) (y_h_numberCount : Int32) (p_h_letters_length : Int32) (p_h_letters_text : (Nat → Int32)) (p_h_refusals : (Nat → Int32)) : va_W := [(a_h, .inr (0, [.ref a_h_now, .ref a_h_kept, .int y_h_isKept, .ref a_h_letters, .ref a_h_numbers, .int y_h_numberCount, .ref a_h_refusals, .ref a_h_mind, .ref a_h_parts, .ref a_h_past, .ref a_h_seating])), (a_h_letters, .inr (2, [.int p_h_letters_length, .ref a_h_letters_text, .ref a_h_letters_trial])), (a_h_letters_text, .inl (cC, (64, .inl p_h_letters_text))), (a_h_refusals, .inl (cI, (7, .inl p_h_refusals)))]
theorem d_X_feed_0 : decode b_X_feed 0 = .ok (.iload_n 1, 1) := by decide +kernel
theorem d_X_feed_1 : decode b_X_feed 1 = .ok (.ifCond .ge 10, 3) := by decide +kernel
theorem d_X_feed_4 : decode b_X_feed 4 = .ok (.aload_n 0, 1) := by decide +kernel
theorem d_X_feed_5 : decode b_X_feed 5 = .ok (.bipush (-4), 2) := by decide +kernel
theorem d_X_feed_7 : decode b_X_feed 7 = .ok (.invokevirtual 69, 3) := by decide +kernel
theorem d_X_feed_10 : decode b_X_feed 10 = .ok (.ireturn, 1) := by decide +kernel
theorem d_X_feed_11 : decode b_X_feed 11 = .ok (.iload_n 1, 1) := by decide +kernel
theorem d_X_feed_12 : decode b_X_feed 12 = .ok (.sipush 255, 3) := by decide +kernel
theorem d_X_feed_15 : decode b_X_feed 15 = .ok (.if_icmp .gt 15, 3) := by decide +kernel
theorem d_X_feed_18 : decode b_X_feed 18 = .ok (.aload_n 0, 1) := by decide +kernel
theorem d_X_feed_19 : decode b_X_feed 19 = .ok (.getfield 26, 3) := by decide +kernel
theorem d_X_feed_22 : decode b_X_feed 22 = .ok (.getfield 73, 3) := by decide +kernel
theorem d_X_feed_25 : decode b_X_feed 25 = .ok (.bipush 64, 2) := by decide +kernel
theorem d_X_feed_27 : decode b_X_feed 27 = .ok (.if_icmp .lt 10, 3) := by decide +kernel
theorem d_X_feed_30 : decode b_X_feed 30 = .ok (.aload_n 0, 1) := by decide +kernel
theorem d_X_feed_31 : decode b_X_feed 31 = .ok (.bipush (-6), 2) := by decide +kernel
theorem d_X_feed_33 : decode b_X_feed 33 = .ok (.invokevirtual 69, 3) := by decide +kernel
theorem d_X_feed_36 : decode b_X_feed 36 = .ok (.ireturn, 1) := by decide +kernel
theorem d_X_feed_37 : decode b_X_feed 37 = .ok (.aload_n 0, 1) := by decide +kernel
theorem d_X_feed_38 : decode b_X_feed 38 = .ok (.getfield 26, 3) := by decide +kernel
theorem d_X_feed_41 : decode b_X_feed 41 = .ok (.iload_n 1, 1) := by decide +kernel
theorem d_X_feed_42 : decode b_X_feed 42 = .ok (.i2c, 1) := by decide +kernel
theorem d_X_feed_43 : decode b_X_feed 43 = .ok (.invokevirtual 76, 3) := by decide +kernel
theorem d_X_feed_46 : decode b_X_feed 46 = .ok (.ireturn, 1) := by decide +kernel
set_option maxHeartbeats 4000000 in
set_option maxRecDepth 100000 in
theorem c_X_feed {l : Launch} {D : va_G} {cI cJ cC : ClassId} (a_h a_h_now a_h_kept a_h_letters a_h_numbers a_h_refusals a_h_mind a_h_parts a_h_past a_h_seating a_h_letters_text a_h_letters_trial : Nat) (y_h_isKept : Int32) (y_h_numberCount : Int32) {z_h_letters_length : Int32} {z_h_letters_text : (Nat → Int32)} {z_h_refusals : (Nat → Int32)} {x1 : Int32} {q : Int32 × Int32 × (Nat → Int32) × (Nat → Int32)} (hf : f_X_feed z_h_letters_length z_h_letters_text z_h_refusals x1 = some q) : xI l y_X_feed b_X_feed 2 .int 1 21 D (tyK cI cJ cC) xE0 [.ref a_h, .int x1] (w_X_feed cI cJ cC a_h a_h_now a_h_kept a_h_letters a_h_numbers a_h_refusals a_h_mind a_h_parts a_h_past a_h_seating a_h_letters_text a_h_letters_trial y_h_isKept y_h_numberCount z_h_letters_length z_h_letters_text z_h_refusals) q.1 (w_X_feed cI cJ cC a_h a_h_now a_h_kept a_h_letters a_h_numbers a_h_refusals a_h_mind a_h_parts a_h_past a_h_seating a_h_letters_text a_h_letters_trial y_h_isKept y_h_numberCount q.2.1 q.2.2.1 q.2.2.2) := by
  refine xI_of (by decide) (Nat.le_of_ble_eq_true rfl) ?_
  intro p e s m args below meth c A Q hx hb hml hown hT hA hP hD hK hS hE hret ls hl
  have hown : s.vm.findClass R_X = some m.cls := hown
  have hl : lv_has ls 2 [(0, .ref a_h), (1, .int x1)] := hl
  unfold f_X_feed at hf
  refine lv_iload_n hx hb d_X_feed_0 rfl (lv_at hl 1 rfl) ?_
  refine lv_if_ge (tgt := 11) hx hb d_X_feed_1 (by decide) (fun c1 => ?_) (fun c1 => ?_)
  · have hf := io_t hf c1
    refine lv_iload_n hx hb d_X_feed_11 rfl (lv_at hl 1 rfl) ?_
    refine lv_sipush (v := 255) hx hb d_X_feed_12 (by decide) ?_
    refine lv_icmp_gt (tgt := 30) hx hb d_X_feed_15 (by decide) (fun c2 => ?_) (fun c2 => ?_)
    · have hf := io_t hf c2
      refine lv_aload_n hx hb d_X_feed_30 rfl (lv_at hl 0 rfl) ?_
      refine lv_bipush (v := (-6)) hx hb d_X_feed_31 (by decide) ?_
      obtain ⟨q3, hq3, hf⟩ := io_b hf
      refine xcVI (wc := (w_X_refuse cI cJ cC a_h a_h_now a_h_kept a_h_letters a_h_numbers a_h_refusals a_h_mind a_h_parts a_h_past a_h_seating y_h_isKept y_h_numberCount z_h_refusals)) (wc' := (w_X_refuse cI cJ cC a_h a_h_now a_h_kept a_h_letters a_h_numbers a_h_refusals a_h_mind a_h_parts a_h_past a_h_seating y_h_isKept y_h_numberCount q3.2)) (ws' := (w_X_feed cI cJ cC a_h a_h_now a_h_kept a_h_letters a_h_numbers a_h_refusals a_h_mind a_h_parts a_h_past a_h_seating a_h_letters_text a_h_letters_trial y_h_isKept y_h_numberCount z_h_letters_length z_h_letters_text q3.2)) (As := [.int (-6)]) (rest := []) hx hb hml hown hT (c_X_refuse (z_h_refusals := z_h_refusals) a_h a_h_now a_h_kept a_h_letters a_h_numbers a_h_refusals a_h_mind a_h_parts a_h_past a_h_seating y_h_isKept y_h_numberCount hq3) k_206 k_208 ks_0 k_1 k_209 hd_X_refuse ⟨Nat.le_of_ble_eq_true rfl, Nat.le_of_ble_eq_true rfl⟩ xE0_ok trivial hA hK hP hD hS [0, 3] [1, 2] [2, 0, 1, 3] rfl rfl rfl rfl rfl rfl rfl rfl rfl rfl hl.1 rfl (Nat.le_of_ble_eq_true rfl) ⟨Nat.zero_le _, Nat.zero_le _⟩ d_X_feed_33 (fun H locs hP hD hS => ?_)
      have hq := Option.some.inj hf
      subst hq
      exact hret _ _ _ _ _ d_X_feed_36 rfl rfl hP hD hS
    · have hf := io_f hf c2
      refine lv_aload_n hx hb d_X_feed_18 rfl (lv_at hl 0 rfl) ?_
      refine va_get hx hb hT i_X hown hK hP 0 rfl rfl 3 (Nat.le_of_ble_eq_true rfl) (hT _ k_171) (fun _ h => h) rfl d_X_feed_19 ?_
      refine va_get hx hb hT i_Letters hown hK hP 1 rfl rfl 0 (Nat.le_of_ble_eq_true rfl) (hT _ k_87) (fun _ h => h) rfl d_X_feed_22 ?_
      refine lv_bipush (v := 64) hx hb d_X_feed_25 (by decide) ?_
      refine lv_icmp_lt (tgt := 37) hx hb d_X_feed_27 (by decide) (fun c4 => ?_) (fun c4 => ?_)
      · have hf := io_t hf c4
        refine lv_aload_n hx hb d_X_feed_37 rfl (lv_at hl 0 rfl) ?_
        refine va_get hx hb hT i_X hown hK hP 0 rfl rfl 3 (Nat.le_of_ble_eq_true rfl) (hT _ k_171) (fun _ h => h) rfl d_X_feed_38 ?_
        refine lv_iload_n hx hb d_X_feed_41 rfl (lv_at hl 1 rfl) ?_
        refine lv_i2c (v := ((x1.toUInt32 % 65536).toInt32)) hx hb d_X_feed_42 rfl ?_
        obtain ⟨q5, hq5, hf⟩ := io_b hf
        refine xcVI (wc := (w_Letters_add cI cJ cC a_h_letters a_h_letters_text a_h_letters_trial z_h_letters_length z_h_letters_text)) (wc' := (w_Letters_add cI cJ cC a_h_letters a_h_letters_text a_h_letters_trial q5.2.1 q5.2.2)) (ws' := (w_X_feed cI cJ cC a_h a_h_now a_h_kept a_h_letters a_h_numbers a_h_refusals a_h_mind a_h_parts a_h_past a_h_seating a_h_letters_text a_h_letters_trial y_h_isKept y_h_numberCount q5.2.1 q5.2.2 z_h_refusals)) (As := [.int ((x1.toUInt32 % 65536).toInt32)]) (rest := []) hx hb hml hown hT (c_Letters_add (z_h_length := z_h_letters_length) (z_h_text := z_h_letters_text) a_h_letters a_h_letters_text a_h_letters_trial hq5) k_210 k_211 k_212 k_3 k_213 hd_Letters_add ⟨Nat.le_of_ble_eq_true rfl, Nat.le_of_ble_eq_true rfl⟩ xE0_ok trivial hA hK hP hD hS [1, 2] [0, 3] [0, 2, 3, 1] rfl rfl rfl rfl rfl rfl rfl rfl rfl rfl hl.1 rfl (Nat.le_of_ble_eq_true rfl) ⟨Nat.zero_le _, Nat.zero_le _⟩ d_X_feed_43 (fun H locs hP hD hS => ?_)
        have hq := Option.some.inj hf
        subst hq
        exact hret _ _ _ _ _ d_X_feed_46 rfl rfl hP hD hS
      · have hf := io_f hf c4
        refine lv_aload_n hx hb d_X_feed_30 rfl (lv_at hl 0 rfl) ?_
        refine lv_bipush (v := (-6)) hx hb d_X_feed_31 (by decide) ?_
        obtain ⟨q6, hq6, hf⟩ := io_b hf
        refine xcVI (wc := (w_X_refuse cI cJ cC a_h a_h_now a_h_kept a_h_letters a_h_numbers a_h_refusals a_h_mind a_h_parts a_h_past a_h_seating y_h_isKept y_h_numberCount z_h_refusals)) (wc' := (w_X_refuse cI cJ cC a_h a_h_now a_h_kept a_h_letters a_h_numbers a_h_refusals a_h_mind a_h_parts a_h_past a_h_seating y_h_isKept y_h_numberCount q6.2)) (ws' := (w_X_feed cI cJ cC a_h a_h_now a_h_kept a_h_letters a_h_numbers a_h_refusals a_h_mind a_h_parts a_h_past a_h_seating a_h_letters_text a_h_letters_trial y_h_isKept y_h_numberCount z_h_letters_length z_h_letters_text q6.2)) (As := [.int (-6)]) (rest := []) hx hb hml hown hT (c_X_refuse (z_h_refusals := z_h_refusals) a_h a_h_now a_h_kept a_h_letters a_h_numbers a_h_refusals a_h_mind a_h_parts a_h_past a_h_seating y_h_isKept y_h_numberCount hq6) k_206 k_208 ks_0 k_1 k_209 hd_X_refuse ⟨Nat.le_of_ble_eq_true rfl, Nat.le_of_ble_eq_true rfl⟩ xE0_ok trivial hA hK hP hD hS [0, 3] [1, 2] [2, 0, 1, 3] rfl rfl rfl rfl rfl rfl rfl rfl rfl rfl hl.1 rfl (Nat.le_of_ble_eq_true rfl) ⟨Nat.zero_le _, Nat.zero_le _⟩ d_X_feed_33 (fun H locs hP hD hS => ?_)
        have hq := Option.some.inj hf
        subst hq
        exact hret _ _ _ _ _ d_X_feed_36 rfl rfl hP hD hS
  · have hf := io_f hf c1
    refine lv_aload_n hx hb d_X_feed_4 rfl (lv_at hl 0 rfl) ?_
    refine lv_bipush (v := (-4)) hx hb d_X_feed_5 (by decide) ?_
    obtain ⟨q7, hq7, hf⟩ := io_b hf
    refine xcVI (wc := (w_X_refuse cI cJ cC a_h a_h_now a_h_kept a_h_letters a_h_numbers a_h_refusals a_h_mind a_h_parts a_h_past a_h_seating y_h_isKept y_h_numberCount z_h_refusals)) (wc' := (w_X_refuse cI cJ cC a_h a_h_now a_h_kept a_h_letters a_h_numbers a_h_refusals a_h_mind a_h_parts a_h_past a_h_seating y_h_isKept y_h_numberCount q7.2)) (ws' := (w_X_feed cI cJ cC a_h a_h_now a_h_kept a_h_letters a_h_numbers a_h_refusals a_h_mind a_h_parts a_h_past a_h_seating a_h_letters_text a_h_letters_trial y_h_isKept y_h_numberCount z_h_letters_length z_h_letters_text q7.2)) (As := [.int (-4)]) (rest := []) hx hb hml hown hT (c_X_refuse (z_h_refusals := z_h_refusals) a_h a_h_now a_h_kept a_h_letters a_h_numbers a_h_refusals a_h_mind a_h_parts a_h_past a_h_seating y_h_isKept y_h_numberCount hq7) k_206 k_208 ks_0 k_1 k_209 hd_X_refuse ⟨Nat.le_of_ble_eq_true rfl, Nat.le_of_ble_eq_true rfl⟩ xE0_ok trivial hA hK hP hD hS [0, 3] [1, 2] [2, 0, 1, 3] rfl rfl rfl rfl rfl rfl rfl rfl rfl rfl hl.1 rfl (Nat.le_of_ble_eq_true rfl) ⟨Nat.zero_le _, Nat.zero_le _⟩ d_X_feed_7 (fun H locs hP hD hS => ?_)
    have hq := Option.some.inj hf
    subst hq
    exact hret _ _ _ _ _ d_X_feed_10 rfl rfl hP hD hS
abbrev w_X_table (cI cJ cC : ClassId) (a_h a_h_now a_h_kept a_h_letters a_h_numbers a_h_refusals a_h_mind a_h_parts a_h_past a_h_seating a_h_now_kinds a_h_now_sweets a_h_now_settings a_h_now_heaps a_h_letters_text a_h_letters_trial a_h_letters_trial_kinds a_h_letters_trial_sweets a_h_letters_trial_settings a_h_letters_trial_heaps : Nat) (y_h_isKept : Int32) (y_h_numberCount : Int32) (p_h_now_children : Int32) (p_h_now_strokes : Int32) (p_h_now_gave : Int32) (p_h_now_threw : Int32) (p_h_now_kinds : (Nat → Int32)) (p_h_now_sweets : (Nat → Int32)) (p_h_now_settings : (Nat → Int32)) (p_h_now_heaps : (Nat → Int32)) (p_h_letters_length : Int32) (p_h_letters_text : (Nat → Int32)) (p_h_letters_trial_children : Int32) (p_h_letters_trial_strokes : Int32) (p_h_letters_trial_gave : Int32) (p_h_letters_trial_threw : Int32) (p_h_letters_trial_kinds : (Nat → Int32)) (p_h_letters_trial_sweets : (Nat → Int32)) (p_h_letters_trial_settings : (Nat → Int32)) (p_h_letters_trial_heaps : (Nat → Int32)) : va_W := [(a_h, .inr (0, [.ref a_h_now, .ref a_h_kept, .int y_h_isKept, .ref a_h_letters, .ref a_h_numbers, .int y_h_numberCount, .ref a_h_refusals, .ref a_h_mind, .ref a_h_parts, .ref a_h_past, .ref a_h_seating])), (a_h_now, .inr (1, [.ref a_h_now_kinds, .ref a_h_now_sweets, .ref a_h_now_settings, .int p_h_now_children, .int p_h_now_strokes, .int p_h_now_gave, .int p_h_now_threw, .ref a_h_now_heaps])), (a_h_now_kinds, .inl (cI, (8, .inl p_h_now_kinds))), (a_h_now_sweets, .inl (cI, (8, .inl p_h_now_sweets))), (a_h_now_settings, .inl (cI, (3, .inl p_h_now_settings))), (a_h_now_heaps, .inl (cI, (8, .inl p_h_now_heaps))), (a_h_letters, .inr (2, [.int p_h_letters_length, .ref a_h_letters_text, .ref a_h_letters_trial])), (a_h_letters_text, .inl (cC, (64, .inl p_h_letters_text))), (a_h_letters_trial, .inr (1, [.ref a_h_letters_trial_kinds, .ref a_h_letters_trial_sweets, .ref a_h_letters_trial_settings, .int p_h_letters_trial_children, .int p_h_letters_trial_strokes, .int p_h_letters_trial_gave, .int p_h_letters_trial_threw, .ref a_h_letters_trial_heaps])), (a_h_letters_trial_kinds, .inl (cI, (8, .inl p_h_letters_trial_kinds))), (a_h_letters_trial_sweets, .inl (cI, (8, .inl p_h_letters_trial_sweets))), (a_h_letters_trial_settings, .inl (cI, (3, .inl p_h_letters_trial_settings))), (a_h_letters_trial_heaps, .inl (cI, (8, .inl p_h_letters_trial_heaps)))]
theorem d_X_table_0 : decode b_X_table 0 = .ok (.aload_n 0, 1) := by decide +kernel
theorem d_X_table_1 : decode b_X_table 1 = .ok (.getfield 26, 3) := by decide +kernel
theorem d_X_table_4 : decode b_X_table 4 = .ok (.aload_n 0, 1) := by decide +kernel
theorem d_X_table_5 : decode b_X_table 5 = .ok (.getfield 10, 3) := by decide +kernel
theorem d_X_table_8 : decode b_X_table 8 = .ok (.invokevirtual 80, 3) := by decide +kernel
theorem d_X_table_11 : decode b_X_table 11 = .ok (.istore_n 1, 1) := by decide +kernel
theorem d_X_table_12 : decode b_X_table 12 = .ok (.aload_n 0, 1) := by decide +kernel
theorem d_X_table_13 : decode b_X_table 13 = .ok (.getfield 26, 3) := by decide +kernel
theorem d_X_table_16 : decode b_X_table 16 = .ok (.iconst 0, 1) := by decide +kernel
theorem d_X_table_17 : decode b_X_table 17 = .ok (.putfield 73, 3) := by decide +kernel
theorem d_X_table_20 : decode b_X_table 20 = .ok (.iload_n 1, 1) := by decide +kernel
theorem d_X_table_21 : decode b_X_table 21 = .ok (.ireturn, 1) := by decide +kernel
set_option maxHeartbeats 4000000 in
set_option maxRecDepth 100000 in
theorem c_X_table {l : Launch} {D : va_G} {cI cJ cC : ClassId} {t_LEAST_SETTING t_GREATEST_SETTING t_str t_val : Nat} (a_h a_h_now a_h_kept a_h_letters a_h_numbers a_h_refusals a_h_mind a_h_parts a_h_past a_h_seating a_h_now_kinds a_h_now_sweets a_h_now_settings a_h_now_heaps a_h_letters_text a_h_letters_trial a_h_letters_trial_kinds a_h_letters_trial_sweets a_h_letters_trial_settings a_h_letters_trial_heaps : Nat) (y_h_isKept : Int32) (y_h_numberCount : Int32) {z_h_now : RS} {z_h_letters_length : Int32} {z_h_letters_text : (Nat → Int32)} {z_h_letters_trial : RS} {q : Int32 × RS × Int32 × RS} (hf : f_X_table z_h_now z_h_letters_length z_h_letters_text z_h_letters_trial = some q) : xI l y_X_table b_X_table 2 .int 7 159 D (tyK cI cJ cC) (xEv t_LEAST_SETTING t_GREATEST_SETTING t_str t_val) [.ref a_h] (w_X_table cI cJ cC a_h a_h_now a_h_kept a_h_letters a_h_numbers a_h_refusals a_h_mind a_h_parts a_h_past a_h_seating a_h_now_kinds a_h_now_sweets a_h_now_settings a_h_now_heaps a_h_letters_text a_h_letters_trial a_h_letters_trial_kinds a_h_letters_trial_sweets a_h_letters_trial_settings a_h_letters_trial_heaps y_h_isKept y_h_numberCount (r_children z_h_now) (r_strokes z_h_now) (r_gave z_h_now) (r_threw z_h_now) (r_kinds z_h_now) (r_sweets z_h_now) (r_settings z_h_now) (r_heaps z_h_now) z_h_letters_length z_h_letters_text (r_children z_h_letters_trial) (r_strokes z_h_letters_trial) (r_gave z_h_letters_trial) (r_threw z_h_letters_trial) (r_kinds z_h_letters_trial) (r_sweets z_h_letters_trial) (r_settings z_h_letters_trial) (r_heaps z_h_letters_trial)) q.1 (w_X_table cI cJ cC a_h a_h_now a_h_kept a_h_letters a_h_numbers a_h_refusals a_h_mind a_h_parts a_h_past a_h_seating a_h_now_kinds a_h_now_sweets a_h_now_settings a_h_now_heaps a_h_letters_text a_h_letters_trial a_h_letters_trial_kinds a_h_letters_trial_sweets a_h_letters_trial_settings a_h_letters_trial_heaps y_h_isKept y_h_numberCount (r_children q.2.1) (r_strokes q.2.1) (r_gave q.2.1) (r_threw q.2.1) (r_kinds q.2.1) (r_sweets q.2.1) (r_settings q.2.1) (r_heaps q.2.1) q.2.2.1 z_h_letters_text (r_children q.2.2.2) (r_strokes q.2.2.2) (r_gave q.2.2.2) (r_threw q.2.2.2) (r_kinds q.2.2.2) (r_sweets q.2.2.2) (r_settings q.2.2.2) (r_heaps q.2.2.2)) := by
  refine xI_of (by decide) (Nat.le_of_ble_eq_true rfl) ?_
  intro p e s m args below meth c A Q hx hb hml hown hT hA hP hD hK hS hE hret ls hl
  have hown : s.vm.findClass R_X = some m.cls := hown
  have hl : lv_has ls 2 [(0, .ref a_h)] := hl
  unfold f_X_table at hf
  obtain ⟨hZ_LEAST_SETTING, hT_LEAST_SETTING, hZ_GREATEST_SETTING, hT_GREATEST_SETTING, hZ_CS, hO_str, hC_str, hV_str, hT_str, hR_str, hN_X_outside, hNF_LEAST_SETTING, hNF_GREATEST_SETTING⟩ := id hE
  refine lv_aload_n hx hb d_X_table_0 rfl (lv_at hl 0 rfl) ?_
  refine va_get hx hb hT i_X hown hK hP 0 rfl rfl 3 (Nat.le_of_ble_eq_true rfl) (hT _ k_171) (fun _ h => h) rfl d_X_table_1 ?_
  refine lv_aload_n hx hb d_X_table_4 rfl (lv_at hl 0 rfl) ?_
  refine va_get hx hb hT i_X hown hK hP 0 rfl rfl 0 (Nat.le_of_ble_eq_true rfl) (hT _ k_168) (fun _ h => h) rfl d_X_table_5 ?_
  obtain ⟨q1, hq1, hf⟩ := io_b hf
  refine xcVI (wc := (w_Letters_carryOut cI cJ cC a_h_letters a_h_letters_text a_h_letters_trial a_h_letters_trial_kinds a_h_letters_trial_sweets a_h_letters_trial_settings a_h_letters_trial_heaps a_h_now a_h_now_kinds a_h_now_sweets a_h_now_settings a_h_now_heaps z_h_letters_length z_h_letters_text (r_children z_h_letters_trial) (r_strokes z_h_letters_trial) (r_gave z_h_letters_trial) (r_threw z_h_letters_trial) (r_kinds z_h_letters_trial) (r_sweets z_h_letters_trial) (r_settings z_h_letters_trial) (r_heaps z_h_letters_trial) (r_children z_h_now) (r_strokes z_h_now) (r_gave z_h_now) (r_threw z_h_now) (r_kinds z_h_now) (r_sweets z_h_now) (r_settings z_h_now) (r_heaps z_h_now))) (wc' := (w_Letters_carryOut cI cJ cC a_h_letters a_h_letters_text a_h_letters_trial a_h_letters_trial_kinds a_h_letters_trial_sweets a_h_letters_trial_settings a_h_letters_trial_heaps a_h_now a_h_now_kinds a_h_now_sweets a_h_now_settings a_h_now_heaps z_h_letters_length z_h_letters_text (r_children q1.2.1) (r_strokes q1.2.1) (r_gave q1.2.1) (r_threw q1.2.1) (r_kinds q1.2.1) (r_sweets q1.2.1) (r_settings q1.2.1) (r_heaps q1.2.1) (r_children q1.2.2) (r_strokes q1.2.2) (r_gave q1.2.2) (r_threw q1.2.2) (r_kinds q1.2.2) (r_sweets q1.2.2) (r_settings q1.2.2) (r_heaps q1.2.2))) (ws' := (w_X_table cI cJ cC a_h a_h_now a_h_kept a_h_letters a_h_numbers a_h_refusals a_h_mind a_h_parts a_h_past a_h_seating a_h_now_kinds a_h_now_sweets a_h_now_settings a_h_now_heaps a_h_letters_text a_h_letters_trial a_h_letters_trial_kinds a_h_letters_trial_sweets a_h_letters_trial_settings a_h_letters_trial_heaps y_h_isKept y_h_numberCount (r_children q1.2.2) (r_strokes q1.2.2) (r_gave q1.2.2) (r_threw q1.2.2) (r_kinds q1.2.2) (r_sweets q1.2.2) (r_settings q1.2.2) (r_heaps q1.2.2) z_h_letters_length z_h_letters_text (r_children q1.2.1) (r_strokes q1.2.1) (r_gave q1.2.1) (r_threw q1.2.1) (r_kinds q1.2.1) (r_sweets q1.2.1) (r_settings q1.2.1) (r_heaps q1.2.1))) (As := [.ref a_h_now]) (rest := []) hx hb hml hown hT (c_Letters_carryOut (z_h_length := z_h_letters_length) (z_h_text := z_h_letters_text) (z_h_trial := z_h_letters_trial) (z_g1 := z_h_now) a_h_letters a_h_letters_text a_h_letters_trial a_h_letters_trial_kinds a_h_letters_trial_sweets a_h_letters_trial_settings a_h_letters_trial_heaps a_h_now a_h_now_kinds a_h_now_sweets a_h_now_settings a_h_now_heaps hq1) k_218 k_219 k_220 k_3 k_221 hd_Letters_carryOut ⟨Nat.le_of_ble_eq_true rfl, Nat.le_of_ble_eq_true rfl⟩ (xEv_ok _ _ _ _) hE hA hK hP hD hS [6, 7, 8, 9, 10, 11, 12, 1, 2, 3, 4, 5] [0] [0, 8, 9, 10, 11, 12, 1, 2, 3, 4, 5, 6, 7] rfl rfl rfl rfl rfl rfl rfl rfl rfl rfl hl.1 rfl (Nat.le_of_ble_eq_true rfl) ⟨Nat.zero_le _, Nat.zero_le _⟩ d_X_table_8 (fun H locs hP hD hS => ?_)
  refine lv_istore_n (lv' := [(1, .int q1.1), (0, .ref a_h)]) hx hb d_X_table_11 rfl hl (by decide) rfl (fun ls hl => ?_)
  refine lv_aload_n hx hb d_X_table_12 rfl (lv_at hl 1 rfl) ?_
  refine va_get hx hb hT i_X hown hK hP 0 rfl rfl 3 (Nat.le_of_ble_eq_true rfl) (hT _ k_171) (fun _ h => h) rfl d_X_table_13 ?_
  refine lv_iconst (v := 0) hx hb d_X_table_16 (by decide) ?_
  refine va_put (ty := .int) hx hb hT i_Letters t_Letters t_Letters_ok n_Letters hown hK hP hD hS 6 rfl rfl 0 (Nat.le_of_ble_eq_true rfl) (hT _ k_87) (fun _ h => h) rfl rfl rfl rfl (Nat.le_of_ble_eq_true rfl) d_X_table_17 (fun H locs hP hD hS => ?_)
  have hP : va_P D classes (w_X_table cI cJ cC a_h a_h_now a_h_kept a_h_letters a_h_numbers a_h_refusals a_h_mind a_h_parts a_h_past a_h_seating a_h_now_kinds a_h_now_sweets a_h_now_settings a_h_now_heaps a_h_letters_text a_h_letters_trial a_h_letters_trial_kinds a_h_letters_trial_sweets a_h_letters_trial_settings a_h_letters_trial_heaps y_h_isKept y_h_numberCount (r_children q1.2.2) (r_strokes q1.2.2) (r_gave q1.2.2) (r_threw q1.2.2) (r_kinds q1.2.2) (r_sweets q1.2.2) (r_settings q1.2.2) (r_heaps q1.2.2) 0 z_h_letters_text (r_children q1.2.1) (r_strokes q1.2.1) (r_gave q1.2.1) (r_threw q1.2.1) (r_kinds q1.2.1) (r_sweets q1.2.1) (r_settings q1.2.1) (r_heaps q1.2.1)) H := hP
  have hD : va_D A (w_X_table cI cJ cC a_h a_h_now a_h_kept a_h_letters a_h_numbers a_h_refusals a_h_mind a_h_parts a_h_past a_h_seating a_h_now_kinds a_h_now_sweets a_h_now_settings a_h_now_heaps a_h_letters_text a_h_letters_trial a_h_letters_trial_kinds a_h_letters_trial_sweets a_h_letters_trial_settings a_h_letters_trial_heaps y_h_isKept y_h_numberCount (r_children q1.2.2) (r_strokes q1.2.2) (r_gave q1.2.2) (r_threw q1.2.2) (r_kinds q1.2.2) (r_sweets q1.2.2) (r_settings q1.2.2) (r_heaps q1.2.2) 0 z_h_letters_text (r_children q1.2.1) (r_strokes q1.2.1) (r_gave q1.2.1) (r_threw q1.2.1) (r_kinds q1.2.1) (r_sweets q1.2.1) (r_settings q1.2.1) (r_heaps q1.2.1)) := hD
  refine lv_iload_n hx hb d_X_table_20 rfl (lv_at hl 0 rfl) ?_
  have hq := Option.some.inj hf
  subst hq
  exact hret _ _ _ _ _ d_X_table_21 rfl rfl hP hD hS
abbrev w_X_child (cI cJ cC : ClassId) (a_h a_h_now a_h_kept a_h_letters a_h_numbers a_h_refusals a_h_mind a_h_parts a_h_past a_h_seating a_h_now_kinds a_h_now_sweets a_h_now_settings a_h_now_heaps : Nat) (y_h_isKept : Int32) (y_h_numberCount : Int32) (p_h_now_children : Int32) (p_h_now_strokes : Int32) (p_h_now_gave : Int32) (p_h_now_threw : Int32) (p_h_now_kinds : (Nat → Int32)) (p_h_now_sweets : (Nat → Int32)) (p_h_now_settings : (Nat → Int32)) (p_h_refusals : (Nat → Int32)) : va_W := [(a_h, .inr (0, [.ref a_h_now, .ref a_h_kept, .int y_h_isKept, .ref a_h_letters, .ref a_h_numbers, .int y_h_numberCount, .ref a_h_refusals, .ref a_h_mind, .ref a_h_parts, .ref a_h_past, .ref a_h_seating])), (a_h_now, .inr (1, [.ref a_h_now_kinds, .ref a_h_now_sweets, .ref a_h_now_settings, .int p_h_now_children, .int p_h_now_strokes, .int p_h_now_gave, .int p_h_now_threw, .ref a_h_now_heaps])), (a_h_now_kinds, .inl (cI, (8, .inl p_h_now_kinds))), (a_h_now_sweets, .inl (cI, (8, .inl p_h_now_sweets))), (a_h_now_settings, .inl (cI, (3, .inl p_h_now_settings))), (a_h_refusals, .inl (cI, (7, .inl p_h_refusals)))]
theorem d_X_child_0 : decode b_X_child 0 = .ok (.aload_n 0, 1) := by decide +kernel
theorem d_X_child_1 : decode b_X_child 1 = .ok (.getfield 10, 3) := by decide +kernel
theorem d_X_child_4 : decode b_X_child 4 = .ok (.iload_n 1, 1) := by decide +kernel
theorem d_X_child_5 : decode b_X_child 5 = .ok (.invokevirtual 84, 3) := by decide +kernel
theorem d_X_child_8 : decode b_X_child 8 = .ok (.ifCond .ne 9, 3) := by decide +kernel
theorem d_X_child_11 : decode b_X_child 11 = .ok (.aload_n 0, 1) := by decide +kernel
theorem d_X_child_12 : decode b_X_child 12 = .ok (.iconst (-1), 1) := by decide +kernel
theorem d_X_child_13 : decode b_X_child 13 = .ok (.invokevirtual 69, 3) := by decide +kernel
theorem d_X_child_16 : decode b_X_child 16 = .ok (.ireturn, 1) := by decide +kernel
theorem d_X_child_17 : decode b_X_child 17 = .ok (.iload_n 2, 1) := by decide +kernel
theorem d_X_child_18 : decode b_X_child 18 = .ok (.tableswitch 68 0 3 #[30, 40, 50, 59], 30) := by decide +kernel
theorem d_X_child_48 : decode b_X_child 48 = .ok (.aload_n 0, 1) := by decide +kernel
theorem d_X_child_49 : decode b_X_child 49 = .ok (.getfield 10, 3) := by decide +kernel
theorem d_X_child_52 : decode b_X_child 52 = .ok (.getfield 88, 3) := by decide +kernel
theorem d_X_child_55 : decode b_X_child 55 = .ok (.iload_n 1, 1) := by decide +kernel
theorem d_X_child_56 : decode b_X_child 56 = .ok (.iaload, 1) := by decide +kernel
theorem d_X_child_57 : decode b_X_child 57 = .ok (.ireturn, 1) := by decide +kernel
theorem d_X_child_58 : decode b_X_child 58 = .ok (.aload_n 0, 1) := by decide +kernel
theorem d_X_child_59 : decode b_X_child 59 = .ok (.getfield 10, 3) := by decide +kernel
theorem d_X_child_62 : decode b_X_child 62 = .ok (.getfield 91, 3) := by decide +kernel
theorem d_X_child_65 : decode b_X_child 65 = .ok (.iload_n 1, 1) := by decide +kernel
theorem d_X_child_66 : decode b_X_child 66 = .ok (.iaload, 1) := by decide +kernel
theorem d_X_child_67 : decode b_X_child 67 = .ok (.ireturn, 1) := by decide +kernel
theorem d_X_child_68 : decode b_X_child 68 = .ok (.aload_n 0, 1) := by decide +kernel
theorem d_X_child_69 : decode b_X_child 69 = .ok (.getfield 10, 3) := by decide +kernel
theorem d_X_child_72 : decode b_X_child 72 = .ok (.iload_n 1, 1) := by decide +kernel
theorem d_X_child_73 : decode b_X_child 73 = .ok (.invokevirtual 94, 3) := by decide +kernel
theorem d_X_child_76 : decode b_X_child 76 = .ok (.ireturn, 1) := by decide +kernel
theorem d_X_child_77 : decode b_X_child 77 = .ok (.aload_n 0, 1) := by decide +kernel
theorem d_X_child_78 : decode b_X_child 78 = .ok (.getfield 10, 3) := by decide +kernel
theorem d_X_child_81 : decode b_X_child 81 = .ok (.iload_n 1, 1) := by decide +kernel
theorem d_X_child_82 : decode b_X_child 82 = .ok (.invokevirtual 97, 3) := by decide +kernel
theorem d_X_child_85 : decode b_X_child 85 = .ok (.ireturn, 1) := by decide +kernel
theorem d_X_child_86 : decode b_X_child 86 = .ok (.aload_n 0, 1) := by decide +kernel
theorem d_X_child_87 : decode b_X_child 87 = .ok (.bipush (-2), 2) := by decide +kernel
theorem d_X_child_89 : decode b_X_child 89 = .ok (.invokevirtual 69, 3) := by decide +kernel
theorem d_X_child_92 : decode b_X_child 92 = .ok (.ireturn, 1) := by decide +kernel
set_option maxHeartbeats 4000000 in
set_option maxRecDepth 100000 in
theorem c_X_child {l : Launch} {D : va_G} {cI cJ cC : ClassId} (a_h a_h_now a_h_kept a_h_letters a_h_numbers a_h_refusals a_h_mind a_h_parts a_h_past a_h_seating a_h_now_kinds a_h_now_sweets a_h_now_settings a_h_now_heaps : Nat) (y_h_isKept : Int32) (y_h_numberCount : Int32) {z_h_now : RS} {z_h_refusals : (Nat → Int32)} {x1 : Int32} {x2 : Int32} {q : Int32 × (Nat → Int32)} (hf : f_X_child z_h_now z_h_refusals x1 x2 = some q) : xI l y_X_child b_X_child 3 .int 3 66 D (tyK cI cJ cC) xE0 [.ref a_h, .int x1, .int x2] (w_X_child cI cJ cC a_h a_h_now a_h_kept a_h_letters a_h_numbers a_h_refusals a_h_mind a_h_parts a_h_past a_h_seating a_h_now_kinds a_h_now_sweets a_h_now_settings a_h_now_heaps y_h_isKept y_h_numberCount (r_children z_h_now) (r_strokes z_h_now) (r_gave z_h_now) (r_threw z_h_now) (r_kinds z_h_now) (r_sweets z_h_now) (r_settings z_h_now) z_h_refusals) q.1 (w_X_child cI cJ cC a_h a_h_now a_h_kept a_h_letters a_h_numbers a_h_refusals a_h_mind a_h_parts a_h_past a_h_seating a_h_now_kinds a_h_now_sweets a_h_now_settings a_h_now_heaps y_h_isKept y_h_numberCount (r_children z_h_now) (r_strokes z_h_now) (r_gave z_h_now) (r_threw z_h_now) (r_kinds z_h_now) (r_sweets z_h_now) (r_settings z_h_now) q.2) := by
  refine xI_of (by decide) (Nat.le_of_ble_eq_true rfl) ?_
  intro p e s m args below meth c A Q hx hb hml hown hT hA hP hD hK hS hE hret ls hl
  have hown : s.vm.findClass R_X = some m.cls := hown
  have hl : lv_has ls 3 [(0, .ref a_h), (1, .int x1), (2, .int x2)] := hl
  unfold f_X_child at hf
  refine lv_aload_n hx hb d_X_child_0 rfl (lv_at hl 0 rfl) ?_
  refine va_get hx hb hT i_X hown hK hP 0 rfl rfl 0 (Nat.le_of_ble_eq_true rfl) (hT _ k_168) (fun _ h => h) rfl d_X_child_1 ?_
  refine lv_iload_n hx hb d_X_child_4 rfl (lv_at hl 1 rfl) ?_
  obtain ⟨q1, hq1, hf⟩ := io_b hf
  refine xcVI (wc := (w_Ring_has cI cJ cC a_h_now a_h_now_kinds a_h_now_sweets a_h_now_settings a_h_now_heaps (r_children z_h_now) (r_strokes z_h_now) (r_gave z_h_now) (r_threw z_h_now))) (wc' := (w_Ring_has cI cJ cC a_h_now a_h_now_kinds a_h_now_sweets a_h_now_settings a_h_now_heaps (r_children z_h_now) (r_strokes z_h_now) (r_gave z_h_now) (r_threw z_h_now))) (ws' := (w_X_child cI cJ cC a_h a_h_now a_h_kept a_h_letters a_h_numbers a_h_refusals a_h_mind a_h_parts a_h_past a_h_seating a_h_now_kinds a_h_now_sweets a_h_now_settings a_h_now_heaps y_h_isKept y_h_numberCount (r_children z_h_now) (r_strokes z_h_now) (r_gave z_h_now) (r_threw z_h_now) (r_kinds z_h_now) (r_sweets z_h_now) (r_settings z_h_now) z_h_refusals)) (As := [.int x1]) (rest := []) hx hb hml hown hT (c_Ring_has (z_h := z_h_now) a_h_now a_h_now_kinds a_h_now_sweets a_h_now_settings a_h_now_heaps hq1) k_364 k_365 k_366 k_2 k_367 hd_Ring_has ⟨Nat.le_of_ble_eq_true rfl, Nat.le_of_ble_eq_true rfl⟩ xE0_ok trivial hA hK hP hD hS [1] [0, 2, 3, 4, 5] [0, 5, 1, 2, 3, 4] rfl rfl rfl rfl rfl rfl rfl rfl rfl rfl hl.1 rfl (Nat.le_of_ble_eq_true rfl) ⟨Nat.zero_le _, Nat.zero_le _⟩ d_X_child_5 (fun H locs hP hD hS => ?_)
  refine lv_if_ne (tgt := 17) hx hb d_X_child_8 (by decide) (fun c2 => ?_) (fun c2 => ?_)
  · have hf := io_f hf c2
    refine lv_iload_n hx hb d_X_child_17 rfl (lv_at hl 2 rfl) ?_
    rcases Decidable.em (x2 = 0) with c3 | c3
    · have hf := io_t hf c3
      refine lv_tableIn (off := 30) (tgt := 48) hx hb d_X_child_18 (by rw [c3]; decide +kernel) (by rw [c3]; decide +kernel) (by rw [c3]; rfl) (by decide) ?_
      refine lv_aload_n hx hb d_X_child_48 rfl (lv_at hl 0 rfl) ?_
      refine va_get hx hb hT i_X hown hK hP 0 rfl rfl 0 (Nat.le_of_ble_eq_true rfl) (hT _ k_168) (fun _ h => h) rfl d_X_child_49 ?_
      refine va_get hx hb hT i_Ring hown hK hP 1 rfl rfl 0 (Nat.le_of_ble_eq_true rfl) (hT _ k_33) (fun _ h => h) rfl d_X_child_52 ?_
      refine lv_iload_n hx hb d_X_child_55 rfl (lv_at hl 1 rfl) ?_
      obtain ⟨c4, hf⟩ := io_n hf
      refine x_iald hx hb hK hP 2 0 rfl rfl (j := x1.toNatClampNeg) rfl c4 d_X_child_56 ?_
      have hq := Option.some.inj hf
      subst hq
      exact hret _ _ _ _ _ d_X_child_57 rfl rfl hP hD hS
    · have hf := io_f hf c3
      rcases Decidable.em (x2 = 1) with c5 | c5
      · have hf := io_t hf c5
        refine lv_tableIn (off := 40) (tgt := 58) hx hb d_X_child_18 (by rw [c5]; decide +kernel) (by rw [c5]; decide +kernel) (by rw [c5]; rfl) (by decide) ?_
        refine lv_aload_n hx hb d_X_child_58 rfl (lv_at hl 0 rfl) ?_
        refine va_get hx hb hT i_X hown hK hP 0 rfl rfl 0 (Nat.le_of_ble_eq_true rfl) (hT _ k_168) (fun _ h => h) rfl d_X_child_59 ?_
        refine va_get hx hb hT i_Ring hown hK hP 1 rfl rfl 1 (Nat.le_of_ble_eq_true rfl) (hT _ k_40) (fun _ h => h) rfl d_X_child_62 ?_
        refine lv_iload_n hx hb d_X_child_65 rfl (lv_at hl 1 rfl) ?_
        obtain ⟨c6, hf⟩ := io_n hf
        refine x_iald hx hb hK hP 3 0 rfl rfl (j := x1.toNatClampNeg) rfl c6 d_X_child_66 ?_
        have hq := Option.some.inj hf
        subst hq
        exact hret _ _ _ _ _ d_X_child_67 rfl rfl hP hD hS
      · have hf := io_f hf c5
        rcases Decidable.em (x2 = 2) with c7 | c7
        · have hf := io_t hf c7
          refine lv_tableIn (off := 50) (tgt := 68) hx hb d_X_child_18 (by rw [c7]; decide +kernel) (by rw [c7]; decide +kernel) (by rw [c7]; rfl) (by decide) ?_
          refine lv_aload_n hx hb d_X_child_68 rfl (lv_at hl 0 rfl) ?_
          refine va_get hx hb hT i_X hown hK hP 0 rfl rfl 0 (Nat.le_of_ble_eq_true rfl) (hT _ k_168) (fun _ h => h) rfl d_X_child_69 ?_
          refine lv_iload_n hx hb d_X_child_72 rfl (lv_at hl 1 rfl) ?_
          obtain ⟨q8, hq8, hf⟩ := io_b hf
          refine xcVI (wc := (w_Ring_gift cI cJ cC a_h_now a_h_now_kinds a_h_now_sweets a_h_now_settings a_h_now_heaps (r_children z_h_now) (r_strokes z_h_now) (r_gave z_h_now) (r_threw z_h_now) (r_kinds z_h_now) (r_sweets z_h_now) (r_settings z_h_now))) (wc' := (w_Ring_gift cI cJ cC a_h_now a_h_now_kinds a_h_now_sweets a_h_now_settings a_h_now_heaps (r_children z_h_now) (r_strokes z_h_now) (r_gave z_h_now) (r_threw z_h_now) (r_kinds z_h_now) (r_sweets z_h_now) (r_settings z_h_now))) (ws' := (w_X_child cI cJ cC a_h a_h_now a_h_kept a_h_letters a_h_numbers a_h_refusals a_h_mind a_h_parts a_h_past a_h_seating a_h_now_kinds a_h_now_sweets a_h_now_settings a_h_now_heaps y_h_isKept y_h_numberCount (r_children z_h_now) (r_strokes z_h_now) (r_gave z_h_now) (r_threw z_h_now) (r_kinds z_h_now) (r_sweets z_h_now) (r_settings z_h_now) z_h_refusals)) (As := [.int x1]) (rest := []) hx hb hml hown hT (c_Ring_gift (z_h := z_h_now) a_h_now a_h_now_kinds a_h_now_sweets a_h_now_settings a_h_now_heaps hq8) k_368 k_369 k_370 k_2 k_371 hd_Ring_gift ⟨Nat.le_of_ble_eq_true rfl, Nat.le_of_ble_eq_true rfl⟩ xE0_ok trivial hA hK hP hD hS [1, 2, 3, 4] [0, 5] [0, 2, 3, 4, 5, 1] rfl rfl rfl rfl rfl rfl rfl rfl rfl rfl hl.1 rfl (Nat.le_of_ble_eq_true rfl) ⟨Nat.zero_le _, Nat.zero_le _⟩ d_X_child_73 (fun H locs hP hD hS => ?_)
          have hq := Option.some.inj hf
          subst hq
          exact hret _ _ _ _ _ d_X_child_76 rfl rfl hP hD hS
        · have hf := io_f hf c7
          rcases Decidable.em (x2 = 3) with c9 | c9
          · have hf := io_t hf c9
            refine lv_tableIn (off := 59) (tgt := 77) hx hb d_X_child_18 (by rw [c9]; decide +kernel) (by rw [c9]; decide +kernel) (by rw [c9]; rfl) (by decide) ?_
            refine lv_aload_n hx hb d_X_child_77 rfl (lv_at hl 0 rfl) ?_
            refine va_get hx hb hT i_X hown hK hP 0 rfl rfl 0 (Nat.le_of_ble_eq_true rfl) (hT _ k_168) (fun _ h => h) rfl d_X_child_78 ?_
            refine lv_iload_n hx hb d_X_child_81 rfl (lv_at hl 1 rfl) ?_
            obtain ⟨q10, hq10, hf⟩ := io_b hf
            refine xcVI (wc := (w_Ring_sides cI cJ cC a_h_now a_h_now_kinds a_h_now_sweets a_h_now_settings a_h_now_heaps (r_children z_h_now) (r_strokes z_h_now) (r_gave z_h_now) (r_threw z_h_now) (r_kinds z_h_now) (r_sweets z_h_now) (r_settings z_h_now))) (wc' := (w_Ring_sides cI cJ cC a_h_now a_h_now_kinds a_h_now_sweets a_h_now_settings a_h_now_heaps (r_children z_h_now) (r_strokes z_h_now) (r_gave z_h_now) (r_threw z_h_now) (r_kinds z_h_now) (r_sweets z_h_now) (r_settings z_h_now))) (ws' := (w_X_child cI cJ cC a_h a_h_now a_h_kept a_h_letters a_h_numbers a_h_refusals a_h_mind a_h_parts a_h_past a_h_seating a_h_now_kinds a_h_now_sweets a_h_now_settings a_h_now_heaps y_h_isKept y_h_numberCount (r_children z_h_now) (r_strokes z_h_now) (r_gave z_h_now) (r_threw z_h_now) (r_kinds z_h_now) (r_sweets z_h_now) (r_settings z_h_now) z_h_refusals)) (As := [.int x1]) (rest := []) hx hb hml hown hT (c_Ring_sides (z_h := z_h_now) a_h_now a_h_now_kinds a_h_now_sweets a_h_now_settings a_h_now_heaps hq10) k_376 k_377 k_378 k_2 k_379 hd_Ring_sides ⟨Nat.le_of_ble_eq_true rfl, Nat.le_of_ble_eq_true rfl⟩ xE0_ok trivial hA hK hP hD hS [1, 2, 3, 4] [0, 5] [0, 2, 3, 4, 5, 1] rfl rfl rfl rfl rfl rfl rfl rfl rfl rfl hl.1 rfl (Nat.le_of_ble_eq_true rfl) ⟨Nat.zero_le _, Nat.zero_le _⟩ d_X_child_82 (fun H locs hP hD hS => ?_)
            have hq := Option.some.inj hf
            subst hq
            exact hret _ _ _ _ _ d_X_child_85 rfl rfl hP hD hS
          · have hf := io_f hf c9
            refine lv_tableOut (tgt := 86) hx hb d_X_child_18 (by have e0 := lv_neT (a := 0) c3 (by decide +kernel); have e1 := lv_neT (a := 1) c5 (by decide +kernel); have e2 := lv_neT (a := 2) c7 (by decide +kernel); have e3 := lv_neT (a := 3) c9 (by decide +kernel); omega) (by decide) ?_
            refine lv_aload_n hx hb d_X_child_86 rfl (lv_at hl 0 rfl) ?_
            refine lv_bipush (v := (-2)) hx hb d_X_child_87 (by decide) ?_
            obtain ⟨q11, hq11, hf⟩ := io_b hf
            refine xcVI (wc := (w_X_refuse cI cJ cC a_h a_h_now a_h_kept a_h_letters a_h_numbers a_h_refusals a_h_mind a_h_parts a_h_past a_h_seating y_h_isKept y_h_numberCount z_h_refusals)) (wc' := (w_X_refuse cI cJ cC a_h a_h_now a_h_kept a_h_letters a_h_numbers a_h_refusals a_h_mind a_h_parts a_h_past a_h_seating y_h_isKept y_h_numberCount q11.2)) (ws' := (w_X_child cI cJ cC a_h a_h_now a_h_kept a_h_letters a_h_numbers a_h_refusals a_h_mind a_h_parts a_h_past a_h_seating a_h_now_kinds a_h_now_sweets a_h_now_settings a_h_now_heaps y_h_isKept y_h_numberCount (r_children z_h_now) (r_strokes z_h_now) (r_gave z_h_now) (r_threw z_h_now) (r_kinds z_h_now) (r_sweets z_h_now) (r_settings z_h_now) q11.2)) (As := [.int (-2)]) (rest := []) hx hb hml hown hT (c_X_refuse (z_h_refusals := z_h_refusals) a_h a_h_now a_h_kept a_h_letters a_h_numbers a_h_refusals a_h_mind a_h_parts a_h_past a_h_seating y_h_isKept y_h_numberCount hq11) k_206 k_208 ks_0 k_1 k_209 hd_X_refuse ⟨Nat.le_of_ble_eq_true rfl, Nat.le_of_ble_eq_true rfl⟩ xE0_ok trivial hA hK hP hD hS [0, 5] [1, 2, 3, 4] [4, 0, 1, 2, 3, 5] rfl rfl rfl rfl rfl rfl rfl rfl rfl rfl hl.1 rfl (Nat.le_of_ble_eq_true rfl) ⟨Nat.zero_le _, Nat.zero_le _⟩ d_X_child_89 (fun H locs hP hD hS => ?_)
            have hq := Option.some.inj hf
            subst hq
            exact hret _ _ _ _ _ d_X_child_92 rfl rfl hP hD hS
  · have hf := io_t hf c2
    refine lv_aload_n hx hb d_X_child_11 rfl (lv_at hl 0 rfl) ?_
    refine lv_iconst (v := (-1)) hx hb d_X_child_12 (by decide) ?_
    obtain ⟨q12, hq12, hf⟩ := io_b hf
    refine xcVI (wc := (w_X_refuse cI cJ cC a_h a_h_now a_h_kept a_h_letters a_h_numbers a_h_refusals a_h_mind a_h_parts a_h_past a_h_seating y_h_isKept y_h_numberCount z_h_refusals)) (wc' := (w_X_refuse cI cJ cC a_h a_h_now a_h_kept a_h_letters a_h_numbers a_h_refusals a_h_mind a_h_parts a_h_past a_h_seating y_h_isKept y_h_numberCount q12.2)) (ws' := (w_X_child cI cJ cC a_h a_h_now a_h_kept a_h_letters a_h_numbers a_h_refusals a_h_mind a_h_parts a_h_past a_h_seating a_h_now_kinds a_h_now_sweets a_h_now_settings a_h_now_heaps y_h_isKept y_h_numberCount (r_children z_h_now) (r_strokes z_h_now) (r_gave z_h_now) (r_threw z_h_now) (r_kinds z_h_now) (r_sweets z_h_now) (r_settings z_h_now) q12.2)) (As := [.int (-1)]) (rest := []) hx hb hml hown hT (c_X_refuse (z_h_refusals := z_h_refusals) a_h a_h_now a_h_kept a_h_letters a_h_numbers a_h_refusals a_h_mind a_h_parts a_h_past a_h_seating y_h_isKept y_h_numberCount hq12) k_206 k_208 ks_0 k_1 k_209 hd_X_refuse ⟨Nat.le_of_ble_eq_true rfl, Nat.le_of_ble_eq_true rfl⟩ xE0_ok trivial hA hK hP hD hS [0, 5] [1, 2, 3, 4] [4, 0, 1, 2, 3, 5] rfl rfl rfl rfl rfl rfl rfl rfl rfl rfl hl.1 rfl (Nat.le_of_ble_eq_true rfl) ⟨Nat.zero_le _, Nat.zero_le _⟩ d_X_child_13 (fun H locs hP hD hS => ?_)
    have hq := Option.some.inj hf
    subst hq
    exact hret _ _ _ _ _ d_X_child_16 rfl rfl hP hD hS
abbrev w_X_put (cI cJ cC : ClassId) (a_h a_h_now a_h_kept a_h_letters a_h_numbers a_h_refusals a_h_mind a_h_parts a_h_past a_h_seating a_h_now_kinds a_h_now_sweets a_h_now_settings a_h_now_heaps : Nat) (y_h_isKept : Int32) (y_h_numberCount : Int32) (p_h_now_children : Int32) (p_h_now_strokes : Int32) (p_h_now_gave : Int32) (p_h_now_threw : Int32) (p_h_now_kinds : (Nat → Int32)) (p_h_now_sweets : (Nat → Int32)) (p_h_now_settings : (Nat → Int32)) (p_h_now_heaps : (Nat → Int32)) (p_h_refusals : (Nat → Int32)) : va_W := [(a_h, .inr (0, [.ref a_h_now, .ref a_h_kept, .int y_h_isKept, .ref a_h_letters, .ref a_h_numbers, .int y_h_numberCount, .ref a_h_refusals, .ref a_h_mind, .ref a_h_parts, .ref a_h_past, .ref a_h_seating])), (a_h_now, .inr (1, [.ref a_h_now_kinds, .ref a_h_now_sweets, .ref a_h_now_settings, .int p_h_now_children, .int p_h_now_strokes, .int p_h_now_gave, .int p_h_now_threw, .ref a_h_now_heaps])), (a_h_now_kinds, .inl (cI, (8, .inl p_h_now_kinds))), (a_h_now_sweets, .inl (cI, (8, .inl p_h_now_sweets))), (a_h_now_settings, .inl (cI, (3, .inl p_h_now_settings))), (a_h_now_heaps, .inl (cI, (8, .inl p_h_now_heaps))), (a_h_refusals, .inl (cI, (7, .inl p_h_refusals)))]
theorem d_X_put_0 : decode b_X_put 0 = .ok (.aload_n 0, 1) := by decide +kernel
theorem d_X_put_1 : decode b_X_put 1 = .ok (.getfield 10, 3) := by decide +kernel
theorem d_X_put_4 : decode b_X_put 4 = .ok (.iload_n 1, 1) := by decide +kernel
theorem d_X_put_5 : decode b_X_put 5 = .ok (.invokevirtual 84, 3) := by decide +kernel
theorem d_X_put_8 : decode b_X_put 8 = .ok (.ifCond .eq 14, 3) := by decide +kernel
theorem d_X_put_11 : decode b_X_put 11 = .ok (.iload_n 2, 1) := by decide +kernel
theorem d_X_put_12 : decode b_X_put 12 = .ok (.iconst 0, 1) := by decide +kernel
theorem d_X_put_13 : decode b_X_put 13 = .ok (.sipush 999, 3) := by decide +kernel
theorem d_X_put_16 : decode b_X_put 16 = .ok (.invokestatic 100, 3) := by decide +kernel
theorem d_X_put_19 : decode b_X_put 19 = .ok (.goto 4, 3) := by decide +kernel
theorem d_X_put_22 : decode b_X_put 22 = .ok (.iconst (-1), 1) := by decide +kernel
theorem d_X_put_23 : decode b_X_put 23 = .ok (.istore_n 3, 1) := by decide +kernel
theorem d_X_put_24 : decode b_X_put 24 = .ok (.iload_n 3, 1) := by decide +kernel
theorem d_X_put_25 : decode b_X_put 25 = .ok (.ifCond .eq 9, 3) := by decide +kernel
theorem d_X_put_28 : decode b_X_put 28 = .ok (.aload_n 0, 1) := by decide +kernel
theorem d_X_put_29 : decode b_X_put 29 = .ok (.iload_n 3, 1) := by decide +kernel
theorem d_X_put_30 : decode b_X_put 30 = .ok (.invokevirtual 69, 3) := by decide +kernel
theorem d_X_put_33 : decode b_X_put 33 = .ok (.ireturn, 1) := by decide +kernel
theorem d_X_put_34 : decode b_X_put 34 = .ok (.aload_n 0, 1) := by decide +kernel
theorem d_X_put_35 : decode b_X_put 35 = .ok (.getfield 10, 3) := by decide +kernel
theorem d_X_put_38 : decode b_X_put 38 = .ok (.getfield 91, 3) := by decide +kernel
theorem d_X_put_41 : decode b_X_put 41 = .ok (.iload_n 1, 1) := by decide +kernel
theorem d_X_put_42 : decode b_X_put 42 = .ok (.iaload, 1) := by decide +kernel
theorem d_X_put_43 : decode b_X_put 43 = .ok (.istore 4, 2) := by decide +kernel
theorem d_X_put_45 : decode b_X_put 45 = .ok (.aload_n 0, 1) := by decide +kernel
theorem d_X_put_46 : decode b_X_put 46 = .ok (.getfield 10, 3) := by decide +kernel
theorem d_X_put_49 : decode b_X_put 49 = .ok (.getfield 91, 3) := by decide +kernel
theorem d_X_put_52 : decode b_X_put 52 = .ok (.iload_n 1, 1) := by decide +kernel
theorem d_X_put_53 : decode b_X_put 53 = .ok (.iload_n 2, 1) := by decide +kernel
theorem d_X_put_54 : decode b_X_put 54 = .ok (.iastore, 1) := by decide +kernel
theorem d_X_put_55 : decode b_X_put 55 = .ok (.iload 4, 2) := by decide +kernel
theorem d_X_put_57 : decode b_X_put 57 = .ok (.ireturn, 1) := by decide +kernel
set_option maxHeartbeats 4000000 in
set_option maxRecDepth 100000 in
theorem c_X_put {l : Launch} {D : va_G} {cI cJ cC : ClassId} (a_h a_h_now a_h_kept a_h_letters a_h_numbers a_h_refusals a_h_mind a_h_parts a_h_past a_h_seating a_h_now_kinds a_h_now_sweets a_h_now_settings a_h_now_heaps : Nat) (y_h_isKept : Int32) (y_h_numberCount : Int32) {z_h_now : RS} {z_h_refusals : (Nat → Int32)} {x1 : Int32} {x2 : Int32} {q : Int32 × RS × (Nat → Int32)} (hf : f_X_put z_h_now z_h_refusals x1 x2 = some q) : xI l y_X_put b_X_put 5 .int 1 22 D (tyK cI cJ cC) xE0 [.ref a_h, .int x1, .int x2] (w_X_put cI cJ cC a_h a_h_now a_h_kept a_h_letters a_h_numbers a_h_refusals a_h_mind a_h_parts a_h_past a_h_seating a_h_now_kinds a_h_now_sweets a_h_now_settings a_h_now_heaps y_h_isKept y_h_numberCount (r_children z_h_now) (r_strokes z_h_now) (r_gave z_h_now) (r_threw z_h_now) (r_kinds z_h_now) (r_sweets z_h_now) (r_settings z_h_now) (r_heaps z_h_now) z_h_refusals) q.1 (w_X_put cI cJ cC a_h a_h_now a_h_kept a_h_letters a_h_numbers a_h_refusals a_h_mind a_h_parts a_h_past a_h_seating a_h_now_kinds a_h_now_sweets a_h_now_settings a_h_now_heaps y_h_isKept y_h_numberCount (r_children q.2.1) (r_strokes q.2.1) (r_gave q.2.1) (r_threw q.2.1) (r_kinds q.2.1) (r_sweets q.2.1) (r_settings q.2.1) (r_heaps q.2.1) q.2.2) := by
  refine xI_of (by decide) (Nat.le_of_ble_eq_true rfl) ?_
  intro p e s m args below meth c A Q hx hb hml hown hT hA hP hD hK hS hE hret ls hl
  have hown : s.vm.findClass R_X = some m.cls := hown
  have hl : lv_has ls 5 [(0, .ref a_h), (1, .int x1), (2, .int x2)] := hl
  unfold f_X_put at hf
  refine lv_aload_n hx hb d_X_put_0 rfl (lv_at hl 0 rfl) ?_
  refine va_get hx hb hT i_X hown hK hP 0 rfl rfl 0 (Nat.le_of_ble_eq_true rfl) (hT _ k_168) (fun _ h => h) rfl d_X_put_1 ?_
  refine lv_iload_n hx hb d_X_put_4 rfl (lv_at hl 1 rfl) ?_
  obtain ⟨q1, hq1, hf⟩ := io_b hf
  refine xcVI (wc := (w_Ring_has cI cJ cC a_h_now a_h_now_kinds a_h_now_sweets a_h_now_settings a_h_now_heaps (r_children z_h_now) (r_strokes z_h_now) (r_gave z_h_now) (r_threw z_h_now))) (wc' := (w_Ring_has cI cJ cC a_h_now a_h_now_kinds a_h_now_sweets a_h_now_settings a_h_now_heaps (r_children z_h_now) (r_strokes z_h_now) (r_gave z_h_now) (r_threw z_h_now))) (ws' := (w_X_put cI cJ cC a_h a_h_now a_h_kept a_h_letters a_h_numbers a_h_refusals a_h_mind a_h_parts a_h_past a_h_seating a_h_now_kinds a_h_now_sweets a_h_now_settings a_h_now_heaps y_h_isKept y_h_numberCount (r_children z_h_now) (r_strokes z_h_now) (r_gave z_h_now) (r_threw z_h_now) (r_kinds z_h_now) (r_sweets z_h_now) (r_settings z_h_now) (r_heaps z_h_now) z_h_refusals)) (As := [.int x1]) (rest := []) hx hb hml hown hT (c_Ring_has (z_h := z_h_now) a_h_now a_h_now_kinds a_h_now_sweets a_h_now_settings a_h_now_heaps hq1) k_364 k_365 k_366 k_2 k_367 hd_Ring_has ⟨Nat.le_of_ble_eq_true rfl, Nat.le_of_ble_eq_true rfl⟩ xE0_ok trivial hA hK hP hD hS [1] [0, 2, 3, 4, 5, 6] [0, 6, 1, 2, 3, 4, 5] rfl rfl rfl rfl rfl rfl rfl rfl rfl rfl hl.1 rfl (Nat.le_of_ble_eq_true rfl) ⟨Nat.zero_le _, Nat.zero_le _⟩ d_X_put_5 (fun H locs hP hD hS => ?_)
  refine lv_if_eq (tgt := 22) hx hb d_X_put_8 (by decide) (fun c2 => ?_) (fun c2 => ?_)
  · have hf := io_t hf c2
    refine lv_iconst (v := (-1)) hx hb d_X_put_22 (by decide) ?_
    refine lv_istore_n (lv' := [(3, .int (-1)), (0, .ref a_h), (1, .int x1), (2, .int x2)]) hx hb d_X_put_23 rfl hl (by decide) rfl (fun ls hl => ?_)
    refine lv_iload_n hx hb d_X_put_24 rfl (lv_at hl 0 rfl) ?_
    refine lv_if_eq (tgt := 34) hx hb d_X_put_25 (by decide) (fun c => absurd c (show ¬ ((-1) : Int32) = 0 from by decide +kernel)) (fun _ => ?_)
    refine lv_aload_n hx hb d_X_put_28 rfl (lv_at hl 1 rfl) ?_
    refine lv_iload_n hx hb d_X_put_29 rfl (lv_at hl 0 rfl) ?_
    obtain ⟨q3, hq3, hf⟩ := io_b hf
    refine xcVI (wc := (w_X_refuse cI cJ cC a_h a_h_now a_h_kept a_h_letters a_h_numbers a_h_refusals a_h_mind a_h_parts a_h_past a_h_seating y_h_isKept y_h_numberCount z_h_refusals)) (wc' := (w_X_refuse cI cJ cC a_h a_h_now a_h_kept a_h_letters a_h_numbers a_h_refusals a_h_mind a_h_parts a_h_past a_h_seating y_h_isKept y_h_numberCount q3.2)) (ws' := (w_X_put cI cJ cC a_h a_h_now a_h_kept a_h_letters a_h_numbers a_h_refusals a_h_mind a_h_parts a_h_past a_h_seating a_h_now_kinds a_h_now_sweets a_h_now_settings a_h_now_heaps y_h_isKept y_h_numberCount (r_children z_h_now) (r_strokes z_h_now) (r_gave z_h_now) (r_threw z_h_now) (r_kinds z_h_now) (r_sweets z_h_now) (r_settings z_h_now) (r_heaps z_h_now) q3.2)) (As := [.int (-1)]) (rest := []) hx hb hml hown hT (c_X_refuse (z_h_refusals := z_h_refusals) a_h a_h_now a_h_kept a_h_letters a_h_numbers a_h_refusals a_h_mind a_h_parts a_h_past a_h_seating y_h_isKept y_h_numberCount hq3) k_206 k_208 ks_0 k_1 k_209 hd_X_refuse ⟨Nat.le_of_ble_eq_true rfl, Nat.le_of_ble_eq_true rfl⟩ xE0_ok trivial hA hK hP hD hS [0, 6] [1, 2, 3, 4, 5] [5, 0, 1, 2, 3, 4, 6] rfl rfl rfl rfl rfl rfl rfl rfl rfl rfl hl.1 rfl (Nat.le_of_ble_eq_true rfl) ⟨Nat.zero_le _, Nat.zero_le _⟩ d_X_put_30 (fun H locs hP hD hS => ?_)
    have hq := Option.some.inj hf
    subst hq
    exact hret _ _ _ _ _ d_X_put_33 rfl rfl hP hD hS
  · have hf := io_f hf c2
    refine lv_iload_n hx hb d_X_put_11 rfl (lv_at hl 2 rfl) ?_
    refine lv_iconst (v := 0) hx hb d_X_put_12 (by decide) ?_
    refine lv_sipush (v := 999) hx hb d_X_put_13 (by decide) ?_
    obtain ⟨q4, hq4, hf⟩ := io_b hf
    refine xcSI (wc := []) (wc' := []) (ws' := (w_X_put cI cJ cC a_h a_h_now a_h_kept a_h_letters a_h_numbers a_h_refusals a_h_mind a_h_parts a_h_past a_h_seating a_h_now_kinds a_h_now_sweets a_h_now_settings a_h_now_heaps y_h_isKept y_h_numberCount (r_children z_h_now) (r_strokes z_h_now) (r_gave z_h_now) (r_threw z_h_now) (r_kinds z_h_now) (r_sweets z_h_now) (r_settings z_h_now) (r_heaps z_h_now) z_h_refusals)) (As := [.int x2, .int 0, .int 999]) (rest := []) hx hb hml hown hT (c_X_outside hq4) k_385 k_357 k_1 k_358 hd_X_outside ⟨Nat.le_of_ble_eq_true rfl, Nat.le_of_ble_eq_true rfl⟩ xE0_ok trivial hA hK hP hD hS [] [0, 1, 2, 3, 4, 5, 6] [0, 1, 2, 3, 4, 5, 6] rfl rfl rfl rfl rfl rfl rfl hl.1 rfl (Nat.le_of_ble_eq_true rfl) ⟨Nat.zero_le _, Nat.zero_le _⟩ d_X_put_16 (fun H locs hP hD hS => ?_)
    refine lv_goto (tgt := 23) hx hb d_X_put_19 (by decide) ?_
    refine lv_istore_n (lv' := [(3, .int q4), (0, .ref a_h), (1, .int x1), (2, .int x2)]) hx hb d_X_put_23 rfl hl (by decide) rfl (fun ls hl => ?_)
    refine lv_iload_n hx hb d_X_put_24 rfl (lv_at hl 0 rfl) ?_
    refine lv_if_eq (tgt := 34) hx hb d_X_put_25 (by decide) (fun c5 => ?_) (fun c5 => ?_)
    · have hf := io_t hf c5
      refine lv_aload_n hx hb d_X_put_34 rfl (lv_at hl 1 rfl) ?_
      refine va_get hx hb hT i_X hown hK hP 0 rfl rfl 0 (Nat.le_of_ble_eq_true rfl) (hT _ k_168) (fun _ h => h) rfl d_X_put_35 ?_
      refine va_get hx hb hT i_Ring hown hK hP 1 rfl rfl 1 (Nat.le_of_ble_eq_true rfl) (hT _ k_40) (fun _ h => h) rfl d_X_put_38 ?_
      refine lv_iload_n hx hb d_X_put_41 rfl (lv_at hl 2 rfl) ?_
      obtain ⟨c6, hf⟩ := io_n hf
      refine x_iald hx hb hK hP 3 0 rfl rfl (j := x1.toNatClampNeg) rfl c6 d_X_put_42 ?_
      refine lv_istore (lv' := [(4, .int ((r_sweets z_h_now) x1.toNatClampNeg)), (3, .int q4), (0, .ref a_h), (1, .int x1), (2, .int x2)]) hx hb d_X_put_43 hl (by decide) rfl (fun ls hl => ?_)
      refine lv_aload_n hx hb d_X_put_45 rfl (lv_at hl 2 rfl) ?_
      refine va_get hx hb hT i_X hown hK hP 0 rfl rfl 0 (Nat.le_of_ble_eq_true rfl) (hT _ k_168) (fun _ h => h) rfl d_X_put_46 ?_
      refine va_get hx hb hT i_Ring hown hK hP 1 rfl rfl 1 (Nat.le_of_ble_eq_true rfl) (hT _ k_40) (fun _ h => h) rfl d_X_put_49 ?_
      refine lv_iload_n hx hb d_X_put_52 rfl (lv_at hl 3 rfl) ?_
      refine lv_iload_n hx hb d_X_put_53 rfl (lv_at hl 4 rfl) ?_
      refine x_iast hx hb hK hP hD hS 3 0 rfl rfl (j := x1.toNatClampNeg) rfl c6 d_X_put_54 (fun H locs hP hD hS => ?_)
      have hP : va_P D classes (w_X_put cI cJ cC a_h a_h_now a_h_kept a_h_letters a_h_numbers a_h_refusals a_h_mind a_h_parts a_h_past a_h_seating a_h_now_kinds a_h_now_sweets a_h_now_settings a_h_now_heaps y_h_isKept y_h_numberCount (r_children z_h_now) (r_strokes z_h_now) (r_gave z_h_now) (r_threw z_h_now) (r_kinds z_h_now) (upd (r_sweets z_h_now) x1.toNatClampNeg x2) (r_settings z_h_now) (r_heaps z_h_now) z_h_refusals) H := hP
      have hD : va_D A (w_X_put cI cJ cC a_h a_h_now a_h_kept a_h_letters a_h_numbers a_h_refusals a_h_mind a_h_parts a_h_past a_h_seating a_h_now_kinds a_h_now_sweets a_h_now_settings a_h_now_heaps y_h_isKept y_h_numberCount (r_children z_h_now) (r_strokes z_h_now) (r_gave z_h_now) (r_threw z_h_now) (r_kinds z_h_now) (upd (r_sweets z_h_now) x1.toNatClampNeg x2) (r_settings z_h_now) (r_heaps z_h_now) z_h_refusals) := hD
      refine lv_iload hx hb d_X_put_55 (lv_at hl 0 rfl) ?_
      have hq := Option.some.inj hf
      subst hq
      exact hret _ _ _ _ _ d_X_put_57 rfl rfl hP hD hS
    · have hf := io_f hf c5
      refine lv_aload_n hx hb d_X_put_28 rfl (lv_at hl 1 rfl) ?_
      refine lv_iload_n hx hb d_X_put_29 rfl (lv_at hl 0 rfl) ?_
      obtain ⟨q7, hq7, hf⟩ := io_b hf
      refine xcVI (wc := (w_X_refuse cI cJ cC a_h a_h_now a_h_kept a_h_letters a_h_numbers a_h_refusals a_h_mind a_h_parts a_h_past a_h_seating y_h_isKept y_h_numberCount z_h_refusals)) (wc' := (w_X_refuse cI cJ cC a_h a_h_now a_h_kept a_h_letters a_h_numbers a_h_refusals a_h_mind a_h_parts a_h_past a_h_seating y_h_isKept y_h_numberCount q7.2)) (ws' := (w_X_put cI cJ cC a_h a_h_now a_h_kept a_h_letters a_h_numbers a_h_refusals a_h_mind a_h_parts a_h_past a_h_seating a_h_now_kinds a_h_now_sweets a_h_now_settings a_h_now_heaps y_h_isKept y_h_numberCount (r_children z_h_now) (r_strokes z_h_now) (r_gave z_h_now) (r_threw z_h_now) (r_kinds z_h_now) (r_sweets z_h_now) (r_settings z_h_now) (r_heaps z_h_now) q7.2)) (As := [.int q4]) (rest := []) hx hb hml hown hT (c_X_refuse (z_h_refusals := z_h_refusals) a_h a_h_now a_h_kept a_h_letters a_h_numbers a_h_refusals a_h_mind a_h_parts a_h_past a_h_seating y_h_isKept y_h_numberCount hq7) k_206 k_208 ks_0 k_1 k_209 hd_X_refuse ⟨Nat.le_of_ble_eq_true rfl, Nat.le_of_ble_eq_true rfl⟩ xE0_ok trivial hA hK hP hD hS [0, 6] [1, 2, 3, 4, 5] [5, 0, 1, 2, 3, 4, 6] rfl rfl rfl rfl rfl rfl rfl rfl rfl rfl hl.1 rfl (Nat.le_of_ble_eq_true rfl) ⟨Nat.zero_le _, Nat.zero_le _⟩ d_X_put_30 (fun H locs hP hD hS => ?_)
      have hq := Option.some.inj hf
      subst hq
      exact hret _ _ _ _ _ d_X_put_33 rfl rfl hP hD hS
abbrev w_X_kind (cI cJ cC : ClassId) (a_h a_h_now a_h_kept a_h_letters a_h_numbers a_h_refusals a_h_mind a_h_parts a_h_past a_h_seating a_h_now_kinds a_h_now_sweets a_h_now_settings a_h_now_heaps : Nat) (y_h_isKept : Int32) (y_h_numberCount : Int32) (p_h_now_children : Int32) (p_h_now_strokes : Int32) (p_h_now_gave : Int32) (p_h_now_threw : Int32) (p_h_now_kinds : (Nat → Int32)) (p_h_now_sweets : (Nat → Int32)) (p_h_now_settings : (Nat → Int32)) (p_h_now_heaps : (Nat → Int32)) (p_h_refusals : (Nat → Int32)) : va_W := [(a_h, .inr (0, [.ref a_h_now, .ref a_h_kept, .int y_h_isKept, .ref a_h_letters, .ref a_h_numbers, .int y_h_numberCount, .ref a_h_refusals, .ref a_h_mind, .ref a_h_parts, .ref a_h_past, .ref a_h_seating])), (a_h_now, .inr (1, [.ref a_h_now_kinds, .ref a_h_now_sweets, .ref a_h_now_settings, .int p_h_now_children, .int p_h_now_strokes, .int p_h_now_gave, .int p_h_now_threw, .ref a_h_now_heaps])), (a_h_now_kinds, .inl (cI, (8, .inl p_h_now_kinds))), (a_h_now_sweets, .inl (cI, (8, .inl p_h_now_sweets))), (a_h_now_settings, .inl (cI, (3, .inl p_h_now_settings))), (a_h_now_heaps, .inl (cI, (8, .inl p_h_now_heaps))), (a_h_refusals, .inl (cI, (7, .inl p_h_refusals)))]
theorem d_X_kind_0 : decode b_X_kind 0 = .ok (.aload_n 0, 1) := by decide +kernel
theorem d_X_kind_1 : decode b_X_kind 1 = .ok (.getfield 10, 3) := by decide +kernel
theorem d_X_kind_4 : decode b_X_kind 4 = .ok (.iload_n 1, 1) := by decide +kernel
theorem d_X_kind_5 : decode b_X_kind 5 = .ok (.invokevirtual 84, 3) := by decide +kernel
theorem d_X_kind_8 : decode b_X_kind 8 = .ok (.ifCond .ne 9, 3) := by decide +kernel
theorem d_X_kind_11 : decode b_X_kind 11 = .ok (.aload_n 0, 1) := by decide +kernel
theorem d_X_kind_12 : decode b_X_kind 12 = .ok (.iconst (-1), 1) := by decide +kernel
theorem d_X_kind_13 : decode b_X_kind 13 = .ok (.invokevirtual 69, 3) := by decide +kernel
theorem d_X_kind_16 : decode b_X_kind 16 = .ok (.ireturn, 1) := by decide +kernel
theorem d_X_kind_17 : decode b_X_kind 17 = .ok (.iload_n 2, 1) := by decide +kernel
theorem d_X_kind_18 : decode b_X_kind 18 = .ok (.ifCond .lt 9, 3) := by decide +kernel
theorem d_X_kind_21 : decode b_X_kind 21 = .ok (.iload_n 2, 1) := by decide +kernel
theorem d_X_kind_22 : decode b_X_kind 22 = .ok (.bipush 6, 2) := by decide +kernel
theorem d_X_kind_24 : decode b_X_kind 24 = .ok (.if_icmp .le 10, 3) := by decide +kernel
theorem d_X_kind_27 : decode b_X_kind 27 = .ok (.aload_n 0, 1) := by decide +kernel
theorem d_X_kind_28 : decode b_X_kind 28 = .ok (.bipush (-2), 2) := by decide +kernel
theorem d_X_kind_30 : decode b_X_kind 30 = .ok (.invokevirtual 69, 3) := by decide +kernel
theorem d_X_kind_33 : decode b_X_kind 33 = .ok (.ireturn, 1) := by decide +kernel
theorem d_X_kind_34 : decode b_X_kind 34 = .ok (.aload_n 0, 1) := by decide +kernel
theorem d_X_kind_35 : decode b_X_kind 35 = .ok (.getfield 10, 3) := by decide +kernel
theorem d_X_kind_38 : decode b_X_kind 38 = .ok (.getfield 88, 3) := by decide +kernel
theorem d_X_kind_41 : decode b_X_kind 41 = .ok (.iload_n 1, 1) := by decide +kernel
theorem d_X_kind_42 : decode b_X_kind 42 = .ok (.iaload, 1) := by decide +kernel
theorem d_X_kind_43 : decode b_X_kind 43 = .ok (.istore_n 3, 1) := by decide +kernel
theorem d_X_kind_44 : decode b_X_kind 44 = .ok (.aload_n 0, 1) := by decide +kernel
theorem d_X_kind_45 : decode b_X_kind 45 = .ok (.getfield 10, 3) := by decide +kernel
theorem d_X_kind_48 : decode b_X_kind 48 = .ok (.getfield 88, 3) := by decide +kernel
theorem d_X_kind_51 : decode b_X_kind 51 = .ok (.iload_n 1, 1) := by decide +kernel
theorem d_X_kind_52 : decode b_X_kind 52 = .ok (.iload_n 2, 1) := by decide +kernel
theorem d_X_kind_53 : decode b_X_kind 53 = .ok (.iastore, 1) := by decide +kernel
theorem d_X_kind_54 : decode b_X_kind 54 = .ok (.iload_n 3, 1) := by decide +kernel
theorem d_X_kind_55 : decode b_X_kind 55 = .ok (.ireturn, 1) := by decide +kernel
set_option maxHeartbeats 4000000 in
set_option maxRecDepth 100000 in
theorem c_X_kind {l : Launch} {D : va_G} {cI cJ cC : ClassId} (a_h a_h_now a_h_kept a_h_letters a_h_numbers a_h_refusals a_h_mind a_h_parts a_h_past a_h_seating a_h_now_kinds a_h_now_sweets a_h_now_settings a_h_now_heaps : Nat) (y_h_isKept : Int32) (y_h_numberCount : Int32) {z_h_now : RS} {z_h_refusals : (Nat → Int32)} {x1 : Int32} {x2 : Int32} {q : Int32 × RS × (Nat → Int32)} (hf : f_X_kind z_h_now z_h_refusals x1 x2 = some q) : xI l y_X_kind b_X_kind 4 .int 1 21 D (tyK cI cJ cC) xE0 [.ref a_h, .int x1, .int x2] (w_X_kind cI cJ cC a_h a_h_now a_h_kept a_h_letters a_h_numbers a_h_refusals a_h_mind a_h_parts a_h_past a_h_seating a_h_now_kinds a_h_now_sweets a_h_now_settings a_h_now_heaps y_h_isKept y_h_numberCount (r_children z_h_now) (r_strokes z_h_now) (r_gave z_h_now) (r_threw z_h_now) (r_kinds z_h_now) (r_sweets z_h_now) (r_settings z_h_now) (r_heaps z_h_now) z_h_refusals) q.1 (w_X_kind cI cJ cC a_h a_h_now a_h_kept a_h_letters a_h_numbers a_h_refusals a_h_mind a_h_parts a_h_past a_h_seating a_h_now_kinds a_h_now_sweets a_h_now_settings a_h_now_heaps y_h_isKept y_h_numberCount (r_children q.2.1) (r_strokes q.2.1) (r_gave q.2.1) (r_threw q.2.1) (r_kinds q.2.1) (r_sweets q.2.1) (r_settings q.2.1) (r_heaps q.2.1) q.2.2) := by
  refine xI_of (by decide) (Nat.le_of_ble_eq_true rfl) ?_
  intro p e s m args below meth c A Q hx hb hml hown hT hA hP hD hK hS hE hret ls hl
  have hown : s.vm.findClass R_X = some m.cls := hown
  have hl : lv_has ls 4 [(0, .ref a_h), (1, .int x1), (2, .int x2)] := hl
  unfold f_X_kind at hf
  refine lv_aload_n hx hb d_X_kind_0 rfl (lv_at hl 0 rfl) ?_
  refine va_get hx hb hT i_X hown hK hP 0 rfl rfl 0 (Nat.le_of_ble_eq_true rfl) (hT _ k_168) (fun _ h => h) rfl d_X_kind_1 ?_
  refine lv_iload_n hx hb d_X_kind_4 rfl (lv_at hl 1 rfl) ?_
  obtain ⟨q1, hq1, hf⟩ := io_b hf
  refine xcVI (wc := (w_Ring_has cI cJ cC a_h_now a_h_now_kinds a_h_now_sweets a_h_now_settings a_h_now_heaps (r_children z_h_now) (r_strokes z_h_now) (r_gave z_h_now) (r_threw z_h_now))) (wc' := (w_Ring_has cI cJ cC a_h_now a_h_now_kinds a_h_now_sweets a_h_now_settings a_h_now_heaps (r_children z_h_now) (r_strokes z_h_now) (r_gave z_h_now) (r_threw z_h_now))) (ws' := (w_X_kind cI cJ cC a_h a_h_now a_h_kept a_h_letters a_h_numbers a_h_refusals a_h_mind a_h_parts a_h_past a_h_seating a_h_now_kinds a_h_now_sweets a_h_now_settings a_h_now_heaps y_h_isKept y_h_numberCount (r_children z_h_now) (r_strokes z_h_now) (r_gave z_h_now) (r_threw z_h_now) (r_kinds z_h_now) (r_sweets z_h_now) (r_settings z_h_now) (r_heaps z_h_now) z_h_refusals)) (As := [.int x1]) (rest := []) hx hb hml hown hT (c_Ring_has (z_h := z_h_now) a_h_now a_h_now_kinds a_h_now_sweets a_h_now_settings a_h_now_heaps hq1) k_364 k_365 k_366 k_2 k_367 hd_Ring_has ⟨Nat.le_of_ble_eq_true rfl, Nat.le_of_ble_eq_true rfl⟩ xE0_ok trivial hA hK hP hD hS [1] [0, 2, 3, 4, 5, 6] [0, 6, 1, 2, 3, 4, 5] rfl rfl rfl rfl rfl rfl rfl rfl rfl rfl hl.1 rfl (Nat.le_of_ble_eq_true rfl) ⟨Nat.zero_le _, Nat.zero_le _⟩ d_X_kind_5 (fun H locs hP hD hS => ?_)
  refine lv_if_ne (tgt := 17) hx hb d_X_kind_8 (by decide) (fun c2 => ?_) (fun c2 => ?_)
  · have hf := io_f hf c2
    refine lv_iload_n hx hb d_X_kind_17 rfl (lv_at hl 2 rfl) ?_
    refine lv_if_lt (tgt := 27) hx hb d_X_kind_18 (by decide) (fun c3 => ?_) (fun c3 => ?_)
    · have hf := io_t hf c3
      refine lv_aload_n hx hb d_X_kind_27 rfl (lv_at hl 0 rfl) ?_
      refine lv_bipush (v := (-2)) hx hb d_X_kind_28 (by decide) ?_
      obtain ⟨q4, hq4, hf⟩ := io_b hf
      refine xcVI (wc := (w_X_refuse cI cJ cC a_h a_h_now a_h_kept a_h_letters a_h_numbers a_h_refusals a_h_mind a_h_parts a_h_past a_h_seating y_h_isKept y_h_numberCount z_h_refusals)) (wc' := (w_X_refuse cI cJ cC a_h a_h_now a_h_kept a_h_letters a_h_numbers a_h_refusals a_h_mind a_h_parts a_h_past a_h_seating y_h_isKept y_h_numberCount q4.2)) (ws' := (w_X_kind cI cJ cC a_h a_h_now a_h_kept a_h_letters a_h_numbers a_h_refusals a_h_mind a_h_parts a_h_past a_h_seating a_h_now_kinds a_h_now_sweets a_h_now_settings a_h_now_heaps y_h_isKept y_h_numberCount (r_children z_h_now) (r_strokes z_h_now) (r_gave z_h_now) (r_threw z_h_now) (r_kinds z_h_now) (r_sweets z_h_now) (r_settings z_h_now) (r_heaps z_h_now) q4.2)) (As := [.int (-2)]) (rest := []) hx hb hml hown hT (c_X_refuse (z_h_refusals := z_h_refusals) a_h a_h_now a_h_kept a_h_letters a_h_numbers a_h_refusals a_h_mind a_h_parts a_h_past a_h_seating y_h_isKept y_h_numberCount hq4) k_206 k_208 ks_0 k_1 k_209 hd_X_refuse ⟨Nat.le_of_ble_eq_true rfl, Nat.le_of_ble_eq_true rfl⟩ xE0_ok trivial hA hK hP hD hS [0, 6] [1, 2, 3, 4, 5] [5, 0, 1, 2, 3, 4, 6] rfl rfl rfl rfl rfl rfl rfl rfl rfl rfl hl.1 rfl (Nat.le_of_ble_eq_true rfl) ⟨Nat.zero_le _, Nat.zero_le _⟩ d_X_kind_30 (fun H locs hP hD hS => ?_)
      have hq := Option.some.inj hf
      subst hq
      exact hret _ _ _ _ _ d_X_kind_33 rfl rfl hP hD hS
    · have hf := io_f hf c3
      refine lv_iload_n hx hb d_X_kind_21 rfl (lv_at hl 2 rfl) ?_
      refine lv_bipush (v := 6) hx hb d_X_kind_22 (by decide) ?_
      refine lv_icmp_le (tgt := 34) hx hb d_X_kind_24 (by decide) (fun c5 => ?_) (fun c5 => ?_)
      · have hf := io_t hf c5
        refine lv_aload_n hx hb d_X_kind_34 rfl (lv_at hl 0 rfl) ?_
        refine va_get hx hb hT i_X hown hK hP 0 rfl rfl 0 (Nat.le_of_ble_eq_true rfl) (hT _ k_168) (fun _ h => h) rfl d_X_kind_35 ?_
        refine va_get hx hb hT i_Ring hown hK hP 1 rfl rfl 0 (Nat.le_of_ble_eq_true rfl) (hT _ k_33) (fun _ h => h) rfl d_X_kind_38 ?_
        refine lv_iload_n hx hb d_X_kind_41 rfl (lv_at hl 1 rfl) ?_
        obtain ⟨c6, hf⟩ := io_n hf
        refine x_iald hx hb hK hP 2 0 rfl rfl (j := x1.toNatClampNeg) rfl c6 d_X_kind_42 ?_
        refine lv_istore_n (lv' := [(3, .int ((r_kinds z_h_now) x1.toNatClampNeg)), (0, .ref a_h), (1, .int x1), (2, .int x2)]) hx hb d_X_kind_43 rfl hl (by decide) rfl (fun ls hl => ?_)
        refine lv_aload_n hx hb d_X_kind_44 rfl (lv_at hl 1 rfl) ?_
        refine va_get hx hb hT i_X hown hK hP 0 rfl rfl 0 (Nat.le_of_ble_eq_true rfl) (hT _ k_168) (fun _ h => h) rfl d_X_kind_45 ?_
        refine va_get hx hb hT i_Ring hown hK hP 1 rfl rfl 0 (Nat.le_of_ble_eq_true rfl) (hT _ k_33) (fun _ h => h) rfl d_X_kind_48 ?_
        refine lv_iload_n hx hb d_X_kind_51 rfl (lv_at hl 2 rfl) ?_
        refine lv_iload_n hx hb d_X_kind_52 rfl (lv_at hl 3 rfl) ?_
        refine x_iast hx hb hK hP hD hS 2 0 rfl rfl (j := x1.toNatClampNeg) rfl c6 d_X_kind_53 (fun H locs hP hD hS => ?_)
        have hP : va_P D classes (w_X_kind cI cJ cC a_h a_h_now a_h_kept a_h_letters a_h_numbers a_h_refusals a_h_mind a_h_parts a_h_past a_h_seating a_h_now_kinds a_h_now_sweets a_h_now_settings a_h_now_heaps y_h_isKept y_h_numberCount (r_children z_h_now) (r_strokes z_h_now) (r_gave z_h_now) (r_threw z_h_now) (upd (r_kinds z_h_now) x1.toNatClampNeg x2) (r_sweets z_h_now) (r_settings z_h_now) (r_heaps z_h_now) z_h_refusals) H := hP
        have hD : va_D A (w_X_kind cI cJ cC a_h a_h_now a_h_kept a_h_letters a_h_numbers a_h_refusals a_h_mind a_h_parts a_h_past a_h_seating a_h_now_kinds a_h_now_sweets a_h_now_settings a_h_now_heaps y_h_isKept y_h_numberCount (r_children z_h_now) (r_strokes z_h_now) (r_gave z_h_now) (r_threw z_h_now) (upd (r_kinds z_h_now) x1.toNatClampNeg x2) (r_sweets z_h_now) (r_settings z_h_now) (r_heaps z_h_now) z_h_refusals) := hD
        refine lv_iload_n hx hb d_X_kind_54 rfl (lv_at hl 0 rfl) ?_
        have hq := Option.some.inj hf
        subst hq
        exact hret _ _ _ _ _ d_X_kind_55 rfl rfl hP hD hS
      · have hf := io_f hf c5
        refine lv_aload_n hx hb d_X_kind_27 rfl (lv_at hl 0 rfl) ?_
        refine lv_bipush (v := (-2)) hx hb d_X_kind_28 (by decide) ?_
        obtain ⟨q7, hq7, hf⟩ := io_b hf
        refine xcVI (wc := (w_X_refuse cI cJ cC a_h a_h_now a_h_kept a_h_letters a_h_numbers a_h_refusals a_h_mind a_h_parts a_h_past a_h_seating y_h_isKept y_h_numberCount z_h_refusals)) (wc' := (w_X_refuse cI cJ cC a_h a_h_now a_h_kept a_h_letters a_h_numbers a_h_refusals a_h_mind a_h_parts a_h_past a_h_seating y_h_isKept y_h_numberCount q7.2)) (ws' := (w_X_kind cI cJ cC a_h a_h_now a_h_kept a_h_letters a_h_numbers a_h_refusals a_h_mind a_h_parts a_h_past a_h_seating a_h_now_kinds a_h_now_sweets a_h_now_settings a_h_now_heaps y_h_isKept y_h_numberCount (r_children z_h_now) (r_strokes z_h_now) (r_gave z_h_now) (r_threw z_h_now) (r_kinds z_h_now) (r_sweets z_h_now) (r_settings z_h_now) (r_heaps z_h_now) q7.2)) (As := [.int (-2)]) (rest := []) hx hb hml hown hT (c_X_refuse (z_h_refusals := z_h_refusals) a_h a_h_now a_h_kept a_h_letters a_h_numbers a_h_refusals a_h_mind a_h_parts a_h_past a_h_seating y_h_isKept y_h_numberCount hq7) k_206 k_208 ks_0 k_1 k_209 hd_X_refuse ⟨Nat.le_of_ble_eq_true rfl, Nat.le_of_ble_eq_true rfl⟩ xE0_ok trivial hA hK hP hD hS [0, 6] [1, 2, 3, 4, 5] [5, 0, 1, 2, 3, 4, 6] rfl rfl rfl rfl rfl rfl rfl rfl rfl rfl hl.1 rfl (Nat.le_of_ble_eq_true rfl) ⟨Nat.zero_le _, Nat.zero_le _⟩ d_X_kind_30 (fun H locs hP hD hS => ?_)
        have hq := Option.some.inj hf
        subst hq
        exact hret _ _ _ _ _ d_X_kind_33 rfl rfl hP hD hS
  · have hf := io_t hf c2
    refine lv_aload_n hx hb d_X_kind_11 rfl (lv_at hl 0 rfl) ?_
    refine lv_iconst (v := (-1)) hx hb d_X_kind_12 (by decide) ?_
    obtain ⟨q8, hq8, hf⟩ := io_b hf
    refine xcVI (wc := (w_X_refuse cI cJ cC a_h a_h_now a_h_kept a_h_letters a_h_numbers a_h_refusals a_h_mind a_h_parts a_h_past a_h_seating y_h_isKept y_h_numberCount z_h_refusals)) (wc' := (w_X_refuse cI cJ cC a_h a_h_now a_h_kept a_h_letters a_h_numbers a_h_refusals a_h_mind a_h_parts a_h_past a_h_seating y_h_isKept y_h_numberCount q8.2)) (ws' := (w_X_kind cI cJ cC a_h a_h_now a_h_kept a_h_letters a_h_numbers a_h_refusals a_h_mind a_h_parts a_h_past a_h_seating a_h_now_kinds a_h_now_sweets a_h_now_settings a_h_now_heaps y_h_isKept y_h_numberCount (r_children z_h_now) (r_strokes z_h_now) (r_gave z_h_now) (r_threw z_h_now) (r_kinds z_h_now) (r_sweets z_h_now) (r_settings z_h_now) (r_heaps z_h_now) q8.2)) (As := [.int (-1)]) (rest := []) hx hb hml hown hT (c_X_refuse (z_h_refusals := z_h_refusals) a_h a_h_now a_h_kept a_h_letters a_h_numbers a_h_refusals a_h_mind a_h_parts a_h_past a_h_seating y_h_isKept y_h_numberCount hq8) k_206 k_208 ks_0 k_1 k_209 hd_X_refuse ⟨Nat.le_of_ble_eq_true rfl, Nat.le_of_ble_eq_true rfl⟩ xE0_ok trivial hA hK hP hD hS [0, 6] [1, 2, 3, 4, 5] [5, 0, 1, 2, 3, 4, 6] rfl rfl rfl rfl rfl rfl rfl rfl rfl rfl hl.1 rfl (Nat.le_of_ble_eq_true rfl) ⟨Nat.zero_le _, Nat.zero_le _⟩ d_X_kind_13 (fun H locs hP hD hS => ?_)
    have hq := Option.some.inj hf
    subst hq
    exact hret _ _ _ _ _ d_X_kind_16 rfl rfl hP hD hS
abbrev w_X_set (cI cJ cC : ClassId) (a_h a_h_now a_h_kept a_h_letters a_h_numbers a_h_refusals a_h_mind a_h_parts a_h_past a_h_seating a_h_now_kinds a_h_now_sweets a_h_now_settings a_h_now_heaps : Nat) (y_h_isKept : Int32) (y_h_numberCount : Int32) (p_h_now_children : Int32) (p_h_now_strokes : Int32) (p_h_now_gave : Int32) (p_h_now_threw : Int32) (p_h_now_kinds : (Nat → Int32)) (p_h_now_sweets : (Nat → Int32)) (p_h_now_settings : (Nat → Int32)) (p_h_now_heaps : (Nat → Int32)) (p_h_refusals : (Nat → Int32)) : va_W := [(a_h, .inr (0, [.ref a_h_now, .ref a_h_kept, .int y_h_isKept, .ref a_h_letters, .ref a_h_numbers, .int y_h_numberCount, .ref a_h_refusals, .ref a_h_mind, .ref a_h_parts, .ref a_h_past, .ref a_h_seating])), (a_h_now, .inr (1, [.ref a_h_now_kinds, .ref a_h_now_sweets, .ref a_h_now_settings, .int p_h_now_children, .int p_h_now_strokes, .int p_h_now_gave, .int p_h_now_threw, .ref a_h_now_heaps])), (a_h_now_kinds, .inl (cI, (8, .inl p_h_now_kinds))), (a_h_now_sweets, .inl (cI, (8, .inl p_h_now_sweets))), (a_h_now_settings, .inl (cI, (3, .inl p_h_now_settings))), (a_h_now_heaps, .inl (cI, (8, .inl p_h_now_heaps))), (a_h_refusals, .inl (cI, (7, .inl p_h_refusals)))]
theorem d_X_set_0 : decode b_X_set 0 = .ok (.iload_n 1, 1) := by decide +kernel
theorem d_X_set_1 : decode b_X_set 1 = .ok (.ifCond .lt 8, 3) := by decide +kernel
theorem d_X_set_4 : decode b_X_set 4 = .ok (.iload_n 1, 1) := by decide +kernel
theorem d_X_set_5 : decode b_X_set 5 = .ok (.iconst 2, 1) := by decide +kernel
theorem d_X_set_6 : decode b_X_set 6 = .ok (.if_icmp .le 10, 3) := by decide +kernel
theorem d_X_set_9 : decode b_X_set 9 = .ok (.aload_n 0, 1) := by decide +kernel
theorem d_X_set_10 : decode b_X_set 10 = .ok (.bipush (-2), 2) := by decide +kernel
theorem d_X_set_12 : decode b_X_set 12 = .ok (.invokevirtual 69, 3) := by decide +kernel
theorem d_X_set_15 : decode b_X_set 15 = .ok (.ireturn, 1) := by decide +kernel
theorem d_X_set_16 : decode b_X_set 16 = .ok (.iload_n 2, 1) := by decide +kernel
theorem d_X_set_17 : decode b_X_set 17 = .ok (.getstatic 104, 3) := by decide +kernel
theorem d_X_set_20 : decode b_X_set 20 = .ok (.iload_n 1, 1) := by decide +kernel
theorem d_X_set_21 : decode b_X_set 21 = .ok (.iaload, 1) := by decide +kernel
theorem d_X_set_22 : decode b_X_set 22 = .ok (.getstatic 107, 3) := by decide +kernel
theorem d_X_set_25 : decode b_X_set 25 = .ok (.iload_n 1, 1) := by decide +kernel
theorem d_X_set_26 : decode b_X_set 26 = .ok (.iaload, 1) := by decide +kernel
theorem d_X_set_27 : decode b_X_set 27 = .ok (.invokestatic 100, 3) := by decide +kernel
theorem d_X_set_30 : decode b_X_set 30 = .ok (.istore_n 3, 1) := by decide +kernel
theorem d_X_set_31 : decode b_X_set 31 = .ok (.iload_n 3, 1) := by decide +kernel
theorem d_X_set_32 : decode b_X_set 32 = .ok (.ifCond .eq 9, 3) := by decide +kernel
theorem d_X_set_35 : decode b_X_set 35 = .ok (.aload_n 0, 1) := by decide +kernel
theorem d_X_set_36 : decode b_X_set 36 = .ok (.iload_n 3, 1) := by decide +kernel
theorem d_X_set_37 : decode b_X_set 37 = .ok (.invokevirtual 69, 3) := by decide +kernel
theorem d_X_set_40 : decode b_X_set 40 = .ok (.ireturn, 1) := by decide +kernel
theorem d_X_set_41 : decode b_X_set 41 = .ok (.aload_n 0, 1) := by decide +kernel
theorem d_X_set_42 : decode b_X_set 42 = .ok (.getfield 10, 3) := by decide +kernel
theorem d_X_set_45 : decode b_X_set 45 = .ok (.getfield 110, 3) := by decide +kernel
theorem d_X_set_48 : decode b_X_set 48 = .ok (.iload_n 1, 1) := by decide +kernel
theorem d_X_set_49 : decode b_X_set 49 = .ok (.iaload, 1) := by decide +kernel
theorem d_X_set_50 : decode b_X_set 50 = .ok (.istore 4, 2) := by decide +kernel
theorem d_X_set_52 : decode b_X_set 52 = .ok (.aload_n 0, 1) := by decide +kernel
theorem d_X_set_53 : decode b_X_set 53 = .ok (.getfield 10, 3) := by decide +kernel
theorem d_X_set_56 : decode b_X_set 56 = .ok (.getfield 110, 3) := by decide +kernel
theorem d_X_set_59 : decode b_X_set 59 = .ok (.iload_n 1, 1) := by decide +kernel
theorem d_X_set_60 : decode b_X_set 60 = .ok (.iload_n 2, 1) := by decide +kernel
theorem d_X_set_61 : decode b_X_set 61 = .ok (.iastore, 1) := by decide +kernel
theorem d_X_set_62 : decode b_X_set 62 = .ok (.iload 4, 2) := by decide +kernel
theorem d_X_set_64 : decode b_X_set 64 = .ok (.ireturn, 1) := by decide +kernel
set_option maxHeartbeats 4000000 in
set_option maxRecDepth 100000 in
theorem c_X_set {l : Launch} {D : va_G} {cI cJ cC : ClassId} {t_LEAST_SETTING t_GREATEST_SETTING t_str t_val : Nat} (a_h a_h_now a_h_kept a_h_letters a_h_numbers a_h_refusals a_h_mind a_h_parts a_h_past a_h_seating a_h_now_kinds a_h_now_sweets a_h_now_settings a_h_now_heaps : Nat) (y_h_isKept : Int32) (y_h_numberCount : Int32) {z_h_now : RS} {z_h_refusals : (Nat → Int32)} {x1 : Int32} {x2 : Int32} {q : Int32 × RS × (Nat → Int32)} (hf : f_X_set z_h_now z_h_refusals x1 x2 = some q) : xI l y_X_set b_X_set 5 .int 1 22 D (tyK cI cJ cC) (xEv t_LEAST_SETTING t_GREATEST_SETTING t_str t_val) [.ref a_h, .int x1, .int x2] (w_X_set cI cJ cC a_h a_h_now a_h_kept a_h_letters a_h_numbers a_h_refusals a_h_mind a_h_parts a_h_past a_h_seating a_h_now_kinds a_h_now_sweets a_h_now_settings a_h_now_heaps y_h_isKept y_h_numberCount (r_children z_h_now) (r_strokes z_h_now) (r_gave z_h_now) (r_threw z_h_now) (r_kinds z_h_now) (r_sweets z_h_now) (r_settings z_h_now) (r_heaps z_h_now) z_h_refusals) q.1 (w_X_set cI cJ cC a_h a_h_now a_h_kept a_h_letters a_h_numbers a_h_refusals a_h_mind a_h_parts a_h_past a_h_seating a_h_now_kinds a_h_now_sweets a_h_now_settings a_h_now_heaps y_h_isKept y_h_numberCount (r_children q.2.1) (r_strokes q.2.1) (r_gave q.2.1) (r_threw q.2.1) (r_kinds q.2.1) (r_sweets q.2.1) (r_settings q.2.1) (r_heaps q.2.1) q.2.2) := by
  refine xI_of (by decide) (Nat.le_of_ble_eq_true rfl) ?_
  intro p e s m args below meth c A Q hx hb hml hown hT hA hP hD hK hS hE hret ls hl
  have hown : s.vm.findClass R_X = some m.cls := hown
  have hl : lv_has ls 5 [(0, .ref a_h), (1, .int x1), (2, .int x2)] := hl
  unfold f_X_set at hf
  obtain ⟨hZ_LEAST_SETTING, hT_LEAST_SETTING, hZ_GREATEST_SETTING, hT_GREATEST_SETTING, hZ_CS, hO_str, hC_str, hV_str, hT_str, hR_str, hN_X_outside, hNF_LEAST_SETTING, hNF_GREATEST_SETTING⟩ := id hE
  refine lv_iload_n hx hb d_X_set_0 rfl (lv_at hl 1 rfl) ?_
  refine lv_if_lt (tgt := 9) hx hb d_X_set_1 (by decide) (fun c1 => ?_) (fun c1 => ?_)
  · have hf := io_t hf c1
    refine lv_aload_n hx hb d_X_set_9 rfl (lv_at hl 0 rfl) ?_
    refine lv_bipush (v := (-2)) hx hb d_X_set_10 (by decide) ?_
    obtain ⟨q2, hq2, hf⟩ := io_b hf
    refine xcVI (wc := (w_X_refuse cI cJ cC a_h a_h_now a_h_kept a_h_letters a_h_numbers a_h_refusals a_h_mind a_h_parts a_h_past a_h_seating y_h_isKept y_h_numberCount z_h_refusals)) (wc' := (w_X_refuse cI cJ cC a_h a_h_now a_h_kept a_h_letters a_h_numbers a_h_refusals a_h_mind a_h_parts a_h_past a_h_seating y_h_isKept y_h_numberCount q2.2)) (ws' := (w_X_set cI cJ cC a_h a_h_now a_h_kept a_h_letters a_h_numbers a_h_refusals a_h_mind a_h_parts a_h_past a_h_seating a_h_now_kinds a_h_now_sweets a_h_now_settings a_h_now_heaps y_h_isKept y_h_numberCount (r_children z_h_now) (r_strokes z_h_now) (r_gave z_h_now) (r_threw z_h_now) (r_kinds z_h_now) (r_sweets z_h_now) (r_settings z_h_now) (r_heaps z_h_now) q2.2)) (As := [.int (-2)]) (rest := []) hx hb hml hown hT (c_X_refuse (z_h_refusals := z_h_refusals) a_h a_h_now a_h_kept a_h_letters a_h_numbers a_h_refusals a_h_mind a_h_parts a_h_past a_h_seating y_h_isKept y_h_numberCount hq2) k_206 k_208 ks_0 k_1 k_209 hd_X_refuse ⟨Nat.le_of_ble_eq_true rfl, Nat.le_of_ble_eq_true rfl⟩ xE0_ok trivial hA hK hP hD hS [0, 6] [1, 2, 3, 4, 5] [5, 0, 1, 2, 3, 4, 6] rfl rfl rfl rfl rfl rfl rfl rfl rfl rfl hl.1 rfl (Nat.le_of_ble_eq_true rfl) ⟨Nat.zero_le _, Nat.zero_le _⟩ d_X_set_12 (fun H locs hP hD hS => ?_)
    have hq := Option.some.inj hf
    subst hq
    exact hret _ _ _ _ _ d_X_set_15 rfl rfl hP hD hS
  · have hf := io_f hf c1
    refine lv_iload_n hx hb d_X_set_4 rfl (lv_at hl 1 rfl) ?_
    refine lv_iconst (v := 2) hx hb d_X_set_5 (by decide) ?_
    refine lv_icmp_le (tgt := 16) hx hb d_X_set_6 (by decide) (fun c3 => ?_) (fun c3 => ?_)
    · have hf := io_t hf c3
      refine lv_iload_n hx hb d_X_set_16 rfl (lv_at hl 2 rfl) ?_
      refine va_gets hx hb hZ_LEAST_SETTING hS hown (hT _ k_394) (fun _ h => h) d_X_set_17 ?_
      refine lv_iload_n hx hb d_X_set_20 rfl (lv_at hl 1 rfl) ?_
      obtain ⟨c4, hf⟩ := io_n hf
      refine va_ti (v := .int (s_LEAST_SETTING x1.toNatClampNeg)) hx hb hT_LEAST_SETTING hS c4 rfl d_X_set_21 ?_
      refine va_gets hx hb hZ_GREATEST_SETTING hS hown (hT _ k_395) (fun _ h => h) d_X_set_22 ?_
      refine lv_iload_n hx hb d_X_set_25 rfl (lv_at hl 1 rfl) ?_
      refine va_ti (v := .int (s_GREATEST_SETTING x1.toNatClampNeg)) hx hb hT_GREATEST_SETTING hS c4 rfl d_X_set_26 ?_
      obtain ⟨q5, hq5, hf⟩ := io_b hf
      refine xcSI (wc := []) (wc' := []) (ws' := (w_X_set cI cJ cC a_h a_h_now a_h_kept a_h_letters a_h_numbers a_h_refusals a_h_mind a_h_parts a_h_past a_h_seating a_h_now_kinds a_h_now_sweets a_h_now_settings a_h_now_heaps y_h_isKept y_h_numberCount (r_children z_h_now) (r_strokes z_h_now) (r_gave z_h_now) (r_threw z_h_now) (r_kinds z_h_now) (r_sweets z_h_now) (r_settings z_h_now) (r_heaps z_h_now) z_h_refusals)) (As := [.int x2, .int (s_LEAST_SETTING x1.toNatClampNeg), .int (s_GREATEST_SETTING x1.toNatClampNeg)]) (rest := []) hx hb hml hown hT (c_X_outside hq5) k_385 k_357 k_1 k_358 hd_X_outside ⟨Nat.le_of_ble_eq_true rfl, Nat.le_of_ble_eq_true rfl⟩ xE0_ok trivial hA hK hP hD hS [] [0, 1, 2, 3, 4, 5, 6] [0, 1, 2, 3, 4, 5, 6] rfl rfl rfl rfl rfl rfl rfl hl.1 rfl (Nat.le_of_ble_eq_true rfl) ⟨Nat.zero_le _, Nat.zero_le _⟩ d_X_set_27 (fun H locs hP hD hS => ?_)
      refine lv_istore_n (lv' := [(3, .int q5), (0, .ref a_h), (1, .int x1), (2, .int x2)]) hx hb d_X_set_30 rfl hl (by decide) rfl (fun ls hl => ?_)
      refine lv_iload_n hx hb d_X_set_31 rfl (lv_at hl 0 rfl) ?_
      refine lv_if_eq (tgt := 41) hx hb d_X_set_32 (by decide) (fun c6 => ?_) (fun c6 => ?_)
      · have hf := io_t hf c6
        refine lv_aload_n hx hb d_X_set_41 rfl (lv_at hl 1 rfl) ?_
        refine va_get hx hb hT i_X hown hK hP 0 rfl rfl 0 (Nat.le_of_ble_eq_true rfl) (hT _ k_168) (fun _ h => h) rfl d_X_set_42 ?_
        refine va_get hx hb hT i_Ring hown hK hP 1 rfl rfl 2 (Nat.le_of_ble_eq_true rfl) (hT _ k_42) (fun _ h => h) rfl d_X_set_45 ?_
        refine lv_iload_n hx hb d_X_set_48 rfl (lv_at hl 2 rfl) ?_
        refine x_iald hx hb hK hP 4 0 rfl rfl (j := x1.toNatClampNeg) rfl c4 d_X_set_49 ?_
        refine lv_istore (lv' := [(4, .int ((r_settings z_h_now) x1.toNatClampNeg)), (3, .int q5), (0, .ref a_h), (1, .int x1), (2, .int x2)]) hx hb d_X_set_50 hl (by decide) rfl (fun ls hl => ?_)
        refine lv_aload_n hx hb d_X_set_52 rfl (lv_at hl 2 rfl) ?_
        refine va_get hx hb hT i_X hown hK hP 0 rfl rfl 0 (Nat.le_of_ble_eq_true rfl) (hT _ k_168) (fun _ h => h) rfl d_X_set_53 ?_
        refine va_get hx hb hT i_Ring hown hK hP 1 rfl rfl 2 (Nat.le_of_ble_eq_true rfl) (hT _ k_42) (fun _ h => h) rfl d_X_set_56 ?_
        refine lv_iload_n hx hb d_X_set_59 rfl (lv_at hl 3 rfl) ?_
        refine lv_iload_n hx hb d_X_set_60 rfl (lv_at hl 4 rfl) ?_
        refine x_iast hx hb hK hP hD hS 4 0 rfl rfl (j := x1.toNatClampNeg) rfl c4 d_X_set_61 (fun H locs hP hD hS => ?_)
        have hP : va_P D classes (w_X_set cI cJ cC a_h a_h_now a_h_kept a_h_letters a_h_numbers a_h_refusals a_h_mind a_h_parts a_h_past a_h_seating a_h_now_kinds a_h_now_sweets a_h_now_settings a_h_now_heaps y_h_isKept y_h_numberCount (r_children z_h_now) (r_strokes z_h_now) (r_gave z_h_now) (r_threw z_h_now) (r_kinds z_h_now) (r_sweets z_h_now) (upd (r_settings z_h_now) x1.toNatClampNeg x2) (r_heaps z_h_now) z_h_refusals) H := hP
        have hD : va_D A (w_X_set cI cJ cC a_h a_h_now a_h_kept a_h_letters a_h_numbers a_h_refusals a_h_mind a_h_parts a_h_past a_h_seating a_h_now_kinds a_h_now_sweets a_h_now_settings a_h_now_heaps y_h_isKept y_h_numberCount (r_children z_h_now) (r_strokes z_h_now) (r_gave z_h_now) (r_threw z_h_now) (r_kinds z_h_now) (r_sweets z_h_now) (upd (r_settings z_h_now) x1.toNatClampNeg x2) (r_heaps z_h_now) z_h_refusals) := hD
        refine lv_iload hx hb d_X_set_62 (lv_at hl 0 rfl) ?_
        have hq := Option.some.inj hf
        subst hq
        exact hret _ _ _ _ _ d_X_set_64 rfl rfl hP hD hS
      · have hf := io_f hf c6
        refine lv_aload_n hx hb d_X_set_35 rfl (lv_at hl 1 rfl) ?_
        refine lv_iload_n hx hb d_X_set_36 rfl (lv_at hl 0 rfl) ?_
        obtain ⟨q7, hq7, hf⟩ := io_b hf
        refine xcVI (wc := (w_X_refuse cI cJ cC a_h a_h_now a_h_kept a_h_letters a_h_numbers a_h_refusals a_h_mind a_h_parts a_h_past a_h_seating y_h_isKept y_h_numberCount z_h_refusals)) (wc' := (w_X_refuse cI cJ cC a_h a_h_now a_h_kept a_h_letters a_h_numbers a_h_refusals a_h_mind a_h_parts a_h_past a_h_seating y_h_isKept y_h_numberCount q7.2)) (ws' := (w_X_set cI cJ cC a_h a_h_now a_h_kept a_h_letters a_h_numbers a_h_refusals a_h_mind a_h_parts a_h_past a_h_seating a_h_now_kinds a_h_now_sweets a_h_now_settings a_h_now_heaps y_h_isKept y_h_numberCount (r_children z_h_now) (r_strokes z_h_now) (r_gave z_h_now) (r_threw z_h_now) (r_kinds z_h_now) (r_sweets z_h_now) (r_settings z_h_now) (r_heaps z_h_now) q7.2)) (As := [.int q5]) (rest := []) hx hb hml hown hT (c_X_refuse (z_h_refusals := z_h_refusals) a_h a_h_now a_h_kept a_h_letters a_h_numbers a_h_refusals a_h_mind a_h_parts a_h_past a_h_seating y_h_isKept y_h_numberCount hq7) k_206 k_208 ks_0 k_1 k_209 hd_X_refuse ⟨Nat.le_of_ble_eq_true rfl, Nat.le_of_ble_eq_true rfl⟩ xE0_ok trivial hA hK hP hD hS [0, 6] [1, 2, 3, 4, 5] [5, 0, 1, 2, 3, 4, 6] rfl rfl rfl rfl rfl rfl rfl rfl rfl rfl hl.1 rfl (Nat.le_of_ble_eq_true rfl) ⟨Nat.zero_le _, Nat.zero_le _⟩ d_X_set_37 (fun H locs hP hD hS => ?_)
        have hq := Option.some.inj hf
        subst hq
        exact hret _ _ _ _ _ d_X_set_40 rfl rfl hP hD hS
    · have hf := io_f hf c3
      refine lv_aload_n hx hb d_X_set_9 rfl (lv_at hl 0 rfl) ?_
      refine lv_bipush (v := (-2)) hx hb d_X_set_10 (by decide) ?_
      obtain ⟨q8, hq8, hf⟩ := io_b hf
      refine xcVI (wc := (w_X_refuse cI cJ cC a_h a_h_now a_h_kept a_h_letters a_h_numbers a_h_refusals a_h_mind a_h_parts a_h_past a_h_seating y_h_isKept y_h_numberCount z_h_refusals)) (wc' := (w_X_refuse cI cJ cC a_h a_h_now a_h_kept a_h_letters a_h_numbers a_h_refusals a_h_mind a_h_parts a_h_past a_h_seating y_h_isKept y_h_numberCount q8.2)) (ws' := (w_X_set cI cJ cC a_h a_h_now a_h_kept a_h_letters a_h_numbers a_h_refusals a_h_mind a_h_parts a_h_past a_h_seating a_h_now_kinds a_h_now_sweets a_h_now_settings a_h_now_heaps y_h_isKept y_h_numberCount (r_children z_h_now) (r_strokes z_h_now) (r_gave z_h_now) (r_threw z_h_now) (r_kinds z_h_now) (r_sweets z_h_now) (r_settings z_h_now) (r_heaps z_h_now) q8.2)) (As := [.int (-2)]) (rest := []) hx hb hml hown hT (c_X_refuse (z_h_refusals := z_h_refusals) a_h a_h_now a_h_kept a_h_letters a_h_numbers a_h_refusals a_h_mind a_h_parts a_h_past a_h_seating y_h_isKept y_h_numberCount hq8) k_206 k_208 ks_0 k_1 k_209 hd_X_refuse ⟨Nat.le_of_ble_eq_true rfl, Nat.le_of_ble_eq_true rfl⟩ xE0_ok trivial hA hK hP hD hS [0, 6] [1, 2, 3, 4, 5] [5, 0, 1, 2, 3, 4, 6] rfl rfl rfl rfl rfl rfl rfl rfl rfl rfl hl.1 rfl (Nat.le_of_ble_eq_true rfl) ⟨Nat.zero_le _, Nat.zero_le _⟩ d_X_set_12 (fun H locs hP hD hS => ?_)
      have hq := Option.some.inj hf
      subst hq
      exact hret _ _ _ _ _ d_X_set_15 rfl rfl hP hD hS
abbrev w_X_areTwo (cI cJ cC : ClassId) (a_h a_h_now a_h_kept a_h_letters a_h_numbers a_h_refusals a_h_mind a_h_parts a_h_past a_h_seating a_h_now_kinds a_h_now_sweets a_h_now_settings a_h_now_heaps : Nat) (y_h_isKept : Int32) (y_h_numberCount : Int32) (p_h_now_children : Int32) (p_h_now_strokes : Int32) (p_h_now_gave : Int32) (p_h_now_threw : Int32) : va_W := [(a_h, .inr (0, [.ref a_h_now, .ref a_h_kept, .int y_h_isKept, .ref a_h_letters, .ref a_h_numbers, .int y_h_numberCount, .ref a_h_refusals, .ref a_h_mind, .ref a_h_parts, .ref a_h_past, .ref a_h_seating])), (a_h_now, .inr (1, [.ref a_h_now_kinds, .ref a_h_now_sweets, .ref a_h_now_settings, .int p_h_now_children, .int p_h_now_strokes, .int p_h_now_gave, .int p_h_now_threw, .ref a_h_now_heaps]))]
theorem d_X_areTwo_0 : decode b_X_areTwo 0 = .ok (.aload_n 0, 1) := by decide +kernel
theorem d_X_areTwo_1 : decode b_X_areTwo 1 = .ok (.getfield 10, 3) := by decide +kernel
theorem d_X_areTwo_4 : decode b_X_areTwo 4 = .ok (.iload_n 1, 1) := by decide +kernel
theorem d_X_areTwo_5 : decode b_X_areTwo 5 = .ok (.invokevirtual 84, 3) := by decide +kernel
theorem d_X_areTwo_8 : decode b_X_areTwo 8 = .ok (.ifCond .eq 23, 3) := by decide +kernel
theorem d_X_areTwo_11 : decode b_X_areTwo 11 = .ok (.aload_n 0, 1) := by decide +kernel
theorem d_X_areTwo_12 : decode b_X_areTwo 12 = .ok (.getfield 10, 3) := by decide +kernel
theorem d_X_areTwo_15 : decode b_X_areTwo 15 = .ok (.iload_n 2, 1) := by decide +kernel
theorem d_X_areTwo_16 : decode b_X_areTwo 16 = .ok (.invokevirtual 84, 3) := by decide +kernel
theorem d_X_areTwo_19 : decode b_X_areTwo 19 = .ok (.ifCond .eq 12, 3) := by decide +kernel
theorem d_X_areTwo_22 : decode b_X_areTwo 22 = .ok (.iload_n 1, 1) := by decide +kernel
theorem d_X_areTwo_23 : decode b_X_areTwo 23 = .ok (.iload_n 2, 1) := by decide +kernel
theorem d_X_areTwo_24 : decode b_X_areTwo 24 = .ok (.if_icmp .eq 7, 3) := by decide +kernel
theorem d_X_areTwo_27 : decode b_X_areTwo 27 = .ok (.iconst 1, 1) := by decide +kernel
theorem d_X_areTwo_28 : decode b_X_areTwo 28 = .ok (.goto 4, 3) := by decide +kernel
theorem d_X_areTwo_31 : decode b_X_areTwo 31 = .ok (.iconst 0, 1) := by decide +kernel
theorem d_X_areTwo_32 : decode b_X_areTwo 32 = .ok (.ireturn, 1) := by decide +kernel
set_option maxHeartbeats 4000000 in
set_option maxRecDepth 100000 in
theorem c_X_areTwo {l : Launch} {D : va_G} {cI cJ cC : ClassId} (a_h a_h_now a_h_kept a_h_letters a_h_numbers a_h_refusals a_h_mind a_h_parts a_h_past a_h_seating a_h_now_kinds a_h_now_sweets a_h_now_settings a_h_now_heaps : Nat) (y_h_isKept : Int32) (y_h_numberCount : Int32) {z_h_now : RS} {x1 : Int32} {x2 : Int32} {q : Int32} (hf : f_X_areTwo z_h_now x1 x2 = some q) : xI l y_X_areTwo b_X_areTwo 3 .boolean 1 21 D (tyK cI cJ cC) xE0 [.ref a_h, .int x1, .int x2] (w_X_areTwo cI cJ cC a_h a_h_now a_h_kept a_h_letters a_h_numbers a_h_refusals a_h_mind a_h_parts a_h_past a_h_seating a_h_now_kinds a_h_now_sweets a_h_now_settings a_h_now_heaps y_h_isKept y_h_numberCount (r_children z_h_now) (r_strokes z_h_now) (r_gave z_h_now) (r_threw z_h_now)) q (w_X_areTwo cI cJ cC a_h a_h_now a_h_kept a_h_letters a_h_numbers a_h_refusals a_h_mind a_h_parts a_h_past a_h_seating a_h_now_kinds a_h_now_sweets a_h_now_settings a_h_now_heaps y_h_isKept y_h_numberCount (r_children z_h_now) (r_strokes z_h_now) (r_gave z_h_now) (r_threw z_h_now)) := by
  refine xI_of (by decide) (Nat.le_of_ble_eq_true rfl) ?_
  intro p e s m args below meth c A Q hx hb hml hown hT hA hP hD hK hS hE hret ls hl
  have hown : s.vm.findClass R_X = some m.cls := hown
  have hl : lv_has ls 3 [(0, .ref a_h), (1, .int x1), (2, .int x2)] := hl
  unfold f_X_areTwo at hf
  refine lv_aload_n hx hb d_X_areTwo_0 rfl (lv_at hl 0 rfl) ?_
  refine va_get hx hb hT i_X hown hK hP 0 rfl rfl 0 (Nat.le_of_ble_eq_true rfl) (hT _ k_168) (fun _ h => h) rfl d_X_areTwo_1 ?_
  refine lv_iload_n hx hb d_X_areTwo_4 rfl (lv_at hl 1 rfl) ?_
  obtain ⟨q1, hq1, hf⟩ := io_b hf
  refine xcVI (wc := (w_Ring_has cI cJ cC a_h_now a_h_now_kinds a_h_now_sweets a_h_now_settings a_h_now_heaps (r_children z_h_now) (r_strokes z_h_now) (r_gave z_h_now) (r_threw z_h_now))) (wc' := (w_Ring_has cI cJ cC a_h_now a_h_now_kinds a_h_now_sweets a_h_now_settings a_h_now_heaps (r_children z_h_now) (r_strokes z_h_now) (r_gave z_h_now) (r_threw z_h_now))) (ws' := (w_X_areTwo cI cJ cC a_h a_h_now a_h_kept a_h_letters a_h_numbers a_h_refusals a_h_mind a_h_parts a_h_past a_h_seating a_h_now_kinds a_h_now_sweets a_h_now_settings a_h_now_heaps y_h_isKept y_h_numberCount (r_children z_h_now) (r_strokes z_h_now) (r_gave z_h_now) (r_threw z_h_now))) (As := [.int x1]) (rest := []) hx hb hml hown hT (c_Ring_has (z_h := z_h_now) a_h_now a_h_now_kinds a_h_now_sweets a_h_now_settings a_h_now_heaps hq1) k_364 k_365 k_366 k_2 k_367 hd_Ring_has ⟨Nat.le_of_ble_eq_true rfl, Nat.le_of_ble_eq_true rfl⟩ xE0_ok trivial hA hK hP hD hS [1] [0] [0, 1] rfl rfl rfl rfl rfl rfl rfl rfl rfl rfl hl.1 rfl (Nat.le_of_ble_eq_true rfl) ⟨Nat.zero_le _, Nat.zero_le _⟩ d_X_areTwo_5 (fun H locs hP hD hS => ?_)
  refine lv_if_eq (tgt := 31) hx hb d_X_areTwo_8 (by decide) (fun c2 => ?_) (fun c2 => ?_)
  · have hf := io_t hf c2
    refine lv_iconst (v := 0) hx hb d_X_areTwo_31 (by decide) ?_
    have hq := Option.some.inj hf
    subst hq
    exact hret _ _ _ _ _ d_X_areTwo_32 (by decide) rfl hP hD hS
  · have hf := io_f hf c2
    refine lv_aload_n hx hb d_X_areTwo_11 rfl (lv_at hl 0 rfl) ?_
    refine va_get hx hb hT i_X hown hK hP 0 rfl rfl 0 (Nat.le_of_ble_eq_true rfl) (hT _ k_168) (fun _ h => h) rfl d_X_areTwo_12 ?_
    refine lv_iload_n hx hb d_X_areTwo_15 rfl (lv_at hl 2 rfl) ?_
    obtain ⟨q3, hq3, hf⟩ := io_b hf
    refine xcVI (wc := (w_Ring_has cI cJ cC a_h_now a_h_now_kinds a_h_now_sweets a_h_now_settings a_h_now_heaps (r_children z_h_now) (r_strokes z_h_now) (r_gave z_h_now) (r_threw z_h_now))) (wc' := (w_Ring_has cI cJ cC a_h_now a_h_now_kinds a_h_now_sweets a_h_now_settings a_h_now_heaps (r_children z_h_now) (r_strokes z_h_now) (r_gave z_h_now) (r_threw z_h_now))) (ws' := (w_X_areTwo cI cJ cC a_h a_h_now a_h_kept a_h_letters a_h_numbers a_h_refusals a_h_mind a_h_parts a_h_past a_h_seating a_h_now_kinds a_h_now_sweets a_h_now_settings a_h_now_heaps y_h_isKept y_h_numberCount (r_children z_h_now) (r_strokes z_h_now) (r_gave z_h_now) (r_threw z_h_now))) (As := [.int x2]) (rest := []) hx hb hml hown hT (c_Ring_has (z_h := z_h_now) a_h_now a_h_now_kinds a_h_now_sweets a_h_now_settings a_h_now_heaps hq3) k_364 k_365 k_366 k_2 k_367 hd_Ring_has ⟨Nat.le_of_ble_eq_true rfl, Nat.le_of_ble_eq_true rfl⟩ xE0_ok trivial hA hK hP hD hS [1] [0] [0, 1] rfl rfl rfl rfl rfl rfl rfl rfl rfl rfl hl.1 rfl (Nat.le_of_ble_eq_true rfl) ⟨Nat.zero_le _, Nat.zero_le _⟩ d_X_areTwo_16 (fun H locs hP hD hS => ?_)
    refine lv_if_eq (tgt := 31) hx hb d_X_areTwo_19 (by decide) (fun c4 => ?_) (fun c4 => ?_)
    · have hf := io_t hf c4
      refine lv_iconst (v := 0) hx hb d_X_areTwo_31 (by decide) ?_
      have hq := Option.some.inj hf
      subst hq
      exact hret _ _ _ _ _ d_X_areTwo_32 (by decide) rfl hP hD hS
    · have hf := io_f hf c4
      refine lv_iload_n hx hb d_X_areTwo_22 rfl (lv_at hl 1 rfl) ?_
      refine lv_iload_n hx hb d_X_areTwo_23 rfl (lv_at hl 2 rfl) ?_
      refine lv_icmp_eq (tgt := 31) hx hb d_X_areTwo_24 (by decide) (fun c5 => ?_) (fun c5 => ?_)
      · have hf := io_t hf c5
        refine lv_iconst (v := 0) hx hb d_X_areTwo_31 (by decide) ?_
        have hq := Option.some.inj hf
        subst hq
        exact hret _ _ _ _ _ d_X_areTwo_32 (by decide) rfl hP hD hS
      · have hf := io_f hf c5
        refine lv_iconst (v := 1) hx hb d_X_areTwo_27 (by decide) ?_
        refine lv_goto (tgt := 32) hx hb d_X_areTwo_28 (by decide) ?_
        have hq := Option.some.inj hf
        subst hq
        exact hret _ _ _ _ _ d_X_areTwo_32 (by decide) rfl hP hD hS
abbrev w_X_change (cI cJ cC : ClassId) (a_h a_h_now a_h_kept a_h_letters a_h_numbers a_h_refusals a_h_mind a_h_parts a_h_past a_h_seating a_h_now_kinds a_h_now_sweets a_h_now_settings a_h_now_heaps : Nat) (y_h_isKept : Int32) (y_h_numberCount : Int32) (p_h_now_children : Int32) (p_h_now_strokes : Int32) (p_h_now_gave : Int32) (p_h_now_threw : Int32) (p_h_now_kinds : (Nat → Int32)) (p_h_now_sweets : (Nat → Int32)) (p_h_now_settings : (Nat → Int32)) (p_h_now_heaps : (Nat → Int32)) (p_h_refusals : (Nat → Int32)) : va_W := [(a_h, .inr (0, [.ref a_h_now, .ref a_h_kept, .int y_h_isKept, .ref a_h_letters, .ref a_h_numbers, .int y_h_numberCount, .ref a_h_refusals, .ref a_h_mind, .ref a_h_parts, .ref a_h_past, .ref a_h_seating])), (a_h_now, .inr (1, [.ref a_h_now_kinds, .ref a_h_now_sweets, .ref a_h_now_settings, .int p_h_now_children, .int p_h_now_strokes, .int p_h_now_gave, .int p_h_now_threw, .ref a_h_now_heaps])), (a_h_now_kinds, .inl (cI, (8, .inl p_h_now_kinds))), (a_h_now_sweets, .inl (cI, (8, .inl p_h_now_sweets))), (a_h_now_settings, .inl (cI, (3, .inl p_h_now_settings))), (a_h_now_heaps, .inl (cI, (8, .inl p_h_now_heaps))), (a_h_refusals, .inl (cI, (7, .inl p_h_refusals)))]
theorem d_X_change_0 : decode b_X_change 0 = .ok (.aload_n 0, 1) := by decide +kernel
theorem d_X_change_1 : decode b_X_change 1 = .ok (.iload_n 1, 1) := by decide +kernel
theorem d_X_change_2 : decode b_X_change 2 = .ok (.iload_n 2, 1) := by decide +kernel
theorem d_X_change_3 : decode b_X_change 3 = .ok (.invokevirtual 113, 3) := by decide +kernel
theorem d_X_change_6 : decode b_X_change 6 = .ok (.ifCond .ne 9, 3) := by decide +kernel
theorem d_X_change_9 : decode b_X_change 9 = .ok (.aload_n 0, 1) := by decide +kernel
theorem d_X_change_10 : decode b_X_change 10 = .ok (.iconst (-1), 1) := by decide +kernel
theorem d_X_change_11 : decode b_X_change 11 = .ok (.invokevirtual 69, 3) := by decide +kernel
theorem d_X_change_14 : decode b_X_change 14 = .ok (.ireturn, 1) := by decide +kernel
theorem d_X_change_15 : decode b_X_change 15 = .ok (.aload_n 0, 1) := by decide +kernel
theorem d_X_change_16 : decode b_X_change 16 = .ok (.getfield 10, 3) := by decide +kernel
theorem d_X_change_19 : decode b_X_change 19 = .ok (.iload_n 1, 1) := by decide +kernel
theorem d_X_change_20 : decode b_X_change 20 = .ok (.iload_n 2, 1) := by decide +kernel
theorem d_X_change_21 : decode b_X_change 21 = .ok (.invokevirtual 117, 3) := by decide +kernel
theorem d_X_change_24 : decode b_X_change 24 = .ok (.iconst 1, 1) := by decide +kernel
theorem d_X_change_25 : decode b_X_change 25 = .ok (.ireturn, 1) := by decide +kernel
set_option maxHeartbeats 4000000 in
set_option maxRecDepth 100000 in
theorem c_X_change {l : Launch} {D : va_G} {cI cJ cC : ClassId} (a_h a_h_now a_h_kept a_h_letters a_h_numbers a_h_refusals a_h_mind a_h_parts a_h_past a_h_seating a_h_now_kinds a_h_now_sweets a_h_now_settings a_h_now_heaps : Nat) (y_h_isKept : Int32) (y_h_numberCount : Int32) {z_h_now : RS} {z_h_refusals : (Nat → Int32)} {x1 : Int32} {x2 : Int32} {q : Int32 × RS × (Nat → Int32)} (hf : f_X_change z_h_now z_h_refusals x1 x2 = some q) : xI l y_X_change b_X_change 3 .int 2 46 D (tyK cI cJ cC) xE0 [.ref a_h, .int x1, .int x2] (w_X_change cI cJ cC a_h a_h_now a_h_kept a_h_letters a_h_numbers a_h_refusals a_h_mind a_h_parts a_h_past a_h_seating a_h_now_kinds a_h_now_sweets a_h_now_settings a_h_now_heaps y_h_isKept y_h_numberCount (r_children z_h_now) (r_strokes z_h_now) (r_gave z_h_now) (r_threw z_h_now) (r_kinds z_h_now) (r_sweets z_h_now) (r_settings z_h_now) (r_heaps z_h_now) z_h_refusals) q.1 (w_X_change cI cJ cC a_h a_h_now a_h_kept a_h_letters a_h_numbers a_h_refusals a_h_mind a_h_parts a_h_past a_h_seating a_h_now_kinds a_h_now_sweets a_h_now_settings a_h_now_heaps y_h_isKept y_h_numberCount (r_children q.2.1) (r_strokes q.2.1) (r_gave q.2.1) (r_threw q.2.1) (r_kinds q.2.1) (r_sweets q.2.1) (r_settings q.2.1) (r_heaps q.2.1) q.2.2) := by
  refine xI_of (by decide) (Nat.le_of_ble_eq_true rfl) ?_
  intro p e s m args below meth c A Q hx hb hml hown hT hA hP hD hK hS hE hret ls hl
  have hown : s.vm.findClass R_X = some m.cls := hown
  have hl : lv_has ls 3 [(0, .ref a_h), (1, .int x1), (2, .int x2)] := hl
  unfold f_X_change at hf
  refine lv_aload_n hx hb d_X_change_0 rfl (lv_at hl 0 rfl) ?_
  refine lv_iload_n hx hb d_X_change_1 rfl (lv_at hl 1 rfl) ?_
  refine lv_iload_n hx hb d_X_change_2 rfl (lv_at hl 2 rfl) ?_
  obtain ⟨q1, hq1, hf⟩ := io_b hf
  refine xcVI (wc := (w_X_areTwo cI cJ cC a_h a_h_now a_h_kept a_h_letters a_h_numbers a_h_refusals a_h_mind a_h_parts a_h_past a_h_seating a_h_now_kinds a_h_now_sweets a_h_now_settings a_h_now_heaps y_h_isKept y_h_numberCount (r_children z_h_now) (r_strokes z_h_now) (r_gave z_h_now) (r_threw z_h_now))) (wc' := (w_X_areTwo cI cJ cC a_h a_h_now a_h_kept a_h_letters a_h_numbers a_h_refusals a_h_mind a_h_parts a_h_past a_h_seating a_h_now_kinds a_h_now_sweets a_h_now_settings a_h_now_heaps y_h_isKept y_h_numberCount (r_children z_h_now) (r_strokes z_h_now) (r_gave z_h_now) (r_threw z_h_now))) (ws' := (w_X_change cI cJ cC a_h a_h_now a_h_kept a_h_letters a_h_numbers a_h_refusals a_h_mind a_h_parts a_h_past a_h_seating a_h_now_kinds a_h_now_sweets a_h_now_settings a_h_now_heaps y_h_isKept y_h_numberCount (r_children z_h_now) (r_strokes z_h_now) (r_gave z_h_now) (r_threw z_h_now) (r_kinds z_h_now) (r_sweets z_h_now) (r_settings z_h_now) (r_heaps z_h_now) z_h_refusals)) (As := [.int x1, .int x2]) (rest := []) hx hb hml hown hT (c_X_areTwo (z_h_now := z_h_now) a_h a_h_now a_h_kept a_h_letters a_h_numbers a_h_refusals a_h_mind a_h_parts a_h_past a_h_seating a_h_now_kinds a_h_now_sweets a_h_now_settings a_h_now_heaps y_h_isKept y_h_numberCount hq1) k_400 k_402 ks_6 k_1 k_403 hd_X_areTwo ⟨Nat.le_of_ble_eq_true rfl, Nat.le_of_ble_eq_true rfl⟩ xE0_ok trivial hA hK hP hD hS [0, 1] [2, 3, 4, 5, 6] [5, 6, 0, 1, 2, 3, 4] rfl rfl rfl rfl rfl rfl rfl rfl rfl rfl hl.1 rfl (Nat.le_of_ble_eq_true rfl) ⟨Nat.zero_le _, Nat.zero_le _⟩ d_X_change_3 (fun H locs hP hD hS => ?_)
  refine lv_if_ne (tgt := 15) hx hb d_X_change_6 (by decide) (fun c2 => ?_) (fun c2 => ?_)
  · have hf := io_f hf c2
    refine lv_aload_n hx hb d_X_change_15 rfl (lv_at hl 0 rfl) ?_
    refine va_get hx hb hT i_X hown hK hP 0 rfl rfl 0 (Nat.le_of_ble_eq_true rfl) (hT _ k_168) (fun _ h => h) rfl d_X_change_16 ?_
    refine lv_iload_n hx hb d_X_change_19 rfl (lv_at hl 1 rfl) ?_
    refine lv_iload_n hx hb d_X_change_20 rfl (lv_at hl 2 rfl) ?_
    obtain ⟨q3, hq3, hf⟩ := io_b hf
    refine xcVV (wc := (w_Ring_changeSeats cI cJ cC a_h_now a_h_now_kinds a_h_now_sweets a_h_now_settings a_h_now_heaps (r_children z_h_now) (r_strokes z_h_now) (r_gave z_h_now) (r_threw z_h_now) (r_kinds z_h_now) (r_sweets z_h_now) (r_settings z_h_now) (r_heaps z_h_now))) (wc' := (w_Ring_changeSeats cI cJ cC a_h_now a_h_now_kinds a_h_now_sweets a_h_now_settings a_h_now_heaps (r_children q3) (r_strokes q3) (r_gave q3) (r_threw q3) (r_kinds q3) (r_sweets q3) (r_settings q3) (r_heaps q3))) (ws' := (w_X_change cI cJ cC a_h a_h_now a_h_kept a_h_letters a_h_numbers a_h_refusals a_h_mind a_h_parts a_h_past a_h_seating a_h_now_kinds a_h_now_sweets a_h_now_settings a_h_now_heaps y_h_isKept y_h_numberCount (r_children q3) (r_strokes q3) (r_gave q3) (r_threw q3) (r_kinds q3) (r_sweets q3) (r_settings q3) (r_heaps q3) z_h_refusals)) (As := [.int x1, .int x2]) (rest := []) hx hb hml hown hT (c_Ring_changeSeats (z_h := z_h_now) a_h_now a_h_now_kinds a_h_now_sweets a_h_now_settings a_h_now_heaps hq3) k_404 k_405 k_406 k_2 k_407 hd_Ring_changeSeats ⟨Nat.le_of_ble_eq_true rfl, Nat.le_of_ble_eq_true rfl⟩ xE0_ok trivial hA hK hP hD hS [1, 2, 3, 4, 5] [0, 6] [0, 2, 3, 4, 5, 6, 1] rfl rfl rfl rfl rfl rfl rfl rfl rfl rfl hl.1 rfl (Nat.le_of_ble_eq_true rfl) ⟨Nat.zero_le _, Nat.zero_le _⟩ d_X_change_21 (fun H locs hP hD hS => ?_)
    refine lv_iconst (v := 1) hx hb d_X_change_24 (by decide) ?_
    have hq := Option.some.inj hf
    subst hq
    exact hret _ _ _ _ _ d_X_change_25 rfl rfl hP hD hS
  · have hf := io_t hf c2
    refine lv_aload_n hx hb d_X_change_9 rfl (lv_at hl 0 rfl) ?_
    refine lv_iconst (v := (-1)) hx hb d_X_change_10 (by decide) ?_
    obtain ⟨q4, hq4, hf⟩ := io_b hf
    refine xcVI (wc := (w_X_refuse cI cJ cC a_h a_h_now a_h_kept a_h_letters a_h_numbers a_h_refusals a_h_mind a_h_parts a_h_past a_h_seating y_h_isKept y_h_numberCount z_h_refusals)) (wc' := (w_X_refuse cI cJ cC a_h a_h_now a_h_kept a_h_letters a_h_numbers a_h_refusals a_h_mind a_h_parts a_h_past a_h_seating y_h_isKept y_h_numberCount q4.2)) (ws' := (w_X_change cI cJ cC a_h a_h_now a_h_kept a_h_letters a_h_numbers a_h_refusals a_h_mind a_h_parts a_h_past a_h_seating a_h_now_kinds a_h_now_sweets a_h_now_settings a_h_now_heaps y_h_isKept y_h_numberCount (r_children z_h_now) (r_strokes z_h_now) (r_gave z_h_now) (r_threw z_h_now) (r_kinds z_h_now) (r_sweets z_h_now) (r_settings z_h_now) (r_heaps z_h_now) q4.2)) (As := [.int (-1)]) (rest := []) hx hb hml hown hT (c_X_refuse (z_h_refusals := z_h_refusals) a_h a_h_now a_h_kept a_h_letters a_h_numbers a_h_refusals a_h_mind a_h_parts a_h_past a_h_seating y_h_isKept y_h_numberCount hq4) k_206 k_208 ks_0 k_1 k_209 hd_X_refuse ⟨Nat.le_of_ble_eq_true rfl, Nat.le_of_ble_eq_true rfl⟩ xE0_ok trivial hA hK hP hD hS [0, 6] [1, 2, 3, 4, 5] [5, 0, 1, 2, 3, 4, 6] rfl rfl rfl rfl rfl rfl rfl rfl rfl rfl hl.1 rfl (Nat.le_of_ble_eq_true rfl) ⟨Nat.zero_le _, Nat.zero_le _⟩ d_X_change_11 (fun H locs hP hD hS => ?_)
    have hq := Option.some.inj hf
    subst hq
    exact hret _ _ _ _ _ d_X_change_14 rfl rfl hP hD hS
abbrev w_X_stroke (cI cJ cC : ClassId) (a_h a_h_now a_h_kept a_h_letters a_h_numbers a_h_refusals a_h_mind a_h_parts a_h_past a_h_seating a_h_now_kinds a_h_now_sweets a_h_now_settings a_h_now_heaps : Nat) (y_h_isKept : Int32) (y_h_numberCount : Int32) (p_h_now_children : Int32) (p_h_now_strokes : Int32) (p_h_now_gave : Int32) (p_h_now_threw : Int32) (p_h_now_kinds : (Nat → Int32)) (p_h_now_sweets : (Nat → Int32)) (p_h_now_settings : (Nat → Int32)) (p_h_now_heaps : (Nat → Int32)) (p_h_refusals : (Nat → Int32)) : va_W := [(a_h, .inr (0, [.ref a_h_now, .ref a_h_kept, .int y_h_isKept, .ref a_h_letters, .ref a_h_numbers, .int y_h_numberCount, .ref a_h_refusals, .ref a_h_mind, .ref a_h_parts, .ref a_h_past, .ref a_h_seating])), (a_h_now, .inr (1, [.ref a_h_now_kinds, .ref a_h_now_sweets, .ref a_h_now_settings, .int p_h_now_children, .int p_h_now_strokes, .int p_h_now_gave, .int p_h_now_threw, .ref a_h_now_heaps])), (a_h_now_kinds, .inl (cI, (8, .inl p_h_now_kinds))), (a_h_now_sweets, .inl (cI, (8, .inl p_h_now_sweets))), (a_h_now_settings, .inl (cI, (3, .inl p_h_now_settings))), (a_h_now_heaps, .inl (cI, (8, .inl p_h_now_heaps))), (a_h_refusals, .inl (cI, (7, .inl p_h_refusals)))]
theorem d_X_stroke_0 : decode b_X_stroke 0 = .ok (.aload_n 0, 1) := by decide +kernel
theorem d_X_stroke_1 : decode b_X_stroke 1 = .ok (.getfield 10, 3) := by decide +kernel
theorem d_X_stroke_4 : decode b_X_stroke 4 = .ok (.getfield 121, 3) := by decide +kernel
theorem d_X_stroke_7 : decode b_X_stroke 7 = .ok (.ifCond .ne 10, 3) := by decide +kernel
theorem d_X_stroke_10 : decode b_X_stroke 10 = .ok (.aload_n 0, 1) := by decide +kernel
theorem d_X_stroke_11 : decode b_X_stroke 11 = .ok (.bipush (-3), 2) := by decide +kernel
theorem d_X_stroke_13 : decode b_X_stroke 13 = .ok (.invokevirtual 69, 3) := by decide +kernel
theorem d_X_stroke_16 : decode b_X_stroke 16 = .ok (.ireturn, 1) := by decide +kernel
theorem d_X_stroke_17 : decode b_X_stroke 17 = .ok (.aload_n 0, 1) := by decide +kernel
theorem d_X_stroke_18 : decode b_X_stroke 18 = .ok (.getfield 10, 3) := by decide +kernel
theorem d_X_stroke_21 : decode b_X_stroke 21 = .ok (.invokevirtual 124, 3) := by decide +kernel
theorem d_X_stroke_24 : decode b_X_stroke 24 = .ok (.ireturn, 1) := by decide +kernel
set_option maxHeartbeats 4000000 in
set_option maxRecDepth 100000 in
theorem c_X_stroke {l : Launch} {D : va_G} {cI cJ cC : ClassId} (a_h a_h_now a_h_kept a_h_letters a_h_numbers a_h_refusals a_h_mind a_h_parts a_h_past a_h_seating a_h_now_kinds a_h_now_sweets a_h_now_settings a_h_now_heaps : Nat) (y_h_isKept : Int32) (y_h_numberCount : Int32) {z_h_now : RS} {z_h_refusals : (Nat → Int32)} {q : Int32 × RS × (Nat → Int32)} (hf : f_X_stroke z_h_now z_h_refusals = some q) : xI l y_X_stroke b_X_stroke 1 .int 4 89 D (tyK cI cJ cC) xE0 [.ref a_h] (w_X_stroke cI cJ cC a_h a_h_now a_h_kept a_h_letters a_h_numbers a_h_refusals a_h_mind a_h_parts a_h_past a_h_seating a_h_now_kinds a_h_now_sweets a_h_now_settings a_h_now_heaps y_h_isKept y_h_numberCount (r_children z_h_now) (r_strokes z_h_now) (r_gave z_h_now) (r_threw z_h_now) (r_kinds z_h_now) (r_sweets z_h_now) (r_settings z_h_now) (r_heaps z_h_now) z_h_refusals) q.1 (w_X_stroke cI cJ cC a_h a_h_now a_h_kept a_h_letters a_h_numbers a_h_refusals a_h_mind a_h_parts a_h_past a_h_seating a_h_now_kinds a_h_now_sweets a_h_now_settings a_h_now_heaps y_h_isKept y_h_numberCount (r_children q.2.1) (r_strokes q.2.1) (r_gave q.2.1) (r_threw q.2.1) (r_kinds q.2.1) (r_sweets q.2.1) (r_settings q.2.1) (r_heaps q.2.1) q.2.2) := by
  refine xI_of (by decide) (Nat.le_of_ble_eq_true rfl) ?_
  intro p e s m args below meth c A Q hx hb hml hown hT hA hP hD hK hS hE hret ls hl
  have hown : s.vm.findClass R_X = some m.cls := hown
  have hl : lv_has ls 1 [(0, .ref a_h)] := hl
  unfold f_X_stroke at hf
  refine lv_aload_n hx hb d_X_stroke_0 rfl (lv_at hl 0 rfl) ?_
  refine va_get hx hb hT i_X hown hK hP 0 rfl rfl 0 (Nat.le_of_ble_eq_true rfl) (hT _ k_168) (fun _ h => h) rfl d_X_stroke_1 ?_
  refine va_get hx hb hT i_Ring hown hK hP 1 rfl rfl 3 (Nat.le_of_ble_eq_true rfl) (hT _ k_48) (fun _ h => h) rfl d_X_stroke_4 ?_
  refine lv_if_ne (tgt := 17) hx hb d_X_stroke_7 (by decide) (fun c1 => ?_) (fun c1 => ?_)
  · have hf := io_f hf c1
    refine lv_aload_n hx hb d_X_stroke_17 rfl (lv_at hl 0 rfl) ?_
    refine va_get hx hb hT i_X hown hK hP 0 rfl rfl 0 (Nat.le_of_ble_eq_true rfl) (hT _ k_168) (fun _ h => h) rfl d_X_stroke_18 ?_
    obtain ⟨q2, hq2, hf⟩ := io_b hf
    refine xcVI (wc := (w_Ring_strike cI cJ cC a_h_now a_h_now_kinds a_h_now_sweets a_h_now_settings a_h_now_heaps (r_children z_h_now) (r_strokes z_h_now) (r_gave z_h_now) (r_threw z_h_now) (r_kinds z_h_now) (r_sweets z_h_now) (r_settings z_h_now) (r_heaps z_h_now))) (wc' := (w_Ring_strike cI cJ cC a_h_now a_h_now_kinds a_h_now_sweets a_h_now_settings a_h_now_heaps (r_children q2.2) (r_strokes q2.2) (r_gave q2.2) (r_threw q2.2) (r_kinds q2.2) (r_sweets q2.2) (r_settings q2.2) (r_heaps q2.2))) (ws' := (w_X_stroke cI cJ cC a_h a_h_now a_h_kept a_h_letters a_h_numbers a_h_refusals a_h_mind a_h_parts a_h_past a_h_seating a_h_now_kinds a_h_now_sweets a_h_now_settings a_h_now_heaps y_h_isKept y_h_numberCount (r_children q2.2) (r_strokes q2.2) (r_gave q2.2) (r_threw q2.2) (r_kinds q2.2) (r_sweets q2.2) (r_settings q2.2) (r_heaps q2.2) z_h_refusals)) (As := []) (rest := []) hx hb hml hown hT (c_Ring_strike (z_h := z_h_now) a_h_now a_h_now_kinds a_h_now_sweets a_h_now_settings a_h_now_heaps hq2) k_416 k_417 k_418 k_2 k_419 hd_Ring_strike ⟨Nat.le_of_ble_eq_true rfl, Nat.le_of_ble_eq_true rfl⟩ xE0_ok trivial hA hK hP hD hS [1, 2, 3, 4, 5] [0, 6] [0, 2, 3, 4, 5, 6, 1] rfl rfl rfl rfl rfl rfl rfl rfl rfl rfl hl.1 rfl (Nat.le_of_ble_eq_true rfl) ⟨Nat.zero_le _, Nat.zero_le _⟩ d_X_stroke_21 (fun H locs hP hD hS => ?_)
    have hq := Option.some.inj hf
    subst hq
    exact hret _ _ _ _ _ d_X_stroke_24 rfl rfl hP hD hS
  · have hf := io_t hf c1
    refine lv_aload_n hx hb d_X_stroke_10 rfl (lv_at hl 0 rfl) ?_
    refine lv_bipush (v := (-3)) hx hb d_X_stroke_11 (by decide) ?_
    obtain ⟨q3, hq3, hf⟩ := io_b hf
    refine xcVI (wc := (w_X_refuse cI cJ cC a_h a_h_now a_h_kept a_h_letters a_h_numbers a_h_refusals a_h_mind a_h_parts a_h_past a_h_seating y_h_isKept y_h_numberCount z_h_refusals)) (wc' := (w_X_refuse cI cJ cC a_h a_h_now a_h_kept a_h_letters a_h_numbers a_h_refusals a_h_mind a_h_parts a_h_past a_h_seating y_h_isKept y_h_numberCount q3.2)) (ws' := (w_X_stroke cI cJ cC a_h a_h_now a_h_kept a_h_letters a_h_numbers a_h_refusals a_h_mind a_h_parts a_h_past a_h_seating a_h_now_kinds a_h_now_sweets a_h_now_settings a_h_now_heaps y_h_isKept y_h_numberCount (r_children z_h_now) (r_strokes z_h_now) (r_gave z_h_now) (r_threw z_h_now) (r_kinds z_h_now) (r_sweets z_h_now) (r_settings z_h_now) (r_heaps z_h_now) q3.2)) (As := [.int (-3)]) (rest := []) hx hb hml hown hT (c_X_refuse (z_h_refusals := z_h_refusals) a_h a_h_now a_h_kept a_h_letters a_h_numbers a_h_refusals a_h_mind a_h_parts a_h_past a_h_seating y_h_isKept y_h_numberCount hq3) k_206 k_208 ks_0 k_1 k_209 hd_X_refuse ⟨Nat.le_of_ble_eq_true rfl, Nat.le_of_ble_eq_true rfl⟩ xE0_ok trivial hA hK hP hD hS [0, 6] [1, 2, 3, 4, 5] [5, 0, 1, 2, 3, 4, 6] rfl rfl rfl rfl rfl rfl rfl rfl rfl rfl hl.1 rfl (Nat.le_of_ble_eq_true rfl) ⟨Nat.zero_le _, Nat.zero_le _⟩ d_X_stroke_13 (fun H locs hP hD hS => ?_)
    have hq := Option.some.inj hf
    subst hq
    exact hret _ _ _ _ _ d_X_stroke_16 rfl rfl hP hD hS
abbrev w_X_run (cI cJ cC : ClassId) (a_h a_h_now a_h_kept a_h_letters a_h_numbers a_h_refusals a_h_mind a_h_parts a_h_past a_h_seating a_h_now_kinds a_h_now_sweets a_h_now_settings a_h_now_heaps a_h_mind_one a_h_mind_two a_h_mind_one_kinds a_h_mind_one_sweets a_h_mind_one_settings a_h_mind_one_heaps : Nat) (y_h_isKept : Int32) (y_h_numberCount : Int32) (y_h_mind_seed : Int32) (p_h_now_children : Int32) (p_h_now_strokes : Int32) (p_h_now_gave : Int32) (p_h_now_threw : Int32) (p_h_now_kinds : (Nat → Int32)) (p_h_now_sweets : (Nat → Int32)) (p_h_now_settings : (Nat → Int32)) (p_h_refusals : (Nat → Int32)) (p_h_mind_one_children : Int32) (p_h_mind_one_strokes : Int32) (p_h_mind_one_gave : Int32) (p_h_mind_one_threw : Int32) (p_h_mind_one_kinds : (Nat → Int32)) (p_h_mind_one_sweets : (Nat → Int32)) (p_h_mind_one_settings : (Nat → Int32)) (p_h_mind_one_heaps : (Nat → Int32)) : va_W := [(a_h, .inr (0, [.ref a_h_now, .ref a_h_kept, .int y_h_isKept, .ref a_h_letters, .ref a_h_numbers, .int y_h_numberCount, .ref a_h_refusals, .ref a_h_mind, .ref a_h_parts, .ref a_h_past, .ref a_h_seating])), (a_h_now, .inr (1, [.ref a_h_now_kinds, .ref a_h_now_sweets, .ref a_h_now_settings, .int p_h_now_children, .int p_h_now_strokes, .int p_h_now_gave, .int p_h_now_threw, .ref a_h_now_heaps])), (a_h_now_kinds, .inl (cI, (8, .inl p_h_now_kinds))), (a_h_now_sweets, .inl (cI, (8, .inl p_h_now_sweets))), (a_h_now_settings, .inl (cI, (3, .inl p_h_now_settings))), (a_h_refusals, .inl (cI, (7, .inl p_h_refusals))), (a_h_mind, .inr (3, [.ref a_h_mind_one, .ref a_h_mind_two, .int y_h_mind_seed])), (a_h_mind_one, .inr (1, [.ref a_h_mind_one_kinds, .ref a_h_mind_one_sweets, .ref a_h_mind_one_settings, .int p_h_mind_one_children, .int p_h_mind_one_strokes, .int p_h_mind_one_gave, .int p_h_mind_one_threw, .ref a_h_mind_one_heaps])), (a_h_mind_one_kinds, .inl (cI, (8, .inl p_h_mind_one_kinds))), (a_h_mind_one_sweets, .inl (cI, (8, .inl p_h_mind_one_sweets))), (a_h_mind_one_settings, .inl (cI, (3, .inl p_h_mind_one_settings))), (a_h_mind_one_heaps, .inl (cI, (8, .inl p_h_mind_one_heaps)))]
theorem d_X_run_0 : decode b_X_run 0 = .ok (.aload_n 0, 1) := by decide +kernel
theorem d_X_run_1 : decode b_X_run 1 = .ok (.getfield 10, 3) := by decide +kernel
theorem d_X_run_4 : decode b_X_run 4 = .ok (.iload_n 1, 1) := by decide +kernel
theorem d_X_run_5 : decode b_X_run 5 = .ok (.invokevirtual 84, 3) := by decide +kernel
theorem d_X_run_8 : decode b_X_run 8 = .ok (.ifCond .eq 14, 3) := by decide +kernel
theorem d_X_run_11 : decode b_X_run 11 = .ok (.iload_n 2, 1) := by decide +kernel
theorem d_X_run_12 : decode b_X_run 12 = .ok (.iconst 0, 1) := by decide +kernel
theorem d_X_run_13 : decode b_X_run 13 = .ok (.sipush 200, 3) := by decide +kernel
theorem d_X_run_16 : decode b_X_run 16 = .ok (.invokestatic 100, 3) := by decide +kernel
theorem d_X_run_19 : decode b_X_run 19 = .ok (.goto 4, 3) := by decide +kernel
theorem d_X_run_22 : decode b_X_run 22 = .ok (.iconst (-1), 1) := by decide +kernel
theorem d_X_run_23 : decode b_X_run 23 = .ok (.istore_n 3, 1) := by decide +kernel
theorem d_X_run_24 : decode b_X_run 24 = .ok (.iload_n 3, 1) := by decide +kernel
theorem d_X_run_25 : decode b_X_run 25 = .ok (.ifCond .eq 9, 3) := by decide +kernel
theorem d_X_run_28 : decode b_X_run 28 = .ok (.aload_n 0, 1) := by decide +kernel
theorem d_X_run_29 : decode b_X_run 29 = .ok (.iload_n 3, 1) := by decide +kernel
theorem d_X_run_30 : decode b_X_run 30 = .ok (.invokevirtual 69, 3) := by decide +kernel
theorem d_X_run_33 : decode b_X_run 33 = .ok (.ireturn, 1) := by decide +kernel
theorem d_X_run_34 : decode b_X_run 34 = .ok (.aload_n 0, 1) := by decide +kernel
theorem d_X_run_35 : decode b_X_run 35 = .ok (.getfield 44, 3) := by decide +kernel
theorem d_X_run_38 : decode b_X_run 38 = .ok (.aload_n 0, 1) := by decide +kernel
theorem d_X_run_39 : decode b_X_run 39 = .ok (.getfield 10, 3) := by decide +kernel
theorem d_X_run_42 : decode b_X_run 42 = .ok (.iload_n 1, 1) := by decide +kernel
theorem d_X_run_43 : decode b_X_run 43 = .ok (.iload_n 2, 1) := by decide +kernel
theorem d_X_run_44 : decode b_X_run 44 = .ok (.invokevirtual 128, 3) := by decide +kernel
theorem d_X_run_47 : decode b_X_run 47 = .ok (.ireturn, 1) := by decide +kernel
set_option maxHeartbeats 4000000 in
set_option maxRecDepth 100000 in
theorem c_X_run {l : Launch} {D : va_G} {cI cJ cC : ClassId} (a_h a_h_now a_h_kept a_h_letters a_h_numbers a_h_refusals a_h_mind a_h_parts a_h_past a_h_seating a_h_now_kinds a_h_now_sweets a_h_now_settings a_h_now_heaps a_h_mind_one a_h_mind_two a_h_mind_one_kinds a_h_mind_one_sweets a_h_mind_one_settings a_h_mind_one_heaps : Nat) (y_h_isKept : Int32) (y_h_numberCount : Int32) (y_h_mind_seed : Int32) {z_h_now : RS} {z_h_refusals : (Nat → Int32)} {z_h_mind_one : RS} {x1 : Int32} {x2 : Int32} {q : Int32 × (Nat → Int32) × RS} (hf : f_X_run z_h_now z_h_refusals z_h_mind_one x1 x2 = some q) : xI l y_X_run b_X_run 4 .int 6 134 D (tyK cI cJ cC) xE0 [.ref a_h, .int x1, .int x2] (w_X_run cI cJ cC a_h a_h_now a_h_kept a_h_letters a_h_numbers a_h_refusals a_h_mind a_h_parts a_h_past a_h_seating a_h_now_kinds a_h_now_sweets a_h_now_settings a_h_now_heaps a_h_mind_one a_h_mind_two a_h_mind_one_kinds a_h_mind_one_sweets a_h_mind_one_settings a_h_mind_one_heaps y_h_isKept y_h_numberCount y_h_mind_seed (r_children z_h_now) (r_strokes z_h_now) (r_gave z_h_now) (r_threw z_h_now) (r_kinds z_h_now) (r_sweets z_h_now) (r_settings z_h_now) z_h_refusals (r_children z_h_mind_one) (r_strokes z_h_mind_one) (r_gave z_h_mind_one) (r_threw z_h_mind_one) (r_kinds z_h_mind_one) (r_sweets z_h_mind_one) (r_settings z_h_mind_one) (r_heaps z_h_mind_one)) q.1 (w_X_run cI cJ cC a_h a_h_now a_h_kept a_h_letters a_h_numbers a_h_refusals a_h_mind a_h_parts a_h_past a_h_seating a_h_now_kinds a_h_now_sweets a_h_now_settings a_h_now_heaps a_h_mind_one a_h_mind_two a_h_mind_one_kinds a_h_mind_one_sweets a_h_mind_one_settings a_h_mind_one_heaps y_h_isKept y_h_numberCount y_h_mind_seed (r_children z_h_now) (r_strokes z_h_now) (r_gave z_h_now) (r_threw z_h_now) (r_kinds z_h_now) (r_sweets z_h_now) (r_settings z_h_now) q.2.1 (r_children q.2.2) (r_strokes q.2.2) (r_gave q.2.2) (r_threw q.2.2) (r_kinds q.2.2) (r_sweets q.2.2) (r_settings q.2.2) (r_heaps q.2.2)) := by
  refine xI_of (by decide) (Nat.le_of_ble_eq_true rfl) ?_
  intro p e s m args below meth c A Q hx hb hml hown hT hA hP hD hK hS hE hret ls hl
  have hown : s.vm.findClass R_X = some m.cls := hown
  have hl : lv_has ls 4 [(0, .ref a_h), (1, .int x1), (2, .int x2)] := hl
  unfold f_X_run at hf
  refine lv_aload_n hx hb d_X_run_0 rfl (lv_at hl 0 rfl) ?_
  refine va_get hx hb hT i_X hown hK hP 0 rfl rfl 0 (Nat.le_of_ble_eq_true rfl) (hT _ k_168) (fun _ h => h) rfl d_X_run_1 ?_
  refine lv_iload_n hx hb d_X_run_4 rfl (lv_at hl 1 rfl) ?_
  obtain ⟨q1, hq1, hf⟩ := io_b hf
  refine xcVI (wc := (w_Ring_has cI cJ cC a_h_now a_h_now_kinds a_h_now_sweets a_h_now_settings a_h_now_heaps (r_children z_h_now) (r_strokes z_h_now) (r_gave z_h_now) (r_threw z_h_now))) (wc' := (w_Ring_has cI cJ cC a_h_now a_h_now_kinds a_h_now_sweets a_h_now_settings a_h_now_heaps (r_children z_h_now) (r_strokes z_h_now) (r_gave z_h_now) (r_threw z_h_now))) (ws' := (w_X_run cI cJ cC a_h a_h_now a_h_kept a_h_letters a_h_numbers a_h_refusals a_h_mind a_h_parts a_h_past a_h_seating a_h_now_kinds a_h_now_sweets a_h_now_settings a_h_now_heaps a_h_mind_one a_h_mind_two a_h_mind_one_kinds a_h_mind_one_sweets a_h_mind_one_settings a_h_mind_one_heaps y_h_isKept y_h_numberCount y_h_mind_seed (r_children z_h_now) (r_strokes z_h_now) (r_gave z_h_now) (r_threw z_h_now) (r_kinds z_h_now) (r_sweets z_h_now) (r_settings z_h_now) z_h_refusals (r_children z_h_mind_one) (r_strokes z_h_mind_one) (r_gave z_h_mind_one) (r_threw z_h_mind_one) (r_kinds z_h_mind_one) (r_sweets z_h_mind_one) (r_settings z_h_mind_one) (r_heaps z_h_mind_one))) (As := [.int x1]) (rest := []) hx hb hml hown hT (c_Ring_has (z_h := z_h_now) a_h_now a_h_now_kinds a_h_now_sweets a_h_now_settings a_h_now_heaps hq1) k_364 k_365 k_366 k_2 k_367 hd_Ring_has ⟨Nat.le_of_ble_eq_true rfl, Nat.le_of_ble_eq_true rfl⟩ xE0_ok trivial hA hK hP hD hS [1] [0, 2, 3, 4, 5, 6, 7, 8, 9, 10, 11] [0, 11, 1, 2, 3, 4, 5, 6, 7, 8, 9, 10] rfl rfl rfl rfl rfl rfl rfl rfl rfl rfl hl.1 rfl (Nat.le_of_ble_eq_true rfl) ⟨Nat.zero_le _, Nat.zero_le _⟩ d_X_run_5 (fun H locs hP hD hS => ?_)
  refine lv_if_eq (tgt := 22) hx hb d_X_run_8 (by decide) (fun c2 => ?_) (fun c2 => ?_)
  · have hf := io_t hf c2
    refine lv_iconst (v := (-1)) hx hb d_X_run_22 (by decide) ?_
    refine lv_istore_n (lv' := [(3, .int (-1)), (0, .ref a_h), (1, .int x1), (2, .int x2)]) hx hb d_X_run_23 rfl hl (by decide) rfl (fun ls hl => ?_)
    refine lv_iload_n hx hb d_X_run_24 rfl (lv_at hl 0 rfl) ?_
    refine lv_if_eq (tgt := 34) hx hb d_X_run_25 (by decide) (fun c => absurd c (show ¬ ((-1) : Int32) = 0 from by decide +kernel)) (fun _ => ?_)
    refine lv_aload_n hx hb d_X_run_28 rfl (lv_at hl 1 rfl) ?_
    refine lv_iload_n hx hb d_X_run_29 rfl (lv_at hl 0 rfl) ?_
    obtain ⟨q3, hq3, hf⟩ := io_b hf
    refine xcVI (wc := (w_X_refuse cI cJ cC a_h a_h_now a_h_kept a_h_letters a_h_numbers a_h_refusals a_h_mind a_h_parts a_h_past a_h_seating y_h_isKept y_h_numberCount z_h_refusals)) (wc' := (w_X_refuse cI cJ cC a_h a_h_now a_h_kept a_h_letters a_h_numbers a_h_refusals a_h_mind a_h_parts a_h_past a_h_seating y_h_isKept y_h_numberCount q3.2)) (ws' := (w_X_run cI cJ cC a_h a_h_now a_h_kept a_h_letters a_h_numbers a_h_refusals a_h_mind a_h_parts a_h_past a_h_seating a_h_now_kinds a_h_now_sweets a_h_now_settings a_h_now_heaps a_h_mind_one a_h_mind_two a_h_mind_one_kinds a_h_mind_one_sweets a_h_mind_one_settings a_h_mind_one_heaps y_h_isKept y_h_numberCount y_h_mind_seed (r_children z_h_now) (r_strokes z_h_now) (r_gave z_h_now) (r_threw z_h_now) (r_kinds z_h_now) (r_sweets z_h_now) (r_settings z_h_now) q3.2 (r_children z_h_mind_one) (r_strokes z_h_mind_one) (r_gave z_h_mind_one) (r_threw z_h_mind_one) (r_kinds z_h_mind_one) (r_sweets z_h_mind_one) (r_settings z_h_mind_one) (r_heaps z_h_mind_one))) (As := [.int (-1)]) (rest := []) hx hb hml hown hT (c_X_refuse (z_h_refusals := z_h_refusals) a_h a_h_now a_h_kept a_h_letters a_h_numbers a_h_refusals a_h_mind a_h_parts a_h_past a_h_seating y_h_isKept y_h_numberCount hq3) k_206 k_208 ks_0 k_1 k_209 hd_X_refuse ⟨Nat.le_of_ble_eq_true rfl, Nat.le_of_ble_eq_true rfl⟩ xE0_ok trivial hA hK hP hD hS [0, 5] [1, 2, 3, 4, 6, 7, 8, 9, 10, 11] [10, 0, 1, 2, 3, 11, 4, 5, 6, 7, 8, 9] rfl rfl rfl rfl rfl rfl rfl rfl rfl rfl hl.1 rfl (Nat.le_of_ble_eq_true rfl) ⟨Nat.zero_le _, Nat.zero_le _⟩ d_X_run_30 (fun H locs hP hD hS => ?_)
    have hq := Option.some.inj hf
    subst hq
    exact hret _ _ _ _ _ d_X_run_33 rfl rfl hP hD hS
  · have hf := io_f hf c2
    refine lv_iload_n hx hb d_X_run_11 rfl (lv_at hl 2 rfl) ?_
    refine lv_iconst (v := 0) hx hb d_X_run_12 (by decide) ?_
    refine lv_sipush (v := 200) hx hb d_X_run_13 (by decide) ?_
    obtain ⟨q4, hq4, hf⟩ := io_b hf
    refine xcSI (wc := []) (wc' := []) (ws' := (w_X_run cI cJ cC a_h a_h_now a_h_kept a_h_letters a_h_numbers a_h_refusals a_h_mind a_h_parts a_h_past a_h_seating a_h_now_kinds a_h_now_sweets a_h_now_settings a_h_now_heaps a_h_mind_one a_h_mind_two a_h_mind_one_kinds a_h_mind_one_sweets a_h_mind_one_settings a_h_mind_one_heaps y_h_isKept y_h_numberCount y_h_mind_seed (r_children z_h_now) (r_strokes z_h_now) (r_gave z_h_now) (r_threw z_h_now) (r_kinds z_h_now) (r_sweets z_h_now) (r_settings z_h_now) z_h_refusals (r_children z_h_mind_one) (r_strokes z_h_mind_one) (r_gave z_h_mind_one) (r_threw z_h_mind_one) (r_kinds z_h_mind_one) (r_sweets z_h_mind_one) (r_settings z_h_mind_one) (r_heaps z_h_mind_one))) (As := [.int x2, .int 0, .int 200]) (rest := []) hx hb hml hown hT (c_X_outside hq4) k_385 k_357 k_1 k_358 hd_X_outside ⟨Nat.le_of_ble_eq_true rfl, Nat.le_of_ble_eq_true rfl⟩ xE0_ok trivial hA hK hP hD hS [] [0, 1, 2, 3, 4, 5, 6, 7, 8, 9, 10, 11] [0, 1, 2, 3, 4, 5, 6, 7, 8, 9, 10, 11] rfl rfl rfl rfl rfl rfl rfl hl.1 rfl (Nat.le_of_ble_eq_true rfl) ⟨Nat.zero_le _, Nat.zero_le _⟩ d_X_run_16 (fun H locs hP hD hS => ?_)
    refine lv_goto (tgt := 23) hx hb d_X_run_19 (by decide) ?_
    refine lv_istore_n (lv' := [(3, .int q4), (0, .ref a_h), (1, .int x1), (2, .int x2)]) hx hb d_X_run_23 rfl hl (by decide) rfl (fun ls hl => ?_)
    refine lv_iload_n hx hb d_X_run_24 rfl (lv_at hl 0 rfl) ?_
    refine lv_if_eq (tgt := 34) hx hb d_X_run_25 (by decide) (fun c5 => ?_) (fun c5 => ?_)
    · have hf := io_t hf c5
      refine lv_aload_n hx hb d_X_run_34 rfl (lv_at hl 1 rfl) ?_
      refine va_get hx hb hT i_X hown hK hP 0 rfl rfl 7 (Nat.le_of_ble_eq_true rfl) (hT _ k_175) (fun _ h => h) rfl d_X_run_35 ?_
      refine lv_aload_n hx hb d_X_run_38 rfl (lv_at hl 1 rfl) ?_
      refine va_get hx hb hT i_X hown hK hP 0 rfl rfl 0 (Nat.le_of_ble_eq_true rfl) (hT _ k_168) (fun _ h => h) rfl d_X_run_39 ?_
      refine lv_iload_n hx hb d_X_run_42 rfl (lv_at hl 2 rfl) ?_
      refine lv_iload_n hx hb d_X_run_43 rfl (lv_at hl 3 rfl) ?_
      obtain ⟨q6, hq6, hf⟩ := io_b hf
      refine xcVI (wc := (w_Mind_sweetsBehind cI cJ cC a_h_mind a_h_mind_one a_h_mind_two a_h_mind_one_kinds a_h_mind_one_sweets a_h_mind_one_settings a_h_mind_one_heaps a_h_now a_h_now_kinds a_h_now_sweets a_h_now_settings a_h_now_heaps y_h_mind_seed (r_children z_h_mind_one) (r_strokes z_h_mind_one) (r_gave z_h_mind_one) (r_threw z_h_mind_one) (r_kinds z_h_mind_one) (r_sweets z_h_mind_one) (r_settings z_h_mind_one) (r_heaps z_h_mind_one) (r_children z_h_now) (r_strokes z_h_now) (r_gave z_h_now) (r_threw z_h_now) (r_kinds z_h_now) (r_sweets z_h_now) (r_settings z_h_now))) (wc' := (w_Mind_sweetsBehind cI cJ cC a_h_mind a_h_mind_one a_h_mind_two a_h_mind_one_kinds a_h_mind_one_sweets a_h_mind_one_settings a_h_mind_one_heaps a_h_now a_h_now_kinds a_h_now_sweets a_h_now_settings a_h_now_heaps y_h_mind_seed (r_children q6.2) (r_strokes q6.2) (r_gave q6.2) (r_threw q6.2) (r_kinds q6.2) (r_sweets q6.2) (r_settings q6.2) (r_heaps q6.2) (r_children z_h_now) (r_strokes z_h_now) (r_gave z_h_now) (r_threw z_h_now) (r_kinds z_h_now) (r_sweets z_h_now) (r_settings z_h_now))) (ws' := (w_X_run cI cJ cC a_h a_h_now a_h_kept a_h_letters a_h_numbers a_h_refusals a_h_mind a_h_parts a_h_past a_h_seating a_h_now_kinds a_h_now_sweets a_h_now_settings a_h_now_heaps a_h_mind_one a_h_mind_two a_h_mind_one_kinds a_h_mind_one_sweets a_h_mind_one_settings a_h_mind_one_heaps y_h_isKept y_h_numberCount y_h_mind_seed (r_children z_h_now) (r_strokes z_h_now) (r_gave z_h_now) (r_threw z_h_now) (r_kinds z_h_now) (r_sweets z_h_now) (r_settings z_h_now) z_h_refusals (r_children q6.2) (r_strokes q6.2) (r_gave q6.2) (r_threw q6.2) (r_kinds q6.2) (r_sweets q6.2) (r_settings q6.2) (r_heaps q6.2))) (As := [.ref a_h_now, .int x1, .int x2]) (rest := []) hx hb hml hown hT (c_Mind_sweetsBehind (z_h_one := z_h_mind_one) (z_g1 := z_h_now) a_h_mind a_h_mind_one a_h_mind_two a_h_mind_one_kinds a_h_mind_one_sweets a_h_mind_one_settings a_h_mind_one_heaps a_h_now a_h_now_kinds a_h_now_sweets a_h_now_settings a_h_now_heaps y_h_mind_seed hq6) k_437 k_438 k_439 k_4 k_440 hd_Mind_sweetsBehind ⟨Nat.le_of_ble_eq_true rfl, Nat.le_of_ble_eq_true rfl⟩ xE0_ok trivial hA hK hP hD hS [6, 7, 8, 9, 10, 11, 1, 2, 3, 4] [0, 5] [0, 8, 9, 10, 11, 1, 2, 3, 4, 5, 6, 7] rfl rfl rfl rfl rfl rfl rfl rfl rfl rfl hl.1 rfl (Nat.le_of_ble_eq_true rfl) ⟨Nat.zero_le _, Nat.zero_le _⟩ d_X_run_44 (fun H locs hP hD hS => ?_)
      have hq := Option.some.inj hf
      subst hq
      exact hret _ _ _ _ _ d_X_run_47 rfl rfl hP hD hS
    · have hf := io_f hf c5
      refine lv_aload_n hx hb d_X_run_28 rfl (lv_at hl 1 rfl) ?_
      refine lv_iload_n hx hb d_X_run_29 rfl (lv_at hl 0 rfl) ?_
      obtain ⟨q7, hq7, hf⟩ := io_b hf
      refine xcVI (wc := (w_X_refuse cI cJ cC a_h a_h_now a_h_kept a_h_letters a_h_numbers a_h_refusals a_h_mind a_h_parts a_h_past a_h_seating y_h_isKept y_h_numberCount z_h_refusals)) (wc' := (w_X_refuse cI cJ cC a_h a_h_now a_h_kept a_h_letters a_h_numbers a_h_refusals a_h_mind a_h_parts a_h_past a_h_seating y_h_isKept y_h_numberCount q7.2)) (ws' := (w_X_run cI cJ cC a_h a_h_now a_h_kept a_h_letters a_h_numbers a_h_refusals a_h_mind a_h_parts a_h_past a_h_seating a_h_now_kinds a_h_now_sweets a_h_now_settings a_h_now_heaps a_h_mind_one a_h_mind_two a_h_mind_one_kinds a_h_mind_one_sweets a_h_mind_one_settings a_h_mind_one_heaps y_h_isKept y_h_numberCount y_h_mind_seed (r_children z_h_now) (r_strokes z_h_now) (r_gave z_h_now) (r_threw z_h_now) (r_kinds z_h_now) (r_sweets z_h_now) (r_settings z_h_now) q7.2 (r_children z_h_mind_one) (r_strokes z_h_mind_one) (r_gave z_h_mind_one) (r_threw z_h_mind_one) (r_kinds z_h_mind_one) (r_sweets z_h_mind_one) (r_settings z_h_mind_one) (r_heaps z_h_mind_one))) (As := [.int q4]) (rest := []) hx hb hml hown hT (c_X_refuse (z_h_refusals := z_h_refusals) a_h a_h_now a_h_kept a_h_letters a_h_numbers a_h_refusals a_h_mind a_h_parts a_h_past a_h_seating y_h_isKept y_h_numberCount hq7) k_206 k_208 ks_0 k_1 k_209 hd_X_refuse ⟨Nat.le_of_ble_eq_true rfl, Nat.le_of_ble_eq_true rfl⟩ xE0_ok trivial hA hK hP hD hS [0, 5] [1, 2, 3, 4, 6, 7, 8, 9, 10, 11] [10, 0, 1, 2, 3, 11, 4, 5, 6, 7, 8, 9] rfl rfl rfl rfl rfl rfl rfl rfl rfl rfl hl.1 rfl (Nat.le_of_ble_eq_true rfl) ⟨Nat.zero_le _, Nat.zero_le _⟩ d_X_run_30 (fun H locs hP hD hS => ?_)
      have hq := Option.some.inj hf
      subst hq
      exact hret _ _ _ _ _ d_X_run_33 rfl rfl hP hD hS
theorem d_X_isPart_0 : decode b_X_isPart 0 = .ok (.iload_n 0, 1) := by decide +kernel
theorem d_X_isPart_1 : decode b_X_isPart 1 = .ok (.ifCond .eq 8, 3) := by decide +kernel
theorem d_X_isPart_4 : decode b_X_isPart 4 = .ok (.iload_n 0, 1) := by decide +kernel
theorem d_X_isPart_5 : decode b_X_isPart 5 = .ok (.iconst 1, 1) := by decide +kernel
theorem d_X_isPart_6 : decode b_X_isPart 6 = .ok (.if_icmp .ne 7, 3) := by decide +kernel
theorem d_X_isPart_9 : decode b_X_isPart 9 = .ok (.iconst 1, 1) := by decide +kernel
theorem d_X_isPart_10 : decode b_X_isPart 10 = .ok (.goto 4, 3) := by decide +kernel
theorem d_X_isPart_13 : decode b_X_isPart 13 = .ok (.iconst 0, 1) := by decide +kernel
theorem d_X_isPart_14 : decode b_X_isPart 14 = .ok (.ireturn, 1) := by decide +kernel
set_option maxHeartbeats 4000000 in
set_option maxRecDepth 100000 in
theorem c_X_isPart {l : Launch} {D : va_G} {cI cJ cC : ClassId} {x0 : Int32} {q : Int32} (hf : f_X_isPart x0 = some q) : xI l y_X_isPart b_X_isPart 1 .boolean 0 0 D (tyK cI cJ cC) xE0 [.int x0] [] q [] := by
  refine xI_of (by decide) (Nat.le_of_ble_eq_true rfl) ?_
  intro p e s m args below meth c A Q hx hb hml hown hT hA hP hD hK hS hE hret ls hl
  have hown : s.vm.findClass R_X = some m.cls := hown
  have hl : lv_has ls 1 [(0, .int x0)] := hl
  unfold f_X_isPart at hf
  refine lv_iload_n hx hb d_X_isPart_0 rfl (lv_at hl 0 rfl) ?_
  refine lv_if_eq (tgt := 9) hx hb d_X_isPart_1 (by decide) (fun c1 => ?_) (fun c1 => ?_)
  · have hf := io_t hf c1
    refine lv_iconst (v := 1) hx hb d_X_isPart_9 (by decide) ?_
    refine lv_goto (tgt := 14) hx hb d_X_isPart_10 (by decide) ?_
    have hq := Option.some.inj hf
    subst hq
    exact hret _ _ _ _ _ d_X_isPart_14 (by decide) rfl hP hD hS
  · have hf := io_f hf c1
    refine lv_iload_n hx hb d_X_isPart_4 rfl (lv_at hl 0 rfl) ?_
    refine lv_iconst (v := 1) hx hb d_X_isPart_5 (by decide) ?_
    refine lv_icmp_ne (tgt := 13) hx hb d_X_isPart_6 (by decide) (fun c2 => ?_) (fun c2 => ?_)
    · have hf := io_f hf c2
      refine lv_iconst (v := 0) hx hb d_X_isPart_13 (by decide) ?_
      have hq := Option.some.inj hf
      subst hq
      exact hret _ _ _ _ _ d_X_isPart_14 (by decide) rfl hP hD hS
    · have hf := io_t hf c2
      refine lv_iconst (v := 1) hx hb d_X_isPart_9 (by decide) ?_
      refine lv_goto (tgt := 14) hx hb d_X_isPart_10 (by decide) ?_
      have hq := Option.some.inj hf
      subst hq
      exact hret _ _ _ _ _ d_X_isPart_14 (by decide) rfl hP hD hS
abbrev w_X_given (cI cJ cC : ClassId) (a_h a_h_now a_h_kept a_h_letters a_h_numbers a_h_refusals a_h_mind a_h_parts a_h_past a_h_seating a_h_now_kinds a_h_now_sweets a_h_now_settings a_h_now_heaps a_h_mind_one a_h_mind_two a_h_mind_one_kinds a_h_mind_one_sweets a_h_mind_one_settings a_h_mind_one_heaps : Nat) (y_h_isKept : Int32) (y_h_numberCount : Int32) (y_h_mind_seed : Int32) (p_h_now_children : Int32) (p_h_now_strokes : Int32) (p_h_now_gave : Int32) (p_h_now_threw : Int32) (p_h_now_kinds : (Nat → Int32)) (p_h_now_sweets : (Nat → Int32)) (p_h_now_settings : (Nat → Int32)) (p_h_refusals : (Nat → Int32)) (p_h_mind_one_children : Int32) (p_h_mind_one_strokes : Int32) (p_h_mind_one_gave : Int32) (p_h_mind_one_threw : Int32) (p_h_mind_one_kinds : (Nat → Int32)) (p_h_mind_one_sweets : (Nat → Int32)) (p_h_mind_one_settings : (Nat → Int32)) (p_h_mind_one_heaps : (Nat → Int32)) : va_W := [(a_h, .inr (0, [.ref a_h_now, .ref a_h_kept, .int y_h_isKept, .ref a_h_letters, .ref a_h_numbers, .int y_h_numberCount, .ref a_h_refusals, .ref a_h_mind, .ref a_h_parts, .ref a_h_past, .ref a_h_seating])), (a_h_now, .inr (1, [.ref a_h_now_kinds, .ref a_h_now_sweets, .ref a_h_now_settings, .int p_h_now_children, .int p_h_now_strokes, .int p_h_now_gave, .int p_h_now_threw, .ref a_h_now_heaps])), (a_h_now_kinds, .inl (cI, (8, .inl p_h_now_kinds))), (a_h_now_sweets, .inl (cI, (8, .inl p_h_now_sweets))), (a_h_now_settings, .inl (cI, (3, .inl p_h_now_settings))), (a_h_refusals, .inl (cI, (7, .inl p_h_refusals))), (a_h_mind, .inr (3, [.ref a_h_mind_one, .ref a_h_mind_two, .int y_h_mind_seed])), (a_h_mind_one, .inr (1, [.ref a_h_mind_one_kinds, .ref a_h_mind_one_sweets, .ref a_h_mind_one_settings, .int p_h_mind_one_children, .int p_h_mind_one_strokes, .int p_h_mind_one_gave, .int p_h_mind_one_threw, .ref a_h_mind_one_heaps])), (a_h_mind_one_kinds, .inl (cI, (8, .inl p_h_mind_one_kinds))), (a_h_mind_one_sweets, .inl (cI, (8, .inl p_h_mind_one_sweets))), (a_h_mind_one_settings, .inl (cI, (3, .inl p_h_mind_one_settings))), (a_h_mind_one_heaps, .inl (cI, (8, .inl p_h_mind_one_heaps)))]
theorem d_X_given_0 : decode b_X_given 0 = .ok (.iload_n 2, 1) := by decide +kernel
theorem d_X_given_1 : decode b_X_given 1 = .ok (.invokestatic 132, 3) := by decide +kernel
theorem d_X_given_4 : decode b_X_given 4 = .ok (.ifCond .eq 14, 3) := by decide +kernel
theorem d_X_given_7 : decode b_X_given 7 = .ok (.iload_n 1, 1) := by decide +kernel
theorem d_X_given_8 : decode b_X_given 8 = .ok (.iconst 0, 1) := by decide +kernel
theorem d_X_given_9 : decode b_X_given 9 = .ok (.sipush 200, 3) := by decide +kernel
theorem d_X_given_12 : decode b_X_given 12 = .ok (.invokestatic 100, 3) := by decide +kernel
theorem d_X_given_15 : decode b_X_given 15 = .ok (.goto 5, 3) := by decide +kernel
theorem d_X_given_18 : decode b_X_given 18 = .ok (.bipush (-2), 2) := by decide +kernel
theorem d_X_given_20 : decode b_X_given 20 = .ok (.istore_n 3, 1) := by decide +kernel
theorem d_X_given_21 : decode b_X_given 21 = .ok (.iload_n 3, 1) := by decide +kernel
theorem d_X_given_22 : decode b_X_given 22 = .ok (.ifCond .eq 9, 3) := by decide +kernel
theorem d_X_given_25 : decode b_X_given 25 = .ok (.aload_n 0, 1) := by decide +kernel
theorem d_X_given_26 : decode b_X_given 26 = .ok (.iload_n 3, 1) := by decide +kernel
theorem d_X_given_27 : decode b_X_given 27 = .ok (.invokevirtual 69, 3) := by decide +kernel
theorem d_X_given_30 : decode b_X_given 30 = .ok (.ireturn, 1) := by decide +kernel
theorem d_X_given_31 : decode b_X_given 31 = .ok (.iload_n 2, 1) := by decide +kernel
theorem d_X_given_32 : decode b_X_given 32 = .ok (.ifCond .ne 18, 3) := by decide +kernel
theorem d_X_given_35 : decode b_X_given 35 = .ok (.aload_n 0, 1) := by decide +kernel
theorem d_X_given_36 : decode b_X_given 36 = .ok (.getfield 44, 3) := by decide +kernel
theorem d_X_given_39 : decode b_X_given 39 = .ok (.aload_n 0, 1) := by decide +kernel
theorem d_X_given_40 : decode b_X_given 40 = .ok (.getfield 10, 3) := by decide +kernel
theorem d_X_given_43 : decode b_X_given 43 = .ok (.iload_n 1, 1) := by decide +kernel
theorem d_X_given_44 : decode b_X_given 44 = .ok (.invokevirtual 135, 3) := by decide +kernel
theorem d_X_given_47 : decode b_X_given 47 = .ok (.goto 15, 3) := by decide +kernel
theorem d_X_given_50 : decode b_X_given 50 = .ok (.aload_n 0, 1) := by decide +kernel
theorem d_X_given_51 : decode b_X_given 51 = .ok (.getfield 44, 3) := by decide +kernel
theorem d_X_given_54 : decode b_X_given 54 = .ok (.aload_n 0, 1) := by decide +kernel
theorem d_X_given_55 : decode b_X_given 55 = .ok (.getfield 10, 3) := by decide +kernel
theorem d_X_given_58 : decode b_X_given 58 = .ok (.iload_n 1, 1) := by decide +kernel
theorem d_X_given_59 : decode b_X_given 59 = .ok (.invokevirtual 139, 3) := by decide +kernel
theorem d_X_given_62 : decode b_X_given 62 = .ok (.ireturn, 1) := by decide +kernel
set_option maxHeartbeats 4000000 in
set_option maxRecDepth 100000 in
theorem c_X_given {l : Launch} {D : va_G} {cI cJ cC : ClassId} (a_h a_h_now a_h_kept a_h_letters a_h_numbers a_h_refusals a_h_mind a_h_parts a_h_past a_h_seating a_h_now_kinds a_h_now_sweets a_h_now_settings a_h_now_heaps a_h_mind_one a_h_mind_two a_h_mind_one_kinds a_h_mind_one_sweets a_h_mind_one_settings a_h_mind_one_heaps : Nat) (y_h_isKept : Int32) (y_h_numberCount : Int32) (y_h_mind_seed : Int32) {z_h_now : RS} {z_h_refusals : (Nat → Int32)} {z_h_mind_one : RS} {x1 : Int32} {x2 : Int32} {q : Int32 × (Nat → Int32) × RS} (hf : f_X_given z_h_now z_h_refusals z_h_mind_one x1 x2 = some q) : xI l y_X_given b_X_given 4 .int 6 133 D (tyK cI cJ cC) xE0 [.ref a_h, .int x1, .int x2] (w_X_given cI cJ cC a_h a_h_now a_h_kept a_h_letters a_h_numbers a_h_refusals a_h_mind a_h_parts a_h_past a_h_seating a_h_now_kinds a_h_now_sweets a_h_now_settings a_h_now_heaps a_h_mind_one a_h_mind_two a_h_mind_one_kinds a_h_mind_one_sweets a_h_mind_one_settings a_h_mind_one_heaps y_h_isKept y_h_numberCount y_h_mind_seed (r_children z_h_now) (r_strokes z_h_now) (r_gave z_h_now) (r_threw z_h_now) (r_kinds z_h_now) (r_sweets z_h_now) (r_settings z_h_now) z_h_refusals (r_children z_h_mind_one) (r_strokes z_h_mind_one) (r_gave z_h_mind_one) (r_threw z_h_mind_one) (r_kinds z_h_mind_one) (r_sweets z_h_mind_one) (r_settings z_h_mind_one) (r_heaps z_h_mind_one)) q.1 (w_X_given cI cJ cC a_h a_h_now a_h_kept a_h_letters a_h_numbers a_h_refusals a_h_mind a_h_parts a_h_past a_h_seating a_h_now_kinds a_h_now_sweets a_h_now_settings a_h_now_heaps a_h_mind_one a_h_mind_two a_h_mind_one_kinds a_h_mind_one_sweets a_h_mind_one_settings a_h_mind_one_heaps y_h_isKept y_h_numberCount y_h_mind_seed (r_children z_h_now) (r_strokes z_h_now) (r_gave z_h_now) (r_threw z_h_now) (r_kinds z_h_now) (r_sweets z_h_now) (r_settings z_h_now) q.2.1 (r_children q.2.2) (r_strokes q.2.2) (r_gave q.2.2) (r_threw q.2.2) (r_kinds q.2.2) (r_sweets q.2.2) (r_settings q.2.2) (r_heaps q.2.2)) := by
  refine xI_of (by decide) (Nat.le_of_ble_eq_true rfl) ?_
  intro p e s m args below meth c A Q hx hb hml hown hT hA hP hD hK hS hE hret ls hl
  have hown : s.vm.findClass R_X = some m.cls := hown
  have hl : lv_has ls 4 [(0, .ref a_h), (1, .int x1), (2, .int x2)] := hl
  unfold f_X_given at hf
  refine lv_iload_n hx hb d_X_given_0 rfl (lv_at hl 2 rfl) ?_
  obtain ⟨q1, hq1, hf⟩ := io_b hf
  refine xcSI (wc := []) (wc' := []) (ws' := (w_X_given cI cJ cC a_h a_h_now a_h_kept a_h_letters a_h_numbers a_h_refusals a_h_mind a_h_parts a_h_past a_h_seating a_h_now_kinds a_h_now_sweets a_h_now_settings a_h_now_heaps a_h_mind_one a_h_mind_two a_h_mind_one_kinds a_h_mind_one_sweets a_h_mind_one_settings a_h_mind_one_heaps y_h_isKept y_h_numberCount y_h_mind_seed (r_children z_h_now) (r_strokes z_h_now) (r_gave z_h_now) (r_threw z_h_now) (r_kinds z_h_now) (r_sweets z_h_now) (r_settings z_h_now) z_h_refusals (r_children z_h_mind_one) (r_strokes z_h_mind_one) (r_gave z_h_mind_one) (r_threw z_h_mind_one) (r_kinds z_h_mind_one) (r_sweets z_h_mind_one) (r_settings z_h_mind_one) (r_heaps z_h_mind_one))) (As := [.int x2]) (rest := []) hx hb hml hown hT (c_X_isPart hq1) k_451 k_452 k_1 k_453 hd_X_isPart ⟨Nat.le_of_ble_eq_true rfl, Nat.le_of_ble_eq_true rfl⟩ xE0_ok trivial hA hK hP hD hS [] [0, 1, 2, 3, 4, 5, 6, 7, 8, 9, 10, 11] [0, 1, 2, 3, 4, 5, 6, 7, 8, 9, 10, 11] rfl rfl rfl rfl rfl rfl rfl hl.1 rfl (Nat.le_of_ble_eq_true rfl) ⟨Nat.zero_le _, Nat.zero_le _⟩ d_X_given_1 (fun H locs hP hD hS => ?_)
  refine lv_if_eq (tgt := 18) hx hb d_X_given_4 (by decide) (fun c2 => ?_) (fun c2 => ?_)
  · have hf := io_t hf c2
    refine lv_bipush (v := (-2)) hx hb d_X_given_18 (by decide) ?_
    refine lv_istore_n (lv' := [(3, .int (-2)), (0, .ref a_h), (1, .int x1), (2, .int x2)]) hx hb d_X_given_20 rfl hl (by decide) rfl (fun ls hl => ?_)
    refine lv_iload_n hx hb d_X_given_21 rfl (lv_at hl 0 rfl) ?_
    refine lv_if_eq (tgt := 31) hx hb d_X_given_22 (by decide) (fun c => absurd c (show ¬ ((-2) : Int32) = 0 from by decide +kernel)) (fun _ => ?_)
    refine lv_aload_n hx hb d_X_given_25 rfl (lv_at hl 1 rfl) ?_
    refine lv_iload_n hx hb d_X_given_26 rfl (lv_at hl 0 rfl) ?_
    obtain ⟨q3, hq3, hf⟩ := io_b hf
    refine xcVI (wc := (w_X_refuse cI cJ cC a_h a_h_now a_h_kept a_h_letters a_h_numbers a_h_refusals a_h_mind a_h_parts a_h_past a_h_seating y_h_isKept y_h_numberCount z_h_refusals)) (wc' := (w_X_refuse cI cJ cC a_h a_h_now a_h_kept a_h_letters a_h_numbers a_h_refusals a_h_mind a_h_parts a_h_past a_h_seating y_h_isKept y_h_numberCount q3.2)) (ws' := (w_X_given cI cJ cC a_h a_h_now a_h_kept a_h_letters a_h_numbers a_h_refusals a_h_mind a_h_parts a_h_past a_h_seating a_h_now_kinds a_h_now_sweets a_h_now_settings a_h_now_heaps a_h_mind_one a_h_mind_two a_h_mind_one_kinds a_h_mind_one_sweets a_h_mind_one_settings a_h_mind_one_heaps y_h_isKept y_h_numberCount y_h_mind_seed (r_children z_h_now) (r_strokes z_h_now) (r_gave z_h_now) (r_threw z_h_now) (r_kinds z_h_now) (r_sweets z_h_now) (r_settings z_h_now) q3.2 (r_children z_h_mind_one) (r_strokes z_h_mind_one) (r_gave z_h_mind_one) (r_threw z_h_mind_one) (r_kinds z_h_mind_one) (r_sweets z_h_mind_one) (r_settings z_h_mind_one) (r_heaps z_h_mind_one))) (As := [.int (-2)]) (rest := []) hx hb hml hown hT (c_X_refuse (z_h_refusals := z_h_refusals) a_h a_h_now a_h_kept a_h_letters a_h_numbers a_h_refusals a_h_mind a_h_parts a_h_past a_h_seating y_h_isKept y_h_numberCount hq3) k_206 k_208 ks_0 k_1 k_209 hd_X_refuse ⟨Nat.le_of_ble_eq_true rfl, Nat.le_of_ble_eq_true rfl⟩ xE0_ok trivial hA hK hP hD hS [0, 5] [1, 2, 3, 4, 6, 7, 8, 9, 10, 11] [10, 0, 1, 2, 3, 11, 4, 5, 6, 7, 8, 9] rfl rfl rfl rfl rfl rfl rfl rfl rfl rfl hl.1 rfl (Nat.le_of_ble_eq_true rfl) ⟨Nat.zero_le _, Nat.zero_le _⟩ d_X_given_27 (fun H locs hP hD hS => ?_)
    have hq := Option.some.inj hf
    subst hq
    exact hret _ _ _ _ _ d_X_given_30 rfl rfl hP hD hS
  · have hf := io_f hf c2
    refine lv_iload_n hx hb d_X_given_7 rfl (lv_at hl 1 rfl) ?_
    refine lv_iconst (v := 0) hx hb d_X_given_8 (by decide) ?_
    refine lv_sipush (v := 200) hx hb d_X_given_9 (by decide) ?_
    obtain ⟨q4, hq4, hf⟩ := io_b hf
    refine xcSI (wc := []) (wc' := []) (ws' := (w_X_given cI cJ cC a_h a_h_now a_h_kept a_h_letters a_h_numbers a_h_refusals a_h_mind a_h_parts a_h_past a_h_seating a_h_now_kinds a_h_now_sweets a_h_now_settings a_h_now_heaps a_h_mind_one a_h_mind_two a_h_mind_one_kinds a_h_mind_one_sweets a_h_mind_one_settings a_h_mind_one_heaps y_h_isKept y_h_numberCount y_h_mind_seed (r_children z_h_now) (r_strokes z_h_now) (r_gave z_h_now) (r_threw z_h_now) (r_kinds z_h_now) (r_sweets z_h_now) (r_settings z_h_now) z_h_refusals (r_children z_h_mind_one) (r_strokes z_h_mind_one) (r_gave z_h_mind_one) (r_threw z_h_mind_one) (r_kinds z_h_mind_one) (r_sweets z_h_mind_one) (r_settings z_h_mind_one) (r_heaps z_h_mind_one))) (As := [.int x1, .int 0, .int 200]) (rest := []) hx hb hml hown hT (c_X_outside hq4) k_385 k_357 k_1 k_358 hd_X_outside ⟨Nat.le_of_ble_eq_true rfl, Nat.le_of_ble_eq_true rfl⟩ xE0_ok trivial hA hK hP hD hS [] [0, 1, 2, 3, 4, 5, 6, 7, 8, 9, 10, 11] [0, 1, 2, 3, 4, 5, 6, 7, 8, 9, 10, 11] rfl rfl rfl rfl rfl rfl rfl hl.1 rfl (Nat.le_of_ble_eq_true rfl) ⟨Nat.zero_le _, Nat.zero_le _⟩ d_X_given_12 (fun H locs hP hD hS => ?_)
    refine lv_goto (tgt := 20) hx hb d_X_given_15 (by decide) ?_
    refine lv_istore_n (lv' := [(3, .int q4), (0, .ref a_h), (1, .int x1), (2, .int x2)]) hx hb d_X_given_20 rfl hl (by decide) rfl (fun ls hl => ?_)
    refine lv_iload_n hx hb d_X_given_21 rfl (lv_at hl 0 rfl) ?_
    refine lv_if_eq (tgt := 31) hx hb d_X_given_22 (by decide) (fun c5 => ?_) (fun c5 => ?_)
    · have hf := io_t hf c5
      refine lv_iload_n hx hb d_X_given_31 rfl (lv_at hl 3 rfl) ?_
      refine lv_if_ne (tgt := 50) hx hb d_X_given_32 (by decide) (fun c6 => ?_) (fun c6 => ?_)
      · have hf := io_f hf c6
        refine lv_aload_n hx hb d_X_given_50 rfl (lv_at hl 1 rfl) ?_
        refine va_get hx hb hT i_X hown hK hP 0 rfl rfl 7 (Nat.le_of_ble_eq_true rfl) (hT _ k_175) (fun _ h => h) rfl d_X_given_51 ?_
        refine lv_aload_n hx hb d_X_given_54 rfl (lv_at hl 1 rfl) ?_
        refine va_get hx hb hT i_X hown hK hP 0 rfl rfl 0 (Nat.le_of_ble_eq_true rfl) (hT _ k_168) (fun _ h => h) rfl d_X_given_55 ?_
        refine lv_iload_n hx hb d_X_given_58 rfl (lv_at hl 2 rfl) ?_
        obtain ⟨q7, hq7, hf⟩ := io_b hf
        refine xcVI (wc := (w_Mind_threwIn cI cJ cC a_h_mind a_h_mind_one a_h_mind_two a_h_mind_one_kinds a_h_mind_one_sweets a_h_mind_one_settings a_h_mind_one_heaps a_h_now a_h_now_kinds a_h_now_sweets a_h_now_settings a_h_now_heaps y_h_mind_seed (r_children z_h_mind_one) (r_strokes z_h_mind_one) (r_gave z_h_mind_one) (r_threw z_h_mind_one) (r_kinds z_h_mind_one) (r_sweets z_h_mind_one) (r_settings z_h_mind_one) (r_heaps z_h_mind_one) (r_children z_h_now) (r_strokes z_h_now) (r_gave z_h_now) (r_threw z_h_now) (r_kinds z_h_now) (r_sweets z_h_now) (r_settings z_h_now))) (wc' := (w_Mind_threwIn cI cJ cC a_h_mind a_h_mind_one a_h_mind_two a_h_mind_one_kinds a_h_mind_one_sweets a_h_mind_one_settings a_h_mind_one_heaps a_h_now a_h_now_kinds a_h_now_sweets a_h_now_settings a_h_now_heaps y_h_mind_seed (r_children q7.2) (r_strokes q7.2) (r_gave q7.2) (r_threw q7.2) (r_kinds q7.2) (r_sweets q7.2) (r_settings q7.2) (r_heaps q7.2) (r_children z_h_now) (r_strokes z_h_now) (r_gave z_h_now) (r_threw z_h_now) (r_kinds z_h_now) (r_sweets z_h_now) (r_settings z_h_now))) (ws' := (w_X_given cI cJ cC a_h a_h_now a_h_kept a_h_letters a_h_numbers a_h_refusals a_h_mind a_h_parts a_h_past a_h_seating a_h_now_kinds a_h_now_sweets a_h_now_settings a_h_now_heaps a_h_mind_one a_h_mind_two a_h_mind_one_kinds a_h_mind_one_sweets a_h_mind_one_settings a_h_mind_one_heaps y_h_isKept y_h_numberCount y_h_mind_seed (r_children z_h_now) (r_strokes z_h_now) (r_gave z_h_now) (r_threw z_h_now) (r_kinds z_h_now) (r_sweets z_h_now) (r_settings z_h_now) z_h_refusals (r_children q7.2) (r_strokes q7.2) (r_gave q7.2) (r_threw q7.2) (r_kinds q7.2) (r_sweets q7.2) (r_settings q7.2) (r_heaps q7.2))) (As := [.ref a_h_now, .int x1]) (rest := []) hx hb hml hown hT (c_Mind_threwIn (z_h_one := z_h_mind_one) (z_g1 := z_h_now) a_h_mind a_h_mind_one a_h_mind_two a_h_mind_one_kinds a_h_mind_one_sweets a_h_mind_one_settings a_h_mind_one_heaps a_h_now a_h_now_kinds a_h_now_sweets a_h_now_settings a_h_now_heaps y_h_mind_seed hq7) k_458 k_459 k_460 k_4 k_461 hd_Mind_threwIn ⟨Nat.le_of_ble_eq_true rfl, Nat.le_of_ble_eq_true rfl⟩ xE0_ok trivial hA hK hP hD hS [6, 7, 8, 9, 10, 11, 1, 2, 3, 4] [0, 5] [0, 8, 9, 10, 11, 1, 2, 3, 4, 5, 6, 7] rfl rfl rfl rfl rfl rfl rfl rfl rfl rfl hl.1 rfl (Nat.le_of_ble_eq_true rfl) ⟨Nat.zero_le _, Nat.zero_le _⟩ d_X_given_59 (fun H locs hP hD hS => ?_)
        have hq := Option.some.inj hf
        subst hq
        exact hret _ _ _ _ _ d_X_given_62 rfl rfl hP hD hS
      · have hf := io_t hf c6
        refine lv_aload_n hx hb d_X_given_35 rfl (lv_at hl 1 rfl) ?_
        refine va_get hx hb hT i_X hown hK hP 0 rfl rfl 7 (Nat.le_of_ble_eq_true rfl) (hT _ k_175) (fun _ h => h) rfl d_X_given_36 ?_
        refine lv_aload_n hx hb d_X_given_39 rfl (lv_at hl 1 rfl) ?_
        refine va_get hx hb hT i_X hown hK hP 0 rfl rfl 0 (Nat.le_of_ble_eq_true rfl) (hT _ k_168) (fun _ h => h) rfl d_X_given_40 ?_
        refine lv_iload_n hx hb d_X_given_43 rfl (lv_at hl 2 rfl) ?_
        obtain ⟨q8, hq8, hf⟩ := io_b hf
        refine xcVI (wc := (w_Mind_gaveIn cI cJ cC a_h_mind a_h_mind_one a_h_mind_two a_h_mind_one_kinds a_h_mind_one_sweets a_h_mind_one_settings a_h_mind_one_heaps a_h_now a_h_now_kinds a_h_now_sweets a_h_now_settings a_h_now_heaps y_h_mind_seed (r_children z_h_mind_one) (r_strokes z_h_mind_one) (r_gave z_h_mind_one) (r_threw z_h_mind_one) (r_kinds z_h_mind_one) (r_sweets z_h_mind_one) (r_settings z_h_mind_one) (r_heaps z_h_mind_one) (r_children z_h_now) (r_strokes z_h_now) (r_gave z_h_now) (r_threw z_h_now) (r_kinds z_h_now) (r_sweets z_h_now) (r_settings z_h_now))) (wc' := (w_Mind_gaveIn cI cJ cC a_h_mind a_h_mind_one a_h_mind_two a_h_mind_one_kinds a_h_mind_one_sweets a_h_mind_one_settings a_h_mind_one_heaps a_h_now a_h_now_kinds a_h_now_sweets a_h_now_settings a_h_now_heaps y_h_mind_seed (r_children q8.2) (r_strokes q8.2) (r_gave q8.2) (r_threw q8.2) (r_kinds q8.2) (r_sweets q8.2) (r_settings q8.2) (r_heaps q8.2) (r_children z_h_now) (r_strokes z_h_now) (r_gave z_h_now) (r_threw z_h_now) (r_kinds z_h_now) (r_sweets z_h_now) (r_settings z_h_now))) (ws' := (w_X_given cI cJ cC a_h a_h_now a_h_kept a_h_letters a_h_numbers a_h_refusals a_h_mind a_h_parts a_h_past a_h_seating a_h_now_kinds a_h_now_sweets a_h_now_settings a_h_now_heaps a_h_mind_one a_h_mind_two a_h_mind_one_kinds a_h_mind_one_sweets a_h_mind_one_settings a_h_mind_one_heaps y_h_isKept y_h_numberCount y_h_mind_seed (r_children z_h_now) (r_strokes z_h_now) (r_gave z_h_now) (r_threw z_h_now) (r_kinds z_h_now) (r_sweets z_h_now) (r_settings z_h_now) z_h_refusals (r_children q8.2) (r_strokes q8.2) (r_gave q8.2) (r_threw q8.2) (r_kinds q8.2) (r_sweets q8.2) (r_settings q8.2) (r_heaps q8.2))) (As := [.ref a_h_now, .int x1]) (rest := []) hx hb hml hown hT (c_Mind_gaveIn (z_h_one := z_h_mind_one) (z_g1 := z_h_now) a_h_mind a_h_mind_one a_h_mind_two a_h_mind_one_kinds a_h_mind_one_sweets a_h_mind_one_settings a_h_mind_one_heaps a_h_now a_h_now_kinds a_h_now_sweets a_h_now_settings a_h_now_heaps y_h_mind_seed hq8) k_454 k_455 k_456 k_4 k_457 hd_Mind_gaveIn ⟨Nat.le_of_ble_eq_true rfl, Nat.le_of_ble_eq_true rfl⟩ xE0_ok trivial hA hK hP hD hS [6, 7, 8, 9, 10, 11, 1, 2, 3, 4] [0, 5] [0, 8, 9, 10, 11, 1, 2, 3, 4, 5, 6, 7] rfl rfl rfl rfl rfl rfl rfl rfl rfl rfl hl.1 rfl (Nat.le_of_ble_eq_true rfl) ⟨Nat.zero_le _, Nat.zero_le _⟩ d_X_given_44 (fun H locs hP hD hS => ?_)
        refine lv_goto (tgt := 62) hx hb d_X_given_47 (by decide) ?_
        have hq := Option.some.inj hf
        subst hq
        exact hret _ _ _ _ _ d_X_given_62 rfl rfl hP hD hS
    · have hf := io_f hf c5
      refine lv_aload_n hx hb d_X_given_25 rfl (lv_at hl 1 rfl) ?_
      refine lv_iload_n hx hb d_X_given_26 rfl (lv_at hl 0 rfl) ?_
      obtain ⟨q9, hq9, hf⟩ := io_b hf
      refine xcVI (wc := (w_X_refuse cI cJ cC a_h a_h_now a_h_kept a_h_letters a_h_numbers a_h_refusals a_h_mind a_h_parts a_h_past a_h_seating y_h_isKept y_h_numberCount z_h_refusals)) (wc' := (w_X_refuse cI cJ cC a_h a_h_now a_h_kept a_h_letters a_h_numbers a_h_refusals a_h_mind a_h_parts a_h_past a_h_seating y_h_isKept y_h_numberCount q9.2)) (ws' := (w_X_given cI cJ cC a_h a_h_now a_h_kept a_h_letters a_h_numbers a_h_refusals a_h_mind a_h_parts a_h_past a_h_seating a_h_now_kinds a_h_now_sweets a_h_now_settings a_h_now_heaps a_h_mind_one a_h_mind_two a_h_mind_one_kinds a_h_mind_one_sweets a_h_mind_one_settings a_h_mind_one_heaps y_h_isKept y_h_numberCount y_h_mind_seed (r_children z_h_now) (r_strokes z_h_now) (r_gave z_h_now) (r_threw z_h_now) (r_kinds z_h_now) (r_sweets z_h_now) (r_settings z_h_now) q9.2 (r_children z_h_mind_one) (r_strokes z_h_mind_one) (r_gave z_h_mind_one) (r_threw z_h_mind_one) (r_kinds z_h_mind_one) (r_sweets z_h_mind_one) (r_settings z_h_mind_one) (r_heaps z_h_mind_one))) (As := [.int q4]) (rest := []) hx hb hml hown hT (c_X_refuse (z_h_refusals := z_h_refusals) a_h a_h_now a_h_kept a_h_letters a_h_numbers a_h_refusals a_h_mind a_h_parts a_h_past a_h_seating y_h_isKept y_h_numberCount hq9) k_206 k_208 ks_0 k_1 k_209 hd_X_refuse ⟨Nat.le_of_ble_eq_true rfl, Nat.le_of_ble_eq_true rfl⟩ xE0_ok trivial hA hK hP hD hS [0, 5] [1, 2, 3, 4, 6, 7, 8, 9, 10, 11] [10, 0, 1, 2, 3, 11, 4, 5, 6, 7, 8, 9] rfl rfl rfl rfl rfl rfl rfl rfl rfl rfl hl.1 rfl (Nat.le_of_ble_eq_true rfl) ⟨Nat.zero_le _, Nat.zero_le _⟩ d_X_given_27 (fun H locs hP hD hS => ?_)
      have hq := Option.some.inj hf
      subst hq
      exact hret _ _ _ _ _ d_X_given_30 rfl rfl hP hD hS
abbrev w_X_rests (cI cJ cC : ClassId) (a_h a_h_now a_h_kept a_h_letters a_h_numbers a_h_refusals a_h_mind a_h_parts a_h_past a_h_seating a_h_now_kinds a_h_now_sweets a_h_now_settings a_h_now_heaps a_h_mind_one a_h_mind_two a_h_mind_one_kinds a_h_mind_one_sweets a_h_mind_one_settings a_h_mind_one_heaps a_h_mind_two_kinds a_h_mind_two_sweets a_h_mind_two_settings a_h_mind_two_heaps : Nat) (y_h_isKept : Int32) (y_h_numberCount : Int32) (y_h_mind_seed : Int32) (p_h_now_children : Int32) (p_h_now_strokes : Int32) (p_h_now_gave : Int32) (p_h_now_threw : Int32) (p_h_now_kinds : (Nat → Int32)) (p_h_now_sweets : (Nat → Int32)) (p_h_now_settings : (Nat → Int32)) (p_h_refusals : (Nat → Int32)) (p_h_mind_one_children : Int32) (p_h_mind_one_strokes : Int32) (p_h_mind_one_gave : Int32) (p_h_mind_one_threw : Int32) (p_h_mind_one_kinds : (Nat → Int32)) (p_h_mind_one_sweets : (Nat → Int32)) (p_h_mind_one_settings : (Nat → Int32)) (p_h_mind_one_heaps : (Nat → Int32)) (p_h_mind_two_children : Int32) (p_h_mind_two_strokes : Int32) (p_h_mind_two_gave : Int32) (p_h_mind_two_threw : Int32) (p_h_mind_two_kinds : (Nat → Int32)) (p_h_mind_two_sweets : (Nat → Int32)) (p_h_mind_two_settings : (Nat → Int32)) (p_h_mind_two_heaps : (Nat → Int32)) : va_W := [(a_h, .inr (0, [.ref a_h_now, .ref a_h_kept, .int y_h_isKept, .ref a_h_letters, .ref a_h_numbers, .int y_h_numberCount, .ref a_h_refusals, .ref a_h_mind, .ref a_h_parts, .ref a_h_past, .ref a_h_seating])), (a_h_now, .inr (1, [.ref a_h_now_kinds, .ref a_h_now_sweets, .ref a_h_now_settings, .int p_h_now_children, .int p_h_now_strokes, .int p_h_now_gave, .int p_h_now_threw, .ref a_h_now_heaps])), (a_h_now_kinds, .inl (cI, (8, .inl p_h_now_kinds))), (a_h_now_sweets, .inl (cI, (8, .inl p_h_now_sweets))), (a_h_now_settings, .inl (cI, (3, .inl p_h_now_settings))), (a_h_refusals, .inl (cI, (7, .inl p_h_refusals))), (a_h_mind, .inr (3, [.ref a_h_mind_one, .ref a_h_mind_two, .int y_h_mind_seed])), (a_h_mind_one, .inr (1, [.ref a_h_mind_one_kinds, .ref a_h_mind_one_sweets, .ref a_h_mind_one_settings, .int p_h_mind_one_children, .int p_h_mind_one_strokes, .int p_h_mind_one_gave, .int p_h_mind_one_threw, .ref a_h_mind_one_heaps])), (a_h_mind_one_kinds, .inl (cI, (8, .inl p_h_mind_one_kinds))), (a_h_mind_one_sweets, .inl (cI, (8, .inl p_h_mind_one_sweets))), (a_h_mind_one_settings, .inl (cI, (3, .inl p_h_mind_one_settings))), (a_h_mind_one_heaps, .inl (cI, (8, .inl p_h_mind_one_heaps))), (a_h_mind_two, .inr (1, [.ref a_h_mind_two_kinds, .ref a_h_mind_two_sweets, .ref a_h_mind_two_settings, .int p_h_mind_two_children, .int p_h_mind_two_strokes, .int p_h_mind_two_gave, .int p_h_mind_two_threw, .ref a_h_mind_two_heaps])), (a_h_mind_two_kinds, .inl (cI, (8, .inl p_h_mind_two_kinds))), (a_h_mind_two_sweets, .inl (cI, (8, .inl p_h_mind_two_sweets))), (a_h_mind_two_settings, .inl (cI, (3, .inl p_h_mind_two_settings))), (a_h_mind_two_heaps, .inl (cI, (8, .inl p_h_mind_two_heaps)))]
theorem d_X_rests_0 : decode b_X_rests 0 = .ok (.aload_n 0, 1) := by decide +kernel
theorem d_X_rests_1 : decode b_X_rests 1 = .ok (.getfield 10, 3) := by decide +kernel
theorem d_X_rests_4 : decode b_X_rests 4 = .ok (.getfield 121, 3) := by decide +kernel
theorem d_X_rests_7 : decode b_X_rests 7 = .ok (.ifCond .ne 10, 3) := by decide +kernel
theorem d_X_rests_10 : decode b_X_rests 10 = .ok (.aload_n 0, 1) := by decide +kernel
theorem d_X_rests_11 : decode b_X_rests 11 = .ok (.bipush (-3), 2) := by decide +kernel
theorem d_X_rests_13 : decode b_X_rests 13 = .ok (.invokevirtual 69, 3) := by decide +kernel
theorem d_X_rests_16 : decode b_X_rests 16 = .ok (.ireturn, 1) := by decide +kernel
theorem d_X_rests_17 : decode b_X_rests 17 = .ok (.aload_n 0, 1) := by decide +kernel
theorem d_X_rests_18 : decode b_X_rests 18 = .ok (.getfield 44, 3) := by decide +kernel
theorem d_X_rests_21 : decode b_X_rests 21 = .ok (.aload_n 0, 1) := by decide +kernel
theorem d_X_rests_22 : decode b_X_rests 22 = .ok (.getfield 10, 3) := by decide +kernel
theorem d_X_rests_25 : decode b_X_rests 25 = .ok (.invokevirtual 142, 3) := by decide +kernel
theorem d_X_rests_28 : decode b_X_rests 28 = .ok (.ireturn, 1) := by decide +kernel
set_option maxHeartbeats 4000000 in
set_option maxRecDepth 100000 in
theorem c_X_rests {l : Launch} {D : va_G} {cI cJ cC : ClassId} (a_h a_h_now a_h_kept a_h_letters a_h_numbers a_h_refusals a_h_mind a_h_parts a_h_past a_h_seating a_h_now_kinds a_h_now_sweets a_h_now_settings a_h_now_heaps a_h_mind_one a_h_mind_two a_h_mind_one_kinds a_h_mind_one_sweets a_h_mind_one_settings a_h_mind_one_heaps a_h_mind_two_kinds a_h_mind_two_sweets a_h_mind_two_settings a_h_mind_two_heaps : Nat) (y_h_isKept : Int32) (y_h_numberCount : Int32) (y_h_mind_seed : Int32) {z_h_now : RS} {z_h_refusals : (Nat → Int32)} {z_h_mind_one : RS} {z_h_mind_two : RS} {q : Int32 × (Nat → Int32) × RS × RS} (hf : f_X_rests z_h_now z_h_refusals z_h_mind_one z_h_mind_two = some q) : xI l y_X_rests b_X_rests 1 .int 5 111 D (tyK cI cJ cC) xE0 [.ref a_h] (w_X_rests cI cJ cC a_h a_h_now a_h_kept a_h_letters a_h_numbers a_h_refusals a_h_mind a_h_parts a_h_past a_h_seating a_h_now_kinds a_h_now_sweets a_h_now_settings a_h_now_heaps a_h_mind_one a_h_mind_two a_h_mind_one_kinds a_h_mind_one_sweets a_h_mind_one_settings a_h_mind_one_heaps a_h_mind_two_kinds a_h_mind_two_sweets a_h_mind_two_settings a_h_mind_two_heaps y_h_isKept y_h_numberCount y_h_mind_seed (r_children z_h_now) (r_strokes z_h_now) (r_gave z_h_now) (r_threw z_h_now) (r_kinds z_h_now) (r_sweets z_h_now) (r_settings z_h_now) z_h_refusals (r_children z_h_mind_one) (r_strokes z_h_mind_one) (r_gave z_h_mind_one) (r_threw z_h_mind_one) (r_kinds z_h_mind_one) (r_sweets z_h_mind_one) (r_settings z_h_mind_one) (r_heaps z_h_mind_one) (r_children z_h_mind_two) (r_strokes z_h_mind_two) (r_gave z_h_mind_two) (r_threw z_h_mind_two) (r_kinds z_h_mind_two) (r_sweets z_h_mind_two) (r_settings z_h_mind_two) (r_heaps z_h_mind_two)) q.1 (w_X_rests cI cJ cC a_h a_h_now a_h_kept a_h_letters a_h_numbers a_h_refusals a_h_mind a_h_parts a_h_past a_h_seating a_h_now_kinds a_h_now_sweets a_h_now_settings a_h_now_heaps a_h_mind_one a_h_mind_two a_h_mind_one_kinds a_h_mind_one_sweets a_h_mind_one_settings a_h_mind_one_heaps a_h_mind_two_kinds a_h_mind_two_sweets a_h_mind_two_settings a_h_mind_two_heaps y_h_isKept y_h_numberCount y_h_mind_seed (r_children z_h_now) (r_strokes z_h_now) (r_gave z_h_now) (r_threw z_h_now) (r_kinds z_h_now) (r_sweets z_h_now) (r_settings z_h_now) q.2.1 (r_children q.2.2.1) (r_strokes q.2.2.1) (r_gave q.2.2.1) (r_threw q.2.2.1) (r_kinds q.2.2.1) (r_sweets q.2.2.1) (r_settings q.2.2.1) (r_heaps q.2.2.1) (r_children q.2.2.2) (r_strokes q.2.2.2) (r_gave q.2.2.2) (r_threw q.2.2.2) (r_kinds q.2.2.2) (r_sweets q.2.2.2) (r_settings q.2.2.2) (r_heaps q.2.2.2)) := by
  refine xI_of (by decide) (Nat.le_of_ble_eq_true rfl) ?_
  intro p e s m args below meth c A Q hx hb hml hown hT hA hP hD hK hS hE hret ls hl
  have hown : s.vm.findClass R_X = some m.cls := hown
  have hl : lv_has ls 1 [(0, .ref a_h)] := hl
  unfold f_X_rests at hf
  refine lv_aload_n hx hb d_X_rests_0 rfl (lv_at hl 0 rfl) ?_
  refine va_get hx hb hT i_X hown hK hP 0 rfl rfl 0 (Nat.le_of_ble_eq_true rfl) (hT _ k_168) (fun _ h => h) rfl d_X_rests_1 ?_
  refine va_get hx hb hT i_Ring hown hK hP 1 rfl rfl 3 (Nat.le_of_ble_eq_true rfl) (hT _ k_48) (fun _ h => h) rfl d_X_rests_4 ?_
  refine lv_if_ne (tgt := 17) hx hb d_X_rests_7 (by decide) (fun c1 => ?_) (fun c1 => ?_)
  · have hf := io_f hf c1
    refine lv_aload_n hx hb d_X_rests_17 rfl (lv_at hl 0 rfl) ?_
    refine va_get hx hb hT i_X hown hK hP 0 rfl rfl 7 (Nat.le_of_ble_eq_true rfl) (hT _ k_175) (fun _ h => h) rfl d_X_rests_18 ?_
    refine lv_aload_n hx hb d_X_rests_21 rfl (lv_at hl 0 rfl) ?_
    refine va_get hx hb hT i_X hown hK hP 0 rfl rfl 0 (Nat.le_of_ble_eq_true rfl) (hT _ k_168) (fun _ h => h) rfl d_X_rests_22 ?_
    obtain ⟨q2, hq2, hf⟩ := io_b hf
    refine xcVI (wc := (w_Mind_restsBehind cI cJ cC a_h_mind a_h_mind_one a_h_mind_two a_h_mind_one_kinds a_h_mind_one_sweets a_h_mind_one_settings a_h_mind_one_heaps a_h_mind_two_kinds a_h_mind_two_sweets a_h_mind_two_settings a_h_mind_two_heaps a_h_now a_h_now_kinds a_h_now_sweets a_h_now_settings a_h_now_heaps y_h_mind_seed (r_children z_h_mind_one) (r_strokes z_h_mind_one) (r_gave z_h_mind_one) (r_threw z_h_mind_one) (r_kinds z_h_mind_one) (r_sweets z_h_mind_one) (r_settings z_h_mind_one) (r_heaps z_h_mind_one) (r_children z_h_mind_two) (r_strokes z_h_mind_two) (r_gave z_h_mind_two) (r_threw z_h_mind_two) (r_kinds z_h_mind_two) (r_sweets z_h_mind_two) (r_settings z_h_mind_two) (r_heaps z_h_mind_two) (r_children z_h_now) (r_strokes z_h_now) (r_gave z_h_now) (r_threw z_h_now) (r_kinds z_h_now) (r_sweets z_h_now) (r_settings z_h_now))) (wc' := (w_Mind_restsBehind cI cJ cC a_h_mind a_h_mind_one a_h_mind_two a_h_mind_one_kinds a_h_mind_one_sweets a_h_mind_one_settings a_h_mind_one_heaps a_h_mind_two_kinds a_h_mind_two_sweets a_h_mind_two_settings a_h_mind_two_heaps a_h_now a_h_now_kinds a_h_now_sweets a_h_now_settings a_h_now_heaps y_h_mind_seed (r_children q2.2.1) (r_strokes q2.2.1) (r_gave q2.2.1) (r_threw q2.2.1) (r_kinds q2.2.1) (r_sweets q2.2.1) (r_settings q2.2.1) (r_heaps q2.2.1) (r_children q2.2.2) (r_strokes q2.2.2) (r_gave q2.2.2) (r_threw q2.2.2) (r_kinds q2.2.2) (r_sweets q2.2.2) (r_settings q2.2.2) (r_heaps q2.2.2) (r_children z_h_now) (r_strokes z_h_now) (r_gave z_h_now) (r_threw z_h_now) (r_kinds z_h_now) (r_sweets z_h_now) (r_settings z_h_now))) (ws' := (w_X_rests cI cJ cC a_h a_h_now a_h_kept a_h_letters a_h_numbers a_h_refusals a_h_mind a_h_parts a_h_past a_h_seating a_h_now_kinds a_h_now_sweets a_h_now_settings a_h_now_heaps a_h_mind_one a_h_mind_two a_h_mind_one_kinds a_h_mind_one_sweets a_h_mind_one_settings a_h_mind_one_heaps a_h_mind_two_kinds a_h_mind_two_sweets a_h_mind_two_settings a_h_mind_two_heaps y_h_isKept y_h_numberCount y_h_mind_seed (r_children z_h_now) (r_strokes z_h_now) (r_gave z_h_now) (r_threw z_h_now) (r_kinds z_h_now) (r_sweets z_h_now) (r_settings z_h_now) z_h_refusals (r_children q2.2.1) (r_strokes q2.2.1) (r_gave q2.2.1) (r_threw q2.2.1) (r_kinds q2.2.1) (r_sweets q2.2.1) (r_settings q2.2.1) (r_heaps q2.2.1) (r_children q2.2.2) (r_strokes q2.2.2) (r_gave q2.2.2) (r_threw q2.2.2) (r_kinds q2.2.2) (r_sweets q2.2.2) (r_settings q2.2.2) (r_heaps q2.2.2))) (As := [.ref a_h_now]) (rest := []) hx hb hml hown hT (c_Mind_restsBehind (z_h_one := z_h_mind_one) (z_h_two := z_h_mind_two) (z_g1 := z_h_now) a_h_mind a_h_mind_one a_h_mind_two a_h_mind_one_kinds a_h_mind_one_sweets a_h_mind_one_settings a_h_mind_one_heaps a_h_mind_two_kinds a_h_mind_two_sweets a_h_mind_two_settings a_h_mind_two_heaps a_h_now a_h_now_kinds a_h_now_sweets a_h_now_settings a_h_now_heaps y_h_mind_seed hq2) k_466 k_467 k_468 k_4 k_469 hd_Mind_restsBehind ⟨Nat.le_of_ble_eq_true rfl, Nat.le_of_ble_eq_true rfl⟩ xE0_ok trivial hA hK hP hD hS [6, 7, 8, 9, 10, 11, 12, 13, 14, 15, 16, 1, 2, 3, 4] [0, 5] [0, 13, 14, 15, 16, 1, 2, 3, 4, 5, 6, 7, 8, 9, 10, 11, 12] rfl rfl rfl rfl rfl rfl rfl rfl rfl rfl hl.1 rfl (Nat.le_of_ble_eq_true rfl) ⟨Nat.zero_le _, Nat.zero_le _⟩ d_X_rests_25 (fun H locs hP hD hS => ?_)
    have hq := Option.some.inj hf
    subst hq
    exact hret _ _ _ _ _ d_X_rests_28 rfl rfl hP hD hS
  · have hf := io_t hf c1
    refine lv_aload_n hx hb d_X_rests_10 rfl (lv_at hl 0 rfl) ?_
    refine lv_bipush (v := (-3)) hx hb d_X_rests_11 (by decide) ?_
    obtain ⟨q3, hq3, hf⟩ := io_b hf
    refine xcVI (wc := (w_X_refuse cI cJ cC a_h a_h_now a_h_kept a_h_letters a_h_numbers a_h_refusals a_h_mind a_h_parts a_h_past a_h_seating y_h_isKept y_h_numberCount z_h_refusals)) (wc' := (w_X_refuse cI cJ cC a_h a_h_now a_h_kept a_h_letters a_h_numbers a_h_refusals a_h_mind a_h_parts a_h_past a_h_seating y_h_isKept y_h_numberCount q3.2)) (ws' := (w_X_rests cI cJ cC a_h a_h_now a_h_kept a_h_letters a_h_numbers a_h_refusals a_h_mind a_h_parts a_h_past a_h_seating a_h_now_kinds a_h_now_sweets a_h_now_settings a_h_now_heaps a_h_mind_one a_h_mind_two a_h_mind_one_kinds a_h_mind_one_sweets a_h_mind_one_settings a_h_mind_one_heaps a_h_mind_two_kinds a_h_mind_two_sweets a_h_mind_two_settings a_h_mind_two_heaps y_h_isKept y_h_numberCount y_h_mind_seed (r_children z_h_now) (r_strokes z_h_now) (r_gave z_h_now) (r_threw z_h_now) (r_kinds z_h_now) (r_sweets z_h_now) (r_settings z_h_now) q3.2 (r_children z_h_mind_one) (r_strokes z_h_mind_one) (r_gave z_h_mind_one) (r_threw z_h_mind_one) (r_kinds z_h_mind_one) (r_sweets z_h_mind_one) (r_settings z_h_mind_one) (r_heaps z_h_mind_one) (r_children z_h_mind_two) (r_strokes z_h_mind_two) (r_gave z_h_mind_two) (r_threw z_h_mind_two) (r_kinds z_h_mind_two) (r_sweets z_h_mind_two) (r_settings z_h_mind_two) (r_heaps z_h_mind_two))) (As := [.int (-3)]) (rest := []) hx hb hml hown hT (c_X_refuse (z_h_refusals := z_h_refusals) a_h a_h_now a_h_kept a_h_letters a_h_numbers a_h_refusals a_h_mind a_h_parts a_h_past a_h_seating y_h_isKept y_h_numberCount hq3) k_206 k_208 ks_0 k_1 k_209 hd_X_refuse ⟨Nat.le_of_ble_eq_true rfl, Nat.le_of_ble_eq_true rfl⟩ xE0_ok trivial hA hK hP hD hS [0, 5] [1, 2, 3, 4, 6, 7, 8, 9, 10, 11, 12, 13, 14, 15, 16] [15, 0, 1, 2, 3, 16, 4, 5, 6, 7, 8, 9, 10, 11, 12, 13, 14] rfl rfl rfl rfl rfl rfl rfl rfl rfl rfl hl.1 rfl (Nat.le_of_ble_eq_true rfl) ⟨Nat.zero_le _, Nat.zero_le _⟩ d_X_rests_13 (fun H locs hP hD hS => ?_)
    have hq := Option.some.inj hf
    subst hq
    exact hret _ _ _ _ _ d_X_rests_16 rfl rfl hP hD hS
abbrev w_X_alike (cI cJ cC : ClassId) (a_h a_h_now a_h_kept a_h_letters a_h_numbers a_h_refusals a_h_mind a_h_parts a_h_past a_h_seating a_h_now_kinds a_h_now_sweets a_h_now_settings a_h_now_heaps a_h_mind_one a_h_mind_two a_h_mind_one_kinds a_h_mind_one_sweets a_h_mind_one_settings a_h_mind_one_heaps : Nat) (y_h_isKept : Int32) (y_h_numberCount : Int32) (y_h_mind_seed : Int32) (p_h_now_children : Int32) (p_h_now_strokes : Int32) (p_h_now_gave : Int32) (p_h_now_threw : Int32) (p_h_now_kinds : (Nat → Int32)) (p_h_now_sweets : (Nat → Int32)) (p_h_now_settings : (Nat → Int32)) (p_h_refusals : (Nat → Int32)) (p_h_mind_one_children : Int32) (p_h_mind_one_strokes : Int32) (p_h_mind_one_gave : Int32) (p_h_mind_one_threw : Int32) (p_h_mind_one_kinds : (Nat → Int32)) (p_h_mind_one_sweets : (Nat → Int32)) (p_h_mind_one_settings : (Nat → Int32)) (p_h_mind_one_heaps : (Nat → Int32)) : va_W := [(a_h, .inr (0, [.ref a_h_now, .ref a_h_kept, .int y_h_isKept, .ref a_h_letters, .ref a_h_numbers, .int y_h_numberCount, .ref a_h_refusals, .ref a_h_mind, .ref a_h_parts, .ref a_h_past, .ref a_h_seating])), (a_h_now, .inr (1, [.ref a_h_now_kinds, .ref a_h_now_sweets, .ref a_h_now_settings, .int p_h_now_children, .int p_h_now_strokes, .int p_h_now_gave, .int p_h_now_threw, .ref a_h_now_heaps])), (a_h_now_kinds, .inl (cI, (8, .inl p_h_now_kinds))), (a_h_now_sweets, .inl (cI, (8, .inl p_h_now_sweets))), (a_h_now_settings, .inl (cI, (3, .inl p_h_now_settings))), (a_h_refusals, .inl (cI, (7, .inl p_h_refusals))), (a_h_mind, .inr (3, [.ref a_h_mind_one, .ref a_h_mind_two, .int y_h_mind_seed])), (a_h_mind_one, .inr (1, [.ref a_h_mind_one_kinds, .ref a_h_mind_one_sweets, .ref a_h_mind_one_settings, .int p_h_mind_one_children, .int p_h_mind_one_strokes, .int p_h_mind_one_gave, .int p_h_mind_one_threw, .ref a_h_mind_one_heaps])), (a_h_mind_one_kinds, .inl (cI, (8, .inl p_h_mind_one_kinds))), (a_h_mind_one_sweets, .inl (cI, (8, .inl p_h_mind_one_sweets))), (a_h_mind_one_settings, .inl (cI, (3, .inl p_h_mind_one_settings))), (a_h_mind_one_heaps, .inl (cI, (8, .inl p_h_mind_one_heaps)))]
theorem d_X_alike_0 : decode b_X_alike 0 = .ok (.aload_n 0, 1) := by decide +kernel
theorem d_X_alike_1 : decode b_X_alike 1 = .ok (.getfield 10, 3) := by decide +kernel
theorem d_X_alike_4 : decode b_X_alike 4 = .ok (.getfield 121, 3) := by decide +kernel
theorem d_X_alike_7 : decode b_X_alike 7 = .ok (.ifCond .ne 10, 3) := by decide +kernel
theorem d_X_alike_10 : decode b_X_alike 10 = .ok (.aload_n 0, 1) := by decide +kernel
theorem d_X_alike_11 : decode b_X_alike 11 = .ok (.bipush (-3), 2) := by decide +kernel
theorem d_X_alike_13 : decode b_X_alike 13 = .ok (.invokevirtual 69, 3) := by decide +kernel
theorem d_X_alike_16 : decode b_X_alike 16 = .ok (.ireturn, 1) := by decide +kernel
theorem d_X_alike_17 : decode b_X_alike 17 = .ok (.aload_n 0, 1) := by decide +kernel
theorem d_X_alike_18 : decode b_X_alike 18 = .ok (.getfield 44, 3) := by decide +kernel
theorem d_X_alike_21 : decode b_X_alike 21 = .ok (.aload_n 0, 1) := by decide +kernel
theorem d_X_alike_22 : decode b_X_alike 22 = .ok (.getfield 10, 3) := by decide +kernel
theorem d_X_alike_25 : decode b_X_alike 25 = .ok (.invokevirtual 145, 3) := by decide +kernel
theorem d_X_alike_28 : decode b_X_alike 28 = .ok (.ireturn, 1) := by decide +kernel
set_option maxHeartbeats 4000000 in
set_option maxRecDepth 100000 in
theorem c_X_alike {l : Launch} {D : va_G} {cI cJ cC : ClassId} (a_h a_h_now a_h_kept a_h_letters a_h_numbers a_h_refusals a_h_mind a_h_parts a_h_past a_h_seating a_h_now_kinds a_h_now_sweets a_h_now_settings a_h_now_heaps a_h_mind_one a_h_mind_two a_h_mind_one_kinds a_h_mind_one_sweets a_h_mind_one_settings a_h_mind_one_heaps : Nat) (y_h_isKept : Int32) (y_h_numberCount : Int32) (y_h_mind_seed : Int32) {z_h_now : RS} {z_h_refusals : (Nat → Int32)} {z_h_mind_one : RS} {q : Int32 × (Nat → Int32) × RS} (hf : f_X_alike z_h_now z_h_refusals z_h_mind_one = some q) : xI l y_X_alike b_X_alike 1 .int 6 132 D (tyK cI cJ cC) xE0 [.ref a_h] (w_X_alike cI cJ cC a_h a_h_now a_h_kept a_h_letters a_h_numbers a_h_refusals a_h_mind a_h_parts a_h_past a_h_seating a_h_now_kinds a_h_now_sweets a_h_now_settings a_h_now_heaps a_h_mind_one a_h_mind_two a_h_mind_one_kinds a_h_mind_one_sweets a_h_mind_one_settings a_h_mind_one_heaps y_h_isKept y_h_numberCount y_h_mind_seed (r_children z_h_now) (r_strokes z_h_now) (r_gave z_h_now) (r_threw z_h_now) (r_kinds z_h_now) (r_sweets z_h_now) (r_settings z_h_now) z_h_refusals (r_children z_h_mind_one) (r_strokes z_h_mind_one) (r_gave z_h_mind_one) (r_threw z_h_mind_one) (r_kinds z_h_mind_one) (r_sweets z_h_mind_one) (r_settings z_h_mind_one) (r_heaps z_h_mind_one)) q.1 (w_X_alike cI cJ cC a_h a_h_now a_h_kept a_h_letters a_h_numbers a_h_refusals a_h_mind a_h_parts a_h_past a_h_seating a_h_now_kinds a_h_now_sweets a_h_now_settings a_h_now_heaps a_h_mind_one a_h_mind_two a_h_mind_one_kinds a_h_mind_one_sweets a_h_mind_one_settings a_h_mind_one_heaps y_h_isKept y_h_numberCount y_h_mind_seed (r_children z_h_now) (r_strokes z_h_now) (r_gave z_h_now) (r_threw z_h_now) (r_kinds z_h_now) (r_sweets z_h_now) (r_settings z_h_now) q.2.1 (r_children q.2.2) (r_strokes q.2.2) (r_gave q.2.2) (r_threw q.2.2) (r_kinds q.2.2) (r_sweets q.2.2) (r_settings q.2.2) (r_heaps q.2.2)) := by
  refine xI_of (by decide) (Nat.le_of_ble_eq_true rfl) ?_
  intro p e s m args below meth c A Q hx hb hml hown hT hA hP hD hK hS hE hret ls hl
  have hown : s.vm.findClass R_X = some m.cls := hown
  have hl : lv_has ls 1 [(0, .ref a_h)] := hl
  unfold f_X_alike at hf
  refine lv_aload_n hx hb d_X_alike_0 rfl (lv_at hl 0 rfl) ?_
  refine va_get hx hb hT i_X hown hK hP 0 rfl rfl 0 (Nat.le_of_ble_eq_true rfl) (hT _ k_168) (fun _ h => h) rfl d_X_alike_1 ?_
  refine va_get hx hb hT i_Ring hown hK hP 1 rfl rfl 3 (Nat.le_of_ble_eq_true rfl) (hT _ k_48) (fun _ h => h) rfl d_X_alike_4 ?_
  refine lv_if_ne (tgt := 17) hx hb d_X_alike_7 (by decide) (fun c1 => ?_) (fun c1 => ?_)
  · have hf := io_f hf c1
    refine lv_aload_n hx hb d_X_alike_17 rfl (lv_at hl 0 rfl) ?_
    refine va_get hx hb hT i_X hown hK hP 0 rfl rfl 7 (Nat.le_of_ble_eq_true rfl) (hT _ k_175) (fun _ h => h) rfl d_X_alike_18 ?_
    refine lv_aload_n hx hb d_X_alike_21 rfl (lv_at hl 0 rfl) ?_
    refine va_get hx hb hT i_X hown hK hP 0 rfl rfl 0 (Nat.le_of_ble_eq_true rfl) (hT _ k_168) (fun _ h => h) rfl d_X_alike_22 ?_
    obtain ⟨q2, hq2, hf⟩ := io_b hf
    refine xcVI (wc := (w_Mind_alikeBehind cI cJ cC a_h_mind a_h_mind_one a_h_mind_two a_h_mind_one_kinds a_h_mind_one_sweets a_h_mind_one_settings a_h_mind_one_heaps a_h_now a_h_now_kinds a_h_now_sweets a_h_now_settings a_h_now_heaps y_h_mind_seed (r_children z_h_mind_one) (r_strokes z_h_mind_one) (r_gave z_h_mind_one) (r_threw z_h_mind_one) (r_kinds z_h_mind_one) (r_sweets z_h_mind_one) (r_settings z_h_mind_one) (r_heaps z_h_mind_one) (r_children z_h_now) (r_strokes z_h_now) (r_gave z_h_now) (r_threw z_h_now) (r_kinds z_h_now) (r_sweets z_h_now) (r_settings z_h_now))) (wc' := (w_Mind_alikeBehind cI cJ cC a_h_mind a_h_mind_one a_h_mind_two a_h_mind_one_kinds a_h_mind_one_sweets a_h_mind_one_settings a_h_mind_one_heaps a_h_now a_h_now_kinds a_h_now_sweets a_h_now_settings a_h_now_heaps y_h_mind_seed (r_children q2.2) (r_strokes q2.2) (r_gave q2.2) (r_threw q2.2) (r_kinds q2.2) (r_sweets q2.2) (r_settings q2.2) (r_heaps q2.2) (r_children z_h_now) (r_strokes z_h_now) (r_gave z_h_now) (r_threw z_h_now) (r_kinds z_h_now) (r_sweets z_h_now) (r_settings z_h_now))) (ws' := (w_X_alike cI cJ cC a_h a_h_now a_h_kept a_h_letters a_h_numbers a_h_refusals a_h_mind a_h_parts a_h_past a_h_seating a_h_now_kinds a_h_now_sweets a_h_now_settings a_h_now_heaps a_h_mind_one a_h_mind_two a_h_mind_one_kinds a_h_mind_one_sweets a_h_mind_one_settings a_h_mind_one_heaps y_h_isKept y_h_numberCount y_h_mind_seed (r_children z_h_now) (r_strokes z_h_now) (r_gave z_h_now) (r_threw z_h_now) (r_kinds z_h_now) (r_sweets z_h_now) (r_settings z_h_now) z_h_refusals (r_children q2.2) (r_strokes q2.2) (r_gave q2.2) (r_threw q2.2) (r_kinds q2.2) (r_sweets q2.2) (r_settings q2.2) (r_heaps q2.2))) (As := [.ref a_h_now]) (rest := []) hx hb hml hown hT (c_Mind_alikeBehind (z_h_one := z_h_mind_one) (z_g1 := z_h_now) a_h_mind a_h_mind_one a_h_mind_two a_h_mind_one_kinds a_h_mind_one_sweets a_h_mind_one_settings a_h_mind_one_heaps a_h_now a_h_now_kinds a_h_now_sweets a_h_now_settings a_h_now_heaps y_h_mind_seed hq2) k_479 k_480 k_481 k_4 k_482 hd_Mind_alikeBehind ⟨Nat.le_of_ble_eq_true rfl, Nat.le_of_ble_eq_true rfl⟩ xE0_ok trivial hA hK hP hD hS [6, 7, 8, 9, 10, 11, 1, 2, 3, 4] [0, 5] [0, 8, 9, 10, 11, 1, 2, 3, 4, 5, 6, 7] rfl rfl rfl rfl rfl rfl rfl rfl rfl rfl hl.1 rfl (Nat.le_of_ble_eq_true rfl) ⟨Nat.zero_le _, Nat.zero_le _⟩ d_X_alike_25 (fun H locs hP hD hS => ?_)
    have hq := Option.some.inj hf
    subst hq
    exact hret _ _ _ _ _ d_X_alike_28 rfl rfl hP hD hS
  · have hf := io_t hf c1
    refine lv_aload_n hx hb d_X_alike_10 rfl (lv_at hl 0 rfl) ?_
    refine lv_bipush (v := (-3)) hx hb d_X_alike_11 (by decide) ?_
    obtain ⟨q3, hq3, hf⟩ := io_b hf
    refine xcVI (wc := (w_X_refuse cI cJ cC a_h a_h_now a_h_kept a_h_letters a_h_numbers a_h_refusals a_h_mind a_h_parts a_h_past a_h_seating y_h_isKept y_h_numberCount z_h_refusals)) (wc' := (w_X_refuse cI cJ cC a_h a_h_now a_h_kept a_h_letters a_h_numbers a_h_refusals a_h_mind a_h_parts a_h_past a_h_seating y_h_isKept y_h_numberCount q3.2)) (ws' := (w_X_alike cI cJ cC a_h a_h_now a_h_kept a_h_letters a_h_numbers a_h_refusals a_h_mind a_h_parts a_h_past a_h_seating a_h_now_kinds a_h_now_sweets a_h_now_settings a_h_now_heaps a_h_mind_one a_h_mind_two a_h_mind_one_kinds a_h_mind_one_sweets a_h_mind_one_settings a_h_mind_one_heaps y_h_isKept y_h_numberCount y_h_mind_seed (r_children z_h_now) (r_strokes z_h_now) (r_gave z_h_now) (r_threw z_h_now) (r_kinds z_h_now) (r_sweets z_h_now) (r_settings z_h_now) q3.2 (r_children z_h_mind_one) (r_strokes z_h_mind_one) (r_gave z_h_mind_one) (r_threw z_h_mind_one) (r_kinds z_h_mind_one) (r_sweets z_h_mind_one) (r_settings z_h_mind_one) (r_heaps z_h_mind_one))) (As := [.int (-3)]) (rest := []) hx hb hml hown hT (c_X_refuse (z_h_refusals := z_h_refusals) a_h a_h_now a_h_kept a_h_letters a_h_numbers a_h_refusals a_h_mind a_h_parts a_h_past a_h_seating y_h_isKept y_h_numberCount hq3) k_206 k_208 ks_0 k_1 k_209 hd_X_refuse ⟨Nat.le_of_ble_eq_true rfl, Nat.le_of_ble_eq_true rfl⟩ xE0_ok trivial hA hK hP hD hS [0, 5] [1, 2, 3, 4, 6, 7, 8, 9, 10, 11] [10, 0, 1, 2, 3, 11, 4, 5, 6, 7, 8, 9] rfl rfl rfl rfl rfl rfl rfl rfl rfl rfl hl.1 rfl (Nat.le_of_ble_eq_true rfl) ⟨Nat.zero_le _, Nat.zero_le _⟩ d_X_alike_13 (fun H locs hP hD hS => ?_)
    have hq := Option.some.inj hf
    subst hq
    exact hret _ _ _ _ _ d_X_alike_16 rfl rfl hP hD hS
abbrev w_X_ring (cI cJ cC : ClassId) (a_h a_h_now a_h_kept a_h_letters a_h_numbers a_h_refusals a_h_mind a_h_parts a_h_past a_h_seating a_h_now_kinds a_h_now_sweets a_h_now_settings a_h_now_heaps a_h_mind_one a_h_mind_two a_h_mind_one_kinds a_h_mind_one_sweets a_h_mind_one_settings a_h_mind_one_heaps a_h_mind_two_kinds a_h_mind_two_sweets a_h_mind_two_settings a_h_mind_two_heaps : Nat) (y_h_isKept : Int32) (y_h_numberCount : Int32) (y_h_mind_seed : Int32) (p_h_now_children : Int32) (p_h_now_strokes : Int32) (p_h_now_gave : Int32) (p_h_now_threw : Int32) (p_h_now_kinds : (Nat → Int32)) (p_h_now_sweets : (Nat → Int32)) (p_h_now_settings : (Nat → Int32)) (p_h_refusals : (Nat → Int32)) (p_h_mind_one_children : Int32) (p_h_mind_one_strokes : Int32) (p_h_mind_one_gave : Int32) (p_h_mind_one_threw : Int32) (p_h_mind_one_kinds : (Nat → Int32)) (p_h_mind_one_sweets : (Nat → Int32)) (p_h_mind_one_settings : (Nat → Int32)) (p_h_mind_one_heaps : (Nat → Int32)) (p_h_mind_two_children : Int32) (p_h_mind_two_strokes : Int32) (p_h_mind_two_gave : Int32) (p_h_mind_two_threw : Int32) (p_h_mind_two_kinds : (Nat → Int32)) (p_h_mind_two_sweets : (Nat → Int32)) (p_h_mind_two_settings : (Nat → Int32)) (p_h_mind_two_heaps : (Nat → Int32)) : va_W := [(a_h, .inr (0, [.ref a_h_now, .ref a_h_kept, .int y_h_isKept, .ref a_h_letters, .ref a_h_numbers, .int y_h_numberCount, .ref a_h_refusals, .ref a_h_mind, .ref a_h_parts, .ref a_h_past, .ref a_h_seating])), (a_h_now, .inr (1, [.ref a_h_now_kinds, .ref a_h_now_sweets, .ref a_h_now_settings, .int p_h_now_children, .int p_h_now_strokes, .int p_h_now_gave, .int p_h_now_threw, .ref a_h_now_heaps])), (a_h_now_kinds, .inl (cI, (8, .inl p_h_now_kinds))), (a_h_now_sweets, .inl (cI, (8, .inl p_h_now_sweets))), (a_h_now_settings, .inl (cI, (3, .inl p_h_now_settings))), (a_h_refusals, .inl (cI, (7, .inl p_h_refusals))), (a_h_mind, .inr (3, [.ref a_h_mind_one, .ref a_h_mind_two, .int y_h_mind_seed])), (a_h_mind_one, .inr (1, [.ref a_h_mind_one_kinds, .ref a_h_mind_one_sweets, .ref a_h_mind_one_settings, .int p_h_mind_one_children, .int p_h_mind_one_strokes, .int p_h_mind_one_gave, .int p_h_mind_one_threw, .ref a_h_mind_one_heaps])), (a_h_mind_one_kinds, .inl (cI, (8, .inl p_h_mind_one_kinds))), (a_h_mind_one_sweets, .inl (cI, (8, .inl p_h_mind_one_sweets))), (a_h_mind_one_settings, .inl (cI, (3, .inl p_h_mind_one_settings))), (a_h_mind_one_heaps, .inl (cI, (8, .inl p_h_mind_one_heaps))), (a_h_mind_two, .inr (1, [.ref a_h_mind_two_kinds, .ref a_h_mind_two_sweets, .ref a_h_mind_two_settings, .int p_h_mind_two_children, .int p_h_mind_two_strokes, .int p_h_mind_two_gave, .int p_h_mind_two_threw, .ref a_h_mind_two_heaps])), (a_h_mind_two_kinds, .inl (cI, (8, .inl p_h_mind_two_kinds))), (a_h_mind_two_sweets, .inl (cI, (8, .inl p_h_mind_two_sweets))), (a_h_mind_two_settings, .inl (cI, (3, .inl p_h_mind_two_settings))), (a_h_mind_two_heaps, .inl (cI, (8, .inl p_h_mind_two_heaps)))]
theorem d_X_ring_0 : decode b_X_ring 0 = .ok (.iload_n 1, 1) := by decide +kernel
theorem d_X_ring_1 : decode b_X_ring 1 = .ok (.invokestatic 132, 3) := by decide +kernel
theorem d_X_ring_4 : decode b_X_ring 4 = .ok (.ifCond .ne 10, 3) := by decide +kernel
theorem d_X_ring_7 : decode b_X_ring 7 = .ok (.aload_n 0, 1) := by decide +kernel
theorem d_X_ring_8 : decode b_X_ring 8 = .ok (.bipush (-2), 2) := by decide +kernel
theorem d_X_ring_10 : decode b_X_ring 10 = .ok (.invokevirtual 69, 3) := by decide +kernel
theorem d_X_ring_13 : decode b_X_ring 13 = .ok (.ireturn, 1) := by decide +kernel
theorem d_X_ring_14 : decode b_X_ring 14 = .ok (.aload_n 0, 1) := by decide +kernel
theorem d_X_ring_15 : decode b_X_ring 15 = .ok (.getfield 10, 3) := by decide +kernel
theorem d_X_ring_18 : decode b_X_ring 18 = .ok (.getfield 121, 3) := by decide +kernel
theorem d_X_ring_21 : decode b_X_ring 21 = .ok (.ifCond .ne 10, 3) := by decide +kernel
theorem d_X_ring_24 : decode b_X_ring 24 = .ok (.aload_n 0, 1) := by decide +kernel
theorem d_X_ring_25 : decode b_X_ring 25 = .ok (.bipush (-3), 2) := by decide +kernel
theorem d_X_ring_27 : decode b_X_ring 27 = .ok (.invokevirtual 69, 3) := by decide +kernel
theorem d_X_ring_30 : decode b_X_ring 30 = .ok (.ireturn, 1) := by decide +kernel
theorem d_X_ring_31 : decode b_X_ring 31 = .ok (.aload_n 0, 1) := by decide +kernel
theorem d_X_ring_32 : decode b_X_ring 32 = .ok (.getfield 44, 3) := by decide +kernel
theorem d_X_ring_35 : decode b_X_ring 35 = .ok (.aload_n 0, 1) := by decide +kernel
theorem d_X_ring_36 : decode b_X_ring 36 = .ok (.getfield 10, 3) := by decide +kernel
theorem d_X_ring_39 : decode b_X_ring 39 = .ok (.invokevirtual 148, 3) := by decide +kernel
theorem d_X_ring_42 : decode b_X_ring 42 = .ok (.istore_n 2, 1) := by decide +kernel
theorem d_X_ring_43 : decode b_X_ring 43 = .ok (.iload_n 2, 1) := by decide +kernel
theorem d_X_ring_44 : decode b_X_ring 44 = .ok (.bipush (-9), 2) := by decide +kernel
theorem d_X_ring_46 : decode b_X_ring 46 = .ok (.if_icmp .eq 8, 3) := by decide +kernel
theorem d_X_ring_49 : decode b_X_ring 49 = .ok (.iload_n 1, 1) := by decide +kernel
theorem d_X_ring_50 : decode b_X_ring 50 = .ok (.iconst 1, 1) := by decide +kernel
theorem d_X_ring_51 : decode b_X_ring 51 = .ok (.if_icmp .ne 5, 3) := by decide +kernel
theorem d_X_ring_54 : decode b_X_ring 54 = .ok (.iload_n 2, 1) := by decide +kernel
theorem d_X_ring_55 : decode b_X_ring 55 = .ok (.ireturn, 1) := by decide +kernel
theorem d_X_ring_56 : decode b_X_ring 56 = .ok (.aload_n 0, 1) := by decide +kernel
theorem d_X_ring_57 : decode b_X_ring 57 = .ok (.getfield 44, 3) := by decide +kernel
theorem d_X_ring_60 : decode b_X_ring 60 = .ok (.aload_n 0, 1) := by decide +kernel
theorem d_X_ring_61 : decode b_X_ring 61 = .ok (.getfield 10, 3) := by decide +kernel
theorem d_X_ring_64 : decode b_X_ring 64 = .ok (.iload_n 2, 1) := by decide +kernel
theorem d_X_ring_65 : decode b_X_ring 65 = .ok (.invokevirtual 151, 3) := by decide +kernel
theorem d_X_ring_68 : decode b_X_ring 68 = .ok (.ireturn, 1) := by decide +kernel
set_option maxHeartbeats 4000000 in
set_option maxRecDepth 100000 in
theorem c_X_ring {l : Launch} {D : va_G} {cI cJ cC : ClassId} (a_h a_h_now a_h_kept a_h_letters a_h_numbers a_h_refusals a_h_mind a_h_parts a_h_past a_h_seating a_h_now_kinds a_h_now_sweets a_h_now_settings a_h_now_heaps a_h_mind_one a_h_mind_two a_h_mind_one_kinds a_h_mind_one_sweets a_h_mind_one_settings a_h_mind_one_heaps a_h_mind_two_kinds a_h_mind_two_sweets a_h_mind_two_settings a_h_mind_two_heaps : Nat) (y_h_isKept : Int32) (y_h_numberCount : Int32) (y_h_mind_seed : Int32) {z_h_now : RS} {z_h_refusals : (Nat → Int32)} {z_h_mind_one : RS} {z_h_mind_two : RS} {x1 : Int32} {q : Int32 × (Nat → Int32) × RS × RS} (hf : f_X_ring z_h_now z_h_refusals z_h_mind_one z_h_mind_two x1 = some q) : xI l y_X_ring b_X_ring 3 .int 6 134 D (tyK cI cJ cC) xE0 [.ref a_h, .int x1] (w_X_ring cI cJ cC a_h a_h_now a_h_kept a_h_letters a_h_numbers a_h_refusals a_h_mind a_h_parts a_h_past a_h_seating a_h_now_kinds a_h_now_sweets a_h_now_settings a_h_now_heaps a_h_mind_one a_h_mind_two a_h_mind_one_kinds a_h_mind_one_sweets a_h_mind_one_settings a_h_mind_one_heaps a_h_mind_two_kinds a_h_mind_two_sweets a_h_mind_two_settings a_h_mind_two_heaps y_h_isKept y_h_numberCount y_h_mind_seed (r_children z_h_now) (r_strokes z_h_now) (r_gave z_h_now) (r_threw z_h_now) (r_kinds z_h_now) (r_sweets z_h_now) (r_settings z_h_now) z_h_refusals (r_children z_h_mind_one) (r_strokes z_h_mind_one) (r_gave z_h_mind_one) (r_threw z_h_mind_one) (r_kinds z_h_mind_one) (r_sweets z_h_mind_one) (r_settings z_h_mind_one) (r_heaps z_h_mind_one) (r_children z_h_mind_two) (r_strokes z_h_mind_two) (r_gave z_h_mind_two) (r_threw z_h_mind_two) (r_kinds z_h_mind_two) (r_sweets z_h_mind_two) (r_settings z_h_mind_two) (r_heaps z_h_mind_two)) q.1 (w_X_ring cI cJ cC a_h a_h_now a_h_kept a_h_letters a_h_numbers a_h_refusals a_h_mind a_h_parts a_h_past a_h_seating a_h_now_kinds a_h_now_sweets a_h_now_settings a_h_now_heaps a_h_mind_one a_h_mind_two a_h_mind_one_kinds a_h_mind_one_sweets a_h_mind_one_settings a_h_mind_one_heaps a_h_mind_two_kinds a_h_mind_two_sweets a_h_mind_two_settings a_h_mind_two_heaps y_h_isKept y_h_numberCount y_h_mind_seed (r_children z_h_now) (r_strokes z_h_now) (r_gave z_h_now) (r_threw z_h_now) (r_kinds z_h_now) (r_sweets z_h_now) (r_settings z_h_now) q.2.1 (r_children q.2.2.1) (r_strokes q.2.2.1) (r_gave q.2.2.1) (r_threw q.2.2.1) (r_kinds q.2.2.1) (r_sweets q.2.2.1) (r_settings q.2.2.1) (r_heaps q.2.2.1) (r_children q.2.2.2) (r_strokes q.2.2.2) (r_gave q.2.2.2) (r_threw q.2.2.2) (r_kinds q.2.2.2) (r_sweets q.2.2.2) (r_settings q.2.2.2) (r_heaps q.2.2.2)) := by
  refine xI_of (by decide) (Nat.le_of_ble_eq_true rfl) ?_
  intro p e s m args below meth c A Q hx hb hml hown hT hA hP hD hK hS hE hret ls hl
  have hown : s.vm.findClass R_X = some m.cls := hown
  have hl : lv_has ls 3 [(0, .ref a_h), (1, .int x1)] := hl
  unfold f_X_ring at hf
  refine lv_iload_n hx hb d_X_ring_0 rfl (lv_at hl 1 rfl) ?_
  obtain ⟨q1, hq1, hf⟩ := io_b hf
  refine xcSI (wc := []) (wc' := []) (ws' := (w_X_ring cI cJ cC a_h a_h_now a_h_kept a_h_letters a_h_numbers a_h_refusals a_h_mind a_h_parts a_h_past a_h_seating a_h_now_kinds a_h_now_sweets a_h_now_settings a_h_now_heaps a_h_mind_one a_h_mind_two a_h_mind_one_kinds a_h_mind_one_sweets a_h_mind_one_settings a_h_mind_one_heaps a_h_mind_two_kinds a_h_mind_two_sweets a_h_mind_two_settings a_h_mind_two_heaps y_h_isKept y_h_numberCount y_h_mind_seed (r_children z_h_now) (r_strokes z_h_now) (r_gave z_h_now) (r_threw z_h_now) (r_kinds z_h_now) (r_sweets z_h_now) (r_settings z_h_now) z_h_refusals (r_children z_h_mind_one) (r_strokes z_h_mind_one) (r_gave z_h_mind_one) (r_threw z_h_mind_one) (r_kinds z_h_mind_one) (r_sweets z_h_mind_one) (r_settings z_h_mind_one) (r_heaps z_h_mind_one) (r_children z_h_mind_two) (r_strokes z_h_mind_two) (r_gave z_h_mind_two) (r_threw z_h_mind_two) (r_kinds z_h_mind_two) (r_sweets z_h_mind_two) (r_settings z_h_mind_two) (r_heaps z_h_mind_two))) (As := [.int x1]) (rest := []) hx hb hml hown hT (c_X_isPart hq1) k_451 k_452 k_1 k_453 hd_X_isPart ⟨Nat.le_of_ble_eq_true rfl, Nat.le_of_ble_eq_true rfl⟩ xE0_ok trivial hA hK hP hD hS [] [0, 1, 2, 3, 4, 5, 6, 7, 8, 9, 10, 11, 12, 13, 14, 15, 16] [0, 1, 2, 3, 4, 5, 6, 7, 8, 9, 10, 11, 12, 13, 14, 15, 16] rfl rfl rfl rfl rfl rfl rfl hl.1 rfl (Nat.le_of_ble_eq_true rfl) ⟨Nat.zero_le _, Nat.zero_le _⟩ d_X_ring_1 (fun H locs hP hD hS => ?_)
  refine lv_if_ne (tgt := 14) hx hb d_X_ring_4 (by decide) (fun c2 => ?_) (fun c2 => ?_)
  · have hf := io_f hf c2
    refine lv_aload_n hx hb d_X_ring_14 rfl (lv_at hl 0 rfl) ?_
    refine va_get hx hb hT i_X hown hK hP 0 rfl rfl 0 (Nat.le_of_ble_eq_true rfl) (hT _ k_168) (fun _ h => h) rfl d_X_ring_15 ?_
    refine va_get hx hb hT i_Ring hown hK hP 1 rfl rfl 3 (Nat.le_of_ble_eq_true rfl) (hT _ k_48) (fun _ h => h) rfl d_X_ring_18 ?_
    refine lv_if_ne (tgt := 31) hx hb d_X_ring_21 (by decide) (fun c3 => ?_) (fun c3 => ?_)
    · have hf := io_f hf c3
      refine lv_aload_n hx hb d_X_ring_31 rfl (lv_at hl 0 rfl) ?_
      refine va_get hx hb hT i_X hown hK hP 0 rfl rfl 7 (Nat.le_of_ble_eq_true rfl) (hT _ k_175) (fun _ h => h) rfl d_X_ring_32 ?_
      refine lv_aload_n hx hb d_X_ring_35 rfl (lv_at hl 0 rfl) ?_
      refine va_get hx hb hT i_X hown hK hP 0 rfl rfl 0 (Nat.le_of_ble_eq_true rfl) (hT _ k_168) (fun _ h => h) rfl d_X_ring_36 ?_
      obtain ⟨q4, hq4, hf⟩ := io_b hf
      refine xcVI (wc := (w_Mind_roundOf cI cJ cC a_h_mind a_h_mind_one a_h_mind_two a_h_mind_one_kinds a_h_mind_one_sweets a_h_mind_one_settings a_h_mind_one_heaps a_h_mind_two_kinds a_h_mind_two_sweets a_h_mind_two_settings a_h_mind_two_heaps a_h_now a_h_now_kinds a_h_now_sweets a_h_now_settings a_h_now_heaps y_h_mind_seed (r_children z_h_mind_one) (r_strokes z_h_mind_one) (r_gave z_h_mind_one) (r_threw z_h_mind_one) (r_kinds z_h_mind_one) (r_sweets z_h_mind_one) (r_settings z_h_mind_one) (r_heaps z_h_mind_one) (r_children z_h_mind_two) (r_strokes z_h_mind_two) (r_gave z_h_mind_two) (r_threw z_h_mind_two) (r_kinds z_h_mind_two) (r_sweets z_h_mind_two) (r_settings z_h_mind_two) (r_heaps z_h_mind_two) (r_children z_h_now) (r_strokes z_h_now) (r_gave z_h_now) (r_threw z_h_now) (r_kinds z_h_now) (r_sweets z_h_now) (r_settings z_h_now))) (wc' := (w_Mind_roundOf cI cJ cC a_h_mind a_h_mind_one a_h_mind_two a_h_mind_one_kinds a_h_mind_one_sweets a_h_mind_one_settings a_h_mind_one_heaps a_h_mind_two_kinds a_h_mind_two_sweets a_h_mind_two_settings a_h_mind_two_heaps a_h_now a_h_now_kinds a_h_now_sweets a_h_now_settings a_h_now_heaps y_h_mind_seed (r_children q4.2.1) (r_strokes q4.2.1) (r_gave q4.2.1) (r_threw q4.2.1) (r_kinds q4.2.1) (r_sweets q4.2.1) (r_settings q4.2.1) (r_heaps q4.2.1) (r_children q4.2.2) (r_strokes q4.2.2) (r_gave q4.2.2) (r_threw q4.2.2) (r_kinds q4.2.2) (r_sweets q4.2.2) (r_settings q4.2.2) (r_heaps q4.2.2) (r_children z_h_now) (r_strokes z_h_now) (r_gave z_h_now) (r_threw z_h_now) (r_kinds z_h_now) (r_sweets z_h_now) (r_settings z_h_now))) (ws' := (w_X_ring cI cJ cC a_h a_h_now a_h_kept a_h_letters a_h_numbers a_h_refusals a_h_mind a_h_parts a_h_past a_h_seating a_h_now_kinds a_h_now_sweets a_h_now_settings a_h_now_heaps a_h_mind_one a_h_mind_two a_h_mind_one_kinds a_h_mind_one_sweets a_h_mind_one_settings a_h_mind_one_heaps a_h_mind_two_kinds a_h_mind_two_sweets a_h_mind_two_settings a_h_mind_two_heaps y_h_isKept y_h_numberCount y_h_mind_seed (r_children z_h_now) (r_strokes z_h_now) (r_gave z_h_now) (r_threw z_h_now) (r_kinds z_h_now) (r_sweets z_h_now) (r_settings z_h_now) z_h_refusals (r_children q4.2.1) (r_strokes q4.2.1) (r_gave q4.2.1) (r_threw q4.2.1) (r_kinds q4.2.1) (r_sweets q4.2.1) (r_settings q4.2.1) (r_heaps q4.2.1) (r_children q4.2.2) (r_strokes q4.2.2) (r_gave q4.2.2) (r_threw q4.2.2) (r_kinds q4.2.2) (r_sweets q4.2.2) (r_settings q4.2.2) (r_heaps q4.2.2))) (As := [.ref a_h_now]) (rest := []) hx hb hml hown hT (c_Mind_roundOf (z_h_one := z_h_mind_one) (z_h_two := z_h_mind_two) (z_g1 := z_h_now) a_h_mind a_h_mind_one a_h_mind_two a_h_mind_one_kinds a_h_mind_one_sweets a_h_mind_one_settings a_h_mind_one_heaps a_h_mind_two_kinds a_h_mind_two_sweets a_h_mind_two_settings a_h_mind_two_heaps a_h_now a_h_now_kinds a_h_now_sweets a_h_now_settings a_h_now_heaps y_h_mind_seed hq4) k_494 k_495 k_496 k_4 k_497 hd_Mind_roundOf ⟨Nat.le_of_ble_eq_true rfl, Nat.le_of_ble_eq_true rfl⟩ xE0_ok trivial hA hK hP hD hS [6, 7, 8, 9, 10, 11, 12, 13, 14, 15, 16, 1, 2, 3, 4] [0, 5] [0, 13, 14, 15, 16, 1, 2, 3, 4, 5, 6, 7, 8, 9, 10, 11, 12] rfl rfl rfl rfl rfl rfl rfl rfl rfl rfl hl.1 rfl (Nat.le_of_ble_eq_true rfl) ⟨Nat.zero_le _, Nat.zero_le _⟩ d_X_ring_39 (fun H locs hP hD hS => ?_)
      refine lv_istore_n (lv' := [(2, .int q4.1), (0, .ref a_h), (1, .int x1)]) hx hb d_X_ring_42 rfl hl (by decide) rfl (fun ls hl => ?_)
      refine lv_iload_n hx hb d_X_ring_43 rfl (lv_at hl 0 rfl) ?_
      refine lv_bipush (v := (-9)) hx hb d_X_ring_44 (by decide) ?_
      refine lv_icmp_eq (tgt := 54) hx hb d_X_ring_46 (by decide) (fun c5 => ?_) (fun c5 => ?_)
      · have hf := io_t hf c5
        refine lv_iload_n hx hb d_X_ring_54 rfl (lv_at hl 0 rfl) ?_
        have hq := Option.some.inj hf
        subst hq
        exact hret _ _ _ _ _ d_X_ring_55 rfl rfl hP hD hS
      · have hf := io_f hf c5
        refine lv_iload_n hx hb d_X_ring_49 rfl (lv_at hl 2 rfl) ?_
        refine lv_iconst (v := 1) hx hb d_X_ring_50 (by decide) ?_
        refine lv_icmp_ne (tgt := 56) hx hb d_X_ring_51 (by decide) (fun c6 => ?_) (fun c6 => ?_)
        · have hf := io_f hf c6
          refine lv_aload_n hx hb d_X_ring_56 rfl (lv_at hl 1 rfl) ?_
          refine va_get hx hb hT i_X hown hK hP 0 rfl rfl 7 (Nat.le_of_ble_eq_true rfl) (hT _ k_175) (fun _ h => h) rfl d_X_ring_57 ?_
          refine lv_aload_n hx hb d_X_ring_60 rfl (lv_at hl 1 rfl) ?_
          refine va_get hx hb hT i_X hown hK hP 0 rfl rfl 0 (Nat.le_of_ble_eq_true rfl) (hT _ k_168) (fun _ h => h) rfl d_X_ring_61 ?_
          refine lv_iload_n hx hb d_X_ring_64 rfl (lv_at hl 0 rfl) ?_
          obtain ⟨q7, hq7, hf⟩ := io_b hf
          refine xcVI (wc := (w_Mind_aheadOfRound cI cJ cC a_h_mind a_h_mind_one a_h_mind_two a_h_mind_one_kinds a_h_mind_one_sweets a_h_mind_one_settings a_h_mind_one_heaps a_h_mind_two_kinds a_h_mind_two_sweets a_h_mind_two_settings a_h_mind_two_heaps a_h_now a_h_now_kinds a_h_now_sweets a_h_now_settings a_h_now_heaps y_h_mind_seed (r_children q4.2.1) (r_strokes q4.2.1) (r_gave q4.2.1) (r_threw q4.2.1) (r_kinds q4.2.1) (r_sweets q4.2.1) (r_settings q4.2.1) (r_heaps q4.2.1) (r_children q4.2.2) (r_strokes q4.2.2) (r_gave q4.2.2) (r_threw q4.2.2) (r_kinds q4.2.2) (r_sweets q4.2.2) (r_settings q4.2.2) (r_heaps q4.2.2) (r_children z_h_now) (r_strokes z_h_now) (r_gave z_h_now) (r_threw z_h_now) (r_kinds z_h_now) (r_sweets z_h_now) (r_settings z_h_now))) (wc' := (w_Mind_aheadOfRound cI cJ cC a_h_mind a_h_mind_one a_h_mind_two a_h_mind_one_kinds a_h_mind_one_sweets a_h_mind_one_settings a_h_mind_one_heaps a_h_mind_two_kinds a_h_mind_two_sweets a_h_mind_two_settings a_h_mind_two_heaps a_h_now a_h_now_kinds a_h_now_sweets a_h_now_settings a_h_now_heaps y_h_mind_seed (r_children q7.2.1) (r_strokes q7.2.1) (r_gave q7.2.1) (r_threw q7.2.1) (r_kinds q7.2.1) (r_sweets q7.2.1) (r_settings q7.2.1) (r_heaps q7.2.1) (r_children q7.2.2) (r_strokes q7.2.2) (r_gave q7.2.2) (r_threw q7.2.2) (r_kinds q7.2.2) (r_sweets q7.2.2) (r_settings q7.2.2) (r_heaps q7.2.2) (r_children z_h_now) (r_strokes z_h_now) (r_gave z_h_now) (r_threw z_h_now) (r_kinds z_h_now) (r_sweets z_h_now) (r_settings z_h_now))) (ws' := (w_X_ring cI cJ cC a_h a_h_now a_h_kept a_h_letters a_h_numbers a_h_refusals a_h_mind a_h_parts a_h_past a_h_seating a_h_now_kinds a_h_now_sweets a_h_now_settings a_h_now_heaps a_h_mind_one a_h_mind_two a_h_mind_one_kinds a_h_mind_one_sweets a_h_mind_one_settings a_h_mind_one_heaps a_h_mind_two_kinds a_h_mind_two_sweets a_h_mind_two_settings a_h_mind_two_heaps y_h_isKept y_h_numberCount y_h_mind_seed (r_children z_h_now) (r_strokes z_h_now) (r_gave z_h_now) (r_threw z_h_now) (r_kinds z_h_now) (r_sweets z_h_now) (r_settings z_h_now) z_h_refusals (r_children q7.2.1) (r_strokes q7.2.1) (r_gave q7.2.1) (r_threw q7.2.1) (r_kinds q7.2.1) (r_sweets q7.2.1) (r_settings q7.2.1) (r_heaps q7.2.1) (r_children q7.2.2) (r_strokes q7.2.2) (r_gave q7.2.2) (r_threw q7.2.2) (r_kinds q7.2.2) (r_sweets q7.2.2) (r_settings q7.2.2) (r_heaps q7.2.2))) (As := [.ref a_h_now, .int q4.1]) (rest := []) hx hb hml hown hT (c_Mind_aheadOfRound (z_h_one := q4.2.1) (z_h_two := q4.2.2) (z_g1 := z_h_now) a_h_mind a_h_mind_one a_h_mind_two a_h_mind_one_kinds a_h_mind_one_sweets a_h_mind_one_settings a_h_mind_one_heaps a_h_mind_two_kinds a_h_mind_two_sweets a_h_mind_two_settings a_h_mind_two_heaps a_h_now a_h_now_kinds a_h_now_sweets a_h_now_settings a_h_now_heaps y_h_mind_seed hq7) k_503 k_504 k_505 k_4 k_506 hd_Mind_aheadOfRound ⟨Nat.le_of_ble_eq_true rfl, Nat.le_of_ble_eq_true rfl⟩ xE0_ok trivial hA hK hP hD hS [6, 7, 8, 9, 10, 11, 12, 13, 14, 15, 16, 1, 2, 3, 4] [0, 5] [0, 13, 14, 15, 16, 1, 2, 3, 4, 5, 6, 7, 8, 9, 10, 11, 12] rfl rfl rfl rfl rfl rfl rfl rfl rfl rfl hl.1 rfl (Nat.le_of_ble_eq_true rfl) ⟨Nat.zero_le _, Nat.zero_le _⟩ d_X_ring_65 (fun H locs hP hD hS => ?_)
          have hq := Option.some.inj hf
          subst hq
          exact hret _ _ _ _ _ d_X_ring_68 rfl rfl hP hD hS
        · have hf := io_t hf c6
          refine lv_iload_n hx hb d_X_ring_54 rfl (lv_at hl 0 rfl) ?_
          have hq := Option.some.inj hf
          subst hq
          exact hret _ _ _ _ _ d_X_ring_55 rfl rfl hP hD hS
    · have hf := io_t hf c3
      refine lv_aload_n hx hb d_X_ring_24 rfl (lv_at hl 0 rfl) ?_
      refine lv_bipush (v := (-3)) hx hb d_X_ring_25 (by decide) ?_
      obtain ⟨q8, hq8, hf⟩ := io_b hf
      refine xcVI (wc := (w_X_refuse cI cJ cC a_h a_h_now a_h_kept a_h_letters a_h_numbers a_h_refusals a_h_mind a_h_parts a_h_past a_h_seating y_h_isKept y_h_numberCount z_h_refusals)) (wc' := (w_X_refuse cI cJ cC a_h a_h_now a_h_kept a_h_letters a_h_numbers a_h_refusals a_h_mind a_h_parts a_h_past a_h_seating y_h_isKept y_h_numberCount q8.2)) (ws' := (w_X_ring cI cJ cC a_h a_h_now a_h_kept a_h_letters a_h_numbers a_h_refusals a_h_mind a_h_parts a_h_past a_h_seating a_h_now_kinds a_h_now_sweets a_h_now_settings a_h_now_heaps a_h_mind_one a_h_mind_two a_h_mind_one_kinds a_h_mind_one_sweets a_h_mind_one_settings a_h_mind_one_heaps a_h_mind_two_kinds a_h_mind_two_sweets a_h_mind_two_settings a_h_mind_two_heaps y_h_isKept y_h_numberCount y_h_mind_seed (r_children z_h_now) (r_strokes z_h_now) (r_gave z_h_now) (r_threw z_h_now) (r_kinds z_h_now) (r_sweets z_h_now) (r_settings z_h_now) q8.2 (r_children z_h_mind_one) (r_strokes z_h_mind_one) (r_gave z_h_mind_one) (r_threw z_h_mind_one) (r_kinds z_h_mind_one) (r_sweets z_h_mind_one) (r_settings z_h_mind_one) (r_heaps z_h_mind_one) (r_children z_h_mind_two) (r_strokes z_h_mind_two) (r_gave z_h_mind_two) (r_threw z_h_mind_two) (r_kinds z_h_mind_two) (r_sweets z_h_mind_two) (r_settings z_h_mind_two) (r_heaps z_h_mind_two))) (As := [.int (-3)]) (rest := []) hx hb hml hown hT (c_X_refuse (z_h_refusals := z_h_refusals) a_h a_h_now a_h_kept a_h_letters a_h_numbers a_h_refusals a_h_mind a_h_parts a_h_past a_h_seating y_h_isKept y_h_numberCount hq8) k_206 k_208 ks_0 k_1 k_209 hd_X_refuse ⟨Nat.le_of_ble_eq_true rfl, Nat.le_of_ble_eq_true rfl⟩ xE0_ok trivial hA hK hP hD hS [0, 5] [1, 2, 3, 4, 6, 7, 8, 9, 10, 11, 12, 13, 14, 15, 16] [15, 0, 1, 2, 3, 16, 4, 5, 6, 7, 8, 9, 10, 11, 12, 13, 14] rfl rfl rfl rfl rfl rfl rfl rfl rfl rfl hl.1 rfl (Nat.le_of_ble_eq_true rfl) ⟨Nat.zero_le _, Nat.zero_le _⟩ d_X_ring_27 (fun H locs hP hD hS => ?_)
      have hq := Option.some.inj hf
      subst hq
      exact hret _ _ _ _ _ d_X_ring_30 rfl rfl hP hD hS
  · have hf := io_t hf c2
    refine lv_aload_n hx hb d_X_ring_7 rfl (lv_at hl 0 rfl) ?_
    refine lv_bipush (v := (-2)) hx hb d_X_ring_8 (by decide) ?_
    obtain ⟨q9, hq9, hf⟩ := io_b hf
    refine xcVI (wc := (w_X_refuse cI cJ cC a_h a_h_now a_h_kept a_h_letters a_h_numbers a_h_refusals a_h_mind a_h_parts a_h_past a_h_seating y_h_isKept y_h_numberCount z_h_refusals)) (wc' := (w_X_refuse cI cJ cC a_h a_h_now a_h_kept a_h_letters a_h_numbers a_h_refusals a_h_mind a_h_parts a_h_past a_h_seating y_h_isKept y_h_numberCount q9.2)) (ws' := (w_X_ring cI cJ cC a_h a_h_now a_h_kept a_h_letters a_h_numbers a_h_refusals a_h_mind a_h_parts a_h_past a_h_seating a_h_now_kinds a_h_now_sweets a_h_now_settings a_h_now_heaps a_h_mind_one a_h_mind_two a_h_mind_one_kinds a_h_mind_one_sweets a_h_mind_one_settings a_h_mind_one_heaps a_h_mind_two_kinds a_h_mind_two_sweets a_h_mind_two_settings a_h_mind_two_heaps y_h_isKept y_h_numberCount y_h_mind_seed (r_children z_h_now) (r_strokes z_h_now) (r_gave z_h_now) (r_threw z_h_now) (r_kinds z_h_now) (r_sweets z_h_now) (r_settings z_h_now) q9.2 (r_children z_h_mind_one) (r_strokes z_h_mind_one) (r_gave z_h_mind_one) (r_threw z_h_mind_one) (r_kinds z_h_mind_one) (r_sweets z_h_mind_one) (r_settings z_h_mind_one) (r_heaps z_h_mind_one) (r_children z_h_mind_two) (r_strokes z_h_mind_two) (r_gave z_h_mind_two) (r_threw z_h_mind_two) (r_kinds z_h_mind_two) (r_sweets z_h_mind_two) (r_settings z_h_mind_two) (r_heaps z_h_mind_two))) (As := [.int (-2)]) (rest := []) hx hb hml hown hT (c_X_refuse (z_h_refusals := z_h_refusals) a_h a_h_now a_h_kept a_h_letters a_h_numbers a_h_refusals a_h_mind a_h_parts a_h_past a_h_seating y_h_isKept y_h_numberCount hq9) k_206 k_208 ks_0 k_1 k_209 hd_X_refuse ⟨Nat.le_of_ble_eq_true rfl, Nat.le_of_ble_eq_true rfl⟩ xE0_ok trivial hA hK hP hD hS [0, 5] [1, 2, 3, 4, 6, 7, 8, 9, 10, 11, 12, 13, 14, 15, 16] [15, 0, 1, 2, 3, 16, 4, 5, 6, 7, 8, 9, 10, 11, 12, 13, 14] rfl rfl rfl rfl rfl rfl rfl rfl rfl rfl hl.1 rfl (Nat.le_of_ble_eq_true rfl) ⟨Nat.zero_le _, Nat.zero_le _⟩ d_X_ring_10 (fun H locs hP hD hS => ?_)
    have hq := Option.some.inj hf
    subst hq
    exact hret _ _ _ _ _ d_X_ring_13 rfl rfl hP hD hS
abbrev w_X_meet (cI cJ cC : ClassId) (a_h a_h_now a_h_kept a_h_letters a_h_numbers a_h_refusals a_h_mind a_h_parts a_h_past a_h_seating a_h_now_kinds a_h_now_sweets a_h_now_settings a_h_now_heaps a_h_mind_one a_h_mind_two a_h_mind_one_kinds a_h_mind_one_sweets a_h_mind_one_settings a_h_mind_one_heaps : Nat) (y_h_isKept : Int32) (y_h_numberCount : Int32) (y_h_mind_seed : Int32) (p_h_now_children : Int32) (p_h_now_strokes : Int32) (p_h_now_gave : Int32) (p_h_now_threw : Int32) (p_h_now_kinds : (Nat → Int32)) (p_h_now_sweets : (Nat → Int32)) (p_h_now_settings : (Nat → Int32)) (p_h_refusals : (Nat → Int32)) (p_h_mind_one_children : Int32) (p_h_mind_one_strokes : Int32) (p_h_mind_one_gave : Int32) (p_h_mind_one_threw : Int32) (p_h_mind_one_kinds : (Nat → Int32)) (p_h_mind_one_sweets : (Nat → Int32)) (p_h_mind_one_settings : (Nat → Int32)) (p_h_mind_one_heaps : (Nat → Int32)) : va_W := [(a_h, .inr (0, [.ref a_h_now, .ref a_h_kept, .int y_h_isKept, .ref a_h_letters, .ref a_h_numbers, .int y_h_numberCount, .ref a_h_refusals, .ref a_h_mind, .ref a_h_parts, .ref a_h_past, .ref a_h_seating])), (a_h_now, .inr (1, [.ref a_h_now_kinds, .ref a_h_now_sweets, .ref a_h_now_settings, .int p_h_now_children, .int p_h_now_strokes, .int p_h_now_gave, .int p_h_now_threw, .ref a_h_now_heaps])), (a_h_now_kinds, .inl (cI, (8, .inl p_h_now_kinds))), (a_h_now_sweets, .inl (cI, (8, .inl p_h_now_sweets))), (a_h_now_settings, .inl (cI, (3, .inl p_h_now_settings))), (a_h_refusals, .inl (cI, (7, .inl p_h_refusals))), (a_h_mind, .inr (3, [.ref a_h_mind_one, .ref a_h_mind_two, .int y_h_mind_seed])), (a_h_mind_one, .inr (1, [.ref a_h_mind_one_kinds, .ref a_h_mind_one_sweets, .ref a_h_mind_one_settings, .int p_h_mind_one_children, .int p_h_mind_one_strokes, .int p_h_mind_one_gave, .int p_h_mind_one_threw, .ref a_h_mind_one_heaps])), (a_h_mind_one_kinds, .inl (cI, (8, .inl p_h_mind_one_kinds))), (a_h_mind_one_sweets, .inl (cI, (8, .inl p_h_mind_one_sweets))), (a_h_mind_one_settings, .inl (cI, (3, .inl p_h_mind_one_settings))), (a_h_mind_one_heaps, .inl (cI, (8, .inl p_h_mind_one_heaps)))]
theorem d_X_meet_0 : decode b_X_meet 0 = .ok (.aload_n 0, 1) := by decide +kernel
theorem d_X_meet_1 : decode b_X_meet 1 = .ok (.iload_n 1, 1) := by decide +kernel
theorem d_X_meet_2 : decode b_X_meet 2 = .ok (.iload_n 2, 1) := by decide +kernel
theorem d_X_meet_3 : decode b_X_meet 3 = .ok (.invokevirtual 113, 3) := by decide +kernel
theorem d_X_meet_6 : decode b_X_meet 6 = .ok (.ifCond .ne 9, 3) := by decide +kernel
theorem d_X_meet_9 : decode b_X_meet 9 = .ok (.aload_n 0, 1) := by decide +kernel
theorem d_X_meet_10 : decode b_X_meet 10 = .ok (.iconst (-1), 1) := by decide +kernel
theorem d_X_meet_11 : decode b_X_meet 11 = .ok (.invokevirtual 69, 3) := by decide +kernel
theorem d_X_meet_14 : decode b_X_meet 14 = .ok (.ireturn, 1) := by decide +kernel
theorem d_X_meet_15 : decode b_X_meet 15 = .ok (.aload_n 0, 1) := by decide +kernel
theorem d_X_meet_16 : decode b_X_meet 16 = .ok (.getfield 44, 3) := by decide +kernel
theorem d_X_meet_19 : decode b_X_meet 19 = .ok (.aload_n 0, 1) := by decide +kernel
theorem d_X_meet_20 : decode b_X_meet 20 = .ok (.getfield 10, 3) := by decide +kernel
theorem d_X_meet_23 : decode b_X_meet 23 = .ok (.iload_n 1, 1) := by decide +kernel
theorem d_X_meet_24 : decode b_X_meet 24 = .ok (.iload_n 2, 1) := by decide +kernel
theorem d_X_meet_25 : decode b_X_meet 25 = .ok (.invokevirtual 154, 3) := by decide +kernel
theorem d_X_meet_28 : decode b_X_meet 28 = .ok (.ireturn, 1) := by decide +kernel
set_option maxHeartbeats 4000000 in
set_option maxRecDepth 100000 in
theorem c_X_meet {l : Launch} {D : va_G} {cI cJ cC : ClassId} (a_h a_h_now a_h_kept a_h_letters a_h_numbers a_h_refusals a_h_mind a_h_parts a_h_past a_h_seating a_h_now_kinds a_h_now_sweets a_h_now_settings a_h_now_heaps a_h_mind_one a_h_mind_two a_h_mind_one_kinds a_h_mind_one_sweets a_h_mind_one_settings a_h_mind_one_heaps : Nat) (y_h_isKept : Int32) (y_h_numberCount : Int32) (y_h_mind_seed : Int32) {z_h_now : RS} {z_h_refusals : (Nat → Int32)} {z_h_mind_one : RS} {x1 : Int32} {x2 : Int32} {q : Int32 × (Nat → Int32) × RS} (hf : f_X_meet z_h_now z_h_refusals z_h_mind_one x1 x2 = some q) : xI l y_X_meet b_X_meet 3 .int 5 113 D (tyK cI cJ cC) xE0 [.ref a_h, .int x1, .int x2] (w_X_meet cI cJ cC a_h a_h_now a_h_kept a_h_letters a_h_numbers a_h_refusals a_h_mind a_h_parts a_h_past a_h_seating a_h_now_kinds a_h_now_sweets a_h_now_settings a_h_now_heaps a_h_mind_one a_h_mind_two a_h_mind_one_kinds a_h_mind_one_sweets a_h_mind_one_settings a_h_mind_one_heaps y_h_isKept y_h_numberCount y_h_mind_seed (r_children z_h_now) (r_strokes z_h_now) (r_gave z_h_now) (r_threw z_h_now) (r_kinds z_h_now) (r_sweets z_h_now) (r_settings z_h_now) z_h_refusals (r_children z_h_mind_one) (r_strokes z_h_mind_one) (r_gave z_h_mind_one) (r_threw z_h_mind_one) (r_kinds z_h_mind_one) (r_sweets z_h_mind_one) (r_settings z_h_mind_one) (r_heaps z_h_mind_one)) q.1 (w_X_meet cI cJ cC a_h a_h_now a_h_kept a_h_letters a_h_numbers a_h_refusals a_h_mind a_h_parts a_h_past a_h_seating a_h_now_kinds a_h_now_sweets a_h_now_settings a_h_now_heaps a_h_mind_one a_h_mind_two a_h_mind_one_kinds a_h_mind_one_sweets a_h_mind_one_settings a_h_mind_one_heaps y_h_isKept y_h_numberCount y_h_mind_seed (r_children z_h_now) (r_strokes z_h_now) (r_gave z_h_now) (r_threw z_h_now) (r_kinds z_h_now) (r_sweets z_h_now) (r_settings z_h_now) q.2.1 (r_children q.2.2) (r_strokes q.2.2) (r_gave q.2.2) (r_threw q.2.2) (r_kinds q.2.2) (r_sweets q.2.2) (r_settings q.2.2) (r_heaps q.2.2)) := by
  refine xI_of (by decide) (Nat.le_of_ble_eq_true rfl) ?_
  intro p e s m args below meth c A Q hx hb hml hown hT hA hP hD hK hS hE hret ls hl
  have hown : s.vm.findClass R_X = some m.cls := hown
  have hl : lv_has ls 3 [(0, .ref a_h), (1, .int x1), (2, .int x2)] := hl
  unfold f_X_meet at hf
  refine lv_aload_n hx hb d_X_meet_0 rfl (lv_at hl 0 rfl) ?_
  refine lv_iload_n hx hb d_X_meet_1 rfl (lv_at hl 1 rfl) ?_
  refine lv_iload_n hx hb d_X_meet_2 rfl (lv_at hl 2 rfl) ?_
  obtain ⟨q1, hq1, hf⟩ := io_b hf
  refine xcVI (wc := (w_X_areTwo cI cJ cC a_h a_h_now a_h_kept a_h_letters a_h_numbers a_h_refusals a_h_mind a_h_parts a_h_past a_h_seating a_h_now_kinds a_h_now_sweets a_h_now_settings a_h_now_heaps y_h_isKept y_h_numberCount (r_children z_h_now) (r_strokes z_h_now) (r_gave z_h_now) (r_threw z_h_now))) (wc' := (w_X_areTwo cI cJ cC a_h a_h_now a_h_kept a_h_letters a_h_numbers a_h_refusals a_h_mind a_h_parts a_h_past a_h_seating a_h_now_kinds a_h_now_sweets a_h_now_settings a_h_now_heaps y_h_isKept y_h_numberCount (r_children z_h_now) (r_strokes z_h_now) (r_gave z_h_now) (r_threw z_h_now))) (ws' := (w_X_meet cI cJ cC a_h a_h_now a_h_kept a_h_letters a_h_numbers a_h_refusals a_h_mind a_h_parts a_h_past a_h_seating a_h_now_kinds a_h_now_sweets a_h_now_settings a_h_now_heaps a_h_mind_one a_h_mind_two a_h_mind_one_kinds a_h_mind_one_sweets a_h_mind_one_settings a_h_mind_one_heaps y_h_isKept y_h_numberCount y_h_mind_seed (r_children z_h_now) (r_strokes z_h_now) (r_gave z_h_now) (r_threw z_h_now) (r_kinds z_h_now) (r_sweets z_h_now) (r_settings z_h_now) z_h_refusals (r_children z_h_mind_one) (r_strokes z_h_mind_one) (r_gave z_h_mind_one) (r_threw z_h_mind_one) (r_kinds z_h_mind_one) (r_sweets z_h_mind_one) (r_settings z_h_mind_one) (r_heaps z_h_mind_one))) (As := [.int x1, .int x2]) (rest := []) hx hb hml hown hT (c_X_areTwo (z_h_now := z_h_now) a_h a_h_now a_h_kept a_h_letters a_h_numbers a_h_refusals a_h_mind a_h_parts a_h_past a_h_seating a_h_now_kinds a_h_now_sweets a_h_now_settings a_h_now_heaps y_h_isKept y_h_numberCount hq1) k_400 k_402 ks_6 k_1 k_403 hd_X_areTwo ⟨Nat.le_of_ble_eq_true rfl, Nat.le_of_ble_eq_true rfl⟩ xE0_ok trivial hA hK hP hD hS [0, 1] [2, 3, 4, 5, 6, 7, 8, 9, 10, 11] [10, 11, 0, 1, 2, 3, 4, 5, 6, 7, 8, 9] rfl rfl rfl rfl rfl rfl rfl rfl rfl rfl hl.1 rfl (Nat.le_of_ble_eq_true rfl) ⟨Nat.zero_le _, Nat.zero_le _⟩ d_X_meet_3 (fun H locs hP hD hS => ?_)
  refine lv_if_ne (tgt := 15) hx hb d_X_meet_6 (by decide) (fun c2 => ?_) (fun c2 => ?_)
  · have hf := io_f hf c2
    refine lv_aload_n hx hb d_X_meet_15 rfl (lv_at hl 0 rfl) ?_
    refine va_get hx hb hT i_X hown hK hP 0 rfl rfl 7 (Nat.le_of_ble_eq_true rfl) (hT _ k_175) (fun _ h => h) rfl d_X_meet_16 ?_
    refine lv_aload_n hx hb d_X_meet_19 rfl (lv_at hl 0 rfl) ?_
    refine va_get hx hb hT i_X hown hK hP 0 rfl rfl 0 (Nat.le_of_ble_eq_true rfl) (hT _ k_168) (fun _ h => h) rfl d_X_meet_20 ?_
    refine lv_iload_n hx hb d_X_meet_23 rfl (lv_at hl 1 rfl) ?_
    refine lv_iload_n hx hb d_X_meet_24 rfl (lv_at hl 2 rfl) ?_
    obtain ⟨q3, hq3, hf⟩ := io_b hf
    refine xcVI (wc := (w_Mind_meetBehind cI cJ cC a_h_mind a_h_mind_one a_h_mind_two a_h_mind_one_kinds a_h_mind_one_sweets a_h_mind_one_settings a_h_mind_one_heaps a_h_now a_h_now_kinds a_h_now_sweets a_h_now_settings a_h_now_heaps y_h_mind_seed (r_children z_h_mind_one) (r_strokes z_h_mind_one) (r_gave z_h_mind_one) (r_threw z_h_mind_one) (r_kinds z_h_mind_one) (r_sweets z_h_mind_one) (r_settings z_h_mind_one) (r_heaps z_h_mind_one) (r_children z_h_now) (r_strokes z_h_now) (r_gave z_h_now) (r_threw z_h_now) (r_kinds z_h_now) (r_sweets z_h_now) (r_settings z_h_now))) (wc' := (w_Mind_meetBehind cI cJ cC a_h_mind a_h_mind_one a_h_mind_two a_h_mind_one_kinds a_h_mind_one_sweets a_h_mind_one_settings a_h_mind_one_heaps a_h_now a_h_now_kinds a_h_now_sweets a_h_now_settings a_h_now_heaps y_h_mind_seed (r_children q3.2) (r_strokes q3.2) (r_gave q3.2) (r_threw q3.2) (r_kinds q3.2) (r_sweets q3.2) (r_settings q3.2) (r_heaps q3.2) (r_children z_h_now) (r_strokes z_h_now) (r_gave z_h_now) (r_threw z_h_now) (r_kinds z_h_now) (r_sweets z_h_now) (r_settings z_h_now))) (ws' := (w_X_meet cI cJ cC a_h a_h_now a_h_kept a_h_letters a_h_numbers a_h_refusals a_h_mind a_h_parts a_h_past a_h_seating a_h_now_kinds a_h_now_sweets a_h_now_settings a_h_now_heaps a_h_mind_one a_h_mind_two a_h_mind_one_kinds a_h_mind_one_sweets a_h_mind_one_settings a_h_mind_one_heaps y_h_isKept y_h_numberCount y_h_mind_seed (r_children z_h_now) (r_strokes z_h_now) (r_gave z_h_now) (r_threw z_h_now) (r_kinds z_h_now) (r_sweets z_h_now) (r_settings z_h_now) z_h_refusals (r_children q3.2) (r_strokes q3.2) (r_gave q3.2) (r_threw q3.2) (r_kinds q3.2) (r_sweets q3.2) (r_settings q3.2) (r_heaps q3.2))) (As := [.ref a_h_now, .int x1, .int x2]) (rest := []) hx hb hml hown hT (c_Mind_meetBehind (z_h_one := z_h_mind_one) (z_g1 := z_h_now) a_h_mind a_h_mind_one a_h_mind_two a_h_mind_one_kinds a_h_mind_one_sweets a_h_mind_one_settings a_h_mind_one_heaps a_h_now a_h_now_kinds a_h_now_sweets a_h_now_settings a_h_now_heaps y_h_mind_seed hq3) k_511 k_512 k_513 k_4 k_514 hd_Mind_meetBehind ⟨Nat.le_of_ble_eq_true rfl, Nat.le_of_ble_eq_true rfl⟩ xE0_ok trivial hA hK hP hD hS [6, 7, 8, 9, 10, 11, 1, 2, 3, 4] [0, 5] [0, 8, 9, 10, 11, 1, 2, 3, 4, 5, 6, 7] rfl rfl rfl rfl rfl rfl rfl rfl rfl rfl hl.1 rfl (Nat.le_of_ble_eq_true rfl) ⟨Nat.zero_le _, Nat.zero_le _⟩ d_X_meet_25 (fun H locs hP hD hS => ?_)
    have hq := Option.some.inj hf
    subst hq
    exact hret _ _ _ _ _ d_X_meet_28 rfl rfl hP hD hS
  · have hf := io_t hf c2
    refine lv_aload_n hx hb d_X_meet_9 rfl (lv_at hl 0 rfl) ?_
    refine lv_iconst (v := (-1)) hx hb d_X_meet_10 (by decide) ?_
    obtain ⟨q4, hq4, hf⟩ := io_b hf
    refine xcVI (wc := (w_X_refuse cI cJ cC a_h a_h_now a_h_kept a_h_letters a_h_numbers a_h_refusals a_h_mind a_h_parts a_h_past a_h_seating y_h_isKept y_h_numberCount z_h_refusals)) (wc' := (w_X_refuse cI cJ cC a_h a_h_now a_h_kept a_h_letters a_h_numbers a_h_refusals a_h_mind a_h_parts a_h_past a_h_seating y_h_isKept y_h_numberCount q4.2)) (ws' := (w_X_meet cI cJ cC a_h a_h_now a_h_kept a_h_letters a_h_numbers a_h_refusals a_h_mind a_h_parts a_h_past a_h_seating a_h_now_kinds a_h_now_sweets a_h_now_settings a_h_now_heaps a_h_mind_one a_h_mind_two a_h_mind_one_kinds a_h_mind_one_sweets a_h_mind_one_settings a_h_mind_one_heaps y_h_isKept y_h_numberCount y_h_mind_seed (r_children z_h_now) (r_strokes z_h_now) (r_gave z_h_now) (r_threw z_h_now) (r_kinds z_h_now) (r_sweets z_h_now) (r_settings z_h_now) q4.2 (r_children z_h_mind_one) (r_strokes z_h_mind_one) (r_gave z_h_mind_one) (r_threw z_h_mind_one) (r_kinds z_h_mind_one) (r_sweets z_h_mind_one) (r_settings z_h_mind_one) (r_heaps z_h_mind_one))) (As := [.int (-1)]) (rest := []) hx hb hml hown hT (c_X_refuse (z_h_refusals := z_h_refusals) a_h a_h_now a_h_kept a_h_letters a_h_numbers a_h_refusals a_h_mind a_h_parts a_h_past a_h_seating y_h_isKept y_h_numberCount hq4) k_206 k_208 ks_0 k_1 k_209 hd_X_refuse ⟨Nat.le_of_ble_eq_true rfl, Nat.le_of_ble_eq_true rfl⟩ xE0_ok trivial hA hK hP hD hS [0, 5] [1, 2, 3, 4, 6, 7, 8, 9, 10, 11] [10, 0, 1, 2, 3, 11, 4, 5, 6, 7, 8, 9] rfl rfl rfl rfl rfl rfl rfl rfl rfl rfl hl.1 rfl (Nat.le_of_ble_eq_true rfl) ⟨Nat.zero_le _, Nat.zero_le _⟩ d_X_meet_11 (fun H locs hP hD hS => ?_)
    have hq := Option.some.inj hf
    subst hq
    exact hret _ _ _ _ _ d_X_meet_14 rfl rfl hP hD hS
abbrev w_X_crumbs (cI cJ cC : ClassId) (a_h a_h_now a_h_kept a_h_letters a_h_numbers a_h_refusals a_h_mind a_h_parts a_h_past a_h_seating a_h_now_kinds a_h_now_sweets a_h_now_settings a_h_now_heaps a_h_parts_have a_h_parts_next : Nat) (y_h_isKept : Int32) (y_h_numberCount : Int32) (p_h_now_children : Int32) (p_h_now_strokes : Int32) (p_h_now_gave : Int32) (p_h_now_threw : Int32) (p_h_now_sweets : (Nat → Int32)) (p_h_now_settings : (Nat → Int32)) (p_h_refusals : (Nat → Int32)) (p_h_parts_doublings : Int32) (p_h_parts_have : (Nat → Int64)) (p_h_parts_next : (Nat → Int64)) : va_W := [(a_h, .inr (0, [.ref a_h_now, .ref a_h_kept, .int y_h_isKept, .ref a_h_letters, .ref a_h_numbers, .int y_h_numberCount, .ref a_h_refusals, .ref a_h_mind, .ref a_h_parts, .ref a_h_past, .ref a_h_seating])), (a_h_now, .inr (1, [.ref a_h_now_kinds, .ref a_h_now_sweets, .ref a_h_now_settings, .int p_h_now_children, .int p_h_now_strokes, .int p_h_now_gave, .int p_h_now_threw, .ref a_h_now_heaps])), (a_h_now_sweets, .inl (cI, (8, .inl p_h_now_sweets))), (a_h_now_settings, .inl (cI, (3, .inl p_h_now_settings))), (a_h_refusals, .inl (cI, (7, .inl p_h_refusals))), (a_h_parts, .inr (4, [.ref a_h_parts_have, .ref a_h_parts_next, .int p_h_parts_doublings])), (a_h_parts_have, .inl (cJ, (8, .inr (.inl p_h_parts_have)))), (a_h_parts_next, .inl (cJ, (8, .inr (.inl p_h_parts_next))))]
theorem d_X_crumbs_0 : decode b_X_crumbs 0 = .ok (.iload_n 2, 1) := by decide +kernel
theorem d_X_crumbs_1 : decode b_X_crumbs 1 = .ok (.iconst 0, 1) := by decide +kernel
theorem d_X_crumbs_2 : decode b_X_crumbs 2 = .ok (.bipush 20, 2) := by decide +kernel
theorem d_X_crumbs_4 : decode b_X_crumbs 4 = .ok (.invokestatic 100, 3) := by decide +kernel
theorem d_X_crumbs_7 : decode b_X_crumbs 7 = .ok (.istore 4, 2) := by decide +kernel
theorem d_X_crumbs_9 : decode b_X_crumbs 9 = .ok (.aload_n 0, 1) := by decide +kernel
theorem d_X_crumbs_10 : decode b_X_crumbs 10 = .ok (.getfield 10, 3) := by decide +kernel
theorem d_X_crumbs_13 : decode b_X_crumbs 13 = .ok (.iload_n 1, 1) := by decide +kernel
theorem d_X_crumbs_14 : decode b_X_crumbs 14 = .ok (.invokevirtual 84, 3) := by decide +kernel
theorem d_X_crumbs_17 : decode b_X_crumbs 17 = .ok (.ifCond .ne 9, 3) := by decide +kernel
theorem d_X_crumbs_20 : decode b_X_crumbs 20 = .ok (.iconst (-1), 1) := by decide +kernel
theorem d_X_crumbs_21 : decode b_X_crumbs 21 = .ok (.istore 4, 2) := by decide +kernel
theorem d_X_crumbs_23 : decode b_X_crumbs 23 = .ok (.goto 14, 3) := by decide +kernel
theorem d_X_crumbs_26 : decode b_X_crumbs 26 = .ok (.iload_n 3, 1) := by decide +kernel
theorem d_X_crumbs_27 : decode b_X_crumbs 27 = .ok (.invokestatic 132, 3) := by decide +kernel
theorem d_X_crumbs_30 : decode b_X_crumbs 30 = .ok (.ifCond .ne 7, 3) := by decide +kernel
theorem d_X_crumbs_33 : decode b_X_crumbs 33 = .ok (.bipush (-2), 2) := by decide +kernel
theorem d_X_crumbs_35 : decode b_X_crumbs 35 = .ok (.istore 4, 2) := by decide +kernel
theorem d_X_crumbs_37 : decode b_X_crumbs 37 = .ok (.iload 4, 2) := by decide +kernel
theorem d_X_crumbs_39 : decode b_X_crumbs 39 = .ok (.ifCond .eq 15, 3) := by decide +kernel
theorem d_X_crumbs_42 : decode b_X_crumbs 42 = .ok (.ldc2_w 157, 3) := by decide +kernel
theorem d_X_crumbs_45 : decode b_X_crumbs 45 = .ok (.aload_n 0, 1) := by decide +kernel
theorem d_X_crumbs_46 : decode b_X_crumbs 46 = .ok (.iload 4, 2) := by decide +kernel
theorem d_X_crumbs_48 : decode b_X_crumbs 48 = .ok (.invokevirtual 69, 3) := by decide +kernel
theorem d_X_crumbs_51 : decode b_X_crumbs 51 = .ok (.i2l, 1) := by decide +kernel
theorem d_X_crumbs_52 : decode b_X_crumbs 52 = .ok (.lsub, 1) := by decide +kernel
theorem d_X_crumbs_53 : decode b_X_crumbs 53 = .ok (.lreturn, 1) := by decide +kernel
theorem d_X_crumbs_54 : decode b_X_crumbs 54 = .ok (.aload_n 0, 1) := by decide +kernel
theorem d_X_crumbs_55 : decode b_X_crumbs 55 = .ok (.getfield 51, 3) := by decide +kernel
theorem d_X_crumbs_58 : decode b_X_crumbs 58 = .ok (.aload_n 0, 1) := by decide +kernel
theorem d_X_crumbs_59 : decode b_X_crumbs 59 = .ok (.getfield 10, 3) := by decide +kernel
theorem d_X_crumbs_62 : decode b_X_crumbs 62 = .ok (.iload_n 2, 1) := by decide +kernel
theorem d_X_crumbs_63 : decode b_X_crumbs 63 = .ok (.invokevirtual 159, 3) := by decide +kernel
theorem d_X_crumbs_66 : decode b_X_crumbs 66 = .ok (.iload_n 3, 1) := by decide +kernel
theorem d_X_crumbs_67 : decode b_X_crumbs 67 = .ok (.ifCond .ne 14, 3) := by decide +kernel
theorem d_X_crumbs_70 : decode b_X_crumbs 70 = .ok (.aload_n 0, 1) := by decide +kernel
theorem d_X_crumbs_71 : decode b_X_crumbs 71 = .ok (.getfield 51, 3) := by decide +kernel
theorem d_X_crumbs_74 : decode b_X_crumbs 74 = .ok (.iload_n 1, 1) := by decide +kernel
theorem d_X_crumbs_75 : decode b_X_crumbs 75 = .ok (.invokevirtual 163, 3) := by decide +kernel
theorem d_X_crumbs_78 : decode b_X_crumbs 78 = .ok (.goto 11, 3) := by decide +kernel
theorem d_X_crumbs_81 : decode b_X_crumbs 81 = .ok (.aload_n 0, 1) := by decide +kernel
theorem d_X_crumbs_82 : decode b_X_crumbs 82 = .ok (.getfield 51, 3) := by decide +kernel
theorem d_X_crumbs_85 : decode b_X_crumbs 85 = .ok (.iload_n 1, 1) := by decide +kernel
theorem d_X_crumbs_86 : decode b_X_crumbs 86 = .ok (.invokevirtual 167, 3) := by decide +kernel
theorem d_X_crumbs_89 : decode b_X_crumbs 89 = .ok (.lreturn, 1) := by decide +kernel
set_option maxHeartbeats 4000000 in
set_option maxRecDepth 100000 in
theorem c_X_crumbs {l : Launch} {D : va_G} {cI cJ cC : ClassId} (a_h a_h_now a_h_kept a_h_letters a_h_numbers a_h_refusals a_h_mind a_h_parts a_h_past a_h_seating a_h_now_kinds a_h_now_sweets a_h_now_settings a_h_now_heaps a_h_parts_have a_h_parts_next : Nat) (y_h_isKept : Int32) (y_h_numberCount : Int32) {z_h_now : RS} {z_h_refusals : (Nat → Int32)} {z_h_parts_doublings : Int32} {z_h_parts_have : (Nat → Int64)} {z_h_parts_next : (Nat → Int64)} {x1 : Int32} {x2 : Int32} {x3 : Int32} {q : Int64 × (Nat → Int32) × Int32 × (Nat → Int64) × (Nat → Int64)} (hf : f_X_crumbs z_h_now z_h_refusals z_h_parts_doublings z_h_parts_have z_h_parts_next x1 x2 x3 = some q) : xL l y_X_crumbs b_X_crumbs 5 .long 3 85 D (tyK cI cJ cC) xE0 [.ref a_h, .int x1, .int x2, .int x3] (w_X_crumbs cI cJ cC a_h a_h_now a_h_kept a_h_letters a_h_numbers a_h_refusals a_h_mind a_h_parts a_h_past a_h_seating a_h_now_kinds a_h_now_sweets a_h_now_settings a_h_now_heaps a_h_parts_have a_h_parts_next y_h_isKept y_h_numberCount (r_children z_h_now) (r_strokes z_h_now) (r_gave z_h_now) (r_threw z_h_now) (r_sweets z_h_now) (r_settings z_h_now) z_h_refusals z_h_parts_doublings z_h_parts_have z_h_parts_next) q.1 (w_X_crumbs cI cJ cC a_h a_h_now a_h_kept a_h_letters a_h_numbers a_h_refusals a_h_mind a_h_parts a_h_past a_h_seating a_h_now_kinds a_h_now_sweets a_h_now_settings a_h_now_heaps a_h_parts_have a_h_parts_next y_h_isKept y_h_numberCount (r_children z_h_now) (r_strokes z_h_now) (r_gave z_h_now) (r_threw z_h_now) (r_sweets z_h_now) (r_settings z_h_now) q.2.1 q.2.2.1 q.2.2.2.1 q.2.2.2.2) := by
  refine xL_of (by decide) (Nat.le_of_ble_eq_true rfl) ?_
  intro p e s m args below meth c A Q hx hb hml hown hT hA hP hD hK hS hE hret ls hl
  have hown : s.vm.findClass R_X = some m.cls := hown
  have hl : lv_has ls 5 [(0, .ref a_h), (1, .int x1), (2, .int x2), (3, .int x3)] := hl
  unfold f_X_crumbs at hf
  refine lv_iload_n hx hb d_X_crumbs_0 rfl (lv_at hl 2 rfl) ?_
  refine lv_iconst (v := 0) hx hb d_X_crumbs_1 (by decide) ?_
  refine lv_bipush (v := 20) hx hb d_X_crumbs_2 (by decide) ?_
  obtain ⟨q1, hq1, hf⟩ := io_b hf
  refine xcSI (wc := []) (wc' := []) (ws' := (w_X_crumbs cI cJ cC a_h a_h_now a_h_kept a_h_letters a_h_numbers a_h_refusals a_h_mind a_h_parts a_h_past a_h_seating a_h_now_kinds a_h_now_sweets a_h_now_settings a_h_now_heaps a_h_parts_have a_h_parts_next y_h_isKept y_h_numberCount (r_children z_h_now) (r_strokes z_h_now) (r_gave z_h_now) (r_threw z_h_now) (r_sweets z_h_now) (r_settings z_h_now) z_h_refusals z_h_parts_doublings z_h_parts_have z_h_parts_next)) (As := [.int x2, .int 0, .int 20]) (rest := []) hx hb hml hown hT (c_X_outside hq1) k_385 k_357 k_1 k_358 hd_X_outside ⟨Nat.le_of_ble_eq_true rfl, Nat.le_of_ble_eq_true rfl⟩ xE0_ok trivial hA hK hP hD hS [] [0, 1, 2, 3, 4, 5, 6, 7] [0, 1, 2, 3, 4, 5, 6, 7] rfl rfl rfl rfl rfl rfl rfl hl.1 rfl (Nat.le_of_ble_eq_true rfl) ⟨Nat.zero_le _, Nat.zero_le _⟩ d_X_crumbs_4 (fun H locs hP hD hS => ?_)
  refine lv_istore (lv' := [(4, .int q1), (0, .ref a_h), (1, .int x1), (2, .int x2), (3, .int x3)]) hx hb d_X_crumbs_7 hl (by decide) rfl (fun ls hl => ?_)
  refine lv_aload_n hx hb d_X_crumbs_9 rfl (lv_at hl 1 rfl) ?_
  refine va_get hx hb hT i_X hown hK hP 0 rfl rfl 0 (Nat.le_of_ble_eq_true rfl) (hT _ k_168) (fun _ h => h) rfl d_X_crumbs_10 ?_
  refine lv_iload_n hx hb d_X_crumbs_13 rfl (lv_at hl 2 rfl) ?_
  obtain ⟨q2, hq2, hf⟩ := io_b hf
  refine xcVI (wc := (w_Ring_has cI cJ cC a_h_now a_h_now_kinds a_h_now_sweets a_h_now_settings a_h_now_heaps (r_children z_h_now) (r_strokes z_h_now) (r_gave z_h_now) (r_threw z_h_now))) (wc' := (w_Ring_has cI cJ cC a_h_now a_h_now_kinds a_h_now_sweets a_h_now_settings a_h_now_heaps (r_children z_h_now) (r_strokes z_h_now) (r_gave z_h_now) (r_threw z_h_now))) (ws' := (w_X_crumbs cI cJ cC a_h a_h_now a_h_kept a_h_letters a_h_numbers a_h_refusals a_h_mind a_h_parts a_h_past a_h_seating a_h_now_kinds a_h_now_sweets a_h_now_settings a_h_now_heaps a_h_parts_have a_h_parts_next y_h_isKept y_h_numberCount (r_children z_h_now) (r_strokes z_h_now) (r_gave z_h_now) (r_threw z_h_now) (r_sweets z_h_now) (r_settings z_h_now) z_h_refusals z_h_parts_doublings z_h_parts_have z_h_parts_next)) (As := [.int x1]) (rest := []) hx hb hml hown hT (c_Ring_has (z_h := z_h_now) a_h_now a_h_now_kinds a_h_now_sweets a_h_now_settings a_h_now_heaps hq2) k_364 k_365 k_366 k_2 k_367 hd_Ring_has ⟨Nat.le_of_ble_eq_true rfl, Nat.le_of_ble_eq_true rfl⟩ xE0_ok trivial hA hK hP hD hS [1] [0, 2, 3, 4, 5, 6, 7] [0, 7, 1, 2, 3, 4, 5, 6] rfl rfl rfl rfl rfl rfl rfl rfl rfl rfl hl.1 rfl (Nat.le_of_ble_eq_true rfl) ⟨Nat.zero_le _, Nat.zero_le _⟩ d_X_crumbs_14 (fun H locs hP hD hS => ?_)
  refine lv_if_ne (tgt := 26) hx hb d_X_crumbs_17 (by decide) (fun c3 => ?_) (fun c3 => ?_)
  · have hf := io_f hf c3
    refine lv_iload_n hx hb d_X_crumbs_26 rfl (lv_at hl 4 rfl) ?_
    obtain ⟨q4, hq4, hf⟩ := io_b hf
    refine xcSI (wc := []) (wc' := []) (ws' := (w_X_crumbs cI cJ cC a_h a_h_now a_h_kept a_h_letters a_h_numbers a_h_refusals a_h_mind a_h_parts a_h_past a_h_seating a_h_now_kinds a_h_now_sweets a_h_now_settings a_h_now_heaps a_h_parts_have a_h_parts_next y_h_isKept y_h_numberCount (r_children z_h_now) (r_strokes z_h_now) (r_gave z_h_now) (r_threw z_h_now) (r_sweets z_h_now) (r_settings z_h_now) z_h_refusals z_h_parts_doublings z_h_parts_have z_h_parts_next)) (As := [.int x3]) (rest := []) hx hb hml hown hT (c_X_isPart hq4) k_451 k_452 k_1 k_453 hd_X_isPart ⟨Nat.le_of_ble_eq_true rfl, Nat.le_of_ble_eq_true rfl⟩ xE0_ok trivial hA hK hP hD hS [] [0, 1, 2, 3, 4, 5, 6, 7] [0, 1, 2, 3, 4, 5, 6, 7] rfl rfl rfl rfl rfl rfl rfl hl.1 rfl (Nat.le_of_ble_eq_true rfl) ⟨Nat.zero_le _, Nat.zero_le _⟩ d_X_crumbs_27 (fun H locs hP hD hS => ?_)
    refine lv_if_ne (tgt := 37) hx hb d_X_crumbs_30 (by decide) (fun c5 => ?_) (fun c5 => ?_)
    · have hf := io_f hf c5
      refine lv_iload hx hb d_X_crumbs_37 (lv_at hl 0 rfl) ?_
      refine lv_if_eq (tgt := 54) hx hb d_X_crumbs_39 (by decide) (fun c6 => ?_) (fun c6 => ?_)
      · have hf := io_t hf c6
        refine lv_aload_n hx hb d_X_crumbs_54 rfl (lv_at hl 1 rfl) ?_
        refine va_get hx hb hT i_X hown hK hP 0 rfl rfl 8 (Nat.le_of_ble_eq_true rfl) (hT _ k_176) (fun _ h => h) rfl d_X_crumbs_55 ?_
        refine lv_aload_n hx hb d_X_crumbs_58 rfl (lv_at hl 1 rfl) ?_
        refine va_get hx hb hT i_X hown hK hP 0 rfl rfl 0 (Nat.le_of_ble_eq_true rfl) (hT _ k_168) (fun _ h => h) rfl d_X_crumbs_59 ?_
        refine lv_iload_n hx hb d_X_crumbs_62 rfl (lv_at hl 3 rfl) ?_
        obtain ⟨q7, hq7, hf⟩ := io_b hf
        refine xcVV (wc := (w_Crumbs_take cI cJ cC a_h_parts a_h_parts_have a_h_parts_next a_h_now a_h_now_kinds a_h_now_sweets a_h_now_settings a_h_now_heaps z_h_parts_doublings z_h_parts_have z_h_parts_next (r_children z_h_now) (r_strokes z_h_now) (r_gave z_h_now) (r_threw z_h_now) (r_sweets z_h_now) (r_settings z_h_now))) (wc' := (w_Crumbs_take cI cJ cC a_h_parts a_h_parts_have a_h_parts_next a_h_now a_h_now_kinds a_h_now_sweets a_h_now_settings a_h_now_heaps q7.1 q7.2.1 q7.2.2 (r_children z_h_now) (r_strokes z_h_now) (r_gave z_h_now) (r_threw z_h_now) (r_sweets z_h_now) (r_settings z_h_now))) (ws' := (w_X_crumbs cI cJ cC a_h a_h_now a_h_kept a_h_letters a_h_numbers a_h_refusals a_h_mind a_h_parts a_h_past a_h_seating a_h_now_kinds a_h_now_sweets a_h_now_settings a_h_now_heaps a_h_parts_have a_h_parts_next y_h_isKept y_h_numberCount (r_children z_h_now) (r_strokes z_h_now) (r_gave z_h_now) (r_threw z_h_now) (r_sweets z_h_now) (r_settings z_h_now) z_h_refusals q7.1 q7.2.1 q7.2.2)) (As := [.ref a_h_now, .int x2]) (rest := []) hx hb hml hown hT (c_Crumbs_take (z_h_doublings := z_h_parts_doublings) (z_h_have := z_h_parts_have) (z_h_next := z_h_parts_next) (z_g1 := z_h_now) a_h_parts a_h_parts_have a_h_parts_next a_h_now a_h_now_kinds a_h_now_sweets a_h_now_settings a_h_now_heaps hq7) k_520 k_521 k_522 k_5 k_523 hd_Crumbs_take ⟨Nat.le_of_ble_eq_true rfl, Nat.le_of_ble_eq_true rfl⟩ xE0_ok trivial hA hK hP hD hS [5, 6, 7, 1, 2, 3] [0, 4] [0, 5, 6, 7, 1, 2, 3, 4] rfl rfl rfl rfl rfl rfl rfl rfl rfl rfl hl.1 rfl (Nat.le_of_ble_eq_true rfl) ⟨Nat.zero_le _, Nat.zero_le _⟩ d_X_crumbs_63 (fun H locs hP hD hS => ?_)
        refine lv_iload_n hx hb d_X_crumbs_66 rfl (lv_at hl 4 rfl) ?_
        refine lv_if_ne (tgt := 81) hx hb d_X_crumbs_67 (by decide) (fun c8 => ?_) (fun c8 => ?_)
        · have hf := io_f hf c8
          refine lv_aload_n hx hb d_X_crumbs_81 rfl (lv_at hl 1 rfl) ?_
          refine va_get hx hb hT i_X hown hK hP 0 rfl rfl 8 (Nat.le_of_ble_eq_true rfl) (hT _ k_176) (fun _ h => h) rfl d_X_crumbs_82 ?_
          refine lv_iload_n hx hb d_X_crumbs_85 rfl (lv_at hl 2 rfl) ?_
          obtain ⟨q9, hq9, hf⟩ := io_b hf
          refine xcVL (wc := (w_Crumbs_below cI cJ cC a_h_parts a_h_parts_have a_h_parts_next q7.1 q7.2.1)) (wc' := (w_Crumbs_below cI cJ cC a_h_parts a_h_parts_have a_h_parts_next q7.1 q7.2.1)) (ws' := (w_X_crumbs cI cJ cC a_h a_h_now a_h_kept a_h_letters a_h_numbers a_h_refusals a_h_mind a_h_parts a_h_past a_h_seating a_h_now_kinds a_h_now_sweets a_h_now_settings a_h_now_heaps a_h_parts_have a_h_parts_next y_h_isKept y_h_numberCount (r_children z_h_now) (r_strokes z_h_now) (r_gave z_h_now) (r_threw z_h_now) (r_sweets z_h_now) (r_settings z_h_now) z_h_refusals q7.1 q7.2.1 q7.2.2)) (As := [.int x1]) (rest := []) hx hb hml hown hT (c_Crumbs_below (z_h_doublings := q7.1) (z_h_have := q7.2.1) a_h_parts a_h_parts_have a_h_parts_next hq9) k_543 k_544 k_545 k_5 k_546 hd_Crumbs_below ⟨Nat.le_of_ble_eq_true rfl, Nat.le_of_ble_eq_true rfl⟩ xE0_ok trivial hA hK hP hD hS [5, 6] [0, 1, 2, 3, 4, 7] [0, 1, 2, 3, 4, 6, 7, 5] rfl rfl rfl rfl rfl rfl rfl rfl rfl rfl hl.1 rfl (Nat.le_of_ble_eq_true rfl) ⟨Nat.zero_le _, Nat.zero_le _⟩ d_X_crumbs_86 (fun H locs hP hD hS => ?_)
          have hq := Option.some.inj hf
          subst hq
          exact hret _ _ _ _ _ d_X_crumbs_89 rfl hP hD hS
        · have hf := io_t hf c8
          refine lv_aload_n hx hb d_X_crumbs_70 rfl (lv_at hl 1 rfl) ?_
          refine va_get hx hb hT i_X hown hK hP 0 rfl rfl 8 (Nat.le_of_ble_eq_true rfl) (hT _ k_176) (fun _ h => h) rfl d_X_crumbs_71 ?_
          refine lv_iload_n hx hb d_X_crumbs_74 rfl (lv_at hl 2 rfl) ?_
          obtain ⟨q10, hq10, hf⟩ := io_b hf
          refine xcVL (wc := (w_Crumbs_above cI cJ cC a_h_parts a_h_parts_have a_h_parts_next q7.1 q7.2.1)) (wc' := (w_Crumbs_above cI cJ cC a_h_parts a_h_parts_have a_h_parts_next q7.1 q7.2.1)) (ws' := (w_X_crumbs cI cJ cC a_h a_h_now a_h_kept a_h_letters a_h_numbers a_h_refusals a_h_mind a_h_parts a_h_past a_h_seating a_h_now_kinds a_h_now_sweets a_h_now_settings a_h_now_heaps a_h_parts_have a_h_parts_next y_h_isKept y_h_numberCount (r_children z_h_now) (r_strokes z_h_now) (r_gave z_h_now) (r_threw z_h_now) (r_sweets z_h_now) (r_settings z_h_now) z_h_refusals q7.1 q7.2.1 q7.2.2)) (As := [.int x1]) (rest := []) hx hb hml hown hT (c_Crumbs_above (z_h_doublings := q7.1) (z_h_have := q7.2.1) a_h_parts a_h_parts_have a_h_parts_next hq10) k_534 k_535 k_536 k_5 k_537 hd_Crumbs_above ⟨Nat.le_of_ble_eq_true rfl, Nat.le_of_ble_eq_true rfl⟩ xE0_ok trivial hA hK hP hD hS [5, 6] [0, 1, 2, 3, 4, 7] [0, 1, 2, 3, 4, 6, 7, 5] rfl rfl rfl rfl rfl rfl rfl rfl rfl rfl hl.1 rfl (Nat.le_of_ble_eq_true rfl) ⟨Nat.zero_le _, Nat.zero_le _⟩ d_X_crumbs_75 (fun H locs hP hD hS => ?_)
          refine lv_goto (tgt := 89) hx hb d_X_crumbs_78 (by decide) ?_
          have hq := Option.some.inj hf
          subst hq
          exact hret _ _ _ _ _ d_X_crumbs_89 rfl hP hD hS
      · have hf := io_f hf c6
        refine lv_ldc2 (v := 4000000000000000000) hx hb hown (hT _ k_519) d_X_crumbs_42 ?_
        refine lv_aload_n hx hb d_X_crumbs_45 rfl (lv_at hl 1 rfl) ?_
        refine lv_iload hx hb d_X_crumbs_46 (lv_at hl 0 rfl) ?_
        obtain ⟨q11, hq11, hf⟩ := io_b hf
        refine xcVI (wc := (w_X_refuse cI cJ cC a_h a_h_now a_h_kept a_h_letters a_h_numbers a_h_refusals a_h_mind a_h_parts a_h_past a_h_seating y_h_isKept y_h_numberCount z_h_refusals)) (wc' := (w_X_refuse cI cJ cC a_h a_h_now a_h_kept a_h_letters a_h_numbers a_h_refusals a_h_mind a_h_parts a_h_past a_h_seating y_h_isKept y_h_numberCount q11.2)) (ws' := (w_X_crumbs cI cJ cC a_h a_h_now a_h_kept a_h_letters a_h_numbers a_h_refusals a_h_mind a_h_parts a_h_past a_h_seating a_h_now_kinds a_h_now_sweets a_h_now_settings a_h_now_heaps a_h_parts_have a_h_parts_next y_h_isKept y_h_numberCount (r_children z_h_now) (r_strokes z_h_now) (r_gave z_h_now) (r_threw z_h_now) (r_sweets z_h_now) (r_settings z_h_now) q11.2 z_h_parts_doublings z_h_parts_have z_h_parts_next)) (As := [.int q1]) (rest := [.long 4000000000000000000]) hx hb hml hown hT (c_X_refuse (z_h_refusals := z_h_refusals) a_h a_h_now a_h_kept a_h_letters a_h_numbers a_h_refusals a_h_mind a_h_parts a_h_past a_h_seating y_h_isKept y_h_numberCount hq11) k_206 k_208 ks_0 k_1 k_209 hd_X_refuse ⟨Nat.le_of_ble_eq_true rfl, Nat.le_of_ble_eq_true rfl⟩ xE0_ok trivial hA hK hP hD hS [0, 4] [1, 2, 3, 5, 6, 7] [6, 0, 1, 2, 7, 3, 4, 5] rfl rfl rfl rfl rfl rfl rfl rfl rfl rfl hl.1 rfl (Nat.le_of_ble_eq_true rfl) ⟨Nat.zero_le _, Nat.zero_le _⟩ d_X_crumbs_48 (fun H locs hP hD hS => ?_)
        refine lv_i2l (v := (q11.1.toInt64)) hx hb d_X_crumbs_51 rfl ?_
        refine lv_lsub hx hb d_X_crumbs_52 ?_
        have hq := Option.some.inj hf
        subst hq
        exact hret _ _ _ _ _ d_X_crumbs_53 rfl hP hD hS
    · have hf := io_t hf c5
      refine lv_bipush (v := (-2)) hx hb d_X_crumbs_33 (by decide) ?_
      refine lv_istore (lv' := [(4, .int (-2)), (0, .ref a_h), (1, .int x1), (2, .int x2), (3, .int x3)]) hx hb d_X_crumbs_35 hl (by decide) rfl (fun ls hl => ?_)
      refine lv_iload hx hb d_X_crumbs_37 (lv_at hl 0 rfl) ?_
      refine lv_if_eq (tgt := 54) hx hb d_X_crumbs_39 (by decide) (fun c => absurd c (show ¬ ((-2) : Int32) = 0 from by decide +kernel)) (fun _ => ?_)
      refine lv_ldc2 (v := 4000000000000000000) hx hb hown (hT _ k_519) d_X_crumbs_42 ?_
      refine lv_aload_n hx hb d_X_crumbs_45 rfl (lv_at hl 1 rfl) ?_
      refine lv_iload hx hb d_X_crumbs_46 (lv_at hl 0 rfl) ?_
      obtain ⟨q12, hq12, hf⟩ := io_b hf
      refine xcVI (wc := (w_X_refuse cI cJ cC a_h a_h_now a_h_kept a_h_letters a_h_numbers a_h_refusals a_h_mind a_h_parts a_h_past a_h_seating y_h_isKept y_h_numberCount z_h_refusals)) (wc' := (w_X_refuse cI cJ cC a_h a_h_now a_h_kept a_h_letters a_h_numbers a_h_refusals a_h_mind a_h_parts a_h_past a_h_seating y_h_isKept y_h_numberCount q12.2)) (ws' := (w_X_crumbs cI cJ cC a_h a_h_now a_h_kept a_h_letters a_h_numbers a_h_refusals a_h_mind a_h_parts a_h_past a_h_seating a_h_now_kinds a_h_now_sweets a_h_now_settings a_h_now_heaps a_h_parts_have a_h_parts_next y_h_isKept y_h_numberCount (r_children z_h_now) (r_strokes z_h_now) (r_gave z_h_now) (r_threw z_h_now) (r_sweets z_h_now) (r_settings z_h_now) q12.2 z_h_parts_doublings z_h_parts_have z_h_parts_next)) (As := [.int (-2)]) (rest := [.long 4000000000000000000]) hx hb hml hown hT (c_X_refuse (z_h_refusals := z_h_refusals) a_h a_h_now a_h_kept a_h_letters a_h_numbers a_h_refusals a_h_mind a_h_parts a_h_past a_h_seating y_h_isKept y_h_numberCount hq12) k_206 k_208 ks_0 k_1 k_209 hd_X_refuse ⟨Nat.le_of_ble_eq_true rfl, Nat.le_of_ble_eq_true rfl⟩ xE0_ok trivial hA hK hP hD hS [0, 4] [1, 2, 3, 5, 6, 7] [6, 0, 1, 2, 7, 3, 4, 5] rfl rfl rfl rfl rfl rfl rfl rfl rfl rfl hl.1 rfl (Nat.le_of_ble_eq_true rfl) ⟨Nat.zero_le _, Nat.zero_le _⟩ d_X_crumbs_48 (fun H locs hP hD hS => ?_)
      refine lv_i2l (v := (q12.1.toInt64)) hx hb d_X_crumbs_51 rfl ?_
      refine lv_lsub hx hb d_X_crumbs_52 ?_
      have hq := Option.some.inj hf
      subst hq
      exact hret _ _ _ _ _ d_X_crumbs_53 rfl hP hD hS
  · have hf := io_t hf c3
    refine lv_iconst (v := (-1)) hx hb d_X_crumbs_20 (by decide) ?_
    refine lv_istore (lv' := [(4, .int (-1)), (0, .ref a_h), (1, .int x1), (2, .int x2), (3, .int x3)]) hx hb d_X_crumbs_21 hl (by decide) rfl (fun ls hl => ?_)
    refine lv_goto (tgt := 37) hx hb d_X_crumbs_23 (by decide) ?_
    refine lv_iload hx hb d_X_crumbs_37 (lv_at hl 0 rfl) ?_
    refine lv_if_eq (tgt := 54) hx hb d_X_crumbs_39 (by decide) (fun c => absurd c (show ¬ ((-1) : Int32) = 0 from by decide +kernel)) (fun _ => ?_)
    refine lv_ldc2 (v := 4000000000000000000) hx hb hown (hT _ k_519) d_X_crumbs_42 ?_
    refine lv_aload_n hx hb d_X_crumbs_45 rfl (lv_at hl 1 rfl) ?_
    refine lv_iload hx hb d_X_crumbs_46 (lv_at hl 0 rfl) ?_
    obtain ⟨q13, hq13, hf⟩ := io_b hf
    refine xcVI (wc := (w_X_refuse cI cJ cC a_h a_h_now a_h_kept a_h_letters a_h_numbers a_h_refusals a_h_mind a_h_parts a_h_past a_h_seating y_h_isKept y_h_numberCount z_h_refusals)) (wc' := (w_X_refuse cI cJ cC a_h a_h_now a_h_kept a_h_letters a_h_numbers a_h_refusals a_h_mind a_h_parts a_h_past a_h_seating y_h_isKept y_h_numberCount q13.2)) (ws' := (w_X_crumbs cI cJ cC a_h a_h_now a_h_kept a_h_letters a_h_numbers a_h_refusals a_h_mind a_h_parts a_h_past a_h_seating a_h_now_kinds a_h_now_sweets a_h_now_settings a_h_now_heaps a_h_parts_have a_h_parts_next y_h_isKept y_h_numberCount (r_children z_h_now) (r_strokes z_h_now) (r_gave z_h_now) (r_threw z_h_now) (r_sweets z_h_now) (r_settings z_h_now) q13.2 z_h_parts_doublings z_h_parts_have z_h_parts_next)) (As := [.int (-1)]) (rest := [.long 4000000000000000000]) hx hb hml hown hT (c_X_refuse (z_h_refusals := z_h_refusals) a_h a_h_now a_h_kept a_h_letters a_h_numbers a_h_refusals a_h_mind a_h_parts a_h_past a_h_seating y_h_isKept y_h_numberCount hq13) k_206 k_208 ks_0 k_1 k_209 hd_X_refuse ⟨Nat.le_of_ble_eq_true rfl, Nat.le_of_ble_eq_true rfl⟩ xE0_ok trivial hA hK hP hD hS [0, 4] [1, 2, 3, 5, 6, 7] [6, 0, 1, 2, 7, 3, 4, 5] rfl rfl rfl rfl rfl rfl rfl rfl rfl rfl hl.1 rfl (Nat.le_of_ble_eq_true rfl) ⟨Nat.zero_le _, Nat.zero_le _⟩ d_X_crumbs_48 (fun H locs hP hD hS => ?_)
    refine lv_i2l (v := (q13.1.toInt64)) hx hb d_X_crumbs_51 rfl ?_
    refine lv_lsub hx hb d_X_crumbs_52 ?_
    have hq := Option.some.inj hf
    subst hq
    exact hret _ _ _ _ _ d_X_crumbs_53 rfl hP hD hS
abbrev w_X_mean (cI cJ cC : ClassId) (a_h a_h_now a_h_kept a_h_letters a_h_numbers a_h_refusals a_h_mind a_h_parts a_h_past a_h_seating a_h_now_kinds a_h_now_sweets a_h_now_settings a_h_now_heaps : Nat) (y_h_isKept : Int32) (y_h_numberCount : Int32) (p_h_now_children : Int32) (p_h_now_strokes : Int32) (p_h_now_gave : Int32) (p_h_now_threw : Int32) (p_h_now_sweets : (Nat → Int32)) (p_h_refusals : (Nat → Int32)) : va_W := [(a_h, .inr (0, [.ref a_h_now, .ref a_h_kept, .int y_h_isKept, .ref a_h_letters, .ref a_h_numbers, .int y_h_numberCount, .ref a_h_refusals, .ref a_h_mind, .ref a_h_parts, .ref a_h_past, .ref a_h_seating])), (a_h_now, .inr (1, [.ref a_h_now_kinds, .ref a_h_now_sweets, .ref a_h_now_settings, .int p_h_now_children, .int p_h_now_strokes, .int p_h_now_gave, .int p_h_now_threw, .ref a_h_now_heaps])), (a_h_now_sweets, .inl (cI, (8, .inl p_h_now_sweets))), (a_h_refusals, .inl (cI, (7, .inl p_h_refusals)))]
theorem d_X_mean_0 : decode b_X_mean 0 = .ok (.iload_n 1, 1) := by decide +kernel
theorem d_X_mean_1 : decode b_X_mean 1 = .ok (.invokestatic 132, 3) := by decide +kernel
theorem d_X_mean_4 : decode b_X_mean 4 = .ok (.ifCond .ne 10, 3) := by decide +kernel
theorem d_X_mean_7 : decode b_X_mean 7 = .ok (.aload_n 0, 1) := by decide +kernel
theorem d_X_mean_8 : decode b_X_mean 8 = .ok (.bipush (-2), 2) := by decide +kernel
theorem d_X_mean_10 : decode b_X_mean 10 = .ok (.invokevirtual 69, 3) := by decide +kernel
theorem d_X_mean_13 : decode b_X_mean 13 = .ok (.ireturn, 1) := by decide +kernel
theorem d_X_mean_14 : decode b_X_mean 14 = .ok (.aload_n 0, 1) := by decide +kernel
theorem d_X_mean_15 : decode b_X_mean 15 = .ok (.getfield 10, 3) := by decide +kernel
theorem d_X_mean_18 : decode b_X_mean 18 = .ok (.getfield 121, 3) := by decide +kernel
theorem d_X_mean_21 : decode b_X_mean 21 = .ok (.ifCond .ne 10, 3) := by decide +kernel
theorem d_X_mean_24 : decode b_X_mean 24 = .ok (.aload_n 0, 1) := by decide +kernel
theorem d_X_mean_25 : decode b_X_mean 25 = .ok (.bipush (-3), 2) := by decide +kernel
theorem d_X_mean_27 : decode b_X_mean 27 = .ok (.invokevirtual 69, 3) := by decide +kernel
theorem d_X_mean_30 : decode b_X_mean 30 = .ok (.ireturn, 1) := by decide +kernel
theorem d_X_mean_31 : decode b_X_mean 31 = .ok (.aload_n 0, 1) := by decide +kernel
theorem d_X_mean_32 : decode b_X_mean 32 = .ok (.getfield 10, 3) := by decide +kernel
theorem d_X_mean_35 : decode b_X_mean 35 = .ok (.invokevirtual 170, 3) := by decide +kernel
theorem d_X_mean_38 : decode b_X_mean 38 = .ok (.iconst 1, 1) := by decide +kernel
theorem d_X_mean_39 : decode b_X_mean 39 = .ok (.invokestatic 173, 3) := by decide +kernel
theorem d_X_mean_42 : decode b_X_mean 42 = .ok (.istore_n 2, 1) := by decide +kernel
theorem d_X_mean_43 : decode b_X_mean 43 = .ok (.iload_n 1, 1) := by decide +kernel
theorem d_X_mean_44 : decode b_X_mean 44 = .ok (.ifCond .ne 13, 3) := by decide +kernel
theorem d_X_mean_47 : decode b_X_mean 47 = .ok (.aload_n 0, 1) := by decide +kernel
theorem d_X_mean_48 : decode b_X_mean 48 = .ok (.getfield 10, 3) := by decide +kernel
theorem d_X_mean_51 : decode b_X_mean 51 = .ok (.invokevirtual 179, 3) := by decide +kernel
theorem d_X_mean_54 : decode b_X_mean 54 = .ok (.goto 10, 3) := by decide +kernel
theorem d_X_mean_57 : decode b_X_mean 57 = .ok (.aload_n 0, 1) := by decide +kernel
theorem d_X_mean_58 : decode b_X_mean 58 = .ok (.getfield 10, 3) := by decide +kernel
theorem d_X_mean_61 : decode b_X_mean 61 = .ok (.getfield 121, 3) := by decide +kernel
theorem d_X_mean_64 : decode b_X_mean 64 = .ok (.iload_n 2, 1) := by decide +kernel
theorem d_X_mean_65 : decode b_X_mean 65 = .ok (.idiv, 1) := by decide +kernel
theorem d_X_mean_66 : decode b_X_mean 66 = .ok (.ireturn, 1) := by decide +kernel
set_option maxHeartbeats 4000000 in
set_option maxRecDepth 100000 in
theorem c_X_mean {l : Launch} {D : va_G} {cI cJ cC : ClassId} (a_h a_h_now a_h_kept a_h_letters a_h_numbers a_h_refusals a_h_mind a_h_parts a_h_past a_h_seating a_h_now_kinds a_h_now_sweets a_h_now_settings a_h_now_heaps : Nat) (y_h_isKept : Int32) (y_h_numberCount : Int32) {z_h_now : RS} {z_h_refusals : (Nat → Int32)} {x1 : Int32} {q : Int32 × (Nat → Int32)} (hf : f_X_mean z_h_now z_h_refusals x1 = some q) : xI l y_X_mean b_X_mean 3 .int 2 44 D (tyK cI cJ cC) xE0 [.ref a_h, .int x1] (w_X_mean cI cJ cC a_h a_h_now a_h_kept a_h_letters a_h_numbers a_h_refusals a_h_mind a_h_parts a_h_past a_h_seating a_h_now_kinds a_h_now_sweets a_h_now_settings a_h_now_heaps y_h_isKept y_h_numberCount (r_children z_h_now) (r_strokes z_h_now) (r_gave z_h_now) (r_threw z_h_now) (r_sweets z_h_now) z_h_refusals) q.1 (w_X_mean cI cJ cC a_h a_h_now a_h_kept a_h_letters a_h_numbers a_h_refusals a_h_mind a_h_parts a_h_past a_h_seating a_h_now_kinds a_h_now_sweets a_h_now_settings a_h_now_heaps y_h_isKept y_h_numberCount (r_children z_h_now) (r_strokes z_h_now) (r_gave z_h_now) (r_threw z_h_now) (r_sweets z_h_now) q.2) := by
  refine xI_of (by decide) (Nat.le_of_ble_eq_true rfl) ?_
  intro p e s m args below meth c A Q hx hb hml hown hT hA hP hD hK hS hE hret ls hl
  have hown : s.vm.findClass R_X = some m.cls := hown
  have hl : lv_has ls 3 [(0, .ref a_h), (1, .int x1)] := hl
  unfold f_X_mean at hf
  refine lv_iload_n hx hb d_X_mean_0 rfl (lv_at hl 1 rfl) ?_
  obtain ⟨q1, hq1, hf⟩ := io_b hf
  refine xcSI (wc := []) (wc' := []) (ws' := (w_X_mean cI cJ cC a_h a_h_now a_h_kept a_h_letters a_h_numbers a_h_refusals a_h_mind a_h_parts a_h_past a_h_seating a_h_now_kinds a_h_now_sweets a_h_now_settings a_h_now_heaps y_h_isKept y_h_numberCount (r_children z_h_now) (r_strokes z_h_now) (r_gave z_h_now) (r_threw z_h_now) (r_sweets z_h_now) z_h_refusals)) (As := [.int x1]) (rest := []) hx hb hml hown hT (c_X_isPart hq1) k_451 k_452 k_1 k_453 hd_X_isPart ⟨Nat.le_of_ble_eq_true rfl, Nat.le_of_ble_eq_true rfl⟩ xE0_ok trivial hA hK hP hD hS [] [0, 1, 2, 3] [0, 1, 2, 3] rfl rfl rfl rfl rfl rfl rfl hl.1 rfl (Nat.le_of_ble_eq_true rfl) ⟨Nat.zero_le _, Nat.zero_le _⟩ d_X_mean_1 (fun H locs hP hD hS => ?_)
  refine lv_if_ne (tgt := 14) hx hb d_X_mean_4 (by decide) (fun c2 => ?_) (fun c2 => ?_)
  · have hf := io_f hf c2
    refine lv_aload_n hx hb d_X_mean_14 rfl (lv_at hl 0 rfl) ?_
    refine va_get hx hb hT i_X hown hK hP 0 rfl rfl 0 (Nat.le_of_ble_eq_true rfl) (hT _ k_168) (fun _ h => h) rfl d_X_mean_15 ?_
    refine va_get hx hb hT i_Ring hown hK hP 1 rfl rfl 3 (Nat.le_of_ble_eq_true rfl) (hT _ k_48) (fun _ h => h) rfl d_X_mean_18 ?_
    refine lv_if_ne (tgt := 31) hx hb d_X_mean_21 (by decide) (fun c3 => ?_) (fun c3 => ?_)
    · have hf := io_f hf c3
      refine lv_aload_n hx hb d_X_mean_31 rfl (lv_at hl 0 rfl) ?_
      refine va_get hx hb hT i_X hown hK hP 0 rfl rfl 0 (Nat.le_of_ble_eq_true rfl) (hT _ k_168) (fun _ h => h) rfl d_X_mean_32 ?_
      obtain ⟨q4, hq4, hf⟩ := io_b hf
      refine xcVI (wc := (w_Ring_commonDivisor cI cJ cC a_h_now a_h_now_kinds a_h_now_sweets a_h_now_settings a_h_now_heaps (r_children z_h_now) (r_strokes z_h_now) (r_gave z_h_now) (r_threw z_h_now) (r_sweets z_h_now))) (wc' := (w_Ring_commonDivisor cI cJ cC a_h_now a_h_now_kinds a_h_now_sweets a_h_now_settings a_h_now_heaps (r_children z_h_now) (r_strokes z_h_now) (r_gave z_h_now) (r_threw z_h_now) (r_sweets z_h_now))) (ws' := (w_X_mean cI cJ cC a_h a_h_now a_h_kept a_h_letters a_h_numbers a_h_refusals a_h_mind a_h_parts a_h_past a_h_seating a_h_now_kinds a_h_now_sweets a_h_now_settings a_h_now_heaps y_h_isKept y_h_numberCount (r_children z_h_now) (r_strokes z_h_now) (r_gave z_h_now) (r_threw z_h_now) (r_sweets z_h_now) z_h_refusals)) (As := []) (rest := []) hx hb hml hown hT (c_Ring_commonDivisor (z_h := z_h_now) a_h_now a_h_now_kinds a_h_now_sweets a_h_now_settings a_h_now_heaps hq4) k_551 k_552 k_553 k_2 k_554 hd_Ring_commonDivisor ⟨Nat.le_of_ble_eq_true rfl, Nat.le_of_ble_eq_true rfl⟩ xE0_ok trivial hA hK hP hD hS [1, 2] [0, 3] [0, 2, 3, 1] rfl rfl rfl rfl rfl rfl rfl rfl rfl rfl hl.1 rfl (Nat.le_of_ble_eq_true rfl) ⟨Nat.zero_le _, Nat.zero_le _⟩ d_X_mean_35 (fun H locs hP hD hS => ?_)
      refine lv_iconst (v := 1) hx hb d_X_mean_38 (by decide) ?_
      refine va_mmax hx hb (hml.trans hl.1.symm) hown (hT _ k_559) (hT _ k_262) (hT _ k_11) (hT _ k_263) (Nat.le_of_ble_eq_true rfl) (Nat.le_of_ble_eq_true rfl) (Nat.zero_le _) (Nat.zero_le _) d_X_mean_39 ?_
      refine lv_istore_n (lv' := [(2, .int (jmax q4 1)), (0, .ref a_h), (1, .int x1)]) hx hb d_X_mean_42 rfl hl (by decide) rfl (fun ls hl => ?_)
      refine lv_iload_n hx hb d_X_mean_43 rfl (lv_at hl 2 rfl) ?_
      refine lv_if_ne (tgt := 57) hx hb d_X_mean_44 (by decide) (fun c5 => ?_) (fun c5 => ?_)
      · have hf := io_f hf c5
        refine lv_aload_n hx hb d_X_mean_57 rfl (lv_at hl 1 rfl) ?_
        refine va_get hx hb hT i_X hown hK hP 0 rfl rfl 0 (Nat.le_of_ble_eq_true rfl) (hT _ k_168) (fun _ h => h) rfl d_X_mean_58 ?_
        refine va_get hx hb hT i_Ring hown hK hP 1 rfl rfl 3 (Nat.le_of_ble_eq_true rfl) (hT _ k_48) (fun _ h => h) rfl d_X_mean_61 ?_
        refine lv_iload_n hx hb d_X_mean_64 rfl (lv_at hl 0 rfl) ?_
        obtain ⟨c6, hf⟩ := io_n hf
        refine x_idiv hx hb d_X_mean_65 c6 ?_
        have hq := Option.some.inj hf
        subst hq
        exact hret _ _ _ _ _ d_X_mean_66 rfl rfl hP hD hS
      · have hf := io_t hf c5
        refine lv_aload_n hx hb d_X_mean_47 rfl (lv_at hl 1 rfl) ?_
        refine va_get hx hb hT i_X hown hK hP 0 rfl rfl 0 (Nat.le_of_ble_eq_true rfl) (hT _ k_168) (fun _ h => h) rfl d_X_mean_48 ?_
        obtain ⟨q7, hq7, hf⟩ := io_b hf
        refine xcVI (wc := (w_Ring_allSweets cI cJ cC a_h_now a_h_now_kinds a_h_now_sweets a_h_now_settings a_h_now_heaps (r_children z_h_now) (r_strokes z_h_now) (r_gave z_h_now) (r_threw z_h_now) (r_sweets z_h_now))) (wc' := (w_Ring_allSweets cI cJ cC a_h_now a_h_now_kinds a_h_now_sweets a_h_now_settings a_h_now_heaps (r_children z_h_now) (r_strokes z_h_now) (r_gave z_h_now) (r_threw z_h_now) (r_sweets z_h_now))) (ws' := (w_X_mean cI cJ cC a_h a_h_now a_h_kept a_h_letters a_h_numbers a_h_refusals a_h_mind a_h_parts a_h_past a_h_seating a_h_now_kinds a_h_now_sweets a_h_now_settings a_h_now_heaps y_h_isKept y_h_numberCount (r_children z_h_now) (r_strokes z_h_now) (r_gave z_h_now) (r_threw z_h_now) (r_sweets z_h_now) z_h_refusals)) (As := []) (rest := []) hx hb hml hown hT (c_Ring_allSweets (z_h := z_h_now) a_h_now a_h_now_kinds a_h_now_sweets a_h_now_settings a_h_now_heaps hq7) k_560 k_556 k_557 k_2 k_558 hd_Ring_allSweets ⟨Nat.le_of_ble_eq_true rfl, Nat.le_of_ble_eq_true rfl⟩ xE0_ok trivial hA hK hP hD hS [1, 2] [0, 3] [0, 2, 3, 1] rfl rfl rfl rfl rfl rfl rfl rfl rfl rfl hl.1 rfl (Nat.le_of_ble_eq_true rfl) ⟨Nat.zero_le _, Nat.zero_le _⟩ d_X_mean_51 (fun H locs hP hD hS => ?_)
        refine lv_goto (tgt := 64) hx hb d_X_mean_54 (by decide) ?_
        refine lv_iload_n hx hb d_X_mean_64 rfl (lv_at hl 0 rfl) ?_
        obtain ⟨c8, hf⟩ := io_n hf
        refine x_idiv hx hb d_X_mean_65 c8 ?_
        have hq := Option.some.inj hf
        subst hq
        exact hret _ _ _ _ _ d_X_mean_66 rfl rfl hP hD hS
    · have hf := io_t hf c3
      refine lv_aload_n hx hb d_X_mean_24 rfl (lv_at hl 0 rfl) ?_
      refine lv_bipush (v := (-3)) hx hb d_X_mean_25 (by decide) ?_
      obtain ⟨q9, hq9, hf⟩ := io_b hf
      refine xcVI (wc := (w_X_refuse cI cJ cC a_h a_h_now a_h_kept a_h_letters a_h_numbers a_h_refusals a_h_mind a_h_parts a_h_past a_h_seating y_h_isKept y_h_numberCount z_h_refusals)) (wc' := (w_X_refuse cI cJ cC a_h a_h_now a_h_kept a_h_letters a_h_numbers a_h_refusals a_h_mind a_h_parts a_h_past a_h_seating y_h_isKept y_h_numberCount q9.2)) (ws' := (w_X_mean cI cJ cC a_h a_h_now a_h_kept a_h_letters a_h_numbers a_h_refusals a_h_mind a_h_parts a_h_past a_h_seating a_h_now_kinds a_h_now_sweets a_h_now_settings a_h_now_heaps y_h_isKept y_h_numberCount (r_children z_h_now) (r_strokes z_h_now) (r_gave z_h_now) (r_threw z_h_now) (r_sweets z_h_now) q9.2)) (As := [.int (-3)]) (rest := []) hx hb hml hown hT (c_X_refuse (z_h_refusals := z_h_refusals) a_h a_h_now a_h_kept a_h_letters a_h_numbers a_h_refusals a_h_mind a_h_parts a_h_past a_h_seating y_h_isKept y_h_numberCount hq9) k_206 k_208 ks_0 k_1 k_209 hd_X_refuse ⟨Nat.le_of_ble_eq_true rfl, Nat.le_of_ble_eq_true rfl⟩ xE0_ok trivial hA hK hP hD hS [0, 3] [1, 2] [2, 0, 1, 3] rfl rfl rfl rfl rfl rfl rfl rfl rfl rfl hl.1 rfl (Nat.le_of_ble_eq_true rfl) ⟨Nat.zero_le _, Nat.zero_le _⟩ d_X_mean_27 (fun H locs hP hD hS => ?_)
      have hq := Option.some.inj hf
      subst hq
      exact hret _ _ _ _ _ d_X_mean_30 rfl rfl hP hD hS
  · have hf := io_t hf c2
    refine lv_aload_n hx hb d_X_mean_7 rfl (lv_at hl 0 rfl) ?_
    refine lv_bipush (v := (-2)) hx hb d_X_mean_8 (by decide) ?_
    obtain ⟨q10, hq10, hf⟩ := io_b hf
    refine xcVI (wc := (w_X_refuse cI cJ cC a_h a_h_now a_h_kept a_h_letters a_h_numbers a_h_refusals a_h_mind a_h_parts a_h_past a_h_seating y_h_isKept y_h_numberCount z_h_refusals)) (wc' := (w_X_refuse cI cJ cC a_h a_h_now a_h_kept a_h_letters a_h_numbers a_h_refusals a_h_mind a_h_parts a_h_past a_h_seating y_h_isKept y_h_numberCount q10.2)) (ws' := (w_X_mean cI cJ cC a_h a_h_now a_h_kept a_h_letters a_h_numbers a_h_refusals a_h_mind a_h_parts a_h_past a_h_seating a_h_now_kinds a_h_now_sweets a_h_now_settings a_h_now_heaps y_h_isKept y_h_numberCount (r_children z_h_now) (r_strokes z_h_now) (r_gave z_h_now) (r_threw z_h_now) (r_sweets z_h_now) q10.2)) (As := [.int (-2)]) (rest := []) hx hb hml hown hT (c_X_refuse (z_h_refusals := z_h_refusals) a_h a_h_now a_h_kept a_h_letters a_h_numbers a_h_refusals a_h_mind a_h_parts a_h_past a_h_seating y_h_isKept y_h_numberCount hq10) k_206 k_208 ks_0 k_1 k_209 hd_X_refuse ⟨Nat.le_of_ble_eq_true rfl, Nat.le_of_ble_eq_true rfl⟩ xE0_ok trivial hA hK hP hD hS [0, 3] [1, 2] [2, 0, 1, 3] rfl rfl rfl rfl rfl rfl rfl rfl rfl rfl hl.1 rfl (Nat.le_of_ble_eq_true rfl) ⟨Nat.zero_le _, Nat.zero_le _⟩ d_X_mean_10 (fun H locs hP hD hS => ?_)
    have hq := Option.some.inj hf
    subst hq
    exact hret _ _ _ _ _ d_X_mean_13 rfl rfl hP hD hS
