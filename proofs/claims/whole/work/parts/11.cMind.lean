/-! Contracts: Mind. Printed by wip/whole/gen. -/
abbrev w_Mind_sweetsBehind (cI cJ cC : ClassId) (a_h a_h_one a_h_two a_h_one_kinds a_h_one_sweets a_h_one_settings a_h_one_heaps a_g1 a_g1_kinds a_g1_sweets a_g1_settings a_g1_heaps : Nat) (y_h_seed : Int32) (p_h_one_children : Int32) (p_h_one_strokes : Int32) (p_h_one_gave : Int32) (p_h_one_threw : Int32) (p_h_one_kinds : (Nat → Int32)) (p_h_one_sweets : (Nat → Int32)) (p_h_one_settings : (Nat → Int32)) (p_h_one_heaps : (Nat → Int32)) (p_g1_children : Int32) (p_g1_strokes : Int32) (p_g1_gave : Int32) (p_g1_threw : Int32) (p_g1_kinds : (Nat → Int32)) (p_g1_sweets : (Nat → Int32)) (p_g1_settings : (Nat → Int32)) : va_W := [(a_h, .inr (3, [.ref a_h_one, .ref a_h_two, .int y_h_seed])), (a_h_one, .inr (1, [.ref a_h_one_kinds, .ref a_h_one_sweets, .ref a_h_one_settings, .int p_h_one_children, .int p_h_one_strokes, .int p_h_one_gave, .int p_h_one_threw, .ref a_h_one_heaps])), (a_h_one_kinds, .inl (cI, (8, .inl p_h_one_kinds))), (a_h_one_sweets, .inl (cI, (8, .inl p_h_one_sweets))), (a_h_one_settings, .inl (cI, (3, .inl p_h_one_settings))), (a_h_one_heaps, .inl (cI, (8, .inl p_h_one_heaps))), (a_g1, .inr (1, [.ref a_g1_kinds, .ref a_g1_sweets, .ref a_g1_settings, .int p_g1_children, .int p_g1_strokes, .int p_g1_gave, .int p_g1_threw, .ref a_g1_heaps])), (a_g1_kinds, .inl (cI, (8, .inl p_g1_kinds))), (a_g1_sweets, .inl (cI, (8, .inl p_g1_sweets))), (a_g1_settings, .inl (cI, (3, .inl p_g1_settings)))]
theorem d_Mind_sweetsBehind_0 : decode b_Mind_sweetsBehind 0 = .ok (.aload_n 0, 1) := by decide +kernel
theorem d_Mind_sweetsBehind_1 : decode b_Mind_sweetsBehind 1 = .ok (.getfield 12, 3) := by decide +kernel
theorem d_Mind_sweetsBehind_4 : decode b_Mind_sweetsBehind 4 = .ok (.aload_n 1, 1) := by decide +kernel
theorem d_Mind_sweetsBehind_5 : decode b_Mind_sweetsBehind 5 = .ok (.invokevirtual 25, 3) := by decide +kernel
theorem d_Mind_sweetsBehind_8 : decode b_Mind_sweetsBehind 8 = .ok (.aload_n 0, 1) := by decide +kernel
theorem d_Mind_sweetsBehind_9 : decode b_Mind_sweetsBehind 9 = .ok (.getfield 12, 3) := by decide +kernel
theorem d_Mind_sweetsBehind_12 : decode b_Mind_sweetsBehind 12 = .ok (.iload_n 3, 1) := by decide +kernel
theorem d_Mind_sweetsBehind_13 : decode b_Mind_sweetsBehind 13 = .ok (.invokevirtual 29, 3) := by decide +kernel
theorem d_Mind_sweetsBehind_16 : decode b_Mind_sweetsBehind 16 = .ok (.aload_n 0, 1) := by decide +kernel
theorem d_Mind_sweetsBehind_17 : decode b_Mind_sweetsBehind 17 = .ok (.getfield 12, 3) := by decide +kernel
theorem d_Mind_sweetsBehind_20 : decode b_Mind_sweetsBehind 20 = .ok (.getfield 33, 3) := by decide +kernel
theorem d_Mind_sweetsBehind_23 : decode b_Mind_sweetsBehind 23 = .ok (.iload_n 2, 1) := by decide +kernel
theorem d_Mind_sweetsBehind_24 : decode b_Mind_sweetsBehind 24 = .ok (.iaload, 1) := by decide +kernel
theorem d_Mind_sweetsBehind_25 : decode b_Mind_sweetsBehind 25 = .ok (.ireturn, 1) := by decide +kernel
set_option maxHeartbeats 4000000 in
set_option maxRecDepth 100000 in
theorem c_Mind_sweetsBehind {l : Launch} {D : va_G} {cI cJ cC : ClassId} (a_h a_h_one a_h_two a_h_one_kinds a_h_one_sweets a_h_one_settings a_h_one_heaps a_g1 a_g1_kinds a_g1_sweets a_g1_settings a_g1_heaps : Nat) (y_h_seed : Int32) {z_h_one : RS} {z_g1 : RS} {x2 : Int32} {x3 : Int32} {q : Int32 × RS} (hf : f_Mind_sweetsBehind z_h_one z_g1 x2 x3 = some q) : xI l y_Mind_sweetsBehind b_Mind_sweetsBehind 4 .int 5 111 D (tyK cI cJ cC) xE0 [.ref a_h, .ref a_g1, .int x2, .int x3] (w_Mind_sweetsBehind cI cJ cC a_h a_h_one a_h_two a_h_one_kinds a_h_one_sweets a_h_one_settings a_h_one_heaps a_g1 a_g1_kinds a_g1_sweets a_g1_settings a_g1_heaps y_h_seed (r_children z_h_one) (r_strokes z_h_one) (r_gave z_h_one) (r_threw z_h_one) (r_kinds z_h_one) (r_sweets z_h_one) (r_settings z_h_one) (r_heaps z_h_one) (r_children z_g1) (r_strokes z_g1) (r_gave z_g1) (r_threw z_g1) (r_kinds z_g1) (r_sweets z_g1) (r_settings z_g1)) q.1 (w_Mind_sweetsBehind cI cJ cC a_h a_h_one a_h_two a_h_one_kinds a_h_one_sweets a_h_one_settings a_h_one_heaps a_g1 a_g1_kinds a_g1_sweets a_g1_settings a_g1_heaps y_h_seed (r_children q.2) (r_strokes q.2) (r_gave q.2) (r_threw q.2) (r_kinds q.2) (r_sweets q.2) (r_settings q.2) (r_heaps q.2) (r_children z_g1) (r_strokes z_g1) (r_gave z_g1) (r_threw z_g1) (r_kinds z_g1) (r_sweets z_g1) (r_settings z_g1)) := by
  refine xI_of (by decide) (Nat.le_of_ble_eq_true rfl) ?_
  intro p e s m args below meth c A Q hx hb hml hown hT hA hP hD hK hS hE hret ls hl
  have hown : s.vm.findClass R_Mind = some m.cls := hown
  have hl : lv_has ls 4 [(0, .ref a_h), (1, .ref a_g1), (2, .int x2), (3, .int x3)] := hl
  unfold f_Mind_sweetsBehind at hf
  refine lv_aload_n hx hb d_Mind_sweetsBehind_0 rfl (lv_at hl 0 rfl) ?_
  refine va_get hx hb hT i_Mind hown hK hP 0 rfl rfl 0 (Nat.le_of_ble_eq_true rfl) (hT _ k_106) (fun _ h => h) rfl d_Mind_sweetsBehind_1 ?_
  refine lv_aload_n hx hb d_Mind_sweetsBehind_4 rfl (lv_at hl 1 rfl) ?_
  obtain ⟨q1, hq1, hf⟩ := io_b hf
  refine xcVV (wc := (w_Ring_copyFrom cI cJ cC a_h_one a_h_one_kinds a_h_one_sweets a_h_one_settings a_h_one_heaps a_g1 a_g1_kinds a_g1_sweets a_g1_settings a_g1_heaps (r_children z_h_one) (r_strokes z_h_one) (r_gave z_h_one) (r_threw z_h_one) (r_kinds z_h_one) (r_sweets z_h_one) (r_settings z_h_one) (r_heaps z_h_one) (r_children z_g1) (r_strokes z_g1) (r_gave z_g1) (r_threw z_g1) (r_kinds z_g1) (r_sweets z_g1) (r_settings z_g1))) (wc' := (w_Ring_copyFrom cI cJ cC a_h_one a_h_one_kinds a_h_one_sweets a_h_one_settings a_h_one_heaps a_g1 a_g1_kinds a_g1_sweets a_g1_settings a_g1_heaps (r_children q1) (r_strokes q1) (r_gave q1) (r_threw q1) (r_kinds q1) (r_sweets q1) (r_settings q1) (r_heaps q1) (r_children z_g1) (r_strokes z_g1) (r_gave z_g1) (r_threw z_g1) (r_kinds z_g1) (r_sweets z_g1) (r_settings z_g1))) (ws' := (w_Mind_sweetsBehind cI cJ cC a_h a_h_one a_h_two a_h_one_kinds a_h_one_sweets a_h_one_settings a_h_one_heaps a_g1 a_g1_kinds a_g1_sweets a_g1_settings a_g1_heaps y_h_seed (r_children q1) (r_strokes q1) (r_gave q1) (r_threw q1) (r_kinds q1) (r_sweets q1) (r_settings q1) (r_heaps q1) (r_children z_g1) (r_strokes z_g1) (r_gave z_g1) (r_threw z_g1) (r_kinds z_g1) (r_sweets z_g1) (r_settings z_g1))) (As := [.ref a_g1]) (rest := []) hx hb hml hown hT (c_Ring_copyFrom (z_h := z_h_one) (z_g1 := z_g1) a_h_one a_h_one_kinds a_h_one_sweets a_h_one_settings a_h_one_heaps a_g1 a_g1_kinds a_g1_sweets a_g1_settings a_g1_heaps hq1) k_441 k_326 k_327 k_2 k_328 hd_Ring_copyFrom ⟨Nat.le_of_ble_eq_true rfl, Nat.le_of_ble_eq_true rfl⟩ xE0_ok trivial hA hK hP hD hS [1, 2, 3, 4, 5, 6, 7, 8, 9] [0] [0, 1, 2, 3, 4, 5, 6, 7, 8, 9] rfl rfl rfl rfl rfl rfl rfl rfl rfl rfl hl.1 rfl (Nat.le_of_ble_eq_true rfl) ⟨Nat.zero_le _, Nat.zero_le _⟩ d_Mind_sweetsBehind_5 (fun H locs hP hD hS => ?_)
  refine lv_aload_n hx hb d_Mind_sweetsBehind_8 rfl (lv_at hl 0 rfl) ?_
  refine va_get hx hb hT i_Mind hown hK hP 0 rfl rfl 0 (Nat.le_of_ble_eq_true rfl) (hT _ k_106) (fun _ h => h) rfl d_Mind_sweetsBehind_9 ?_
  refine lv_iload_n hx hb d_Mind_sweetsBehind_12 rfl (lv_at hl 3 rfl) ?_
  obtain ⟨q2, hq2, hf⟩ := io_b hf
  refine xcVV (wc := (w_Ring_strikeOften cI cJ cC a_h_one a_h_one_kinds a_h_one_sweets a_h_one_settings a_h_one_heaps (r_children q1) (r_strokes q1) (r_gave q1) (r_threw q1) (r_kinds q1) (r_sweets q1) (r_settings q1) (r_heaps q1))) (wc' := (w_Ring_strikeOften cI cJ cC a_h_one a_h_one_kinds a_h_one_sweets a_h_one_settings a_h_one_heaps (r_children q2) (r_strokes q2) (r_gave q2) (r_threw q2) (r_kinds q2) (r_sweets q2) (r_settings q2) (r_heaps q2))) (ws' := (w_Mind_sweetsBehind cI cJ cC a_h a_h_one a_h_two a_h_one_kinds a_h_one_sweets a_h_one_settings a_h_one_heaps a_g1 a_g1_kinds a_g1_sweets a_g1_settings a_g1_heaps y_h_seed (r_children q2) (r_strokes q2) (r_gave q2) (r_threw q2) (r_kinds q2) (r_sweets q2) (r_settings q2) (r_heaps q2) (r_children z_g1) (r_strokes z_g1) (r_gave z_g1) (r_threw z_g1) (r_kinds z_g1) (r_sweets z_g1) (r_settings z_g1))) (As := [.int x3]) (rest := []) hx hb hml hown hT (c_Ring_strikeOften (z_h := q1) a_h_one a_h_one_kinds a_h_one_sweets a_h_one_settings a_h_one_heaps hq2) k_442 k_443 k_444 k_2 k_445 hd_Ring_strikeOften ⟨Nat.le_of_ble_eq_true rfl, Nat.le_of_ble_eq_true rfl⟩ xE0_ok trivial hA hK hP hD hS [1, 2, 3, 4, 5] [0, 6, 7, 8, 9] [0, 5, 6, 7, 8, 9, 1, 2, 3, 4] rfl rfl rfl rfl rfl rfl rfl rfl rfl rfl hl.1 rfl (Nat.le_of_ble_eq_true rfl) ⟨Nat.zero_le _, Nat.zero_le _⟩ d_Mind_sweetsBehind_13 (fun H locs hP hD hS => ?_)
  refine lv_aload_n hx hb d_Mind_sweetsBehind_16 rfl (lv_at hl 0 rfl) ?_
  refine va_get hx hb hT i_Mind hown hK hP 0 rfl rfl 0 (Nat.le_of_ble_eq_true rfl) (hT _ k_106) (fun _ h => h) rfl d_Mind_sweetsBehind_17 ?_
  refine va_get hx hb hT i_Ring hown hK hP 1 rfl rfl 1 (Nat.le_of_ble_eq_true rfl) (hT _ k_36) (fun _ h => h) rfl d_Mind_sweetsBehind_20 ?_
  refine lv_iload_n hx hb d_Mind_sweetsBehind_23 rfl (lv_at hl 2 rfl) ?_
  obtain ⟨c3, hf⟩ := io_n hf
  refine x_iald hx hb hK hP 3 0 rfl rfl (j := x2.toNatClampNeg) rfl c3 d_Mind_sweetsBehind_24 ?_
  have hq := Option.some.inj hf
  subst hq
  exact hret _ _ _ _ _ d_Mind_sweetsBehind_25 rfl rfl hP hD hS
abbrev w_Mind_gaveIn (cI cJ cC : ClassId) (a_h a_h_one a_h_two a_h_one_kinds a_h_one_sweets a_h_one_settings a_h_one_heaps a_g1 a_g1_kinds a_g1_sweets a_g1_settings a_g1_heaps : Nat) (y_h_seed : Int32) (p_h_one_children : Int32) (p_h_one_strokes : Int32) (p_h_one_gave : Int32) (p_h_one_threw : Int32) (p_h_one_kinds : (Nat → Int32)) (p_h_one_sweets : (Nat → Int32)) (p_h_one_settings : (Nat → Int32)) (p_h_one_heaps : (Nat → Int32)) (p_g1_children : Int32) (p_g1_strokes : Int32) (p_g1_gave : Int32) (p_g1_threw : Int32) (p_g1_kinds : (Nat → Int32)) (p_g1_sweets : (Nat → Int32)) (p_g1_settings : (Nat → Int32)) : va_W := [(a_h, .inr (3, [.ref a_h_one, .ref a_h_two, .int y_h_seed])), (a_h_one, .inr (1, [.ref a_h_one_kinds, .ref a_h_one_sweets, .ref a_h_one_settings, .int p_h_one_children, .int p_h_one_strokes, .int p_h_one_gave, .int p_h_one_threw, .ref a_h_one_heaps])), (a_h_one_kinds, .inl (cI, (8, .inl p_h_one_kinds))), (a_h_one_sweets, .inl (cI, (8, .inl p_h_one_sweets))), (a_h_one_settings, .inl (cI, (3, .inl p_h_one_settings))), (a_h_one_heaps, .inl (cI, (8, .inl p_h_one_heaps))), (a_g1, .inr (1, [.ref a_g1_kinds, .ref a_g1_sweets, .ref a_g1_settings, .int p_g1_children, .int p_g1_strokes, .int p_g1_gave, .int p_g1_threw, .ref a_g1_heaps])), (a_g1_kinds, .inl (cI, (8, .inl p_g1_kinds))), (a_g1_sweets, .inl (cI, (8, .inl p_g1_sweets))), (a_g1_settings, .inl (cI, (3, .inl p_g1_settings)))]
theorem d_Mind_gaveIn_0 : decode b_Mind_gaveIn 0 = .ok (.aload_n 0, 1) := by decide +kernel
theorem d_Mind_gaveIn_1 : decode b_Mind_gaveIn 1 = .ok (.getfield 12, 3) := by decide +kernel
theorem d_Mind_gaveIn_4 : decode b_Mind_gaveIn 4 = .ok (.aload_n 1, 1) := by decide +kernel
theorem d_Mind_gaveIn_5 : decode b_Mind_gaveIn 5 = .ok (.invokevirtual 25, 3) := by decide +kernel
theorem d_Mind_gaveIn_8 : decode b_Mind_gaveIn 8 = .ok (.aload_n 0, 1) := by decide +kernel
theorem d_Mind_gaveIn_9 : decode b_Mind_gaveIn 9 = .ok (.getfield 12, 3) := by decide +kernel
theorem d_Mind_gaveIn_12 : decode b_Mind_gaveIn 12 = .ok (.iload_n 2, 1) := by decide +kernel
theorem d_Mind_gaveIn_13 : decode b_Mind_gaveIn 13 = .ok (.invokevirtual 29, 3) := by decide +kernel
theorem d_Mind_gaveIn_16 : decode b_Mind_gaveIn 16 = .ok (.aload_n 0, 1) := by decide +kernel
theorem d_Mind_gaveIn_17 : decode b_Mind_gaveIn 17 = .ok (.getfield 12, 3) := by decide +kernel
theorem d_Mind_gaveIn_20 : decode b_Mind_gaveIn 20 = .ok (.getfield 37, 3) := by decide +kernel
theorem d_Mind_gaveIn_23 : decode b_Mind_gaveIn 23 = .ok (.aload_n 1, 1) := by decide +kernel
theorem d_Mind_gaveIn_24 : decode b_Mind_gaveIn 24 = .ok (.getfield 37, 3) := by decide +kernel
theorem d_Mind_gaveIn_27 : decode b_Mind_gaveIn 27 = .ok (.isub, 1) := by decide +kernel
theorem d_Mind_gaveIn_28 : decode b_Mind_gaveIn 28 = .ok (.ireturn, 1) := by decide +kernel
set_option maxHeartbeats 4000000 in
set_option maxRecDepth 100000 in
theorem c_Mind_gaveIn {l : Launch} {D : va_G} {cI cJ cC : ClassId} (a_h a_h_one a_h_two a_h_one_kinds a_h_one_sweets a_h_one_settings a_h_one_heaps a_g1 a_g1_kinds a_g1_sweets a_g1_settings a_g1_heaps : Nat) (y_h_seed : Int32) {z_h_one : RS} {z_g1 : RS} {x2 : Int32} {q : Int32 × RS} (hf : f_Mind_gaveIn z_h_one z_g1 x2 = some q) : xI l y_Mind_gaveIn b_Mind_gaveIn 3 .int 5 111 D (tyK cI cJ cC) xE0 [.ref a_h, .ref a_g1, .int x2] (w_Mind_gaveIn cI cJ cC a_h a_h_one a_h_two a_h_one_kinds a_h_one_sweets a_h_one_settings a_h_one_heaps a_g1 a_g1_kinds a_g1_sweets a_g1_settings a_g1_heaps y_h_seed (r_children z_h_one) (r_strokes z_h_one) (r_gave z_h_one) (r_threw z_h_one) (r_kinds z_h_one) (r_sweets z_h_one) (r_settings z_h_one) (r_heaps z_h_one) (r_children z_g1) (r_strokes z_g1) (r_gave z_g1) (r_threw z_g1) (r_kinds z_g1) (r_sweets z_g1) (r_settings z_g1)) q.1 (w_Mind_gaveIn cI cJ cC a_h a_h_one a_h_two a_h_one_kinds a_h_one_sweets a_h_one_settings a_h_one_heaps a_g1 a_g1_kinds a_g1_sweets a_g1_settings a_g1_heaps y_h_seed (r_children q.2) (r_strokes q.2) (r_gave q.2) (r_threw q.2) (r_kinds q.2) (r_sweets q.2) (r_settings q.2) (r_heaps q.2) (r_children z_g1) (r_strokes z_g1) (r_gave z_g1) (r_threw z_g1) (r_kinds z_g1) (r_sweets z_g1) (r_settings z_g1)) := by
  refine xI_of (by decide) (Nat.le_of_ble_eq_true rfl) ?_
  intro p e s m args below meth c A Q hx hb hml hown hT hA hP hD hK hS hE hret ls hl
  have hown : s.vm.findClass R_Mind = some m.cls := hown
  have hl : lv_has ls 3 [(0, .ref a_h), (1, .ref a_g1), (2, .int x2)] := hl
  unfold f_Mind_gaveIn at hf
  refine lv_aload_n hx hb d_Mind_gaveIn_0 rfl (lv_at hl 0 rfl) ?_
  refine va_get hx hb hT i_Mind hown hK hP 0 rfl rfl 0 (Nat.le_of_ble_eq_true rfl) (hT _ k_106) (fun _ h => h) rfl d_Mind_gaveIn_1 ?_
  refine lv_aload_n hx hb d_Mind_gaveIn_4 rfl (lv_at hl 1 rfl) ?_
  obtain ⟨q1, hq1, hf⟩ := io_b hf
  refine xcVV (wc := (w_Ring_copyFrom cI cJ cC a_h_one a_h_one_kinds a_h_one_sweets a_h_one_settings a_h_one_heaps a_g1 a_g1_kinds a_g1_sweets a_g1_settings a_g1_heaps (r_children z_h_one) (r_strokes z_h_one) (r_gave z_h_one) (r_threw z_h_one) (r_kinds z_h_one) (r_sweets z_h_one) (r_settings z_h_one) (r_heaps z_h_one) (r_children z_g1) (r_strokes z_g1) (r_gave z_g1) (r_threw z_g1) (r_kinds z_g1) (r_sweets z_g1) (r_settings z_g1))) (wc' := (w_Ring_copyFrom cI cJ cC a_h_one a_h_one_kinds a_h_one_sweets a_h_one_settings a_h_one_heaps a_g1 a_g1_kinds a_g1_sweets a_g1_settings a_g1_heaps (r_children q1) (r_strokes q1) (r_gave q1) (r_threw q1) (r_kinds q1) (r_sweets q1) (r_settings q1) (r_heaps q1) (r_children z_g1) (r_strokes z_g1) (r_gave z_g1) (r_threw z_g1) (r_kinds z_g1) (r_sweets z_g1) (r_settings z_g1))) (ws' := (w_Mind_gaveIn cI cJ cC a_h a_h_one a_h_two a_h_one_kinds a_h_one_sweets a_h_one_settings a_h_one_heaps a_g1 a_g1_kinds a_g1_sweets a_g1_settings a_g1_heaps y_h_seed (r_children q1) (r_strokes q1) (r_gave q1) (r_threw q1) (r_kinds q1) (r_sweets q1) (r_settings q1) (r_heaps q1) (r_children z_g1) (r_strokes z_g1) (r_gave z_g1) (r_threw z_g1) (r_kinds z_g1) (r_sweets z_g1) (r_settings z_g1))) (As := [.ref a_g1]) (rest := []) hx hb hml hown hT (c_Ring_copyFrom (z_h := z_h_one) (z_g1 := z_g1) a_h_one a_h_one_kinds a_h_one_sweets a_h_one_settings a_h_one_heaps a_g1 a_g1_kinds a_g1_sweets a_g1_settings a_g1_heaps hq1) k_441 k_326 k_327 k_2 k_328 hd_Ring_copyFrom ⟨Nat.le_of_ble_eq_true rfl, Nat.le_of_ble_eq_true rfl⟩ xE0_ok trivial hA hK hP hD hS [1, 2, 3, 4, 5, 6, 7, 8, 9] [0] [0, 1, 2, 3, 4, 5, 6, 7, 8, 9] rfl rfl rfl rfl rfl rfl rfl rfl rfl rfl hl.1 rfl (Nat.le_of_ble_eq_true rfl) ⟨Nat.zero_le _, Nat.zero_le _⟩ d_Mind_gaveIn_5 (fun H locs hP hD hS => ?_)
  refine lv_aload_n hx hb d_Mind_gaveIn_8 rfl (lv_at hl 0 rfl) ?_
  refine va_get hx hb hT i_Mind hown hK hP 0 rfl rfl 0 (Nat.le_of_ble_eq_true rfl) (hT _ k_106) (fun _ h => h) rfl d_Mind_gaveIn_9 ?_
  refine lv_iload_n hx hb d_Mind_gaveIn_12 rfl (lv_at hl 2 rfl) ?_
  obtain ⟨q2, hq2, hf⟩ := io_b hf
  refine xcVV (wc := (w_Ring_strikeOften cI cJ cC a_h_one a_h_one_kinds a_h_one_sweets a_h_one_settings a_h_one_heaps (r_children q1) (r_strokes q1) (r_gave q1) (r_threw q1) (r_kinds q1) (r_sweets q1) (r_settings q1) (r_heaps q1))) (wc' := (w_Ring_strikeOften cI cJ cC a_h_one a_h_one_kinds a_h_one_sweets a_h_one_settings a_h_one_heaps (r_children q2) (r_strokes q2) (r_gave q2) (r_threw q2) (r_kinds q2) (r_sweets q2) (r_settings q2) (r_heaps q2))) (ws' := (w_Mind_gaveIn cI cJ cC a_h a_h_one a_h_two a_h_one_kinds a_h_one_sweets a_h_one_settings a_h_one_heaps a_g1 a_g1_kinds a_g1_sweets a_g1_settings a_g1_heaps y_h_seed (r_children q2) (r_strokes q2) (r_gave q2) (r_threw q2) (r_kinds q2) (r_sweets q2) (r_settings q2) (r_heaps q2) (r_children z_g1) (r_strokes z_g1) (r_gave z_g1) (r_threw z_g1) (r_kinds z_g1) (r_sweets z_g1) (r_settings z_g1))) (As := [.int x2]) (rest := []) hx hb hml hown hT (c_Ring_strikeOften (z_h := q1) a_h_one a_h_one_kinds a_h_one_sweets a_h_one_settings a_h_one_heaps hq2) k_442 k_443 k_444 k_2 k_445 hd_Ring_strikeOften ⟨Nat.le_of_ble_eq_true rfl, Nat.le_of_ble_eq_true rfl⟩ xE0_ok trivial hA hK hP hD hS [1, 2, 3, 4, 5] [0, 6, 7, 8, 9] [0, 5, 6, 7, 8, 9, 1, 2, 3, 4] rfl rfl rfl rfl rfl rfl rfl rfl rfl rfl hl.1 rfl (Nat.le_of_ble_eq_true rfl) ⟨Nat.zero_le _, Nat.zero_le _⟩ d_Mind_gaveIn_13 (fun H locs hP hD hS => ?_)
  refine lv_aload_n hx hb d_Mind_gaveIn_16 rfl (lv_at hl 0 rfl) ?_
  refine va_get hx hb hT i_Mind hown hK hP 0 rfl rfl 0 (Nat.le_of_ble_eq_true rfl) (hT _ k_106) (fun _ h => h) rfl d_Mind_gaveIn_17 ?_
  refine va_get hx hb hT i_Ring hown hK hP 1 rfl rfl 5 (Nat.le_of_ble_eq_true rfl) (hT _ k_53) (fun _ h => h) rfl d_Mind_gaveIn_20 ?_
  refine lv_aload_n hx hb d_Mind_gaveIn_23 rfl (lv_at hl 1 rfl) ?_
  refine va_get hx hb hT i_Ring hown hK hP 6 rfl rfl 5 (Nat.le_of_ble_eq_true rfl) (hT _ k_53) (fun _ h => h) rfl d_Mind_gaveIn_24 ?_
  refine lv_isub hx hb d_Mind_gaveIn_27 ?_
  have hq := Option.some.inj hf
  subst hq
  exact hret _ _ _ _ _ d_Mind_gaveIn_28 rfl rfl hP hD hS
abbrev w_Mind_threwIn (cI cJ cC : ClassId) (a_h a_h_one a_h_two a_h_one_kinds a_h_one_sweets a_h_one_settings a_h_one_heaps a_g1 a_g1_kinds a_g1_sweets a_g1_settings a_g1_heaps : Nat) (y_h_seed : Int32) (p_h_one_children : Int32) (p_h_one_strokes : Int32) (p_h_one_gave : Int32) (p_h_one_threw : Int32) (p_h_one_kinds : (Nat → Int32)) (p_h_one_sweets : (Nat → Int32)) (p_h_one_settings : (Nat → Int32)) (p_h_one_heaps : (Nat → Int32)) (p_g1_children : Int32) (p_g1_strokes : Int32) (p_g1_gave : Int32) (p_g1_threw : Int32) (p_g1_kinds : (Nat → Int32)) (p_g1_sweets : (Nat → Int32)) (p_g1_settings : (Nat → Int32)) : va_W := [(a_h, .inr (3, [.ref a_h_one, .ref a_h_two, .int y_h_seed])), (a_h_one, .inr (1, [.ref a_h_one_kinds, .ref a_h_one_sweets, .ref a_h_one_settings, .int p_h_one_children, .int p_h_one_strokes, .int p_h_one_gave, .int p_h_one_threw, .ref a_h_one_heaps])), (a_h_one_kinds, .inl (cI, (8, .inl p_h_one_kinds))), (a_h_one_sweets, .inl (cI, (8, .inl p_h_one_sweets))), (a_h_one_settings, .inl (cI, (3, .inl p_h_one_settings))), (a_h_one_heaps, .inl (cI, (8, .inl p_h_one_heaps))), (a_g1, .inr (1, [.ref a_g1_kinds, .ref a_g1_sweets, .ref a_g1_settings, .int p_g1_children, .int p_g1_strokes, .int p_g1_gave, .int p_g1_threw, .ref a_g1_heaps])), (a_g1_kinds, .inl (cI, (8, .inl p_g1_kinds))), (a_g1_sweets, .inl (cI, (8, .inl p_g1_sweets))), (a_g1_settings, .inl (cI, (3, .inl p_g1_settings)))]
theorem d_Mind_threwIn_0 : decode b_Mind_threwIn 0 = .ok (.aload_n 0, 1) := by decide +kernel
theorem d_Mind_threwIn_1 : decode b_Mind_threwIn 1 = .ok (.getfield 12, 3) := by decide +kernel
theorem d_Mind_threwIn_4 : decode b_Mind_threwIn 4 = .ok (.aload_n 1, 1) := by decide +kernel
theorem d_Mind_threwIn_5 : decode b_Mind_threwIn 5 = .ok (.invokevirtual 25, 3) := by decide +kernel
theorem d_Mind_threwIn_8 : decode b_Mind_threwIn 8 = .ok (.aload_n 0, 1) := by decide +kernel
theorem d_Mind_threwIn_9 : decode b_Mind_threwIn 9 = .ok (.getfield 12, 3) := by decide +kernel
theorem d_Mind_threwIn_12 : decode b_Mind_threwIn 12 = .ok (.iload_n 2, 1) := by decide +kernel
theorem d_Mind_threwIn_13 : decode b_Mind_threwIn 13 = .ok (.invokevirtual 29, 3) := by decide +kernel
theorem d_Mind_threwIn_16 : decode b_Mind_threwIn 16 = .ok (.aload_n 0, 1) := by decide +kernel
theorem d_Mind_threwIn_17 : decode b_Mind_threwIn 17 = .ok (.getfield 12, 3) := by decide +kernel
theorem d_Mind_threwIn_20 : decode b_Mind_threwIn 20 = .ok (.getfield 40, 3) := by decide +kernel
theorem d_Mind_threwIn_23 : decode b_Mind_threwIn 23 = .ok (.aload_n 1, 1) := by decide +kernel
theorem d_Mind_threwIn_24 : decode b_Mind_threwIn 24 = .ok (.getfield 40, 3) := by decide +kernel
theorem d_Mind_threwIn_27 : decode b_Mind_threwIn 27 = .ok (.isub, 1) := by decide +kernel
theorem d_Mind_threwIn_28 : decode b_Mind_threwIn 28 = .ok (.ireturn, 1) := by decide +kernel
set_option maxHeartbeats 4000000 in
set_option maxRecDepth 100000 in
theorem c_Mind_threwIn {l : Launch} {D : va_G} {cI cJ cC : ClassId} (a_h a_h_one a_h_two a_h_one_kinds a_h_one_sweets a_h_one_settings a_h_one_heaps a_g1 a_g1_kinds a_g1_sweets a_g1_settings a_g1_heaps : Nat) (y_h_seed : Int32) {z_h_one : RS} {z_g1 : RS} {x2 : Int32} {q : Int32 × RS} (hf : f_Mind_threwIn z_h_one z_g1 x2 = some q) : xI l y_Mind_threwIn b_Mind_threwIn 3 .int 5 111 D (tyK cI cJ cC) xE0 [.ref a_h, .ref a_g1, .int x2] (w_Mind_threwIn cI cJ cC a_h a_h_one a_h_two a_h_one_kinds a_h_one_sweets a_h_one_settings a_h_one_heaps a_g1 a_g1_kinds a_g1_sweets a_g1_settings a_g1_heaps y_h_seed (r_children z_h_one) (r_strokes z_h_one) (r_gave z_h_one) (r_threw z_h_one) (r_kinds z_h_one) (r_sweets z_h_one) (r_settings z_h_one) (r_heaps z_h_one) (r_children z_g1) (r_strokes z_g1) (r_gave z_g1) (r_threw z_g1) (r_kinds z_g1) (r_sweets z_g1) (r_settings z_g1)) q.1 (w_Mind_threwIn cI cJ cC a_h a_h_one a_h_two a_h_one_kinds a_h_one_sweets a_h_one_settings a_h_one_heaps a_g1 a_g1_kinds a_g1_sweets a_g1_settings a_g1_heaps y_h_seed (r_children q.2) (r_strokes q.2) (r_gave q.2) (r_threw q.2) (r_kinds q.2) (r_sweets q.2) (r_settings q.2) (r_heaps q.2) (r_children z_g1) (r_strokes z_g1) (r_gave z_g1) (r_threw z_g1) (r_kinds z_g1) (r_sweets z_g1) (r_settings z_g1)) := by
  refine xI_of (by decide) (Nat.le_of_ble_eq_true rfl) ?_
  intro p e s m args below meth c A Q hx hb hml hown hT hA hP hD hK hS hE hret ls hl
  have hown : s.vm.findClass R_Mind = some m.cls := hown
  have hl : lv_has ls 3 [(0, .ref a_h), (1, .ref a_g1), (2, .int x2)] := hl
  unfold f_Mind_threwIn at hf
  refine lv_aload_n hx hb d_Mind_threwIn_0 rfl (lv_at hl 0 rfl) ?_
  refine va_get hx hb hT i_Mind hown hK hP 0 rfl rfl 0 (Nat.le_of_ble_eq_true rfl) (hT _ k_106) (fun _ h => h) rfl d_Mind_threwIn_1 ?_
  refine lv_aload_n hx hb d_Mind_threwIn_4 rfl (lv_at hl 1 rfl) ?_
  obtain ⟨q1, hq1, hf⟩ := io_b hf
  refine xcVV (wc := (w_Ring_copyFrom cI cJ cC a_h_one a_h_one_kinds a_h_one_sweets a_h_one_settings a_h_one_heaps a_g1 a_g1_kinds a_g1_sweets a_g1_settings a_g1_heaps (r_children z_h_one) (r_strokes z_h_one) (r_gave z_h_one) (r_threw z_h_one) (r_kinds z_h_one) (r_sweets z_h_one) (r_settings z_h_one) (r_heaps z_h_one) (r_children z_g1) (r_strokes z_g1) (r_gave z_g1) (r_threw z_g1) (r_kinds z_g1) (r_sweets z_g1) (r_settings z_g1))) (wc' := (w_Ring_copyFrom cI cJ cC a_h_one a_h_one_kinds a_h_one_sweets a_h_one_settings a_h_one_heaps a_g1 a_g1_kinds a_g1_sweets a_g1_settings a_g1_heaps (r_children q1) (r_strokes q1) (r_gave q1) (r_threw q1) (r_kinds q1) (r_sweets q1) (r_settings q1) (r_heaps q1) (r_children z_g1) (r_strokes z_g1) (r_gave z_g1) (r_threw z_g1) (r_kinds z_g1) (r_sweets z_g1) (r_settings z_g1))) (ws' := (w_Mind_threwIn cI cJ cC a_h a_h_one a_h_two a_h_one_kinds a_h_one_sweets a_h_one_settings a_h_one_heaps a_g1 a_g1_kinds a_g1_sweets a_g1_settings a_g1_heaps y_h_seed (r_children q1) (r_strokes q1) (r_gave q1) (r_threw q1) (r_kinds q1) (r_sweets q1) (r_settings q1) (r_heaps q1) (r_children z_g1) (r_strokes z_g1) (r_gave z_g1) (r_threw z_g1) (r_kinds z_g1) (r_sweets z_g1) (r_settings z_g1))) (As := [.ref a_g1]) (rest := []) hx hb hml hown hT (c_Ring_copyFrom (z_h := z_h_one) (z_g1 := z_g1) a_h_one a_h_one_kinds a_h_one_sweets a_h_one_settings a_h_one_heaps a_g1 a_g1_kinds a_g1_sweets a_g1_settings a_g1_heaps hq1) k_441 k_326 k_327 k_2 k_328 hd_Ring_copyFrom ⟨Nat.le_of_ble_eq_true rfl, Nat.le_of_ble_eq_true rfl⟩ xE0_ok trivial hA hK hP hD hS [1, 2, 3, 4, 5, 6, 7, 8, 9] [0] [0, 1, 2, 3, 4, 5, 6, 7, 8, 9] rfl rfl rfl rfl rfl rfl rfl rfl rfl rfl hl.1 rfl (Nat.le_of_ble_eq_true rfl) ⟨Nat.zero_le _, Nat.zero_le _⟩ d_Mind_threwIn_5 (fun H locs hP hD hS => ?_)
  refine lv_aload_n hx hb d_Mind_threwIn_8 rfl (lv_at hl 0 rfl) ?_
  refine va_get hx hb hT i_Mind hown hK hP 0 rfl rfl 0 (Nat.le_of_ble_eq_true rfl) (hT _ k_106) (fun _ h => h) rfl d_Mind_threwIn_9 ?_
  refine lv_iload_n hx hb d_Mind_threwIn_12 rfl (lv_at hl 2 rfl) ?_
  obtain ⟨q2, hq2, hf⟩ := io_b hf
  refine xcVV (wc := (w_Ring_strikeOften cI cJ cC a_h_one a_h_one_kinds a_h_one_sweets a_h_one_settings a_h_one_heaps (r_children q1) (r_strokes q1) (r_gave q1) (r_threw q1) (r_kinds q1) (r_sweets q1) (r_settings q1) (r_heaps q1))) (wc' := (w_Ring_strikeOften cI cJ cC a_h_one a_h_one_kinds a_h_one_sweets a_h_one_settings a_h_one_heaps (r_children q2) (r_strokes q2) (r_gave q2) (r_threw q2) (r_kinds q2) (r_sweets q2) (r_settings q2) (r_heaps q2))) (ws' := (w_Mind_threwIn cI cJ cC a_h a_h_one a_h_two a_h_one_kinds a_h_one_sweets a_h_one_settings a_h_one_heaps a_g1 a_g1_kinds a_g1_sweets a_g1_settings a_g1_heaps y_h_seed (r_children q2) (r_strokes q2) (r_gave q2) (r_threw q2) (r_kinds q2) (r_sweets q2) (r_settings q2) (r_heaps q2) (r_children z_g1) (r_strokes z_g1) (r_gave z_g1) (r_threw z_g1) (r_kinds z_g1) (r_sweets z_g1) (r_settings z_g1))) (As := [.int x2]) (rest := []) hx hb hml hown hT (c_Ring_strikeOften (z_h := q1) a_h_one a_h_one_kinds a_h_one_sweets a_h_one_settings a_h_one_heaps hq2) k_442 k_443 k_444 k_2 k_445 hd_Ring_strikeOften ⟨Nat.le_of_ble_eq_true rfl, Nat.le_of_ble_eq_true rfl⟩ xE0_ok trivial hA hK hP hD hS [1, 2, 3, 4, 5] [0, 6, 7, 8, 9] [0, 5, 6, 7, 8, 9, 1, 2, 3, 4] rfl rfl rfl rfl rfl rfl rfl rfl rfl rfl hl.1 rfl (Nat.le_of_ble_eq_true rfl) ⟨Nat.zero_le _, Nat.zero_le _⟩ d_Mind_threwIn_13 (fun H locs hP hD hS => ?_)
  refine lv_aload_n hx hb d_Mind_threwIn_16 rfl (lv_at hl 0 rfl) ?_
  refine va_get hx hb hT i_Mind hown hK hP 0 rfl rfl 0 (Nat.le_of_ble_eq_true rfl) (hT _ k_106) (fun _ h => h) rfl d_Mind_threwIn_17 ?_
  refine va_get hx hb hT i_Ring hown hK hP 1 rfl rfl 6 (Nat.le_of_ble_eq_true rfl) (hT _ k_57) (fun _ h => h) rfl d_Mind_threwIn_20 ?_
  refine lv_aload_n hx hb d_Mind_threwIn_23 rfl (lv_at hl 1 rfl) ?_
  refine va_get hx hb hT i_Ring hown hK hP 6 rfl rfl 6 (Nat.le_of_ble_eq_true rfl) (hT _ k_57) (fun _ h => h) rfl d_Mind_threwIn_24 ?_
  refine lv_isub hx hb d_Mind_threwIn_27 ?_
  have hq := Option.some.inj hf
  subst hq
  exact hret _ _ _ _ _ d_Mind_threwIn_28 rfl rfl hP hD hS
abbrev w_Mind_restsBehind (cI cJ cC : ClassId) (a_h a_h_one a_h_two a_h_one_kinds a_h_one_sweets a_h_one_settings a_h_one_heaps a_h_two_kinds a_h_two_sweets a_h_two_settings a_h_two_heaps a_g1 a_g1_kinds a_g1_sweets a_g1_settings a_g1_heaps : Nat) (y_h_seed : Int32) (p_h_one_children : Int32) (p_h_one_strokes : Int32) (p_h_one_gave : Int32) (p_h_one_threw : Int32) (p_h_one_kinds : (Nat → Int32)) (p_h_one_sweets : (Nat → Int32)) (p_h_one_settings : (Nat → Int32)) (p_h_one_heaps : (Nat → Int32)) (p_h_two_children : Int32) (p_h_two_strokes : Int32) (p_h_two_gave : Int32) (p_h_two_threw : Int32) (p_h_two_kinds : (Nat → Int32)) (p_h_two_sweets : (Nat → Int32)) (p_h_two_settings : (Nat → Int32)) (p_h_two_heaps : (Nat → Int32)) (p_g1_children : Int32) (p_g1_strokes : Int32) (p_g1_gave : Int32) (p_g1_threw : Int32) (p_g1_kinds : (Nat → Int32)) (p_g1_sweets : (Nat → Int32)) (p_g1_settings : (Nat → Int32)) : va_W := [(a_h, .inr (3, [.ref a_h_one, .ref a_h_two, .int y_h_seed])), (a_h_one, .inr (1, [.ref a_h_one_kinds, .ref a_h_one_sweets, .ref a_h_one_settings, .int p_h_one_children, .int p_h_one_strokes, .int p_h_one_gave, .int p_h_one_threw, .ref a_h_one_heaps])), (a_h_one_kinds, .inl (cI, (8, .inl p_h_one_kinds))), (a_h_one_sweets, .inl (cI, (8, .inl p_h_one_sweets))), (a_h_one_settings, .inl (cI, (3, .inl p_h_one_settings))), (a_h_one_heaps, .inl (cI, (8, .inl p_h_one_heaps))), (a_h_two, .inr (1, [.ref a_h_two_kinds, .ref a_h_two_sweets, .ref a_h_two_settings, .int p_h_two_children, .int p_h_two_strokes, .int p_h_two_gave, .int p_h_two_threw, .ref a_h_two_heaps])), (a_h_two_kinds, .inl (cI, (8, .inl p_h_two_kinds))), (a_h_two_sweets, .inl (cI, (8, .inl p_h_two_sweets))), (a_h_two_settings, .inl (cI, (3, .inl p_h_two_settings))), (a_h_two_heaps, .inl (cI, (8, .inl p_h_two_heaps))), (a_g1, .inr (1, [.ref a_g1_kinds, .ref a_g1_sweets, .ref a_g1_settings, .int p_g1_children, .int p_g1_strokes, .int p_g1_gave, .int p_g1_threw, .ref a_g1_heaps])), (a_g1_kinds, .inl (cI, (8, .inl p_g1_kinds))), (a_g1_sweets, .inl (cI, (8, .inl p_g1_sweets))), (a_g1_settings, .inl (cI, (3, .inl p_g1_settings)))]
theorem d_Mind_restsBehind_0 : decode b_Mind_restsBehind 0 = .ok (.aload_n 0, 1) := by decide +kernel
theorem d_Mind_restsBehind_1 : decode b_Mind_restsBehind 1 = .ok (.getfield 12, 3) := by decide +kernel
theorem d_Mind_restsBehind_4 : decode b_Mind_restsBehind 4 = .ok (.aload_n 1, 1) := by decide +kernel
theorem d_Mind_restsBehind_5 : decode b_Mind_restsBehind 5 = .ok (.invokevirtual 25, 3) := by decide +kernel
theorem d_Mind_restsBehind_8 : decode b_Mind_restsBehind 8 = .ok (.aload_n 0, 1) := by decide +kernel
theorem d_Mind_restsBehind_9 : decode b_Mind_restsBehind 9 = .ok (.getfield 18, 3) := by decide +kernel
theorem d_Mind_restsBehind_12 : decode b_Mind_restsBehind 12 = .ok (.aload_n 1, 1) := by decide +kernel
theorem d_Mind_restsBehind_13 : decode b_Mind_restsBehind 13 = .ok (.invokevirtual 25, 3) := by decide +kernel
theorem d_Mind_restsBehind_16 : decode b_Mind_restsBehind 16 = .ok (.iconst 0, 1) := by decide +kernel
theorem d_Mind_restsBehind_17 : decode b_Mind_restsBehind 17 = .ok (.istore_n 2, 1) := by decide +kernel
theorem d_Mind_restsBehind_18 : decode b_Mind_restsBehind 18 = .ok (.iload_n 2, 1) := by decide +kernel
theorem d_Mind_restsBehind_19 : decode b_Mind_restsBehind 19 = .ok (.sipush 200, 3) := by decide +kernel
theorem d_Mind_restsBehind_22 : decode b_Mind_restsBehind 22 = .ok (.if_icmp .gt 44, 3) := by decide +kernel
theorem d_Mind_restsBehind_25 : decode b_Mind_restsBehind 25 = .ok (.aload_n 0, 1) := by decide +kernel
theorem d_Mind_restsBehind_26 : decode b_Mind_restsBehind 26 = .ok (.getfield 18, 3) := by decide +kernel
theorem d_Mind_restsBehind_29 : decode b_Mind_restsBehind 29 = .ok (.invokevirtual 43, 3) := by decide +kernel
theorem d_Mind_restsBehind_32 : decode b_Mind_restsBehind 32 = .ok (.pop, 1) := by decide +kernel
theorem d_Mind_restsBehind_33 : decode b_Mind_restsBehind 33 = .ok (.aload_n 0, 1) := by decide +kernel
theorem d_Mind_restsBehind_34 : decode b_Mind_restsBehind 34 = .ok (.getfield 18, 3) := by decide +kernel
theorem d_Mind_restsBehind_37 : decode b_Mind_restsBehind 37 = .ok (.aload_n 0, 1) := by decide +kernel
theorem d_Mind_restsBehind_38 : decode b_Mind_restsBehind 38 = .ok (.getfield 12, 3) := by decide +kernel
theorem d_Mind_restsBehind_41 : decode b_Mind_restsBehind 41 = .ok (.invokevirtual 47, 3) := by decide +kernel
theorem d_Mind_restsBehind_44 : decode b_Mind_restsBehind 44 = .ok (.ifCond .eq 5, 3) := by decide +kernel
theorem d_Mind_restsBehind_47 : decode b_Mind_restsBehind 47 = .ok (.iload_n 2, 1) := by decide +kernel
theorem d_Mind_restsBehind_48 : decode b_Mind_restsBehind 48 = .ok (.ireturn, 1) := by decide +kernel
theorem d_Mind_restsBehind_49 : decode b_Mind_restsBehind 49 = .ok (.aload_n 0, 1) := by decide +kernel
theorem d_Mind_restsBehind_50 : decode b_Mind_restsBehind 50 = .ok (.getfield 12, 3) := by decide +kernel
theorem d_Mind_restsBehind_53 : decode b_Mind_restsBehind 53 = .ok (.aload_n 0, 1) := by decide +kernel
theorem d_Mind_restsBehind_54 : decode b_Mind_restsBehind 54 = .ok (.getfield 18, 3) := by decide +kernel
theorem d_Mind_restsBehind_57 : decode b_Mind_restsBehind 57 = .ok (.invokevirtual 25, 3) := by decide +kernel
theorem d_Mind_restsBehind_60 : decode b_Mind_restsBehind 60 = .ok (.iinc 2 1, 3) := by decide +kernel
theorem d_Mind_restsBehind_63 : decode b_Mind_restsBehind 63 = .ok (.goto (-45), 3) := by decide +kernel
theorem d_Mind_restsBehind_66 : decode b_Mind_restsBehind 66 = .ok (.bipush (-9), 2) := by decide +kernel
theorem d_Mind_restsBehind_68 : decode b_Mind_restsBehind 68 = .ok (.ireturn, 1) := by decide +kernel
set_option maxHeartbeats 4000000 in
set_option maxRecDepth 100000 in
theorem c_Mind_restsBehind {l : Launch} {D : va_G} {cI cJ cC : ClassId} (a_h a_h_one a_h_two a_h_one_kinds a_h_one_sweets a_h_one_settings a_h_one_heaps a_h_two_kinds a_h_two_sweets a_h_two_settings a_h_two_heaps a_g1 a_g1_kinds a_g1_sweets a_g1_settings a_g1_heaps : Nat) (y_h_seed : Int32) {z_h_one : RS} {z_h_two : RS} {z_g1 : RS} {q : Int32 × RS × RS} (hf : f_Mind_restsBehind z_h_one z_h_two z_g1 = some q) : xI l y_Mind_restsBehind b_Mind_restsBehind 3 .int 4 89 D (tyK cI cJ cC) xE0 [.ref a_h, .ref a_g1] (w_Mind_restsBehind cI cJ cC a_h a_h_one a_h_two a_h_one_kinds a_h_one_sweets a_h_one_settings a_h_one_heaps a_h_two_kinds a_h_two_sweets a_h_two_settings a_h_two_heaps a_g1 a_g1_kinds a_g1_sweets a_g1_settings a_g1_heaps y_h_seed (r_children z_h_one) (r_strokes z_h_one) (r_gave z_h_one) (r_threw z_h_one) (r_kinds z_h_one) (r_sweets z_h_one) (r_settings z_h_one) (r_heaps z_h_one) (r_children z_h_two) (r_strokes z_h_two) (r_gave z_h_two) (r_threw z_h_two) (r_kinds z_h_two) (r_sweets z_h_two) (r_settings z_h_two) (r_heaps z_h_two) (r_children z_g1) (r_strokes z_g1) (r_gave z_g1) (r_threw z_g1) (r_kinds z_g1) (r_sweets z_g1) (r_settings z_g1)) q.1 (w_Mind_restsBehind cI cJ cC a_h a_h_one a_h_two a_h_one_kinds a_h_one_sweets a_h_one_settings a_h_one_heaps a_h_two_kinds a_h_two_sweets a_h_two_settings a_h_two_heaps a_g1 a_g1_kinds a_g1_sweets a_g1_settings a_g1_heaps y_h_seed (r_children q.2.1) (r_strokes q.2.1) (r_gave q.2.1) (r_threw q.2.1) (r_kinds q.2.1) (r_sweets q.2.1) (r_settings q.2.1) (r_heaps q.2.1) (r_children q.2.2) (r_strokes q.2.2) (r_gave q.2.2) (r_threw q.2.2) (r_kinds q.2.2) (r_sweets q.2.2) (r_settings q.2.2) (r_heaps q.2.2) (r_children z_g1) (r_strokes z_g1) (r_gave z_g1) (r_threw z_g1) (r_kinds z_g1) (r_sweets z_g1) (r_settings z_g1)) := by
  refine xI_of (by decide) (Nat.le_of_ble_eq_true rfl) ?_
  intro p e s m args below meth c A Q hx hb hml hown hT hA hP hD hK hS hE hret ls hl
  have hown : s.vm.findClass R_Mind = some m.cls := hown
  have hl : lv_has ls 3 [(0, .ref a_h), (1, .ref a_g1)] := hl
  unfold f_Mind_restsBehind at hf
  have L18 : ∀ (n : Nat) (z_h_one : RS) (z_h_two : RS) (x2 : Int32) (H : Heap) (locs : List Loc) (ls : Array Slot), f_Mind_restsBehind_L18 n z_h_one z_h_two x2 = some q → va_P D classes (w_Mind_restsBehind cI cJ cC a_h a_h_one a_h_two a_h_one_kinds a_h_one_sweets a_h_one_settings a_h_one_heaps a_h_two_kinds a_h_two_sweets a_h_two_settings a_h_two_heaps a_g1 a_g1_kinds a_g1_sweets a_g1_settings a_g1_heaps y_h_seed (r_children z_h_one) (r_strokes z_h_one) (r_gave z_h_one) (r_threw z_h_one) (r_kinds z_h_one) (r_sweets z_h_one) (r_settings z_h_one) (r_heaps z_h_one) (r_children z_h_two) (r_strokes z_h_two) (r_gave z_h_two) (r_threw z_h_two) (r_kinds z_h_two) (r_sweets z_h_two) (r_settings z_h_two) (r_heaps z_h_two) (r_children z_g1) (r_strokes z_g1) (r_gave z_g1) (r_threw z_g1) (r_kinds z_g1) (r_sweets z_g1) (r_settings z_g1)) H → va_D A (w_Mind_restsBehind cI cJ cC a_h a_h_one a_h_two a_h_one_kinds a_h_one_sweets a_h_one_settings a_h_one_heaps a_h_two_kinds a_h_two_sweets a_h_two_settings a_h_two_heaps a_g1 a_g1_kinds a_g1_sweets a_g1_settings a_g1_heaps y_h_seed (r_children z_h_one) (r_strokes z_h_one) (r_gave z_h_one) (r_threw z_h_one) (r_kinds z_h_one) (r_sweets z_h_one) (r_settings z_h_one) (r_heaps z_h_one) (r_children z_h_two) (r_strokes z_h_two) (r_gave z_h_two) (r_threw z_h_two) (r_kinds z_h_two) (r_sweets z_h_two) (r_settings z_h_two) (r_heaps z_h_two) (r_children z_g1) (r_strokes z_g1) (r_gave z_g1) (r_threw z_g1) (r_kinds z_g1) (r_sweets z_g1) (r_settings z_g1)) → va_S A s.heap H locs → lv_has ls 3 [(0, .ref a_h), (2, .int x2)] → W p l e (xRm 4 89) s m args below meth c H locs 0 0 Q (F0 m 18 ls []) := by
    intro n
    induction n with
    | zero => intro z_h_one z_h_two x2 H locs ls hf hP hD hS hl; exact nomatch (show (none : Option (Int32 × RS × RS)) = some q from hf)
    | succ n ih =>
      intro z_h_one z_h_two x2 H locs ls hf hP hD hS hl
      refine lv_iload_n hx hb d_Mind_restsBehind_18 rfl (lv_at hl 1 rfl) ?_
      refine lv_sipush (v := 200) hx hb d_Mind_restsBehind_19 (by decide) ?_
      refine lv_icmp_gt (tgt := 66) hx hb d_Mind_restsBehind_22 (by decide) (fun c3 => ?_) (fun c3 => ?_)
      · have hf := io_t hf c3
        refine lv_bipush (v := (-9)) hx hb d_Mind_restsBehind_66 (by decide) ?_
        have hq := Option.some.inj hf
        subst hq
        exact hret _ _ _ _ _ d_Mind_restsBehind_68 rfl rfl hP hD hS
      · have hf := io_f hf c3
        refine lv_aload_n hx hb d_Mind_restsBehind_25 rfl (lv_at hl 0 rfl) ?_
        refine va_get hx hb hT i_Mind hown hK hP 0 rfl rfl 1 (Nat.le_of_ble_eq_true rfl) (hT _ k_107) (fun _ h => h) rfl d_Mind_restsBehind_26 ?_
        obtain ⟨q4, hq4, hf⟩ := io_b hf
        refine xcVI (wc := (w_Ring_strike cI cJ cC a_h_two a_h_two_kinds a_h_two_sweets a_h_two_settings a_h_two_heaps (r_children z_h_two) (r_strokes z_h_two) (r_gave z_h_two) (r_threw z_h_two) (r_kinds z_h_two) (r_sweets z_h_two) (r_settings z_h_two) (r_heaps z_h_two))) (wc' := (w_Ring_strike cI cJ cC a_h_two a_h_two_kinds a_h_two_sweets a_h_two_settings a_h_two_heaps (r_children q4.2) (r_strokes q4.2) (r_gave q4.2) (r_threw q4.2) (r_kinds q4.2) (r_sweets q4.2) (r_settings q4.2) (r_heaps q4.2))) (ws' := (w_Mind_restsBehind cI cJ cC a_h a_h_one a_h_two a_h_one_kinds a_h_one_sweets a_h_one_settings a_h_one_heaps a_h_two_kinds a_h_two_sweets a_h_two_settings a_h_two_heaps a_g1 a_g1_kinds a_g1_sweets a_g1_settings a_g1_heaps y_h_seed (r_children z_h_one) (r_strokes z_h_one) (r_gave z_h_one) (r_threw z_h_one) (r_kinds z_h_one) (r_sweets z_h_one) (r_settings z_h_one) (r_heaps z_h_one) (r_children q4.2) (r_strokes q4.2) (r_gave q4.2) (r_threw q4.2) (r_kinds q4.2) (r_sweets q4.2) (r_settings q4.2) (r_heaps q4.2) (r_children z_g1) (r_strokes z_g1) (r_gave z_g1) (r_threw z_g1) (r_kinds z_g1) (r_sweets z_g1) (r_settings z_g1))) (As := []) (rest := []) hx hb hml hown hT (c_Ring_strike (z_h := z_h_two) a_h_two a_h_two_kinds a_h_two_sweets a_h_two_settings a_h_two_heaps hq4) k_470 k_417 k_418 k_2 k_419 hd_Ring_strike ⟨Nat.le_of_ble_eq_true rfl, Nat.le_of_ble_eq_true rfl⟩ xE0_ok trivial hA hK hP hD hS [6, 7, 8, 9, 10] [0, 1, 2, 3, 4, 5, 11, 12, 13, 14] [0, 1, 2, 3, 4, 5, 10, 11, 12, 13, 14, 6, 7, 8, 9] rfl rfl rfl rfl rfl rfl rfl rfl rfl rfl hl.1 rfl (Nat.le_of_ble_eq_true rfl) ⟨Nat.zero_le _, Nat.zero_le _⟩ d_Mind_restsBehind_29 (fun H locs hP hD hS => ?_)
        refine lv_pop hx hb d_Mind_restsBehind_32 rfl ?_
        refine lv_aload_n hx hb d_Mind_restsBehind_33 rfl (lv_at hl 0 rfl) ?_
        refine va_get hx hb hT i_Mind hown hK hP 0 rfl rfl 1 (Nat.le_of_ble_eq_true rfl) (hT _ k_107) (fun _ h => h) rfl d_Mind_restsBehind_34 ?_
        refine lv_aload_n hx hb d_Mind_restsBehind_37 rfl (lv_at hl 0 rfl) ?_
        refine va_get hx hb hT i_Mind hown hK hP 0 rfl rfl 0 (Nat.le_of_ble_eq_true rfl) (hT _ k_106) (fun _ h => h) rfl d_Mind_restsBehind_38 ?_
        obtain ⟨q5, hq5, hf⟩ := io_b hf
        refine xcVI (wc := (w_Ring_hasSweetsOf cI cJ cC a_h_two a_h_two_kinds a_h_two_sweets a_h_two_settings a_h_two_heaps a_h_one a_h_one_kinds a_h_one_sweets a_h_one_settings a_h_one_heaps (r_children q4.2) (r_strokes q4.2) (r_gave q4.2) (r_threw q4.2) (r_sweets q4.2) (r_children z_h_one) (r_strokes z_h_one) (r_gave z_h_one) (r_threw z_h_one) (r_sweets z_h_one))) (wc' := (w_Ring_hasSweetsOf cI cJ cC a_h_two a_h_two_kinds a_h_two_sweets a_h_two_settings a_h_two_heaps a_h_one a_h_one_kinds a_h_one_sweets a_h_one_settings a_h_one_heaps (r_children q4.2) (r_strokes q4.2) (r_gave q4.2) (r_threw q4.2) (r_sweets q4.2) (r_children z_h_one) (r_strokes z_h_one) (r_gave z_h_one) (r_threw z_h_one) (r_sweets z_h_one))) (ws' := (w_Mind_restsBehind cI cJ cC a_h a_h_one a_h_two a_h_one_kinds a_h_one_sweets a_h_one_settings a_h_one_heaps a_h_two_kinds a_h_two_sweets a_h_two_settings a_h_two_heaps a_g1 a_g1_kinds a_g1_sweets a_g1_settings a_g1_heaps y_h_seed (r_children z_h_one) (r_strokes z_h_one) (r_gave z_h_one) (r_threw z_h_one) (r_kinds z_h_one) (r_sweets z_h_one) (r_settings z_h_one) (r_heaps z_h_one) (r_children q4.2) (r_strokes q4.2) (r_gave q4.2) (r_threw q4.2) (r_kinds q4.2) (r_sweets q4.2) (r_settings q4.2) (r_heaps q4.2) (r_children z_g1) (r_strokes z_g1) (r_gave z_g1) (r_threw z_g1) (r_kinds z_g1) (r_sweets z_g1) (r_settings z_g1))) (As := [.ref a_h_one]) (rest := []) hx hb hml hown hT (c_Ring_hasSweetsOf (z_h := q4.2) (z_g1 := z_h_one) a_h_two a_h_two_kinds a_h_two_sweets a_h_two_settings a_h_two_heaps a_h_one a_h_one_kinds a_h_one_sweets a_h_one_settings a_h_one_heaps hq5) k_471 k_472 k_473 k_2 k_474 hd_Ring_hasSweetsOf ⟨Nat.le_of_ble_eq_true rfl, Nat.le_of_ble_eq_true rfl⟩ xE0_ok trivial hA hK hP hD hS [6, 8, 1, 3] [0, 2, 4, 5, 7, 9, 10, 11, 12, 13, 14] [0, 13, 1, 14, 2, 3, 11, 4, 12, 5, 6, 7, 8, 9, 10] rfl rfl rfl rfl rfl rfl rfl rfl rfl rfl hl.1 rfl (Nat.le_of_ble_eq_true rfl) ⟨Nat.zero_le _, Nat.zero_le _⟩ d_Mind_restsBehind_41 (fun H locs hP hD hS => ?_)
        refine lv_if_eq (tgt := 49) hx hb d_Mind_restsBehind_44 (by decide) (fun c6 => ?_) (fun c6 => ?_)
        · have hf := io_t hf c6
          refine lv_aload_n hx hb d_Mind_restsBehind_49 rfl (lv_at hl 0 rfl) ?_
          refine va_get hx hb hT i_Mind hown hK hP 0 rfl rfl 0 (Nat.le_of_ble_eq_true rfl) (hT _ k_106) (fun _ h => h) rfl d_Mind_restsBehind_50 ?_
          refine lv_aload_n hx hb d_Mind_restsBehind_53 rfl (lv_at hl 0 rfl) ?_
          refine va_get hx hb hT i_Mind hown hK hP 0 rfl rfl 1 (Nat.le_of_ble_eq_true rfl) (hT _ k_107) (fun _ h => h) rfl d_Mind_restsBehind_54 ?_
          obtain ⟨q7, hq7, hf⟩ := io_b hf
          refine xcVV (wc := (w_Ring_copyFrom cI cJ cC a_h_one a_h_one_kinds a_h_one_sweets a_h_one_settings a_h_one_heaps a_h_two a_h_two_kinds a_h_two_sweets a_h_two_settings a_h_two_heaps (r_children z_h_one) (r_strokes z_h_one) (r_gave z_h_one) (r_threw z_h_one) (r_kinds z_h_one) (r_sweets z_h_one) (r_settings z_h_one) (r_heaps z_h_one) (r_children q4.2) (r_strokes q4.2) (r_gave q4.2) (r_threw q4.2) (r_kinds q4.2) (r_sweets q4.2) (r_settings q4.2))) (wc' := (w_Ring_copyFrom cI cJ cC a_h_one a_h_one_kinds a_h_one_sweets a_h_one_settings a_h_one_heaps a_h_two a_h_two_kinds a_h_two_sweets a_h_two_settings a_h_two_heaps (r_children q7) (r_strokes q7) (r_gave q7) (r_threw q7) (r_kinds q7) (r_sweets q7) (r_settings q7) (r_heaps q7) (r_children q4.2) (r_strokes q4.2) (r_gave q4.2) (r_threw q4.2) (r_kinds q4.2) (r_sweets q4.2) (r_settings q4.2))) (ws' := (w_Mind_restsBehind cI cJ cC a_h a_h_one a_h_two a_h_one_kinds a_h_one_sweets a_h_one_settings a_h_one_heaps a_h_two_kinds a_h_two_sweets a_h_two_settings a_h_two_heaps a_g1 a_g1_kinds a_g1_sweets a_g1_settings a_g1_heaps y_h_seed (r_children q7) (r_strokes q7) (r_gave q7) (r_threw q7) (r_kinds q7) (r_sweets q7) (r_settings q7) (r_heaps q7) (r_children q4.2) (r_strokes q4.2) (r_gave q4.2) (r_threw q4.2) (r_kinds q4.2) (r_sweets q4.2) (r_settings q4.2) (r_heaps q4.2) (r_children z_g1) (r_strokes z_g1) (r_gave z_g1) (r_threw z_g1) (r_kinds z_g1) (r_sweets z_g1) (r_settings z_g1))) (As := [.ref a_h_two]) (rest := []) hx hb hml hown hT (c_Ring_copyFrom (z_h := z_h_one) (z_g1 := q4.2) a_h_one a_h_one_kinds a_h_one_sweets a_h_one_settings a_h_one_heaps a_h_two a_h_two_kinds a_h_two_sweets a_h_two_settings a_h_two_heaps hq7) k_441 k_326 k_327 k_2 k_328 hd_Ring_copyFrom ⟨Nat.le_of_ble_eq_true rfl, Nat.le_of_ble_eq_true rfl⟩ xE0_ok trivial hA hK hP hD hS [1, 2, 3, 4, 5, 6, 7, 8, 9] [0, 10, 11, 12, 13, 14] [0, 6, 7, 8, 9, 10, 11, 12, 13, 14, 1, 2, 3, 4, 5] rfl rfl rfl rfl rfl rfl rfl rfl rfl rfl hl.1 rfl (Nat.le_of_ble_eq_true rfl) ⟨Nat.zero_le _, Nat.zero_le _⟩ d_Mind_restsBehind_57 (fun H locs hP hD hS => ?_)
          refine lv_iinc (v := (x2 + 1)) (lv' := [(2, .int (x2 + 1)), (0, .ref a_h)]) hx hb d_Mind_restsBehind_60 hl (k := 1) rfl (by rfl) (by decide) rfl (fun ls hl => ?_)
          refine lv_goto (tgt := 18) hx hb d_Mind_restsBehind_63 (by decide) ?_
          exact ih q7 q4.2 (x2 + 1) _ _ _ hf hP hD hS (lv_sub hl [1, 0] rfl)
        · have hf := io_f hf c6
          refine lv_iload_n hx hb d_Mind_restsBehind_47 rfl (lv_at hl 1 rfl) ?_
          have hq := Option.some.inj hf
          subst hq
          exact hret _ _ _ _ _ d_Mind_restsBehind_48 rfl rfl hP hD hS
  refine lv_aload_n hx hb d_Mind_restsBehind_0 rfl (lv_at hl 0 rfl) ?_
  refine va_get hx hb hT i_Mind hown hK hP 0 rfl rfl 0 (Nat.le_of_ble_eq_true rfl) (hT _ k_106) (fun _ h => h) rfl d_Mind_restsBehind_1 ?_
  refine lv_aload_n hx hb d_Mind_restsBehind_4 rfl (lv_at hl 1 rfl) ?_
  obtain ⟨q1, hq1, hf⟩ := io_b hf
  refine xcVV (wc := (w_Ring_copyFrom cI cJ cC a_h_one a_h_one_kinds a_h_one_sweets a_h_one_settings a_h_one_heaps a_g1 a_g1_kinds a_g1_sweets a_g1_settings a_g1_heaps (r_children z_h_one) (r_strokes z_h_one) (r_gave z_h_one) (r_threw z_h_one) (r_kinds z_h_one) (r_sweets z_h_one) (r_settings z_h_one) (r_heaps z_h_one) (r_children z_g1) (r_strokes z_g1) (r_gave z_g1) (r_threw z_g1) (r_kinds z_g1) (r_sweets z_g1) (r_settings z_g1))) (wc' := (w_Ring_copyFrom cI cJ cC a_h_one a_h_one_kinds a_h_one_sweets a_h_one_settings a_h_one_heaps a_g1 a_g1_kinds a_g1_sweets a_g1_settings a_g1_heaps (r_children q1) (r_strokes q1) (r_gave q1) (r_threw q1) (r_kinds q1) (r_sweets q1) (r_settings q1) (r_heaps q1) (r_children z_g1) (r_strokes z_g1) (r_gave z_g1) (r_threw z_g1) (r_kinds z_g1) (r_sweets z_g1) (r_settings z_g1))) (ws' := (w_Mind_restsBehind cI cJ cC a_h a_h_one a_h_two a_h_one_kinds a_h_one_sweets a_h_one_settings a_h_one_heaps a_h_two_kinds a_h_two_sweets a_h_two_settings a_h_two_heaps a_g1 a_g1_kinds a_g1_sweets a_g1_settings a_g1_heaps y_h_seed (r_children q1) (r_strokes q1) (r_gave q1) (r_threw q1) (r_kinds q1) (r_sweets q1) (r_settings q1) (r_heaps q1) (r_children z_h_two) (r_strokes z_h_two) (r_gave z_h_two) (r_threw z_h_two) (r_kinds z_h_two) (r_sweets z_h_two) (r_settings z_h_two) (r_heaps z_h_two) (r_children z_g1) (r_strokes z_g1) (r_gave z_g1) (r_threw z_g1) (r_kinds z_g1) (r_sweets z_g1) (r_settings z_g1))) (As := [.ref a_g1]) (rest := []) hx hb hml hown hT (c_Ring_copyFrom (z_h := z_h_one) (z_g1 := z_g1) a_h_one a_h_one_kinds a_h_one_sweets a_h_one_settings a_h_one_heaps a_g1 a_g1_kinds a_g1_sweets a_g1_settings a_g1_heaps hq1) k_441 k_326 k_327 k_2 k_328 hd_Ring_copyFrom ⟨Nat.le_of_ble_eq_true rfl, Nat.le_of_ble_eq_true rfl⟩ xE0_ok trivial hA hK hP hD hS [1, 2, 3, 4, 5, 11, 12, 13, 14] [0, 6, 7, 8, 9, 10] [0, 6, 7, 8, 9, 10, 1, 2, 3, 4, 5, 11, 12, 13, 14] rfl rfl rfl rfl rfl rfl rfl rfl rfl rfl hl.1 rfl (Nat.le_of_ble_eq_true rfl) ⟨Nat.zero_le _, Nat.zero_le _⟩ d_Mind_restsBehind_5 (fun H locs hP hD hS => ?_)
  refine lv_aload_n hx hb d_Mind_restsBehind_8 rfl (lv_at hl 0 rfl) ?_
  refine va_get hx hb hT i_Mind hown hK hP 0 rfl rfl 1 (Nat.le_of_ble_eq_true rfl) (hT _ k_107) (fun _ h => h) rfl d_Mind_restsBehind_9 ?_
  refine lv_aload_n hx hb d_Mind_restsBehind_12 rfl (lv_at hl 1 rfl) ?_
  obtain ⟨q2, hq2, hf⟩ := io_b hf
  refine xcVV (wc := (w_Ring_copyFrom cI cJ cC a_h_two a_h_two_kinds a_h_two_sweets a_h_two_settings a_h_two_heaps a_g1 a_g1_kinds a_g1_sweets a_g1_settings a_g1_heaps (r_children z_h_two) (r_strokes z_h_two) (r_gave z_h_two) (r_threw z_h_two) (r_kinds z_h_two) (r_sweets z_h_two) (r_settings z_h_two) (r_heaps z_h_two) (r_children z_g1) (r_strokes z_g1) (r_gave z_g1) (r_threw z_g1) (r_kinds z_g1) (r_sweets z_g1) (r_settings z_g1))) (wc' := (w_Ring_copyFrom cI cJ cC a_h_two a_h_two_kinds a_h_two_sweets a_h_two_settings a_h_two_heaps a_g1 a_g1_kinds a_g1_sweets a_g1_settings a_g1_heaps (r_children q2) (r_strokes q2) (r_gave q2) (r_threw q2) (r_kinds q2) (r_sweets q2) (r_settings q2) (r_heaps q2) (r_children z_g1) (r_strokes z_g1) (r_gave z_g1) (r_threw z_g1) (r_kinds z_g1) (r_sweets z_g1) (r_settings z_g1))) (ws' := (w_Mind_restsBehind cI cJ cC a_h a_h_one a_h_two a_h_one_kinds a_h_one_sweets a_h_one_settings a_h_one_heaps a_h_two_kinds a_h_two_sweets a_h_two_settings a_h_two_heaps a_g1 a_g1_kinds a_g1_sweets a_g1_settings a_g1_heaps y_h_seed (r_children q1) (r_strokes q1) (r_gave q1) (r_threw q1) (r_kinds q1) (r_sweets q1) (r_settings q1) (r_heaps q1) (r_children q2) (r_strokes q2) (r_gave q2) (r_threw q2) (r_kinds q2) (r_sweets q2) (r_settings q2) (r_heaps q2) (r_children z_g1) (r_strokes z_g1) (r_gave z_g1) (r_threw z_g1) (r_kinds z_g1) (r_sweets z_g1) (r_settings z_g1))) (As := [.ref a_g1]) (rest := []) hx hb hml hown hT (c_Ring_copyFrom (z_h := z_h_two) (z_g1 := z_g1) a_h_two a_h_two_kinds a_h_two_sweets a_h_two_settings a_h_two_heaps a_g1 a_g1_kinds a_g1_sweets a_g1_settings a_g1_heaps hq2) k_441 k_326 k_327 k_2 k_328 hd_Ring_copyFrom ⟨Nat.le_of_ble_eq_true rfl, Nat.le_of_ble_eq_true rfl⟩ xE0_ok trivial hA hK hP hD hS [6, 7, 8, 9, 10, 11, 12, 13, 14] [0, 1, 2, 3, 4, 5] [0, 1, 2, 3, 4, 5, 6, 7, 8, 9, 10, 11, 12, 13, 14] rfl rfl rfl rfl rfl rfl rfl rfl rfl rfl hl.1 rfl (Nat.le_of_ble_eq_true rfl) ⟨Nat.zero_le _, Nat.zero_le _⟩ d_Mind_restsBehind_13 (fun H locs hP hD hS => ?_)
  refine lv_iconst (v := 0) hx hb d_Mind_restsBehind_16 (by decide) ?_
  refine lv_istore_n (lv' := [(2, .int 0), (0, .ref a_h), (1, .ref a_g1)]) hx hb d_Mind_restsBehind_17 rfl hl (by decide) rfl (fun ls hl => ?_)
  exact L18 FU q1 q2 0 _ _ _ hf hP hD hS (lv_sub hl [1, 0] rfl)
abbrev w_Mind_alikeWithin (cI cJ cC : ClassId) (a_g0 a_g0_kinds a_g0_sweets a_g0_settings a_g0_heaps : Nat) (p_g0_children : Int32) (p_g0_strokes : Int32) (p_g0_gave : Int32) (p_g0_threw : Int32) (p_g0_kinds : (Nat → Int32)) (p_g0_sweets : (Nat → Int32)) (p_g0_settings : (Nat → Int32)) (p_g0_heaps : (Nat → Int32)) : va_W := [(a_g0, .inr (1, [.ref a_g0_kinds, .ref a_g0_sweets, .ref a_g0_settings, .int p_g0_children, .int p_g0_strokes, .int p_g0_gave, .int p_g0_threw, .ref a_g0_heaps])), (a_g0_kinds, .inl (cI, (8, .inl p_g0_kinds))), (a_g0_sweets, .inl (cI, (8, .inl p_g0_sweets))), (a_g0_settings, .inl (cI, (3, .inl p_g0_settings))), (a_g0_heaps, .inl (cI, (8, .inl p_g0_heaps)))]
theorem d_Mind_alikeWithin_0 : decode b_Mind_alikeWithin 0 = .ok (.iconst 0, 1) := by decide +kernel
theorem d_Mind_alikeWithin_1 : decode b_Mind_alikeWithin 1 = .ok (.istore_n 2, 1) := by decide +kernel
theorem d_Mind_alikeWithin_2 : decode b_Mind_alikeWithin 2 = .ok (.iload_n 2, 1) := by decide +kernel
theorem d_Mind_alikeWithin_3 : decode b_Mind_alikeWithin 3 = .ok (.iload_n 1, 1) := by decide +kernel
theorem d_Mind_alikeWithin_4 : decode b_Mind_alikeWithin 4 = .ok (.if_icmp .gt 23, 3) := by decide +kernel
theorem d_Mind_alikeWithin_7 : decode b_Mind_alikeWithin 7 = .ok (.aload_n 0, 1) := by decide +kernel
theorem d_Mind_alikeWithin_8 : decode b_Mind_alikeWithin 8 = .ok (.invokevirtual 55, 3) := by decide +kernel
theorem d_Mind_alikeWithin_11 : decode b_Mind_alikeWithin 11 = .ok (.ifCond .eq 5, 3) := by decide +kernel
theorem d_Mind_alikeWithin_14 : decode b_Mind_alikeWithin 14 = .ok (.iload_n 2, 1) := by decide +kernel
theorem d_Mind_alikeWithin_15 : decode b_Mind_alikeWithin 15 = .ok (.ireturn, 1) := by decide +kernel
theorem d_Mind_alikeWithin_16 : decode b_Mind_alikeWithin 16 = .ok (.aload_n 0, 1) := by decide +kernel
theorem d_Mind_alikeWithin_17 : decode b_Mind_alikeWithin 17 = .ok (.invokevirtual 43, 3) := by decide +kernel
theorem d_Mind_alikeWithin_20 : decode b_Mind_alikeWithin 20 = .ok (.pop, 1) := by decide +kernel
theorem d_Mind_alikeWithin_21 : decode b_Mind_alikeWithin 21 = .ok (.iinc 2 1, 3) := by decide +kernel
theorem d_Mind_alikeWithin_24 : decode b_Mind_alikeWithin 24 = .ok (.goto (-22), 3) := by decide +kernel
theorem d_Mind_alikeWithin_27 : decode b_Mind_alikeWithin 27 = .ok (.bipush (-9), 2) := by decide +kernel
theorem d_Mind_alikeWithin_29 : decode b_Mind_alikeWithin 29 = .ok (.ireturn, 1) := by decide +kernel
set_option maxHeartbeats 4000000 in
set_option maxRecDepth 100000 in
theorem c_Mind_alikeWithin {l : Launch} {D : va_G} {cI cJ cC : ClassId} (a_g0 a_g0_kinds a_g0_sweets a_g0_settings a_g0_heaps : Nat) {z_g0 : RS} {x1 : Int32} {q : Int32 × RS} (hf : f_Mind_alikeWithin z_g0 x1 = some q) : xI l y_Mind_alikeWithin b_Mind_alikeWithin 3 .int 4 89 D (tyK cI cJ cC) xE0 [.ref a_g0, .int x1] (w_Mind_alikeWithin cI cJ cC a_g0 a_g0_kinds a_g0_sweets a_g0_settings a_g0_heaps (r_children z_g0) (r_strokes z_g0) (r_gave z_g0) (r_threw z_g0) (r_kinds z_g0) (r_sweets z_g0) (r_settings z_g0) (r_heaps z_g0)) q.1 (w_Mind_alikeWithin cI cJ cC a_g0 a_g0_kinds a_g0_sweets a_g0_settings a_g0_heaps (r_children q.2) (r_strokes q.2) (r_gave q.2) (r_threw q.2) (r_kinds q.2) (r_sweets q.2) (r_settings q.2) (r_heaps q.2)) := by
  refine xI_of (by decide) (Nat.le_of_ble_eq_true rfl) ?_
  intro p e s m args below meth c A Q hx hb hml hown hT hA hP hD hK hS hE hret ls hl
  have hown : s.vm.findClass R_Mind = some m.cls := hown
  have hl : lv_has ls 3 [(0, .ref a_g0), (1, .int x1)] := hl
  unfold f_Mind_alikeWithin at hf
  have L2 : ∀ (n : Nat) (z_g0 : RS) (x2 : Int32) (H : Heap) (locs : List Loc) (ls : Array Slot), f_Mind_alikeWithin_L2 x1 n z_g0 x2 = some q → va_P D classes (w_Mind_alikeWithin cI cJ cC a_g0 a_g0_kinds a_g0_sweets a_g0_settings a_g0_heaps (r_children z_g0) (r_strokes z_g0) (r_gave z_g0) (r_threw z_g0) (r_kinds z_g0) (r_sweets z_g0) (r_settings z_g0) (r_heaps z_g0)) H → va_D A (w_Mind_alikeWithin cI cJ cC a_g0 a_g0_kinds a_g0_sweets a_g0_settings a_g0_heaps (r_children z_g0) (r_strokes z_g0) (r_gave z_g0) (r_threw z_g0) (r_kinds z_g0) (r_sweets z_g0) (r_settings z_g0) (r_heaps z_g0)) → va_S A s.heap H locs → lv_has ls 3 [(0, .ref a_g0), (1, .int x1), (2, .int x2)] → W p l e (xRm 4 89) s m args below meth c H locs 0 0 Q (F0 m 2 ls []) := by
    intro n
    induction n with
    | zero => intro z_g0 x2 H locs ls hf hP hD hS hl; exact nomatch (show (none : Option (Int32 × RS)) = some q from hf)
    | succ n ih =>
      intro z_g0 x2 H locs ls hf hP hD hS hl
      refine lv_iload_n hx hb d_Mind_alikeWithin_2 rfl (lv_at hl 2 rfl) ?_
      refine lv_iload_n hx hb d_Mind_alikeWithin_3 rfl (lv_at hl 1 rfl) ?_
      refine lv_icmp_gt (tgt := 27) hx hb d_Mind_alikeWithin_4 (by decide) (fun c1 => ?_) (fun c1 => ?_)
      · have hf := io_t hf c1
        refine lv_bipush (v := (-9)) hx hb d_Mind_alikeWithin_27 (by decide) ?_
        have hq := Option.some.inj hf
        subst hq
        exact hret _ _ _ _ _ d_Mind_alikeWithin_29 rfl rfl hP hD hS
      · have hf := io_f hf c1
        refine lv_aload_n hx hb d_Mind_alikeWithin_7 rfl (lv_at hl 0 rfl) ?_
        obtain ⟨q2, hq2, hf⟩ := io_b hf
        refine xcVI (wc := (w_Ring_allHaveAlike cI cJ cC a_g0 a_g0_kinds a_g0_sweets a_g0_settings a_g0_heaps (r_children z_g0) (r_strokes z_g0) (r_gave z_g0) (r_threw z_g0) (r_sweets z_g0))) (wc' := (w_Ring_allHaveAlike cI cJ cC a_g0 a_g0_kinds a_g0_sweets a_g0_settings a_g0_heaps (r_children z_g0) (r_strokes z_g0) (r_gave z_g0) (r_threw z_g0) (r_sweets z_g0))) (ws' := (w_Mind_alikeWithin cI cJ cC a_g0 a_g0_kinds a_g0_sweets a_g0_settings a_g0_heaps (r_children z_g0) (r_strokes z_g0) (r_gave z_g0) (r_threw z_g0) (r_kinds z_g0) (r_sweets z_g0) (r_settings z_g0) (r_heaps z_g0))) (As := []) (rest := []) hx hb hml hown hT (c_Ring_allHaveAlike (z_h := z_g0) a_g0 a_g0_kinds a_g0_sweets a_g0_settings a_g0_heaps hq2) k_486 k_487 k_488 k_2 k_489 hd_Ring_allHaveAlike ⟨Nat.le_of_ble_eq_true rfl, Nat.le_of_ble_eq_true rfl⟩ xE0_ok trivial hA hK hP hD hS [0, 2] [1, 3, 4] [3, 0, 4, 1, 2] rfl rfl rfl rfl rfl rfl rfl rfl rfl rfl hl.1 rfl (Nat.le_of_ble_eq_true rfl) ⟨Nat.zero_le _, Nat.zero_le _⟩ d_Mind_alikeWithin_8 (fun H locs hP hD hS => ?_)
        refine lv_if_eq (tgt := 16) hx hb d_Mind_alikeWithin_11 (by decide) (fun c3 => ?_) (fun c3 => ?_)
        · have hf := io_t hf c3
          refine lv_aload_n hx hb d_Mind_alikeWithin_16 rfl (lv_at hl 0 rfl) ?_
          obtain ⟨q4, hq4, hf⟩ := io_b hf
          refine xcVI (wc := (w_Ring_strike cI cJ cC a_g0 a_g0_kinds a_g0_sweets a_g0_settings a_g0_heaps (r_children z_g0) (r_strokes z_g0) (r_gave z_g0) (r_threw z_g0) (r_kinds z_g0) (r_sweets z_g0) (r_settings z_g0) (r_heaps z_g0))) (wc' := (w_Ring_strike cI cJ cC a_g0 a_g0_kinds a_g0_sweets a_g0_settings a_g0_heaps (r_children q4.2) (r_strokes q4.2) (r_gave q4.2) (r_threw q4.2) (r_kinds q4.2) (r_sweets q4.2) (r_settings q4.2) (r_heaps q4.2))) (ws' := (w_Mind_alikeWithin cI cJ cC a_g0 a_g0_kinds a_g0_sweets a_g0_settings a_g0_heaps (r_children q4.2) (r_strokes q4.2) (r_gave q4.2) (r_threw q4.2) (r_kinds q4.2) (r_sweets q4.2) (r_settings q4.2) (r_heaps q4.2))) (As := []) (rest := []) hx hb hml hown hT (c_Ring_strike (z_h := z_g0) a_g0 a_g0_kinds a_g0_sweets a_g0_settings a_g0_heaps hq4) k_470 k_417 k_418 k_2 k_419 hd_Ring_strike ⟨Nat.le_of_ble_eq_true rfl, Nat.le_of_ble_eq_true rfl⟩ xE0_ok trivial hA hK hP hD hS [0, 1, 2, 3, 4] [] [0, 1, 2, 3, 4] rfl rfl rfl rfl rfl rfl rfl rfl rfl rfl hl.1 rfl (Nat.le_of_ble_eq_true rfl) ⟨Nat.zero_le _, Nat.zero_le _⟩ d_Mind_alikeWithin_17 (fun H locs hP hD hS => ?_)
          refine lv_pop hx hb d_Mind_alikeWithin_20 rfl ?_
          refine lv_iinc (v := (x2 + 1)) (lv' := [(2, .int (x2 + 1)), (0, .ref a_g0), (1, .int x1)]) hx hb d_Mind_alikeWithin_21 hl (k := 2) rfl (by rfl) (by decide) rfl (fun ls hl => ?_)
          refine lv_goto (tgt := 2) hx hb d_Mind_alikeWithin_24 (by decide) ?_
          exact ih q4.2 (x2 + 1) _ _ _ hf hP hD hS (lv_sub hl [1, 2, 0] rfl)
        · have hf := io_f hf c3
          refine lv_iload_n hx hb d_Mind_alikeWithin_14 rfl (lv_at hl 2 rfl) ?_
          have hq := Option.some.inj hf
          subst hq
          exact hret _ _ _ _ _ d_Mind_alikeWithin_15 rfl rfl hP hD hS
  refine lv_iconst (v := 0) hx hb d_Mind_alikeWithin_0 (by decide) ?_
  refine lv_istore_n (lv' := [(2, .int 0), (0, .ref a_g0), (1, .int x1)]) hx hb d_Mind_alikeWithin_1 rfl hl (by decide) rfl (fun ls hl => ?_)
  exact L2 FU z_g0 0 _ _ _ hf hP hD hS (lv_sub hl [1, 2, 0] rfl)
abbrev w_Mind_alikeBehind (cI cJ cC : ClassId) (a_h a_h_one a_h_two a_h_one_kinds a_h_one_sweets a_h_one_settings a_h_one_heaps a_g1 a_g1_kinds a_g1_sweets a_g1_settings a_g1_heaps : Nat) (y_h_seed : Int32) (p_h_one_children : Int32) (p_h_one_strokes : Int32) (p_h_one_gave : Int32) (p_h_one_threw : Int32) (p_h_one_kinds : (Nat → Int32)) (p_h_one_sweets : (Nat → Int32)) (p_h_one_settings : (Nat → Int32)) (p_h_one_heaps : (Nat → Int32)) (p_g1_children : Int32) (p_g1_strokes : Int32) (p_g1_gave : Int32) (p_g1_threw : Int32) (p_g1_kinds : (Nat → Int32)) (p_g1_sweets : (Nat → Int32)) (p_g1_settings : (Nat → Int32)) : va_W := [(a_h, .inr (3, [.ref a_h_one, .ref a_h_two, .int y_h_seed])), (a_h_one, .inr (1, [.ref a_h_one_kinds, .ref a_h_one_sweets, .ref a_h_one_settings, .int p_h_one_children, .int p_h_one_strokes, .int p_h_one_gave, .int p_h_one_threw, .ref a_h_one_heaps])), (a_h_one_kinds, .inl (cI, (8, .inl p_h_one_kinds))), (a_h_one_sweets, .inl (cI, (8, .inl p_h_one_sweets))), (a_h_one_settings, .inl (cI, (3, .inl p_h_one_settings))), (a_h_one_heaps, .inl (cI, (8, .inl p_h_one_heaps))), (a_g1, .inr (1, [.ref a_g1_kinds, .ref a_g1_sweets, .ref a_g1_settings, .int p_g1_children, .int p_g1_strokes, .int p_g1_gave, .int p_g1_threw, .ref a_g1_heaps])), (a_g1_kinds, .inl (cI, (8, .inl p_g1_kinds))), (a_g1_sweets, .inl (cI, (8, .inl p_g1_sweets))), (a_g1_settings, .inl (cI, (3, .inl p_g1_settings)))]
theorem d_Mind_alikeBehind_0 : decode b_Mind_alikeBehind 0 = .ok (.aload_n 0, 1) := by decide +kernel
theorem d_Mind_alikeBehind_1 : decode b_Mind_alikeBehind 1 = .ok (.getfield 12, 3) := by decide +kernel
theorem d_Mind_alikeBehind_4 : decode b_Mind_alikeBehind 4 = .ok (.aload_n 1, 1) := by decide +kernel
theorem d_Mind_alikeBehind_5 : decode b_Mind_alikeBehind 5 = .ok (.invokevirtual 25, 3) := by decide +kernel
theorem d_Mind_alikeBehind_8 : decode b_Mind_alikeBehind 8 = .ok (.aload_n 0, 1) := by decide +kernel
theorem d_Mind_alikeBehind_9 : decode b_Mind_alikeBehind 9 = .ok (.getfield 12, 3) := by decide +kernel
theorem d_Mind_alikeBehind_12 : decode b_Mind_alikeBehind 12 = .ok (.sipush 200, 3) := by decide +kernel
theorem d_Mind_alikeBehind_15 : decode b_Mind_alikeBehind 15 = .ok (.invokestatic 51, 3) := by decide +kernel
theorem d_Mind_alikeBehind_18 : decode b_Mind_alikeBehind 18 = .ok (.ireturn, 1) := by decide +kernel
set_option maxHeartbeats 4000000 in
set_option maxRecDepth 100000 in
theorem c_Mind_alikeBehind {l : Launch} {D : va_G} {cI cJ cC : ClassId} (a_h a_h_one a_h_two a_h_one_kinds a_h_one_sweets a_h_one_settings a_h_one_heaps a_g1 a_g1_kinds a_g1_sweets a_g1_settings a_g1_heaps : Nat) (y_h_seed : Int32) {z_h_one : RS} {z_g1 : RS} {q : Int32 × RS} (hf : f_Mind_alikeBehind z_h_one z_g1 = some q) : xI l y_Mind_alikeBehind b_Mind_alikeBehind 2 .int 5 111 D (tyK cI cJ cC) xE0 [.ref a_h, .ref a_g1] (w_Mind_alikeBehind cI cJ cC a_h a_h_one a_h_two a_h_one_kinds a_h_one_sweets a_h_one_settings a_h_one_heaps a_g1 a_g1_kinds a_g1_sweets a_g1_settings a_g1_heaps y_h_seed (r_children z_h_one) (r_strokes z_h_one) (r_gave z_h_one) (r_threw z_h_one) (r_kinds z_h_one) (r_sweets z_h_one) (r_settings z_h_one) (r_heaps z_h_one) (r_children z_g1) (r_strokes z_g1) (r_gave z_g1) (r_threw z_g1) (r_kinds z_g1) (r_sweets z_g1) (r_settings z_g1)) q.1 (w_Mind_alikeBehind cI cJ cC a_h a_h_one a_h_two a_h_one_kinds a_h_one_sweets a_h_one_settings a_h_one_heaps a_g1 a_g1_kinds a_g1_sweets a_g1_settings a_g1_heaps y_h_seed (r_children q.2) (r_strokes q.2) (r_gave q.2) (r_threw q.2) (r_kinds q.2) (r_sweets q.2) (r_settings q.2) (r_heaps q.2) (r_children z_g1) (r_strokes z_g1) (r_gave z_g1) (r_threw z_g1) (r_kinds z_g1) (r_sweets z_g1) (r_settings z_g1)) := by
  refine xI_of (by decide) (Nat.le_of_ble_eq_true rfl) ?_
  intro p e s m args below meth c A Q hx hb hml hown hT hA hP hD hK hS hE hret ls hl
  have hown : s.vm.findClass R_Mind = some m.cls := hown
  have hl : lv_has ls 2 [(0, .ref a_h), (1, .ref a_g1)] := hl
  unfold f_Mind_alikeBehind at hf
  refine lv_aload_n hx hb d_Mind_alikeBehind_0 rfl (lv_at hl 0 rfl) ?_
  refine va_get hx hb hT i_Mind hown hK hP 0 rfl rfl 0 (Nat.le_of_ble_eq_true rfl) (hT _ k_106) (fun _ h => h) rfl d_Mind_alikeBehind_1 ?_
  refine lv_aload_n hx hb d_Mind_alikeBehind_4 rfl (lv_at hl 1 rfl) ?_
  obtain ⟨q1, hq1, hf⟩ := io_b hf
  refine xcVV (wc := (w_Ring_copyFrom cI cJ cC a_h_one a_h_one_kinds a_h_one_sweets a_h_one_settings a_h_one_heaps a_g1 a_g1_kinds a_g1_sweets a_g1_settings a_g1_heaps (r_children z_h_one) (r_strokes z_h_one) (r_gave z_h_one) (r_threw z_h_one) (r_kinds z_h_one) (r_sweets z_h_one) (r_settings z_h_one) (r_heaps z_h_one) (r_children z_g1) (r_strokes z_g1) (r_gave z_g1) (r_threw z_g1) (r_kinds z_g1) (r_sweets z_g1) (r_settings z_g1))) (wc' := (w_Ring_copyFrom cI cJ cC a_h_one a_h_one_kinds a_h_one_sweets a_h_one_settings a_h_one_heaps a_g1 a_g1_kinds a_g1_sweets a_g1_settings a_g1_heaps (r_children q1) (r_strokes q1) (r_gave q1) (r_threw q1) (r_kinds q1) (r_sweets q1) (r_settings q1) (r_heaps q1) (r_children z_g1) (r_strokes z_g1) (r_gave z_g1) (r_threw z_g1) (r_kinds z_g1) (r_sweets z_g1) (r_settings z_g1))) (ws' := (w_Mind_alikeBehind cI cJ cC a_h a_h_one a_h_two a_h_one_kinds a_h_one_sweets a_h_one_settings a_h_one_heaps a_g1 a_g1_kinds a_g1_sweets a_g1_settings a_g1_heaps y_h_seed (r_children q1) (r_strokes q1) (r_gave q1) (r_threw q1) (r_kinds q1) (r_sweets q1) (r_settings q1) (r_heaps q1) (r_children z_g1) (r_strokes z_g1) (r_gave z_g1) (r_threw z_g1) (r_kinds z_g1) (r_sweets z_g1) (r_settings z_g1))) (As := [.ref a_g1]) (rest := []) hx hb hml hown hT (c_Ring_copyFrom (z_h := z_h_one) (z_g1 := z_g1) a_h_one a_h_one_kinds a_h_one_sweets a_h_one_settings a_h_one_heaps a_g1 a_g1_kinds a_g1_sweets a_g1_settings a_g1_heaps hq1) k_441 k_326 k_327 k_2 k_328 hd_Ring_copyFrom ⟨Nat.le_of_ble_eq_true rfl, Nat.le_of_ble_eq_true rfl⟩ xE0_ok trivial hA hK hP hD hS [1, 2, 3, 4, 5, 6, 7, 8, 9] [0] [0, 1, 2, 3, 4, 5, 6, 7, 8, 9] rfl rfl rfl rfl rfl rfl rfl rfl rfl rfl hl.1 rfl (Nat.le_of_ble_eq_true rfl) ⟨Nat.zero_le _, Nat.zero_le _⟩ d_Mind_alikeBehind_5 (fun H locs hP hD hS => ?_)
  refine lv_aload_n hx hb d_Mind_alikeBehind_8 rfl (lv_at hl 0 rfl) ?_
  refine va_get hx hb hT i_Mind hown hK hP 0 rfl rfl 0 (Nat.le_of_ble_eq_true rfl) (hT _ k_106) (fun _ h => h) rfl d_Mind_alikeBehind_9 ?_
  refine lv_sipush (v := 200) hx hb d_Mind_alikeBehind_12 (by decide) ?_
  obtain ⟨q2, hq2, hf⟩ := io_b hf
  refine xcSI (wc := (w_Mind_alikeWithin cI cJ cC a_h_one a_h_one_kinds a_h_one_sweets a_h_one_settings a_h_one_heaps (r_children q1) (r_strokes q1) (r_gave q1) (r_threw q1) (r_kinds q1) (r_sweets q1) (r_settings q1) (r_heaps q1))) (wc' := (w_Mind_alikeWithin cI cJ cC a_h_one a_h_one_kinds a_h_one_sweets a_h_one_settings a_h_one_heaps (r_children q2.2) (r_strokes q2.2) (r_gave q2.2) (r_threw q2.2) (r_kinds q2.2) (r_sweets q2.2) (r_settings q2.2) (r_heaps q2.2))) (ws' := (w_Mind_alikeBehind cI cJ cC a_h a_h_one a_h_two a_h_one_kinds a_h_one_sweets a_h_one_settings a_h_one_heaps a_g1 a_g1_kinds a_g1_sweets a_g1_settings a_g1_heaps y_h_seed (r_children q2.2) (r_strokes q2.2) (r_gave q2.2) (r_threw q2.2) (r_kinds q2.2) (r_sweets q2.2) (r_settings q2.2) (r_heaps q2.2) (r_children z_g1) (r_strokes z_g1) (r_gave z_g1) (r_threw z_g1) (r_kinds z_g1) (r_sweets z_g1) (r_settings z_g1))) (As := [.ref a_h_one, .int 200]) (rest := []) hx hb hml hown hT (c_Mind_alikeWithin (z_g0 := q1) a_h_one a_h_one_kinds a_h_one_sweets a_h_one_settings a_h_one_heaps hq2) k_483 k_484 k_4 k_485 hd_Mind_alikeWithin ⟨Nat.le_of_ble_eq_true rfl, Nat.le_of_ble_eq_true rfl⟩ xE0_ok trivial hA hK hP hD hS [1, 2, 3, 4, 5] [0, 6, 7, 8, 9] [0, 5, 6, 7, 8, 9, 1, 2, 3, 4] rfl rfl rfl rfl rfl rfl rfl hl.1 rfl (Nat.le_of_ble_eq_true rfl) ⟨Nat.zero_le _, Nat.zero_le _⟩ d_Mind_alikeBehind_15 (fun H locs hP hD hS => ?_)
  have hq := Option.some.inj hf
  subst hq
  exact hret _ _ _ _ _ d_Mind_alikeBehind_18 rfl rfl hP hD hS
abbrev w_Mind_roundOf (cI cJ cC : ClassId) (a_h a_h_one a_h_two a_h_one_kinds a_h_one_sweets a_h_one_settings a_h_one_heaps a_h_two_kinds a_h_two_sweets a_h_two_settings a_h_two_heaps a_g1 a_g1_kinds a_g1_sweets a_g1_settings a_g1_heaps : Nat) (y_h_seed : Int32) (p_h_one_children : Int32) (p_h_one_strokes : Int32) (p_h_one_gave : Int32) (p_h_one_threw : Int32) (p_h_one_kinds : (Nat → Int32)) (p_h_one_sweets : (Nat → Int32)) (p_h_one_settings : (Nat → Int32)) (p_h_one_heaps : (Nat → Int32)) (p_h_two_children : Int32) (p_h_two_strokes : Int32) (p_h_two_gave : Int32) (p_h_two_threw : Int32) (p_h_two_kinds : (Nat → Int32)) (p_h_two_sweets : (Nat → Int32)) (p_h_two_settings : (Nat → Int32)) (p_h_two_heaps : (Nat → Int32)) (p_g1_children : Int32) (p_g1_strokes : Int32) (p_g1_gave : Int32) (p_g1_threw : Int32) (p_g1_kinds : (Nat → Int32)) (p_g1_sweets : (Nat → Int32)) (p_g1_settings : (Nat → Int32)) : va_W := [(a_h, .inr (3, [.ref a_h_one, .ref a_h_two, .int y_h_seed])), (a_h_one, .inr (1, [.ref a_h_one_kinds, .ref a_h_one_sweets, .ref a_h_one_settings, .int p_h_one_children, .int p_h_one_strokes, .int p_h_one_gave, .int p_h_one_threw, .ref a_h_one_heaps])), (a_h_one_kinds, .inl (cI, (8, .inl p_h_one_kinds))), (a_h_one_sweets, .inl (cI, (8, .inl p_h_one_sweets))), (a_h_one_settings, .inl (cI, (3, .inl p_h_one_settings))), (a_h_one_heaps, .inl (cI, (8, .inl p_h_one_heaps))), (a_h_two, .inr (1, [.ref a_h_two_kinds, .ref a_h_two_sweets, .ref a_h_two_settings, .int p_h_two_children, .int p_h_two_strokes, .int p_h_two_gave, .int p_h_two_threw, .ref a_h_two_heaps])), (a_h_two_kinds, .inl (cI, (8, .inl p_h_two_kinds))), (a_h_two_sweets, .inl (cI, (8, .inl p_h_two_sweets))), (a_h_two_settings, .inl (cI, (3, .inl p_h_two_settings))), (a_h_two_heaps, .inl (cI, (8, .inl p_h_two_heaps))), (a_g1, .inr (1, [.ref a_g1_kinds, .ref a_g1_sweets, .ref a_g1_settings, .int p_g1_children, .int p_g1_strokes, .int p_g1_gave, .int p_g1_threw, .ref a_g1_heaps])), (a_g1_kinds, .inl (cI, (8, .inl p_g1_kinds))), (a_g1_sweets, .inl (cI, (8, .inl p_g1_sweets))), (a_g1_settings, .inl (cI, (3, .inl p_g1_settings)))]
theorem d_Mind_roundOf_0 : decode b_Mind_roundOf 0 = .ok (.aload_n 0, 1) := by decide +kernel
theorem d_Mind_roundOf_1 : decode b_Mind_roundOf 1 = .ok (.getfield 12, 3) := by decide +kernel
theorem d_Mind_roundOf_4 : decode b_Mind_roundOf 4 = .ok (.aload_n 1, 1) := by decide +kernel
theorem d_Mind_roundOf_5 : decode b_Mind_roundOf 5 = .ok (.invokevirtual 25, 3) := by decide +kernel
theorem d_Mind_roundOf_8 : decode b_Mind_roundOf 8 = .ok (.aload_n 0, 1) := by decide +kernel
theorem d_Mind_roundOf_9 : decode b_Mind_roundOf 9 = .ok (.getfield 12, 3) := by decide +kernel
theorem d_Mind_roundOf_12 : decode b_Mind_roundOf 12 = .ok (.bipush 100, 2) := by decide +kernel
theorem d_Mind_roundOf_14 : decode b_Mind_roundOf 14 = .ok (.invokevirtual 29, 3) := by decide +kernel
theorem d_Mind_roundOf_17 : decode b_Mind_roundOf 17 = .ok (.aload_n 0, 1) := by decide +kernel
theorem d_Mind_roundOf_18 : decode b_Mind_roundOf 18 = .ok (.getfield 18, 3) := by decide +kernel
theorem d_Mind_roundOf_21 : decode b_Mind_roundOf 21 = .ok (.aload_n 0, 1) := by decide +kernel
theorem d_Mind_roundOf_22 : decode b_Mind_roundOf 22 = .ok (.getfield 12, 3) := by decide +kernel
theorem d_Mind_roundOf_25 : decode b_Mind_roundOf 25 = .ok (.invokevirtual 25, 3) := by decide +kernel
theorem d_Mind_roundOf_28 : decode b_Mind_roundOf 28 = .ok (.iconst 1, 1) := by decide +kernel
theorem d_Mind_roundOf_29 : decode b_Mind_roundOf 29 = .ok (.istore_n 2, 1) := by decide +kernel
theorem d_Mind_roundOf_30 : decode b_Mind_roundOf 30 = .ok (.iload_n 2, 1) := by decide +kernel
theorem d_Mind_roundOf_31 : decode b_Mind_roundOf 31 = .ok (.bipush 100, 2) := by decide +kernel
theorem d_Mind_roundOf_33 : decode b_Mind_roundOf 33 = .ok (.if_icmp .gt 33, 3) := by decide +kernel
theorem d_Mind_roundOf_36 : decode b_Mind_roundOf 36 = .ok (.aload_n 0, 1) := by decide +kernel
theorem d_Mind_roundOf_37 : decode b_Mind_roundOf 37 = .ok (.getfield 18, 3) := by decide +kernel
theorem d_Mind_roundOf_40 : decode b_Mind_roundOf 40 = .ok (.invokevirtual 43, 3) := by decide +kernel
theorem d_Mind_roundOf_43 : decode b_Mind_roundOf 43 = .ok (.pop, 1) := by decide +kernel
theorem d_Mind_roundOf_44 : decode b_Mind_roundOf 44 = .ok (.aload_n 0, 1) := by decide +kernel
theorem d_Mind_roundOf_45 : decode b_Mind_roundOf 45 = .ok (.getfield 18, 3) := by decide +kernel
theorem d_Mind_roundOf_48 : decode b_Mind_roundOf 48 = .ok (.aload_n 0, 1) := by decide +kernel
theorem d_Mind_roundOf_49 : decode b_Mind_roundOf 49 = .ok (.getfield 12, 3) := by decide +kernel
theorem d_Mind_roundOf_52 : decode b_Mind_roundOf 52 = .ok (.invokevirtual 59, 3) := by decide +kernel
theorem d_Mind_roundOf_55 : decode b_Mind_roundOf 55 = .ok (.ifCond .eq 5, 3) := by decide +kernel
theorem d_Mind_roundOf_58 : decode b_Mind_roundOf 58 = .ok (.iload_n 2, 1) := by decide +kernel
theorem d_Mind_roundOf_59 : decode b_Mind_roundOf 59 = .ok (.ireturn, 1) := by decide +kernel
theorem d_Mind_roundOf_60 : decode b_Mind_roundOf 60 = .ok (.iinc 2 1, 3) := by decide +kernel
theorem d_Mind_roundOf_63 : decode b_Mind_roundOf 63 = .ok (.goto (-33), 3) := by decide +kernel
theorem d_Mind_roundOf_66 : decode b_Mind_roundOf 66 = .ok (.bipush (-9), 2) := by decide +kernel
theorem d_Mind_roundOf_68 : decode b_Mind_roundOf 68 = .ok (.ireturn, 1) := by decide +kernel
set_option maxHeartbeats 4000000 in
set_option maxRecDepth 100000 in
theorem c_Mind_roundOf {l : Launch} {D : va_G} {cI cJ cC : ClassId} (a_h a_h_one a_h_two a_h_one_kinds a_h_one_sweets a_h_one_settings a_h_one_heaps a_h_two_kinds a_h_two_sweets a_h_two_settings a_h_two_heaps a_g1 a_g1_kinds a_g1_sweets a_g1_settings a_g1_heaps : Nat) (y_h_seed : Int32) {z_h_one : RS} {z_h_two : RS} {z_g1 : RS} {q : Int32 × RS × RS} (hf : f_Mind_roundOf z_h_one z_h_two z_g1 = some q) : xI l y_Mind_roundOf b_Mind_roundOf 3 .int 5 111 D (tyK cI cJ cC) xE0 [.ref a_h, .ref a_g1] (w_Mind_roundOf cI cJ cC a_h a_h_one a_h_two a_h_one_kinds a_h_one_sweets a_h_one_settings a_h_one_heaps a_h_two_kinds a_h_two_sweets a_h_two_settings a_h_two_heaps a_g1 a_g1_kinds a_g1_sweets a_g1_settings a_g1_heaps y_h_seed (r_children z_h_one) (r_strokes z_h_one) (r_gave z_h_one) (r_threw z_h_one) (r_kinds z_h_one) (r_sweets z_h_one) (r_settings z_h_one) (r_heaps z_h_one) (r_children z_h_two) (r_strokes z_h_two) (r_gave z_h_two) (r_threw z_h_two) (r_kinds z_h_two) (r_sweets z_h_two) (r_settings z_h_two) (r_heaps z_h_two) (r_children z_g1) (r_strokes z_g1) (r_gave z_g1) (r_threw z_g1) (r_kinds z_g1) (r_sweets z_g1) (r_settings z_g1)) q.1 (w_Mind_roundOf cI cJ cC a_h a_h_one a_h_two a_h_one_kinds a_h_one_sweets a_h_one_settings a_h_one_heaps a_h_two_kinds a_h_two_sweets a_h_two_settings a_h_two_heaps a_g1 a_g1_kinds a_g1_sweets a_g1_settings a_g1_heaps y_h_seed (r_children q.2.1) (r_strokes q.2.1) (r_gave q.2.1) (r_threw q.2.1) (r_kinds q.2.1) (r_sweets q.2.1) (r_settings q.2.1) (r_heaps q.2.1) (r_children q.2.2) (r_strokes q.2.2) (r_gave q.2.2) (r_threw q.2.2) (r_kinds q.2.2) (r_sweets q.2.2) (r_settings q.2.2) (r_heaps q.2.2) (r_children z_g1) (r_strokes z_g1) (r_gave z_g1) (r_threw z_g1) (r_kinds z_g1) (r_sweets z_g1) (r_settings z_g1)) := by
  refine xI_of (by decide) (Nat.le_of_ble_eq_true rfl) ?_
  intro p e s m args below meth c A Q hx hb hml hown hT hA hP hD hK hS hE hret ls hl
  have hown : s.vm.findClass R_Mind = some m.cls := hown
  have hl : lv_has ls 3 [(0, .ref a_h), (1, .ref a_g1)] := hl
  unfold f_Mind_roundOf at hf
  have L30 : ∀ (z_h_one : RS), ∀ (n : Nat) (z_h_two : RS) (x2 : Int32) (H : Heap) (locs : List Loc) (ls : Array Slot), f_Mind_roundOf_L30 z_h_one n z_h_two x2 = some q → va_P D classes (w_Mind_roundOf cI cJ cC a_h a_h_one a_h_two a_h_one_kinds a_h_one_sweets a_h_one_settings a_h_one_heaps a_h_two_kinds a_h_two_sweets a_h_two_settings a_h_two_heaps a_g1 a_g1_kinds a_g1_sweets a_g1_settings a_g1_heaps y_h_seed (r_children z_h_one) (r_strokes z_h_one) (r_gave z_h_one) (r_threw z_h_one) (r_kinds z_h_one) (r_sweets z_h_one) (r_settings z_h_one) (r_heaps z_h_one) (r_children z_h_two) (r_strokes z_h_two) (r_gave z_h_two) (r_threw z_h_two) (r_kinds z_h_two) (r_sweets z_h_two) (r_settings z_h_two) (r_heaps z_h_two) (r_children z_g1) (r_strokes z_g1) (r_gave z_g1) (r_threw z_g1) (r_kinds z_g1) (r_sweets z_g1) (r_settings z_g1)) H → va_D A (w_Mind_roundOf cI cJ cC a_h a_h_one a_h_two a_h_one_kinds a_h_one_sweets a_h_one_settings a_h_one_heaps a_h_two_kinds a_h_two_sweets a_h_two_settings a_h_two_heaps a_g1 a_g1_kinds a_g1_sweets a_g1_settings a_g1_heaps y_h_seed (r_children z_h_one) (r_strokes z_h_one) (r_gave z_h_one) (r_threw z_h_one) (r_kinds z_h_one) (r_sweets z_h_one) (r_settings z_h_one) (r_heaps z_h_one) (r_children z_h_two) (r_strokes z_h_two) (r_gave z_h_two) (r_threw z_h_two) (r_kinds z_h_two) (r_sweets z_h_two) (r_settings z_h_two) (r_heaps z_h_two) (r_children z_g1) (r_strokes z_g1) (r_gave z_g1) (r_threw z_g1) (r_kinds z_g1) (r_sweets z_g1) (r_settings z_g1)) → va_S A s.heap H locs → lv_has ls 3 [(0, .ref a_h), (2, .int x2)] → W p l e (xRm 5 111) s m args below meth c H locs 0 0 Q (F0 m 30 ls []) := by
    intro z_h_one n
    induction n with
    | zero => intro z_h_two x2 H locs ls hf hP hD hS hl; exact nomatch (show (none : Option (Int32 × RS × RS)) = some q from hf)
    | succ n ih =>
      intro z_h_two x2 H locs ls hf hP hD hS hl
      refine lv_iload_n hx hb d_Mind_roundOf_30 rfl (lv_at hl 1 rfl) ?_
      refine lv_bipush (v := 100) hx hb d_Mind_roundOf_31 (by decide) ?_
      refine lv_icmp_gt (tgt := 66) hx hb d_Mind_roundOf_33 (by decide) (fun c4 => ?_) (fun c4 => ?_)
      · have hf := io_t hf c4
        refine lv_bipush (v := (-9)) hx hb d_Mind_roundOf_66 (by decide) ?_
        have hq := Option.some.inj hf
        subst hq
        exact hret _ _ _ _ _ d_Mind_roundOf_68 rfl rfl hP hD hS
      · have hf := io_f hf c4
        refine lv_aload_n hx hb d_Mind_roundOf_36 rfl (lv_at hl 0 rfl) ?_
        refine va_get hx hb hT i_Mind hown hK hP 0 rfl rfl 1 (Nat.le_of_ble_eq_true rfl) (hT _ k_107) (fun _ h => h) rfl d_Mind_roundOf_37 ?_
        obtain ⟨q5, hq5, hf⟩ := io_b hf
        refine xcVI (wc := (w_Ring_strike cI cJ cC a_h_two a_h_two_kinds a_h_two_sweets a_h_two_settings a_h_two_heaps (r_children z_h_two) (r_strokes z_h_two) (r_gave z_h_two) (r_threw z_h_two) (r_kinds z_h_two) (r_sweets z_h_two) (r_settings z_h_two) (r_heaps z_h_two))) (wc' := (w_Ring_strike cI cJ cC a_h_two a_h_two_kinds a_h_two_sweets a_h_two_settings a_h_two_heaps (r_children q5.2) (r_strokes q5.2) (r_gave q5.2) (r_threw q5.2) (r_kinds q5.2) (r_sweets q5.2) (r_settings q5.2) (r_heaps q5.2))) (ws' := (w_Mind_roundOf cI cJ cC a_h a_h_one a_h_two a_h_one_kinds a_h_one_sweets a_h_one_settings a_h_one_heaps a_h_two_kinds a_h_two_sweets a_h_two_settings a_h_two_heaps a_g1 a_g1_kinds a_g1_sweets a_g1_settings a_g1_heaps y_h_seed (r_children z_h_one) (r_strokes z_h_one) (r_gave z_h_one) (r_threw z_h_one) (r_kinds z_h_one) (r_sweets z_h_one) (r_settings z_h_one) (r_heaps z_h_one) (r_children q5.2) (r_strokes q5.2) (r_gave q5.2) (r_threw q5.2) (r_kinds q5.2) (r_sweets q5.2) (r_settings q5.2) (r_heaps q5.2) (r_children z_g1) (r_strokes z_g1) (r_gave z_g1) (r_threw z_g1) (r_kinds z_g1) (r_sweets z_g1) (r_settings z_g1))) (As := []) (rest := []) hx hb hml hown hT (c_Ring_strike (z_h := z_h_two) a_h_two a_h_two_kinds a_h_two_sweets a_h_two_settings a_h_two_heaps hq5) k_470 k_417 k_418 k_2 k_419 hd_Ring_strike ⟨Nat.le_of_ble_eq_true rfl, Nat.le_of_ble_eq_true rfl⟩ xE0_ok trivial hA hK hP hD hS [6, 7, 8, 9, 10] [0, 1, 2, 3, 4, 5, 11, 12, 13, 14] [0, 1, 2, 3, 4, 5, 10, 11, 12, 13, 14, 6, 7, 8, 9] rfl rfl rfl rfl rfl rfl rfl rfl rfl rfl hl.1 rfl (Nat.le_of_ble_eq_true rfl) ⟨Nat.zero_le _, Nat.zero_le _⟩ d_Mind_roundOf_40 (fun H locs hP hD hS => ?_)
        refine lv_pop hx hb d_Mind_roundOf_43 rfl ?_
        refine lv_aload_n hx hb d_Mind_roundOf_44 rfl (lv_at hl 0 rfl) ?_
        refine va_get hx hb hT i_Mind hown hK hP 0 rfl rfl 1 (Nat.le_of_ble_eq_true rfl) (hT _ k_107) (fun _ h => h) rfl d_Mind_roundOf_45 ?_
        refine lv_aload_n hx hb d_Mind_roundOf_48 rfl (lv_at hl 0 rfl) ?_
        refine va_get hx hb hT i_Mind hown hK hP 0 rfl rfl 0 (Nat.le_of_ble_eq_true rfl) (hT _ k_106) (fun _ h => h) rfl d_Mind_roundOf_49 ?_
        obtain ⟨q6, hq6, hf⟩ := io_b hf
        refine xcVI (wc := (w_Ring_hasSweetsAndBagOf cI cJ cC a_h_two a_h_two_kinds a_h_two_sweets a_h_two_settings a_h_two_heaps a_h_one a_h_one_kinds a_h_one_sweets a_h_one_settings a_h_one_heaps (r_children q5.2) (r_strokes q5.2) (r_gave q5.2) (r_threw q5.2) (r_sweets q5.2) (r_settings q5.2) (r_children z_h_one) (r_strokes z_h_one) (r_gave z_h_one) (r_threw z_h_one) (r_sweets z_h_one) (r_settings z_h_one))) (wc' := (w_Ring_hasSweetsAndBagOf cI cJ cC a_h_two a_h_two_kinds a_h_two_sweets a_h_two_settings a_h_two_heaps a_h_one a_h_one_kinds a_h_one_sweets a_h_one_settings a_h_one_heaps (r_children q5.2) (r_strokes q5.2) (r_gave q5.2) (r_threw q5.2) (r_sweets q5.2) (r_settings q5.2) (r_children z_h_one) (r_strokes z_h_one) (r_gave z_h_one) (r_threw z_h_one) (r_sweets z_h_one) (r_settings z_h_one))) (ws' := (w_Mind_roundOf cI cJ cC a_h a_h_one a_h_two a_h_one_kinds a_h_one_sweets a_h_one_settings a_h_one_heaps a_h_two_kinds a_h_two_sweets a_h_two_settings a_h_two_heaps a_g1 a_g1_kinds a_g1_sweets a_g1_settings a_g1_heaps y_h_seed (r_children z_h_one) (r_strokes z_h_one) (r_gave z_h_one) (r_threw z_h_one) (r_kinds z_h_one) (r_sweets z_h_one) (r_settings z_h_one) (r_heaps z_h_one) (r_children q5.2) (r_strokes q5.2) (r_gave q5.2) (r_threw q5.2) (r_kinds q5.2) (r_sweets q5.2) (r_settings q5.2) (r_heaps q5.2) (r_children z_g1) (r_strokes z_g1) (r_gave z_g1) (r_threw z_g1) (r_kinds z_g1) (r_sweets z_g1) (r_settings z_g1))) (As := [.ref a_h_one]) (rest := []) hx hb hml hown hT (c_Ring_hasSweetsAndBagOf (z_h := q5.2) (z_g1 := z_h_one) a_h_two a_h_two_kinds a_h_two_sweets a_h_two_settings a_h_two_heaps a_h_one a_h_one_kinds a_h_one_sweets a_h_one_settings a_h_one_heaps hq6) k_498 k_499 k_500 k_2 k_501 hd_Ring_hasSweetsAndBagOf ⟨Nat.le_of_ble_eq_true rfl, Nat.le_of_ble_eq_true rfl⟩ xE0_ok trivial hA hK hP hD hS [6, 8, 9, 1, 3, 4] [0, 2, 5, 7, 10, 11, 12, 13, 14] [0, 12, 1, 13, 14, 2, 9, 3, 10, 11, 4, 5, 6, 7, 8] rfl rfl rfl rfl rfl rfl rfl rfl rfl rfl hl.1 rfl (Nat.le_of_ble_eq_true rfl) ⟨Nat.zero_le _, Nat.zero_le _⟩ d_Mind_roundOf_52 (fun H locs hP hD hS => ?_)
        refine lv_if_eq (tgt := 60) hx hb d_Mind_roundOf_55 (by decide) (fun c7 => ?_) (fun c7 => ?_)
        · have hf := io_t hf c7
          refine lv_iinc (v := (x2 + 1)) (lv' := [(2, .int (x2 + 1)), (0, .ref a_h)]) hx hb d_Mind_roundOf_60 hl (k := 1) rfl (by rfl) (by decide) rfl (fun ls hl => ?_)
          refine lv_goto (tgt := 30) hx hb d_Mind_roundOf_63 (by decide) ?_
          exact ih q5.2 (x2 + 1) _ _ _ hf hP hD hS (lv_sub hl [1, 0] rfl)
        · have hf := io_f hf c7
          refine lv_iload_n hx hb d_Mind_roundOf_58 rfl (lv_at hl 1 rfl) ?_
          have hq := Option.some.inj hf
          subst hq
          exact hret _ _ _ _ _ d_Mind_roundOf_59 rfl rfl hP hD hS
  refine lv_aload_n hx hb d_Mind_roundOf_0 rfl (lv_at hl 0 rfl) ?_
  refine va_get hx hb hT i_Mind hown hK hP 0 rfl rfl 0 (Nat.le_of_ble_eq_true rfl) (hT _ k_106) (fun _ h => h) rfl d_Mind_roundOf_1 ?_
  refine lv_aload_n hx hb d_Mind_roundOf_4 rfl (lv_at hl 1 rfl) ?_
  obtain ⟨q1, hq1, hf⟩ := io_b hf
  refine xcVV (wc := (w_Ring_copyFrom cI cJ cC a_h_one a_h_one_kinds a_h_one_sweets a_h_one_settings a_h_one_heaps a_g1 a_g1_kinds a_g1_sweets a_g1_settings a_g1_heaps (r_children z_h_one) (r_strokes z_h_one) (r_gave z_h_one) (r_threw z_h_one) (r_kinds z_h_one) (r_sweets z_h_one) (r_settings z_h_one) (r_heaps z_h_one) (r_children z_g1) (r_strokes z_g1) (r_gave z_g1) (r_threw z_g1) (r_kinds z_g1) (r_sweets z_g1) (r_settings z_g1))) (wc' := (w_Ring_copyFrom cI cJ cC a_h_one a_h_one_kinds a_h_one_sweets a_h_one_settings a_h_one_heaps a_g1 a_g1_kinds a_g1_sweets a_g1_settings a_g1_heaps (r_children q1) (r_strokes q1) (r_gave q1) (r_threw q1) (r_kinds q1) (r_sweets q1) (r_settings q1) (r_heaps q1) (r_children z_g1) (r_strokes z_g1) (r_gave z_g1) (r_threw z_g1) (r_kinds z_g1) (r_sweets z_g1) (r_settings z_g1))) (ws' := (w_Mind_roundOf cI cJ cC a_h a_h_one a_h_two a_h_one_kinds a_h_one_sweets a_h_one_settings a_h_one_heaps a_h_two_kinds a_h_two_sweets a_h_two_settings a_h_two_heaps a_g1 a_g1_kinds a_g1_sweets a_g1_settings a_g1_heaps y_h_seed (r_children q1) (r_strokes q1) (r_gave q1) (r_threw q1) (r_kinds q1) (r_sweets q1) (r_settings q1) (r_heaps q1) (r_children z_h_two) (r_strokes z_h_two) (r_gave z_h_two) (r_threw z_h_two) (r_kinds z_h_two) (r_sweets z_h_two) (r_settings z_h_two) (r_heaps z_h_two) (r_children z_g1) (r_strokes z_g1) (r_gave z_g1) (r_threw z_g1) (r_kinds z_g1) (r_sweets z_g1) (r_settings z_g1))) (As := [.ref a_g1]) (rest := []) hx hb hml hown hT (c_Ring_copyFrom (z_h := z_h_one) (z_g1 := z_g1) a_h_one a_h_one_kinds a_h_one_sweets a_h_one_settings a_h_one_heaps a_g1 a_g1_kinds a_g1_sweets a_g1_settings a_g1_heaps hq1) k_441 k_326 k_327 k_2 k_328 hd_Ring_copyFrom ⟨Nat.le_of_ble_eq_true rfl, Nat.le_of_ble_eq_true rfl⟩ xE0_ok trivial hA hK hP hD hS [1, 2, 3, 4, 5, 11, 12, 13, 14] [0, 6, 7, 8, 9, 10] [0, 6, 7, 8, 9, 10, 1, 2, 3, 4, 5, 11, 12, 13, 14] rfl rfl rfl rfl rfl rfl rfl rfl rfl rfl hl.1 rfl (Nat.le_of_ble_eq_true rfl) ⟨Nat.zero_le _, Nat.zero_le _⟩ d_Mind_roundOf_5 (fun H locs hP hD hS => ?_)
  refine lv_aload_n hx hb d_Mind_roundOf_8 rfl (lv_at hl 0 rfl) ?_
  refine va_get hx hb hT i_Mind hown hK hP 0 rfl rfl 0 (Nat.le_of_ble_eq_true rfl) (hT _ k_106) (fun _ h => h) rfl d_Mind_roundOf_9 ?_
  refine lv_bipush (v := 100) hx hb d_Mind_roundOf_12 (by decide) ?_
  obtain ⟨q2, hq2, hf⟩ := io_b hf
  refine xcVV (wc := (w_Ring_strikeOften cI cJ cC a_h_one a_h_one_kinds a_h_one_sweets a_h_one_settings a_h_one_heaps (r_children q1) (r_strokes q1) (r_gave q1) (r_threw q1) (r_kinds q1) (r_sweets q1) (r_settings q1) (r_heaps q1))) (wc' := (w_Ring_strikeOften cI cJ cC a_h_one a_h_one_kinds a_h_one_sweets a_h_one_settings a_h_one_heaps (r_children q2) (r_strokes q2) (r_gave q2) (r_threw q2) (r_kinds q2) (r_sweets q2) (r_settings q2) (r_heaps q2))) (ws' := (w_Mind_roundOf cI cJ cC a_h a_h_one a_h_two a_h_one_kinds a_h_one_sweets a_h_one_settings a_h_one_heaps a_h_two_kinds a_h_two_sweets a_h_two_settings a_h_two_heaps a_g1 a_g1_kinds a_g1_sweets a_g1_settings a_g1_heaps y_h_seed (r_children q2) (r_strokes q2) (r_gave q2) (r_threw q2) (r_kinds q2) (r_sweets q2) (r_settings q2) (r_heaps q2) (r_children z_h_two) (r_strokes z_h_two) (r_gave z_h_two) (r_threw z_h_two) (r_kinds z_h_two) (r_sweets z_h_two) (r_settings z_h_two) (r_heaps z_h_two) (r_children z_g1) (r_strokes z_g1) (r_gave z_g1) (r_threw z_g1) (r_kinds z_g1) (r_sweets z_g1) (r_settings z_g1))) (As := [.int 100]) (rest := []) hx hb hml hown hT (c_Ring_strikeOften (z_h := q1) a_h_one a_h_one_kinds a_h_one_sweets a_h_one_settings a_h_one_heaps hq2) k_442 k_443 k_444 k_2 k_445 hd_Ring_strikeOften ⟨Nat.le_of_ble_eq_true rfl, Nat.le_of_ble_eq_true rfl⟩ xE0_ok trivial hA hK hP hD hS [1, 2, 3, 4, 5] [0, 6, 7, 8, 9, 10, 11, 12, 13, 14] [0, 10, 11, 12, 13, 14, 1, 2, 3, 4, 5, 6, 7, 8, 9] rfl rfl rfl rfl rfl rfl rfl rfl rfl rfl hl.1 rfl (Nat.le_of_ble_eq_true rfl) ⟨Nat.zero_le _, Nat.zero_le _⟩ d_Mind_roundOf_14 (fun H locs hP hD hS => ?_)
  refine lv_aload_n hx hb d_Mind_roundOf_17 rfl (lv_at hl 0 rfl) ?_
  refine va_get hx hb hT i_Mind hown hK hP 0 rfl rfl 1 (Nat.le_of_ble_eq_true rfl) (hT _ k_107) (fun _ h => h) rfl d_Mind_roundOf_18 ?_
  refine lv_aload_n hx hb d_Mind_roundOf_21 rfl (lv_at hl 0 rfl) ?_
  refine va_get hx hb hT i_Mind hown hK hP 0 rfl rfl 0 (Nat.le_of_ble_eq_true rfl) (hT _ k_106) (fun _ h => h) rfl d_Mind_roundOf_22 ?_
  obtain ⟨q3, hq3, hf⟩ := io_b hf
  refine xcVV (wc := (w_Ring_copyFrom cI cJ cC a_h_two a_h_two_kinds a_h_two_sweets a_h_two_settings a_h_two_heaps a_h_one a_h_one_kinds a_h_one_sweets a_h_one_settings a_h_one_heaps (r_children z_h_two) (r_strokes z_h_two) (r_gave z_h_two) (r_threw z_h_two) (r_kinds z_h_two) (r_sweets z_h_two) (r_settings z_h_two) (r_heaps z_h_two) (r_children q2) (r_strokes q2) (r_gave q2) (r_threw q2) (r_kinds q2) (r_sweets q2) (r_settings q2))) (wc' := (w_Ring_copyFrom cI cJ cC a_h_two a_h_two_kinds a_h_two_sweets a_h_two_settings a_h_two_heaps a_h_one a_h_one_kinds a_h_one_sweets a_h_one_settings a_h_one_heaps (r_children q3) (r_strokes q3) (r_gave q3) (r_threw q3) (r_kinds q3) (r_sweets q3) (r_settings q3) (r_heaps q3) (r_children q2) (r_strokes q2) (r_gave q2) (r_threw q2) (r_kinds q2) (r_sweets q2) (r_settings q2))) (ws' := (w_Mind_roundOf cI cJ cC a_h a_h_one a_h_two a_h_one_kinds a_h_one_sweets a_h_one_settings a_h_one_heaps a_h_two_kinds a_h_two_sweets a_h_two_settings a_h_two_heaps a_g1 a_g1_kinds a_g1_sweets a_g1_settings a_g1_heaps y_h_seed (r_children q2) (r_strokes q2) (r_gave q2) (r_threw q2) (r_kinds q2) (r_sweets q2) (r_settings q2) (r_heaps q2) (r_children q3) (r_strokes q3) (r_gave q3) (r_threw q3) (r_kinds q3) (r_sweets q3) (r_settings q3) (r_heaps q3) (r_children z_g1) (r_strokes z_g1) (r_gave z_g1) (r_threw z_g1) (r_kinds z_g1) (r_sweets z_g1) (r_settings z_g1))) (As := [.ref a_h_one]) (rest := []) hx hb hml hown hT (c_Ring_copyFrom (z_h := z_h_two) (z_g1 := q2) a_h_two a_h_two_kinds a_h_two_sweets a_h_two_settings a_h_two_heaps a_h_one a_h_one_kinds a_h_one_sweets a_h_one_settings a_h_one_heaps hq3) k_441 k_326 k_327 k_2 k_328 hd_Ring_copyFrom ⟨Nat.le_of_ble_eq_true rfl, Nat.le_of_ble_eq_true rfl⟩ xE0_ok trivial hA hK hP hD hS [6, 7, 8, 9, 10, 1, 2, 3, 4] [0, 5, 11, 12, 13, 14] [0, 11, 12, 13, 14, 1, 6, 7, 8, 9, 10, 2, 3, 4, 5] rfl rfl rfl rfl rfl rfl rfl rfl rfl rfl hl.1 rfl (Nat.le_of_ble_eq_true rfl) ⟨Nat.zero_le _, Nat.zero_le _⟩ d_Mind_roundOf_25 (fun H locs hP hD hS => ?_)
  refine lv_iconst (v := 1) hx hb d_Mind_roundOf_28 (by decide) ?_
  refine lv_istore_n (lv' := [(2, .int 1), (0, .ref a_h), (1, .ref a_g1)]) hx hb d_Mind_roundOf_29 rfl hl (by decide) rfl (fun ls hl => ?_)
  exact L30 q2 FU q3 1 _ _ _ hf hP hD hS (lv_sub hl [1, 0] rfl)
abbrev w_Mind_aheadOfRound (cI cJ cC : ClassId) (a_h a_h_one a_h_two a_h_one_kinds a_h_one_sweets a_h_one_settings a_h_one_heaps a_h_two_kinds a_h_two_sweets a_h_two_settings a_h_two_heaps a_g1 a_g1_kinds a_g1_sweets a_g1_settings a_g1_heaps : Nat) (y_h_seed : Int32) (p_h_one_children : Int32) (p_h_one_strokes : Int32) (p_h_one_gave : Int32) (p_h_one_threw : Int32) (p_h_one_kinds : (Nat → Int32)) (p_h_one_sweets : (Nat → Int32)) (p_h_one_settings : (Nat → Int32)) (p_h_one_heaps : (Nat → Int32)) (p_h_two_children : Int32) (p_h_two_strokes : Int32) (p_h_two_gave : Int32) (p_h_two_threw : Int32) (p_h_two_kinds : (Nat → Int32)) (p_h_two_sweets : (Nat → Int32)) (p_h_two_settings : (Nat → Int32)) (p_h_two_heaps : (Nat → Int32)) (p_g1_children : Int32) (p_g1_strokes : Int32) (p_g1_gave : Int32) (p_g1_threw : Int32) (p_g1_kinds : (Nat → Int32)) (p_g1_sweets : (Nat → Int32)) (p_g1_settings : (Nat → Int32)) : va_W := [(a_h, .inr (3, [.ref a_h_one, .ref a_h_two, .int y_h_seed])), (a_h_one, .inr (1, [.ref a_h_one_kinds, .ref a_h_one_sweets, .ref a_h_one_settings, .int p_h_one_children, .int p_h_one_strokes, .int p_h_one_gave, .int p_h_one_threw, .ref a_h_one_heaps])), (a_h_one_kinds, .inl (cI, (8, .inl p_h_one_kinds))), (a_h_one_sweets, .inl (cI, (8, .inl p_h_one_sweets))), (a_h_one_settings, .inl (cI, (3, .inl p_h_one_settings))), (a_h_one_heaps, .inl (cI, (8, .inl p_h_one_heaps))), (a_h_two, .inr (1, [.ref a_h_two_kinds, .ref a_h_two_sweets, .ref a_h_two_settings, .int p_h_two_children, .int p_h_two_strokes, .int p_h_two_gave, .int p_h_two_threw, .ref a_h_two_heaps])), (a_h_two_kinds, .inl (cI, (8, .inl p_h_two_kinds))), (a_h_two_sweets, .inl (cI, (8, .inl p_h_two_sweets))), (a_h_two_settings, .inl (cI, (3, .inl p_h_two_settings))), (a_h_two_heaps, .inl (cI, (8, .inl p_h_two_heaps))), (a_g1, .inr (1, [.ref a_g1_kinds, .ref a_g1_sweets, .ref a_g1_settings, .int p_g1_children, .int p_g1_strokes, .int p_g1_gave, .int p_g1_threw, .ref a_g1_heaps])), (a_g1_kinds, .inl (cI, (8, .inl p_g1_kinds))), (a_g1_sweets, .inl (cI, (8, .inl p_g1_sweets))), (a_g1_settings, .inl (cI, (3, .inl p_g1_settings)))]
theorem d_Mind_aheadOfRound_0 : decode b_Mind_aheadOfRound 0 = .ok (.aload_n 0, 1) := by decide +kernel
theorem d_Mind_aheadOfRound_1 : decode b_Mind_aheadOfRound 1 = .ok (.getfield 12, 3) := by decide +kernel
theorem d_Mind_aheadOfRound_4 : decode b_Mind_aheadOfRound 4 = .ok (.aload_n 1, 1) := by decide +kernel
theorem d_Mind_aheadOfRound_5 : decode b_Mind_aheadOfRound 5 = .ok (.invokevirtual 25, 3) := by decide +kernel
theorem d_Mind_aheadOfRound_8 : decode b_Mind_aheadOfRound 8 = .ok (.aload_n 0, 1) := by decide +kernel
theorem d_Mind_aheadOfRound_9 : decode b_Mind_aheadOfRound 9 = .ok (.getfield 18, 3) := by decide +kernel
theorem d_Mind_aheadOfRound_12 : decode b_Mind_aheadOfRound 12 = .ok (.aload_n 1, 1) := by decide +kernel
theorem d_Mind_aheadOfRound_13 : decode b_Mind_aheadOfRound 13 = .ok (.invokevirtual 25, 3) := by decide +kernel
theorem d_Mind_aheadOfRound_16 : decode b_Mind_aheadOfRound 16 = .ok (.aload_n 0, 1) := by decide +kernel
theorem d_Mind_aheadOfRound_17 : decode b_Mind_aheadOfRound 17 = .ok (.getfield 18, 3) := by decide +kernel
theorem d_Mind_aheadOfRound_20 : decode b_Mind_aheadOfRound 20 = .ok (.iload_n 2, 1) := by decide +kernel
theorem d_Mind_aheadOfRound_21 : decode b_Mind_aheadOfRound 21 = .ok (.invokevirtual 29, 3) := by decide +kernel
theorem d_Mind_aheadOfRound_24 : decode b_Mind_aheadOfRound 24 = .ok (.iconst 0, 1) := by decide +kernel
theorem d_Mind_aheadOfRound_25 : decode b_Mind_aheadOfRound 25 = .ok (.istore_n 3, 1) := by decide +kernel
theorem d_Mind_aheadOfRound_26 : decode b_Mind_aheadOfRound 26 = .ok (.iload_n 3, 1) := by decide +kernel
theorem d_Mind_aheadOfRound_27 : decode b_Mind_aheadOfRound 27 = .ok (.bipush 100, 2) := by decide +kernel
theorem d_Mind_aheadOfRound_29 : decode b_Mind_aheadOfRound 29 = .ok (.if_icmp .gt 41, 3) := by decide +kernel
theorem d_Mind_aheadOfRound_32 : decode b_Mind_aheadOfRound 32 = .ok (.aload_n 0, 1) := by decide +kernel
theorem d_Mind_aheadOfRound_33 : decode b_Mind_aheadOfRound 33 = .ok (.getfield 18, 3) := by decide +kernel
theorem d_Mind_aheadOfRound_36 : decode b_Mind_aheadOfRound 36 = .ok (.aload_n 0, 1) := by decide +kernel
theorem d_Mind_aheadOfRound_37 : decode b_Mind_aheadOfRound 37 = .ok (.getfield 12, 3) := by decide +kernel
theorem d_Mind_aheadOfRound_40 : decode b_Mind_aheadOfRound 40 = .ok (.invokevirtual 59, 3) := by decide +kernel
theorem d_Mind_aheadOfRound_43 : decode b_Mind_aheadOfRound 43 = .ok (.ifCond .eq 5, 3) := by decide +kernel
theorem d_Mind_aheadOfRound_46 : decode b_Mind_aheadOfRound 46 = .ok (.iload_n 3, 1) := by decide +kernel
theorem d_Mind_aheadOfRound_47 : decode b_Mind_aheadOfRound 47 = .ok (.ireturn, 1) := by decide +kernel
theorem d_Mind_aheadOfRound_48 : decode b_Mind_aheadOfRound 48 = .ok (.aload_n 0, 1) := by decide +kernel
theorem d_Mind_aheadOfRound_49 : decode b_Mind_aheadOfRound 49 = .ok (.getfield 12, 3) := by decide +kernel
theorem d_Mind_aheadOfRound_52 : decode b_Mind_aheadOfRound 52 = .ok (.invokevirtual 43, 3) := by decide +kernel
theorem d_Mind_aheadOfRound_55 : decode b_Mind_aheadOfRound 55 = .ok (.pop, 1) := by decide +kernel
theorem d_Mind_aheadOfRound_56 : decode b_Mind_aheadOfRound 56 = .ok (.aload_n 0, 1) := by decide +kernel
theorem d_Mind_aheadOfRound_57 : decode b_Mind_aheadOfRound 57 = .ok (.getfield 18, 3) := by decide +kernel
theorem d_Mind_aheadOfRound_60 : decode b_Mind_aheadOfRound 60 = .ok (.invokevirtual 43, 3) := by decide +kernel
theorem d_Mind_aheadOfRound_63 : decode b_Mind_aheadOfRound 63 = .ok (.pop, 1) := by decide +kernel
theorem d_Mind_aheadOfRound_64 : decode b_Mind_aheadOfRound 64 = .ok (.iinc 3 1, 3) := by decide +kernel
theorem d_Mind_aheadOfRound_67 : decode b_Mind_aheadOfRound 67 = .ok (.goto (-41), 3) := by decide +kernel
theorem d_Mind_aheadOfRound_70 : decode b_Mind_aheadOfRound 70 = .ok (.bipush (-9), 2) := by decide +kernel
theorem d_Mind_aheadOfRound_72 : decode b_Mind_aheadOfRound 72 = .ok (.ireturn, 1) := by decide +kernel
set_option maxHeartbeats 4000000 in
set_option maxRecDepth 100000 in
theorem c_Mind_aheadOfRound {l : Launch} {D : va_G} {cI cJ cC : ClassId} (a_h a_h_one a_h_two a_h_one_kinds a_h_one_sweets a_h_one_settings a_h_one_heaps a_h_two_kinds a_h_two_sweets a_h_two_settings a_h_two_heaps a_g1 a_g1_kinds a_g1_sweets a_g1_settings a_g1_heaps : Nat) (y_h_seed : Int32) {z_h_one : RS} {z_h_two : RS} {z_g1 : RS} {x2 : Int32} {q : Int32 × RS × RS} (hf : f_Mind_aheadOfRound z_h_one z_h_two z_g1 x2 = some q) : xI l y_Mind_aheadOfRound b_Mind_aheadOfRound 4 .int 5 111 D (tyK cI cJ cC) xE0 [.ref a_h, .ref a_g1, .int x2] (w_Mind_aheadOfRound cI cJ cC a_h a_h_one a_h_two a_h_one_kinds a_h_one_sweets a_h_one_settings a_h_one_heaps a_h_two_kinds a_h_two_sweets a_h_two_settings a_h_two_heaps a_g1 a_g1_kinds a_g1_sweets a_g1_settings a_g1_heaps y_h_seed (r_children z_h_one) (r_strokes z_h_one) (r_gave z_h_one) (r_threw z_h_one) (r_kinds z_h_one) (r_sweets z_h_one) (r_settings z_h_one) (r_heaps z_h_one) (r_children z_h_two) (r_strokes z_h_two) (r_gave z_h_two) (r_threw z_h_two) (r_kinds z_h_two) (r_sweets z_h_two) (r_settings z_h_two) (r_heaps z_h_two) (r_children z_g1) (r_strokes z_g1) (r_gave z_g1) (r_threw z_g1) (r_kinds z_g1) (r_sweets z_g1) (r_settings z_g1)) q.1 (w_Mind_aheadOfRound cI cJ cC a_h a_h_one a_h_two a_h_one_kinds a_h_one_sweets a_h_one_settings a_h_one_heaps a_h_two_kinds a_h_two_sweets a_h_two_settings a_h_two_heaps a_g1 a_g1_kinds a_g1_sweets a_g1_settings a_g1_heaps y_h_seed (r_children q.2.1) (r_strokes q.2.1) (r_gave q.2.1) (r_threw q.2.1) (r_kinds q.2.1) (r_sweets q.2.1) (r_settings q.2.1) (r_heaps q.2.1) (r_children q.2.2) (r_strokes q.2.2) (r_gave q.2.2) (r_threw q.2.2) (r_kinds q.2.2) (r_sweets q.2.2) (r_settings q.2.2) (r_heaps q.2.2) (r_children z_g1) (r_strokes z_g1) (r_gave z_g1) (r_threw z_g1) (r_kinds z_g1) (r_sweets z_g1) (r_settings z_g1)) := by
  refine xI_of (by decide) (Nat.le_of_ble_eq_true rfl) ?_
  intro p e s m args below meth c A Q hx hb hml hown hT hA hP hD hK hS hE hret ls hl
  have hown : s.vm.findClass R_Mind = some m.cls := hown
  have hl : lv_has ls 4 [(0, .ref a_h), (1, .ref a_g1), (2, .int x2)] := hl
  unfold f_Mind_aheadOfRound at hf
  have L26 : ∀ (n : Nat) (z_h_one : RS) (z_h_two : RS) (x3 : Int32) (H : Heap) (locs : List Loc) (ls : Array Slot), f_Mind_aheadOfRound_L26 n z_h_one z_h_two x3 = some q → va_P D classes (w_Mind_aheadOfRound cI cJ cC a_h a_h_one a_h_two a_h_one_kinds a_h_one_sweets a_h_one_settings a_h_one_heaps a_h_two_kinds a_h_two_sweets a_h_two_settings a_h_two_heaps a_g1 a_g1_kinds a_g1_sweets a_g1_settings a_g1_heaps y_h_seed (r_children z_h_one) (r_strokes z_h_one) (r_gave z_h_one) (r_threw z_h_one) (r_kinds z_h_one) (r_sweets z_h_one) (r_settings z_h_one) (r_heaps z_h_one) (r_children z_h_two) (r_strokes z_h_two) (r_gave z_h_two) (r_threw z_h_two) (r_kinds z_h_two) (r_sweets z_h_two) (r_settings z_h_two) (r_heaps z_h_two) (r_children z_g1) (r_strokes z_g1) (r_gave z_g1) (r_threw z_g1) (r_kinds z_g1) (r_sweets z_g1) (r_settings z_g1)) H → va_D A (w_Mind_aheadOfRound cI cJ cC a_h a_h_one a_h_two a_h_one_kinds a_h_one_sweets a_h_one_settings a_h_one_heaps a_h_two_kinds a_h_two_sweets a_h_two_settings a_h_two_heaps a_g1 a_g1_kinds a_g1_sweets a_g1_settings a_g1_heaps y_h_seed (r_children z_h_one) (r_strokes z_h_one) (r_gave z_h_one) (r_threw z_h_one) (r_kinds z_h_one) (r_sweets z_h_one) (r_settings z_h_one) (r_heaps z_h_one) (r_children z_h_two) (r_strokes z_h_two) (r_gave z_h_two) (r_threw z_h_two) (r_kinds z_h_two) (r_sweets z_h_two) (r_settings z_h_two) (r_heaps z_h_two) (r_children z_g1) (r_strokes z_g1) (r_gave z_g1) (r_threw z_g1) (r_kinds z_g1) (r_sweets z_g1) (r_settings z_g1)) → va_S A s.heap H locs → lv_has ls 4 [(0, .ref a_h), (3, .int x3)] → W p l e (xRm 5 111) s m args below meth c H locs 0 0 Q (F0 m 26 ls []) := by
    intro n
    induction n with
    | zero => intro z_h_one z_h_two x3 H locs ls hf hP hD hS hl; exact nomatch (show (none : Option (Int32 × RS × RS)) = some q from hf)
    | succ n ih =>
      intro z_h_one z_h_two x3 H locs ls hf hP hD hS hl
      refine lv_iload_n hx hb d_Mind_aheadOfRound_26 rfl (lv_at hl 1 rfl) ?_
      refine lv_bipush (v := 100) hx hb d_Mind_aheadOfRound_27 (by decide) ?_
      refine lv_icmp_gt (tgt := 70) hx hb d_Mind_aheadOfRound_29 (by decide) (fun c4 => ?_) (fun c4 => ?_)
      · have hf := io_t hf c4
        refine lv_bipush (v := (-9)) hx hb d_Mind_aheadOfRound_70 (by decide) ?_
        have hq := Option.some.inj hf
        subst hq
        exact hret _ _ _ _ _ d_Mind_aheadOfRound_72 rfl rfl hP hD hS
      · have hf := io_f hf c4
        refine lv_aload_n hx hb d_Mind_aheadOfRound_32 rfl (lv_at hl 0 rfl) ?_
        refine va_get hx hb hT i_Mind hown hK hP 0 rfl rfl 1 (Nat.le_of_ble_eq_true rfl) (hT _ k_107) (fun _ h => h) rfl d_Mind_aheadOfRound_33 ?_
        refine lv_aload_n hx hb d_Mind_aheadOfRound_36 rfl (lv_at hl 0 rfl) ?_
        refine va_get hx hb hT i_Mind hown hK hP 0 rfl rfl 0 (Nat.le_of_ble_eq_true rfl) (hT _ k_106) (fun _ h => h) rfl d_Mind_aheadOfRound_37 ?_
        obtain ⟨q5, hq5, hf⟩ := io_b hf
        refine xcVI (wc := (w_Ring_hasSweetsAndBagOf cI cJ cC a_h_two a_h_two_kinds a_h_two_sweets a_h_two_settings a_h_two_heaps a_h_one a_h_one_kinds a_h_one_sweets a_h_one_settings a_h_one_heaps (r_children z_h_two) (r_strokes z_h_two) (r_gave z_h_two) (r_threw z_h_two) (r_sweets z_h_two) (r_settings z_h_two) (r_children z_h_one) (r_strokes z_h_one) (r_gave z_h_one) (r_threw z_h_one) (r_sweets z_h_one) (r_settings z_h_one))) (wc' := (w_Ring_hasSweetsAndBagOf cI cJ cC a_h_two a_h_two_kinds a_h_two_sweets a_h_two_settings a_h_two_heaps a_h_one a_h_one_kinds a_h_one_sweets a_h_one_settings a_h_one_heaps (r_children z_h_two) (r_strokes z_h_two) (r_gave z_h_two) (r_threw z_h_two) (r_sweets z_h_two) (r_settings z_h_two) (r_children z_h_one) (r_strokes z_h_one) (r_gave z_h_one) (r_threw z_h_one) (r_sweets z_h_one) (r_settings z_h_one))) (ws' := (w_Mind_aheadOfRound cI cJ cC a_h a_h_one a_h_two a_h_one_kinds a_h_one_sweets a_h_one_settings a_h_one_heaps a_h_two_kinds a_h_two_sweets a_h_two_settings a_h_two_heaps a_g1 a_g1_kinds a_g1_sweets a_g1_settings a_g1_heaps y_h_seed (r_children z_h_one) (r_strokes z_h_one) (r_gave z_h_one) (r_threw z_h_one) (r_kinds z_h_one) (r_sweets z_h_one) (r_settings z_h_one) (r_heaps z_h_one) (r_children z_h_two) (r_strokes z_h_two) (r_gave z_h_two) (r_threw z_h_two) (r_kinds z_h_two) (r_sweets z_h_two) (r_settings z_h_two) (r_heaps z_h_two) (r_children z_g1) (r_strokes z_g1) (r_gave z_g1) (r_threw z_g1) (r_kinds z_g1) (r_sweets z_g1) (r_settings z_g1))) (As := [.ref a_h_one]) (rest := []) hx hb hml hown hT (c_Ring_hasSweetsAndBagOf (z_h := z_h_two) (z_g1 := z_h_one) a_h_two a_h_two_kinds a_h_two_sweets a_h_two_settings a_h_two_heaps a_h_one a_h_one_kinds a_h_one_sweets a_h_one_settings a_h_one_heaps hq5) k_498 k_499 k_500 k_2 k_501 hd_Ring_hasSweetsAndBagOf ⟨Nat.le_of_ble_eq_true rfl, Nat.le_of_ble_eq_true rfl⟩ xE0_ok trivial hA hK hP hD hS [6, 8, 9, 1, 3, 4] [0, 2, 5, 7, 10, 11, 12, 13, 14] [0, 12, 1, 13, 14, 2, 9, 3, 10, 11, 4, 5, 6, 7, 8] rfl rfl rfl rfl rfl rfl rfl rfl rfl rfl hl.1 rfl (Nat.le_of_ble_eq_true rfl) ⟨Nat.zero_le _, Nat.zero_le _⟩ d_Mind_aheadOfRound_40 (fun H locs hP hD hS => ?_)
        refine lv_if_eq (tgt := 48) hx hb d_Mind_aheadOfRound_43 (by decide) (fun c6 => ?_) (fun c6 => ?_)
        · have hf := io_t hf c6
          refine lv_aload_n hx hb d_Mind_aheadOfRound_48 rfl (lv_at hl 0 rfl) ?_
          refine va_get hx hb hT i_Mind hown hK hP 0 rfl rfl 0 (Nat.le_of_ble_eq_true rfl) (hT _ k_106) (fun _ h => h) rfl d_Mind_aheadOfRound_49 ?_
          obtain ⟨q7, hq7, hf⟩ := io_b hf
          refine xcVI (wc := (w_Ring_strike cI cJ cC a_h_one a_h_one_kinds a_h_one_sweets a_h_one_settings a_h_one_heaps (r_children z_h_one) (r_strokes z_h_one) (r_gave z_h_one) (r_threw z_h_one) (r_kinds z_h_one) (r_sweets z_h_one) (r_settings z_h_one) (r_heaps z_h_one))) (wc' := (w_Ring_strike cI cJ cC a_h_one a_h_one_kinds a_h_one_sweets a_h_one_settings a_h_one_heaps (r_children q7.2) (r_strokes q7.2) (r_gave q7.2) (r_threw q7.2) (r_kinds q7.2) (r_sweets q7.2) (r_settings q7.2) (r_heaps q7.2))) (ws' := (w_Mind_aheadOfRound cI cJ cC a_h a_h_one a_h_two a_h_one_kinds a_h_one_sweets a_h_one_settings a_h_one_heaps a_h_two_kinds a_h_two_sweets a_h_two_settings a_h_two_heaps a_g1 a_g1_kinds a_g1_sweets a_g1_settings a_g1_heaps y_h_seed (r_children q7.2) (r_strokes q7.2) (r_gave q7.2) (r_threw q7.2) (r_kinds q7.2) (r_sweets q7.2) (r_settings q7.2) (r_heaps q7.2) (r_children z_h_two) (r_strokes z_h_two) (r_gave z_h_two) (r_threw z_h_two) (r_kinds z_h_two) (r_sweets z_h_two) (r_settings z_h_two) (r_heaps z_h_two) (r_children z_g1) (r_strokes z_g1) (r_gave z_g1) (r_threw z_g1) (r_kinds z_g1) (r_sweets z_g1) (r_settings z_g1))) (As := []) (rest := []) hx hb hml hown hT (c_Ring_strike (z_h := z_h_one) a_h_one a_h_one_kinds a_h_one_sweets a_h_one_settings a_h_one_heaps hq7) k_470 k_417 k_418 k_2 k_419 hd_Ring_strike ⟨Nat.le_of_ble_eq_true rfl, Nat.le_of_ble_eq_true rfl⟩ xE0_ok trivial hA hK hP hD hS [1, 2, 3, 4, 5] [0, 6, 7, 8, 9, 10, 11, 12, 13, 14] [0, 10, 11, 12, 13, 14, 1, 2, 3, 4, 5, 6, 7, 8, 9] rfl rfl rfl rfl rfl rfl rfl rfl rfl rfl hl.1 rfl (Nat.le_of_ble_eq_true rfl) ⟨Nat.zero_le _, Nat.zero_le _⟩ d_Mind_aheadOfRound_52 (fun H locs hP hD hS => ?_)
          refine lv_pop hx hb d_Mind_aheadOfRound_55 rfl ?_
          refine lv_aload_n hx hb d_Mind_aheadOfRound_56 rfl (lv_at hl 0 rfl) ?_
          refine va_get hx hb hT i_Mind hown hK hP 0 rfl rfl 1 (Nat.le_of_ble_eq_true rfl) (hT _ k_107) (fun _ h => h) rfl d_Mind_aheadOfRound_57 ?_
          obtain ⟨q8, hq8, hf⟩ := io_b hf
          refine xcVI (wc := (w_Ring_strike cI cJ cC a_h_two a_h_two_kinds a_h_two_sweets a_h_two_settings a_h_two_heaps (r_children z_h_two) (r_strokes z_h_two) (r_gave z_h_two) (r_threw z_h_two) (r_kinds z_h_two) (r_sweets z_h_two) (r_settings z_h_two) (r_heaps z_h_two))) (wc' := (w_Ring_strike cI cJ cC a_h_two a_h_two_kinds a_h_two_sweets a_h_two_settings a_h_two_heaps (r_children q8.2) (r_strokes q8.2) (r_gave q8.2) (r_threw q8.2) (r_kinds q8.2) (r_sweets q8.2) (r_settings q8.2) (r_heaps q8.2))) (ws' := (w_Mind_aheadOfRound cI cJ cC a_h a_h_one a_h_two a_h_one_kinds a_h_one_sweets a_h_one_settings a_h_one_heaps a_h_two_kinds a_h_two_sweets a_h_two_settings a_h_two_heaps a_g1 a_g1_kinds a_g1_sweets a_g1_settings a_g1_heaps y_h_seed (r_children q7.2) (r_strokes q7.2) (r_gave q7.2) (r_threw q7.2) (r_kinds q7.2) (r_sweets q7.2) (r_settings q7.2) (r_heaps q7.2) (r_children q8.2) (r_strokes q8.2) (r_gave q8.2) (r_threw q8.2) (r_kinds q8.2) (r_sweets q8.2) (r_settings q8.2) (r_heaps q8.2) (r_children z_g1) (r_strokes z_g1) (r_gave z_g1) (r_threw z_g1) (r_kinds z_g1) (r_sweets z_g1) (r_settings z_g1))) (As := []) (rest := []) hx hb hml hown hT (c_Ring_strike (z_h := z_h_two) a_h_two a_h_two_kinds a_h_two_sweets a_h_two_settings a_h_two_heaps hq8) k_470 k_417 k_418 k_2 k_419 hd_Ring_strike ⟨Nat.le_of_ble_eq_true rfl, Nat.le_of_ble_eq_true rfl⟩ xE0_ok trivial hA hK hP hD hS [6, 7, 8, 9, 10] [0, 1, 2, 3, 4, 5, 11, 12, 13, 14] [0, 1, 2, 3, 4, 5, 10, 11, 12, 13, 14, 6, 7, 8, 9] rfl rfl rfl rfl rfl rfl rfl rfl rfl rfl hl.1 rfl (Nat.le_of_ble_eq_true rfl) ⟨Nat.zero_le _, Nat.zero_le _⟩ d_Mind_aheadOfRound_60 (fun H locs hP hD hS => ?_)
          refine lv_pop hx hb d_Mind_aheadOfRound_63 rfl ?_
          refine lv_iinc (v := (x3 + 1)) (lv' := [(3, .int (x3 + 1)), (0, .ref a_h)]) hx hb d_Mind_aheadOfRound_64 hl (k := 1) rfl (by rfl) (by decide) rfl (fun ls hl => ?_)
          refine lv_goto (tgt := 26) hx hb d_Mind_aheadOfRound_67 (by decide) ?_
          exact ih q7.2 q8.2 (x3 + 1) _ _ _ hf hP hD hS (lv_sub hl [1, 0] rfl)
        · have hf := io_f hf c6
          refine lv_iload_n hx hb d_Mind_aheadOfRound_46 rfl (lv_at hl 1 rfl) ?_
          have hq := Option.some.inj hf
          subst hq
          exact hret _ _ _ _ _ d_Mind_aheadOfRound_47 rfl rfl hP hD hS
  refine lv_aload_n hx hb d_Mind_aheadOfRound_0 rfl (lv_at hl 0 rfl) ?_
  refine va_get hx hb hT i_Mind hown hK hP 0 rfl rfl 0 (Nat.le_of_ble_eq_true rfl) (hT _ k_106) (fun _ h => h) rfl d_Mind_aheadOfRound_1 ?_
  refine lv_aload_n hx hb d_Mind_aheadOfRound_4 rfl (lv_at hl 1 rfl) ?_
  obtain ⟨q1, hq1, hf⟩ := io_b hf
  refine xcVV (wc := (w_Ring_copyFrom cI cJ cC a_h_one a_h_one_kinds a_h_one_sweets a_h_one_settings a_h_one_heaps a_g1 a_g1_kinds a_g1_sweets a_g1_settings a_g1_heaps (r_children z_h_one) (r_strokes z_h_one) (r_gave z_h_one) (r_threw z_h_one) (r_kinds z_h_one) (r_sweets z_h_one) (r_settings z_h_one) (r_heaps z_h_one) (r_children z_g1) (r_strokes z_g1) (r_gave z_g1) (r_threw z_g1) (r_kinds z_g1) (r_sweets z_g1) (r_settings z_g1))) (wc' := (w_Ring_copyFrom cI cJ cC a_h_one a_h_one_kinds a_h_one_sweets a_h_one_settings a_h_one_heaps a_g1 a_g1_kinds a_g1_sweets a_g1_settings a_g1_heaps (r_children q1) (r_strokes q1) (r_gave q1) (r_threw q1) (r_kinds q1) (r_sweets q1) (r_settings q1) (r_heaps q1) (r_children z_g1) (r_strokes z_g1) (r_gave z_g1) (r_threw z_g1) (r_kinds z_g1) (r_sweets z_g1) (r_settings z_g1))) (ws' := (w_Mind_aheadOfRound cI cJ cC a_h a_h_one a_h_two a_h_one_kinds a_h_one_sweets a_h_one_settings a_h_one_heaps a_h_two_kinds a_h_two_sweets a_h_two_settings a_h_two_heaps a_g1 a_g1_kinds a_g1_sweets a_g1_settings a_g1_heaps y_h_seed (r_children q1) (r_strokes q1) (r_gave q1) (r_threw q1) (r_kinds q1) (r_sweets q1) (r_settings q1) (r_heaps q1) (r_children z_h_two) (r_strokes z_h_two) (r_gave z_h_two) (r_threw z_h_two) (r_kinds z_h_two) (r_sweets z_h_two) (r_settings z_h_two) (r_heaps z_h_two) (r_children z_g1) (r_strokes z_g1) (r_gave z_g1) (r_threw z_g1) (r_kinds z_g1) (r_sweets z_g1) (r_settings z_g1))) (As := [.ref a_g1]) (rest := []) hx hb hml hown hT (c_Ring_copyFrom (z_h := z_h_one) (z_g1 := z_g1) a_h_one a_h_one_kinds a_h_one_sweets a_h_one_settings a_h_one_heaps a_g1 a_g1_kinds a_g1_sweets a_g1_settings a_g1_heaps hq1) k_441 k_326 k_327 k_2 k_328 hd_Ring_copyFrom ⟨Nat.le_of_ble_eq_true rfl, Nat.le_of_ble_eq_true rfl⟩ xE0_ok trivial hA hK hP hD hS [1, 2, 3, 4, 5, 11, 12, 13, 14] [0, 6, 7, 8, 9, 10] [0, 6, 7, 8, 9, 10, 1, 2, 3, 4, 5, 11, 12, 13, 14] rfl rfl rfl rfl rfl rfl rfl rfl rfl rfl hl.1 rfl (Nat.le_of_ble_eq_true rfl) ⟨Nat.zero_le _, Nat.zero_le _⟩ d_Mind_aheadOfRound_5 (fun H locs hP hD hS => ?_)
  refine lv_aload_n hx hb d_Mind_aheadOfRound_8 rfl (lv_at hl 0 rfl) ?_
  refine va_get hx hb hT i_Mind hown hK hP 0 rfl rfl 1 (Nat.le_of_ble_eq_true rfl) (hT _ k_107) (fun _ h => h) rfl d_Mind_aheadOfRound_9 ?_
  refine lv_aload_n hx hb d_Mind_aheadOfRound_12 rfl (lv_at hl 1 rfl) ?_
  obtain ⟨q2, hq2, hf⟩ := io_b hf
  refine xcVV (wc := (w_Ring_copyFrom cI cJ cC a_h_two a_h_two_kinds a_h_two_sweets a_h_two_settings a_h_two_heaps a_g1 a_g1_kinds a_g1_sweets a_g1_settings a_g1_heaps (r_children z_h_two) (r_strokes z_h_two) (r_gave z_h_two) (r_threw z_h_two) (r_kinds z_h_two) (r_sweets z_h_two) (r_settings z_h_two) (r_heaps z_h_two) (r_children z_g1) (r_strokes z_g1) (r_gave z_g1) (r_threw z_g1) (r_kinds z_g1) (r_sweets z_g1) (r_settings z_g1))) (wc' := (w_Ring_copyFrom cI cJ cC a_h_two a_h_two_kinds a_h_two_sweets a_h_two_settings a_h_two_heaps a_g1 a_g1_kinds a_g1_sweets a_g1_settings a_g1_heaps (r_children q2) (r_strokes q2) (r_gave q2) (r_threw q2) (r_kinds q2) (r_sweets q2) (r_settings q2) (r_heaps q2) (r_children z_g1) (r_strokes z_g1) (r_gave z_g1) (r_threw z_g1) (r_kinds z_g1) (r_sweets z_g1) (r_settings z_g1))) (ws' := (w_Mind_aheadOfRound cI cJ cC a_h a_h_one a_h_two a_h_one_kinds a_h_one_sweets a_h_one_settings a_h_one_heaps a_h_two_kinds a_h_two_sweets a_h_two_settings a_h_two_heaps a_g1 a_g1_kinds a_g1_sweets a_g1_settings a_g1_heaps y_h_seed (r_children q1) (r_strokes q1) (r_gave q1) (r_threw q1) (r_kinds q1) (r_sweets q1) (r_settings q1) (r_heaps q1) (r_children q2) (r_strokes q2) (r_gave q2) (r_threw q2) (r_kinds q2) (r_sweets q2) (r_settings q2) (r_heaps q2) (r_children z_g1) (r_strokes z_g1) (r_gave z_g1) (r_threw z_g1) (r_kinds z_g1) (r_sweets z_g1) (r_settings z_g1))) (As := [.ref a_g1]) (rest := []) hx hb hml hown hT (c_Ring_copyFrom (z_h := z_h_two) (z_g1 := z_g1) a_h_two a_h_two_kinds a_h_two_sweets a_h_two_settings a_h_two_heaps a_g1 a_g1_kinds a_g1_sweets a_g1_settings a_g1_heaps hq2) k_441 k_326 k_327 k_2 k_328 hd_Ring_copyFrom ⟨Nat.le_of_ble_eq_true rfl, Nat.le_of_ble_eq_true rfl⟩ xE0_ok trivial hA hK hP hD hS [6, 7, 8, 9, 10, 11, 12, 13, 14] [0, 1, 2, 3, 4, 5] [0, 1, 2, 3, 4, 5, 6, 7, 8, 9, 10, 11, 12, 13, 14] rfl rfl rfl rfl rfl rfl rfl rfl rfl rfl hl.1 rfl (Nat.le_of_ble_eq_true rfl) ⟨Nat.zero_le _, Nat.zero_le _⟩ d_Mind_aheadOfRound_13 (fun H locs hP hD hS => ?_)
  refine lv_aload_n hx hb d_Mind_aheadOfRound_16 rfl (lv_at hl 0 rfl) ?_
  refine va_get hx hb hT i_Mind hown hK hP 0 rfl rfl 1 (Nat.le_of_ble_eq_true rfl) (hT _ k_107) (fun _ h => h) rfl d_Mind_aheadOfRound_17 ?_
  refine lv_iload_n hx hb d_Mind_aheadOfRound_20 rfl (lv_at hl 2 rfl) ?_
  obtain ⟨q3, hq3, hf⟩ := io_b hf
  refine xcVV (wc := (w_Ring_strikeOften cI cJ cC a_h_two a_h_two_kinds a_h_two_sweets a_h_two_settings a_h_two_heaps (r_children q2) (r_strokes q2) (r_gave q2) (r_threw q2) (r_kinds q2) (r_sweets q2) (r_settings q2) (r_heaps q2))) (wc' := (w_Ring_strikeOften cI cJ cC a_h_two a_h_two_kinds a_h_two_sweets a_h_two_settings a_h_two_heaps (r_children q3) (r_strokes q3) (r_gave q3) (r_threw q3) (r_kinds q3) (r_sweets q3) (r_settings q3) (r_heaps q3))) (ws' := (w_Mind_aheadOfRound cI cJ cC a_h a_h_one a_h_two a_h_one_kinds a_h_one_sweets a_h_one_settings a_h_one_heaps a_h_two_kinds a_h_two_sweets a_h_two_settings a_h_two_heaps a_g1 a_g1_kinds a_g1_sweets a_g1_settings a_g1_heaps y_h_seed (r_children q1) (r_strokes q1) (r_gave q1) (r_threw q1) (r_kinds q1) (r_sweets q1) (r_settings q1) (r_heaps q1) (r_children q3) (r_strokes q3) (r_gave q3) (r_threw q3) (r_kinds q3) (r_sweets q3) (r_settings q3) (r_heaps q3) (r_children z_g1) (r_strokes z_g1) (r_gave z_g1) (r_threw z_g1) (r_kinds z_g1) (r_sweets z_g1) (r_settings z_g1))) (As := [.int x2]) (rest := []) hx hb hml hown hT (c_Ring_strikeOften (z_h := q2) a_h_two a_h_two_kinds a_h_two_sweets a_h_two_settings a_h_two_heaps hq3) k_442 k_443 k_444 k_2 k_445 hd_Ring_strikeOften ⟨Nat.le_of_ble_eq_true rfl, Nat.le_of_ble_eq_true rfl⟩ xE0_ok trivial hA hK hP hD hS [6, 7, 8, 9, 10] [0, 1, 2, 3, 4, 5, 11, 12, 13, 14] [0, 1, 2, 3, 4, 5, 10, 11, 12, 13, 14, 6, 7, 8, 9] rfl rfl rfl rfl rfl rfl rfl rfl rfl rfl hl.1 rfl (Nat.le_of_ble_eq_true rfl) ⟨Nat.zero_le _, Nat.zero_le _⟩ d_Mind_aheadOfRound_21 (fun H locs hP hD hS => ?_)
  refine lv_iconst (v := 0) hx hb d_Mind_aheadOfRound_24 (by decide) ?_
  refine lv_istore_n (lv' := [(3, .int 0), (0, .ref a_h), (1, .ref a_g1), (2, .int x2)]) hx hb d_Mind_aheadOfRound_25 rfl hl (by decide) rfl (fun ls hl => ?_)
  exact L26 FU q1 q3 0 _ _ _ hf hP hD hS (lv_sub hl [1, 0] rfl)
abbrev w_Mind_meetBehind (cI cJ cC : ClassId) (a_h a_h_one a_h_two a_h_one_kinds a_h_one_sweets a_h_one_settings a_h_one_heaps a_g1 a_g1_kinds a_g1_sweets a_g1_settings a_g1_heaps : Nat) (y_h_seed : Int32) (p_h_one_children : Int32) (p_h_one_strokes : Int32) (p_h_one_gave : Int32) (p_h_one_threw : Int32) (p_h_one_kinds : (Nat → Int32)) (p_h_one_sweets : (Nat → Int32)) (p_h_one_settings : (Nat → Int32)) (p_h_one_heaps : (Nat → Int32)) (p_g1_children : Int32) (p_g1_strokes : Int32) (p_g1_gave : Int32) (p_g1_threw : Int32) (p_g1_kinds : (Nat → Int32)) (p_g1_sweets : (Nat → Int32)) (p_g1_settings : (Nat → Int32)) : va_W := [(a_h, .inr (3, [.ref a_h_one, .ref a_h_two, .int y_h_seed])), (a_h_one, .inr (1, [.ref a_h_one_kinds, .ref a_h_one_sweets, .ref a_h_one_settings, .int p_h_one_children, .int p_h_one_strokes, .int p_h_one_gave, .int p_h_one_threw, .ref a_h_one_heaps])), (a_h_one_kinds, .inl (cI, (8, .inl p_h_one_kinds))), (a_h_one_sweets, .inl (cI, (8, .inl p_h_one_sweets))), (a_h_one_settings, .inl (cI, (3, .inl p_h_one_settings))), (a_h_one_heaps, .inl (cI, (8, .inl p_h_one_heaps))), (a_g1, .inr (1, [.ref a_g1_kinds, .ref a_g1_sweets, .ref a_g1_settings, .int p_g1_children, .int p_g1_strokes, .int p_g1_gave, .int p_g1_threw, .ref a_g1_heaps])), (a_g1_kinds, .inl (cI, (8, .inl p_g1_kinds))), (a_g1_sweets, .inl (cI, (8, .inl p_g1_sweets))), (a_g1_settings, .inl (cI, (3, .inl p_g1_settings)))]
theorem d_Mind_meetBehind_0 : decode b_Mind_meetBehind 0 = .ok (.aload_n 0, 1) := by decide +kernel
theorem d_Mind_meetBehind_1 : decode b_Mind_meetBehind 1 = .ok (.getfield 12, 3) := by decide +kernel
theorem d_Mind_meetBehind_4 : decode b_Mind_meetBehind 4 = .ok (.aload_n 1, 1) := by decide +kernel
theorem d_Mind_meetBehind_5 : decode b_Mind_meetBehind 5 = .ok (.invokevirtual 25, 3) := by decide +kernel
theorem d_Mind_meetBehind_8 : decode b_Mind_meetBehind 8 = .ok (.iconst 0, 1) := by decide +kernel
theorem d_Mind_meetBehind_9 : decode b_Mind_meetBehind 9 = .ok (.istore 4, 2) := by decide +kernel
theorem d_Mind_meetBehind_11 : decode b_Mind_meetBehind 11 = .ok (.iload 4, 2) := by decide +kernel
theorem d_Mind_meetBehind_13 : decode b_Mind_meetBehind 13 = .ok (.sipush 200, 3) := by decide +kernel
theorem d_Mind_meetBehind_16 : decode b_Mind_meetBehind 16 = .ok (.if_icmp .gt 41, 3) := by decide +kernel
theorem d_Mind_meetBehind_19 : decode b_Mind_meetBehind 19 = .ok (.aload_n 0, 1) := by decide +kernel
theorem d_Mind_meetBehind_20 : decode b_Mind_meetBehind 20 = .ok (.getfield 12, 3) := by decide +kernel
theorem d_Mind_meetBehind_23 : decode b_Mind_meetBehind 23 = .ok (.getfield 33, 3) := by decide +kernel
theorem d_Mind_meetBehind_26 : decode b_Mind_meetBehind 26 = .ok (.iload_n 2, 1) := by decide +kernel
theorem d_Mind_meetBehind_27 : decode b_Mind_meetBehind 27 = .ok (.iaload, 1) := by decide +kernel
theorem d_Mind_meetBehind_28 : decode b_Mind_meetBehind 28 = .ok (.aload_n 0, 1) := by decide +kernel
theorem d_Mind_meetBehind_29 : decode b_Mind_meetBehind 29 = .ok (.getfield 12, 3) := by decide +kernel
theorem d_Mind_meetBehind_32 : decode b_Mind_meetBehind 32 = .ok (.getfield 33, 3) := by decide +kernel
theorem d_Mind_meetBehind_35 : decode b_Mind_meetBehind 35 = .ok (.iload_n 3, 1) := by decide +kernel
theorem d_Mind_meetBehind_36 : decode b_Mind_meetBehind 36 = .ok (.iaload, 1) := by decide +kernel
theorem d_Mind_meetBehind_37 : decode b_Mind_meetBehind 37 = .ok (.if_icmp .ne 6, 3) := by decide +kernel
theorem d_Mind_meetBehind_40 : decode b_Mind_meetBehind 40 = .ok (.iload 4, 2) := by decide +kernel
theorem d_Mind_meetBehind_42 : decode b_Mind_meetBehind 42 = .ok (.ireturn, 1) := by decide +kernel
theorem d_Mind_meetBehind_43 : decode b_Mind_meetBehind 43 = .ok (.aload_n 0, 1) := by decide +kernel
theorem d_Mind_meetBehind_44 : decode b_Mind_meetBehind 44 = .ok (.getfield 12, 3) := by decide +kernel
theorem d_Mind_meetBehind_47 : decode b_Mind_meetBehind 47 = .ok (.invokevirtual 43, 3) := by decide +kernel
theorem d_Mind_meetBehind_50 : decode b_Mind_meetBehind 50 = .ok (.pop, 1) := by decide +kernel
theorem d_Mind_meetBehind_51 : decode b_Mind_meetBehind 51 = .ok (.iinc 4 1, 3) := by decide +kernel
theorem d_Mind_meetBehind_54 : decode b_Mind_meetBehind 54 = .ok (.goto (-43), 3) := by decide +kernel
theorem d_Mind_meetBehind_57 : decode b_Mind_meetBehind 57 = .ok (.bipush (-9), 2) := by decide +kernel
theorem d_Mind_meetBehind_59 : decode b_Mind_meetBehind 59 = .ok (.ireturn, 1) := by decide +kernel
set_option maxHeartbeats 4000000 in
set_option maxRecDepth 100000 in
theorem c_Mind_meetBehind {l : Launch} {D : va_G} {cI cJ cC : ClassId} (a_h a_h_one a_h_two a_h_one_kinds a_h_one_sweets a_h_one_settings a_h_one_heaps a_g1 a_g1_kinds a_g1_sweets a_g1_settings a_g1_heaps : Nat) (y_h_seed : Int32) {z_h_one : RS} {z_g1 : RS} {x2 : Int32} {x3 : Int32} {q : Int32 × RS} (hf : f_Mind_meetBehind z_h_one z_g1 x2 x3 = some q) : xI l y_Mind_meetBehind b_Mind_meetBehind 5 .int 4 89 D (tyK cI cJ cC) xE0 [.ref a_h, .ref a_g1, .int x2, .int x3] (w_Mind_meetBehind cI cJ cC a_h a_h_one a_h_two a_h_one_kinds a_h_one_sweets a_h_one_settings a_h_one_heaps a_g1 a_g1_kinds a_g1_sweets a_g1_settings a_g1_heaps y_h_seed (r_children z_h_one) (r_strokes z_h_one) (r_gave z_h_one) (r_threw z_h_one) (r_kinds z_h_one) (r_sweets z_h_one) (r_settings z_h_one) (r_heaps z_h_one) (r_children z_g1) (r_strokes z_g1) (r_gave z_g1) (r_threw z_g1) (r_kinds z_g1) (r_sweets z_g1) (r_settings z_g1)) q.1 (w_Mind_meetBehind cI cJ cC a_h a_h_one a_h_two a_h_one_kinds a_h_one_sweets a_h_one_settings a_h_one_heaps a_g1 a_g1_kinds a_g1_sweets a_g1_settings a_g1_heaps y_h_seed (r_children q.2) (r_strokes q.2) (r_gave q.2) (r_threw q.2) (r_kinds q.2) (r_sweets q.2) (r_settings q.2) (r_heaps q.2) (r_children z_g1) (r_strokes z_g1) (r_gave z_g1) (r_threw z_g1) (r_kinds z_g1) (r_sweets z_g1) (r_settings z_g1)) := by
  refine xI_of (by decide) (Nat.le_of_ble_eq_true rfl) ?_
  intro p e s m args below meth c A Q hx hb hml hown hT hA hP hD hK hS hE hret ls hl
  have hown : s.vm.findClass R_Mind = some m.cls := hown
  have hl : lv_has ls 5 [(0, .ref a_h), (1, .ref a_g1), (2, .int x2), (3, .int x3)] := hl
  unfold f_Mind_meetBehind at hf
  have L11 : ∀ (n : Nat) (z_h_one : RS) (x4 : Int32) (H : Heap) (locs : List Loc) (ls : Array Slot), f_Mind_meetBehind_L11 x2 x3 n z_h_one x4 = some q → va_P D classes (w_Mind_meetBehind cI cJ cC a_h a_h_one a_h_two a_h_one_kinds a_h_one_sweets a_h_one_settings a_h_one_heaps a_g1 a_g1_kinds a_g1_sweets a_g1_settings a_g1_heaps y_h_seed (r_children z_h_one) (r_strokes z_h_one) (r_gave z_h_one) (r_threw z_h_one) (r_kinds z_h_one) (r_sweets z_h_one) (r_settings z_h_one) (r_heaps z_h_one) (r_children z_g1) (r_strokes z_g1) (r_gave z_g1) (r_threw z_g1) (r_kinds z_g1) (r_sweets z_g1) (r_settings z_g1)) H → va_D A (w_Mind_meetBehind cI cJ cC a_h a_h_one a_h_two a_h_one_kinds a_h_one_sweets a_h_one_settings a_h_one_heaps a_g1 a_g1_kinds a_g1_sweets a_g1_settings a_g1_heaps y_h_seed (r_children z_h_one) (r_strokes z_h_one) (r_gave z_h_one) (r_threw z_h_one) (r_kinds z_h_one) (r_sweets z_h_one) (r_settings z_h_one) (r_heaps z_h_one) (r_children z_g1) (r_strokes z_g1) (r_gave z_g1) (r_threw z_g1) (r_kinds z_g1) (r_sweets z_g1) (r_settings z_g1)) → va_S A s.heap H locs → lv_has ls 5 [(0, .ref a_h), (2, .int x2), (3, .int x3), (4, .int x4)] → W p l e (xRm 4 89) s m args below meth c H locs 0 0 Q (F0 m 11 ls []) := by
    intro n
    induction n with
    | zero => intro z_h_one x4 H locs ls hf hP hD hS hl; exact nomatch (show (none : Option (Int32 × RS)) = some q from hf)
    | succ n ih =>
      intro z_h_one x4 H locs ls hf hP hD hS hl
      refine lv_iload hx hb d_Mind_meetBehind_11 (lv_at hl 3 rfl) ?_
      refine lv_sipush (v := 200) hx hb d_Mind_meetBehind_13 (by decide) ?_
      refine lv_icmp_gt (tgt := 57) hx hb d_Mind_meetBehind_16 (by decide) (fun c2 => ?_) (fun c2 => ?_)
      · have hf := io_t hf c2
        refine lv_bipush (v := (-9)) hx hb d_Mind_meetBehind_57 (by decide) ?_
        have hq := Option.some.inj hf
        subst hq
        exact hret _ _ _ _ _ d_Mind_meetBehind_59 rfl rfl hP hD hS
      · have hf := io_f hf c2
        refine lv_aload_n hx hb d_Mind_meetBehind_19 rfl (lv_at hl 0 rfl) ?_
        refine va_get hx hb hT i_Mind hown hK hP 0 rfl rfl 0 (Nat.le_of_ble_eq_true rfl) (hT _ k_106) (fun _ h => h) rfl d_Mind_meetBehind_20 ?_
        refine va_get hx hb hT i_Ring hown hK hP 1 rfl rfl 1 (Nat.le_of_ble_eq_true rfl) (hT _ k_36) (fun _ h => h) rfl d_Mind_meetBehind_23 ?_
        refine lv_iload_n hx hb d_Mind_meetBehind_26 rfl (lv_at hl 1 rfl) ?_
        obtain ⟨c3, hf⟩ := io_n hf
        refine x_iald hx hb hK hP 3 0 rfl rfl (j := x2.toNatClampNeg) rfl c3 d_Mind_meetBehind_27 ?_
        refine lv_aload_n hx hb d_Mind_meetBehind_28 rfl (lv_at hl 0 rfl) ?_
        refine va_get hx hb hT i_Mind hown hK hP 0 rfl rfl 0 (Nat.le_of_ble_eq_true rfl) (hT _ k_106) (fun _ h => h) rfl d_Mind_meetBehind_29 ?_
        refine va_get hx hb hT i_Ring hown hK hP 1 rfl rfl 1 (Nat.le_of_ble_eq_true rfl) (hT _ k_36) (fun _ h => h) rfl d_Mind_meetBehind_32 ?_
        refine lv_iload_n hx hb d_Mind_meetBehind_35 rfl (lv_at hl 2 rfl) ?_
        obtain ⟨c4, hf⟩ := io_n hf
        refine x_iald hx hb hK hP 3 0 rfl rfl (j := x3.toNatClampNeg) rfl c4 d_Mind_meetBehind_36 ?_
        refine lv_icmp_ne (tgt := 43) hx hb d_Mind_meetBehind_37 (by decide) (fun c5 => ?_) (fun c5 => ?_)
        · have hf := io_f hf c5
          refine lv_aload_n hx hb d_Mind_meetBehind_43 rfl (lv_at hl 0 rfl) ?_
          refine va_get hx hb hT i_Mind hown hK hP 0 rfl rfl 0 (Nat.le_of_ble_eq_true rfl) (hT _ k_106) (fun _ h => h) rfl d_Mind_meetBehind_44 ?_
          obtain ⟨q6, hq6, hf⟩ := io_b hf
          refine xcVI (wc := (w_Ring_strike cI cJ cC a_h_one a_h_one_kinds a_h_one_sweets a_h_one_settings a_h_one_heaps (r_children z_h_one) (r_strokes z_h_one) (r_gave z_h_one) (r_threw z_h_one) (r_kinds z_h_one) (r_sweets z_h_one) (r_settings z_h_one) (r_heaps z_h_one))) (wc' := (w_Ring_strike cI cJ cC a_h_one a_h_one_kinds a_h_one_sweets a_h_one_settings a_h_one_heaps (r_children q6.2) (r_strokes q6.2) (r_gave q6.2) (r_threw q6.2) (r_kinds q6.2) (r_sweets q6.2) (r_settings q6.2) (r_heaps q6.2))) (ws' := (w_Mind_meetBehind cI cJ cC a_h a_h_one a_h_two a_h_one_kinds a_h_one_sweets a_h_one_settings a_h_one_heaps a_g1 a_g1_kinds a_g1_sweets a_g1_settings a_g1_heaps y_h_seed (r_children q6.2) (r_strokes q6.2) (r_gave q6.2) (r_threw q6.2) (r_kinds q6.2) (r_sweets q6.2) (r_settings q6.2) (r_heaps q6.2) (r_children z_g1) (r_strokes z_g1) (r_gave z_g1) (r_threw z_g1) (r_kinds z_g1) (r_sweets z_g1) (r_settings z_g1))) (As := []) (rest := []) hx hb hml hown hT (c_Ring_strike (z_h := z_h_one) a_h_one a_h_one_kinds a_h_one_sweets a_h_one_settings a_h_one_heaps hq6) k_470 k_417 k_418 k_2 k_419 hd_Ring_strike ⟨Nat.le_of_ble_eq_true rfl, Nat.le_of_ble_eq_true rfl⟩ xE0_ok trivial hA hK hP hD hS [1, 2, 3, 4, 5] [0, 6, 7, 8, 9] [0, 5, 6, 7, 8, 9, 1, 2, 3, 4] rfl rfl rfl rfl rfl rfl rfl rfl rfl rfl hl.1 rfl (Nat.le_of_ble_eq_true rfl) ⟨Nat.zero_le _, Nat.zero_le _⟩ d_Mind_meetBehind_47 (fun H locs hP hD hS => ?_)
          refine lv_pop hx hb d_Mind_meetBehind_50 rfl ?_
          refine lv_iinc (v := (x4 + 1)) (lv' := [(4, .int (x4 + 1)), (0, .ref a_h), (2, .int x2), (3, .int x3)]) hx hb d_Mind_meetBehind_51 hl (k := 3) rfl (by rfl) (by decide) rfl (fun ls hl => ?_)
          refine lv_goto (tgt := 11) hx hb d_Mind_meetBehind_54 (by decide) ?_
          exact ih q6.2 (x4 + 1) _ _ _ hf hP hD hS (lv_sub hl [1, 2, 3, 0] rfl)
        · have hf := io_t hf c5
          refine lv_iload hx hb d_Mind_meetBehind_40 (lv_at hl 3 rfl) ?_
          have hq := Option.some.inj hf
          subst hq
          exact hret _ _ _ _ _ d_Mind_meetBehind_42 rfl rfl hP hD hS
  refine lv_aload_n hx hb d_Mind_meetBehind_0 rfl (lv_at hl 0 rfl) ?_
  refine va_get hx hb hT i_Mind hown hK hP 0 rfl rfl 0 (Nat.le_of_ble_eq_true rfl) (hT _ k_106) (fun _ h => h) rfl d_Mind_meetBehind_1 ?_
  refine lv_aload_n hx hb d_Mind_meetBehind_4 rfl (lv_at hl 1 rfl) ?_
  obtain ⟨q1, hq1, hf⟩ := io_b hf
  refine xcVV (wc := (w_Ring_copyFrom cI cJ cC a_h_one a_h_one_kinds a_h_one_sweets a_h_one_settings a_h_one_heaps a_g1 a_g1_kinds a_g1_sweets a_g1_settings a_g1_heaps (r_children z_h_one) (r_strokes z_h_one) (r_gave z_h_one) (r_threw z_h_one) (r_kinds z_h_one) (r_sweets z_h_one) (r_settings z_h_one) (r_heaps z_h_one) (r_children z_g1) (r_strokes z_g1) (r_gave z_g1) (r_threw z_g1) (r_kinds z_g1) (r_sweets z_g1) (r_settings z_g1))) (wc' := (w_Ring_copyFrom cI cJ cC a_h_one a_h_one_kinds a_h_one_sweets a_h_one_settings a_h_one_heaps a_g1 a_g1_kinds a_g1_sweets a_g1_settings a_g1_heaps (r_children q1) (r_strokes q1) (r_gave q1) (r_threw q1) (r_kinds q1) (r_sweets q1) (r_settings q1) (r_heaps q1) (r_children z_g1) (r_strokes z_g1) (r_gave z_g1) (r_threw z_g1) (r_kinds z_g1) (r_sweets z_g1) (r_settings z_g1))) (ws' := (w_Mind_meetBehind cI cJ cC a_h a_h_one a_h_two a_h_one_kinds a_h_one_sweets a_h_one_settings a_h_one_heaps a_g1 a_g1_kinds a_g1_sweets a_g1_settings a_g1_heaps y_h_seed (r_children q1) (r_strokes q1) (r_gave q1) (r_threw q1) (r_kinds q1) (r_sweets q1) (r_settings q1) (r_heaps q1) (r_children z_g1) (r_strokes z_g1) (r_gave z_g1) (r_threw z_g1) (r_kinds z_g1) (r_sweets z_g1) (r_settings z_g1))) (As := [.ref a_g1]) (rest := []) hx hb hml hown hT (c_Ring_copyFrom (z_h := z_h_one) (z_g1 := z_g1) a_h_one a_h_one_kinds a_h_one_sweets a_h_one_settings a_h_one_heaps a_g1 a_g1_kinds a_g1_sweets a_g1_settings a_g1_heaps hq1) k_441 k_326 k_327 k_2 k_328 hd_Ring_copyFrom ⟨Nat.le_of_ble_eq_true rfl, Nat.le_of_ble_eq_true rfl⟩ xE0_ok trivial hA hK hP hD hS [1, 2, 3, 4, 5, 6, 7, 8, 9] [0] [0, 1, 2, 3, 4, 5, 6, 7, 8, 9] rfl rfl rfl rfl rfl rfl rfl rfl rfl rfl hl.1 rfl (Nat.le_of_ble_eq_true rfl) ⟨Nat.zero_le _, Nat.zero_le _⟩ d_Mind_meetBehind_5 (fun H locs hP hD hS => ?_)
  refine lv_iconst (v := 0) hx hb d_Mind_meetBehind_8 (by decide) ?_
  refine lv_istore (lv' := [(4, .int 0), (0, .ref a_h), (1, .ref a_g1), (2, .int x2), (3, .int x3)]) hx hb d_Mind_meetBehind_9 hl (by decide) rfl (fun ls hl => ?_)
  exact L11 FU q1 0 _ _ _ hf hP hD hS (lv_sub hl [1, 3, 4, 0] rfl)
abbrev w_Mind_othersMore (cI cJ cC : ClassId) (a_h a_h_one a_h_two a_h_one_kinds a_h_one_sweets a_h_one_settings a_h_one_heaps a_h_two_kinds a_h_two_sweets a_h_two_settings a_h_two_heaps a_g1 a_g1_kinds a_g1_sweets a_g1_settings a_g1_heaps : Nat) (y_h_seed : Int32) (p_h_one_children : Int32) (p_h_one_strokes : Int32) (p_h_one_gave : Int32) (p_h_one_threw : Int32) (p_h_one_kinds : (Nat → Int32)) (p_h_one_sweets : (Nat → Int32)) (p_h_one_settings : (Nat → Int32)) (p_h_one_heaps : (Nat → Int32)) (p_h_two_children : Int32) (p_h_two_strokes : Int32) (p_h_two_gave : Int32) (p_h_two_threw : Int32) (p_h_two_kinds : (Nat → Int32)) (p_h_two_sweets : (Nat → Int32)) (p_h_two_settings : (Nat → Int32)) (p_h_two_heaps : (Nat → Int32)) (p_g1_children : Int32) (p_g1_strokes : Int32) (p_g1_gave : Int32) (p_g1_threw : Int32) (p_g1_kinds : (Nat → Int32)) (p_g1_sweets : (Nat → Int32)) (p_g1_settings : (Nat → Int32)) : va_W := [(a_h, .inr (3, [.ref a_h_one, .ref a_h_two, .int y_h_seed])), (a_h_one, .inr (1, [.ref a_h_one_kinds, .ref a_h_one_sweets, .ref a_h_one_settings, .int p_h_one_children, .int p_h_one_strokes, .int p_h_one_gave, .int p_h_one_threw, .ref a_h_one_heaps])), (a_h_one_kinds, .inl (cI, (8, .inl p_h_one_kinds))), (a_h_one_sweets, .inl (cI, (8, .inl p_h_one_sweets))), (a_h_one_settings, .inl (cI, (3, .inl p_h_one_settings))), (a_h_one_heaps, .inl (cI, (8, .inl p_h_one_heaps))), (a_h_two, .inr (1, [.ref a_h_two_kinds, .ref a_h_two_sweets, .ref a_h_two_settings, .int p_h_two_children, .int p_h_two_strokes, .int p_h_two_gave, .int p_h_two_threw, .ref a_h_two_heaps])), (a_h_two_kinds, .inl (cI, (8, .inl p_h_two_kinds))), (a_h_two_sweets, .inl (cI, (8, .inl p_h_two_sweets))), (a_h_two_settings, .inl (cI, (3, .inl p_h_two_settings))), (a_h_two_heaps, .inl (cI, (8, .inl p_h_two_heaps))), (a_g1, .inr (1, [.ref a_g1_kinds, .ref a_g1_sweets, .ref a_g1_settings, .int p_g1_children, .int p_g1_strokes, .int p_g1_gave, .int p_g1_threw, .ref a_g1_heaps])), (a_g1_kinds, .inl (cI, (8, .inl p_g1_kinds))), (a_g1_sweets, .inl (cI, (8, .inl p_g1_sweets))), (a_g1_settings, .inl (cI, (3, .inl p_g1_settings)))]
theorem d_Mind_othersMore_0 : decode b_Mind_othersMore 0 = .ok (.aload_n 0, 1) := by decide +kernel
theorem d_Mind_othersMore_1 : decode b_Mind_othersMore 1 = .ok (.getfield 12, 3) := by decide +kernel
theorem d_Mind_othersMore_4 : decode b_Mind_othersMore 4 = .ok (.aload_n 1, 1) := by decide +kernel
theorem d_Mind_othersMore_5 : decode b_Mind_othersMore 5 = .ok (.invokevirtual 25, 3) := by decide +kernel
theorem d_Mind_othersMore_8 : decode b_Mind_othersMore 8 = .ok (.aload_n 0, 1) := by decide +kernel
theorem d_Mind_othersMore_9 : decode b_Mind_othersMore 9 = .ok (.getfield 18, 3) := by decide +kernel
theorem d_Mind_othersMore_12 : decode b_Mind_othersMore 12 = .ok (.aload_n 1, 1) := by decide +kernel
theorem d_Mind_othersMore_13 : decode b_Mind_othersMore 13 = .ok (.invokevirtual 25, 3) := by decide +kernel
theorem d_Mind_othersMore_16 : decode b_Mind_othersMore 16 = .ok (.aload_n 0, 1) := by decide +kernel
theorem d_Mind_othersMore_17 : decode b_Mind_othersMore 17 = .ok (.getfield 18, 3) := by decide +kernel
theorem d_Mind_othersMore_20 : decode b_Mind_othersMore 20 = .ok (.getfield 62, 3) := by decide +kernel
theorem d_Mind_othersMore_23 : decode b_Mind_othersMore 23 = .ok (.iload_n 2, 1) := by decide +kernel
theorem d_Mind_othersMore_24 : decode b_Mind_othersMore 24 = .ok (.iload_n 3, 1) := by decide +kernel
theorem d_Mind_othersMore_25 : decode b_Mind_othersMore 25 = .ok (.iastore, 1) := by decide +kernel
theorem d_Mind_othersMore_26 : decode b_Mind_othersMore 26 = .ok (.aload_n 0, 1) := by decide +kernel
theorem d_Mind_othersMore_27 : decode b_Mind_othersMore 27 = .ok (.getfield 12, 3) := by decide +kernel
theorem d_Mind_othersMore_30 : decode b_Mind_othersMore 30 = .ok (.iload 4, 2) := by decide +kernel
theorem d_Mind_othersMore_32 : decode b_Mind_othersMore 32 = .ok (.invokevirtual 29, 3) := by decide +kernel
theorem d_Mind_othersMore_35 : decode b_Mind_othersMore 35 = .ok (.aload_n 0, 1) := by decide +kernel
theorem d_Mind_othersMore_36 : decode b_Mind_othersMore 36 = .ok (.getfield 18, 3) := by decide +kernel
theorem d_Mind_othersMore_39 : decode b_Mind_othersMore 39 = .ok (.iload 4, 2) := by decide +kernel
theorem d_Mind_othersMore_41 : decode b_Mind_othersMore 41 = .ok (.invokevirtual 29, 3) := by decide +kernel
theorem d_Mind_othersMore_44 : decode b_Mind_othersMore 44 = .ok (.aload_n 0, 1) := by decide +kernel
theorem d_Mind_othersMore_45 : decode b_Mind_othersMore 45 = .ok (.getfield 12, 3) := by decide +kernel
theorem d_Mind_othersMore_48 : decode b_Mind_othersMore 48 = .ok (.invokevirtual 65, 3) := by decide +kernel
theorem d_Mind_othersMore_51 : decode b_Mind_othersMore 51 = .ok (.aload_n 0, 1) := by decide +kernel
theorem d_Mind_othersMore_52 : decode b_Mind_othersMore 52 = .ok (.getfield 12, 3) := by decide +kernel
theorem d_Mind_othersMore_55 : decode b_Mind_othersMore 55 = .ok (.getfield 33, 3) := by decide +kernel
theorem d_Mind_othersMore_58 : decode b_Mind_othersMore 58 = .ok (.iload_n 2, 1) := by decide +kernel
theorem d_Mind_othersMore_59 : decode b_Mind_othersMore 59 = .ok (.iaload, 1) := by decide +kernel
theorem d_Mind_othersMore_60 : decode b_Mind_othersMore 60 = .ok (.isub, 1) := by decide +kernel
theorem d_Mind_othersMore_61 : decode b_Mind_othersMore 61 = .ok (.istore 5, 2) := by decide +kernel
theorem d_Mind_othersMore_63 : decode b_Mind_othersMore 63 = .ok (.aload_n 0, 1) := by decide +kernel
theorem d_Mind_othersMore_64 : decode b_Mind_othersMore 64 = .ok (.getfield 18, 3) := by decide +kernel
theorem d_Mind_othersMore_67 : decode b_Mind_othersMore 67 = .ok (.invokevirtual 65, 3) := by decide +kernel
theorem d_Mind_othersMore_70 : decode b_Mind_othersMore 70 = .ok (.aload_n 0, 1) := by decide +kernel
theorem d_Mind_othersMore_71 : decode b_Mind_othersMore 71 = .ok (.getfield 18, 3) := by decide +kernel
theorem d_Mind_othersMore_74 : decode b_Mind_othersMore 74 = .ok (.getfield 33, 3) := by decide +kernel
theorem d_Mind_othersMore_77 : decode b_Mind_othersMore 77 = .ok (.iload_n 2, 1) := by decide +kernel
theorem d_Mind_othersMore_78 : decode b_Mind_othersMore 78 = .ok (.iaload, 1) := by decide +kernel
theorem d_Mind_othersMore_79 : decode b_Mind_othersMore 79 = .ok (.isub, 1) := by decide +kernel
theorem d_Mind_othersMore_80 : decode b_Mind_othersMore 80 = .ok (.iload 5, 2) := by decide +kernel
theorem d_Mind_othersMore_82 : decode b_Mind_othersMore 82 = .ok (.isub, 1) := by decide +kernel
theorem d_Mind_othersMore_83 : decode b_Mind_othersMore 83 = .ok (.ireturn, 1) := by decide +kernel
set_option maxHeartbeats 4000000 in
set_option maxRecDepth 100000 in
theorem c_Mind_othersMore {l : Launch} {D : va_G} {cI cJ cC : ClassId} (a_h a_h_one a_h_two a_h_one_kinds a_h_one_sweets a_h_one_settings a_h_one_heaps a_h_two_kinds a_h_two_sweets a_h_two_settings a_h_two_heaps a_g1 a_g1_kinds a_g1_sweets a_g1_settings a_g1_heaps : Nat) (y_h_seed : Int32) {z_h_one : RS} {z_h_two : RS} {z_g1 : RS} {x2 : Int32} {x3 : Int32} {x4 : Int32} {q : Int32 × RS × RS} (hf : f_Mind_othersMore z_h_one z_h_two z_g1 x2 x3 x4 = some q) : xI l y_Mind_othersMore b_Mind_othersMore 6 .int 5 111 D (tyK cI cJ cC) xE0 [.ref a_h, .ref a_g1, .int x2, .int x3, .int x4] (w_Mind_othersMore cI cJ cC a_h a_h_one a_h_two a_h_one_kinds a_h_one_sweets a_h_one_settings a_h_one_heaps a_h_two_kinds a_h_two_sweets a_h_two_settings a_h_two_heaps a_g1 a_g1_kinds a_g1_sweets a_g1_settings a_g1_heaps y_h_seed (r_children z_h_one) (r_strokes z_h_one) (r_gave z_h_one) (r_threw z_h_one) (r_kinds z_h_one) (r_sweets z_h_one) (r_settings z_h_one) (r_heaps z_h_one) (r_children z_h_two) (r_strokes z_h_two) (r_gave z_h_two) (r_threw z_h_two) (r_kinds z_h_two) (r_sweets z_h_two) (r_settings z_h_two) (r_heaps z_h_two) (r_children z_g1) (r_strokes z_g1) (r_gave z_g1) (r_threw z_g1) (r_kinds z_g1) (r_sweets z_g1) (r_settings z_g1)) q.1 (w_Mind_othersMore cI cJ cC a_h a_h_one a_h_two a_h_one_kinds a_h_one_sweets a_h_one_settings a_h_one_heaps a_h_two_kinds a_h_two_sweets a_h_two_settings a_h_two_heaps a_g1 a_g1_kinds a_g1_sweets a_g1_settings a_g1_heaps y_h_seed (r_children q.2.1) (r_strokes q.2.1) (r_gave q.2.1) (r_threw q.2.1) (r_kinds q.2.1) (r_sweets q.2.1) (r_settings q.2.1) (r_heaps q.2.1) (r_children q.2.2) (r_strokes q.2.2) (r_gave q.2.2) (r_threw q.2.2) (r_kinds q.2.2) (r_sweets q.2.2) (r_settings q.2.2) (r_heaps q.2.2) (r_children z_g1) (r_strokes z_g1) (r_gave z_g1) (r_threw z_g1) (r_kinds z_g1) (r_sweets z_g1) (r_settings z_g1)) := by
  refine xI_of (by decide) (Nat.le_of_ble_eq_true rfl) ?_
  intro p e s m args below meth c A Q hx hb hml hown hT hA hP hD hK hS hE hret ls hl
  have hown : s.vm.findClass R_Mind = some m.cls := hown
  have hl : lv_has ls 6 [(0, .ref a_h), (1, .ref a_g1), (2, .int x2), (3, .int x3), (4, .int x4)] := hl
  unfold f_Mind_othersMore at hf
  refine lv_aload_n hx hb d_Mind_othersMore_0 rfl (lv_at hl 0 rfl) ?_
  refine va_get hx hb hT i_Mind hown hK hP 0 rfl rfl 0 (Nat.le_of_ble_eq_true rfl) (hT _ k_106) (fun _ h => h) rfl d_Mind_othersMore_1 ?_
  refine lv_aload_n hx hb d_Mind_othersMore_4 rfl (lv_at hl 1 rfl) ?_
  obtain ⟨q1, hq1, hf⟩ := io_b hf
  refine xcVV (wc := (w_Ring_copyFrom cI cJ cC a_h_one a_h_one_kinds a_h_one_sweets a_h_one_settings a_h_one_heaps a_g1 a_g1_kinds a_g1_sweets a_g1_settings a_g1_heaps (r_children z_h_one) (r_strokes z_h_one) (r_gave z_h_one) (r_threw z_h_one) (r_kinds z_h_one) (r_sweets z_h_one) (r_settings z_h_one) (r_heaps z_h_one) (r_children z_g1) (r_strokes z_g1) (r_gave z_g1) (r_threw z_g1) (r_kinds z_g1) (r_sweets z_g1) (r_settings z_g1))) (wc' := (w_Ring_copyFrom cI cJ cC a_h_one a_h_one_kinds a_h_one_sweets a_h_one_settings a_h_one_heaps a_g1 a_g1_kinds a_g1_sweets a_g1_settings a_g1_heaps (r_children q1) (r_strokes q1) (r_gave q1) (r_threw q1) (r_kinds q1) (r_sweets q1) (r_settings q1) (r_heaps q1) (r_children z_g1) (r_strokes z_g1) (r_gave z_g1) (r_threw z_g1) (r_kinds z_g1) (r_sweets z_g1) (r_settings z_g1))) (ws' := (w_Mind_othersMore cI cJ cC a_h a_h_one a_h_two a_h_one_kinds a_h_one_sweets a_h_one_settings a_h_one_heaps a_h_two_kinds a_h_two_sweets a_h_two_settings a_h_two_heaps a_g1 a_g1_kinds a_g1_sweets a_g1_settings a_g1_heaps y_h_seed (r_children q1) (r_strokes q1) (r_gave q1) (r_threw q1) (r_kinds q1) (r_sweets q1) (r_settings q1) (r_heaps q1) (r_children z_h_two) (r_strokes z_h_two) (r_gave z_h_two) (r_threw z_h_two) (r_kinds z_h_two) (r_sweets z_h_two) (r_settings z_h_two) (r_heaps z_h_two) (r_children z_g1) (r_strokes z_g1) (r_gave z_g1) (r_threw z_g1) (r_kinds z_g1) (r_sweets z_g1) (r_settings z_g1))) (As := [.ref a_g1]) (rest := []) hx hb hml hown hT (c_Ring_copyFrom (z_h := z_h_one) (z_g1 := z_g1) a_h_one a_h_one_kinds a_h_one_sweets a_h_one_settings a_h_one_heaps a_g1 a_g1_kinds a_g1_sweets a_g1_settings a_g1_heaps hq1) k_441 k_326 k_327 k_2 k_328 hd_Ring_copyFrom ⟨Nat.le_of_ble_eq_true rfl, Nat.le_of_ble_eq_true rfl⟩ xE0_ok trivial hA hK hP hD hS [1, 2, 3, 4, 5, 11, 12, 13, 14] [0, 6, 7, 8, 9, 10] [0, 6, 7, 8, 9, 10, 1, 2, 3, 4, 5, 11, 12, 13, 14] rfl rfl rfl rfl rfl rfl rfl rfl rfl rfl hl.1 rfl (Nat.le_of_ble_eq_true rfl) ⟨Nat.zero_le _, Nat.zero_le _⟩ d_Mind_othersMore_5 (fun H locs hP hD hS => ?_)
  refine lv_aload_n hx hb d_Mind_othersMore_8 rfl (lv_at hl 0 rfl) ?_
  refine va_get hx hb hT i_Mind hown hK hP 0 rfl rfl 1 (Nat.le_of_ble_eq_true rfl) (hT _ k_107) (fun _ h => h) rfl d_Mind_othersMore_9 ?_
  refine lv_aload_n hx hb d_Mind_othersMore_12 rfl (lv_at hl 1 rfl) ?_
  obtain ⟨q2, hq2, hf⟩ := io_b hf
  refine xcVV (wc := (w_Ring_copyFrom cI cJ cC a_h_two a_h_two_kinds a_h_two_sweets a_h_two_settings a_h_two_heaps a_g1 a_g1_kinds a_g1_sweets a_g1_settings a_g1_heaps (r_children z_h_two) (r_strokes z_h_two) (r_gave z_h_two) (r_threw z_h_two) (r_kinds z_h_two) (r_sweets z_h_two) (r_settings z_h_two) (r_heaps z_h_two) (r_children z_g1) (r_strokes z_g1) (r_gave z_g1) (r_threw z_g1) (r_kinds z_g1) (r_sweets z_g1) (r_settings z_g1))) (wc' := (w_Ring_copyFrom cI cJ cC a_h_two a_h_two_kinds a_h_two_sweets a_h_two_settings a_h_two_heaps a_g1 a_g1_kinds a_g1_sweets a_g1_settings a_g1_heaps (r_children q2) (r_strokes q2) (r_gave q2) (r_threw q2) (r_kinds q2) (r_sweets q2) (r_settings q2) (r_heaps q2) (r_children z_g1) (r_strokes z_g1) (r_gave z_g1) (r_threw z_g1) (r_kinds z_g1) (r_sweets z_g1) (r_settings z_g1))) (ws' := (w_Mind_othersMore cI cJ cC a_h a_h_one a_h_two a_h_one_kinds a_h_one_sweets a_h_one_settings a_h_one_heaps a_h_two_kinds a_h_two_sweets a_h_two_settings a_h_two_heaps a_g1 a_g1_kinds a_g1_sweets a_g1_settings a_g1_heaps y_h_seed (r_children q1) (r_strokes q1) (r_gave q1) (r_threw q1) (r_kinds q1) (r_sweets q1) (r_settings q1) (r_heaps q1) (r_children q2) (r_strokes q2) (r_gave q2) (r_threw q2) (r_kinds q2) (r_sweets q2) (r_settings q2) (r_heaps q2) (r_children z_g1) (r_strokes z_g1) (r_gave z_g1) (r_threw z_g1) (r_kinds z_g1) (r_sweets z_g1) (r_settings z_g1))) (As := [.ref a_g1]) (rest := []) hx hb hml hown hT (c_Ring_copyFrom (z_h := z_h_two) (z_g1 := z_g1) a_h_two a_h_two_kinds a_h_two_sweets a_h_two_settings a_h_two_heaps a_g1 a_g1_kinds a_g1_sweets a_g1_settings a_g1_heaps hq2) k_441 k_326 k_327 k_2 k_328 hd_Ring_copyFrom ⟨Nat.le_of_ble_eq_true rfl, Nat.le_of_ble_eq_true rfl⟩ xE0_ok trivial hA hK hP hD hS [6, 7, 8, 9, 10, 11, 12, 13, 14] [0, 1, 2, 3, 4, 5] [0, 1, 2, 3, 4, 5, 6, 7, 8, 9, 10, 11, 12, 13, 14] rfl rfl rfl rfl rfl rfl rfl rfl rfl rfl hl.1 rfl (Nat.le_of_ble_eq_true rfl) ⟨Nat.zero_le _, Nat.zero_le _⟩ d_Mind_othersMore_13 (fun H locs hP hD hS => ?_)
  refine lv_aload_n hx hb d_Mind_othersMore_16 rfl (lv_at hl 0 rfl) ?_
  refine va_get hx hb hT i_Mind hown hK hP 0 rfl rfl 1 (Nat.le_of_ble_eq_true rfl) (hT _ k_107) (fun _ h => h) rfl d_Mind_othersMore_17 ?_
  refine va_get hx hb hT i_Ring hown hK hP 6 rfl rfl 0 (Nat.le_of_ble_eq_true rfl) (hT _ k_34) (fun _ h => h) rfl d_Mind_othersMore_20 ?_
  refine lv_iload_n hx hb d_Mind_othersMore_23 rfl (lv_at hl 2 rfl) ?_
  refine lv_iload_n hx hb d_Mind_othersMore_24 rfl (lv_at hl 3 rfl) ?_
  obtain ⟨c3, hf⟩ := io_n hf
  refine x_iast hx hb hK hP hD hS 7 0 rfl rfl (j := x2.toNatClampNeg) rfl c3 d_Mind_othersMore_25 (fun H locs hP hD hS => ?_)
  have hP : va_P D classes (w_Mind_othersMore cI cJ cC a_h a_h_one a_h_two a_h_one_kinds a_h_one_sweets a_h_one_settings a_h_one_heaps a_h_two_kinds a_h_two_sweets a_h_two_settings a_h_two_heaps a_g1 a_g1_kinds a_g1_sweets a_g1_settings a_g1_heaps y_h_seed (r_children q1) (r_strokes q1) (r_gave q1) (r_threw q1) (r_kinds q1) (r_sweets q1) (r_settings q1) (r_heaps q1) (r_children q2) (r_strokes q2) (r_gave q2) (r_threw q2) (upd (r_kinds q2) x2.toNatClampNeg x3) (r_sweets q2) (r_settings q2) (r_heaps q2) (r_children z_g1) (r_strokes z_g1) (r_gave z_g1) (r_threw z_g1) (r_kinds z_g1) (r_sweets z_g1) (r_settings z_g1)) H := hP
  have hD : va_D A (w_Mind_othersMore cI cJ cC a_h a_h_one a_h_two a_h_one_kinds a_h_one_sweets a_h_one_settings a_h_one_heaps a_h_two_kinds a_h_two_sweets a_h_two_settings a_h_two_heaps a_g1 a_g1_kinds a_g1_sweets a_g1_settings a_g1_heaps y_h_seed (r_children q1) (r_strokes q1) (r_gave q1) (r_threw q1) (r_kinds q1) (r_sweets q1) (r_settings q1) (r_heaps q1) (r_children q2) (r_strokes q2) (r_gave q2) (r_threw q2) (upd (r_kinds q2) x2.toNatClampNeg x3) (r_sweets q2) (r_settings q2) (r_heaps q2) (r_children z_g1) (r_strokes z_g1) (r_gave z_g1) (r_threw z_g1) (r_kinds z_g1) (r_sweets z_g1) (r_settings z_g1)) := hD
  refine lv_aload_n hx hb d_Mind_othersMore_26 rfl (lv_at hl 0 rfl) ?_
  refine va_get hx hb hT i_Mind hown hK hP 0 rfl rfl 0 (Nat.le_of_ble_eq_true rfl) (hT _ k_106) (fun _ h => h) rfl d_Mind_othersMore_27 ?_
  refine lv_iload hx hb d_Mind_othersMore_30 (lv_at hl 4 rfl) ?_
  obtain ⟨q4, hq4, hf⟩ := io_b hf
  refine xcVV (wc := (w_Ring_strikeOften cI cJ cC a_h_one a_h_one_kinds a_h_one_sweets a_h_one_settings a_h_one_heaps (r_children q1) (r_strokes q1) (r_gave q1) (r_threw q1) (r_kinds q1) (r_sweets q1) (r_settings q1) (r_heaps q1))) (wc' := (w_Ring_strikeOften cI cJ cC a_h_one a_h_one_kinds a_h_one_sweets a_h_one_settings a_h_one_heaps (r_children q4) (r_strokes q4) (r_gave q4) (r_threw q4) (r_kinds q4) (r_sweets q4) (r_settings q4) (r_heaps q4))) (ws' := (w_Mind_othersMore cI cJ cC a_h a_h_one a_h_two a_h_one_kinds a_h_one_sweets a_h_one_settings a_h_one_heaps a_h_two_kinds a_h_two_sweets a_h_two_settings a_h_two_heaps a_g1 a_g1_kinds a_g1_sweets a_g1_settings a_g1_heaps y_h_seed (r_children q4) (r_strokes q4) (r_gave q4) (r_threw q4) (r_kinds q4) (r_sweets q4) (r_settings q4) (r_heaps q4) (r_children q2) (r_strokes q2) (r_gave q2) (r_threw q2) (upd (r_kinds q2) x2.toNatClampNeg x3) (r_sweets q2) (r_settings q2) (r_heaps q2) (r_children z_g1) (r_strokes z_g1) (r_gave z_g1) (r_threw z_g1) (r_kinds z_g1) (r_sweets z_g1) (r_settings z_g1))) (As := [.int x4]) (rest := []) hx hb hml hown hT (c_Ring_strikeOften (z_h := q1) a_h_one a_h_one_kinds a_h_one_sweets a_h_one_settings a_h_one_heaps hq4) k_442 k_443 k_444 k_2 k_445 hd_Ring_strikeOften ⟨Nat.le_of_ble_eq_true rfl, Nat.le_of_ble_eq_true rfl⟩ xE0_ok trivial hA hK hP hD hS [1, 2, 3, 4, 5] [0, 6, 7, 8, 9, 10, 11, 12, 13, 14] [0, 10, 11, 12, 13, 14, 1, 2, 3, 4, 5, 6, 7, 8, 9] rfl rfl rfl rfl rfl rfl rfl rfl rfl rfl hl.1 rfl (Nat.le_of_ble_eq_true rfl) ⟨Nat.zero_le _, Nat.zero_le _⟩ d_Mind_othersMore_32 (fun H locs hP hD hS => ?_)
  refine lv_aload_n hx hb d_Mind_othersMore_35 rfl (lv_at hl 0 rfl) ?_
  refine va_get hx hb hT i_Mind hown hK hP 0 rfl rfl 1 (Nat.le_of_ble_eq_true rfl) (hT _ k_107) (fun _ h => h) rfl d_Mind_othersMore_36 ?_
  refine lv_iload hx hb d_Mind_othersMore_39 (lv_at hl 4 rfl) ?_
  obtain ⟨q5, hq5, hf⟩ := io_b hf
  refine xcVV (wc := (w_Ring_strikeOften cI cJ cC a_h_two a_h_two_kinds a_h_two_sweets a_h_two_settings a_h_two_heaps (r_children q2) (r_strokes q2) (r_gave q2) (r_threw q2) (upd (r_kinds q2) x2.toNatClampNeg x3) (r_sweets q2) (r_settings q2) (r_heaps q2))) (wc' := (w_Ring_strikeOften cI cJ cC a_h_two a_h_two_kinds a_h_two_sweets a_h_two_settings a_h_two_heaps (r_children q5) (r_strokes q5) (r_gave q5) (r_threw q5) (r_kinds q5) (r_sweets q5) (r_settings q5) (r_heaps q5))) (ws' := (w_Mind_othersMore cI cJ cC a_h a_h_one a_h_two a_h_one_kinds a_h_one_sweets a_h_one_settings a_h_one_heaps a_h_two_kinds a_h_two_sweets a_h_two_settings a_h_two_heaps a_g1 a_g1_kinds a_g1_sweets a_g1_settings a_g1_heaps y_h_seed (r_children q4) (r_strokes q4) (r_gave q4) (r_threw q4) (r_kinds q4) (r_sweets q4) (r_settings q4) (r_heaps q4) (r_children q5) (r_strokes q5) (r_gave q5) (r_threw q5) (r_kinds q5) (r_sweets q5) (r_settings q5) (r_heaps q5) (r_children z_g1) (r_strokes z_g1) (r_gave z_g1) (r_threw z_g1) (r_kinds z_g1) (r_sweets z_g1) (r_settings z_g1))) (As := [.int x4]) (rest := []) hx hb hml hown hT (c_Ring_strikeOften (z_h := ((upd (r_kinds q2) x2.toNatClampNeg x3), (r_sweets q2), (r_settings q2), (r_heaps q2), (r_children q2), (r_strokes q2), (r_gave q2), (r_threw q2))) a_h_two a_h_two_kinds a_h_two_sweets a_h_two_settings a_h_two_heaps hq5) k_442 k_443 k_444 k_2 k_445 hd_Ring_strikeOften ⟨Nat.le_of_ble_eq_true rfl, Nat.le_of_ble_eq_true rfl⟩ xE0_ok trivial hA hK hP hD hS [6, 7, 8, 9, 10] [0, 1, 2, 3, 4, 5, 11, 12, 13, 14] [0, 1, 2, 3, 4, 5, 10, 11, 12, 13, 14, 6, 7, 8, 9] rfl rfl rfl rfl rfl rfl rfl rfl rfl rfl hl.1 rfl (Nat.le_of_ble_eq_true rfl) ⟨Nat.zero_le _, Nat.zero_le _⟩ d_Mind_othersMore_41 (fun H locs hP hD hS => ?_)
  refine lv_aload_n hx hb d_Mind_othersMore_44 rfl (lv_at hl 0 rfl) ?_
  refine va_get hx hb hT i_Mind hown hK hP 0 rfl rfl 0 (Nat.le_of_ble_eq_true rfl) (hT _ k_106) (fun _ h => h) rfl d_Mind_othersMore_45 ?_
  obtain ⟨q6, hq6, hf⟩ := io_b hf
  refine xcVI (wc := (w_Ring_allSweets cI cJ cC a_h_one a_h_one_kinds a_h_one_sweets a_h_one_settings a_h_one_heaps (r_children q4) (r_strokes q4) (r_gave q4) (r_threw q4) (r_sweets q4))) (wc' := (w_Ring_allSweets cI cJ cC a_h_one a_h_one_kinds a_h_one_sweets a_h_one_settings a_h_one_heaps (r_children q4) (r_strokes q4) (r_gave q4) (r_threw q4) (r_sweets q4))) (ws' := (w_Mind_othersMore cI cJ cC a_h a_h_one a_h_two a_h_one_kinds a_h_one_sweets a_h_one_settings a_h_one_heaps a_h_two_kinds a_h_two_sweets a_h_two_settings a_h_two_heaps a_g1 a_g1_kinds a_g1_sweets a_g1_settings a_g1_heaps y_h_seed (r_children q4) (r_strokes q4) (r_gave q4) (r_threw q4) (r_kinds q4) (r_sweets q4) (r_settings q4) (r_heaps q4) (r_children q5) (r_strokes q5) (r_gave q5) (r_threw q5) (r_kinds q5) (r_sweets q5) (r_settings q5) (r_heaps q5) (r_children z_g1) (r_strokes z_g1) (r_gave z_g1) (r_threw z_g1) (r_kinds z_g1) (r_sweets z_g1) (r_settings z_g1))) (As := []) (rest := []) hx hb hml hown hT (c_Ring_allSweets (z_h := q4) a_h_one a_h_one_kinds a_h_one_sweets a_h_one_settings a_h_one_heaps hq6) k_672 k_556 k_557 k_2 k_558 hd_Ring_allSweets ⟨Nat.le_of_ble_eq_true rfl, Nat.le_of_ble_eq_true rfl⟩ xE0_ok trivial hA hK hP hD hS [1, 3] [0, 2, 4, 5, 6, 7, 8, 9, 10, 11, 12, 13, 14] [0, 13, 1, 14, 2, 3, 4, 5, 6, 7, 8, 9, 10, 11, 12] rfl rfl rfl rfl rfl rfl rfl rfl rfl rfl hl.1 rfl (Nat.le_of_ble_eq_true rfl) ⟨Nat.zero_le _, Nat.zero_le _⟩ d_Mind_othersMore_48 (fun H locs hP hD hS => ?_)
  refine lv_aload_n hx hb d_Mind_othersMore_51 rfl (lv_at hl 0 rfl) ?_
  refine va_get hx hb hT i_Mind hown hK hP 0 rfl rfl 0 (Nat.le_of_ble_eq_true rfl) (hT _ k_106) (fun _ h => h) rfl d_Mind_othersMore_52 ?_
  refine va_get hx hb hT i_Ring hown hK hP 1 rfl rfl 1 (Nat.le_of_ble_eq_true rfl) (hT _ k_36) (fun _ h => h) rfl d_Mind_othersMore_55 ?_
  refine lv_iload_n hx hb d_Mind_othersMore_58 rfl (lv_at hl 2 rfl) ?_
  refine x_iald hx hb hK hP 3 0 rfl rfl (j := x2.toNatClampNeg) rfl c3 d_Mind_othersMore_59 ?_
  refine lv_isub hx hb d_Mind_othersMore_60 ?_
  refine lv_istore (lv' := [(5, .int (q6 - ((r_sweets q4) x2.toNatClampNeg))), (0, .ref a_h), (1, .ref a_g1), (2, .int x2), (3, .int x3), (4, .int x4)]) hx hb d_Mind_othersMore_61 hl (by decide) rfl (fun ls hl => ?_)
  refine lv_aload_n hx hb d_Mind_othersMore_63 rfl (lv_at hl 1 rfl) ?_
  refine va_get hx hb hT i_Mind hown hK hP 0 rfl rfl 1 (Nat.le_of_ble_eq_true rfl) (hT _ k_107) (fun _ h => h) rfl d_Mind_othersMore_64 ?_
  obtain ⟨q7, hq7, hf⟩ := io_b hf
  refine xcVI (wc := (w_Ring_allSweets cI cJ cC a_h_two a_h_two_kinds a_h_two_sweets a_h_two_settings a_h_two_heaps (r_children q5) (r_strokes q5) (r_gave q5) (r_threw q5) (r_sweets q5))) (wc' := (w_Ring_allSweets cI cJ cC a_h_two a_h_two_kinds a_h_two_sweets a_h_two_settings a_h_two_heaps (r_children q5) (r_strokes q5) (r_gave q5) (r_threw q5) (r_sweets q5))) (ws' := (w_Mind_othersMore cI cJ cC a_h a_h_one a_h_two a_h_one_kinds a_h_one_sweets a_h_one_settings a_h_one_heaps a_h_two_kinds a_h_two_sweets a_h_two_settings a_h_two_heaps a_g1 a_g1_kinds a_g1_sweets a_g1_settings a_g1_heaps y_h_seed (r_children q4) (r_strokes q4) (r_gave q4) (r_threw q4) (r_kinds q4) (r_sweets q4) (r_settings q4) (r_heaps q4) (r_children q5) (r_strokes q5) (r_gave q5) (r_threw q5) (r_kinds q5) (r_sweets q5) (r_settings q5) (r_heaps q5) (r_children z_g1) (r_strokes z_g1) (r_gave z_g1) (r_threw z_g1) (r_kinds z_g1) (r_sweets z_g1) (r_settings z_g1))) (As := []) (rest := []) hx hb hml hown hT (c_Ring_allSweets (z_h := q5) a_h_two a_h_two_kinds a_h_two_sweets a_h_two_settings a_h_two_heaps hq7) k_672 k_556 k_557 k_2 k_558 hd_Ring_allSweets ⟨Nat.le_of_ble_eq_true rfl, Nat.le_of_ble_eq_true rfl⟩ xE0_ok trivial hA hK hP hD hS [6, 8] [0, 1, 2, 3, 4, 5, 7, 9, 10, 11, 12, 13, 14] [0, 1, 2, 3, 4, 5, 13, 6, 14, 7, 8, 9, 10, 11, 12] rfl rfl rfl rfl rfl rfl rfl rfl rfl rfl hl.1 rfl (Nat.le_of_ble_eq_true rfl) ⟨Nat.zero_le _, Nat.zero_le _⟩ d_Mind_othersMore_67 (fun H locs hP hD hS => ?_)
  refine lv_aload_n hx hb d_Mind_othersMore_70 rfl (lv_at hl 1 rfl) ?_
  refine va_get hx hb hT i_Mind hown hK hP 0 rfl rfl 1 (Nat.le_of_ble_eq_true rfl) (hT _ k_107) (fun _ h => h) rfl d_Mind_othersMore_71 ?_
  refine va_get hx hb hT i_Ring hown hK hP 6 rfl rfl 1 (Nat.le_of_ble_eq_true rfl) (hT _ k_36) (fun _ h => h) rfl d_Mind_othersMore_74 ?_
  refine lv_iload_n hx hb d_Mind_othersMore_77 rfl (lv_at hl 3 rfl) ?_
  refine x_iald hx hb hK hP 8 0 rfl rfl (j := x2.toNatClampNeg) rfl c3 d_Mind_othersMore_78 ?_
  refine lv_isub hx hb d_Mind_othersMore_79 ?_
  refine lv_iload hx hb d_Mind_othersMore_80 (lv_at hl 0 rfl) ?_
  refine lv_isub hx hb d_Mind_othersMore_82 ?_
  have hq := Option.some.inj hf
  subst hq
  exact hret _ _ _ _ _ d_Mind_othersMore_83 rfl rfl hP hD hS
abbrev w_Mind_feltBehind (cI cJ cC : ClassId) (a_h a_h_one a_h_two a_h_one_kinds a_h_one_sweets a_h_one_settings a_h_one_heaps a_h_two_kinds a_h_two_sweets a_h_two_settings a_h_two_heaps a_g1 a_g1_kinds a_g1_sweets a_g1_settings a_g1_heaps : Nat) (y_h_seed : Int32) (p_h_one_children : Int32) (p_h_one_strokes : Int32) (p_h_one_gave : Int32) (p_h_one_threw : Int32) (p_h_one_kinds : (Nat → Int32)) (p_h_one_sweets : (Nat → Int32)) (p_h_one_settings : (Nat → Int32)) (p_h_one_heaps : (Nat → Int32)) (p_h_two_children : Int32) (p_h_two_strokes : Int32) (p_h_two_gave : Int32) (p_h_two_threw : Int32) (p_h_two_kinds : (Nat → Int32)) (p_h_two_sweets : (Nat → Int32)) (p_h_two_settings : (Nat → Int32)) (p_h_two_heaps : (Nat → Int32)) (p_g1_children : Int32) (p_g1_strokes : Int32) (p_g1_gave : Int32) (p_g1_threw : Int32) (p_g1_kinds : (Nat → Int32)) (p_g1_sweets : (Nat → Int32)) (p_g1_settings : (Nat → Int32)) : va_W := [(a_h, .inr (3, [.ref a_h_one, .ref a_h_two, .int y_h_seed])), (a_h_one, .inr (1, [.ref a_h_one_kinds, .ref a_h_one_sweets, .ref a_h_one_settings, .int p_h_one_children, .int p_h_one_strokes, .int p_h_one_gave, .int p_h_one_threw, .ref a_h_one_heaps])), (a_h_one_kinds, .inl (cI, (8, .inl p_h_one_kinds))), (a_h_one_sweets, .inl (cI, (8, .inl p_h_one_sweets))), (a_h_one_settings, .inl (cI, (3, .inl p_h_one_settings))), (a_h_one_heaps, .inl (cI, (8, .inl p_h_one_heaps))), (a_h_two, .inr (1, [.ref a_h_two_kinds, .ref a_h_two_sweets, .ref a_h_two_settings, .int p_h_two_children, .int p_h_two_strokes, .int p_h_two_gave, .int p_h_two_threw, .ref a_h_two_heaps])), (a_h_two_kinds, .inl (cI, (8, .inl p_h_two_kinds))), (a_h_two_sweets, .inl (cI, (8, .inl p_h_two_sweets))), (a_h_two_settings, .inl (cI, (3, .inl p_h_two_settings))), (a_h_two_heaps, .inl (cI, (8, .inl p_h_two_heaps))), (a_g1, .inr (1, [.ref a_g1_kinds, .ref a_g1_sweets, .ref a_g1_settings, .int p_g1_children, .int p_g1_strokes, .int p_g1_gave, .int p_g1_threw, .ref a_g1_heaps])), (a_g1_kinds, .inl (cI, (8, .inl p_g1_kinds))), (a_g1_sweets, .inl (cI, (8, .inl p_g1_sweets))), (a_g1_settings, .inl (cI, (3, .inl p_g1_settings)))]
theorem d_Mind_feltBehind_0 : decode b_Mind_feltBehind 0 = .ok (.aload_n 0, 1) := by decide +kernel
theorem d_Mind_feltBehind_1 : decode b_Mind_feltBehind 1 = .ok (.getfield 12, 3) := by decide +kernel
theorem d_Mind_feltBehind_4 : decode b_Mind_feltBehind 4 = .ok (.aload_n 1, 1) := by decide +kernel
theorem d_Mind_feltBehind_5 : decode b_Mind_feltBehind 5 = .ok (.invokevirtual 25, 3) := by decide +kernel
theorem d_Mind_feltBehind_8 : decode b_Mind_feltBehind 8 = .ok (.aload_n 0, 1) := by decide +kernel
theorem d_Mind_feltBehind_9 : decode b_Mind_feltBehind 9 = .ok (.getfield 18, 3) := by decide +kernel
theorem d_Mind_feltBehind_12 : decode b_Mind_feltBehind 12 = .ok (.aload_n 1, 1) := by decide +kernel
theorem d_Mind_feltBehind_13 : decode b_Mind_feltBehind 13 = .ok (.invokevirtual 25, 3) := by decide +kernel
theorem d_Mind_feltBehind_16 : decode b_Mind_feltBehind 16 = .ok (.aload_n 0, 1) := by decide +kernel
theorem d_Mind_feltBehind_17 : decode b_Mind_feltBehind 17 = .ok (.getfield 18, 3) := by decide +kernel
theorem d_Mind_feltBehind_20 : decode b_Mind_feltBehind 20 = .ok (.getfield 33, 3) := by decide +kernel
theorem d_Mind_feltBehind_23 : decode b_Mind_feltBehind 23 = .ok (.iload_n 3, 1) := by decide +kernel
theorem d_Mind_feltBehind_24 : decode b_Mind_feltBehind 24 = .ok (.aload_n 0, 1) := by decide +kernel
theorem d_Mind_feltBehind_25 : decode b_Mind_feltBehind 25 = .ok (.getfield 18, 3) := by decide +kernel
theorem d_Mind_feltBehind_28 : decode b_Mind_feltBehind 28 = .ok (.getfield 33, 3) := by decide +kernel
theorem d_Mind_feltBehind_31 : decode b_Mind_feltBehind 31 = .ok (.iload_n 3, 1) := by decide +kernel
theorem d_Mind_feltBehind_32 : decode b_Mind_feltBehind 32 = .ok (.iaload, 1) := by decide +kernel
theorem d_Mind_feltBehind_33 : decode b_Mind_feltBehind 33 = .ok (.iconst 1, 1) := by decide +kernel
theorem d_Mind_feltBehind_34 : decode b_Mind_feltBehind 34 = .ok (.iadd, 1) := by decide +kernel
theorem d_Mind_feltBehind_35 : decode b_Mind_feltBehind 35 = .ok (.sipush 999, 3) := by decide +kernel
theorem d_Mind_feltBehind_38 : decode b_Mind_feltBehind 38 = .ok (.invokestatic 68, 3) := by decide +kernel
theorem d_Mind_feltBehind_41 : decode b_Mind_feltBehind 41 = .ok (.iastore, 1) := by decide +kernel
theorem d_Mind_feltBehind_42 : decode b_Mind_feltBehind 42 = .ok (.iconst 0, 1) := by decide +kernel
theorem d_Mind_feltBehind_43 : decode b_Mind_feltBehind 43 = .ok (.istore 4, 2) := by decide +kernel
theorem d_Mind_feltBehind_45 : decode b_Mind_feltBehind 45 = .ok (.iload 4, 2) := by decide +kernel
theorem d_Mind_feltBehind_47 : decode b_Mind_feltBehind 47 = .ok (.bipush 50, 2) := by decide +kernel
theorem d_Mind_feltBehind_49 : decode b_Mind_feltBehind 49 = .ok (.if_icmp .gt 49, 3) := by decide +kernel
theorem d_Mind_feltBehind_52 : decode b_Mind_feltBehind 52 = .ok (.aload_n 0, 1) := by decide +kernel
theorem d_Mind_feltBehind_53 : decode b_Mind_feltBehind 53 = .ok (.getfield 12, 3) := by decide +kernel
theorem d_Mind_feltBehind_56 : decode b_Mind_feltBehind 56 = .ok (.getfield 33, 3) := by decide +kernel
theorem d_Mind_feltBehind_59 : decode b_Mind_feltBehind 59 = .ok (.iload_n 2, 1) := by decide +kernel
theorem d_Mind_feltBehind_60 : decode b_Mind_feltBehind 60 = .ok (.iaload, 1) := by decide +kernel
theorem d_Mind_feltBehind_61 : decode b_Mind_feltBehind 61 = .ok (.aload_n 0, 1) := by decide +kernel
theorem d_Mind_feltBehind_62 : decode b_Mind_feltBehind 62 = .ok (.getfield 18, 3) := by decide +kernel
theorem d_Mind_feltBehind_65 : decode b_Mind_feltBehind 65 = .ok (.getfield 33, 3) := by decide +kernel
theorem d_Mind_feltBehind_68 : decode b_Mind_feltBehind 68 = .ok (.iload_n 2, 1) := by decide +kernel
theorem d_Mind_feltBehind_69 : decode b_Mind_feltBehind 69 = .ok (.iaload, 1) := by decide +kernel
theorem d_Mind_feltBehind_70 : decode b_Mind_feltBehind 70 = .ok (.if_icmp .eq 6, 3) := by decide +kernel
theorem d_Mind_feltBehind_73 : decode b_Mind_feltBehind 73 = .ok (.iload 4, 2) := by decide +kernel
theorem d_Mind_feltBehind_75 : decode b_Mind_feltBehind 75 = .ok (.ireturn, 1) := by decide +kernel
theorem d_Mind_feltBehind_76 : decode b_Mind_feltBehind 76 = .ok (.aload_n 0, 1) := by decide +kernel
theorem d_Mind_feltBehind_77 : decode b_Mind_feltBehind 77 = .ok (.getfield 12, 3) := by decide +kernel
theorem d_Mind_feltBehind_80 : decode b_Mind_feltBehind 80 = .ok (.invokevirtual 43, 3) := by decide +kernel
theorem d_Mind_feltBehind_83 : decode b_Mind_feltBehind 83 = .ok (.pop, 1) := by decide +kernel
theorem d_Mind_feltBehind_84 : decode b_Mind_feltBehind 84 = .ok (.aload_n 0, 1) := by decide +kernel
theorem d_Mind_feltBehind_85 : decode b_Mind_feltBehind 85 = .ok (.getfield 18, 3) := by decide +kernel
theorem d_Mind_feltBehind_88 : decode b_Mind_feltBehind 88 = .ok (.invokevirtual 43, 3) := by decide +kernel
theorem d_Mind_feltBehind_91 : decode b_Mind_feltBehind 91 = .ok (.pop, 1) := by decide +kernel
theorem d_Mind_feltBehind_92 : decode b_Mind_feltBehind 92 = .ok (.iinc 4 1, 3) := by decide +kernel
theorem d_Mind_feltBehind_95 : decode b_Mind_feltBehind 95 = .ok (.goto (-50), 3) := by decide +kernel
theorem d_Mind_feltBehind_98 : decode b_Mind_feltBehind 98 = .ok (.bipush (-9), 2) := by decide +kernel
theorem d_Mind_feltBehind_100 : decode b_Mind_feltBehind 100 = .ok (.ireturn, 1) := by decide +kernel
set_option maxHeartbeats 4000000 in
set_option maxRecDepth 100000 in
theorem c_Mind_feltBehind {l : Launch} {D : va_G} {cI cJ cC : ClassId} (a_h a_h_one a_h_two a_h_one_kinds a_h_one_sweets a_h_one_settings a_h_one_heaps a_h_two_kinds a_h_two_sweets a_h_two_settings a_h_two_heaps a_g1 a_g1_kinds a_g1_sweets a_g1_settings a_g1_heaps : Nat) (y_h_seed : Int32) {z_h_one : RS} {z_h_two : RS} {z_g1 : RS} {x2 : Int32} {x3 : Int32} {q : Int32 × RS × RS} (hf : f_Mind_feltBehind z_h_one z_h_two z_g1 x2 x3 = some q) : xI l y_Mind_feltBehind b_Mind_feltBehind 5 .int 4 89 D (tyK cI cJ cC) xE0 [.ref a_h, .ref a_g1, .int x2, .int x3] (w_Mind_feltBehind cI cJ cC a_h a_h_one a_h_two a_h_one_kinds a_h_one_sweets a_h_one_settings a_h_one_heaps a_h_two_kinds a_h_two_sweets a_h_two_settings a_h_two_heaps a_g1 a_g1_kinds a_g1_sweets a_g1_settings a_g1_heaps y_h_seed (r_children z_h_one) (r_strokes z_h_one) (r_gave z_h_one) (r_threw z_h_one) (r_kinds z_h_one) (r_sweets z_h_one) (r_settings z_h_one) (r_heaps z_h_one) (r_children z_h_two) (r_strokes z_h_two) (r_gave z_h_two) (r_threw z_h_two) (r_kinds z_h_two) (r_sweets z_h_two) (r_settings z_h_two) (r_heaps z_h_two) (r_children z_g1) (r_strokes z_g1) (r_gave z_g1) (r_threw z_g1) (r_kinds z_g1) (r_sweets z_g1) (r_settings z_g1)) q.1 (w_Mind_feltBehind cI cJ cC a_h a_h_one a_h_two a_h_one_kinds a_h_one_sweets a_h_one_settings a_h_one_heaps a_h_two_kinds a_h_two_sweets a_h_two_settings a_h_two_heaps a_g1 a_g1_kinds a_g1_sweets a_g1_settings a_g1_heaps y_h_seed (r_children q.2.1) (r_strokes q.2.1) (r_gave q.2.1) (r_threw q.2.1) (r_kinds q.2.1) (r_sweets q.2.1) (r_settings q.2.1) (r_heaps q.2.1) (r_children q.2.2) (r_strokes q.2.2) (r_gave q.2.2) (r_threw q.2.2) (r_kinds q.2.2) (r_sweets q.2.2) (r_settings q.2.2) (r_heaps q.2.2) (r_children z_g1) (r_strokes z_g1) (r_gave z_g1) (r_threw z_g1) (r_kinds z_g1) (r_sweets z_g1) (r_settings z_g1)) := by
  refine xI_of (by decide) (Nat.le_of_ble_eq_true rfl) ?_
  intro p e s m args below meth c A Q hx hb hml hown hT hA hP hD hK hS hE hret ls hl
  have hown : s.vm.findClass R_Mind = some m.cls := hown
  have hl : lv_has ls 5 [(0, .ref a_h), (1, .ref a_g1), (2, .int x2), (3, .int x3)] := hl
  unfold f_Mind_feltBehind at hf
  have L45 : ∀ (n : Nat) (z_h_one : RS) (z_h_two : RS) (x4 : Int32) (H : Heap) (locs : List Loc) (ls : Array Slot), f_Mind_feltBehind_L45 x2 n z_h_one z_h_two x4 = some q → va_P D classes (w_Mind_feltBehind cI cJ cC a_h a_h_one a_h_two a_h_one_kinds a_h_one_sweets a_h_one_settings a_h_one_heaps a_h_two_kinds a_h_two_sweets a_h_two_settings a_h_two_heaps a_g1 a_g1_kinds a_g1_sweets a_g1_settings a_g1_heaps y_h_seed (r_children z_h_one) (r_strokes z_h_one) (r_gave z_h_one) (r_threw z_h_one) (r_kinds z_h_one) (r_sweets z_h_one) (r_settings z_h_one) (r_heaps z_h_one) (r_children z_h_two) (r_strokes z_h_two) (r_gave z_h_two) (r_threw z_h_two) (r_kinds z_h_two) (r_sweets z_h_two) (r_settings z_h_two) (r_heaps z_h_two) (r_children z_g1) (r_strokes z_g1) (r_gave z_g1) (r_threw z_g1) (r_kinds z_g1) (r_sweets z_g1) (r_settings z_g1)) H → va_D A (w_Mind_feltBehind cI cJ cC a_h a_h_one a_h_two a_h_one_kinds a_h_one_sweets a_h_one_settings a_h_one_heaps a_h_two_kinds a_h_two_sweets a_h_two_settings a_h_two_heaps a_g1 a_g1_kinds a_g1_sweets a_g1_settings a_g1_heaps y_h_seed (r_children z_h_one) (r_strokes z_h_one) (r_gave z_h_one) (r_threw z_h_one) (r_kinds z_h_one) (r_sweets z_h_one) (r_settings z_h_one) (r_heaps z_h_one) (r_children z_h_two) (r_strokes z_h_two) (r_gave z_h_two) (r_threw z_h_two) (r_kinds z_h_two) (r_sweets z_h_two) (r_settings z_h_two) (r_heaps z_h_two) (r_children z_g1) (r_strokes z_g1) (r_gave z_g1) (r_threw z_g1) (r_kinds z_g1) (r_sweets z_g1) (r_settings z_g1)) → va_S A s.heap H locs → lv_has ls 5 [(0, .ref a_h), (2, .int x2), (4, .int x4)] → W p l e (xRm 4 89) s m args below meth c H locs 0 0 Q (F0 m 45 ls []) := by
    intro n
    induction n with
    | zero => intro z_h_one z_h_two x4 H locs ls hf hP hD hS hl; exact nomatch (show (none : Option (Int32 × RS × RS)) = some q from hf)
    | succ n ih =>
      intro z_h_one z_h_two x4 H locs ls hf hP hD hS hl
      refine lv_iload hx hb d_Mind_feltBehind_45 (lv_at hl 2 rfl) ?_
      refine lv_bipush (v := 50) hx hb d_Mind_feltBehind_47 (by decide) ?_
      refine lv_icmp_gt (tgt := 98) hx hb d_Mind_feltBehind_49 (by decide) (fun c4 => ?_) (fun c4 => ?_)
      · have hf := io_t hf c4
        refine lv_bipush (v := (-9)) hx hb d_Mind_feltBehind_98 (by decide) ?_
        have hq := Option.some.inj hf
        subst hq
        exact hret _ _ _ _ _ d_Mind_feltBehind_100 rfl rfl hP hD hS
      · have hf := io_f hf c4
        refine lv_aload_n hx hb d_Mind_feltBehind_52 rfl (lv_at hl 0 rfl) ?_
        refine va_get hx hb hT i_Mind hown hK hP 0 rfl rfl 0 (Nat.le_of_ble_eq_true rfl) (hT _ k_106) (fun _ h => h) rfl d_Mind_feltBehind_53 ?_
        refine va_get hx hb hT i_Ring hown hK hP 1 rfl rfl 1 (Nat.le_of_ble_eq_true rfl) (hT _ k_36) (fun _ h => h) rfl d_Mind_feltBehind_56 ?_
        refine lv_iload_n hx hb d_Mind_feltBehind_59 rfl (lv_at hl 1 rfl) ?_
        obtain ⟨c5, hf⟩ := io_n hf
        refine x_iald hx hb hK hP 3 0 rfl rfl (j := x2.toNatClampNeg) rfl c5 d_Mind_feltBehind_60 ?_
        refine lv_aload_n hx hb d_Mind_feltBehind_61 rfl (lv_at hl 0 rfl) ?_
        refine va_get hx hb hT i_Mind hown hK hP 0 rfl rfl 1 (Nat.le_of_ble_eq_true rfl) (hT _ k_107) (fun _ h => h) rfl d_Mind_feltBehind_62 ?_
        refine va_get hx hb hT i_Ring hown hK hP 6 rfl rfl 1 (Nat.le_of_ble_eq_true rfl) (hT _ k_36) (fun _ h => h) rfl d_Mind_feltBehind_65 ?_
        refine lv_iload_n hx hb d_Mind_feltBehind_68 rfl (lv_at hl 1 rfl) ?_
        refine x_iald hx hb hK hP 8 0 rfl rfl (j := x2.toNatClampNeg) rfl c5 d_Mind_feltBehind_69 ?_
        refine lv_icmp_eq (tgt := 76) hx hb d_Mind_feltBehind_70 (by decide) (fun c6 => ?_) (fun c6 => ?_)
        · have hf := io_t hf c6
          refine lv_aload_n hx hb d_Mind_feltBehind_76 rfl (lv_at hl 0 rfl) ?_
          refine va_get hx hb hT i_Mind hown hK hP 0 rfl rfl 0 (Nat.le_of_ble_eq_true rfl) (hT _ k_106) (fun _ h => h) rfl d_Mind_feltBehind_77 ?_
          obtain ⟨q7, hq7, hf⟩ := io_b hf
          refine xcVI (wc := (w_Ring_strike cI cJ cC a_h_one a_h_one_kinds a_h_one_sweets a_h_one_settings a_h_one_heaps (r_children z_h_one) (r_strokes z_h_one) (r_gave z_h_one) (r_threw z_h_one) (r_kinds z_h_one) (r_sweets z_h_one) (r_settings z_h_one) (r_heaps z_h_one))) (wc' := (w_Ring_strike cI cJ cC a_h_one a_h_one_kinds a_h_one_sweets a_h_one_settings a_h_one_heaps (r_children q7.2) (r_strokes q7.2) (r_gave q7.2) (r_threw q7.2) (r_kinds q7.2) (r_sweets q7.2) (r_settings q7.2) (r_heaps q7.2))) (ws' := (w_Mind_feltBehind cI cJ cC a_h a_h_one a_h_two a_h_one_kinds a_h_one_sweets a_h_one_settings a_h_one_heaps a_h_two_kinds a_h_two_sweets a_h_two_settings a_h_two_heaps a_g1 a_g1_kinds a_g1_sweets a_g1_settings a_g1_heaps y_h_seed (r_children q7.2) (r_strokes q7.2) (r_gave q7.2) (r_threw q7.2) (r_kinds q7.2) (r_sweets q7.2) (r_settings q7.2) (r_heaps q7.2) (r_children z_h_two) (r_strokes z_h_two) (r_gave z_h_two) (r_threw z_h_two) (r_kinds z_h_two) (r_sweets z_h_two) (r_settings z_h_two) (r_heaps z_h_two) (r_children z_g1) (r_strokes z_g1) (r_gave z_g1) (r_threw z_g1) (r_kinds z_g1) (r_sweets z_g1) (r_settings z_g1))) (As := []) (rest := []) hx hb hml hown hT (c_Ring_strike (z_h := z_h_one) a_h_one a_h_one_kinds a_h_one_sweets a_h_one_settings a_h_one_heaps hq7) k_470 k_417 k_418 k_2 k_419 hd_Ring_strike ⟨Nat.le_of_ble_eq_true rfl, Nat.le_of_ble_eq_true rfl⟩ xE0_ok trivial hA hK hP hD hS [1, 2, 3, 4, 5] [0, 6, 7, 8, 9, 10, 11, 12, 13, 14] [0, 10, 11, 12, 13, 14, 1, 2, 3, 4, 5, 6, 7, 8, 9] rfl rfl rfl rfl rfl rfl rfl rfl rfl rfl hl.1 rfl (Nat.le_of_ble_eq_true rfl) ⟨Nat.zero_le _, Nat.zero_le _⟩ d_Mind_feltBehind_80 (fun H locs hP hD hS => ?_)
          refine lv_pop hx hb d_Mind_feltBehind_83 rfl ?_
          refine lv_aload_n hx hb d_Mind_feltBehind_84 rfl (lv_at hl 0 rfl) ?_
          refine va_get hx hb hT i_Mind hown hK hP 0 rfl rfl 1 (Nat.le_of_ble_eq_true rfl) (hT _ k_107) (fun _ h => h) rfl d_Mind_feltBehind_85 ?_
          obtain ⟨q8, hq8, hf⟩ := io_b hf
          refine xcVI (wc := (w_Ring_strike cI cJ cC a_h_two a_h_two_kinds a_h_two_sweets a_h_two_settings a_h_two_heaps (r_children z_h_two) (r_strokes z_h_two) (r_gave z_h_two) (r_threw z_h_two) (r_kinds z_h_two) (r_sweets z_h_two) (r_settings z_h_two) (r_heaps z_h_two))) (wc' := (w_Ring_strike cI cJ cC a_h_two a_h_two_kinds a_h_two_sweets a_h_two_settings a_h_two_heaps (r_children q8.2) (r_strokes q8.2) (r_gave q8.2) (r_threw q8.2) (r_kinds q8.2) (r_sweets q8.2) (r_settings q8.2) (r_heaps q8.2))) (ws' := (w_Mind_feltBehind cI cJ cC a_h a_h_one a_h_two a_h_one_kinds a_h_one_sweets a_h_one_settings a_h_one_heaps a_h_two_kinds a_h_two_sweets a_h_two_settings a_h_two_heaps a_g1 a_g1_kinds a_g1_sweets a_g1_settings a_g1_heaps y_h_seed (r_children q7.2) (r_strokes q7.2) (r_gave q7.2) (r_threw q7.2) (r_kinds q7.2) (r_sweets q7.2) (r_settings q7.2) (r_heaps q7.2) (r_children q8.2) (r_strokes q8.2) (r_gave q8.2) (r_threw q8.2) (r_kinds q8.2) (r_sweets q8.2) (r_settings q8.2) (r_heaps q8.2) (r_children z_g1) (r_strokes z_g1) (r_gave z_g1) (r_threw z_g1) (r_kinds z_g1) (r_sweets z_g1) (r_settings z_g1))) (As := []) (rest := []) hx hb hml hown hT (c_Ring_strike (z_h := z_h_two) a_h_two a_h_two_kinds a_h_two_sweets a_h_two_settings a_h_two_heaps hq8) k_470 k_417 k_418 k_2 k_419 hd_Ring_strike ⟨Nat.le_of_ble_eq_true rfl, Nat.le_of_ble_eq_true rfl⟩ xE0_ok trivial hA hK hP hD hS [6, 7, 8, 9, 10] [0, 1, 2, 3, 4, 5, 11, 12, 13, 14] [0, 1, 2, 3, 4, 5, 10, 11, 12, 13, 14, 6, 7, 8, 9] rfl rfl rfl rfl rfl rfl rfl rfl rfl rfl hl.1 rfl (Nat.le_of_ble_eq_true rfl) ⟨Nat.zero_le _, Nat.zero_le _⟩ d_Mind_feltBehind_88 (fun H locs hP hD hS => ?_)
          refine lv_pop hx hb d_Mind_feltBehind_91 rfl ?_
          refine lv_iinc (v := (x4 + 1)) (lv' := [(4, .int (x4 + 1)), (0, .ref a_h), (2, .int x2)]) hx hb d_Mind_feltBehind_92 hl (k := 2) rfl (by rfl) (by decide) rfl (fun ls hl => ?_)
          refine lv_goto (tgt := 45) hx hb d_Mind_feltBehind_95 (by decide) ?_
          exact ih q7.2 q8.2 (x4 + 1) _ _ _ hf hP hD hS (lv_sub hl [1, 2, 0] rfl)
        · have hf := io_f hf c6
          refine lv_iload hx hb d_Mind_feltBehind_73 (lv_at hl 2 rfl) ?_
          have hq := Option.some.inj hf
          subst hq
          exact hret _ _ _ _ _ d_Mind_feltBehind_75 rfl rfl hP hD hS
  refine lv_aload_n hx hb d_Mind_feltBehind_0 rfl (lv_at hl 0 rfl) ?_
  refine va_get hx hb hT i_Mind hown hK hP 0 rfl rfl 0 (Nat.le_of_ble_eq_true rfl) (hT _ k_106) (fun _ h => h) rfl d_Mind_feltBehind_1 ?_
  refine lv_aload_n hx hb d_Mind_feltBehind_4 rfl (lv_at hl 1 rfl) ?_
  obtain ⟨q1, hq1, hf⟩ := io_b hf
  refine xcVV (wc := (w_Ring_copyFrom cI cJ cC a_h_one a_h_one_kinds a_h_one_sweets a_h_one_settings a_h_one_heaps a_g1 a_g1_kinds a_g1_sweets a_g1_settings a_g1_heaps (r_children z_h_one) (r_strokes z_h_one) (r_gave z_h_one) (r_threw z_h_one) (r_kinds z_h_one) (r_sweets z_h_one) (r_settings z_h_one) (r_heaps z_h_one) (r_children z_g1) (r_strokes z_g1) (r_gave z_g1) (r_threw z_g1) (r_kinds z_g1) (r_sweets z_g1) (r_settings z_g1))) (wc' := (w_Ring_copyFrom cI cJ cC a_h_one a_h_one_kinds a_h_one_sweets a_h_one_settings a_h_one_heaps a_g1 a_g1_kinds a_g1_sweets a_g1_settings a_g1_heaps (r_children q1) (r_strokes q1) (r_gave q1) (r_threw q1) (r_kinds q1) (r_sweets q1) (r_settings q1) (r_heaps q1) (r_children z_g1) (r_strokes z_g1) (r_gave z_g1) (r_threw z_g1) (r_kinds z_g1) (r_sweets z_g1) (r_settings z_g1))) (ws' := (w_Mind_feltBehind cI cJ cC a_h a_h_one a_h_two a_h_one_kinds a_h_one_sweets a_h_one_settings a_h_one_heaps a_h_two_kinds a_h_two_sweets a_h_two_settings a_h_two_heaps a_g1 a_g1_kinds a_g1_sweets a_g1_settings a_g1_heaps y_h_seed (r_children q1) (r_strokes q1) (r_gave q1) (r_threw q1) (r_kinds q1) (r_sweets q1) (r_settings q1) (r_heaps q1) (r_children z_h_two) (r_strokes z_h_two) (r_gave z_h_two) (r_threw z_h_two) (r_kinds z_h_two) (r_sweets z_h_two) (r_settings z_h_two) (r_heaps z_h_two) (r_children z_g1) (r_strokes z_g1) (r_gave z_g1) (r_threw z_g1) (r_kinds z_g1) (r_sweets z_g1) (r_settings z_g1))) (As := [.ref a_g1]) (rest := []) hx hb hml hown hT (c_Ring_copyFrom (z_h := z_h_one) (z_g1 := z_g1) a_h_one a_h_one_kinds a_h_one_sweets a_h_one_settings a_h_one_heaps a_g1 a_g1_kinds a_g1_sweets a_g1_settings a_g1_heaps hq1) k_441 k_326 k_327 k_2 k_328 hd_Ring_copyFrom ⟨Nat.le_of_ble_eq_true rfl, Nat.le_of_ble_eq_true rfl⟩ xE0_ok trivial hA hK hP hD hS [1, 2, 3, 4, 5, 11, 12, 13, 14] [0, 6, 7, 8, 9, 10] [0, 6, 7, 8, 9, 10, 1, 2, 3, 4, 5, 11, 12, 13, 14] rfl rfl rfl rfl rfl rfl rfl rfl rfl rfl hl.1 rfl (Nat.le_of_ble_eq_true rfl) ⟨Nat.zero_le _, Nat.zero_le _⟩ d_Mind_feltBehind_5 (fun H locs hP hD hS => ?_)
  refine lv_aload_n hx hb d_Mind_feltBehind_8 rfl (lv_at hl 0 rfl) ?_
  refine va_get hx hb hT i_Mind hown hK hP 0 rfl rfl 1 (Nat.le_of_ble_eq_true rfl) (hT _ k_107) (fun _ h => h) rfl d_Mind_feltBehind_9 ?_
  refine lv_aload_n hx hb d_Mind_feltBehind_12 rfl (lv_at hl 1 rfl) ?_
  obtain ⟨q2, hq2, hf⟩ := io_b hf
  refine xcVV (wc := (w_Ring_copyFrom cI cJ cC a_h_two a_h_two_kinds a_h_two_sweets a_h_two_settings a_h_two_heaps a_g1 a_g1_kinds a_g1_sweets a_g1_settings a_g1_heaps (r_children z_h_two) (r_strokes z_h_two) (r_gave z_h_two) (r_threw z_h_two) (r_kinds z_h_two) (r_sweets z_h_two) (r_settings z_h_two) (r_heaps z_h_two) (r_children z_g1) (r_strokes z_g1) (r_gave z_g1) (r_threw z_g1) (r_kinds z_g1) (r_sweets z_g1) (r_settings z_g1))) (wc' := (w_Ring_copyFrom cI cJ cC a_h_two a_h_two_kinds a_h_two_sweets a_h_two_settings a_h_two_heaps a_g1 a_g1_kinds a_g1_sweets a_g1_settings a_g1_heaps (r_children q2) (r_strokes q2) (r_gave q2) (r_threw q2) (r_kinds q2) (r_sweets q2) (r_settings q2) (r_heaps q2) (r_children z_g1) (r_strokes z_g1) (r_gave z_g1) (r_threw z_g1) (r_kinds z_g1) (r_sweets z_g1) (r_settings z_g1))) (ws' := (w_Mind_feltBehind cI cJ cC a_h a_h_one a_h_two a_h_one_kinds a_h_one_sweets a_h_one_settings a_h_one_heaps a_h_two_kinds a_h_two_sweets a_h_two_settings a_h_two_heaps a_g1 a_g1_kinds a_g1_sweets a_g1_settings a_g1_heaps y_h_seed (r_children q1) (r_strokes q1) (r_gave q1) (r_threw q1) (r_kinds q1) (r_sweets q1) (r_settings q1) (r_heaps q1) (r_children q2) (r_strokes q2) (r_gave q2) (r_threw q2) (r_kinds q2) (r_sweets q2) (r_settings q2) (r_heaps q2) (r_children z_g1) (r_strokes z_g1) (r_gave z_g1) (r_threw z_g1) (r_kinds z_g1) (r_sweets z_g1) (r_settings z_g1))) (As := [.ref a_g1]) (rest := []) hx hb hml hown hT (c_Ring_copyFrom (z_h := z_h_two) (z_g1 := z_g1) a_h_two a_h_two_kinds a_h_two_sweets a_h_two_settings a_h_two_heaps a_g1 a_g1_kinds a_g1_sweets a_g1_settings a_g1_heaps hq2) k_441 k_326 k_327 k_2 k_328 hd_Ring_copyFrom ⟨Nat.le_of_ble_eq_true rfl, Nat.le_of_ble_eq_true rfl⟩ xE0_ok trivial hA hK hP hD hS [6, 7, 8, 9, 10, 11, 12, 13, 14] [0, 1, 2, 3, 4, 5] [0, 1, 2, 3, 4, 5, 6, 7, 8, 9, 10, 11, 12, 13, 14] rfl rfl rfl rfl rfl rfl rfl rfl rfl rfl hl.1 rfl (Nat.le_of_ble_eq_true rfl) ⟨Nat.zero_le _, Nat.zero_le _⟩ d_Mind_feltBehind_13 (fun H locs hP hD hS => ?_)
  refine lv_aload_n hx hb d_Mind_feltBehind_16 rfl (lv_at hl 0 rfl) ?_
  refine va_get hx hb hT i_Mind hown hK hP 0 rfl rfl 1 (Nat.le_of_ble_eq_true rfl) (hT _ k_107) (fun _ h => h) rfl d_Mind_feltBehind_17 ?_
  refine va_get hx hb hT i_Ring hown hK hP 6 rfl rfl 1 (Nat.le_of_ble_eq_true rfl) (hT _ k_36) (fun _ h => h) rfl d_Mind_feltBehind_20 ?_
  refine lv_iload_n hx hb d_Mind_feltBehind_23 rfl (lv_at hl 3 rfl) ?_
  refine lv_aload_n hx hb d_Mind_feltBehind_24 rfl (lv_at hl 0 rfl) ?_
  refine va_get hx hb hT i_Mind hown hK hP 0 rfl rfl 1 (Nat.le_of_ble_eq_true rfl) (hT _ k_107) (fun _ h => h) rfl d_Mind_feltBehind_25 ?_
  refine va_get hx hb hT i_Ring hown hK hP 6 rfl rfl 1 (Nat.le_of_ble_eq_true rfl) (hT _ k_36) (fun _ h => h) rfl d_Mind_feltBehind_28 ?_
  refine lv_iload_n hx hb d_Mind_feltBehind_31 rfl (lv_at hl 3 rfl) ?_
  obtain ⟨c3, hf⟩ := io_n hf
  refine x_iald hx hb hK hP 8 0 rfl rfl (j := x3.toNatClampNeg) rfl c3 d_Mind_feltBehind_32 ?_
  refine lv_iconst (v := 1) hx hb d_Mind_feltBehind_33 (by decide) ?_
  refine lv_iadd hx hb d_Mind_feltBehind_34 ?_
  refine lv_sipush (v := 999) hx hb d_Mind_feltBehind_35 (by decide) ?_
  refine va_mmin hx hb (hml.trans hl.1.symm) hown (hT _ k_681) (hT _ k_265) (hT _ k_11) (hT _ k_266) (Nat.le_of_ble_eq_true rfl) (Nat.le_of_ble_eq_true rfl) (Nat.zero_le _) (Nat.zero_le _) d_Mind_feltBehind_38 ?_
  refine x_iast hx hb hK hP hD hS 8 0 rfl rfl (j := x3.toNatClampNeg) rfl c3 d_Mind_feltBehind_41 (fun H locs hP hD hS => ?_)
  have hP : va_P D classes (w_Mind_feltBehind cI cJ cC a_h a_h_one a_h_two a_h_one_kinds a_h_one_sweets a_h_one_settings a_h_one_heaps a_h_two_kinds a_h_two_sweets a_h_two_settings a_h_two_heaps a_g1 a_g1_kinds a_g1_sweets a_g1_settings a_g1_heaps y_h_seed (r_children q1) (r_strokes q1) (r_gave q1) (r_threw q1) (r_kinds q1) (r_sweets q1) (r_settings q1) (r_heaps q1) (r_children q2) (r_strokes q2) (r_gave q2) (r_threw q2) (r_kinds q2) (upd (r_sweets q2) x3.toNatClampNeg (jmin (((r_sweets q2) x3.toNatClampNeg) + 1) 999)) (r_settings q2) (r_heaps q2) (r_children z_g1) (r_strokes z_g1) (r_gave z_g1) (r_threw z_g1) (r_kinds z_g1) (r_sweets z_g1) (r_settings z_g1)) H := hP
  have hD : va_D A (w_Mind_feltBehind cI cJ cC a_h a_h_one a_h_two a_h_one_kinds a_h_one_sweets a_h_one_settings a_h_one_heaps a_h_two_kinds a_h_two_sweets a_h_two_settings a_h_two_heaps a_g1 a_g1_kinds a_g1_sweets a_g1_settings a_g1_heaps y_h_seed (r_children q1) (r_strokes q1) (r_gave q1) (r_threw q1) (r_kinds q1) (r_sweets q1) (r_settings q1) (r_heaps q1) (r_children q2) (r_strokes q2) (r_gave q2) (r_threw q2) (r_kinds q2) (upd (r_sweets q2) x3.toNatClampNeg (jmin (((r_sweets q2) x3.toNatClampNeg) + 1) 999)) (r_settings q2) (r_heaps q2) (r_children z_g1) (r_strokes z_g1) (r_gave z_g1) (r_threw z_g1) (r_kinds z_g1) (r_sweets z_g1) (r_settings z_g1)) := hD
  refine lv_iconst (v := 0) hx hb d_Mind_feltBehind_42 (by decide) ?_
  refine lv_istore (lv' := [(4, .int 0), (0, .ref a_h), (1, .ref a_g1), (2, .int x2), (3, .int x3)]) hx hb d_Mind_feltBehind_43 hl (by decide) rfl (fun ls hl => ?_)
  exact L45 FU q1 ((r_kinds q2), (upd (r_sweets q2) x3.toNatClampNeg (jmin (((r_sweets q2) x3.toNatClampNeg) + 1) 999)), (r_settings q2), (r_heaps q2), (r_children q2), (r_strokes q2), (r_gave q2), (r_threw q2)) 0 _ _ _ hf hP hD hS (lv_sub hl [1, 3, 0] rfl)
abbrev w_Mind_gaveJoined (cI cJ cC : ClassId) (a_h a_h_one a_h_two a_h_one_kinds a_h_one_sweets a_h_one_settings a_h_one_heaps a_g1 a_g1_kinds a_g1_sweets a_g1_settings a_g1_heaps a_g2 a_g2_kinds a_g2_sweets a_g2_settings a_g2_heaps : Nat) (y_h_seed : Int32) (p_h_one_children : Int32) (p_h_one_strokes : Int32) (p_h_one_gave : Int32) (p_h_one_threw : Int32) (p_h_one_kinds : (Nat → Int32)) (p_h_one_sweets : (Nat → Int32)) (p_h_one_settings : (Nat → Int32)) (p_h_one_heaps : (Nat → Int32)) (p_g1_children : Int32) (p_g1_strokes : Int32) (p_g1_gave : Int32) (p_g1_threw : Int32) (p_g1_kinds : (Nat → Int32)) (p_g1_sweets : (Nat → Int32)) (p_g1_settings : (Nat → Int32)) (p_g2_children : Int32) (p_g2_strokes : Int32) (p_g2_gave : Int32) (p_g2_threw : Int32) (p_g2_kinds : (Nat → Int32)) (p_g2_sweets : (Nat → Int32)) : va_W := [(a_h, .inr (3, [.ref a_h_one, .ref a_h_two, .int y_h_seed])), (a_h_one, .inr (1, [.ref a_h_one_kinds, .ref a_h_one_sweets, .ref a_h_one_settings, .int p_h_one_children, .int p_h_one_strokes, .int p_h_one_gave, .int p_h_one_threw, .ref a_h_one_heaps])), (a_h_one_kinds, .inl (cI, (8, .inl p_h_one_kinds))), (a_h_one_sweets, .inl (cI, (8, .inl p_h_one_sweets))), (a_h_one_settings, .inl (cI, (3, .inl p_h_one_settings))), (a_h_one_heaps, .inl (cI, (8, .inl p_h_one_heaps))), (a_g1, .inr (1, [.ref a_g1_kinds, .ref a_g1_sweets, .ref a_g1_settings, .int p_g1_children, .int p_g1_strokes, .int p_g1_gave, .int p_g1_threw, .ref a_g1_heaps])), (a_g1_kinds, .inl (cI, (8, .inl p_g1_kinds))), (a_g1_sweets, .inl (cI, (8, .inl p_g1_sweets))), (a_g1_settings, .inl (cI, (3, .inl p_g1_settings))), (a_g2, .inr (1, [.ref a_g2_kinds, .ref a_g2_sweets, .ref a_g2_settings, .int p_g2_children, .int p_g2_strokes, .int p_g2_gave, .int p_g2_threw, .ref a_g2_heaps])), (a_g2_kinds, .inl (cI, (8, .inl p_g2_kinds))), (a_g2_sweets, .inl (cI, (8, .inl p_g2_sweets)))]
theorem d_Mind_gaveJoined_0 : decode b_Mind_gaveJoined 0 = .ok (.aload_n 0, 1) := by decide +kernel
theorem d_Mind_gaveJoined_1 : decode b_Mind_gaveJoined 1 = .ok (.getfield 12, 3) := by decide +kernel
theorem d_Mind_gaveJoined_4 : decode b_Mind_gaveJoined 4 = .ok (.aload_n 1, 1) := by decide +kernel
theorem d_Mind_gaveJoined_5 : decode b_Mind_gaveJoined 5 = .ok (.invokevirtual 25, 3) := by decide +kernel
theorem d_Mind_gaveJoined_8 : decode b_Mind_gaveJoined 8 = .ok (.iconst 0, 1) := by decide +kernel
theorem d_Mind_gaveJoined_9 : decode b_Mind_gaveJoined 9 = .ok (.istore 4, 2) := by decide +kernel
theorem d_Mind_gaveJoined_11 : decode b_Mind_gaveJoined 11 = .ok (.iload 4, 2) := by decide +kernel
theorem d_Mind_gaveJoined_13 : decode b_Mind_gaveJoined 13 = .ok (.aload_n 2, 1) := by decide +kernel
theorem d_Mind_gaveJoined_14 : decode b_Mind_gaveJoined 14 = .ok (.getfield 74, 3) := by decide +kernel
theorem d_Mind_gaveJoined_17 : decode b_Mind_gaveJoined 17 = .ok (.if_icmp .ge 31, 3) := by decide +kernel
theorem d_Mind_gaveJoined_20 : decode b_Mind_gaveJoined 20 = .ok (.aload_n 0, 1) := by decide +kernel
theorem d_Mind_gaveJoined_21 : decode b_Mind_gaveJoined 21 = .ok (.getfield 12, 3) := by decide +kernel
theorem d_Mind_gaveJoined_24 : decode b_Mind_gaveJoined 24 = .ok (.aload_n 2, 1) := by decide +kernel
theorem d_Mind_gaveJoined_25 : decode b_Mind_gaveJoined 25 = .ok (.getfield 62, 3) := by decide +kernel
theorem d_Mind_gaveJoined_28 : decode b_Mind_gaveJoined 28 = .ok (.iload 4, 2) := by decide +kernel
theorem d_Mind_gaveJoined_30 : decode b_Mind_gaveJoined 30 = .ok (.iaload, 1) := by decide +kernel
theorem d_Mind_gaveJoined_31 : decode b_Mind_gaveJoined 31 = .ok (.aload_n 2, 1) := by decide +kernel
theorem d_Mind_gaveJoined_32 : decode b_Mind_gaveJoined 32 = .ok (.getfield 33, 3) := by decide +kernel
theorem d_Mind_gaveJoined_35 : decode b_Mind_gaveJoined 35 = .ok (.iload 4, 2) := by decide +kernel
theorem d_Mind_gaveJoined_37 : decode b_Mind_gaveJoined 37 = .ok (.iaload, 1) := by decide +kernel
theorem d_Mind_gaveJoined_38 : decode b_Mind_gaveJoined 38 = .ok (.invokevirtual 77, 3) := by decide +kernel
theorem d_Mind_gaveJoined_41 : decode b_Mind_gaveJoined 41 = .ok (.pop, 1) := by decide +kernel
theorem d_Mind_gaveJoined_42 : decode b_Mind_gaveJoined 42 = .ok (.iinc 4 1, 3) := by decide +kernel
theorem d_Mind_gaveJoined_45 : decode b_Mind_gaveJoined 45 = .ok (.goto (-34), 3) := by decide +kernel
theorem d_Mind_gaveJoined_48 : decode b_Mind_gaveJoined 48 = .ok (.aload_n 0, 1) := by decide +kernel
theorem d_Mind_gaveJoined_49 : decode b_Mind_gaveJoined 49 = .ok (.getfield 12, 3) := by decide +kernel
theorem d_Mind_gaveJoined_52 : decode b_Mind_gaveJoined 52 = .ok (.iload_n 3, 1) := by decide +kernel
theorem d_Mind_gaveJoined_53 : decode b_Mind_gaveJoined 53 = .ok (.invokevirtual 29, 3) := by decide +kernel
theorem d_Mind_gaveJoined_56 : decode b_Mind_gaveJoined 56 = .ok (.aload_n 0, 1) := by decide +kernel
theorem d_Mind_gaveJoined_57 : decode b_Mind_gaveJoined 57 = .ok (.getfield 12, 3) := by decide +kernel
theorem d_Mind_gaveJoined_60 : decode b_Mind_gaveJoined 60 = .ok (.getfield 37, 3) := by decide +kernel
theorem d_Mind_gaveJoined_63 : decode b_Mind_gaveJoined 63 = .ok (.aload_n 1, 1) := by decide +kernel
theorem d_Mind_gaveJoined_64 : decode b_Mind_gaveJoined 64 = .ok (.getfield 37, 3) := by decide +kernel
theorem d_Mind_gaveJoined_67 : decode b_Mind_gaveJoined 67 = .ok (.isub, 1) := by decide +kernel
theorem d_Mind_gaveJoined_68 : decode b_Mind_gaveJoined 68 = .ok (.ireturn, 1) := by decide +kernel
set_option maxHeartbeats 4000000 in
set_option maxRecDepth 100000 in
theorem c_Mind_gaveJoined {l : Launch} {D : va_G} {cI cJ cC : ClassId} (a_h a_h_one a_h_two a_h_one_kinds a_h_one_sweets a_h_one_settings a_h_one_heaps a_g1 a_g1_kinds a_g1_sweets a_g1_settings a_g1_heaps a_g2 a_g2_kinds a_g2_sweets a_g2_settings a_g2_heaps : Nat) (y_h_seed : Int32) {z_h_one : RS} {z_g1 : RS} {z_g2 : RS} {x3 : Int32} {q : Int32 × RS} (hf : f_Mind_gaveJoined z_h_one z_g1 z_g2 x3 = some q) : xI l y_Mind_gaveJoined b_Mind_gaveJoined 5 .int 5 111 D (tyK cI cJ cC) xE0 [.ref a_h, .ref a_g1, .ref a_g2, .int x3] (w_Mind_gaveJoined cI cJ cC a_h a_h_one a_h_two a_h_one_kinds a_h_one_sweets a_h_one_settings a_h_one_heaps a_g1 a_g1_kinds a_g1_sweets a_g1_settings a_g1_heaps a_g2 a_g2_kinds a_g2_sweets a_g2_settings a_g2_heaps y_h_seed (r_children z_h_one) (r_strokes z_h_one) (r_gave z_h_one) (r_threw z_h_one) (r_kinds z_h_one) (r_sweets z_h_one) (r_settings z_h_one) (r_heaps z_h_one) (r_children z_g1) (r_strokes z_g1) (r_gave z_g1) (r_threw z_g1) (r_kinds z_g1) (r_sweets z_g1) (r_settings z_g1) (r_children z_g2) (r_strokes z_g2) (r_gave z_g2) (r_threw z_g2) (r_kinds z_g2) (r_sweets z_g2)) q.1 (w_Mind_gaveJoined cI cJ cC a_h a_h_one a_h_two a_h_one_kinds a_h_one_sweets a_h_one_settings a_h_one_heaps a_g1 a_g1_kinds a_g1_sweets a_g1_settings a_g1_heaps a_g2 a_g2_kinds a_g2_sweets a_g2_settings a_g2_heaps y_h_seed (r_children q.2) (r_strokes q.2) (r_gave q.2) (r_threw q.2) (r_kinds q.2) (r_sweets q.2) (r_settings q.2) (r_heaps q.2) (r_children z_g1) (r_strokes z_g1) (r_gave z_g1) (r_threw z_g1) (r_kinds z_g1) (r_sweets z_g1) (r_settings z_g1) (r_children z_g2) (r_strokes z_g2) (r_gave z_g2) (r_threw z_g2) (r_kinds z_g2) (r_sweets z_g2)) := by
  refine xI_of (by decide) (Nat.le_of_ble_eq_true rfl) ?_
  intro p e s m args below meth c A Q hx hb hml hown hT hA hP hD hK hS hE hret ls hl
  have hown : s.vm.findClass R_Mind = some m.cls := hown
  have hl : lv_has ls 5 [(0, .ref a_h), (1, .ref a_g1), (2, .ref a_g2), (3, .int x3)] := hl
  unfold f_Mind_gaveJoined at hf
  have L11 : ∀ k : RS → Option (Int32 × RS), (∀ (z_h_one : RS) (H : Heap) (locs : List Loc) (ls : Array Slot), k z_h_one = some q → va_P D classes (w_Mind_gaveJoined cI cJ cC a_h a_h_one a_h_two a_h_one_kinds a_h_one_sweets a_h_one_settings a_h_one_heaps a_g1 a_g1_kinds a_g1_sweets a_g1_settings a_g1_heaps a_g2 a_g2_kinds a_g2_sweets a_g2_settings a_g2_heaps y_h_seed (r_children z_h_one) (r_strokes z_h_one) (r_gave z_h_one) (r_threw z_h_one) (r_kinds z_h_one) (r_sweets z_h_one) (r_settings z_h_one) (r_heaps z_h_one) (r_children z_g1) (r_strokes z_g1) (r_gave z_g1) (r_threw z_g1) (r_kinds z_g1) (r_sweets z_g1) (r_settings z_g1) (r_children z_g2) (r_strokes z_g2) (r_gave z_g2) (r_threw z_g2) (r_kinds z_g2) (r_sweets z_g2)) H → va_D A (w_Mind_gaveJoined cI cJ cC a_h a_h_one a_h_two a_h_one_kinds a_h_one_sweets a_h_one_settings a_h_one_heaps a_g1 a_g1_kinds a_g1_sweets a_g1_settings a_g1_heaps a_g2 a_g2_kinds a_g2_sweets a_g2_settings a_g2_heaps y_h_seed (r_children z_h_one) (r_strokes z_h_one) (r_gave z_h_one) (r_threw z_h_one) (r_kinds z_h_one) (r_sweets z_h_one) (r_settings z_h_one) (r_heaps z_h_one) (r_children z_g1) (r_strokes z_g1) (r_gave z_g1) (r_threw z_g1) (r_kinds z_g1) (r_sweets z_g1) (r_settings z_g1) (r_children z_g2) (r_strokes z_g2) (r_gave z_g2) (r_threw z_g2) (r_kinds z_g2) (r_sweets z_g2)) → va_S A s.heap H locs → lv_has ls 5 [(0, .ref a_h), (1, .ref a_g1), (3, .int x3)] → W p l e (xRm 5 111) s m args below meth c H locs 0 0 Q (F0 m 48 ls [])) → ∀ (n : Nat) (z_h_one : RS) (x4 : Int32) (H : Heap) (locs : List Loc) (ls : Array Slot), f_Mind_gaveJoined_L11 z_g2 k n z_h_one x4 = some q → va_P D classes (w_Mind_gaveJoined cI cJ cC a_h a_h_one a_h_two a_h_one_kinds a_h_one_sweets a_h_one_settings a_h_one_heaps a_g1 a_g1_kinds a_g1_sweets a_g1_settings a_g1_heaps a_g2 a_g2_kinds a_g2_sweets a_g2_settings a_g2_heaps y_h_seed (r_children z_h_one) (r_strokes z_h_one) (r_gave z_h_one) (r_threw z_h_one) (r_kinds z_h_one) (r_sweets z_h_one) (r_settings z_h_one) (r_heaps z_h_one) (r_children z_g1) (r_strokes z_g1) (r_gave z_g1) (r_threw z_g1) (r_kinds z_g1) (r_sweets z_g1) (r_settings z_g1) (r_children z_g2) (r_strokes z_g2) (r_gave z_g2) (r_threw z_g2) (r_kinds z_g2) (r_sweets z_g2)) H → va_D A (w_Mind_gaveJoined cI cJ cC a_h a_h_one a_h_two a_h_one_kinds a_h_one_sweets a_h_one_settings a_h_one_heaps a_g1 a_g1_kinds a_g1_sweets a_g1_settings a_g1_heaps a_g2 a_g2_kinds a_g2_sweets a_g2_settings a_g2_heaps y_h_seed (r_children z_h_one) (r_strokes z_h_one) (r_gave z_h_one) (r_threw z_h_one) (r_kinds z_h_one) (r_sweets z_h_one) (r_settings z_h_one) (r_heaps z_h_one) (r_children z_g1) (r_strokes z_g1) (r_gave z_g1) (r_threw z_g1) (r_kinds z_g1) (r_sweets z_g1) (r_settings z_g1) (r_children z_g2) (r_strokes z_g2) (r_gave z_g2) (r_threw z_g2) (r_kinds z_g2) (r_sweets z_g2)) → va_S A s.heap H locs → lv_has ls 5 [(0, .ref a_h), (1, .ref a_g1), (2, .ref a_g2), (3, .int x3), (4, .int x4)] → W p l e (xRm 5 111) s m args below meth c H locs 0 0 Q (F0 m 11 ls []) := by
    intro k hk n
    induction n with
    | zero => intro z_h_one x4 H locs ls hf hP hD hS hl; exact nomatch (show (none : Option (Int32 × RS)) = some q from hf)
    | succ n ih =>
      intro z_h_one x4 H locs ls hf hP hD hS hl
      refine lv_iload hx hb d_Mind_gaveJoined_11 (lv_at hl 4 rfl) ?_
      refine lv_aload_n hx hb d_Mind_gaveJoined_13 rfl (lv_at hl 2 rfl) ?_
      refine va_get hx hb hT i_Ring hown hK hP 10 rfl rfl 3 (Nat.le_of_ble_eq_true rfl) (hT _ k_49) (fun _ h => h) rfl d_Mind_gaveJoined_14 ?_
      refine lv_icmp_ge (tgt := 48) hx hb d_Mind_gaveJoined_17 (by decide) (fun c2 => ?_) (fun c2 => ?_)
      · have hf := io_t hf c2
        exact hk z_h_one _ _ _ hf hP hD hS (lv_sub hl [0, 1, 3] rfl)
      · have hf := io_f hf c2
        refine lv_aload_n hx hb d_Mind_gaveJoined_20 rfl (lv_at hl 0 rfl) ?_
        refine va_get hx hb hT i_Mind hown hK hP 0 rfl rfl 0 (Nat.le_of_ble_eq_true rfl) (hT _ k_106) (fun _ h => h) rfl d_Mind_gaveJoined_21 ?_
        refine lv_aload_n hx hb d_Mind_gaveJoined_24 rfl (lv_at hl 2 rfl) ?_
        refine va_get hx hb hT i_Ring hown hK hP 10 rfl rfl 0 (Nat.le_of_ble_eq_true rfl) (hT _ k_34) (fun _ h => h) rfl d_Mind_gaveJoined_25 ?_
        refine lv_iload hx hb d_Mind_gaveJoined_28 (lv_at hl 4 rfl) ?_
        obtain ⟨c3, hf⟩ := io_n hf
        refine x_iald hx hb hK hP 11 0 rfl rfl (j := x4.toNatClampNeg) rfl c3 d_Mind_gaveJoined_30 ?_
        refine lv_aload_n hx hb d_Mind_gaveJoined_31 rfl (lv_at hl 2 rfl) ?_
        refine va_get hx hb hT i_Ring hown hK hP 10 rfl rfl 1 (Nat.le_of_ble_eq_true rfl) (hT _ k_36) (fun _ h => h) rfl d_Mind_gaveJoined_32 ?_
        refine lv_iload hx hb d_Mind_gaveJoined_35 (lv_at hl 4 rfl) ?_
        refine x_iald hx hb hK hP 12 0 rfl rfl (j := x4.toNatClampNeg) rfl c3 d_Mind_gaveJoined_37 ?_
        obtain ⟨q4, hq4, hf⟩ := io_b hf
        refine xcVI (wc := (w_Ring_seatLast cI cJ cC a_h_one a_h_one_kinds a_h_one_sweets a_h_one_settings a_h_one_heaps (r_children z_h_one) (r_strokes z_h_one) (r_gave z_h_one) (r_threw z_h_one) (r_kinds z_h_one) (r_sweets z_h_one) (r_settings z_h_one) (r_heaps z_h_one))) (wc' := (w_Ring_seatLast cI cJ cC a_h_one a_h_one_kinds a_h_one_sweets a_h_one_settings a_h_one_heaps (r_children q4.2) (r_strokes q4.2) (r_gave q4.2) (r_threw q4.2) (r_kinds q4.2) (r_sweets q4.2) (r_settings q4.2) (r_heaps q4.2))) (ws' := (w_Mind_gaveJoined cI cJ cC a_h a_h_one a_h_two a_h_one_kinds a_h_one_sweets a_h_one_settings a_h_one_heaps a_g1 a_g1_kinds a_g1_sweets a_g1_settings a_g1_heaps a_g2 a_g2_kinds a_g2_sweets a_g2_settings a_g2_heaps y_h_seed (r_children q4.2) (r_strokes q4.2) (r_gave q4.2) (r_threw q4.2) (r_kinds q4.2) (r_sweets q4.2) (r_settings q4.2) (r_heaps q4.2) (r_children z_g1) (r_strokes z_g1) (r_gave z_g1) (r_threw z_g1) (r_kinds z_g1) (r_sweets z_g1) (r_settings z_g1) (r_children z_g2) (r_strokes z_g2) (r_gave z_g2) (r_threw z_g2) (r_kinds z_g2) (r_sweets z_g2))) (As := [.int ((r_kinds z_g2) x4.toNatClampNeg), .int ((r_sweets z_g2) x4.toNatClampNeg)]) (rest := []) hx hb hml hown hT (c_Ring_seatLast (z_h := z_h_one) a_h_one a_h_one_kinds a_h_one_sweets a_h_one_settings a_h_one_heaps hq4) k_690 k_345 k_346 k_2 k_347 hd_Ring_seatLast ⟨Nat.le_of_ble_eq_true rfl, Nat.le_of_ble_eq_true rfl⟩ xE0_ok trivial hA hK hP hD hS [1, 2, 3, 4, 5] [0, 6, 7, 8, 9, 10, 11, 12] [0, 8, 9, 10, 11, 12, 1, 2, 3, 4, 5, 6, 7] rfl rfl rfl rfl rfl rfl rfl rfl rfl rfl hl.1 rfl (Nat.le_of_ble_eq_true rfl) ⟨Nat.zero_le _, Nat.zero_le _⟩ d_Mind_gaveJoined_38 (fun H locs hP hD hS => ?_)
        refine lv_pop hx hb d_Mind_gaveJoined_41 rfl ?_
        refine lv_iinc (v := (x4 + 1)) (lv' := [(4, .int (x4 + 1)), (0, .ref a_h), (1, .ref a_g1), (2, .ref a_g2), (3, .int x3)]) hx hb d_Mind_gaveJoined_42 hl (k := 4) rfl (by rfl) (by decide) rfl (fun ls hl => ?_)
        refine lv_goto (tgt := 11) hx hb d_Mind_gaveJoined_45 (by decide) ?_
        exact ih q4.2 (x4 + 1) _ _ _ hf hP hD hS (lv_sub hl [1, 2, 3, 4, 0] rfl)
  refine lv_aload_n hx hb d_Mind_gaveJoined_0 rfl (lv_at hl 0 rfl) ?_
  refine va_get hx hb hT i_Mind hown hK hP 0 rfl rfl 0 (Nat.le_of_ble_eq_true rfl) (hT _ k_106) (fun _ h => h) rfl d_Mind_gaveJoined_1 ?_
  refine lv_aload_n hx hb d_Mind_gaveJoined_4 rfl (lv_at hl 1 rfl) ?_
  obtain ⟨q1, hq1, hf⟩ := io_b hf
  refine xcVV (wc := (w_Ring_copyFrom cI cJ cC a_h_one a_h_one_kinds a_h_one_sweets a_h_one_settings a_h_one_heaps a_g1 a_g1_kinds a_g1_sweets a_g1_settings a_g1_heaps (r_children z_h_one) (r_strokes z_h_one) (r_gave z_h_one) (r_threw z_h_one) (r_kinds z_h_one) (r_sweets z_h_one) (r_settings z_h_one) (r_heaps z_h_one) (r_children z_g1) (r_strokes z_g1) (r_gave z_g1) (r_threw z_g1) (r_kinds z_g1) (r_sweets z_g1) (r_settings z_g1))) (wc' := (w_Ring_copyFrom cI cJ cC a_h_one a_h_one_kinds a_h_one_sweets a_h_one_settings a_h_one_heaps a_g1 a_g1_kinds a_g1_sweets a_g1_settings a_g1_heaps (r_children q1) (r_strokes q1) (r_gave q1) (r_threw q1) (r_kinds q1) (r_sweets q1) (r_settings q1) (r_heaps q1) (r_children z_g1) (r_strokes z_g1) (r_gave z_g1) (r_threw z_g1) (r_kinds z_g1) (r_sweets z_g1) (r_settings z_g1))) (ws' := (w_Mind_gaveJoined cI cJ cC a_h a_h_one a_h_two a_h_one_kinds a_h_one_sweets a_h_one_settings a_h_one_heaps a_g1 a_g1_kinds a_g1_sweets a_g1_settings a_g1_heaps a_g2 a_g2_kinds a_g2_sweets a_g2_settings a_g2_heaps y_h_seed (r_children q1) (r_strokes q1) (r_gave q1) (r_threw q1) (r_kinds q1) (r_sweets q1) (r_settings q1) (r_heaps q1) (r_children z_g1) (r_strokes z_g1) (r_gave z_g1) (r_threw z_g1) (r_kinds z_g1) (r_sweets z_g1) (r_settings z_g1) (r_children z_g2) (r_strokes z_g2) (r_gave z_g2) (r_threw z_g2) (r_kinds z_g2) (r_sweets z_g2))) (As := [.ref a_g1]) (rest := []) hx hb hml hown hT (c_Ring_copyFrom (z_h := z_h_one) (z_g1 := z_g1) a_h_one a_h_one_kinds a_h_one_sweets a_h_one_settings a_h_one_heaps a_g1 a_g1_kinds a_g1_sweets a_g1_settings a_g1_heaps hq1) k_441 k_326 k_327 k_2 k_328 hd_Ring_copyFrom ⟨Nat.le_of_ble_eq_true rfl, Nat.le_of_ble_eq_true rfl⟩ xE0_ok trivial hA hK hP hD hS [1, 2, 3, 4, 5, 6, 7, 8, 9] [0, 10, 11, 12] [0, 4, 5, 6, 7, 8, 9, 10, 11, 12, 1, 2, 3] rfl rfl rfl rfl rfl rfl rfl rfl rfl rfl hl.1 rfl (Nat.le_of_ble_eq_true rfl) ⟨Nat.zero_le _, Nat.zero_le _⟩ d_Mind_gaveJoined_5 (fun H locs hP hD hS => ?_)
  refine lv_iconst (v := 0) hx hb d_Mind_gaveJoined_8 (by decide) ?_
  refine lv_istore (lv' := [(4, .int 0), (0, .ref a_h), (1, .ref a_g1), (2, .ref a_g2), (3, .int x3)]) hx hb d_Mind_gaveJoined_9 hl (by decide) rfl (fun ls hl => ?_)
  refine L11 _ (fun z_h_one_5 H locs ls hf hP hD hS hl => ?_) FU q1 0 _ _ _ hf hP hD hS (lv_sub hl [1, 2, 3, 4, 0] rfl)
  refine lv_aload_n hx hb d_Mind_gaveJoined_48 rfl (lv_at hl 0 rfl) ?_
  refine va_get hx hb hT i_Mind hown hK hP 0 rfl rfl 0 (Nat.le_of_ble_eq_true rfl) (hT _ k_106) (fun _ h => h) rfl d_Mind_gaveJoined_49 ?_
  refine lv_iload_n hx hb d_Mind_gaveJoined_52 rfl (lv_at hl 2 rfl) ?_
  obtain ⟨q6, hq6, hf⟩ := io_b hf
  refine xcVV (wc := (w_Ring_strikeOften cI cJ cC a_h_one a_h_one_kinds a_h_one_sweets a_h_one_settings a_h_one_heaps (r_children z_h_one_5) (r_strokes z_h_one_5) (r_gave z_h_one_5) (r_threw z_h_one_5) (r_kinds z_h_one_5) (r_sweets z_h_one_5) (r_settings z_h_one_5) (r_heaps z_h_one_5))) (wc' := (w_Ring_strikeOften cI cJ cC a_h_one a_h_one_kinds a_h_one_sweets a_h_one_settings a_h_one_heaps (r_children q6) (r_strokes q6) (r_gave q6) (r_threw q6) (r_kinds q6) (r_sweets q6) (r_settings q6) (r_heaps q6))) (ws' := (w_Mind_gaveJoined cI cJ cC a_h a_h_one a_h_two a_h_one_kinds a_h_one_sweets a_h_one_settings a_h_one_heaps a_g1 a_g1_kinds a_g1_sweets a_g1_settings a_g1_heaps a_g2 a_g2_kinds a_g2_sweets a_g2_settings a_g2_heaps y_h_seed (r_children q6) (r_strokes q6) (r_gave q6) (r_threw q6) (r_kinds q6) (r_sweets q6) (r_settings q6) (r_heaps q6) (r_children z_g1) (r_strokes z_g1) (r_gave z_g1) (r_threw z_g1) (r_kinds z_g1) (r_sweets z_g1) (r_settings z_g1) (r_children z_g2) (r_strokes z_g2) (r_gave z_g2) (r_threw z_g2) (r_kinds z_g2) (r_sweets z_g2))) (As := [.int x3]) (rest := []) hx hb hml hown hT (c_Ring_strikeOften (z_h := z_h_one_5) a_h_one a_h_one_kinds a_h_one_sweets a_h_one_settings a_h_one_heaps hq6) k_442 k_443 k_444 k_2 k_445 hd_Ring_strikeOften ⟨Nat.le_of_ble_eq_true rfl, Nat.le_of_ble_eq_true rfl⟩ xE0_ok trivial hA hK hP hD hS [1, 2, 3, 4, 5] [0, 6, 7, 8, 9, 10, 11, 12] [0, 8, 9, 10, 11, 12, 1, 2, 3, 4, 5, 6, 7] rfl rfl rfl rfl rfl rfl rfl rfl rfl rfl hl.1 rfl (Nat.le_of_ble_eq_true rfl) ⟨Nat.zero_le _, Nat.zero_le _⟩ d_Mind_gaveJoined_53 (fun H locs hP hD hS => ?_)
  refine lv_aload_n hx hb d_Mind_gaveJoined_56 rfl (lv_at hl 0 rfl) ?_
  refine va_get hx hb hT i_Mind hown hK hP 0 rfl rfl 0 (Nat.le_of_ble_eq_true rfl) (hT _ k_106) (fun _ h => h) rfl d_Mind_gaveJoined_57 ?_
  refine va_get hx hb hT i_Ring hown hK hP 1 rfl rfl 5 (Nat.le_of_ble_eq_true rfl) (hT _ k_53) (fun _ h => h) rfl d_Mind_gaveJoined_60 ?_
  refine lv_aload_n hx hb d_Mind_gaveJoined_63 rfl (lv_at hl 1 rfl) ?_
  refine va_get hx hb hT i_Ring hown hK hP 6 rfl rfl 5 (Nat.le_of_ble_eq_true rfl) (hT _ k_53) (fun _ h => h) rfl d_Mind_gaveJoined_64 ?_
  refine lv_isub hx hb d_Mind_gaveJoined_67 ?_
  have hq := Option.some.inj hf
  subst hq
  exact hret _ _ _ _ _ d_Mind_gaveJoined_68 rfl rfl hP hD hS
abbrev w_Mind_gaveMore (cI cJ cC : ClassId) (a_h a_h_one a_h_two a_h_one_kinds a_h_one_sweets a_h_one_settings a_h_one_heaps a_h_two_kinds a_h_two_sweets a_h_two_settings a_h_two_heaps a_g1 a_g1_kinds a_g1_sweets a_g1_settings a_g1_heaps : Nat) (y_h_seed : Int32) (p_h_one_children : Int32) (p_h_one_strokes : Int32) (p_h_one_gave : Int32) (p_h_one_threw : Int32) (p_h_one_kinds : (Nat → Int32)) (p_h_one_sweets : (Nat → Int32)) (p_h_one_settings : (Nat → Int32)) (p_h_one_heaps : (Nat → Int32)) (p_h_two_children : Int32) (p_h_two_strokes : Int32) (p_h_two_gave : Int32) (p_h_two_threw : Int32) (p_h_two_kinds : (Nat → Int32)) (p_h_two_sweets : (Nat → Int32)) (p_h_two_settings : (Nat → Int32)) (p_h_two_heaps : (Nat → Int32)) (p_g1_children : Int32) (p_g1_strokes : Int32) (p_g1_gave : Int32) (p_g1_threw : Int32) (p_g1_kinds : (Nat → Int32)) (p_g1_sweets : (Nat → Int32)) (p_g1_settings : (Nat → Int32)) : va_W := [(a_h, .inr (3, [.ref a_h_one, .ref a_h_two, .int y_h_seed])), (a_h_one, .inr (1, [.ref a_h_one_kinds, .ref a_h_one_sweets, .ref a_h_one_settings, .int p_h_one_children, .int p_h_one_strokes, .int p_h_one_gave, .int p_h_one_threw, .ref a_h_one_heaps])), (a_h_one_kinds, .inl (cI, (8, .inl p_h_one_kinds))), (a_h_one_sweets, .inl (cI, (8, .inl p_h_one_sweets))), (a_h_one_settings, .inl (cI, (3, .inl p_h_one_settings))), (a_h_one_heaps, .inl (cI, (8, .inl p_h_one_heaps))), (a_h_two, .inr (1, [.ref a_h_two_kinds, .ref a_h_two_sweets, .ref a_h_two_settings, .int p_h_two_children, .int p_h_two_strokes, .int p_h_two_gave, .int p_h_two_threw, .ref a_h_two_heaps])), (a_h_two_kinds, .inl (cI, (8, .inl p_h_two_kinds))), (a_h_two_sweets, .inl (cI, (8, .inl p_h_two_sweets))), (a_h_two_settings, .inl (cI, (3, .inl p_h_two_settings))), (a_h_two_heaps, .inl (cI, (8, .inl p_h_two_heaps))), (a_g1, .inr (1, [.ref a_g1_kinds, .ref a_g1_sweets, .ref a_g1_settings, .int p_g1_children, .int p_g1_strokes, .int p_g1_gave, .int p_g1_threw, .ref a_g1_heaps])), (a_g1_kinds, .inl (cI, (8, .inl p_g1_kinds))), (a_g1_sweets, .inl (cI, (8, .inl p_g1_sweets))), (a_g1_settings, .inl (cI, (3, .inl p_g1_settings)))]
theorem d_Mind_gaveMore_0 : decode b_Mind_gaveMore 0 = .ok (.aload_n 0, 1) := by decide +kernel
theorem d_Mind_gaveMore_1 : decode b_Mind_gaveMore 1 = .ok (.getfield 12, 3) := by decide +kernel
theorem d_Mind_gaveMore_4 : decode b_Mind_gaveMore 4 = .ok (.aload_n 1, 1) := by decide +kernel
theorem d_Mind_gaveMore_5 : decode b_Mind_gaveMore 5 = .ok (.invokevirtual 25, 3) := by decide +kernel
theorem d_Mind_gaveMore_8 : decode b_Mind_gaveMore 8 = .ok (.aload_n 0, 1) := by decide +kernel
theorem d_Mind_gaveMore_9 : decode b_Mind_gaveMore 9 = .ok (.getfield 18, 3) := by decide +kernel
theorem d_Mind_gaveMore_12 : decode b_Mind_gaveMore 12 = .ok (.aload_n 1, 1) := by decide +kernel
theorem d_Mind_gaveMore_13 : decode b_Mind_gaveMore 13 = .ok (.invokevirtual 25, 3) := by decide +kernel
theorem d_Mind_gaveMore_16 : decode b_Mind_gaveMore 16 = .ok (.aload_n 0, 1) := by decide +kernel
theorem d_Mind_gaveMore_17 : decode b_Mind_gaveMore 17 = .ok (.getfield 18, 3) := by decide +kernel
theorem d_Mind_gaveMore_20 : decode b_Mind_gaveMore 20 = .ok (.iconst 0, 1) := by decide +kernel
theorem d_Mind_gaveMore_21 : decode b_Mind_gaveMore 21 = .ok (.iload_n 2, 1) := by decide +kernel
theorem d_Mind_gaveMore_22 : decode b_Mind_gaveMore 22 = .ok (.invokevirtual 77, 3) := by decide +kernel
theorem d_Mind_gaveMore_25 : decode b_Mind_gaveMore 25 = .ok (.pop, 1) := by decide +kernel
theorem d_Mind_gaveMore_26 : decode b_Mind_gaveMore 26 = .ok (.aload_n 0, 1) := by decide +kernel
theorem d_Mind_gaveMore_27 : decode b_Mind_gaveMore 27 = .ok (.getfield 12, 3) := by decide +kernel
theorem d_Mind_gaveMore_30 : decode b_Mind_gaveMore 30 = .ok (.iload_n 3, 1) := by decide +kernel
theorem d_Mind_gaveMore_31 : decode b_Mind_gaveMore 31 = .ok (.invokevirtual 29, 3) := by decide +kernel
theorem d_Mind_gaveMore_34 : decode b_Mind_gaveMore 34 = .ok (.aload_n 0, 1) := by decide +kernel
theorem d_Mind_gaveMore_35 : decode b_Mind_gaveMore 35 = .ok (.getfield 18, 3) := by decide +kernel
theorem d_Mind_gaveMore_38 : decode b_Mind_gaveMore 38 = .ok (.iload_n 3, 1) := by decide +kernel
theorem d_Mind_gaveMore_39 : decode b_Mind_gaveMore 39 = .ok (.invokevirtual 29, 3) := by decide +kernel
theorem d_Mind_gaveMore_42 : decode b_Mind_gaveMore 42 = .ok (.aload_n 0, 1) := by decide +kernel
theorem d_Mind_gaveMore_43 : decode b_Mind_gaveMore 43 = .ok (.getfield 18, 3) := by decide +kernel
theorem d_Mind_gaveMore_46 : decode b_Mind_gaveMore 46 = .ok (.getfield 37, 3) := by decide +kernel
theorem d_Mind_gaveMore_49 : decode b_Mind_gaveMore 49 = .ok (.aload_n 0, 1) := by decide +kernel
theorem d_Mind_gaveMore_50 : decode b_Mind_gaveMore 50 = .ok (.getfield 12, 3) := by decide +kernel
theorem d_Mind_gaveMore_53 : decode b_Mind_gaveMore 53 = .ok (.getfield 37, 3) := by decide +kernel
theorem d_Mind_gaveMore_56 : decode b_Mind_gaveMore 56 = .ok (.isub, 1) := by decide +kernel
theorem d_Mind_gaveMore_57 : decode b_Mind_gaveMore 57 = .ok (.ireturn, 1) := by decide +kernel
set_option maxHeartbeats 4000000 in
set_option maxRecDepth 100000 in
theorem c_Mind_gaveMore {l : Launch} {D : va_G} {cI cJ cC : ClassId} (a_h a_h_one a_h_two a_h_one_kinds a_h_one_sweets a_h_one_settings a_h_one_heaps a_h_two_kinds a_h_two_sweets a_h_two_settings a_h_two_heaps a_g1 a_g1_kinds a_g1_sweets a_g1_settings a_g1_heaps : Nat) (y_h_seed : Int32) {z_h_one : RS} {z_h_two : RS} {z_g1 : RS} {x2 : Int32} {x3 : Int32} {q : Int32 × RS × RS} (hf : f_Mind_gaveMore z_h_one z_h_two z_g1 x2 x3 = some q) : xI l y_Mind_gaveMore b_Mind_gaveMore 4 .int 5 111 D (tyK cI cJ cC) xE0 [.ref a_h, .ref a_g1, .int x2, .int x3] (w_Mind_gaveMore cI cJ cC a_h a_h_one a_h_two a_h_one_kinds a_h_one_sweets a_h_one_settings a_h_one_heaps a_h_two_kinds a_h_two_sweets a_h_two_settings a_h_two_heaps a_g1 a_g1_kinds a_g1_sweets a_g1_settings a_g1_heaps y_h_seed (r_children z_h_one) (r_strokes z_h_one) (r_gave z_h_one) (r_threw z_h_one) (r_kinds z_h_one) (r_sweets z_h_one) (r_settings z_h_one) (r_heaps z_h_one) (r_children z_h_two) (r_strokes z_h_two) (r_gave z_h_two) (r_threw z_h_two) (r_kinds z_h_two) (r_sweets z_h_two) (r_settings z_h_two) (r_heaps z_h_two) (r_children z_g1) (r_strokes z_g1) (r_gave z_g1) (r_threw z_g1) (r_kinds z_g1) (r_sweets z_g1) (r_settings z_g1)) q.1 (w_Mind_gaveMore cI cJ cC a_h a_h_one a_h_two a_h_one_kinds a_h_one_sweets a_h_one_settings a_h_one_heaps a_h_two_kinds a_h_two_sweets a_h_two_settings a_h_two_heaps a_g1 a_g1_kinds a_g1_sweets a_g1_settings a_g1_heaps y_h_seed (r_children q.2.1) (r_strokes q.2.1) (r_gave q.2.1) (r_threw q.2.1) (r_kinds q.2.1) (r_sweets q.2.1) (r_settings q.2.1) (r_heaps q.2.1) (r_children q.2.2) (r_strokes q.2.2) (r_gave q.2.2) (r_threw q.2.2) (r_kinds q.2.2) (r_sweets q.2.2) (r_settings q.2.2) (r_heaps q.2.2) (r_children z_g1) (r_strokes z_g1) (r_gave z_g1) (r_threw z_g1) (r_kinds z_g1) (r_sweets z_g1) (r_settings z_g1)) := by
  refine xI_of (by decide) (Nat.le_of_ble_eq_true rfl) ?_
  intro p e s m args below meth c A Q hx hb hml hown hT hA hP hD hK hS hE hret ls hl
  have hown : s.vm.findClass R_Mind = some m.cls := hown
  have hl : lv_has ls 4 [(0, .ref a_h), (1, .ref a_g1), (2, .int x2), (3, .int x3)] := hl
  unfold f_Mind_gaveMore at hf
  refine lv_aload_n hx hb d_Mind_gaveMore_0 rfl (lv_at hl 0 rfl) ?_
  refine va_get hx hb hT i_Mind hown hK hP 0 rfl rfl 0 (Nat.le_of_ble_eq_true rfl) (hT _ k_106) (fun _ h => h) rfl d_Mind_gaveMore_1 ?_
  refine lv_aload_n hx hb d_Mind_gaveMore_4 rfl (lv_at hl 1 rfl) ?_
  obtain ⟨q1, hq1, hf⟩ := io_b hf
  refine xcVV (wc := (w_Ring_copyFrom cI cJ cC a_h_one a_h_one_kinds a_h_one_sweets a_h_one_settings a_h_one_heaps a_g1 a_g1_kinds a_g1_sweets a_g1_settings a_g1_heaps (r_children z_h_one) (r_strokes z_h_one) (r_gave z_h_one) (r_threw z_h_one) (r_kinds z_h_one) (r_sweets z_h_one) (r_settings z_h_one) (r_heaps z_h_one) (r_children z_g1) (r_strokes z_g1) (r_gave z_g1) (r_threw z_g1) (r_kinds z_g1) (r_sweets z_g1) (r_settings z_g1))) (wc' := (w_Ring_copyFrom cI cJ cC a_h_one a_h_one_kinds a_h_one_sweets a_h_one_settings a_h_one_heaps a_g1 a_g1_kinds a_g1_sweets a_g1_settings a_g1_heaps (r_children q1) (r_strokes q1) (r_gave q1) (r_threw q1) (r_kinds q1) (r_sweets q1) (r_settings q1) (r_heaps q1) (r_children z_g1) (r_strokes z_g1) (r_gave z_g1) (r_threw z_g1) (r_kinds z_g1) (r_sweets z_g1) (r_settings z_g1))) (ws' := (w_Mind_gaveMore cI cJ cC a_h a_h_one a_h_two a_h_one_kinds a_h_one_sweets a_h_one_settings a_h_one_heaps a_h_two_kinds a_h_two_sweets a_h_two_settings a_h_two_heaps a_g1 a_g1_kinds a_g1_sweets a_g1_settings a_g1_heaps y_h_seed (r_children q1) (r_strokes q1) (r_gave q1) (r_threw q1) (r_kinds q1) (r_sweets q1) (r_settings q1) (r_heaps q1) (r_children z_h_two) (r_strokes z_h_two) (r_gave z_h_two) (r_threw z_h_two) (r_kinds z_h_two) (r_sweets z_h_two) (r_settings z_h_two) (r_heaps z_h_two) (r_children z_g1) (r_strokes z_g1) (r_gave z_g1) (r_threw z_g1) (r_kinds z_g1) (r_sweets z_g1) (r_settings z_g1))) (As := [.ref a_g1]) (rest := []) hx hb hml hown hT (c_Ring_copyFrom (z_h := z_h_one) (z_g1 := z_g1) a_h_one a_h_one_kinds a_h_one_sweets a_h_one_settings a_h_one_heaps a_g1 a_g1_kinds a_g1_sweets a_g1_settings a_g1_heaps hq1) k_441 k_326 k_327 k_2 k_328 hd_Ring_copyFrom ⟨Nat.le_of_ble_eq_true rfl, Nat.le_of_ble_eq_true rfl⟩ xE0_ok trivial hA hK hP hD hS [1, 2, 3, 4, 5, 11, 12, 13, 14] [0, 6, 7, 8, 9, 10] [0, 6, 7, 8, 9, 10, 1, 2, 3, 4, 5, 11, 12, 13, 14] rfl rfl rfl rfl rfl rfl rfl rfl rfl rfl hl.1 rfl (Nat.le_of_ble_eq_true rfl) ⟨Nat.zero_le _, Nat.zero_le _⟩ d_Mind_gaveMore_5 (fun H locs hP hD hS => ?_)
  refine lv_aload_n hx hb d_Mind_gaveMore_8 rfl (lv_at hl 0 rfl) ?_
  refine va_get hx hb hT i_Mind hown hK hP 0 rfl rfl 1 (Nat.le_of_ble_eq_true rfl) (hT _ k_107) (fun _ h => h) rfl d_Mind_gaveMore_9 ?_
  refine lv_aload_n hx hb d_Mind_gaveMore_12 rfl (lv_at hl 1 rfl) ?_
  obtain ⟨q2, hq2, hf⟩ := io_b hf
  refine xcVV (wc := (w_Ring_copyFrom cI cJ cC a_h_two a_h_two_kinds a_h_two_sweets a_h_two_settings a_h_two_heaps a_g1 a_g1_kinds a_g1_sweets a_g1_settings a_g1_heaps (r_children z_h_two) (r_strokes z_h_two) (r_gave z_h_two) (r_threw z_h_two) (r_kinds z_h_two) (r_sweets z_h_two) (r_settings z_h_two) (r_heaps z_h_two) (r_children z_g1) (r_strokes z_g1) (r_gave z_g1) (r_threw z_g1) (r_kinds z_g1) (r_sweets z_g1) (r_settings z_g1))) (wc' := (w_Ring_copyFrom cI cJ cC a_h_two a_h_two_kinds a_h_two_sweets a_h_two_settings a_h_two_heaps a_g1 a_g1_kinds a_g1_sweets a_g1_settings a_g1_heaps (r_children q2) (r_strokes q2) (r_gave q2) (r_threw q2) (r_kinds q2) (r_sweets q2) (r_settings q2) (r_heaps q2) (r_children z_g1) (r_strokes z_g1) (r_gave z_g1) (r_threw z_g1) (r_kinds z_g1) (r_sweets z_g1) (r_settings z_g1))) (ws' := (w_Mind_gaveMore cI cJ cC a_h a_h_one a_h_two a_h_one_kinds a_h_one_sweets a_h_one_settings a_h_one_heaps a_h_two_kinds a_h_two_sweets a_h_two_settings a_h_two_heaps a_g1 a_g1_kinds a_g1_sweets a_g1_settings a_g1_heaps y_h_seed (r_children q1) (r_strokes q1) (r_gave q1) (r_threw q1) (r_kinds q1) (r_sweets q1) (r_settings q1) (r_heaps q1) (r_children q2) (r_strokes q2) (r_gave q2) (r_threw q2) (r_kinds q2) (r_sweets q2) (r_settings q2) (r_heaps q2) (r_children z_g1) (r_strokes z_g1) (r_gave z_g1) (r_threw z_g1) (r_kinds z_g1) (r_sweets z_g1) (r_settings z_g1))) (As := [.ref a_g1]) (rest := []) hx hb hml hown hT (c_Ring_copyFrom (z_h := z_h_two) (z_g1 := z_g1) a_h_two a_h_two_kinds a_h_two_sweets a_h_two_settings a_h_two_heaps a_g1 a_g1_kinds a_g1_sweets a_g1_settings a_g1_heaps hq2) k_441 k_326 k_327 k_2 k_328 hd_Ring_copyFrom ⟨Nat.le_of_ble_eq_true rfl, Nat.le_of_ble_eq_true rfl⟩ xE0_ok trivial hA hK hP hD hS [6, 7, 8, 9, 10, 11, 12, 13, 14] [0, 1, 2, 3, 4, 5] [0, 1, 2, 3, 4, 5, 6, 7, 8, 9, 10, 11, 12, 13, 14] rfl rfl rfl rfl rfl rfl rfl rfl rfl rfl hl.1 rfl (Nat.le_of_ble_eq_true rfl) ⟨Nat.zero_le _, Nat.zero_le _⟩ d_Mind_gaveMore_13 (fun H locs hP hD hS => ?_)
  refine lv_aload_n hx hb d_Mind_gaveMore_16 rfl (lv_at hl 0 rfl) ?_
  refine va_get hx hb hT i_Mind hown hK hP 0 rfl rfl 1 (Nat.le_of_ble_eq_true rfl) (hT _ k_107) (fun _ h => h) rfl d_Mind_gaveMore_17 ?_
  refine lv_iconst (v := 0) hx hb d_Mind_gaveMore_20 (by decide) ?_
  refine lv_iload_n hx hb d_Mind_gaveMore_21 rfl (lv_at hl 2 rfl) ?_
  obtain ⟨q3, hq3, hf⟩ := io_b hf
  refine xcVI (wc := (w_Ring_seatLast cI cJ cC a_h_two a_h_two_kinds a_h_two_sweets a_h_two_settings a_h_two_heaps (r_children q2) (r_strokes q2) (r_gave q2) (r_threw q2) (r_kinds q2) (r_sweets q2) (r_settings q2) (r_heaps q2))) (wc' := (w_Ring_seatLast cI cJ cC a_h_two a_h_two_kinds a_h_two_sweets a_h_two_settings a_h_two_heaps (r_children q3.2) (r_strokes q3.2) (r_gave q3.2) (r_threw q3.2) (r_kinds q3.2) (r_sweets q3.2) (r_settings q3.2) (r_heaps q3.2))) (ws' := (w_Mind_gaveMore cI cJ cC a_h a_h_one a_h_two a_h_one_kinds a_h_one_sweets a_h_one_settings a_h_one_heaps a_h_two_kinds a_h_two_sweets a_h_two_settings a_h_two_heaps a_g1 a_g1_kinds a_g1_sweets a_g1_settings a_g1_heaps y_h_seed (r_children q1) (r_strokes q1) (r_gave q1) (r_threw q1) (r_kinds q1) (r_sweets q1) (r_settings q1) (r_heaps q1) (r_children q3.2) (r_strokes q3.2) (r_gave q3.2) (r_threw q3.2) (r_kinds q3.2) (r_sweets q3.2) (r_settings q3.2) (r_heaps q3.2) (r_children z_g1) (r_strokes z_g1) (r_gave z_g1) (r_threw z_g1) (r_kinds z_g1) (r_sweets z_g1) (r_settings z_g1))) (As := [.int 0, .int x2]) (rest := []) hx hb hml hown hT (c_Ring_seatLast (z_h := q2) a_h_two a_h_two_kinds a_h_two_sweets a_h_two_settings a_h_two_heaps hq3) k_690 k_345 k_346 k_2 k_347 hd_Ring_seatLast ⟨Nat.le_of_ble_eq_true rfl, Nat.le_of_ble_eq_true rfl⟩ xE0_ok trivial hA hK hP hD hS [6, 7, 8, 9, 10] [0, 1, 2, 3, 4, 5, 11, 12, 13, 14] [0, 1, 2, 3, 4, 5, 10, 11, 12, 13, 14, 6, 7, 8, 9] rfl rfl rfl rfl rfl rfl rfl rfl rfl rfl hl.1 rfl (Nat.le_of_ble_eq_true rfl) ⟨Nat.zero_le _, Nat.zero_le _⟩ d_Mind_gaveMore_22 (fun H locs hP hD hS => ?_)
  refine lv_pop hx hb d_Mind_gaveMore_25 rfl ?_
  refine lv_aload_n hx hb d_Mind_gaveMore_26 rfl (lv_at hl 0 rfl) ?_
  refine va_get hx hb hT i_Mind hown hK hP 0 rfl rfl 0 (Nat.le_of_ble_eq_true rfl) (hT _ k_106) (fun _ h => h) rfl d_Mind_gaveMore_27 ?_
  refine lv_iload_n hx hb d_Mind_gaveMore_30 rfl (lv_at hl 3 rfl) ?_
  obtain ⟨q4, hq4, hf⟩ := io_b hf
  refine xcVV (wc := (w_Ring_strikeOften cI cJ cC a_h_one a_h_one_kinds a_h_one_sweets a_h_one_settings a_h_one_heaps (r_children q1) (r_strokes q1) (r_gave q1) (r_threw q1) (r_kinds q1) (r_sweets q1) (r_settings q1) (r_heaps q1))) (wc' := (w_Ring_strikeOften cI cJ cC a_h_one a_h_one_kinds a_h_one_sweets a_h_one_settings a_h_one_heaps (r_children q4) (r_strokes q4) (r_gave q4) (r_threw q4) (r_kinds q4) (r_sweets q4) (r_settings q4) (r_heaps q4))) (ws' := (w_Mind_gaveMore cI cJ cC a_h a_h_one a_h_two a_h_one_kinds a_h_one_sweets a_h_one_settings a_h_one_heaps a_h_two_kinds a_h_two_sweets a_h_two_settings a_h_two_heaps a_g1 a_g1_kinds a_g1_sweets a_g1_settings a_g1_heaps y_h_seed (r_children q4) (r_strokes q4) (r_gave q4) (r_threw q4) (r_kinds q4) (r_sweets q4) (r_settings q4) (r_heaps q4) (r_children q3.2) (r_strokes q3.2) (r_gave q3.2) (r_threw q3.2) (r_kinds q3.2) (r_sweets q3.2) (r_settings q3.2) (r_heaps q3.2) (r_children z_g1) (r_strokes z_g1) (r_gave z_g1) (r_threw z_g1) (r_kinds z_g1) (r_sweets z_g1) (r_settings z_g1))) (As := [.int x3]) (rest := []) hx hb hml hown hT (c_Ring_strikeOften (z_h := q1) a_h_one a_h_one_kinds a_h_one_sweets a_h_one_settings a_h_one_heaps hq4) k_442 k_443 k_444 k_2 k_445 hd_Ring_strikeOften ⟨Nat.le_of_ble_eq_true rfl, Nat.le_of_ble_eq_true rfl⟩ xE0_ok trivial hA hK hP hD hS [1, 2, 3, 4, 5] [0, 6, 7, 8, 9, 10, 11, 12, 13, 14] [0, 10, 11, 12, 13, 14, 1, 2, 3, 4, 5, 6, 7, 8, 9] rfl rfl rfl rfl rfl rfl rfl rfl rfl rfl hl.1 rfl (Nat.le_of_ble_eq_true rfl) ⟨Nat.zero_le _, Nat.zero_le _⟩ d_Mind_gaveMore_31 (fun H locs hP hD hS => ?_)
  refine lv_aload_n hx hb d_Mind_gaveMore_34 rfl (lv_at hl 0 rfl) ?_
  refine va_get hx hb hT i_Mind hown hK hP 0 rfl rfl 1 (Nat.le_of_ble_eq_true rfl) (hT _ k_107) (fun _ h => h) rfl d_Mind_gaveMore_35 ?_
  refine lv_iload_n hx hb d_Mind_gaveMore_38 rfl (lv_at hl 3 rfl) ?_
  obtain ⟨q5, hq5, hf⟩ := io_b hf
  refine xcVV (wc := (w_Ring_strikeOften cI cJ cC a_h_two a_h_two_kinds a_h_two_sweets a_h_two_settings a_h_two_heaps (r_children q3.2) (r_strokes q3.2) (r_gave q3.2) (r_threw q3.2) (r_kinds q3.2) (r_sweets q3.2) (r_settings q3.2) (r_heaps q3.2))) (wc' := (w_Ring_strikeOften cI cJ cC a_h_two a_h_two_kinds a_h_two_sweets a_h_two_settings a_h_two_heaps (r_children q5) (r_strokes q5) (r_gave q5) (r_threw q5) (r_kinds q5) (r_sweets q5) (r_settings q5) (r_heaps q5))) (ws' := (w_Mind_gaveMore cI cJ cC a_h a_h_one a_h_two a_h_one_kinds a_h_one_sweets a_h_one_settings a_h_one_heaps a_h_two_kinds a_h_two_sweets a_h_two_settings a_h_two_heaps a_g1 a_g1_kinds a_g1_sweets a_g1_settings a_g1_heaps y_h_seed (r_children q4) (r_strokes q4) (r_gave q4) (r_threw q4) (r_kinds q4) (r_sweets q4) (r_settings q4) (r_heaps q4) (r_children q5) (r_strokes q5) (r_gave q5) (r_threw q5) (r_kinds q5) (r_sweets q5) (r_settings q5) (r_heaps q5) (r_children z_g1) (r_strokes z_g1) (r_gave z_g1) (r_threw z_g1) (r_kinds z_g1) (r_sweets z_g1) (r_settings z_g1))) (As := [.int x3]) (rest := []) hx hb hml hown hT (c_Ring_strikeOften (z_h := q3.2) a_h_two a_h_two_kinds a_h_two_sweets a_h_two_settings a_h_two_heaps hq5) k_442 k_443 k_444 k_2 k_445 hd_Ring_strikeOften ⟨Nat.le_of_ble_eq_true rfl, Nat.le_of_ble_eq_true rfl⟩ xE0_ok trivial hA hK hP hD hS [6, 7, 8, 9, 10] [0, 1, 2, 3, 4, 5, 11, 12, 13, 14] [0, 1, 2, 3, 4, 5, 10, 11, 12, 13, 14, 6, 7, 8, 9] rfl rfl rfl rfl rfl rfl rfl rfl rfl rfl hl.1 rfl (Nat.le_of_ble_eq_true rfl) ⟨Nat.zero_le _, Nat.zero_le _⟩ d_Mind_gaveMore_39 (fun H locs hP hD hS => ?_)
  refine lv_aload_n hx hb d_Mind_gaveMore_42 rfl (lv_at hl 0 rfl) ?_
  refine va_get hx hb hT i_Mind hown hK hP 0 rfl rfl 1 (Nat.le_of_ble_eq_true rfl) (hT _ k_107) (fun _ h => h) rfl d_Mind_gaveMore_43 ?_
  refine va_get hx hb hT i_Ring hown hK hP 6 rfl rfl 5 (Nat.le_of_ble_eq_true rfl) (hT _ k_53) (fun _ h => h) rfl d_Mind_gaveMore_46 ?_
  refine lv_aload_n hx hb d_Mind_gaveMore_49 rfl (lv_at hl 0 rfl) ?_
  refine va_get hx hb hT i_Mind hown hK hP 0 rfl rfl 0 (Nat.le_of_ble_eq_true rfl) (hT _ k_106) (fun _ h => h) rfl d_Mind_gaveMore_50 ?_
  refine va_get hx hb hT i_Ring hown hK hP 1 rfl rfl 5 (Nat.le_of_ble_eq_true rfl) (hT _ k_53) (fun _ h => h) rfl d_Mind_gaveMore_53 ?_
  refine lv_isub hx hb d_Mind_gaveMore_56 ?_
  have hq := Option.some.inj hf
  subst hq
  exact hret _ _ _ _ _ d_Mind_gaveMore_57 rfl rfl hP hD hS
abbrev w_Mind_leastBegun (cI cJ cC : ClassId) (a_h a_h_one a_h_two a_h_one_kinds a_h_one_sweets a_h_one_settings a_h_one_heaps a_g1 a_g1_kinds a_g1_sweets a_g1_settings a_g1_heaps : Nat) (y_h_seed : Int32) (p_h_one_children : Int32) (p_h_one_strokes : Int32) (p_h_one_gave : Int32) (p_h_one_threw : Int32) (p_h_one_kinds : (Nat → Int32)) (p_h_one_sweets : (Nat → Int32)) (p_h_one_settings : (Nat → Int32)) (p_h_one_heaps : (Nat → Int32)) (p_g1_children : Int32) (p_g1_strokes : Int32) (p_g1_gave : Int32) (p_g1_threw : Int32) (p_g1_kinds : (Nat → Int32)) (p_g1_sweets : (Nat → Int32)) (p_g1_settings : (Nat → Int32)) : va_W := [(a_h, .inr (3, [.ref a_h_one, .ref a_h_two, .int y_h_seed])), (a_h_one, .inr (1, [.ref a_h_one_kinds, .ref a_h_one_sweets, .ref a_h_one_settings, .int p_h_one_children, .int p_h_one_strokes, .int p_h_one_gave, .int p_h_one_threw, .ref a_h_one_heaps])), (a_h_one_kinds, .inl (cI, (8, .inl p_h_one_kinds))), (a_h_one_sweets, .inl (cI, (8, .inl p_h_one_sweets))), (a_h_one_settings, .inl (cI, (3, .inl p_h_one_settings))), (a_h_one_heaps, .inl (cI, (8, .inl p_h_one_heaps))), (a_g1, .inr (1, [.ref a_g1_kinds, .ref a_g1_sweets, .ref a_g1_settings, .int p_g1_children, .int p_g1_strokes, .int p_g1_gave, .int p_g1_threw, .ref a_g1_heaps])), (a_g1_kinds, .inl (cI, (8, .inl p_g1_kinds))), (a_g1_sweets, .inl (cI, (8, .inl p_g1_sweets))), (a_g1_settings, .inl (cI, (3, .inl p_g1_settings)))]
theorem d_Mind_leastBegun_0 : decode b_Mind_leastBegun 0 = .ok (.iconst 0, 1) := by decide +kernel
theorem d_Mind_leastBegun_1 : decode b_Mind_leastBegun 1 = .ok (.istore_n 3, 1) := by decide +kernel
theorem d_Mind_leastBegun_2 : decode b_Mind_leastBegun 2 = .ok (.iload_n 3, 1) := by decide +kernel
theorem d_Mind_leastBegun_3 : decode b_Mind_leastBegun 3 = .ok (.bipush 99, 2) := by decide +kernel
theorem d_Mind_leastBegun_5 : decode b_Mind_leastBegun 5 = .ok (.if_icmp .gt 64, 3) := by decide +kernel
theorem d_Mind_leastBegun_8 : decode b_Mind_leastBegun 8 = .ok (.aload_n 0, 1) := by decide +kernel
theorem d_Mind_leastBegun_9 : decode b_Mind_leastBegun 9 = .ok (.getfield 12, 3) := by decide +kernel
theorem d_Mind_leastBegun_12 : decode b_Mind_leastBegun 12 = .ok (.aload_n 1, 1) := by decide +kernel
theorem d_Mind_leastBegun_13 : decode b_Mind_leastBegun 13 = .ok (.invokevirtual 25, 3) := by decide +kernel
theorem d_Mind_leastBegun_16 : decode b_Mind_leastBegun 16 = .ok (.iconst 1, 1) := by decide +kernel
theorem d_Mind_leastBegun_17 : decode b_Mind_leastBegun 17 = .ok (.istore 4, 2) := by decide +kernel
theorem d_Mind_leastBegun_19 : decode b_Mind_leastBegun 19 = .ok (.iload 4, 2) := by decide +kernel
theorem d_Mind_leastBegun_21 : decode b_Mind_leastBegun 21 = .ok (.aload_n 0, 1) := by decide +kernel
theorem d_Mind_leastBegun_22 : decode b_Mind_leastBegun 22 = .ok (.getfield 12, 3) := by decide +kernel
theorem d_Mind_leastBegun_25 : decode b_Mind_leastBegun 25 = .ok (.getfield 74, 3) := by decide +kernel
theorem d_Mind_leastBegun_28 : decode b_Mind_leastBegun 28 = .ok (.if_icmp .ge 20, 3) := by decide +kernel
theorem d_Mind_leastBegun_31 : decode b_Mind_leastBegun 31 = .ok (.aload_n 0, 1) := by decide +kernel
theorem d_Mind_leastBegun_32 : decode b_Mind_leastBegun 32 = .ok (.getfield 12, 3) := by decide +kernel
theorem d_Mind_leastBegun_35 : decode b_Mind_leastBegun 35 = .ok (.getfield 33, 3) := by decide +kernel
theorem d_Mind_leastBegun_38 : decode b_Mind_leastBegun 38 = .ok (.iload 4, 2) := by decide +kernel
theorem d_Mind_leastBegun_40 : decode b_Mind_leastBegun 40 = .ok (.iload_n 3, 1) := by decide +kernel
theorem d_Mind_leastBegun_41 : decode b_Mind_leastBegun 41 = .ok (.iastore, 1) := by decide +kernel
theorem d_Mind_leastBegun_42 : decode b_Mind_leastBegun 42 = .ok (.iinc 4 1, 3) := by decide +kernel
theorem d_Mind_leastBegun_45 : decode b_Mind_leastBegun 45 = .ok (.goto (-26), 3) := by decide +kernel
theorem d_Mind_leastBegun_48 : decode b_Mind_leastBegun 48 = .ok (.aload_n 0, 1) := by decide +kernel
theorem d_Mind_leastBegun_49 : decode b_Mind_leastBegun 49 = .ok (.getfield 12, 3) := by decide +kernel
theorem d_Mind_leastBegun_52 : decode b_Mind_leastBegun 52 = .ok (.iload_n 2, 1) := by decide +kernel
theorem d_Mind_leastBegun_53 : decode b_Mind_leastBegun 53 = .ok (.invokestatic 51, 3) := by decide +kernel
theorem d_Mind_leastBegun_56 : decode b_Mind_leastBegun 56 = .ok (.bipush (-9), 2) := by decide +kernel
theorem d_Mind_leastBegun_58 : decode b_Mind_leastBegun 58 = .ok (.if_icmp .eq 5, 3) := by decide +kernel
theorem d_Mind_leastBegun_61 : decode b_Mind_leastBegun 61 = .ok (.iload_n 3, 1) := by decide +kernel
theorem d_Mind_leastBegun_62 : decode b_Mind_leastBegun 62 = .ok (.ireturn, 1) := by decide +kernel
theorem d_Mind_leastBegun_63 : decode b_Mind_leastBegun 63 = .ok (.iinc 3 1, 3) := by decide +kernel
theorem d_Mind_leastBegun_66 : decode b_Mind_leastBegun 66 = .ok (.goto (-64), 3) := by decide +kernel
theorem d_Mind_leastBegun_69 : decode b_Mind_leastBegun 69 = .ok (.bipush (-9), 2) := by decide +kernel
theorem d_Mind_leastBegun_71 : decode b_Mind_leastBegun 71 = .ok (.ireturn, 1) := by decide +kernel
set_option maxHeartbeats 4000000 in
set_option maxRecDepth 100000 in
theorem c_Mind_leastBegun {l : Launch} {D : va_G} {cI cJ cC : ClassId} (a_h a_h_one a_h_two a_h_one_kinds a_h_one_sweets a_h_one_settings a_h_one_heaps a_g1 a_g1_kinds a_g1_sweets a_g1_settings a_g1_heaps : Nat) (y_h_seed : Int32) {z_h_one : RS} {z_g1 : RS} {x2 : Int32} {q : Int32 × RS} (hf : f_Mind_leastBegun z_h_one z_g1 x2 = some q) : xI l y_Mind_leastBegun b_Mind_leastBegun 5 .int 5 111 D (tyK cI cJ cC) xE0 [.ref a_h, .ref a_g1, .int x2] (w_Mind_leastBegun cI cJ cC a_h a_h_one a_h_two a_h_one_kinds a_h_one_sweets a_h_one_settings a_h_one_heaps a_g1 a_g1_kinds a_g1_sweets a_g1_settings a_g1_heaps y_h_seed (r_children z_h_one) (r_strokes z_h_one) (r_gave z_h_one) (r_threw z_h_one) (r_kinds z_h_one) (r_sweets z_h_one) (r_settings z_h_one) (r_heaps z_h_one) (r_children z_g1) (r_strokes z_g1) (r_gave z_g1) (r_threw z_g1) (r_kinds z_g1) (r_sweets z_g1) (r_settings z_g1)) q.1 (w_Mind_leastBegun cI cJ cC a_h a_h_one a_h_two a_h_one_kinds a_h_one_sweets a_h_one_settings a_h_one_heaps a_g1 a_g1_kinds a_g1_sweets a_g1_settings a_g1_heaps y_h_seed (r_children q.2) (r_strokes q.2) (r_gave q.2) (r_threw q.2) (r_kinds q.2) (r_sweets q.2) (r_settings q.2) (r_heaps q.2) (r_children z_g1) (r_strokes z_g1) (r_gave z_g1) (r_threw z_g1) (r_kinds z_g1) (r_sweets z_g1) (r_settings z_g1)) := by
  refine xI_of (by decide) (Nat.le_of_ble_eq_true rfl) ?_
  intro p e s m args below meth c A Q hx hb hml hown hT hA hP hD hK hS hE hret ls hl
  have hown : s.vm.findClass R_Mind = some m.cls := hown
  have hl : lv_has ls 5 [(0, .ref a_h), (1, .ref a_g1), (2, .int x2)] := hl
  unfold f_Mind_leastBegun at hf
  have L19 : ∀ (x3 : Int32) (k : RS → Option (Int32 × RS)), (∀ (z_h_one : RS) (H : Heap) (locs : List Loc) (ls : Array Slot), k z_h_one = some q → va_P D classes (w_Mind_leastBegun cI cJ cC a_h a_h_one a_h_two a_h_one_kinds a_h_one_sweets a_h_one_settings a_h_one_heaps a_g1 a_g1_kinds a_g1_sweets a_g1_settings a_g1_heaps y_h_seed (r_children z_h_one) (r_strokes z_h_one) (r_gave z_h_one) (r_threw z_h_one) (r_kinds z_h_one) (r_sweets z_h_one) (r_settings z_h_one) (r_heaps z_h_one) (r_children z_g1) (r_strokes z_g1) (r_gave z_g1) (r_threw z_g1) (r_kinds z_g1) (r_sweets z_g1) (r_settings z_g1)) H → va_D A (w_Mind_leastBegun cI cJ cC a_h a_h_one a_h_two a_h_one_kinds a_h_one_sweets a_h_one_settings a_h_one_heaps a_g1 a_g1_kinds a_g1_sweets a_g1_settings a_g1_heaps y_h_seed (r_children z_h_one) (r_strokes z_h_one) (r_gave z_h_one) (r_threw z_h_one) (r_kinds z_h_one) (r_sweets z_h_one) (r_settings z_h_one) (r_heaps z_h_one) (r_children z_g1) (r_strokes z_g1) (r_gave z_g1) (r_threw z_g1) (r_kinds z_g1) (r_sweets z_g1) (r_settings z_g1)) → va_S A s.heap H locs → lv_has ls 5 [(0, .ref a_h), (1, .ref a_g1), (2, .int x2), (3, .int x3)] → W p l e (xRm 5 111) s m args below meth c H locs 0 0 Q (F0 m 48 ls [])) → ∀ (n : Nat) (z_h_one : RS) (x4 : Int32) (H : Heap) (locs : List Loc) (ls : Array Slot), f_Mind_leastBegun_L19 x3 k n z_h_one x4 = some q → va_P D classes (w_Mind_leastBegun cI cJ cC a_h a_h_one a_h_two a_h_one_kinds a_h_one_sweets a_h_one_settings a_h_one_heaps a_g1 a_g1_kinds a_g1_sweets a_g1_settings a_g1_heaps y_h_seed (r_children z_h_one) (r_strokes z_h_one) (r_gave z_h_one) (r_threw z_h_one) (r_kinds z_h_one) (r_sweets z_h_one) (r_settings z_h_one) (r_heaps z_h_one) (r_children z_g1) (r_strokes z_g1) (r_gave z_g1) (r_threw z_g1) (r_kinds z_g1) (r_sweets z_g1) (r_settings z_g1)) H → va_D A (w_Mind_leastBegun cI cJ cC a_h a_h_one a_h_two a_h_one_kinds a_h_one_sweets a_h_one_settings a_h_one_heaps a_g1 a_g1_kinds a_g1_sweets a_g1_settings a_g1_heaps y_h_seed (r_children z_h_one) (r_strokes z_h_one) (r_gave z_h_one) (r_threw z_h_one) (r_kinds z_h_one) (r_sweets z_h_one) (r_settings z_h_one) (r_heaps z_h_one) (r_children z_g1) (r_strokes z_g1) (r_gave z_g1) (r_threw z_g1) (r_kinds z_g1) (r_sweets z_g1) (r_settings z_g1)) → va_S A s.heap H locs → lv_has ls 5 [(0, .ref a_h), (1, .ref a_g1), (2, .int x2), (3, .int x3), (4, .int x4)] → W p l e (xRm 5 111) s m args below meth c H locs 0 0 Q (F0 m 19 ls []) := by
    intro x3 k hk n
    induction n with
    | zero => intro z_h_one x4 H locs ls hf hP hD hS hl; exact nomatch (show (none : Option (Int32 × RS)) = some q from hf)
    | succ n ih =>
      intro z_h_one x4 H locs ls hf hP hD hS hl
      refine lv_iload hx hb d_Mind_leastBegun_19 (lv_at hl 4 rfl) ?_
      refine lv_aload_n hx hb d_Mind_leastBegun_21 rfl (lv_at hl 0 rfl) ?_
      refine va_get hx hb hT i_Mind hown hK hP 0 rfl rfl 0 (Nat.le_of_ble_eq_true rfl) (hT _ k_106) (fun _ h => h) rfl d_Mind_leastBegun_22 ?_
      refine va_get hx hb hT i_Ring hown hK hP 1 rfl rfl 3 (Nat.le_of_ble_eq_true rfl) (hT _ k_49) (fun _ h => h) rfl d_Mind_leastBegun_25 ?_
      refine lv_icmp_ge (tgt := 48) hx hb d_Mind_leastBegun_28 (by decide) (fun c3 => ?_) (fun c3 => ?_)
      · have hf := io_t hf c3
        exact hk z_h_one _ _ _ hf hP hD hS (lv_sub hl [0, 1, 2, 3] rfl)
      · have hf := io_f hf c3
        refine lv_aload_n hx hb d_Mind_leastBegun_31 rfl (lv_at hl 0 rfl) ?_
        refine va_get hx hb hT i_Mind hown hK hP 0 rfl rfl 0 (Nat.le_of_ble_eq_true rfl) (hT _ k_106) (fun _ h => h) rfl d_Mind_leastBegun_32 ?_
        refine va_get hx hb hT i_Ring hown hK hP 1 rfl rfl 1 (Nat.le_of_ble_eq_true rfl) (hT _ k_36) (fun _ h => h) rfl d_Mind_leastBegun_35 ?_
        refine lv_iload hx hb d_Mind_leastBegun_38 (lv_at hl 4 rfl) ?_
        refine lv_iload_n hx hb d_Mind_leastBegun_40 rfl (lv_at hl 3 rfl) ?_
        obtain ⟨c4, hf⟩ := io_n hf
        refine x_iast hx hb hK hP hD hS 3 0 rfl rfl (j := x4.toNatClampNeg) rfl c4 d_Mind_leastBegun_41 (fun H locs hP hD hS => ?_)
        have hP : va_P D classes (w_Mind_leastBegun cI cJ cC a_h a_h_one a_h_two a_h_one_kinds a_h_one_sweets a_h_one_settings a_h_one_heaps a_g1 a_g1_kinds a_g1_sweets a_g1_settings a_g1_heaps y_h_seed (r_children z_h_one) (r_strokes z_h_one) (r_gave z_h_one) (r_threw z_h_one) (r_kinds z_h_one) (upd (r_sweets z_h_one) x4.toNatClampNeg x3) (r_settings z_h_one) (r_heaps z_h_one) (r_children z_g1) (r_strokes z_g1) (r_gave z_g1) (r_threw z_g1) (r_kinds z_g1) (r_sweets z_g1) (r_settings z_g1)) H := hP
        have hD : va_D A (w_Mind_leastBegun cI cJ cC a_h a_h_one a_h_two a_h_one_kinds a_h_one_sweets a_h_one_settings a_h_one_heaps a_g1 a_g1_kinds a_g1_sweets a_g1_settings a_g1_heaps y_h_seed (r_children z_h_one) (r_strokes z_h_one) (r_gave z_h_one) (r_threw z_h_one) (r_kinds z_h_one) (upd (r_sweets z_h_one) x4.toNatClampNeg x3) (r_settings z_h_one) (r_heaps z_h_one) (r_children z_g1) (r_strokes z_g1) (r_gave z_g1) (r_threw z_g1) (r_kinds z_g1) (r_sweets z_g1) (r_settings z_g1)) := hD
        refine lv_iinc (v := (x4 + 1)) (lv' := [(4, .int (x4 + 1)), (0, .ref a_h), (1, .ref a_g1), (2, .int x2), (3, .int x3)]) hx hb d_Mind_leastBegun_42 hl (k := 4) rfl (by rfl) (by decide) rfl (fun ls hl => ?_)
        refine lv_goto (tgt := 19) hx hb d_Mind_leastBegun_45 (by decide) ?_
        exact ih ((r_kinds z_h_one), (upd (r_sweets z_h_one) x4.toNatClampNeg x3), (r_settings z_h_one), (r_heaps z_h_one), (r_children z_h_one), (r_strokes z_h_one), (r_gave z_h_one), (r_threw z_h_one)) (x4 + 1) _ _ _ hf hP hD hS (lv_sub hl [1, 2, 3, 4, 0] rfl)
  have L2 : ∀ (n : Nat) (z_h_one : RS) (x3 : Int32) (H : Heap) (locs : List Loc) (ls : Array Slot), f_Mind_leastBegun_L2 z_g1 x2 n z_h_one x3 = some q → va_P D classes (w_Mind_leastBegun cI cJ cC a_h a_h_one a_h_two a_h_one_kinds a_h_one_sweets a_h_one_settings a_h_one_heaps a_g1 a_g1_kinds a_g1_sweets a_g1_settings a_g1_heaps y_h_seed (r_children z_h_one) (r_strokes z_h_one) (r_gave z_h_one) (r_threw z_h_one) (r_kinds z_h_one) (r_sweets z_h_one) (r_settings z_h_one) (r_heaps z_h_one) (r_children z_g1) (r_strokes z_g1) (r_gave z_g1) (r_threw z_g1) (r_kinds z_g1) (r_sweets z_g1) (r_settings z_g1)) H → va_D A (w_Mind_leastBegun cI cJ cC a_h a_h_one a_h_two a_h_one_kinds a_h_one_sweets a_h_one_settings a_h_one_heaps a_g1 a_g1_kinds a_g1_sweets a_g1_settings a_g1_heaps y_h_seed (r_children z_h_one) (r_strokes z_h_one) (r_gave z_h_one) (r_threw z_h_one) (r_kinds z_h_one) (r_sweets z_h_one) (r_settings z_h_one) (r_heaps z_h_one) (r_children z_g1) (r_strokes z_g1) (r_gave z_g1) (r_threw z_g1) (r_kinds z_g1) (r_sweets z_g1) (r_settings z_g1)) → va_S A s.heap H locs → lv_has ls 5 [(0, .ref a_h), (1, .ref a_g1), (2, .int x2), (3, .int x3)] → W p l e (xRm 5 111) s m args below meth c H locs 0 0 Q (F0 m 2 ls []) := by
    intro n
    induction n with
    | zero => intro z_h_one x3 H locs ls hf hP hD hS hl; exact nomatch (show (none : Option (Int32 × RS)) = some q from hf)
    | succ n ih =>
      intro z_h_one x3 H locs ls hf hP hD hS hl
      refine lv_iload_n hx hb d_Mind_leastBegun_2 rfl (lv_at hl 3 rfl) ?_
      refine lv_bipush (v := 99) hx hb d_Mind_leastBegun_3 (by decide) ?_
      refine lv_icmp_gt (tgt := 69) hx hb d_Mind_leastBegun_5 (by decide) (fun c1 => ?_) (fun c1 => ?_)
      · have hf := io_t hf c1
        refine lv_bipush (v := (-9)) hx hb d_Mind_leastBegun_69 (by decide) ?_
        have hq := Option.some.inj hf
        subst hq
        exact hret _ _ _ _ _ d_Mind_leastBegun_71 rfl rfl hP hD hS
      · have hf := io_f hf c1
        refine lv_aload_n hx hb d_Mind_leastBegun_8 rfl (lv_at hl 0 rfl) ?_
        refine va_get hx hb hT i_Mind hown hK hP 0 rfl rfl 0 (Nat.le_of_ble_eq_true rfl) (hT _ k_106) (fun _ h => h) rfl d_Mind_leastBegun_9 ?_
        refine lv_aload_n hx hb d_Mind_leastBegun_12 rfl (lv_at hl 1 rfl) ?_
        obtain ⟨q2, hq2, hf⟩ := io_b hf
        refine xcVV (wc := (w_Ring_copyFrom cI cJ cC a_h_one a_h_one_kinds a_h_one_sweets a_h_one_settings a_h_one_heaps a_g1 a_g1_kinds a_g1_sweets a_g1_settings a_g1_heaps (r_children z_h_one) (r_strokes z_h_one) (r_gave z_h_one) (r_threw z_h_one) (r_kinds z_h_one) (r_sweets z_h_one) (r_settings z_h_one) (r_heaps z_h_one) (r_children z_g1) (r_strokes z_g1) (r_gave z_g1) (r_threw z_g1) (r_kinds z_g1) (r_sweets z_g1) (r_settings z_g1))) (wc' := (w_Ring_copyFrom cI cJ cC a_h_one a_h_one_kinds a_h_one_sweets a_h_one_settings a_h_one_heaps a_g1 a_g1_kinds a_g1_sweets a_g1_settings a_g1_heaps (r_children q2) (r_strokes q2) (r_gave q2) (r_threw q2) (r_kinds q2) (r_sweets q2) (r_settings q2) (r_heaps q2) (r_children z_g1) (r_strokes z_g1) (r_gave z_g1) (r_threw z_g1) (r_kinds z_g1) (r_sweets z_g1) (r_settings z_g1))) (ws' := (w_Mind_leastBegun cI cJ cC a_h a_h_one a_h_two a_h_one_kinds a_h_one_sweets a_h_one_settings a_h_one_heaps a_g1 a_g1_kinds a_g1_sweets a_g1_settings a_g1_heaps y_h_seed (r_children q2) (r_strokes q2) (r_gave q2) (r_threw q2) (r_kinds q2) (r_sweets q2) (r_settings q2) (r_heaps q2) (r_children z_g1) (r_strokes z_g1) (r_gave z_g1) (r_threw z_g1) (r_kinds z_g1) (r_sweets z_g1) (r_settings z_g1))) (As := [.ref a_g1]) (rest := []) hx hb hml hown hT (c_Ring_copyFrom (z_h := z_h_one) (z_g1 := z_g1) a_h_one a_h_one_kinds a_h_one_sweets a_h_one_settings a_h_one_heaps a_g1 a_g1_kinds a_g1_sweets a_g1_settings a_g1_heaps hq2) k_441 k_326 k_327 k_2 k_328 hd_Ring_copyFrom ⟨Nat.le_of_ble_eq_true rfl, Nat.le_of_ble_eq_true rfl⟩ xE0_ok trivial hA hK hP hD hS [1, 2, 3, 4, 5, 6, 7, 8, 9] [0] [0, 1, 2, 3, 4, 5, 6, 7, 8, 9] rfl rfl rfl rfl rfl rfl rfl rfl rfl rfl hl.1 rfl (Nat.le_of_ble_eq_true rfl) ⟨Nat.zero_le _, Nat.zero_le _⟩ d_Mind_leastBegun_13 (fun H locs hP hD hS => ?_)
        refine lv_iconst (v := 1) hx hb d_Mind_leastBegun_16 (by decide) ?_
        refine lv_istore (lv' := [(4, .int 1), (0, .ref a_h), (1, .ref a_g1), (2, .int x2), (3, .int x3)]) hx hb d_Mind_leastBegun_17 hl (by decide) rfl (fun ls hl => ?_)
        refine L19 x3 _ (fun z_h_one_5 H locs ls hf hP hD hS hl => ?_) FU q2 1 _ _ _ hf hP hD hS (lv_sub hl [1, 2, 3, 4, 0] rfl)
        refine lv_aload_n hx hb d_Mind_leastBegun_48 rfl (lv_at hl 0 rfl) ?_
        refine va_get hx hb hT i_Mind hown hK hP 0 rfl rfl 0 (Nat.le_of_ble_eq_true rfl) (hT _ k_106) (fun _ h => h) rfl d_Mind_leastBegun_49 ?_
        refine lv_iload_n hx hb d_Mind_leastBegun_52 rfl (lv_at hl 2 rfl) ?_
        obtain ⟨q6, hq6, hf⟩ := io_b hf
        refine xcSI (wc := (w_Mind_alikeWithin cI cJ cC a_h_one a_h_one_kinds a_h_one_sweets a_h_one_settings a_h_one_heaps (r_children z_h_one_5) (r_strokes z_h_one_5) (r_gave z_h_one_5) (r_threw z_h_one_5) (r_kinds z_h_one_5) (r_sweets z_h_one_5) (r_settings z_h_one_5) (r_heaps z_h_one_5))) (wc' := (w_Mind_alikeWithin cI cJ cC a_h_one a_h_one_kinds a_h_one_sweets a_h_one_settings a_h_one_heaps (r_children q6.2) (r_strokes q6.2) (r_gave q6.2) (r_threw q6.2) (r_kinds q6.2) (r_sweets q6.2) (r_settings q6.2) (r_heaps q6.2))) (ws' := (w_Mind_leastBegun cI cJ cC a_h a_h_one a_h_two a_h_one_kinds a_h_one_sweets a_h_one_settings a_h_one_heaps a_g1 a_g1_kinds a_g1_sweets a_g1_settings a_g1_heaps y_h_seed (r_children q6.2) (r_strokes q6.2) (r_gave q6.2) (r_threw q6.2) (r_kinds q6.2) (r_sweets q6.2) (r_settings q6.2) (r_heaps q6.2) (r_children z_g1) (r_strokes z_g1) (r_gave z_g1) (r_threw z_g1) (r_kinds z_g1) (r_sweets z_g1) (r_settings z_g1))) (As := [.ref a_h_one, .int x2]) (rest := []) hx hb hml hown hT (c_Mind_alikeWithin (z_g0 := z_h_one_5) a_h_one a_h_one_kinds a_h_one_sweets a_h_one_settings a_h_one_heaps hq6) k_483 k_484 k_4 k_485 hd_Mind_alikeWithin ⟨Nat.le_of_ble_eq_true rfl, Nat.le_of_ble_eq_true rfl⟩ xE0_ok trivial hA hK hP hD hS [1, 2, 3, 4, 5] [0, 6, 7, 8, 9] [0, 5, 6, 7, 8, 9, 1, 2, 3, 4] rfl rfl rfl rfl rfl rfl rfl hl.1 rfl (Nat.le_of_ble_eq_true rfl) ⟨Nat.zero_le _, Nat.zero_le _⟩ d_Mind_leastBegun_53 (fun H locs hP hD hS => ?_)
        refine lv_bipush (v := (-9)) hx hb d_Mind_leastBegun_56 (by decide) ?_
        refine lv_icmp_eq (tgt := 63) hx hb d_Mind_leastBegun_58 (by decide) (fun c7 => ?_) (fun c7 => ?_)
        · have hf := io_t hf c7
          refine lv_iinc (v := (x3 + 1)) (lv' := [(3, .int (x3 + 1)), (0, .ref a_h), (1, .ref a_g1), (2, .int x2)]) hx hb d_Mind_leastBegun_63 hl (k := 3) rfl (by rfl) (by decide) rfl (fun ls hl => ?_)
          refine lv_goto (tgt := 2) hx hb d_Mind_leastBegun_66 (by decide) ?_
          exact ih q6.2 (x3 + 1) _ _ _ hf hP hD hS (lv_sub hl [1, 2, 3, 0] rfl)
        · have hf := io_f hf c7
          refine lv_iload_n hx hb d_Mind_leastBegun_61 rfl (lv_at hl 3 rfl) ?_
          have hq := Option.some.inj hf
          subst hq
          exact hret _ _ _ _ _ d_Mind_leastBegun_62 rfl rfl hP hD hS
  refine lv_iconst (v := 0) hx hb d_Mind_leastBegun_0 (by decide) ?_
  refine lv_istore_n (lv' := [(3, .int 0), (0, .ref a_h), (1, .ref a_g1), (2, .int x2)]) hx hb d_Mind_leastBegun_1 rfl hl (by decide) rfl (fun ls hl => ?_)
  exact L2 FU z_h_one 0 _ _ _ hf hP hD hS (lv_sub hl [1, 2, 3, 0] rfl)
abbrev w_Mind_draw (cI cJ cC : ClassId) (a_h a_h_one a_h_two : Nat) (p_h_seed : Int32) : va_W := [(a_h, .inr (3, [.ref a_h_one, .ref a_h_two, .int p_h_seed]))]
theorem d_Mind_draw_0 : decode b_Mind_draw 0 = .ok (.aload_n 0, 1) := by decide +kernel
theorem d_Mind_draw_1 : decode b_Mind_draw 1 = .ok (.aload_n 0, 1) := by decide +kernel
theorem d_Mind_draw_2 : decode b_Mind_draw 2 = .ok (.getfield 21, 3) := by decide +kernel
theorem d_Mind_draw_5 : decode b_Mind_draw 5 = .ok (.ldc 89, 2) := by decide +kernel
theorem d_Mind_draw_7 : decode b_Mind_draw 7 = .ok (.imul, 1) := by decide +kernel
theorem d_Mind_draw_8 : decode b_Mind_draw 8 = .ok (.sipush 12345, 3) := by decide +kernel
theorem d_Mind_draw_11 : decode b_Mind_draw 11 = .ok (.iadd, 1) := by decide +kernel
theorem d_Mind_draw_12 : decode b_Mind_draw 12 = .ok (.putfield 21, 3) := by decide +kernel
theorem d_Mind_draw_15 : decode b_Mind_draw 15 = .ok (.iload_n 1, 1) := by decide +kernel
theorem d_Mind_draw_16 : decode b_Mind_draw 16 = .ok (.iconst 1, 1) := by decide +kernel
theorem d_Mind_draw_17 : decode b_Mind_draw 17 = .ok (.if_icmp .ge 7, 3) := by decide +kernel
theorem d_Mind_draw_20 : decode b_Mind_draw 20 = .ok (.iconst 0, 1) := by decide +kernel
theorem d_Mind_draw_21 : decode b_Mind_draw 21 = .ok (.goto 15, 3) := by decide +kernel
theorem d_Mind_draw_24 : decode b_Mind_draw 24 = .ok (.aload_n 0, 1) := by decide +kernel
theorem d_Mind_draw_25 : decode b_Mind_draw 25 = .ok (.getfield 21, 3) := by decide +kernel
theorem d_Mind_draw_28 : decode b_Mind_draw 28 = .ok (.ldc 90, 2) := by decide +kernel
theorem d_Mind_draw_30 : decode b_Mind_draw 30 = .ok (.iand, 1) := by decide +kernel
theorem d_Mind_draw_31 : decode b_Mind_draw 31 = .ok (.ldc 91, 2) := by decide +kernel
theorem d_Mind_draw_33 : decode b_Mind_draw 33 = .ok (.idiv, 1) := by decide +kernel
theorem d_Mind_draw_34 : decode b_Mind_draw 34 = .ok (.iload_n 1, 1) := by decide +kernel
theorem d_Mind_draw_35 : decode b_Mind_draw 35 = .ok (.irem, 1) := by decide +kernel
theorem d_Mind_draw_36 : decode b_Mind_draw 36 = .ok (.ireturn, 1) := by decide +kernel
set_option maxHeartbeats 4000000 in
set_option maxRecDepth 100000 in
theorem c_Mind_draw {l : Launch} {D : va_G} {cI cJ cC : ClassId} (a_h a_h_one a_h_two : Nat) {z_h_seed : Int32} {x1 : Int32} {q : Int32 × Int32} (hf : f_Mind_draw z_h_seed x1 = some q) : xI l y_Mind_draw b_Mind_draw 2 .int 0 0 D (tyK cI cJ cC) xE0 [.ref a_h, .int x1] (w_Mind_draw cI cJ cC a_h a_h_one a_h_two z_h_seed) q.1 (w_Mind_draw cI cJ cC a_h a_h_one a_h_two q.2) := by
  refine xI_of (by decide) (Nat.le_of_ble_eq_true rfl) ?_
  intro p e s m args below meth c A Q hx hb hml hown hT hA hP hD hK hS hE hret ls hl
  have hown : s.vm.findClass R_Mind = some m.cls := hown
  have hl : lv_has ls 2 [(0, .ref a_h), (1, .int x1)] := hl
  unfold f_Mind_draw at hf
  refine lv_aload_n hx hb d_Mind_draw_0 rfl (lv_at hl 0 rfl) ?_
  refine lv_aload_n hx hb d_Mind_draw_1 rfl (lv_at hl 0 rfl) ?_
  refine va_get hx hb hT i_Mind hown hK hP 0 rfl rfl 2 (Nat.le_of_ble_eq_true rfl) (hT _ k_108) (fun _ h => h) rfl d_Mind_draw_2 ?_
  refine lv_ldc (v := 1103515245) hx hb hown (hT _ k_719) d_Mind_draw_5 ?_
  refine lv_imul hx hb d_Mind_draw_7 ?_
  refine lv_sipush (v := 12345) hx hb d_Mind_draw_8 (by decide) ?_
  refine lv_iadd hx hb d_Mind_draw_11 ?_
  refine va_put (ty := .int) hx hb hT i_Mind t_Mind t_Mind_ok n_Mind hown hK hP hD hS 0 rfl rfl 2 (Nat.le_of_ble_eq_true rfl) (hT _ k_108) (fun _ h => h) rfl rfl rfl rfl (Nat.le_of_ble_eq_true rfl) d_Mind_draw_12 (fun H locs hP hD hS => ?_)
  have hP : va_P D classes (w_Mind_draw cI cJ cC a_h a_h_one a_h_two ((z_h_seed * 1103515245) + 12345)) H := hP
  have hD : va_D A (w_Mind_draw cI cJ cC a_h a_h_one a_h_two ((z_h_seed * 1103515245) + 12345)) := hD
  refine lv_iload_n hx hb d_Mind_draw_15 rfl (lv_at hl 1 rfl) ?_
  refine lv_iconst (v := 1) hx hb d_Mind_draw_16 (by decide) ?_
  refine lv_icmp_ge (tgt := 24) hx hb d_Mind_draw_17 (by decide) (fun c1 => ?_) (fun c1 => ?_)
  · have hf := io_t hf c1
    refine lv_aload_n hx hb d_Mind_draw_24 rfl (lv_at hl 0 rfl) ?_
    refine va_get hx hb hT i_Mind hown hK hP 0 rfl rfl 2 (Nat.le_of_ble_eq_true rfl) (hT _ k_108) (fun _ h => h) rfl d_Mind_draw_25 ?_
    refine lv_ldc (v := 2147483647) hx hb hown (hT _ k_720) d_Mind_draw_28 ?_
    refine lv_iand hx hb d_Mind_draw_30 ?_
    refine lv_ldc (v := 65536) hx hb hown (hT _ k_721) d_Mind_draw_31 ?_
    refine x_idiv hx hb d_Mind_draw_33 (by decide) ?_
    refine lv_iload_n hx hb d_Mind_draw_34 rfl (lv_at hl 1 rfl) ?_
    obtain ⟨c2, hf⟩ := io_n hf
    refine x_irem hx hb d_Mind_draw_35 c2 ?_
    have hq := Option.some.inj hf
    subst hq
    exact hret _ _ _ _ _ d_Mind_draw_36 rfl rfl hP hD hS
  · have hf := io_f hf c1
    refine lv_iconst (v := 0) hx hb d_Mind_draw_20 (by decide) ?_
    refine lv_goto (tgt := 36) hx hb d_Mind_draw_21 (by decide) ?_
    have hq := Option.some.inj hf
    subst hq
    exact hret _ _ _ _ _ d_Mind_draw_36 rfl rfl hP hD hS
abbrev w_Mind_gaveBySeed (cI cJ cC : ClassId) (a_h a_h_one a_h_two a_h_one_kinds a_h_one_sweets a_h_one_settings a_h_one_heaps a_g1 a_g1_kinds a_g1_sweets a_g1_settings a_g1_heaps : Nat) (p_h_seed : Int32) (p_h_one_children : Int32) (p_h_one_strokes : Int32) (p_h_one_gave : Int32) (p_h_one_threw : Int32) (p_h_one_kinds : (Nat → Int32)) (p_h_one_sweets : (Nat → Int32)) (p_h_one_settings : (Nat → Int32)) (p_h_one_heaps : (Nat → Int32)) (p_g1_children : Int32) (p_g1_strokes : Int32) (p_g1_gave : Int32) (p_g1_threw : Int32) (p_g1_kinds : (Nat → Int32)) (p_g1_sweets : (Nat → Int32)) (p_g1_settings : (Nat → Int32)) : va_W := [(a_h, .inr (3, [.ref a_h_one, .ref a_h_two, .int p_h_seed])), (a_h_one, .inr (1, [.ref a_h_one_kinds, .ref a_h_one_sweets, .ref a_h_one_settings, .int p_h_one_children, .int p_h_one_strokes, .int p_h_one_gave, .int p_h_one_threw, .ref a_h_one_heaps])), (a_h_one_kinds, .inl (cI, (8, .inl p_h_one_kinds))), (a_h_one_sweets, .inl (cI, (8, .inl p_h_one_sweets))), (a_h_one_settings, .inl (cI, (3, .inl p_h_one_settings))), (a_h_one_heaps, .inl (cI, (8, .inl p_h_one_heaps))), (a_g1, .inr (1, [.ref a_g1_kinds, .ref a_g1_sweets, .ref a_g1_settings, .int p_g1_children, .int p_g1_strokes, .int p_g1_gave, .int p_g1_threw, .ref a_g1_heaps])), (a_g1_kinds, .inl (cI, (8, .inl p_g1_kinds))), (a_g1_sweets, .inl (cI, (8, .inl p_g1_sweets))), (a_g1_settings, .inl (cI, (3, .inl p_g1_settings)))]
theorem d_Mind_gaveBySeed_0 : decode b_Mind_gaveBySeed 0 = .ok (.aload_n 0, 1) := by decide +kernel
theorem d_Mind_gaveBySeed_1 : decode b_Mind_gaveBySeed 1 = .ok (.getfield 12, 3) := by decide +kernel
theorem d_Mind_gaveBySeed_4 : decode b_Mind_gaveBySeed 4 = .ok (.aload_n 1, 1) := by decide +kernel
theorem d_Mind_gaveBySeed_5 : decode b_Mind_gaveBySeed 5 = .ok (.invokevirtual 25, 3) := by decide +kernel
theorem d_Mind_gaveBySeed_8 : decode b_Mind_gaveBySeed 8 = .ok (.aload_n 0, 1) := by decide +kernel
theorem d_Mind_gaveBySeed_9 : decode b_Mind_gaveBySeed 9 = .ok (.iload_n 3, 1) := by decide +kernel
theorem d_Mind_gaveBySeed_10 : decode b_Mind_gaveBySeed 10 = .ok (.putfield 21, 3) := by decide +kernel
theorem d_Mind_gaveBySeed_13 : decode b_Mind_gaveBySeed 13 = .ok (.iconst 0, 1) := by decide +kernel
theorem d_Mind_gaveBySeed_14 : decode b_Mind_gaveBySeed 14 = .ok (.istore 4, 2) := by decide +kernel
theorem d_Mind_gaveBySeed_16 : decode b_Mind_gaveBySeed 16 = .ok (.iload 4, 2) := by decide +kernel
theorem d_Mind_gaveBySeed_18 : decode b_Mind_gaveBySeed 18 = .ok (.iload_n 2, 1) := by decide +kernel
theorem d_Mind_gaveBySeed_19 : decode b_Mind_gaveBySeed 19 = .ok (.if_icmp .ge 54, 3) := by decide +kernel
theorem d_Mind_gaveBySeed_22 : decode b_Mind_gaveBySeed 22 = .ok (.aload_n 0, 1) := by decide +kernel
theorem d_Mind_gaveBySeed_23 : decode b_Mind_gaveBySeed 23 = .ok (.aload_n 0, 1) := by decide +kernel
theorem d_Mind_gaveBySeed_24 : decode b_Mind_gaveBySeed 24 = .ok (.getfield 12, 3) := by decide +kernel
theorem d_Mind_gaveBySeed_27 : decode b_Mind_gaveBySeed 27 = .ok (.getfield 74, 3) := by decide +kernel
theorem d_Mind_gaveBySeed_30 : decode b_Mind_gaveBySeed 30 = .ok (.invokevirtual 81, 3) := by decide +kernel
theorem d_Mind_gaveBySeed_33 : decode b_Mind_gaveBySeed 33 = .ok (.istore 5, 2) := by decide +kernel
theorem d_Mind_gaveBySeed_35 : decode b_Mind_gaveBySeed 35 = .ok (.aload_n 0, 1) := by decide +kernel
theorem d_Mind_gaveBySeed_36 : decode b_Mind_gaveBySeed 36 = .ok (.aload_n 0, 1) := by decide +kernel
theorem d_Mind_gaveBySeed_37 : decode b_Mind_gaveBySeed 37 = .ok (.getfield 12, 3) := by decide +kernel
theorem d_Mind_gaveBySeed_40 : decode b_Mind_gaveBySeed 40 = .ok (.getfield 74, 3) := by decide +kernel
theorem d_Mind_gaveBySeed_43 : decode b_Mind_gaveBySeed 43 = .ok (.invokevirtual 81, 3) := by decide +kernel
theorem d_Mind_gaveBySeed_46 : decode b_Mind_gaveBySeed 46 = .ok (.istore 6, 2) := by decide +kernel
theorem d_Mind_gaveBySeed_48 : decode b_Mind_gaveBySeed 48 = .ok (.aload_n 0, 1) := by decide +kernel
theorem d_Mind_gaveBySeed_49 : decode b_Mind_gaveBySeed 49 = .ok (.getfield 12, 3) := by decide +kernel
theorem d_Mind_gaveBySeed_52 : decode b_Mind_gaveBySeed 52 = .ok (.iload 5, 2) := by decide +kernel
theorem d_Mind_gaveBySeed_54 : decode b_Mind_gaveBySeed 54 = .ok (.iload 6, 2) := by decide +kernel
theorem d_Mind_gaveBySeed_56 : decode b_Mind_gaveBySeed 56 = .ok (.invokevirtual 85, 3) := by decide +kernel
theorem d_Mind_gaveBySeed_59 : decode b_Mind_gaveBySeed 59 = .ok (.aload_n 0, 1) := by decide +kernel
theorem d_Mind_gaveBySeed_60 : decode b_Mind_gaveBySeed 60 = .ok (.getfield 12, 3) := by decide +kernel
theorem d_Mind_gaveBySeed_63 : decode b_Mind_gaveBySeed 63 = .ok (.invokevirtual 43, 3) := by decide +kernel
theorem d_Mind_gaveBySeed_66 : decode b_Mind_gaveBySeed 66 = .ok (.pop, 1) := by decide +kernel
theorem d_Mind_gaveBySeed_67 : decode b_Mind_gaveBySeed 67 = .ok (.iinc 4 1, 3) := by decide +kernel
theorem d_Mind_gaveBySeed_70 : decode b_Mind_gaveBySeed 70 = .ok (.goto (-54), 3) := by decide +kernel
theorem d_Mind_gaveBySeed_73 : decode b_Mind_gaveBySeed 73 = .ok (.aload_n 0, 1) := by decide +kernel
theorem d_Mind_gaveBySeed_74 : decode b_Mind_gaveBySeed 74 = .ok (.getfield 12, 3) := by decide +kernel
theorem d_Mind_gaveBySeed_77 : decode b_Mind_gaveBySeed 77 = .ok (.getfield 37, 3) := by decide +kernel
theorem d_Mind_gaveBySeed_80 : decode b_Mind_gaveBySeed 80 = .ok (.aload_n 1, 1) := by decide +kernel
theorem d_Mind_gaveBySeed_81 : decode b_Mind_gaveBySeed 81 = .ok (.getfield 37, 3) := by decide +kernel
theorem d_Mind_gaveBySeed_84 : decode b_Mind_gaveBySeed 84 = .ok (.isub, 1) := by decide +kernel
theorem d_Mind_gaveBySeed_85 : decode b_Mind_gaveBySeed 85 = .ok (.ireturn, 1) := by decide +kernel
set_option maxHeartbeats 4000000 in
set_option maxRecDepth 100000 in
theorem c_Mind_gaveBySeed {l : Launch} {D : va_G} {cI cJ cC : ClassId} (a_h a_h_one a_h_two a_h_one_kinds a_h_one_sweets a_h_one_settings a_h_one_heaps a_g1 a_g1_kinds a_g1_sweets a_g1_settings a_g1_heaps : Nat) {z_h_seed : Int32} {z_h_one : RS} {z_g1 : RS} {x2 : Int32} {x3 : Int32} {q : Int32 × Int32 × RS} (hf : f_Mind_gaveBySeed z_h_seed z_h_one z_g1 x2 x3 = some q) : xI l y_Mind_gaveBySeed b_Mind_gaveBySeed 7 .int 4 89 D (tyK cI cJ cC) xE0 [.ref a_h, .ref a_g1, .int x2, .int x3] (w_Mind_gaveBySeed cI cJ cC a_h a_h_one a_h_two a_h_one_kinds a_h_one_sweets a_h_one_settings a_h_one_heaps a_g1 a_g1_kinds a_g1_sweets a_g1_settings a_g1_heaps z_h_seed (r_children z_h_one) (r_strokes z_h_one) (r_gave z_h_one) (r_threw z_h_one) (r_kinds z_h_one) (r_sweets z_h_one) (r_settings z_h_one) (r_heaps z_h_one) (r_children z_g1) (r_strokes z_g1) (r_gave z_g1) (r_threw z_g1) (r_kinds z_g1) (r_sweets z_g1) (r_settings z_g1)) q.1 (w_Mind_gaveBySeed cI cJ cC a_h a_h_one a_h_two a_h_one_kinds a_h_one_sweets a_h_one_settings a_h_one_heaps a_g1 a_g1_kinds a_g1_sweets a_g1_settings a_g1_heaps q.2.1 (r_children q.2.2) (r_strokes q.2.2) (r_gave q.2.2) (r_threw q.2.2) (r_kinds q.2.2) (r_sweets q.2.2) (r_settings q.2.2) (r_heaps q.2.2) (r_children z_g1) (r_strokes z_g1) (r_gave z_g1) (r_threw z_g1) (r_kinds z_g1) (r_sweets z_g1) (r_settings z_g1)) := by
  refine xI_of (by decide) (Nat.le_of_ble_eq_true rfl) ?_
  intro p e s m args below meth c A Q hx hb hml hown hT hA hP hD hK hS hE hret ls hl
  have hown : s.vm.findClass R_Mind = some m.cls := hown
  have hl : lv_has ls 7 [(0, .ref a_h), (1, .ref a_g1), (2, .int x2), (3, .int x3)] := hl
  unfold f_Mind_gaveBySeed at hf
  have L16 : ∀ (n : Nat) (z_h_seed : Int32) (z_h_one : RS) (x4 : Int32) (H : Heap) (locs : List Loc) (ls : Array Slot), f_Mind_gaveBySeed_L16 z_g1 x2 n z_h_seed z_h_one x4 = some q → va_P D classes (w_Mind_gaveBySeed cI cJ cC a_h a_h_one a_h_two a_h_one_kinds a_h_one_sweets a_h_one_settings a_h_one_heaps a_g1 a_g1_kinds a_g1_sweets a_g1_settings a_g1_heaps z_h_seed (r_children z_h_one) (r_strokes z_h_one) (r_gave z_h_one) (r_threw z_h_one) (r_kinds z_h_one) (r_sweets z_h_one) (r_settings z_h_one) (r_heaps z_h_one) (r_children z_g1) (r_strokes z_g1) (r_gave z_g1) (r_threw z_g1) (r_kinds z_g1) (r_sweets z_g1) (r_settings z_g1)) H → va_D A (w_Mind_gaveBySeed cI cJ cC a_h a_h_one a_h_two a_h_one_kinds a_h_one_sweets a_h_one_settings a_h_one_heaps a_g1 a_g1_kinds a_g1_sweets a_g1_settings a_g1_heaps z_h_seed (r_children z_h_one) (r_strokes z_h_one) (r_gave z_h_one) (r_threw z_h_one) (r_kinds z_h_one) (r_sweets z_h_one) (r_settings z_h_one) (r_heaps z_h_one) (r_children z_g1) (r_strokes z_g1) (r_gave z_g1) (r_threw z_g1) (r_kinds z_g1) (r_sweets z_g1) (r_settings z_g1)) → va_S A s.heap H locs → lv_has ls 7 [(0, .ref a_h), (1, .ref a_g1), (2, .int x2), (4, .int x4)] → W p l e (xRm 4 89) s m args below meth c H locs 0 0 Q (F0 m 16 ls []) := by
    intro n
    induction n with
    | zero => intro z_h_seed z_h_one x4 H locs ls hf hP hD hS hl; exact nomatch (show (none : Option (Int32 × Int32 × RS)) = some q from hf)
    | succ n ih =>
      intro z_h_seed z_h_one x4 H locs ls hf hP hD hS hl
      refine lv_iload hx hb d_Mind_gaveBySeed_16 (lv_at hl 3 rfl) ?_
      refine lv_iload_n hx hb d_Mind_gaveBySeed_18 rfl (lv_at hl 2 rfl) ?_
      refine lv_icmp_ge (tgt := 73) hx hb d_Mind_gaveBySeed_19 (by decide) (fun c2 => ?_) (fun c2 => ?_)
      · have hf := io_t hf c2
        refine lv_aload_n hx hb d_Mind_gaveBySeed_73 rfl (lv_at hl 0 rfl) ?_
        refine va_get hx hb hT i_Mind hown hK hP 0 rfl rfl 0 (Nat.le_of_ble_eq_true rfl) (hT _ k_106) (fun _ h => h) rfl d_Mind_gaveBySeed_74 ?_
        refine va_get hx hb hT i_Ring hown hK hP 1 rfl rfl 5 (Nat.le_of_ble_eq_true rfl) (hT _ k_53) (fun _ h => h) rfl d_Mind_gaveBySeed_77 ?_
        refine lv_aload_n hx hb d_Mind_gaveBySeed_80 rfl (lv_at hl 1 rfl) ?_
        refine va_get hx hb hT i_Ring hown hK hP 6 rfl rfl 5 (Nat.le_of_ble_eq_true rfl) (hT _ k_53) (fun _ h => h) rfl d_Mind_gaveBySeed_81 ?_
        refine lv_isub hx hb d_Mind_gaveBySeed_84 ?_
        have hq := Option.some.inj hf
        subst hq
        exact hret _ _ _ _ _ d_Mind_gaveBySeed_85 rfl rfl hP hD hS
      · have hf := io_f hf c2
        refine lv_aload_n hx hb d_Mind_gaveBySeed_22 rfl (lv_at hl 0 rfl) ?_
        refine lv_aload_n hx hb d_Mind_gaveBySeed_23 rfl (lv_at hl 0 rfl) ?_
        refine va_get hx hb hT i_Mind hown hK hP 0 rfl rfl 0 (Nat.le_of_ble_eq_true rfl) (hT _ k_106) (fun _ h => h) rfl d_Mind_gaveBySeed_24 ?_
        refine va_get hx hb hT i_Ring hown hK hP 1 rfl rfl 3 (Nat.le_of_ble_eq_true rfl) (hT _ k_49) (fun _ h => h) rfl d_Mind_gaveBySeed_27 ?_
        obtain ⟨q3, hq3, hf⟩ := io_b hf
        refine xcVI (wc := (w_Mind_draw cI cJ cC a_h a_h_one a_h_two z_h_seed)) (wc' := (w_Mind_draw cI cJ cC a_h a_h_one a_h_two q3.2)) (ws' := (w_Mind_gaveBySeed cI cJ cC a_h a_h_one a_h_two a_h_one_kinds a_h_one_sweets a_h_one_settings a_h_one_heaps a_g1 a_g1_kinds a_g1_sweets a_g1_settings a_g1_heaps q3.2 (r_children z_h_one) (r_strokes z_h_one) (r_gave z_h_one) (r_threw z_h_one) (r_kinds z_h_one) (r_sweets z_h_one) (r_settings z_h_one) (r_heaps z_h_one) (r_children z_g1) (r_strokes z_g1) (r_gave z_g1) (r_threw z_g1) (r_kinds z_g1) (r_sweets z_g1) (r_settings z_g1))) (As := [.int (r_children z_h_one)]) (rest := []) hx hb hml hown hT (c_Mind_draw (z_h_seed := z_h_seed) a_h a_h_one a_h_two hq3) k_715 k_717 ks_23 k_4 k_718 hd_Mind_draw ⟨Nat.le_of_ble_eq_true rfl, Nat.le_of_ble_eq_true rfl⟩ xE0_ok trivial hA hK hP hD hS [0] [1, 2, 3, 4, 5, 6, 7, 8, 9] [9, 0, 1, 2, 3, 4, 5, 6, 7, 8] rfl rfl rfl rfl rfl rfl rfl rfl rfl rfl hl.1 rfl (Nat.le_of_ble_eq_true rfl) ⟨Nat.zero_le _, Nat.zero_le _⟩ d_Mind_gaveBySeed_30 (fun H locs hP hD hS => ?_)
        refine lv_istore (lv' := [(5, .int q3.1), (0, .ref a_h), (1, .ref a_g1), (2, .int x2), (4, .int x4)]) hx hb d_Mind_gaveBySeed_33 hl (by decide) rfl (fun ls hl => ?_)
        refine lv_aload_n hx hb d_Mind_gaveBySeed_35 rfl (lv_at hl 1 rfl) ?_
        refine lv_aload_n hx hb d_Mind_gaveBySeed_36 rfl (lv_at hl 1 rfl) ?_
        refine va_get hx hb hT i_Mind hown hK hP 0 rfl rfl 0 (Nat.le_of_ble_eq_true rfl) (hT _ k_106) (fun _ h => h) rfl d_Mind_gaveBySeed_37 ?_
        refine va_get hx hb hT i_Ring hown hK hP 1 rfl rfl 3 (Nat.le_of_ble_eq_true rfl) (hT _ k_49) (fun _ h => h) rfl d_Mind_gaveBySeed_40 ?_
        obtain ⟨q4, hq4, hf⟩ := io_b hf
        refine xcVI (wc := (w_Mind_draw cI cJ cC a_h a_h_one a_h_two q3.2)) (wc' := (w_Mind_draw cI cJ cC a_h a_h_one a_h_two q4.2)) (ws' := (w_Mind_gaveBySeed cI cJ cC a_h a_h_one a_h_two a_h_one_kinds a_h_one_sweets a_h_one_settings a_h_one_heaps a_g1 a_g1_kinds a_g1_sweets a_g1_settings a_g1_heaps q4.2 (r_children z_h_one) (r_strokes z_h_one) (r_gave z_h_one) (r_threw z_h_one) (r_kinds z_h_one) (r_sweets z_h_one) (r_settings z_h_one) (r_heaps z_h_one) (r_children z_g1) (r_strokes z_g1) (r_gave z_g1) (r_threw z_g1) (r_kinds z_g1) (r_sweets z_g1) (r_settings z_g1))) (As := [.int (r_children z_h_one)]) (rest := []) hx hb hml hown hT (c_Mind_draw (z_h_seed := q3.2) a_h a_h_one a_h_two hq4) k_715 k_717 ks_23 k_4 k_718 hd_Mind_draw ⟨Nat.le_of_ble_eq_true rfl, Nat.le_of_ble_eq_true rfl⟩ xE0_ok trivial hA hK hP hD hS [0] [1, 2, 3, 4, 5, 6, 7, 8, 9] [9, 0, 1, 2, 3, 4, 5, 6, 7, 8] rfl rfl rfl rfl rfl rfl rfl rfl rfl rfl hl.1 rfl (Nat.le_of_ble_eq_true rfl) ⟨Nat.zero_le _, Nat.zero_le _⟩ d_Mind_gaveBySeed_43 (fun H locs hP hD hS => ?_)
        refine lv_istore (lv' := [(6, .int q4.1), (5, .int q3.1), (0, .ref a_h), (1, .ref a_g1), (2, .int x2), (4, .int x4)]) hx hb d_Mind_gaveBySeed_46 hl (by decide) rfl (fun ls hl => ?_)
        refine lv_aload_n hx hb d_Mind_gaveBySeed_48 rfl (lv_at hl 2 rfl) ?_
        refine va_get hx hb hT i_Mind hown hK hP 0 rfl rfl 0 (Nat.le_of_ble_eq_true rfl) (hT _ k_106) (fun _ h => h) rfl d_Mind_gaveBySeed_49 ?_
        refine lv_iload hx hb d_Mind_gaveBySeed_52 (lv_at hl 1 rfl) ?_
        refine lv_iload hx hb d_Mind_gaveBySeed_54 (lv_at hl 0 rfl) ?_
        obtain ⟨q5, hq5, hf⟩ := io_b hf
        refine xcVV (wc := (w_Ring_changeSweets cI cJ cC a_h_one a_h_one_kinds a_h_one_sweets a_h_one_settings a_h_one_heaps (r_children z_h_one) (r_strokes z_h_one) (r_gave z_h_one) (r_threw z_h_one) (r_kinds z_h_one) (r_sweets z_h_one) (r_settings z_h_one) (r_heaps z_h_one))) (wc' := (w_Ring_changeSweets cI cJ cC a_h_one a_h_one_kinds a_h_one_sweets a_h_one_settings a_h_one_heaps (r_children q5) (r_strokes q5) (r_gave q5) (r_threw q5) (r_kinds q5) (r_sweets q5) (r_settings q5) (r_heaps q5))) (ws' := (w_Mind_gaveBySeed cI cJ cC a_h a_h_one a_h_two a_h_one_kinds a_h_one_sweets a_h_one_settings a_h_one_heaps a_g1 a_g1_kinds a_g1_sweets a_g1_settings a_g1_heaps q4.2 (r_children q5) (r_strokes q5) (r_gave q5) (r_threw q5) (r_kinds q5) (r_sweets q5) (r_settings q5) (r_heaps q5) (r_children z_g1) (r_strokes z_g1) (r_gave z_g1) (r_threw z_g1) (r_kinds z_g1) (r_sweets z_g1) (r_settings z_g1))) (As := [.int q3.1, .int q4.1]) (rest := []) hx hb hml hown hT (c_Ring_changeSweets (z_h := z_h_one) a_h_one a_h_one_kinds a_h_one_sweets a_h_one_settings a_h_one_heaps hq5) k_722 k_409 k_410 k_2 k_411 hd_Ring_changeSweets ⟨Nat.le_of_ble_eq_true rfl, Nat.le_of_ble_eq_true rfl⟩ xE0_ok trivial hA hK hP hD hS [1, 2, 3, 4, 5] [0, 6, 7, 8, 9] [0, 5, 6, 7, 8, 9, 1, 2, 3, 4] rfl rfl rfl rfl rfl rfl rfl rfl rfl rfl hl.1 rfl (Nat.le_of_ble_eq_true rfl) ⟨Nat.zero_le _, Nat.zero_le _⟩ d_Mind_gaveBySeed_56 (fun H locs hP hD hS => ?_)
        refine lv_aload_n hx hb d_Mind_gaveBySeed_59 rfl (lv_at hl 2 rfl) ?_
        refine va_get hx hb hT i_Mind hown hK hP 0 rfl rfl 0 (Nat.le_of_ble_eq_true rfl) (hT _ k_106) (fun _ h => h) rfl d_Mind_gaveBySeed_60 ?_
        obtain ⟨q6, hq6, hf⟩ := io_b hf
        refine xcVI (wc := (w_Ring_strike cI cJ cC a_h_one a_h_one_kinds a_h_one_sweets a_h_one_settings a_h_one_heaps (r_children q5) (r_strokes q5) (r_gave q5) (r_threw q5) (r_kinds q5) (r_sweets q5) (r_settings q5) (r_heaps q5))) (wc' := (w_Ring_strike cI cJ cC a_h_one a_h_one_kinds a_h_one_sweets a_h_one_settings a_h_one_heaps (r_children q6.2) (r_strokes q6.2) (r_gave q6.2) (r_threw q6.2) (r_kinds q6.2) (r_sweets q6.2) (r_settings q6.2) (r_heaps q6.2))) (ws' := (w_Mind_gaveBySeed cI cJ cC a_h a_h_one a_h_two a_h_one_kinds a_h_one_sweets a_h_one_settings a_h_one_heaps a_g1 a_g1_kinds a_g1_sweets a_g1_settings a_g1_heaps q4.2 (r_children q6.2) (r_strokes q6.2) (r_gave q6.2) (r_threw q6.2) (r_kinds q6.2) (r_sweets q6.2) (r_settings q6.2) (r_heaps q6.2) (r_children z_g1) (r_strokes z_g1) (r_gave z_g1) (r_threw z_g1) (r_kinds z_g1) (r_sweets z_g1) (r_settings z_g1))) (As := []) (rest := []) hx hb hml hown hT (c_Ring_strike (z_h := q5) a_h_one a_h_one_kinds a_h_one_sweets a_h_one_settings a_h_one_heaps hq6) k_470 k_417 k_418 k_2 k_419 hd_Ring_strike ⟨Nat.le_of_ble_eq_true rfl, Nat.le_of_ble_eq_true rfl⟩ xE0_ok trivial hA hK hP hD hS [1, 2, 3, 4, 5] [0, 6, 7, 8, 9] [0, 5, 6, 7, 8, 9, 1, 2, 3, 4] rfl rfl rfl rfl rfl rfl rfl rfl rfl rfl hl.1 rfl (Nat.le_of_ble_eq_true rfl) ⟨Nat.zero_le _, Nat.zero_le _⟩ d_Mind_gaveBySeed_63 (fun H locs hP hD hS => ?_)
        refine lv_pop hx hb d_Mind_gaveBySeed_66 rfl ?_
        refine lv_iinc (v := (x4 + 1)) (lv' := [(4, .int (x4 + 1)), (6, .int q4.1), (5, .int q3.1), (0, .ref a_h), (1, .ref a_g1), (2, .int x2)]) hx hb d_Mind_gaveBySeed_67 hl (k := 5) rfl (by rfl) (by decide) rfl (fun ls hl => ?_)
        refine lv_goto (tgt := 16) hx hb d_Mind_gaveBySeed_70 (by decide) ?_
        exact ih q4.2 q6.2 (x4 + 1) _ _ _ hf hP hD hS (lv_sub hl [3, 4, 5, 0] rfl)
  refine lv_aload_n hx hb d_Mind_gaveBySeed_0 rfl (lv_at hl 0 rfl) ?_
  refine va_get hx hb hT i_Mind hown hK hP 0 rfl rfl 0 (Nat.le_of_ble_eq_true rfl) (hT _ k_106) (fun _ h => h) rfl d_Mind_gaveBySeed_1 ?_
  refine lv_aload_n hx hb d_Mind_gaveBySeed_4 rfl (lv_at hl 1 rfl) ?_
  obtain ⟨q1, hq1, hf⟩ := io_b hf
  refine xcVV (wc := (w_Ring_copyFrom cI cJ cC a_h_one a_h_one_kinds a_h_one_sweets a_h_one_settings a_h_one_heaps a_g1 a_g1_kinds a_g1_sweets a_g1_settings a_g1_heaps (r_children z_h_one) (r_strokes z_h_one) (r_gave z_h_one) (r_threw z_h_one) (r_kinds z_h_one) (r_sweets z_h_one) (r_settings z_h_one) (r_heaps z_h_one) (r_children z_g1) (r_strokes z_g1) (r_gave z_g1) (r_threw z_g1) (r_kinds z_g1) (r_sweets z_g1) (r_settings z_g1))) (wc' := (w_Ring_copyFrom cI cJ cC a_h_one a_h_one_kinds a_h_one_sweets a_h_one_settings a_h_one_heaps a_g1 a_g1_kinds a_g1_sweets a_g1_settings a_g1_heaps (r_children q1) (r_strokes q1) (r_gave q1) (r_threw q1) (r_kinds q1) (r_sweets q1) (r_settings q1) (r_heaps q1) (r_children z_g1) (r_strokes z_g1) (r_gave z_g1) (r_threw z_g1) (r_kinds z_g1) (r_sweets z_g1) (r_settings z_g1))) (ws' := (w_Mind_gaveBySeed cI cJ cC a_h a_h_one a_h_two a_h_one_kinds a_h_one_sweets a_h_one_settings a_h_one_heaps a_g1 a_g1_kinds a_g1_sweets a_g1_settings a_g1_heaps z_h_seed (r_children q1) (r_strokes q1) (r_gave q1) (r_threw q1) (r_kinds q1) (r_sweets q1) (r_settings q1) (r_heaps q1) (r_children z_g1) (r_strokes z_g1) (r_gave z_g1) (r_threw z_g1) (r_kinds z_g1) (r_sweets z_g1) (r_settings z_g1))) (As := [.ref a_g1]) (rest := []) hx hb hml hown hT (c_Ring_copyFrom (z_h := z_h_one) (z_g1 := z_g1) a_h_one a_h_one_kinds a_h_one_sweets a_h_one_settings a_h_one_heaps a_g1 a_g1_kinds a_g1_sweets a_g1_settings a_g1_heaps hq1) k_441 k_326 k_327 k_2 k_328 hd_Ring_copyFrom ⟨Nat.le_of_ble_eq_true rfl, Nat.le_of_ble_eq_true rfl⟩ xE0_ok trivial hA hK hP hD hS [1, 2, 3, 4, 5, 6, 7, 8, 9] [0] [0, 1, 2, 3, 4, 5, 6, 7, 8, 9] rfl rfl rfl rfl rfl rfl rfl rfl rfl rfl hl.1 rfl (Nat.le_of_ble_eq_true rfl) ⟨Nat.zero_le _, Nat.zero_le _⟩ d_Mind_gaveBySeed_5 (fun H locs hP hD hS => ?_)
  refine lv_aload_n hx hb d_Mind_gaveBySeed_8 rfl (lv_at hl 0 rfl) ?_
  refine lv_iload_n hx hb d_Mind_gaveBySeed_9 rfl (lv_at hl 3 rfl) ?_
  refine va_put (ty := .int) hx hb hT i_Mind t_Mind t_Mind_ok n_Mind hown hK hP hD hS 0 rfl rfl 2 (Nat.le_of_ble_eq_true rfl) (hT _ k_108) (fun _ h => h) rfl rfl rfl rfl (Nat.le_of_ble_eq_true rfl) d_Mind_gaveBySeed_10 (fun H locs hP hD hS => ?_)
  have hP : va_P D classes (w_Mind_gaveBySeed cI cJ cC a_h a_h_one a_h_two a_h_one_kinds a_h_one_sweets a_h_one_settings a_h_one_heaps a_g1 a_g1_kinds a_g1_sweets a_g1_settings a_g1_heaps x3 (r_children q1) (r_strokes q1) (r_gave q1) (r_threw q1) (r_kinds q1) (r_sweets q1) (r_settings q1) (r_heaps q1) (r_children z_g1) (r_strokes z_g1) (r_gave z_g1) (r_threw z_g1) (r_kinds z_g1) (r_sweets z_g1) (r_settings z_g1)) H := hP
  have hD : va_D A (w_Mind_gaveBySeed cI cJ cC a_h a_h_one a_h_two a_h_one_kinds a_h_one_sweets a_h_one_settings a_h_one_heaps a_g1 a_g1_kinds a_g1_sweets a_g1_settings a_g1_heaps x3 (r_children q1) (r_strokes q1) (r_gave q1) (r_threw q1) (r_kinds q1) (r_sweets q1) (r_settings q1) (r_heaps q1) (r_children z_g1) (r_strokes z_g1) (r_gave z_g1) (r_threw z_g1) (r_kinds z_g1) (r_sweets z_g1) (r_settings z_g1)) := hD
  refine lv_iconst (v := 0) hx hb d_Mind_gaveBySeed_13 (by decide) ?_
  refine lv_istore (lv' := [(4, .int 0), (0, .ref a_h), (1, .ref a_g1), (2, .int x2), (3, .int x3)]) hx hb d_Mind_gaveBySeed_14 hl (by decide) rfl (fun ls hl => ?_)
  exact L16 FU x3 q1 0 _ _ _ hf hP hD hS (lv_sub hl [1, 2, 3, 0] rfl)
abbrev w_Mind_firstWrong (cI cJ cC : ClassId) (a_h a_h_one a_h_two a_h_one_kinds a_h_one_sweets a_h_one_settings a_h_one_heaps a_g1 a_g1_kinds a_g1_sweets a_g1_settings a_g1_heaps a_g2 : Nat) (y_h_seed : Int32) (p_h_one_children : Int32) (p_h_one_strokes : Int32) (p_h_one_gave : Int32) (p_h_one_threw : Int32) (p_h_one_kinds : (Nat → Int32)) (p_h_one_sweets : (Nat → Int32)) (p_h_one_settings : (Nat → Int32)) (p_h_one_heaps : (Nat → Int32)) (p_g1_children : Int32) (p_g1_strokes : Int32) (p_g1_gave : Int32) (p_g1_threw : Int32) (p_g1_kinds : (Nat → Int32)) (p_g1_sweets : (Nat → Int32)) (p_g1_settings : (Nat → Int32)) (p_g2 : (Nat → Int32)) : va_W := [(a_h, .inr (3, [.ref a_h_one, .ref a_h_two, .int y_h_seed])), (a_h_one, .inr (1, [.ref a_h_one_kinds, .ref a_h_one_sweets, .ref a_h_one_settings, .int p_h_one_children, .int p_h_one_strokes, .int p_h_one_gave, .int p_h_one_threw, .ref a_h_one_heaps])), (a_h_one_kinds, .inl (cI, (8, .inl p_h_one_kinds))), (a_h_one_sweets, .inl (cI, (8, .inl p_h_one_sweets))), (a_h_one_settings, .inl (cI, (3, .inl p_h_one_settings))), (a_h_one_heaps, .inl (cI, (8, .inl p_h_one_heaps))), (a_g1, .inr (1, [.ref a_g1_kinds, .ref a_g1_sweets, .ref a_g1_settings, .int p_g1_children, .int p_g1_strokes, .int p_g1_gave, .int p_g1_threw, .ref a_g1_heaps])), (a_g1_kinds, .inl (cI, (8, .inl p_g1_kinds))), (a_g1_sweets, .inl (cI, (8, .inl p_g1_sweets))), (a_g1_settings, .inl (cI, (3, .inl p_g1_settings))), (a_g2, .inl (cI, (24, .inl p_g2)))]
theorem d_Mind_firstWrong_0 : decode b_Mind_firstWrong 0 = .ok (.aload_n 0, 1) := by decide +kernel
theorem d_Mind_firstWrong_1 : decode b_Mind_firstWrong 1 = .ok (.getfield 12, 3) := by decide +kernel
theorem d_Mind_firstWrong_4 : decode b_Mind_firstWrong 4 = .ok (.aload_n 1, 1) := by decide +kernel
theorem d_Mind_firstWrong_5 : decode b_Mind_firstWrong 5 = .ok (.invokevirtual 25, 3) := by decide +kernel
theorem d_Mind_firstWrong_8 : decode b_Mind_firstWrong 8 = .ok (.iconst 0, 1) := by decide +kernel
theorem d_Mind_firstWrong_9 : decode b_Mind_firstWrong 9 = .ok (.istore 4, 2) := by decide +kernel
theorem d_Mind_firstWrong_11 : decode b_Mind_firstWrong 11 = .ok (.iconst 0, 1) := by decide +kernel
theorem d_Mind_firstWrong_12 : decode b_Mind_firstWrong 12 = .ok (.istore 5, 2) := by decide +kernel
theorem d_Mind_firstWrong_14 : decode b_Mind_firstWrong 14 = .ok (.iload 5, 2) := by decide +kernel
theorem d_Mind_firstWrong_16 : decode b_Mind_firstWrong 16 = .ok (.iload_n 3, 1) := by decide +kernel
theorem d_Mind_firstWrong_17 : decode b_Mind_firstWrong 17 = .ok (.if_icmp .ge 73, 3) := by decide +kernel
theorem d_Mind_firstWrong_20 : decode b_Mind_firstWrong 20 = .ok (.iload 5, 2) := by decide +kernel
theorem d_Mind_firstWrong_22 : decode b_Mind_firstWrong 22 = .ok (.aload_n 2, 1) := by decide +kernel
theorem d_Mind_firstWrong_23 : decode b_Mind_firstWrong 23 = .ok (.arraylength, 1) := by decide +kernel
theorem d_Mind_firstWrong_24 : decode b_Mind_firstWrong 24 = .ok (.if_icmp .ge 66, 3) := by decide +kernel
theorem d_Mind_firstWrong_27 : decode b_Mind_firstWrong 27 = .ok (.iload 4, 2) := by decide +kernel
theorem d_Mind_firstWrong_29 : decode b_Mind_firstWrong 29 = .ok (.ifCond .ne 11, 3) := by decide +kernel
theorem d_Mind_firstWrong_32 : decode b_Mind_firstWrong 32 = .ok (.aload_n 0, 1) := by decide +kernel
theorem d_Mind_firstWrong_33 : decode b_Mind_firstWrong 33 = .ok (.getfield 12, 3) := by decide +kernel
theorem d_Mind_firstWrong_36 : decode b_Mind_firstWrong 36 = .ok (.invokevirtual 43, 3) := by decide +kernel
theorem d_Mind_firstWrong_39 : decode b_Mind_firstWrong 39 = .ok (.pop, 1) := by decide +kernel
theorem d_Mind_firstWrong_40 : decode b_Mind_firstWrong 40 = .ok (.aload_n 2, 1) := by decide +kernel
theorem d_Mind_firstWrong_41 : decode b_Mind_firstWrong 41 = .ok (.iload 5, 2) := by decide +kernel
theorem d_Mind_firstWrong_43 : decode b_Mind_firstWrong 43 = .ok (.iaload, 1) := by decide +kernel
theorem d_Mind_firstWrong_44 : decode b_Mind_firstWrong 44 = .ok (.aload_n 0, 1) := by decide +kernel
theorem d_Mind_firstWrong_45 : decode b_Mind_firstWrong 45 = .ok (.getfield 12, 3) := by decide +kernel
theorem d_Mind_firstWrong_48 : decode b_Mind_firstWrong 48 = .ok (.getfield 33, 3) := by decide +kernel
theorem d_Mind_firstWrong_51 : decode b_Mind_firstWrong 51 = .ok (.iload 4, 2) := by decide +kernel
theorem d_Mind_firstWrong_53 : decode b_Mind_firstWrong 53 = .ok (.iaload, 1) := by decide +kernel
theorem d_Mind_firstWrong_54 : decode b_Mind_firstWrong 54 = .ok (.if_icmp .eq 6, 3) := by decide +kernel
theorem d_Mind_firstWrong_57 : decode b_Mind_firstWrong 57 = .ok (.iload 5, 2) := by decide +kernel
theorem d_Mind_firstWrong_59 : decode b_Mind_firstWrong 59 = .ok (.ireturn, 1) := by decide +kernel
theorem d_Mind_firstWrong_60 : decode b_Mind_firstWrong 60 = .ok (.iload 4, 2) := by decide +kernel
theorem d_Mind_firstWrong_62 : decode b_Mind_firstWrong 62 = .ok (.iconst 1, 1) := by decide +kernel
theorem d_Mind_firstWrong_63 : decode b_Mind_firstWrong 63 = .ok (.iadd, 1) := by decide +kernel
theorem d_Mind_firstWrong_64 : decode b_Mind_firstWrong 64 = .ok (.aload_n 0, 1) := by decide +kernel
theorem d_Mind_firstWrong_65 : decode b_Mind_firstWrong 65 = .ok (.getfield 12, 3) := by decide +kernel
theorem d_Mind_firstWrong_68 : decode b_Mind_firstWrong 68 = .ok (.getfield 74, 3) := by decide +kernel
theorem d_Mind_firstWrong_71 : decode b_Mind_firstWrong 71 = .ok (.if_icmp .ge 10, 3) := by decide +kernel
theorem d_Mind_firstWrong_74 : decode b_Mind_firstWrong 74 = .ok (.iload 4, 2) := by decide +kernel
theorem d_Mind_firstWrong_76 : decode b_Mind_firstWrong 76 = .ok (.iconst 1, 1) := by decide +kernel
theorem d_Mind_firstWrong_77 : decode b_Mind_firstWrong 77 = .ok (.iadd, 1) := by decide +kernel
theorem d_Mind_firstWrong_78 : decode b_Mind_firstWrong 78 = .ok (.goto 4, 3) := by decide +kernel
theorem d_Mind_firstWrong_81 : decode b_Mind_firstWrong 81 = .ok (.iconst 0, 1) := by decide +kernel
theorem d_Mind_firstWrong_82 : decode b_Mind_firstWrong 82 = .ok (.istore 4, 2) := by decide +kernel
theorem d_Mind_firstWrong_84 : decode b_Mind_firstWrong 84 = .ok (.iinc 5 1, 3) := by decide +kernel
theorem d_Mind_firstWrong_87 : decode b_Mind_firstWrong 87 = .ok (.goto (-73), 3) := by decide +kernel
theorem d_Mind_firstWrong_90 : decode b_Mind_firstWrong 90 = .ok (.bipush (-9), 2) := by decide +kernel
theorem d_Mind_firstWrong_92 : decode b_Mind_firstWrong 92 = .ok (.ireturn, 1) := by decide +kernel
set_option maxHeartbeats 4000000 in
set_option maxRecDepth 100000 in
theorem c_Mind_firstWrong {l : Launch} {D : va_G} {cI cJ cC : ClassId} (a_h a_h_one a_h_two a_h_one_kinds a_h_one_sweets a_h_one_settings a_h_one_heaps a_g1 a_g1_kinds a_g1_sweets a_g1_settings a_g1_heaps a_g2 : Nat) (y_h_seed : Int32) {z_h_one : RS} {z_g1 : RS} {z_g2 : (Nat → Int32)} {x3 : Int32} {q : Int32 × RS} (hf : f_Mind_firstWrong z_h_one z_g1 z_g2 x3 = some q) : xI l y_Mind_firstWrong b_Mind_firstWrong 6 .int 4 89 D (tyK cI cJ cC) xE0 [.ref a_h, .ref a_g1, .ref a_g2, .int x3] (w_Mind_firstWrong cI cJ cC a_h a_h_one a_h_two a_h_one_kinds a_h_one_sweets a_h_one_settings a_h_one_heaps a_g1 a_g1_kinds a_g1_sweets a_g1_settings a_g1_heaps a_g2 y_h_seed (r_children z_h_one) (r_strokes z_h_one) (r_gave z_h_one) (r_threw z_h_one) (r_kinds z_h_one) (r_sweets z_h_one) (r_settings z_h_one) (r_heaps z_h_one) (r_children z_g1) (r_strokes z_g1) (r_gave z_g1) (r_threw z_g1) (r_kinds z_g1) (r_sweets z_g1) (r_settings z_g1) z_g2) q.1 (w_Mind_firstWrong cI cJ cC a_h a_h_one a_h_two a_h_one_kinds a_h_one_sweets a_h_one_settings a_h_one_heaps a_g1 a_g1_kinds a_g1_sweets a_g1_settings a_g1_heaps a_g2 y_h_seed (r_children q.2) (r_strokes q.2) (r_gave q.2) (r_threw q.2) (r_kinds q.2) (r_sweets q.2) (r_settings q.2) (r_heaps q.2) (r_children z_g1) (r_strokes z_g1) (r_gave z_g1) (r_threw z_g1) (r_kinds z_g1) (r_sweets z_g1) (r_settings z_g1) z_g2) := by
  refine xI_of (by decide) (Nat.le_of_ble_eq_true rfl) ?_
  intro p e s m args below meth c A Q hx hb hml hown hT hA hP hD hK hS hE hret ls hl
  have hown : s.vm.findClass R_Mind = some m.cls := hown
  have hl : lv_has ls 6 [(0, .ref a_h), (1, .ref a_g1), (2, .ref a_g2), (3, .int x3)] := hl
  unfold f_Mind_firstWrong at hf
  have L14 : ∀ (n : Nat) (z_h_one : RS) (x4 : Int32) (x5 : Int32) (H : Heap) (locs : List Loc) (ls : Array Slot), f_Mind_firstWrong_L14 z_g2 x3 n z_h_one x4 x5 = some q → va_P D classes (w_Mind_firstWrong cI cJ cC a_h a_h_one a_h_two a_h_one_kinds a_h_one_sweets a_h_one_settings a_h_one_heaps a_g1 a_g1_kinds a_g1_sweets a_g1_settings a_g1_heaps a_g2 y_h_seed (r_children z_h_one) (r_strokes z_h_one) (r_gave z_h_one) (r_threw z_h_one) (r_kinds z_h_one) (r_sweets z_h_one) (r_settings z_h_one) (r_heaps z_h_one) (r_children z_g1) (r_strokes z_g1) (r_gave z_g1) (r_threw z_g1) (r_kinds z_g1) (r_sweets z_g1) (r_settings z_g1) z_g2) H → va_D A (w_Mind_firstWrong cI cJ cC a_h a_h_one a_h_two a_h_one_kinds a_h_one_sweets a_h_one_settings a_h_one_heaps a_g1 a_g1_kinds a_g1_sweets a_g1_settings a_g1_heaps a_g2 y_h_seed (r_children z_h_one) (r_strokes z_h_one) (r_gave z_h_one) (r_threw z_h_one) (r_kinds z_h_one) (r_sweets z_h_one) (r_settings z_h_one) (r_heaps z_h_one) (r_children z_g1) (r_strokes z_g1) (r_gave z_g1) (r_threw z_g1) (r_kinds z_g1) (r_sweets z_g1) (r_settings z_g1) z_g2) → va_S A s.heap H locs → lv_has ls 6 [(0, .ref a_h), (2, .ref a_g2), (3, .int x3), (4, .int x4), (5, .int x5)] → W p l e (xRm 4 89) s m args below meth c H locs 0 0 Q (F0 m 14 ls []) := by
    intro n
    induction n with
    | zero => intro z_h_one x4 x5 H locs ls hf hP hD hS hl; exact nomatch (show (none : Option (Int32 × RS)) = some q from hf)
    | succ n ih =>
      intro z_h_one x4 x5 H locs ls hf hP hD hS hl
      refine lv_iload hx hb d_Mind_firstWrong_14 (lv_at hl 4 rfl) ?_
      refine lv_iload_n hx hb d_Mind_firstWrong_16 rfl (lv_at hl 2 rfl) ?_
      refine lv_icmp_ge (tgt := 90) hx hb d_Mind_firstWrong_17 (by decide) (fun c2 => ?_) (fun c2 => ?_)
      · have hf := io_t hf c2
        refine lv_bipush (v := (-9)) hx hb d_Mind_firstWrong_90 (by decide) ?_
        have hq := Option.some.inj hf
        subst hq
        exact hret _ _ _ _ _ d_Mind_firstWrong_92 rfl rfl hP hD hS
      · have hf := io_f hf c2
        refine lv_iload hx hb d_Mind_firstWrong_20 (lv_at hl 4 rfl) ?_
        refine lv_aload_n hx hb d_Mind_firstWrong_22 rfl (lv_at hl 1 rfl) ?_
        refine va_alen (v := 24) hx hb hK hP 10 0 rfl rfl rfl d_Mind_firstWrong_23 ?_
        refine lv_icmp_ge (tgt := 90) hx hb d_Mind_firstWrong_24 (by decide) (fun c3 => ?_) (fun c3 => ?_)
        · have hf := io_t hf c3
          refine lv_bipush (v := (-9)) hx hb d_Mind_firstWrong_90 (by decide) ?_
          have hq := Option.some.inj hf
          subst hq
          exact hret _ _ _ _ _ d_Mind_firstWrong_92 rfl rfl hP hD hS
        · have hf := io_f hf c3
          refine lv_iload hx hb d_Mind_firstWrong_27 (lv_at hl 3 rfl) ?_
          refine lv_if_ne (tgt := 40) hx hb d_Mind_firstWrong_29 (by decide) (fun c4 => ?_) (fun c4 => ?_)
          · have hf := io_f hf c4
            refine lv_aload_n hx hb d_Mind_firstWrong_40 rfl (lv_at hl 1 rfl) ?_
            refine lv_iload hx hb d_Mind_firstWrong_41 (lv_at hl 4 rfl) ?_
            obtain ⟨c5, hf⟩ := io_n hf
            refine x_iald hx hb hK hP 10 0 rfl rfl (j := x5.toNatClampNeg) rfl c5 d_Mind_firstWrong_43 ?_
            refine lv_aload_n hx hb d_Mind_firstWrong_44 rfl (lv_at hl 0 rfl) ?_
            refine va_get hx hb hT i_Mind hown hK hP 0 rfl rfl 0 (Nat.le_of_ble_eq_true rfl) (hT _ k_106) (fun _ h => h) rfl d_Mind_firstWrong_45 ?_
            refine va_get hx hb hT i_Ring hown hK hP 1 rfl rfl 1 (Nat.le_of_ble_eq_true rfl) (hT _ k_36) (fun _ h => h) rfl d_Mind_firstWrong_48 ?_
            refine lv_iload hx hb d_Mind_firstWrong_51 (lv_at hl 3 rfl) ?_
            obtain ⟨c6, hf⟩ := io_n hf
            refine x_iald hx hb hK hP 3 0 rfl rfl (j := x4.toNatClampNeg) rfl c6 d_Mind_firstWrong_53 ?_
            refine lv_icmp_eq (tgt := 60) hx hb d_Mind_firstWrong_54 (by decide) (fun c7 => ?_) (fun c7 => ?_)
            · have hf := io_t hf c7
              refine lv_iload hx hb d_Mind_firstWrong_60 (lv_at hl 3 rfl) ?_
              refine lv_iconst (v := 1) hx hb d_Mind_firstWrong_62 (by decide) ?_
              refine lv_iadd hx hb d_Mind_firstWrong_63 ?_
              refine lv_aload_n hx hb d_Mind_firstWrong_64 rfl (lv_at hl 0 rfl) ?_
              refine va_get hx hb hT i_Mind hown hK hP 0 rfl rfl 0 (Nat.le_of_ble_eq_true rfl) (hT _ k_106) (fun _ h => h) rfl d_Mind_firstWrong_65 ?_
              refine va_get hx hb hT i_Ring hown hK hP 1 rfl rfl 3 (Nat.le_of_ble_eq_true rfl) (hT _ k_49) (fun _ h => h) rfl d_Mind_firstWrong_68 ?_
              refine lv_icmp_ge (tgt := 81) hx hb d_Mind_firstWrong_71 (by decide) (fun c8 => ?_) (fun c8 => ?_)
              · have hf := io_t hf c8
                refine lv_iconst (v := 0) hx hb d_Mind_firstWrong_81 (by decide) ?_
                refine lv_istore (lv' := [(4, .int 0), (0, .ref a_h), (2, .ref a_g2), (3, .int x3), (5, .int x5)]) hx hb d_Mind_firstWrong_82 hl (by decide) rfl (fun ls hl => ?_)
                refine lv_iinc (v := (x5 + 1)) (lv' := [(5, .int (x5 + 1)), (4, .int 0), (0, .ref a_h), (2, .ref a_g2), (3, .int x3)]) hx hb d_Mind_firstWrong_84 hl (k := 4) rfl (by rfl) (by decide) rfl (fun ls hl => ?_)
                refine lv_goto (tgt := 14) hx hb d_Mind_firstWrong_87 (by decide) ?_
                exact ih z_h_one 0 (x5 + 1) _ _ _ hf hP hD hS (lv_sub hl [2, 3, 4, 1, 0] rfl)
              · have hf := io_f hf c8
                refine lv_iload hx hb d_Mind_firstWrong_74 (lv_at hl 3 rfl) ?_
                refine lv_iconst (v := 1) hx hb d_Mind_firstWrong_76 (by decide) ?_
                refine lv_iadd hx hb d_Mind_firstWrong_77 ?_
                refine lv_goto (tgt := 82) hx hb d_Mind_firstWrong_78 (by decide) ?_
                refine lv_istore (lv' := [(4, .int (x4 + 1)), (0, .ref a_h), (2, .ref a_g2), (3, .int x3), (5, .int x5)]) hx hb d_Mind_firstWrong_82 hl (by decide) rfl (fun ls hl => ?_)
                refine lv_iinc (v := (x5 + 1)) (lv' := [(5, .int (x5 + 1)), (4, .int (x4 + 1)), (0, .ref a_h), (2, .ref a_g2), (3, .int x3)]) hx hb d_Mind_firstWrong_84 hl (k := 4) rfl (by rfl) (by decide) rfl (fun ls hl => ?_)
                refine lv_goto (tgt := 14) hx hb d_Mind_firstWrong_87 (by decide) ?_
                exact ih z_h_one (x4 + 1) (x5 + 1) _ _ _ hf hP hD hS (lv_sub hl [2, 3, 4, 1, 0] rfl)
            · have hf := io_f hf c7
              refine lv_iload hx hb d_Mind_firstWrong_57 (lv_at hl 4 rfl) ?_
              have hq := Option.some.inj hf
              subst hq
              exact hret _ _ _ _ _ d_Mind_firstWrong_59 rfl rfl hP hD hS
          · have hf := io_t hf c4
            refine lv_aload_n hx hb d_Mind_firstWrong_32 rfl (lv_at hl 0 rfl) ?_
            refine va_get hx hb hT i_Mind hown hK hP 0 rfl rfl 0 (Nat.le_of_ble_eq_true rfl) (hT _ k_106) (fun _ h => h) rfl d_Mind_firstWrong_33 ?_
            obtain ⟨q9, hq9, hf⟩ := io_b hf
            refine xcVI (wc := (w_Ring_strike cI cJ cC a_h_one a_h_one_kinds a_h_one_sweets a_h_one_settings a_h_one_heaps (r_children z_h_one) (r_strokes z_h_one) (r_gave z_h_one) (r_threw z_h_one) (r_kinds z_h_one) (r_sweets z_h_one) (r_settings z_h_one) (r_heaps z_h_one))) (wc' := (w_Ring_strike cI cJ cC a_h_one a_h_one_kinds a_h_one_sweets a_h_one_settings a_h_one_heaps (r_children q9.2) (r_strokes q9.2) (r_gave q9.2) (r_threw q9.2) (r_kinds q9.2) (r_sweets q9.2) (r_settings q9.2) (r_heaps q9.2))) (ws' := (w_Mind_firstWrong cI cJ cC a_h a_h_one a_h_two a_h_one_kinds a_h_one_sweets a_h_one_settings a_h_one_heaps a_g1 a_g1_kinds a_g1_sweets a_g1_settings a_g1_heaps a_g2 y_h_seed (r_children q9.2) (r_strokes q9.2) (r_gave q9.2) (r_threw q9.2) (r_kinds q9.2) (r_sweets q9.2) (r_settings q9.2) (r_heaps q9.2) (r_children z_g1) (r_strokes z_g1) (r_gave z_g1) (r_threw z_g1) (r_kinds z_g1) (r_sweets z_g1) (r_settings z_g1) z_g2)) (As := []) (rest := []) hx hb hml hown hT (c_Ring_strike (z_h := z_h_one) a_h_one a_h_one_kinds a_h_one_sweets a_h_one_settings a_h_one_heaps hq9) k_470 k_417 k_418 k_2 k_419 hd_Ring_strike ⟨Nat.le_of_ble_eq_true rfl, Nat.le_of_ble_eq_true rfl⟩ xE0_ok trivial hA hK hP hD hS [1, 2, 3, 4, 5] [0, 6, 7, 8, 9, 10] [0, 6, 7, 8, 9, 10, 1, 2, 3, 4, 5] rfl rfl rfl rfl rfl rfl rfl rfl rfl rfl hl.1 rfl (Nat.le_of_ble_eq_true rfl) ⟨Nat.zero_le _, Nat.zero_le _⟩ d_Mind_firstWrong_36 (fun H locs hP hD hS => ?_)
            refine lv_pop hx hb d_Mind_firstWrong_39 rfl ?_
            refine lv_aload_n hx hb d_Mind_firstWrong_40 rfl (lv_at hl 1 rfl) ?_
            refine lv_iload hx hb d_Mind_firstWrong_41 (lv_at hl 4 rfl) ?_
            obtain ⟨c10, hf⟩ := io_n hf
            refine x_iald hx hb hK hP 10 0 rfl rfl (j := x5.toNatClampNeg) rfl c10 d_Mind_firstWrong_43 ?_
            refine lv_aload_n hx hb d_Mind_firstWrong_44 rfl (lv_at hl 0 rfl) ?_
            refine va_get hx hb hT i_Mind hown hK hP 0 rfl rfl 0 (Nat.le_of_ble_eq_true rfl) (hT _ k_106) (fun _ h => h) rfl d_Mind_firstWrong_45 ?_
            refine va_get hx hb hT i_Ring hown hK hP 1 rfl rfl 1 (Nat.le_of_ble_eq_true rfl) (hT _ k_36) (fun _ h => h) rfl d_Mind_firstWrong_48 ?_
            refine lv_iload hx hb d_Mind_firstWrong_51 (lv_at hl 3 rfl) ?_
            obtain ⟨c11, hf⟩ := io_n hf
            refine x_iald hx hb hK hP 3 0 rfl rfl (j := x4.toNatClampNeg) rfl c11 d_Mind_firstWrong_53 ?_
            refine lv_icmp_eq (tgt := 60) hx hb d_Mind_firstWrong_54 (by decide) (fun c12 => ?_) (fun c12 => ?_)
            · have hf := io_t hf c12
              refine lv_iload hx hb d_Mind_firstWrong_60 (lv_at hl 3 rfl) ?_
              refine lv_iconst (v := 1) hx hb d_Mind_firstWrong_62 (by decide) ?_
              refine lv_iadd hx hb d_Mind_firstWrong_63 ?_
              refine lv_aload_n hx hb d_Mind_firstWrong_64 rfl (lv_at hl 0 rfl) ?_
              refine va_get hx hb hT i_Mind hown hK hP 0 rfl rfl 0 (Nat.le_of_ble_eq_true rfl) (hT _ k_106) (fun _ h => h) rfl d_Mind_firstWrong_65 ?_
              refine va_get hx hb hT i_Ring hown hK hP 1 rfl rfl 3 (Nat.le_of_ble_eq_true rfl) (hT _ k_49) (fun _ h => h) rfl d_Mind_firstWrong_68 ?_
              refine lv_icmp_ge (tgt := 81) hx hb d_Mind_firstWrong_71 (by decide) (fun c13 => ?_) (fun c13 => ?_)
              · have hf := io_t hf c13
                refine lv_iconst (v := 0) hx hb d_Mind_firstWrong_81 (by decide) ?_
                refine lv_istore (lv' := [(4, .int 0), (0, .ref a_h), (2, .ref a_g2), (3, .int x3), (5, .int x5)]) hx hb d_Mind_firstWrong_82 hl (by decide) rfl (fun ls hl => ?_)
                refine lv_iinc (v := (x5 + 1)) (lv' := [(5, .int (x5 + 1)), (4, .int 0), (0, .ref a_h), (2, .ref a_g2), (3, .int x3)]) hx hb d_Mind_firstWrong_84 hl (k := 4) rfl (by rfl) (by decide) rfl (fun ls hl => ?_)
                refine lv_goto (tgt := 14) hx hb d_Mind_firstWrong_87 (by decide) ?_
                exact ih q9.2 0 (x5 + 1) _ _ _ hf hP hD hS (lv_sub hl [2, 3, 4, 1, 0] rfl)
              · have hf := io_f hf c13
                refine lv_iload hx hb d_Mind_firstWrong_74 (lv_at hl 3 rfl) ?_
                refine lv_iconst (v := 1) hx hb d_Mind_firstWrong_76 (by decide) ?_
                refine lv_iadd hx hb d_Mind_firstWrong_77 ?_
                refine lv_goto (tgt := 82) hx hb d_Mind_firstWrong_78 (by decide) ?_
                refine lv_istore (lv' := [(4, .int (x4 + 1)), (0, .ref a_h), (2, .ref a_g2), (3, .int x3), (5, .int x5)]) hx hb d_Mind_firstWrong_82 hl (by decide) rfl (fun ls hl => ?_)
                refine lv_iinc (v := (x5 + 1)) (lv' := [(5, .int (x5 + 1)), (4, .int (x4 + 1)), (0, .ref a_h), (2, .ref a_g2), (3, .int x3)]) hx hb d_Mind_firstWrong_84 hl (k := 4) rfl (by rfl) (by decide) rfl (fun ls hl => ?_)
                refine lv_goto (tgt := 14) hx hb d_Mind_firstWrong_87 (by decide) ?_
                exact ih q9.2 (x4 + 1) (x5 + 1) _ _ _ hf hP hD hS (lv_sub hl [2, 3, 4, 1, 0] rfl)
            · have hf := io_f hf c12
              refine lv_iload hx hb d_Mind_firstWrong_57 (lv_at hl 4 rfl) ?_
              have hq := Option.some.inj hf
              subst hq
              exact hret _ _ _ _ _ d_Mind_firstWrong_59 rfl rfl hP hD hS
  refine lv_aload_n hx hb d_Mind_firstWrong_0 rfl (lv_at hl 0 rfl) ?_
  refine va_get hx hb hT i_Mind hown hK hP 0 rfl rfl 0 (Nat.le_of_ble_eq_true rfl) (hT _ k_106) (fun _ h => h) rfl d_Mind_firstWrong_1 ?_
  refine lv_aload_n hx hb d_Mind_firstWrong_4 rfl (lv_at hl 1 rfl) ?_
  obtain ⟨q1, hq1, hf⟩ := io_b hf
  refine xcVV (wc := (w_Ring_copyFrom cI cJ cC a_h_one a_h_one_kinds a_h_one_sweets a_h_one_settings a_h_one_heaps a_g1 a_g1_kinds a_g1_sweets a_g1_settings a_g1_heaps (r_children z_h_one) (r_strokes z_h_one) (r_gave z_h_one) (r_threw z_h_one) (r_kinds z_h_one) (r_sweets z_h_one) (r_settings z_h_one) (r_heaps z_h_one) (r_children z_g1) (r_strokes z_g1) (r_gave z_g1) (r_threw z_g1) (r_kinds z_g1) (r_sweets z_g1) (r_settings z_g1))) (wc' := (w_Ring_copyFrom cI cJ cC a_h_one a_h_one_kinds a_h_one_sweets a_h_one_settings a_h_one_heaps a_g1 a_g1_kinds a_g1_sweets a_g1_settings a_g1_heaps (r_children q1) (r_strokes q1) (r_gave q1) (r_threw q1) (r_kinds q1) (r_sweets q1) (r_settings q1) (r_heaps q1) (r_children z_g1) (r_strokes z_g1) (r_gave z_g1) (r_threw z_g1) (r_kinds z_g1) (r_sweets z_g1) (r_settings z_g1))) (ws' := (w_Mind_firstWrong cI cJ cC a_h a_h_one a_h_two a_h_one_kinds a_h_one_sweets a_h_one_settings a_h_one_heaps a_g1 a_g1_kinds a_g1_sweets a_g1_settings a_g1_heaps a_g2 y_h_seed (r_children q1) (r_strokes q1) (r_gave q1) (r_threw q1) (r_kinds q1) (r_sweets q1) (r_settings q1) (r_heaps q1) (r_children z_g1) (r_strokes z_g1) (r_gave z_g1) (r_threw z_g1) (r_kinds z_g1) (r_sweets z_g1) (r_settings z_g1) z_g2)) (As := [.ref a_g1]) (rest := []) hx hb hml hown hT (c_Ring_copyFrom (z_h := z_h_one) (z_g1 := z_g1) a_h_one a_h_one_kinds a_h_one_sweets a_h_one_settings a_h_one_heaps a_g1 a_g1_kinds a_g1_sweets a_g1_settings a_g1_heaps hq1) k_441 k_326 k_327 k_2 k_328 hd_Ring_copyFrom ⟨Nat.le_of_ble_eq_true rfl, Nat.le_of_ble_eq_true rfl⟩ xE0_ok trivial hA hK hP hD hS [1, 2, 3, 4, 5, 6, 7, 8, 9] [0, 10] [0, 2, 3, 4, 5, 6, 7, 8, 9, 10, 1] rfl rfl rfl rfl rfl rfl rfl rfl rfl rfl hl.1 rfl (Nat.le_of_ble_eq_true rfl) ⟨Nat.zero_le _, Nat.zero_le _⟩ d_Mind_firstWrong_5 (fun H locs hP hD hS => ?_)
  refine lv_iconst (v := 0) hx hb d_Mind_firstWrong_8 (by decide) ?_
  refine lv_istore (lv' := [(4, .int 0), (0, .ref a_h), (1, .ref a_g1), (2, .ref a_g2), (3, .int x3)]) hx hb d_Mind_firstWrong_9 hl (by decide) rfl (fun ls hl => ?_)
  refine lv_iconst (v := 0) hx hb d_Mind_firstWrong_11 (by decide) ?_
  refine lv_istore (lv' := [(5, .int 0), (4, .int 0), (0, .ref a_h), (1, .ref a_g1), (2, .ref a_g2), (3, .int x3)]) hx hb d_Mind_firstWrong_12 hl (by decide) rfl (fun ls hl => ?_)
  exact L14 FU q1 0 0 _ _ _ hf hP hD hS (lv_sub hl [2, 4, 5, 1, 0] rfl)
