/-! Contracts: Small. Printed by wip/whole/gen. -/
abbrev w_Crumbs_begin (cI cJ cC : ClassId) (a_h a_h_have a_h_next a_g1 a_g1_kinds a_g1_sweets a_g1_settings a_g1_heaps : Nat) (p_h_doublings : Int32) (p_h_have : (Nat → Int64)) (p_g1_children : Int32) (p_g1_strokes : Int32) (p_g1_gave : Int32) (p_g1_threw : Int32) (p_g1_sweets : (Nat → Int32)) : va_W := [(a_h, .inr (4, [.ref a_h_have, .ref a_h_next, .int p_h_doublings])), (a_h_have, .inl (cJ, (8, .inr (.inl p_h_have)))), (a_g1, .inr (1, [.ref a_g1_kinds, .ref a_g1_sweets, .ref a_g1_settings, .int p_g1_children, .int p_g1_strokes, .int p_g1_gave, .int p_g1_threw, .ref a_g1_heaps])), (a_g1_sweets, .inl (cI, (8, .inl p_g1_sweets)))]
theorem d_Crumbs_begin_0 : decode b_Crumbs_begin 0 = .ok (.aload_n 0, 1) := by decide +kernel
theorem d_Crumbs_begin_1 : decode b_Crumbs_begin 1 = .ok (.iconst 0, 1) := by decide +kernel
theorem d_Crumbs_begin_2 : decode b_Crumbs_begin 2 = .ok (.putfield 18, 3) := by decide +kernel
theorem d_Crumbs_begin_5 : decode b_Crumbs_begin 5 = .ok (.iconst 0, 1) := by decide +kernel
theorem d_Crumbs_begin_6 : decode b_Crumbs_begin 6 = .ok (.istore_n 2, 1) := by decide +kernel
theorem d_Crumbs_begin_7 : decode b_Crumbs_begin 7 = .ok (.iload_n 2, 1) := by decide +kernel
theorem d_Crumbs_begin_8 : decode b_Crumbs_begin 8 = .ok (.aload_n 1, 1) := by decide +kernel
theorem d_Crumbs_begin_9 : decode b_Crumbs_begin 9 = .ok (.getfield 29, 3) := by decide +kernel
theorem d_Crumbs_begin_12 : decode b_Crumbs_begin 12 = .ok (.if_icmp .ge 22, 3) := by decide +kernel
theorem d_Crumbs_begin_15 : decode b_Crumbs_begin 15 = .ok (.aload_n 0, 1) := by decide +kernel
theorem d_Crumbs_begin_16 : decode b_Crumbs_begin 16 = .ok (.getfield 9, 3) := by decide +kernel
theorem d_Crumbs_begin_19 : decode b_Crumbs_begin 19 = .ok (.iload_n 2, 1) := by decide +kernel
theorem d_Crumbs_begin_20 : decode b_Crumbs_begin 20 = .ok (.aload_n 1, 1) := by decide +kernel
theorem d_Crumbs_begin_21 : decode b_Crumbs_begin 21 = .ok (.getfield 34, 3) := by decide +kernel
theorem d_Crumbs_begin_24 : decode b_Crumbs_begin 24 = .ok (.iload_n 2, 1) := by decide +kernel
theorem d_Crumbs_begin_25 : decode b_Crumbs_begin 25 = .ok (.iaload, 1) := by decide +kernel
theorem d_Crumbs_begin_26 : decode b_Crumbs_begin 26 = .ok (.i2l, 1) := by decide +kernel
theorem d_Crumbs_begin_27 : decode b_Crumbs_begin 27 = .ok (.lastore, 1) := by decide +kernel
theorem d_Crumbs_begin_28 : decode b_Crumbs_begin 28 = .ok (.iinc 2 1, 3) := by decide +kernel
theorem d_Crumbs_begin_31 : decode b_Crumbs_begin 31 = .ok (.goto (-24), 3) := by decide +kernel
theorem d_Crumbs_begin_34 : decode b_Crumbs_begin 34 = .ok (.return_, 1) := by decide +kernel
set_option maxHeartbeats 4000000 in
set_option maxRecDepth 100000 in
theorem c_Crumbs_begin {l : Launch} {D : va_G} {cI cJ cC : ClassId} (a_h a_h_have a_h_next a_g1 a_g1_kinds a_g1_sweets a_g1_settings a_g1_heaps : Nat) {z_h_doublings : Int32} {z_h_have : (Nat → Int64)} {z_g1 : RS} {q : Int32 × (Nat → Int64)} (hf : f_Crumbs_begin z_h_doublings z_h_have z_g1 = some q) : xV l y_Crumbs_begin b_Crumbs_begin 3 0 0 D (tyK cI cJ cC) xE0 [.ref a_h, .ref a_g1] (w_Crumbs_begin cI cJ cC a_h a_h_have a_h_next a_g1 a_g1_kinds a_g1_sweets a_g1_settings a_g1_heaps z_h_doublings z_h_have (r_children z_g1) (r_strokes z_g1) (r_gave z_g1) (r_threw z_g1) (r_sweets z_g1)) (w_Crumbs_begin cI cJ cC a_h a_h_have a_h_next a_g1 a_g1_kinds a_g1_sweets a_g1_settings a_g1_heaps q.1 q.2 (r_children z_g1) (r_strokes z_g1) (r_gave z_g1) (r_threw z_g1) (r_sweets z_g1)) := by
  refine xV_of (by decide) (Nat.le_of_ble_eq_true rfl) ?_
  intro p e s m args below meth c A Q hx hb hml hown hT hA hP hD hK hS hE hret ls hl
  have hown : s.vm.findClass R_Crumbs = some m.cls := hown
  have hl : lv_has ls 3 [(0, .ref a_h), (1, .ref a_g1)] := hl
  unfold f_Crumbs_begin at hf
  have L7 : ∀ (z_h_doublings : Int32), ∀ (n : Nat) (z_h_have : (Nat → Int64)) (x2 : Int32) (H : Heap) (locs : List Loc) (ls : Array Slot), f_Crumbs_begin_L7 z_h_doublings z_g1 n z_h_have x2 = some q → va_P D classes (w_Crumbs_begin cI cJ cC a_h a_h_have a_h_next a_g1 a_g1_kinds a_g1_sweets a_g1_settings a_g1_heaps z_h_doublings z_h_have (r_children z_g1) (r_strokes z_g1) (r_gave z_g1) (r_threw z_g1) (r_sweets z_g1)) H → va_D A (w_Crumbs_begin cI cJ cC a_h a_h_have a_h_next a_g1 a_g1_kinds a_g1_sweets a_g1_settings a_g1_heaps z_h_doublings z_h_have (r_children z_g1) (r_strokes z_g1) (r_gave z_g1) (r_threw z_g1) (r_sweets z_g1)) → va_S A s.heap H locs → lv_has ls 3 [(0, .ref a_h), (1, .ref a_g1), (2, .int x2)] → W p l e (xRm 0 0) s m args below meth c H locs 0 0 Q (F0 m 7 ls []) := by
    intro z_h_doublings n
    induction n with
    | zero => intro z_h_have x2 H locs ls hf hP hD hS hl; exact nomatch (show (none : Option (Int32 × (Nat → Int64))) = some q from hf)
    | succ n ih =>
      intro z_h_have x2 H locs ls hf hP hD hS hl
      refine lv_iload_n hx hb d_Crumbs_begin_7 rfl (lv_at hl 2 rfl) ?_
      refine lv_aload_n hx hb d_Crumbs_begin_8 rfl (lv_at hl 1 rfl) ?_
      refine va_get hx hb hT i_Ring hown hK hP 2 rfl rfl 3 (Nat.le_of_ble_eq_true rfl) (hT _ k_47) (fun _ h => h) rfl d_Crumbs_begin_9 ?_
      refine lv_icmp_ge (tgt := 34) hx hb d_Crumbs_begin_12 (by decide) (fun c1 => ?_) (fun c1 => ?_)
      · have hf := io_t hf c1
        have hq := Option.some.inj hf
        subst hq
        exact hret _ _ _ _ d_Crumbs_begin_34 hP hD hS
      · have hf := io_f hf c1
        refine lv_aload_n hx hb d_Crumbs_begin_15 rfl (lv_at hl 0 rfl) ?_
        refine va_get hx hb hT i_Crumbs hown hK hP 0 rfl rfl 0 (Nat.le_of_ble_eq_true rfl) (hT _ k_122) (fun _ h => h) rfl d_Crumbs_begin_16 ?_
        refine lv_iload_n hx hb d_Crumbs_begin_19 rfl (lv_at hl 2 rfl) ?_
        refine lv_aload_n hx hb d_Crumbs_begin_20 rfl (lv_at hl 1 rfl) ?_
        refine va_get hx hb hT i_Ring hown hK hP 2 rfl rfl 1 (Nat.le_of_ble_eq_true rfl) (hT _ k_38) (fun _ h => h) rfl d_Crumbs_begin_21 ?_
        refine lv_iload_n hx hb d_Crumbs_begin_24 rfl (lv_at hl 2 rfl) ?_
        obtain ⟨c2, hf⟩ := io_n hf
        refine x_iald hx hb hK hP 3 0 rfl rfl (j := x2.toNatClampNeg) rfl c2 d_Crumbs_begin_25 ?_
        refine lv_i2l (v := (((r_sweets z_g1) x2.toNatClampNeg).toInt64)) hx hb d_Crumbs_begin_26 rfl ?_
        refine x_last hx hb hK hP hD hS 1 1 rfl rfl (j := x2.toNatClampNeg) rfl c2 d_Crumbs_begin_27 (fun H locs hP hD hS => ?_)
        have hP : va_P D classes (w_Crumbs_begin cI cJ cC a_h a_h_have a_h_next a_g1 a_g1_kinds a_g1_sweets a_g1_settings a_g1_heaps z_h_doublings (vp_updL z_h_have x2.toNatClampNeg (((r_sweets z_g1) x2.toNatClampNeg).toInt64)) (r_children z_g1) (r_strokes z_g1) (r_gave z_g1) (r_threw z_g1) (r_sweets z_g1)) H := hP
        have hD : va_D A (w_Crumbs_begin cI cJ cC a_h a_h_have a_h_next a_g1 a_g1_kinds a_g1_sweets a_g1_settings a_g1_heaps z_h_doublings (vp_updL z_h_have x2.toNatClampNeg (((r_sweets z_g1) x2.toNatClampNeg).toInt64)) (r_children z_g1) (r_strokes z_g1) (r_gave z_g1) (r_threw z_g1) (r_sweets z_g1)) := hD
        refine lv_iinc (v := (x2 + 1)) (lv' := [(2, .int (x2 + 1)), (0, .ref a_h), (1, .ref a_g1)]) hx hb d_Crumbs_begin_28 hl (k := 2) rfl (by rfl) (by decide) rfl (fun ls hl => ?_)
        refine lv_goto (tgt := 7) hx hb d_Crumbs_begin_31 (by decide) ?_
        exact ih (vp_updL z_h_have x2.toNatClampNeg (((r_sweets z_g1) x2.toNatClampNeg).toInt64)) (x2 + 1) _ _ _ hf hP hD hS (lv_sub hl [1, 2, 0] rfl)
  refine lv_aload_n hx hb d_Crumbs_begin_0 rfl (lv_at hl 0 rfl) ?_
  refine lv_iconst (v := 0) hx hb d_Crumbs_begin_1 (by decide) ?_
  refine va_put (ty := .int) hx hb hT i_Crumbs t_Crumbs t_Crumbs_ok n_Crumbs hown hK hP hD hS 0 rfl rfl 2 (Nat.le_of_ble_eq_true rfl) (hT _ k_124) (fun _ h => h) rfl rfl rfl rfl (Nat.le_of_ble_eq_true rfl) d_Crumbs_begin_2 (fun H locs hP hD hS => ?_)
  have hP : va_P D classes (w_Crumbs_begin cI cJ cC a_h a_h_have a_h_next a_g1 a_g1_kinds a_g1_sweets a_g1_settings a_g1_heaps 0 z_h_have (r_children z_g1) (r_strokes z_g1) (r_gave z_g1) (r_threw z_g1) (r_sweets z_g1)) H := hP
  have hD : va_D A (w_Crumbs_begin cI cJ cC a_h a_h_have a_h_next a_g1 a_g1_kinds a_g1_sweets a_g1_settings a_g1_heaps 0 z_h_have (r_children z_g1) (r_strokes z_g1) (r_gave z_g1) (r_threw z_g1) (r_sweets z_g1)) := hD
  refine lv_iconst (v := 0) hx hb d_Crumbs_begin_5 (by decide) ?_
  refine lv_istore_n (lv' := [(2, .int 0), (0, .ref a_h), (1, .ref a_g1)]) hx hb d_Crumbs_begin_6 rfl hl (by decide) rfl (fun ls hl => ?_)
  exact L7 0 FU z_h_have 0 _ _ _ hf hP hD hS (lv_sub hl [1, 2, 0] rfl)
abbrev w_Crumbs_advance (cI cJ cC : ClassId) (a_h a_h_have a_h_next a_g1 a_g1_kinds a_g1_sweets a_g1_settings a_g1_heaps : Nat) (p_h_doublings : Int32) (p_h_have : (Nat → Int64)) (p_h_next : (Nat → Int64)) (p_g1_children : Int32) (p_g1_strokes : Int32) (p_g1_gave : Int32) (p_g1_threw : Int32) (p_g1_settings : (Nat → Int32)) : va_W := [(a_h, .inr (4, [.ref a_h_have, .ref a_h_next, .int p_h_doublings])), (a_h_have, .inl (cJ, (8, .inr (.inl p_h_have)))), (a_h_next, .inl (cJ, (8, .inr (.inl p_h_next)))), (a_g1, .inr (1, [.ref a_g1_kinds, .ref a_g1_sweets, .ref a_g1_settings, .int p_g1_children, .int p_g1_strokes, .int p_g1_gave, .int p_g1_threw, .ref a_g1_heaps])), (a_g1_settings, .inl (cI, (3, .inl p_g1_settings)))]
theorem d_Crumbs_advance_0 : decode b_Crumbs_advance 0 = .ok (.iconst 0, 1) := by decide +kernel
theorem d_Crumbs_advance_1 : decode b_Crumbs_advance 1 = .ok (.istore_n 2, 1) := by decide +kernel
theorem d_Crumbs_advance_2 : decode b_Crumbs_advance 2 = .ok (.iload_n 2, 1) := by decide +kernel
theorem d_Crumbs_advance_3 : decode b_Crumbs_advance 3 = .ok (.aload_n 1, 1) := by decide +kernel
theorem d_Crumbs_advance_4 : decode b_Crumbs_advance 4 = .ok (.getfield 29, 3) := by decide +kernel
theorem d_Crumbs_advance_7 : decode b_Crumbs_advance 7 = .ok (.if_icmp .ge 32, 3) := by decide +kernel
theorem d_Crumbs_advance_10 : decode b_Crumbs_advance 10 = .ok (.aload_n 0, 1) := by decide +kernel
theorem d_Crumbs_advance_11 : decode b_Crumbs_advance 11 = .ok (.getfield 15, 3) := by decide +kernel
theorem d_Crumbs_advance_14 : decode b_Crumbs_advance 14 = .ok (.iload_n 2, 1) := by decide +kernel
theorem d_Crumbs_advance_15 : decode b_Crumbs_advance 15 = .ok (.aload_n 0, 1) := by decide +kernel
theorem d_Crumbs_advance_16 : decode b_Crumbs_advance 16 = .ok (.getfield 9, 3) := by decide +kernel
theorem d_Crumbs_advance_19 : decode b_Crumbs_advance 19 = .ok (.iload_n 2, 1) := by decide +kernel
theorem d_Crumbs_advance_20 : decode b_Crumbs_advance 20 = .ok (.laload, 1) := by decide +kernel
theorem d_Crumbs_advance_21 : decode b_Crumbs_advance 21 = .ok (.aload_n 0, 1) := by decide +kernel
theorem d_Crumbs_advance_22 : decode b_Crumbs_advance 22 = .ok (.getfield 9, 3) := by decide +kernel
theorem d_Crumbs_advance_25 : decode b_Crumbs_advance 25 = .ok (.aload_n 1, 1) := by decide +kernel
theorem d_Crumbs_advance_26 : decode b_Crumbs_advance 26 = .ok (.iload_n 2, 1) := by decide +kernel
theorem d_Crumbs_advance_27 : decode b_Crumbs_advance 27 = .ok (.invokevirtual 38, 3) := by decide +kernel
theorem d_Crumbs_advance_30 : decode b_Crumbs_advance 30 = .ok (.laload, 1) := by decide +kernel
theorem d_Crumbs_advance_31 : decode b_Crumbs_advance 31 = .ok (.ladd, 1) := by decide +kernel
theorem d_Crumbs_advance_32 : decode b_Crumbs_advance 32 = .ok (.lastore, 1) := by decide +kernel
theorem d_Crumbs_advance_33 : decode b_Crumbs_advance 33 = .ok (.iinc 2 1, 3) := by decide +kernel
theorem d_Crumbs_advance_36 : decode b_Crumbs_advance 36 = .ok (.goto (-34), 3) := by decide +kernel
theorem d_Crumbs_advance_39 : decode b_Crumbs_advance 39 = .ok (.aload_n 0, 1) := by decide +kernel
theorem d_Crumbs_advance_40 : decode b_Crumbs_advance 40 = .ok (.getfield 15, 3) := by decide +kernel
theorem d_Crumbs_advance_43 : decode b_Crumbs_advance 43 = .ok (.iconst 0, 1) := by decide +kernel
theorem d_Crumbs_advance_44 : decode b_Crumbs_advance 44 = .ok (.aload_n 0, 1) := by decide +kernel
theorem d_Crumbs_advance_45 : decode b_Crumbs_advance 45 = .ok (.getfield 9, 3) := by decide +kernel
theorem d_Crumbs_advance_48 : decode b_Crumbs_advance 48 = .ok (.iconst 0, 1) := by decide +kernel
theorem d_Crumbs_advance_49 : decode b_Crumbs_advance 49 = .ok (.bipush 8, 2) := by decide +kernel
theorem d_Crumbs_advance_51 : decode b_Crumbs_advance 51 = .ok (.invokestatic 42, 3) := by decide +kernel
theorem d_Crumbs_advance_54 : decode b_Crumbs_advance 54 = .ok (.aload_n 0, 1) := by decide +kernel
theorem d_Crumbs_advance_55 : decode b_Crumbs_advance 55 = .ok (.dup, 1) := by decide +kernel
theorem d_Crumbs_advance_56 : decode b_Crumbs_advance 56 = .ok (.getfield 18, 3) := by decide +kernel
theorem d_Crumbs_advance_59 : decode b_Crumbs_advance 59 = .ok (.iconst 1, 1) := by decide +kernel
theorem d_Crumbs_advance_60 : decode b_Crumbs_advance 60 = .ok (.iadd, 1) := by decide +kernel
theorem d_Crumbs_advance_61 : decode b_Crumbs_advance 61 = .ok (.putfield 18, 3) := by decide +kernel
theorem d_Crumbs_advance_64 : decode b_Crumbs_advance 64 = .ok (.return_, 1) := by decide +kernel
set_option maxHeartbeats 4000000 in
set_option maxRecDepth 100000 in
theorem c_Crumbs_advance {l : Launch} {D : va_G} {cI cJ cC : ClassId} (a_h a_h_have a_h_next a_g1 a_g1_kinds a_g1_sweets a_g1_settings a_g1_heaps : Nat) {z_h_doublings : Int32} {z_h_have : (Nat → Int64)} {z_h_next : (Nat → Int64)} {z_g1 : RS} {q : Int32 × (Nat → Int64) × (Nat → Int64)} (hf : f_Crumbs_advance z_h_doublings z_h_have z_h_next z_g1 = some q) : xV l y_Crumbs_advance b_Crumbs_advance 3 1 40 D (tyK cI cJ cC) xE0 [.ref a_h, .ref a_g1] (w_Crumbs_advance cI cJ cC a_h a_h_have a_h_next a_g1 a_g1_kinds a_g1_sweets a_g1_settings a_g1_heaps z_h_doublings z_h_have z_h_next (r_children z_g1) (r_strokes z_g1) (r_gave z_g1) (r_threw z_g1) (r_settings z_g1)) (w_Crumbs_advance cI cJ cC a_h a_h_have a_h_next a_g1 a_g1_kinds a_g1_sweets a_g1_settings a_g1_heaps q.1 q.2.1 q.2.2 (r_children z_g1) (r_strokes z_g1) (r_gave z_g1) (r_threw z_g1) (r_settings z_g1)) := by
  refine xV_of (by decide) (Nat.le_of_ble_eq_true rfl) ?_
  intro p e s m args below meth c A Q hx hb hml hown hT hA hP hD hK hS hE hret ls hl
  have hown : s.vm.findClass R_Crumbs = some m.cls := hown
  have hl : lv_has ls 3 [(0, .ref a_h), (1, .ref a_g1)] := hl
  unfold f_Crumbs_advance at hf
  have L2 : ∀ (z_h_doublings : Int32) (z_h_have : (Nat → Int64)) (k : (Nat → Int64) → Option (Int32 × (Nat → Int64) × (Nat → Int64))), (∀ (z_h_next : (Nat → Int64)) (H : Heap) (locs : List Loc) (ls : Array Slot), k z_h_next = some q → va_P D classes (w_Crumbs_advance cI cJ cC a_h a_h_have a_h_next a_g1 a_g1_kinds a_g1_sweets a_g1_settings a_g1_heaps z_h_doublings z_h_have z_h_next (r_children z_g1) (r_strokes z_g1) (r_gave z_g1) (r_threw z_g1) (r_settings z_g1)) H → va_D A (w_Crumbs_advance cI cJ cC a_h a_h_have a_h_next a_g1 a_g1_kinds a_g1_sweets a_g1_settings a_g1_heaps z_h_doublings z_h_have z_h_next (r_children z_g1) (r_strokes z_g1) (r_gave z_g1) (r_threw z_g1) (r_settings z_g1)) → va_S A s.heap H locs → lv_has ls 3 [(0, .ref a_h)] → W p l e (xRm 1 40) s m args below meth c H locs 0 0 Q (F0 m 39 ls [])) → ∀ (n : Nat) (z_h_next : (Nat → Int64)) (x2 : Int32) (H : Heap) (locs : List Loc) (ls : Array Slot), f_Crumbs_advance_L2 z_h_have z_g1 k n z_h_next x2 = some q → va_P D classes (w_Crumbs_advance cI cJ cC a_h a_h_have a_h_next a_g1 a_g1_kinds a_g1_sweets a_g1_settings a_g1_heaps z_h_doublings z_h_have z_h_next (r_children z_g1) (r_strokes z_g1) (r_gave z_g1) (r_threw z_g1) (r_settings z_g1)) H → va_D A (w_Crumbs_advance cI cJ cC a_h a_h_have a_h_next a_g1 a_g1_kinds a_g1_sweets a_g1_settings a_g1_heaps z_h_doublings z_h_have z_h_next (r_children z_g1) (r_strokes z_g1) (r_gave z_g1) (r_threw z_g1) (r_settings z_g1)) → va_S A s.heap H locs → lv_has ls 3 [(0, .ref a_h), (1, .ref a_g1), (2, .int x2)] → W p l e (xRm 1 40) s m args below meth c H locs 0 0 Q (F0 m 2 ls []) := by
    intro z_h_doublings z_h_have k hk n
    induction n with
    | zero => intro z_h_next x2 H locs ls hf hP hD hS hl; exact nomatch (show (none : Option (Int32 × (Nat → Int64) × (Nat → Int64))) = some q from hf)
    | succ n ih =>
      intro z_h_next x2 H locs ls hf hP hD hS hl
      refine lv_iload_n hx hb d_Crumbs_advance_2 rfl (lv_at hl 2 rfl) ?_
      refine lv_aload_n hx hb d_Crumbs_advance_3 rfl (lv_at hl 1 rfl) ?_
      refine va_get hx hb hT i_Ring hown hK hP 3 rfl rfl 3 (Nat.le_of_ble_eq_true rfl) (hT _ k_47) (fun _ h => h) rfl d_Crumbs_advance_4 ?_
      refine lv_icmp_ge (tgt := 39) hx hb d_Crumbs_advance_7 (by decide) (fun c1 => ?_) (fun c1 => ?_)
      · have hf := io_t hf c1
        exact hk z_h_next _ _ _ hf hP hD hS (lv_sub hl [0] rfl)
      · have hf := io_f hf c1
        refine lv_aload_n hx hb d_Crumbs_advance_10 rfl (lv_at hl 0 rfl) ?_
        refine va_get hx hb hT i_Crumbs hown hK hP 0 rfl rfl 1 (Nat.le_of_ble_eq_true rfl) (hT _ k_123) (fun _ h => h) rfl d_Crumbs_advance_11 ?_
        refine lv_iload_n hx hb d_Crumbs_advance_14 rfl (lv_at hl 2 rfl) ?_
        refine lv_aload_n hx hb d_Crumbs_advance_15 rfl (lv_at hl 0 rfl) ?_
        refine va_get hx hb hT i_Crumbs hown hK hP 0 rfl rfl 0 (Nat.le_of_ble_eq_true rfl) (hT _ k_122) (fun _ h => h) rfl d_Crumbs_advance_16 ?_
        refine lv_iload_n hx hb d_Crumbs_advance_19 rfl (lv_at hl 2 rfl) ?_
        obtain ⟨c2, hf⟩ := io_n hf
        refine x_lald hx hb hK hP 1 1 rfl rfl (j := x2.toNatClampNeg) rfl c2 d_Crumbs_advance_20 ?_
        refine lv_aload_n hx hb d_Crumbs_advance_21 rfl (lv_at hl 0 rfl) ?_
        refine va_get hx hb hT i_Crumbs hown hK hP 0 rfl rfl 0 (Nat.le_of_ble_eq_true rfl) (hT _ k_122) (fun _ h => h) rfl d_Crumbs_advance_22 ?_
        refine lv_aload_n hx hb d_Crumbs_advance_25 rfl (lv_at hl 1 rfl) ?_
        refine lv_iload_n hx hb d_Crumbs_advance_26 rfl (lv_at hl 2 rfl) ?_
        obtain ⟨q3, hq3, hf⟩ := io_b hf
        refine xcVI (wc := (w_Ring_rightOf cI cJ cC a_g1 a_g1_kinds a_g1_sweets a_g1_settings a_g1_heaps (r_children z_g1) (r_strokes z_g1) (r_gave z_g1) (r_threw z_g1) (r_settings z_g1))) (wc' := (w_Ring_rightOf cI cJ cC a_g1 a_g1_kinds a_g1_sweets a_g1_settings a_g1_heaps (r_children z_g1) (r_strokes z_g1) (r_gave z_g1) (r_threw z_g1) (r_settings z_g1))) (ws' := (w_Crumbs_advance cI cJ cC a_h a_h_have a_h_next a_g1 a_g1_kinds a_g1_sweets a_g1_settings a_g1_heaps z_h_doublings z_h_have z_h_next (r_children z_g1) (r_strokes z_g1) (r_gave z_g1) (r_threw z_g1) (r_settings z_g1))) (As := [.int x2]) (rest := [.ref a_h_have, .long (z_h_have x2.toNatClampNeg), .int x2, .ref a_h_next]) hx hb hml hown hT (c_Ring_rightOf (z_h := z_g1) a_g1 a_g1_kinds a_g1_sweets a_g1_settings a_g1_heaps hq3) k_532 k_425 k_426 k_2 k_427 hd_Ring_rightOf ⟨Nat.le_of_ble_eq_true rfl, Nat.le_of_ble_eq_true rfl⟩ xE0_ok trivial hA hK hP hD hS [3, 4] [0, 1, 2] [0, 1, 2, 3, 4] rfl rfl rfl rfl rfl rfl rfl rfl rfl rfl hl.1 rfl (Nat.le_of_ble_eq_true rfl) ⟨Nat.zero_le _, Nat.zero_le _⟩ d_Crumbs_advance_27 (fun H locs hP hD hS => ?_)
        obtain ⟨c4, hf⟩ := io_n hf
        refine x_lald hx hb hK hP 1 1 rfl rfl (j := q3.toNatClampNeg) rfl c4 d_Crumbs_advance_30 ?_
        refine lv_ladd hx hb d_Crumbs_advance_31 ?_
        refine x_last hx hb hK hP hD hS 2 1 rfl rfl (j := x2.toNatClampNeg) rfl c2 d_Crumbs_advance_32 (fun H locs hP hD hS => ?_)
        have hP : va_P D classes (w_Crumbs_advance cI cJ cC a_h a_h_have a_h_next a_g1 a_g1_kinds a_g1_sweets a_g1_settings a_g1_heaps z_h_doublings z_h_have (vp_updL z_h_next x2.toNatClampNeg ((z_h_have x2.toNatClampNeg) + (z_h_have q3.toNatClampNeg))) (r_children z_g1) (r_strokes z_g1) (r_gave z_g1) (r_threw z_g1) (r_settings z_g1)) H := hP
        have hD : va_D A (w_Crumbs_advance cI cJ cC a_h a_h_have a_h_next a_g1 a_g1_kinds a_g1_sweets a_g1_settings a_g1_heaps z_h_doublings z_h_have (vp_updL z_h_next x2.toNatClampNeg ((z_h_have x2.toNatClampNeg) + (z_h_have q3.toNatClampNeg))) (r_children z_g1) (r_strokes z_g1) (r_gave z_g1) (r_threw z_g1) (r_settings z_g1)) := hD
        refine lv_iinc (v := (x2 + 1)) (lv' := [(2, .int (x2 + 1)), (0, .ref a_h), (1, .ref a_g1)]) hx hb d_Crumbs_advance_33 hl (k := 2) rfl (by rfl) (by decide) rfl (fun ls hl => ?_)
        refine lv_goto (tgt := 2) hx hb d_Crumbs_advance_36 (by decide) ?_
        exact ih (vp_updL z_h_next x2.toNatClampNeg ((z_h_have x2.toNatClampNeg) + (z_h_have q3.toNatClampNeg))) (x2 + 1) _ _ _ hf hP hD hS (lv_sub hl [1, 2, 0] rfl)
  refine lv_iconst (v := 0) hx hb d_Crumbs_advance_0 (by decide) ?_
  refine lv_istore_n (lv' := [(2, .int 0), (0, .ref a_h), (1, .ref a_g1)]) hx hb d_Crumbs_advance_1 rfl hl (by decide) rfl (fun ls hl => ?_)
  refine L2 z_h_doublings z_h_have _ (fun z_h_next_5 H locs ls hf hP hD hS hl => ?_) FU z_h_next 0 _ _ _ hf hP hD hS (lv_sub hl [1, 2, 0] rfl)
  refine lv_aload_n hx hb d_Crumbs_advance_39 rfl (lv_at hl 0 rfl) ?_
  refine va_get hx hb hT i_Crumbs hown hK hP 0 rfl rfl 1 (Nat.le_of_ble_eq_true rfl) (hT _ k_123) (fun _ h => h) rfl d_Crumbs_advance_40 ?_
  refine lv_iconst (v := 0) hx hb d_Crumbs_advance_43 (by decide) ?_
  refine lv_aload_n hx hb d_Crumbs_advance_44 rfl (lv_at hl 0 rfl) ?_
  refine va_get hx hb hT i_Crumbs hown hK hP 0 rfl rfl 0 (Nat.le_of_ble_eq_true rfl) (hT _ k_122) (fun _ h => h) rfl d_Crumbs_advance_45 ?_
  refine lv_iconst (v := 0) hx hb d_Crumbs_advance_48 (by decide) ?_
  refine lv_bipush (v := 8) hx hb d_Crumbs_advance_49 (by decide) ?_
  refine x_copyl (j := 8) hx hb (hml.trans hl.1.symm) hown (hT _ k_533) (hT _ k_331) (hT _ k_330) (hT _ k_15) hK hP hD hS 2 1 1 1 rfl rfl rfl rfl rfl (by decide) (by decide) (by decide) (by decide +kernel) (by decide +kernel) (by decide +kernel) (fun _ _ => rfl) (Nat.le_of_ble_eq_true rfl) (by decide +kernel) d_Crumbs_advance_51 (fun H locs hP hD hS => ?_)
  have hP : va_P D classes (w_Crumbs_advance cI cJ cC a_h a_h_have a_h_next a_g1 a_g1_kinds a_g1_sweets a_g1_settings a_g1_heaps z_h_doublings (va_cpy z_h_next_5 z_h_have 0 0 8) z_h_next_5 (r_children z_g1) (r_strokes z_g1) (r_gave z_g1) (r_threw z_g1) (r_settings z_g1)) H := hP
  have hD : va_D A (w_Crumbs_advance cI cJ cC a_h a_h_have a_h_next a_g1 a_g1_kinds a_g1_sweets a_g1_settings a_g1_heaps z_h_doublings (va_cpy z_h_next_5 z_h_have 0 0 8) z_h_next_5 (r_children z_g1) (r_strokes z_g1) (r_gave z_g1) (r_threw z_g1) (r_settings z_g1)) := hD
  refine lv_aload_n hx hb d_Crumbs_advance_54 rfl (lv_at hl 0 rfl) ?_
  refine lv_dup hx hb d_Crumbs_advance_55 rfl ?_
  refine va_get hx hb hT i_Crumbs hown hK hP 0 rfl rfl 2 (Nat.le_of_ble_eq_true rfl) (hT _ k_124) (fun _ h => h) rfl d_Crumbs_advance_56 ?_
  refine lv_iconst (v := 1) hx hb d_Crumbs_advance_59 (by decide) ?_
  refine lv_iadd hx hb d_Crumbs_advance_60 ?_
  refine va_put (ty := .int) hx hb hT i_Crumbs t_Crumbs t_Crumbs_ok n_Crumbs hown hK hP hD hS 0 rfl rfl 2 (Nat.le_of_ble_eq_true rfl) (hT _ k_124) (fun _ h => h) rfl rfl rfl rfl (Nat.le_of_ble_eq_true rfl) d_Crumbs_advance_61 (fun H locs hP hD hS => ?_)
  have hP : va_P D classes (w_Crumbs_advance cI cJ cC a_h a_h_have a_h_next a_g1 a_g1_kinds a_g1_sweets a_g1_settings a_g1_heaps (z_h_doublings + 1) (va_cpy z_h_next_5 z_h_have 0 0 8) z_h_next_5 (r_children z_g1) (r_strokes z_g1) (r_gave z_g1) (r_threw z_g1) (r_settings z_g1)) H := hP
  have hD : va_D A (w_Crumbs_advance cI cJ cC a_h a_h_have a_h_next a_g1 a_g1_kinds a_g1_sweets a_g1_settings a_g1_heaps (z_h_doublings + 1) (va_cpy z_h_next_5 z_h_have 0 0 8) z_h_next_5 (r_children z_g1) (r_strokes z_g1) (r_gave z_g1) (r_threw z_g1) (r_settings z_g1)) := hD
  have hq := Option.some.inj hf
  subst hq
  exact hret _ _ _ _ d_Crumbs_advance_64 hP hD hS
abbrev w_Crumbs_take (cI cJ cC : ClassId) (a_h a_h_have a_h_next a_g1 a_g1_kinds a_g1_sweets a_g1_settings a_g1_heaps : Nat) (p_h_doublings : Int32) (p_h_have : (Nat → Int64)) (p_h_next : (Nat → Int64)) (p_g1_children : Int32) (p_g1_strokes : Int32) (p_g1_gave : Int32) (p_g1_threw : Int32) (p_g1_sweets : (Nat → Int32)) (p_g1_settings : (Nat → Int32)) : va_W := [(a_h, .inr (4, [.ref a_h_have, .ref a_h_next, .int p_h_doublings])), (a_h_have, .inl (cJ, (8, .inr (.inl p_h_have)))), (a_h_next, .inl (cJ, (8, .inr (.inl p_h_next)))), (a_g1, .inr (1, [.ref a_g1_kinds, .ref a_g1_sweets, .ref a_g1_settings, .int p_g1_children, .int p_g1_strokes, .int p_g1_gave, .int p_g1_threw, .ref a_g1_heaps])), (a_g1_sweets, .inl (cI, (8, .inl p_g1_sweets))), (a_g1_settings, .inl (cI, (3, .inl p_g1_settings)))]
theorem d_Crumbs_take_0 : decode b_Crumbs_take 0 = .ok (.aload_n 0, 1) := by decide +kernel
theorem d_Crumbs_take_1 : decode b_Crumbs_take 1 = .ok (.aload_n 1, 1) := by decide +kernel
theorem d_Crumbs_take_2 : decode b_Crumbs_take 2 = .ok (.invokevirtual 22, 3) := by decide +kernel
theorem d_Crumbs_take_5 : decode b_Crumbs_take 5 = .ok (.iconst 0, 1) := by decide +kernel
theorem d_Crumbs_take_6 : decode b_Crumbs_take 6 = .ok (.istore_n 3, 1) := by decide +kernel
theorem d_Crumbs_take_7 : decode b_Crumbs_take 7 = .ok (.iload_n 3, 1) := by decide +kernel
theorem d_Crumbs_take_8 : decode b_Crumbs_take 8 = .ok (.iload_n 2, 1) := by decide +kernel
theorem d_Crumbs_take_9 : decode b_Crumbs_take 9 = .ok (.if_icmp .ge 14, 3) := by decide +kernel
theorem d_Crumbs_take_12 : decode b_Crumbs_take 12 = .ok (.aload_n 0, 1) := by decide +kernel
theorem d_Crumbs_take_13 : decode b_Crumbs_take 13 = .ok (.aload_n 1, 1) := by decide +kernel
theorem d_Crumbs_take_14 : decode b_Crumbs_take 14 = .ok (.invokevirtual 26, 3) := by decide +kernel
theorem d_Crumbs_take_17 : decode b_Crumbs_take 17 = .ok (.iinc 3 1, 3) := by decide +kernel
theorem d_Crumbs_take_20 : decode b_Crumbs_take 20 = .ok (.goto (-13), 3) := by decide +kernel
theorem d_Crumbs_take_23 : decode b_Crumbs_take 23 = .ok (.return_, 1) := by decide +kernel
set_option maxHeartbeats 4000000 in
set_option maxRecDepth 100000 in
theorem c_Crumbs_take {l : Launch} {D : va_G} {cI cJ cC : ClassId} (a_h a_h_have a_h_next a_g1 a_g1_kinds a_g1_sweets a_g1_settings a_g1_heaps : Nat) {z_h_doublings : Int32} {z_h_have : (Nat → Int64)} {z_h_next : (Nat → Int64)} {z_g1 : RS} {x2 : Int32} {q : Int32 × (Nat → Int64) × (Nat → Int64)} (hf : f_Crumbs_take z_h_doublings z_h_have z_h_next z_g1 x2 = some q) : xV l y_Crumbs_take b_Crumbs_take 4 2 62 D (tyK cI cJ cC) xE0 [.ref a_h, .ref a_g1, .int x2] (w_Crumbs_take cI cJ cC a_h a_h_have a_h_next a_g1 a_g1_kinds a_g1_sweets a_g1_settings a_g1_heaps z_h_doublings z_h_have z_h_next (r_children z_g1) (r_strokes z_g1) (r_gave z_g1) (r_threw z_g1) (r_sweets z_g1) (r_settings z_g1)) (w_Crumbs_take cI cJ cC a_h a_h_have a_h_next a_g1 a_g1_kinds a_g1_sweets a_g1_settings a_g1_heaps q.1 q.2.1 q.2.2 (r_children z_g1) (r_strokes z_g1) (r_gave z_g1) (r_threw z_g1) (r_sweets z_g1) (r_settings z_g1)) := by
  refine xV_of (by decide) (Nat.le_of_ble_eq_true rfl) ?_
  intro p e s m args below meth c A Q hx hb hml hown hT hA hP hD hK hS hE hret ls hl
  have hown : s.vm.findClass R_Crumbs = some m.cls := hown
  have hl : lv_has ls 4 [(0, .ref a_h), (1, .ref a_g1), (2, .int x2)] := hl
  unfold f_Crumbs_take at hf
  have L7 : ∀ (n : Nat) (z_h_doublings : Int32) (z_h_have : (Nat → Int64)) (z_h_next : (Nat → Int64)) (x3 : Int32) (H : Heap) (locs : List Loc) (ls : Array Slot), f_Crumbs_take_L7 z_g1 x2 n z_h_doublings z_h_have z_h_next x3 = some q → va_P D classes (w_Crumbs_take cI cJ cC a_h a_h_have a_h_next a_g1 a_g1_kinds a_g1_sweets a_g1_settings a_g1_heaps z_h_doublings z_h_have z_h_next (r_children z_g1) (r_strokes z_g1) (r_gave z_g1) (r_threw z_g1) (r_sweets z_g1) (r_settings z_g1)) H → va_D A (w_Crumbs_take cI cJ cC a_h a_h_have a_h_next a_g1 a_g1_kinds a_g1_sweets a_g1_settings a_g1_heaps z_h_doublings z_h_have z_h_next (r_children z_g1) (r_strokes z_g1) (r_gave z_g1) (r_threw z_g1) (r_sweets z_g1) (r_settings z_g1)) → va_S A s.heap H locs → lv_has ls 4 [(0, .ref a_h), (1, .ref a_g1), (2, .int x2), (3, .int x3)] → W p l e (xRm 2 62) s m args below meth c H locs 0 0 Q (F0 m 7 ls []) := by
    intro n
    induction n with
    | zero => intro z_h_doublings z_h_have z_h_next x3 H locs ls hf hP hD hS hl; exact nomatch (show (none : Option (Int32 × (Nat → Int64) × (Nat → Int64))) = some q from hf)
    | succ n ih =>
      intro z_h_doublings z_h_have z_h_next x3 H locs ls hf hP hD hS hl
      refine lv_iload_n hx hb d_Crumbs_take_7 rfl (lv_at hl 3 rfl) ?_
      refine lv_iload_n hx hb d_Crumbs_take_8 rfl (lv_at hl 2 rfl) ?_
      refine lv_icmp_ge (tgt := 23) hx hb d_Crumbs_take_9 (by decide) (fun c2 => ?_) (fun c2 => ?_)
      · have hf := io_t hf c2
        have hq := Option.some.inj hf
        subst hq
        exact hret _ _ _ _ d_Crumbs_take_23 hP hD hS
      · have hf := io_f hf c2
        refine lv_aload_n hx hb d_Crumbs_take_12 rfl (lv_at hl 0 rfl) ?_
        refine lv_aload_n hx hb d_Crumbs_take_13 rfl (lv_at hl 1 rfl) ?_
        obtain ⟨q3, hq3, hf⟩ := io_b hf
        refine xcVV (wc := (w_Crumbs_advance cI cJ cC a_h a_h_have a_h_next a_g1 a_g1_kinds a_g1_sweets a_g1_settings a_g1_heaps z_h_doublings z_h_have z_h_next (r_children z_g1) (r_strokes z_g1) (r_gave z_g1) (r_threw z_g1) (r_settings z_g1))) (wc' := (w_Crumbs_advance cI cJ cC a_h a_h_have a_h_next a_g1 a_g1_kinds a_g1_sweets a_g1_settings a_g1_heaps q3.1 q3.2.1 q3.2.2 (r_children z_g1) (r_strokes z_g1) (r_gave z_g1) (r_threw z_g1) (r_settings z_g1))) (ws' := (w_Crumbs_take cI cJ cC a_h a_h_have a_h_next a_g1 a_g1_kinds a_g1_sweets a_g1_settings a_g1_heaps q3.1 q3.2.1 q3.2.2 (r_children z_g1) (r_strokes z_g1) (r_gave z_g1) (r_threw z_g1) (r_sweets z_g1) (r_settings z_g1))) (As := [.ref a_g1]) (rest := []) hx hb hml hown hT (c_Crumbs_advance (z_h_doublings := z_h_doublings) (z_h_have := z_h_have) (z_h_next := z_h_next) (z_g1 := z_g1) a_h a_h_have a_h_next a_g1 a_g1_kinds a_g1_sweets a_g1_settings a_g1_heaps hq3) k_528 k_530 ks_10 k_5 k_531 hd_Crumbs_advance ⟨Nat.le_of_ble_eq_true rfl, Nat.le_of_ble_eq_true rfl⟩ xE0_ok trivial hA hK hP hD hS [0, 1, 2, 3, 5] [4] [1, 2, 3, 4, 0, 5] rfl rfl rfl rfl rfl rfl rfl rfl rfl rfl hl.1 rfl (Nat.le_of_ble_eq_true rfl) ⟨Nat.zero_le _, Nat.zero_le _⟩ d_Crumbs_take_14 (fun H locs hP hD hS => ?_)
        refine lv_iinc (v := (x3 + 1)) (lv' := [(3, .int (x3 + 1)), (0, .ref a_h), (1, .ref a_g1), (2, .int x2)]) hx hb d_Crumbs_take_17 hl (k := 3) rfl (by rfl) (by decide) rfl (fun ls hl => ?_)
        refine lv_goto (tgt := 7) hx hb d_Crumbs_take_20 (by decide) ?_
        exact ih q3.1 q3.2.1 q3.2.2 (x3 + 1) _ _ _ hf hP hD hS (lv_sub hl [1, 2, 3, 0] rfl)
  refine lv_aload_n hx hb d_Crumbs_take_0 rfl (lv_at hl 0 rfl) ?_
  refine lv_aload_n hx hb d_Crumbs_take_1 rfl (lv_at hl 1 rfl) ?_
  obtain ⟨q1, hq1, hf⟩ := io_b hf
  refine xcVV (wc := (w_Crumbs_begin cI cJ cC a_h a_h_have a_h_next a_g1 a_g1_kinds a_g1_sweets a_g1_settings a_g1_heaps z_h_doublings z_h_have (r_children z_g1) (r_strokes z_g1) (r_gave z_g1) (r_threw z_g1) (r_sweets z_g1))) (wc' := (w_Crumbs_begin cI cJ cC a_h a_h_have a_h_next a_g1 a_g1_kinds a_g1_sweets a_g1_settings a_g1_heaps q1.1 q1.2 (r_children z_g1) (r_strokes z_g1) (r_gave z_g1) (r_threw z_g1) (r_sweets z_g1))) (ws' := (w_Crumbs_take cI cJ cC a_h a_h_have a_h_next a_g1 a_g1_kinds a_g1_sweets a_g1_settings a_g1_heaps q1.1 q1.2 z_h_next (r_children z_g1) (r_strokes z_g1) (r_gave z_g1) (r_threw z_g1) (r_sweets z_g1) (r_settings z_g1))) (As := [.ref a_g1]) (rest := []) hx hb hml hown hT (c_Crumbs_begin (z_h_doublings := z_h_doublings) (z_h_have := z_h_have) (z_g1 := z_g1) a_h a_h_have a_h_next a_g1 a_g1_kinds a_g1_sweets a_g1_settings a_g1_heaps hq1) k_524 k_526 ks_9 k_5 k_527 hd_Crumbs_begin ⟨Nat.le_of_ble_eq_true rfl, Nat.le_of_ble_eq_true rfl⟩ xE0_ok trivial hA hK hP hD hS [0, 1, 3, 4] [2, 5] [2, 3, 0, 4, 5, 1] rfl rfl rfl rfl rfl rfl rfl rfl rfl rfl hl.1 rfl (Nat.le_of_ble_eq_true rfl) ⟨Nat.zero_le _, Nat.zero_le _⟩ d_Crumbs_take_2 (fun H locs hP hD hS => ?_)
  refine lv_iconst (v := 0) hx hb d_Crumbs_take_5 (by decide) ?_
  refine lv_istore_n (lv' := [(3, .int 0), (0, .ref a_h), (1, .ref a_g1), (2, .int x2)]) hx hb d_Crumbs_take_6 rfl hl (by decide) rfl (fun ls hl => ?_)
  exact L7 FU q1.1 q1.2 z_h_next 0 _ _ _ hf hP hD hS (lv_sub hl [1, 2, 3, 0] rfl)
abbrev w_Crumbs_halvings (cI cJ cC : ClassId) (a_h a_h_have a_h_next : Nat) (p_h_doublings : Int32) (p_h_have : (Nat → Int64)) : va_W := [(a_h, .inr (4, [.ref a_h_have, .ref a_h_next, .int p_h_doublings])), (a_h_have, .inl (cJ, (8, .inr (.inl p_h_have))))]
theorem d_Crumbs_halvings_0 : decode b_Crumbs_halvings 0 = .ok (.iconst 0, 1) := by decide +kernel
theorem d_Crumbs_halvings_1 : decode b_Crumbs_halvings 1 = .ok (.istore_n 2, 1) := by decide +kernel
theorem d_Crumbs_halvings_2 : decode b_Crumbs_halvings 2 = .ok (.iload_n 2, 1) := by decide +kernel
theorem d_Crumbs_halvings_3 : decode b_Crumbs_halvings 3 = .ok (.aload_n 0, 1) := by decide +kernel
theorem d_Crumbs_halvings_4 : decode b_Crumbs_halvings 4 = .ok (.getfield 18, 3) := by decide +kernel
theorem d_Crumbs_halvings_7 : decode b_Crumbs_halvings 7 = .ok (.if_icmp .ge 26, 3) := by decide +kernel
theorem d_Crumbs_halvings_10 : decode b_Crumbs_halvings 10 = .ok (.aload_n 0, 1) := by decide +kernel
theorem d_Crumbs_halvings_11 : decode b_Crumbs_halvings 11 = .ok (.getfield 9, 3) := by decide +kernel
theorem d_Crumbs_halvings_14 : decode b_Crumbs_halvings 14 = .ok (.iload_n 1, 1) := by decide +kernel
theorem d_Crumbs_halvings_15 : decode b_Crumbs_halvings 15 = .ok (.laload, 1) := by decide +kernel
theorem d_Crumbs_halvings_16 : decode b_Crumbs_halvings 16 = .ok (.iload_n 2, 1) := by decide +kernel
theorem d_Crumbs_halvings_17 : decode b_Crumbs_halvings 17 = .ok (.lshr, 1) := by decide +kernel
theorem d_Crumbs_halvings_18 : decode b_Crumbs_halvings 18 = .ok (.ldc2_w 51, 3) := by decide +kernel
theorem d_Crumbs_halvings_21 : decode b_Crumbs_halvings 21 = .ok (.lrem, 1) := by decide +kernel
theorem d_Crumbs_halvings_22 : decode b_Crumbs_halvings 22 = .ok (.lconst 0, 1) := by decide +kernel
theorem d_Crumbs_halvings_23 : decode b_Crumbs_halvings 23 = .ok (.lcmp, 1) := by decide +kernel
theorem d_Crumbs_halvings_24 : decode b_Crumbs_halvings 24 = .ok (.ifCond .ne 9, 3) := by decide +kernel
theorem d_Crumbs_halvings_27 : decode b_Crumbs_halvings 27 = .ok (.iinc 2 1, 3) := by decide +kernel
theorem d_Crumbs_halvings_30 : decode b_Crumbs_halvings 30 = .ok (.goto (-28), 3) := by decide +kernel
theorem d_Crumbs_halvings_33 : decode b_Crumbs_halvings 33 = .ok (.iload_n 2, 1) := by decide +kernel
theorem d_Crumbs_halvings_34 : decode b_Crumbs_halvings 34 = .ok (.ireturn, 1) := by decide +kernel
set_option maxHeartbeats 4000000 in
set_option maxRecDepth 100000 in
theorem c_Crumbs_halvings {l : Launch} {D : va_G} {cI cJ cC : ClassId} (a_h a_h_have a_h_next : Nat) {z_h_doublings : Int32} {z_h_have : (Nat → Int64)} {x1 : Int32} {q : Int32} (hf : f_Crumbs_halvings z_h_doublings z_h_have x1 = some q) : xI l y_Crumbs_halvings b_Crumbs_halvings 3 .int 0 0 D (tyK cI cJ cC) xE0 [.ref a_h, .int x1] (w_Crumbs_halvings cI cJ cC a_h a_h_have a_h_next z_h_doublings z_h_have) q (w_Crumbs_halvings cI cJ cC a_h a_h_have a_h_next z_h_doublings z_h_have) := by
  refine xI_of (by decide) (Nat.le_of_ble_eq_true rfl) ?_
  intro p e s m args below meth c A Q hx hb hml hown hT hA hP hD hK hS hE hret ls hl
  have hown : s.vm.findClass R_Crumbs = some m.cls := hown
  have hl : lv_has ls 3 [(0, .ref a_h), (1, .int x1)] := hl
  unfold f_Crumbs_halvings at hf
  have L2 : ∀ (n : Nat) (x2 : Int32) (H : Heap) (locs : List Loc) (ls : Array Slot), f_Crumbs_halvings_L2 z_h_doublings z_h_have x1 n x2 = some q → va_P D classes (w_Crumbs_halvings cI cJ cC a_h a_h_have a_h_next z_h_doublings z_h_have) H → va_D A (w_Crumbs_halvings cI cJ cC a_h a_h_have a_h_next z_h_doublings z_h_have) → va_S A s.heap H locs → lv_has ls 3 [(0, .ref a_h), (1, .int x1), (2, .int x2)] → W p l e (xRm 0 0) s m args below meth c H locs 0 0 Q (F0 m 2 ls []) := by
    intro n
    induction n with
    | zero => intro x2 H locs ls hf hP hD hS hl; exact nomatch (show (none : Option (Int32)) = some q from hf)
    | succ n ih =>
      intro x2 H locs ls hf hP hD hS hl
      refine lv_iload_n hx hb d_Crumbs_halvings_2 rfl (lv_at hl 2 rfl) ?_
      refine lv_aload_n hx hb d_Crumbs_halvings_3 rfl (lv_at hl 0 rfl) ?_
      refine va_get hx hb hT i_Crumbs hown hK hP 0 rfl rfl 2 (Nat.le_of_ble_eq_true rfl) (hT _ k_124) (fun _ h => h) rfl d_Crumbs_halvings_4 ?_
      refine lv_icmp_ge (tgt := 33) hx hb d_Crumbs_halvings_7 (by decide) (fun c1 => ?_) (fun c1 => ?_)
      · have hf := io_t hf c1
        refine lv_iload_n hx hb d_Crumbs_halvings_33 rfl (lv_at hl 2 rfl) ?_
        have hq := Option.some.inj hf
        subst hq
        exact hret _ _ _ _ _ d_Crumbs_halvings_34 rfl rfl hP hD hS
      · have hf := io_f hf c1
        refine lv_aload_n hx hb d_Crumbs_halvings_10 rfl (lv_at hl 0 rfl) ?_
        refine va_get hx hb hT i_Crumbs hown hK hP 0 rfl rfl 0 (Nat.le_of_ble_eq_true rfl) (hT _ k_122) (fun _ h => h) rfl d_Crumbs_halvings_11 ?_
        refine lv_iload_n hx hb d_Crumbs_halvings_14 rfl (lv_at hl 1 rfl) ?_
        obtain ⟨c2, hf⟩ := io_n hf
        refine x_lald hx hb hK hP 1 1 rfl rfl (j := x1.toNatClampNeg) rfl c2 d_Crumbs_halvings_15 ?_
        refine lv_iload_n hx hb d_Crumbs_halvings_16 rfl (lv_at hl 2 rfl) ?_
        refine lv_lshr (v := ((z_h_have x1.toNatClampNeg) >>> (x2.toInt64 &&& 63))) hx hb d_Crumbs_halvings_17 rfl ?_
        refine lv_ldc2 (v := 2) hx hb hown (hT _ k_542) d_Crumbs_halvings_18 ?_
        refine x_lrem hx hb d_Crumbs_halvings_21 (by decide) ?_
        refine lv_lconst (v := 0) hx hb d_Crumbs_halvings_22 (by decide) ?_
        refine W.lcmp hx hb d_Crumbs_halvings_23 ?_
        refine lv_if_ne (tgt := 33) hx hb d_Crumbs_halvings_24 (by decide) (fun c3 => ?_) (fun c3 => ?_)
        · have hf := io_f hf c3
          refine lv_iload_n hx hb d_Crumbs_halvings_33 rfl (lv_at hl 2 rfl) ?_
          have hq := Option.some.inj hf
          subst hq
          exact hret _ _ _ _ _ d_Crumbs_halvings_34 rfl rfl hP hD hS
        · have hf := io_t hf c3
          refine lv_iinc (v := (x2 + 1)) (lv' := [(2, .int (x2 + 1)), (0, .ref a_h), (1, .int x1)]) hx hb d_Crumbs_halvings_27 hl (k := 2) rfl (by rfl) (by decide) rfl (fun ls hl => ?_)
          refine lv_goto (tgt := 2) hx hb d_Crumbs_halvings_30 (by decide) ?_
          exact ih (x2 + 1) _ _ _ hf hP hD hS (lv_sub hl [1, 2, 0] rfl)
  refine lv_iconst (v := 0) hx hb d_Crumbs_halvings_0 (by decide) ?_
  refine lv_istore_n (lv' := [(2, .int 0), (0, .ref a_h), (1, .int x1)]) hx hb d_Crumbs_halvings_1 rfl hl (by decide) rfl (fun ls hl => ?_)
  exact L2 FU 0 _ _ _ hf hP hD hS (lv_sub hl [1, 2, 0] rfl)
abbrev w_Crumbs_above (cI cJ cC : ClassId) (a_h a_h_have a_h_next : Nat) (p_h_doublings : Int32) (p_h_have : (Nat → Int64)) : va_W := [(a_h, .inr (4, [.ref a_h_have, .ref a_h_next, .int p_h_doublings])), (a_h_have, .inl (cJ, (8, .inr (.inl p_h_have))))]
theorem d_Crumbs_above_0 : decode b_Crumbs_above 0 = .ok (.aload_n 0, 1) := by decide +kernel
theorem d_Crumbs_above_1 : decode b_Crumbs_above 1 = .ok (.getfield 9, 3) := by decide +kernel
theorem d_Crumbs_above_4 : decode b_Crumbs_above 4 = .ok (.iload_n 1, 1) := by decide +kernel
theorem d_Crumbs_above_5 : decode b_Crumbs_above 5 = .ok (.laload, 1) := by decide +kernel
theorem d_Crumbs_above_6 : decode b_Crumbs_above 6 = .ok (.aload_n 0, 1) := by decide +kernel
theorem d_Crumbs_above_7 : decode b_Crumbs_above 7 = .ok (.iload_n 1, 1) := by decide +kernel
theorem d_Crumbs_above_8 : decode b_Crumbs_above 8 = .ok (.invokevirtual 48, 3) := by decide +kernel
theorem d_Crumbs_above_11 : decode b_Crumbs_above 11 = .ok (.lshr, 1) := by decide +kernel
theorem d_Crumbs_above_12 : decode b_Crumbs_above 12 = .ok (.lreturn, 1) := by decide +kernel
set_option maxHeartbeats 4000000 in
set_option maxRecDepth 100000 in
theorem c_Crumbs_above {l : Launch} {D : va_G} {cI cJ cC : ClassId} (a_h a_h_have a_h_next : Nat) {z_h_doublings : Int32} {z_h_have : (Nat → Int64)} {x1 : Int32} {q : Int64} (hf : f_Crumbs_above z_h_doublings z_h_have x1 = some q) : xL l y_Crumbs_above b_Crumbs_above 2 .long 1 22 D (tyK cI cJ cC) xE0 [.ref a_h, .int x1] (w_Crumbs_above cI cJ cC a_h a_h_have a_h_next z_h_doublings z_h_have) q (w_Crumbs_above cI cJ cC a_h a_h_have a_h_next z_h_doublings z_h_have) := by
  refine xL_of (by decide) (Nat.le_of_ble_eq_true rfl) ?_
  intro p e s m args below meth c A Q hx hb hml hown hT hA hP hD hK hS hE hret ls hl
  have hown : s.vm.findClass R_Crumbs = some m.cls := hown
  have hl : lv_has ls 2 [(0, .ref a_h), (1, .int x1)] := hl
  unfold f_Crumbs_above at hf
  refine lv_aload_n hx hb d_Crumbs_above_0 rfl (lv_at hl 0 rfl) ?_
  refine va_get hx hb hT i_Crumbs hown hK hP 0 rfl rfl 0 (Nat.le_of_ble_eq_true rfl) (hT _ k_122) (fun _ h => h) rfl d_Crumbs_above_1 ?_
  refine lv_iload_n hx hb d_Crumbs_above_4 rfl (lv_at hl 1 rfl) ?_
  obtain ⟨c1, hf⟩ := io_n hf
  refine x_lald hx hb hK hP 1 1 rfl rfl (j := x1.toNatClampNeg) rfl c1 d_Crumbs_above_5 ?_
  refine lv_aload_n hx hb d_Crumbs_above_6 rfl (lv_at hl 0 rfl) ?_
  refine lv_iload_n hx hb d_Crumbs_above_7 rfl (lv_at hl 1 rfl) ?_
  obtain ⟨q2, hq2, hf⟩ := io_b hf
  refine xcVI (wc := (w_Crumbs_halvings cI cJ cC a_h a_h_have a_h_next z_h_doublings z_h_have)) (wc' := (w_Crumbs_halvings cI cJ cC a_h a_h_have a_h_next z_h_doublings z_h_have)) (ws' := (w_Crumbs_above cI cJ cC a_h a_h_have a_h_next z_h_doublings z_h_have)) (As := [.int x1]) (rest := [.long (z_h_have x1.toNatClampNeg)]) hx hb hml hown hT (c_Crumbs_halvings (z_h_doublings := z_h_doublings) (z_h_have := z_h_have) a_h a_h_have a_h_next hq2) k_538 k_540 ks_11 k_5 k_541 hd_Crumbs_halvings ⟨Nat.le_of_ble_eq_true rfl, Nat.le_of_ble_eq_true rfl⟩ xE0_ok trivial hA hK hP hD hS [0, 1] [] [0, 1] rfl rfl rfl rfl rfl rfl rfl rfl rfl rfl hl.1 rfl (Nat.le_of_ble_eq_true rfl) ⟨Nat.zero_le _, Nat.zero_le _⟩ d_Crumbs_above_8 (fun H locs hP hD hS => ?_)
  refine lv_lshr (v := ((z_h_have x1.toNatClampNeg) >>> (q2.toInt64 &&& 63))) hx hb d_Crumbs_above_11 rfl ?_
  have hq := Option.some.inj hf
  subst hq
  exact hret _ _ _ _ _ d_Crumbs_above_12 rfl hP hD hS
abbrev w_Crumbs_below (cI cJ cC : ClassId) (a_h a_h_have a_h_next : Nat) (p_h_doublings : Int32) (p_h_have : (Nat → Int64)) : va_W := [(a_h, .inr (4, [.ref a_h_have, .ref a_h_next, .int p_h_doublings])), (a_h_have, .inl (cJ, (8, .inr (.inl p_h_have))))]
theorem d_Crumbs_below_0 : decode b_Crumbs_below 0 = .ok (.lconst 1, 1) := by decide +kernel
theorem d_Crumbs_below_1 : decode b_Crumbs_below 1 = .ok (.aload_n 0, 1) := by decide +kernel
theorem d_Crumbs_below_2 : decode b_Crumbs_below 2 = .ok (.getfield 18, 3) := by decide +kernel
theorem d_Crumbs_below_5 : decode b_Crumbs_below 5 = .ok (.aload_n 0, 1) := by decide +kernel
theorem d_Crumbs_below_6 : decode b_Crumbs_below 6 = .ok (.iload_n 1, 1) := by decide +kernel
theorem d_Crumbs_below_7 : decode b_Crumbs_below 7 = .ok (.invokevirtual 48, 3) := by decide +kernel
theorem d_Crumbs_below_10 : decode b_Crumbs_below 10 = .ok (.isub, 1) := by decide +kernel
theorem d_Crumbs_below_11 : decode b_Crumbs_below 11 = .ok (.lshl, 1) := by decide +kernel
theorem d_Crumbs_below_12 : decode b_Crumbs_below 12 = .ok (.lreturn, 1) := by decide +kernel
set_option maxHeartbeats 4000000 in
set_option maxRecDepth 100000 in
theorem c_Crumbs_below {l : Launch} {D : va_G} {cI cJ cC : ClassId} (a_h a_h_have a_h_next : Nat) {z_h_doublings : Int32} {z_h_have : (Nat → Int64)} {x1 : Int32} {q : Int64} (hf : f_Crumbs_below z_h_doublings z_h_have x1 = some q) : xL l y_Crumbs_below b_Crumbs_below 2 .long 1 22 D (tyK cI cJ cC) xE0 [.ref a_h, .int x1] (w_Crumbs_below cI cJ cC a_h a_h_have a_h_next z_h_doublings z_h_have) q (w_Crumbs_below cI cJ cC a_h a_h_have a_h_next z_h_doublings z_h_have) := by
  refine xL_of (by decide) (Nat.le_of_ble_eq_true rfl) ?_
  intro p e s m args below meth c A Q hx hb hml hown hT hA hP hD hK hS hE hret ls hl
  have hown : s.vm.findClass R_Crumbs = some m.cls := hown
  have hl : lv_has ls 2 [(0, .ref a_h), (1, .int x1)] := hl
  unfold f_Crumbs_below at hf
  refine lv_lconst (v := 1) hx hb d_Crumbs_below_0 (by decide) ?_
  refine lv_aload_n hx hb d_Crumbs_below_1 rfl (lv_at hl 0 rfl) ?_
  refine va_get hx hb hT i_Crumbs hown hK hP 0 rfl rfl 2 (Nat.le_of_ble_eq_true rfl) (hT _ k_124) (fun _ h => h) rfl d_Crumbs_below_2 ?_
  refine lv_aload_n hx hb d_Crumbs_below_5 rfl (lv_at hl 0 rfl) ?_
  refine lv_iload_n hx hb d_Crumbs_below_6 rfl (lv_at hl 1 rfl) ?_
  obtain ⟨q1, hq1, hf⟩ := io_b hf
  refine xcVI (wc := (w_Crumbs_halvings cI cJ cC a_h a_h_have a_h_next z_h_doublings z_h_have)) (wc' := (w_Crumbs_halvings cI cJ cC a_h a_h_have a_h_next z_h_doublings z_h_have)) (ws' := (w_Crumbs_below cI cJ cC a_h a_h_have a_h_next z_h_doublings z_h_have)) (As := [.int x1]) (rest := [.int z_h_doublings, .long 1]) hx hb hml hown hT (c_Crumbs_halvings (z_h_doublings := z_h_doublings) (z_h_have := z_h_have) a_h a_h_have a_h_next hq1) k_538 k_540 ks_11 k_5 k_541 hd_Crumbs_halvings ⟨Nat.le_of_ble_eq_true rfl, Nat.le_of_ble_eq_true rfl⟩ xE0_ok trivial hA hK hP hD hS [0, 1] [] [0, 1] rfl rfl rfl rfl rfl rfl rfl rfl rfl rfl hl.1 rfl (Nat.le_of_ble_eq_true rfl) ⟨Nat.zero_le _, Nat.zero_le _⟩ d_Crumbs_below_7 (fun H locs hP hD hS => ?_)
  refine lv_isub hx hb d_Crumbs_below_10 ?_
  refine lv_lshl (v := (1 <<< ((z_h_doublings - q1).toInt64 &&& 63))) hx hb d_Crumbs_below_11 rfl ?_
  have hq := Option.some.inj hf
  subst hq
  exact hret _ _ _ _ _ d_Crumbs_below_12 rfl hP hD hS
abbrev w_Crumbs_allAreNear (cI cJ cC : ClassId) (a_h a_h_have a_h_next a_g1 a_g1_kinds a_g1_sweets a_g1_settings a_g1_heaps : Nat) (p_h_doublings : Int32) (p_h_have : (Nat → Int64)) (p_g1_children : Int32) (p_g1_strokes : Int32) (p_g1_gave : Int32) (p_g1_threw : Int32) (p_g1_sweets : (Nat → Int32)) : va_W := [(a_h, .inr (4, [.ref a_h_have, .ref a_h_next, .int p_h_doublings])), (a_h_have, .inl (cJ, (8, .inr (.inl p_h_have)))), (a_g1, .inr (1, [.ref a_g1_kinds, .ref a_g1_sweets, .ref a_g1_settings, .int p_g1_children, .int p_g1_strokes, .int p_g1_gave, .int p_g1_threw, .ref a_g1_heaps])), (a_g1_sweets, .inl (cI, (8, .inl p_g1_sweets)))]
theorem d_Crumbs_allAreNear_0 : decode b_Crumbs_allAreNear 0 = .ok (.aload_n 1, 1) := by decide +kernel
theorem d_Crumbs_allAreNear_1 : decode b_Crumbs_allAreNear 1 = .ok (.invokevirtual 57, 3) := by decide +kernel
theorem d_Crumbs_allAreNear_4 : decode b_Crumbs_allAreNear 4 = .ok (.i2l, 1) := by decide +kernel
theorem d_Crumbs_allAreNear_5 : decode b_Crumbs_allAreNear 5 = .ok (.aload_n 0, 1) := by decide +kernel
theorem d_Crumbs_allAreNear_6 : decode b_Crumbs_allAreNear 6 = .ok (.getfield 18, 3) := by decide +kernel
theorem d_Crumbs_allAreNear_9 : decode b_Crumbs_allAreNear 9 = .ok (.lshl, 1) := by decide +kernel
theorem d_Crumbs_allAreNear_10 : decode b_Crumbs_allAreNear 10 = .ok (.lstore_n 3, 1) := by decide +kernel
theorem d_Crumbs_allAreNear_11 : decode b_Crumbs_allAreNear 11 = .ok (.aload_n 1, 1) := by decide +kernel
theorem d_Crumbs_allAreNear_12 : decode b_Crumbs_allAreNear 12 = .ok (.getfield 29, 3) := by decide +kernel
theorem d_Crumbs_allAreNear_15 : decode b_Crumbs_allAreNear 15 = .ok (.i2l, 1) := by decide +kernel
theorem d_Crumbs_allAreNear_16 : decode b_Crumbs_allAreNear 16 = .ok (.aload_n 0, 1) := by decide +kernel
theorem d_Crumbs_allAreNear_17 : decode b_Crumbs_allAreNear 17 = .ok (.getfield 18, 3) := by decide +kernel
theorem d_Crumbs_allAreNear_20 : decode b_Crumbs_allAreNear 20 = .ok (.lshl, 1) := by decide +kernel
theorem d_Crumbs_allAreNear_21 : decode b_Crumbs_allAreNear 21 = .ok (.lstore 5, 2) := by decide +kernel
theorem d_Crumbs_allAreNear_23 : decode b_Crumbs_allAreNear 23 = .ok (.iconst 0, 1) := by decide +kernel
theorem d_Crumbs_allAreNear_24 : decode b_Crumbs_allAreNear 24 = .ok (.istore 7, 2) := by decide +kernel
theorem d_Crumbs_allAreNear_26 : decode b_Crumbs_allAreNear 26 = .ok (.iload 7, 2) := by decide +kernel
theorem d_Crumbs_allAreNear_28 : decode b_Crumbs_allAreNear 28 = .ok (.aload_n 1, 1) := by decide +kernel
theorem d_Crumbs_allAreNear_29 : decode b_Crumbs_allAreNear 29 = .ok (.getfield 29, 3) := by decide +kernel
theorem d_Crumbs_allAreNear_32 : decode b_Crumbs_allAreNear 32 = .ok (.if_icmp .ge 38, 3) := by decide +kernel
theorem d_Crumbs_allAreNear_35 : decode b_Crumbs_allAreNear 35 = .ok (.aload_n 0, 1) := by decide +kernel
theorem d_Crumbs_allAreNear_36 : decode b_Crumbs_allAreNear 36 = .ok (.getfield 9, 3) := by decide +kernel
theorem d_Crumbs_allAreNear_39 : decode b_Crumbs_allAreNear 39 = .ok (.iload 7, 2) := by decide +kernel
theorem d_Crumbs_allAreNear_41 : decode b_Crumbs_allAreNear 41 = .ok (.laload, 1) := by decide +kernel
theorem d_Crumbs_allAreNear_42 : decode b_Crumbs_allAreNear 42 = .ok (.aload_n 1, 1) := by decide +kernel
theorem d_Crumbs_allAreNear_43 : decode b_Crumbs_allAreNear 43 = .ok (.getfield 29, 3) := by decide +kernel
theorem d_Crumbs_allAreNear_46 : decode b_Crumbs_allAreNear 46 = .ok (.i2l, 1) := by decide +kernel
theorem d_Crumbs_allAreNear_47 : decode b_Crumbs_allAreNear 47 = .ok (.lmul, 1) := by decide +kernel
theorem d_Crumbs_allAreNear_48 : decode b_Crumbs_allAreNear 48 = .ok (.lload_n 3, 1) := by decide +kernel
theorem d_Crumbs_allAreNear_49 : decode b_Crumbs_allAreNear 49 = .ok (.lsub, 1) := by decide +kernel
theorem d_Crumbs_allAreNear_50 : decode b_Crumbs_allAreNear 50 = .ok (.invokestatic 61, 3) := by decide +kernel
theorem d_Crumbs_allAreNear_53 : decode b_Crumbs_allAreNear 53 = .ok (.iload_n 2, 1) := by decide +kernel
theorem d_Crumbs_allAreNear_54 : decode b_Crumbs_allAreNear 54 = .ok (.i2l, 1) := by decide +kernel
theorem d_Crumbs_allAreNear_55 : decode b_Crumbs_allAreNear 55 = .ok (.lmul, 1) := by decide +kernel
theorem d_Crumbs_allAreNear_56 : decode b_Crumbs_allAreNear 56 = .ok (.lload 5, 2) := by decide +kernel
theorem d_Crumbs_allAreNear_58 : decode b_Crumbs_allAreNear 58 = .ok (.lcmp, 1) := by decide +kernel
theorem d_Crumbs_allAreNear_59 : decode b_Crumbs_allAreNear 59 = .ok (.ifCond .lt 5, 3) := by decide +kernel
theorem d_Crumbs_allAreNear_62 : decode b_Crumbs_allAreNear 62 = .ok (.iconst 0, 1) := by decide +kernel
theorem d_Crumbs_allAreNear_63 : decode b_Crumbs_allAreNear 63 = .ok (.ireturn, 1) := by decide +kernel
theorem d_Crumbs_allAreNear_64 : decode b_Crumbs_allAreNear 64 = .ok (.iinc 7 1, 3) := by decide +kernel
theorem d_Crumbs_allAreNear_67 : decode b_Crumbs_allAreNear 67 = .ok (.goto (-41), 3) := by decide +kernel
theorem d_Crumbs_allAreNear_70 : decode b_Crumbs_allAreNear 70 = .ok (.iconst 1, 1) := by decide +kernel
theorem d_Crumbs_allAreNear_71 : decode b_Crumbs_allAreNear 71 = .ok (.ireturn, 1) := by decide +kernel
set_option maxHeartbeats 4000000 in
set_option maxRecDepth 100000 in
theorem c_Crumbs_allAreNear {l : Launch} {D : va_G} {cI cJ cC : ClassId} (a_h a_h_have a_h_next a_g1 a_g1_kinds a_g1_sweets a_g1_settings a_g1_heaps : Nat) {z_h_doublings : Int32} {z_h_have : (Nat → Int64)} {z_g1 : RS} {x2 : Int32} {q : Int32} (hf : f_Crumbs_allAreNear z_h_doublings z_h_have z_g1 x2 = some q) : xI l y_Crumbs_allAreNear b_Crumbs_allAreNear 8 .boolean 1 22 D (tyK cI cJ cC) xE0 [.ref a_h, .ref a_g1, .int x2] (w_Crumbs_allAreNear cI cJ cC a_h a_h_have a_h_next a_g1 a_g1_kinds a_g1_sweets a_g1_settings a_g1_heaps z_h_doublings z_h_have (r_children z_g1) (r_strokes z_g1) (r_gave z_g1) (r_threw z_g1) (r_sweets z_g1)) q (w_Crumbs_allAreNear cI cJ cC a_h a_h_have a_h_next a_g1 a_g1_kinds a_g1_sweets a_g1_settings a_g1_heaps z_h_doublings z_h_have (r_children z_g1) (r_strokes z_g1) (r_gave z_g1) (r_threw z_g1) (r_sweets z_g1)) := by
  refine xI_of (by decide) (Nat.le_of_ble_eq_true rfl) ?_
  intro p e s m args below meth c A Q hx hb hml hown hT hA hP hD hK hS hE hret ls hl
  have hown : s.vm.findClass R_Crumbs = some m.cls := hown
  have hl : lv_has ls 8 [(0, .ref a_h), (1, .ref a_g1), (2, .int x2)] := hl
  unfold f_Crumbs_allAreNear at hf
  have L26 : ∀ (x3 : Int64) (x5 : Int64), ∀ (n : Nat) (x7 : Int32) (H : Heap) (locs : List Loc) (ls : Array Slot), f_Crumbs_allAreNear_L26 z_h_have z_g1 x2 x3 x5 n x7 = some q → va_P D classes (w_Crumbs_allAreNear cI cJ cC a_h a_h_have a_h_next a_g1 a_g1_kinds a_g1_sweets a_g1_settings a_g1_heaps z_h_doublings z_h_have (r_children z_g1) (r_strokes z_g1) (r_gave z_g1) (r_threw z_g1) (r_sweets z_g1)) H → va_D A (w_Crumbs_allAreNear cI cJ cC a_h a_h_have a_h_next a_g1 a_g1_kinds a_g1_sweets a_g1_settings a_g1_heaps z_h_doublings z_h_have (r_children z_g1) (r_strokes z_g1) (r_gave z_g1) (r_threw z_g1) (r_sweets z_g1)) → va_S A s.heap H locs → lv_has ls 8 [(0, .ref a_h), (1, .ref a_g1), (2, .int x2), (3, .long x3), (5, .long x5), (7, .int x7)] → W p l e (xRm 1 22) s m args below meth c H locs 0 0 Q (F0 m 26 ls []) := by
    intro x3 x5 n
    induction n with
    | zero => intro x7 H locs ls hf hP hD hS hl; exact nomatch (show (none : Option (Int32)) = some q from hf)
    | succ n ih =>
      intro x7 H locs ls hf hP hD hS hl
      refine lv_iload hx hb d_Crumbs_allAreNear_26 (lv_at hl 5 rfl) ?_
      refine lv_aload_n hx hb d_Crumbs_allAreNear_28 rfl (lv_at hl 1 rfl) ?_
      refine va_get hx hb hT i_Ring hown hK hP 2 rfl rfl 3 (Nat.le_of_ble_eq_true rfl) (hT _ k_47) (fun _ h => h) rfl d_Crumbs_allAreNear_29 ?_
      refine lv_icmp_ge (tgt := 70) hx hb d_Crumbs_allAreNear_32 (by decide) (fun c2 => ?_) (fun c2 => ?_)
      · have hf := io_t hf c2
        refine lv_iconst (v := 1) hx hb d_Crumbs_allAreNear_70 (by decide) ?_
        have hq := Option.some.inj hf
        subst hq
        exact hret _ _ _ _ _ d_Crumbs_allAreNear_71 (by decide) rfl hP hD hS
      · have hf := io_f hf c2
        refine lv_aload_n hx hb d_Crumbs_allAreNear_35 rfl (lv_at hl 0 rfl) ?_
        refine va_get hx hb hT i_Crumbs hown hK hP 0 rfl rfl 0 (Nat.le_of_ble_eq_true rfl) (hT _ k_122) (fun _ h => h) rfl d_Crumbs_allAreNear_36 ?_
        refine lv_iload hx hb d_Crumbs_allAreNear_39 (lv_at hl 5 rfl) ?_
        obtain ⟨c3, hf⟩ := io_n hf
        refine x_lald hx hb hK hP 1 1 rfl rfl (j := x7.toNatClampNeg) rfl c3 d_Crumbs_allAreNear_41 ?_
        refine lv_aload_n hx hb d_Crumbs_allAreNear_42 rfl (lv_at hl 1 rfl) ?_
        refine va_get hx hb hT i_Ring hown hK hP 2 rfl rfl 3 (Nat.le_of_ble_eq_true rfl) (hT _ k_47) (fun _ h => h) rfl d_Crumbs_allAreNear_43 ?_
        refine lv_i2l (v := ((r_children z_g1).toInt64)) hx hb d_Crumbs_allAreNear_46 rfl ?_
        refine lv_lmul hx hb d_Crumbs_allAreNear_47 ?_
        refine lv_lload_n hx hb d_Crumbs_allAreNear_48 rfl (lv_at hl 3 rfl) ?_
        refine lv_lsub hx hb d_Crumbs_allAreNear_49 ?_
        refine va_mabs_long hx hb (hml.trans hl.1.symm) hown (hT _ k_578) (hT _ k_579) (hT _ k_11) (hT _ k_580) (Nat.le_of_ble_eq_true rfl) (Nat.le_of_ble_eq_true rfl) (Nat.zero_le _) (Nat.zero_le _) d_Crumbs_allAreNear_50 ?_
        refine lv_iload_n hx hb d_Crumbs_allAreNear_53 rfl (lv_at hl 2 rfl) ?_
        refine lv_i2l (v := (x2.toInt64)) hx hb d_Crumbs_allAreNear_54 rfl ?_
        refine lv_lmul hx hb d_Crumbs_allAreNear_55 ?_
        refine lv_lload hx hb d_Crumbs_allAreNear_56 (lv_at hl 4 rfl) ?_
        refine W.lcmp hx hb d_Crumbs_allAreNear_58 ?_
        refine lv_if_lt (tgt := 64) hx hb d_Crumbs_allAreNear_59 (by decide) (fun c4 => ?_) (fun c4 => ?_)
        · have hf := io_t hf c4
          refine lv_iinc (v := (x7 + 1)) (lv' := [(7, .int (x7 + 1)), (0, .ref a_h), (1, .ref a_g1), (2, .int x2), (3, .long x3), (5, .long x5)]) hx hb d_Crumbs_allAreNear_64 hl (k := 5) rfl (by rfl) (by decide) rfl (fun ls hl => ?_)
          refine lv_goto (tgt := 26) hx hb d_Crumbs_allAreNear_67 (by decide) ?_
          exact ih (x7 + 1) _ _ _ hf hP hD hS (lv_sub hl [1, 2, 3, 4, 5, 0] rfl)
        · have hf := io_f hf c4
          refine lv_iconst (v := 0) hx hb d_Crumbs_allAreNear_62 (by decide) ?_
          have hq := Option.some.inj hf
          subst hq
          exact hret _ _ _ _ _ d_Crumbs_allAreNear_63 (by decide) rfl hP hD hS
  refine lv_aload_n hx hb d_Crumbs_allAreNear_0 rfl (lv_at hl 1 rfl) ?_
  obtain ⟨q1, hq1, hf⟩ := io_b hf
  refine xcVI (wc := (w_Ring_allSweets cI cJ cC a_g1 a_g1_kinds a_g1_sweets a_g1_settings a_g1_heaps (r_children z_g1) (r_strokes z_g1) (r_gave z_g1) (r_threw z_g1) (r_sweets z_g1))) (wc' := (w_Ring_allSweets cI cJ cC a_g1 a_g1_kinds a_g1_sweets a_g1_settings a_g1_heaps (r_children z_g1) (r_strokes z_g1) (r_gave z_g1) (r_threw z_g1) (r_sweets z_g1))) (ws' := (w_Crumbs_allAreNear cI cJ cC a_h a_h_have a_h_next a_g1 a_g1_kinds a_g1_sweets a_g1_settings a_g1_heaps z_h_doublings z_h_have (r_children z_g1) (r_strokes z_g1) (r_gave z_g1) (r_threw z_g1) (r_sweets z_g1))) (As := []) (rest := []) hx hb hml hown hT (c_Ring_allSweets (z_h := z_g1) a_g1 a_g1_kinds a_g1_sweets a_g1_settings a_g1_heaps hq1) k_577 k_556 k_557 k_2 k_558 hd_Ring_allSweets ⟨Nat.le_of_ble_eq_true rfl, Nat.le_of_ble_eq_true rfl⟩ xE0_ok trivial hA hK hP hD hS [2, 3] [0, 1] [0, 1, 2, 3] rfl rfl rfl rfl rfl rfl rfl rfl rfl rfl hl.1 rfl (Nat.le_of_ble_eq_true rfl) ⟨Nat.zero_le _, Nat.zero_le _⟩ d_Crumbs_allAreNear_1 (fun H locs hP hD hS => ?_)
  refine lv_i2l (v := (q1.toInt64)) hx hb d_Crumbs_allAreNear_4 rfl ?_
  refine lv_aload_n hx hb d_Crumbs_allAreNear_5 rfl (lv_at hl 0 rfl) ?_
  refine va_get hx hb hT i_Crumbs hown hK hP 0 rfl rfl 2 (Nat.le_of_ble_eq_true rfl) (hT _ k_124) (fun _ h => h) rfl d_Crumbs_allAreNear_6 ?_
  refine lv_lshl (v := ((q1.toInt64) <<< (z_h_doublings.toInt64 &&& 63))) hx hb d_Crumbs_allAreNear_9 rfl ?_
  refine lv_lstore_n (lv' := [(3, .long ((q1.toInt64) <<< (z_h_doublings.toInt64 &&& 63))), (0, .ref a_h), (1, .ref a_g1), (2, .int x2)]) hx hb d_Crumbs_allAreNear_10 rfl hl (by decide) rfl (fun ls hl => ?_)
  refine lv_aload_n hx hb d_Crumbs_allAreNear_11 rfl (lv_at hl 2 rfl) ?_
  refine va_get hx hb hT i_Ring hown hK hP 2 rfl rfl 3 (Nat.le_of_ble_eq_true rfl) (hT _ k_47) (fun _ h => h) rfl d_Crumbs_allAreNear_12 ?_
  refine lv_i2l (v := ((r_children z_g1).toInt64)) hx hb d_Crumbs_allAreNear_15 rfl ?_
  refine lv_aload_n hx hb d_Crumbs_allAreNear_16 rfl (lv_at hl 1 rfl) ?_
  refine va_get hx hb hT i_Crumbs hown hK hP 0 rfl rfl 2 (Nat.le_of_ble_eq_true rfl) (hT _ k_124) (fun _ h => h) rfl d_Crumbs_allAreNear_17 ?_
  refine lv_lshl (v := (((r_children z_g1).toInt64) <<< (z_h_doublings.toInt64 &&& 63))) hx hb d_Crumbs_allAreNear_20 rfl ?_
  refine lv_lstore (lv' := [(5, .long (((r_children z_g1).toInt64) <<< (z_h_doublings.toInt64 &&& 63))), (3, .long ((q1.toInt64) <<< (z_h_doublings.toInt64 &&& 63))), (0, .ref a_h), (1, .ref a_g1), (2, .int x2)]) hx hb d_Crumbs_allAreNear_21 hl (by decide) rfl (fun ls hl => ?_)
  refine lv_iconst (v := 0) hx hb d_Crumbs_allAreNear_23 (by decide) ?_
  refine lv_istore (lv' := [(7, .int 0), (5, .long (((r_children z_g1).toInt64) <<< (z_h_doublings.toInt64 &&& 63))), (3, .long ((q1.toInt64) <<< (z_h_doublings.toInt64 &&& 63))), (0, .ref a_h), (1, .ref a_g1), (2, .int x2)]) hx hb d_Crumbs_allAreNear_24 hl (by decide) rfl (fun ls hl => ?_)
  exact L26 ((q1.toInt64) <<< (z_h_doublings.toInt64 &&& 63)) (((r_children z_g1).toInt64) <<< (z_h_doublings.toInt64 &&& 63)) FU 0 _ _ _ hf hP hD hS (lv_sub hl [3, 4, 5, 2, 1, 0] rfl)
abbrev w_Crumbs_nearBehind (cI cJ cC : ClassId) (a_h a_h_have a_h_next a_g1 a_g1_kinds a_g1_sweets a_g1_settings a_g1_heaps : Nat) (p_h_doublings : Int32) (p_h_have : (Nat → Int64)) (p_h_next : (Nat → Int64)) (p_g1_children : Int32) (p_g1_strokes : Int32) (p_g1_gave : Int32) (p_g1_threw : Int32) (p_g1_sweets : (Nat → Int32)) (p_g1_settings : (Nat → Int32)) : va_W := [(a_h, .inr (4, [.ref a_h_have, .ref a_h_next, .int p_h_doublings])), (a_h_have, .inl (cJ, (8, .inr (.inl p_h_have)))), (a_h_next, .inl (cJ, (8, .inr (.inl p_h_next)))), (a_g1, .inr (1, [.ref a_g1_kinds, .ref a_g1_sweets, .ref a_g1_settings, .int p_g1_children, .int p_g1_strokes, .int p_g1_gave, .int p_g1_threw, .ref a_g1_heaps])), (a_g1_sweets, .inl (cI, (8, .inl p_g1_sweets))), (a_g1_settings, .inl (cI, (3, .inl p_g1_settings)))]
theorem d_Crumbs_nearBehind_0 : decode b_Crumbs_nearBehind 0 = .ok (.aload_n 0, 1) := by decide +kernel
theorem d_Crumbs_nearBehind_1 : decode b_Crumbs_nearBehind 1 = .ok (.aload_n 1, 1) := by decide +kernel
theorem d_Crumbs_nearBehind_2 : decode b_Crumbs_nearBehind 2 = .ok (.invokevirtual 22, 3) := by decide +kernel
theorem d_Crumbs_nearBehind_5 : decode b_Crumbs_nearBehind 5 = .ok (.iconst 0, 1) := by decide +kernel
theorem d_Crumbs_nearBehind_6 : decode b_Crumbs_nearBehind 6 = .ok (.istore_n 3, 1) := by decide +kernel
theorem d_Crumbs_nearBehind_7 : decode b_Crumbs_nearBehind 7 = .ok (.iload_n 3, 1) := by decide +kernel
theorem d_Crumbs_nearBehind_8 : decode b_Crumbs_nearBehind 8 = .ok (.bipush 20, 2) := by decide +kernel
theorem d_Crumbs_nearBehind_10 : decode b_Crumbs_nearBehind 10 = .ok (.if_icmp .gt 25, 3) := by decide +kernel
theorem d_Crumbs_nearBehind_13 : decode b_Crumbs_nearBehind 13 = .ok (.aload_n 0, 1) := by decide +kernel
theorem d_Crumbs_nearBehind_14 : decode b_Crumbs_nearBehind 14 = .ok (.aload_n 1, 1) := by decide +kernel
theorem d_Crumbs_nearBehind_15 : decode b_Crumbs_nearBehind 15 = .ok (.iload_n 2, 1) := by decide +kernel
theorem d_Crumbs_nearBehind_16 : decode b_Crumbs_nearBehind 16 = .ok (.invokevirtual 53, 3) := by decide +kernel
theorem d_Crumbs_nearBehind_19 : decode b_Crumbs_nearBehind 19 = .ok (.ifCond .eq 5, 3) := by decide +kernel
theorem d_Crumbs_nearBehind_22 : decode b_Crumbs_nearBehind 22 = .ok (.iload_n 3, 1) := by decide +kernel
theorem d_Crumbs_nearBehind_23 : decode b_Crumbs_nearBehind 23 = .ok (.ireturn, 1) := by decide +kernel
theorem d_Crumbs_nearBehind_24 : decode b_Crumbs_nearBehind 24 = .ok (.aload_n 0, 1) := by decide +kernel
theorem d_Crumbs_nearBehind_25 : decode b_Crumbs_nearBehind 25 = .ok (.aload_n 1, 1) := by decide +kernel
theorem d_Crumbs_nearBehind_26 : decode b_Crumbs_nearBehind 26 = .ok (.invokevirtual 26, 3) := by decide +kernel
theorem d_Crumbs_nearBehind_29 : decode b_Crumbs_nearBehind 29 = .ok (.iinc 3 1, 3) := by decide +kernel
theorem d_Crumbs_nearBehind_32 : decode b_Crumbs_nearBehind 32 = .ok (.goto (-25), 3) := by decide +kernel
theorem d_Crumbs_nearBehind_35 : decode b_Crumbs_nearBehind 35 = .ok (.bipush (-9), 2) := by decide +kernel
theorem d_Crumbs_nearBehind_37 : decode b_Crumbs_nearBehind 37 = .ok (.ireturn, 1) := by decide +kernel
set_option maxHeartbeats 4000000 in
set_option maxRecDepth 100000 in
theorem c_Crumbs_nearBehind {l : Launch} {D : va_G} {cI cJ cC : ClassId} (a_h a_h_have a_h_next a_g1 a_g1_kinds a_g1_sweets a_g1_settings a_g1_heaps : Nat) {z_h_doublings : Int32} {z_h_have : (Nat → Int64)} {z_h_next : (Nat → Int64)} {z_g1 : RS} {x2 : Int32} {q : Int32 × Int32 × (Nat → Int64) × (Nat → Int64)} (hf : f_Crumbs_nearBehind z_h_doublings z_h_have z_h_next z_g1 x2 = some q) : xI l y_Crumbs_nearBehind b_Crumbs_nearBehind 4 .int 2 62 D (tyK cI cJ cC) xE0 [.ref a_h, .ref a_g1, .int x2] (w_Crumbs_nearBehind cI cJ cC a_h a_h_have a_h_next a_g1 a_g1_kinds a_g1_sweets a_g1_settings a_g1_heaps z_h_doublings z_h_have z_h_next (r_children z_g1) (r_strokes z_g1) (r_gave z_g1) (r_threw z_g1) (r_sweets z_g1) (r_settings z_g1)) q.1 (w_Crumbs_nearBehind cI cJ cC a_h a_h_have a_h_next a_g1 a_g1_kinds a_g1_sweets a_g1_settings a_g1_heaps q.2.1 q.2.2.1 q.2.2.2 (r_children z_g1) (r_strokes z_g1) (r_gave z_g1) (r_threw z_g1) (r_sweets z_g1) (r_settings z_g1)) := by
  refine xI_of (by decide) (Nat.le_of_ble_eq_true rfl) ?_
  intro p e s m args below meth c A Q hx hb hml hown hT hA hP hD hK hS hE hret ls hl
  have hown : s.vm.findClass R_Crumbs = some m.cls := hown
  have hl : lv_has ls 4 [(0, .ref a_h), (1, .ref a_g1), (2, .int x2)] := hl
  unfold f_Crumbs_nearBehind at hf
  have L7 : ∀ (n : Nat) (z_h_doublings : Int32) (z_h_have : (Nat → Int64)) (z_h_next : (Nat → Int64)) (x3 : Int32) (H : Heap) (locs : List Loc) (ls : Array Slot), f_Crumbs_nearBehind_L7 z_g1 x2 n z_h_doublings z_h_have z_h_next x3 = some q → va_P D classes (w_Crumbs_nearBehind cI cJ cC a_h a_h_have a_h_next a_g1 a_g1_kinds a_g1_sweets a_g1_settings a_g1_heaps z_h_doublings z_h_have z_h_next (r_children z_g1) (r_strokes z_g1) (r_gave z_g1) (r_threw z_g1) (r_sweets z_g1) (r_settings z_g1)) H → va_D A (w_Crumbs_nearBehind cI cJ cC a_h a_h_have a_h_next a_g1 a_g1_kinds a_g1_sweets a_g1_settings a_g1_heaps z_h_doublings z_h_have z_h_next (r_children z_g1) (r_strokes z_g1) (r_gave z_g1) (r_threw z_g1) (r_sweets z_g1) (r_settings z_g1)) → va_S A s.heap H locs → lv_has ls 4 [(0, .ref a_h), (1, .ref a_g1), (2, .int x2), (3, .int x3)] → W p l e (xRm 2 62) s m args below meth c H locs 0 0 Q (F0 m 7 ls []) := by
    intro n
    induction n with
    | zero => intro z_h_doublings z_h_have z_h_next x3 H locs ls hf hP hD hS hl; exact nomatch (show (none : Option (Int32 × Int32 × (Nat → Int64) × (Nat → Int64))) = some q from hf)
    | succ n ih =>
      intro z_h_doublings z_h_have z_h_next x3 H locs ls hf hP hD hS hl
      refine lv_iload_n hx hb d_Crumbs_nearBehind_7 rfl (lv_at hl 3 rfl) ?_
      refine lv_bipush (v := 20) hx hb d_Crumbs_nearBehind_8 (by decide) ?_
      refine lv_icmp_gt (tgt := 35) hx hb d_Crumbs_nearBehind_10 (by decide) (fun c2 => ?_) (fun c2 => ?_)
      · have hf := io_t hf c2
        refine lv_bipush (v := (-9)) hx hb d_Crumbs_nearBehind_35 (by decide) ?_
        have hq := Option.some.inj hf
        subst hq
        exact hret _ _ _ _ _ d_Crumbs_nearBehind_37 rfl rfl hP hD hS
      · have hf := io_f hf c2
        refine lv_aload_n hx hb d_Crumbs_nearBehind_13 rfl (lv_at hl 0 rfl) ?_
        refine lv_aload_n hx hb d_Crumbs_nearBehind_14 rfl (lv_at hl 1 rfl) ?_
        refine lv_iload_n hx hb d_Crumbs_nearBehind_15 rfl (lv_at hl 2 rfl) ?_
        obtain ⟨q3, hq3, hf⟩ := io_b hf
        refine xcVI (wc := (w_Crumbs_allAreNear cI cJ cC a_h a_h_have a_h_next a_g1 a_g1_kinds a_g1_sweets a_g1_settings a_g1_heaps z_h_doublings z_h_have (r_children z_g1) (r_strokes z_g1) (r_gave z_g1) (r_threw z_g1) (r_sweets z_g1))) (wc' := (w_Crumbs_allAreNear cI cJ cC a_h a_h_have a_h_next a_g1 a_g1_kinds a_g1_sweets a_g1_settings a_g1_heaps z_h_doublings z_h_have (r_children z_g1) (r_strokes z_g1) (r_gave z_g1) (r_threw z_g1) (r_sweets z_g1))) (ws' := (w_Crumbs_nearBehind cI cJ cC a_h a_h_have a_h_next a_g1 a_g1_kinds a_g1_sweets a_g1_settings a_g1_heaps z_h_doublings z_h_have z_h_next (r_children z_g1) (r_strokes z_g1) (r_gave z_g1) (r_threw z_g1) (r_sweets z_g1) (r_settings z_g1))) (As := [.ref a_g1, .int x2]) (rest := []) hx hb hml hown hT (c_Crumbs_allAreNear (z_h_doublings := z_h_doublings) (z_h_have := z_h_have) (z_g1 := z_g1) a_h a_h_have a_h_next a_g1 a_g1_kinds a_g1_sweets a_g1_settings a_g1_heaps hq3) k_573 k_575 ks_13 k_5 k_576 hd_Crumbs_allAreNear ⟨Nat.le_of_ble_eq_true rfl, Nat.le_of_ble_eq_true rfl⟩ xE0_ok trivial hA hK hP hD hS [0, 1, 3, 4] [2, 5] [2, 3, 0, 4, 5, 1] rfl rfl rfl rfl rfl rfl rfl rfl rfl rfl hl.1 rfl (Nat.le_of_ble_eq_true rfl) ⟨Nat.zero_le _, Nat.zero_le _⟩ d_Crumbs_nearBehind_16 (fun H locs hP hD hS => ?_)
        refine lv_if_eq (tgt := 24) hx hb d_Crumbs_nearBehind_19 (by decide) (fun c4 => ?_) (fun c4 => ?_)
        · have hf := io_t hf c4
          refine lv_aload_n hx hb d_Crumbs_nearBehind_24 rfl (lv_at hl 0 rfl) ?_
          refine lv_aload_n hx hb d_Crumbs_nearBehind_25 rfl (lv_at hl 1 rfl) ?_
          obtain ⟨q5, hq5, hf⟩ := io_b hf
          refine xcVV (wc := (w_Crumbs_advance cI cJ cC a_h a_h_have a_h_next a_g1 a_g1_kinds a_g1_sweets a_g1_settings a_g1_heaps z_h_doublings z_h_have z_h_next (r_children z_g1) (r_strokes z_g1) (r_gave z_g1) (r_threw z_g1) (r_settings z_g1))) (wc' := (w_Crumbs_advance cI cJ cC a_h a_h_have a_h_next a_g1 a_g1_kinds a_g1_sweets a_g1_settings a_g1_heaps q5.1 q5.2.1 q5.2.2 (r_children z_g1) (r_strokes z_g1) (r_gave z_g1) (r_threw z_g1) (r_settings z_g1))) (ws' := (w_Crumbs_nearBehind cI cJ cC a_h a_h_have a_h_next a_g1 a_g1_kinds a_g1_sweets a_g1_settings a_g1_heaps q5.1 q5.2.1 q5.2.2 (r_children z_g1) (r_strokes z_g1) (r_gave z_g1) (r_threw z_g1) (r_sweets z_g1) (r_settings z_g1))) (As := [.ref a_g1]) (rest := []) hx hb hml hown hT (c_Crumbs_advance (z_h_doublings := z_h_doublings) (z_h_have := z_h_have) (z_h_next := z_h_next) (z_g1 := z_g1) a_h a_h_have a_h_next a_g1 a_g1_kinds a_g1_sweets a_g1_settings a_g1_heaps hq5) k_528 k_530 ks_10 k_5 k_531 hd_Crumbs_advance ⟨Nat.le_of_ble_eq_true rfl, Nat.le_of_ble_eq_true rfl⟩ xE0_ok trivial hA hK hP hD hS [0, 1, 2, 3, 5] [4] [1, 2, 3, 4, 0, 5] rfl rfl rfl rfl rfl rfl rfl rfl rfl rfl hl.1 rfl (Nat.le_of_ble_eq_true rfl) ⟨Nat.zero_le _, Nat.zero_le _⟩ d_Crumbs_nearBehind_26 (fun H locs hP hD hS => ?_)
          refine lv_iinc (v := (x3 + 1)) (lv' := [(3, .int (x3 + 1)), (0, .ref a_h), (1, .ref a_g1), (2, .int x2)]) hx hb d_Crumbs_nearBehind_29 hl (k := 3) rfl (by rfl) (by decide) rfl (fun ls hl => ?_)
          refine lv_goto (tgt := 7) hx hb d_Crumbs_nearBehind_32 (by decide) ?_
          exact ih q5.1 q5.2.1 q5.2.2 (x3 + 1) _ _ _ hf hP hD hS (lv_sub hl [1, 2, 3, 0] rfl)
        · have hf := io_f hf c4
          refine lv_iload_n hx hb d_Crumbs_nearBehind_22 rfl (lv_at hl 3 rfl) ?_
          have hq := Option.some.inj hf
          subst hq
          exact hret _ _ _ _ _ d_Crumbs_nearBehind_23 rfl rfl hP hD hS
  refine lv_aload_n hx hb d_Crumbs_nearBehind_0 rfl (lv_at hl 0 rfl) ?_
  refine lv_aload_n hx hb d_Crumbs_nearBehind_1 rfl (lv_at hl 1 rfl) ?_
  obtain ⟨q1, hq1, hf⟩ := io_b hf
  refine xcVV (wc := (w_Crumbs_begin cI cJ cC a_h a_h_have a_h_next a_g1 a_g1_kinds a_g1_sweets a_g1_settings a_g1_heaps z_h_doublings z_h_have (r_children z_g1) (r_strokes z_g1) (r_gave z_g1) (r_threw z_g1) (r_sweets z_g1))) (wc' := (w_Crumbs_begin cI cJ cC a_h a_h_have a_h_next a_g1 a_g1_kinds a_g1_sweets a_g1_settings a_g1_heaps q1.1 q1.2 (r_children z_g1) (r_strokes z_g1) (r_gave z_g1) (r_threw z_g1) (r_sweets z_g1))) (ws' := (w_Crumbs_nearBehind cI cJ cC a_h a_h_have a_h_next a_g1 a_g1_kinds a_g1_sweets a_g1_settings a_g1_heaps q1.1 q1.2 z_h_next (r_children z_g1) (r_strokes z_g1) (r_gave z_g1) (r_threw z_g1) (r_sweets z_g1) (r_settings z_g1))) (As := [.ref a_g1]) (rest := []) hx hb hml hown hT (c_Crumbs_begin (z_h_doublings := z_h_doublings) (z_h_have := z_h_have) (z_g1 := z_g1) a_h a_h_have a_h_next a_g1 a_g1_kinds a_g1_sweets a_g1_settings a_g1_heaps hq1) k_524 k_526 ks_9 k_5 k_527 hd_Crumbs_begin ⟨Nat.le_of_ble_eq_true rfl, Nat.le_of_ble_eq_true rfl⟩ xE0_ok trivial hA hK hP hD hS [0, 1, 3, 4] [2, 5] [2, 3, 0, 4, 5, 1] rfl rfl rfl rfl rfl rfl rfl rfl rfl rfl hl.1 rfl (Nat.le_of_ble_eq_true rfl) ⟨Nat.zero_le _, Nat.zero_le _⟩ d_Crumbs_nearBehind_2 (fun H locs hP hD hS => ?_)
  refine lv_iconst (v := 0) hx hb d_Crumbs_nearBehind_5 (by decide) ?_
  refine lv_istore_n (lv' := [(3, .int 0), (0, .ref a_h), (1, .ref a_g1), (2, .int x2)]) hx hb d_Crumbs_nearBehind_6 rfl hl (by decide) rfl (fun ls hl => ?_)
  exact L7 FU q1.1 q1.2 z_h_next 0 _ _ _ hf hP hD hS (lv_sub hl [1, 2, 3, 0] rfl)
theorem d_Past_mayBecome_0 : decode b_Past_mayBecome 0 = .ok (.iload_n 0, 1) := by decide +kernel
theorem d_Past_mayBecome_1 : decode b_Past_mayBecome 1 = .ok (.iload_n 1, 1) := by decide +kernel
theorem d_Past_mayBecome_2 : decode b_Past_mayBecome 2 = .ok (.if_icmp .eq 20, 3) := by decide +kernel
theorem d_Past_mayBecome_5 : decode b_Past_mayBecome 5 = .ok (.iload_n 0, 1) := by decide +kernel
theorem d_Past_mayBecome_6 : decode b_Past_mayBecome 6 = .ok (.iconst 2, 1) := by decide +kernel
theorem d_Past_mayBecome_7 : decode b_Past_mayBecome 7 = .ok (.irem, 1) := by decide +kernel
theorem d_Past_mayBecome_8 : decode b_Past_mayBecome 8 = .ok (.iconst 1, 1) := by decide +kernel
theorem d_Past_mayBecome_9 : decode b_Past_mayBecome 9 = .ok (.if_icmp .ne 17, 3) := by decide +kernel
theorem d_Past_mayBecome_12 : decode b_Past_mayBecome 12 = .ok (.iload_n 1, 1) := by decide +kernel
theorem d_Past_mayBecome_13 : decode b_Past_mayBecome 13 = .ok (.iload_n 0, 1) := by decide +kernel
theorem d_Past_mayBecome_14 : decode b_Past_mayBecome 14 = .ok (.isub, 1) := by decide +kernel
theorem d_Past_mayBecome_15 : decode b_Past_mayBecome 15 = .ok (.invokestatic 73, 3) := by decide +kernel
theorem d_Past_mayBecome_18 : decode b_Past_mayBecome 18 = .ok (.iconst 1, 1) := by decide +kernel
theorem d_Past_mayBecome_19 : decode b_Past_mayBecome 19 = .ok (.if_icmp .ne 7, 3) := by decide +kernel
theorem d_Past_mayBecome_22 : decode b_Past_mayBecome 22 = .ok (.iconst 1, 1) := by decide +kernel
theorem d_Past_mayBecome_23 : decode b_Past_mayBecome 23 = .ok (.goto 4, 3) := by decide +kernel
theorem d_Past_mayBecome_26 : decode b_Past_mayBecome 26 = .ok (.iconst 0, 1) := by decide +kernel
theorem d_Past_mayBecome_27 : decode b_Past_mayBecome 27 = .ok (.ireturn, 1) := by decide +kernel
set_option maxHeartbeats 4000000 in
set_option maxRecDepth 100000 in
theorem c_Past_mayBecome {l : Launch} {D : va_G} {cI cJ cC : ClassId} {x0 : Int32} {x1 : Int32} {q : Int32} (hf : f_Past_mayBecome x0 x1 = some q) : xI l y_Past_mayBecome b_Past_mayBecome 2 .boolean 1 21 D (tyK cI cJ cC) xE0 [.int x0, .int x1] [] q [] := by
  refine xI_of (by decide) (Nat.le_of_ble_eq_true rfl) ?_
  intro p e s m args below meth c A Q hx hb hml hown hT hA hP hD hK hS hE hret ls hl
  have hown : s.vm.findClass R_Past = some m.cls := hown
  have hl : lv_has ls 2 [(0, .int x0), (1, .int x1)] := hl
  unfold f_Past_mayBecome at hf
  refine lv_iload_n hx hb d_Past_mayBecome_0 rfl (lv_at hl 0 rfl) ?_
  refine lv_iload_n hx hb d_Past_mayBecome_1 rfl (lv_at hl 1 rfl) ?_
  refine lv_icmp_eq (tgt := 22) hx hb d_Past_mayBecome_2 (by decide) (fun c1 => ?_) (fun c1 => ?_)
  · have hf := io_t hf c1
    refine lv_iconst (v := 1) hx hb d_Past_mayBecome_22 (by decide) ?_
    refine lv_goto (tgt := 27) hx hb d_Past_mayBecome_23 (by decide) ?_
    have hq := Option.some.inj hf
    subst hq
    exact hret _ _ _ _ _ d_Past_mayBecome_27 (by decide) rfl hP hD hS
  · have hf := io_f hf c1
    refine lv_iload_n hx hb d_Past_mayBecome_5 rfl (lv_at hl 0 rfl) ?_
    refine lv_iconst (v := 2) hx hb d_Past_mayBecome_6 (by decide) ?_
    refine x_irem hx hb d_Past_mayBecome_7 (by decide) ?_
    refine lv_iconst (v := 1) hx hb d_Past_mayBecome_8 (by decide) ?_
    refine lv_icmp_ne (tgt := 26) hx hb d_Past_mayBecome_9 (by decide) (fun c2 => ?_) (fun c2 => ?_)
    · have hf := io_f hf c2
      refine lv_iconst (v := 0) hx hb d_Past_mayBecome_26 (by decide) ?_
      have hq := Option.some.inj hf
      subst hq
      exact hret _ _ _ _ _ d_Past_mayBecome_27 (by decide) rfl hP hD hS
    · have hf := io_t hf c2
      refine lv_iload_n hx hb d_Past_mayBecome_12 rfl (lv_at hl 1 rfl) ?_
      refine lv_iload_n hx hb d_Past_mayBecome_13 rfl (lv_at hl 0 rfl) ?_
      refine lv_isub hx hb d_Past_mayBecome_14 ?_
      refine va_mabs hx hb (hml.trans hl.1.symm) hown (hT _ k_606) (hT _ k_607) (hT _ k_11) (hT _ k_608) (Nat.le_of_ble_eq_true rfl) (Nat.le_of_ble_eq_true rfl) (Nat.zero_le _) (Nat.zero_le _) d_Past_mayBecome_15 ?_
      refine lv_iconst (v := 1) hx hb d_Past_mayBecome_18 (by decide) ?_
      refine lv_icmp_ne (tgt := 26) hx hb d_Past_mayBecome_19 (by decide) (fun c3 => ?_) (fun c3 => ?_)
      · have hf := io_f hf c3
        refine lv_iconst (v := 0) hx hb d_Past_mayBecome_26 (by decide) ?_
        have hq := Option.some.inj hf
        subst hq
        exact hret _ _ _ _ _ d_Past_mayBecome_27 (by decide) rfl hP hD hS
      · have hf := io_t hf c3
        refine lv_iconst (v := 1) hx hb d_Past_mayBecome_22 (by decide) ?_
        refine lv_goto (tgt := 27) hx hb d_Past_mayBecome_23 (by decide) ?_
        have hq := Option.some.inj hf
        subst hq
        exact hret _ _ _ _ _ d_Past_mayBecome_27 (by decide) rfl hP hD hS
abbrev w_Past_lastOfThoseWhoMakeHeapOf (cI cJ cC : ClassId) (a_h a_h_told a_h_struck a_h_told_kinds a_h_told_sweets a_h_told_settings a_h_told_heaps : Nat) (p_h_told_children : Int32) (p_h_told_strokes : Int32) (p_h_told_gave : Int32) (p_h_told_threw : Int32) (p_h_told_kinds : (Nat → Int32)) (p_h_told_settings : (Nat → Int32)) : va_W := [(a_h, .inr (5, [.ref a_h_told, .ref a_h_struck])), (a_h_told, .inr (1, [.ref a_h_told_kinds, .ref a_h_told_sweets, .ref a_h_told_settings, .int p_h_told_children, .int p_h_told_strokes, .int p_h_told_gave, .int p_h_told_threw, .ref a_h_told_heaps])), (a_h_told_kinds, .inl (cI, (8, .inl p_h_told_kinds))), (a_h_told_settings, .inl (cI, (3, .inl p_h_told_settings)))]
theorem d_Past_lastOfThoseWhoMakeHeapOf_0 : decode b_Past_lastOfThoseWhoMakeHeapOf 0 = .ok (.aload_n 0, 1) := by decide +kernel
theorem d_Past_lastOfThoseWhoMakeHeapOf_1 : decode b_Past_lastOfThoseWhoMakeHeapOf 1 = .ok (.getfield 12, 3) := by decide +kernel
theorem d_Past_lastOfThoseWhoMakeHeapOf_4 : decode b_Past_lastOfThoseWhoMakeHeapOf 4 = .ok (.iload_n 1, 1) := by decide +kernel
theorem d_Past_lastOfThoseWhoMakeHeapOf_5 : decode b_Past_lastOfThoseWhoMakeHeapOf 5 = .ok (.invokevirtual 61, 3) := by decide +kernel
theorem d_Past_lastOfThoseWhoMakeHeapOf_8 : decode b_Past_lastOfThoseWhoMakeHeapOf 8 = .ok (.istore_n 2, 1) := by decide +kernel
theorem d_Past_lastOfThoseWhoMakeHeapOf_9 : decode b_Past_lastOfThoseWhoMakeHeapOf 9 = .ok (.iload_n 1, 1) := by decide +kernel
theorem d_Past_lastOfThoseWhoMakeHeapOf_10 : decode b_Past_lastOfThoseWhoMakeHeapOf 10 = .ok (.aload_n 0, 1) := by decide +kernel
theorem d_Past_lastOfThoseWhoMakeHeapOf_11 : decode b_Past_lastOfThoseWhoMakeHeapOf 11 = .ok (.getfield 12, 3) := by decide +kernel
theorem d_Past_lastOfThoseWhoMakeHeapOf_14 : decode b_Past_lastOfThoseWhoMakeHeapOf 14 = .ok (.iload_n 1, 1) := by decide +kernel
theorem d_Past_lastOfThoseWhoMakeHeapOf_15 : decode b_Past_lastOfThoseWhoMakeHeapOf 15 = .ok (.invokevirtual 64, 3) := by decide +kernel
theorem d_Past_lastOfThoseWhoMakeHeapOf_18 : decode b_Past_lastOfThoseWhoMakeHeapOf 18 = .ok (.invokestatic 67, 3) := by decide +kernel
theorem d_Past_lastOfThoseWhoMakeHeapOf_21 : decode b_Past_lastOfThoseWhoMakeHeapOf 21 = .ok (.istore_n 3, 1) := by decide +kernel
theorem d_Past_lastOfThoseWhoMakeHeapOf_22 : decode b_Past_lastOfThoseWhoMakeHeapOf 22 = .ok (.aload_n 0, 1) := by decide +kernel
theorem d_Past_lastOfThoseWhoMakeHeapOf_23 : decode b_Past_lastOfThoseWhoMakeHeapOf 23 = .ok (.getfield 12, 3) := by decide +kernel
theorem d_Past_lastOfThoseWhoMakeHeapOf_26 : decode b_Past_lastOfThoseWhoMakeHeapOf 26 = .ok (.getfield 70, 3) := by decide +kernel
theorem d_Past_lastOfThoseWhoMakeHeapOf_29 : decode b_Past_lastOfThoseWhoMakeHeapOf 29 = .ok (.iload_n 1, 1) := by decide +kernel
theorem d_Past_lastOfThoseWhoMakeHeapOf_30 : decode b_Past_lastOfThoseWhoMakeHeapOf 30 = .ok (.iaload, 1) := by decide +kernel
theorem d_Past_lastOfThoseWhoMakeHeapOf_31 : decode b_Past_lastOfThoseWhoMakeHeapOf 31 = .ok (.iconst 2, 1) := by decide +kernel
theorem d_Past_lastOfThoseWhoMakeHeapOf_32 : decode b_Past_lastOfThoseWhoMakeHeapOf 32 = .ok (.if_icmp .eq 16, 3) := by decide +kernel
theorem d_Past_lastOfThoseWhoMakeHeapOf_35 : decode b_Past_lastOfThoseWhoMakeHeapOf 35 = .ok (.aload_n 0, 1) := by decide +kernel
theorem d_Past_lastOfThoseWhoMakeHeapOf_36 : decode b_Past_lastOfThoseWhoMakeHeapOf 36 = .ok (.getfield 12, 3) := by decide +kernel
theorem d_Past_lastOfThoseWhoMakeHeapOf_39 : decode b_Past_lastOfThoseWhoMakeHeapOf 39 = .ok (.getfield 70, 3) := by decide +kernel
theorem d_Past_lastOfThoseWhoMakeHeapOf_42 : decode b_Past_lastOfThoseWhoMakeHeapOf 42 = .ok (.iload_n 1, 1) := by decide +kernel
theorem d_Past_lastOfThoseWhoMakeHeapOf_43 : decode b_Past_lastOfThoseWhoMakeHeapOf 43 = .ok (.iaload, 1) := by decide +kernel
theorem d_Past_lastOfThoseWhoMakeHeapOf_44 : decode b_Past_lastOfThoseWhoMakeHeapOf 44 = .ok (.iconst 5, 1) := by decide +kernel
theorem d_Past_lastOfThoseWhoMakeHeapOf_45 : decode b_Past_lastOfThoseWhoMakeHeapOf 45 = .ok (.if_icmp .ne 7, 3) := by decide +kernel
theorem d_Past_lastOfThoseWhoMakeHeapOf_48 : decode b_Past_lastOfThoseWhoMakeHeapOf 48 = .ok (.iconst 1, 1) := by decide +kernel
theorem d_Past_lastOfThoseWhoMakeHeapOf_49 : decode b_Past_lastOfThoseWhoMakeHeapOf 49 = .ok (.goto 4, 3) := by decide +kernel
theorem d_Past_lastOfThoseWhoMakeHeapOf_52 : decode b_Past_lastOfThoseWhoMakeHeapOf 52 = .ok (.iconst 0, 1) := by decide +kernel
theorem d_Past_lastOfThoseWhoMakeHeapOf_53 : decode b_Past_lastOfThoseWhoMakeHeapOf 53 = .ok (.istore 4, 2) := by decide +kernel
theorem d_Past_lastOfThoseWhoMakeHeapOf_55 : decode b_Past_lastOfThoseWhoMakeHeapOf 55 = .ok (.iload 4, 2) := by decide +kernel
theorem d_Past_lastOfThoseWhoMakeHeapOf_57 : decode b_Past_lastOfThoseWhoMakeHeapOf 57 = .ok (.ifCond .ne 16, 3) := by decide +kernel
theorem d_Past_lastOfThoseWhoMakeHeapOf_60 : decode b_Past_lastOfThoseWhoMakeHeapOf 60 = .ok (.aload_n 0, 1) := by decide +kernel
theorem d_Past_lastOfThoseWhoMakeHeapOf_61 : decode b_Past_lastOfThoseWhoMakeHeapOf 61 = .ok (.getfield 12, 3) := by decide +kernel
theorem d_Past_lastOfThoseWhoMakeHeapOf_64 : decode b_Past_lastOfThoseWhoMakeHeapOf 64 = .ok (.getfield 70, 3) := by decide +kernel
theorem d_Past_lastOfThoseWhoMakeHeapOf_67 : decode b_Past_lastOfThoseWhoMakeHeapOf 67 = .ok (.iload_n 2, 1) := by decide +kernel
theorem d_Past_lastOfThoseWhoMakeHeapOf_68 : decode b_Past_lastOfThoseWhoMakeHeapOf 68 = .ok (.iaload, 1) := by decide +kernel
theorem d_Past_lastOfThoseWhoMakeHeapOf_69 : decode b_Past_lastOfThoseWhoMakeHeapOf 69 = .ok (.iconst 1, 1) := by decide +kernel
theorem d_Past_lastOfThoseWhoMakeHeapOf_70 : decode b_Past_lastOfThoseWhoMakeHeapOf 70 = .ok (.if_icmp .ne 11, 3) := by decide +kernel
theorem d_Past_lastOfThoseWhoMakeHeapOf_73 : decode b_Past_lastOfThoseWhoMakeHeapOf 73 = .ok (.iload_n 3, 1) := by decide +kernel
theorem d_Past_lastOfThoseWhoMakeHeapOf_74 : decode b_Past_lastOfThoseWhoMakeHeapOf 74 = .ok (.iload_n 2, 1) := by decide +kernel
theorem d_Past_lastOfThoseWhoMakeHeapOf_75 : decode b_Past_lastOfThoseWhoMakeHeapOf 75 = .ok (.invokestatic 67, 3) := by decide +kernel
theorem d_Past_lastOfThoseWhoMakeHeapOf_78 : decode b_Past_lastOfThoseWhoMakeHeapOf 78 = .ok (.goto 4, 3) := by decide +kernel
theorem d_Past_lastOfThoseWhoMakeHeapOf_81 : decode b_Past_lastOfThoseWhoMakeHeapOf 81 = .ok (.iload_n 3, 1) := by decide +kernel
theorem d_Past_lastOfThoseWhoMakeHeapOf_82 : decode b_Past_lastOfThoseWhoMakeHeapOf 82 = .ok (.ireturn, 1) := by decide +kernel
set_option maxHeartbeats 4000000 in
set_option maxRecDepth 100000 in
theorem c_Past_lastOfThoseWhoMakeHeapOf {l : Launch} {D : va_G} {cI cJ cC : ClassId} (a_h a_h_told a_h_struck a_h_told_kinds a_h_told_sweets a_h_told_settings a_h_told_heaps : Nat) {z_h_told : RS} {x1 : Int32} {q : Int32} (hf : f_Past_lastOfThoseWhoMakeHeapOf z_h_told x1 = some q) : xI l y_Past_lastOfThoseWhoMakeHeapOf b_Past_lastOfThoseWhoMakeHeapOf 5 .int 1 21 D (tyK cI cJ cC) xE0 [.ref a_h, .int x1] (w_Past_lastOfThoseWhoMakeHeapOf cI cJ cC a_h a_h_told a_h_struck a_h_told_kinds a_h_told_sweets a_h_told_settings a_h_told_heaps (r_children z_h_told) (r_strokes z_h_told) (r_gave z_h_told) (r_threw z_h_told) (r_kinds z_h_told) (r_settings z_h_told)) q (w_Past_lastOfThoseWhoMakeHeapOf cI cJ cC a_h a_h_told a_h_struck a_h_told_kinds a_h_told_sweets a_h_told_settings a_h_told_heaps (r_children z_h_told) (r_strokes z_h_told) (r_gave z_h_told) (r_threw z_h_told) (r_kinds z_h_told) (r_settings z_h_told)) := by
  refine xI_of (by decide) (Nat.le_of_ble_eq_true rfl) ?_
  intro p e s m args below meth c A Q hx hb hml hown hT hA hP hD hK hS hE hret ls hl
  have hown : s.vm.findClass R_Past = some m.cls := hown
  have hl : lv_has ls 5 [(0, .ref a_h), (1, .int x1)] := hl
  unfold f_Past_lastOfThoseWhoMakeHeapOf at hf
  refine lv_aload_n hx hb d_Past_lastOfThoseWhoMakeHeapOf_0 rfl (lv_at hl 0 rfl) ?_
  refine va_get hx hb hT i_Past hown hK hP 0 rfl rfl 0 (Nat.le_of_ble_eq_true rfl) (hT _ k_141) (fun _ h => h) rfl d_Past_lastOfThoseWhoMakeHeapOf_1 ?_
  refine lv_iload_n hx hb d_Past_lastOfThoseWhoMakeHeapOf_4 rfl (lv_at hl 1 rfl) ?_
  obtain ⟨q1, hq1, hf⟩ := io_b hf
  refine xcVI (wc := (w_Ring_leftOf cI cJ cC a_h_told a_h_told_kinds a_h_told_sweets a_h_told_settings a_h_told_heaps (r_children z_h_told) (r_strokes z_h_told) (r_gave z_h_told) (r_threw z_h_told) (r_settings z_h_told))) (wc' := (w_Ring_leftOf cI cJ cC a_h_told a_h_told_kinds a_h_told_sweets a_h_told_settings a_h_told_heaps (r_children z_h_told) (r_strokes z_h_told) (r_gave z_h_told) (r_threw z_h_told) (r_settings z_h_told))) (ws' := (w_Past_lastOfThoseWhoMakeHeapOf cI cJ cC a_h a_h_told a_h_struck a_h_told_kinds a_h_told_sweets a_h_told_settings a_h_told_heaps (r_children z_h_told) (r_strokes z_h_told) (r_gave z_h_told) (r_threw z_h_told) (r_kinds z_h_told) (r_settings z_h_told))) (As := [.int x1]) (rest := []) hx hb hml hown hT (c_Ring_leftOf (z_h := z_h_told) a_h_told a_h_told_kinds a_h_told_sweets a_h_told_settings a_h_told_heaps hq1) k_613 k_373 k_374 k_2 k_375 hd_Ring_leftOf ⟨Nat.le_of_ble_eq_true rfl, Nat.le_of_ble_eq_true rfl⟩ xE0_ok trivial hA hK hP hD hS [1, 3] [0, 2] [0, 2, 1, 3] rfl rfl rfl rfl rfl rfl rfl rfl rfl rfl hl.1 rfl (Nat.le_of_ble_eq_true rfl) ⟨Nat.zero_le _, Nat.zero_le _⟩ d_Past_lastOfThoseWhoMakeHeapOf_5 (fun H locs hP hD hS => ?_)
  refine lv_istore_n (lv' := [(2, .int q1), (0, .ref a_h), (1, .int x1)]) hx hb d_Past_lastOfThoseWhoMakeHeapOf_8 rfl hl (by decide) rfl (fun ls hl => ?_)
  refine lv_iload_n hx hb d_Past_lastOfThoseWhoMakeHeapOf_9 rfl (lv_at hl 2 rfl) ?_
  refine lv_aload_n hx hb d_Past_lastOfThoseWhoMakeHeapOf_10 rfl (lv_at hl 1 rfl) ?_
  refine va_get hx hb hT i_Past hown hK hP 0 rfl rfl 0 (Nat.le_of_ble_eq_true rfl) (hT _ k_141) (fun _ h => h) rfl d_Past_lastOfThoseWhoMakeHeapOf_11 ?_
  refine lv_iload_n hx hb d_Past_lastOfThoseWhoMakeHeapOf_14 rfl (lv_at hl 2 rfl) ?_
  obtain ⟨q2, hq2, hf⟩ := io_b hf
  refine xcVI (wc := (w_Ring_rightOf cI cJ cC a_h_told a_h_told_kinds a_h_told_sweets a_h_told_settings a_h_told_heaps (r_children z_h_told) (r_strokes z_h_told) (r_gave z_h_told) (r_threw z_h_told) (r_settings z_h_told))) (wc' := (w_Ring_rightOf cI cJ cC a_h_told a_h_told_kinds a_h_told_sweets a_h_told_settings a_h_told_heaps (r_children z_h_told) (r_strokes z_h_told) (r_gave z_h_told) (r_threw z_h_told) (r_settings z_h_told))) (ws' := (w_Past_lastOfThoseWhoMakeHeapOf cI cJ cC a_h a_h_told a_h_struck a_h_told_kinds a_h_told_sweets a_h_told_settings a_h_told_heaps (r_children z_h_told) (r_strokes z_h_told) (r_gave z_h_told) (r_threw z_h_told) (r_kinds z_h_told) (r_settings z_h_told))) (As := [.int x1]) (rest := [.int x1]) hx hb hml hown hT (c_Ring_rightOf (z_h := z_h_told) a_h_told a_h_told_kinds a_h_told_sweets a_h_told_settings a_h_told_heaps hq2) k_614 k_425 k_426 k_2 k_427 hd_Ring_rightOf ⟨Nat.le_of_ble_eq_true rfl, Nat.le_of_ble_eq_true rfl⟩ xE0_ok trivial hA hK hP hD hS [1, 3] [0, 2] [0, 2, 1, 3] rfl rfl rfl rfl rfl rfl rfl rfl rfl rfl hl.1 rfl (Nat.le_of_ble_eq_true rfl) ⟨Nat.zero_le _, Nat.zero_le _⟩ d_Past_lastOfThoseWhoMakeHeapOf_15 (fun H locs hP hD hS => ?_)
  refine va_mmax hx hb (hml.trans hl.1.symm) hown (hT _ k_615) (hT _ k_262) (hT _ k_11) (hT _ k_263) (Nat.le_of_ble_eq_true rfl) (Nat.le_of_ble_eq_true rfl) (Nat.zero_le _) (Nat.zero_le _) d_Past_lastOfThoseWhoMakeHeapOf_18 ?_
  refine lv_istore_n (lv' := [(3, .int (jmax x1 q2)), (2, .int q1), (0, .ref a_h), (1, .int x1)]) hx hb d_Past_lastOfThoseWhoMakeHeapOf_21 rfl hl (by decide) rfl (fun ls hl => ?_)
  refine lv_aload_n hx hb d_Past_lastOfThoseWhoMakeHeapOf_22 rfl (lv_at hl 2 rfl) ?_
  refine va_get hx hb hT i_Past hown hK hP 0 rfl rfl 0 (Nat.le_of_ble_eq_true rfl) (hT _ k_141) (fun _ h => h) rfl d_Past_lastOfThoseWhoMakeHeapOf_23 ?_
  refine va_get hx hb hT i_Ring hown hK hP 1 rfl rfl 0 (Nat.le_of_ble_eq_true rfl) (hT _ k_32) (fun _ h => h) rfl d_Past_lastOfThoseWhoMakeHeapOf_26 ?_
  refine lv_iload_n hx hb d_Past_lastOfThoseWhoMakeHeapOf_29 rfl (lv_at hl 3 rfl) ?_
  obtain ⟨c3, hf⟩ := io_n hf
  refine x_iald hx hb hK hP 2 0 rfl rfl (j := x1.toNatClampNeg) rfl c3 d_Past_lastOfThoseWhoMakeHeapOf_30 ?_
  refine lv_iconst (v := 2) hx hb d_Past_lastOfThoseWhoMakeHeapOf_31 (by decide) ?_
  refine lv_icmp_eq (tgt := 48) hx hb d_Past_lastOfThoseWhoMakeHeapOf_32 (by decide) (fun c4 => ?_) (fun c4 => ?_)
  · have hf := io_t hf c4
    refine lv_iconst (v := 1) hx hb d_Past_lastOfThoseWhoMakeHeapOf_48 (by decide) ?_
    refine lv_goto (tgt := 53) hx hb d_Past_lastOfThoseWhoMakeHeapOf_49 (by decide) ?_
    refine lv_istore (lv' := [(4, .int 1), (3, .int (jmax x1 q2)), (2, .int q1), (0, .ref a_h), (1, .int x1)]) hx hb d_Past_lastOfThoseWhoMakeHeapOf_53 hl (by decide) rfl (fun ls hl => ?_)
    refine lv_iload hx hb d_Past_lastOfThoseWhoMakeHeapOf_55 (lv_at hl 0 rfl) ?_
    refine lv_if_ne (tgt := 73) hx hb d_Past_lastOfThoseWhoMakeHeapOf_57 (by decide) (fun _ => ?_) (fun c => absurd c (show ¬ (1 : Int32) = 0 from by decide +kernel))
    refine lv_iload_n hx hb d_Past_lastOfThoseWhoMakeHeapOf_73 rfl (lv_at hl 1 rfl) ?_
    refine lv_iload_n hx hb d_Past_lastOfThoseWhoMakeHeapOf_74 rfl (lv_at hl 2 rfl) ?_
    refine va_mmax hx hb (hml.trans hl.1.symm) hown (hT _ k_615) (hT _ k_262) (hT _ k_11) (hT _ k_263) (Nat.le_of_ble_eq_true rfl) (Nat.le_of_ble_eq_true rfl) (Nat.zero_le _) (Nat.zero_le _) d_Past_lastOfThoseWhoMakeHeapOf_75 ?_
    refine lv_goto (tgt := 82) hx hb d_Past_lastOfThoseWhoMakeHeapOf_78 (by decide) ?_
    have hq := Option.some.inj hf
    subst hq
    exact hret _ _ _ _ _ d_Past_lastOfThoseWhoMakeHeapOf_82 rfl rfl hP hD hS
  · have hf := io_f hf c4
    refine lv_aload_n hx hb d_Past_lastOfThoseWhoMakeHeapOf_35 rfl (lv_at hl 2 rfl) ?_
    refine va_get hx hb hT i_Past hown hK hP 0 rfl rfl 0 (Nat.le_of_ble_eq_true rfl) (hT _ k_141) (fun _ h => h) rfl d_Past_lastOfThoseWhoMakeHeapOf_36 ?_
    refine va_get hx hb hT i_Ring hown hK hP 1 rfl rfl 0 (Nat.le_of_ble_eq_true rfl) (hT _ k_32) (fun _ h => h) rfl d_Past_lastOfThoseWhoMakeHeapOf_39 ?_
    refine lv_iload_n hx hb d_Past_lastOfThoseWhoMakeHeapOf_42 rfl (lv_at hl 3 rfl) ?_
    refine x_iald hx hb hK hP 2 0 rfl rfl (j := x1.toNatClampNeg) rfl c3 d_Past_lastOfThoseWhoMakeHeapOf_43 ?_
    refine lv_iconst (v := 5) hx hb d_Past_lastOfThoseWhoMakeHeapOf_44 (by decide) ?_
    refine lv_icmp_ne (tgt := 52) hx hb d_Past_lastOfThoseWhoMakeHeapOf_45 (by decide) (fun c5 => ?_) (fun c5 => ?_)
    · have hf := io_f hf c5
      refine lv_iconst (v := 0) hx hb d_Past_lastOfThoseWhoMakeHeapOf_52 (by decide) ?_
      refine lv_istore (lv' := [(4, .int 0), (3, .int (jmax x1 q2)), (2, .int q1), (0, .ref a_h), (1, .int x1)]) hx hb d_Past_lastOfThoseWhoMakeHeapOf_53 hl (by decide) rfl (fun ls hl => ?_)
      refine lv_iload hx hb d_Past_lastOfThoseWhoMakeHeapOf_55 (lv_at hl 0 rfl) ?_
      refine lv_if_ne (tgt := 73) hx hb d_Past_lastOfThoseWhoMakeHeapOf_57 (by decide) (fun c => absurd (show (0 : Int32) = 0 from by decide +kernel) c) (fun _ => ?_)
      refine lv_aload_n hx hb d_Past_lastOfThoseWhoMakeHeapOf_60 rfl (lv_at hl 3 rfl) ?_
      refine va_get hx hb hT i_Past hown hK hP 0 rfl rfl 0 (Nat.le_of_ble_eq_true rfl) (hT _ k_141) (fun _ h => h) rfl d_Past_lastOfThoseWhoMakeHeapOf_61 ?_
      refine va_get hx hb hT i_Ring hown hK hP 1 rfl rfl 0 (Nat.le_of_ble_eq_true rfl) (hT _ k_32) (fun _ h => h) rfl d_Past_lastOfThoseWhoMakeHeapOf_64 ?_
      refine lv_iload_n hx hb d_Past_lastOfThoseWhoMakeHeapOf_67 rfl (lv_at hl 2 rfl) ?_
      obtain ⟨c6, hf⟩ := io_n hf
      refine x_iald hx hb hK hP 2 0 rfl rfl (j := q1.toNatClampNeg) rfl c6 d_Past_lastOfThoseWhoMakeHeapOf_68 ?_
      refine lv_iconst (v := 1) hx hb d_Past_lastOfThoseWhoMakeHeapOf_69 (by decide) ?_
      refine lv_icmp_ne (tgt := 81) hx hb d_Past_lastOfThoseWhoMakeHeapOf_70 (by decide) (fun c7 => ?_) (fun c7 => ?_)
      · have hf := io_f hf c7
        refine lv_iload_n hx hb d_Past_lastOfThoseWhoMakeHeapOf_81 rfl (lv_at hl 1 rfl) ?_
        have hq := Option.some.inj hf
        subst hq
        exact hret _ _ _ _ _ d_Past_lastOfThoseWhoMakeHeapOf_82 rfl rfl hP hD hS
      · have hf := io_t hf c7
        refine lv_iload_n hx hb d_Past_lastOfThoseWhoMakeHeapOf_73 rfl (lv_at hl 1 rfl) ?_
        refine lv_iload_n hx hb d_Past_lastOfThoseWhoMakeHeapOf_74 rfl (lv_at hl 2 rfl) ?_
        refine va_mmax hx hb (hml.trans hl.1.symm) hown (hT _ k_615) (hT _ k_262) (hT _ k_11) (hT _ k_263) (Nat.le_of_ble_eq_true rfl) (Nat.le_of_ble_eq_true rfl) (Nat.zero_le _) (Nat.zero_le _) d_Past_lastOfThoseWhoMakeHeapOf_75 ?_
        refine lv_goto (tgt := 82) hx hb d_Past_lastOfThoseWhoMakeHeapOf_78 (by decide) ?_
        have hq := Option.some.inj hf
        subst hq
        exact hret _ _ _ _ _ d_Past_lastOfThoseWhoMakeHeapOf_82 rfl rfl hP hD hS
    · have hf := io_t hf c5
      refine lv_iconst (v := 1) hx hb d_Past_lastOfThoseWhoMakeHeapOf_48 (by decide) ?_
      refine lv_goto (tgt := 53) hx hb d_Past_lastOfThoseWhoMakeHeapOf_49 (by decide) ?_
      refine lv_istore (lv' := [(4, .int 1), (3, .int (jmax x1 q2)), (2, .int q1), (0, .ref a_h), (1, .int x1)]) hx hb d_Past_lastOfThoseWhoMakeHeapOf_53 hl (by decide) rfl (fun ls hl => ?_)
      refine lv_iload hx hb d_Past_lastOfThoseWhoMakeHeapOf_55 (lv_at hl 0 rfl) ?_
      refine lv_if_ne (tgt := 73) hx hb d_Past_lastOfThoseWhoMakeHeapOf_57 (by decide) (fun _ => ?_) (fun c => absurd c (show ¬ (1 : Int32) = 0 from by decide +kernel))
      refine lv_iload_n hx hb d_Past_lastOfThoseWhoMakeHeapOf_73 rfl (lv_at hl 1 rfl) ?_
      refine lv_iload_n hx hb d_Past_lastOfThoseWhoMakeHeapOf_74 rfl (lv_at hl 2 rfl) ?_
      refine va_mmax hx hb (hml.trans hl.1.symm) hown (hT _ k_615) (hT _ k_262) (hT _ k_11) (hT _ k_263) (Nat.le_of_ble_eq_true rfl) (Nat.le_of_ble_eq_true rfl) (Nat.zero_le _) (Nat.zero_le _) d_Past_lastOfThoseWhoMakeHeapOf_75 ?_
      refine lv_goto (tgt := 82) hx hb d_Past_lastOfThoseWhoMakeHeapOf_78 (by decide) ?_
      have hq := Option.some.inj hf
      subst hq
      exact hret _ _ _ _ _ d_Past_lastOfThoseWhoMakeHeapOf_82 rfl rfl hP hD hS
abbrev w_Past_placeOfWrong (cI cJ cC : ClassId) (a_h a_h_told a_h_struck a_h_told_kinds a_h_told_sweets a_h_told_settings a_h_told_heaps a_g1 a_g1_kinds a_g1_sweets a_g1_settings a_g1_heaps : Nat) (p_h_told_children : Int32) (p_h_told_strokes : Int32) (p_h_told_gave : Int32) (p_h_told_threw : Int32) (p_h_told_kinds : (Nat → Int32)) (p_h_told_sweets : (Nat → Int32)) (p_h_told_settings : (Nat → Int32)) (p_g1_children : Int32) (p_g1_strokes : Int32) (p_g1_gave : Int32) (p_g1_threw : Int32) (p_g1_sweets : (Nat → Int32)) : va_W := [(a_h, .inr (5, [.ref a_h_told, .ref a_h_struck])), (a_h_told, .inr (1, [.ref a_h_told_kinds, .ref a_h_told_sweets, .ref a_h_told_settings, .int p_h_told_children, .int p_h_told_strokes, .int p_h_told_gave, .int p_h_told_threw, .ref a_h_told_heaps])), (a_h_told_kinds, .inl (cI, (8, .inl p_h_told_kinds))), (a_h_told_sweets, .inl (cI, (8, .inl p_h_told_sweets))), (a_h_told_settings, .inl (cI, (3, .inl p_h_told_settings))), (a_g1, .inr (1, [.ref a_g1_kinds, .ref a_g1_sweets, .ref a_g1_settings, .int p_g1_children, .int p_g1_strokes, .int p_g1_gave, .int p_g1_threw, .ref a_g1_heaps])), (a_g1_sweets, .inl (cI, (8, .inl p_g1_sweets)))]
theorem d_Past_placeOfWrong_0 : decode b_Past_placeOfWrong 0 = .ok (.aload_n 0, 1) := by decide +kernel
theorem d_Past_placeOfWrong_1 : decode b_Past_placeOfWrong 1 = .ok (.getfield 12, 3) := by decide +kernel
theorem d_Past_placeOfWrong_4 : decode b_Past_placeOfWrong 4 = .ok (.getfield 21, 3) := by decide +kernel
theorem d_Past_placeOfWrong_7 : decode b_Past_placeOfWrong 7 = .ok (.istore_n 2, 1) := by decide +kernel
theorem d_Past_placeOfWrong_8 : decode b_Past_placeOfWrong 8 = .ok (.iconst 0, 1) := by decide +kernel
theorem d_Past_placeOfWrong_9 : decode b_Past_placeOfWrong 9 = .ok (.istore_n 3, 1) := by decide +kernel
theorem d_Past_placeOfWrong_10 : decode b_Past_placeOfWrong 10 = .ok (.iload_n 3, 1) := by decide +kernel
theorem d_Past_placeOfWrong_11 : decode b_Past_placeOfWrong 11 = .ok (.aload_n 0, 1) := by decide +kernel
theorem d_Past_placeOfWrong_12 : decode b_Past_placeOfWrong 12 = .ok (.getfield 12, 3) := by decide +kernel
theorem d_Past_placeOfWrong_15 : decode b_Past_placeOfWrong 15 = .ok (.getfield 21, 3) := by decide +kernel
theorem d_Past_placeOfWrong_18 : decode b_Past_placeOfWrong 18 = .ok (.if_icmp .ge 39, 3) := by decide +kernel
theorem d_Past_placeOfWrong_21 : decode b_Past_placeOfWrong 21 = .ok (.aload_n 0, 1) := by decide +kernel
theorem d_Past_placeOfWrong_22 : decode b_Past_placeOfWrong 22 = .ok (.getfield 12, 3) := by decide +kernel
theorem d_Past_placeOfWrong_25 : decode b_Past_placeOfWrong 25 = .ok (.iload_n 3, 1) := by decide +kernel
theorem d_Past_placeOfWrong_26 : decode b_Past_placeOfWrong 26 = .ok (.invokevirtual 51, 3) := by decide +kernel
theorem d_Past_placeOfWrong_29 : decode b_Past_placeOfWrong 29 = .ok (.aload_n 1, 1) := by decide +kernel
theorem d_Past_placeOfWrong_30 : decode b_Past_placeOfWrong 30 = .ok (.getfield 29, 3) := by decide +kernel
theorem d_Past_placeOfWrong_33 : decode b_Past_placeOfWrong 33 = .ok (.iload_n 3, 1) := by decide +kernel
theorem d_Past_placeOfWrong_34 : decode b_Past_placeOfWrong 34 = .ok (.iaload, 1) := by decide +kernel
theorem d_Past_placeOfWrong_35 : decode b_Past_placeOfWrong 35 = .ok (.invokestatic 55, 3) := by decide +kernel
theorem d_Past_placeOfWrong_38 : decode b_Past_placeOfWrong 38 = .ok (.ifCond .ne 13, 3) := by decide +kernel
theorem d_Past_placeOfWrong_41 : decode b_Past_placeOfWrong 41 = .ok (.iload_n 2, 1) := by decide +kernel
theorem d_Past_placeOfWrong_42 : decode b_Past_placeOfWrong 42 = .ok (.aload_n 0, 1) := by decide +kernel
theorem d_Past_placeOfWrong_43 : decode b_Past_placeOfWrong 43 = .ok (.iload_n 3, 1) := by decide +kernel
theorem d_Past_placeOfWrong_44 : decode b_Past_placeOfWrong 44 = .ok (.invokevirtual 58, 3) := by decide +kernel
theorem d_Past_placeOfWrong_47 : decode b_Past_placeOfWrong 47 = .ok (.invokestatic 41, 3) := by decide +kernel
theorem d_Past_placeOfWrong_50 : decode b_Past_placeOfWrong 50 = .ok (.istore_n 2, 1) := by decide +kernel
theorem d_Past_placeOfWrong_51 : decode b_Past_placeOfWrong 51 = .ok (.iinc 3 1, 3) := by decide +kernel
theorem d_Past_placeOfWrong_54 : decode b_Past_placeOfWrong 54 = .ok (.goto (-44), 3) := by decide +kernel
theorem d_Past_placeOfWrong_57 : decode b_Past_placeOfWrong 57 = .ok (.iload_n 2, 1) := by decide +kernel
theorem d_Past_placeOfWrong_58 : decode b_Past_placeOfWrong 58 = .ok (.ireturn, 1) := by decide +kernel
set_option maxHeartbeats 4000000 in
set_option maxRecDepth 100000 in
theorem c_Past_placeOfWrong {l : Launch} {D : va_G} {cI cJ cC : ClassId} (a_h a_h_told a_h_struck a_h_told_kinds a_h_told_sweets a_h_told_settings a_h_told_heaps a_g1 a_g1_kinds a_g1_sweets a_g1_settings a_g1_heaps : Nat) {z_h_told : RS} {z_g1 : RS} {q : Int32} (hf : f_Past_placeOfWrong z_h_told z_g1 = some q) : xI l y_Past_placeOfWrong b_Past_placeOfWrong 4 .int 3 69 D (tyK cI cJ cC) xE0 [.ref a_h, .ref a_g1] (w_Past_placeOfWrong cI cJ cC a_h a_h_told a_h_struck a_h_told_kinds a_h_told_sweets a_h_told_settings a_h_told_heaps a_g1 a_g1_kinds a_g1_sweets a_g1_settings a_g1_heaps (r_children z_h_told) (r_strokes z_h_told) (r_gave z_h_told) (r_threw z_h_told) (r_kinds z_h_told) (r_sweets z_h_told) (r_settings z_h_told) (r_children z_g1) (r_strokes z_g1) (r_gave z_g1) (r_threw z_g1) (r_sweets z_g1)) q (w_Past_placeOfWrong cI cJ cC a_h a_h_told a_h_struck a_h_told_kinds a_h_told_sweets a_h_told_settings a_h_told_heaps a_g1 a_g1_kinds a_g1_sweets a_g1_settings a_g1_heaps (r_children z_h_told) (r_strokes z_h_told) (r_gave z_h_told) (r_threw z_h_told) (r_kinds z_h_told) (r_sweets z_h_told) (r_settings z_h_told) (r_children z_g1) (r_strokes z_g1) (r_gave z_g1) (r_threw z_g1) (r_sweets z_g1)) := by
  refine xI_of (by decide) (Nat.le_of_ble_eq_true rfl) ?_
  intro p e s m args below meth c A Q hx hb hml hown hT hA hP hD hK hS hE hret ls hl
  have hown : s.vm.findClass R_Past = some m.cls := hown
  have hl : lv_has ls 4 [(0, .ref a_h), (1, .ref a_g1)] := hl
  unfold f_Past_placeOfWrong at hf
  have L10 : ∀ (n : Nat) (x2 : Int32) (x3 : Int32) (H : Heap) (locs : List Loc) (ls : Array Slot), f_Past_placeOfWrong_L10 z_h_told z_g1 n x2 x3 = some q → va_P D classes (w_Past_placeOfWrong cI cJ cC a_h a_h_told a_h_struck a_h_told_kinds a_h_told_sweets a_h_told_settings a_h_told_heaps a_g1 a_g1_kinds a_g1_sweets a_g1_settings a_g1_heaps (r_children z_h_told) (r_strokes z_h_told) (r_gave z_h_told) (r_threw z_h_told) (r_kinds z_h_told) (r_sweets z_h_told) (r_settings z_h_told) (r_children z_g1) (r_strokes z_g1) (r_gave z_g1) (r_threw z_g1) (r_sweets z_g1)) H → va_D A (w_Past_placeOfWrong cI cJ cC a_h a_h_told a_h_struck a_h_told_kinds a_h_told_sweets a_h_told_settings a_h_told_heaps a_g1 a_g1_kinds a_g1_sweets a_g1_settings a_g1_heaps (r_children z_h_told) (r_strokes z_h_told) (r_gave z_h_told) (r_threw z_h_told) (r_kinds z_h_told) (r_sweets z_h_told) (r_settings z_h_told) (r_children z_g1) (r_strokes z_g1) (r_gave z_g1) (r_threw z_g1) (r_sweets z_g1)) → va_S A s.heap H locs → lv_has ls 4 [(0, .ref a_h), (1, .ref a_g1), (2, .int x2), (3, .int x3)] → W p l e (xRm 3 69) s m args below meth c H locs 0 0 Q (F0 m 10 ls []) := by
    intro n
    induction n with
    | zero => intro x2 x3 H locs ls hf hP hD hS hl; exact nomatch (show (none : Option (Int32)) = some q from hf)
    | succ n ih =>
      intro x2 x3 H locs ls hf hP hD hS hl
      refine lv_iload_n hx hb d_Past_placeOfWrong_10 rfl (lv_at hl 3 rfl) ?_
      refine lv_aload_n hx hb d_Past_placeOfWrong_11 rfl (lv_at hl 0 rfl) ?_
      refine va_get hx hb hT i_Past hown hK hP 0 rfl rfl 0 (Nat.le_of_ble_eq_true rfl) (hT _ k_141) (fun _ h => h) rfl d_Past_placeOfWrong_12 ?_
      refine va_get hx hb hT i_Ring hown hK hP 1 rfl rfl 3 (Nat.le_of_ble_eq_true rfl) (hT _ k_46) (fun _ h => h) rfl d_Past_placeOfWrong_15 ?_
      refine lv_icmp_ge (tgt := 57) hx hb d_Past_placeOfWrong_18 (by decide) (fun c1 => ?_) (fun c1 => ?_)
      · have hf := io_t hf c1
        refine lv_iload_n hx hb d_Past_placeOfWrong_57 rfl (lv_at hl 2 rfl) ?_
        have hq := Option.some.inj hf
        subst hq
        exact hret _ _ _ _ _ d_Past_placeOfWrong_58 rfl rfl hP hD hS
      · have hf := io_f hf c1
        refine lv_aload_n hx hb d_Past_placeOfWrong_21 rfl (lv_at hl 0 rfl) ?_
        refine va_get hx hb hT i_Past hown hK hP 0 rfl rfl 0 (Nat.le_of_ble_eq_true rfl) (hT _ k_141) (fun _ h => h) rfl d_Past_placeOfWrong_22 ?_
        refine lv_iload_n hx hb d_Past_placeOfWrong_25 rfl (lv_at hl 3 rfl) ?_
        obtain ⟨q2, hq2, hf⟩ := io_b hf
        refine xcVI (wc := (w_Ring_heapBehindGifts cI cJ cC a_h_told a_h_told_kinds a_h_told_sweets a_h_told_settings a_h_told_heaps (r_children z_h_told) (r_strokes z_h_told) (r_gave z_h_told) (r_threw z_h_told) (r_kinds z_h_told) (r_sweets z_h_told) (r_settings z_h_told))) (wc' := (w_Ring_heapBehindGifts cI cJ cC a_h_told a_h_told_kinds a_h_told_sweets a_h_told_settings a_h_told_heaps (r_children z_h_told) (r_strokes z_h_told) (r_gave z_h_told) (r_threw z_h_told) (r_kinds z_h_told) (r_sweets z_h_told) (r_settings z_h_told))) (ws' := (w_Past_placeOfWrong cI cJ cC a_h a_h_told a_h_struck a_h_told_kinds a_h_told_sweets a_h_told_settings a_h_told_heaps a_g1 a_g1_kinds a_g1_sweets a_g1_settings a_g1_heaps (r_children z_h_told) (r_strokes z_h_told) (r_gave z_h_told) (r_threw z_h_told) (r_kinds z_h_told) (r_sweets z_h_told) (r_settings z_h_told) (r_children z_g1) (r_strokes z_g1) (r_gave z_g1) (r_threw z_g1) (r_sweets z_g1))) (As := [.int x3]) (rest := []) hx hb hml hown hT (c_Ring_heapBehindGifts (z_h := z_h_told) a_h_told a_h_told_kinds a_h_told_sweets a_h_told_settings a_h_told_heaps hq2) k_599 k_600 k_601 k_2 k_602 hd_Ring_heapBehindGifts ⟨Nat.le_of_ble_eq_true rfl, Nat.le_of_ble_eq_true rfl⟩ xE0_ok trivial hA hK hP hD hS [1, 2, 3, 4] [0, 5, 6] [0, 3, 4, 5, 6, 1, 2] rfl rfl rfl rfl rfl rfl rfl rfl rfl rfl hl.1 rfl (Nat.le_of_ble_eq_true rfl) ⟨Nat.zero_le _, Nat.zero_le _⟩ d_Past_placeOfWrong_26 (fun H locs hP hD hS => ?_)
        refine lv_aload_n hx hb d_Past_placeOfWrong_29 rfl (lv_at hl 1 rfl) ?_
        refine va_get hx hb hT i_Ring hown hK hP 5 rfl rfl 1 (Nat.le_of_ble_eq_true rfl) (hT _ k_37) (fun _ h => h) rfl d_Past_placeOfWrong_30 ?_
        refine lv_iload_n hx hb d_Past_placeOfWrong_33 rfl (lv_at hl 3 rfl) ?_
        obtain ⟨c3, hf⟩ := io_n hf
        refine x_iald hx hb hK hP 6 0 rfl rfl (j := x3.toNatClampNeg) rfl c3 d_Past_placeOfWrong_34 ?_
        obtain ⟨q4, hq4, hf⟩ := io_b hf
        refine xcSI (wc := []) (wc' := []) (ws' := (w_Past_placeOfWrong cI cJ cC a_h a_h_told a_h_struck a_h_told_kinds a_h_told_sweets a_h_told_settings a_h_told_heaps a_g1 a_g1_kinds a_g1_sweets a_g1_settings a_g1_heaps (r_children z_h_told) (r_strokes z_h_told) (r_gave z_h_told) (r_threw z_h_told) (r_kinds z_h_told) (r_sweets z_h_told) (r_settings z_h_told) (r_children z_g1) (r_strokes z_g1) (r_gave z_g1) (r_threw z_g1) (r_sweets z_g1))) (As := [.int q2, .int ((r_sweets z_g1) x3.toNatClampNeg)]) (rest := []) hx hb hml hown hT (c_Past_mayBecome hq4) k_603 k_604 k_6 k_605 hd_Past_mayBecome ⟨Nat.le_of_ble_eq_true rfl, Nat.le_of_ble_eq_true rfl⟩ xE0_ok trivial hA hK hP hD hS [] [0, 1, 2, 3, 4, 5, 6] [0, 1, 2, 3, 4, 5, 6] rfl rfl rfl rfl rfl rfl rfl hl.1 rfl (Nat.le_of_ble_eq_true rfl) ⟨Nat.zero_le _, Nat.zero_le _⟩ d_Past_placeOfWrong_35 (fun H locs hP hD hS => ?_)
        refine lv_if_ne (tgt := 51) hx hb d_Past_placeOfWrong_38 (by decide) (fun c5 => ?_) (fun c5 => ?_)
        · have hf := io_f hf c5
          refine lv_iinc (v := (x3 + 1)) (lv' := [(3, .int (x3 + 1)), (0, .ref a_h), (1, .ref a_g1), (2, .int x2)]) hx hb d_Past_placeOfWrong_51 hl (k := 3) rfl (by rfl) (by decide) rfl (fun ls hl => ?_)
          refine lv_goto (tgt := 10) hx hb d_Past_placeOfWrong_54 (by decide) ?_
          exact ih x2 (x3 + 1) _ _ _ hf hP hD hS (lv_sub hl [1, 2, 3, 0] rfl)
        · have hf := io_t hf c5
          refine lv_iload_n hx hb d_Past_placeOfWrong_41 rfl (lv_at hl 2 rfl) ?_
          refine lv_aload_n hx hb d_Past_placeOfWrong_42 rfl (lv_at hl 0 rfl) ?_
          refine lv_iload_n hx hb d_Past_placeOfWrong_43 rfl (lv_at hl 3 rfl) ?_
          obtain ⟨q6, hq6, hf⟩ := io_b hf
          refine xcVI (wc := (w_Past_lastOfThoseWhoMakeHeapOf cI cJ cC a_h a_h_told a_h_struck a_h_told_kinds a_h_told_sweets a_h_told_settings a_h_told_heaps (r_children z_h_told) (r_strokes z_h_told) (r_gave z_h_told) (r_threw z_h_told) (r_kinds z_h_told) (r_settings z_h_told))) (wc' := (w_Past_lastOfThoseWhoMakeHeapOf cI cJ cC a_h a_h_told a_h_struck a_h_told_kinds a_h_told_sweets a_h_told_settings a_h_told_heaps (r_children z_h_told) (r_strokes z_h_told) (r_gave z_h_told) (r_threw z_h_told) (r_kinds z_h_told) (r_settings z_h_told))) (ws' := (w_Past_placeOfWrong cI cJ cC a_h a_h_told a_h_struck a_h_told_kinds a_h_told_sweets a_h_told_settings a_h_told_heaps a_g1 a_g1_kinds a_g1_sweets a_g1_settings a_g1_heaps (r_children z_h_told) (r_strokes z_h_told) (r_gave z_h_told) (r_threw z_h_told) (r_kinds z_h_told) (r_sweets z_h_told) (r_settings z_h_told) (r_children z_g1) (r_strokes z_g1) (r_gave z_g1) (r_threw z_g1) (r_sweets z_g1))) (As := [.int x3]) (rest := [.int x2]) hx hb hml hown hT (c_Past_lastOfThoseWhoMakeHeapOf (z_h_told := z_h_told) a_h a_h_told a_h_struck a_h_told_kinds a_h_told_sweets a_h_told_settings a_h_told_heaps hq6) k_609 k_611 ks_16 k_6 k_612 hd_Past_lastOfThoseWhoMakeHeapOf ⟨Nat.le_of_ble_eq_true rfl, Nat.le_of_ble_eq_true rfl⟩ xE0_ok trivial hA hK hP hD hS [0, 1, 2, 4] [3, 5, 6] [3, 4, 5, 0, 6, 1, 2] rfl rfl rfl rfl rfl rfl rfl rfl rfl rfl hl.1 rfl (Nat.le_of_ble_eq_true rfl) ⟨Nat.zero_le _, Nat.zero_le _⟩ d_Past_placeOfWrong_44 (fun H locs hP hD hS => ?_)
          refine va_mmin hx hb (hml.trans hl.1.symm) hown (hT _ k_616) (hT _ k_265) (hT _ k_11) (hT _ k_266) (Nat.le_of_ble_eq_true rfl) (Nat.le_of_ble_eq_true rfl) (Nat.zero_le _) (Nat.zero_le _) d_Past_placeOfWrong_47 ?_
          refine lv_istore_n (lv' := [(2, .int (jmin x2 q6)), (0, .ref a_h), (1, .ref a_g1), (3, .int x3)]) hx hb d_Past_placeOfWrong_50 rfl hl (by decide) rfl (fun ls hl => ?_)
          refine lv_iinc (v := (x3 + 1)) (lv' := [(3, .int (x3 + 1)), (2, .int (jmin x2 q6)), (0, .ref a_h), (1, .ref a_g1)]) hx hb d_Past_placeOfWrong_51 hl (k := 3) rfl (by rfl) (by decide) rfl (fun ls hl => ?_)
          refine lv_goto (tgt := 10) hx hb d_Past_placeOfWrong_54 (by decide) ?_
          exact ih (jmin x2 q6) (x3 + 1) _ _ _ hf hP hD hS (lv_sub hl [2, 3, 1, 0] rfl)
  refine lv_aload_n hx hb d_Past_placeOfWrong_0 rfl (lv_at hl 0 rfl) ?_
  refine va_get hx hb hT i_Past hown hK hP 0 rfl rfl 0 (Nat.le_of_ble_eq_true rfl) (hT _ k_141) (fun _ h => h) rfl d_Past_placeOfWrong_1 ?_
  refine va_get hx hb hT i_Ring hown hK hP 1 rfl rfl 3 (Nat.le_of_ble_eq_true rfl) (hT _ k_46) (fun _ h => h) rfl d_Past_placeOfWrong_4 ?_
  refine lv_istore_n (lv' := [(2, .int (r_children z_h_told)), (0, .ref a_h), (1, .ref a_g1)]) hx hb d_Past_placeOfWrong_7 rfl hl (by decide) rfl (fun ls hl => ?_)
  refine lv_iconst (v := 0) hx hb d_Past_placeOfWrong_8 (by decide) ?_
  refine lv_istore_n (lv' := [(3, .int 0), (2, .int (r_children z_h_told)), (0, .ref a_h), (1, .ref a_g1)]) hx hb d_Past_placeOfWrong_9 rfl hl (by decide) rfl (fun ls hl => ?_)
  exact L10 FU (r_children z_h_told) 0 _ _ _ hf hP hD hS (lv_sub hl [2, 3, 1, 0] rfl)
abbrev w_Past_leadsTo (cI cJ cC : ClassId) (a_h a_h_told a_h_struck a_h_told_kinds a_h_told_sweets a_h_told_settings a_h_told_heaps a_h_struck_kinds a_h_struck_sweets a_h_struck_settings a_h_struck_heaps a_g1 a_g1_kinds a_g1_sweets a_g1_settings a_g1_heaps : Nat) (p_h_told_children : Int32) (p_h_told_strokes : Int32) (p_h_told_gave : Int32) (p_h_told_threw : Int32) (p_h_told_kinds : (Nat → Int32)) (p_h_told_sweets : (Nat → Int32)) (p_h_told_settings : (Nat → Int32)) (p_h_struck_children : Int32) (p_h_struck_strokes : Int32) (p_h_struck_gave : Int32) (p_h_struck_threw : Int32) (p_h_struck_kinds : (Nat → Int32)) (p_h_struck_sweets : (Nat → Int32)) (p_h_struck_settings : (Nat → Int32)) (p_h_struck_heaps : (Nat → Int32)) (p_g1_children : Int32) (p_g1_strokes : Int32) (p_g1_gave : Int32) (p_g1_threw : Int32) (p_g1_sweets : (Nat → Int32)) : va_W := [(a_h, .inr (5, [.ref a_h_told, .ref a_h_struck])), (a_h_told, .inr (1, [.ref a_h_told_kinds, .ref a_h_told_sweets, .ref a_h_told_settings, .int p_h_told_children, .int p_h_told_strokes, .int p_h_told_gave, .int p_h_told_threw, .ref a_h_told_heaps])), (a_h_told_kinds, .inl (cI, (8, .inl p_h_told_kinds))), (a_h_told_sweets, .inl (cI, (8, .inl p_h_told_sweets))), (a_h_told_settings, .inl (cI, (3, .inl p_h_told_settings))), (a_h_struck, .inr (1, [.ref a_h_struck_kinds, .ref a_h_struck_sweets, .ref a_h_struck_settings, .int p_h_struck_children, .int p_h_struck_strokes, .int p_h_struck_gave, .int p_h_struck_threw, .ref a_h_struck_heaps])), (a_h_struck_kinds, .inl (cI, (8, .inl p_h_struck_kinds))), (a_h_struck_sweets, .inl (cI, (8, .inl p_h_struck_sweets))), (a_h_struck_settings, .inl (cI, (3, .inl p_h_struck_settings))), (a_h_struck_heaps, .inl (cI, (8, .inl p_h_struck_heaps))), (a_g1, .inr (1, [.ref a_g1_kinds, .ref a_g1_sweets, .ref a_g1_settings, .int p_g1_children, .int p_g1_strokes, .int p_g1_gave, .int p_g1_threw, .ref a_g1_heaps])), (a_g1_sweets, .inl (cI, (8, .inl p_g1_sweets)))]
theorem d_Past_leadsTo_0 : decode b_Past_leadsTo 0 = .ok (.aload_n 0, 1) := by decide +kernel
theorem d_Past_leadsTo_1 : decode b_Past_leadsTo 1 = .ok (.getfield 18, 3) := by decide +kernel
theorem d_Past_leadsTo_4 : decode b_Past_leadsTo 4 = .ok (.aload_n 0, 1) := by decide +kernel
theorem d_Past_leadsTo_5 : decode b_Past_leadsTo 5 = .ok (.getfield 12, 3) := by decide +kernel
theorem d_Past_leadsTo_8 : decode b_Past_leadsTo 8 = .ok (.invokevirtual 25, 3) := by decide +kernel
theorem d_Past_leadsTo_11 : decode b_Past_leadsTo 11 = .ok (.aload_n 0, 1) := by decide +kernel
theorem d_Past_leadsTo_12 : decode b_Past_leadsTo 12 = .ok (.getfield 18, 3) := by decide +kernel
theorem d_Past_leadsTo_15 : decode b_Past_leadsTo 15 = .ok (.invokevirtual 76, 3) := by decide +kernel
theorem d_Past_leadsTo_18 : decode b_Past_leadsTo 18 = .ok (.pop, 1) := by decide +kernel
theorem d_Past_leadsTo_19 : decode b_Past_leadsTo 19 = .ok (.aload_n 0, 1) := by decide +kernel
theorem d_Past_leadsTo_20 : decode b_Past_leadsTo 20 = .ok (.getfield 18, 3) := by decide +kernel
theorem d_Past_leadsTo_23 : decode b_Past_leadsTo 23 = .ok (.aload_n 1, 1) := by decide +kernel
theorem d_Past_leadsTo_24 : decode b_Past_leadsTo 24 = .ok (.invokevirtual 80, 3) := by decide +kernel
theorem d_Past_leadsTo_27 : decode b_Past_leadsTo 27 = .ok (.ireturn, 1) := by decide +kernel
set_option maxHeartbeats 4000000 in
set_option maxRecDepth 100000 in
theorem c_Past_leadsTo {l : Launch} {D : va_G} {cI cJ cC : ClassId} (a_h a_h_told a_h_struck a_h_told_kinds a_h_told_sweets a_h_told_settings a_h_told_heaps a_h_struck_kinds a_h_struck_sweets a_h_struck_settings a_h_struck_heaps a_g1 a_g1_kinds a_g1_sweets a_g1_settings a_g1_heaps : Nat) {z_h_told : RS} {z_h_struck : RS} {z_g1 : RS} {q : Int32 × RS} (hf : f_Past_leadsTo z_h_told z_h_struck z_g1 = some q) : xI l y_Past_leadsTo b_Past_leadsTo 2 .boolean 4 89 D (tyK cI cJ cC) xE0 [.ref a_h, .ref a_g1] (w_Past_leadsTo cI cJ cC a_h a_h_told a_h_struck a_h_told_kinds a_h_told_sweets a_h_told_settings a_h_told_heaps a_h_struck_kinds a_h_struck_sweets a_h_struck_settings a_h_struck_heaps a_g1 a_g1_kinds a_g1_sweets a_g1_settings a_g1_heaps (r_children z_h_told) (r_strokes z_h_told) (r_gave z_h_told) (r_threw z_h_told) (r_kinds z_h_told) (r_sweets z_h_told) (r_settings z_h_told) (r_children z_h_struck) (r_strokes z_h_struck) (r_gave z_h_struck) (r_threw z_h_struck) (r_kinds z_h_struck) (r_sweets z_h_struck) (r_settings z_h_struck) (r_heaps z_h_struck) (r_children z_g1) (r_strokes z_g1) (r_gave z_g1) (r_threw z_g1) (r_sweets z_g1)) q.1 (w_Past_leadsTo cI cJ cC a_h a_h_told a_h_struck a_h_told_kinds a_h_told_sweets a_h_told_settings a_h_told_heaps a_h_struck_kinds a_h_struck_sweets a_h_struck_settings a_h_struck_heaps a_g1 a_g1_kinds a_g1_sweets a_g1_settings a_g1_heaps (r_children z_h_told) (r_strokes z_h_told) (r_gave z_h_told) (r_threw z_h_told) (r_kinds z_h_told) (r_sweets z_h_told) (r_settings z_h_told) (r_children q.2) (r_strokes q.2) (r_gave q.2) (r_threw q.2) (r_kinds q.2) (r_sweets q.2) (r_settings q.2) (r_heaps q.2) (r_children z_g1) (r_strokes z_g1) (r_gave z_g1) (r_threw z_g1) (r_sweets z_g1)) := by
  refine xI_of (by decide) (Nat.le_of_ble_eq_true rfl) ?_
  intro p e s m args below meth c A Q hx hb hml hown hT hA hP hD hK hS hE hret ls hl
  have hown : s.vm.findClass R_Past = some m.cls := hown
  have hl : lv_has ls 2 [(0, .ref a_h), (1, .ref a_g1)] := hl
  unfold f_Past_leadsTo at hf
  refine lv_aload_n hx hb d_Past_leadsTo_0 rfl (lv_at hl 0 rfl) ?_
  refine va_get hx hb hT i_Past hown hK hP 0 rfl rfl 1 (Nat.le_of_ble_eq_true rfl) (hT _ k_143) (fun _ h => h) rfl d_Past_leadsTo_1 ?_
  refine lv_aload_n hx hb d_Past_leadsTo_4 rfl (lv_at hl 0 rfl) ?_
  refine va_get hx hb hT i_Past hown hK hP 0 rfl rfl 0 (Nat.le_of_ble_eq_true rfl) (hT _ k_141) (fun _ h => h) rfl d_Past_leadsTo_5 ?_
  obtain ⟨q1, hq1, hf⟩ := io_b hf
  refine xcVV (wc := (w_Ring_copyFrom cI cJ cC a_h_struck a_h_struck_kinds a_h_struck_sweets a_h_struck_settings a_h_struck_heaps a_h_told a_h_told_kinds a_h_told_sweets a_h_told_settings a_h_told_heaps (r_children z_h_struck) (r_strokes z_h_struck) (r_gave z_h_struck) (r_threw z_h_struck) (r_kinds z_h_struck) (r_sweets z_h_struck) (r_settings z_h_struck) (r_heaps z_h_struck) (r_children z_h_told) (r_strokes z_h_told) (r_gave z_h_told) (r_threw z_h_told) (r_kinds z_h_told) (r_sweets z_h_told) (r_settings z_h_told))) (wc' := (w_Ring_copyFrom cI cJ cC a_h_struck a_h_struck_kinds a_h_struck_sweets a_h_struck_settings a_h_struck_heaps a_h_told a_h_told_kinds a_h_told_sweets a_h_told_settings a_h_told_heaps (r_children q1) (r_strokes q1) (r_gave q1) (r_threw q1) (r_kinds q1) (r_sweets q1) (r_settings q1) (r_heaps q1) (r_children z_h_told) (r_strokes z_h_told) (r_gave z_h_told) (r_threw z_h_told) (r_kinds z_h_told) (r_sweets z_h_told) (r_settings z_h_told))) (ws' := (w_Past_leadsTo cI cJ cC a_h a_h_told a_h_struck a_h_told_kinds a_h_told_sweets a_h_told_settings a_h_told_heaps a_h_struck_kinds a_h_struck_sweets a_h_struck_settings a_h_struck_heaps a_g1 a_g1_kinds a_g1_sweets a_g1_settings a_g1_heaps (r_children z_h_told) (r_strokes z_h_told) (r_gave z_h_told) (r_threw z_h_told) (r_kinds z_h_told) (r_sweets z_h_told) (r_settings z_h_told) (r_children q1) (r_strokes q1) (r_gave q1) (r_threw q1) (r_kinds q1) (r_sweets q1) (r_settings q1) (r_heaps q1) (r_children z_g1) (r_strokes z_g1) (r_gave z_g1) (r_threw z_g1) (r_sweets z_g1))) (As := [.ref a_h_told]) (rest := []) hx hb hml hown hT (c_Ring_copyFrom (z_h := z_h_struck) (z_g1 := z_h_told) a_h_struck a_h_struck_kinds a_h_struck_sweets a_h_struck_settings a_h_struck_heaps a_h_told a_h_told_kinds a_h_told_sweets a_h_told_settings a_h_told_heaps hq1) k_594 k_326 k_327 k_2 k_328 hd_Ring_copyFrom ⟨Nat.le_of_ble_eq_true rfl, Nat.le_of_ble_eq_true rfl⟩ xE0_ok trivial hA hK hP hD hS [5, 6, 7, 8, 9, 1, 2, 3, 4] [0, 10, 11] [0, 8, 9, 10, 11, 3, 4, 5, 6, 7, 1, 2] rfl rfl rfl rfl rfl rfl rfl rfl rfl rfl hl.1 rfl (Nat.le_of_ble_eq_true rfl) ⟨Nat.zero_le _, Nat.zero_le _⟩ d_Past_leadsTo_8 (fun H locs hP hD hS => ?_)
  refine lv_aload_n hx hb d_Past_leadsTo_11 rfl (lv_at hl 0 rfl) ?_
  refine va_get hx hb hT i_Past hown hK hP 0 rfl rfl 1 (Nat.le_of_ble_eq_true rfl) (hT _ k_143) (fun _ h => h) rfl d_Past_leadsTo_12 ?_
  obtain ⟨q2, hq2, hf⟩ := io_b hf
  refine xcVI (wc := (w_Ring_strike cI cJ cC a_h_struck a_h_struck_kinds a_h_struck_sweets a_h_struck_settings a_h_struck_heaps (r_children q1) (r_strokes q1) (r_gave q1) (r_threw q1) (r_kinds q1) (r_sweets q1) (r_settings q1) (r_heaps q1))) (wc' := (w_Ring_strike cI cJ cC a_h_struck a_h_struck_kinds a_h_struck_sweets a_h_struck_settings a_h_struck_heaps (r_children q2.2) (r_strokes q2.2) (r_gave q2.2) (r_threw q2.2) (r_kinds q2.2) (r_sweets q2.2) (r_settings q2.2) (r_heaps q2.2))) (ws' := (w_Past_leadsTo cI cJ cC a_h a_h_told a_h_struck a_h_told_kinds a_h_told_sweets a_h_told_settings a_h_told_heaps a_h_struck_kinds a_h_struck_sweets a_h_struck_settings a_h_struck_heaps a_g1 a_g1_kinds a_g1_sweets a_g1_settings a_g1_heaps (r_children z_h_told) (r_strokes z_h_told) (r_gave z_h_told) (r_threw z_h_told) (r_kinds z_h_told) (r_sweets z_h_told) (r_settings z_h_told) (r_children q2.2) (r_strokes q2.2) (r_gave q2.2) (r_threw q2.2) (r_kinds q2.2) (r_sweets q2.2) (r_settings q2.2) (r_heaps q2.2) (r_children z_g1) (r_strokes z_g1) (r_gave z_g1) (r_threw z_g1) (r_sweets z_g1))) (As := []) (rest := []) hx hb hml hown hT (c_Ring_strike (z_h := q1) a_h_struck a_h_struck_kinds a_h_struck_sweets a_h_struck_settings a_h_struck_heaps hq2) k_621 k_417 k_418 k_2 k_419 hd_Ring_strike ⟨Nat.le_of_ble_eq_true rfl, Nat.le_of_ble_eq_true rfl⟩ xE0_ok trivial hA hK hP hD hS [5, 6, 7, 8, 9] [0, 1, 2, 3, 4, 10, 11] [0, 1, 2, 3, 4, 7, 8, 9, 10, 11, 5, 6] rfl rfl rfl rfl rfl rfl rfl rfl rfl rfl hl.1 rfl (Nat.le_of_ble_eq_true rfl) ⟨Nat.zero_le _, Nat.zero_le _⟩ d_Past_leadsTo_15 (fun H locs hP hD hS => ?_)
  refine lv_pop hx hb d_Past_leadsTo_18 rfl ?_
  refine lv_aload_n hx hb d_Past_leadsTo_19 rfl (lv_at hl 0 rfl) ?_
  refine va_get hx hb hT i_Past hown hK hP 0 rfl rfl 1 (Nat.le_of_ble_eq_true rfl) (hT _ k_143) (fun _ h => h) rfl d_Past_leadsTo_20 ?_
  refine lv_aload_n hx hb d_Past_leadsTo_23 rfl (lv_at hl 1 rfl) ?_
  obtain ⟨q3, hq3, hf⟩ := io_b hf
  refine xcVI (wc := (w_Ring_hasSweetsOf cI cJ cC a_h_struck a_h_struck_kinds a_h_struck_sweets a_h_struck_settings a_h_struck_heaps a_g1 a_g1_kinds a_g1_sweets a_g1_settings a_g1_heaps (r_children q2.2) (r_strokes q2.2) (r_gave q2.2) (r_threw q2.2) (r_sweets q2.2) (r_children z_g1) (r_strokes z_g1) (r_gave z_g1) (r_threw z_g1) (r_sweets z_g1))) (wc' := (w_Ring_hasSweetsOf cI cJ cC a_h_struck a_h_struck_kinds a_h_struck_sweets a_h_struck_settings a_h_struck_heaps a_g1 a_g1_kinds a_g1_sweets a_g1_settings a_g1_heaps (r_children q2.2) (r_strokes q2.2) (r_gave q2.2) (r_threw q2.2) (r_sweets q2.2) (r_children z_g1) (r_strokes z_g1) (r_gave z_g1) (r_threw z_g1) (r_sweets z_g1))) (ws' := (w_Past_leadsTo cI cJ cC a_h a_h_told a_h_struck a_h_told_kinds a_h_told_sweets a_h_told_settings a_h_told_heaps a_h_struck_kinds a_h_struck_sweets a_h_struck_settings a_h_struck_heaps a_g1 a_g1_kinds a_g1_sweets a_g1_settings a_g1_heaps (r_children z_h_told) (r_strokes z_h_told) (r_gave z_h_told) (r_threw z_h_told) (r_kinds z_h_told) (r_sweets z_h_told) (r_settings z_h_told) (r_children q2.2) (r_strokes q2.2) (r_gave q2.2) (r_threw q2.2) (r_kinds q2.2) (r_sweets q2.2) (r_settings q2.2) (r_heaps q2.2) (r_children z_g1) (r_strokes z_g1) (r_gave z_g1) (r_threw z_g1) (r_sweets z_g1))) (As := [.ref a_g1]) (rest := []) hx hb hml hown hT (c_Ring_hasSweetsOf (z_h := q2.2) (z_g1 := z_g1) a_h_struck a_h_struck_kinds a_h_struck_sweets a_h_struck_settings a_h_struck_heaps a_g1 a_g1_kinds a_g1_sweets a_g1_settings a_g1_heaps hq3) k_622 k_472 k_473 k_2 k_474 hd_Ring_hasSweetsOf ⟨Nat.le_of_ble_eq_true rfl, Nat.le_of_ble_eq_true rfl⟩ xE0_ok trivial hA hK hP hD hS [5, 7, 10, 11] [0, 1, 2, 3, 4, 6, 8, 9] [0, 1, 2, 3, 4, 8, 5, 9, 6, 7, 10, 11] rfl rfl rfl rfl rfl rfl rfl rfl rfl rfl hl.1 rfl (Nat.le_of_ble_eq_true rfl) ⟨Nat.zero_le _, Nat.zero_le _⟩ d_Past_leadsTo_24 (fun H locs hP hD hS => ?_)
  obtain ⟨c4, hf⟩ := io_n hf
  have hq := Option.some.inj hf
  subst hq
  exact hret _ _ _ _ _ d_Past_leadsTo_27 (x_narZ c4) rfl hP hD hS
abbrev w_Past_advance (cI cJ cC : ClassId) (a_h a_h_told a_h_struck a_h_told_kinds a_h_told_sweets a_h_told_settings a_h_told_heaps : Nat) (p_h_told_children : Int32) (p_h_told_strokes : Int32) (p_h_told_gave : Int32) (p_h_told_threw : Int32) (p_h_told_kinds : (Nat → Int32)) (p_h_told_sweets : (Nat → Int32)) (p_h_told_settings : (Nat → Int32)) (p_h_told_heaps : (Nat → Int32)) : va_W := [(a_h, .inr (5, [.ref a_h_told, .ref a_h_struck])), (a_h_told, .inr (1, [.ref a_h_told_kinds, .ref a_h_told_sweets, .ref a_h_told_settings, .int p_h_told_children, .int p_h_told_strokes, .int p_h_told_gave, .int p_h_told_threw, .ref a_h_told_heaps])), (a_h_told_kinds, .inl (cI, (8, .inl p_h_told_kinds))), (a_h_told_sweets, .inl (cI, (8, .inl p_h_told_sweets))), (a_h_told_settings, .inl (cI, (3, .inl p_h_told_settings))), (a_h_told_heaps, .inl (cI, (8, .inl p_h_told_heaps)))]
theorem d_Past_advance_0 : decode b_Past_advance 0 = .ok (.iload_n 1, 1) := by decide +kernel
theorem d_Past_advance_1 : decode b_Past_advance 1 = .ok (.istore_n 3, 1) := by decide +kernel
theorem d_Past_advance_2 : decode b_Past_advance 2 = .ok (.iload_n 3, 1) := by decide +kernel
theorem d_Past_advance_3 : decode b_Past_advance 3 = .ok (.ifCond .lt 47, 3) := by decide +kernel
theorem d_Past_advance_6 : decode b_Past_advance 6 = .ok (.aload_n 0, 1) := by decide +kernel
theorem d_Past_advance_7 : decode b_Past_advance 7 = .ok (.getfield 12, 3) := by decide +kernel
theorem d_Past_advance_10 : decode b_Past_advance 10 = .ok (.getfield 29, 3) := by decide +kernel
theorem d_Past_advance_13 : decode b_Past_advance 13 = .ok (.iload_n 3, 1) := by decide +kernel
theorem d_Past_advance_14 : decode b_Past_advance 14 = .ok (.iaload, 1) := by decide +kernel
theorem d_Past_advance_15 : decode b_Past_advance 15 = .ok (.iload_n 2, 1) := by decide +kernel
theorem d_Past_advance_16 : decode b_Past_advance 16 = .ok (.if_icmp .ge 18, 3) := by decide +kernel
theorem d_Past_advance_19 : decode b_Past_advance 19 = .ok (.aload_n 0, 1) := by decide +kernel
theorem d_Past_advance_20 : decode b_Past_advance 20 = .ok (.getfield 12, 3) := by decide +kernel
theorem d_Past_advance_23 : decode b_Past_advance 23 = .ok (.getfield 29, 3) := by decide +kernel
theorem d_Past_advance_26 : decode b_Past_advance 26 = .ok (.iload_n 3, 1) := by decide +kernel
theorem d_Past_advance_27 : decode b_Past_advance 27 = .ok (.dup2, 1) := by decide +kernel
theorem d_Past_advance_28 : decode b_Past_advance 28 = .ok (.iaload, 1) := by decide +kernel
theorem d_Past_advance_29 : decode b_Past_advance 29 = .ok (.iconst 1, 1) := by decide +kernel
theorem d_Past_advance_30 : decode b_Past_advance 30 = .ok (.iadd, 1) := by decide +kernel
theorem d_Past_advance_31 : decode b_Past_advance 31 = .ok (.iastore, 1) := by decide +kernel
theorem d_Past_advance_32 : decode b_Past_advance 32 = .ok (.iconst 1, 1) := by decide +kernel
theorem d_Past_advance_33 : decode b_Past_advance 33 = .ok (.ireturn, 1) := by decide +kernel
theorem d_Past_advance_34 : decode b_Past_advance 34 = .ok (.aload_n 0, 1) := by decide +kernel
theorem d_Past_advance_35 : decode b_Past_advance 35 = .ok (.getfield 12, 3) := by decide +kernel
theorem d_Past_advance_38 : decode b_Past_advance 38 = .ok (.getfield 29, 3) := by decide +kernel
theorem d_Past_advance_41 : decode b_Past_advance 41 = .ok (.iload_n 3, 1) := by decide +kernel
theorem d_Past_advance_42 : decode b_Past_advance 42 = .ok (.iconst 0, 1) := by decide +kernel
theorem d_Past_advance_43 : decode b_Past_advance 43 = .ok (.iastore, 1) := by decide +kernel
theorem d_Past_advance_44 : decode b_Past_advance 44 = .ok (.iinc 3 (-1), 3) := by decide +kernel
theorem d_Past_advance_47 : decode b_Past_advance 47 = .ok (.goto (-45), 3) := by decide +kernel
theorem d_Past_advance_50 : decode b_Past_advance 50 = .ok (.iconst 0, 1) := by decide +kernel
theorem d_Past_advance_51 : decode b_Past_advance 51 = .ok (.ireturn, 1) := by decide +kernel
set_option maxHeartbeats 4000000 in
set_option maxRecDepth 100000 in
theorem c_Past_advance {l : Launch} {D : va_G} {cI cJ cC : ClassId} (a_h a_h_told a_h_struck a_h_told_kinds a_h_told_sweets a_h_told_settings a_h_told_heaps : Nat) {z_h_told : RS} {x1 : Int32} {x2 : Int32} {q : Int32 × RS} (hf : f_Past_advance z_h_told x1 x2 = some q) : xI l y_Past_advance b_Past_advance 4 .boolean 0 0 D (tyK cI cJ cC) xE0 [.ref a_h, .int x1, .int x2] (w_Past_advance cI cJ cC a_h a_h_told a_h_struck a_h_told_kinds a_h_told_sweets a_h_told_settings a_h_told_heaps (r_children z_h_told) (r_strokes z_h_told) (r_gave z_h_told) (r_threw z_h_told) (r_kinds z_h_told) (r_sweets z_h_told) (r_settings z_h_told) (r_heaps z_h_told)) q.1 (w_Past_advance cI cJ cC a_h a_h_told a_h_struck a_h_told_kinds a_h_told_sweets a_h_told_settings a_h_told_heaps (r_children q.2) (r_strokes q.2) (r_gave q.2) (r_threw q.2) (r_kinds q.2) (r_sweets q.2) (r_settings q.2) (r_heaps q.2)) := by
  refine xI_of (by decide) (Nat.le_of_ble_eq_true rfl) ?_
  intro p e s m args below meth c A Q hx hb hml hown hT hA hP hD hK hS hE hret ls hl
  have hown : s.vm.findClass R_Past = some m.cls := hown
  have hl : lv_has ls 4 [(0, .ref a_h), (1, .int x1), (2, .int x2)] := hl
  unfold f_Past_advance at hf
  have L2 : ∀ (n : Nat) (z_h_told : RS) (x3 : Int32) (H : Heap) (locs : List Loc) (ls : Array Slot), f_Past_advance_L2 x2 n z_h_told x3 = some q → va_P D classes (w_Past_advance cI cJ cC a_h a_h_told a_h_struck a_h_told_kinds a_h_told_sweets a_h_told_settings a_h_told_heaps (r_children z_h_told) (r_strokes z_h_told) (r_gave z_h_told) (r_threw z_h_told) (r_kinds z_h_told) (r_sweets z_h_told) (r_settings z_h_told) (r_heaps z_h_told)) H → va_D A (w_Past_advance cI cJ cC a_h a_h_told a_h_struck a_h_told_kinds a_h_told_sweets a_h_told_settings a_h_told_heaps (r_children z_h_told) (r_strokes z_h_told) (r_gave z_h_told) (r_threw z_h_told) (r_kinds z_h_told) (r_sweets z_h_told) (r_settings z_h_told) (r_heaps z_h_told)) → va_S A s.heap H locs → lv_has ls 4 [(0, .ref a_h), (2, .int x2), (3, .int x3)] → W p l e (xRm 0 0) s m args below meth c H locs 0 0 Q (F0 m 2 ls []) := by
    intro n
    induction n with
    | zero => intro z_h_told x3 H locs ls hf hP hD hS hl; exact nomatch (show (none : Option (Int32 × RS)) = some q from hf)
    | succ n ih =>
      intro z_h_told x3 H locs ls hf hP hD hS hl
      refine lv_iload_n hx hb d_Past_advance_2 rfl (lv_at hl 2 rfl) ?_
      refine lv_if_lt (tgt := 50) hx hb d_Past_advance_3 (by decide) (fun c1 => ?_) (fun c1 => ?_)
      · have hf := io_t hf c1
        refine lv_iconst (v := 0) hx hb d_Past_advance_50 (by decide) ?_
        have hq := Option.some.inj hf
        subst hq
        exact hret _ _ _ _ _ d_Past_advance_51 (by decide) rfl hP hD hS
      · have hf := io_f hf c1
        refine lv_aload_n hx hb d_Past_advance_6 rfl (lv_at hl 0 rfl) ?_
        refine va_get hx hb hT i_Past hown hK hP 0 rfl rfl 0 (Nat.le_of_ble_eq_true rfl) (hT _ k_141) (fun _ h => h) rfl d_Past_advance_7 ?_
        refine va_get hx hb hT i_Ring hown hK hP 1 rfl rfl 1 (Nat.le_of_ble_eq_true rfl) (hT _ k_37) (fun _ h => h) rfl d_Past_advance_10 ?_
        refine lv_iload_n hx hb d_Past_advance_13 rfl (lv_at hl 2 rfl) ?_
        obtain ⟨c2, hf⟩ := io_n hf
        refine x_iald hx hb hK hP 3 0 rfl rfl (j := x3.toNatClampNeg) rfl c2 d_Past_advance_14 ?_
        refine lv_iload_n hx hb d_Past_advance_15 rfl (lv_at hl 1 rfl) ?_
        refine lv_icmp_ge (tgt := 34) hx hb d_Past_advance_16 (by decide) (fun c3 => ?_) (fun c3 => ?_)
        · have hf := io_t hf c3
          refine lv_aload_n hx hb d_Past_advance_34 rfl (lv_at hl 0 rfl) ?_
          refine va_get hx hb hT i_Past hown hK hP 0 rfl rfl 0 (Nat.le_of_ble_eq_true rfl) (hT _ k_141) (fun _ h => h) rfl d_Past_advance_35 ?_
          refine va_get hx hb hT i_Ring hown hK hP 1 rfl rfl 1 (Nat.le_of_ble_eq_true rfl) (hT _ k_37) (fun _ h => h) rfl d_Past_advance_38 ?_
          refine lv_iload_n hx hb d_Past_advance_41 rfl (lv_at hl 2 rfl) ?_
          refine lv_iconst (v := 0) hx hb d_Past_advance_42 (by decide) ?_
          refine x_iast hx hb hK hP hD hS 3 0 rfl rfl (j := x3.toNatClampNeg) rfl c2 d_Past_advance_43 (fun H locs hP hD hS => ?_)
          have hP : va_P D classes (w_Past_advance cI cJ cC a_h a_h_told a_h_struck a_h_told_kinds a_h_told_sweets a_h_told_settings a_h_told_heaps (r_children z_h_told) (r_strokes z_h_told) (r_gave z_h_told) (r_threw z_h_told) (r_kinds z_h_told) (upd (r_sweets z_h_told) x3.toNatClampNeg 0) (r_settings z_h_told) (r_heaps z_h_told)) H := hP
          have hD : va_D A (w_Past_advance cI cJ cC a_h a_h_told a_h_struck a_h_told_kinds a_h_told_sweets a_h_told_settings a_h_told_heaps (r_children z_h_told) (r_strokes z_h_told) (r_gave z_h_told) (r_threw z_h_told) (r_kinds z_h_told) (upd (r_sweets z_h_told) x3.toNatClampNeg 0) (r_settings z_h_told) (r_heaps z_h_told)) := hD
          refine lv_iinc (v := (x3 + (-1))) (lv' := [(3, .int (x3 + (-1))), (0, .ref a_h), (2, .int x2)]) hx hb d_Past_advance_44 hl (k := 2) rfl (by rfl) (by decide) rfl (fun ls hl => ?_)
          refine lv_goto (tgt := 2) hx hb d_Past_advance_47 (by decide) ?_
          exact ih ((r_kinds z_h_told), (upd (r_sweets z_h_told) x3.toNatClampNeg 0), (r_settings z_h_told), (r_heaps z_h_told), (r_children z_h_told), (r_strokes z_h_told), (r_gave z_h_told), (r_threw z_h_told)) (x3 + (-1)) _ _ _ hf hP hD hS (lv_sub hl [1, 2, 0] rfl)
        · have hf := io_f hf c3
          refine lv_aload_n hx hb d_Past_advance_19 rfl (lv_at hl 0 rfl) ?_
          refine va_get hx hb hT i_Past hown hK hP 0 rfl rfl 0 (Nat.le_of_ble_eq_true rfl) (hT _ k_141) (fun _ h => h) rfl d_Past_advance_20 ?_
          refine va_get hx hb hT i_Ring hown hK hP 1 rfl rfl 1 (Nat.le_of_ble_eq_true rfl) (hT _ k_37) (fun _ h => h) rfl d_Past_advance_23 ?_
          refine lv_iload_n hx hb d_Past_advance_26 rfl (lv_at hl 2 rfl) ?_
          refine lv_dup2_11 hx hb d_Past_advance_27 rfl rfl ?_
          refine x_iald hx hb hK hP 3 0 rfl rfl (j := x3.toNatClampNeg) rfl c2 d_Past_advance_28 ?_
          refine lv_iconst (v := 1) hx hb d_Past_advance_29 (by decide) ?_
          refine lv_iadd hx hb d_Past_advance_30 ?_
          refine x_iast hx hb hK hP hD hS 3 0 rfl rfl (j := x3.toNatClampNeg) rfl c2 d_Past_advance_31 (fun H locs hP hD hS => ?_)
          have hP : va_P D classes (w_Past_advance cI cJ cC a_h a_h_told a_h_struck a_h_told_kinds a_h_told_sweets a_h_told_settings a_h_told_heaps (r_children z_h_told) (r_strokes z_h_told) (r_gave z_h_told) (r_threw z_h_told) (r_kinds z_h_told) (upd (r_sweets z_h_told) x3.toNatClampNeg (((r_sweets z_h_told) x3.toNatClampNeg) + 1)) (r_settings z_h_told) (r_heaps z_h_told)) H := hP
          have hD : va_D A (w_Past_advance cI cJ cC a_h a_h_told a_h_struck a_h_told_kinds a_h_told_sweets a_h_told_settings a_h_told_heaps (r_children z_h_told) (r_strokes z_h_told) (r_gave z_h_told) (r_threw z_h_told) (r_kinds z_h_told) (upd (r_sweets z_h_told) x3.toNatClampNeg (((r_sweets z_h_told) x3.toNatClampNeg) + 1)) (r_settings z_h_told) (r_heaps z_h_told)) := hD
          refine lv_iconst (v := 1) hx hb d_Past_advance_32 (by decide) ?_
          have hq := Option.some.inj hf
          subst hq
          exact hret _ _ _ _ _ d_Past_advance_33 (by decide) rfl hP hD hS
  refine lv_iload_n hx hb d_Past_advance_0 rfl (lv_at hl 1 rfl) ?_
  refine lv_istore_n (lv' := [(3, .int x1), (0, .ref a_h), (1, .int x1), (2, .int x2)]) hx hb d_Past_advance_1 rfl hl (by decide) rfl (fun ls hl => ?_)
  exact L2 FU z_h_told x1 _ _ _ hf hP hD hS (lv_sub hl [1, 3, 0] rfl)
abbrev w_Past_find (cI cJ cC : ClassId) (a_h a_h_told a_h_struck a_h_told_kinds a_h_told_sweets a_h_told_settings a_h_told_heaps a_h_struck_kinds a_h_struck_sweets a_h_struck_settings a_h_struck_heaps a_g1 a_g1_kinds a_g1_sweets a_g1_settings a_g1_heaps : Nat) (p_h_told_children : Int32) (p_h_told_strokes : Int32) (p_h_told_gave : Int32) (p_h_told_threw : Int32) (p_h_told_kinds : (Nat → Int32)) (p_h_told_sweets : (Nat → Int32)) (p_h_told_settings : (Nat → Int32)) (p_h_told_heaps : (Nat → Int32)) (p_h_struck_children : Int32) (p_h_struck_strokes : Int32) (p_h_struck_gave : Int32) (p_h_struck_threw : Int32) (p_h_struck_kinds : (Nat → Int32)) (p_h_struck_sweets : (Nat → Int32)) (p_h_struck_settings : (Nat → Int32)) (p_h_struck_heaps : (Nat → Int32)) (p_g1_children : Int32) (p_g1_strokes : Int32) (p_g1_gave : Int32) (p_g1_threw : Int32) (p_g1_kinds : (Nat → Int32)) (p_g1_sweets : (Nat → Int32)) (p_g1_settings : (Nat → Int32)) : va_W := [(a_h, .inr (5, [.ref a_h_told, .ref a_h_struck])), (a_h_told, .inr (1, [.ref a_h_told_kinds, .ref a_h_told_sweets, .ref a_h_told_settings, .int p_h_told_children, .int p_h_told_strokes, .int p_h_told_gave, .int p_h_told_threw, .ref a_h_told_heaps])), (a_h_told_kinds, .inl (cI, (8, .inl p_h_told_kinds))), (a_h_told_sweets, .inl (cI, (8, .inl p_h_told_sweets))), (a_h_told_settings, .inl (cI, (3, .inl p_h_told_settings))), (a_h_told_heaps, .inl (cI, (8, .inl p_h_told_heaps))), (a_h_struck, .inr (1, [.ref a_h_struck_kinds, .ref a_h_struck_sweets, .ref a_h_struck_settings, .int p_h_struck_children, .int p_h_struck_strokes, .int p_h_struck_gave, .int p_h_struck_threw, .ref a_h_struck_heaps])), (a_h_struck_kinds, .inl (cI, (8, .inl p_h_struck_kinds))), (a_h_struck_sweets, .inl (cI, (8, .inl p_h_struck_sweets))), (a_h_struck_settings, .inl (cI, (3, .inl p_h_struck_settings))), (a_h_struck_heaps, .inl (cI, (8, .inl p_h_struck_heaps))), (a_g1, .inr (1, [.ref a_g1_kinds, .ref a_g1_sweets, .ref a_g1_settings, .int p_g1_children, .int p_g1_strokes, .int p_g1_gave, .int p_g1_threw, .ref a_g1_heaps])), (a_g1_kinds, .inl (cI, (8, .inl p_g1_kinds))), (a_g1_sweets, .inl (cI, (8, .inl p_g1_sweets))), (a_g1_settings, .inl (cI, (3, .inl p_g1_settings)))]
theorem d_Past_find_0 : decode b_Past_find 0 = .ok (.iconst 0, 1) := by decide +kernel
theorem d_Past_find_1 : decode b_Past_find 1 = .ok (.istore 4, 2) := by decide +kernel
theorem d_Past_find_3 : decode b_Past_find 3 = .ok (.aload_n 1, 1) := by decide +kernel
theorem d_Past_find_4 : decode b_Past_find 4 = .ok (.getfield 21, 3) := by decide +kernel
theorem d_Past_find_7 : decode b_Past_find 7 = .ok (.iconst 5, 1) := by decide +kernel
theorem d_Past_find_8 : decode b_Past_find 8 = .ok (.if_icmp .le 6, 3) := by decide +kernel
theorem d_Past_find_11 : decode b_Past_find 11 = .ok (.iload 4, 2) := by decide +kernel
theorem d_Past_find_13 : decode b_Past_find 13 = .ok (.ireturn, 1) := by decide +kernel
theorem d_Past_find_14 : decode b_Past_find 14 = .ok (.aload_n 0, 1) := by decide +kernel
theorem d_Past_find_15 : decode b_Past_find 15 = .ok (.getfield 12, 3) := by decide +kernel
theorem d_Past_find_18 : decode b_Past_find 18 = .ok (.aload_n 1, 1) := by decide +kernel
theorem d_Past_find_19 : decode b_Past_find 19 = .ok (.invokevirtual 25, 3) := by decide +kernel
theorem d_Past_find_22 : decode b_Past_find 22 = .ok (.iconst 1, 1) := by decide +kernel
theorem d_Past_find_23 : decode b_Past_find 23 = .ok (.istore 5, 2) := by decide +kernel
theorem d_Past_find_25 : decode b_Past_find 25 = .ok (.iconst 0, 1) := by decide +kernel
theorem d_Past_find_26 : decode b_Past_find 26 = .ok (.istore 6, 2) := by decide +kernel
theorem d_Past_find_28 : decode b_Past_find 28 = .ok (.iload 6, 2) := by decide +kernel
theorem d_Past_find_30 : decode b_Past_find 30 = .ok (.aload_n 0, 1) := by decide +kernel
theorem d_Past_find_31 : decode b_Past_find 31 = .ok (.getfield 12, 3) := by decide +kernel
theorem d_Past_find_34 : decode b_Past_find 34 = .ok (.getfield 21, 3) := by decide +kernel
theorem d_Past_find_37 : decode b_Past_find 37 = .ok (.if_icmp .ge 28, 3) := by decide +kernel
theorem d_Past_find_40 : decode b_Past_find 40 = .ok (.aload_n 0, 1) := by decide +kernel
theorem d_Past_find_41 : decode b_Past_find 41 = .ok (.getfield 12, 3) := by decide +kernel
theorem d_Past_find_44 : decode b_Past_find 44 = .ok (.getfield 29, 3) := by decide +kernel
theorem d_Past_find_47 : decode b_Past_find 47 = .ok (.iload 6, 2) := by decide +kernel
theorem d_Past_find_49 : decode b_Past_find 49 = .ok (.iconst 0, 1) := by decide +kernel
theorem d_Past_find_50 : decode b_Past_find 50 = .ok (.iastore, 1) := by decide +kernel
theorem d_Past_find_51 : decode b_Past_find 51 = .ok (.iload 5, 2) := by decide +kernel
theorem d_Past_find_53 : decode b_Past_find 53 = .ok (.iload_n 2, 1) := by decide +kernel
theorem d_Past_find_54 : decode b_Past_find 54 = .ok (.iconst 1, 1) := by decide +kernel
theorem d_Past_find_55 : decode b_Past_find 55 = .ok (.iadd, 1) := by decide +kernel
theorem d_Past_find_56 : decode b_Past_find 56 = .ok (.imul, 1) := by decide +kernel
theorem d_Past_find_57 : decode b_Past_find 57 = .ok (.istore 5, 2) := by decide +kernel
theorem d_Past_find_59 : decode b_Past_find 59 = .ok (.iinc 6 1, 3) := by decide +kernel
theorem d_Past_find_62 : decode b_Past_find 62 = .ok (.goto (-34), 3) := by decide +kernel
theorem d_Past_find_65 : decode b_Past_find 65 = .ok (.iconst 0, 1) := by decide +kernel
theorem d_Past_find_66 : decode b_Past_find 66 = .ok (.istore 6, 2) := by decide +kernel
theorem d_Past_find_68 : decode b_Past_find 68 = .ok (.iload 6, 2) := by decide +kernel
theorem d_Past_find_70 : decode b_Past_find 70 = .ok (.iload 5, 2) := by decide +kernel
theorem d_Past_find_72 : decode b_Past_find 72 = .ok (.if_icmp .ge 73, 3) := by decide +kernel
theorem d_Past_find_75 : decode b_Past_find 75 = .ok (.aload_n 0, 1) := by decide +kernel
theorem d_Past_find_76 : decode b_Past_find 76 = .ok (.aload_n 1, 1) := by decide +kernel
theorem d_Past_find_77 : decode b_Past_find 77 = .ok (.invokevirtual 33, 3) := by decide +kernel
theorem d_Past_find_80 : decode b_Past_find 80 = .ok (.istore 7, 2) := by decide +kernel
theorem d_Past_find_82 : decode b_Past_find 82 = .ok (.iload 7, 2) := by decide +kernel
theorem d_Past_find_84 : decode b_Past_find 84 = .ok (.aload_n 0, 1) := by decide +kernel
theorem d_Past_find_85 : decode b_Past_find 85 = .ok (.getfield 12, 3) := by decide +kernel
theorem d_Past_find_88 : decode b_Past_find 88 = .ok (.getfield 21, 3) := by decide +kernel
theorem d_Past_find_91 : decode b_Past_find 91 = .ok (.if_icmp .ne 23, 3) := by decide +kernel
theorem d_Past_find_94 : decode b_Past_find 94 = .ok (.aload_n 0, 1) := by decide +kernel
theorem d_Past_find_95 : decode b_Past_find 95 = .ok (.aload_n 1, 1) := by decide +kernel
theorem d_Past_find_96 : decode b_Past_find 96 = .ok (.invokevirtual 37, 3) := by decide +kernel
theorem d_Past_find_99 : decode b_Past_find 99 = .ok (.ifCond .eq 15, 3) := by decide +kernel
theorem d_Past_find_102 : decode b_Past_find 102 = .ok (.iinc 4 1, 3) := by decide +kernel
theorem d_Past_find_105 : decode b_Past_find 105 = .ok (.iload 4, 2) := by decide +kernel
theorem d_Past_find_107 : decode b_Past_find 107 = .ok (.iload_n 3, 1) := by decide +kernel
theorem d_Past_find_108 : decode b_Past_find 108 = .ok (.if_icmp .le 6, 3) := by decide +kernel
theorem d_Past_find_111 : decode b_Past_find 111 = .ok (.iload 4, 2) := by decide +kernel
theorem d_Past_find_113 : decode b_Past_find 113 = .ok (.ireturn, 1) := by decide +kernel
theorem d_Past_find_114 : decode b_Past_find 114 = .ok (.aload_n 0, 1) := by decide +kernel
theorem d_Past_find_115 : decode b_Past_find 115 = .ok (.iload 7, 2) := by decide +kernel
theorem d_Past_find_117 : decode b_Past_find 117 = .ok (.aload_n 0, 1) := by decide +kernel
theorem d_Past_find_118 : decode b_Past_find 118 = .ok (.getfield 12, 3) := by decide +kernel
theorem d_Past_find_121 : decode b_Past_find 121 = .ok (.getfield 21, 3) := by decide +kernel
theorem d_Past_find_124 : decode b_Past_find 124 = .ok (.iconst 1, 1) := by decide +kernel
theorem d_Past_find_125 : decode b_Past_find 125 = .ok (.isub, 1) := by decide +kernel
theorem d_Past_find_126 : decode b_Past_find 126 = .ok (.invokestatic 41, 3) := by decide +kernel
theorem d_Past_find_129 : decode b_Past_find 129 = .ok (.iload_n 2, 1) := by decide +kernel
theorem d_Past_find_130 : decode b_Past_find 130 = .ok (.invokevirtual 47, 3) := by decide +kernel
theorem d_Past_find_133 : decode b_Past_find 133 = .ok (.ifCond .ne 6, 3) := by decide +kernel
theorem d_Past_find_136 : decode b_Past_find 136 = .ok (.iload 4, 2) := by decide +kernel
theorem d_Past_find_138 : decode b_Past_find 138 = .ok (.ireturn, 1) := by decide +kernel
theorem d_Past_find_139 : decode b_Past_find 139 = .ok (.iinc 6 1, 3) := by decide +kernel
theorem d_Past_find_142 : decode b_Past_find 142 = .ok (.goto (-74), 3) := by decide +kernel
theorem d_Past_find_145 : decode b_Past_find 145 = .ok (.iload 4, 2) := by decide +kernel
theorem d_Past_find_147 : decode b_Past_find 147 = .ok (.ireturn, 1) := by decide +kernel
set_option maxHeartbeats 4000000 in
set_option maxRecDepth 100000 in
theorem c_Past_find {l : Launch} {D : va_G} {cI cJ cC : ClassId} (a_h a_h_told a_h_struck a_h_told_kinds a_h_told_sweets a_h_told_settings a_h_told_heaps a_h_struck_kinds a_h_struck_sweets a_h_struck_settings a_h_struck_heaps a_g1 a_g1_kinds a_g1_sweets a_g1_settings a_g1_heaps : Nat) {z_h_told : RS} {z_h_struck : RS} {z_g1 : RS} {x2 : Int32} {x3 : Int32} {q : Int32 × RS × RS} (hf : f_Past_find z_h_told z_h_struck z_g1 x2 x3 = some q) : xI l y_Past_find b_Past_find 8 .int 5 110 D (tyK cI cJ cC) xE0 [.ref a_h, .ref a_g1, .int x2, .int x3] (w_Past_find cI cJ cC a_h a_h_told a_h_struck a_h_told_kinds a_h_told_sweets a_h_told_settings a_h_told_heaps a_h_struck_kinds a_h_struck_sweets a_h_struck_settings a_h_struck_heaps a_g1 a_g1_kinds a_g1_sweets a_g1_settings a_g1_heaps (r_children z_h_told) (r_strokes z_h_told) (r_gave z_h_told) (r_threw z_h_told) (r_kinds z_h_told) (r_sweets z_h_told) (r_settings z_h_told) (r_heaps z_h_told) (r_children z_h_struck) (r_strokes z_h_struck) (r_gave z_h_struck) (r_threw z_h_struck) (r_kinds z_h_struck) (r_sweets z_h_struck) (r_settings z_h_struck) (r_heaps z_h_struck) (r_children z_g1) (r_strokes z_g1) (r_gave z_g1) (r_threw z_g1) (r_kinds z_g1) (r_sweets z_g1) (r_settings z_g1)) q.1 (w_Past_find cI cJ cC a_h a_h_told a_h_struck a_h_told_kinds a_h_told_sweets a_h_told_settings a_h_told_heaps a_h_struck_kinds a_h_struck_sweets a_h_struck_settings a_h_struck_heaps a_g1 a_g1_kinds a_g1_sweets a_g1_settings a_g1_heaps (r_children q.2.1) (r_strokes q.2.1) (r_gave q.2.1) (r_threw q.2.1) (r_kinds q.2.1) (r_sweets q.2.1) (r_settings q.2.1) (r_heaps q.2.1) (r_children q.2.2) (r_strokes q.2.2) (r_gave q.2.2) (r_threw q.2.2) (r_kinds q.2.2) (r_sweets q.2.2) (r_settings q.2.2) (r_heaps q.2.2) (r_children z_g1) (r_strokes z_g1) (r_gave z_g1) (r_threw z_g1) (r_kinds z_g1) (r_sweets z_g1) (r_settings z_g1)) := by
  refine xI_of (by decide) (Nat.le_of_ble_eq_true rfl) ?_
  intro p e s m args below meth c A Q hx hb hml hown hT hA hP hD hK hS hE hret ls hl
  have hown : s.vm.findClass R_Past = some m.cls := hown
  have hl : lv_has ls 8 [(0, .ref a_h), (1, .ref a_g1), (2, .int x2), (3, .int x3)] := hl
  unfold f_Past_find at hf
  have L28 : ∀ (z_h_struck : RS) (x4 : Int32) (k : RS → Int32 → Option (Int32 × RS × RS)), (∀ (z_h_told : RS) (x5 : Int32) (H : Heap) (locs : List Loc) (ls : Array Slot), k z_h_told x5 = some q → va_P D classes (w_Past_find cI cJ cC a_h a_h_told a_h_struck a_h_told_kinds a_h_told_sweets a_h_told_settings a_h_told_heaps a_h_struck_kinds a_h_struck_sweets a_h_struck_settings a_h_struck_heaps a_g1 a_g1_kinds a_g1_sweets a_g1_settings a_g1_heaps (r_children z_h_told) (r_strokes z_h_told) (r_gave z_h_told) (r_threw z_h_told) (r_kinds z_h_told) (r_sweets z_h_told) (r_settings z_h_told) (r_heaps z_h_told) (r_children z_h_struck) (r_strokes z_h_struck) (r_gave z_h_struck) (r_threw z_h_struck) (r_kinds z_h_struck) (r_sweets z_h_struck) (r_settings z_h_struck) (r_heaps z_h_struck) (r_children z_g1) (r_strokes z_g1) (r_gave z_g1) (r_threw z_g1) (r_kinds z_g1) (r_sweets z_g1) (r_settings z_g1)) H → va_D A (w_Past_find cI cJ cC a_h a_h_told a_h_struck a_h_told_kinds a_h_told_sweets a_h_told_settings a_h_told_heaps a_h_struck_kinds a_h_struck_sweets a_h_struck_settings a_h_struck_heaps a_g1 a_g1_kinds a_g1_sweets a_g1_settings a_g1_heaps (r_children z_h_told) (r_strokes z_h_told) (r_gave z_h_told) (r_threw z_h_told) (r_kinds z_h_told) (r_sweets z_h_told) (r_settings z_h_told) (r_heaps z_h_told) (r_children z_h_struck) (r_strokes z_h_struck) (r_gave z_h_struck) (r_threw z_h_struck) (r_kinds z_h_struck) (r_sweets z_h_struck) (r_settings z_h_struck) (r_heaps z_h_struck) (r_children z_g1) (r_strokes z_g1) (r_gave z_g1) (r_threw z_g1) (r_kinds z_g1) (r_sweets z_g1) (r_settings z_g1)) → va_S A s.heap H locs → lv_has ls 8 [(0, .ref a_h), (1, .ref a_g1), (2, .int x2), (3, .int x3), (4, .int x4), (5, .int x5)] → W p l e (xRm 5 110) s m args below meth c H locs 0 0 Q (F0 m 65 ls [])) → ∀ (n : Nat) (z_h_told : RS) (x5 : Int32) (x6 : Int32) (H : Heap) (locs : List Loc) (ls : Array Slot), f_Past_find_L28 x2 k n z_h_told x5 x6 = some q → va_P D classes (w_Past_find cI cJ cC a_h a_h_told a_h_struck a_h_told_kinds a_h_told_sweets a_h_told_settings a_h_told_heaps a_h_struck_kinds a_h_struck_sweets a_h_struck_settings a_h_struck_heaps a_g1 a_g1_kinds a_g1_sweets a_g1_settings a_g1_heaps (r_children z_h_told) (r_strokes z_h_told) (r_gave z_h_told) (r_threw z_h_told) (r_kinds z_h_told) (r_sweets z_h_told) (r_settings z_h_told) (r_heaps z_h_told) (r_children z_h_struck) (r_strokes z_h_struck) (r_gave z_h_struck) (r_threw z_h_struck) (r_kinds z_h_struck) (r_sweets z_h_struck) (r_settings z_h_struck) (r_heaps z_h_struck) (r_children z_g1) (r_strokes z_g1) (r_gave z_g1) (r_threw z_g1) (r_kinds z_g1) (r_sweets z_g1) (r_settings z_g1)) H → va_D A (w_Past_find cI cJ cC a_h a_h_told a_h_struck a_h_told_kinds a_h_told_sweets a_h_told_settings a_h_told_heaps a_h_struck_kinds a_h_struck_sweets a_h_struck_settings a_h_struck_heaps a_g1 a_g1_kinds a_g1_sweets a_g1_settings a_g1_heaps (r_children z_h_told) (r_strokes z_h_told) (r_gave z_h_told) (r_threw z_h_told) (r_kinds z_h_told) (r_sweets z_h_told) (r_settings z_h_told) (r_heaps z_h_told) (r_children z_h_struck) (r_strokes z_h_struck) (r_gave z_h_struck) (r_threw z_h_struck) (r_kinds z_h_struck) (r_sweets z_h_struck) (r_settings z_h_struck) (r_heaps z_h_struck) (r_children z_g1) (r_strokes z_g1) (r_gave z_g1) (r_threw z_g1) (r_kinds z_g1) (r_sweets z_g1) (r_settings z_g1)) → va_S A s.heap H locs → lv_has ls 8 [(0, .ref a_h), (1, .ref a_g1), (2, .int x2), (3, .int x3), (4, .int x4), (5, .int x5), (6, .int x6)] → W p l e (xRm 5 110) s m args below meth c H locs 0 0 Q (F0 m 28 ls []) := by
    intro z_h_struck x4 k hk n
    induction n with
    | zero => intro z_h_told x5 x6 H locs ls hf hP hD hS hl; exact nomatch (show (none : Option (Int32 × RS × RS)) = some q from hf)
    | succ n ih =>
      intro z_h_told x5 x6 H locs ls hf hP hD hS hl
      refine lv_iload hx hb d_Past_find_28 (lv_at hl 6 rfl) ?_
      refine lv_aload_n hx hb d_Past_find_30 rfl (lv_at hl 0 rfl) ?_
      refine va_get hx hb hT i_Past hown hK hP 0 rfl rfl 0 (Nat.le_of_ble_eq_true rfl) (hT _ k_141) (fun _ h => h) rfl d_Past_find_31 ?_
      refine va_get hx hb hT i_Ring hown hK hP 1 rfl rfl 3 (Nat.le_of_ble_eq_true rfl) (hT _ k_46) (fun _ h => h) rfl d_Past_find_34 ?_
      refine lv_icmp_ge (tgt := 65) hx hb d_Past_find_37 (by decide) (fun c3 => ?_) (fun c3 => ?_)
      · have hf := io_t hf c3
        exact hk z_h_told x5 _ _ _ hf hP hD hS (lv_sub hl [0, 1, 2, 3, 4, 5] rfl)
      · have hf := io_f hf c3
        refine lv_aload_n hx hb d_Past_find_40 rfl (lv_at hl 0 rfl) ?_
        refine va_get hx hb hT i_Past hown hK hP 0 rfl rfl 0 (Nat.le_of_ble_eq_true rfl) (hT _ k_141) (fun _ h => h) rfl d_Past_find_41 ?_
        refine va_get hx hb hT i_Ring hown hK hP 1 rfl rfl 1 (Nat.le_of_ble_eq_true rfl) (hT _ k_37) (fun _ h => h) rfl d_Past_find_44 ?_
        refine lv_iload hx hb d_Past_find_47 (lv_at hl 6 rfl) ?_
        refine lv_iconst (v := 0) hx hb d_Past_find_49 (by decide) ?_
        obtain ⟨c4, hf⟩ := io_n hf
        refine x_iast hx hb hK hP hD hS 3 0 rfl rfl (j := x6.toNatClampNeg) rfl c4 d_Past_find_50 (fun H locs hP hD hS => ?_)
        have hP : va_P D classes (w_Past_find cI cJ cC a_h a_h_told a_h_struck a_h_told_kinds a_h_told_sweets a_h_told_settings a_h_told_heaps a_h_struck_kinds a_h_struck_sweets a_h_struck_settings a_h_struck_heaps a_g1 a_g1_kinds a_g1_sweets a_g1_settings a_g1_heaps (r_children z_h_told) (r_strokes z_h_told) (r_gave z_h_told) (r_threw z_h_told) (r_kinds z_h_told) (upd (r_sweets z_h_told) x6.toNatClampNeg 0) (r_settings z_h_told) (r_heaps z_h_told) (r_children z_h_struck) (r_strokes z_h_struck) (r_gave z_h_struck) (r_threw z_h_struck) (r_kinds z_h_struck) (r_sweets z_h_struck) (r_settings z_h_struck) (r_heaps z_h_struck) (r_children z_g1) (r_strokes z_g1) (r_gave z_g1) (r_threw z_g1) (r_kinds z_g1) (r_sweets z_g1) (r_settings z_g1)) H := hP
        have hD : va_D A (w_Past_find cI cJ cC a_h a_h_told a_h_struck a_h_told_kinds a_h_told_sweets a_h_told_settings a_h_told_heaps a_h_struck_kinds a_h_struck_sweets a_h_struck_settings a_h_struck_heaps a_g1 a_g1_kinds a_g1_sweets a_g1_settings a_g1_heaps (r_children z_h_told) (r_strokes z_h_told) (r_gave z_h_told) (r_threw z_h_told) (r_kinds z_h_told) (upd (r_sweets z_h_told) x6.toNatClampNeg 0) (r_settings z_h_told) (r_heaps z_h_told) (r_children z_h_struck) (r_strokes z_h_struck) (r_gave z_h_struck) (r_threw z_h_struck) (r_kinds z_h_struck) (r_sweets z_h_struck) (r_settings z_h_struck) (r_heaps z_h_struck) (r_children z_g1) (r_strokes z_g1) (r_gave z_g1) (r_threw z_g1) (r_kinds z_g1) (r_sweets z_g1) (r_settings z_g1)) := hD
        refine lv_iload hx hb d_Past_find_51 (lv_at hl 5 rfl) ?_
        refine lv_iload_n hx hb d_Past_find_53 rfl (lv_at hl 2 rfl) ?_
        refine lv_iconst (v := 1) hx hb d_Past_find_54 (by decide) ?_
        refine lv_iadd hx hb d_Past_find_55 ?_
        refine lv_imul hx hb d_Past_find_56 ?_
        refine lv_istore (lv' := [(5, .int (x5 * (x2 + 1))), (0, .ref a_h), (1, .ref a_g1), (2, .int x2), (3, .int x3), (4, .int x4), (6, .int x6)]) hx hb d_Past_find_57 hl (by decide) rfl (fun ls hl => ?_)
        refine lv_iinc (v := (x6 + 1)) (lv' := [(6, .int (x6 + 1)), (5, .int (x5 * (x2 + 1))), (0, .ref a_h), (1, .ref a_g1), (2, .int x2), (3, .int x3), (4, .int x4)]) hx hb d_Past_find_59 hl (k := 6) rfl (by rfl) (by decide) rfl (fun ls hl => ?_)
        refine lv_goto (tgt := 28) hx hb d_Past_find_62 (by decide) ?_
        exact ih ((r_kinds z_h_told), (upd (r_sweets z_h_told) x6.toNatClampNeg 0), (r_settings z_h_told), (r_heaps z_h_told), (r_children z_h_told), (r_strokes z_h_told), (r_gave z_h_told), (r_threw z_h_told)) (x5 * (x2 + 1)) (x6 + 1) _ _ _ hf hP hD hS (lv_sub hl [2, 3, 4, 5, 6, 1, 0] rfl)
  have L68 : ∀ (x5 : Int32), ∀ (n : Nat) (z_h_told : RS) (z_h_struck : RS) (x4 : Int32) (x6 : Int32) (H : Heap) (locs : List Loc) (ls : Array Slot), f_Past_find_L68 z_g1 x2 x3 x5 n z_h_told z_h_struck x4 x6 = some q → va_P D classes (w_Past_find cI cJ cC a_h a_h_told a_h_struck a_h_told_kinds a_h_told_sweets a_h_told_settings a_h_told_heaps a_h_struck_kinds a_h_struck_sweets a_h_struck_settings a_h_struck_heaps a_g1 a_g1_kinds a_g1_sweets a_g1_settings a_g1_heaps (r_children z_h_told) (r_strokes z_h_told) (r_gave z_h_told) (r_threw z_h_told) (r_kinds z_h_told) (r_sweets z_h_told) (r_settings z_h_told) (r_heaps z_h_told) (r_children z_h_struck) (r_strokes z_h_struck) (r_gave z_h_struck) (r_threw z_h_struck) (r_kinds z_h_struck) (r_sweets z_h_struck) (r_settings z_h_struck) (r_heaps z_h_struck) (r_children z_g1) (r_strokes z_g1) (r_gave z_g1) (r_threw z_g1) (r_kinds z_g1) (r_sweets z_g1) (r_settings z_g1)) H → va_D A (w_Past_find cI cJ cC a_h a_h_told a_h_struck a_h_told_kinds a_h_told_sweets a_h_told_settings a_h_told_heaps a_h_struck_kinds a_h_struck_sweets a_h_struck_settings a_h_struck_heaps a_g1 a_g1_kinds a_g1_sweets a_g1_settings a_g1_heaps (r_children z_h_told) (r_strokes z_h_told) (r_gave z_h_told) (r_threw z_h_told) (r_kinds z_h_told) (r_sweets z_h_told) (r_settings z_h_told) (r_heaps z_h_told) (r_children z_h_struck) (r_strokes z_h_struck) (r_gave z_h_struck) (r_threw z_h_struck) (r_kinds z_h_struck) (r_sweets z_h_struck) (r_settings z_h_struck) (r_heaps z_h_struck) (r_children z_g1) (r_strokes z_g1) (r_gave z_g1) (r_threw z_g1) (r_kinds z_g1) (r_sweets z_g1) (r_settings z_g1)) → va_S A s.heap H locs → lv_has ls 8 [(0, .ref a_h), (1, .ref a_g1), (2, .int x2), (3, .int x3), (4, .int x4), (5, .int x5), (6, .int x6)] → W p l e (xRm 5 110) s m args below meth c H locs 0 0 Q (F0 m 68 ls []) := by
    intro x5 n
    induction n with
    | zero => intro z_h_told z_h_struck x4 x6 H locs ls hf hP hD hS hl; exact nomatch (show (none : Option (Int32 × RS × RS)) = some q from hf)
    | succ n ih =>
      intro z_h_told z_h_struck x4 x6 H locs ls hf hP hD hS hl
      refine lv_iload hx hb d_Past_find_68 (lv_at hl 6 rfl) ?_
      refine lv_iload hx hb d_Past_find_70 (lv_at hl 5 rfl) ?_
      refine lv_icmp_ge (tgt := 145) hx hb d_Past_find_72 (by decide) (fun c6 => ?_) (fun c6 => ?_)
      · have hf := io_t hf c6
        refine lv_iload hx hb d_Past_find_145 (lv_at hl 4 rfl) ?_
        have hq := Option.some.inj hf
        subst hq
        exact hret _ _ _ _ _ d_Past_find_147 rfl rfl hP hD hS
      · have hf := io_f hf c6
        refine lv_aload_n hx hb d_Past_find_75 rfl (lv_at hl 0 rfl) ?_
        refine lv_aload_n hx hb d_Past_find_76 rfl (lv_at hl 1 rfl) ?_
        obtain ⟨q7, hq7, hf⟩ := io_b hf
        refine xcVI (wc := (w_Past_placeOfWrong cI cJ cC a_h a_h_told a_h_struck a_h_told_kinds a_h_told_sweets a_h_told_settings a_h_told_heaps a_g1 a_g1_kinds a_g1_sweets a_g1_settings a_g1_heaps (r_children z_h_told) (r_strokes z_h_told) (r_gave z_h_told) (r_threw z_h_told) (r_kinds z_h_told) (r_sweets z_h_told) (r_settings z_h_told) (r_children z_g1) (r_strokes z_g1) (r_gave z_g1) (r_threw z_g1) (r_sweets z_g1))) (wc' := (w_Past_placeOfWrong cI cJ cC a_h a_h_told a_h_struck a_h_told_kinds a_h_told_sweets a_h_told_settings a_h_told_heaps a_g1 a_g1_kinds a_g1_sweets a_g1_settings a_g1_heaps (r_children z_h_told) (r_strokes z_h_told) (r_gave z_h_told) (r_threw z_h_told) (r_kinds z_h_told) (r_sweets z_h_told) (r_settings z_h_told) (r_children z_g1) (r_strokes z_g1) (r_gave z_g1) (r_threw z_g1) (r_sweets z_g1))) (ws' := (w_Past_find cI cJ cC a_h a_h_told a_h_struck a_h_told_kinds a_h_told_sweets a_h_told_settings a_h_told_heaps a_h_struck_kinds a_h_struck_sweets a_h_struck_settings a_h_struck_heaps a_g1 a_g1_kinds a_g1_sweets a_g1_settings a_g1_heaps (r_children z_h_told) (r_strokes z_h_told) (r_gave z_h_told) (r_threw z_h_told) (r_kinds z_h_told) (r_sweets z_h_told) (r_settings z_h_told) (r_heaps z_h_told) (r_children z_h_struck) (r_strokes z_h_struck) (r_gave z_h_struck) (r_threw z_h_struck) (r_kinds z_h_struck) (r_sweets z_h_struck) (r_settings z_h_struck) (r_heaps z_h_struck) (r_children z_g1) (r_strokes z_g1) (r_gave z_g1) (r_threw z_g1) (r_kinds z_g1) (r_sweets z_g1) (r_settings z_g1))) (As := [.ref a_g1]) (rest := []) hx hb hml hown hT (c_Past_placeOfWrong (z_h_told := z_h_told) (z_g1 := z_g1) a_h a_h_told a_h_struck a_h_told_kinds a_h_told_sweets a_h_told_settings a_h_told_heaps a_g1 a_g1_kinds a_g1_sweets a_g1_settings a_g1_heaps hq7) k_595 k_597 ks_15 k_6 k_598 hd_Past_placeOfWrong ⟨Nat.le_of_ble_eq_true rfl, Nat.le_of_ble_eq_true rfl⟩ xE0_ok trivial hA hK hP hD hS [0, 1, 2, 3, 4, 11, 13] [5, 6, 7, 8, 9, 10, 12, 14] [8, 9, 10, 11, 12, 0, 1, 2, 3, 4, 5, 13, 6, 14, 7] rfl rfl rfl rfl rfl rfl rfl rfl rfl rfl hl.1 rfl (Nat.le_of_ble_eq_true rfl) ⟨Nat.zero_le _, Nat.zero_le _⟩ d_Past_find_77 (fun H locs hP hD hS => ?_)
        refine lv_istore (lv' := [(7, .int q7), (0, .ref a_h), (1, .ref a_g1), (2, .int x2), (3, .int x3), (4, .int x4), (5, .int x5), (6, .int x6)]) hx hb d_Past_find_80 hl (by decide) rfl (fun ls hl => ?_)
        refine lv_iload hx hb d_Past_find_82 (lv_at hl 0 rfl) ?_
        refine lv_aload_n hx hb d_Past_find_84 rfl (lv_at hl 1 rfl) ?_
        refine va_get hx hb hT i_Past hown hK hP 0 rfl rfl 0 (Nat.le_of_ble_eq_true rfl) (hT _ k_141) (fun _ h => h) rfl d_Past_find_85 ?_
        refine va_get hx hb hT i_Ring hown hK hP 1 rfl rfl 3 (Nat.le_of_ble_eq_true rfl) (hT _ k_46) (fun _ h => h) rfl d_Past_find_88 ?_
        refine lv_icmp_ne (tgt := 114) hx hb d_Past_find_91 (by decide) (fun c8 => ?_) (fun c8 => ?_)
        · have hf := io_f hf c8
          refine lv_aload_n hx hb d_Past_find_114 rfl (lv_at hl 1 rfl) ?_
          refine lv_iload hx hb d_Past_find_115 (lv_at hl 0 rfl) ?_
          refine lv_aload_n hx hb d_Past_find_117 rfl (lv_at hl 1 rfl) ?_
          refine va_get hx hb hT i_Past hown hK hP 0 rfl rfl 0 (Nat.le_of_ble_eq_true rfl) (hT _ k_141) (fun _ h => h) rfl d_Past_find_118 ?_
          refine va_get hx hb hT i_Ring hown hK hP 1 rfl rfl 3 (Nat.le_of_ble_eq_true rfl) (hT _ k_46) (fun _ h => h) rfl d_Past_find_121 ?_
          refine lv_iconst (v := 1) hx hb d_Past_find_124 (by decide) ?_
          refine lv_isub hx hb d_Past_find_125 ?_
          refine va_mmin hx hb (hml.trans hl.1.symm) hown (hT _ k_616) (hT _ k_265) (hT _ k_11) (hT _ k_266) (Nat.le_of_ble_eq_true rfl) (Nat.le_of_ble_eq_true rfl) (Nat.zero_le _) (Nat.zero_le _) d_Past_find_126 ?_
          refine lv_iload_n hx hb d_Past_find_129 rfl (lv_at hl 3 rfl) ?_
          obtain ⟨q9, hq9, hf⟩ := io_b hf
          refine xcVI (wc := (w_Past_advance cI cJ cC a_h a_h_told a_h_struck a_h_told_kinds a_h_told_sweets a_h_told_settings a_h_told_heaps (r_children z_h_told) (r_strokes z_h_told) (r_gave z_h_told) (r_threw z_h_told) (r_kinds z_h_told) (r_sweets z_h_told) (r_settings z_h_told) (r_heaps z_h_told))) (wc' := (w_Past_advance cI cJ cC a_h a_h_told a_h_struck a_h_told_kinds a_h_told_sweets a_h_told_settings a_h_told_heaps (r_children q9.2) (r_strokes q9.2) (r_gave q9.2) (r_threw q9.2) (r_kinds q9.2) (r_sweets q9.2) (r_settings q9.2) (r_heaps q9.2))) (ws' := (w_Past_find cI cJ cC a_h a_h_told a_h_struck a_h_told_kinds a_h_told_sweets a_h_told_settings a_h_told_heaps a_h_struck_kinds a_h_struck_sweets a_h_struck_settings a_h_struck_heaps a_g1 a_g1_kinds a_g1_sweets a_g1_settings a_g1_heaps (r_children q9.2) (r_strokes q9.2) (r_gave q9.2) (r_threw q9.2) (r_kinds q9.2) (r_sweets q9.2) (r_settings q9.2) (r_heaps q9.2) (r_children z_h_struck) (r_strokes z_h_struck) (r_gave z_h_struck) (r_threw z_h_struck) (r_kinds z_h_struck) (r_sweets z_h_struck) (r_settings z_h_struck) (r_heaps z_h_struck) (r_children z_g1) (r_strokes z_g1) (r_gave z_g1) (r_threw z_g1) (r_kinds z_g1) (r_sweets z_g1) (r_settings z_g1))) (As := [.int (jmin q7 ((r_children z_h_told) - 1)), .int x2]) (rest := []) hx hb hml hown hT (c_Past_advance (z_h_told := z_h_told) a_h a_h_told a_h_struck a_h_told_kinds a_h_told_sweets a_h_told_settings a_h_told_heaps hq9) k_623 k_625 ks_18 k_6 k_626 hd_Past_advance ⟨Nat.le_of_ble_eq_true rfl, Nat.le_of_ble_eq_true rfl⟩ xE0_ok trivial hA hK hP hD hS [0, 1, 2, 3, 4, 5] [6, 7, 8, 9, 10, 11, 12, 13, 14] [9, 10, 11, 12, 13, 14, 0, 1, 2, 3, 4, 5, 6, 7, 8] rfl rfl rfl rfl rfl rfl rfl rfl rfl rfl hl.1 rfl (Nat.le_of_ble_eq_true rfl) ⟨Nat.zero_le _, Nat.zero_le _⟩ d_Past_find_130 (fun H locs hP hD hS => ?_)
          refine lv_if_ne (tgt := 139) hx hb d_Past_find_133 (by decide) (fun c10 => ?_) (fun c10 => ?_)
          · have hf := io_f hf c10
            refine lv_iinc (v := (x6 + 1)) (lv' := [(6, .int (x6 + 1)), (7, .int q7), (0, .ref a_h), (1, .ref a_g1), (2, .int x2), (3, .int x3), (4, .int x4), (5, .int x5)]) hx hb d_Past_find_139 hl (k := 7) rfl (by rfl) (by decide) rfl (fun ls hl => ?_)
            refine lv_goto (tgt := 68) hx hb d_Past_find_142 (by decide) ?_
            exact ih q9.2 z_h_struck x4 (x6 + 1) _ _ _ hf hP hD hS (lv_sub hl [2, 3, 4, 5, 6, 7, 0] rfl)
          · have hf := io_t hf c10
            refine lv_iload hx hb d_Past_find_136 (lv_at hl 5 rfl) ?_
            have hq := Option.some.inj hf
            subst hq
            exact hret _ _ _ _ _ d_Past_find_138 rfl rfl hP hD hS
        · have hf := io_t hf c8
          refine lv_aload_n hx hb d_Past_find_94 rfl (lv_at hl 1 rfl) ?_
          refine lv_aload_n hx hb d_Past_find_95 rfl (lv_at hl 2 rfl) ?_
          obtain ⟨q11, hq11, hf⟩ := io_b hf
          refine xcVI (wc := (w_Past_leadsTo cI cJ cC a_h a_h_told a_h_struck a_h_told_kinds a_h_told_sweets a_h_told_settings a_h_told_heaps a_h_struck_kinds a_h_struck_sweets a_h_struck_settings a_h_struck_heaps a_g1 a_g1_kinds a_g1_sweets a_g1_settings a_g1_heaps (r_children z_h_told) (r_strokes z_h_told) (r_gave z_h_told) (r_threw z_h_told) (r_kinds z_h_told) (r_sweets z_h_told) (r_settings z_h_told) (r_children z_h_struck) (r_strokes z_h_struck) (r_gave z_h_struck) (r_threw z_h_struck) (r_kinds z_h_struck) (r_sweets z_h_struck) (r_settings z_h_struck) (r_heaps z_h_struck) (r_children z_g1) (r_strokes z_g1) (r_gave z_g1) (r_threw z_g1) (r_sweets z_g1))) (wc' := (w_Past_leadsTo cI cJ cC a_h a_h_told a_h_struck a_h_told_kinds a_h_told_sweets a_h_told_settings a_h_told_heaps a_h_struck_kinds a_h_struck_sweets a_h_struck_settings a_h_struck_heaps a_g1 a_g1_kinds a_g1_sweets a_g1_settings a_g1_heaps (r_children z_h_told) (r_strokes z_h_told) (r_gave z_h_told) (r_threw z_h_told) (r_kinds z_h_told) (r_sweets z_h_told) (r_settings z_h_told) (r_children q11.2) (r_strokes q11.2) (r_gave q11.2) (r_threw q11.2) (r_kinds q11.2) (r_sweets q11.2) (r_settings q11.2) (r_heaps q11.2) (r_children z_g1) (r_strokes z_g1) (r_gave z_g1) (r_threw z_g1) (r_sweets z_g1))) (ws' := (w_Past_find cI cJ cC a_h a_h_told a_h_struck a_h_told_kinds a_h_told_sweets a_h_told_settings a_h_told_heaps a_h_struck_kinds a_h_struck_sweets a_h_struck_settings a_h_struck_heaps a_g1 a_g1_kinds a_g1_sweets a_g1_settings a_g1_heaps (r_children z_h_told) (r_strokes z_h_told) (r_gave z_h_told) (r_threw z_h_told) (r_kinds z_h_told) (r_sweets z_h_told) (r_settings z_h_told) (r_heaps z_h_told) (r_children q11.2) (r_strokes q11.2) (r_gave q11.2) (r_threw q11.2) (r_kinds q11.2) (r_sweets q11.2) (r_settings q11.2) (r_heaps q11.2) (r_children z_g1) (r_strokes z_g1) (r_gave z_g1) (r_threw z_g1) (r_kinds z_g1) (r_sweets z_g1) (r_settings z_g1))) (As := [.ref a_g1]) (rest := []) hx hb hml hown hT (c_Past_leadsTo (z_h_told := z_h_told) (z_h_struck := z_h_struck) (z_g1 := z_g1) a_h a_h_told a_h_struck a_h_told_kinds a_h_told_sweets a_h_told_settings a_h_told_heaps a_h_struck_kinds a_h_struck_sweets a_h_struck_settings a_h_struck_heaps a_g1 a_g1_kinds a_g1_sweets a_g1_settings a_g1_heaps hq11) k_617 k_619 ks_17 k_6 k_620 hd_Past_leadsTo ⟨Nat.le_of_ble_eq_true rfl, Nat.le_of_ble_eq_true rfl⟩ xE0_ok trivial hA hK hP hD hS [0, 1, 2, 3, 4, 6, 7, 8, 9, 10, 11, 13] [5, 12, 14] [3, 4, 5, 6, 7, 0, 8, 9, 10, 11, 12, 13, 1, 14, 2] rfl rfl rfl rfl rfl rfl rfl rfl rfl rfl hl.1 rfl (Nat.le_of_ble_eq_true rfl) ⟨Nat.zero_le _, Nat.zero_le _⟩ d_Past_find_96 (fun H locs hP hD hS => ?_)
          refine lv_if_eq (tgt := 114) hx hb d_Past_find_99 (by decide) (fun c12 => ?_) (fun c12 => ?_)
          · have hf := io_t hf c12
            refine lv_aload_n hx hb d_Past_find_114 rfl (lv_at hl 1 rfl) ?_
            refine lv_iload hx hb d_Past_find_115 (lv_at hl 0 rfl) ?_
            refine lv_aload_n hx hb d_Past_find_117 rfl (lv_at hl 1 rfl) ?_
            refine va_get hx hb hT i_Past hown hK hP 0 rfl rfl 0 (Nat.le_of_ble_eq_true rfl) (hT _ k_141) (fun _ h => h) rfl d_Past_find_118 ?_
            refine va_get hx hb hT i_Ring hown hK hP 1 rfl rfl 3 (Nat.le_of_ble_eq_true rfl) (hT _ k_46) (fun _ h => h) rfl d_Past_find_121 ?_
            refine lv_iconst (v := 1) hx hb d_Past_find_124 (by decide) ?_
            refine lv_isub hx hb d_Past_find_125 ?_
            refine va_mmin hx hb (hml.trans hl.1.symm) hown (hT _ k_616) (hT _ k_265) (hT _ k_11) (hT _ k_266) (Nat.le_of_ble_eq_true rfl) (Nat.le_of_ble_eq_true rfl) (Nat.zero_le _) (Nat.zero_le _) d_Past_find_126 ?_
            refine lv_iload_n hx hb d_Past_find_129 rfl (lv_at hl 3 rfl) ?_
            obtain ⟨q13, hq13, hf⟩ := io_b hf
            refine xcVI (wc := (w_Past_advance cI cJ cC a_h a_h_told a_h_struck a_h_told_kinds a_h_told_sweets a_h_told_settings a_h_told_heaps (r_children z_h_told) (r_strokes z_h_told) (r_gave z_h_told) (r_threw z_h_told) (r_kinds z_h_told) (r_sweets z_h_told) (r_settings z_h_told) (r_heaps z_h_told))) (wc' := (w_Past_advance cI cJ cC a_h a_h_told a_h_struck a_h_told_kinds a_h_told_sweets a_h_told_settings a_h_told_heaps (r_children q13.2) (r_strokes q13.2) (r_gave q13.2) (r_threw q13.2) (r_kinds q13.2) (r_sweets q13.2) (r_settings q13.2) (r_heaps q13.2))) (ws' := (w_Past_find cI cJ cC a_h a_h_told a_h_struck a_h_told_kinds a_h_told_sweets a_h_told_settings a_h_told_heaps a_h_struck_kinds a_h_struck_sweets a_h_struck_settings a_h_struck_heaps a_g1 a_g1_kinds a_g1_sweets a_g1_settings a_g1_heaps (r_children q13.2) (r_strokes q13.2) (r_gave q13.2) (r_threw q13.2) (r_kinds q13.2) (r_sweets q13.2) (r_settings q13.2) (r_heaps q13.2) (r_children q11.2) (r_strokes q11.2) (r_gave q11.2) (r_threw q11.2) (r_kinds q11.2) (r_sweets q11.2) (r_settings q11.2) (r_heaps q11.2) (r_children z_g1) (r_strokes z_g1) (r_gave z_g1) (r_threw z_g1) (r_kinds z_g1) (r_sweets z_g1) (r_settings z_g1))) (As := [.int (jmin q7 ((r_children z_h_told) - 1)), .int x2]) (rest := []) hx hb hml hown hT (c_Past_advance (z_h_told := z_h_told) a_h a_h_told a_h_struck a_h_told_kinds a_h_told_sweets a_h_told_settings a_h_told_heaps hq13) k_623 k_625 ks_18 k_6 k_626 hd_Past_advance ⟨Nat.le_of_ble_eq_true rfl, Nat.le_of_ble_eq_true rfl⟩ xE0_ok trivial hA hK hP hD hS [0, 1, 2, 3, 4, 5] [6, 7, 8, 9, 10, 11, 12, 13, 14] [9, 10, 11, 12, 13, 14, 0, 1, 2, 3, 4, 5, 6, 7, 8] rfl rfl rfl rfl rfl rfl rfl rfl rfl rfl hl.1 rfl (Nat.le_of_ble_eq_true rfl) ⟨Nat.zero_le _, Nat.zero_le _⟩ d_Past_find_130 (fun H locs hP hD hS => ?_)
            refine lv_if_ne (tgt := 139) hx hb d_Past_find_133 (by decide) (fun c14 => ?_) (fun c14 => ?_)
            · have hf := io_f hf c14
              refine lv_iinc (v := (x6 + 1)) (lv' := [(6, .int (x6 + 1)), (7, .int q7), (0, .ref a_h), (1, .ref a_g1), (2, .int x2), (3, .int x3), (4, .int x4), (5, .int x5)]) hx hb d_Past_find_139 hl (k := 7) rfl (by rfl) (by decide) rfl (fun ls hl => ?_)
              refine lv_goto (tgt := 68) hx hb d_Past_find_142 (by decide) ?_
              exact ih q13.2 q11.2 x4 (x6 + 1) _ _ _ hf hP hD hS (lv_sub hl [2, 3, 4, 5, 6, 7, 0] rfl)
            · have hf := io_t hf c14
              refine lv_iload hx hb d_Past_find_136 (lv_at hl 5 rfl) ?_
              have hq := Option.some.inj hf
              subst hq
              exact hret _ _ _ _ _ d_Past_find_138 rfl rfl hP hD hS
          · have hf := io_f hf c12
            refine lv_iinc (v := (x4 + 1)) (lv' := [(4, .int (x4 + 1)), (7, .int q7), (0, .ref a_h), (1, .ref a_g1), (2, .int x2), (3, .int x3), (5, .int x5), (6, .int x6)]) hx hb d_Past_find_102 hl (k := 5) rfl (by rfl) (by decide) rfl (fun ls hl => ?_)
            refine lv_iload hx hb d_Past_find_105 (lv_at hl 0 rfl) ?_
            refine lv_iload_n hx hb d_Past_find_107 rfl (lv_at hl 5 rfl) ?_
            refine lv_icmp_le (tgt := 114) hx hb d_Past_find_108 (by decide) (fun c15 => ?_) (fun c15 => ?_)
            · have hf := io_t hf c15
              refine lv_aload_n hx hb d_Past_find_114 rfl (lv_at hl 2 rfl) ?_
              refine lv_iload hx hb d_Past_find_115 (lv_at hl 1 rfl) ?_
              refine lv_aload_n hx hb d_Past_find_117 rfl (lv_at hl 2 rfl) ?_
              refine va_get hx hb hT i_Past hown hK hP 0 rfl rfl 0 (Nat.le_of_ble_eq_true rfl) (hT _ k_141) (fun _ h => h) rfl d_Past_find_118 ?_
              refine va_get hx hb hT i_Ring hown hK hP 1 rfl rfl 3 (Nat.le_of_ble_eq_true rfl) (hT _ k_46) (fun _ h => h) rfl d_Past_find_121 ?_
              refine lv_iconst (v := 1) hx hb d_Past_find_124 (by decide) ?_
              refine lv_isub hx hb d_Past_find_125 ?_
              refine va_mmin hx hb (hml.trans hl.1.symm) hown (hT _ k_616) (hT _ k_265) (hT _ k_11) (hT _ k_266) (Nat.le_of_ble_eq_true rfl) (Nat.le_of_ble_eq_true rfl) (Nat.zero_le _) (Nat.zero_le _) d_Past_find_126 ?_
              refine lv_iload_n hx hb d_Past_find_129 rfl (lv_at hl 4 rfl) ?_
              obtain ⟨q16, hq16, hf⟩ := io_b hf
              refine xcVI (wc := (w_Past_advance cI cJ cC a_h a_h_told a_h_struck a_h_told_kinds a_h_told_sweets a_h_told_settings a_h_told_heaps (r_children z_h_told) (r_strokes z_h_told) (r_gave z_h_told) (r_threw z_h_told) (r_kinds z_h_told) (r_sweets z_h_told) (r_settings z_h_told) (r_heaps z_h_told))) (wc' := (w_Past_advance cI cJ cC a_h a_h_told a_h_struck a_h_told_kinds a_h_told_sweets a_h_told_settings a_h_told_heaps (r_children q16.2) (r_strokes q16.2) (r_gave q16.2) (r_threw q16.2) (r_kinds q16.2) (r_sweets q16.2) (r_settings q16.2) (r_heaps q16.2))) (ws' := (w_Past_find cI cJ cC a_h a_h_told a_h_struck a_h_told_kinds a_h_told_sweets a_h_told_settings a_h_told_heaps a_h_struck_kinds a_h_struck_sweets a_h_struck_settings a_h_struck_heaps a_g1 a_g1_kinds a_g1_sweets a_g1_settings a_g1_heaps (r_children q16.2) (r_strokes q16.2) (r_gave q16.2) (r_threw q16.2) (r_kinds q16.2) (r_sweets q16.2) (r_settings q16.2) (r_heaps q16.2) (r_children q11.2) (r_strokes q11.2) (r_gave q11.2) (r_threw q11.2) (r_kinds q11.2) (r_sweets q11.2) (r_settings q11.2) (r_heaps q11.2) (r_children z_g1) (r_strokes z_g1) (r_gave z_g1) (r_threw z_g1) (r_kinds z_g1) (r_sweets z_g1) (r_settings z_g1))) (As := [.int (jmin q7 ((r_children z_h_told) - 1)), .int x2]) (rest := []) hx hb hml hown hT (c_Past_advance (z_h_told := z_h_told) a_h a_h_told a_h_struck a_h_told_kinds a_h_told_sweets a_h_told_settings a_h_told_heaps hq16) k_623 k_625 ks_18 k_6 k_626 hd_Past_advance ⟨Nat.le_of_ble_eq_true rfl, Nat.le_of_ble_eq_true rfl⟩ xE0_ok trivial hA hK hP hD hS [0, 1, 2, 3, 4, 5] [6, 7, 8, 9, 10, 11, 12, 13, 14] [9, 10, 11, 12, 13, 14, 0, 1, 2, 3, 4, 5, 6, 7, 8] rfl rfl rfl rfl rfl rfl rfl rfl rfl rfl hl.1 rfl (Nat.le_of_ble_eq_true rfl) ⟨Nat.zero_le _, Nat.zero_le _⟩ d_Past_find_130 (fun H locs hP hD hS => ?_)
              refine lv_if_ne (tgt := 139) hx hb d_Past_find_133 (by decide) (fun c17 => ?_) (fun c17 => ?_)
              · have hf := io_f hf c17
                refine lv_iinc (v := (x6 + 1)) (lv' := [(6, .int (x6 + 1)), (4, .int (x4 + 1)), (7, .int q7), (0, .ref a_h), (1, .ref a_g1), (2, .int x2), (3, .int x3), (5, .int x5)]) hx hb d_Past_find_139 hl (k := 7) rfl (by rfl) (by decide) rfl (fun ls hl => ?_)
                refine lv_goto (tgt := 68) hx hb d_Past_find_142 (by decide) ?_
                exact ih q16.2 q11.2 (x4 + 1) (x6 + 1) _ _ _ hf hP hD hS (lv_sub hl [3, 4, 5, 6, 1, 7, 0] rfl)
              · have hf := io_t hf c17
                refine lv_iload hx hb d_Past_find_136 (lv_at hl 0 rfl) ?_
                have hq := Option.some.inj hf
                subst hq
                exact hret _ _ _ _ _ d_Past_find_138 rfl rfl hP hD hS
            · have hf := io_f hf c15
              refine lv_iload hx hb d_Past_find_111 (lv_at hl 0 rfl) ?_
              have hq := Option.some.inj hf
              subst hq
              exact hret _ _ _ _ _ d_Past_find_113 rfl rfl hP hD hS
  refine lv_iconst (v := 0) hx hb d_Past_find_0 (by decide) ?_
  refine lv_istore (lv' := [(4, .int 0), (0, .ref a_h), (1, .ref a_g1), (2, .int x2), (3, .int x3)]) hx hb d_Past_find_1 hl (by decide) rfl (fun ls hl => ?_)
  refine lv_aload_n hx hb d_Past_find_3 rfl (lv_at hl 2 rfl) ?_
  refine va_get hx hb hT i_Ring hown hK hP 11 rfl rfl 3 (Nat.le_of_ble_eq_true rfl) (hT _ k_46) (fun _ h => h) rfl d_Past_find_4 ?_
  refine lv_iconst (v := 5) hx hb d_Past_find_7 (by decide) ?_
  refine lv_icmp_le (tgt := 14) hx hb d_Past_find_8 (by decide) (fun c1 => ?_) (fun c1 => ?_)
  · have hf := io_t hf c1
    refine lv_aload_n hx hb d_Past_find_14 rfl (lv_at hl 1 rfl) ?_
    refine va_get hx hb hT i_Past hown hK hP 0 rfl rfl 0 (Nat.le_of_ble_eq_true rfl) (hT _ k_141) (fun _ h => h) rfl d_Past_find_15 ?_
    refine lv_aload_n hx hb d_Past_find_18 rfl (lv_at hl 2 rfl) ?_
    obtain ⟨q2, hq2, hf⟩ := io_b hf
    refine xcVV (wc := (w_Ring_copyFrom cI cJ cC a_h_told a_h_told_kinds a_h_told_sweets a_h_told_settings a_h_told_heaps a_g1 a_g1_kinds a_g1_sweets a_g1_settings a_g1_heaps (r_children z_h_told) (r_strokes z_h_told) (r_gave z_h_told) (r_threw z_h_told) (r_kinds z_h_told) (r_sweets z_h_told) (r_settings z_h_told) (r_heaps z_h_told) (r_children z_g1) (r_strokes z_g1) (r_gave z_g1) (r_threw z_g1) (r_kinds z_g1) (r_sweets z_g1) (r_settings z_g1))) (wc' := (w_Ring_copyFrom cI cJ cC a_h_told a_h_told_kinds a_h_told_sweets a_h_told_settings a_h_told_heaps a_g1 a_g1_kinds a_g1_sweets a_g1_settings a_g1_heaps (r_children q2) (r_strokes q2) (r_gave q2) (r_threw q2) (r_kinds q2) (r_sweets q2) (r_settings q2) (r_heaps q2) (r_children z_g1) (r_strokes z_g1) (r_gave z_g1) (r_threw z_g1) (r_kinds z_g1) (r_sweets z_g1) (r_settings z_g1))) (ws' := (w_Past_find cI cJ cC a_h a_h_told a_h_struck a_h_told_kinds a_h_told_sweets a_h_told_settings a_h_told_heaps a_h_struck_kinds a_h_struck_sweets a_h_struck_settings a_h_struck_heaps a_g1 a_g1_kinds a_g1_sweets a_g1_settings a_g1_heaps (r_children q2) (r_strokes q2) (r_gave q2) (r_threw q2) (r_kinds q2) (r_sweets q2) (r_settings q2) (r_heaps q2) (r_children z_h_struck) (r_strokes z_h_struck) (r_gave z_h_struck) (r_threw z_h_struck) (r_kinds z_h_struck) (r_sweets z_h_struck) (r_settings z_h_struck) (r_heaps z_h_struck) (r_children z_g1) (r_strokes z_g1) (r_gave z_g1) (r_threw z_g1) (r_kinds z_g1) (r_sweets z_g1) (r_settings z_g1))) (As := [.ref a_g1]) (rest := []) hx hb hml hown hT (c_Ring_copyFrom (z_h := z_h_told) (z_g1 := z_g1) a_h_told a_h_told_kinds a_h_told_sweets a_h_told_settings a_h_told_heaps a_g1 a_g1_kinds a_g1_sweets a_g1_settings a_g1_heaps hq2) k_594 k_326 k_327 k_2 k_328 hd_Ring_copyFrom ⟨Nat.le_of_ble_eq_true rfl, Nat.le_of_ble_eq_true rfl⟩ xE0_ok trivial hA hK hP hD hS [1, 2, 3, 4, 5, 11, 12, 13, 14] [0, 6, 7, 8, 9, 10] [0, 6, 7, 8, 9, 10, 1, 2, 3, 4, 5, 11, 12, 13, 14] rfl rfl rfl rfl rfl rfl rfl rfl rfl rfl hl.1 rfl (Nat.le_of_ble_eq_true rfl) ⟨Nat.zero_le _, Nat.zero_le _⟩ d_Past_find_19 (fun H locs hP hD hS => ?_)
    refine lv_iconst (v := 1) hx hb d_Past_find_22 (by decide) ?_
    refine lv_istore (lv' := [(5, .int 1), (4, .int 0), (0, .ref a_h), (1, .ref a_g1), (2, .int x2), (3, .int x3)]) hx hb d_Past_find_23 hl (by decide) rfl (fun ls hl => ?_)
    refine lv_iconst (v := 0) hx hb d_Past_find_25 (by decide) ?_
    refine lv_istore (lv' := [(6, .int 0), (5, .int 1), (4, .int 0), (0, .ref a_h), (1, .ref a_g1), (2, .int x2), (3, .int x3)]) hx hb d_Past_find_26 hl (by decide) rfl (fun ls hl => ?_)
    refine L28 z_h_struck 0 _ (fun z_h_told_5 x5_5 H locs ls hf hP hD hS hl => ?_) FU q2 1 0 _ _ _ hf hP hD hS (lv_sub hl [3, 4, 5, 6, 2, 1, 0] rfl)
    refine lv_iconst (v := 0) hx hb d_Past_find_65 (by decide) ?_
    refine lv_istore (lv' := [(6, .int 0), (0, .ref a_h), (1, .ref a_g1), (2, .int x2), (3, .int x3), (4, .int 0), (5, .int x5_5)]) hx hb d_Past_find_66 hl (by decide) rfl (fun ls hl => ?_)
    exact L68 x5_5 FU z_h_told_5 z_h_struck 0 0 _ _ _ hf hP hD hS (lv_sub hl [1, 2, 3, 4, 5, 6, 0] rfl)
  · have hf := io_f hf c1
    refine lv_iload hx hb d_Past_find_11 (lv_at hl 0 rfl) ?_
    have hq := Option.some.inj hf
    subst hq
    exact hret _ _ _ _ _ d_Past_find_13 rfl rfl hP hD hS
abbrev w_Seating_numberOfOrder (cI cJ cC : ClassId) (a_h a_h_bestOrder a_h_order a_h_trial a_h_trial_kinds a_h_trial_sweets a_h_trial_settings a_h_trial_heaps a_g1 a_g1_kinds a_g1_sweets a_g1_settings a_g1_heaps : Nat) (p_h_order : (Nat → Int32)) (p_h_trial_children : Int32) (p_h_trial_strokes : Int32) (p_h_trial_gave : Int32) (p_h_trial_threw : Int32) (p_h_trial_kinds : (Nat → Int32)) (p_h_trial_sweets : (Nat → Int32)) (p_h_trial_settings : (Nat → Int32)) (p_h_trial_heaps : (Nat → Int32)) (p_g1_children : Int32) (p_g1_strokes : Int32) (p_g1_gave : Int32) (p_g1_threw : Int32) (p_g1_kinds : (Nat → Int32)) (p_g1_sweets : (Nat → Int32)) (p_g1_settings : (Nat → Int32)) : va_W := [(a_h, .inr (6, [.ref a_h_bestOrder, .ref a_h_order, .ref a_h_trial])), (a_h_order, .inl (cI, (6, .inl p_h_order))), (a_h_trial, .inr (1, [.ref a_h_trial_kinds, .ref a_h_trial_sweets, .ref a_h_trial_settings, .int p_h_trial_children, .int p_h_trial_strokes, .int p_h_trial_gave, .int p_h_trial_threw, .ref a_h_trial_heaps])), (a_h_trial_kinds, .inl (cI, (8, .inl p_h_trial_kinds))), (a_h_trial_sweets, .inl (cI, (8, .inl p_h_trial_sweets))), (a_h_trial_settings, .inl (cI, (3, .inl p_h_trial_settings))), (a_h_trial_heaps, .inl (cI, (8, .inl p_h_trial_heaps))), (a_g1, .inr (1, [.ref a_g1_kinds, .ref a_g1_sweets, .ref a_g1_settings, .int p_g1_children, .int p_g1_strokes, .int p_g1_gave, .int p_g1_threw, .ref a_g1_heaps])), (a_g1_kinds, .inl (cI, (8, .inl p_g1_kinds))), (a_g1_sweets, .inl (cI, (8, .inl p_g1_sweets))), (a_g1_settings, .inl (cI, (3, .inl p_g1_settings)))]
theorem d_Seating_numberOfOrder_0 : decode b_Seating_numberOfOrder 0 = .ok (.aload_n 0, 1) := by decide +kernel
theorem d_Seating_numberOfOrder_1 : decode b_Seating_numberOfOrder 1 = .ok (.getfield 21, 3) := by decide +kernel
theorem d_Seating_numberOfOrder_4 : decode b_Seating_numberOfOrder 4 = .ok (.aload_n 1, 1) := by decide +kernel
theorem d_Seating_numberOfOrder_5 : decode b_Seating_numberOfOrder 5 = .ok (.invokevirtual 49, 3) := by decide +kernel
theorem d_Seating_numberOfOrder_8 : decode b_Seating_numberOfOrder 8 = .ok (.iconst 0, 1) := by decide +kernel
theorem d_Seating_numberOfOrder_9 : decode b_Seating_numberOfOrder 9 = .ok (.istore 4, 2) := by decide +kernel
theorem d_Seating_numberOfOrder_11 : decode b_Seating_numberOfOrder 11 = .ok (.iload 4, 2) := by decide +kernel
theorem d_Seating_numberOfOrder_13 : decode b_Seating_numberOfOrder 13 = .ok (.aload_n 1, 1) := by decide +kernel
theorem d_Seating_numberOfOrder_14 : decode b_Seating_numberOfOrder 14 = .ok (.getfield 25, 3) := by decide +kernel
theorem d_Seating_numberOfOrder_17 : decode b_Seating_numberOfOrder 17 = .ok (.if_icmp .ge 60, 3) := by decide +kernel
theorem d_Seating_numberOfOrder_20 : decode b_Seating_numberOfOrder 20 = .ok (.iload 4, 2) := by decide +kernel
theorem d_Seating_numberOfOrder_22 : decode b_Seating_numberOfOrder 22 = .ok (.bipush 6, 2) := by decide +kernel
theorem d_Seating_numberOfOrder_24 : decode b_Seating_numberOfOrder 24 = .ok (.if_icmp .ge 53, 3) := by decide +kernel
theorem d_Seating_numberOfOrder_27 : decode b_Seating_numberOfOrder 27 = .ok (.aload_n 0, 1) := by decide +kernel
theorem d_Seating_numberOfOrder_28 : decode b_Seating_numberOfOrder 28 = .ok (.getfield 21, 3) := by decide +kernel
theorem d_Seating_numberOfOrder_31 : decode b_Seating_numberOfOrder 31 = .ok (.getfield 53, 3) := by decide +kernel
theorem d_Seating_numberOfOrder_34 : decode b_Seating_numberOfOrder 34 = .ok (.iload 4, 2) := by decide +kernel
theorem d_Seating_numberOfOrder_36 : decode b_Seating_numberOfOrder 36 = .ok (.aload_n 1, 1) := by decide +kernel
theorem d_Seating_numberOfOrder_37 : decode b_Seating_numberOfOrder 37 = .ok (.getfield 53, 3) := by decide +kernel
theorem d_Seating_numberOfOrder_40 : decode b_Seating_numberOfOrder 40 = .ok (.aload_n 0, 1) := by decide +kernel
theorem d_Seating_numberOfOrder_41 : decode b_Seating_numberOfOrder 41 = .ok (.getfield 15, 3) := by decide +kernel
theorem d_Seating_numberOfOrder_44 : decode b_Seating_numberOfOrder 44 = .ok (.iload 4, 2) := by decide +kernel
theorem d_Seating_numberOfOrder_46 : decode b_Seating_numberOfOrder 46 = .ok (.iaload, 1) := by decide +kernel
theorem d_Seating_numberOfOrder_47 : decode b_Seating_numberOfOrder 47 = .ok (.iaload, 1) := by decide +kernel
theorem d_Seating_numberOfOrder_48 : decode b_Seating_numberOfOrder 48 = .ok (.iastore, 1) := by decide +kernel
theorem d_Seating_numberOfOrder_49 : decode b_Seating_numberOfOrder 49 = .ok (.aload_n 0, 1) := by decide +kernel
theorem d_Seating_numberOfOrder_50 : decode b_Seating_numberOfOrder 50 = .ok (.getfield 21, 3) := by decide +kernel
theorem d_Seating_numberOfOrder_53 : decode b_Seating_numberOfOrder 53 = .ok (.getfield 56, 3) := by decide +kernel
theorem d_Seating_numberOfOrder_56 : decode b_Seating_numberOfOrder 56 = .ok (.iload 4, 2) := by decide +kernel
theorem d_Seating_numberOfOrder_58 : decode b_Seating_numberOfOrder 58 = .ok (.aload_n 1, 1) := by decide +kernel
theorem d_Seating_numberOfOrder_59 : decode b_Seating_numberOfOrder 59 = .ok (.getfield 56, 3) := by decide +kernel
theorem d_Seating_numberOfOrder_62 : decode b_Seating_numberOfOrder 62 = .ok (.aload_n 0, 1) := by decide +kernel
theorem d_Seating_numberOfOrder_63 : decode b_Seating_numberOfOrder 63 = .ok (.getfield 15, 3) := by decide +kernel
theorem d_Seating_numberOfOrder_66 : decode b_Seating_numberOfOrder 66 = .ok (.iload 4, 2) := by decide +kernel
theorem d_Seating_numberOfOrder_68 : decode b_Seating_numberOfOrder 68 = .ok (.iaload, 1) := by decide +kernel
theorem d_Seating_numberOfOrder_69 : decode b_Seating_numberOfOrder 69 = .ok (.iaload, 1) := by decide +kernel
theorem d_Seating_numberOfOrder_70 : decode b_Seating_numberOfOrder 70 = .ok (.iastore, 1) := by decide +kernel
theorem d_Seating_numberOfOrder_71 : decode b_Seating_numberOfOrder 71 = .ok (.iinc 4 1, 3) := by decide +kernel
theorem d_Seating_numberOfOrder_74 : decode b_Seating_numberOfOrder 74 = .ok (.goto (-63), 3) := by decide +kernel
theorem d_Seating_numberOfOrder_77 : decode b_Seating_numberOfOrder 77 = .ok (.aload_n 0, 1) := by decide +kernel
theorem d_Seating_numberOfOrder_78 : decode b_Seating_numberOfOrder 78 = .ok (.getfield 21, 3) := by decide +kernel
theorem d_Seating_numberOfOrder_81 : decode b_Seating_numberOfOrder 81 = .ok (.iload_n 2, 1) := by decide +kernel
theorem d_Seating_numberOfOrder_82 : decode b_Seating_numberOfOrder 82 = .ok (.invokevirtual 59, 3) := by decide +kernel
theorem d_Seating_numberOfOrder_85 : decode b_Seating_numberOfOrder 85 = .ok (.iload_n 3, 1) := by decide +kernel
theorem d_Seating_numberOfOrder_86 : decode b_Seating_numberOfOrder 86 = .ok (.ifCond .eq 8, 3) := by decide +kernel
theorem d_Seating_numberOfOrder_89 : decode b_Seating_numberOfOrder 89 = .ok (.iload_n 3, 1) := by decide +kernel
theorem d_Seating_numberOfOrder_90 : decode b_Seating_numberOfOrder 90 = .ok (.iconst 1, 1) := by decide +kernel
theorem d_Seating_numberOfOrder_91 : decode b_Seating_numberOfOrder 91 = .ok (.if_icmp .ne 18, 3) := by decide +kernel
theorem d_Seating_numberOfOrder_94 : decode b_Seating_numberOfOrder 94 = .ok (.aload_n 0, 1) := by decide +kernel
theorem d_Seating_numberOfOrder_95 : decode b_Seating_numberOfOrder 95 = .ok (.getfield 21, 3) := by decide +kernel
theorem d_Seating_numberOfOrder_98 : decode b_Seating_numberOfOrder 98 = .ok (.getfield 63, 3) := by decide +kernel
theorem d_Seating_numberOfOrder_101 : decode b_Seating_numberOfOrder 101 = .ok (.aload_n 1, 1) := by decide +kernel
theorem d_Seating_numberOfOrder_102 : decode b_Seating_numberOfOrder 102 = .ok (.getfield 63, 3) := by decide +kernel
theorem d_Seating_numberOfOrder_105 : decode b_Seating_numberOfOrder 105 = .ok (.isub, 1) := by decide +kernel
theorem d_Seating_numberOfOrder_106 : decode b_Seating_numberOfOrder 106 = .ok (.goto 12, 3) := by decide +kernel
theorem d_Seating_numberOfOrder_109 : decode b_Seating_numberOfOrder 109 = .ok (.aload_n 0, 1) := by decide +kernel
theorem d_Seating_numberOfOrder_110 : decode b_Seating_numberOfOrder 110 = .ok (.getfield 21, 3) := by decide +kernel
theorem d_Seating_numberOfOrder_113 : decode b_Seating_numberOfOrder 113 = .ok (.getfield 56, 3) := by decide +kernel
theorem d_Seating_numberOfOrder_116 : decode b_Seating_numberOfOrder 116 = .ok (.iconst 0, 1) := by decide +kernel
theorem d_Seating_numberOfOrder_117 : decode b_Seating_numberOfOrder 117 = .ok (.iaload, 1) := by decide +kernel
theorem d_Seating_numberOfOrder_118 : decode b_Seating_numberOfOrder 118 = .ok (.ireturn, 1) := by decide +kernel
set_option maxHeartbeats 4000000 in
set_option maxRecDepth 100000 in
theorem c_Seating_numberOfOrder {l : Launch} {D : va_G} {cI cJ cC : ClassId} (a_h a_h_bestOrder a_h_order a_h_trial a_h_trial_kinds a_h_trial_sweets a_h_trial_settings a_h_trial_heaps a_g1 a_g1_kinds a_g1_sweets a_g1_settings a_g1_heaps : Nat) {z_h_order : (Nat → Int32)} {z_h_trial : RS} {z_g1 : RS} {x2 : Int32} {x3 : Int32} {q : Int32 × RS} (hf : f_Seating_numberOfOrder z_h_order z_h_trial z_g1 x2 x3 = some q) : xI l y_Seating_numberOfOrder b_Seating_numberOfOrder 5 .int 5 111 D (tyK cI cJ cC) xE0 [.ref a_h, .ref a_g1, .int x2, .int x3] (w_Seating_numberOfOrder cI cJ cC a_h a_h_bestOrder a_h_order a_h_trial a_h_trial_kinds a_h_trial_sweets a_h_trial_settings a_h_trial_heaps a_g1 a_g1_kinds a_g1_sweets a_g1_settings a_g1_heaps z_h_order (r_children z_h_trial) (r_strokes z_h_trial) (r_gave z_h_trial) (r_threw z_h_trial) (r_kinds z_h_trial) (r_sweets z_h_trial) (r_settings z_h_trial) (r_heaps z_h_trial) (r_children z_g1) (r_strokes z_g1) (r_gave z_g1) (r_threw z_g1) (r_kinds z_g1) (r_sweets z_g1) (r_settings z_g1)) q.1 (w_Seating_numberOfOrder cI cJ cC a_h a_h_bestOrder a_h_order a_h_trial a_h_trial_kinds a_h_trial_sweets a_h_trial_settings a_h_trial_heaps a_g1 a_g1_kinds a_g1_sweets a_g1_settings a_g1_heaps z_h_order (r_children q.2) (r_strokes q.2) (r_gave q.2) (r_threw q.2) (r_kinds q.2) (r_sweets q.2) (r_settings q.2) (r_heaps q.2) (r_children z_g1) (r_strokes z_g1) (r_gave z_g1) (r_threw z_g1) (r_kinds z_g1) (r_sweets z_g1) (r_settings z_g1)) := by
  refine xI_of (by decide) (Nat.le_of_ble_eq_true rfl) ?_
  intro p e s m args below meth c A Q hx hb hml hown hT hA hP hD hK hS hE hret ls hl
  have hown : s.vm.findClass R_Seating = some m.cls := hown
  have hl : lv_has ls 5 [(0, .ref a_h), (1, .ref a_g1), (2, .int x2), (3, .int x3)] := hl
  unfold f_Seating_numberOfOrder at hf
  have L11 : ∀ k : RS → Option (Int32 × RS), (∀ (z_h_trial : RS) (H : Heap) (locs : List Loc) (ls : Array Slot), k z_h_trial = some q → va_P D classes (w_Seating_numberOfOrder cI cJ cC a_h a_h_bestOrder a_h_order a_h_trial a_h_trial_kinds a_h_trial_sweets a_h_trial_settings a_h_trial_heaps a_g1 a_g1_kinds a_g1_sweets a_g1_settings a_g1_heaps z_h_order (r_children z_h_trial) (r_strokes z_h_trial) (r_gave z_h_trial) (r_threw z_h_trial) (r_kinds z_h_trial) (r_sweets z_h_trial) (r_settings z_h_trial) (r_heaps z_h_trial) (r_children z_g1) (r_strokes z_g1) (r_gave z_g1) (r_threw z_g1) (r_kinds z_g1) (r_sweets z_g1) (r_settings z_g1)) H → va_D A (w_Seating_numberOfOrder cI cJ cC a_h a_h_bestOrder a_h_order a_h_trial a_h_trial_kinds a_h_trial_sweets a_h_trial_settings a_h_trial_heaps a_g1 a_g1_kinds a_g1_sweets a_g1_settings a_g1_heaps z_h_order (r_children z_h_trial) (r_strokes z_h_trial) (r_gave z_h_trial) (r_threw z_h_trial) (r_kinds z_h_trial) (r_sweets z_h_trial) (r_settings z_h_trial) (r_heaps z_h_trial) (r_children z_g1) (r_strokes z_g1) (r_gave z_g1) (r_threw z_g1) (r_kinds z_g1) (r_sweets z_g1) (r_settings z_g1)) → va_S A s.heap H locs → lv_has ls 5 [(0, .ref a_h), (1, .ref a_g1), (2, .int x2), (3, .int x3)] → W p l e (xRm 5 111) s m args below meth c H locs 0 0 Q (F0 m 77 ls [])) → ∀ (n : Nat) (z_h_trial : RS) (x4 : Int32) (H : Heap) (locs : List Loc) (ls : Array Slot), f_Seating_numberOfOrder_L11 z_h_order z_g1 k n z_h_trial x4 = some q → va_P D classes (w_Seating_numberOfOrder cI cJ cC a_h a_h_bestOrder a_h_order a_h_trial a_h_trial_kinds a_h_trial_sweets a_h_trial_settings a_h_trial_heaps a_g1 a_g1_kinds a_g1_sweets a_g1_settings a_g1_heaps z_h_order (r_children z_h_trial) (r_strokes z_h_trial) (r_gave z_h_trial) (r_threw z_h_trial) (r_kinds z_h_trial) (r_sweets z_h_trial) (r_settings z_h_trial) (r_heaps z_h_trial) (r_children z_g1) (r_strokes z_g1) (r_gave z_g1) (r_threw z_g1) (r_kinds z_g1) (r_sweets z_g1) (r_settings z_g1)) H → va_D A (w_Seating_numberOfOrder cI cJ cC a_h a_h_bestOrder a_h_order a_h_trial a_h_trial_kinds a_h_trial_sweets a_h_trial_settings a_h_trial_heaps a_g1 a_g1_kinds a_g1_sweets a_g1_settings a_g1_heaps z_h_order (r_children z_h_trial) (r_strokes z_h_trial) (r_gave z_h_trial) (r_threw z_h_trial) (r_kinds z_h_trial) (r_sweets z_h_trial) (r_settings z_h_trial) (r_heaps z_h_trial) (r_children z_g1) (r_strokes z_g1) (r_gave z_g1) (r_threw z_g1) (r_kinds z_g1) (r_sweets z_g1) (r_settings z_g1)) → va_S A s.heap H locs → lv_has ls 5 [(0, .ref a_h), (1, .ref a_g1), (2, .int x2), (3, .int x3), (4, .int x4)] → W p l e (xRm 5 111) s m args below meth c H locs 0 0 Q (F0 m 11 ls []) := by
    intro k hk n
    induction n with
    | zero => intro z_h_trial x4 H locs ls hf hP hD hS hl; exact nomatch (show (none : Option (Int32 × RS)) = some q from hf)
    | succ n ih =>
      intro z_h_trial x4 H locs ls hf hP hD hS hl
      refine lv_iload hx hb d_Seating_numberOfOrder_11 (lv_at hl 4 rfl) ?_
      refine lv_aload_n hx hb d_Seating_numberOfOrder_13 rfl (lv_at hl 1 rfl) ?_
      refine va_get hx hb hT i_Ring hown hK hP 7 rfl rfl 3 (Nat.le_of_ble_eq_true rfl) (hT _ k_45) (fun _ h => h) rfl d_Seating_numberOfOrder_14 ?_
      refine lv_icmp_ge (tgt := 77) hx hb d_Seating_numberOfOrder_17 (by decide) (fun c2 => ?_) (fun c2 => ?_)
      · have hf := io_t hf c2
        exact hk z_h_trial _ _ _ hf hP hD hS (lv_sub hl [0, 1, 2, 3] rfl)
      · have hf := io_f hf c2
        refine lv_iload hx hb d_Seating_numberOfOrder_20 (lv_at hl 4 rfl) ?_
        refine lv_bipush (v := 6) hx hb d_Seating_numberOfOrder_22 (by decide) ?_
        refine lv_icmp_ge (tgt := 77) hx hb d_Seating_numberOfOrder_24 (by decide) (fun c3 => ?_) (fun c3 => ?_)
        · have hf := io_t hf c3
          exact hk z_h_trial _ _ _ hf hP hD hS (lv_sub hl [0, 1, 2, 3] rfl)
        · have hf := io_f hf c3
          refine lv_aload_n hx hb d_Seating_numberOfOrder_27 rfl (lv_at hl 0 rfl) ?_
          refine va_get hx hb hT i_Seating hown hK hP 0 rfl rfl 2 (Nat.le_of_ble_eq_true rfl) (hT _ k_160) (fun _ h => h) rfl d_Seating_numberOfOrder_28 ?_
          refine va_get hx hb hT i_Ring hown hK hP 2 rfl rfl 0 (Nat.le_of_ble_eq_true rfl) (hT _ k_31) (fun _ h => h) rfl d_Seating_numberOfOrder_31 ?_
          refine lv_iload hx hb d_Seating_numberOfOrder_34 (lv_at hl 4 rfl) ?_
          refine lv_aload_n hx hb d_Seating_numberOfOrder_36 rfl (lv_at hl 1 rfl) ?_
          refine va_get hx hb hT i_Ring hown hK hP 7 rfl rfl 0 (Nat.le_of_ble_eq_true rfl) (hT _ k_31) (fun _ h => h) rfl d_Seating_numberOfOrder_37 ?_
          refine lv_aload_n hx hb d_Seating_numberOfOrder_40 rfl (lv_at hl 0 rfl) ?_
          refine va_get hx hb hT i_Seating hown hK hP 0 rfl rfl 1 (Nat.le_of_ble_eq_true rfl) (hT _ k_159) (fun _ h => h) rfl d_Seating_numberOfOrder_41 ?_
          refine lv_iload hx hb d_Seating_numberOfOrder_44 (lv_at hl 4 rfl) ?_
          obtain ⟨c4, hf⟩ := io_n hf
          refine x_iald hx hb hK hP 1 0 rfl rfl (j := x4.toNatClampNeg) rfl c4 d_Seating_numberOfOrder_46 ?_
          obtain ⟨c5, hf⟩ := io_n hf
          refine x_iald hx hb hK hP 8 0 rfl rfl (j := (z_h_order x4.toNatClampNeg).toNatClampNeg) rfl c5 d_Seating_numberOfOrder_47 ?_
          obtain ⟨c6, hf⟩ := io_n hf
          refine x_iast hx hb hK hP hD hS 3 0 rfl rfl (j := x4.toNatClampNeg) rfl c6 d_Seating_numberOfOrder_48 (fun H locs hP hD hS => ?_)
          have hP : va_P D classes (w_Seating_numberOfOrder cI cJ cC a_h a_h_bestOrder a_h_order a_h_trial a_h_trial_kinds a_h_trial_sweets a_h_trial_settings a_h_trial_heaps a_g1 a_g1_kinds a_g1_sweets a_g1_settings a_g1_heaps z_h_order (r_children z_h_trial) (r_strokes z_h_trial) (r_gave z_h_trial) (r_threw z_h_trial) (upd (r_kinds z_h_trial) x4.toNatClampNeg ((r_kinds z_g1) (z_h_order x4.toNatClampNeg).toNatClampNeg)) (r_sweets z_h_trial) (r_settings z_h_trial) (r_heaps z_h_trial) (r_children z_g1) (r_strokes z_g1) (r_gave z_g1) (r_threw z_g1) (r_kinds z_g1) (r_sweets z_g1) (r_settings z_g1)) H := hP
          have hD : va_D A (w_Seating_numberOfOrder cI cJ cC a_h a_h_bestOrder a_h_order a_h_trial a_h_trial_kinds a_h_trial_sweets a_h_trial_settings a_h_trial_heaps a_g1 a_g1_kinds a_g1_sweets a_g1_settings a_g1_heaps z_h_order (r_children z_h_trial) (r_strokes z_h_trial) (r_gave z_h_trial) (r_threw z_h_trial) (upd (r_kinds z_h_trial) x4.toNatClampNeg ((r_kinds z_g1) (z_h_order x4.toNatClampNeg).toNatClampNeg)) (r_sweets z_h_trial) (r_settings z_h_trial) (r_heaps z_h_trial) (r_children z_g1) (r_strokes z_g1) (r_gave z_g1) (r_threw z_g1) (r_kinds z_g1) (r_sweets z_g1) (r_settings z_g1)) := hD
          refine lv_aload_n hx hb d_Seating_numberOfOrder_49 rfl (lv_at hl 0 rfl) ?_
          refine va_get hx hb hT i_Seating hown hK hP 0 rfl rfl 2 (Nat.le_of_ble_eq_true rfl) (hT _ k_160) (fun _ h => h) rfl d_Seating_numberOfOrder_50 ?_
          refine va_get hx hb hT i_Ring hown hK hP 2 rfl rfl 1 (Nat.le_of_ble_eq_true rfl) (hT _ k_39) (fun _ h => h) rfl d_Seating_numberOfOrder_53 ?_
          refine lv_iload hx hb d_Seating_numberOfOrder_56 (lv_at hl 4 rfl) ?_
          refine lv_aload_n hx hb d_Seating_numberOfOrder_58 rfl (lv_at hl 1 rfl) ?_
          refine va_get hx hb hT i_Ring hown hK hP 7 rfl rfl 1 (Nat.le_of_ble_eq_true rfl) (hT _ k_39) (fun _ h => h) rfl d_Seating_numberOfOrder_59 ?_
          refine lv_aload_n hx hb d_Seating_numberOfOrder_62 rfl (lv_at hl 0 rfl) ?_
          refine va_get hx hb hT i_Seating hown hK hP 0 rfl rfl 1 (Nat.le_of_ble_eq_true rfl) (hT _ k_159) (fun _ h => h) rfl d_Seating_numberOfOrder_63 ?_
          refine lv_iload hx hb d_Seating_numberOfOrder_66 (lv_at hl 4 rfl) ?_
          refine x_iald hx hb hK hP 1 0 rfl rfl (j := x4.toNatClampNeg) rfl c4 d_Seating_numberOfOrder_68 ?_
          refine x_iald hx hb hK hP 9 0 rfl rfl (j := (z_h_order x4.toNatClampNeg).toNatClampNeg) rfl c5 d_Seating_numberOfOrder_69 ?_
          refine x_iast hx hb hK hP hD hS 4 0 rfl rfl (j := x4.toNatClampNeg) rfl c6 d_Seating_numberOfOrder_70 (fun H locs hP hD hS => ?_)
          have hP : va_P D classes (w_Seating_numberOfOrder cI cJ cC a_h a_h_bestOrder a_h_order a_h_trial a_h_trial_kinds a_h_trial_sweets a_h_trial_settings a_h_trial_heaps a_g1 a_g1_kinds a_g1_sweets a_g1_settings a_g1_heaps z_h_order (r_children z_h_trial) (r_strokes z_h_trial) (r_gave z_h_trial) (r_threw z_h_trial) (upd (r_kinds z_h_trial) x4.toNatClampNeg ((r_kinds z_g1) (z_h_order x4.toNatClampNeg).toNatClampNeg)) (upd (r_sweets z_h_trial) x4.toNatClampNeg ((r_sweets z_g1) (z_h_order x4.toNatClampNeg).toNatClampNeg)) (r_settings z_h_trial) (r_heaps z_h_trial) (r_children z_g1) (r_strokes z_g1) (r_gave z_g1) (r_threw z_g1) (r_kinds z_g1) (r_sweets z_g1) (r_settings z_g1)) H := hP
          have hD : va_D A (w_Seating_numberOfOrder cI cJ cC a_h a_h_bestOrder a_h_order a_h_trial a_h_trial_kinds a_h_trial_sweets a_h_trial_settings a_h_trial_heaps a_g1 a_g1_kinds a_g1_sweets a_g1_settings a_g1_heaps z_h_order (r_children z_h_trial) (r_strokes z_h_trial) (r_gave z_h_trial) (r_threw z_h_trial) (upd (r_kinds z_h_trial) x4.toNatClampNeg ((r_kinds z_g1) (z_h_order x4.toNatClampNeg).toNatClampNeg)) (upd (r_sweets z_h_trial) x4.toNatClampNeg ((r_sweets z_g1) (z_h_order x4.toNatClampNeg).toNatClampNeg)) (r_settings z_h_trial) (r_heaps z_h_trial) (r_children z_g1) (r_strokes z_g1) (r_gave z_g1) (r_threw z_g1) (r_kinds z_g1) (r_sweets z_g1) (r_settings z_g1)) := hD
          refine lv_iinc (v := (x4 + 1)) (lv' := [(4, .int (x4 + 1)), (0, .ref a_h), (1, .ref a_g1), (2, .int x2), (3, .int x3)]) hx hb d_Seating_numberOfOrder_71 hl (k := 4) rfl (by rfl) (by decide) rfl (fun ls hl => ?_)
          refine lv_goto (tgt := 11) hx hb d_Seating_numberOfOrder_74 (by decide) ?_
          exact ih ((upd (r_kinds z_h_trial) x4.toNatClampNeg ((r_kinds z_g1) (z_h_order x4.toNatClampNeg).toNatClampNeg)), (upd (r_sweets z_h_trial) x4.toNatClampNeg ((r_sweets z_g1) (z_h_order x4.toNatClampNeg).toNatClampNeg)), (r_settings z_h_trial), (r_heaps z_h_trial), (r_children z_h_trial), (r_strokes z_h_trial), (r_gave z_h_trial), (r_threw z_h_trial)) (x4 + 1) _ _ _ hf hP hD hS (lv_sub hl [1, 2, 3, 4, 0] rfl)
  refine lv_aload_n hx hb d_Seating_numberOfOrder_0 rfl (lv_at hl 0 rfl) ?_
  refine va_get hx hb hT i_Seating hown hK hP 0 rfl rfl 2 (Nat.le_of_ble_eq_true rfl) (hT _ k_160) (fun _ h => h) rfl d_Seating_numberOfOrder_1 ?_
  refine lv_aload_n hx hb d_Seating_numberOfOrder_4 rfl (lv_at hl 1 rfl) ?_
  obtain ⟨q1, hq1, hf⟩ := io_b hf
  refine xcVV (wc := (w_Ring_copyFrom cI cJ cC a_h_trial a_h_trial_kinds a_h_trial_sweets a_h_trial_settings a_h_trial_heaps a_g1 a_g1_kinds a_g1_sweets a_g1_settings a_g1_heaps (r_children z_h_trial) (r_strokes z_h_trial) (r_gave z_h_trial) (r_threw z_h_trial) (r_kinds z_h_trial) (r_sweets z_h_trial) (r_settings z_h_trial) (r_heaps z_h_trial) (r_children z_g1) (r_strokes z_g1) (r_gave z_g1) (r_threw z_g1) (r_kinds z_g1) (r_sweets z_g1) (r_settings z_g1))) (wc' := (w_Ring_copyFrom cI cJ cC a_h_trial a_h_trial_kinds a_h_trial_sweets a_h_trial_settings a_h_trial_heaps a_g1 a_g1_kinds a_g1_sweets a_g1_settings a_g1_heaps (r_children q1) (r_strokes q1) (r_gave q1) (r_threw q1) (r_kinds q1) (r_sweets q1) (r_settings q1) (r_heaps q1) (r_children z_g1) (r_strokes z_g1) (r_gave z_g1) (r_threw z_g1) (r_kinds z_g1) (r_sweets z_g1) (r_settings z_g1))) (ws' := (w_Seating_numberOfOrder cI cJ cC a_h a_h_bestOrder a_h_order a_h_trial a_h_trial_kinds a_h_trial_sweets a_h_trial_settings a_h_trial_heaps a_g1 a_g1_kinds a_g1_sweets a_g1_settings a_g1_heaps z_h_order (r_children q1) (r_strokes q1) (r_gave q1) (r_threw q1) (r_kinds q1) (r_sweets q1) (r_settings q1) (r_heaps q1) (r_children z_g1) (r_strokes z_g1) (r_gave z_g1) (r_threw z_g1) (r_kinds z_g1) (r_sweets z_g1) (r_settings z_g1))) (As := [.ref a_g1]) (rest := []) hx hb hml hown hT (c_Ring_copyFrom (z_h := z_h_trial) (z_g1 := z_g1) a_h_trial a_h_trial_kinds a_h_trial_sweets a_h_trial_settings a_h_trial_heaps a_g1 a_g1_kinds a_g1_sweets a_g1_settings a_g1_heaps hq1) k_648 k_326 k_327 k_2 k_328 hd_Ring_copyFrom ⟨Nat.le_of_ble_eq_true rfl, Nat.le_of_ble_eq_true rfl⟩ xE0_ok trivial hA hK hP hD hS [2, 3, 4, 5, 6, 7, 8, 9, 10] [0, 1] [0, 1, 2, 3, 4, 5, 6, 7, 8, 9, 10] rfl rfl rfl rfl rfl rfl rfl rfl rfl rfl hl.1 rfl (Nat.le_of_ble_eq_true rfl) ⟨Nat.zero_le _, Nat.zero_le _⟩ d_Seating_numberOfOrder_5 (fun H locs hP hD hS => ?_)
  refine lv_iconst (v := 0) hx hb d_Seating_numberOfOrder_8 (by decide) ?_
  refine lv_istore (lv' := [(4, .int 0), (0, .ref a_h), (1, .ref a_g1), (2, .int x2), (3, .int x3)]) hx hb d_Seating_numberOfOrder_9 hl (by decide) rfl (fun ls hl => ?_)
  refine L11 _ (fun z_h_trial_7 H locs ls hf hP hD hS hl => ?_) FU q1 0 _ _ _ hf hP hD hS (lv_sub hl [1, 2, 3, 4, 0] rfl)
  refine lv_aload_n hx hb d_Seating_numberOfOrder_77 rfl (lv_at hl 0 rfl) ?_
  refine va_get hx hb hT i_Seating hown hK hP 0 rfl rfl 2 (Nat.le_of_ble_eq_true rfl) (hT _ k_160) (fun _ h => h) rfl d_Seating_numberOfOrder_78 ?_
  refine lv_iload_n hx hb d_Seating_numberOfOrder_81 rfl (lv_at hl 2 rfl) ?_
  obtain ⟨q8, hq8, hf⟩ := io_b hf
  refine xcVV (wc := (w_Ring_strikeOften cI cJ cC a_h_trial a_h_trial_kinds a_h_trial_sweets a_h_trial_settings a_h_trial_heaps (r_children z_h_trial_7) (r_strokes z_h_trial_7) (r_gave z_h_trial_7) (r_threw z_h_trial_7) (r_kinds z_h_trial_7) (r_sweets z_h_trial_7) (r_settings z_h_trial_7) (r_heaps z_h_trial_7))) (wc' := (w_Ring_strikeOften cI cJ cC a_h_trial a_h_trial_kinds a_h_trial_sweets a_h_trial_settings a_h_trial_heaps (r_children q8) (r_strokes q8) (r_gave q8) (r_threw q8) (r_kinds q8) (r_sweets q8) (r_settings q8) (r_heaps q8))) (ws' := (w_Seating_numberOfOrder cI cJ cC a_h a_h_bestOrder a_h_order a_h_trial a_h_trial_kinds a_h_trial_sweets a_h_trial_settings a_h_trial_heaps a_g1 a_g1_kinds a_g1_sweets a_g1_settings a_g1_heaps z_h_order (r_children q8) (r_strokes q8) (r_gave q8) (r_threw q8) (r_kinds q8) (r_sweets q8) (r_settings q8) (r_heaps q8) (r_children z_g1) (r_strokes z_g1) (r_gave z_g1) (r_threw z_g1) (r_kinds z_g1) (r_sweets z_g1) (r_settings z_g1))) (As := [.int x2]) (rest := []) hx hb hml hown hT (c_Ring_strikeOften (z_h := z_h_trial_7) a_h_trial a_h_trial_kinds a_h_trial_sweets a_h_trial_settings a_h_trial_heaps hq8) k_649 k_443 k_444 k_2 k_445 hd_Ring_strikeOften ⟨Nat.le_of_ble_eq_true rfl, Nat.le_of_ble_eq_true rfl⟩ xE0_ok trivial hA hK hP hD hS [2, 3, 4, 5, 6] [0, 1, 7, 8, 9, 10] [0, 1, 6, 7, 8, 9, 10, 2, 3, 4, 5] rfl rfl rfl rfl rfl rfl rfl rfl rfl rfl hl.1 rfl (Nat.le_of_ble_eq_true rfl) ⟨Nat.zero_le _, Nat.zero_le _⟩ d_Seating_numberOfOrder_82 (fun H locs hP hD hS => ?_)
  refine lv_iload_n hx hb d_Seating_numberOfOrder_85 rfl (lv_at hl 3 rfl) ?_
  refine lv_if_eq (tgt := 94) hx hb d_Seating_numberOfOrder_86 (by decide) (fun c9 => ?_) (fun c9 => ?_)
  · have hf := io_t hf c9
    refine lv_aload_n hx hb d_Seating_numberOfOrder_94 rfl (lv_at hl 0 rfl) ?_
    refine va_get hx hb hT i_Seating hown hK hP 0 rfl rfl 2 (Nat.le_of_ble_eq_true rfl) (hT _ k_160) (fun _ h => h) rfl d_Seating_numberOfOrder_95 ?_
    refine va_get hx hb hT i_Ring hown hK hP 2 rfl rfl 5 (Nat.le_of_ble_eq_true rfl) (hT _ k_54) (fun _ h => h) rfl d_Seating_numberOfOrder_98 ?_
    refine lv_aload_n hx hb d_Seating_numberOfOrder_101 rfl (lv_at hl 1 rfl) ?_
    refine va_get hx hb hT i_Ring hown hK hP 7 rfl rfl 5 (Nat.le_of_ble_eq_true rfl) (hT _ k_54) (fun _ h => h) rfl d_Seating_numberOfOrder_102 ?_
    refine lv_isub hx hb d_Seating_numberOfOrder_105 ?_
    refine lv_goto (tgt := 118) hx hb d_Seating_numberOfOrder_106 (by decide) ?_
    have hq := Option.some.inj hf
    subst hq
    exact hret _ _ _ _ _ d_Seating_numberOfOrder_118 rfl rfl hP hD hS
  · have hf := io_f hf c9
    refine lv_iload_n hx hb d_Seating_numberOfOrder_89 rfl (lv_at hl 3 rfl) ?_
    refine lv_iconst (v := 1) hx hb d_Seating_numberOfOrder_90 (by decide) ?_
    refine lv_icmp_ne (tgt := 109) hx hb d_Seating_numberOfOrder_91 (by decide) (fun c10 => ?_) (fun c10 => ?_)
    · have hf := io_f hf c10
      refine lv_aload_n hx hb d_Seating_numberOfOrder_109 rfl (lv_at hl 0 rfl) ?_
      refine va_get hx hb hT i_Seating hown hK hP 0 rfl rfl 2 (Nat.le_of_ble_eq_true rfl) (hT _ k_160) (fun _ h => h) rfl d_Seating_numberOfOrder_110 ?_
      refine va_get hx hb hT i_Ring hown hK hP 2 rfl rfl 1 (Nat.le_of_ble_eq_true rfl) (hT _ k_39) (fun _ h => h) rfl d_Seating_numberOfOrder_113 ?_
      refine lv_iconst (v := 0) hx hb d_Seating_numberOfOrder_116 (by decide) ?_
      refine x_iald hx hb hK hP 4 0 rfl rfl (j := 0) (by decide +kernel) (by unfold vp_in; decide +kernel) d_Seating_numberOfOrder_117 ?_
      have hq := Option.some.inj hf
      subst hq
      exact hret _ _ _ _ _ d_Seating_numberOfOrder_118 rfl rfl hP hD hS
    · have hf := io_t hf c10
      refine lv_aload_n hx hb d_Seating_numberOfOrder_94 rfl (lv_at hl 0 rfl) ?_
      refine va_get hx hb hT i_Seating hown hK hP 0 rfl rfl 2 (Nat.le_of_ble_eq_true rfl) (hT _ k_160) (fun _ h => h) rfl d_Seating_numberOfOrder_95 ?_
      refine va_get hx hb hT i_Ring hown hK hP 2 rfl rfl 5 (Nat.le_of_ble_eq_true rfl) (hT _ k_54) (fun _ h => h) rfl d_Seating_numberOfOrder_98 ?_
      refine lv_aload_n hx hb d_Seating_numberOfOrder_101 rfl (lv_at hl 1 rfl) ?_
      refine va_get hx hb hT i_Ring hown hK hP 7 rfl rfl 5 (Nat.le_of_ble_eq_true rfl) (hT _ k_54) (fun _ h => h) rfl d_Seating_numberOfOrder_102 ?_
      refine lv_isub hx hb d_Seating_numberOfOrder_105 ?_
      refine lv_goto (tgt := 118) hx hb d_Seating_numberOfOrder_106 (by decide) ?_
      have hq := Option.some.inj hf
      subst hq
      exact hret _ _ _ _ _ d_Seating_numberOfOrder_118 rfl rfl hP hD hS
abbrev w_Seating_changePlaces (cI cJ cC : ClassId) (a_h a_h_bestOrder a_h_order a_h_trial : Nat) (p_h_order : (Nat → Int32)) : va_W := [(a_h, .inr (6, [.ref a_h_bestOrder, .ref a_h_order, .ref a_h_trial])), (a_h_order, .inl (cI, (6, .inl p_h_order)))]
theorem d_Seating_changePlaces_0 : decode b_Seating_changePlaces 0 = .ok (.aload_n 0, 1) := by decide +kernel
theorem d_Seating_changePlaces_1 : decode b_Seating_changePlaces 1 = .ok (.getfield 15, 3) := by decide +kernel
theorem d_Seating_changePlaces_4 : decode b_Seating_changePlaces 4 = .ok (.iload_n 1, 1) := by decide +kernel
theorem d_Seating_changePlaces_5 : decode b_Seating_changePlaces 5 = .ok (.iaload, 1) := by decide +kernel
theorem d_Seating_changePlaces_6 : decode b_Seating_changePlaces 6 = .ok (.istore_n 3, 1) := by decide +kernel
theorem d_Seating_changePlaces_7 : decode b_Seating_changePlaces 7 = .ok (.aload_n 0, 1) := by decide +kernel
theorem d_Seating_changePlaces_8 : decode b_Seating_changePlaces 8 = .ok (.getfield 15, 3) := by decide +kernel
theorem d_Seating_changePlaces_11 : decode b_Seating_changePlaces 11 = .ok (.iload_n 1, 1) := by decide +kernel
theorem d_Seating_changePlaces_12 : decode b_Seating_changePlaces 12 = .ok (.aload_n 0, 1) := by decide +kernel
theorem d_Seating_changePlaces_13 : decode b_Seating_changePlaces 13 = .ok (.getfield 15, 3) := by decide +kernel
theorem d_Seating_changePlaces_16 : decode b_Seating_changePlaces 16 = .ok (.iload_n 2, 1) := by decide +kernel
theorem d_Seating_changePlaces_17 : decode b_Seating_changePlaces 17 = .ok (.iaload, 1) := by decide +kernel
theorem d_Seating_changePlaces_18 : decode b_Seating_changePlaces 18 = .ok (.iastore, 1) := by decide +kernel
theorem d_Seating_changePlaces_19 : decode b_Seating_changePlaces 19 = .ok (.aload_n 0, 1) := by decide +kernel
theorem d_Seating_changePlaces_20 : decode b_Seating_changePlaces 20 = .ok (.getfield 15, 3) := by decide +kernel
theorem d_Seating_changePlaces_23 : decode b_Seating_changePlaces 23 = .ok (.iload_n 2, 1) := by decide +kernel
theorem d_Seating_changePlaces_24 : decode b_Seating_changePlaces 24 = .ok (.iload_n 3, 1) := by decide +kernel
theorem d_Seating_changePlaces_25 : decode b_Seating_changePlaces 25 = .ok (.iastore, 1) := by decide +kernel
theorem d_Seating_changePlaces_26 : decode b_Seating_changePlaces 26 = .ok (.return_, 1) := by decide +kernel
set_option maxHeartbeats 4000000 in
set_option maxRecDepth 100000 in
theorem c_Seating_changePlaces {l : Launch} {D : va_G} {cI cJ cC : ClassId} (a_h a_h_bestOrder a_h_order a_h_trial : Nat) {z_h_order : (Nat → Int32)} {x1 : Int32} {x2 : Int32} {q : (Nat → Int32)} (hf : f_Seating_changePlaces z_h_order x1 x2 = some q) : xV l y_Seating_changePlaces b_Seating_changePlaces 4 0 0 D (tyK cI cJ cC) xE0 [.ref a_h, .int x1, .int x2] (w_Seating_changePlaces cI cJ cC a_h a_h_bestOrder a_h_order a_h_trial z_h_order) (w_Seating_changePlaces cI cJ cC a_h a_h_bestOrder a_h_order a_h_trial q) := by
  refine xV_of (by decide) (Nat.le_of_ble_eq_true rfl) ?_
  intro p e s m args below meth c A Q hx hb hml hown hT hA hP hD hK hS hE hret ls hl
  have hown : s.vm.findClass R_Seating = some m.cls := hown
  have hl : lv_has ls 4 [(0, .ref a_h), (1, .int x1), (2, .int x2)] := hl
  unfold f_Seating_changePlaces at hf
  refine lv_aload_n hx hb d_Seating_changePlaces_0 rfl (lv_at hl 0 rfl) ?_
  refine va_get hx hb hT i_Seating hown hK hP 0 rfl rfl 1 (Nat.le_of_ble_eq_true rfl) (hT _ k_159) (fun _ h => h) rfl d_Seating_changePlaces_1 ?_
  refine lv_iload_n hx hb d_Seating_changePlaces_4 rfl (lv_at hl 1 rfl) ?_
  obtain ⟨c1, hf⟩ := io_n hf
  refine x_iald hx hb hK hP 1 0 rfl rfl (j := x1.toNatClampNeg) rfl c1 d_Seating_changePlaces_5 ?_
  refine lv_istore_n (lv' := [(3, .int (z_h_order x1.toNatClampNeg)), (0, .ref a_h), (1, .int x1), (2, .int x2)]) hx hb d_Seating_changePlaces_6 rfl hl (by decide) rfl (fun ls hl => ?_)
  refine lv_aload_n hx hb d_Seating_changePlaces_7 rfl (lv_at hl 1 rfl) ?_
  refine va_get hx hb hT i_Seating hown hK hP 0 rfl rfl 1 (Nat.le_of_ble_eq_true rfl) (hT _ k_159) (fun _ h => h) rfl d_Seating_changePlaces_8 ?_
  refine lv_iload_n hx hb d_Seating_changePlaces_11 rfl (lv_at hl 2 rfl) ?_
  refine lv_aload_n hx hb d_Seating_changePlaces_12 rfl (lv_at hl 1 rfl) ?_
  refine va_get hx hb hT i_Seating hown hK hP 0 rfl rfl 1 (Nat.le_of_ble_eq_true rfl) (hT _ k_159) (fun _ h => h) rfl d_Seating_changePlaces_13 ?_
  refine lv_iload_n hx hb d_Seating_changePlaces_16 rfl (lv_at hl 3 rfl) ?_
  obtain ⟨c2, hf⟩ := io_n hf
  refine x_iald hx hb hK hP 1 0 rfl rfl (j := x2.toNatClampNeg) rfl c2 d_Seating_changePlaces_17 ?_
  refine x_iast hx hb hK hP hD hS 1 0 rfl rfl (j := x1.toNatClampNeg) rfl c1 d_Seating_changePlaces_18 (fun H locs hP hD hS => ?_)
  have hP : va_P D classes (w_Seating_changePlaces cI cJ cC a_h a_h_bestOrder a_h_order a_h_trial (upd z_h_order x1.toNatClampNeg (z_h_order x2.toNatClampNeg))) H := hP
  have hD : va_D A (w_Seating_changePlaces cI cJ cC a_h a_h_bestOrder a_h_order a_h_trial (upd z_h_order x1.toNatClampNeg (z_h_order x2.toNatClampNeg))) := hD
  refine lv_aload_n hx hb d_Seating_changePlaces_19 rfl (lv_at hl 1 rfl) ?_
  refine va_get hx hb hT i_Seating hown hK hP 0 rfl rfl 1 (Nat.le_of_ble_eq_true rfl) (hT _ k_159) (fun _ h => h) rfl d_Seating_changePlaces_20 ?_
  refine lv_iload_n hx hb d_Seating_changePlaces_23 rfl (lv_at hl 3 rfl) ?_
  refine lv_iload_n hx hb d_Seating_changePlaces_24 rfl (lv_at hl 0 rfl) ?_
  refine x_iast hx hb hK hP hD hS 1 0 rfl rfl (j := x2.toNatClampNeg) rfl c2 d_Seating_changePlaces_25 (fun H locs hP hD hS => ?_)
  have hP : va_P D classes (w_Seating_changePlaces cI cJ cC a_h a_h_bestOrder a_h_order a_h_trial (upd (upd z_h_order x1.toNatClampNeg (z_h_order x2.toNatClampNeg)) x2.toNatClampNeg (z_h_order x1.toNatClampNeg))) H := hP
  have hD : va_D A (w_Seating_changePlaces cI cJ cC a_h a_h_bestOrder a_h_order a_h_trial (upd (upd z_h_order x1.toNatClampNeg (z_h_order x2.toNatClampNeg)) x2.toNatClampNeg (z_h_order x1.toNatClampNeg))) := hD
  have hq := Option.some.inj hf
  subst hq
  exact hret _ _ _ _ d_Seating_changePlaces_26 hP hD hS
abbrev w_Seating_goToNextOrder (cI cJ cC : ClassId) (a_h a_h_bestOrder a_h_order a_h_trial : Nat) (p_h_order : (Nat → Int32)) : va_W := [(a_h, .inr (6, [.ref a_h_bestOrder, .ref a_h_order, .ref a_h_trial])), (a_h_order, .inl (cI, (6, .inl p_h_order)))]
theorem d_Seating_goToNextOrder_0 : decode b_Seating_goToNextOrder 0 = .ok (.iload_n 1, 1) := by decide +kernel
theorem d_Seating_goToNextOrder_1 : decode b_Seating_goToNextOrder 1 = .ok (.iconst 2, 1) := by decide +kernel
theorem d_Seating_goToNextOrder_2 : decode b_Seating_goToNextOrder 2 = .ok (.isub, 1) := by decide +kernel
theorem d_Seating_goToNextOrder_3 : decode b_Seating_goToNextOrder 3 = .ok (.istore_n 2, 1) := by decide +kernel
theorem d_Seating_goToNextOrder_4 : decode b_Seating_goToNextOrder 4 = .ok (.iload_n 2, 1) := by decide +kernel
theorem d_Seating_goToNextOrder_5 : decode b_Seating_goToNextOrder 5 = .ok (.ifCond .le 26, 3) := by decide +kernel
theorem d_Seating_goToNextOrder_8 : decode b_Seating_goToNextOrder 8 = .ok (.aload_n 0, 1) := by decide +kernel
theorem d_Seating_goToNextOrder_9 : decode b_Seating_goToNextOrder 9 = .ok (.getfield 15, 3) := by decide +kernel
theorem d_Seating_goToNextOrder_12 : decode b_Seating_goToNextOrder 12 = .ok (.iload_n 2, 1) := by decide +kernel
theorem d_Seating_goToNextOrder_13 : decode b_Seating_goToNextOrder 13 = .ok (.iaload, 1) := by decide +kernel
theorem d_Seating_goToNextOrder_14 : decode b_Seating_goToNextOrder 14 = .ok (.aload_n 0, 1) := by decide +kernel
theorem d_Seating_goToNextOrder_15 : decode b_Seating_goToNextOrder 15 = .ok (.getfield 15, 3) := by decide +kernel
theorem d_Seating_goToNextOrder_18 : decode b_Seating_goToNextOrder 18 = .ok (.iload_n 2, 1) := by decide +kernel
theorem d_Seating_goToNextOrder_19 : decode b_Seating_goToNextOrder 19 = .ok (.iconst 1, 1) := by decide +kernel
theorem d_Seating_goToNextOrder_20 : decode b_Seating_goToNextOrder 20 = .ok (.iadd, 1) := by decide +kernel
theorem d_Seating_goToNextOrder_21 : decode b_Seating_goToNextOrder 21 = .ok (.iaload, 1) := by decide +kernel
theorem d_Seating_goToNextOrder_22 : decode b_Seating_goToNextOrder 22 = .ok (.if_icmp .le 9, 3) := by decide +kernel
theorem d_Seating_goToNextOrder_25 : decode b_Seating_goToNextOrder 25 = .ok (.iinc 2 (-1), 3) := by decide +kernel
theorem d_Seating_goToNextOrder_28 : decode b_Seating_goToNextOrder 28 = .ok (.goto (-24), 3) := by decide +kernel
theorem d_Seating_goToNextOrder_31 : decode b_Seating_goToNextOrder 31 = .ok (.iload_n 2, 1) := by decide +kernel
theorem d_Seating_goToNextOrder_32 : decode b_Seating_goToNextOrder 32 = .ok (.ifCond .gt 5, 3) := by decide +kernel
theorem d_Seating_goToNextOrder_35 : decode b_Seating_goToNextOrder 35 = .ok (.iconst 0, 1) := by decide +kernel
theorem d_Seating_goToNextOrder_36 : decode b_Seating_goToNextOrder 36 = .ok (.ireturn, 1) := by decide +kernel
theorem d_Seating_goToNextOrder_37 : decode b_Seating_goToNextOrder 37 = .ok (.iload_n 1, 1) := by decide +kernel
theorem d_Seating_goToNextOrder_38 : decode b_Seating_goToNextOrder 38 = .ok (.iconst 1, 1) := by decide +kernel
theorem d_Seating_goToNextOrder_39 : decode b_Seating_goToNextOrder 39 = .ok (.isub, 1) := by decide +kernel
theorem d_Seating_goToNextOrder_40 : decode b_Seating_goToNextOrder 40 = .ok (.istore_n 3, 1) := by decide +kernel
theorem d_Seating_goToNextOrder_41 : decode b_Seating_goToNextOrder 41 = .ok (.iload_n 3, 1) := by decide +kernel
theorem d_Seating_goToNextOrder_42 : decode b_Seating_goToNextOrder 42 = .ok (.iload_n 2, 1) := by decide +kernel
theorem d_Seating_goToNextOrder_43 : decode b_Seating_goToNextOrder 43 = .ok (.if_icmp .le 24, 3) := by decide +kernel
theorem d_Seating_goToNextOrder_46 : decode b_Seating_goToNextOrder 46 = .ok (.aload_n 0, 1) := by decide +kernel
theorem d_Seating_goToNextOrder_47 : decode b_Seating_goToNextOrder 47 = .ok (.getfield 15, 3) := by decide +kernel
theorem d_Seating_goToNextOrder_50 : decode b_Seating_goToNextOrder 50 = .ok (.iload_n 3, 1) := by decide +kernel
theorem d_Seating_goToNextOrder_51 : decode b_Seating_goToNextOrder 51 = .ok (.iaload, 1) := by decide +kernel
theorem d_Seating_goToNextOrder_52 : decode b_Seating_goToNextOrder 52 = .ok (.aload_n 0, 1) := by decide +kernel
theorem d_Seating_goToNextOrder_53 : decode b_Seating_goToNextOrder 53 = .ok (.getfield 15, 3) := by decide +kernel
theorem d_Seating_goToNextOrder_56 : decode b_Seating_goToNextOrder 56 = .ok (.iload_n 2, 1) := by decide +kernel
theorem d_Seating_goToNextOrder_57 : decode b_Seating_goToNextOrder 57 = .ok (.iaload, 1) := by decide +kernel
theorem d_Seating_goToNextOrder_58 : decode b_Seating_goToNextOrder 58 = .ok (.if_icmp .ge 9, 3) := by decide +kernel
theorem d_Seating_goToNextOrder_61 : decode b_Seating_goToNextOrder 61 = .ok (.iinc 3 (-1), 3) := by decide +kernel
theorem d_Seating_goToNextOrder_64 : decode b_Seating_goToNextOrder 64 = .ok (.goto (-23), 3) := by decide +kernel
theorem d_Seating_goToNextOrder_67 : decode b_Seating_goToNextOrder 67 = .ok (.aload_n 0, 1) := by decide +kernel
theorem d_Seating_goToNextOrder_68 : decode b_Seating_goToNextOrder 68 = .ok (.iload_n 2, 1) := by decide +kernel
theorem d_Seating_goToNextOrder_69 : decode b_Seating_goToNextOrder 69 = .ok (.iload_n 3, 1) := by decide +kernel
theorem d_Seating_goToNextOrder_70 : decode b_Seating_goToNextOrder 70 = .ok (.invokevirtual 66, 3) := by decide +kernel
theorem d_Seating_goToNextOrder_73 : decode b_Seating_goToNextOrder 73 = .ok (.iload_n 2, 1) := by decide +kernel
theorem d_Seating_goToNextOrder_74 : decode b_Seating_goToNextOrder 74 = .ok (.iconst 1, 1) := by decide +kernel
theorem d_Seating_goToNextOrder_75 : decode b_Seating_goToNextOrder 75 = .ok (.iadd, 1) := by decide +kernel
theorem d_Seating_goToNextOrder_76 : decode b_Seating_goToNextOrder 76 = .ok (.istore 4, 2) := by decide +kernel
theorem d_Seating_goToNextOrder_78 : decode b_Seating_goToNextOrder 78 = .ok (.iload_n 1, 1) := by decide +kernel
theorem d_Seating_goToNextOrder_79 : decode b_Seating_goToNextOrder 79 = .ok (.iconst 1, 1) := by decide +kernel
theorem d_Seating_goToNextOrder_80 : decode b_Seating_goToNextOrder 80 = .ok (.isub, 1) := by decide +kernel
theorem d_Seating_goToNextOrder_81 : decode b_Seating_goToNextOrder 81 = .ok (.istore 5, 2) := by decide +kernel
theorem d_Seating_goToNextOrder_83 : decode b_Seating_goToNextOrder 83 = .ok (.iload 4, 2) := by decide +kernel
theorem d_Seating_goToNextOrder_85 : decode b_Seating_goToNextOrder 85 = .ok (.iload 5, 2) := by decide +kernel
theorem d_Seating_goToNextOrder_87 : decode b_Seating_goToNextOrder 87 = .ok (.if_icmp .ge 20, 3) := by decide +kernel
theorem d_Seating_goToNextOrder_90 : decode b_Seating_goToNextOrder 90 = .ok (.aload_n 0, 1) := by decide +kernel
theorem d_Seating_goToNextOrder_91 : decode b_Seating_goToNextOrder 91 = .ok (.iload 4, 2) := by decide +kernel
theorem d_Seating_goToNextOrder_93 : decode b_Seating_goToNextOrder 93 = .ok (.iload 5, 2) := by decide +kernel
theorem d_Seating_goToNextOrder_95 : decode b_Seating_goToNextOrder 95 = .ok (.invokevirtual 66, 3) := by decide +kernel
theorem d_Seating_goToNextOrder_98 : decode b_Seating_goToNextOrder 98 = .ok (.iinc 4 1, 3) := by decide +kernel
theorem d_Seating_goToNextOrder_101 : decode b_Seating_goToNextOrder 101 = .ok (.iinc 5 (-1), 3) := by decide +kernel
theorem d_Seating_goToNextOrder_104 : decode b_Seating_goToNextOrder 104 = .ok (.goto (-21), 3) := by decide +kernel
theorem d_Seating_goToNextOrder_107 : decode b_Seating_goToNextOrder 107 = .ok (.iconst 1, 1) := by decide +kernel
theorem d_Seating_goToNextOrder_108 : decode b_Seating_goToNextOrder 108 = .ok (.ireturn, 1) := by decide +kernel
set_option maxHeartbeats 4000000 in
set_option maxRecDepth 100000 in
theorem c_Seating_goToNextOrder {l : Launch} {D : va_G} {cI cJ cC : ClassId} (a_h a_h_bestOrder a_h_order a_h_trial : Nat) {z_h_order : (Nat → Int32)} {x1 : Int32} {q : Int32 × (Nat → Int32)} (hf : f_Seating_goToNextOrder z_h_order x1 = some q) : xI l y_Seating_goToNextOrder b_Seating_goToNextOrder 6 .boolean 1 23 D (tyK cI cJ cC) xE0 [.ref a_h, .int x1] (w_Seating_goToNextOrder cI cJ cC a_h a_h_bestOrder a_h_order a_h_trial z_h_order) q.1 (w_Seating_goToNextOrder cI cJ cC a_h a_h_bestOrder a_h_order a_h_trial q.2) := by
  refine xI_of (by decide) (Nat.le_of_ble_eq_true rfl) ?_
  intro p e s m args below meth c A Q hx hb hml hown hT hA hP hD hK hS hE hret ls hl
  have hown : s.vm.findClass R_Seating = some m.cls := hown
  have hl : lv_has ls 6 [(0, .ref a_h), (1, .int x1)] := hl
  unfold f_Seating_goToNextOrder at hf
  have L4 : ∀ (z_h_order : (Nat → Int32)) (k : Int32 → Option (Int32 × (Nat → Int32))), (∀ (x2 : Int32) (H : Heap) (locs : List Loc) (ls : Array Slot), k x2 = some q → va_P D classes (w_Seating_goToNextOrder cI cJ cC a_h a_h_bestOrder a_h_order a_h_trial z_h_order) H → va_D A (w_Seating_goToNextOrder cI cJ cC a_h a_h_bestOrder a_h_order a_h_trial z_h_order) → va_S A s.heap H locs → lv_has ls 6 [(0, .ref a_h), (1, .int x1), (2, .int x2)] → W p l e (xRm 1 23) s m args below meth c H locs 0 0 Q (F0 m 31 ls [])) → ∀ (n : Nat) (x2 : Int32) (H : Heap) (locs : List Loc) (ls : Array Slot), f_Seating_goToNextOrder_L4 z_h_order k n x2 = some q → va_P D classes (w_Seating_goToNextOrder cI cJ cC a_h a_h_bestOrder a_h_order a_h_trial z_h_order) H → va_D A (w_Seating_goToNextOrder cI cJ cC a_h a_h_bestOrder a_h_order a_h_trial z_h_order) → va_S A s.heap H locs → lv_has ls 6 [(0, .ref a_h), (1, .int x1), (2, .int x2)] → W p l e (xRm 1 23) s m args below meth c H locs 0 0 Q (F0 m 4 ls []) := by
    intro z_h_order k hk n
    induction n with
    | zero => intro x2 H locs ls hf hP hD hS hl; exact nomatch (show (none : Option (Int32 × (Nat → Int32))) = some q from hf)
    | succ n ih =>
      intro x2 H locs ls hf hP hD hS hl
      refine lv_iload_n hx hb d_Seating_goToNextOrder_4 rfl (lv_at hl 2 rfl) ?_
      refine lv_if_le (tgt := 31) hx hb d_Seating_goToNextOrder_5 (by decide) (fun c1 => ?_) (fun c1 => ?_)
      · have hf := io_t hf c1
        exact hk x2 _ _ _ hf hP hD hS (lv_sub hl [0, 1, 2] rfl)
      · have hf := io_f hf c1
        refine lv_aload_n hx hb d_Seating_goToNextOrder_8 rfl (lv_at hl 0 rfl) ?_
        refine va_get hx hb hT i_Seating hown hK hP 0 rfl rfl 1 (Nat.le_of_ble_eq_true rfl) (hT _ k_159) (fun _ h => h) rfl d_Seating_goToNextOrder_9 ?_
        refine lv_iload_n hx hb d_Seating_goToNextOrder_12 rfl (lv_at hl 2 rfl) ?_
        obtain ⟨c2, hf⟩ := io_n hf
        refine x_iald hx hb hK hP 1 0 rfl rfl (j := x2.toNatClampNeg) rfl c2 d_Seating_goToNextOrder_13 ?_
        refine lv_aload_n hx hb d_Seating_goToNextOrder_14 rfl (lv_at hl 0 rfl) ?_
        refine va_get hx hb hT i_Seating hown hK hP 0 rfl rfl 1 (Nat.le_of_ble_eq_true rfl) (hT _ k_159) (fun _ h => h) rfl d_Seating_goToNextOrder_15 ?_
        refine lv_iload_n hx hb d_Seating_goToNextOrder_18 rfl (lv_at hl 2 rfl) ?_
        refine lv_iconst (v := 1) hx hb d_Seating_goToNextOrder_19 (by decide) ?_
        refine lv_iadd hx hb d_Seating_goToNextOrder_20 ?_
        obtain ⟨c3, hf⟩ := io_n hf
        refine x_iald hx hb hK hP 1 0 rfl rfl (j := (x2 + 1).toNatClampNeg) rfl c3 d_Seating_goToNextOrder_21 ?_
        refine lv_icmp_le (tgt := 31) hx hb d_Seating_goToNextOrder_22 (by decide) (fun c4 => ?_) (fun c4 => ?_)
        · have hf := io_t hf c4
          exact hk x2 _ _ _ hf hP hD hS (lv_sub hl [0, 1, 2] rfl)
        · have hf := io_f hf c4
          refine lv_iinc (v := (x2 + (-1))) (lv' := [(2, .int (x2 + (-1))), (0, .ref a_h), (1, .int x1)]) hx hb d_Seating_goToNextOrder_25 hl (k := 2) rfl (by rfl) (by decide) rfl (fun ls hl => ?_)
          refine lv_goto (tgt := 4) hx hb d_Seating_goToNextOrder_28 (by decide) ?_
          exact ih (x2 + (-1)) _ _ _ hf hP hD hS (lv_sub hl [1, 2, 0] rfl)
  have L41 : ∀ (z_h_order : (Nat → Int32)) (x2 : Int32) (k : Int32 → Option (Int32 × (Nat → Int32))), (∀ (x3 : Int32) (H : Heap) (locs : List Loc) (ls : Array Slot), k x3 = some q → va_P D classes (w_Seating_goToNextOrder cI cJ cC a_h a_h_bestOrder a_h_order a_h_trial z_h_order) H → va_D A (w_Seating_goToNextOrder cI cJ cC a_h a_h_bestOrder a_h_order a_h_trial z_h_order) → va_S A s.heap H locs → lv_has ls 6 [(0, .ref a_h), (1, .int x1), (2, .int x2), (3, .int x3)] → W p l e (xRm 1 23) s m args below meth c H locs 0 0 Q (F0 m 67 ls [])) → ∀ (n : Nat) (x3 : Int32) (H : Heap) (locs : List Loc) (ls : Array Slot), f_Seating_goToNextOrder_L41 z_h_order x2 k n x3 = some q → va_P D classes (w_Seating_goToNextOrder cI cJ cC a_h a_h_bestOrder a_h_order a_h_trial z_h_order) H → va_D A (w_Seating_goToNextOrder cI cJ cC a_h a_h_bestOrder a_h_order a_h_trial z_h_order) → va_S A s.heap H locs → lv_has ls 6 [(0, .ref a_h), (1, .int x1), (2, .int x2), (3, .int x3)] → W p l e (xRm 1 23) s m args below meth c H locs 0 0 Q (F0 m 41 ls []) := by
    intro z_h_order x2 k hk n
    induction n with
    | zero => intro x3 H locs ls hf hP hD hS hl; exact nomatch (show (none : Option (Int32 × (Nat → Int32))) = some q from hf)
    | succ n ih =>
      intro x3 H locs ls hf hP hD hS hl
      refine lv_iload_n hx hb d_Seating_goToNextOrder_41 rfl (lv_at hl 3 rfl) ?_
      refine lv_iload_n hx hb d_Seating_goToNextOrder_42 rfl (lv_at hl 2 rfl) ?_
      refine lv_icmp_le (tgt := 67) hx hb d_Seating_goToNextOrder_43 (by decide) (fun c7 => ?_) (fun c7 => ?_)
      · have hf := io_t hf c7
        exact hk x3 _ _ _ hf hP hD hS (lv_sub hl [0, 1, 2, 3] rfl)
      · have hf := io_f hf c7
        refine lv_aload_n hx hb d_Seating_goToNextOrder_46 rfl (lv_at hl 0 rfl) ?_
        refine va_get hx hb hT i_Seating hown hK hP 0 rfl rfl 1 (Nat.le_of_ble_eq_true rfl) (hT _ k_159) (fun _ h => h) rfl d_Seating_goToNextOrder_47 ?_
        refine lv_iload_n hx hb d_Seating_goToNextOrder_50 rfl (lv_at hl 3 rfl) ?_
        obtain ⟨c8, hf⟩ := io_n hf
        refine x_iald hx hb hK hP 1 0 rfl rfl (j := x3.toNatClampNeg) rfl c8 d_Seating_goToNextOrder_51 ?_
        refine lv_aload_n hx hb d_Seating_goToNextOrder_52 rfl (lv_at hl 0 rfl) ?_
        refine va_get hx hb hT i_Seating hown hK hP 0 rfl rfl 1 (Nat.le_of_ble_eq_true rfl) (hT _ k_159) (fun _ h => h) rfl d_Seating_goToNextOrder_53 ?_
        refine lv_iload_n hx hb d_Seating_goToNextOrder_56 rfl (lv_at hl 2 rfl) ?_
        obtain ⟨c9, hf⟩ := io_n hf
        refine x_iald hx hb hK hP 1 0 rfl rfl (j := x2.toNatClampNeg) rfl c9 d_Seating_goToNextOrder_57 ?_
        refine lv_icmp_ge (tgt := 67) hx hb d_Seating_goToNextOrder_58 (by decide) (fun c10 => ?_) (fun c10 => ?_)
        · have hf := io_t hf c10
          exact hk x3 _ _ _ hf hP hD hS (lv_sub hl [0, 1, 2, 3] rfl)
        · have hf := io_f hf c10
          refine lv_iinc (v := (x3 + (-1))) (lv' := [(3, .int (x3 + (-1))), (0, .ref a_h), (1, .int x1), (2, .int x2)]) hx hb d_Seating_goToNextOrder_61 hl (k := 3) rfl (by rfl) (by decide) rfl (fun ls hl => ?_)
          refine lv_goto (tgt := 41) hx hb d_Seating_goToNextOrder_64 (by decide) ?_
          exact ih (x3 + (-1)) _ _ _ hf hP hD hS (lv_sub hl [1, 2, 3, 0] rfl)
  have L83 : ∀ (n : Nat) (z_h_order : (Nat → Int32)) (x4 : Int32) (x5 : Int32) (H : Heap) (locs : List Loc) (ls : Array Slot), f_Seating_goToNextOrder_L83 n z_h_order x4 x5 = some q → va_P D classes (w_Seating_goToNextOrder cI cJ cC a_h a_h_bestOrder a_h_order a_h_trial z_h_order) H → va_D A (w_Seating_goToNextOrder cI cJ cC a_h a_h_bestOrder a_h_order a_h_trial z_h_order) → va_S A s.heap H locs → lv_has ls 6 [(0, .ref a_h), (4, .int x4), (5, .int x5)] → W p l e (xRm 1 23) s m args below meth c H locs 0 0 Q (F0 m 83 ls []) := by
    intro n
    induction n with
    | zero => intro z_h_order x4 x5 H locs ls hf hP hD hS hl; exact nomatch (show (none : Option (Int32 × (Nat → Int32))) = some q from hf)
    | succ n ih =>
      intro z_h_order x4 x5 H locs ls hf hP hD hS hl
      refine lv_iload hx hb d_Seating_goToNextOrder_83 (lv_at hl 1 rfl) ?_
      refine lv_iload hx hb d_Seating_goToNextOrder_85 (lv_at hl 2 rfl) ?_
      refine lv_icmp_ge (tgt := 107) hx hb d_Seating_goToNextOrder_87 (by decide) (fun c13 => ?_) (fun c13 => ?_)
      · have hf := io_t hf c13
        refine lv_iconst (v := 1) hx hb d_Seating_goToNextOrder_107 (by decide) ?_
        have hq := Option.some.inj hf
        subst hq
        exact hret _ _ _ _ _ d_Seating_goToNextOrder_108 (by decide) rfl hP hD hS
      · have hf := io_f hf c13
        refine lv_aload_n hx hb d_Seating_goToNextOrder_90 rfl (lv_at hl 0 rfl) ?_
        refine lv_iload hx hb d_Seating_goToNextOrder_91 (lv_at hl 1 rfl) ?_
        refine lv_iload hx hb d_Seating_goToNextOrder_93 (lv_at hl 2 rfl) ?_
        obtain ⟨q14, hq14, hf⟩ := io_b hf
        refine xcVV (wc := (w_Seating_changePlaces cI cJ cC a_h a_h_bestOrder a_h_order a_h_trial z_h_order)) (wc' := (w_Seating_changePlaces cI cJ cC a_h a_h_bestOrder a_h_order a_h_trial q14)) (ws' := (w_Seating_goToNextOrder cI cJ cC a_h a_h_bestOrder a_h_order a_h_trial q14)) (As := [.int x4, .int x5]) (rest := []) hx hb hml hown hT (c_Seating_changePlaces (z_h_order := z_h_order) a_h a_h_bestOrder a_h_order a_h_trial hq14) k_655 k_657 ks_22 k_7 k_658 hd_Seating_changePlaces ⟨Nat.le_of_ble_eq_true rfl, Nat.le_of_ble_eq_true rfl⟩ xE0_ok trivial hA hK hP hD hS [0, 1] [] [0, 1] rfl rfl rfl rfl rfl rfl rfl rfl rfl rfl hl.1 rfl (Nat.le_of_ble_eq_true rfl) ⟨Nat.zero_le _, Nat.zero_le _⟩ d_Seating_goToNextOrder_95 (fun H locs hP hD hS => ?_)
        refine lv_iinc (v := (x4 + 1)) (lv' := [(4, .int (x4 + 1)), (0, .ref a_h), (5, .int x5)]) hx hb d_Seating_goToNextOrder_98 hl (k := 1) rfl (by rfl) (by decide) rfl (fun ls hl => ?_)
        refine lv_iinc (v := (x5 + (-1))) (lv' := [(5, .int (x5 + (-1))), (4, .int (x4 + 1)), (0, .ref a_h)]) hx hb d_Seating_goToNextOrder_101 hl (k := 2) rfl (by rfl) (by decide) rfl (fun ls hl => ?_)
        refine lv_goto (tgt := 83) hx hb d_Seating_goToNextOrder_104 (by decide) ?_
        exact ih q14 (x4 + 1) (x5 + (-1)) _ _ _ hf hP hD hS (lv_sub hl [2, 1, 0] rfl)
  refine lv_iload_n hx hb d_Seating_goToNextOrder_0 rfl (lv_at hl 1 rfl) ?_
  refine lv_iconst (v := 2) hx hb d_Seating_goToNextOrder_1 (by decide) ?_
  refine lv_isub hx hb d_Seating_goToNextOrder_2 ?_
  refine lv_istore_n (lv' := [(2, .int (x1 - 2)), (0, .ref a_h), (1, .int x1)]) hx hb d_Seating_goToNextOrder_3 rfl hl (by decide) rfl (fun ls hl => ?_)
  refine L4 z_h_order _ (fun x2_5 H locs ls hf hP hD hS hl => ?_) FU (x1 - 2) _ _ _ hf hP hD hS (lv_sub hl [1, 2, 0] rfl)
  refine lv_iload_n hx hb d_Seating_goToNextOrder_31 rfl (lv_at hl 2 rfl) ?_
  refine lv_if_gt (tgt := 37) hx hb d_Seating_goToNextOrder_32 (by decide) (fun c6 => ?_) (fun c6 => ?_)
  · have hf := io_t hf c6
    refine lv_iload_n hx hb d_Seating_goToNextOrder_37 rfl (lv_at hl 1 rfl) ?_
    refine lv_iconst (v := 1) hx hb d_Seating_goToNextOrder_38 (by decide) ?_
    refine lv_isub hx hb d_Seating_goToNextOrder_39 ?_
    refine lv_istore_n (lv' := [(3, .int (x1 - 1)), (0, .ref a_h), (1, .int x1), (2, .int x2_5)]) hx hb d_Seating_goToNextOrder_40 rfl hl (by decide) rfl (fun ls hl => ?_)
    refine L41 z_h_order x2_5 _ (fun x3_11 H locs ls hf hP hD hS hl => ?_) FU (x1 - 1) _ _ _ hf hP hD hS (lv_sub hl [1, 2, 3, 0] rfl)
    refine lv_aload_n hx hb d_Seating_goToNextOrder_67 rfl (lv_at hl 0 rfl) ?_
    refine lv_iload_n hx hb d_Seating_goToNextOrder_68 rfl (lv_at hl 2 rfl) ?_
    refine lv_iload_n hx hb d_Seating_goToNextOrder_69 rfl (lv_at hl 3 rfl) ?_
    obtain ⟨q12, hq12, hf⟩ := io_b hf
    refine xcVV (wc := (w_Seating_changePlaces cI cJ cC a_h a_h_bestOrder a_h_order a_h_trial z_h_order)) (wc' := (w_Seating_changePlaces cI cJ cC a_h a_h_bestOrder a_h_order a_h_trial q12)) (ws' := (w_Seating_goToNextOrder cI cJ cC a_h a_h_bestOrder a_h_order a_h_trial q12)) (As := [.int x2_5, .int x3_11]) (rest := []) hx hb hml hown hT (c_Seating_changePlaces (z_h_order := z_h_order) a_h a_h_bestOrder a_h_order a_h_trial hq12) k_655 k_657 ks_22 k_7 k_658 hd_Seating_changePlaces ⟨Nat.le_of_ble_eq_true rfl, Nat.le_of_ble_eq_true rfl⟩ xE0_ok trivial hA hK hP hD hS [0, 1] [] [0, 1] rfl rfl rfl rfl rfl rfl rfl rfl rfl rfl hl.1 rfl (Nat.le_of_ble_eq_true rfl) ⟨Nat.zero_le _, Nat.zero_le _⟩ d_Seating_goToNextOrder_70 (fun H locs hP hD hS => ?_)
    refine lv_iload_n hx hb d_Seating_goToNextOrder_73 rfl (lv_at hl 2 rfl) ?_
    refine lv_iconst (v := 1) hx hb d_Seating_goToNextOrder_74 (by decide) ?_
    refine lv_iadd hx hb d_Seating_goToNextOrder_75 ?_
    refine lv_istore (lv' := [(4, .int (x2_5 + 1)), (0, .ref a_h), (1, .int x1), (2, .int x2_5), (3, .int x3_11)]) hx hb d_Seating_goToNextOrder_76 hl (by decide) rfl (fun ls hl => ?_)
    refine lv_iload_n hx hb d_Seating_goToNextOrder_78 rfl (lv_at hl 2 rfl) ?_
    refine lv_iconst (v := 1) hx hb d_Seating_goToNextOrder_79 (by decide) ?_
    refine lv_isub hx hb d_Seating_goToNextOrder_80 ?_
    refine lv_istore (lv' := [(5, .int (x1 - 1)), (4, .int (x2_5 + 1)), (0, .ref a_h), (1, .int x1), (2, .int x2_5), (3, .int x3_11)]) hx hb d_Seating_goToNextOrder_81 hl (by decide) rfl (fun ls hl => ?_)
    exact L83 FU q12 (x2_5 + 1) (x1 - 1) _ _ _ hf hP hD hS (lv_sub hl [2, 1, 0] rfl)
  · have hf := io_f hf c6
    refine lv_iconst (v := 0) hx hb d_Seating_goToNextOrder_35 (by decide) ?_
    have hq := Option.some.inj hf
    subst hq
    exact hret _ _ _ _ _ d_Seating_goToNextOrder_36 (by decide) rfl hP hD hS
abbrev w_Seating_best (cI cJ cC : ClassId) (a_h a_h_bestOrder a_h_order a_h_trial a_h_trial_kinds a_h_trial_sweets a_h_trial_settings a_h_trial_heaps a_g1 a_g1_kinds a_g1_sweets a_g1_settings a_g1_heaps : Nat) (p_h_bestOrder : (Nat → Int32)) (p_h_order : (Nat → Int32)) (p_h_trial_children : Int32) (p_h_trial_strokes : Int32) (p_h_trial_gave : Int32) (p_h_trial_threw : Int32) (p_h_trial_kinds : (Nat → Int32)) (p_h_trial_sweets : (Nat → Int32)) (p_h_trial_settings : (Nat → Int32)) (p_h_trial_heaps : (Nat → Int32)) (p_g1_children : Int32) (p_g1_strokes : Int32) (p_g1_gave : Int32) (p_g1_threw : Int32) (p_g1_kinds : (Nat → Int32)) (p_g1_sweets : (Nat → Int32)) (p_g1_settings : (Nat → Int32)) : va_W := [(a_h, .inr (6, [.ref a_h_bestOrder, .ref a_h_order, .ref a_h_trial])), (a_h_bestOrder, .inl (cI, (6, .inl p_h_bestOrder))), (a_h_order, .inl (cI, (6, .inl p_h_order))), (a_h_trial, .inr (1, [.ref a_h_trial_kinds, .ref a_h_trial_sweets, .ref a_h_trial_settings, .int p_h_trial_children, .int p_h_trial_strokes, .int p_h_trial_gave, .int p_h_trial_threw, .ref a_h_trial_heaps])), (a_h_trial_kinds, .inl (cI, (8, .inl p_h_trial_kinds))), (a_h_trial_sweets, .inl (cI, (8, .inl p_h_trial_sweets))), (a_h_trial_settings, .inl (cI, (3, .inl p_h_trial_settings))), (a_h_trial_heaps, .inl (cI, (8, .inl p_h_trial_heaps))), (a_g1, .inr (1, [.ref a_g1_kinds, .ref a_g1_sweets, .ref a_g1_settings, .int p_g1_children, .int p_g1_strokes, .int p_g1_gave, .int p_g1_threw, .ref a_g1_heaps])), (a_g1_kinds, .inl (cI, (8, .inl p_g1_kinds))), (a_g1_sweets, .inl (cI, (8, .inl p_g1_sweets))), (a_g1_settings, .inl (cI, (3, .inl p_g1_settings)))]
theorem d_Seating_best_0 : decode b_Seating_best 0 = .ok (.aload_n 1, 1) := by decide +kernel
theorem d_Seating_best_1 : decode b_Seating_best 1 = .ok (.getfield 25, 3) := by decide +kernel
theorem d_Seating_best_4 : decode b_Seating_best 4 = .ok (.bipush 6, 2) := by decide +kernel
theorem d_Seating_best_6 : decode b_Seating_best 6 = .ok (.invokestatic 29, 3) := by decide +kernel
theorem d_Seating_best_9 : decode b_Seating_best 9 = .ok (.istore 4, 2) := by decide +kernel
theorem d_Seating_best_11 : decode b_Seating_best 11 = .ok (.iconst 0, 1) := by decide +kernel
theorem d_Seating_best_12 : decode b_Seating_best 12 = .ok (.istore 5, 2) := by decide +kernel
theorem d_Seating_best_14 : decode b_Seating_best 14 = .ok (.iload 5, 2) := by decide +kernel
theorem d_Seating_best_16 : decode b_Seating_best 16 = .ok (.iload 4, 2) := by decide +kernel
theorem d_Seating_best_18 : decode b_Seating_best 18 = .ok (.if_icmp .ge 18, 3) := by decide +kernel
theorem d_Seating_best_21 : decode b_Seating_best 21 = .ok (.aload_n 0, 1) := by decide +kernel
theorem d_Seating_best_22 : decode b_Seating_best 22 = .ok (.getfield 15, 3) := by decide +kernel
theorem d_Seating_best_25 : decode b_Seating_best 25 = .ok (.iload 5, 2) := by decide +kernel
theorem d_Seating_best_27 : decode b_Seating_best 27 = .ok (.iload 5, 2) := by decide +kernel
theorem d_Seating_best_29 : decode b_Seating_best 29 = .ok (.iastore, 1) := by decide +kernel
theorem d_Seating_best_30 : decode b_Seating_best 30 = .ok (.iinc 5 1, 3) := by decide +kernel
theorem d_Seating_best_33 : decode b_Seating_best 33 = .ok (.goto (-19), 3) := by decide +kernel
theorem d_Seating_best_36 : decode b_Seating_best 36 = .ok (.aload_n 0, 1) := by decide +kernel
theorem d_Seating_best_37 : decode b_Seating_best 37 = .ok (.aload_n 1, 1) := by decide +kernel
theorem d_Seating_best_38 : decode b_Seating_best 38 = .ok (.iload_n 2, 1) := by decide +kernel
theorem d_Seating_best_39 : decode b_Seating_best 39 = .ok (.iload_n 3, 1) := by decide +kernel
theorem d_Seating_best_40 : decode b_Seating_best 40 = .ok (.invokevirtual 35, 3) := by decide +kernel
theorem d_Seating_best_43 : decode b_Seating_best 43 = .ok (.istore 5, 2) := by decide +kernel
theorem d_Seating_best_45 : decode b_Seating_best 45 = .ok (.aload_n 0, 1) := by decide +kernel
theorem d_Seating_best_46 : decode b_Seating_best 46 = .ok (.getfield 15, 3) := by decide +kernel
theorem d_Seating_best_49 : decode b_Seating_best 49 = .ok (.iconst 0, 1) := by decide +kernel
theorem d_Seating_best_50 : decode b_Seating_best 50 = .ok (.aload_n 0, 1) := by decide +kernel
theorem d_Seating_best_51 : decode b_Seating_best 51 = .ok (.getfield 9, 3) := by decide +kernel
theorem d_Seating_best_54 : decode b_Seating_best 54 = .ok (.iconst 0, 1) := by decide +kernel
theorem d_Seating_best_55 : decode b_Seating_best 55 = .ok (.iload 4, 2) := by decide +kernel
theorem d_Seating_best_57 : decode b_Seating_best 57 = .ok (.invokestatic 39, 3) := by decide +kernel
theorem d_Seating_best_60 : decode b_Seating_best 60 = .ok (.iconst 1, 1) := by decide +kernel
theorem d_Seating_best_61 : decode b_Seating_best 61 = .ok (.istore 6, 2) := by decide +kernel
theorem d_Seating_best_63 : decode b_Seating_best 63 = .ok (.iload 6, 2) := by decide +kernel
theorem d_Seating_best_65 : decode b_Seating_best 65 = .ok (.bipush 120, 2) := by decide +kernel
theorem d_Seating_best_67 : decode b_Seating_best 67 = .ok (.if_icmp .ge 67, 3) := by decide +kernel
theorem d_Seating_best_70 : decode b_Seating_best 70 = .ok (.aload_n 0, 1) := by decide +kernel
theorem d_Seating_best_71 : decode b_Seating_best 71 = .ok (.iload 4, 2) := by decide +kernel
theorem d_Seating_best_73 : decode b_Seating_best 73 = .ok (.invokevirtual 45, 3) := by decide +kernel
theorem d_Seating_best_76 : decode b_Seating_best 76 = .ok (.ifCond .eq 58, 3) := by decide +kernel
theorem d_Seating_best_79 : decode b_Seating_best 79 = .ok (.aload_n 0, 1) := by decide +kernel
theorem d_Seating_best_80 : decode b_Seating_best 80 = .ok (.aload_n 1, 1) := by decide +kernel
theorem d_Seating_best_81 : decode b_Seating_best 81 = .ok (.iload_n 2, 1) := by decide +kernel
theorem d_Seating_best_82 : decode b_Seating_best 82 = .ok (.iload_n 3, 1) := by decide +kernel
theorem d_Seating_best_83 : decode b_Seating_best 83 = .ok (.invokevirtual 35, 3) := by decide +kernel
theorem d_Seating_best_86 : decode b_Seating_best 86 = .ok (.istore 7, 2) := by decide +kernel
theorem d_Seating_best_88 : decode b_Seating_best 88 = .ok (.iload_n 3, 1) := by decide +kernel
theorem d_Seating_best_89 : decode b_Seating_best 89 = .ok (.ifCond .ne 13, 3) := by decide +kernel
theorem d_Seating_best_92 : decode b_Seating_best 92 = .ok (.iload 7, 2) := by decide +kernel
theorem d_Seating_best_94 : decode b_Seating_best 94 = .ok (.iload 5, 2) := by decide +kernel
theorem d_Seating_best_96 : decode b_Seating_best 96 = .ok (.if_icmp .ge 32, 3) := by decide +kernel
theorem d_Seating_best_99 : decode b_Seating_best 99 = .ok (.goto 10, 3) := by decide +kernel
theorem d_Seating_best_102 : decode b_Seating_best 102 = .ok (.iload 7, 2) := by decide +kernel
theorem d_Seating_best_104 : decode b_Seating_best 104 = .ok (.iload 5, 2) := by decide +kernel
theorem d_Seating_best_106 : decode b_Seating_best 106 = .ok (.if_icmp .le 22, 3) := by decide +kernel
theorem d_Seating_best_109 : decode b_Seating_best 109 = .ok (.iload 7, 2) := by decide +kernel
theorem d_Seating_best_111 : decode b_Seating_best 111 = .ok (.istore 5, 2) := by decide +kernel
theorem d_Seating_best_113 : decode b_Seating_best 113 = .ok (.aload_n 0, 1) := by decide +kernel
theorem d_Seating_best_114 : decode b_Seating_best 114 = .ok (.getfield 15, 3) := by decide +kernel
theorem d_Seating_best_117 : decode b_Seating_best 117 = .ok (.iconst 0, 1) := by decide +kernel
theorem d_Seating_best_118 : decode b_Seating_best 118 = .ok (.aload_n 0, 1) := by decide +kernel
theorem d_Seating_best_119 : decode b_Seating_best 119 = .ok (.getfield 9, 3) := by decide +kernel
theorem d_Seating_best_122 : decode b_Seating_best 122 = .ok (.iconst 0, 1) := by decide +kernel
theorem d_Seating_best_123 : decode b_Seating_best 123 = .ok (.iload 4, 2) := by decide +kernel
theorem d_Seating_best_125 : decode b_Seating_best 125 = .ok (.invokestatic 39, 3) := by decide +kernel
theorem d_Seating_best_128 : decode b_Seating_best 128 = .ok (.iinc 6 1, 3) := by decide +kernel
theorem d_Seating_best_131 : decode b_Seating_best 131 = .ok (.goto (-68), 3) := by decide +kernel
theorem d_Seating_best_134 : decode b_Seating_best 134 = .ok (.iload 5, 2) := by decide +kernel
theorem d_Seating_best_136 : decode b_Seating_best 136 = .ok (.ireturn, 1) := by decide +kernel
set_option maxHeartbeats 4000000 in
set_option maxRecDepth 100000 in
theorem c_Seating_best {l : Launch} {D : va_G} {cI cJ cC : ClassId} (a_h a_h_bestOrder a_h_order a_h_trial a_h_trial_kinds a_h_trial_sweets a_h_trial_settings a_h_trial_heaps a_g1 a_g1_kinds a_g1_sweets a_g1_settings a_g1_heaps : Nat) {z_h_bestOrder : (Nat → Int32)} {z_h_order : (Nat → Int32)} {z_h_trial : RS} {z_g1 : RS} {x2 : Int32} {x3 : Int32} {q : Int32 × (Nat → Int32) × (Nat → Int32) × RS} (hf : f_Seating_best z_h_bestOrder z_h_order z_h_trial z_g1 x2 x3 = some q) : xI l y_Seating_best b_Seating_best 8 .int 6 135 D (tyK cI cJ cC) xE0 [.ref a_h, .ref a_g1, .int x2, .int x3] (w_Seating_best cI cJ cC a_h a_h_bestOrder a_h_order a_h_trial a_h_trial_kinds a_h_trial_sweets a_h_trial_settings a_h_trial_heaps a_g1 a_g1_kinds a_g1_sweets a_g1_settings a_g1_heaps z_h_bestOrder z_h_order (r_children z_h_trial) (r_strokes z_h_trial) (r_gave z_h_trial) (r_threw z_h_trial) (r_kinds z_h_trial) (r_sweets z_h_trial) (r_settings z_h_trial) (r_heaps z_h_trial) (r_children z_g1) (r_strokes z_g1) (r_gave z_g1) (r_threw z_g1) (r_kinds z_g1) (r_sweets z_g1) (r_settings z_g1)) q.1 (w_Seating_best cI cJ cC a_h a_h_bestOrder a_h_order a_h_trial a_h_trial_kinds a_h_trial_sweets a_h_trial_settings a_h_trial_heaps a_g1 a_g1_kinds a_g1_sweets a_g1_settings a_g1_heaps q.2.1 q.2.2.1 (r_children q.2.2.2) (r_strokes q.2.2.2) (r_gave q.2.2.2) (r_threw q.2.2.2) (r_kinds q.2.2.2) (r_sweets q.2.2.2) (r_settings q.2.2.2) (r_heaps q.2.2.2) (r_children z_g1) (r_strokes z_g1) (r_gave z_g1) (r_threw z_g1) (r_kinds z_g1) (r_sweets z_g1) (r_settings z_g1)) := by
  refine xI_of (by decide) (Nat.le_of_ble_eq_true rfl) ?_
  intro p e s m args below meth c A Q hx hb hml hown hT hA hP hD hK hS hE hret ls hl
  have hown : s.vm.findClass R_Seating = some m.cls := hown
  have hl : lv_has ls 8 [(0, .ref a_h), (1, .ref a_g1), (2, .int x2), (3, .int x3)] := hl
  unfold f_Seating_best at hf
  have L14 : ∀ (z_h_bestOrder : (Nat → Int32)) (z_h_trial : RS) (x4 : Int32) (k : (Nat → Int32) → Option (Int32 × (Nat → Int32) × (Nat → Int32) × RS)), (∀ (z_h_order : (Nat → Int32)) (H : Heap) (locs : List Loc) (ls : Array Slot), k z_h_order = some q → va_P D classes (w_Seating_best cI cJ cC a_h a_h_bestOrder a_h_order a_h_trial a_h_trial_kinds a_h_trial_sweets a_h_trial_settings a_h_trial_heaps a_g1 a_g1_kinds a_g1_sweets a_g1_settings a_g1_heaps z_h_bestOrder z_h_order (r_children z_h_trial) (r_strokes z_h_trial) (r_gave z_h_trial) (r_threw z_h_trial) (r_kinds z_h_trial) (r_sweets z_h_trial) (r_settings z_h_trial) (r_heaps z_h_trial) (r_children z_g1) (r_strokes z_g1) (r_gave z_g1) (r_threw z_g1) (r_kinds z_g1) (r_sweets z_g1) (r_settings z_g1)) H → va_D A (w_Seating_best cI cJ cC a_h a_h_bestOrder a_h_order a_h_trial a_h_trial_kinds a_h_trial_sweets a_h_trial_settings a_h_trial_heaps a_g1 a_g1_kinds a_g1_sweets a_g1_settings a_g1_heaps z_h_bestOrder z_h_order (r_children z_h_trial) (r_strokes z_h_trial) (r_gave z_h_trial) (r_threw z_h_trial) (r_kinds z_h_trial) (r_sweets z_h_trial) (r_settings z_h_trial) (r_heaps z_h_trial) (r_children z_g1) (r_strokes z_g1) (r_gave z_g1) (r_threw z_g1) (r_kinds z_g1) (r_sweets z_g1) (r_settings z_g1)) → va_S A s.heap H locs → lv_has ls 8 [(0, .ref a_h), (1, .ref a_g1), (2, .int x2), (3, .int x3), (4, .int x4)] → W p l e (xRm 6 135) s m args below meth c H locs 0 0 Q (F0 m 36 ls [])) → ∀ (n : Nat) (z_h_order : (Nat → Int32)) (x5 : Int32) (H : Heap) (locs : List Loc) (ls : Array Slot), f_Seating_best_L14 x4 k n z_h_order x5 = some q → va_P D classes (w_Seating_best cI cJ cC a_h a_h_bestOrder a_h_order a_h_trial a_h_trial_kinds a_h_trial_sweets a_h_trial_settings a_h_trial_heaps a_g1 a_g1_kinds a_g1_sweets a_g1_settings a_g1_heaps z_h_bestOrder z_h_order (r_children z_h_trial) (r_strokes z_h_trial) (r_gave z_h_trial) (r_threw z_h_trial) (r_kinds z_h_trial) (r_sweets z_h_trial) (r_settings z_h_trial) (r_heaps z_h_trial) (r_children z_g1) (r_strokes z_g1) (r_gave z_g1) (r_threw z_g1) (r_kinds z_g1) (r_sweets z_g1) (r_settings z_g1)) H → va_D A (w_Seating_best cI cJ cC a_h a_h_bestOrder a_h_order a_h_trial a_h_trial_kinds a_h_trial_sweets a_h_trial_settings a_h_trial_heaps a_g1 a_g1_kinds a_g1_sweets a_g1_settings a_g1_heaps z_h_bestOrder z_h_order (r_children z_h_trial) (r_strokes z_h_trial) (r_gave z_h_trial) (r_threw z_h_trial) (r_kinds z_h_trial) (r_sweets z_h_trial) (r_settings z_h_trial) (r_heaps z_h_trial) (r_children z_g1) (r_strokes z_g1) (r_gave z_g1) (r_threw z_g1) (r_kinds z_g1) (r_sweets z_g1) (r_settings z_g1)) → va_S A s.heap H locs → lv_has ls 8 [(0, .ref a_h), (1, .ref a_g1), (2, .int x2), (3, .int x3), (4, .int x4), (5, .int x5)] → W p l e (xRm 6 135) s m args below meth c H locs 0 0 Q (F0 m 14 ls []) := by
    intro z_h_bestOrder z_h_trial x4 k hk n
    induction n with
    | zero => intro z_h_order x5 H locs ls hf hP hD hS hl; exact nomatch (show (none : Option (Int32 × (Nat → Int32) × (Nat → Int32) × RS)) = some q from hf)
    | succ n ih =>
      intro z_h_order x5 H locs ls hf hP hD hS hl
      refine lv_iload hx hb d_Seating_best_14 (lv_at hl 5 rfl) ?_
      refine lv_iload hx hb d_Seating_best_16 (lv_at hl 4 rfl) ?_
      refine lv_icmp_ge (tgt := 36) hx hb d_Seating_best_18 (by decide) (fun c1 => ?_) (fun c1 => ?_)
      · have hf := io_t hf c1
        exact hk z_h_order _ _ _ hf hP hD hS (lv_sub hl [0, 1, 2, 3, 4] rfl)
      · have hf := io_f hf c1
        refine lv_aload_n hx hb d_Seating_best_21 rfl (lv_at hl 0 rfl) ?_
        refine va_get hx hb hT i_Seating hown hK hP 0 rfl rfl 1 (Nat.le_of_ble_eq_true rfl) (hT _ k_159) (fun _ h => h) rfl d_Seating_best_22 ?_
        refine lv_iload hx hb d_Seating_best_25 (lv_at hl 5 rfl) ?_
        refine lv_iload hx hb d_Seating_best_27 (lv_at hl 5 rfl) ?_
        obtain ⟨c2, hf⟩ := io_n hf
        refine x_iast hx hb hK hP hD hS 2 0 rfl rfl (j := x5.toNatClampNeg) rfl c2 d_Seating_best_29 (fun H locs hP hD hS => ?_)
        have hP : va_P D classes (w_Seating_best cI cJ cC a_h a_h_bestOrder a_h_order a_h_trial a_h_trial_kinds a_h_trial_sweets a_h_trial_settings a_h_trial_heaps a_g1 a_g1_kinds a_g1_sweets a_g1_settings a_g1_heaps z_h_bestOrder (upd z_h_order x5.toNatClampNeg x5) (r_children z_h_trial) (r_strokes z_h_trial) (r_gave z_h_trial) (r_threw z_h_trial) (r_kinds z_h_trial) (r_sweets z_h_trial) (r_settings z_h_trial) (r_heaps z_h_trial) (r_children z_g1) (r_strokes z_g1) (r_gave z_g1) (r_threw z_g1) (r_kinds z_g1) (r_sweets z_g1) (r_settings z_g1)) H := hP
        have hD : va_D A (w_Seating_best cI cJ cC a_h a_h_bestOrder a_h_order a_h_trial a_h_trial_kinds a_h_trial_sweets a_h_trial_settings a_h_trial_heaps a_g1 a_g1_kinds a_g1_sweets a_g1_settings a_g1_heaps z_h_bestOrder (upd z_h_order x5.toNatClampNeg x5) (r_children z_h_trial) (r_strokes z_h_trial) (r_gave z_h_trial) (r_threw z_h_trial) (r_kinds z_h_trial) (r_sweets z_h_trial) (r_settings z_h_trial) (r_heaps z_h_trial) (r_children z_g1) (r_strokes z_g1) (r_gave z_g1) (r_threw z_g1) (r_kinds z_g1) (r_sweets z_g1) (r_settings z_g1)) := hD
        refine lv_iinc (v := (x5 + 1)) (lv' := [(5, .int (x5 + 1)), (0, .ref a_h), (1, .ref a_g1), (2, .int x2), (3, .int x3), (4, .int x4)]) hx hb d_Seating_best_30 hl (k := 5) rfl (by rfl) (by decide) rfl (fun ls hl => ?_)
        refine lv_goto (tgt := 14) hx hb d_Seating_best_33 (by decide) ?_
        exact ih (upd z_h_order x5.toNatClampNeg x5) (x5 + 1) _ _ _ hf hP hD hS (lv_sub hl [1, 2, 3, 4, 5, 0] rfl)
  have L63 : ∀ (x4 : Int32), ∀ (n : Nat) (z_h_bestOrder : (Nat → Int32)) (z_h_order : (Nat → Int32)) (z_h_trial : RS) (x5 : Int32) (x6 : Int32) (H : Heap) (locs : List Loc) (ls : Array Slot), f_Seating_best_L63 z_g1 x2 x3 x4 n z_h_bestOrder z_h_order z_h_trial x5 x6 = some q → va_P D classes (w_Seating_best cI cJ cC a_h a_h_bestOrder a_h_order a_h_trial a_h_trial_kinds a_h_trial_sweets a_h_trial_settings a_h_trial_heaps a_g1 a_g1_kinds a_g1_sweets a_g1_settings a_g1_heaps z_h_bestOrder z_h_order (r_children z_h_trial) (r_strokes z_h_trial) (r_gave z_h_trial) (r_threw z_h_trial) (r_kinds z_h_trial) (r_sweets z_h_trial) (r_settings z_h_trial) (r_heaps z_h_trial) (r_children z_g1) (r_strokes z_g1) (r_gave z_g1) (r_threw z_g1) (r_kinds z_g1) (r_sweets z_g1) (r_settings z_g1)) H → va_D A (w_Seating_best cI cJ cC a_h a_h_bestOrder a_h_order a_h_trial a_h_trial_kinds a_h_trial_sweets a_h_trial_settings a_h_trial_heaps a_g1 a_g1_kinds a_g1_sweets a_g1_settings a_g1_heaps z_h_bestOrder z_h_order (r_children z_h_trial) (r_strokes z_h_trial) (r_gave z_h_trial) (r_threw z_h_trial) (r_kinds z_h_trial) (r_sweets z_h_trial) (r_settings z_h_trial) (r_heaps z_h_trial) (r_children z_g1) (r_strokes z_g1) (r_gave z_g1) (r_threw z_g1) (r_kinds z_g1) (r_sweets z_g1) (r_settings z_g1)) → va_S A s.heap H locs → lv_has ls 8 [(0, .ref a_h), (1, .ref a_g1), (2, .int x2), (3, .int x3), (4, .int x4), (5, .int x5), (6, .int x6)] → W p l e (xRm 6 135) s m args below meth c H locs 0 0 Q (F0 m 63 ls []) := by
    intro x4 n
    induction n with
    | zero => intro z_h_bestOrder z_h_order z_h_trial x5 x6 H locs ls hf hP hD hS hl; exact nomatch (show (none : Option (Int32 × (Nat → Int32) × (Nat → Int32) × RS)) = some q from hf)
    | succ n ih =>
      intro z_h_bestOrder z_h_order z_h_trial x5 x6 H locs ls hf hP hD hS hl
      refine lv_iload hx hb d_Seating_best_63 (lv_at hl 6 rfl) ?_
      refine lv_bipush (v := 120) hx hb d_Seating_best_65 (by decide) ?_
      refine lv_icmp_ge (tgt := 134) hx hb d_Seating_best_67 (by decide) (fun c6 => ?_) (fun c6 => ?_)
      · have hf := io_t hf c6
        refine lv_iload hx hb d_Seating_best_134 (lv_at hl 5 rfl) ?_
        have hq := Option.some.inj hf
        subst hq
        exact hret _ _ _ _ _ d_Seating_best_136 rfl rfl hP hD hS
      · have hf := io_f hf c6
        refine lv_aload_n hx hb d_Seating_best_70 rfl (lv_at hl 0 rfl) ?_
        refine lv_iload hx hb d_Seating_best_71 (lv_at hl 4 rfl) ?_
        obtain ⟨q7, hq7, hf⟩ := io_b hf
        refine xcVI (wc := (w_Seating_goToNextOrder cI cJ cC a_h a_h_bestOrder a_h_order a_h_trial z_h_order)) (wc' := (w_Seating_goToNextOrder cI cJ cC a_h a_h_bestOrder a_h_order a_h_trial q7.2)) (ws' := (w_Seating_best cI cJ cC a_h a_h_bestOrder a_h_order a_h_trial a_h_trial_kinds a_h_trial_sweets a_h_trial_settings a_h_trial_heaps a_g1 a_g1_kinds a_g1_sweets a_g1_settings a_g1_heaps z_h_bestOrder q7.2 (r_children z_h_trial) (r_strokes z_h_trial) (r_gave z_h_trial) (r_threw z_h_trial) (r_kinds z_h_trial) (r_sweets z_h_trial) (r_settings z_h_trial) (r_heaps z_h_trial) (r_children z_g1) (r_strokes z_g1) (r_gave z_g1) (r_threw z_g1) (r_kinds z_g1) (r_sweets z_g1) (r_settings z_g1))) (As := [.int x4]) (rest := []) hx hb hml hown hT (c_Seating_goToNextOrder (z_h_order := z_h_order) a_h a_h_bestOrder a_h_order a_h_trial hq7) k_651 k_653 ks_21 k_7 k_654 hd_Seating_goToNextOrder ⟨Nat.le_of_ble_eq_true rfl, Nat.le_of_ble_eq_true rfl⟩ xE0_ok trivial hA hK hP hD hS [0, 2] [1, 3, 4, 5, 6, 7, 8, 9, 10, 11] [10, 0, 11, 1, 2, 3, 4, 5, 6, 7, 8, 9] rfl rfl rfl rfl rfl rfl rfl rfl rfl rfl hl.1 rfl (Nat.le_of_ble_eq_true rfl) ⟨Nat.zero_le _, Nat.zero_le _⟩ d_Seating_best_73 (fun H locs hP hD hS => ?_)
        refine lv_if_eq (tgt := 134) hx hb d_Seating_best_76 (by decide) (fun c8 => ?_) (fun c8 => ?_)
        · have hf := io_t hf c8
          refine lv_iload hx hb d_Seating_best_134 (lv_at hl 5 rfl) ?_
          have hq := Option.some.inj hf
          subst hq
          exact hret _ _ _ _ _ d_Seating_best_136 rfl rfl hP hD hS
        · have hf := io_f hf c8
          refine lv_aload_n hx hb d_Seating_best_79 rfl (lv_at hl 0 rfl) ?_
          refine lv_aload_n hx hb d_Seating_best_80 rfl (lv_at hl 1 rfl) ?_
          refine lv_iload_n hx hb d_Seating_best_81 rfl (lv_at hl 2 rfl) ?_
          refine lv_iload_n hx hb d_Seating_best_82 rfl (lv_at hl 3 rfl) ?_
          obtain ⟨q9, hq9, hf⟩ := io_b hf
          refine xcVI (wc := (w_Seating_numberOfOrder cI cJ cC a_h a_h_bestOrder a_h_order a_h_trial a_h_trial_kinds a_h_trial_sweets a_h_trial_settings a_h_trial_heaps a_g1 a_g1_kinds a_g1_sweets a_g1_settings a_g1_heaps q7.2 (r_children z_h_trial) (r_strokes z_h_trial) (r_gave z_h_trial) (r_threw z_h_trial) (r_kinds z_h_trial) (r_sweets z_h_trial) (r_settings z_h_trial) (r_heaps z_h_trial) (r_children z_g1) (r_strokes z_g1) (r_gave z_g1) (r_threw z_g1) (r_kinds z_g1) (r_sweets z_g1) (r_settings z_g1))) (wc' := (w_Seating_numberOfOrder cI cJ cC a_h a_h_bestOrder a_h_order a_h_trial a_h_trial_kinds a_h_trial_sweets a_h_trial_settings a_h_trial_heaps a_g1 a_g1_kinds a_g1_sweets a_g1_settings a_g1_heaps q7.2 (r_children q9.2) (r_strokes q9.2) (r_gave q9.2) (r_threw q9.2) (r_kinds q9.2) (r_sweets q9.2) (r_settings q9.2) (r_heaps q9.2) (r_children z_g1) (r_strokes z_g1) (r_gave z_g1) (r_threw z_g1) (r_kinds z_g1) (r_sweets z_g1) (r_settings z_g1))) (ws' := (w_Seating_best cI cJ cC a_h a_h_bestOrder a_h_order a_h_trial a_h_trial_kinds a_h_trial_sweets a_h_trial_settings a_h_trial_heaps a_g1 a_g1_kinds a_g1_sweets a_g1_settings a_g1_heaps z_h_bestOrder q7.2 (r_children q9.2) (r_strokes q9.2) (r_gave q9.2) (r_threw q9.2) (r_kinds q9.2) (r_sweets q9.2) (r_settings q9.2) (r_heaps q9.2) (r_children z_g1) (r_strokes z_g1) (r_gave z_g1) (r_threw z_g1) (r_kinds z_g1) (r_sweets z_g1) (r_settings z_g1))) (As := [.ref a_g1, .int x2, .int x3]) (rest := []) hx hb hml hown hT (c_Seating_numberOfOrder (z_h_order := q7.2) (z_h_trial := z_h_trial) (z_g1 := z_g1) a_h a_h_bestOrder a_h_order a_h_trial a_h_trial_kinds a_h_trial_sweets a_h_trial_settings a_h_trial_heaps a_g1 a_g1_kinds a_g1_sweets a_g1_settings a_g1_heaps hq9) k_644 k_646 ks_20 k_7 k_647 hd_Seating_numberOfOrder ⟨Nat.le_of_ble_eq_true rfl, Nat.le_of_ble_eq_true rfl⟩ xE0_ok trivial hA hK hP hD hS [0, 2, 3, 4, 5, 6, 7, 8, 9, 10, 11] [1] [1, 0, 2, 3, 4, 5, 6, 7, 8, 9, 10, 11] rfl rfl rfl rfl rfl rfl rfl rfl rfl rfl hl.1 rfl (Nat.le_of_ble_eq_true rfl) ⟨Nat.zero_le _, Nat.zero_le _⟩ d_Seating_best_83 (fun H locs hP hD hS => ?_)
          refine lv_istore (lv' := [(7, .int q9.1), (0, .ref a_h), (1, .ref a_g1), (2, .int x2), (3, .int x3), (4, .int x4), (5, .int x5), (6, .int x6)]) hx hb d_Seating_best_86 hl (by decide) rfl (fun ls hl => ?_)
          refine lv_iload_n hx hb d_Seating_best_88 rfl (lv_at hl 4 rfl) ?_
          refine lv_if_ne (tgt := 102) hx hb d_Seating_best_89 (by decide) (fun c10 => ?_) (fun c10 => ?_)
          · have hf := io_f hf c10
            refine lv_iload hx hb d_Seating_best_102 (lv_at hl 0 rfl) ?_
            refine lv_iload hx hb d_Seating_best_104 (lv_at hl 6 rfl) ?_
            refine lv_icmp_le (tgt := 128) hx hb d_Seating_best_106 (by decide) (fun c11 => ?_) (fun c11 => ?_)
            · have hf := io_t hf c11
              refine lv_iinc (v := (x6 + 1)) (lv' := [(6, .int (x6 + 1)), (7, .int q9.1), (0, .ref a_h), (1, .ref a_g1), (2, .int x2), (3, .int x3), (4, .int x4), (5, .int x5)]) hx hb d_Seating_best_128 hl (k := 7) rfl (by rfl) (by decide) rfl (fun ls hl => ?_)
              refine lv_goto (tgt := 63) hx hb d_Seating_best_131 (by decide) ?_
              exact ih z_h_bestOrder q7.2 q9.2 x5 (x6 + 1) _ _ _ hf hP hD hS (lv_sub hl [2, 3, 4, 5, 6, 7, 0] rfl)
            · have hf := io_f hf c11
              refine lv_iload hx hb d_Seating_best_109 (lv_at hl 0 rfl) ?_
              refine lv_istore (lv' := [(5, .int q9.1), (7, .int q9.1), (0, .ref a_h), (1, .ref a_g1), (2, .int x2), (3, .int x3), (4, .int x4), (6, .int x6)]) hx hb d_Seating_best_111 hl (by decide) rfl (fun ls hl => ?_)
              refine lv_aload_n hx hb d_Seating_best_113 rfl (lv_at hl 2 rfl) ?_
              refine va_get hx hb hT i_Seating hown hK hP 0 rfl rfl 1 (Nat.le_of_ble_eq_true rfl) (hT _ k_159) (fun _ h => h) rfl d_Seating_best_114 ?_
              refine lv_iconst (v := 0) hx hb d_Seating_best_117 (by decide) ?_
              refine lv_aload_n hx hb d_Seating_best_118 rfl (lv_at hl 2 rfl) ?_
              refine va_get hx hb hT i_Seating hown hK hP 0 rfl rfl 0 (Nat.le_of_ble_eq_true rfl) (hT _ k_157) (fun _ h => h) rfl d_Seating_best_119 ?_
              refine lv_iconst (v := 0) hx hb d_Seating_best_122 (by decide) ?_
              refine lv_iload hx hb d_Seating_best_123 (lv_at hl 6 rfl) ?_
              obtain ⟨c12, hf⟩ := io_n hf
              refine x_copyi (j := x4.toNatClampNeg) hx hb (hml.trans hl.1.symm) hown (hT _ k_650) (hT _ k_331) (hT _ k_330) (hT _ k_15) hK hP hD hS 2 1 0 0 rfl rfl rfl rfl rfl (by decide) (by decide) (fun z => c12 (Or.inl z)) (x_cpy c12 (by decide)) (x_cpy c12 (by decide)) rfl (fun _ _ => rfl) (Nat.le_of_ble_eq_true rfl) (by decide +kernel) d_Seating_best_125 (fun H locs hP hD hS => ?_)
              have hP : va_P D classes (w_Seating_best cI cJ cC a_h a_h_bestOrder a_h_order a_h_trial a_h_trial_kinds a_h_trial_sweets a_h_trial_settings a_h_trial_heaps a_g1 a_g1_kinds a_g1_sweets a_g1_settings a_g1_heaps (va_cpy q7.2 z_h_bestOrder 0 0 x4.toNatClampNeg) q7.2 (r_children q9.2) (r_strokes q9.2) (r_gave q9.2) (r_threw q9.2) (r_kinds q9.2) (r_sweets q9.2) (r_settings q9.2) (r_heaps q9.2) (r_children z_g1) (r_strokes z_g1) (r_gave z_g1) (r_threw z_g1) (r_kinds z_g1) (r_sweets z_g1) (r_settings z_g1)) H := hP
              have hD : va_D A (w_Seating_best cI cJ cC a_h a_h_bestOrder a_h_order a_h_trial a_h_trial_kinds a_h_trial_sweets a_h_trial_settings a_h_trial_heaps a_g1 a_g1_kinds a_g1_sweets a_g1_settings a_g1_heaps (va_cpy q7.2 z_h_bestOrder 0 0 x4.toNatClampNeg) q7.2 (r_children q9.2) (r_strokes q9.2) (r_gave q9.2) (r_threw q9.2) (r_kinds q9.2) (r_sweets q9.2) (r_settings q9.2) (r_heaps q9.2) (r_children z_g1) (r_strokes z_g1) (r_gave z_g1) (r_threw z_g1) (r_kinds z_g1) (r_sweets z_g1) (r_settings z_g1)) := hD
              refine lv_iinc (v := (x6 + 1)) (lv' := [(6, .int (x6 + 1)), (5, .int q9.1), (7, .int q9.1), (0, .ref a_h), (1, .ref a_g1), (2, .int x2), (3, .int x3), (4, .int x4)]) hx hb d_Seating_best_128 hl (k := 7) rfl (by rfl) (by decide) rfl (fun ls hl => ?_)
              refine lv_goto (tgt := 63) hx hb d_Seating_best_131 (by decide) ?_
              exact ih (va_cpy q7.2 z_h_bestOrder 0 0 x4.toNatClampNeg) q7.2 q9.2 q9.1 (x6 + 1) _ _ _ hf hP hD hS (lv_sub hl [3, 4, 5, 6, 7, 1, 0] rfl)
          · have hf := io_t hf c10
            refine lv_iload hx hb d_Seating_best_92 (lv_at hl 0 rfl) ?_
            refine lv_iload hx hb d_Seating_best_94 (lv_at hl 6 rfl) ?_
            refine lv_icmp_ge (tgt := 128) hx hb d_Seating_best_96 (by decide) (fun c13 => ?_) (fun c13 => ?_)
            · have hf := io_t hf c13
              refine lv_iinc (v := (x6 + 1)) (lv' := [(6, .int (x6 + 1)), (7, .int q9.1), (0, .ref a_h), (1, .ref a_g1), (2, .int x2), (3, .int x3), (4, .int x4), (5, .int x5)]) hx hb d_Seating_best_128 hl (k := 7) rfl (by rfl) (by decide) rfl (fun ls hl => ?_)
              refine lv_goto (tgt := 63) hx hb d_Seating_best_131 (by decide) ?_
              exact ih z_h_bestOrder q7.2 q9.2 x5 (x6 + 1) _ _ _ hf hP hD hS (lv_sub hl [2, 3, 4, 5, 6, 7, 0] rfl)
            · have hf := io_f hf c13
              refine lv_goto (tgt := 109) hx hb d_Seating_best_99 (by decide) ?_
              refine lv_iload hx hb d_Seating_best_109 (lv_at hl 0 rfl) ?_
              refine lv_istore (lv' := [(5, .int q9.1), (7, .int q9.1), (0, .ref a_h), (1, .ref a_g1), (2, .int x2), (3, .int x3), (4, .int x4), (6, .int x6)]) hx hb d_Seating_best_111 hl (by decide) rfl (fun ls hl => ?_)
              refine lv_aload_n hx hb d_Seating_best_113 rfl (lv_at hl 2 rfl) ?_
              refine va_get hx hb hT i_Seating hown hK hP 0 rfl rfl 1 (Nat.le_of_ble_eq_true rfl) (hT _ k_159) (fun _ h => h) rfl d_Seating_best_114 ?_
              refine lv_iconst (v := 0) hx hb d_Seating_best_117 (by decide) ?_
              refine lv_aload_n hx hb d_Seating_best_118 rfl (lv_at hl 2 rfl) ?_
              refine va_get hx hb hT i_Seating hown hK hP 0 rfl rfl 0 (Nat.le_of_ble_eq_true rfl) (hT _ k_157) (fun _ h => h) rfl d_Seating_best_119 ?_
              refine lv_iconst (v := 0) hx hb d_Seating_best_122 (by decide) ?_
              refine lv_iload hx hb d_Seating_best_123 (lv_at hl 6 rfl) ?_
              obtain ⟨c14, hf⟩ := io_n hf
              refine x_copyi (j := x4.toNatClampNeg) hx hb (hml.trans hl.1.symm) hown (hT _ k_650) (hT _ k_331) (hT _ k_330) (hT _ k_15) hK hP hD hS 2 1 0 0 rfl rfl rfl rfl rfl (by decide) (by decide) (fun z => c14 (Or.inl z)) (x_cpy c14 (by decide)) (x_cpy c14 (by decide)) rfl (fun _ _ => rfl) (Nat.le_of_ble_eq_true rfl) (by decide +kernel) d_Seating_best_125 (fun H locs hP hD hS => ?_)
              have hP : va_P D classes (w_Seating_best cI cJ cC a_h a_h_bestOrder a_h_order a_h_trial a_h_trial_kinds a_h_trial_sweets a_h_trial_settings a_h_trial_heaps a_g1 a_g1_kinds a_g1_sweets a_g1_settings a_g1_heaps (va_cpy q7.2 z_h_bestOrder 0 0 x4.toNatClampNeg) q7.2 (r_children q9.2) (r_strokes q9.2) (r_gave q9.2) (r_threw q9.2) (r_kinds q9.2) (r_sweets q9.2) (r_settings q9.2) (r_heaps q9.2) (r_children z_g1) (r_strokes z_g1) (r_gave z_g1) (r_threw z_g1) (r_kinds z_g1) (r_sweets z_g1) (r_settings z_g1)) H := hP
              have hD : va_D A (w_Seating_best cI cJ cC a_h a_h_bestOrder a_h_order a_h_trial a_h_trial_kinds a_h_trial_sweets a_h_trial_settings a_h_trial_heaps a_g1 a_g1_kinds a_g1_sweets a_g1_settings a_g1_heaps (va_cpy q7.2 z_h_bestOrder 0 0 x4.toNatClampNeg) q7.2 (r_children q9.2) (r_strokes q9.2) (r_gave q9.2) (r_threw q9.2) (r_kinds q9.2) (r_sweets q9.2) (r_settings q9.2) (r_heaps q9.2) (r_children z_g1) (r_strokes z_g1) (r_gave z_g1) (r_threw z_g1) (r_kinds z_g1) (r_sweets z_g1) (r_settings z_g1)) := hD
              refine lv_iinc (v := (x6 + 1)) (lv' := [(6, .int (x6 + 1)), (5, .int q9.1), (7, .int q9.1), (0, .ref a_h), (1, .ref a_g1), (2, .int x2), (3, .int x3), (4, .int x4)]) hx hb d_Seating_best_128 hl (k := 7) rfl (by rfl) (by decide) rfl (fun ls hl => ?_)
              refine lv_goto (tgt := 63) hx hb d_Seating_best_131 (by decide) ?_
              exact ih (va_cpy q7.2 z_h_bestOrder 0 0 x4.toNatClampNeg) q7.2 q9.2 q9.1 (x6 + 1) _ _ _ hf hP hD hS (lv_sub hl [3, 4, 5, 6, 7, 1, 0] rfl)
  refine lv_aload_n hx hb d_Seating_best_0 rfl (lv_at hl 1 rfl) ?_
  refine va_get hx hb hT i_Ring hown hK hP 8 rfl rfl 3 (Nat.le_of_ble_eq_true rfl) (hT _ k_45) (fun _ h => h) rfl d_Seating_best_1 ?_
  refine lv_bipush (v := 6) hx hb d_Seating_best_4 (by decide) ?_
  refine va_mmin hx hb (hml.trans hl.1.symm) hown (hT _ k_643) (hT _ k_265) (hT _ k_11) (hT _ k_266) (Nat.le_of_ble_eq_true rfl) (Nat.le_of_ble_eq_true rfl) (Nat.zero_le _) (Nat.zero_le _) d_Seating_best_6 ?_
  refine lv_istore (lv' := [(4, .int (jmin (r_children z_g1) 6)), (0, .ref a_h), (1, .ref a_g1), (2, .int x2), (3, .int x3)]) hx hb d_Seating_best_9 hl (by decide) rfl (fun ls hl => ?_)
  refine lv_iconst (v := 0) hx hb d_Seating_best_11 (by decide) ?_
  refine lv_istore (lv' := [(5, .int 0), (4, .int (jmin (r_children z_g1) 6)), (0, .ref a_h), (1, .ref a_g1), (2, .int x2), (3, .int x3)]) hx hb d_Seating_best_12 hl (by decide) rfl (fun ls hl => ?_)
  refine L14 z_h_bestOrder z_h_trial (jmin (r_children z_g1) 6) _ (fun z_h_order_3 H locs ls hf hP hD hS hl => ?_) FU z_h_order 0 _ _ _ hf hP hD hS (lv_sub hl [2, 3, 4, 5, 1, 0] rfl)
  refine lv_aload_n hx hb d_Seating_best_36 rfl (lv_at hl 0 rfl) ?_
  refine lv_aload_n hx hb d_Seating_best_37 rfl (lv_at hl 1 rfl) ?_
  refine lv_iload_n hx hb d_Seating_best_38 rfl (lv_at hl 2 rfl) ?_
  refine lv_iload_n hx hb d_Seating_best_39 rfl (lv_at hl 3 rfl) ?_
  obtain ⟨q4, hq4, hf⟩ := io_b hf
  refine xcVI (wc := (w_Seating_numberOfOrder cI cJ cC a_h a_h_bestOrder a_h_order a_h_trial a_h_trial_kinds a_h_trial_sweets a_h_trial_settings a_h_trial_heaps a_g1 a_g1_kinds a_g1_sweets a_g1_settings a_g1_heaps z_h_order_3 (r_children z_h_trial) (r_strokes z_h_trial) (r_gave z_h_trial) (r_threw z_h_trial) (r_kinds z_h_trial) (r_sweets z_h_trial) (r_settings z_h_trial) (r_heaps z_h_trial) (r_children z_g1) (r_strokes z_g1) (r_gave z_g1) (r_threw z_g1) (r_kinds z_g1) (r_sweets z_g1) (r_settings z_g1))) (wc' := (w_Seating_numberOfOrder cI cJ cC a_h a_h_bestOrder a_h_order a_h_trial a_h_trial_kinds a_h_trial_sweets a_h_trial_settings a_h_trial_heaps a_g1 a_g1_kinds a_g1_sweets a_g1_settings a_g1_heaps z_h_order_3 (r_children q4.2) (r_strokes q4.2) (r_gave q4.2) (r_threw q4.2) (r_kinds q4.2) (r_sweets q4.2) (r_settings q4.2) (r_heaps q4.2) (r_children z_g1) (r_strokes z_g1) (r_gave z_g1) (r_threw z_g1) (r_kinds z_g1) (r_sweets z_g1) (r_settings z_g1))) (ws' := (w_Seating_best cI cJ cC a_h a_h_bestOrder a_h_order a_h_trial a_h_trial_kinds a_h_trial_sweets a_h_trial_settings a_h_trial_heaps a_g1 a_g1_kinds a_g1_sweets a_g1_settings a_g1_heaps z_h_bestOrder z_h_order_3 (r_children q4.2) (r_strokes q4.2) (r_gave q4.2) (r_threw q4.2) (r_kinds q4.2) (r_sweets q4.2) (r_settings q4.2) (r_heaps q4.2) (r_children z_g1) (r_strokes z_g1) (r_gave z_g1) (r_threw z_g1) (r_kinds z_g1) (r_sweets z_g1) (r_settings z_g1))) (As := [.ref a_g1, .int x2, .int x3]) (rest := []) hx hb hml hown hT (c_Seating_numberOfOrder (z_h_order := z_h_order_3) (z_h_trial := z_h_trial) (z_g1 := z_g1) a_h a_h_bestOrder a_h_order a_h_trial a_h_trial_kinds a_h_trial_sweets a_h_trial_settings a_h_trial_heaps a_g1 a_g1_kinds a_g1_sweets a_g1_settings a_g1_heaps hq4) k_644 k_646 ks_20 k_7 k_647 hd_Seating_numberOfOrder ⟨Nat.le_of_ble_eq_true rfl, Nat.le_of_ble_eq_true rfl⟩ xE0_ok trivial hA hK hP hD hS [0, 2, 3, 4, 5, 6, 7, 8, 9, 10, 11] [1] [1, 0, 2, 3, 4, 5, 6, 7, 8, 9, 10, 11] rfl rfl rfl rfl rfl rfl rfl rfl rfl rfl hl.1 rfl (Nat.le_of_ble_eq_true rfl) ⟨Nat.zero_le _, Nat.zero_le _⟩ d_Seating_best_40 (fun H locs hP hD hS => ?_)
  refine lv_istore (lv' := [(5, .int q4.1), (0, .ref a_h), (1, .ref a_g1), (2, .int x2), (3, .int x3), (4, .int (jmin (r_children z_g1) 6))]) hx hb d_Seating_best_43 hl (by decide) rfl (fun ls hl => ?_)
  refine lv_aload_n hx hb d_Seating_best_45 rfl (lv_at hl 1 rfl) ?_
  refine va_get hx hb hT i_Seating hown hK hP 0 rfl rfl 1 (Nat.le_of_ble_eq_true rfl) (hT _ k_159) (fun _ h => h) rfl d_Seating_best_46 ?_
  refine lv_iconst (v := 0) hx hb d_Seating_best_49 (by decide) ?_
  refine lv_aload_n hx hb d_Seating_best_50 rfl (lv_at hl 1 rfl) ?_
  refine va_get hx hb hT i_Seating hown hK hP 0 rfl rfl 0 (Nat.le_of_ble_eq_true rfl) (hT _ k_157) (fun _ h => h) rfl d_Seating_best_51 ?_
  refine lv_iconst (v := 0) hx hb d_Seating_best_54 (by decide) ?_
  refine lv_iload hx hb d_Seating_best_55 (lv_at hl 5 rfl) ?_
  obtain ⟨c5, hf⟩ := io_n hf
  refine x_copyi (j := (jmin (r_children z_g1) 6).toNatClampNeg) hx hb (hml.trans hl.1.symm) hown (hT _ k_650) (hT _ k_331) (hT _ k_330) (hT _ k_15) hK hP hD hS 2 1 0 0 rfl rfl rfl rfl rfl (by decide) (by decide) (fun z => c5 (Or.inl z)) (x_cpy c5 (by decide)) (x_cpy c5 (by decide)) rfl (fun _ _ => rfl) (Nat.le_of_ble_eq_true rfl) (by decide +kernel) d_Seating_best_57 (fun H locs hP hD hS => ?_)
  have hP : va_P D classes (w_Seating_best cI cJ cC a_h a_h_bestOrder a_h_order a_h_trial a_h_trial_kinds a_h_trial_sweets a_h_trial_settings a_h_trial_heaps a_g1 a_g1_kinds a_g1_sweets a_g1_settings a_g1_heaps (va_cpy z_h_order_3 z_h_bestOrder 0 0 (jmin (r_children z_g1) 6).toNatClampNeg) z_h_order_3 (r_children q4.2) (r_strokes q4.2) (r_gave q4.2) (r_threw q4.2) (r_kinds q4.2) (r_sweets q4.2) (r_settings q4.2) (r_heaps q4.2) (r_children z_g1) (r_strokes z_g1) (r_gave z_g1) (r_threw z_g1) (r_kinds z_g1) (r_sweets z_g1) (r_settings z_g1)) H := hP
  have hD : va_D A (w_Seating_best cI cJ cC a_h a_h_bestOrder a_h_order a_h_trial a_h_trial_kinds a_h_trial_sweets a_h_trial_settings a_h_trial_heaps a_g1 a_g1_kinds a_g1_sweets a_g1_settings a_g1_heaps (va_cpy z_h_order_3 z_h_bestOrder 0 0 (jmin (r_children z_g1) 6).toNatClampNeg) z_h_order_3 (r_children q4.2) (r_strokes q4.2) (r_gave q4.2) (r_threw q4.2) (r_kinds q4.2) (r_sweets q4.2) (r_settings q4.2) (r_heaps q4.2) (r_children z_g1) (r_strokes z_g1) (r_gave z_g1) (r_threw z_g1) (r_kinds z_g1) (r_sweets z_g1) (r_settings z_g1)) := hD
  refine lv_iconst (v := 1) hx hb d_Seating_best_60 (by decide) ?_
  refine lv_istore (lv' := [(6, .int 1), (5, .int q4.1), (0, .ref a_h), (1, .ref a_g1), (2, .int x2), (3, .int x3), (4, .int (jmin (r_children z_g1) 6))]) hx hb d_Seating_best_61 hl (by decide) rfl (fun ls hl => ?_)
  exact L63 (jmin (r_children z_g1) 6) FU (va_cpy z_h_order_3 z_h_bestOrder 0 0 (jmin (r_children z_g1) 6).toNatClampNeg) z_h_order_3 q4.2 q4.1 1 _ _ _ hf hP hD hS (lv_sub hl [2, 3, 4, 5, 6, 1, 0] rfl)
