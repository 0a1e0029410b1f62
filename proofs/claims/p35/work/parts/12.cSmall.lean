/-! Contracts: Small. Printed by wip/whole/gen. -/
abbrev w_Crumbs_begin (cI cJ cC : ClassId) (a_h a_h_have a_h_next a_g1 a_g1_kinds a_g1_sweets a_g1_settings a_g1_heaps : Nat) (p_h_doublings : Int32) (p_h_have : (Nat → Int64)) (p_g1_children : Int32) (p_g1_strokes : Int32) (p_g1_gave : Int32) (p_g1_threw : Int32) (p_g1_sweets : (Nat → Int32)) : va_W := [(a_h, .inr (4, [.ref a_h_have, .ref a_h_next, .int p_h_doublings])), (a_h_have, .inl (cJ, (8, .inr (.inl p_h_have)))), (a_g1, .inr (1, [.ref a_g1_kinds, .ref a_g1_sweets, .ref a_g1_settings, .int p_g1_children, .int p_g1_strokes, .int p_g1_gave, .int p_g1_threw, .ref a_g1_heaps])), (a_g1_sweets, .inl (cI, (8, .inl p_g1_sweets)))]
theorem d_Crumbs_begin_0 : decode b_Crumbs_begin 0 = .ok (.aload_n 0, 1) := by decide +kernel
theorem d_Crumbs_begin_1 : decode b_Crumbs_begin 1 = .ok (.iconst 0, 1) := by decide +kernel
theorem d_Crumbs_begin_2 : decode b_Crumbs_begin 2 = .ok (.putfield 18, 3) := by decide +kernel
theorem d_Crumbs_begin_5 : decode b_Crumbs_begin 5 = .ok (.iconst 0, 1) := by decide +kernel
theorem d_Crumbs_begin_6 : decode b_Crumbs_begin 6 = .ok (.istore_n 2, 1) := by decide +kernel
theorem d_Crumbs_begin_7 : decode b_Crumbs_begin 7 = .ok (.iload_n 2, 1) := by decide +kernel
theorem d_Crumbs_begin_8 : decode b_Crumbs_begin 8 = .ok (.aload_n 1, 1) := by decide +kernel
theorem d_Crumbs_begin_9 : decode b_Crumbs_begin 9 = .ok (.getfield 29, 3) := by decide +kernel
theorem d_Crumbs_begin_12 : decode b_Crumbs_begin 12 = .ok (.if_icmp .ge 22, 3) := by decide +kernel
theorem d_Crumbs_begin_15 : decode b_Crumbs_begin 15 = .ok (.aload_n 0, 1) := by decide +kernel
theorem d_Crumbs_begin_16 : decode b_Crumbs_begin 16 = .ok (.getfield 9, 3) := by decide +kernel
theorem d_Crumbs_begin_19 : decode b_Crumbs_begin 19 = .ok (.iload_n 2, 1) := by decide +kernel
theorem d_Crumbs_begin_20 : decode b_Crumbs_begin 20 = .ok (.aload_n 1, 1) := by decide +kernel
theorem d_Crumbs_begin_21 : decode b_Crumbs_begin 21 = .ok (.getfield 34, 3) := by decide +kernel
theorem d_Crumbs_begin_24 : decode b_Crumbs_begin 24 = .ok (.iload_n 2, 1) := by decide +kernel
theorem d_Crumbs_begin_25 : decode b_Crumbs_begin 25 = .ok (.iaload, 1) := by decide +kernel
theorem d_Crumbs_begin_26 : decode b_Crumbs_begin 26 = .ok (.i2l, 1) := by decide +kernel
theorem d_Crumbs_begin_27 : decode b_Crumbs_begin 27 = .ok (.lastore, 1) := by decide +kernel
theorem d_Crumbs_begin_28 : decode b_Crumbs_begin 28 = .ok (.iinc 2 1, 3) := by decide +kernel
theorem d_Crumbs_begin_31 : decode b_Crumbs_begin 31 = .ok (.goto (-24), 3) := by decide +kernel
theorem d_Crumbs_begin_34 : decode b_Crumbs_begin 34 = .ok (.return_, 1) := by decide +kernel
set_option maxHeartbeats 4000000 in
set_option maxRecDepth 100000 in
theorem c_Crumbs_begin {l : Launch} {D : va_G} {cI cJ cC : ClassId} (a_h a_h_have a_h_next a_g1 a_g1_kinds a_g1_sweets a_g1_settings a_g1_heaps : Nat) {z_h_doublings : Int32} {z_h_have : (Nat → Int64)} {z_g1 : RS} {q : Int32 × (Nat → Int64)} (hf : f_Crumbs_begin z_h_doublings z_h_have z_g1 = some q) : xV l y_Crumbs_begin b_Crumbs_begin 3 0 0 D (tyK cI cJ cC) xE0 [.ref a_h, .ref a_g1] (w_Crumbs_begin cI cJ cC a_h a_h_have a_h_next a_g1 a_g1_kinds a_g1_sweets a_g1_settings a_g1_heaps z_h_doublings z_h_have (r_children z_g1) (r_strokes z_g1) (r_gave z_g1) (r_threw z_g1) (r_sweets z_g1)) (w_Crumbs_begin cI cJ cC a_h a_h_have a_h_next a_g1 a_g1_kinds a_g1_sweets a_g1_settings a_g1_heaps q.1 q.2 (r_children z_g1) (r_strokes z_g1) (r_gave z_g1) (r_threw z_g1) (r_sweets z_g1)) := by
  refine xV_of (by decide) (Nat.le_of_ble_eq_true rfl) ?_
  intro p e s m args below meth c A Q hx hb hml hown hT hA hP hD hK hS hE hret ls hl
  have hown : s.vm.findClass R_Crumbs = some m.cls := hown
  have hl : lv_has ls 3 [(0, .ref a_h), (1, .ref a_g1)] := hl
  unfold f_Crumbs_begin at hf
  have L7 : ∀ (z_h_doublings : Int32), ∀ (n : Nat) (z_h_have : (Nat → Int64)) (x2 : Int32) (H : Heap) (locs : List Loc) (ls : Array Slot), f_Crumbs_begin_L7 z_h_doublings z_g1 n z_h_have x2 = some q → va_P D classes (w_Crumbs_begin cI cJ cC a_h a_h_have a_h_next a_g1 a_g1_kinds a_g1_sweets a_g1_settings a_g1_heaps z_h_doublings z_h_have (r_children z_g1) (r_strokes z_g1) (r_gave z_g1) (r_threw z_g1) (r_sweets z_g1)) H → va_D A (w_Crumbs_begin cI cJ cC a_h a_h_have a_h_next a_g1 a_g1_kinds a_g1_sweets a_g1_settings a_g1_heaps z_h_doublings z_h_have (r_children z_g1) (r_strokes z_g1) (r_gave z_g1) (r_threw z_g1) (r_sweets z_g1)) → va_S A s.heap H locs → lv_has ls 3 [(0, .ref a_h), (1, .ref a_g1), (2, .int x2)] → W p l e (xRm 0 0) s m args below meth c H locs 0 0 Q (F0 m 7 ls []) := by
    intro z_h_doublings n
    induction n with
    | zero => intro z_h_have x2 H locs ls hf hP hD hS hl; exact nomatch (show (none : Option (Int32 × (Nat → Int64))) = some q from hf)
    | succ n ih =>
      intro z_h_have x2 H locs ls hf hP hD hS hl
      refine lv_iload_n hx hb d_Crumbs_begin_7 rfl (lv_at hl 2 rfl) ?_
      refine lv_aload_n hx hb d_Crumbs_begin_8 rfl (lv_at hl 1 rfl) ?_
      refine va_get hx hb hT i_Ring hown hK hP 2 rfl rfl 3 (Nat.le_of_ble_eq_true rfl) (hT _ k_39) (fun _ h => h) rfl d_Crumbs_begin_9 ?_
      refine lv_icmp_ge (tgt := 34) hx hb d_Crumbs_begin_12 (by decide) (fun c1 => ?_) (fun c1 => ?_)
      · have hf := io_t hf c1
        have hq := Option.some.inj hf
        subst hq
        exact hret _ _ _ _ d_Crumbs_begin_34 hP hD hS
      · have hf := io_f hf c1
        refine lv_aload_n hx hb d_Crumbs_begin_15 rfl (lv_at hl 0 rfl) ?_
        refine va_get hx hb hT i_Crumbs hown hK hP 0 rfl rfl 0 (Nat.le_of_ble_eq_true rfl) (hT _ k_112) (fun _ h => h) rfl d_Crumbs_begin_16 ?_
        refine lv_iload_n hx hb d_Crumbs_begin_19 rfl (lv_at hl 2 rfl) ?_
        refine lv_aload_n hx hb d_Crumbs_begin_20 rfl (lv_at hl 1 rfl) ?_
        refine va_get hx hb hT i_Ring hown hK hP 2 rfl rfl 1 (Nat.le_of_ble_eq_true rfl) (hT _ k_33) (fun _ h => h) rfl d_Crumbs_begin_21 ?_
        refine lv_iload_n hx hb d_Crumbs_begin_24 rfl (lv_at hl 2 rfl) ?_
        obtain ⟨c2, hf⟩ := io_n hf
        refine x_iald hx hb hK hP 3 0 rfl rfl (j := x2.toNatClampNeg) rfl c2 d_Crumbs_begin_25 ?_
        refine lv_i2l (v := (((r_sweets z_g1) x2.toNatClampNeg).toInt64)) hx hb d_Crumbs_begin_26 rfl ?_
        refine x_last hx hb hK hP hD hS 1 1 rfl rfl (j := x2.toNatClampNeg) rfl c2 d_Crumbs_begin_27 (fun H locs hP hD hS => ?_)
        have hP : va_P D classes (w_Crumbs_begin cI cJ cC a_h a_h_have a_h_next a_g1 a_g1_kinds a_g1_sweets a_g1_settings a_g1_heaps z_h_doublings (vp_updL z_h_have x2.toNatClampNeg (((r_sweets z_g1) x2.toNatClampNeg).toInt64)) (r_children z_g1) (r_strokes z_g1) (r_gave z_g1) (r_threw z_g1) (r_sweets z_g1)) H := hP
        have hD : va_D A (w_Crumbs_begin cI cJ cC a_h a_h_have a_h_next a_g1 a_g1_kinds a_g1_sweets a_g1_settings a_g1_heaps z_h_doublings (vp_updL z_h_have x2.toNatClampNeg (((r_sweets z_g1) x2.toNatClampNeg).toInt64)) (r_children z_g1) (r_strokes z_g1) (r_gave z_g1) (r_threw z_g1) (r_sweets z_g1)) := hD
        refine lv_iinc (v := (x2 + 1)) (lv' := [(2, .int (x2 + 1)), (0, .ref a_h), (1, .ref a_g1)]) hx hb d_Crumbs_begin_28 hl (k := 2) rfl (by rfl) (by decide) rfl (fun ls hl => ?_)
        refine lv_goto (tgt := 7) hx hb d_Crumbs_begin_31 (by decide) ?_
        exact ih (vp_updL z_h_have x2.toNatClampNeg (((r_sweets z_g1) x2.toNatClampNeg).toInt64)) (x2 + 1) _ _ _ hf hP hD hS (lv_sub hl [1, 2, 0] rfl)
  refine lv_aload_n hx hb d_Crumbs_begin_0 rfl (lv_at hl 0 rfl) ?_
  refine lv_iconst (v := 0) hx hb d_Crumbs_begin_1 (by decide) ?_
  refine va_put (ty := .int) hx hb hT i_Crumbs t_Crumbs t_Crumbs_ok n_Crumbs hown hK hP hD hS 0 rfl rfl 2 (Nat.le_of_ble_eq_true rfl) (hT _ k_114) (fun _ h => h) rfl rfl rfl rfl (Nat.le_of_ble_eq_true rfl) d_Crumbs_begin_2 (fun H locs hP hD hS => ?_)
  have hP : va_P D classes (w_Crumbs_begin cI cJ cC a_h a_h_have a_h_next a_g1 a_g1_kinds a_g1_sweets a_g1_settings a_g1_heaps 0 z_h_have (r_children z_g1) (r_strokes z_g1) (r_gave z_g1) (r_threw z_g1) (r_sweets z_g1)) H := hP
  have hD : va_D A (w_Crumbs_begin cI cJ cC a_h a_h_have a_h_next a_g1 a_g1_kinds a_g1_sweets a_g1_settings a_g1_heaps 0 z_h_have (r_children z_g1) (r_strokes z_g1) (r_gave z_g1) (r_threw z_g1) (r_sweets z_g1)) := hD
  refine lv_iconst (v := 0) hx hb d_Crumbs_begin_5 (by decide) ?_
  refine lv_istore_n (lv' := [(2, .int 0), (0, .ref a_h), (1, .ref a_g1)]) hx hb d_Crumbs_begin_6 rfl hl (by decide) rfl (fun ls hl => ?_)
  exact L7 0 FU z_h_have 0 _ _ _ hf hP hD hS (lv_sub hl [1, 2, 0] rfl)
abbrev w_Crumbs_advance (cI cJ cC : ClassId) (a_h a_h_have a_h_next a_g1 a_g1_kinds a_g1_sweets a_g1_settings a_g1_heaps : Nat) (p_h_doublings : Int32) (p_h_have : (Nat → Int64)) (p_h_next : (Nat → Int64)) (p_g1_children : Int32) (p_g1_strokes : Int32) (p_g1_gave : Int32) (p_g1_threw : Int32) (p_g1_settings : (Nat → Int32)) : va_W := [(a_h, .inr (4, [.ref a_h_have, .ref a_h_next, .int p_h_doublings])), (a_h_have, .inl (cJ, (8, .inr (.inl p_h_have)))), (a_h_next, .inl (cJ, (8, .inr (.inl p_h_next)))), (a_g1, .inr (1, [.ref a_g1_kinds, .ref a_g1_sweets, .ref a_g1_settings, .int p_g1_children, .int p_g1_strokes, .int p_g1_gave, .int p_g1_threw, .ref a_g1_heaps])), (a_g1_settings, .inl (cI, (3, .inl p_g1_settings)))]
theorem d_Crumbs_advance_0 : decode b_Crumbs_advance 0 = .ok (.iconst 0, 1) := by decide +kernel
theorem d_Crumbs_advance_1 : decode b_Crumbs_advance 1 = .ok (.istore_n 2, 1) := by decide +kernel
theorem d_Crumbs_advance_2 : decode b_Crumbs_advance 2 = .ok (.iload_n 2, 1) := by decide +kernel
theorem d_Crumbs_advance_3 : decode b_Crumbs_advance 3 = .ok (.aload_n 1, 1) := by decide +kernel
theorem d_Crumbs_advance_4 : decode b_Crumbs_advance 4 = .ok (.getfield 29, 3) := by decide +kernel
theorem d_Crumbs_advance_7 : decode b_Crumbs_advance 7 = .ok (.if_icmp .ge 32, 3) := by decide +kernel
theorem d_Crumbs_advance_10 : decode b_Crumbs_advance 10 = .ok (.aload_n 0, 1) := by decide +kernel
theorem d_Crumbs_advance_11 : decode b_Crumbs_advance 11 = .ok (.getfield 15, 3) := by decide +kernel
theorem d_Crumbs_advance_14 : decode b_Crumbs_advance 14 = .ok (.iload_n 2, 1) := by decide +kernel
theorem d_Crumbs_advance_15 : decode b_Crumbs_advance 15 = .ok (.aload_n 0, 1) := by decide +kernel
theorem d_Crumbs_advance_16 : decode b_Crumbs_advance 16 = .ok (.getfield 9, 3) := by decide +kernel
theorem d_Crumbs_advance_19 : decode b_Crumbs_advance 19 = .ok (.iload_n 2, 1) := by decide +kernel
theorem d_Crumbs_advance_20 : decode b_Crumbs_advance 20 = .ok (.laload, 1) := by decide +kernel
theorem d_Crumbs_advance_21 : decode b_Crumbs_advance 21 = .ok (.aload_n 0, 1) := by decide +kernel
theorem d_Crumbs_advance_22 : decode b_Crumbs_advance 22 = .ok (.getfield 9, 3) := by decide +kernel
theorem d_Crumbs_advance_25 : decode b_Crumbs_advance 25 = .ok (.aload_n 1, 1) := by decide +kernel
theorem d_Crumbs_advance_26 : decode b_Crumbs_advance 26 = .ok (.iload_n 2, 1) := by decide +kernel
theorem d_Crumbs_advance_27 : decode b_Crumbs_advance 27 = .ok (.invokevirtual 38, 3) := by decide +kernel
theorem d_Crumbs_advance_30 : decode b_Crumbs_advance 30 = .ok (.laload, 1) := by decide +kernel
theorem d_Crumbs_advance_31 : decode b_Crumbs_advance 31 = .ok (.ladd, 1) := by decide +kernel
theorem d_Crumbs_advance_32 : decode b_Crumbs_advance 32 = .ok (.lastore, 1) := by decide +kernel
theorem d_Crumbs_advance_33 : decode b_Crumbs_advance 33 = .ok (.iinc 2 1, 3) := by decide +kernel
theorem d_Crumbs_advance_36 : decode b_Crumbs_advance 36 = .ok (.goto (-34), 3) := by decide +kernel
theorem d_Crumbs_advance_39 : decode b_Crumbs_advance 39 = .ok (.aload_n 0, 1) := by decide +kernel
theorem d_Crumbs_advance_40 : decode b_Crumbs_advance 40 = .ok (.getfield 15, 3) := by decide +kernel
theorem d_Crumbs_advance_43 : decode b_Crumbs_advance 43 = .ok (.iconst 0, 1) := by decide +kernel
theorem d_Crumbs_advance_44 : decode b_Crumbs_advance 44 = .ok (.aload_n 0, 1) := by decide +kernel
theorem d_Crumbs_advance_45 : decode b_Crumbs_advance 45 = .ok (.getfield 9, 3) := by decide +kernel
theorem d_Crumbs_advance_48 : decode b_Crumbs_advance 48 = .ok (.iconst 0, 1) := by decide +kernel
theorem d_Crumbs_advance_49 : decode b_Crumbs_advance 49 = .ok (.bipush 8, 2) := by decide +kernel
theorem d_Crumbs_advance_51 : decode b_Crumbs_advance 51 = .ok (.invokestatic 42, 3) := by decide +kernel
theorem d_Crumbs_advance_54 : decode b_Crumbs_advance 54 = .ok (.aload_n 0, 1) := by decide +kernel
theorem d_Crumbs_advance_55 : decode b_Crumbs_advance 55 = .ok (.dup, 1) := by decide +kernel
theorem d_Crumbs_advance_56 : decode b_Crumbs_advance 56 = .ok (.getfield 18, 3) := by decide +kernel
theorem d_Crumbs_advance_59 : decode b_Crumbs_advance 59 = .ok (.iconst 1, 1) := by decide +kernel
theorem d_Crumbs_advance_60 : decode b_Crumbs_advance 60 = .ok (.iadd, 1) := by decide +kernel
theorem d_Crumbs_advance_61 : decode b_Crumbs_advance 61 = .ok (.putfield 18, 3) := by decide +kernel
theorem d_Crumbs_advance_64 : decode b_Crumbs_advance 64 = .ok (.return_, 1) := by decide +kernel
set_option maxHeartbeats 4000000 in
set_option maxRecDepth 100000 in
theorem c_Crumbs_advance {l : Launch} {D : va_G} {cI cJ cC : ClassId} (a_h a_h_have a_h_next a_g1 a_g1_kinds a_g1_sweets a_g1_settings a_g1_heaps : Nat) {z_h_doublings : Int32} {z_h_have : (Nat → Int64)} {z_h_next : (Nat → Int64)} {z_g1 : RS} {q : Int32 × (Nat → Int64) × (Nat → Int64)} (hf : f_Crumbs_advance z_h_doublings z_h_have z_h_next z_g1 = some q) : xV l y_Crumbs_advance b_Crumbs_advance 3 1 40 D (tyK cI cJ cC) xE0 [.ref a_h, .ref a_g1] (w_Crumbs_advance cI cJ cC a_h a_h_have a_h_next a_g1 a_g1_kinds a_g1_sweets a_g1_settings a_g1_heaps z_h_doublings z_h_have z_h_next (r_children z_g1) (r_strokes z_g1) (r_gave z_g1) (r_threw z_g1) (r_settings z_g1)) (w_Crumbs_advance cI cJ cC a_h a_h_have a_h_next a_g1 a_g1_kinds a_g1_sweets a_g1_settings a_g1_heaps q.1 q.2.1 q.2.2 (r_children z_g1) (r_strokes z_g1) (r_gave z_g1) (r_threw z_g1) (r_settings z_g1)) := by
  refine xV_of (by decide) (Nat.le_of_ble_eq_true rfl) ?_
  intro p e s m args below meth c A Q hx hb hml hown hT hA hP hD hK hS hE hret ls hl
  have hown : s.vm.findClass R_Crumbs = some m.cls := hown
  have hl : lv_has ls 3 [(0, .ref a_h), (1, .ref a_g1)] := hl
  unfold f_Crumbs_advance at hf
  have L2 : ∀ (z_h_doublings : Int32) (z_h_have : (Nat → Int64)) (k : (Nat → Int64) → Option (Int32 × (Nat → Int64) × (Nat → Int64))), (∀ (z_h_next : (Nat → Int64)) (H : Heap) (locs : List Loc) (ls : Array Slot), k z_h_next = some q → va_P D classes (w_Crumbs_advance cI cJ cC a_h a_h_have a_h_next a_g1 a_g1_kinds a_g1_sweets a_g1_settings a_g1_heaps z_h_doublings z_h_have z_h_next (r_children z_g1) (r_strokes z_g1) (r_gave z_g1) (r_threw z_g1) (r_settings z_g1)) H → va_D A (w_Crumbs_advance cI cJ cC a_h a_h_have a_h_next a_g1 a_g1_kinds a_g1_sweets a_g1_settings a_g1_heaps z_h_doublings z_h_have z_h_next (r_children z_g1) (r_strokes z_g1) (r_gave z_g1) (r_threw z_g1) (r_settings z_g1)) → va_S A s.heap H locs → lv_has ls 3 [(0, .ref a_h)] → W p l e (xRm 1 40) s m args below meth c H locs 0 0 Q (F0 m 39 ls [])) → ∀ (n : Nat) (z_h_next : (Nat → Int64)) (x2 : Int32) (H : Heap) (locs : List Loc) (ls : Array Slot), f_Crumbs_advance_L2 z_h_have z_g1 k n z_h_next x2 = some q → va_P D classes (w_Crumbs_advance cI cJ cC a_h a_h_have a_h_next a_g1 a_g1_kinds a_g1_sweets a_g1_settings a_g1_heaps z_h_doublings z_h_have z_h_next (r_children z_g1) (r_strokes z_g1) (r_gave z_g1) (r_threw z_g1) (r_settings z_g1)) H → va_D A (w_Crumbs_advance cI cJ cC a_h a_h_have a_h_next a_g1 a_g1_kinds a_g1_sweets a_g1_settings a_g1_heaps z_h_doublings z_h_have z_h_next (r_children z_g1) (r_strokes z_g1) (r_gave z_g1) (r_threw z_g1) (r_settings z_g1)) → va_S A s.heap H locs → lv_has ls 3 [(0, .ref a_h), (1, .ref a_g1), (2, .int x2)] → W p l e (xRm 1 40) s m args below meth c H locs 0 0 Q (F0 m 2 ls []) := by
    intro z_h_doublings z_h_have k hk n
    induction n with
    | zero => intro z_h_next x2 H locs ls hf hP hD hS hl; exact nomatch (show (none : Option (Int32 × (Nat → Int64) × (Nat → Int64))) = some q from hf)
    | succ n ih =>
      intro z_h_next x2 H locs ls hf hP hD hS hl
      refine lv_iload_n hx hb d_Crumbs_advance_2 rfl (lv_at hl 2 rfl) ?_
      refine lv_aload_n hx hb d_Crumbs_advance_3 rfl (lv_at hl 1 rfl) ?_
      refine va_get hx hb hT i_Ring hown hK hP 3 rfl rfl 3 (Nat.le_of_ble_eq_true rfl) (hT _ k_39) (fun _ h => h) rfl d_Crumbs_advance_4 ?_
      refine lv_icmp_ge (tgt := 39) hx hb d_Crumbs_advance_7 (by decide) (fun c1 => ?_) (fun c1 => ?_)
      · have hf := io_t hf c1
        exact hk z_h_next _ _ _ hf hP hD hS (lv_sub hl [0] rfl)
      · have hf := io_f hf c1
        refine lv_aload_n hx hb d_Crumbs_advance_10 rfl (lv_at hl 0 rfl) ?_
        refine va_get hx hb hT i_Crumbs hown hK hP 0 rfl rfl 1 (Nat.le_of_ble_eq_true rfl) (hT _ k_113) (fun _ h => h) rfl d_Crumbs_advance_11 ?_
        refine lv_iload_n hx hb d_Crumbs_advance_14 rfl (lv_at hl 2 rfl) ?_
        refine lv_aload_n hx hb d_Crumbs_advance_15 rfl (lv_at hl 0 rfl) ?_
        refine va_get hx hb hT i_Crumbs hown hK hP 0 rfl rfl 0 (Nat.le_of_ble_eq_true rfl) (hT _ k_112) (fun _ h => h) rfl d_Crumbs_advance_16 ?_
        refine lv_iload_n hx hb d_Crumbs_advance_19 rfl (lv_at hl 2 rfl) ?_
        obtain ⟨c2, hf⟩ := io_n hf
        refine x_lald hx hb hK hP 1 1 rfl rfl (j := x2.toNatClampNeg) rfl c2 d_Crumbs_advance_20 ?_
        refine lv_aload_n hx hb d_Crumbs_advance_21 rfl (lv_at hl 0 rfl) ?_
        refine va_get hx hb hT i_Crumbs hown hK hP 0 rfl rfl 0 (Nat.le_of_ble_eq_true rfl) (hT _ k_112) (fun _ h => h) rfl d_Crumbs_advance_22 ?_
        refine lv_aload_n hx hb d_Crumbs_advance_25 rfl (lv_at hl 1 rfl) ?_
        refine lv_iload_n hx hb d_Crumbs_advance_26 rfl (lv_at hl 2 rfl) ?_
        obtain ⟨q3, hq3, hf⟩ := io_b hf
        refine xcVI (wc := (w_Ring_rightOf cI cJ cC a_g1 a_g1_kinds a_g1_sweets a_g1_settings a_g1_heaps (r_children z_g1) (r_strokes z_g1) (r_gave z_g1) (r_threw z_g1) (r_settings z_g1))) (wc' := (w_Ring_rightOf cI cJ cC a_g1 a_g1_kinds a_g1_sweets a_g1_settings a_g1_heaps (r_children z_g1) (r_strokes z_g1) (r_gave z_g1) (r_threw z_g1) (r_settings z_g1))) (ws' := (w_Crumbs_advance cI cJ cC a_h a_h_have a_h_next a_g1 a_g1_kinds a_g1_sweets a_g1_settings a_g1_heaps z_h_doublings z_h_have z_h_next (r_children z_g1) (r_strokes z_g1) (r_gave z_g1) (r_threw z_g1) (r_settings z_g1))) (As := [.int x2]) (rest := [.ref a_h_have, .long (z_h_have x2.toNatClampNeg), .int x2, .ref a_h_next]) hx hb hml hown hT (c_Ring_rightOf (z_h := z_g1) a_g1 a_g1_kinds a_g1_sweets a_g1_settings a_g1_heaps hq3) k_350 k_231 k_232 k_2 k_233 hd_Ring_rightOf ⟨Nat.le_of_ble_eq_true rfl, Nat.le_of_ble_eq_true rfl⟩ xE0_ok trivial hA hK hP hD hS [3, 4] [0, 1, 2] [0, 1, 2, 3, 4] rfl rfl rfl rfl rfl rfl rfl rfl rfl rfl hl.1 rfl (Nat.le_of_ble_eq_true rfl) ⟨Nat.zero_le _, Nat.zero_le _⟩ d_Crumbs_advance_27 (fun H locs hP hD hS => ?_)
        obtain ⟨c4, hf⟩ := io_n hf
        refine x_lald hx hb hK hP 1 1 rfl rfl (j := q3.toNatClampNeg) rfl c4 d_Crumbs_advance_30 ?_
        refine lv_ladd hx hb d_Crumbs_advance_31 ?_
        refine x_last hx hb hK hP hD hS 2 1 rfl rfl (j := x2.toNatClampNeg) rfl c2 d_Crumbs_advance_32 (fun H locs hP hD hS => ?_)
        have hP : va_P D classes (w_Crumbs_advance cI cJ cC a_h a_h_have a_h_next a_g1 a_g1_kinds a_g1_sweets a_g1_settings a_g1_heaps z_h_doublings z_h_have (vp_updL z_h_next x2.toNatClampNeg ((z_h_have x2.toNatClampNeg) + (z_h_have q3.toNatClampNeg))) (r_children z_g1) (r_strokes z_g1) (r_gave z_g1) (r_threw z_g1) (r_settings z_g1)) H := hP
        have hD : va_D A (w_Crumbs_advance cI cJ cC a_h a_h_have a_h_next a_g1 a_g1_kinds a_g1_sweets a_g1_settings a_g1_heaps z_h_doublings z_h_have (vp_updL z_h_next x2.toNatClampNeg ((z_h_have x2.toNatClampNeg) + (z_h_have q3.toNatClampNeg))) (r_children z_g1) (r_strokes z_g1) (r_gave z_g1) (r_threw z_g1) (r_settings z_g1)) := hD
        refine lv_iinc (v := (x2 + 1)) (lv' := [(2, .int (x2 + 1)), (0, .ref a_h), (1, .ref a_g1)]) hx hb d_Crumbs_advance_33 hl (k := 2) rfl (by rfl) (by decide) rfl (fun ls hl => ?_)
        refine lv_goto (tgt := 2) hx hb d_Crumbs_advance_36 (by decide) ?_
        exact ih (vp_updL z_h_next x2.toNatClampNeg ((z_h_have x2.toNatClampNeg) + (z_h_have q3.toNatClampNeg))) (x2 + 1) _ _ _ hf hP hD hS (lv_sub hl [1, 2, 0] rfl)
  refine lv_iconst (v := 0) hx hb d_Crumbs_advance_0 (by decide) ?_
  refine lv_istore_n (lv' := [(2, .int 0), (0, .ref a_h), (1, .ref a_g1)]) hx hb d_Crumbs_advance_1 rfl hl (by decide) rfl (fun ls hl => ?_)
  refine L2 z_h_doublings z_h_have _ (fun z_h_next_5 H locs ls hf hP hD hS hl => ?_) FU z_h_next 0 _ _ _ hf hP hD hS (lv_sub hl [1, 2, 0] rfl)
  refine lv_aload_n hx hb d_Crumbs_advance_39 rfl (lv_at hl 0 rfl) ?_
  refine va_get hx hb hT i_Crumbs hown hK hP 0 rfl rfl 1 (Nat.le_of_ble_eq_true rfl) (hT _ k_113) (fun _ h => h) rfl d_Crumbs_advance_40 ?_
  refine lv_iconst (v := 0) hx hb d_Crumbs_advance_43 (by decide) ?_
  refine lv_aload_n hx hb d_Crumbs_advance_44 rfl (lv_at hl 0 rfl) ?_
  refine va_get hx hb hT i_Crumbs hown hK hP 0 rfl rfl 0 (Nat.le_of_ble_eq_true rfl) (hT _ k_112) (fun _ h => h) rfl d_Crumbs_advance_45 ?_
  refine lv_iconst (v := 0) hx hb d_Crumbs_advance_48 (by decide) ?_
  refine lv_bipush (v := 8) hx hb d_Crumbs_advance_49 (by decide) ?_
  refine x_copyl (j := 8) hx hb (hml.trans hl.1.symm) hown (hT _ k_351) (hT _ k_229) (hT _ k_228) (hT _ k_14) hK hP hD hS 2 1 1 1 rfl rfl rfl rfl rfl (by decide) (by decide) (by decide) (by decide +kernel) (by decide +kernel) (by decide +kernel) (fun _ _ => rfl) (Nat.le_of_ble_eq_true rfl) (by decide +kernel) d_Crumbs_advance_51 (fun H locs hP hD hS => ?_)
  have hP : va_P D classes (w_Crumbs_advance cI cJ cC a_h a_h_have a_h_next a_g1 a_g1_kinds a_g1_sweets a_g1_settings a_g1_heaps z_h_doublings (va_cpy z_h_next_5 z_h_have 0 0 8) z_h_next_5 (r_children z_g1) (r_strokes z_g1) (r_gave z_g1) (r_threw z_g1) (r_settings z_g1)) H := hP
  have hD : va_D A (w_Crumbs_advance cI cJ cC a_h a_h_have a_h_next a_g1 a_g1_kinds a_g1_sweets a_g1_settings a_g1_heaps z_h_doublings (va_cpy z_h_next_5 z_h_have 0 0 8) z_h_next_5 (r_children z_g1) (r_strokes z_g1) (r_gave z_g1) (r_threw z_g1) (r_settings z_g1)) := hD
  refine lv_aload_n hx hb d_Crumbs_advance_54 rfl (lv_at hl 0 rfl) ?_
  refine lv_dup hx hb d_Crumbs_advance_55 rfl ?_
  refine va_get hx hb hT i_Crumbs hown hK hP 0 rfl rfl 2 (Nat.le_of_ble_eq_true rfl) (hT _ k_114) (fun _ h => h) rfl d_Crumbs_advance_56 ?_
  refine lv_iconst (v := 1) hx hb d_Crumbs_advance_59 (by decide) ?_
  refine lv_iadd hx hb d_Crumbs_advance_60 ?_
  refine va_put (ty := .int) hx hb hT i_Crumbs t_Crumbs t_Crumbs_ok n_Crumbs hown hK hP hD hS 0 rfl rfl 2 (Nat.le_of_ble_eq_true rfl) (hT _ k_114) (fun _ h => h) rfl rfl rfl rfl (Nat.le_of_ble_eq_true rfl) d_Crumbs_advance_61 (fun H locs hP hD hS => ?_)
  have hP : va_P D classes (w_Crumbs_advance cI cJ cC a_h a_h_have a_h_next a_g1 a_g1_kinds a_g1_sweets a_g1_settings a_g1_heaps (z_h_doublings + 1) (va_cpy z_h_next_5 z_h_have 0 0 8) z_h_next_5 (r_children z_g1) (r_strokes z_g1) (r_gave z_g1) (r_threw z_g1) (r_settings z_g1)) H := hP
  have hD : va_D A (w_Crumbs_advance cI cJ cC a_h a_h_have a_h_next a_g1 a_g1_kinds a_g1_sweets a_g1_settings a_g1_heaps (z_h_doublings + 1) (va_cpy z_h_next_5 z_h_have 0 0 8) z_h_next_5 (r_children z_g1) (r_strokes z_g1) (r_gave z_g1) (r_threw z_g1) (r_settings z_g1)) := hD
  have hq := Option.some.inj hf
  subst hq
  exact hret _ _ _ _ d_Crumbs_advance_64 hP hD hS
abbrev w_Crumbs_take (cI cJ cC : ClassId) (a_h a_h_have a_h_next a_g1 a_g1_kinds a_g1_sweets a_g1_settings a_g1_heaps : Nat) (p_h_doublings : Int32) (p_h_have : (Nat → Int64)) (p_h_next : (Nat → Int64)) (p_g1_children : Int32) (p_g1_strokes : Int32) (p_g1_gave : Int32) (p_g1_threw : Int32) (p_g1_sweets : (Nat → Int32)) (p_g1_settings : (Nat → Int32)) : va_W := [(a_h, .inr (4, [.ref a_h_have, .ref a_h_next, .int p_h_doublings])), (a_h_have, .inl (cJ, (8, .inr (.inl p_h_have)))), (a_h_next, .inl (cJ, (8, .inr (.inl p_h_next)))), (a_g1, .inr (1, [.ref a_g1_kinds, .ref a_g1_sweets, .ref a_g1_settings, .int p_g1_children, .int p_g1_strokes, .int p_g1_gave, .int p_g1_threw, .ref a_g1_heaps])), (a_g1_sweets, .inl (cI, (8, .inl p_g1_sweets))), (a_g1_settings, .inl (cI, (3, .inl p_g1_settings)))]
theorem d_Crumbs_take_0 : decode b_Crumbs_take 0 = .ok (.aload_n 0, 1) := by decide +kernel
theorem d_Crumbs_take_1 : decode b_Crumbs_take 1 = .ok (.aload_n 1, 1) := by decide +kernel
theorem d_Crumbs_take_2 : decode b_Crumbs_take 2 = .ok (.invokevirtual 22, 3) := by decide +kernel
theorem d_Crumbs_take_5 : decode b_Crumbs_take 5 = .ok (.iconst 0, 1) := by decide +kernel
theorem d_Crumbs_take_6 : decode b_Crumbs_take 6 = .ok (.istore_n 3, 1) := by decide +kernel
theorem d_Crumbs_take_7 : decode b_Crumbs_take 7 = .ok (.iload_n 3, 1) := by decide +kernel
theorem d_Crumbs_take_8 : decode b_Crumbs_take 8 = .ok (.iload_n 2, 1) := by decide +kernel
theorem d_Crumbs_take_9 : decode b_Crumbs_take 9 = .ok (.if_icmp .ge 14, 3) := by decide +kernel
theorem d_Crumbs_take_12 : decode b_Crumbs_take 12 = .ok (.aload_n 0, 1) := by decide +kernel
theorem d_Crumbs_take_13 : decode b_Crumbs_take 13 = .ok (.aload_n 1, 1) := by decide +kernel
theorem d_Crumbs_take_14 : decode b_Crumbs_take 14 = .ok (.invokevirtual 26, 3) := by decide +kernel
theorem d_Crumbs_take_17 : decode b_Crumbs_take 17 = .ok (.iinc 3 1, 3) := by decide +kernel
theorem d_Crumbs_take_20 : decode b_Crumbs_take 20 = .ok (.goto (-13), 3) := by decide +kernel
theorem d_Crumbs_take_23 : decode b_Crumbs_take 23 = .ok (.return_, 1) := by decide +kernel
set_option maxHeartbeats 4000000 in
set_option maxRecDepth 100000 in
theorem c_Crumbs_take {l : Launch} {D : va_G} {cI cJ cC : ClassId} (a_h a_h_have a_h_next a_g1 a_g1_kinds a_g1_sweets a_g1_settings a_g1_heaps : Nat) {z_h_doublings : Int32} {z_h_have : (Nat → Int64)} {z_h_next : (Nat → Int64)} {z_g1 : RS} {x2 : Int32} {q : Int32 × (Nat → Int64) × (Nat → Int64)} (hf : f_Crumbs_take z_h_doublings z_h_have z_h_next z_g1 x2 = some q) : xV l y_Crumbs_take b_Crumbs_take 4 2 62 D (tyK cI cJ cC) xE0 [.ref a_h, .ref a_g1, .int x2] (w_Crumbs_take cI cJ cC a_h a_h_have a_h_next a_g1 a_g1_kinds a_g1_sweets a_g1_settings a_g1_heaps z_h_doublings z_h_have z_h_next (r_children z_g1) (r_strokes z_g1) (r_gave z_g1) (r_threw z_g1) (r_sweets z_g1) (r_settings z_g1)) (w_Crumbs_take cI cJ cC a_h a_h_have a_h_next a_g1 a_g1_kinds a_g1_sweets a_g1_settings a_g1_heaps q.1 q.2.1 q.2.2 (r_children z_g1) (r_strokes z_g1) (r_gave z_g1) (r_threw z_g1) (r_sweets z_g1) (r_settings z_g1)) := by
  refine xV_of (by decide) (Nat.le_of_ble_eq_true rfl) ?_
  intro p e s m args below meth c A Q hx hb hml hown hT hA hP hD hK hS hE hret ls hl
  have hown : s.vm.findClass R_Crumbs = some m.cls := hown
  have hl : lv_has ls 4 [(0, .ref a_h), (1, .ref a_g1), (2, .int x2)] := hl
  unfold f_Crumbs_take at hf
  have L7 : ∀ (n : Nat) (z_h_doublings : Int32) (z_h_have : (Nat → Int64)) (z_h_next : (Nat → Int64)) (x3 : Int32) (H : Heap) (locs : List Loc) (ls : Array Slot), f_Crumbs_take_L7 z_g1 x2 n z_h_doublings z_h_have z_h_next x3 = some q → va_P D classes (w_Crumbs_take cI cJ cC a_h a_h_have a_h_next a_g1 a_g1_kinds a_g1_sweets a_g1_settings a_g1_heaps z_h_doublings z_h_have z_h_next (r_children z_g1) (r_strokes z_g1) (r_gave z_g1) (r_threw z_g1) (r_sweets z_g1) (r_settings z_g1)) H → va_D A (w_Crumbs_take cI cJ cC a_h a_h_have a_h_next a_g1 a_g1_kinds a_g1_sweets a_g1_settings a_g1_heaps z_h_doublings z_h_have z_h_next (r_children z_g1) (r_strokes z_g1) (r_gave z_g1) (r_threw z_g1) (r_sweets z_g1) (r_settings z_g1)) → va_S A s.heap H locs → lv_has ls 4 [(0, .ref a_h), (1, .ref a_g1), (2, .int x2), (3, .int x3)] → W p l e (xRm 2 62) s m args below meth c H locs 0 0 Q (F0 m 7 ls []) := by
    intro n
    induction n with
    | zero => intro z_h_doublings z_h_have z_h_next x3 H locs ls hf hP hD hS hl; exact nomatch (show (none : Option (Int32 × (Nat → Int64) × (Nat → Int64))) = some q from hf)
    | succ n ih =>
      intro z_h_doublings z_h_have z_h_next x3 H locs ls hf hP hD hS hl
      refine lv_iload_n hx hb d_Crumbs_take_7 rfl (lv_at hl 3 rfl) ?_
      refine lv_iload_n hx hb d_Crumbs_take_8 rfl (lv_at hl 2 rfl) ?_
      refine lv_icmp_ge (tgt := 23) hx hb d_Crumbs_take_9 (by decide) (fun c2 => ?_) (fun c2 => ?_)
      · have hf := io_t hf c2
        have hq := Option.some.inj hf
        subst hq
        exact hret _ _ _ _ d_Crumbs_take_23 hP hD hS
      · have hf := io_f hf c2
        refine lv_aload_n hx hb d_Crumbs_take_12 rfl (lv_at hl 0 rfl) ?_
        refine lv_aload_n hx hb d_Crumbs_take_13 rfl (lv_at hl 1 rfl) ?_
        obtain ⟨q3, hq3, hf⟩ := io_b hf
        refine xcVV (wc := (w_Crumbs_advance cI cJ cC a_h a_h_have a_h_next a_g1 a_g1_kinds a_g1_sweets a_g1_settings a_g1_heaps z_h_doublings z_h_have z_h_next (r_children z_g1) (r_strokes z_g1) (r_gave z_g1) (r_threw z_g1) (r_settings z_g1))) (wc' := (w_Crumbs_advance cI cJ cC a_h a_h_have a_h_next a_g1 a_g1_kinds a_g1_sweets a_g1_settings a_g1_heaps q3.1 q3.2.1 q3.2.2 (r_children z_g1) (r_strokes z_g1) (r_gave z_g1) (r_threw z_g1) (r_settings z_g1))) (ws' := (w_Crumbs_take cI cJ cC a_h a_h_have a_h_next a_g1 a_g1_kinds a_g1_sweets a_g1_settings a_g1_heaps q3.1 q3.2.1 q3.2.2 (r_children z_g1) (r_strokes z_g1) (r_gave z_g1) (r_threw z_g1) (r_sweets z_g1) (r_settings z_g1))) (As := [.ref a_g1]) (rest := []) hx hb hml hown hT (c_Crumbs_advance (z_h_doublings := z_h_doublings) (z_h_have := z_h_have) (z_h_next := z_h_next) (z_g1 := z_g1) a_h a_h_have a_h_next a_g1 a_g1_kinds a_g1_sweets a_g1_settings a_g1_heaps hq3) k_346 k_348 ks_5 k_5 k_349 hd_Crumbs_advance ⟨Nat.le_of_ble_eq_true rfl, Nat.le_of_ble_eq_true rfl⟩ xE0_ok trivial hA hK hP hD hS [0, 1, 2, 3, 5] [4] [1, 2, 3, 4, 0, 5] rfl rfl rfl rfl rfl rfl rfl rfl rfl rfl hl.1 rfl (Nat.le_of_ble_eq_true rfl) ⟨Nat.zero_le _, Nat.zero_le _⟩ d_Crumbs_take_14 (fun H locs hP hD hS => ?_)
        refine lv_iinc (v := (x3 + 1)) (lv' := [(3, .int (x3 + 1)), (0, .ref a_h), (1, .ref a_g1), (2, .int x2)]) hx hb d_Crumbs_take_17 hl (k := 3) rfl (by rfl) (by decide) rfl (fun ls hl => ?_)
        refine lv_goto (tgt := 7) hx hb d_Crumbs_take_20 (by decide) ?_
        exact ih q3.1 q3.2.1 q3.2.2 (x3 + 1) _ _ _ hf hP hD hS (lv_sub hl [1, 2, 3, 0] rfl)
  refine lv_aload_n hx hb d_Crumbs_take_0 rfl (lv_at hl 0 rfl) ?_
  refine lv_aload_n hx hb d_Crumbs_take_1 rfl (lv_at hl 1 rfl) ?_
  obtain ⟨q1, hq1, hf⟩ := io_b hf
  refine xcVV (wc := (w_Crumbs_begin cI cJ cC a_h a_h_have a_h_next a_g1 a_g1_kinds a_g1_sweets a_g1_settings a_g1_heaps z_h_doublings z_h_have (r_children z_g1) (r_strokes z_g1) (r_gave z_g1) (r_threw z_g1) (r_sweets z_g1))) (wc' := (w_Crumbs_begin cI cJ cC a_h a_h_have a_h_next a_g1 a_g1_kinds a_g1_sweets a_g1_settings a_g1_heaps q1.1 q1.2 (r_children z_g1) (r_strokes z_g1) (r_gave z_g1) (r_threw z_g1) (r_sweets z_g1))) (ws' := (w_Crumbs_take cI cJ cC a_h a_h_have a_h_next a_g1 a_g1_kinds a_g1_sweets a_g1_settings a_g1_heaps q1.1 q1.2 z_h_next (r_children z_g1) (r_strokes z_g1) (r_gave z_g1) (r_threw z_g1) (r_sweets z_g1) (r_settings z_g1))) (As := [.ref a_g1]) (rest := []) hx hb hml hown hT (c_Crumbs_begin (z_h_doublings := z_h_doublings) (z_h_have := z_h_have) (z_g1 := z_g1) a_h a_h_have a_h_next a_g1 a_g1_kinds a_g1_sweets a_g1_settings a_g1_heaps hq1) k_342 k_344 ks_4 k_5 k_345 hd_Crumbs_begin ⟨Nat.le_of_ble_eq_true rfl, Nat.le_of_ble_eq_true rfl⟩ xE0_ok trivial hA hK hP hD hS [0, 1, 3, 4] [2, 5] [2, 3, 0, 4, 5, 1] rfl rfl rfl rfl rfl rfl rfl rfl rfl rfl hl.1 rfl (Nat.le_of_ble_eq_true rfl) ⟨Nat.zero_le _, Nat.zero_le _⟩ d_Crumbs_take_2 (fun H locs hP hD hS => ?_)
  refine lv_iconst (v := 0) hx hb d_Crumbs_take_5 (by decide) ?_
  refine lv_istore_n (lv' := [(3, .int 0), (0, .ref a_h), (1, .ref a_g1), (2, .int x2)]) hx hb d_Crumbs_take_6 rfl hl (by decide) rfl (fun ls hl => ?_)
  exact L7 FU q1.1 q1.2 z_h_next 0 _ _ _ hf hP hD hS (lv_sub hl [1, 2, 3, 0] rfl)
abbrev w_Crumbs_halvings (cI cJ cC : ClassId) (a_h a_h_have a_h_next : Nat) (p_h_doublings : Int32) (p_h_have : (Nat → Int64)) : va_W := [(a_h, .inr (4, [.ref a_h_have, .ref a_h_next, .int p_h_doublings])), (a_h_have, .inl (cJ, (8, .inr (.inl p_h_have))))]
theorem d_Crumbs_halvings_0 : decode b_Crumbs_halvings 0 = .ok (.iconst 0, 1) := by decide +kernel
theorem d_Crumbs_halvings_1 : decode b_Crumbs_halvings 1 = .ok (.istore_n 2, 1) := by decide +kernel
theorem d_Crumbs_halvings_2 : decode b_Crumbs_halvings 2 = .ok (.iload_n 2, 1) := by decide +kernel
theorem d_Crumbs_halvings_3 : decode b_Crumbs_halvings 3 = .ok (.aload_n 0, 1) := by decide +kernel
theorem d_Crumbs_halvings_4 : decode b_Crumbs_halvings 4 = .ok (.getfield 18, 3) := by decide +kernel
theorem d_Crumbs_halvings_7 : decode b_Crumbs_halvings 7 = .ok (.if_icmp .ge 26, 3) := by decide +kernel
theorem d_Crumbs_halvings_10 : decode b_Crumbs_halvings 10 = .ok (.aload_n 0, 1) := by decide +kernel
theorem d_Crumbs_halvings_11 : decode b_Crumbs_halvings 11 = .ok (.getfield 9, 3) := by decide +kernel
theorem d_Crumbs_halvings_14 : decode b_Crumbs_halvings 14 = .ok (.iload_n 1, 1) := by decide +kernel
theorem d_Crumbs_halvings_15 : decode b_Crumbs_halvings 15 = .ok (.laload, 1) := by decide +kernel
theorem d_Crumbs_halvings_16 : decode b_Crumbs_halvings 16 = .ok (.iload_n 2, 1) := by decide +kernel
theorem d_Crumbs_halvings_17 : decode b_Crumbs_halvings 17 = .ok (.lshr, 1) := by decide +kernel
theorem d_Crumbs_halvings_18 : decode b_Crumbs_halvings 18 = .ok (.ldc2_w 51, 3) := by decide +kernel
theorem d_Crumbs_halvings_21 : decode b_Crumbs_halvings 21 = .ok (.lrem, 1) := by decide +kernel
theorem d_Crumbs_halvings_22 : decode b_Crumbs_halvings 22 = .ok (.lconst 0, 1) := by decide +kernel
theorem d_Crumbs_halvings_23 : decode b_Crumbs_halvings 23 = .ok (.lcmp, 1) := by decide +kernel
theorem d_Crumbs_halvings_24 : decode b_Crumbs_halvings 24 = .ok (.ifCond .ne 9, 3) := by decide +kernel
theorem d_Crumbs_halvings_27 : decode b_Crumbs_halvings 27 = .ok (.iinc 2 1, 3) := by decide +kernel
theorem d_Crumbs_halvings_30 : decode b_Crumbs_halvings 30 = .ok (.goto (-28), 3) := by decide +kernel
theorem d_Crumbs_halvings_33 : decode b_Crumbs_halvings 33 = .ok (.iload_n 2, 1) := by decide +kernel
theorem d_Crumbs_halvings_34 : decode b_Crumbs_halvings 34 = .ok (.ireturn, 1) := by decide +kernel
set_option maxHeartbeats 4000000 in
set_option maxRecDepth 100000 in
theorem c_Crumbs_halvings {l : Launch} {D : va_G} {cI cJ cC : ClassId} (a_h a_h_have a_h_next : Nat) {z_h_doublings : Int32} {z_h_have : (Nat → Int64)} {x1 : Int32} {q : Int32} (hf : f_Crumbs_halvings z_h_doublings z_h_have x1 = some q) : xI l y_Crumbs_halvings b_Crumbs_halvings 3 .int 0 0 D (tyK cI cJ cC) xE0 [.ref a_h, .int x1] (w_Crumbs_halvings cI cJ cC a_h a_h_have a_h_next z_h_doublings z_h_have) q (w_Crumbs_halvings cI cJ cC a_h a_h_have a_h_next z_h_doublings z_h_have) := by
  refine xI_of (by decide) (Nat.le_of_ble_eq_true rfl) ?_
  intro p e s m args below meth c A Q hx hb hml hown hT hA hP hD hK hS hE hret ls hl
  have hown : s.vm.findClass R_Crumbs = some m.cls := hown
  have hl : lv_has ls 3 [(0, .ref a_h), (1, .int x1)] := hl
  unfold f_Crumbs_halvings at hf
  have L2 : ∀ (n : Nat) (x2 : Int32) (H : Heap) (locs : List Loc) (ls : Array Slot), f_Crumbs_halvings_L2 z_h_doublings z_h_have x1 n x2 = some q → va_P D classes (w_Crumbs_halvings cI cJ cC a_h a_h_have a_h_next z_h_doublings z_h_have) H → va_D A (w_Crumbs_halvings cI cJ cC a_h a_h_have a_h_next z_h_doublings z_h_have) → va_S A s.heap H locs → lv_has ls 3 [(0, .ref a_h), (1, .int x1), (2, .int x2)] → W p l e (xRm 0 0) s m args below meth c H locs 0 0 Q (F0 m 2 ls []) := by
    intro n
    induction n with
    | zero => intro x2 H locs ls hf hP hD hS hl; exact nomatch (show (none : Option (Int32)) = some q from hf)
    | succ n ih =>
      intro x2 H locs ls hf hP hD hS hl
      refine lv_iload_n hx hb d_Crumbs_halvings_2 rfl (lv_at hl 2 rfl) ?_
      refine lv_aload_n hx hb d_Crumbs_halvings_3 rfl (lv_at hl 0 rfl) ?_
      refine va_get hx hb hT i_Crumbs hown hK hP 0 rfl rfl 2 (Nat.le_of_ble_eq_true rfl) (hT _ k_114) (fun _ h => h) rfl d_Crumbs_halvings_4 ?_
      refine lv_icmp_ge (tgt := 33) hx hb d_Crumbs_halvings_7 (by decide) (fun c1 => ?_) (fun c1 => ?_)
      · have hf := io_t hf c1
        refine lv_iload_n hx hb d_Crumbs_halvings_33 rfl (lv_at hl 2 rfl) ?_
        have hq := Option.some.inj hf
        subst hq
        exact hret _ _ _ _ _ d_Crumbs_halvings_34 rfl rfl hP hD hS
      · have hf := io_f hf c1
        refine lv_aload_n hx hb d_Crumbs_halvings_10 rfl (lv_at hl 0 rfl) ?_
        refine va_get hx hb hT i_Crumbs hown hK hP 0 rfl rfl 0 (Nat.le_of_ble_eq_true rfl) (hT _ k_112) (fun _ h => h) rfl d_Crumbs_halvings_11 ?_
        refine lv_iload_n hx hb d_Crumbs_halvings_14 rfl (lv_at hl 1 rfl) ?_
        obtain ⟨c2, hf⟩ := io_n hf
        refine x_lald hx hb hK hP 1 1 rfl rfl (j := x1.toNatClampNeg) rfl c2 d_Crumbs_halvings_15 ?_
        refine lv_iload_n hx hb d_Crumbs_halvings_16 rfl (lv_at hl 2 rfl) ?_
        refine lv_lshr (v := ((z_h_have x1.toNatClampNeg) >>> (x2.toInt64 &&& 63))) hx hb d_Crumbs_halvings_17 rfl ?_
        refine lv_ldc2 (v := 2) hx hb hown (hT _ k_360) d_Crumbs_halvings_18 ?_
        refine x_lrem hx hb d_Crumbs_halvings_21 (by decide) ?_
        refine lv_lconst (v := 0) hx hb d_Crumbs_halvings_22 (by decide) ?_
        refine W.lcmp hx hb d_Crumbs_halvings_23 ?_
        refine lv_if_ne (tgt := 33) hx hb d_Crumbs_halvings_24 (by decide) (fun c3 => ?_) (fun c3 => ?_)
        · have hf := io_f hf c3
          refine lv_iload_n hx hb d_Crumbs_halvings_33 rfl (lv_at hl 2 rfl) ?_
          have hq := Option.some.inj hf
          subst hq
          exact hret _ _ _ _ _ d_Crumbs_halvings_34 rfl rfl hP hD hS
        · have hf := io_t hf c3
          refine lv_iinc (v := (x2 + 1)) (lv' := [(2, .int (x2 + 1)), (0, .ref a_h), (1, .int x1)]) hx hb d_Crumbs_halvings_27 hl (k := 2) rfl (by rfl) (by decide) rfl (fun ls hl => ?_)
          refine lv_goto (tgt := 2) hx hb d_Crumbs_halvings_30 (by decide) ?_
          exact ih (x2 + 1) _ _ _ hf hP hD hS (lv_sub hl [1, 2, 0] rfl)
  refine lv_iconst (v := 0) hx hb d_Crumbs_halvings_0 (by decide) ?_
  refine lv_istore_n (lv' := [(2, .int 0), (0, .ref a_h), (1, .int x1)]) hx hb d_Crumbs_halvings_1 rfl hl (by decide) rfl (fun ls hl => ?_)
  exact L2 FU 0 _ _ _ hf hP hD hS (lv_sub hl [1, 2, 0] rfl)
abbrev w_Crumbs_above (cI cJ cC : ClassId) (a_h a_h_have a_h_next : Nat) (p_h_doublings : Int32) (p_h_have : (Nat → Int64)) : va_W := [(a_h, .inr (4, [.ref a_h_have, .ref a_h_next, .int p_h_doublings])), (a_h_have, .inl (cJ, (8, .inr (.inl p_h_have))))]
theorem d_Crumbs_above_0 : decode b_Crumbs_above 0 = .ok (.aload_n 0, 1) := by decide +kernel
theorem d_Crumbs_above_1 : decode b_Crumbs_above 1 = .ok (.getfield 9, 3) := by decide +kernel
theorem d_Crumbs_above_4 : decode b_Crumbs_above 4 = .ok (.iload_n 1, 1) := by decide +kernel
theorem d_Crumbs_above_5 : decode b_Crumbs_above 5 = .ok (.laload, 1) := by decide +kernel
theorem d_Crumbs_above_6 : decode b_Crumbs_above 6 = .ok (.aload_n 0, 1) := by decide +kernel
theorem d_Crumbs_above_7 : decode b_Crumbs_above 7 = .ok (.iload_n 1, 1) := by decide +kernel
theorem d_Crumbs_above_8 : decode b_Crumbs_above 8 = .ok (.invokevirtual 48, 3) := by decide +kernel
theorem d_Crumbs_above_11 : decode b_Crumbs_above 11 = .ok (.lshr, 1) := by decide +kernel
theorem d_Crumbs_above_12 : decode b_Crumbs_above 12 = .ok (.lreturn, 1) := by decide +kernel
set_option maxHeartbeats 4000000 in
set_option maxRecDepth 100000 in
theorem c_Crumbs_above {l : Launch} {D : va_G} {cI cJ cC : ClassId} (a_h a_h_have a_h_next : Nat) {z_h_doublings : Int32} {z_h_have : (Nat → Int64)} {x1 : Int32} {q : Int64} (hf : f_Crumbs_above z_h_doublings z_h_have x1 = some q) : xL l y_Crumbs_above b_Crumbs_above 2 .long 1 22 D (tyK cI cJ cC) xE0 [.ref a_h, .int x1] (w_Crumbs_above cI cJ cC a_h a_h_have a_h_next z_h_doublings z_h_have) q (w_Crumbs_above cI cJ cC a_h a_h_have a_h_next z_h_doublings z_h_have) := by
  refine xL_of (by decide) (Nat.le_of_ble_eq_true rfl) ?_
  intro p e s m args below meth c A Q hx hb hml hown hT hA hP hD hK hS hE hret ls hl
  have hown : s.vm.findClass R_Crumbs = some m.cls := hown
  have hl : lv_has ls 2 [(0, .ref a_h), (1, .int x1)] := hl
  unfold f_Crumbs_above at hf
  refine lv_aload_n hx hb d_Crumbs_above_0 rfl (lv_at hl 0 rfl) ?_
  refine va_get hx hb hT i_Crumbs hown hK hP 0 rfl rfl 0 (Nat.le_of_ble_eq_true rfl) (hT _ k_112) (fun _ h => h) rfl d_Crumbs_above_1 ?_
  refine lv_iload_n hx hb d_Crumbs_above_4 rfl (lv_at hl 1 rfl) ?_
  obtain ⟨c1, hf⟩ := io_n hf
  refine x_lald hx hb hK hP 1 1 rfl rfl (j := x1.toNatClampNeg) rfl c1 d_Crumbs_above_5 ?_
  refine lv_aload_n hx hb d_Crumbs_above_6 rfl (lv_at hl 0 rfl) ?_
  refine lv_iload_n hx hb d_Crumbs_above_7 rfl (lv_at hl 1 rfl) ?_
  obtain ⟨q2, hq2, hf⟩ := io_b hf
  refine xcVI (wc := (w_Crumbs_halvings cI cJ cC a_h a_h_have a_h_next z_h_doublings z_h_have)) (wc' := (w_Crumbs_halvings cI cJ cC a_h a_h_have a_h_next z_h_doublings z_h_have)) (ws' := (w_Crumbs_above cI cJ cC a_h a_h_have a_h_next z_h_doublings z_h_have)) (As := [.int x1]) (rest := [.long (z_h_have x1.toNatClampNeg)]) hx hb hml hown hT (c_Crumbs_halvings (z_h_doublings := z_h_doublings) (z_h_have := z_h_have) a_h a_h_have a_h_next hq2) k_356 k_358 ks_6 k_5 k_359 hd_Crumbs_halvings ⟨Nat.le_of_ble_eq_true rfl, Nat.le_of_ble_eq_true rfl⟩ xE0_ok trivial hA hK hP hD hS [0, 1] [] [0, 1] rfl rfl rfl rfl rfl rfl rfl rfl rfl rfl hl.1 rfl (Nat.le_of_ble_eq_true rfl) ⟨Nat.zero_le _, Nat.zero_le _⟩ d_Crumbs_above_8 (fun H locs hP hD hS => ?_)
  refine lv_lshr (v := ((z_h_have x1.toNatClampNeg) >>> (q2.toInt64 &&& 63))) hx hb d_Crumbs_above_11 rfl ?_
  have hq := Option.some.inj hf
  subst hq
  exact hret _ _ _ _ _ d_Crumbs_above_12 rfl hP hD hS
abbrev w_Crumbs_below (cI cJ cC : ClassId) (a_h a_h_have a_h_next : Nat) (p_h_doublings : Int32) (p_h_have : (Nat → Int64)) : va_W := [(a_h, .inr (4, [.ref a_h_have, .ref a_h_next, .int p_h_doublings])), (a_h_have, .inl (cJ, (8, .inr (.inl p_h_have))))]
theorem d_Crumbs_below_0 : decode b_Crumbs_below 0 = .ok (.lconst 1, 1) := by decide +kernel
theorem d_Crumbs_below_1 : decode b_Crumbs_below 1 = .ok (.aload_n 0, 1) := by decide +kernel
theorem d_Crumbs_below_2 : decode b_Crumbs_below 2 = .ok (.getfield 18, 3) := by decide +kernel
theorem d_Crumbs_below_5 : decode b_Crumbs_below 5 = .ok (.aload_n 0, 1) := by decide +kernel
theorem d_Crumbs_below_6 : decode b_Crumbs_below 6 = .ok (.iload_n 1, 1) := by decide +kernel
theorem d_Crumbs_below_7 : decode b_Crumbs_below 7 = .ok (.invokevirtual 48, 3) := by decide +kernel
theorem d_Crumbs_below_10 : decode b_Crumbs_below 10 = .ok (.isub, 1) := by decide +kernel
theorem d_Crumbs_below_11 : decode b_Crumbs_below 11 = .ok (.lshl, 1) := by decide +kernel
theorem d_Crumbs_below_12 : decode b_Crumbs_below 12 = .ok (.lreturn, 1) := by decide +kernel
set_option maxHeartbeats 4000000 in
set_option maxRecDepth 100000 in
theorem c_Crumbs_below {l : Launch} {D : va_G} {cI cJ cC : ClassId} (a_h a_h_have a_h_next : Nat) {z_h_doublings : Int32} {z_h_have : (Nat → Int64)} {x1 : Int32} {q : Int64} (hf : f_Crumbs_below z_h_doublings z_h_have x1 = some q) : xL l y_Crumbs_below b_Crumbs_below 2 .long 1 22 D (tyK cI cJ cC) xE0 [.ref a_h, .int x1] (w_Crumbs_below cI cJ cC a_h a_h_have a_h_next z_h_doublings z_h_have) q (w_Crumbs_below cI cJ cC a_h a_h_have a_h_next z_h_doublings z_h_have) := by
  refine xL_of (by decide) (Nat.le_of_ble_eq_true rfl) ?_
  intro p e s m args below meth c A Q hx hb hml hown hT hA hP hD hK hS hE hret ls hl
  have hown : s.vm.findClass R_Crumbs = some m.cls := hown
  have hl : lv_has ls 2 [(0, .ref a_h), (1, .int x1)] := hl
  unfold f_Crumbs_below at hf
  refine lv_lconst (v := 1) hx hb d_Crumbs_below_0 (by decide) ?_
  refine lv_aload_n hx hb d_Crumbs_below_1 rfl (lv_at hl 0 rfl) ?_
  refine va_get hx hb hT i_Crumbs hown hK hP 0 rfl rfl 2 (Nat.le_of_ble_eq_true rfl) (hT _ k_114) (fun _ h => h) rfl d_Crumbs_below_2 ?_
  refine lv_aload_n hx hb d_Crumbs_below_5 rfl (lv_at hl 0 rfl) ?_
  refine lv_iload_n hx hb d_Crumbs_below_6 rfl (lv_at hl 1 rfl) ?_
  obtain ⟨q1, hq1, hf⟩ := io_b hf
  refine xcVI (wc := (w_Crumbs_halvings cI cJ cC a_h a_h_have a_h_next z_h_doublings z_h_have)) (wc' := (w_Crumbs_halvings cI cJ cC a_h a_h_have a_h_next z_h_doublings z_h_have)) (ws' := (w_Crumbs_below cI cJ cC a_h a_h_have a_h_next z_h_doublings z_h_have)) (As := [.int x1]) (rest := [.int z_h_doublings, .long 1]) hx hb hml hown hT (c_Crumbs_halvings (z_h_doublings := z_h_doublings) (z_h_have := z_h_have) a_h a_h_have a_h_next hq1) k_356 k_358 ks_6 k_5 k_359 hd_Crumbs_halvings ⟨Nat.le_of_ble_eq_true rfl, Nat.le_of_ble_eq_true rfl⟩ xE0_ok trivial hA hK hP hD hS [0, 1] [] [0, 1] rfl rfl rfl rfl rfl rfl rfl rfl rfl rfl hl.1 rfl (Nat.le_of_ble_eq_true rfl) ⟨Nat.zero_le _, Nat.zero_le _⟩ d_Crumbs_below_7 (fun H locs hP hD hS => ?_)
  refine lv_isub hx hb d_Crumbs_below_10 ?_
  refine lv_lshl (v := (1 <<< ((z_h_doublings - q1).toInt64 &&& 63))) hx hb d_Crumbs_below_11 rfl ?_
  have hq := Option.some.inj hf
  subst hq
  exact hret _ _ _ _ _ d_Crumbs_below_12 rfl hP hD hS
