/-! The law, from its entry. Printed by wip/p35/gen/lastgen.py; its head is the skeleton's. -/
/-! THE CLAIM OUT OF ONE WALK OF THE LAW'S BODY. Your part is whole_start (and what it stands on); all else here is the same for every law, but numbers. -/
def R_law : String := "HalfToTheLeftLaw"
def lw_P (b : Addr) (xs : List Int32) (args : Array Value) (s : State) : Prop := args = #[.ref b] ∧ s.IntsAt b xs ∧ xs.length ≤ 260 ∧ (Jvm.Cond.and given_1 narrow_1).before args s = true
def lw_Q (_ : Array Value) (s : State) (o : Outcome) (t : State) : Prop := o = .returned (some (.int 1)) ∧ Framed s o t [] 621262 7238462
def lw_Z (below : List Frame) (a : Array Value) (s : State) : State → Prop := fun t => ∃ o, t.status = .running ∧ Ended t below o ∧ lw_Q a s o t
/-- the law's own end, with 1 on the stack, nothing written that was there before, its room as the claim has it -/
theorem lw_ret {p : Program} {l : Launch} {e : Env} {s : State} {m : MethodId} {below : List Frame} {meth : Method} {c : Code} {b : Nat} (hx : p.tables.exec = Jvm.exec) (hb : c.code = code) (hr : meth.sig.returnType = ret) (hlocks : meth.locks = false) {pc : Nat} {H : Heap} {ls : Array Slot} (hdg : decode code pc = .ok (.ireturn, 1)) : W p l e room_1 s m #[Value.ref b] below meth c H [] 621262 7238462 (lw_Z below #[Value.ref b] s) (F0 m pc ls [.int 1]) := by
  intro T hT X
  obtain ⟨fs, hret, hrun, hended, hW, hframe⟩ := X.leave (v := some (.int 1)) (hlocks := hlocks) (fun h => by rw [hr] at h; cases h)
  have hmeth' : T.vm.method? m = some meth := X.method'
  refine ⟨T.setFrames fs, ?_, .returned (some (.int 1)), hrun, hended, rfl, ⟨_, rfl⟩, hW, hframe⟩
  jvm_step X.here [X.here.top, hx, hb, hdg, hmeth', hr, ret, narrow_b1]
  (try refine ⟨rfl, ?_⟩); (try refine ⟨rfl, ?_⟩)
  first | (intro acts; rw [hret _ acts rfl rfl rfl]) | rw [hret _ _ rfl rfl rfl]
  exact Steps.refl _
/-- what holds at the law's entry: the machine, the code, the tables' words (any of lw_tbl by 'hts w (by decide +kernel)'), the script of L ints xs at the cell b, what the Statement gives of the start (any of its parts by flat_of_before) -/
def lw_At (p : Program) (s : State) (m : MethodId) (meth : Method) (c : Code) (b L : Nat) (xs : Nat → Int32) : Prop :=
  p.tables.exec = Jvm.exec ∧ c.code = code ∧ meth.sig.returnType = ret ∧ c.maxLocals = 16 ∧ s.vm.findClass R_law = some m.cls ∧ (∀ w ∈ lw_tbl, w.before #[Value.ref b] s = true) ∧ va_X b L xs s s.heap ∧ b < s.heap.size ∧ meth.locks = false ∧ (Jvm.Cond.and given_1 narrow_1).before #[Value.ref b] s = true
theorem k_15 : Cond.classLink "HalfToTheLeftLaw" 9 "HalfToTheLeft" ∈ gw_tbl := tb_i 15 (by decide +kernel) rfl
theorem k_16 : Cond.instantiable "HalfToTheLeft" 11 ∈ gw_tbl := tb_i 16 (by decide +kernel) rfl
theorem k_17 : Cond.methodLink "HalfToTheLeftLaw" 39 ⟨"HalfToTheLeft", "<init>", "()V"⟩ ∈ gw_tbl := tb_i 17 (by decide +kernel) rfl
theorem k_18 : Cond.instanceMethod ⟨"HalfToTheLeft", "<init>", "()V"⟩ ∈ gw_tbl := tb_i 18 (by decide +kernel) rfl
theorem k_19 : Cond.code ⟨"HalfToTheLeft", "<init>", "()V"⟩ prog_1_method_1_code 1 none ∈ gw_tbl := tb_i 19 (by decide +kernel) rfl
theorem k_396 : Cond.methodLink "HalfToTheLeftLaw" 40 ⟨"HalfToTheLeftLaw", "table", "(LHalfToTheLeft;[III)I"⟩ ∈ gw_tbl := tb_i 396 (by decide +kernel) rfl
theorem k_397 : Cond.static ⟨"HalfToTheLeftLaw", "table", "(LHalfToTheLeft;[III)I"⟩ ∈ gw_tbl := tb_i 397 (by decide +kernel) rfl
theorem k_398 : Cond.code ⟨"HalfToTheLeftLaw", "table", "(LHalfToTheLeft;[III)I"⟩ method_6_code 6 (some .int) ∈ gw_tbl := tb_i 398 (by decide +kernel) rfl
theorem d_Law_law_0 : decode code 0 = .ok (.new 9, 3) := by decide +kernel
theorem d_Law_law_3 : decode code 3 = .ok (.dup, 1) := by decide +kernel
theorem d_Law_law_4 : decode code 4 = .ok (.invokespecial 39, 3) := by decide +kernel
theorem d_Law_law_7 : decode code 7 = .ok (.astore_n 1, 1) := by decide +kernel
theorem d_Law_law_8 : decode code 8 = .ok (.aload_n 1, 1) := by decide +kernel
theorem d_Law_law_9 : decode code 9 = .ok (.aload_n 0, 1) := by decide +kernel
theorem d_Law_law_10 : decode code 10 = .ok (.bipush 8, 2) := by decide +kernel
theorem d_Law_law_12 : decode code 12 = .ok (.bipush 60, 2) := by decide +kernel
theorem d_Law_law_14 : decode code 14 = .ok (.invokestatic 40, 3) := by decide +kernel
set_option maxHeartbeats 4000000 in
set_option maxRecDepth 100000 in
theorem whole_start {p : Program} {e : Env} {s : State} {m : MethodId} {below : List Frame} {meth : Method} {c : Code} (l : Launch) (hflags : l.flags = flags0) {b L : Nat} {xs : Nat → Int32} (hL : L ≤ 260) (C0 : lw_At p s m meth c b L xs) : W p l e room_1 s m #[Value.ref b] below meth c s.heap [] 0 0 (lw_Z below #[Value.ref b] s) (entryFrame m ([Value.ref b] : List Value).toArray 16) := by
  obtain ⟨hx, hb, hr, hml, hown, hts, hXs, hbl, hlocks, hgv⟩ := id C0
  have hA : ∀ q : Nat, s.heap.size ≤ q → (fun q : Nat => s.heap.size ≤ q) q := fun _ h => h
  have hT : ∀ w ∈ gw_tbl, w.before #[Value.ref b] s = true := fun w h => hts w (List.mem_filter.mp h).1
  have hown : s.vm.findClass R_Law = some m.cls := hown
  obtain ⟨c0, iS0, hKn0⟩ := u_known (C := R_X) (T := F_X) (N := 11) (n := 11) hT i_X (hT _ k_16)
  obtain ⟨c1, iS1, hKn1⟩ := u_known (C := R_Ring) (T := F_Ring) (N := 8) (n := 8) hT i_Ring (hT _ k_24)
  obtain ⟨c2, iS2, hKn2⟩ := u_known (C := R_Letters) (T := F_Letters) (N := 3) (n := 3) hT i_Letters (hT _ k_69)
  obtain ⟨c3, iS3, hKn3⟩ := u_known (C := R_Mind) (T := F_Mind) (N := 3) (n := 3) hT i_Mind (hT _ k_89)
  obtain ⟨c4, iS4, hKn4⟩ := u_known (C := R_Crumbs) (T := F_Crumbs) (N := 3) (n := 3) hT i_Crumbs (hT _ k_107)
  obtain ⟨c5, iS5, hKn5⟩ := u_known (C := R_Past) (T := F_Past) (N := 2) (n := 2) hT i_Past (hT _ k_124)
  obtain ⟨c6, iS6, hKn6⟩ := u_known (C := R_Seating) (T := F_Seating) (N := 3) (n := 3) hT i_Seating (hT _ k_139)
  obtain ⟨D, hKc⟩ : ∃ D : va_G, ∀ (k : Nat) (q : vw_C), classes[k]? = some q → u_Kn s q.1 q.2.1 q.2.2 (D.1 k) (D.2 k) := by
    refine ⟨(fun k => match k with | 0 => c0 | 1 => c1 | 2 => c2 | 3 => c3 | 4 => c4 | 5 => c5 | _ => c6, fun k => match k with | 0 => iS0 | 1 => iS1 | 2 => iS2 | 3 => iS3 | 4 => iS4 | 5 => iS5 | _ => iS6), ?_⟩
    intro k q hq
    match k, hq with
    | 0, hq => cases hq; exact hKn0
    | 1, hq => cases hq; exact hKn1
    | 2, hq => cases hq; exact hKn2
    | 3, hq => cases hq; exact hKn3
    | 4, hq => cases hq; exact hKn4
    | 5, hq => cases hq; exact hKn5
    | 6, hq => cases hq; exact hKn6
    | k + 7, hq => simp [classes] at hq
  obtain ⟨cI, hAcI, hNcI⟩ := lx_arr (hT _ k_67)
  obtain ⟨cJ, hAcJ, hNcJ⟩ := lx_arr (hT _ k_122)
  obtain ⟨cC, hAcC, hNcC⟩ := lx_arr (hT _ k_87)
  have hK : va_K D classes (tyK cI cJ cC) s := ⟨hKc, fun k q hk => by
    match k, hk with
    | 0, hk => cases hk; exact ⟨hAcI, hNcI⟩
    | 1, hk => cases hk; exact ⟨hAcJ, hNcJ⟩
    | 2, hk => cases hk; exact ⟨hAcC, hNcC⟩
    | k + 3, hk => simp [tyK] at hk⟩
  obtain ⟨tL, tG, tS, tV, hE⟩ := lx_env hts hgv
  have hX : xSc b L xs (fun q : Nat => s.heap.size ≤ q) s s.heap := by
    obtain ⟨scr, x1, x2, x3, x4, x5⟩ := hXs
    exact ⟨scr, x1, x2, x3, Nat.le_of_eq x4.symm, by rw [x4], x5, Nat.not_le.mpr hbl⟩
  have hS : va_S (fun q : Nat => s.heap.size ≤ q) s.heap s.heap [] := va_S.rf
  have hP : va_P D classes [] s.heap := fun k q h => by simp at h
  have hD : va_D (fun q : Nat => s.heap.size ≤ q) [] := ⟨fun i j p q h => by simp at h, fun k q h => by simp at h⟩
  have hl := lv_entry ([.ref b]) (n := 16) (Nat.le_of_ble_eq_true rfl)
  rw [lg_entry_eq]
  generalize (lg_sl ([.ref b]) ++ List.replicate (16 - (lg_sl ([.ref b])).length) Slot.unset).toArray = ls at hl ⊢
  have hl : lv_has ls 16 [(0, .ref b)] := hl
  refine va_new (ci := 0) (fs := [.null, .null, .int 0, .null, .null, .int 0, .null, .null, .null, .null, .null]) (C := R_X) (T := F_X) (N := 11) hx hb hT i_X t_X t_X_ok hown (hT _ k_15) (hT _ k_16) (hT _ k_1) hK hP hD hS hA rfl (fun j hj => by rcases (show j = 0 ∨ j = 1 ∨ j = 2 ∨ j = 3 ∨ j = 4 ∨ j = 5 ∨ j = 6 ∨ j = 7 ∨ j = 8 ∨ j = 9 ∨ j = 10 by omega) with rfl | rfl | rfl | rfl | rfl | rfl | rfl | rfl | rfl | rfl | rfl <;> rfl) (Nat.le_of_ble_eq_true rfl) (Nat.le_of_ble_eq_true rfl) d_Law_law_0 (fun a_x H hP hD hS => ?_)
  have hP : va_P D classes [(a_x, .inr (0, [.null, .null, .int 0, .null, .null, .int 0, .null, .null, .null, .null, .null]))] H := hP
  have hD : va_D (fun q : Nat => s.heap.size ≤ q) [(a_x, .inr (0, [.null, .null, .int 0, .null, .null, .int 0, .null, .null, .null, .null, .null]))] := hD
  refine lv_dup hx hb d_Law_law_3 rfl ?_
  refine xcN (wc := [(a_x, .inr (0, [.null, .null, .int 0, .null, .null, .int 0, .null, .null, .null, .null, .null]))]) (rest := [.ref a_x]) hx hb hml hown hT (c_X_init a_x) k_17 k_18 k_1 k_19 rfl hd_X_init ⟨Nat.le_of_ble_eq_true rfl, Nat.le_of_ble_eq_true rfl⟩ hA hK hP hD hS [0] [] rfl rfl rfl rfl rfl hl.1 rfl (Nat.le_of_ble_eq_true rfl) ⟨(Nat.le_of_ble_eq_true rfl), (Nat.le_of_ble_eq_true rfl)⟩ d_Law_law_4 (fun wc H locs hw hP hD hS => ?_)
  obtain ⟨a_x_now, a_x_now_kinds, a_x_now_sweets, a_x_now_settings, a_x_now_heaps, a_x_kept, a_x_kept_kinds, a_x_kept_sweets, a_x_kept_settings, a_x_kept_heaps, a_x_letters, a_x_letters_text, a_x_letters_trial, a_x_letters_trial_kinds, a_x_letters_trial_sweets, a_x_letters_trial_settings, a_x_letters_trial_heaps, a_x_numbers, a_x_refusals, a_x_mind, a_x_mind_one, a_x_mind_one_kinds, a_x_mind_one_sweets, a_x_mind_one_settings, a_x_mind_one_heaps, a_x_mind_two, a_x_mind_two_kinds, a_x_mind_two_sweets, a_x_mind_two_settings, a_x_mind_two_heaps, a_x_parts, a_x_parts_have, a_x_parts_next, a_x_past, a_x_past_told, a_x_past_told_kinds, a_x_past_told_sweets, a_x_past_told_settings, a_x_past_told_heaps, a_x_past_struck, a_x_past_struck_kinds, a_x_past_struck_sweets, a_x_past_struck_settings, a_x_past_struck_heaps, a_x_seating, a_x_seating_bestOrder, a_x_seating_order, a_x_seating_trial, a_x_seating_trial_kinds, a_x_seating_trial_sweets, a_x_seating_trial_settings, a_x_seating_trial_heaps, rfl⟩ := hw
  have hP : va_P D classes (nw_X cI cJ cC a_x a_x_now a_x_now_kinds a_x_now_sweets a_x_now_settings a_x_now_heaps a_x_kept a_x_kept_kinds a_x_kept_sweets a_x_kept_settings a_x_kept_heaps a_x_letters a_x_letters_text a_x_letters_trial a_x_letters_trial_kinds a_x_letters_trial_sweets a_x_letters_trial_settings a_x_letters_trial_heaps a_x_numbers a_x_refusals a_x_mind a_x_mind_one a_x_mind_one_kinds a_x_mind_one_sweets a_x_mind_one_settings a_x_mind_one_heaps a_x_mind_two a_x_mind_two_kinds a_x_mind_two_sweets a_x_mind_two_settings a_x_mind_two_heaps a_x_parts a_x_parts_have a_x_parts_next a_x_past a_x_past_told a_x_past_told_kinds a_x_past_told_sweets a_x_past_told_settings a_x_past_told_heaps a_x_past_struck a_x_past_struck_kinds a_x_past_struck_sweets a_x_past_struck_settings a_x_past_struck_heaps a_x_seating a_x_seating_bestOrder a_x_seating_order a_x_seating_trial a_x_seating_trial_kinds a_x_seating_trial_sweets a_x_seating_trial_settings a_x_seating_trial_heaps) H := hP
  have hD : va_D (fun q : Nat => s.heap.size ≤ q) (nw_X cI cJ cC a_x a_x_now a_x_now_kinds a_x_now_sweets a_x_now_settings a_x_now_heaps a_x_kept a_x_kept_kinds a_x_kept_sweets a_x_kept_settings a_x_kept_heaps a_x_letters a_x_letters_text a_x_letters_trial a_x_letters_trial_kinds a_x_letters_trial_sweets a_x_letters_trial_settings a_x_letters_trial_heaps a_x_numbers a_x_refusals a_x_mind a_x_mind_one a_x_mind_one_kinds a_x_mind_one_sweets a_x_mind_one_settings a_x_mind_one_heaps a_x_mind_two a_x_mind_two_kinds a_x_mind_two_sweets a_x_mind_two_settings a_x_mind_two_heaps a_x_parts a_x_parts_have a_x_parts_next a_x_past a_x_past_told a_x_past_told_kinds a_x_past_told_sweets a_x_past_told_settings a_x_past_told_heaps a_x_past_struck a_x_past_struck_kinds a_x_past_struck_sweets a_x_past_struck_settings a_x_past_struck_heaps a_x_seating a_x_seating_bestOrder a_x_seating_order a_x_seating_trial a_x_seating_trial_kinds a_x_seating_trial_sweets a_x_seating_trial_settings a_x_seating_trial_heaps) := hD
  refine lv_astore_n (lv' := [(1, .ref a_x), (0, .ref b)]) hx hb d_Law_law_7 rfl hl (by decide) rfl (fun ls hl => ?_)
  have hP : va_P D classes (w_Law_law cI cJ cC a_x a_x_now a_x_kept a_x_letters a_x_numbers a_x_refusals a_x_mind a_x_parts a_x_past a_x_seating a_x_now_kinds a_x_now_sweets a_x_now_settings a_x_now_heaps a_x_letters_text a_x_letters_trial a_x_letters_trial_kinds a_x_letters_trial_sweets a_x_letters_trial_settings a_x_letters_trial_heaps a_x_mind_one a_x_mind_two a_x_mind_one_kinds a_x_mind_one_sweets a_x_mind_one_settings a_x_mind_one_heaps a_x_mind_two_kinds a_x_mind_two_sweets a_x_mind_two_settings a_x_mind_two_heaps a_x_parts_have a_x_parts_next 0 0 0 (r_children zR0) (r_strokes zR0) (r_gave zR0) (r_threw zR0) (r_kinds zR0) (r_sweets zR0) (r_settings zR0) (r_heaps zR0) 0 (fun _ => 0) (r_children zR0) (r_strokes zR0) (r_gave zR0) (r_threw zR0) (r_kinds zR0) (r_sweets zR0) (r_settings zR0) (r_heaps zR0) (fun _ => 0) (r_children zR0) (r_strokes zR0) (r_gave zR0) (r_threw zR0) (r_kinds zR0) (r_sweets zR0) (r_settings zR0) (r_heaps zR0) (r_children zR0) (r_strokes zR0) (r_gave zR0) (r_threw zR0) (r_kinds zR0) (r_sweets zR0) (r_settings zR0) (r_heaps zR0) 0 (fun _ => 0) (fun _ => 0)) H := x_sub hP [0, 1, 2, 3, 4, 5, 11, 12, 13, 14, 15, 16, 17, 19, 20, 21, 22, 23, 24, 25, 26, 27, 28, 29, 30, 31, 32, 33] rfl
  have hD : va_D (fun q : Nat => s.heap.size ≤ q) (w_Law_law cI cJ cC a_x a_x_now a_x_kept a_x_letters a_x_numbers a_x_refusals a_x_mind a_x_parts a_x_past a_x_seating a_x_now_kinds a_x_now_sweets a_x_now_settings a_x_now_heaps a_x_letters_text a_x_letters_trial a_x_letters_trial_kinds a_x_letters_trial_sweets a_x_letters_trial_settings a_x_letters_trial_heaps a_x_mind_one a_x_mind_two a_x_mind_one_kinds a_x_mind_one_sweets a_x_mind_one_settings a_x_mind_one_heaps a_x_mind_two_kinds a_x_mind_two_sweets a_x_mind_two_settings a_x_mind_two_heaps a_x_parts_have a_x_parts_next 0 0 0 (r_children zR0) (r_strokes zR0) (r_gave zR0) (r_threw zR0) (r_kinds zR0) (r_sweets zR0) (r_settings zR0) (r_heaps zR0) 0 (fun _ => 0) (r_children zR0) (r_strokes zR0) (r_gave zR0) (r_threw zR0) (r_kinds zR0) (r_sweets zR0) (r_settings zR0) (r_heaps zR0) (fun _ => 0) (r_children zR0) (r_strokes zR0) (r_gave zR0) (r_threw zR0) (r_kinds zR0) (r_sweets zR0) (r_settings zR0) (r_heaps zR0) (r_children zR0) (r_strokes zR0) (r_gave zR0) (r_threw zR0) (r_kinds zR0) (r_sweets zR0) (r_settings zR0) (r_heaps zR0) 0 (fun _ => 0) (fun _ => 0)) := hD.sub [0, 1, 2, 3, 4, 5, 11, 12, 13, 14, 15, 16, 17, 19, 20, 21, 22, 23, 24, 25, 26, 27, 28, 29, 30, 31, 32, 33] rfl rfl
  refine lv_aload_n hx hb d_Law_law_8 rfl (lv_at hl 0 rfl) ?_
  refine lv_aload_n hx hb d_Law_law_9 rfl (lv_at hl 1 rfl) ?_
  refine lv_bipush (v := 8) hx hb d_Law_law_10 (by decide) ?_
  refine lv_bipush (v := 60) hx hb d_Law_law_12 (by decide) ?_
  obtain ⟨q1, hq1, hf⟩ := table0 xs (show L < 2 ^ 31 by omega)
  refine xcGI (wc := (w_Law_table cI cJ cC a_x a_x_now a_x_kept a_x_letters a_x_numbers a_x_refusals a_x_mind a_x_parts a_x_past a_x_seating a_x_now_kinds a_x_now_sweets a_x_now_settings a_x_now_heaps a_x_letters_text a_x_letters_trial a_x_letters_trial_kinds a_x_letters_trial_sweets a_x_letters_trial_settings a_x_letters_trial_heaps 0 0 (r_children zR0) (r_strokes zR0) (r_gave zR0) (r_threw zR0) (r_kinds zR0) (r_sweets zR0) (r_settings zR0) (r_heaps zR0) 0 (fun _ => 0) (r_children zR0) (r_strokes zR0) (r_gave zR0) (r_threw zR0) (r_kinds zR0) (r_sweets zR0) (r_settings zR0) (r_heaps zR0) (fun _ => 0))) (wc' := (w_Law_table cI cJ cC a_x a_x_now a_x_kept a_x_letters a_x_numbers a_x_refusals a_x_mind a_x_parts a_x_past a_x_seating a_x_now_kinds a_x_now_sweets a_x_now_settings a_x_now_heaps a_x_letters_text a_x_letters_trial a_x_letters_trial_kinds a_x_letters_trial_sweets a_x_letters_trial_settings a_x_letters_trial_heaps 0 0 (r_children q1.2.1) (r_strokes q1.2.1) (r_gave q1.2.1) (r_threw q1.2.1) (r_kinds q1.2.1) (r_sweets q1.2.1) (r_settings q1.2.1) (r_heaps q1.2.1) q1.2.2.1 q1.2.2.2.1 (r_children q1.2.2.2.2.1) (r_strokes q1.2.2.2.2.1) (r_gave q1.2.2.2.2.1) (r_threw q1.2.2.2.2.1) (r_kinds q1.2.2.2.2.1) (r_sweets q1.2.2.2.2.1) (r_settings q1.2.2.2.2.1) (r_heaps q1.2.2.2.2.1) q1.2.2.2.2.2)) (ws' := (w_Law_law cI cJ cC a_x a_x_now a_x_kept a_x_letters a_x_numbers a_x_refusals a_x_mind a_x_parts a_x_past a_x_seating a_x_now_kinds a_x_now_sweets a_x_now_settings a_x_now_heaps a_x_letters_text a_x_letters_trial a_x_letters_trial_kinds a_x_letters_trial_sweets a_x_letters_trial_settings a_x_letters_trial_heaps a_x_mind_one a_x_mind_two a_x_mind_one_kinds a_x_mind_one_sweets a_x_mind_one_settings a_x_mind_one_heaps a_x_mind_two_kinds a_x_mind_two_sweets a_x_mind_two_settings a_x_mind_two_heaps a_x_parts_have a_x_parts_next 0 0 0 (r_children q1.2.1) (r_strokes q1.2.1) (r_gave q1.2.1) (r_threw q1.2.1) (r_kinds q1.2.1) (r_sweets q1.2.1) (r_settings q1.2.1) (r_heaps q1.2.1) q1.2.2.1 q1.2.2.2.1 (r_children q1.2.2.2.2.1) (r_strokes q1.2.2.2.2.1) (r_gave q1.2.2.2.2.1) (r_threw q1.2.2.2.2.1) (r_kinds q1.2.2.2.2.1) (r_sweets q1.2.2.2.2.1) (r_settings q1.2.2.2.2.1) (r_heaps q1.2.2.2.2.1) q1.2.2.2.2.2 (r_children zR0) (r_strokes zR0) (r_gave zR0) (r_threw zR0) (r_kinds zR0) (r_sweets zR0) (r_settings zR0) (r_heaps zR0) (r_children zR0) (r_strokes zR0) (r_gave zR0) (r_threw zR0) (r_kinds zR0) (r_sweets zR0) (r_settings zR0) (r_heaps zR0) 0 (fun _ => 0) (fun _ => 0))) (As := [.ref a_x, .ref b, .int 8, .int 60]) (rest := []) hx hb hml hown hT (c_Law_table (z_g0_now := zR0) (z_g0_letters_length := 0) (z_g0_letters_text := (fun _ => 0)) (z_g0_letters_trial := zR0) (z_g0_refusals := (fun _ => 0)) a_x a_x_now a_x_kept a_x_letters a_x_numbers a_x_refusals a_x_mind a_x_parts a_x_past a_x_seating a_x_now_kinds a_x_now_sweets a_x_now_settings a_x_now_heaps a_x_letters_text a_x_letters_trial a_x_letters_trial_kinds a_x_letters_trial_sweets a_x_letters_trial_settings a_x_letters_trial_heaps 0 0 hq1) k_396 k_397 k_0 k_398 hd_Law_table ⟨Nat.le_of_ble_eq_true rfl, Nat.le_of_ble_eq_true rfl⟩ (xBo_ok _ _ _ _ _ _ _) (And.intro hE hX) hA hK hP hD hS [0, 1, 2, 3, 4, 5, 6, 7, 8, 9, 10, 11, 12, 13] [14, 15, 16, 17, 18, 19, 20, 21, 22, 23, 24, 25, 26, 27] [14, 15, 16, 17, 18, 19, 20, 21, 22, 23, 24, 25, 26, 27, 0, 1, 2, 3, 4, 5, 6, 7, 8, 9, 10, 11, 12, 13] rfl rfl rfl rfl rfl rfl rfl hl.1 rfl (Nat.le_of_ble_eq_true rfl) ⟨Nat.le_of_ble_eq_true rfl, Nat.le_of_ble_eq_true rfl⟩ d_Law_law_14 (fun H locs hP hD hS => ?_)
  refine W.widen (k := 621262) (n := 7238462) (Nat.le_of_ble_eq_true rfl) (Nat.le_of_ble_eq_true rfl) ?_
  refine law_rest (A := fun q : Nat => s.heap.size ≤ q) (Q := lw_Z below #[Value.ref b] s) (t_LEAST_SETTING := tL) (t_GREATEST_SETTING := tG) (t_str := tS) (t_val := tV) (L := L) (xs := xs) a_x a_x_now a_x_kept a_x_letters a_x_numbers a_x_refusals a_x_mind a_x_parts a_x_past a_x_seating a_x_now_kinds a_x_now_sweets a_x_now_settings a_x_now_heaps a_x_letters_text a_x_letters_trial a_x_letters_trial_kinds a_x_letters_trial_sweets a_x_letters_trial_settings a_x_letters_trial_heaps a_x_mind_one a_x_mind_two a_x_mind_one_kinds a_x_mind_one_sweets a_x_mind_one_settings a_x_mind_one_heaps a_x_mind_two_kinds a_x_mind_two_sweets a_x_mind_two_settings a_x_mind_two_heaps a_x_parts_have a_x_parts_next 0 0 0 (q := 1) hx hb hml hown hT hA hK hE hX (fun H locs pc ls v hdg hv hS => ?_) q1.2.1 q1.2.2.1 q1.2.2.2.1 q1.2.2.2.2.1 q1.2.2.2.2.2 zR0 zR0 0 (fun _ => 0) (fun _ => 0) q1.1 H _ ls hf hP hD hS hl
  subst hv
  refine va_forget (fun q hq => hS.2.2 q hq) ?_
  exact lw_ret hx hb hr hlocks hdg
