section
-- ===== PART A: goes FIRST, ahead of the names: the tables' words, and 'selects' of the private methods out of them =====
/-- a private method of a class that the tables say can be made, by its rows of tables_1 -/
def lw_okq (q : MethodName × Nat) : Prop := (q.1.cls ≠ "java/lang/invoke/MethodHandle" ∧ q.1.cls ≠ "java/lang/invoke/VarHandle") ∧ Cond.instantiable q.1.cls q.2 ∈ tables_1 ∧ Cond.privateMethod q.1 ∈ tables_1 ∧ Cond.instanceMethod q.1 ∈ tables_1
theorem lw_p0 : lw_okq (⟨"HalfToTheLeft", "refuse", "(I)I"⟩, 11) := ⟨⟨by decide +kernel, by decide +kernel⟩, List.mem_of_getElem? (i := 16) (by decide +kernel), List.mem_of_getElem? (i := 199) (by decide +kernel), List.mem_of_getElem? (i := 200) (by decide +kernel)⟩
theorem lw_p1 : lw_okq (⟨"HalfToTheLeft$Ring", "handOn", "()V"⟩, 8) := ⟨⟨by decide +kernel, by decide +kernel⟩, List.mem_of_getElem? (i := 24) (by decide +kernel), List.mem_of_getElem? (i := 224) (by decide +kernel), List.mem_of_getElem? (i := 225) (by decide +kernel)⟩
theorem lw_p2 : lw_okq (⟨"HalfToTheLeft$Ring", "mend", "(I)V"⟩, 8) := ⟨⟨by decide +kernel, by decide +kernel⟩, List.mem_of_getElem? (i := 24) (by decide +kernel), List.mem_of_getElem? (i := 238) (by decide +kernel), List.mem_of_getElem? (i := 239) (by decide +kernel)⟩
theorem lw_p3 : lw_okq (⟨"HalfToTheLeft", "areTwo", "(II)Z"⟩, 11) := ⟨⟨by decide +kernel, by decide +kernel⟩, List.mem_of_getElem? (i := 16) (by decide +kernel), List.mem_of_getElem? (i := 326) (by decide +kernel), List.mem_of_getElem? (i := 327) (by decide +kernel)⟩
theorem lw_p4 : lw_okq (⟨"HalfToTheLeft$Crumbs", "begin", "(LHalfToTheLeft$Ring;)V"⟩, 3) := ⟨⟨by decide +kernel, by decide +kernel⟩, List.mem_of_getElem? (i := 107) (by decide +kernel), List.mem_of_getElem? (i := 343) (by decide +kernel), List.mem_of_getElem? (i := 344) (by decide +kernel)⟩
theorem lw_p5 : lw_okq (⟨"HalfToTheLeft$Crumbs", "advance", "(LHalfToTheLeft$Ring;)V"⟩, 3) := ⟨⟨by decide +kernel, by decide +kernel⟩, List.mem_of_getElem? (i := 107) (by decide +kernel), List.mem_of_getElem? (i := 347) (by decide +kernel), List.mem_of_getElem? (i := 348) (by decide +kernel)⟩
theorem lw_p6 : lw_okq (⟨"HalfToTheLeft$Crumbs", "halvings", "(I)I"⟩, 3) := ⟨⟨by decide +kernel, by decide +kernel⟩, List.mem_of_getElem? (i := 107) (by decide +kernel), List.mem_of_getElem? (i := 357) (by decide +kernel), List.mem_of_getElem? (i := 358) (by decide +kernel)⟩
theorem lw_p7 : lw_okq (⟨"HalfToTheLeft$Letters", "placeOfBadForm", "()I"⟩, 3) := ⟨⟨by decide +kernel, by decide +kernel⟩, List.mem_of_getElem? (i := 69) (by decide +kernel), List.mem_of_getElem? (i := 422) (by decide +kernel), List.mem_of_getElem? (i := 423) (by decide +kernel)⟩
theorem lw_p8 : lw_okq (⟨"HalfToTheLeft$Letters", "carryOutOne", "(II)Z"⟩, 3) := ⟨⟨by decide +kernel, by decide +kernel⟩, List.mem_of_getElem? (i := 69) (by decide +kernel), List.mem_of_getElem? (i := 522) (by decide +kernel), List.mem_of_getElem? (i := 523) (by decide +kernel)⟩
theorem lw_p9 : lw_okq (⟨"HalfToTheLeft$Letters", "letterAt", "(I)C"⟩, 3) := ⟨⟨by decide +kernel, by decide +kernel⟩, List.mem_of_getElem? (i := 69) (by decide +kernel), List.mem_of_getElem? (i := 526) (by decide +kernel), List.mem_of_getElem? (i := 527) (by decide +kernel)⟩
theorem lw_p10 : lw_okq (⟨"HalfToTheLeft$Letters", "number", "(II)I"⟩, 3) := ⟨⟨by decide +kernel, by decide +kernel⟩, List.mem_of_getElem? (i := 69) (by decide +kernel), List.mem_of_getElem? (i := 530) (by decide +kernel), List.mem_of_getElem? (i := 531) (by decide +kernel)⟩
theorem lw_p11 : lw_okq (⟨"HalfToTheLeft$Letters", "bring", "(II)Z"⟩, 3) := ⟨⟨by decide +kernel, by decide +kernel⟩, List.mem_of_getElem? (i := 69) (by decide +kernel), List.mem_of_getElem? (i := 538) (by decide +kernel), List.mem_of_getElem? (i := 539) (by decide +kernel)⟩
def lw_privs_1 : List (MethodName × Nat) := [(⟨"HalfToTheLeft", "refuse", "(I)I"⟩, 11), (⟨"HalfToTheLeft$Ring", "handOn", "()V"⟩, 8), (⟨"HalfToTheLeft$Ring", "mend", "(I)V"⟩, 8), (⟨"HalfToTheLeft", "areTwo", "(II)Z"⟩, 11), (⟨"HalfToTheLeft$Crumbs", "begin", "(LHalfToTheLeft$Ring;)V"⟩, 3), (⟨"HalfToTheLeft$Crumbs", "advance", "(LHalfToTheLeft$Ring;)V"⟩, 3), (⟨"HalfToTheLeft$Crumbs", "halvings", "(I)I"⟩, 3), (⟨"HalfToTheLeft$Letters", "placeOfBadForm", "()I"⟩, 3), (⟨"HalfToTheLeft$Letters", "carryOutOne", "(II)Z"⟩, 3), (⟨"HalfToTheLeft$Letters", "letterAt", "(I)C"⟩, 3), (⟨"HalfToTheLeft$Letters", "number", "(II)I"⟩, 3), (⟨"HalfToTheLeft$Letters", "bring", "(II)Z"⟩, 3)]
theorem lw_r1 : ∀ q ∈ lw_privs_1, lw_okq q := List.forall_mem_cons.mpr ⟨lw_p0, List.forall_mem_cons.mpr ⟨lw_p1, List.forall_mem_cons.mpr ⟨lw_p2, List.forall_mem_cons.mpr ⟨lw_p3, List.forall_mem_cons.mpr ⟨lw_p4, List.forall_mem_cons.mpr ⟨lw_p5, List.forall_mem_cons.mpr ⟨lw_p6, List.forall_mem_cons.mpr ⟨lw_p7, List.forall_mem_cons.mpr ⟨lw_p8, List.forall_mem_cons.mpr ⟨lw_p9, List.forall_mem_cons.mpr ⟨lw_p10, List.forall_mem_cons.mpr ⟨lw_p11, fun _ h => absurd h List.not_mem_nil⟩⟩⟩⟩⟩⟩⟩⟩⟩⟩⟩⟩
def lw_privs : List (MethodName × Nat) := lw_privs_1
def lw_tbl : List Cond := k2_sels lw_privs ++ tables_1
theorem lw_privs_ok : ∀ q ∈ lw_privs, lw_okq q := lw_r1
end
section
/-! Names: classes, their fields, methods, bundles of values; printed by wip/whole/gen. -/
def gw_tbl : List Cond := lw_tbl.filter goodWord
theorem tb_i {w : Cond} (i : Nat) (h : tables_1[i]? = some w) (hg : goodWord w = true) : w ∈ gw_tbl := List.mem_filter.mpr ⟨List.mem_append_right _ (List.mem_of_getElem? h), hg⟩
theorem tb_s {w : Cond} (i : Nat) (h : (k2_sels lw_privs)[i]? = some w) (hg : goodWord w = true) : w ∈ gw_tbl := List.mem_filter.mpr ⟨List.mem_append_left _ (List.mem_of_getElem? h), hg⟩
abbrev R_X : String := "HalfToTheLeft"
def F_X : u_T := fun k => match k with
  | 0 => ("HalfToTheLeft", "now", "LHalfToTheLeft$Ring;", true)
  | 1 => ("HalfToTheLeft", "kept", "LHalfToTheLeft$Ring;", true)
  | 2 => ("HalfToTheLeft", "isKept", "Z", false)
  | 3 => ("HalfToTheLeft", "letters", "LHalfToTheLeft$Letters;", true)
  | 4 => ("HalfToTheLeft", "numbers", "[I", true)
  | 5 => ("HalfToTheLeft", "numberCount", "I", false)
  | 6 => ("HalfToTheLeft", "refusals", "[I", true)
  | 7 => ("HalfToTheLeft", "mind", "LHalfToTheLeft$Mind;", true)
  | 8 => ("HalfToTheLeft", "parts", "LHalfToTheLeft$Crumbs;", true)
  | 9 => ("HalfToTheLeft", "past", "LHalfToTheLeft$Past;", true)
  | _ => ("HalfToTheLeft", "seating", "LHalfToTheLeft$Seating;", true)
def t_X : Nat → FieldType := fun k => match k with
  | 0 => .object "HalfToTheLeft$Ring"
  | 1 => .object "HalfToTheLeft$Ring"
  | 2 => .boolean
  | 3 => .object "HalfToTheLeft$Letters"
  | 4 => .array .int
  | 5 => .int
  | 6 => .array .int
  | 7 => .object "HalfToTheLeft$Mind"
  | 8 => .object "HalfToTheLeft$Crumbs"
  | 9 => .object "HalfToTheLeft$Past"
  | _ => .object "HalfToTheLeft$Seating"
theorem n_X : ∀ a, a < 11 → ∀ b, b < 11 → a ≠ b → (F_X a).2.1 ≠ (F_X b).2.1 := by decide +kernel
theorem t_X_ok : ∀ k, k < 11 → parseFieldDescriptor (F_X k).2.2.1 = some (t_X k) := by decide +kernel
theorem i_X : ∀ w ∈ u_ws R_X F_X 11, w ∈ gw_tbl := by decide +kernel
abbrev R_Ring : String := "HalfToTheLeft$Ring"
def F_Ring : u_T := fun k => match k with
  | 0 => ("HalfToTheLeft$Ring", "kinds", "[I", true)
  | 1 => ("HalfToTheLeft$Ring", "sweets", "[I", true)
  | 2 => ("HalfToTheLeft$Ring", "settings", "[I", true)
  | 3 => ("HalfToTheLeft$Ring", "children", "I", false)
  | 4 => ("HalfToTheLeft$Ring", "strokes", "I", false)
  | 5 => ("HalfToTheLeft$Ring", "gave", "I", false)
  | 6 => ("HalfToTheLeft$Ring", "threw", "I", false)
  | _ => ("HalfToTheLeft$Ring", "heaps", "[I", true)
def t_Ring : Nat → FieldType := fun k => match k with
  | 0 => .array .int
  | 1 => .array .int
  | 2 => .array .int
  | 3 => .int
  | 4 => .int
  | 5 => .int
  | 6 => .int
  | _ => .array .int
theorem n_Ring : ∀ a, a < 8 → ∀ b, b < 8 → a ≠ b → (F_Ring a).2.1 ≠ (F_Ring b).2.1 := by decide +kernel
theorem t_Ring_ok : ∀ k, k < 8 → parseFieldDescriptor (F_Ring k).2.2.1 = some (t_Ring k) := by decide +kernel
theorem i_Ring : ∀ w ∈ u_ws R_Ring F_Ring 8, w ∈ gw_tbl := by decide +kernel
abbrev R_Letters : String := "HalfToTheLeft$Letters"
def F_Letters : u_T := fun k => match k with
  | 0 => ("HalfToTheLeft$Letters", "length", "I", false)
  | 1 => ("HalfToTheLeft$Letters", "text", "[C", true)
  | _ => ("HalfToTheLeft$Letters", "trial", "LHalfToTheLeft$Ring;", true)
def t_Letters : Nat → FieldType := fun k => match k with
  | 0 => .int
  | 1 => .array .char
  | _ => .object "HalfToTheLeft$Ring"
theorem n_Letters : ∀ a, a < 3 → ∀ b, b < 3 → a ≠ b → (F_Letters a).2.1 ≠ (F_Letters b).2.1 := by decide +kernel
theorem t_Letters_ok : ∀ k, k < 3 → parseFieldDescriptor (F_Letters k).2.2.1 = some (t_Letters k) := by decide +kernel
theorem i_Letters : ∀ w ∈ u_ws R_Letters F_Letters 3, w ∈ gw_tbl := by decide +kernel
abbrev R_Mind : String := "HalfToTheLeft$Mind"
def F_Mind : u_T := fun k => match k with
  | 0 => ("HalfToTheLeft$Mind", "one", "LHalfToTheLeft$Ring;", true)
  | 1 => ("HalfToTheLeft$Mind", "two", "LHalfToTheLeft$Ring;", true)
  | _ => ("HalfToTheLeft$Mind", "seed", "I", false)
def t_Mind : Nat → FieldType := fun k => match k with
  | 0 => .object "HalfToTheLeft$Ring"
  | 1 => .object "HalfToTheLeft$Ring"
  | _ => .int
theorem n_Mind : ∀ a, a < 3 → ∀ b, b < 3 → a ≠ b → (F_Mind a).2.1 ≠ (F_Mind b).2.1 := by decide +kernel
theorem t_Mind_ok : ∀ k, k < 3 → parseFieldDescriptor (F_Mind k).2.2.1 = some (t_Mind k) := by decide +kernel
theorem i_Mind : ∀ w ∈ u_ws R_Mind F_Mind 3, w ∈ gw_tbl := by decide +kernel
abbrev R_Crumbs : String := "HalfToTheLeft$Crumbs"
def F_Crumbs : u_T := fun k => match k with
  | 0 => ("HalfToTheLeft$Crumbs", "have", "[J", true)
  | 1 => ("HalfToTheLeft$Crumbs", "next", "[J", true)
  | _ => ("HalfToTheLeft$Crumbs", "doublings", "I", false)
def t_Crumbs : Nat → FieldType := fun k => match k with
  | 0 => .array .long
  | 1 => .array .long
  | _ => .int
theorem n_Crumbs : ∀ a, a < 3 → ∀ b, b < 3 → a ≠ b → (F_Crumbs a).2.1 ≠ (F_Crumbs b).2.1 := by decide +kernel
theorem t_Crumbs_ok : ∀ k, k < 3 → parseFieldDescriptor (F_Crumbs k).2.2.1 = some (t_Crumbs k) := by decide +kernel
theorem i_Crumbs : ∀ w ∈ u_ws R_Crumbs F_Crumbs 3, w ∈ gw_tbl := by decide +kernel
abbrev R_Past : String := "HalfToTheLeft$Past"
def F_Past : u_T := fun k => match k with
  | 0 => ("HalfToTheLeft$Past", "told", "LHalfToTheLeft$Ring;", true)
  | _ => ("HalfToTheLeft$Past", "struck", "LHalfToTheLeft$Ring;", true)
def t_Past : Nat → FieldType := fun k => match k with
  | 0 => .object "HalfToTheLeft$Ring"
  | _ => .object "HalfToTheLeft$Ring"
theorem n_Past : ∀ a, a < 2 → ∀ b, b < 2 → a ≠ b → (F_Past a).2.1 ≠ (F_Past b).2.1 := by decide +kernel
theorem t_Past_ok : ∀ k, k < 2 → parseFieldDescriptor (F_Past k).2.2.1 = some (t_Past k) := by decide +kernel
theorem i_Past : ∀ w ∈ u_ws R_Past F_Past 2, w ∈ gw_tbl := by decide +kernel
abbrev R_Seating : String := "HalfToTheLeft$Seating"
def F_Seating : u_T := fun k => match k with
  | 0 => ("HalfToTheLeft$Seating", "bestOrder", "[I", true)
  | 1 => ("HalfToTheLeft$Seating", "order", "[I", true)
  | _ => ("HalfToTheLeft$Seating", "trial", "LHalfToTheLeft$Ring;", true)
def t_Seating : Nat → FieldType := fun k => match k with
  | 0 => .array .int
  | 1 => .array .int
  | _ => .object "HalfToTheLeft$Ring"
theorem n_Seating : ∀ a, a < 3 → ∀ b, b < 3 → a ≠ b → (F_Seating a).2.1 ≠ (F_Seating b).2.1 := by decide +kernel
theorem t_Seating_ok : ∀ k, k < 3 → parseFieldDescriptor (F_Seating k).2.2.1 = some (t_Seating k) := by decide +kernel
theorem i_Seating : ∀ w ∈ u_ws R_Seating F_Seating 3, w ∈ gw_tbl := by decide +kernel
abbrev R_Str : String := "java/lang/String"
abbrev R_Lat : String := "java/lang/StringLatin1"
abbrev R_Law : String := "HalfToTheLeftLaw"
abbrev classes : List vw_C := [(R_X, F_X, 11), (R_Ring, F_Ring, 8), (R_Letters, F_Letters, 3), (R_Mind, F_Mind, 3), (R_Crumbs, F_Crumbs, 3), (R_Past, F_Past, 2), (R_Seating, F_Seating, 3)]
abbrev RS : Type := (Nat → Int32) × (Nat → Int32) × (Nat → Int32) × (Nat → Int32) × Int32 × Int32 × Int32 × Int32
abbrev r_kinds (z : RS) : Nat → Int32 := z.1
abbrev r_sweets (z : RS) : Nat → Int32 := z.2.1
abbrev r_settings (z : RS) : Nat → Int32 := z.2.2.1
abbrev r_heaps (z : RS) : Nat → Int32 := z.2.2.2.1
abbrev r_children (z : RS) : Int32 := z.2.2.2.2.1
abbrev r_strokes (z : RS) : Int32 := z.2.2.2.2.2.1
abbrev r_gave (z : RS) : Int32 := z.2.2.2.2.2.2.1
abbrev r_threw (z : RS) : Int32 := z.2.2.2.2.2.2.2
def s_LEAST_SETTING : Nat → Int32 := fun k => if k = 1 then 1 else 0
def s_GREATEST_SETTING : Nat → Int32 := fun k => if k = 0 then 2 else if k = 1 then 3 else 999
def s_text : Nat → Int32 := fun j => if j = 0 then 104 else if j = 1 then 98 else if j = 2 then 114 else if j = 3 then 100 else if j = 4 then 110 else if j = 5 then 112 else 115
def f_kindIx (c : Int32) : Int32 := if c = 104 then 0 else if c = 98 then 1 else if c = 114 then 2 else if c = 100 then 3 else if c = 110 then 4 else if c = 112 then 5 else if c = 115 then 6 else -1
def FU : Nat := 1000000
abbrev jmin (x y : Int32) : Int32 := if y < x then y else x
abbrev jmax (x y : Int32) : Int32 := if x < y then y else x
abbrev jabs (x : Int32) : Int32 := if 0 ≤ x then x else 0 - x
abbrev jabsL (x : Int64) : Int64 := if 0 < x then x else -x
end
section
/-! My own rows: contracts of a fixed shape over the tables' words as one list, calls in one step, loops with fuel. -/
theorem tb_good : ∀ w ∈ gw_tbl, (w.onTables && w.keeps) = true ∨ ∃ ty, w = .arrayClass ty := fun w hw => good_of_word (List.mem_filter.mp hw).2
theorem tb_pay {args : Array Value} {s : State} (hT : ∀ w ∈ gw_tbl, w.before args s = true) : ∀ w ∈ gw_tbl, ∀ (a' : Array Value) (U : State), s.WarmedH U.vm → w.before a' U = true := fun w hw _ _ hW => word_at hW (tb_good w hw) (hT w hw)
-- decisions on the way
theorem io_t {α : Type} {c : Prop} [Decidable c] {a b r : α} (h : (if c then a else b) = r) (hc : c) : a = r := by rw [← h, if_pos hc]
theorem io_f {α : Type} {c : Prop} [Decidable c] {a b r : α} (h : (if c then a else b) = r) (hc : ¬ c) : b = r := by rw [← h, if_neg hc]
theorem io_n {α : Type} {c : Prop} [Decidable c] {b : Option α} {r : α} (h : (if c then none else b) = some r) : ¬ c ∧ b = some r := by
  by_cases hc : c
  · rw [if_pos hc] at h; cases h
  · rw [if_neg hc] at h; exact ⟨hc, h⟩
theorem io_b {α β : Type} {a : Option α} {k : α → Option β} {r : β} (h : a.bind k = some r) : ∃ q : α, a = some q ∧ k q = some r := by
  cases a with
  | none => cases h
  | some q => exact ⟨q, rfl, h⟩
-- the classes, the kinds of arrays
abbrev tyK (cI cJ cC : ClassId) : List (ClassId × FieldType) := [(cI, .int), (cJ, .long), (cC, .char)]
def xE0 : (Nat → Prop) → State → Heap → Prop := fun _ _ _ => True
def xOk (E : (Nat → Prop) → State → Heap → Prop) : Prop := (∀ (A : Nat → Prop) (u U : State) (H : Heap), (u.vm = U.vm ∨ u.WarmedH U.vm) → E A u H → E A U H) ∧ (∀ (A : Nat → Prop) (U : State) (H H1 : Heap), E A U H → (∀ a : Nat, a < H.size → ¬ A a → H1[a]? = H[a]?) → E A U H1) ∧ ∀ (A B : Nat → Prop) (U : State) (H : Heap), E A U H → (∀ q, B q → A q) → E B U H
theorem xE0_ok : xOk xE0 := ⟨fun _ _ _ _ _ _ => trivial, fun _ _ _ _ _ _ => trivial, fun _ _ _ _ _ _ => trivial⟩
def xPre (D : va_G) (tys : List (ClassId × FieldType)) (ws : va_W) (sz : Nat) (E : (Nat → Prop) → State → Heap → Prop) (U : State) : Prop := U.heap.size = sz ∧ va_P D classes ws U.heap ∧ va_K D classes tys U ∧ va_D (fun _ => True) ws ∧ E (va_A ws sz) U U.heap
def xBack (D : va_G) (tys : List (ClassId × FieldType)) (ws : va_W) (A : Nat → Prop) (t : State) : Prop := va_P D classes ws t.heap ∧ va_K D classes tys t ∧ va_D A ws
abbrev xRm (fr lo : Nat) : Room := { frames := fr, cells := 0, slots := 0, locals := lo }
def xI (l : Launch) (y : MethodName) (b : ByteArray) (n : Nat) (ret : FieldType) (fr lo : Nat) (D : va_G) (tys : List (ClassId × FieldType)) (E : (Nat → Prop) → State → Heap → Prop) (as : List Value) (ws : va_W) (r : Int32) (ws' : va_W) : Prop :=
  ∀ sz : Nat, Met l y (.code y b n (some ret) :: gw_tbl) (xRm fr lo) (va_Pc as (xPre D tys ws sz E)) (va_Qi (fun (x : Int32) (_ : Unit) => x = r) (fun _ t => xBack D tys ws' (va_A ws sz) t) (va_A ws sz)) 0 0 (va_A ws sz)
def xL (l : Launch) (y : MethodName) (b : ByteArray) (n : Nat) (ret : FieldType) (fr lo : Nat) (D : va_G) (tys : List (ClassId × FieldType)) (E : (Nat → Prop) → State → Heap → Prop) (as : List Value) (ws : va_W) (r : Int64) (ws' : va_W) : Prop :=
  ∀ sz : Nat, Met l y (.code y b n (some ret) :: gw_tbl) (xRm fr lo) (va_Pc as (xPre D tys ws sz E)) (va_Ql (fun (x : Int64) (_ : Unit) => x = r) (fun _ t => xBack D tys ws' (va_A ws sz) t) (va_A ws sz)) 0 0 (va_A ws sz)
def xV (l : Launch) (y : MethodName) (b : ByteArray) (n : Nat) (fr lo : Nat) (D : va_G) (tys : List (ClassId × FieldType)) (E : (Nat → Prop) → State → Heap → Prop) (as : List Value) (ws : va_W) (ws' : va_W) : Prop :=
  ∀ sz : Nat, Met l y (.code y b n none :: gw_tbl) (xRm fr lo) (va_Pc as (xPre D tys ws sz E)) (va_Qv (fun (_ : Unit) => True) (fun _ t => xBack D tys ws' (va_A ws sz) t) (va_A ws sz)) 0 0 (va_A ws sz)
/-- what a method's walk begins with -/
theorem xI_of {l : Launch} {y : MethodName} {b : ByteArray} {n : Nat} {ret : FieldType} {fr lo : Nat} {D : va_G} {tys : List (ClassId × FieldType)} {E : (Nat → Prop) → State → Heap → Prop} {as : List Value} {ws : va_W} {r : Int32} {ws' : va_W} (hy : plainName y.cls = true) (hlen : (lg_sl as).length ≤ n)
    (body : ∀ (p : Program) (e : Env) (s : State) (m : MethodId) (args : Array Value) (below : List Frame) (meth : Method) (c : Code) (A : Nat → Prop) (Q : State → Prop), p.tables.exec = Jvm.exec → c.code = b → c.maxLocals = n → s.vm.findClass y.cls = some m.cls → (∀ w ∈ gw_tbl, w.before args s = true) → (∀ q, s.heap.size ≤ q → A q) →
      va_P D classes ws s.heap → va_D A ws → va_K D classes tys s → va_S A s.heap s.heap [] → E A s s.heap →
      (∀ (H : Heap) (locs : List Loc) (pc : Nat) (ls : Array Slot) (v : Int32), decode b pc = .ok (.ireturn, 1) → narrow ret (.int v) = .int v → v = r → va_P D classes ws' H → va_D A ws' → va_S A s.heap H locs → W p l e (xRm fr lo) s m args below meth c H locs 0 0 Q (F0 m pc ls [.int v])) →
      ∀ ls : Array Slot, lv_has ls n (lv_args 0 as) → W p l e (xRm fr lo) s m args below meth c s.heap [] 0 0 Q (F0 m 0 ls [])) : xI l y b n ret fr lo D tys E as ws r ws' := by
  intro sz
  refine Met.ofW (cc := b) (maxL := n) (ret := some ret) hy rfl ?_
  intro p e s m args below meth c s₁ B hml hv
  obtain ⟨rfl, hsz, hP, hK, hD0, hE⟩ := hv
  have hts := atoms_spec (ws := .code y b n (some ret) :: gw_tbl) B.pre
  have hlocks := B.notSynchronized
  subst hsz
  have hD := hD0.self (sz := s.heap.size)
  generalize hAe : va_A ws s.heap.size = A at hD hE ⊢
  have hA : ∀ q : Nat, s.heap.size ≤ q → A q := fun q h => by rw [← hAe]; exact Or.inr h
  have hl := lv_entry as (n := n) hlen
  rw [lg_entry_eq]
  exact body p e s m _ below meth c A _ B.exec B.bytes hml (findClass_of_methodNamed B.named) (fun w h => hts w (List.mem_cons_of_mem _ h)) hA hP hD hK va_S.rf hE (fun H locs pc ls v hdg hn hv hP hD hS => W.zret B.exec B.bytes B.returns hn (fun t ht hW => ⟨⟨v, (), rfl, hv, by rw [ht]; exact hP, va_K.moved hW.alike hK, hD⟩, hS.F ht⟩) hS.2.2 hdg) _ hl
theorem xL_of {l : Launch} {y : MethodName} {b : ByteArray} {n : Nat} {fr lo : Nat} {D : va_G} {tys : List (ClassId × FieldType)} {E : (Nat → Prop) → State → Heap → Prop} {as : List Value} {ws : va_W} {r : Int64} {ws' : va_W} (hy : plainName y.cls = true) (hlen : (lg_sl as).length ≤ n)
    (body : ∀ (p : Program) (e : Env) (s : State) (m : MethodId) (args : Array Value) (below : List Frame) (meth : Method) (c : Code) (A : Nat → Prop) (Q : State → Prop), p.tables.exec = Jvm.exec → c.code = b → c.maxLocals = n → s.vm.findClass y.cls = some m.cls → (∀ w ∈ gw_tbl, w.before args s = true) → (∀ q, s.heap.size ≤ q → A q) →
      va_P D classes ws s.heap → va_D A ws → va_K D classes tys s → va_S A s.heap s.heap [] → E A s s.heap →
      (∀ (H : Heap) (locs : List Loc) (pc : Nat) (ls : Array Slot) (v : Int64), decode b pc = .ok (.lreturn, 1) → v = r → va_P D classes ws' H → va_D A ws' → va_S A s.heap H locs → W p l e (xRm fr lo) s m args below meth c H locs 0 0 Q (F0 m pc ls [.long v])) →
      ∀ ls : Array Slot, lv_has ls n (lv_args 0 as) → W p l e (xRm fr lo) s m args below meth c s.heap [] 0 0 Q (F0 m 0 ls [])) : xL l y b n .long fr lo D tys E as ws r ws' := by
  intro sz
  refine Met.ofW (cc := b) (maxL := n) (ret := some .long) hy rfl ?_
  intro p e s m args below meth c s₁ B hml hv
  obtain ⟨rfl, hsz, hP, hK, hD0, hE⟩ := hv
  have hts := atoms_spec (ws := .code y b n (some .long) :: gw_tbl) B.pre
  have hlocks := B.notSynchronized
  subst hsz
  have hD := hD0.self (sz := s.heap.size)
  generalize hAe : va_A ws s.heap.size = A at hD hE ⊢
  have hA : ∀ q : Nat, s.heap.size ≤ q → A q := fun q h => by rw [← hAe]; exact Or.inr h
  have hl := lv_entry as (n := n) hlen
  rw [lg_entry_eq]
  exact body p e s m _ below meth c A _ B.exec B.bytes hml (findClass_of_methodNamed B.named) (fun w h => hts w (List.mem_cons_of_mem _ h)) hA hP hD hK va_S.rf hE (fun H locs pc ls v hdg hv hP hD hS => W.lret B.exec B.bytes B.returns (fun t ht hW => ⟨⟨v, (), rfl, hv, by rw [ht]; exact hP, va_K.moved hW.alike hK, hD⟩, hS.F ht⟩) hS.2.2 hdg) _ hl
theorem xV_of {l : Launch} {y : MethodName} {b : ByteArray} {n : Nat} {fr lo : Nat} {D : va_G} {tys : List (ClassId × FieldType)} {E : (Nat → Prop) → State → Heap → Prop} {as : List Value} {ws : va_W} {ws' : va_W} (hy : plainName y.cls = true) (hlen : (lg_sl as).length ≤ n)
    (body : ∀ (p : Program) (e : Env) (s : State) (m : MethodId) (args : Array Value) (below : List Frame) (meth : Method) (c : Code) (A : Nat → Prop) (Q : State → Prop), p.tables.exec = Jvm.exec → c.code = b → c.maxLocals = n → s.vm.findClass y.cls = some m.cls → (∀ w ∈ gw_tbl, w.before args s = true) → (∀ q, s.heap.size ≤ q → A q) →
      va_P D classes ws s.heap → va_D A ws → va_K D classes tys s → va_S A s.heap s.heap [] → E A s s.heap →
      (∀ (H : Heap) (locs : List Loc) (pc : Nat) (ls : Array Slot), decode b pc = .ok (.return_, 1) → va_P D classes ws' H → va_D A ws' → va_S A s.heap H locs → W p l e (xRm fr lo) s m args below meth c H locs 0 0 Q (F0 m pc ls [])) →
      ∀ ls : Array Slot, lv_has ls n (lv_args 0 as) → W p l e (xRm fr lo) s m args below meth c s.heap [] 0 0 Q (F0 m 0 ls [])) : xV l y b n fr lo D tys E as ws ws' := by
  intro sz
  refine Met.ofW (cc := b) (maxL := n) (ret := none) hy rfl ?_
  intro p e s m args below meth c s₁ B hml hv
  obtain ⟨rfl, hsz, hP, hK, hD0, hE⟩ := hv
  have hts := atoms_spec (ws := .code y b n none :: gw_tbl) B.pre
  have hlocks := B.notSynchronized
  subst hsz
  have hD := hD0.self (sz := s.heap.size)
  generalize hAe : va_A ws s.heap.size = A at hD hE ⊢
  have hA : ∀ q : Nat, s.heap.size ≤ q → A q := fun q h => by rw [← hAe]; exact Or.inr h
  have hl := lv_entry as (n := n) hlen
  rw [lg_entry_eq]
  exact body p e s m _ below meth c A _ B.exec B.bytes hml (findClass_of_methodNamed B.named) (fun w h => hts w (List.mem_cons_of_mem _ h)) hA hP hD hK va_S.rf hE (fun H locs pc ls hdg hP hD hS => W.vret B.exec B.bytes B.returns (fun t ht hW => ⟨⟨(), rfl, trivial, by rw [ht]; exact hP, va_K.moved hW.alike hK, hD⟩, hS.F ht⟩) hS.2.2 hdg) _ hl
-- calls
theorem x_blind {as : List Value} {D : va_G} {tys : List (ClassId × FieldType)} {ws : va_W} {sz : Nat} {E : (Nat → Prop) → State → Heap → Prop} (hok : xOk E) : FrameBlind (va_Pc as (xPre D tys ws sz E)) := by
  intro a U g mk q
  obtain ⟨q0, q1, qP, qK, qD, qE⟩ := q
  exact ⟨q0, q1, qP, va_K.moved (u := U) (U := U.calling g mk a) (Vm.Alike.refl U.vm) qK, qD, hok.1 _ U (U.calling g mk a) _ (Or.inl rfl) qE⟩
theorem x_pre {D : va_G} {tys : List (ClassId × FieldType)} {ws wc : va_W} {s : State} {H : Heap} {locs : List Loc} {A : Nat → Prop} {E : (Nat → Prop) → State → Heap → Prop} (hok : xOk E) (hK : va_K D classes tys s) (hP : va_P D classes ws H) (hD : va_D A ws) (hS : va_S A s.heap H locs) (hA : ∀ q, s.heap.size ≤ q → A q) (hE : E A s s.heap) (isC : List Nat) (hC : isC.map (fun i => ws[i]?) = wc.map some) (hn : va_nd isC = true) :
    ∀ U : State, U.heap = H → s.WarmedH U.vm → xPre D tys wc H.size E U := by
  intro U hU hW
  have hF := va_free hD hS hA isC hC
  have hPc : va_P D classes wc H := by
    intro k q hk
    have h1 : (isC.map (fun i => ws[i]?))[k]? = some (some q) := by rw [hC, List.getElem?_map, hk]; rfl
    rw [List.getElem?_map] at h1
    cases hi : isC[k]? with
    | none => rw [hi] at h1; cases h1
    | some i =>
      rw [hi] at h1
      exact hP i q (Option.some.inj h1)
  refine ⟨by rw [hU], by rw [hU]; exact hPc, va_K.moved hW.alike hK, (hD.sub isC hn hC).weaken (fun _ _ _ _ => trivial), ?_⟩
  rw [hU]
  exact hok.1 _ s U _ (Or.inr hW) (hok.2.2 A _ s H (hok.2.1 A s s.heap H hE hS.2.1) hF)
theorem x_sub {ws ws' : va_W} {D : va_G} {H : Heap} (hP : va_P D classes ws H) (is : List Nat) (hs : is.map (fun i => ws[i]?) = ws'.map some) : va_P D classes ws' H := by
  intro k q hk
  have h1 : (is.map (fun i => ws[i]?))[k]? = some (some q) := by rw [hs, List.getElem?_map, hk]; rfl
  rw [List.getElem?_map] at h1
  cases hi : is[k]? with
  | none => rw [hi] at h1; cases h1
  | some i =>
    rw [hi] at h1
    exact hP i q (Option.some.inj h1)
theorem x_join {D : va_G} {tys : List (ClassId × FieldType)} {ws wc wr wc' ws' : va_W} {s t : State} {H H1 : Heap} {locs : List Loc} {A : Nat → Prop} (hP : va_P D classes ws H) (hD : va_D A ws) (hS : va_S A s.heap H locs) (hA : ∀ q, s.heap.size ≤ q → A q) (isC isR isN : List Nat) (hC : isC.map (fun i => ws[i]?) = wc.map some) (hR : isR.map (fun i => ws[i]?) = wr.map some) (hn : va_nd isR = true) (hdis : isR.all (fun i => !isC.contains i) = true) (hNn : va_nd isN = true) (hN : isN.map (fun i => (wr ++ wc')[i]?) = ws'.map some)
    (ht : t.heap = H1) (hB : xBack D tys wc' (va_A wc H.size) t) (hk : ∀ q : Nat, q < H.size → ¬ va_A wc H.size q → H1[q]? = H[q]?) : va_P D classes ws' H1 ∧ va_D A ws' := by
  obtain ⟨hP1, hK1, hD1⟩ := hB
  rw [ht] at hP1
  obtain ⟨h1, h2⟩ := va_join hP hD isC isR hC hR hn (fun i hi => by simpa using List.all_eq_true.mp hdis i hi) hk (va_free hD hS hA isC hC) hP1 hD1
  exact ⟨x_sub h1 isN hN, h2.sub isN hNn hN⟩
theorem xcVI {p : Program} {l : Launch} {e : Env} {R : Room} {s : State} {m : MethodId} {args : Array Value} {below : List Frame} {meth : Method} {c : Code} {H : Heap} {locs : List Loc} {cells slots : Nat} {Q : State → Prop} {cc : ByteArray} {nL : Nat} {A : Nat → Prop} {own : String} {pc index : Nat} {ls : Array Slot} {st rest As : List Value} {y : MethodName} {bytes : ByteArray} {maxL fr lo : Nat} {D : va_G} {tys : List (ClassId × FieldType)} {E : (Nat → Prop) → State → Heap → Prop} {ws wc wc' ws' : va_W} {ret : FieldType} {r : Int32} {b : Nat} {ci : Nat} {fs : List Value} {q : vw_C} (hx : p.tables.exec = Jvm.exec) (hb : c.code = cc) (hml : c.maxLocals = nL) (hown : s.vm.findClass own = some m.cls) (hT : ∀ w ∈ gw_tbl, w.before args s = true) (hM : xI l y bytes maxL ret fr lo D tys E (.ref b :: As) wc r wc')
    (hlink : Cond.methodLink own index y ∈ gw_tbl) (hinst : Cond.instanceMethod y ∈ gw_tbl) (hsel : Cond.selects y.cls y y ∈ gw_tbl) (hini : Cond.initialized y.cls ∈ gw_tbl) (hcode : Cond.code y bytes maxL (some ret) ∈ gw_tbl) (hd : y.cls ≠ "java/lang/invoke/MethodHandle" ∧ y.cls ≠ "java/lang/invoke/VarHandle" ∧ (parseMethodDescriptor y.desc).map (fun d => d.parameters.length) = some As.length) (hR : fr + 1 ≤ R.frames ∧ 8 + (maxL + 11) + lo ≤ R.locals)
    (hok : xOk E) (hE : E A s s.heap) (hA : ∀ q, s.heap.size ≤ q → A q) (hK : va_K D classes tys s) (hP : va_P D classes ws H) (hD : va_D A ws) (hS : va_S A s.heap H locs) (isC isR isN : List Nat) (hC : isC.map (fun i => ws[i]?) = wc.map some) (hCn : va_nd isC = true) (hRr : isR.map (fun i => ws[i]?) = (isR.filterMap (fun i => ws[i]?)).map some) (hn : va_nd isR = true) (hdis : isR.all (fun i => !isC.contains i) = true) (hNn : va_nd isN = true) (hN : isN.map (fun i => (isR.filterMap (fun i => ws[i]?) ++ wc')[i]?) = ws'.map some)
    (hrec : wc[0]? = some (b, .inr (ci, fs))) (hcl : classes[ci]? = some q) (hq : q.1 = y.cls) (hsize : ls.size = nL) (hst : st = As.reverse ++ .ref b :: rest) (hW : (rest.map fun v => v.category).sum ≤ 8) (hcs : cells ≤ R.cells ∧ slots ≤ R.slots) (hdg : decode cc pc = .ok (.invokevirtual index, 3))
    (kk : ∀ (H1 : Heap) (locs1 : List Loc), va_P D classes ws' H1 → va_D A ws' → va_S A s.heap H1 locs1 → W p l e R s m args below meth c H1 locs1 cells slots Q (F0 m (pc + 3) ls (.int r :: rest))) : W p l e R s m args below meth c H locs cells slots Q (F0 m pc ls st) := by
  have hF := va_free hD hS hA isC hC
  have hpay := tb_pay hT
  have hcb := hT _ hcode
  have hws : ∀ w ∈ (Cond.code y bytes maxL (some ret) :: gw_tbl), ∀ (a' : Array Value) (U : State), s.WarmedH U.vm → w.before a' U = true := by
    intro w hw
    rcases List.mem_cons.mp hw with rfl | hw
    · exact hpay _ hcode
    · exact hpay w hw
  have hlen : ∀ sig, parseMethodDescriptor y.desc = some sig → As.length = sig.parameters.length := fun sig h => by
    have h2 := hd.2.2
    rw [h] at h2
    exact (Option.some.inj h2).symm
  have hPc : va_P D classes wc H := x_sub hP isC hC
  have hrv := va_recv hK hPc hcl hrec
  rw [hq] at hrv
  subst hst
  refine va_calli (va_runV (As := As) (rest := rest) ⟨hx, hb, hml, hown, hT⟩ (hM H.size) ⟨⟨rfl, rfl, hR.1, hR.2, hws, List.mem_cons_self, hcb, hT _ hini, ⟨hd.1, hd.2.1⟩, hlen, hT _ hlink⟩, hT _ hinst, hT _ hsel⟩ ⟨x_blind hok, hrv, fun U hU hW => ⟨rfl, x_pre hok hK hP hD hS hA hE isC hC hCn U hU hW⟩⟩ rfl rfl hsize rfl (lv_room hW) hdg hcs) hS (fun q _ h => hF q h) hF (fun r1 u t H1 locs1 ht hvm hw hB hz hk hS1 => ?_)
  subst hw
  obtain ⟨hP2, hD2⟩ := x_join hP hD hS hA isC isR isN hC hRr hn hdis hNn hN ht hB hk
  exact kk H1 locs1 hP2 hD2 hS1
theorem xcSI {p : Program} {l : Launch} {e : Env} {R : Room} {s : State} {m : MethodId} {args : Array Value} {below : List Frame} {meth : Method} {c : Code} {H : Heap} {locs : List Loc} {cells slots : Nat} {Q : State → Prop} {cc : ByteArray} {nL : Nat} {A : Nat → Prop} {own : String} {pc index : Nat} {ls : Array Slot} {st rest As : List Value} {y : MethodName} {bytes : ByteArray} {maxL fr lo : Nat} {D : va_G} {tys : List (ClassId × FieldType)} {E : (Nat → Prop) → State → Heap → Prop} {ws wc wc' ws' : va_W} {ret : FieldType} {r : Int32} (hx : p.tables.exec = Jvm.exec) (hb : c.code = cc) (hml : c.maxLocals = nL) (hown : s.vm.findClass own = some m.cls) (hT : ∀ w ∈ gw_tbl, w.before args s = true) (hM : xI l y bytes maxL ret fr lo D tys E As wc r wc')
    (hlink : Cond.methodLink own index y ∈ gw_tbl) (hstat : Cond.static y ∈ gw_tbl) (hini : Cond.initialized y.cls ∈ gw_tbl) (hcode : Cond.code y bytes maxL (some ret) ∈ gw_tbl) (hd : y.cls ≠ "java/lang/invoke/MethodHandle" ∧ y.cls ≠ "java/lang/invoke/VarHandle" ∧ (parseMethodDescriptor y.desc).map (fun d => d.parameters.length) = some As.length) (hR : fr + 1 ≤ R.frames ∧ 8 + (maxL + 11) + lo ≤ R.locals)
    (hok : xOk E) (hE : E A s s.heap) (hA : ∀ q, s.heap.size ≤ q → A q) (hK : va_K D classes tys s) (hP : va_P D classes ws H) (hD : va_D A ws) (hS : va_S A s.heap H locs) (isC isR isN : List Nat) (hC : isC.map (fun i => ws[i]?) = wc.map some) (hCn : va_nd isC = true) (hRr : isR.map (fun i => ws[i]?) = (isR.filterMap (fun i => ws[i]?)).map some) (hn : va_nd isR = true) (hdis : isR.all (fun i => !isC.contains i) = true) (hNn : va_nd isN = true) (hN : isN.map (fun i => (isR.filterMap (fun i => ws[i]?) ++ wc')[i]?) = ws'.map some)
     (hsize : ls.size = nL) (hst : st = As.reverse ++ rest) (hW : (rest.map fun v => v.category).sum ≤ 8) (hcs : cells ≤ R.cells ∧ slots ≤ R.slots) (hdg : decode cc pc = .ok (.invokestatic index, 3))
    (kk : ∀ (H1 : Heap) (locs1 : List Loc), va_P D classes ws' H1 → va_D A ws' → va_S A s.heap H1 locs1 → W p l e R s m args below meth c H1 locs1 cells slots Q (F0 m (pc + 3) ls (.int r :: rest))) : W p l e R s m args below meth c H locs cells slots Q (F0 m pc ls st) := by
  have hF := va_free hD hS hA isC hC
  have hpay := tb_pay hT
  have hcb := hT _ hcode
  have hws : ∀ w ∈ (Cond.code y bytes maxL (some ret) :: gw_tbl), ∀ (a' : Array Value) (U : State), s.WarmedH U.vm → w.before a' U = true := by
    intro w hw
    rcases List.mem_cons.mp hw with rfl | hw
    · exact hpay _ hcode
    · exact hpay w hw
  have hlen : ∀ sig, parseMethodDescriptor y.desc = some sig → As.length = sig.parameters.length := fun sig h => by
    have h2 := hd.2.2
    rw [h] at h2
    exact (Option.some.inj h2).symm
  subst hst
  refine va_calli (va_runS (As := As) (rest := rest) ⟨hx, hb, hml, hown, hT⟩ (hM H.size) ⟨⟨rfl, rfl, hR.1, hR.2, hws, List.mem_cons_self, hcb, hT _ hini, ⟨hd.1, hd.2.1⟩, hlen, hT _ hlink⟩, hT _ hstat⟩ ⟨x_blind hok, fun U hU hW => ⟨rfl, x_pre hok hK hP hD hS hA hE isC hC hCn U hU hW⟩⟩ rfl rfl hsize rfl (lv_room hW) hdg hcs) hS (fun q _ h => hF q h) hF (fun r1 u t H1 locs1 ht hvm hw hB hz hk hS1 => ?_)
  subst hw
  obtain ⟨hP2, hD2⟩ := x_join hP hD hS hA isC isR isN hC hRr hn hdis hNn hN ht hB hk
  exact kk H1 locs1 hP2 hD2 hS1
theorem xcNI {p : Program} {l : Launch} {e : Env} {R : Room} {s : State} {m : MethodId} {args : Array Value} {below : List Frame} {meth : Method} {c : Code} {H : Heap} {locs : List Loc} {cells slots : Nat} {Q : State → Prop} {cc : ByteArray} {nL : Nat} {A : Nat → Prop} {own : String} {pc index : Nat} {ls : Array Slot} {st rest As : List Value} {y : MethodName} {bytes : ByteArray} {maxL fr lo : Nat} {D : va_G} {tys : List (ClassId × FieldType)} {E : (Nat → Prop) → State → Heap → Prop} {ws wc wc' ws' : va_W} {ret : FieldType} {r : Int32} {host : String} (hx : p.tables.exec = Jvm.exec) (hb : c.code = cc) (hml : c.maxLocals = nL) (hown : s.vm.findClass own = some m.cls) (hT : ∀ w ∈ gw_tbl, w.before args s = true) (hM : xI l y bytes maxL ret fr lo D tys E As wc r wc')
    (hlink : (Cond.methodLinkNest own index y host).before args s = true) (hstat : Cond.static y ∈ gw_tbl) (hini : Cond.initialized y.cls ∈ gw_tbl) (hcode : Cond.code y bytes maxL (some ret) ∈ gw_tbl) (hd : y.cls ≠ "java/lang/invoke/MethodHandle" ∧ y.cls ≠ "java/lang/invoke/VarHandle" ∧ (parseMethodDescriptor y.desc).map (fun d => d.parameters.length) = some As.length) (hR : fr + 1 ≤ R.frames ∧ 8 + (maxL + 11) + lo ≤ R.locals)
    (hok : xOk E) (hE : E A s s.heap) (hA : ∀ q, s.heap.size ≤ q → A q) (hK : va_K D classes tys s) (hP : va_P D classes ws H) (hD : va_D A ws) (hS : va_S A s.heap H locs) (isC isR isN : List Nat) (hC : isC.map (fun i => ws[i]?) = wc.map some) (hCn : va_nd isC = true) (hRr : isR.map (fun i => ws[i]?) = (isR.filterMap (fun i => ws[i]?)).map some) (hn : va_nd isR = true) (hdis : isR.all (fun i => !isC.contains i) = true) (hNn : va_nd isN = true) (hN : isN.map (fun i => (isR.filterMap (fun i => ws[i]?) ++ wc')[i]?) = ws'.map some)
     (hsize : ls.size = nL) (hst : st = As.reverse ++ rest) (hW : (rest.map fun v => v.category).sum ≤ 8) (hcs : cells ≤ R.cells ∧ slots ≤ R.slots) (hdg : decode cc pc = .ok (.invokestatic index, 3))
    (kk : ∀ (H1 : Heap) (locs1 : List Loc), va_P D classes ws' H1 → va_D A ws' → va_S A s.heap H1 locs1 → W p l e R s m args below meth c H1 locs1 cells slots Q (F0 m (pc + 3) ls (.int r :: rest))) : W p l e R s m args below meth c H locs cells slots Q (F0 m pc ls st) := by
  have hF := va_free hD hS hA isC hC
  have hpay := tb_pay hT
  have hcb := hT _ hcode
  have hws : ∀ w ∈ (Cond.code y bytes maxL (some ret) :: gw_tbl), ∀ (a' : Array Value) (U : State), s.WarmedH U.vm → w.before a' U = true := by
    intro w hw
    rcases List.mem_cons.mp hw with rfl | hw
    · exact hpay _ hcode
    · exact hpay w hw
  have hlen : ∀ sig, parseMethodDescriptor y.desc = some sig → As.length = sig.parameters.length := fun sig h => by
    have h2 := hd.2.2
    rw [h] at h2
    exact (Option.some.inj h2).symm
  subst hst
  refine va_calli (va_runSN (As := As) (rest := rest) ⟨hx, hb, hml, hown, hT⟩ (hM H.size) ⟨⟨⟨rfl, rfl, hR.1, hR.2, hws, List.mem_cons_self⟩, hcb, hT _ hini, ⟨hd.1, hd.2.1⟩, hlen, hlink⟩, hT _ hstat, trivial⟩ ⟨x_blind hok, fun U hU hW => ⟨rfl, x_pre hok hK hP hD hS hA hE isC hC hCn U hU hW⟩⟩ rfl rfl hsize rfl (lv_room hW) hdg hcs) hS (fun q _ h => hF q h) hF (fun r1 u t H1 locs1 ht hvm hw hB hz hk hS1 => ?_)
  subst hw
  obtain ⟨hP2, hD2⟩ := x_join hP hD hS hA isC isR isN hC hRr hn hdis hNn hN ht hB hk
  exact kk H1 locs1 hP2 hD2 hS1
theorem xcVL {p : Program} {l : Launch} {e : Env} {R : Room} {s : State} {m : MethodId} {args : Array Value} {below : List Frame} {meth : Method} {c : Code} {H : Heap} {locs : List Loc} {cells slots : Nat} {Q : State → Prop} {cc : ByteArray} {nL : Nat} {A : Nat → Prop} {own : String} {pc index : Nat} {ls : Array Slot} {st rest As : List Value} {y : MethodName} {bytes : ByteArray} {maxL fr lo : Nat} {D : va_G} {tys : List (ClassId × FieldType)} {E : (Nat → Prop) → State → Heap → Prop} {ws wc wc' ws' : va_W} {ret : FieldType} {r : Int64} {b : Nat} {ci : Nat} {fs : List Value} {q : vw_C} (hx : p.tables.exec = Jvm.exec) (hb : c.code = cc) (hml : c.maxLocals = nL) (hown : s.vm.findClass own = some m.cls) (hT : ∀ w ∈ gw_tbl, w.before args s = true) (hM : xL l y bytes maxL ret fr lo D tys E (.ref b :: As) wc r wc')
    (hlink : Cond.methodLink own index y ∈ gw_tbl) (hinst : Cond.instanceMethod y ∈ gw_tbl) (hsel : Cond.selects y.cls y y ∈ gw_tbl) (hini : Cond.initialized y.cls ∈ gw_tbl) (hcode : Cond.code y bytes maxL (some ret) ∈ gw_tbl) (hd : y.cls ≠ "java/lang/invoke/MethodHandle" ∧ y.cls ≠ "java/lang/invoke/VarHandle" ∧ (parseMethodDescriptor y.desc).map (fun d => d.parameters.length) = some As.length) (hR : fr + 1 ≤ R.frames ∧ 8 + (maxL + 11) + lo ≤ R.locals)
    (hok : xOk E) (hE : E A s s.heap) (hA : ∀ q, s.heap.size ≤ q → A q) (hK : va_K D classes tys s) (hP : va_P D classes ws H) (hD : va_D A ws) (hS : va_S A s.heap H locs) (isC isR isN : List Nat) (hC : isC.map (fun i => ws[i]?) = wc.map some) (hCn : va_nd isC = true) (hRr : isR.map (fun i => ws[i]?) = (isR.filterMap (fun i => ws[i]?)).map some) (hn : va_nd isR = true) (hdis : isR.all (fun i => !isC.contains i) = true) (hNn : va_nd isN = true) (hN : isN.map (fun i => (isR.filterMap (fun i => ws[i]?) ++ wc')[i]?) = ws'.map some)
    (hrec : wc[0]? = some (b, .inr (ci, fs))) (hcl : classes[ci]? = some q) (hq : q.1 = y.cls) (hsize : ls.size = nL) (hst : st = As.reverse ++ .ref b :: rest) (hW : (rest.map fun v => v.category).sum ≤ 8) (hcs : cells ≤ R.cells ∧ slots ≤ R.slots) (hdg : decode cc pc = .ok (.invokevirtual index, 3))
    (kk : ∀ (H1 : Heap) (locs1 : List Loc), va_P D classes ws' H1 → va_D A ws' → va_S A s.heap H1 locs1 → W p l e R s m args below meth c H1 locs1 cells slots Q (F0 m (pc + 3) ls (.long r :: rest))) : W p l e R s m args below meth c H locs cells slots Q (F0 m pc ls st) := by
  have hF := va_free hD hS hA isC hC
  have hpay := tb_pay hT
  have hcb := hT _ hcode
  have hws : ∀ w ∈ (Cond.code y bytes maxL (some ret) :: gw_tbl), ∀ (a' : Array Value) (U : State), s.WarmedH U.vm → w.before a' U = true := by
    intro w hw
    rcases List.mem_cons.mp hw with rfl | hw
    · exact hpay _ hcode
    · exact hpay w hw
  have hlen : ∀ sig, parseMethodDescriptor y.desc = some sig → As.length = sig.parameters.length := fun sig h => by
    have h2 := hd.2.2
    rw [h] at h2
    exact (Option.some.inj h2).symm
  have hPc : va_P D classes wc H := x_sub hP isC hC
  have hrv := va_recv hK hPc hcl hrec
  rw [hq] at hrv
  subst hst
  refine va_calll (va_runV (As := As) (rest := rest) ⟨hx, hb, hml, hown, hT⟩ (hM H.size) ⟨⟨rfl, rfl, hR.1, hR.2, hws, List.mem_cons_self, hcb, hT _ hini, ⟨hd.1, hd.2.1⟩, hlen, hT _ hlink⟩, hT _ hinst, hT _ hsel⟩ ⟨x_blind hok, hrv, fun U hU hW => ⟨rfl, x_pre hok hK hP hD hS hA hE isC hC hCn U hU hW⟩⟩ rfl rfl hsize rfl (lv_room hW) hdg hcs) hS (fun q _ h => hF q h) hF (fun r1 u t H1 locs1 ht hvm hw hB hz hk hS1 => ?_)
  subst hw
  obtain ⟨hP2, hD2⟩ := x_join hP hD hS hA isC isR isN hC hRr hn hdis hNn hN ht hB hk
  exact kk H1 locs1 hP2 hD2 hS1
theorem xcSL {p : Program} {l : Launch} {e : Env} {R : Room} {s : State} {m : MethodId} {args : Array Value} {below : List Frame} {meth : Method} {c : Code} {H : Heap} {locs : List Loc} {cells slots : Nat} {Q : State → Prop} {cc : ByteArray} {nL : Nat} {A : Nat → Prop} {own : String} {pc index : Nat} {ls : Array Slot} {st rest As : List Value} {y : MethodName} {bytes : ByteArray} {maxL fr lo : Nat} {D : va_G} {tys : List (ClassId × FieldType)} {E : (Nat → Prop) → State → Heap → Prop} {ws wc wc' ws' : va_W} {ret : FieldType} {r : Int64} (hx : p.tables.exec = Jvm.exec) (hb : c.code = cc) (hml : c.maxLocals = nL) (hown : s.vm.findClass own = some m.cls) (hT : ∀ w ∈ gw_tbl, w.before args s = true) (hM : xL l y bytes maxL ret fr lo D tys E As wc r wc')
    (hlink : Cond.methodLink own index y ∈ gw_tbl) (hstat : Cond.static y ∈ gw_tbl) (hini : Cond.initialized y.cls ∈ gw_tbl) (hcode : Cond.code y bytes maxL (some ret) ∈ gw_tbl) (hd : y.cls ≠ "java/lang/invoke/MethodHandle" ∧ y.cls ≠ "java/lang/invoke/VarHandle" ∧ (parseMethodDescriptor y.desc).map (fun d => d.parameters.length) = some As.length) (hR : fr + 1 ≤ R.frames ∧ 8 + (maxL + 11) + lo ≤ R.locals)
    (hok : xOk E) (hE : E A s s.heap) (hA : ∀ q, s.heap.size ≤ q → A q) (hK : va_K D classes tys s) (hP : va_P D classes ws H) (hD : va_D A ws) (hS : va_S A s.heap H locs) (isC isR isN : List Nat) (hC : isC.map (fun i => ws[i]?) = wc.map some) (hCn : va_nd isC = true) (hRr : isR.map (fun i => ws[i]?) = (isR.filterMap (fun i => ws[i]?)).map some) (hn : va_nd isR = true) (hdis : isR.all (fun i => !isC.contains i) = true) (hNn : va_nd isN = true) (hN : isN.map (fun i => (isR.filterMap (fun i => ws[i]?) ++ wc')[i]?) = ws'.map some)
     (hsize : ls.size = nL) (hst : st = As.reverse ++ rest) (hW : (rest.map fun v => v.category).sum ≤ 8) (hcs : cells ≤ R.cells ∧ slots ≤ R.slots) (hdg : decode cc pc = .ok (.invokestatic index, 3))
    (kk : ∀ (H1 : Heap) (locs1 : List Loc), va_P D classes ws' H1 → va_D A ws' → va_S A s.heap H1 locs1 → W p l e R s m args below meth c H1 locs1 cells slots Q (F0 m (pc + 3) ls (.long r :: rest))) : W p l e R s m args below meth c H locs cells slots Q (F0 m pc ls st) := by
  have hF := va_free hD hS hA isC hC
  have hpay := tb_pay hT
  have hcb := hT _ hcode
  have hws : ∀ w ∈ (Cond.code y bytes maxL (some ret) :: gw_tbl), ∀ (a' : Array Value) (U : State), s.WarmedH U.vm → w.before a' U = true := by
    intro w hw
    rcases List.mem_cons.mp hw with rfl | hw
    · exact hpay _ hcode
    · exact hpay w hw
  have hlen : ∀ sig, parseMethodDescriptor y.desc = some sig → As.length = sig.parameters.length := fun sig h => by
    have h2 := hd.2.2
    rw [h] at h2
    exact (Option.some.inj h2).symm
  subst hst
  refine va_calll (va_runS (As := As) (rest := rest) ⟨hx, hb, hml, hown, hT⟩ (hM H.size) ⟨⟨rfl, rfl, hR.1, hR.2, hws, List.mem_cons_self, hcb, hT _ hini, ⟨hd.1, hd.2.1⟩, hlen, hT _ hlink⟩, hT _ hstat⟩ ⟨x_blind hok, fun U hU hW => ⟨rfl, x_pre hok hK hP hD hS hA hE isC hC hCn U hU hW⟩⟩ rfl rfl hsize rfl (lv_room hW) hdg hcs) hS (fun q _ h => hF q h) hF (fun r1 u t H1 locs1 ht hvm hw hB hz hk hS1 => ?_)
  subst hw
  obtain ⟨hP2, hD2⟩ := x_join hP hD hS hA isC isR isN hC hRr hn hdis hNn hN ht hB hk
  exact kk H1 locs1 hP2 hD2 hS1
theorem xcVV {p : Program} {l : Launch} {e : Env} {R : Room} {s : State} {m : MethodId} {args : Array Value} {below : List Frame} {meth : Method} {c : Code} {H : Heap} {locs : List Loc} {cells slots : Nat} {Q : State → Prop} {cc : ByteArray} {nL : Nat} {A : Nat → Prop} {own : String} {pc index : Nat} {ls : Array Slot} {st rest As : List Value} {y : MethodName} {bytes : ByteArray} {maxL fr lo : Nat} {D : va_G} {tys : List (ClassId × FieldType)} {E : (Nat → Prop) → State → Heap → Prop} {ws wc wc' ws' : va_W} {b : Nat} {ci : Nat} {fs : List Value} {q : vw_C} (hx : p.tables.exec = Jvm.exec) (hb : c.code = cc) (hml : c.maxLocals = nL) (hown : s.vm.findClass own = some m.cls) (hT : ∀ w ∈ gw_tbl, w.before args s = true) (hM : xV l y bytes maxL fr lo D tys E (.ref b :: As) wc wc')
    (hlink : Cond.methodLink own index y ∈ gw_tbl) (hinst : Cond.instanceMethod y ∈ gw_tbl) (hsel : Cond.selects y.cls y y ∈ gw_tbl) (hini : Cond.initialized y.cls ∈ gw_tbl) (hcode : Cond.code y bytes maxL none ∈ gw_tbl) (hd : y.cls ≠ "java/lang/invoke/MethodHandle" ∧ y.cls ≠ "java/lang/invoke/VarHandle" ∧ (parseMethodDescriptor y.desc).map (fun d => d.parameters.length) = some As.length) (hR : fr + 1 ≤ R.frames ∧ 8 + (maxL + 11) + lo ≤ R.locals)
    (hok : xOk E) (hE : E A s s.heap) (hA : ∀ q, s.heap.size ≤ q → A q) (hK : va_K D classes tys s) (hP : va_P D classes ws H) (hD : va_D A ws) (hS : va_S A s.heap H locs) (isC isR isN : List Nat) (hC : isC.map (fun i => ws[i]?) = wc.map some) (hCn : va_nd isC = true) (hRr : isR.map (fun i => ws[i]?) = (isR.filterMap (fun i => ws[i]?)).map some) (hn : va_nd isR = true) (hdis : isR.all (fun i => !isC.contains i) = true) (hNn : va_nd isN = true) (hN : isN.map (fun i => (isR.filterMap (fun i => ws[i]?) ++ wc')[i]?) = ws'.map some)
    (hrec : wc[0]? = some (b, .inr (ci, fs))) (hcl : classes[ci]? = some q) (hq : q.1 = y.cls) (hsize : ls.size = nL) (hst : st = As.reverse ++ .ref b :: rest) (hW : (rest.map fun v => v.category).sum ≤ 8) (hcs : cells ≤ R.cells ∧ slots ≤ R.slots) (hdg : decode cc pc = .ok (.invokevirtual index, 3))
    (kk : ∀ (H1 : Heap) (locs1 : List Loc), va_P D classes ws' H1 → va_D A ws' → va_S A s.heap H1 locs1 → W p l e R s m args below meth c H1 locs1 cells slots Q (F0 m (pc + 3) ls rest)) : W p l e R s m args below meth c H locs cells slots Q (F0 m pc ls st) := by
  have hF := va_free hD hS hA isC hC
  have hpay := tb_pay hT
  have hcb := hT _ hcode
  have hws : ∀ w ∈ (Cond.code y bytes maxL none :: gw_tbl), ∀ (a' : Array Value) (U : State), s.WarmedH U.vm → w.before a' U = true := by
    intro w hw
    rcases List.mem_cons.mp hw with rfl | hw
    · exact hpay _ hcode
    · exact hpay w hw
  have hlen : ∀ sig, parseMethodDescriptor y.desc = some sig → As.length = sig.parameters.length := fun sig h => by
    have h2 := hd.2.2
    rw [h] at h2
    exact (Option.some.inj h2).symm
  have hPc : va_P D classes wc H := x_sub hP isC hC
  have hrv := va_recv hK hPc hcl hrec
  rw [hq] at hrv
  subst hst
  refine va_callv (va_runV (As := As) (rest := rest) ⟨hx, hb, hml, hown, hT⟩ (hM H.size) ⟨⟨rfl, rfl, hR.1, hR.2, hws, List.mem_cons_self, hcb, hT _ hini, ⟨hd.1, hd.2.1⟩, hlen, hT _ hlink⟩, hT _ hinst, hT _ hsel⟩ ⟨x_blind hok, hrv, fun U hU hW => ⟨rfl, x_pre hok hK hP hD hS hA hE isC hC hCn U hU hW⟩⟩ rfl rfl hsize rfl (lv_room hW) hdg hcs) hS (fun q _ h => hF q h) hF (fun u t H1 locs1 ht hvm hw hB hz hk hS1 => ?_)
  obtain ⟨hP2, hD2⟩ := x_join hP hD hS hA isC isR isN hC hRr hn hdis hNn hN ht hB hk
  exact kk H1 locs1 hP2 hD2 hS1
theorem xcTI {p : Program} {l : Launch} {e : Env} {R : Room} {s : State} {m : MethodId} {args : Array Value} {below : List Frame} {meth : Method} {c : Code} {H : Heap} {locs : List Loc} {cells slots : Nat} {Q : State → Prop} {cc : ByteArray} {nL : Nat} {A : Nat → Prop} {own : String} {pc index : Nat} {ls : Array Slot} {st rest As : List Value} {y : MethodName} {bytes : ByteArray} {maxL fr lo : Nat} {D : va_G} {tys : List (ClassId × FieldType)} {E : (Nat → Prop) → State → Heap → Prop} {ws wc wc' ws' : va_W} {ret : FieldType} {r : Int32} {b : Nat} (hx : p.tables.exec = Jvm.exec) (hb : c.code = cc) (hml : c.maxLocals = nL) (hown : s.vm.findClass own = some m.cls) (hT : ∀ w ∈ gw_tbl, w.before args s = true) (hM : xI l y bytes maxL ret fr lo D tys E (.ref b :: As) wc r wc')
    (hlink : Cond.methodLink own index y ∈ gw_tbl) (hinst : Cond.instanceMethod y ∈ gw_tbl) (hsel : Cond.selects y.cls y y ∈ gw_tbl) (hini : Cond.initialized y.cls ∈ gw_tbl) (hcode : Cond.code y bytes maxL (some ret) ∈ gw_tbl) (hd : y.cls ≠ "java/lang/invoke/MethodHandle" ∧ y.cls ≠ "java/lang/invoke/VarHandle" ∧ (parseMethodDescriptor y.desc).map (fun d => d.parameters.length) = some As.length) (hR : fr + 1 ≤ R.frames ∧ 8 + (maxL + 11) + lo ≤ R.locals)
    (hok : xOk E) (hE : E A s s.heap) (hA : ∀ q, s.heap.size ≤ q → A q) (hK : va_K D classes tys s) (hP : va_P D classes ws H) (hD : va_D A ws) (hS : va_S A s.heap H locs) (isC isR isN : List Nat) (hC : isC.map (fun i => ws[i]?) = wc.map some) (hCn : va_nd isC = true) (hRr : isR.map (fun i => ws[i]?) = (isR.filterMap (fun i => ws[i]?)).map some) (hn : va_nd isR = true) (hdis : isR.all (fun i => !isC.contains i) = true) (hNn : va_nd isN = true) (hN : isN.map (fun i => (isR.filterMap (fun i => ws[i]?) ++ wc')[i]?) = ws'.map some)
    (hrv : ∃ cell : Cell, H[b]? = some cell ∧ cell.vm.isStatics = false ∧ s.vm.findClass y.cls = some cell.cls) (hsize : ls.size = nL) (hst : st = As.reverse ++ .ref b :: rest) (hW : (rest.map fun v => v.category).sum ≤ 8) (hcs : cells ≤ R.cells ∧ slots ≤ R.slots) (hdg : decode cc pc = .ok (.invokevirtual index, 3))
    (kk : ∀ (H1 : Heap) (locs1 : List Loc), va_P D classes ws' H1 → va_D A ws' → va_S A s.heap H1 locs1 → W p l e R s m args below meth c H1 locs1 cells slots Q (F0 m (pc + 3) ls (.int r :: rest))) : W p l e R s m args below meth c H locs cells slots Q (F0 m pc ls st) := by
  have hF := va_free hD hS hA isC hC
  have hpay := tb_pay hT
  have hcb := hT _ hcode
  have hws : ∀ w ∈ (Cond.code y bytes maxL (some ret) :: gw_tbl), ∀ (a' : Array Value) (U : State), s.WarmedH U.vm → w.before a' U = true := by
    intro w hw
    rcases List.mem_cons.mp hw with rfl | hw
    · exact hpay _ hcode
    · exact hpay w hw
  have hlen : ∀ sig, parseMethodDescriptor y.desc = some sig → As.length = sig.parameters.length := fun sig h => by
    have h2 := hd.2.2
    rw [h] at h2
    exact (Option.some.inj h2).symm
  subst hst
  refine va_calli (va_runV (As := As) (rest := rest) ⟨hx, hb, hml, hown, hT⟩ (hM H.size) ⟨⟨rfl, rfl, hR.1, hR.2, hws, List.mem_cons_self, hcb, hT _ hini, ⟨hd.1, hd.2.1⟩, hlen, hT _ hlink⟩, hT _ hinst, hT _ hsel⟩ ⟨x_blind hok, hrv, fun U hU hW => ⟨rfl, x_pre hok hK hP hD hS hA hE isC hC hCn U hU hW⟩⟩ rfl rfl hsize rfl (lv_room hW) hdg hcs) hS (fun q _ h => hF q h) hF (fun r1 u t H1 locs1 ht hvm hw hB hz hk hS1 => ?_)
  subst hw
  obtain ⟨hP2, hD2⟩ := x_join hP hD hS hA isC isR isN hC hRr hn hdis hNn hN ht hB hk
  exact kk H1 locs1 hP2 hD2 hS1
-- what stands beside the worlds: static tables, the text of the kinds' letters, words that only a warmed machine keeps
def xEv (tL tG tS tV : Nat) (A : Nat → Prop) (U : State) (H : Heap) : Prop :=
  va_Z "HalfToTheLeft" "LEAST_SETTING" "[I" (.ref tL) A U H ∧ va_T .int tL 3 (fun k => .int (s_LEAST_SETTING k)) A U H ∧ va_Z "HalfToTheLeft" "GREATEST_SETTING" "[I" (.ref tG) A U H ∧ va_T .int tG 3 (fun k => .int (s_GREATEST_SETTING k)) A U H ∧ va_Z "java/lang/String" "COMPACT_STRINGS" "Z" (.int 1) A U H ∧
  va_O "java/lang/String" tS A U H ∧ va_OF "java/lang/String" "coder" "B" (.int 0) tS A U H ∧ va_OF "java/lang/String" "value" "[B" (.ref tV) tS A U H ∧ va_T .byte tV 7 (fun k => .int (s_text k)) A U H ∧ vk_R "HalfToTheLeft$Letters" 46 "hbrdnps" tS U ∧
  va_Nw (Cond.methodLinkNest "HalfToTheLeft$Letters" 82 ⟨"HalfToTheLeft", "outside", "(III)I"⟩ "HalfToTheLeft") U ∧ va_Nw (Cond.fieldLinkNest "HalfToTheLeft$Letters" 75 "HalfToTheLeft" "LEAST_SETTING" "[I" "HalfToTheLeft") U ∧ va_Nw (Cond.fieldLinkNest "HalfToTheLeft$Letters" 79 "HalfToTheLeft" "GREATEST_SETTING" "[I" "HalfToTheLeft") U
theorem xEv_ok (tL tG tS tV : Nat) : xOk (xEv tL tG tS tV) := by
  refine ⟨fun A u U H h q => ?_, fun A U H H1 q hq => ?_, fun A B U H q hAB => ?_⟩
  · have hv : u.vm.Alike U.vm := by
      rcases h with h | h
      · rw [h]; exact Vm.Alike.refl _
      · exact h.alike
    obtain ⟨a1, a2, a3, a4, a5, a6, a7, a8, a9, a10, a11, a12, a13⟩ := q
    refine ⟨a1.moved hv, a2.moved hv, a3.moved hv, a4.moved hv, a5.moved hv, a6.moved hv, a7.moved hv, a8.moved hv, a9.moved hv, ?_, ?_, ?_, ?_⟩
    · rcases h with h | h
      · exact vk_R.same h.symm a10
      · exact vk_R.warm h a10
    · rcases h with h | h
      · exact va_Nw.same rfl h a11
      · exact va_Nw.warmM h a11
    · rcases h with h | h
      · exact va_Nw.same rfl h a12
      · exact va_Nw.warmF h a12
    · rcases h with h | h
      · exact va_Nw.same rfl h a13
      · exact va_Nw.warmF h a13
  · obtain ⟨a1, a2, a3, a4, a5, a6, a7, a8, a9, a10⟩ := q
    exact ⟨a1.kept hq, a2.kept hq, a3.kept hq, a4.kept hq, a5.kept hq, a6.kept hq, a7.kept hq, a8.kept hq, a9.kept hq, a10⟩
  · obtain ⟨a1, a2, a3, a4, a5, a6, a7, a8, a9, a10⟩ := q
    exact ⟨a1.narrow hAB, a2.narrow hAB, a3.narrow hAB, a4.narrow hAB, a5.narrow hAB, a6.narrow hAB, a7.narrow hAB, a8.narrow hAB, a9.narrow hAB, a10⟩
theorem x_rec {t : Nat} {A : Nat → Prop} {s : State} {H : Heap} {locs : List Loc} (hE : va_O "java/lang/String" t A s s.heap) (hS : va_S A s.heap H locs) : ∃ cell : Cell, H[t]? = some cell ∧ cell.vm.isStatics = false ∧ s.vm.findClass "java/lang/String" = some cell.cls := by
  obtain ⟨cell, h1, h2, h3, -⟩ := hE.kept hS.2.1
  exact ⟨cell, h1, h2, h3⟩
-- single instructions, in the shape that the functions have
theorem x_remE (x y : Int32) : x - x / y * y = x % y := by
  apply Int32.toInt_inj.mp
  have h : ((x % y).toInt).bmod (2 ^ 32) = (x % y).toInt := Int32.toInt_bmod _
  rw [← h, Int32.toInt_sub, Int32.toInt_mul, Int32.toInt_div, Int32.toInt_mod, Int.tmod_def]
  simp [Int.mul_comm]
theorem x_remEL (x y : Int64) : x - x / y * y = x % y := by
  apply Int64.toInt_inj.mp
  have h : ((x % y).toInt).bmod (2 ^ 64) = (x % y).toInt := Int64.toInt_bmod _
  rw [← h, Int64.toInt_sub, Int64.toInt_mul, Int64.toInt_div, Int64.toInt_mod, Int.tmod_def]
  simp [Int.mul_comm]
theorem x_cpy {n : Int32} {a b : Nat} (h : ¬ (n < 0 ∨ a < n.toNatClampNeg)) (hab : a ≤ b) : (0 : Int32).toNatClampNeg + n.toNatClampNeg ≤ b := by
  have h2 : ¬ a < n.toNatClampNeg := fun z => h (Or.inr z)
  have h3 : (0 : Int32).toNatClampNeg = 0 := by decide +kernel
  omega
theorem x_narZ {v : Int32} (h : ¬ ¬ (v = 0 ∨ v = 1)) : narrow .boolean (.int v) = .int v := by
  rcases Decidable.of_not_not h with rfl | rfl <;> rfl
theorem x_fitZ {v : Int32} (h : ¬ ¬ (v = 0 ∨ v = 1)) : fits .boolean (.int v) = true := by
  rcases Decidable.of_not_not h with rfl | rfl <;> rfl
theorem x_narC {v : Int32} (h : ¬ ¬ vp_nar .char v = v) : narrow .char (.int v) = .int v := congrArg Value.int (Decidable.of_not_not h)
section XR
variable {p : Program} {l : Launch} {e : Env} {R : Room} {s : State} {m : MethodId} {args : Array Value} {below : List Frame} {meth : Method} {c : Code} {H H0 : Heap} {locs : List Loc} {cells slots : Nat} {Q : State → Prop} {cc : ByteArray} {A : Nat → Prop} {pc : Nat} {ls : Array Slot} {rest : List Value} {D : va_G} {tys : List (ClassId × FieldType)} {ws : va_W} {a : Nat}
theorem x_idiv (hexec : p.tables.exec = Jvm.exec) (hb : c.code = cc) {x y : Int32} (hdg : decode cc pc = .ok (.idiv, 1)) (hne : ¬ y = 0) (k : W p l e R s m args below meth c H locs cells slots Q (F0 m (pc + 1) ls (.int (x / y) :: rest))) : W p l e R s m args below meth c H locs cells slots Q (F0 m pc ls (.int y :: .int x :: rest)) := lv_idiv hexec hb hdg hne k
theorem x_irem (hexec : p.tables.exec = Jvm.exec) (hb : c.code = cc) {x y : Int32} (hdg : decode cc pc = .ok (.irem, 1)) (hne : ¬ y = 0) (k : W p l e R s m args below meth c H locs cells slots Q (F0 m (pc + 1) ls (.int (x % y) :: rest))) : W p l e R s m args below meth c H locs cells slots Q (F0 m pc ls (.int y :: .int x :: rest)) := lv_irem hexec hb hdg hne (by rw [x_remE]; exact k)
theorem x_ldiv (hexec : p.tables.exec = Jvm.exec) (hb : c.code = cc) {x y : Int64} (hdg : decode cc pc = .ok (.ldiv, 1)) (hne : ¬ y = 0) (k : W p l e R s m args below meth c H locs cells slots Q (F0 m (pc + 1) ls (.long (x / y) :: rest))) : W p l e R s m args below meth c H locs cells slots Q (F0 m pc ls (.long y :: .long x :: rest)) := lv_ldiv hexec hb hdg hne k
theorem x_lrem (hexec : p.tables.exec = Jvm.exec) (hb : c.code = cc) {x y : Int64} (hdg : decode cc pc = .ok (.lrem, 1)) (hne : ¬ y = 0) (k : W p l e R s m args below meth c H locs cells slots Q (F0 m (pc + 1) ls (.long (x % y) :: rest))) : W p l e R s m args below meth c H locs cells slots Q (F0 m pc ls (.long y :: .long x :: rest)) := lv_lrem hexec hb hdg hne (by rw [x_remEL]; exact k)
theorem x_iald (hexec : p.tables.exec = Jvm.exec) (hb : c.code = cc) (hK : va_K D classes tys s) (hP : va_P D classes ws H) (q0 t0 : Nat) {cA : ClassId} {n : Nat} {f : Nat → Int32} (ha : ws[q0]? = some (a, .inl (cA, n, .inl f))) (ht : tys[t0]? = some (cA, .int)) {i : Int32} {j : Nat} (hj : i.toNatClampNeg = j) (hin : vp_in i n) (hdg : decode cc pc = .ok (.iaload, 1))
    (kk : W p l e R s m args below meth c H locs cells slots Q (F0 m (pc + 1) ls (.int (f j) :: rest))) : W p l e R s m args below meth c H locs cells slots Q (F0 m pc ls (.int i :: .ref a :: rest)) := va_iald hexec hb hK hP q0 t0 ha ht hin hdg (by rw [hj]; exact kk)
theorem x_lald (hexec : p.tables.exec = Jvm.exec) (hb : c.code = cc) (hK : va_K D classes tys s) (hP : va_P D classes ws H) (q0 t0 : Nat) {cA : ClassId} {n : Nat} {f : Nat → Int64} (ha : ws[q0]? = some (a, .inl (cA, n, .inr (.inl f)))) (ht : tys[t0]? = some (cA, .long)) {i : Int32} {j : Nat} (hj : i.toNatClampNeg = j) (hin : vp_in i n) (hdg : decode cc pc = .ok (.laload, 1))
    (kk : W p l e R s m args below meth c H locs cells slots Q (F0 m (pc + 1) ls (.long (f j) :: rest))) : W p l e R s m args below meth c H locs cells slots Q (F0 m pc ls (.int i :: .ref a :: rest)) := va_lald hexec hb hK hP q0 t0 ha ht hin hdg (by rw [hj]; exact kk)
theorem x_cald (hexec : p.tables.exec = Jvm.exec) (hb : c.code = cc) (hK : va_K D classes tys s) (hP : va_P D classes ws H) (q0 t0 : Nat) {cA : ClassId} {n : Nat} {f : Nat → Int32} (ha : ws[q0]? = some (a, .inl (cA, n, .inl f))) (ht : tys[t0]? = some (cA, .char)) {i : Int32} {j : Nat} (hj : i.toNatClampNeg = j) (hin : vp_in i n) (hdg : decode cc pc = .ok (.caload, 1))
    (kk : W p l e R s m args below meth c H locs cells slots Q (F0 m (pc + 1) ls (.int (f j) :: rest))) : W p l e R s m args below meth c H locs cells slots Q (F0 m pc ls (.int i :: .ref a :: rest)) := va_cald hexec hb hK hP q0 t0 ha ht hin hdg (by rw [hj]; exact kk)
theorem x_iast (hexec : p.tables.exec = Jvm.exec) (hb : c.code = cc) (hK : va_K D classes tys s) (hP : va_P D classes ws H) (hD : va_D A ws) (hS : va_S A H0 H locs) (q0 t0 : Nat) {cA : ClassId} {n : Nat} {f : Nat → Int32} (ha : ws[q0]? = some (a, .inl (cA, n, .inl f))) (ht : tys[t0]? = some (cA, .int)) {i : Int32} {x : Int32} {j : Nat} (hj : i.toNatClampNeg = j) (hin : vp_in i n) (hdg : decode cc pc = .ok (.iastore, 1))
    (kk : ∀ (H1 : Heap) (locs1 : List Loc), va_P D classes (ws.set q0 (a, .inl (cA, n, .inl (upd f j x)))) H1 → va_D A (ws.set q0 (a, .inl (cA, n, .inl (upd f j x)))) → va_S A H0 H1 locs1 → W p l e R s m args below meth c H1 locs1 cells slots Q (F0 m (pc + 1) ls rest)) : W p l e R s m args below meth c H locs cells slots Q (F0 m pc ls (.int x :: .int i :: .ref a :: rest)) := va_iast hexec hb hK hP hD hS q0 t0 ha ht hin hdg (by rw [hj]; exact kk)
theorem x_last (hexec : p.tables.exec = Jvm.exec) (hb : c.code = cc) (hK : va_K D classes tys s) (hP : va_P D classes ws H) (hD : va_D A ws) (hS : va_S A H0 H locs) (q0 t0 : Nat) {cA : ClassId} {n : Nat} {f : Nat → Int64} (ha : ws[q0]? = some (a, .inl (cA, n, .inr (.inl f)))) (ht : tys[t0]? = some (cA, .long)) {i : Int32} {x : Int64} {j : Nat} (hj : i.toNatClampNeg = j) (hin : vp_in i n) (hdg : decode cc pc = .ok (.lastore, 1))
    (kk : ∀ (H1 : Heap) (locs1 : List Loc), va_P D classes (ws.set q0 (a, .inl (cA, n, .inr (.inl (vp_updL f j x))))) H1 → va_D A (ws.set q0 (a, .inl (cA, n, .inr (.inl (vp_updL f j x))))) → va_S A H0 H1 locs1 → W p l e R s m args below meth c H1 locs1 cells slots Q (F0 m (pc + 1) ls rest)) : W p l e R s m args below meth c H locs cells slots Q (F0 m pc ls (.long x :: .int i :: .ref a :: rest)) := va_last hexec hb hK hP hD hS q0 t0 ha ht hin hdg (by rw [hj]; exact kk)
theorem x_cast (hexec : p.tables.exec = Jvm.exec) (hb : c.code = cc) (hK : va_K D classes tys s) (hP : va_P D classes ws H) (hD : va_D A ws) (hS : va_S A H0 H locs) (q0 t0 : Nat) {cA : ClassId} {n : Nat} {f : Nat → Int32} (ha : ws[q0]? = some (a, .inl (cA, n, .inl f))) (ht : tys[t0]? = some (cA, .char)) {i : Int32} {x : Int32} {j : Nat} (hj : i.toNatClampNeg = j) (hin : vp_in i n) (hdg : decode cc pc = .ok (.castore, 1))
    (kk : ∀ (H1 : Heap) (locs1 : List Loc), va_P D classes (ws.set q0 (a, .inl (cA, n, .inl (upd f j (vp_nar .char x))))) H1 → va_D A (ws.set q0 (a, .inl (cA, n, .inl (upd f j (vp_nar .char x))))) → va_S A H0 H1 locs1 → W p l e R s m args below meth c H1 locs1 cells slots Q (F0 m (pc + 1) ls rest)) : W p l e R s m args below meth c H locs cells slots Q (F0 m pc ls (.int x :: .int i :: .ref a :: rest)) := va_cast hexec hb hK hP hD hS q0 t0 ha ht hin hdg (by rw [hj]; exact kk)
theorem x_copyi (hexec : p.tables.exec = Jvm.exec) (hb : c.code = cc) (hml : c.maxLocals = ls.size) {own : String} {index : Nat} (hown : s.vm.findClass own = some m.cls) (hlink : (Cond.methodLink own index arraycopyName).before args s = true) (hnat : (Cond.native arraycopyName).before args s = true) (hstat : (Cond.static arraycopyName).before args s = true) (hini : (Cond.initialized "java/lang/System").before args s = true)
    (hK : va_K D classes tys s) (hP : va_P D classes ws H) (hD : va_D A ws) (hS : va_S A H0 H locs) (q0 q1 t0 t1 : Nat) {a0 : Nat} {c0 c1 : ClassId} {n0 n1 : Nat} {f g : Nat → Int32} {ty : FieldType} (ha0 : ws[q0]? = some (a0, .inl (c0, n0, .inl f))) (ha1 : ws[q1]? = some (a, .inl (c1, n1, .inl g))) (ht0 : tys[t0]? = some (c0, ty)) (ht1 : tys[t1]? = some (c1, ty)) (hprim : refKind ty = false)
    {sp dp n : Int32} {j : Nat} (h1 : ¬ sp < 0) (h2 : ¬ dp < 0) (h3 : ¬ n < 0) (h4 : sp.toNatClampNeg + n.toNatClampNeg ≤ n0) (h5 : dp.toNatClampNeg + n.toNatClampNeg ≤ n1) (hj : n.toNatClampNeg = j) (hfit : ∀ i, i < n.toNatClampNeg → fits ty (.int (f (sp.toNatClampNeg + i))) = true)
    (hframes : 1 ≤ R.frames) (hlocals : (rest.map fun v => v.category).sum + (nativeFrameWords "java/lang/System" "arraycopy" 5 + 11) ≤ R.locals) (hdg : decode cc pc = .ok (.invokestatic index, 3))
    (kk : ∀ (H1 : Heap) (locs1 : List Loc), va_P D classes (ws.set q1 (a, .inl (c1, n1, .inl (va_cpy f g sp.toNatClampNeg dp.toNatClampNeg j)))) H1 → va_D A (ws.set q1 (a, .inl (c1, n1, .inl (va_cpy f g sp.toNatClampNeg dp.toNatClampNeg j)))) → va_S A H0 H1 locs1 → W p l e R s m args below meth c H1 locs1 cells slots Q (F0 m (pc + 3) ls rest)) : W p l e R s m args below meth c H locs cells slots Q (F0 m pc ls (.int n :: .int dp :: .ref a :: .int sp :: .ref a0 :: rest)) := by
  subst hj
  exact va_copyi hexec hb hml hown hlink hnat hstat hini hK hP hD hS q0 q1 t0 t1 ha0 ha1 ht0 ht1 hprim h1 h2 h3 h4 h5 hfit hframes hlocals hdg kk
theorem x_copyl (hexec : p.tables.exec = Jvm.exec) (hb : c.code = cc) (hml : c.maxLocals = ls.size) {own : String} {index : Nat} (hown : s.vm.findClass own = some m.cls) (hlink : (Cond.methodLink own index arraycopyName).before args s = true) (hnat : (Cond.native arraycopyName).before args s = true) (hstat : (Cond.static arraycopyName).before args s = true) (hini : (Cond.initialized "java/lang/System").before args s = true)
    (hK : va_K D classes tys s) (hP : va_P D classes ws H) (hD : va_D A ws) (hS : va_S A H0 H locs) (q0 q1 t0 t1 : Nat) {a0 : Nat} {c0 c1 : ClassId} {n0 n1 : Nat} {f g : Nat → Int64} {ty : FieldType} (ha0 : ws[q0]? = some (a0, .inl (c0, n0, .inr (.inl f)))) (ha1 : ws[q1]? = some (a, .inl (c1, n1, .inr (.inl g)))) (ht0 : tys[t0]? = some (c0, ty)) (ht1 : tys[t1]? = some (c1, ty)) (hprim : refKind ty = false)
    {sp dp n : Int32} {j : Nat} (h1 : ¬ sp < 0) (h2 : ¬ dp < 0) (h3 : ¬ n < 0) (h4 : sp.toNatClampNeg + n.toNatClampNeg ≤ n0) (h5 : dp.toNatClampNeg + n.toNatClampNeg ≤ n1) (hj : n.toNatClampNeg = j) (hfit : ∀ i, i < n.toNatClampNeg → fits ty (.long (f (sp.toNatClampNeg + i))) = true)
    (hframes : 1 ≤ R.frames) (hlocals : (rest.map fun v => v.category).sum + (nativeFrameWords "java/lang/System" "arraycopy" 5 + 11) ≤ R.locals) (hdg : decode cc pc = .ok (.invokestatic index, 3))
    (kk : ∀ (H1 : Heap) (locs1 : List Loc), va_P D classes (ws.set q1 (a, .inl (c1, n1, .inr (.inl (va_cpy f g sp.toNatClampNeg dp.toNatClampNeg j))))) H1 → va_D A (ws.set q1 (a, .inl (c1, n1, .inr (.inl (va_cpy f g sp.toNatClampNeg dp.toNatClampNeg j))))) → va_S A H0 H1 locs1 → W p l e R s m args below meth c H1 locs1 cells slots Q (F0 m (pc + 3) ls rest)) : W p l e R s m args below meth c H locs cells slots Q (F0 m pc ls (.int n :: .int dp :: .ref a :: .int sp :: .ref a0 :: rest)) := by
  subst hj
  exact va_copyl hexec hb hml hown hlink hnat hstat hini hK hP hD hS q0 q1 t0 t1 ha0 ha1 ht0 ht1 hprim h1 h2 h3 h4 h5 hfit hframes hlocals hdg kk
end XR
end
section
/-! The tables' words that the walks need; the methods. Printed by wip/whole/gen. -/
theorem k_1 : Cond.initialized "HalfToTheLeft" ∈ gw_tbl := tb_i 1 (by decide +kernel) rfl
theorem k_2 : Cond.initialized "HalfToTheLeft$Ring" ∈ gw_tbl := tb_i 2 (by decide +kernel) rfl
theorem k_3 : Cond.initialized "HalfToTheLeft$Letters" ∈ gw_tbl := tb_i 3 (by decide +kernel) rfl
theorem k_4 : Cond.initialized "HalfToTheLeft$Mind" ∈ gw_tbl := tb_i 4 (by decide +kernel) rfl
theorem k_5 : Cond.initialized "HalfToTheLeft$Crumbs" ∈ gw_tbl := tb_i 5 (by decide +kernel) rfl
theorem k_8 : Cond.initialized "java/lang/String" ∈ gw_tbl := tb_i 8 (by decide +kernel) rfl
theorem k_9 : Cond.initialized "java/lang/StringLatin1" ∈ gw_tbl := tb_i 9 (by decide +kernel) rfl
theorem k_10 : Cond.initialized "java/lang/Math" ∈ gw_tbl := tb_i 10 (by decide +kernel) rfl
theorem k_14 : Cond.initialized "java/lang/System" ∈ gw_tbl := tb_i 14 (by decide +kernel) rfl
theorem k_29 : Cond.fieldLink "HalfToTheLeft$Ring" 9 "HalfToTheLeft$Ring" "kinds" "[I" ∈ gw_tbl := tb_i 29 (by decide +kernel) rfl
theorem k_30 : Cond.fieldLink "HalfToTheLeft" 88 "HalfToTheLeft$Ring" "kinds" "[I" ∈ gw_tbl := tb_i 30 (by decide +kernel) rfl
theorem k_31 : Cond.fieldLink "HalfToTheLeft$Ring" 15 "HalfToTheLeft$Ring" "sweets" "[I" ∈ gw_tbl := tb_i 31 (by decide +kernel) rfl
theorem k_32 : Cond.fieldLink "HalfToTheLeft$Mind" 33 "HalfToTheLeft$Ring" "sweets" "[I" ∈ gw_tbl := tb_i 32 (by decide +kernel) rfl
theorem k_33 : Cond.fieldLink "HalfToTheLeft$Crumbs" 34 "HalfToTheLeft$Ring" "sweets" "[I" ∈ gw_tbl := tb_i 33 (by decide +kernel) rfl
theorem k_34 : Cond.fieldLink "HalfToTheLeft" 91 "HalfToTheLeft$Ring" "sweets" "[I" ∈ gw_tbl := tb_i 34 (by decide +kernel) rfl
theorem k_35 : Cond.fieldLink "HalfToTheLeft$Ring" 18 "HalfToTheLeft$Ring" "settings" "[I" ∈ gw_tbl := tb_i 35 (by decide +kernel) rfl
theorem k_36 : Cond.fieldLink "HalfToTheLeft" 110 "HalfToTheLeft$Ring" "settings" "[I" ∈ gw_tbl := tb_i 36 (by decide +kernel) rfl
theorem k_37 : Cond.fieldLink "HalfToTheLeft$Letters" 86 "HalfToTheLeft$Ring" "settings" "[I" ∈ gw_tbl := tb_i 37 (by decide +kernel) rfl
theorem k_38 : Cond.fieldLink "HalfToTheLeft$Ring" 21 "HalfToTheLeft$Ring" "children" "I" ∈ gw_tbl := tb_i 38 (by decide +kernel) rfl
theorem k_39 : Cond.fieldLink "HalfToTheLeft$Crumbs" 29 "HalfToTheLeft$Ring" "children" "I" ∈ gw_tbl := tb_i 39 (by decide +kernel) rfl
theorem k_40 : Cond.fieldLink "HalfToTheLeft" 121 "HalfToTheLeft$Ring" "children" "I" ∈ gw_tbl := tb_i 40 (by decide +kernel) rfl
theorem k_41 : Cond.fieldLink "HalfToTheLeft$Ring" 25 "HalfToTheLeft$Ring" "strokes" "I" ∈ gw_tbl := tb_i 41 (by decide +kernel) rfl
theorem k_42 : Cond.fieldLink "HalfToTheLeft" 236 "HalfToTheLeft$Ring" "strokes" "I" ∈ gw_tbl := tb_i 42 (by decide +kernel) rfl
theorem k_43 : Cond.fieldLink "HalfToTheLeft$Ring" 28 "HalfToTheLeft$Ring" "gave" "I" ∈ gw_tbl := tb_i 43 (by decide +kernel) rfl
theorem k_44 : Cond.fieldLink "HalfToTheLeft$Mind" 37 "HalfToTheLeft$Ring" "gave" "I" ∈ gw_tbl := tb_i 44 (by decide +kernel) rfl
theorem k_45 : Cond.fieldLink "HalfToTheLeft" 239 "HalfToTheLeft$Ring" "gave" "I" ∈ gw_tbl := tb_i 45 (by decide +kernel) rfl
theorem k_46 : Cond.fieldLink "HalfToTheLeft$Ring" 31 "HalfToTheLeft$Ring" "threw" "I" ∈ gw_tbl := tb_i 46 (by decide +kernel) rfl
theorem k_47 : Cond.fieldLink "HalfToTheLeft$Mind" 40 "HalfToTheLeft$Ring" "threw" "I" ∈ gw_tbl := tb_i 47 (by decide +kernel) rfl
theorem k_48 : Cond.fieldLink "HalfToTheLeft" 242 "HalfToTheLeft$Ring" "threw" "I" ∈ gw_tbl := tb_i 48 (by decide +kernel) rfl
theorem k_49 : Cond.fieldLink "HalfToTheLeft$Ring" 34 "HalfToTheLeft$Ring" "heaps" "[I" ∈ gw_tbl := tb_i 49 (by decide +kernel) rfl
theorem k_76 : Cond.fieldLink "HalfToTheLeft$Letters" 9 "HalfToTheLeft$Letters" "length" "I" ∈ gw_tbl := tb_i 76 (by decide +kernel) rfl
theorem k_77 : Cond.fieldLink "HalfToTheLeft" 73 "HalfToTheLeft$Letters" "length" "I" ∈ gw_tbl := tb_i 77 (by decide +kernel) rfl
theorem k_78 : Cond.fieldLink "HalfToTheLeft$Letters" 15 "HalfToTheLeft$Letters" "text" "[C" ∈ gw_tbl := tb_i 78 (by decide +kernel) rfl
theorem k_79 : Cond.fieldLink "HalfToTheLeft$Letters" 22 "HalfToTheLeft$Letters" "trial" "LHalfToTheLeft$Ring;" ∈ gw_tbl := tb_i 79 (by decide +kernel) rfl
theorem k_96 : Cond.fieldLink "HalfToTheLeft$Mind" 12 "HalfToTheLeft$Mind" "one" "LHalfToTheLeft$Ring;" ∈ gw_tbl := tb_i 96 (by decide +kernel) rfl
theorem k_97 : Cond.fieldLink "HalfToTheLeft$Mind" 18 "HalfToTheLeft$Mind" "two" "LHalfToTheLeft$Ring;" ∈ gw_tbl := tb_i 97 (by decide +kernel) rfl
theorem k_112 : Cond.fieldLink "HalfToTheLeft$Crumbs" 9 "HalfToTheLeft$Crumbs" "have" "[J" ∈ gw_tbl := tb_i 112 (by decide +kernel) rfl
theorem k_113 : Cond.fieldLink "HalfToTheLeft$Crumbs" 15 "HalfToTheLeft$Crumbs" "next" "[J" ∈ gw_tbl := tb_i 113 (by decide +kernel) rfl
theorem k_114 : Cond.fieldLink "HalfToTheLeft$Crumbs" 18 "HalfToTheLeft$Crumbs" "doublings" "I" ∈ gw_tbl := tb_i 114 (by decide +kernel) rfl
theorem k_156 : Cond.fieldLink "HalfToTheLeft" 10 "HalfToTheLeft" "now" "LHalfToTheLeft$Ring;" ∈ gw_tbl := tb_i 156 (by decide +kernel) rfl
theorem k_159 : Cond.fieldLink "HalfToTheLeft" 26 "HalfToTheLeft" "letters" "LHalfToTheLeft$Letters;" ∈ gw_tbl := tb_i 159 (by decide +kernel) rfl
theorem k_161 : Cond.fieldLink "HalfToTheLeft" 34 "HalfToTheLeft" "numberCount" "I" ∈ gw_tbl := tb_i 161 (by decide +kernel) rfl
theorem k_162 : Cond.fieldLink "HalfToTheLeft" 38 "HalfToTheLeft" "refusals" "[I" ∈ gw_tbl := tb_i 162 (by decide +kernel) rfl
theorem k_163 : Cond.fieldLink "HalfToTheLeft" 44 "HalfToTheLeft" "mind" "LHalfToTheLeft$Mind;" ∈ gw_tbl := tb_i 163 (by decide +kernel) rfl
theorem k_164 : Cond.fieldLink "HalfToTheLeft" 51 "HalfToTheLeft" "parts" "LHalfToTheLeft$Crumbs;" ∈ gw_tbl := tb_i 164 (by decide +kernel) rfl
theorem k_194 : Cond.methodLink "HalfToTheLeft" 84 ⟨"HalfToTheLeft$Ring", "has", "(I)Z"⟩ ∈ gw_tbl := tb_i 194 (by decide +kernel) rfl
theorem k_195 : Cond.instanceMethod ⟨"HalfToTheLeft$Ring", "has", "(I)Z"⟩ ∈ gw_tbl := tb_i 195 (by decide +kernel) rfl
theorem k_196 : Cond.selects "HalfToTheLeft$Ring" ⟨"HalfToTheLeft$Ring", "has", "(I)Z"⟩ ⟨"HalfToTheLeft$Ring", "has", "(I)Z"⟩ ∈ gw_tbl := tb_i 196 (by decide +kernel) rfl
theorem k_197 : Cond.code ⟨"HalfToTheLeft$Ring", "has", "(I)Z"⟩ prog_6_method_3_code 2 (some .boolean) ∈ gw_tbl := tb_i 197 (by decide +kernel) rfl
theorem k_198 : Cond.methodLink "HalfToTheLeft" 69 ⟨"HalfToTheLeft", "refuse", "(I)I"⟩ ∈ gw_tbl := tb_i 198 (by decide +kernel) rfl
theorem k_200 : Cond.instanceMethod ⟨"HalfToTheLeft", "refuse", "(I)I"⟩ ∈ gw_tbl := tb_i 200 (by decide +kernel) rfl
theorem k_201 : Cond.code ⟨"HalfToTheLeft", "refuse", "(I)I"⟩ prog_1_method_34_code 2 (some .int) ∈ gw_tbl := tb_i 201 (by decide +kernel) rfl
theorem k_202 : Cond.methodLink "HalfToTheLeft" 94 ⟨"HalfToTheLeft$Ring", "gift", "(I)I"⟩ ∈ gw_tbl := tb_i 202 (by decide +kernel) rfl
theorem k_203 : Cond.instanceMethod ⟨"HalfToTheLeft$Ring", "gift", "(I)I"⟩ ∈ gw_tbl := tb_i 203 (by decide +kernel) rfl
theorem k_204 : Cond.selects "HalfToTheLeft$Ring" ⟨"HalfToTheLeft$Ring", "gift", "(I)I"⟩ ⟨"HalfToTheLeft$Ring", "gift", "(I)I"⟩ ∈ gw_tbl := tb_i 204 (by decide +kernel) rfl
theorem k_205 : Cond.code ⟨"HalfToTheLeft$Ring", "gift", "(I)I"⟩ prog_6_method_9_code 5 (some .int) ∈ gw_tbl := tb_i 205 (by decide +kernel) rfl
theorem k_206 : Cond.methodLink "HalfToTheLeft$Ring" 47 ⟨"HalfToTheLeft$Ring", "leftOf", "(I)I"⟩ ∈ gw_tbl := tb_i 206 (by decide +kernel) rfl
theorem k_207 : Cond.instanceMethod ⟨"HalfToTheLeft$Ring", "leftOf", "(I)I"⟩ ∈ gw_tbl := tb_i 207 (by decide +kernel) rfl
theorem k_208 : Cond.selects "HalfToTheLeft$Ring" ⟨"HalfToTheLeft$Ring", "leftOf", "(I)I"⟩ ⟨"HalfToTheLeft$Ring", "leftOf", "(I)I"⟩ ∈ gw_tbl := tb_i 208 (by decide +kernel) rfl
theorem k_209 : Cond.code ⟨"HalfToTheLeft$Ring", "leftOf", "(I)I"⟩ prog_6_method_7_code 2 (some .int) ∈ gw_tbl := tb_i 209 (by decide +kernel) rfl
theorem k_210 : Cond.methodLink "HalfToTheLeft" 97 ⟨"HalfToTheLeft$Ring", "sides", "(I)I"⟩ ∈ gw_tbl := tb_i 210 (by decide +kernel) rfl
theorem k_211 : Cond.instanceMethod ⟨"HalfToTheLeft$Ring", "sides", "(I)I"⟩ ∈ gw_tbl := tb_i 211 (by decide +kernel) rfl
theorem k_212 : Cond.selects "HalfToTheLeft$Ring" ⟨"HalfToTheLeft$Ring", "sides", "(I)I"⟩ ⟨"HalfToTheLeft$Ring", "sides", "(I)I"⟩ ∈ gw_tbl := tb_i 212 (by decide +kernel) rfl
theorem k_213 : Cond.code ⟨"HalfToTheLeft$Ring", "sides", "(I)I"⟩ prog_6_method_10_code 2 (some .int) ∈ gw_tbl := tb_i 213 (by decide +kernel) rfl
theorem k_214 : Cond.methodLink "HalfToTheLeft$Ring" 51 ⟨"HalfToTheLeft$Ring", "gift", "(I)I"⟩ ∈ gw_tbl := tb_i 214 (by decide +kernel) rfl
theorem k_219 : Cond.methodLink "HalfToTheLeft" 124 ⟨"HalfToTheLeft$Ring", "strike", "()I"⟩ ∈ gw_tbl := tb_i 219 (by decide +kernel) rfl
theorem k_220 : Cond.instanceMethod ⟨"HalfToTheLeft$Ring", "strike", "()I"⟩ ∈ gw_tbl := tb_i 220 (by decide +kernel) rfl
theorem k_221 : Cond.selects "HalfToTheLeft$Ring" ⟨"HalfToTheLeft$Ring", "strike", "()I"⟩ ⟨"HalfToTheLeft$Ring", "strike", "()I"⟩ ∈ gw_tbl := tb_i 221 (by decide +kernel) rfl
theorem k_222 : Cond.code ⟨"HalfToTheLeft$Ring", "strike", "()I"⟩ prog_6_method_12_code 3 (some .int) ∈ gw_tbl := tb_i 222 (by decide +kernel) rfl
theorem k_223 : Cond.methodLink "HalfToTheLeft$Ring" 57 ⟨"HalfToTheLeft$Ring", "handOn", "()V"⟩ ∈ gw_tbl := tb_i 223 (by decide +kernel) rfl
theorem k_225 : Cond.instanceMethod ⟨"HalfToTheLeft$Ring", "handOn", "()V"⟩ ∈ gw_tbl := tb_i 225 (by decide +kernel) rfl
theorem k_226 : Cond.code ⟨"HalfToTheLeft$Ring", "handOn", "()V"⟩ prog_6_method_14_code 3 none ∈ gw_tbl := tb_i 226 (by decide +kernel) rfl
theorem k_227 : Cond.methodLink "HalfToTheLeft$Ring" 37 ⟨"java/lang/System", "arraycopy", "(Ljava/lang/Object;ILjava/lang/Object;II)V"⟩ ∈ gw_tbl := tb_i 227 (by decide +kernel) rfl
theorem k_228 : Cond.static ⟨"java/lang/System", "arraycopy", "(Ljava/lang/Object;ILjava/lang/Object;II)V"⟩ ∈ gw_tbl := tb_i 228 (by decide +kernel) rfl
theorem k_229 : Cond.native ⟨"java/lang/System", "arraycopy", "(Ljava/lang/Object;ILjava/lang/Object;II)V"⟩ ∈ gw_tbl := tb_i 229 (by decide +kernel) rfl
theorem k_230 : Cond.methodLink "HalfToTheLeft$Ring" 54 ⟨"HalfToTheLeft$Ring", "rightOf", "(I)I"⟩ ∈ gw_tbl := tb_i 230 (by decide +kernel) rfl
theorem k_231 : Cond.instanceMethod ⟨"HalfToTheLeft$Ring", "rightOf", "(I)I"⟩ ∈ gw_tbl := tb_i 231 (by decide +kernel) rfl
theorem k_232 : Cond.selects "HalfToTheLeft$Ring" ⟨"HalfToTheLeft$Ring", "rightOf", "(I)I"⟩ ⟨"HalfToTheLeft$Ring", "rightOf", "(I)I"⟩ ∈ gw_tbl := tb_i 232 (by decide +kernel) rfl
theorem k_233 : Cond.code ⟨"HalfToTheLeft$Ring", "rightOf", "(I)I"⟩ prog_6_method_8_code 2 (some .int) ∈ gw_tbl := tb_i 233 (by decide +kernel) rfl
theorem k_234 : Cond.methodLink "HalfToTheLeft$Ring" 68 ⟨"java/lang/Math", "min", "(II)I"⟩ ∈ gw_tbl := tb_i 234 (by decide +kernel) rfl
theorem k_235 : Cond.static ⟨"java/lang/Math", "min", "(II)I"⟩ ∈ gw_tbl := tb_i 235 (by decide +kernel) rfl
theorem k_236 : Cond.code ⟨"java/lang/Math", "min", "(II)I"⟩ prog_12_method_69_code 2 (some .int) ∈ gw_tbl := tb_i 236 (by decide +kernel) rfl
theorem k_237 : Cond.methodLink "HalfToTheLeft$Ring" 60 ⟨"HalfToTheLeft$Ring", "mend", "(I)V"⟩ ∈ gw_tbl := tb_i 237 (by decide +kernel) rfl
theorem k_239 : Cond.instanceMethod ⟨"HalfToTheLeft$Ring", "mend", "(I)V"⟩ ∈ gw_tbl := tb_i 239 (by decide +kernel) rfl
theorem k_240 : Cond.code ⟨"HalfToTheLeft$Ring", "mend", "(I)V"⟩ prog_6_method_15_code 2 none ∈ gw_tbl := tb_i 240 (by decide +kernel) rfl
theorem k_245 : Cond.methodLink "HalfToTheLeft" 100 ⟨"HalfToTheLeft", "outside", "(III)I"⟩ ∈ gw_tbl := tb_i 245 (by decide +kernel) rfl
theorem k_246 : Cond.static ⟨"HalfToTheLeft", "outside", "(III)I"⟩ ∈ gw_tbl := tb_i 246 (by decide +kernel) rfl
theorem k_247 : Cond.code ⟨"HalfToTheLeft", "outside", "(III)I"⟩ prog_1_method_35_code 3 (some .int) ∈ gw_tbl := tb_i 247 (by decide +kernel) rfl
theorem k_248 : Cond.methodLink "HalfToTheLeft" 128 ⟨"HalfToTheLeft$Mind", "sweetsBehind", "(LHalfToTheLeft$Ring;II)I"⟩ ∈ gw_tbl := tb_i 248 (by decide +kernel) rfl
theorem k_249 : Cond.instanceMethod ⟨"HalfToTheLeft$Mind", "sweetsBehind", "(LHalfToTheLeft$Ring;II)I"⟩ ∈ gw_tbl := tb_i 249 (by decide +kernel) rfl
theorem k_250 : Cond.selects "HalfToTheLeft$Mind" ⟨"HalfToTheLeft$Mind", "sweetsBehind", "(LHalfToTheLeft$Ring;II)I"⟩ ⟨"HalfToTheLeft$Mind", "sweetsBehind", "(LHalfToTheLeft$Ring;II)I"⟩ ∈ gw_tbl := tb_i 250 (by decide +kernel) rfl
theorem k_251 : Cond.code ⟨"HalfToTheLeft$Mind", "sweetsBehind", "(LHalfToTheLeft$Ring;II)I"⟩ prog_4_method_2_code 4 (some .int) ∈ gw_tbl := tb_i 251 (by decide +kernel) rfl
theorem k_252 : Cond.methodLink "HalfToTheLeft$Mind" 25 ⟨"HalfToTheLeft$Ring", "copyFrom", "(LHalfToTheLeft$Ring;)V"⟩ ∈ gw_tbl := tb_i 252 (by decide +kernel) rfl
theorem k_253 : Cond.instanceMethod ⟨"HalfToTheLeft$Ring", "copyFrom", "(LHalfToTheLeft$Ring;)V"⟩ ∈ gw_tbl := tb_i 253 (by decide +kernel) rfl
theorem k_254 : Cond.selects "HalfToTheLeft$Ring" ⟨"HalfToTheLeft$Ring", "copyFrom", "(LHalfToTheLeft$Ring;)V"⟩ ⟨"HalfToTheLeft$Ring", "copyFrom", "(LHalfToTheLeft$Ring;)V"⟩ ∈ gw_tbl := tb_i 254 (by decide +kernel) rfl
theorem k_255 : Cond.code ⟨"HalfToTheLeft$Ring", "copyFrom", "(LHalfToTheLeft$Ring;)V"⟩ prog_6_method_2_code 2 none ∈ gw_tbl := tb_i 255 (by decide +kernel) rfl
theorem k_256 : Cond.methodLink "HalfToTheLeft$Mind" 29 ⟨"HalfToTheLeft$Ring", "strikeOften", "(I)V"⟩ ∈ gw_tbl := tb_i 256 (by decide +kernel) rfl
theorem k_257 : Cond.instanceMethod ⟨"HalfToTheLeft$Ring", "strikeOften", "(I)V"⟩ ∈ gw_tbl := tb_i 257 (by decide +kernel) rfl
theorem k_258 : Cond.selects "HalfToTheLeft$Ring" ⟨"HalfToTheLeft$Ring", "strikeOften", "(I)V"⟩ ⟨"HalfToTheLeft$Ring", "strikeOften", "(I)V"⟩ ∈ gw_tbl := tb_i 258 (by decide +kernel) rfl
theorem k_259 : Cond.code ⟨"HalfToTheLeft$Ring", "strikeOften", "(I)V"⟩ prog_6_method_13_code 3 none ∈ gw_tbl := tb_i 259 (by decide +kernel) rfl
theorem k_260 : Cond.methodLink "HalfToTheLeft$Ring" 64 ⟨"HalfToTheLeft$Ring", "strike", "()I"⟩ ∈ gw_tbl := tb_i 260 (by decide +kernel) rfl
theorem k_265 : Cond.methodLink "HalfToTheLeft" 132 ⟨"HalfToTheLeft", "isPart", "(I)Z"⟩ ∈ gw_tbl := tb_i 265 (by decide +kernel) rfl
theorem k_266 : Cond.static ⟨"HalfToTheLeft", "isPart", "(I)Z"⟩ ∈ gw_tbl := tb_i 266 (by decide +kernel) rfl
theorem k_267 : Cond.code ⟨"HalfToTheLeft", "isPart", "(I)Z"⟩ prog_1_method_39_code 1 (some .boolean) ∈ gw_tbl := tb_i 267 (by decide +kernel) rfl
theorem k_268 : Cond.methodLink "HalfToTheLeft" 135 ⟨"HalfToTheLeft$Mind", "gaveIn", "(LHalfToTheLeft$Ring;I)I"⟩ ∈ gw_tbl := tb_i 268 (by decide +kernel) rfl
theorem k_269 : Cond.instanceMethod ⟨"HalfToTheLeft$Mind", "gaveIn", "(LHalfToTheLeft$Ring;I)I"⟩ ∈ gw_tbl := tb_i 269 (by decide +kernel) rfl
theorem k_270 : Cond.selects "HalfToTheLeft$Mind" ⟨"HalfToTheLeft$Mind", "gaveIn", "(LHalfToTheLeft$Ring;I)I"⟩ ⟨"HalfToTheLeft$Mind", "gaveIn", "(LHalfToTheLeft$Ring;I)I"⟩ ∈ gw_tbl := tb_i 270 (by decide +kernel) rfl
theorem k_271 : Cond.code ⟨"HalfToTheLeft$Mind", "gaveIn", "(LHalfToTheLeft$Ring;I)I"⟩ prog_4_method_3_code 3 (some .int) ∈ gw_tbl := tb_i 271 (by decide +kernel) rfl
theorem k_272 : Cond.methodLink "HalfToTheLeft" 139 ⟨"HalfToTheLeft$Mind", "threwIn", "(LHalfToTheLeft$Ring;I)I"⟩ ∈ gw_tbl := tb_i 272 (by decide +kernel) rfl
theorem k_273 : Cond.instanceMethod ⟨"HalfToTheLeft$Mind", "threwIn", "(LHalfToTheLeft$Ring;I)I"⟩ ∈ gw_tbl := tb_i 273 (by decide +kernel) rfl
theorem k_274 : Cond.selects "HalfToTheLeft$Mind" ⟨"HalfToTheLeft$Mind", "threwIn", "(LHalfToTheLeft$Ring;I)I"⟩ ⟨"HalfToTheLeft$Mind", "threwIn", "(LHalfToTheLeft$Ring;I)I"⟩ ∈ gw_tbl := tb_i 274 (by decide +kernel) rfl
theorem k_275 : Cond.code ⟨"HalfToTheLeft$Mind", "threwIn", "(LHalfToTheLeft$Ring;I)I"⟩ prog_4_method_4_code 3 (some .int) ∈ gw_tbl := tb_i 275 (by decide +kernel) rfl
theorem k_280 : Cond.methodLink "HalfToTheLeft" 142 ⟨"HalfToTheLeft$Mind", "restsBehind", "(LHalfToTheLeft$Ring;)I"⟩ ∈ gw_tbl := tb_i 280 (by decide +kernel) rfl
theorem k_281 : Cond.instanceMethod ⟨"HalfToTheLeft$Mind", "restsBehind", "(LHalfToTheLeft$Ring;)I"⟩ ∈ gw_tbl := tb_i 281 (by decide +kernel) rfl
theorem k_282 : Cond.selects "HalfToTheLeft$Mind" ⟨"HalfToTheLeft$Mind", "restsBehind", "(LHalfToTheLeft$Ring;)I"⟩ ⟨"HalfToTheLeft$Mind", "restsBehind", "(LHalfToTheLeft$Ring;)I"⟩ ∈ gw_tbl := tb_i 282 (by decide +kernel) rfl
theorem k_283 : Cond.code ⟨"HalfToTheLeft$Mind", "restsBehind", "(LHalfToTheLeft$Ring;)I"⟩ prog_4_method_5_code 3 (some .int) ∈ gw_tbl := tb_i 283 (by decide +kernel) rfl
theorem k_284 : Cond.methodLink "HalfToTheLeft$Mind" 43 ⟨"HalfToTheLeft$Ring", "strike", "()I"⟩ ∈ gw_tbl := tb_i 284 (by decide +kernel) rfl
theorem k_285 : Cond.methodLink "HalfToTheLeft$Mind" 47 ⟨"HalfToTheLeft$Ring", "hasSweetsOf", "(LHalfToTheLeft$Ring;)Z"⟩ ∈ gw_tbl := tb_i 285 (by decide +kernel) rfl
theorem k_286 : Cond.instanceMethod ⟨"HalfToTheLeft$Ring", "hasSweetsOf", "(LHalfToTheLeft$Ring;)Z"⟩ ∈ gw_tbl := tb_i 286 (by decide +kernel) rfl
theorem k_287 : Cond.selects "HalfToTheLeft$Ring" ⟨"HalfToTheLeft$Ring", "hasSweetsOf", "(LHalfToTheLeft$Ring;)Z"⟩ ⟨"HalfToTheLeft$Ring", "hasSweetsOf", "(LHalfToTheLeft$Ring;)Z"⟩ ∈ gw_tbl := tb_i 287 (by decide +kernel) rfl
theorem k_288 : Cond.code ⟨"HalfToTheLeft$Ring", "hasSweetsOf", "(LHalfToTheLeft$Ring;)Z"⟩ prog_6_method_20_code 3 (some .boolean) ∈ gw_tbl := tb_i 288 (by decide +kernel) rfl
theorem k_293 : Cond.methodLink "HalfToTheLeft" 145 ⟨"HalfToTheLeft$Mind", "alikeBehind", "(LHalfToTheLeft$Ring;)I"⟩ ∈ gw_tbl := tb_i 293 (by decide +kernel) rfl
theorem k_294 : Cond.instanceMethod ⟨"HalfToTheLeft$Mind", "alikeBehind", "(LHalfToTheLeft$Ring;)I"⟩ ∈ gw_tbl := tb_i 294 (by decide +kernel) rfl
theorem k_295 : Cond.selects "HalfToTheLeft$Mind" ⟨"HalfToTheLeft$Mind", "alikeBehind", "(LHalfToTheLeft$Ring;)I"⟩ ⟨"HalfToTheLeft$Mind", "alikeBehind", "(LHalfToTheLeft$Ring;)I"⟩ ∈ gw_tbl := tb_i 295 (by decide +kernel) rfl
theorem k_296 : Cond.code ⟨"HalfToTheLeft$Mind", "alikeBehind", "(LHalfToTheLeft$Ring;)I"⟩ prog_4_method_6_code 2 (some .int) ∈ gw_tbl := tb_i 296 (by decide +kernel) rfl
theorem k_297 : Cond.methodLink "HalfToTheLeft$Mind" 51 ⟨"HalfToTheLeft$Mind", "alikeWithin", "(LHalfToTheLeft$Ring;I)I"⟩ ∈ gw_tbl := tb_i 297 (by decide +kernel) rfl
theorem k_298 : Cond.static ⟨"HalfToTheLeft$Mind", "alikeWithin", "(LHalfToTheLeft$Ring;I)I"⟩ ∈ gw_tbl := tb_i 298 (by decide +kernel) rfl
theorem k_299 : Cond.code ⟨"HalfToTheLeft$Mind", "alikeWithin", "(LHalfToTheLeft$Ring;I)I"⟩ prog_4_method_7_code 3 (some .int) ∈ gw_tbl := tb_i 299 (by decide +kernel) rfl
theorem k_300 : Cond.methodLink "HalfToTheLeft$Mind" 55 ⟨"HalfToTheLeft$Ring", "allHaveAlike", "()Z"⟩ ∈ gw_tbl := tb_i 300 (by decide +kernel) rfl
theorem k_301 : Cond.instanceMethod ⟨"HalfToTheLeft$Ring", "allHaveAlike", "()Z"⟩ ∈ gw_tbl := tb_i 301 (by decide +kernel) rfl
theorem k_302 : Cond.selects "HalfToTheLeft$Ring" ⟨"HalfToTheLeft$Ring", "allHaveAlike", "()Z"⟩ ⟨"HalfToTheLeft$Ring", "allHaveAlike", "()Z"⟩ ∈ gw_tbl := tb_i 302 (by decide +kernel) rfl
theorem k_303 : Cond.code ⟨"HalfToTheLeft$Ring", "allHaveAlike", "()Z"⟩ prog_6_method_19_code 2 (some .boolean) ∈ gw_tbl := tb_i 303 (by decide +kernel) rfl
theorem k_308 : Cond.methodLink "HalfToTheLeft" 148 ⟨"HalfToTheLeft$Mind", "roundOf", "(LHalfToTheLeft$Ring;)I"⟩ ∈ gw_tbl := tb_i 308 (by decide +kernel) rfl
theorem k_309 : Cond.instanceMethod ⟨"HalfToTheLeft$Mind", "roundOf", "(LHalfToTheLeft$Ring;)I"⟩ ∈ gw_tbl := tb_i 309 (by decide +kernel) rfl
theorem k_310 : Cond.selects "HalfToTheLeft$Mind" ⟨"HalfToTheLeft$Mind", "roundOf", "(LHalfToTheLeft$Ring;)I"⟩ ⟨"HalfToTheLeft$Mind", "roundOf", "(LHalfToTheLeft$Ring;)I"⟩ ∈ gw_tbl := tb_i 310 (by decide +kernel) rfl
theorem k_311 : Cond.code ⟨"HalfToTheLeft$Mind", "roundOf", "(LHalfToTheLeft$Ring;)I"⟩ prog_4_method_8_code 3 (some .int) ∈ gw_tbl := tb_i 311 (by decide +kernel) rfl
theorem k_312 : Cond.methodLink "HalfToTheLeft$Mind" 59 ⟨"HalfToTheLeft$Ring", "hasSweetsAndBagOf", "(LHalfToTheLeft$Ring;)Z"⟩ ∈ gw_tbl := tb_i 312 (by decide +kernel) rfl
theorem k_313 : Cond.instanceMethod ⟨"HalfToTheLeft$Ring", "hasSweetsAndBagOf", "(LHalfToTheLeft$Ring;)Z"⟩ ∈ gw_tbl := tb_i 313 (by decide +kernel) rfl
theorem k_314 : Cond.selects "HalfToTheLeft$Ring" ⟨"HalfToTheLeft$Ring", "hasSweetsAndBagOf", "(LHalfToTheLeft$Ring;)Z"⟩ ⟨"HalfToTheLeft$Ring", "hasSweetsAndBagOf", "(LHalfToTheLeft$Ring;)Z"⟩ ∈ gw_tbl := tb_i 314 (by decide +kernel) rfl
theorem k_315 : Cond.code ⟨"HalfToTheLeft$Ring", "hasSweetsAndBagOf", "(LHalfToTheLeft$Ring;)Z"⟩ prog_6_method_21_code 2 (some .boolean) ∈ gw_tbl := tb_i 315 (by decide +kernel) rfl
theorem k_316 : Cond.methodLink "HalfToTheLeft$Ring" 77 ⟨"HalfToTheLeft$Ring", "hasSweetsOf", "(LHalfToTheLeft$Ring;)Z"⟩ ∈ gw_tbl := tb_i 316 (by decide +kernel) rfl
theorem k_317 : Cond.methodLink "HalfToTheLeft" 151 ⟨"HalfToTheLeft$Mind", "aheadOfRound", "(LHalfToTheLeft$Ring;I)I"⟩ ∈ gw_tbl := tb_i 317 (by decide +kernel) rfl
theorem k_318 : Cond.instanceMethod ⟨"HalfToTheLeft$Mind", "aheadOfRound", "(LHalfToTheLeft$Ring;I)I"⟩ ∈ gw_tbl := tb_i 318 (by decide +kernel) rfl
theorem k_319 : Cond.selects "HalfToTheLeft$Mind" ⟨"HalfToTheLeft$Mind", "aheadOfRound", "(LHalfToTheLeft$Ring;I)I"⟩ ⟨"HalfToTheLeft$Mind", "aheadOfRound", "(LHalfToTheLeft$Ring;I)I"⟩ ∈ gw_tbl := tb_i 319 (by decide +kernel) rfl
theorem k_320 : Cond.code ⟨"HalfToTheLeft$Mind", "aheadOfRound", "(LHalfToTheLeft$Ring;I)I"⟩ prog_4_method_9_code 4 (some .int) ∈ gw_tbl := tb_i 320 (by decide +kernel) rfl
theorem k_325 : Cond.methodLink "HalfToTheLeft" 113 ⟨"HalfToTheLeft", "areTwo", "(II)Z"⟩ ∈ gw_tbl := tb_i 325 (by decide +kernel) rfl
theorem k_327 : Cond.instanceMethod ⟨"HalfToTheLeft", "areTwo", "(II)Z"⟩ ∈ gw_tbl := tb_i 327 (by decide +kernel) rfl
theorem k_328 : Cond.code ⟨"HalfToTheLeft", "areTwo", "(II)Z"⟩ prog_1_method_40_code 3 (some .boolean) ∈ gw_tbl := tb_i 328 (by decide +kernel) rfl
theorem k_329 : Cond.methodLink "HalfToTheLeft" 154 ⟨"HalfToTheLeft$Mind", "meetBehind", "(LHalfToTheLeft$Ring;II)I"⟩ ∈ gw_tbl := tb_i 329 (by decide +kernel) rfl
theorem k_330 : Cond.instanceMethod ⟨"HalfToTheLeft$Mind", "meetBehind", "(LHalfToTheLeft$Ring;II)I"⟩ ∈ gw_tbl := tb_i 330 (by decide +kernel) rfl
theorem k_331 : Cond.selects "HalfToTheLeft$Mind" ⟨"HalfToTheLeft$Mind", "meetBehind", "(LHalfToTheLeft$Ring;II)I"⟩ ⟨"HalfToTheLeft$Mind", "meetBehind", "(LHalfToTheLeft$Ring;II)I"⟩ ∈ gw_tbl := tb_i 331 (by decide +kernel) rfl
theorem k_332 : Cond.code ⟨"HalfToTheLeft$Mind", "meetBehind", "(LHalfToTheLeft$Ring;II)I"⟩ prog_4_method_10_code 5 (some .int) ∈ gw_tbl := tb_i 332 (by decide +kernel) rfl
theorem k_337 : Cond.constantLong "HalfToTheLeft" 157 4000000000000000000 ∈ gw_tbl := tb_i 337 (by decide +kernel) rfl
theorem k_338 : Cond.methodLink "HalfToTheLeft" 159 ⟨"HalfToTheLeft$Crumbs", "take", "(LHalfToTheLeft$Ring;I)V"⟩ ∈ gw_tbl := tb_i 338 (by decide +kernel) rfl
theorem k_339 : Cond.instanceMethod ⟨"HalfToTheLeft$Crumbs", "take", "(LHalfToTheLeft$Ring;I)V"⟩ ∈ gw_tbl := tb_i 339 (by decide +kernel) rfl
theorem k_340 : Cond.selects "HalfToTheLeft$Crumbs" ⟨"HalfToTheLeft$Crumbs", "take", "(LHalfToTheLeft$Ring;I)V"⟩ ⟨"HalfToTheLeft$Crumbs", "take", "(LHalfToTheLeft$Ring;I)V"⟩ ∈ gw_tbl := tb_i 340 (by decide +kernel) rfl
theorem k_341 : Cond.code ⟨"HalfToTheLeft$Crumbs", "take", "(LHalfToTheLeft$Ring;I)V"⟩ prog_2_method_2_code 4 none ∈ gw_tbl := tb_i 341 (by decide +kernel) rfl
theorem k_342 : Cond.methodLink "HalfToTheLeft$Crumbs" 22 ⟨"HalfToTheLeft$Crumbs", "begin", "(LHalfToTheLeft$Ring;)V"⟩ ∈ gw_tbl := tb_i 342 (by decide +kernel) rfl
theorem k_344 : Cond.instanceMethod ⟨"HalfToTheLeft$Crumbs", "begin", "(LHalfToTheLeft$Ring;)V"⟩ ∈ gw_tbl := tb_i 344 (by decide +kernel) rfl
theorem k_345 : Cond.code ⟨"HalfToTheLeft$Crumbs", "begin", "(LHalfToTheLeft$Ring;)V"⟩ prog_2_method_3_code 3 none ∈ gw_tbl := tb_i 345 (by decide +kernel) rfl
theorem k_346 : Cond.methodLink "HalfToTheLeft$Crumbs" 26 ⟨"HalfToTheLeft$Crumbs", "advance", "(LHalfToTheLeft$Ring;)V"⟩ ∈ gw_tbl := tb_i 346 (by decide +kernel) rfl
theorem k_348 : Cond.instanceMethod ⟨"HalfToTheLeft$Crumbs", "advance", "(LHalfToTheLeft$Ring;)V"⟩ ∈ gw_tbl := tb_i 348 (by decide +kernel) rfl
theorem k_349 : Cond.code ⟨"HalfToTheLeft$Crumbs", "advance", "(LHalfToTheLeft$Ring;)V"⟩ prog_2_method_4_code 3 none ∈ gw_tbl := tb_i 349 (by decide +kernel) rfl
theorem k_350 : Cond.methodLink "HalfToTheLeft$Crumbs" 38 ⟨"HalfToTheLeft$Ring", "rightOf", "(I)I"⟩ ∈ gw_tbl := tb_i 350 (by decide +kernel) rfl
theorem k_351 : Cond.methodLink "HalfToTheLeft$Crumbs" 42 ⟨"java/lang/System", "arraycopy", "(Ljava/lang/Object;ILjava/lang/Object;II)V"⟩ ∈ gw_tbl := tb_i 351 (by decide +kernel) rfl
theorem k_352 : Cond.methodLink "HalfToTheLeft" 163 ⟨"HalfToTheLeft$Crumbs", "above", "(I)J"⟩ ∈ gw_tbl := tb_i 352 (by decide +kernel) rfl
theorem k_353 : Cond.instanceMethod ⟨"HalfToTheLeft$Crumbs", "above", "(I)J"⟩ ∈ gw_tbl := tb_i 353 (by decide +kernel) rfl
theorem k_354 : Cond.selects "HalfToTheLeft$Crumbs" ⟨"HalfToTheLeft$Crumbs", "above", "(I)J"⟩ ⟨"HalfToTheLeft$Crumbs", "above", "(I)J"⟩ ∈ gw_tbl := tb_i 354 (by decide +kernel) rfl
theorem k_355 : Cond.code ⟨"HalfToTheLeft$Crumbs", "above", "(I)J"⟩ prog_2_method_5_code 2 (some .long) ∈ gw_tbl := tb_i 355 (by decide +kernel) rfl
theorem k_356 : Cond.methodLink "HalfToTheLeft$Crumbs" 48 ⟨"HalfToTheLeft$Crumbs", "halvings", "(I)I"⟩ ∈ gw_tbl := tb_i 356 (by decide +kernel) rfl
theorem k_358 : Cond.instanceMethod ⟨"HalfToTheLeft$Crumbs", "halvings", "(I)I"⟩ ∈ gw_tbl := tb_i 358 (by decide +kernel) rfl
theorem k_359 : Cond.code ⟨"HalfToTheLeft$Crumbs", "halvings", "(I)I"⟩ prog_2_method_7_code 3 (some .int) ∈ gw_tbl := tb_i 359 (by decide +kernel) rfl
theorem k_360 : Cond.constantLong "HalfToTheLeft$Crumbs" 51 2 ∈ gw_tbl := tb_i 360 (by decide +kernel) rfl
theorem k_361 : Cond.methodLink "HalfToTheLeft" 167 ⟨"HalfToTheLeft$Crumbs", "below", "(I)J"⟩ ∈ gw_tbl := tb_i 361 (by decide +kernel) rfl
theorem k_362 : Cond.instanceMethod ⟨"HalfToTheLeft$Crumbs", "below", "(I)J"⟩ ∈ gw_tbl := tb_i 362 (by decide +kernel) rfl
theorem k_363 : Cond.selects "HalfToTheLeft$Crumbs" ⟨"HalfToTheLeft$Crumbs", "below", "(I)J"⟩ ⟨"HalfToTheLeft$Crumbs", "below", "(I)J"⟩ ∈ gw_tbl := tb_i 363 (by decide +kernel) rfl
theorem k_364 : Cond.code ⟨"HalfToTheLeft$Crumbs", "below", "(I)J"⟩ prog_2_method_6_code 2 (some .long) ∈ gw_tbl := tb_i 364 (by decide +kernel) rfl
theorem k_369 : Cond.methodLink "HalfToTheLeft" 170 ⟨"HalfToTheLeft$Ring", "commonDivisor", "()I"⟩ ∈ gw_tbl := tb_i 369 (by decide +kernel) rfl
theorem k_370 : Cond.instanceMethod ⟨"HalfToTheLeft$Ring", "commonDivisor", "()I"⟩ ∈ gw_tbl := tb_i 370 (by decide +kernel) rfl
theorem k_371 : Cond.selects "HalfToTheLeft$Ring" ⟨"HalfToTheLeft$Ring", "commonDivisor", "()I"⟩ ⟨"HalfToTheLeft$Ring", "commonDivisor", "()I"⟩ ∈ gw_tbl := tb_i 371 (by decide +kernel) rfl
theorem k_372 : Cond.code ⟨"HalfToTheLeft$Ring", "commonDivisor", "()I"⟩ prog_6_method_18_code 3 (some .int) ∈ gw_tbl := tb_i 372 (by decide +kernel) rfl
theorem k_373 : Cond.methodLink "HalfToTheLeft$Ring" 74 ⟨"HalfToTheLeft$Ring", "allSweets", "()I"⟩ ∈ gw_tbl := tb_i 373 (by decide +kernel) rfl
theorem k_374 : Cond.instanceMethod ⟨"HalfToTheLeft$Ring", "allSweets", "()I"⟩ ∈ gw_tbl := tb_i 374 (by decide +kernel) rfl
theorem k_375 : Cond.selects "HalfToTheLeft$Ring" ⟨"HalfToTheLeft$Ring", "allSweets", "()I"⟩ ⟨"HalfToTheLeft$Ring", "allSweets", "()I"⟩ ∈ gw_tbl := tb_i 375 (by decide +kernel) rfl
theorem k_376 : Cond.code ⟨"HalfToTheLeft$Ring", "allSweets", "()I"⟩ prog_6_method_16_code 3 (some .int) ∈ gw_tbl := tb_i 376 (by decide +kernel) rfl
theorem k_377 : Cond.methodLink "HalfToTheLeft" 173 ⟨"java/lang/Math", "max", "(II)I"⟩ ∈ gw_tbl := tb_i 377 (by decide +kernel) rfl
theorem k_378 : Cond.static ⟨"java/lang/Math", "max", "(II)I"⟩ ∈ gw_tbl := tb_i 378 (by decide +kernel) rfl
theorem k_379 : Cond.code ⟨"java/lang/Math", "max", "(II)I"⟩ prog_12_method_65_code 2 (some .int) ∈ gw_tbl := tb_i 379 (by decide +kernel) rfl
theorem k_380 : Cond.methodLink "HalfToTheLeft" 179 ⟨"HalfToTheLeft$Ring", "allSweets", "()I"⟩ ∈ gw_tbl := tb_i 380 (by decide +kernel) rfl
theorem k_385 : Cond.methodLink "HalfToTheLeft" 245 ⟨"HalfToTheLeft$Ring", "oddHeaps", "()I"⟩ ∈ gw_tbl := tb_i 385 (by decide +kernel) rfl
theorem k_386 : Cond.instanceMethod ⟨"HalfToTheLeft$Ring", "oddHeaps", "()I"⟩ ∈ gw_tbl := tb_i 386 (by decide +kernel) rfl
theorem k_387 : Cond.selects "HalfToTheLeft$Ring" ⟨"HalfToTheLeft$Ring", "oddHeaps", "()I"⟩ ⟨"HalfToTheLeft$Ring", "oddHeaps", "()I"⟩ ∈ gw_tbl := tb_i 387 (by decide +kernel) rfl
theorem k_388 : Cond.code ⟨"HalfToTheLeft$Ring", "oddHeaps", "()I"⟩ prog_6_method_17_code 3 (some .int) ∈ gw_tbl := tb_i 388 (by decide +kernel) rfl
theorem k_409 : Cond.methodLink "HalfToTheLeft" 76 ⟨"HalfToTheLeft$Letters", "add", "(C)I"⟩ ∈ gw_tbl := tb_i 409 (by decide +kernel) rfl
theorem k_410 : Cond.instanceMethod ⟨"HalfToTheLeft$Letters", "add", "(C)I"⟩ ∈ gw_tbl := tb_i 410 (by decide +kernel) rfl
theorem k_411 : Cond.selects "HalfToTheLeft$Letters" ⟨"HalfToTheLeft$Letters", "add", "(C)I"⟩ ⟨"HalfToTheLeft$Letters", "add", "(C)I"⟩ ∈ gw_tbl := tb_i 411 (by decide +kernel) rfl
theorem k_412 : Cond.code ⟨"HalfToTheLeft$Letters", "add", "(C)I"⟩ prog_3_method_2_code 2 (some .int) ∈ gw_tbl := tb_i 412 (by decide +kernel) rfl
theorem k_417 : Cond.methodLink "HalfToTheLeft" 80 ⟨"HalfToTheLeft$Letters", "carryOut", "(LHalfToTheLeft$Ring;)I"⟩ ∈ gw_tbl := tb_i 417 (by decide +kernel) rfl
theorem k_418 : Cond.instanceMethod ⟨"HalfToTheLeft$Letters", "carryOut", "(LHalfToTheLeft$Ring;)I"⟩ ∈ gw_tbl := tb_i 418 (by decide +kernel) rfl
theorem k_419 : Cond.selects "HalfToTheLeft$Letters" ⟨"HalfToTheLeft$Letters", "carryOut", "(LHalfToTheLeft$Ring;)I"⟩ ⟨"HalfToTheLeft$Letters", "carryOut", "(LHalfToTheLeft$Ring;)I"⟩ ∈ gw_tbl := tb_i 419 (by decide +kernel) rfl
theorem k_420 : Cond.code ⟨"HalfToTheLeft$Letters", "carryOut", "(LHalfToTheLeft$Ring;)I"⟩ prog_3_method_3_code 6 (some .int) ∈ gw_tbl := tb_i 420 (by decide +kernel) rfl
theorem k_421 : Cond.methodLink "HalfToTheLeft$Letters" 26 ⟨"HalfToTheLeft$Letters", "placeOfBadForm", "()I"⟩ ∈ gw_tbl := tb_i 421 (by decide +kernel) rfl
theorem k_423 : Cond.instanceMethod ⟨"HalfToTheLeft$Letters", "placeOfBadForm", "()I"⟩ ∈ gw_tbl := tb_i 423 (by decide +kernel) rfl
theorem k_424 : Cond.code ⟨"HalfToTheLeft$Letters", "placeOfBadForm", "()I"⟩ prog_3_method_4_code 3 (some .int) ∈ gw_tbl := tb_i 424 (by decide +kernel) rfl
theorem k_425 : Cond.methodLink "HalfToTheLeft$Letters" 38 ⟨"HalfToTheLeft$Letters", "behind", "(IC)I"⟩ ∈ gw_tbl := tb_i 425 (by decide +kernel) rfl
theorem k_426 : Cond.static ⟨"HalfToTheLeft$Letters", "behind", "(IC)I"⟩ ∈ gw_tbl := tb_i 426 (by decide +kernel) rfl
theorem k_427 : Cond.code ⟨"HalfToTheLeft$Letters", "behind", "(IC)I"⟩ prog_3_method_5_code 2 (some .int) ∈ gw_tbl := tb_i 427 (by decide +kernel) rfl
theorem k_428 : Cond.methodLink "HalfToTheLeft$Letters" 42 ⟨"HalfToTheLeft$Letters", "behindStart", "(C)I"⟩ ∈ gw_tbl := tb_i 428 (by decide +kernel) rfl
theorem k_429 : Cond.static ⟨"HalfToTheLeft$Letters", "behindStart", "(C)I"⟩ ∈ gw_tbl := tb_i 429 (by decide +kernel) rfl
theorem k_430 : Cond.code ⟨"HalfToTheLeft$Letters", "behindStart", "(C)I"⟩ prog_3_method_6_code 1 (some .int) ∈ gw_tbl := tb_i 430 (by decide +kernel) rfl
theorem k_432 : Cond.methodLink "HalfToTheLeft$Letters" 48 ⟨"java/lang/String", "indexOf", "(I)I"⟩ ∈ gw_tbl := tb_i 432 (by decide +kernel) rfl
theorem k_433 : Cond.instanceMethod ⟨"java/lang/String", "indexOf", "(I)I"⟩ ∈ gw_tbl := tb_i 433 (by decide +kernel) rfl
theorem k_434 : Cond.selects "java/lang/String" ⟨"java/lang/String", "indexOf", "(I)I"⟩ ⟨"java/lang/String", "indexOf", "(I)I"⟩ ∈ gw_tbl := tb_i 434 (by decide +kernel) rfl
theorem k_435 : Cond.code ⟨"java/lang/String", "indexOf", "(I)I"⟩ prog_13_method_79_code 2 (some .int) ∈ gw_tbl := tb_i 435 (by decide +kernel) rfl
theorem k_436 : Cond.methodLink "java/lang/String" 633 ⟨"java/lang/String", "indexOf", "(II)I"⟩ ∈ gw_tbl := tb_i 436 (by decide +kernel) rfl
theorem k_437 : Cond.instanceMethod ⟨"java/lang/String", "indexOf", "(II)I"⟩ ∈ gw_tbl := tb_i 437 (by decide +kernel) rfl
theorem k_438 : Cond.selects "java/lang/String" ⟨"java/lang/String", "indexOf", "(II)I"⟩ ⟨"java/lang/String", "indexOf", "(II)I"⟩ ∈ gw_tbl := tb_i 438 (by decide +kernel) rfl
theorem k_439 : Cond.code ⟨"java/lang/String", "indexOf", "(II)I"⟩ prog_13_method_80_code 3 (some .int) ∈ gw_tbl := tb_i 439 (by decide +kernel) rfl
theorem k_440 : Cond.methodLink "java/lang/String" 492 ⟨"java/lang/String", "isLatin1", "()Z"⟩ ∈ gw_tbl := tb_i 440 (by decide +kernel) rfl
theorem k_441 : Cond.instanceMethod ⟨"java/lang/String", "isLatin1", "()Z"⟩ ∈ gw_tbl := tb_i 441 (by decide +kernel) rfl
theorem k_442 : Cond.selects "java/lang/String" ⟨"java/lang/String", "isLatin1", "()Z"⟩ ⟨"java/lang/String", "isLatin1", "()Z"⟩ ∈ gw_tbl := tb_i 442 (by decide +kernel) rfl
theorem k_443 : Cond.code ⟨"java/lang/String", "isLatin1", "()Z"⟩ prog_13_method_154_code 1 (some .boolean) ∈ gw_tbl := tb_i 443 (by decide +kernel) rfl
theorem k_444 : Cond.fieldLink "java/lang/String" 38 "java/lang/String" "COMPACT_STRINGS" "Z" ∈ gw_tbl := tb_i 444 (by decide +kernel) rfl
theorem k_446 : Cond.methodLink "java/lang/String" 505 ⟨"java/lang/String", "length", "()I"⟩ ∈ gw_tbl := tb_i 446 (by decide +kernel) rfl
theorem k_447 : Cond.instanceMethod ⟨"java/lang/String", "length", "()I"⟩ ∈ gw_tbl := tb_i 447 (by decide +kernel) rfl
theorem k_448 : Cond.selects "java/lang/String" ⟨"java/lang/String", "length", "()I"⟩ ⟨"java/lang/String", "length", "()I"⟩ ∈ gw_tbl := tb_i 448 (by decide +kernel) rfl
theorem k_449 : Cond.code ⟨"java/lang/String", "length", "()I"⟩ prog_13_method_54_code 1 (some .int) ∈ gw_tbl := tb_i 449 (by decide +kernel) rfl
theorem k_450 : Cond.methodLink "java/lang/String" 335 ⟨"java/lang/String", "coder", "()B"⟩ ∈ gw_tbl := tb_i 450 (by decide +kernel) rfl
theorem k_451 : Cond.instanceMethod ⟨"java/lang/String", "coder", "()B"⟩ ∈ gw_tbl := tb_i 451 (by decide +kernel) rfl
theorem k_452 : Cond.selects "java/lang/String" ⟨"java/lang/String", "coder", "()B"⟩ ⟨"java/lang/String", "coder", "()B"⟩ ∈ gw_tbl := tb_i 452 (by decide +kernel) rfl
theorem k_453 : Cond.code ⟨"java/lang/String", "coder", "()B"⟩ prog_13_method_152_code 1 (some .byte) ∈ gw_tbl := tb_i 453 (by decide +kernel) rfl
theorem k_454 : Cond.methodLink "java/lang/String" 637 ⟨"java/lang/StringLatin1", "indexOf", "([BIII)I"⟩ ∈ gw_tbl := tb_i 454 (by decide +kernel) rfl
theorem k_455 : Cond.static ⟨"java/lang/StringLatin1", "indexOf", "([BIII)I"⟩ ∈ gw_tbl := tb_i 455 (by decide +kernel) rfl
theorem k_456 : Cond.code ⟨"java/lang/StringLatin1", "indexOf", "([BIII)I"⟩ prog_14_method_22_code 4 (some .int) ∈ gw_tbl := tb_i 456 (by decide +kernel) rfl
theorem k_457 : Cond.methodLink "java/lang/StringLatin1" 88 ⟨"java/lang/StringLatin1", "canEncode", "(I)Z"⟩ ∈ gw_tbl := tb_i 457 (by decide +kernel) rfl
theorem k_458 : Cond.static ⟨"java/lang/StringLatin1", "canEncode", "(I)Z"⟩ ∈ gw_tbl := tb_i 458 (by decide +kernel) rfl
theorem k_459 : Cond.code ⟨"java/lang/StringLatin1", "canEncode", "(I)Z"⟩ prog_14_method_4_code 1 (some .boolean) ∈ gw_tbl := tb_i 459 (by decide +kernel) rfl
theorem k_460 : Cond.methodLink "java/lang/StringLatin1" 92 ⟨"java/lang/Math", "max", "(II)I"⟩ ∈ gw_tbl := tb_i 460 (by decide +kernel) rfl
theorem k_461 : Cond.methodLink "java/lang/StringLatin1" 38 ⟨"java/lang/Math", "min", "(II)I"⟩ ∈ gw_tbl := tb_i 461 (by decide +kernel) rfl
theorem k_462 : Cond.methodLink "java/lang/StringLatin1" 95 ⟨"java/lang/StringLatin1", "indexOfChar", "([BIII)I"⟩ ∈ gw_tbl := tb_i 462 (by decide +kernel) rfl
theorem k_463 : Cond.static ⟨"java/lang/StringLatin1", "indexOfChar", "([BIII)I"⟩ ∈ gw_tbl := tb_i 463 (by decide +kernel) rfl
theorem k_464 : Cond.code ⟨"java/lang/StringLatin1", "indexOfChar", "([BIII)I"⟩ prog_14_method_23_code 6 (some .int) ∈ gw_tbl := tb_i 464 (by decide +kernel) rfl
theorem k_514 : Cond.methodLink "HalfToTheLeft$Letters" 54 ⟨"HalfToTheLeft$Letters", "isDigit", "(C)Z"⟩ ∈ gw_tbl := tb_i 514 (by decide +kernel) rfl
theorem k_515 : Cond.static ⟨"HalfToTheLeft$Letters", "isDigit", "(C)Z"⟩ ∈ gw_tbl := tb_i 515 (by decide +kernel) rfl
theorem k_516 : Cond.code ⟨"HalfToTheLeft$Letters", "isDigit", "(C)Z"⟩ prog_3_method_8_code 1 (some .boolean) ∈ gw_tbl := tb_i 516 (by decide +kernel) rfl
theorem k_517 : Cond.methodLink "HalfToTheLeft$Letters" 58 ⟨"HalfToTheLeft$Letters", "behindEnd", "(C)I"⟩ ∈ gw_tbl := tb_i 517 (by decide +kernel) rfl
theorem k_518 : Cond.static ⟨"HalfToTheLeft$Letters", "behindEnd", "(C)I"⟩ ∈ gw_tbl := tb_i 518 (by decide +kernel) rfl
theorem k_519 : Cond.code ⟨"HalfToTheLeft$Letters", "behindEnd", "(C)I"⟩ prog_3_method_7_code 1 (some .int) ∈ gw_tbl := tb_i 519 (by decide +kernel) rfl
theorem k_520 : Cond.methodLink "HalfToTheLeft$Letters" 30 ⟨"HalfToTheLeft$Ring", "copyFrom", "(LHalfToTheLeft$Ring;)V"⟩ ∈ gw_tbl := tb_i 520 (by decide +kernel) rfl
theorem k_521 : Cond.methodLink "HalfToTheLeft$Letters" 34 ⟨"HalfToTheLeft$Letters", "carryOutOne", "(II)Z"⟩ ∈ gw_tbl := tb_i 521 (by decide +kernel) rfl
theorem k_523 : Cond.instanceMethod ⟨"HalfToTheLeft$Letters", "carryOutOne", "(II)Z"⟩ ∈ gw_tbl := tb_i 523 (by decide +kernel) rfl
theorem k_524 : Cond.code ⟨"HalfToTheLeft$Letters", "carryOutOne", "(II)Z"⟩ prog_3_method_9_code 3 (some .boolean) ∈ gw_tbl := tb_i 524 (by decide +kernel) rfl
theorem k_525 : Cond.methodLink "HalfToTheLeft$Letters" 61 ⟨"HalfToTheLeft$Letters", "letterAt", "(I)C"⟩ ∈ gw_tbl := tb_i 525 (by decide +kernel) rfl
theorem k_527 : Cond.instanceMethod ⟨"HalfToTheLeft$Letters", "letterAt", "(I)C"⟩ ∈ gw_tbl := tb_i 527 (by decide +kernel) rfl
theorem k_528 : Cond.code ⟨"HalfToTheLeft$Letters", "letterAt", "(I)C"⟩ prog_3_method_12_code 2 (some .char) ∈ gw_tbl := tb_i 528 (by decide +kernel) rfl
theorem k_529 : Cond.methodLink "HalfToTheLeft$Letters" 65 ⟨"HalfToTheLeft$Letters", "number", "(II)I"⟩ ∈ gw_tbl := tb_i 529 (by decide +kernel) rfl
theorem k_531 : Cond.instanceMethod ⟨"HalfToTheLeft$Letters", "number", "(II)I"⟩ ∈ gw_tbl := tb_i 531 (by decide +kernel) rfl
theorem k_532 : Cond.code ⟨"HalfToTheLeft$Letters", "number", "(II)I"⟩ prog_3_method_11_code 5 (some .int) ∈ gw_tbl := tb_i 532 (by decide +kernel) rfl
theorem k_533 : Cond.methodLink "HalfToTheLeft$Letters" 69 ⟨"HalfToTheLeft$Ring", "seatLast", "(II)Z"⟩ ∈ gw_tbl := tb_i 533 (by decide +kernel) rfl
theorem k_534 : Cond.instanceMethod ⟨"HalfToTheLeft$Ring", "seatLast", "(II)Z"⟩ ∈ gw_tbl := tb_i 534 (by decide +kernel) rfl
theorem k_535 : Cond.selects "HalfToTheLeft$Ring" ⟨"HalfToTheLeft$Ring", "seatLast", "(II)Z"⟩ ⟨"HalfToTheLeft$Ring", "seatLast", "(II)Z"⟩ ∈ gw_tbl := tb_i 535 (by decide +kernel) rfl
theorem k_536 : Cond.code ⟨"HalfToTheLeft$Ring", "seatLast", "(II)Z"⟩ prog_6_method_4_code 3 (some .boolean) ∈ gw_tbl := tb_i 536 (by decide +kernel) rfl
theorem k_537 : Cond.methodLink "HalfToTheLeft$Letters" 72 ⟨"HalfToTheLeft$Letters", "bring", "(II)Z"⟩ ∈ gw_tbl := tb_i 537 (by decide +kernel) rfl
theorem k_539 : Cond.instanceMethod ⟨"HalfToTheLeft$Letters", "bring", "(II)Z"⟩ ∈ gw_tbl := tb_i 539 (by decide +kernel) rfl
theorem k_540 : Cond.code ⟨"HalfToTheLeft$Letters", "bring", "(II)Z"⟩ prog_3_method_10_code 3 (some .boolean) ∈ gw_tbl := tb_i 540 (by decide +kernel) rfl
theorem k_550 : Cond.fieldLink "HalfToTheLeft" 104 "HalfToTheLeft" "LEAST_SETTING" "[I" ∈ gw_tbl := tb_i 550 (by decide +kernel) rfl
theorem k_551 : Cond.fieldLink "HalfToTheLeft" 107 "HalfToTheLeft" "GREATEST_SETTING" "[I" ∈ gw_tbl := tb_i 551 (by decide +kernel) rfl
theorem k_555 : Cond.fieldLink "java/lang/String" 15 "java/lang/String" "coder" "B" ∈ gw_tbl := tb_i 555 (by decide +kernel) rfl
theorem k_556 : Cond.fieldLink "java/lang/String" 9 "java/lang/String" "value" "[B" ∈ gw_tbl := tb_i 556 (by decide +kernel) rfl
theorem ks_0 : Cond.selects "HalfToTheLeft" ⟨"HalfToTheLeft", "refuse", "(I)I"⟩ ⟨"HalfToTheLeft", "refuse", "(I)I"⟩ ∈ gw_tbl := tb_s 0 (by decide +kernel) rfl
theorem ks_1 : Cond.selects "HalfToTheLeft$Ring" ⟨"HalfToTheLeft$Ring", "handOn", "()V"⟩ ⟨"HalfToTheLeft$Ring", "handOn", "()V"⟩ ∈ gw_tbl := tb_s 1 (by decide +kernel) rfl
theorem ks_2 : Cond.selects "HalfToTheLeft$Ring" ⟨"HalfToTheLeft$Ring", "mend", "(I)V"⟩ ⟨"HalfToTheLeft$Ring", "mend", "(I)V"⟩ ∈ gw_tbl := tb_s 2 (by decide +kernel) rfl
theorem ks_3 : Cond.selects "HalfToTheLeft" ⟨"HalfToTheLeft", "areTwo", "(II)Z"⟩ ⟨"HalfToTheLeft", "areTwo", "(II)Z"⟩ ∈ gw_tbl := tb_s 3 (by decide +kernel) rfl
theorem ks_4 : Cond.selects "HalfToTheLeft$Crumbs" ⟨"HalfToTheLeft$Crumbs", "begin", "(LHalfToTheLeft$Ring;)V"⟩ ⟨"HalfToTheLeft$Crumbs", "begin", "(LHalfToTheLeft$Ring;)V"⟩ ∈ gw_tbl := tb_s 4 (by decide +kernel) rfl
theorem ks_5 : Cond.selects "HalfToTheLeft$Crumbs" ⟨"HalfToTheLeft$Crumbs", "advance", "(LHalfToTheLeft$Ring;)V"⟩ ⟨"HalfToTheLeft$Crumbs", "advance", "(LHalfToTheLeft$Ring;)V"⟩ ∈ gw_tbl := tb_s 5 (by decide +kernel) rfl
theorem ks_6 : Cond.selects "HalfToTheLeft$Crumbs" ⟨"HalfToTheLeft$Crumbs", "halvings", "(I)I"⟩ ⟨"HalfToTheLeft$Crumbs", "halvings", "(I)I"⟩ ∈ gw_tbl := tb_s 6 (by decide +kernel) rfl
theorem ks_7 : Cond.selects "HalfToTheLeft$Letters" ⟨"HalfToTheLeft$Letters", "placeOfBadForm", "()I"⟩ ⟨"HalfToTheLeft$Letters", "placeOfBadForm", "()I"⟩ ∈ gw_tbl := tb_s 7 (by decide +kernel) rfl
theorem ks_8 : Cond.selects "HalfToTheLeft$Letters" ⟨"HalfToTheLeft$Letters", "carryOutOne", "(II)Z"⟩ ⟨"HalfToTheLeft$Letters", "carryOutOne", "(II)Z"⟩ ∈ gw_tbl := tb_s 8 (by decide +kernel) rfl
theorem ks_9 : Cond.selects "HalfToTheLeft$Letters" ⟨"HalfToTheLeft$Letters", "letterAt", "(I)C"⟩ ⟨"HalfToTheLeft$Letters", "letterAt", "(I)C"⟩ ∈ gw_tbl := tb_s 9 (by decide +kernel) rfl
theorem ks_10 : Cond.selects "HalfToTheLeft$Letters" ⟨"HalfToTheLeft$Letters", "number", "(II)I"⟩ ⟨"HalfToTheLeft$Letters", "number", "(II)I"⟩ ∈ gw_tbl := tb_s 10 (by decide +kernel) rfl
theorem ks_11 : Cond.selects "HalfToTheLeft$Letters" ⟨"HalfToTheLeft$Letters", "bring", "(II)Z"⟩ ⟨"HalfToTheLeft$Letters", "bring", "(II)Z"⟩ ∈ gw_tbl := tb_s 11 (by decide +kernel) rfl
abbrev b_X_refuse : ByteArray := prog_1_method_34_code
abbrev y_X_refuse : MethodName := ⟨"HalfToTheLeft", "refuse", "(I)I"⟩
theorem hd_X_refuse : y_X_refuse.cls ≠ "java/lang/invoke/MethodHandle" ∧ y_X_refuse.cls ≠ "java/lang/invoke/VarHandle" ∧ (parseMethodDescriptor y_X_refuse.desc).map (fun d => d.parameters.length) = some 1 := ⟨by decide +kernel, by decide +kernel, by decide +kernel⟩
abbrev b_Letters_add : ByteArray := prog_3_method_2_code
abbrev y_Letters_add : MethodName := ⟨"HalfToTheLeft$Letters", "add", "(C)I"⟩
theorem hd_Letters_add : y_Letters_add.cls ≠ "java/lang/invoke/MethodHandle" ∧ y_Letters_add.cls ≠ "java/lang/invoke/VarHandle" ∧ (parseMethodDescriptor y_Letters_add.desc).map (fun d => d.parameters.length) = some 1 := ⟨by decide +kernel, by decide +kernel, by decide +kernel⟩
abbrev b_X_feed : ByteArray := prog_1_method_2_code
abbrev y_X_feed : MethodName := ⟨"HalfToTheLeft", "feed", "(I)I"⟩
theorem hd_X_feed : y_X_feed.cls ≠ "java/lang/invoke/MethodHandle" ∧ y_X_feed.cls ≠ "java/lang/invoke/VarHandle" ∧ (parseMethodDescriptor y_X_feed.desc).map (fun d => d.parameters.length) = some 1 := ⟨by decide +kernel, by decide +kernel, by decide +kernel⟩
abbrev b_Letters_behindStart : ByteArray := prog_3_method_6_code
abbrev y_Letters_behindStart : MethodName := ⟨"HalfToTheLeft$Letters", "behindStart", "(C)I"⟩
theorem hd_Letters_behindStart : y_Letters_behindStart.cls ≠ "java/lang/invoke/MethodHandle" ∧ y_Letters_behindStart.cls ≠ "java/lang/invoke/VarHandle" ∧ (parseMethodDescriptor y_Letters_behindStart.desc).map (fun d => d.parameters.length) = some 1 := ⟨by decide +kernel, by decide +kernel, by decide +kernel⟩
abbrev b_Letters_isDigit : ByteArray := prog_3_method_8_code
abbrev y_Letters_isDigit : MethodName := ⟨"HalfToTheLeft$Letters", "isDigit", "(C)Z"⟩
theorem hd_Letters_isDigit : y_Letters_isDigit.cls ≠ "java/lang/invoke/MethodHandle" ∧ y_Letters_isDigit.cls ≠ "java/lang/invoke/VarHandle" ∧ (parseMethodDescriptor y_Letters_isDigit.desc).map (fun d => d.parameters.length) = some 1 := ⟨by decide +kernel, by decide +kernel, by decide +kernel⟩
abbrev b_Letters_behindEnd : ByteArray := prog_3_method_7_code
abbrev y_Letters_behindEnd : MethodName := ⟨"HalfToTheLeft$Letters", "behindEnd", "(C)I"⟩
theorem hd_Letters_behindEnd : y_Letters_behindEnd.cls ≠ "java/lang/invoke/MethodHandle" ∧ y_Letters_behindEnd.cls ≠ "java/lang/invoke/VarHandle" ∧ (parseMethodDescriptor y_Letters_behindEnd.desc).map (fun d => d.parameters.length) = some 1 := ⟨by decide +kernel, by decide +kernel, by decide +kernel⟩
abbrev b_Str_isLatin1 : ByteArray := prog_13_method_154_code
abbrev y_Str_isLatin1 : MethodName := ⟨"java/lang/String", "isLatin1", "()Z"⟩
theorem hd_Str_isLatin1 : y_Str_isLatin1.cls ≠ "java/lang/invoke/MethodHandle" ∧ y_Str_isLatin1.cls ≠ "java/lang/invoke/VarHandle" ∧ (parseMethodDescriptor y_Str_isLatin1.desc).map (fun d => d.parameters.length) = some 0 := ⟨by decide +kernel, by decide +kernel, by decide +kernel⟩
abbrev b_Str_coder : ByteArray := prog_13_method_152_code
abbrev y_Str_coder : MethodName := ⟨"java/lang/String", "coder", "()B"⟩
theorem hd_Str_coder : y_Str_coder.cls ≠ "java/lang/invoke/MethodHandle" ∧ y_Str_coder.cls ≠ "java/lang/invoke/VarHandle" ∧ (parseMethodDescriptor y_Str_coder.desc).map (fun d => d.parameters.length) = some 0 := ⟨by decide +kernel, by decide +kernel, by decide +kernel⟩
abbrev b_Str_length : ByteArray := prog_13_method_54_code
abbrev y_Str_length : MethodName := ⟨"java/lang/String", "length", "()I"⟩
theorem hd_Str_length : y_Str_length.cls ≠ "java/lang/invoke/MethodHandle" ∧ y_Str_length.cls ≠ "java/lang/invoke/VarHandle" ∧ (parseMethodDescriptor y_Str_length.desc).map (fun d => d.parameters.length) = some 0 := ⟨by decide +kernel, by decide +kernel, by decide +kernel⟩
abbrev b_Lat_canEncode : ByteArray := prog_14_method_4_code
abbrev y_Lat_canEncode : MethodName := ⟨"java/lang/StringLatin1", "canEncode", "(I)Z"⟩
theorem hd_Lat_canEncode : y_Lat_canEncode.cls ≠ "java/lang/invoke/MethodHandle" ∧ y_Lat_canEncode.cls ≠ "java/lang/invoke/VarHandle" ∧ (parseMethodDescriptor y_Lat_canEncode.desc).map (fun d => d.parameters.length) = some 1 := ⟨by decide +kernel, by decide +kernel, by decide +kernel⟩
abbrev b_Lat_indexOfChar : ByteArray := prog_14_method_23_code
abbrev y_Lat_indexOfChar : MethodName := ⟨"java/lang/StringLatin1", "indexOfChar", "([BIII)I"⟩
theorem hd_Lat_indexOfChar : y_Lat_indexOfChar.cls ≠ "java/lang/invoke/MethodHandle" ∧ y_Lat_indexOfChar.cls ≠ "java/lang/invoke/VarHandle" ∧ (parseMethodDescriptor y_Lat_indexOfChar.desc).map (fun d => d.parameters.length) = some 4 := ⟨by decide +kernel, by decide +kernel, by decide +kernel⟩
abbrev b_Lat_indexOf : ByteArray := prog_14_method_22_code
abbrev y_Lat_indexOf : MethodName := ⟨"java/lang/StringLatin1", "indexOf", "([BIII)I"⟩
theorem hd_Lat_indexOf : y_Lat_indexOf.cls ≠ "java/lang/invoke/MethodHandle" ∧ y_Lat_indexOf.cls ≠ "java/lang/invoke/VarHandle" ∧ (parseMethodDescriptor y_Lat_indexOf.desc).map (fun d => d.parameters.length) = some 4 := ⟨by decide +kernel, by decide +kernel, by decide +kernel⟩
abbrev b_Str_indexOf2 : ByteArray := prog_13_method_80_code
abbrev y_Str_indexOf2 : MethodName := ⟨"java/lang/String", "indexOf", "(II)I"⟩
theorem hd_Str_indexOf2 : y_Str_indexOf2.cls ≠ "java/lang/invoke/MethodHandle" ∧ y_Str_indexOf2.cls ≠ "java/lang/invoke/VarHandle" ∧ (parseMethodDescriptor y_Str_indexOf2.desc).map (fun d => d.parameters.length) = some 2 := ⟨by decide +kernel, by decide +kernel, by decide +kernel⟩
abbrev b_Str_indexOf1 : ByteArray := prog_13_method_79_code
abbrev y_Str_indexOf1 : MethodName := ⟨"java/lang/String", "indexOf", "(I)I"⟩
theorem hd_Str_indexOf1 : y_Str_indexOf1.cls ≠ "java/lang/invoke/MethodHandle" ∧ y_Str_indexOf1.cls ≠ "java/lang/invoke/VarHandle" ∧ (parseMethodDescriptor y_Str_indexOf1.desc).map (fun d => d.parameters.length) = some 1 := ⟨by decide +kernel, by decide +kernel, by decide +kernel⟩
abbrev b_Letters_behind : ByteArray := prog_3_method_5_code
abbrev y_Letters_behind : MethodName := ⟨"HalfToTheLeft$Letters", "behind", "(IC)I"⟩
theorem hd_Letters_behind : y_Letters_behind.cls ≠ "java/lang/invoke/MethodHandle" ∧ y_Letters_behind.cls ≠ "java/lang/invoke/VarHandle" ∧ (parseMethodDescriptor y_Letters_behind.desc).map (fun d => d.parameters.length) = some 2 := ⟨by decide +kernel, by decide +kernel, by decide +kernel⟩
abbrev b_Letters_placeOfBadForm : ByteArray := prog_3_method_4_code
abbrev y_Letters_placeOfBadForm : MethodName := ⟨"HalfToTheLeft$Letters", "placeOfBadForm", "()I"⟩
theorem hd_Letters_placeOfBadForm : y_Letters_placeOfBadForm.cls ≠ "java/lang/invoke/MethodHandle" ∧ y_Letters_placeOfBadForm.cls ≠ "java/lang/invoke/VarHandle" ∧ (parseMethodDescriptor y_Letters_placeOfBadForm.desc).map (fun d => d.parameters.length) = some 0 := ⟨by decide +kernel, by decide +kernel, by decide +kernel⟩
abbrev b_Ring_copyFrom : ByteArray := prog_6_method_2_code
abbrev y_Ring_copyFrom : MethodName := ⟨"HalfToTheLeft$Ring", "copyFrom", "(LHalfToTheLeft$Ring;)V"⟩
theorem hd_Ring_copyFrom : y_Ring_copyFrom.cls ≠ "java/lang/invoke/MethodHandle" ∧ y_Ring_copyFrom.cls ≠ "java/lang/invoke/VarHandle" ∧ (parseMethodDescriptor y_Ring_copyFrom.desc).map (fun d => d.parameters.length) = some 1 := ⟨by decide +kernel, by decide +kernel, by decide +kernel⟩
abbrev b_Letters_letterAt : ByteArray := prog_3_method_12_code
abbrev y_Letters_letterAt : MethodName := ⟨"HalfToTheLeft$Letters", "letterAt", "(I)C"⟩
theorem hd_Letters_letterAt : y_Letters_letterAt.cls ≠ "java/lang/invoke/MethodHandle" ∧ y_Letters_letterAt.cls ≠ "java/lang/invoke/VarHandle" ∧ (parseMethodDescriptor y_Letters_letterAt.desc).map (fun d => d.parameters.length) = some 1 := ⟨by decide +kernel, by decide +kernel, by decide +kernel⟩
abbrev b_Letters_number : ByteArray := prog_3_method_11_code
abbrev y_Letters_number : MethodName := ⟨"HalfToTheLeft$Letters", "number", "(II)I"⟩
theorem hd_Letters_number : y_Letters_number.cls ≠ "java/lang/invoke/MethodHandle" ∧ y_Letters_number.cls ≠ "java/lang/invoke/VarHandle" ∧ (parseMethodDescriptor y_Letters_number.desc).map (fun d => d.parameters.length) = some 2 := ⟨by decide +kernel, by decide +kernel, by decide +kernel⟩
abbrev b_Ring_seatLast : ByteArray := prog_6_method_4_code
abbrev y_Ring_seatLast : MethodName := ⟨"HalfToTheLeft$Ring", "seatLast", "(II)Z"⟩
theorem hd_Ring_seatLast : y_Ring_seatLast.cls ≠ "java/lang/invoke/MethodHandle" ∧ y_Ring_seatLast.cls ≠ "java/lang/invoke/VarHandle" ∧ (parseMethodDescriptor y_Ring_seatLast.desc).map (fun d => d.parameters.length) = some 2 := ⟨by decide +kernel, by decide +kernel, by decide +kernel⟩
abbrev b_X_outside : ByteArray := prog_1_method_35_code
abbrev y_X_outside : MethodName := ⟨"HalfToTheLeft", "outside", "(III)I"⟩
theorem hd_X_outside : y_X_outside.cls ≠ "java/lang/invoke/MethodHandle" ∧ y_X_outside.cls ≠ "java/lang/invoke/VarHandle" ∧ (parseMethodDescriptor y_X_outside.desc).map (fun d => d.parameters.length) = some 3 := ⟨by decide +kernel, by decide +kernel, by decide +kernel⟩
abbrev b_Letters_bring : ByteArray := prog_3_method_10_code
abbrev y_Letters_bring : MethodName := ⟨"HalfToTheLeft$Letters", "bring", "(II)Z"⟩
theorem hd_Letters_bring : y_Letters_bring.cls ≠ "java/lang/invoke/MethodHandle" ∧ y_Letters_bring.cls ≠ "java/lang/invoke/VarHandle" ∧ (parseMethodDescriptor y_Letters_bring.desc).map (fun d => d.parameters.length) = some 2 := ⟨by decide +kernel, by decide +kernel, by decide +kernel⟩
abbrev b_Letters_carryOutOne : ByteArray := prog_3_method_9_code
abbrev y_Letters_carryOutOne : MethodName := ⟨"HalfToTheLeft$Letters", "carryOutOne", "(II)Z"⟩
theorem hd_Letters_carryOutOne : y_Letters_carryOutOne.cls ≠ "java/lang/invoke/MethodHandle" ∧ y_Letters_carryOutOne.cls ≠ "java/lang/invoke/VarHandle" ∧ (parseMethodDescriptor y_Letters_carryOutOne.desc).map (fun d => d.parameters.length) = some 2 := ⟨by decide +kernel, by decide +kernel, by decide +kernel⟩
abbrev b_Letters_carryOut : ByteArray := prog_3_method_3_code
abbrev y_Letters_carryOut : MethodName := ⟨"HalfToTheLeft$Letters", "carryOut", "(LHalfToTheLeft$Ring;)I"⟩
theorem hd_Letters_carryOut : y_Letters_carryOut.cls ≠ "java/lang/invoke/MethodHandle" ∧ y_Letters_carryOut.cls ≠ "java/lang/invoke/VarHandle" ∧ (parseMethodDescriptor y_Letters_carryOut.desc).map (fun d => d.parameters.length) = some 1 := ⟨by decide +kernel, by decide +kernel, by decide +kernel⟩
abbrev b_X_table : ByteArray := prog_1_method_3_code
abbrev y_X_table : MethodName := ⟨"HalfToTheLeft", "table", "()I"⟩
theorem hd_X_table : y_X_table.cls ≠ "java/lang/invoke/MethodHandle" ∧ y_X_table.cls ≠ "java/lang/invoke/VarHandle" ∧ (parseMethodDescriptor y_X_table.desc).map (fun d => d.parameters.length) = some 0 := ⟨by decide +kernel, by decide +kernel, by decide +kernel⟩
abbrev b_Ring_has : ByteArray := prog_6_method_3_code
abbrev y_Ring_has : MethodName := ⟨"HalfToTheLeft$Ring", "has", "(I)Z"⟩
theorem hd_Ring_has : y_Ring_has.cls ≠ "java/lang/invoke/MethodHandle" ∧ y_Ring_has.cls ≠ "java/lang/invoke/VarHandle" ∧ (parseMethodDescriptor y_Ring_has.desc).map (fun d => d.parameters.length) = some 1 := ⟨by decide +kernel, by decide +kernel, by decide +kernel⟩
abbrev b_Ring_leftOf : ByteArray := prog_6_method_7_code
abbrev y_Ring_leftOf : MethodName := ⟨"HalfToTheLeft$Ring", "leftOf", "(I)I"⟩
theorem hd_Ring_leftOf : y_Ring_leftOf.cls ≠ "java/lang/invoke/MethodHandle" ∧ y_Ring_leftOf.cls ≠ "java/lang/invoke/VarHandle" ∧ (parseMethodDescriptor y_Ring_leftOf.desc).map (fun d => d.parameters.length) = some 1 := ⟨by decide +kernel, by decide +kernel, by decide +kernel⟩
abbrev b_Ring_gift : ByteArray := prog_6_method_9_code
abbrev y_Ring_gift : MethodName := ⟨"HalfToTheLeft$Ring", "gift", "(I)I"⟩
theorem hd_Ring_gift : y_Ring_gift.cls ≠ "java/lang/invoke/MethodHandle" ∧ y_Ring_gift.cls ≠ "java/lang/invoke/VarHandle" ∧ (parseMethodDescriptor y_Ring_gift.desc).map (fun d => d.parameters.length) = some 1 := ⟨by decide +kernel, by decide +kernel, by decide +kernel⟩
abbrev b_Ring_sides : ByteArray := prog_6_method_10_code
abbrev y_Ring_sides : MethodName := ⟨"HalfToTheLeft$Ring", "sides", "(I)I"⟩
theorem hd_Ring_sides : y_Ring_sides.cls ≠ "java/lang/invoke/MethodHandle" ∧ y_Ring_sides.cls ≠ "java/lang/invoke/VarHandle" ∧ (parseMethodDescriptor y_Ring_sides.desc).map (fun d => d.parameters.length) = some 1 := ⟨by decide +kernel, by decide +kernel, by decide +kernel⟩
abbrev b_X_child : ByteArray := prog_1_method_4_code
abbrev y_X_child : MethodName := ⟨"HalfToTheLeft", "child", "(II)I"⟩
theorem hd_X_child : y_X_child.cls ≠ "java/lang/invoke/MethodHandle" ∧ y_X_child.cls ≠ "java/lang/invoke/VarHandle" ∧ (parseMethodDescriptor y_X_child.desc).map (fun d => d.parameters.length) = some 2 := ⟨by decide +kernel, by decide +kernel, by decide +kernel⟩
abbrev b_X_set : ByteArray := prog_1_method_7_code
abbrev y_X_set : MethodName := ⟨"HalfToTheLeft", "set", "(II)I"⟩
theorem hd_X_set : y_X_set.cls ≠ "java/lang/invoke/MethodHandle" ∧ y_X_set.cls ≠ "java/lang/invoke/VarHandle" ∧ (parseMethodDescriptor y_X_set.desc).map (fun d => d.parameters.length) = some 2 := ⟨by decide +kernel, by decide +kernel, by decide +kernel⟩
abbrev b_Ring_rightOf : ByteArray := prog_6_method_8_code
abbrev y_Ring_rightOf : MethodName := ⟨"HalfToTheLeft$Ring", "rightOf", "(I)I"⟩
theorem hd_Ring_rightOf : y_Ring_rightOf.cls ≠ "java/lang/invoke/MethodHandle" ∧ y_Ring_rightOf.cls ≠ "java/lang/invoke/VarHandle" ∧ (parseMethodDescriptor y_Ring_rightOf.desc).map (fun d => d.parameters.length) = some 1 := ⟨by decide +kernel, by decide +kernel, by decide +kernel⟩
abbrev b_Ring_handOn : ByteArray := prog_6_method_14_code
abbrev y_Ring_handOn : MethodName := ⟨"HalfToTheLeft$Ring", "handOn", "()V"⟩
theorem hd_Ring_handOn : y_Ring_handOn.cls ≠ "java/lang/invoke/MethodHandle" ∧ y_Ring_handOn.cls ≠ "java/lang/invoke/VarHandle" ∧ (parseMethodDescriptor y_Ring_handOn.desc).map (fun d => d.parameters.length) = some 0 := ⟨by decide +kernel, by decide +kernel, by decide +kernel⟩
abbrev b_Ring_mend : ByteArray := prog_6_method_15_code
abbrev y_Ring_mend : MethodName := ⟨"HalfToTheLeft$Ring", "mend", "(I)V"⟩
theorem hd_Ring_mend : y_Ring_mend.cls ≠ "java/lang/invoke/MethodHandle" ∧ y_Ring_mend.cls ≠ "java/lang/invoke/VarHandle" ∧ (parseMethodDescriptor y_Ring_mend.desc).map (fun d => d.parameters.length) = some 1 := ⟨by decide +kernel, by decide +kernel, by decide +kernel⟩
abbrev b_Ring_strike : ByteArray := prog_6_method_12_code
abbrev y_Ring_strike : MethodName := ⟨"HalfToTheLeft$Ring", "strike", "()I"⟩
theorem hd_Ring_strike : y_Ring_strike.cls ≠ "java/lang/invoke/MethodHandle" ∧ y_Ring_strike.cls ≠ "java/lang/invoke/VarHandle" ∧ (parseMethodDescriptor y_Ring_strike.desc).map (fun d => d.parameters.length) = some 0 := ⟨by decide +kernel, by decide +kernel, by decide +kernel⟩
abbrev b_X_stroke : ByteArray := prog_1_method_9_code
abbrev y_X_stroke : MethodName := ⟨"HalfToTheLeft", "stroke", "()I"⟩
theorem hd_X_stroke : y_X_stroke.cls ≠ "java/lang/invoke/MethodHandle" ∧ y_X_stroke.cls ≠ "java/lang/invoke/VarHandle" ∧ (parseMethodDescriptor y_X_stroke.desc).map (fun d => d.parameters.length) = some 0 := ⟨by decide +kernel, by decide +kernel, by decide +kernel⟩
abbrev b_Ring_strikeOften : ByteArray := prog_6_method_13_code
abbrev y_Ring_strikeOften : MethodName := ⟨"HalfToTheLeft$Ring", "strikeOften", "(I)V"⟩
theorem hd_Ring_strikeOften : y_Ring_strikeOften.cls ≠ "java/lang/invoke/MethodHandle" ∧ y_Ring_strikeOften.cls ≠ "java/lang/invoke/VarHandle" ∧ (parseMethodDescriptor y_Ring_strikeOften.desc).map (fun d => d.parameters.length) = some 1 := ⟨by decide +kernel, by decide +kernel, by decide +kernel⟩
abbrev b_Mind_sweetsBehind : ByteArray := prog_4_method_2_code
abbrev y_Mind_sweetsBehind : MethodName := ⟨"HalfToTheLeft$Mind", "sweetsBehind", "(LHalfToTheLeft$Ring;II)I"⟩
theorem hd_Mind_sweetsBehind : y_Mind_sweetsBehind.cls ≠ "java/lang/invoke/MethodHandle" ∧ y_Mind_sweetsBehind.cls ≠ "java/lang/invoke/VarHandle" ∧ (parseMethodDescriptor y_Mind_sweetsBehind.desc).map (fun d => d.parameters.length) = some 3 := ⟨by decide +kernel, by decide +kernel, by decide +kernel⟩
abbrev b_X_run : ByteArray := prog_1_method_10_code
abbrev y_X_run : MethodName := ⟨"HalfToTheLeft", "run", "(II)I"⟩
theorem hd_X_run : y_X_run.cls ≠ "java/lang/invoke/MethodHandle" ∧ y_X_run.cls ≠ "java/lang/invoke/VarHandle" ∧ (parseMethodDescriptor y_X_run.desc).map (fun d => d.parameters.length) = some 2 := ⟨by decide +kernel, by decide +kernel, by decide +kernel⟩
abbrev b_X_isPart : ByteArray := prog_1_method_39_code
abbrev y_X_isPart : MethodName := ⟨"HalfToTheLeft", "isPart", "(I)Z"⟩
theorem hd_X_isPart : y_X_isPart.cls ≠ "java/lang/invoke/MethodHandle" ∧ y_X_isPart.cls ≠ "java/lang/invoke/VarHandle" ∧ (parseMethodDescriptor y_X_isPart.desc).map (fun d => d.parameters.length) = some 1 := ⟨by decide +kernel, by decide +kernel, by decide +kernel⟩
abbrev b_Mind_gaveIn : ByteArray := prog_4_method_3_code
abbrev y_Mind_gaveIn : MethodName := ⟨"HalfToTheLeft$Mind", "gaveIn", "(LHalfToTheLeft$Ring;I)I"⟩
theorem hd_Mind_gaveIn : y_Mind_gaveIn.cls ≠ "java/lang/invoke/MethodHandle" ∧ y_Mind_gaveIn.cls ≠ "java/lang/invoke/VarHandle" ∧ (parseMethodDescriptor y_Mind_gaveIn.desc).map (fun d => d.parameters.length) = some 2 := ⟨by decide +kernel, by decide +kernel, by decide +kernel⟩
abbrev b_Mind_threwIn : ByteArray := prog_4_method_4_code
abbrev y_Mind_threwIn : MethodName := ⟨"HalfToTheLeft$Mind", "threwIn", "(LHalfToTheLeft$Ring;I)I"⟩
theorem hd_Mind_threwIn : y_Mind_threwIn.cls ≠ "java/lang/invoke/MethodHandle" ∧ y_Mind_threwIn.cls ≠ "java/lang/invoke/VarHandle" ∧ (parseMethodDescriptor y_Mind_threwIn.desc).map (fun d => d.parameters.length) = some 2 := ⟨by decide +kernel, by decide +kernel, by decide +kernel⟩
abbrev b_X_given : ByteArray := prog_1_method_11_code
abbrev y_X_given : MethodName := ⟨"HalfToTheLeft", "given", "(II)I"⟩
theorem hd_X_given : y_X_given.cls ≠ "java/lang/invoke/MethodHandle" ∧ y_X_given.cls ≠ "java/lang/invoke/VarHandle" ∧ (parseMethodDescriptor y_X_given.desc).map (fun d => d.parameters.length) = some 2 := ⟨by decide +kernel, by decide +kernel, by decide +kernel⟩
abbrev b_Ring_hasSweetsOf : ByteArray := prog_6_method_20_code
abbrev y_Ring_hasSweetsOf : MethodName := ⟨"HalfToTheLeft$Ring", "hasSweetsOf", "(LHalfToTheLeft$Ring;)Z"⟩
theorem hd_Ring_hasSweetsOf : y_Ring_hasSweetsOf.cls ≠ "java/lang/invoke/MethodHandle" ∧ y_Ring_hasSweetsOf.cls ≠ "java/lang/invoke/VarHandle" ∧ (parseMethodDescriptor y_Ring_hasSweetsOf.desc).map (fun d => d.parameters.length) = some 1 := ⟨by decide +kernel, by decide +kernel, by decide +kernel⟩
abbrev b_Mind_restsBehind : ByteArray := prog_4_method_5_code
abbrev y_Mind_restsBehind : MethodName := ⟨"HalfToTheLeft$Mind", "restsBehind", "(LHalfToTheLeft$Ring;)I"⟩
theorem hd_Mind_restsBehind : y_Mind_restsBehind.cls ≠ "java/lang/invoke/MethodHandle" ∧ y_Mind_restsBehind.cls ≠ "java/lang/invoke/VarHandle" ∧ (parseMethodDescriptor y_Mind_restsBehind.desc).map (fun d => d.parameters.length) = some 1 := ⟨by decide +kernel, by decide +kernel, by decide +kernel⟩
abbrev b_X_rests : ByteArray := prog_1_method_12_code
abbrev y_X_rests : MethodName := ⟨"HalfToTheLeft", "rests", "()I"⟩
theorem hd_X_rests : y_X_rests.cls ≠ "java/lang/invoke/MethodHandle" ∧ y_X_rests.cls ≠ "java/lang/invoke/VarHandle" ∧ (parseMethodDescriptor y_X_rests.desc).map (fun d => d.parameters.length) = some 0 := ⟨by decide +kernel, by decide +kernel, by decide +kernel⟩
abbrev b_Ring_allHaveAlike : ByteArray := prog_6_method_19_code
abbrev y_Ring_allHaveAlike : MethodName := ⟨"HalfToTheLeft$Ring", "allHaveAlike", "()Z"⟩
theorem hd_Ring_allHaveAlike : y_Ring_allHaveAlike.cls ≠ "java/lang/invoke/MethodHandle" ∧ y_Ring_allHaveAlike.cls ≠ "java/lang/invoke/VarHandle" ∧ (parseMethodDescriptor y_Ring_allHaveAlike.desc).map (fun d => d.parameters.length) = some 0 := ⟨by decide +kernel, by decide +kernel, by decide +kernel⟩
abbrev b_Mind_alikeWithin : ByteArray := prog_4_method_7_code
abbrev y_Mind_alikeWithin : MethodName := ⟨"HalfToTheLeft$Mind", "alikeWithin", "(LHalfToTheLeft$Ring;I)I"⟩
theorem hd_Mind_alikeWithin : y_Mind_alikeWithin.cls ≠ "java/lang/invoke/MethodHandle" ∧ y_Mind_alikeWithin.cls ≠ "java/lang/invoke/VarHandle" ∧ (parseMethodDescriptor y_Mind_alikeWithin.desc).map (fun d => d.parameters.length) = some 2 := ⟨by decide +kernel, by decide +kernel, by decide +kernel⟩
abbrev b_Mind_alikeBehind : ByteArray := prog_4_method_6_code
abbrev y_Mind_alikeBehind : MethodName := ⟨"HalfToTheLeft$Mind", "alikeBehind", "(LHalfToTheLeft$Ring;)I"⟩
theorem hd_Mind_alikeBehind : y_Mind_alikeBehind.cls ≠ "java/lang/invoke/MethodHandle" ∧ y_Mind_alikeBehind.cls ≠ "java/lang/invoke/VarHandle" ∧ (parseMethodDescriptor y_Mind_alikeBehind.desc).map (fun d => d.parameters.length) = some 1 := ⟨by decide +kernel, by decide +kernel, by decide +kernel⟩
abbrev b_X_alike : ByteArray := prog_1_method_13_code
abbrev y_X_alike : MethodName := ⟨"HalfToTheLeft", "alike", "()I"⟩
theorem hd_X_alike : y_X_alike.cls ≠ "java/lang/invoke/MethodHandle" ∧ y_X_alike.cls ≠ "java/lang/invoke/VarHandle" ∧ (parseMethodDescriptor y_X_alike.desc).map (fun d => d.parameters.length) = some 0 := ⟨by decide +kernel, by decide +kernel, by decide +kernel⟩
abbrev b_Ring_hasSweetsAndBagOf : ByteArray := prog_6_method_21_code
abbrev y_Ring_hasSweetsAndBagOf : MethodName := ⟨"HalfToTheLeft$Ring", "hasSweetsAndBagOf", "(LHalfToTheLeft$Ring;)Z"⟩
theorem hd_Ring_hasSweetsAndBagOf : y_Ring_hasSweetsAndBagOf.cls ≠ "java/lang/invoke/MethodHandle" ∧ y_Ring_hasSweetsAndBagOf.cls ≠ "java/lang/invoke/VarHandle" ∧ (parseMethodDescriptor y_Ring_hasSweetsAndBagOf.desc).map (fun d => d.parameters.length) = some 1 := ⟨by decide +kernel, by decide +kernel, by decide +kernel⟩
abbrev b_Mind_roundOf : ByteArray := prog_4_method_8_code
abbrev y_Mind_roundOf : MethodName := ⟨"HalfToTheLeft$Mind", "roundOf", "(LHalfToTheLeft$Ring;)I"⟩
theorem hd_Mind_roundOf : y_Mind_roundOf.cls ≠ "java/lang/invoke/MethodHandle" ∧ y_Mind_roundOf.cls ≠ "java/lang/invoke/VarHandle" ∧ (parseMethodDescriptor y_Mind_roundOf.desc).map (fun d => d.parameters.length) = some 1 := ⟨by decide +kernel, by decide +kernel, by decide +kernel⟩
abbrev b_Mind_aheadOfRound : ByteArray := prog_4_method_9_code
abbrev y_Mind_aheadOfRound : MethodName := ⟨"HalfToTheLeft$Mind", "aheadOfRound", "(LHalfToTheLeft$Ring;I)I"⟩
theorem hd_Mind_aheadOfRound : y_Mind_aheadOfRound.cls ≠ "java/lang/invoke/MethodHandle" ∧ y_Mind_aheadOfRound.cls ≠ "java/lang/invoke/VarHandle" ∧ (parseMethodDescriptor y_Mind_aheadOfRound.desc).map (fun d => d.parameters.length) = some 2 := ⟨by decide +kernel, by decide +kernel, by decide +kernel⟩
abbrev b_X_ring : ByteArray := prog_1_method_14_code
abbrev y_X_ring : MethodName := ⟨"HalfToTheLeft", "ring", "(I)I"⟩
theorem hd_X_ring : y_X_ring.cls ≠ "java/lang/invoke/MethodHandle" ∧ y_X_ring.cls ≠ "java/lang/invoke/VarHandle" ∧ (parseMethodDescriptor y_X_ring.desc).map (fun d => d.parameters.length) = some 1 := ⟨by decide +kernel, by decide +kernel, by decide +kernel⟩
abbrev b_X_areTwo : ByteArray := prog_1_method_40_code
abbrev y_X_areTwo : MethodName := ⟨"HalfToTheLeft", "areTwo", "(II)Z"⟩
theorem hd_X_areTwo : y_X_areTwo.cls ≠ "java/lang/invoke/MethodHandle" ∧ y_X_areTwo.cls ≠ "java/lang/invoke/VarHandle" ∧ (parseMethodDescriptor y_X_areTwo.desc).map (fun d => d.parameters.length) = some 2 := ⟨by decide +kernel, by decide +kernel, by decide +kernel⟩
abbrev b_Mind_meetBehind : ByteArray := prog_4_method_10_code
abbrev y_Mind_meetBehind : MethodName := ⟨"HalfToTheLeft$Mind", "meetBehind", "(LHalfToTheLeft$Ring;II)I"⟩
theorem hd_Mind_meetBehind : y_Mind_meetBehind.cls ≠ "java/lang/invoke/MethodHandle" ∧ y_Mind_meetBehind.cls ≠ "java/lang/invoke/VarHandle" ∧ (parseMethodDescriptor y_Mind_meetBehind.desc).map (fun d => d.parameters.length) = some 3 := ⟨by decide +kernel, by decide +kernel, by decide +kernel⟩
abbrev b_X_meet : ByteArray := prog_1_method_15_code
abbrev y_X_meet : MethodName := ⟨"HalfToTheLeft", "meet", "(II)I"⟩
theorem hd_X_meet : y_X_meet.cls ≠ "java/lang/invoke/MethodHandle" ∧ y_X_meet.cls ≠ "java/lang/invoke/VarHandle" ∧ (parseMethodDescriptor y_X_meet.desc).map (fun d => d.parameters.length) = some 2 := ⟨by decide +kernel, by decide +kernel, by decide +kernel⟩
abbrev b_Crumbs_begin : ByteArray := prog_2_method_3_code
abbrev y_Crumbs_begin : MethodName := ⟨"HalfToTheLeft$Crumbs", "begin", "(LHalfToTheLeft$Ring;)V"⟩
theorem hd_Crumbs_begin : y_Crumbs_begin.cls ≠ "java/lang/invoke/MethodHandle" ∧ y_Crumbs_begin.cls ≠ "java/lang/invoke/VarHandle" ∧ (parseMethodDescriptor y_Crumbs_begin.desc).map (fun d => d.parameters.length) = some 1 := ⟨by decide +kernel, by decide +kernel, by decide +kernel⟩
abbrev b_Crumbs_advance : ByteArray := prog_2_method_4_code
abbrev y_Crumbs_advance : MethodName := ⟨"HalfToTheLeft$Crumbs", "advance", "(LHalfToTheLeft$Ring;)V"⟩
theorem hd_Crumbs_advance : y_Crumbs_advance.cls ≠ "java/lang/invoke/MethodHandle" ∧ y_Crumbs_advance.cls ≠ "java/lang/invoke/VarHandle" ∧ (parseMethodDescriptor y_Crumbs_advance.desc).map (fun d => d.parameters.length) = some 1 := ⟨by decide +kernel, by decide +kernel, by decide +kernel⟩
abbrev b_Crumbs_take : ByteArray := prog_2_method_2_code
abbrev y_Crumbs_take : MethodName := ⟨"HalfToTheLeft$Crumbs", "take", "(LHalfToTheLeft$Ring;I)V"⟩
theorem hd_Crumbs_take : y_Crumbs_take.cls ≠ "java/lang/invoke/MethodHandle" ∧ y_Crumbs_take.cls ≠ "java/lang/invoke/VarHandle" ∧ (parseMethodDescriptor y_Crumbs_take.desc).map (fun d => d.parameters.length) = some 2 := ⟨by decide +kernel, by decide +kernel, by decide +kernel⟩
abbrev b_Crumbs_halvings : ByteArray := prog_2_method_7_code
abbrev y_Crumbs_halvings : MethodName := ⟨"HalfToTheLeft$Crumbs", "halvings", "(I)I"⟩
theorem hd_Crumbs_halvings : y_Crumbs_halvings.cls ≠ "java/lang/invoke/MethodHandle" ∧ y_Crumbs_halvings.cls ≠ "java/lang/invoke/VarHandle" ∧ (parseMethodDescriptor y_Crumbs_halvings.desc).map (fun d => d.parameters.length) = some 1 := ⟨by decide +kernel, by decide +kernel, by decide +kernel⟩
abbrev b_Crumbs_above : ByteArray := prog_2_method_5_code
abbrev y_Crumbs_above : MethodName := ⟨"HalfToTheLeft$Crumbs", "above", "(I)J"⟩
theorem hd_Crumbs_above : y_Crumbs_above.cls ≠ "java/lang/invoke/MethodHandle" ∧ y_Crumbs_above.cls ≠ "java/lang/invoke/VarHandle" ∧ (parseMethodDescriptor y_Crumbs_above.desc).map (fun d => d.parameters.length) = some 1 := ⟨by decide +kernel, by decide +kernel, by decide +kernel⟩
abbrev b_Crumbs_below : ByteArray := prog_2_method_6_code
abbrev y_Crumbs_below : MethodName := ⟨"HalfToTheLeft$Crumbs", "below", "(I)J"⟩
theorem hd_Crumbs_below : y_Crumbs_below.cls ≠ "java/lang/invoke/MethodHandle" ∧ y_Crumbs_below.cls ≠ "java/lang/invoke/VarHandle" ∧ (parseMethodDescriptor y_Crumbs_below.desc).map (fun d => d.parameters.length) = some 1 := ⟨by decide +kernel, by decide +kernel, by decide +kernel⟩
abbrev b_X_crumbs : ByteArray := prog_1_method_16_code
abbrev y_X_crumbs : MethodName := ⟨"HalfToTheLeft", "crumbs", "(III)J"⟩
theorem hd_X_crumbs : y_X_crumbs.cls ≠ "java/lang/invoke/MethodHandle" ∧ y_X_crumbs.cls ≠ "java/lang/invoke/VarHandle" ∧ (parseMethodDescriptor y_X_crumbs.desc).map (fun d => d.parameters.length) = some 3 := ⟨by decide +kernel, by decide +kernel, by decide +kernel⟩
abbrev b_Ring_allSweets : ByteArray := prog_6_method_16_code
abbrev y_Ring_allSweets : MethodName := ⟨"HalfToTheLeft$Ring", "allSweets", "()I"⟩
theorem hd_Ring_allSweets : y_Ring_allSweets.cls ≠ "java/lang/invoke/MethodHandle" ∧ y_Ring_allSweets.cls ≠ "java/lang/invoke/VarHandle" ∧ (parseMethodDescriptor y_Ring_allSweets.desc).map (fun d => d.parameters.length) = some 0 := ⟨by decide +kernel, by decide +kernel, by decide +kernel⟩
abbrev b_Ring_commonDivisor : ByteArray := prog_6_method_18_code
abbrev y_Ring_commonDivisor : MethodName := ⟨"HalfToTheLeft$Ring", "commonDivisor", "()I"⟩
theorem hd_Ring_commonDivisor : y_Ring_commonDivisor.cls ≠ "java/lang/invoke/MethodHandle" ∧ y_Ring_commonDivisor.cls ≠ "java/lang/invoke/VarHandle" ∧ (parseMethodDescriptor y_Ring_commonDivisor.desc).map (fun d => d.parameters.length) = some 0 := ⟨by decide +kernel, by decide +kernel, by decide +kernel⟩
abbrev b_X_mean : ByteArray := prog_1_method_17_code
abbrev y_X_mean : MethodName := ⟨"HalfToTheLeft", "mean", "(I)I"⟩
theorem hd_X_mean : y_X_mean.cls ≠ "java/lang/invoke/MethodHandle" ∧ y_X_mean.cls ≠ "java/lang/invoke/VarHandle" ∧ (parseMethodDescriptor y_X_mean.desc).map (fun d => d.parameters.length) = some 1 := ⟨by decide +kernel, by decide +kernel, by decide +kernel⟩
abbrev b_Ring_oddHeaps : ByteArray := prog_6_method_17_code
abbrev y_Ring_oddHeaps : MethodName := ⟨"HalfToTheLeft$Ring", "oddHeaps", "()I"⟩
theorem hd_Ring_oddHeaps : y_Ring_oddHeaps.cls ≠ "java/lang/invoke/MethodHandle" ∧ y_Ring_oddHeaps.cls ≠ "java/lang/invoke/VarHandle" ∧ (parseMethodDescriptor y_Ring_oddHeaps.desc).map (fun d => d.parameters.length) = some 0 := ⟨by decide +kernel, by decide +kernel, by decide +kernel⟩
abbrev b_X_count : ByteArray := prog_1_method_33_code
abbrev y_X_count : MethodName := ⟨"HalfToTheLeft", "count", "(I)I"⟩
theorem hd_X_count : y_X_count.cls ≠ "java/lang/invoke/MethodHandle" ∧ y_X_count.cls ≠ "java/lang/invoke/VarHandle" ∧ (parseMethodDescriptor y_X_count.desc).map (fun d => d.parameters.length) = some 1 := ⟨by decide +kernel, by decide +kernel, by decide +kernel⟩
end
section
/-! What each method does, as a function: none where the machine itself would throw, or where a loop has run FU times. Printed by wip/whole/gen out of the bytecode. -/
def f_X_refuse (z_h_refusals : (Nat → Int32)) (x1 : Int32) : Option (Int32 × (Nat → Int32)) :=
 if x1 < (-6) then
  some (x1, z_h_refusals)
 else
  if (-1) < x1 then
   some (x1, z_h_refusals)
  else
   if (-x1) < 0 ∨ 7 ≤ (-x1).toNatClampNeg then none else
   some (x1, (upd z_h_refusals (-x1).toNatClampNeg ((z_h_refusals (-x1).toNatClampNeg) + 1)))
def f_Letters_add (z_h_length : Int32) (z_h_text : (Nat → Int32)) (x1 : Int32) : Option (Int32 × Int32 × (Nat → Int32)) :=
 if 64 ≤ z_h_length then
  some (z_h_length, z_h_length, z_h_text)
 else
  if z_h_length < 0 ∨ 64 ≤ z_h_length.toNatClampNeg then none else
  some ((z_h_length + 1), (z_h_length + 1), (upd z_h_text z_h_length.toNatClampNeg (vp_nar .char x1)))
def f_X_feed (z_h_letters_length : Int32) (z_h_letters_text : (Nat → Int32)) (z_h_refusals : (Nat → Int32)) (x1 : Int32) : Option (Int32 × Int32 × (Nat → Int32) × (Nat → Int32)) :=
 if 0 ≤ x1 then
  if 255 < x1 then
   (f_X_refuse z_h_refusals (-6)).bind fun q3 =>
   some (q3.1, z_h_letters_length, z_h_letters_text, q3.2)
  else
   if z_h_letters_length < 64 then
    (f_Letters_add z_h_letters_length z_h_letters_text ((x1.toUInt32 % 65536).toInt32)).bind fun q5 =>
    some (q5.1, q5.2.1, q5.2.2, z_h_refusals)
   else
    (f_X_refuse z_h_refusals (-6)).bind fun q6 =>
    some (q6.1, z_h_letters_length, z_h_letters_text, q6.2)
 else
  (f_X_refuse z_h_refusals (-4)).bind fun q7 =>
  some (q7.1, z_h_letters_length, z_h_letters_text, q7.2)
def f_Letters_behindStart (x0 : Int32) : Option (Int32) :=
 if x0 = 99 then
  some 1
 else
  if x0 = 103 then
   some 2
  else
   if x0 = 108 then
    some 6
   else
    some (-1)
def f_Letters_isDigit (x0 : Int32) : Option (Int32) :=
 if x0 < 48 then
  some 0
 else
  if 57 < x0 then
   some 0
  else
   some 1
def f_Letters_behindEnd (x0 : Int32) : Option (Int32) :=
 if x0 = 59 then
  some 0
 else
  some (-1)
def f_Str_isLatin1 : Option (Int32) :=
 some 1
def f_Str_coder : Option (Int32) :=
 some 0
def f_Str_length : Option (Int32) :=
 (f_Str_coder).bind fun q1 =>
 some ((7 : Int32) >>> (q1 &&& 31))
def f_Lat_canEncode (x0 : Int32) : Option (Int32) :=
 if x0 < 0 then
  some 0
 else
  if 255 < x0 then
   some 0
  else
   some 1
def f_Lat_indexOfChar_L7 (x3 : Int32) (x4 : Int32) : Nat → Int32 → Option (Int32)
  | 0, _ => none
  | n + 1, x5 =>
  if x3 ≤ x5 then
   some (-1)
  else
   if x5 < 0 ∨ 7 ≤ x5.toNatClampNeg then none else
   if (s_text x5.toNatClampNeg) = x4 then
    some x5
   else
    f_Lat_indexOfChar_L7 x3 x4 n (x5 + 1)
def f_Lat_indexOfChar (x1 : Int32) (x2 : Int32) (x3 : Int32) : Option (Int32) :=
 f_Lat_indexOfChar_L7 x3 (x1.toInt8.toInt32) FU x2
def f_Lat_indexOf (x1 : Int32) (x2 : Int32) (x3 : Int32) : Option (Int32) :=
 (f_Lat_canEncode x1).bind fun q1 =>
 if q1 = 0 then
  some (-1)
 else
  if (jmax x2 0) < (jmin x3 7) then
   (f_Lat_indexOfChar x1 (jmax x2 0) (jmin x3 7)).bind fun q4 =>
   some q4
  else
   some (-1)
def f_Str_indexOf2 (x1 : Int32) (x2 : Int32) : Option (Int32) :=
 (f_Str_isLatin1).bind fun q1 =>
 if q1 = 0 then
  (f_Str_length).bind fun q3 =>
  none
 else
  (f_Str_length).bind fun q4 =>
  (f_Lat_indexOf x1 x2 q4).bind fun q5 =>
  some q5
def f_Str_indexOf1 (x1 : Int32) : Option (Int32) :=
 (f_Str_indexOf2 x1 0).bind fun q1 =>
 some q1
def f_Letters_behind (x0 : Int32) (x1 : Int32) : Option (Int32) :=
 if x0 = 0 then
  (f_Letters_behindStart x1).bind fun q2 =>
  some q2
 else
  if x0 = 1 then
   (f_Str_indexOf1 x1).bind fun q4 =>
   if q4 < 0 then
    some (-1)
   else
    some 2
  else
   if x0 = 2 then
    (f_Letters_isDigit x1).bind fun q7 =>
    if q7 = 0 then
     some (-1)
    else
     some 3
   else
    if x0 = 3 then
     (f_Letters_isDigit x1).bind fun q10 =>
     if q10 = 0 then
      (f_Letters_behindEnd x1).bind fun q12 =>
      some q12
     else
      some 4
    else
     if x0 = 4 then
      (f_Letters_isDigit x1).bind fun q14 =>
      if q14 = 0 then
       (f_Letters_behindEnd x1).bind fun q16 =>
       some q16
      else
       some 5
     else
      if x0 = 5 then
       (f_Letters_behindEnd x1).bind fun q18 =>
       some q18
      else
       if x0 = 6 then
        (f_Letters_isDigit x1).bind fun q20 =>
        if q20 = 0 then
         some (-1)
        else
         some 7
       else
        if x0 = 7 then
         (f_Letters_isDigit x1).bind fun q23 =>
         if q23 = 0 then
          some (-1)
         else
          some 5
        else
         some (-1)
def f_Letters_placeOfBadForm_L4 (z_h_length : Int32) (z_h_text : (Nat → Int32)) : Nat → Int32 → Int32 → Option (Int32)
  | 0, _, _ => none
  | n + 1, x1, x2 =>
  if z_h_length ≤ x2 then
   if z_h_length ≤ 0 then
    some z_h_length
   else
    if x1 = 0 then
     some (-1)
    else
     some z_h_length
  else
   if x2 < 0 ∨ 64 ≤ x2.toNatClampNeg then none else
   (f_Letters_behind x1 (z_h_text x2.toNatClampNeg)).bind fun q5 =>
   if q5 = (-1) then
    some x2
   else
    f_Letters_placeOfBadForm_L4 z_h_length z_h_text n q5 (x2 + 1)
def f_Letters_placeOfBadForm (z_h_length : Int32) (z_h_text : (Nat → Int32)) : Option (Int32) :=
 f_Letters_placeOfBadForm_L4 z_h_length z_h_text FU 0 0
def f_Ring_copyFrom (z_h : RS) (z_g1 : RS) : Option (RS) :=
 some ((va_cpy (r_kinds z_g1) (r_kinds z_h) 0 0 8), (va_cpy (r_sweets z_g1) (r_sweets z_h) 0 0 8), (va_cpy (r_settings z_g1) (r_settings z_h) 0 0 3), (r_heaps z_h), (r_children z_g1), (r_strokes z_g1), (r_gave z_g1), (r_threw z_g1))
def f_Letters_letterAt (z_h_length : Int32) (z_h_text : (Nat → Int32)) (x1 : Int32) : Option (Int32) :=
 if x1 < 0 then
  some 32
 else
  if z_h_length ≤ x1 then
   some 32
  else
   if x1 < 0 ∨ 64 ≤ x1.toNatClampNeg then none else
   if ¬ vp_nar .char (z_h_text x1.toNatClampNeg) = (z_h_text x1.toNatClampNeg) then none else
   some (z_h_text x1.toNatClampNeg)
def f_Letters_number_L5 (z_h_length : Int32) (z_h_text : (Nat → Int32)) (x2 : Int32) : Nat → Int32 → Int32 → Option (Int32)
  | 0, _, _ => none
  | n + 1, x3, x4 =>
  if x2 ≤ x4 then
   some x3
  else
   (f_Letters_letterAt z_h_length z_h_text x4).bind fun q2 =>
   f_Letters_number_L5 z_h_length z_h_text x2 n (((x3 * 10) + q2) - 48) (x4 + 1)
def f_Letters_number (z_h_length : Int32) (z_h_text : (Nat → Int32)) (x1 : Int32) (x2 : Int32) : Option (Int32) :=
 f_Letters_number_L5 z_h_length z_h_text x2 FU 0 x1
def f_Ring_seatLast (z_h : RS) (x1 : Int32) (x2 : Int32) : Option (Int32 × RS) :=
 if (r_children z_h) < 8 then
  if (r_children z_h) < 0 ∨ 8 ≤ (r_children z_h).toNatClampNeg then none else
  some (1, ((upd (r_kinds z_h) (r_children z_h).toNatClampNeg x1), (upd (r_sweets z_h) (r_children z_h).toNatClampNeg x2), (r_settings z_h), (r_heaps z_h), ((r_children z_h) + 1), (r_strokes z_h), (r_gave z_h), (r_threw z_h)))
 else
  some (0, z_h)
def f_X_outside (x0 : Int32) (x1 : Int32) (x2 : Int32) : Option (Int32) :=
 if x1 ≤ x0 then
  if x0 ≤ x2 then
   some 0
  else
   some (-6)
 else
  some (-4)
def f_Letters_bring (z_h_trial : RS) (x1 : Int32) (x2 : Int32) : Option (Int32 × RS) :=
 if x1 < 0 ∨ 3 ≤ x1.toNatClampNeg then none else
 (f_X_outside x2 (s_LEAST_SETTING x1.toNatClampNeg) (s_GREATEST_SETTING x1.toNatClampNeg)).bind fun q2 =>
 if q2 = 0 then
  some (1, ((r_kinds z_h_trial), (r_sweets z_h_trial), (upd (r_settings z_h_trial) x1.toNatClampNeg x2), (r_heaps z_h_trial), (r_children z_h_trial), (r_strokes z_h_trial), (r_gave z_h_trial), (r_threw z_h_trial)))
 else
  some (0, z_h_trial)
def f_Letters_carryOutOne (z_h_length : Int32) (z_h_text : (Nat → Int32)) (z_h_trial : RS) (x1 : Int32) (x2 : Int32) : Option (Int32 × RS) :=
 (f_Letters_letterAt z_h_length z_h_text x1).bind fun q1 =>
 if q1 = 99 then
  (f_Letters_letterAt z_h_length z_h_text (x1 + 1)).bind fun q3 =>
  (f_Str_indexOf1 q3).bind fun q4 =>
  (f_Letters_number z_h_length z_h_text (x1 + 2) x2).bind fun q5 =>
  (f_Ring_seatLast z_h_trial q4 q5).bind fun q6 =>
  if ¬ (q6.1 = 0 ∨ q6.1 = 1) then none else
  some (q6.1, q6.2)
 else
  if q1 = 103 then
   (f_Letters_number z_h_length z_h_text (x1 + 1) x2).bind fun q9 =>
   (f_Letters_bring z_h_trial 2 q9).bind fun q10 =>
   if ¬ (q10.1 = 0 ∨ q10.1 = 1) then none else
   some (q10.1, q10.2)
  else
   if q1 = 108 then
    (f_Letters_number z_h_length z_h_text (x1 + 1) (x1 + 2)).bind fun q13 =>
    (f_Letters_bring z_h_trial 0 q13).bind fun q14 =>
    if q14.1 = 0 then
     some (0, q14.2)
    else
     (f_Letters_number z_h_length z_h_text (x1 + 2) x2).bind fun q16 =>
     (f_Letters_bring q14.2 1 q16).bind fun q17 =>
     if q17.1 = 0 then
      some (0, q17.2)
     else
      some (1, q17.2)
   else
    some (0, z_h_trial)
def f_Letters_carryOut_L31 (z_h_length : Int32) (z_h_text : (Nat → Int32)) (z_g1 : RS) (k : RS → Int32 → Option (Int32 × RS × RS)) : Nat → RS → Int32 → Int32 → Int32 → Option (Int32 × RS × RS)
  | 0, _, _, _, _ => none
  | n + 1, z_h_trial, x3, x4, x5 =>
  if z_h_length ≤ x5 then
   k z_h_trial x3
  else
   if x5 < 0 ∨ 64 ≤ x5.toNatClampNeg then none else
   if (z_h_text x5.toNatClampNeg) = 59 then
    (f_Letters_carryOutOne z_h_length z_h_text z_h_trial x4 x5).bind fun q7 =>
    if q7.1 = 0 then
     some (((-2000) - x4), q7.2, z_g1)
    else
     f_Letters_carryOut_L31 z_h_length z_h_text z_g1 k n q7.2 (x3 + 1) (x5 + 1) (x5 + 1)
   else
    f_Letters_carryOut_L31 z_h_length z_h_text z_g1 k n z_h_trial x3 x4 (x5 + 1)
def f_Letters_carryOut (z_h_length : Int32) (z_h_text : (Nat → Int32)) (z_h_trial : RS) (z_g1 : RS) : Option (Int32 × RS × RS) :=
 (f_Letters_placeOfBadForm z_h_length z_h_text).bind fun q1 =>
 if q1 < 0 then
  (f_Ring_copyFrom z_h_trial z_g1).bind fun q3 =>
  f_Letters_carryOut_L31 z_h_length z_h_text z_g1 (fun z_h_trial_9 x3_9 =>
   (f_Ring_copyFrom z_g1 z_h_trial_9).bind fun q10 =>
   some (x3_9, z_h_trial_9, q10)) FU q3 0 0 0
 else
  some (((-1000) - q1), z_h_trial, z_g1)
def f_X_table (z_h_now : RS) (z_h_letters_length : Int32) (z_h_letters_text : (Nat → Int32)) (z_h_letters_trial : RS) : Option (Int32 × RS × Int32 × RS) :=
 (f_Letters_carryOut z_h_letters_length z_h_letters_text z_h_letters_trial z_h_now).bind fun q1 =>
 some (q1.1, q1.2.2, 0, q1.2.1)
def f_Ring_has (z_h : RS) (x1 : Int32) : Option (Int32) :=
 if x1 < 0 then
  some 0
 else
  if (r_children z_h) ≤ x1 then
   some 0
  else
   some 1
def f_Ring_leftOf (z_h : RS) (x1 : Int32) : Option (Int32) :=
 if (r_children z_h) = 0 then
  some 0
 else
  some ((x1 + ((r_settings z_h) 1)) % (r_children z_h))
def f_Ring_gift (z_h : RS) (x1 : Int32) : Option (Int32) :=
 (f_Ring_leftOf z_h x1).bind fun q1 =>
 if q1 = x1 then
  some 0
 else
  if x1 < 0 ∨ 8 ≤ x1.toNatClampNeg then none else
  if q1 < 0 ∨ 8 ≤ q1.toNatClampNeg then none else
  if ((r_kinds z_h) x1.toNatClampNeg) = 0 then
   some (((r_sweets z_h) x1.toNatClampNeg) / 2)
  else
   if ((r_kinds z_h) x1.toNatClampNeg) = 1 then
    some (((r_sweets z_h) x1.toNatClampNeg) / 4)
   else
    if ((r_kinds z_h) x1.toNatClampNeg) = 2 then
     if ((r_sweets z_h) x1.toNatClampNeg) ≤ ((r_sweets z_h) q1.toNatClampNeg) then
      some 0
     else
      some (((r_sweets z_h) x1.toNatClampNeg) / 2)
    else
     if ((r_kinds z_h) x1.toNatClampNeg) = 3 then
      if ((r_sweets z_h) x1.toNatClampNeg) ≤ 0 then
       some 0
      else
       some ((((r_sweets z_h) x1.toNatClampNeg) - 1) / 2)
     else
      if ((r_kinds z_h) x1.toNatClampNeg) = 4 then
       some 0
      else
       if ((r_kinds z_h) x1.toNatClampNeg) = 5 then
        if ((r_sweets z_h) x1.toNatClampNeg) ≤ ((r_sweets z_h) q1.toNatClampNeg) then
         some 0
        else
         some ((((r_sweets z_h) x1.toNatClampNeg) - ((r_sweets z_h) q1.toNatClampNeg)) / 2)
       else
        if ((r_kinds z_h) x1.toNatClampNeg) = 6 then
         if ((r_sweets z_h) x1.toNatClampNeg) < 4 then
          some 0
         else
          some ((((r_sweets z_h) x1.toNatClampNeg) - 1) / 2)
        else
         some 0
def f_Ring_sides (z_h : RS) (x1 : Int32) : Option (Int32) :=
 (f_Ring_gift z_h x1).bind fun q1 =>
 if q1 = 0 then
  some 0
 else
  if x1 < 0 ∨ 8 ≤ x1.toNatClampNeg then none else
  if ((r_kinds z_h) x1.toNatClampNeg) = 1 then
   some 2
  else
   some 1
def f_X_child (z_h_now : RS) (z_h_refusals : (Nat → Int32)) (x1 : Int32) (x2 : Int32) : Option (Int32 × (Nat → Int32)) :=
 (f_Ring_has z_h_now x1).bind fun q1 =>
 if q1 = 0 then
  (f_X_refuse z_h_refusals (-1)).bind fun q12 =>
  some (q12.1, q12.2)
 else
  if x2 = 0 then
   if x1 < 0 ∨ 8 ≤ x1.toNatClampNeg then none else
   some (((r_kinds z_h_now) x1.toNatClampNeg), z_h_refusals)
  else
   if x2 = 1 then
    if x1 < 0 ∨ 8 ≤ x1.toNatClampNeg then none else
    some (((r_sweets z_h_now) x1.toNatClampNeg), z_h_refusals)
   else
    if x2 = 2 then
     (f_Ring_gift z_h_now x1).bind fun q8 =>
     some (q8, z_h_refusals)
    else
     if x2 = 3 then
      (f_Ring_sides z_h_now x1).bind fun q10 =>
      some (q10, z_h_refusals)
     else
      (f_X_refuse z_h_refusals (-2)).bind fun q11 =>
      some (q11.1, q11.2)
def f_X_set (z_h_now : RS) (z_h_refusals : (Nat → Int32)) (x1 : Int32) (x2 : Int32) : Option (Int32 × RS × (Nat → Int32)) :=
 if x1 < 0 then
  (f_X_refuse z_h_refusals (-2)).bind fun q2 =>
  some (q2.1, z_h_now, q2.2)
 else
  if x1 ≤ 2 then
   if x1 < 0 ∨ 3 ≤ x1.toNatClampNeg then none else
   (f_X_outside x2 (s_LEAST_SETTING x1.toNatClampNeg) (s_GREATEST_SETTING x1.toNatClampNeg)).bind fun q5 =>
   if q5 = 0 then
    some (((r_settings z_h_now) x1.toNatClampNeg), ((r_kinds z_h_now), (r_sweets z_h_now), (upd (r_settings z_h_now) x1.toNatClampNeg x2), (r_heaps z_h_now), (r_children z_h_now), (r_strokes z_h_now), (r_gave z_h_now), (r_threw z_h_now)), z_h_refusals)
   else
    (f_X_refuse z_h_refusals q5).bind fun q7 =>
    some (q7.1, z_h_now, q7.2)
  else
   (f_X_refuse z_h_refusals (-2)).bind fun q8 =>
   some (q8.1, z_h_now, q8.2)
def f_Ring_rightOf (z_h : RS) (x1 : Int32) : Option (Int32) :=
 if (r_children z_h) = 0 then
  some 0
 else
  some (((x1 + (3 * (r_children z_h))) - ((r_settings z_h) 1)) % (r_children z_h))
def f_Ring_handOn_L17 (k : RS → Option (RS)) : Nat → RS → Int32 → Option (RS)
  | 0, _, _ => none
  | n + 1, z_h, x1 =>
  if (r_children z_h) ≤ x1 then
   k z_h
  else
   (f_Ring_gift z_h x1).bind fun q2 =>
   if x1 < 0 ∨ 8 ≤ x1.toNatClampNeg then none else
   (f_Ring_leftOf ((r_kinds z_h), (r_sweets z_h), (r_settings z_h), (upd (r_heaps z_h) x1.toNatClampNeg (((r_heaps z_h) x1.toNatClampNeg) - q2)), (r_children z_h), (r_strokes z_h), (r_gave z_h), (r_threw z_h)) x1).bind fun q4 =>
   if q4 < 0 ∨ 8 ≤ q4.toNatClampNeg then none else
   if ((r_kinds z_h) x1.toNatClampNeg) = 1 then
    (f_Ring_rightOf ((r_kinds z_h), (r_sweets z_h), (r_settings z_h), (upd (upd (upd (r_heaps z_h) x1.toNatClampNeg (((r_heaps z_h) x1.toNatClampNeg) - q2)) q4.toNatClampNeg (((upd (r_heaps z_h) x1.toNatClampNeg (((r_heaps z_h) x1.toNatClampNeg) - q2)) q4.toNatClampNeg) + q2)) x1.toNatClampNeg (((upd (upd (r_heaps z_h) x1.toNatClampNeg (((r_heaps z_h) x1.toNatClampNeg) - q2)) q4.toNatClampNeg (((upd (r_heaps z_h) x1.toNatClampNeg (((r_heaps z_h) x1.toNatClampNeg) - q2)) q4.toNatClampNeg) + q2)) x1.toNatClampNeg) - q2)), (r_children z_h), (r_strokes z_h), (r_gave z_h), (r_threw z_h)) x1).bind fun q7 =>
    if q7 < 0 ∨ 8 ≤ q7.toNatClampNeg then none else
    f_Ring_handOn_L17 k n ((r_kinds z_h), (r_sweets z_h), (r_settings z_h), (upd (upd (upd (upd (r_heaps z_h) x1.toNatClampNeg (((r_heaps z_h) x1.toNatClampNeg) - q2)) q4.toNatClampNeg (((upd (r_heaps z_h) x1.toNatClampNeg (((r_heaps z_h) x1.toNatClampNeg) - q2)) q4.toNatClampNeg) + q2)) x1.toNatClampNeg (((upd (upd (r_heaps z_h) x1.toNatClampNeg (((r_heaps z_h) x1.toNatClampNeg) - q2)) q4.toNatClampNeg (((upd (r_heaps z_h) x1.toNatClampNeg (((r_heaps z_h) x1.toNatClampNeg) - q2)) q4.toNatClampNeg) + q2)) x1.toNatClampNeg) - q2)) q7.toNatClampNeg (((upd (upd (upd (r_heaps z_h) x1.toNatClampNeg (((r_heaps z_h) x1.toNatClampNeg) - q2)) q4.toNatClampNeg (((upd (r_heaps z_h) x1.toNatClampNeg (((r_heaps z_h) x1.toNatClampNeg) - q2)) q4.toNatClampNeg) + q2)) x1.toNatClampNeg (((upd (upd (r_heaps z_h) x1.toNatClampNeg (((r_heaps z_h) x1.toNatClampNeg) - q2)) q4.toNatClampNeg (((upd (r_heaps z_h) x1.toNatClampNeg (((r_heaps z_h) x1.toNatClampNeg) - q2)) q4.toNatClampNeg) + q2)) x1.toNatClampNeg) - q2)) q7.toNatClampNeg) + q2)), (r_children z_h), (r_strokes z_h), (r_gave z_h), (r_threw z_h)) (x1 + 1)
   else
    f_Ring_handOn_L17 k n ((r_kinds z_h), (r_sweets z_h), (r_settings z_h), (upd (upd (r_heaps z_h) x1.toNatClampNeg (((r_heaps z_h) x1.toNatClampNeg) - q2)) q4.toNatClampNeg (((upd (r_heaps z_h) x1.toNatClampNeg (((r_heaps z_h) x1.toNatClampNeg) - q2)) q4.toNatClampNeg) + q2)), (r_children z_h), (r_strokes z_h), (r_gave z_h), (r_threw z_h)) (x1 + 1)
def f_Ring_handOn_L97 : Nat → RS → Int32 → Option (RS)
  | 0, _, _ => none
  | n + 1, z_h, x1 =>
  if (r_children z_h) ≤ x1 then
   some z_h
  else
   if x1 < 0 ∨ 8 ≤ x1.toNatClampNeg then none else
   f_Ring_handOn_L97 n ((r_kinds z_h), (upd (r_sweets z_h) x1.toNatClampNeg (jmin ((r_heaps z_h) x1.toNatClampNeg) 999)), (r_settings z_h), (r_heaps z_h), (r_children z_h), (r_strokes z_h), (r_gave z_h), (r_threw z_h)) (x1 + 1)
def f_Ring_handOn (z_h : RS) : Option (RS) :=
 f_Ring_handOn_L17 (fun z_h_9 =>
  f_Ring_handOn_L97 FU z_h_9 0) FU ((r_kinds z_h), (r_sweets z_h), (r_settings z_h), (va_cpy (r_sweets z_h) (r_heaps z_h) 0 0 8), (r_children z_h), (r_strokes z_h), (r_gave z_h), (r_threw z_h)) 0
def f_Ring_mend (z_h : RS) (x1 : Int32) : Option (RS) :=
 if ((r_settings z_h) 0) = 0 then
  if ((r_settings z_h) 2) ≤ 0 then
   some z_h
  else
   if x1 < 0 ∨ 8 ≤ x1.toNatClampNeg then none else
   some ((r_kinds z_h), (upd (r_sweets z_h) x1.toNatClampNeg (jmin (((r_sweets z_h) x1.toNatClampNeg) + 1) 999)), (upd (r_settings z_h) 2 (((r_settings z_h) 2) - 1)), (r_heaps z_h), (r_children z_h), (r_strokes z_h), ((r_gave z_h) + 1), (r_threw z_h))
 else
  if ((r_settings z_h) 0) = 1 then
   if x1 < 0 ∨ 8 ≤ x1.toNatClampNeg then none else
   some ((r_kinds z_h), (upd (r_sweets z_h) x1.toNatClampNeg (((r_sweets z_h) x1.toNatClampNeg) - 1)), (r_settings z_h), (r_heaps z_h), (r_children z_h), (r_strokes z_h), (r_gave z_h), ((r_threw z_h) + 1))
  else
   some z_h
def f_Ring_strike_L11 (x1 : Int32) : Nat → RS → Int32 → Option (Int32 × RS)
  | 0, _, _ => none
  | n + 1, z_h, x2 =>
  if (r_children z_h) ≤ x2 then
   some (((r_gave z_h) - x1), ((r_kinds z_h), (r_sweets z_h), (r_settings z_h), (r_heaps z_h), (r_children z_h), ((r_strokes z_h) + 1), (r_gave z_h), (r_threw z_h)))
  else
   if x2 < 0 ∨ 8 ≤ x2.toNatClampNeg then none else
   if (((r_sweets z_h) x2.toNatClampNeg) % 2) = 1 then
    (f_Ring_mend z_h x2).bind fun q5 =>
    f_Ring_strike_L11 x1 n q5 (x2 + 1)
   else
    f_Ring_strike_L11 x1 n z_h (x2 + 1)
def f_Ring_strike (z_h : RS) : Option (Int32 × RS) :=
 (f_Ring_handOn z_h).bind fun q1 =>
 f_Ring_strike_L11 (r_gave z_h) FU q1 0
def f_X_stroke (z_h_now : RS) (z_h_refusals : (Nat → Int32)) : Option (Int32 × RS × (Nat → Int32)) :=
 if (r_children z_h_now) = 0 then
  (f_X_refuse z_h_refusals (-3)).bind fun q3 =>
  some (q3.1, z_h_now, q3.2)
 else
  (f_Ring_strike z_h_now).bind fun q2 =>
  some (q2.1, q2.2, z_h_refusals)
def f_Ring_strikeOften_L2 (x1 : Int32) : Nat → RS → Int32 → Option (RS)
  | 0, _, _ => none
  | n + 1, z_h, x2 =>
  if x1 ≤ x2 then
   some z_h
  else
   (f_Ring_strike z_h).bind fun q2 =>
   f_Ring_strikeOften_L2 x1 n q2.2 (x2 + 1)
def f_Ring_strikeOften (z_h : RS) (x1 : Int32) : Option (RS) :=
 f_Ring_strikeOften_L2 x1 FU z_h 0
def f_Mind_sweetsBehind (z_h_one : RS) (z_g1 : RS) (x2 : Int32) (x3 : Int32) : Option (Int32 × RS) :=
 (f_Ring_copyFrom z_h_one z_g1).bind fun q1 =>
 (f_Ring_strikeOften q1 x3).bind fun q2 =>
 if x2 < 0 ∨ 8 ≤ x2.toNatClampNeg then none else
 some (((r_sweets q2) x2.toNatClampNeg), q2)
def f_X_run (z_h_now : RS) (z_h_refusals : (Nat → Int32)) (z_h_mind_one : RS) (x1 : Int32) (x2 : Int32) : Option (Int32 × (Nat → Int32) × RS) :=
 (f_Ring_has z_h_now x1).bind fun q1 =>
 if q1 = 0 then
  (f_X_refuse z_h_refusals (-1)).bind fun q3 =>
  some (q3.1, q3.2, z_h_mind_one)
 else
  (f_X_outside x2 0 200).bind fun q4 =>
  if q4 = 0 then
   (f_Mind_sweetsBehind z_h_mind_one z_h_now x1 x2).bind fun q6 =>
   some (q6.1, z_h_refusals, q6.2)
  else
   (f_X_refuse z_h_refusals q4).bind fun q7 =>
   some (q7.1, q7.2, z_h_mind_one)
def f_X_isPart (x0 : Int32) : Option (Int32) :=
 if x0 = 0 then
  some 1
 else
  if x0 = 1 then
   some 1
  else
   some 0
def f_Mind_gaveIn (z_h_one : RS) (z_g1 : RS) (x2 : Int32) : Option (Int32 × RS) :=
 (f_Ring_copyFrom z_h_one z_g1).bind fun q1 =>
 (f_Ring_strikeOften q1 x2).bind fun q2 =>
 some (((r_gave q2) - (r_gave z_g1)), q2)
def f_Mind_threwIn (z_h_one : RS) (z_g1 : RS) (x2 : Int32) : Option (Int32 × RS) :=
 (f_Ring_copyFrom z_h_one z_g1).bind fun q1 =>
 (f_Ring_strikeOften q1 x2).bind fun q2 =>
 some (((r_threw q2) - (r_threw z_g1)), q2)
def f_X_given (z_h_now : RS) (z_h_refusals : (Nat → Int32)) (z_h_mind_one : RS) (x1 : Int32) (x2 : Int32) : Option (Int32 × (Nat → Int32) × RS) :=
 (f_X_isPart x2).bind fun q1 =>
 if q1 = 0 then
  (f_X_refuse z_h_refusals (-2)).bind fun q3 =>
  some (q3.1, q3.2, z_h_mind_one)
 else
  (f_X_outside x1 0 200).bind fun q4 =>
  if q4 = 0 then
   if x2 = 0 then
    (f_Mind_gaveIn z_h_mind_one z_h_now x1).bind fun q8 =>
    some (q8.1, z_h_refusals, q8.2)
   else
    (f_Mind_threwIn z_h_mind_one z_h_now x1).bind fun q7 =>
    some (q7.1, z_h_refusals, q7.2)
  else
   (f_X_refuse z_h_refusals q4).bind fun q9 =>
   some (q9.1, q9.2, z_h_mind_one)
def f_Ring_hasSweetsOf_L2 (z_h : RS) (z_g1 : RS) : Nat → Int32 → Option (Int32)
  | 0, _ => none
  | n + 1, x2 =>
  if (r_children z_h) ≤ x2 then
   some 1
  else
   if x2 < 0 ∨ 8 ≤ x2.toNatClampNeg then none else
   if ((r_sweets z_h) x2.toNatClampNeg) = ((r_sweets z_g1) x2.toNatClampNeg) then
    f_Ring_hasSweetsOf_L2 z_h z_g1 n (x2 + 1)
   else
    some 0
def f_Ring_hasSweetsOf (z_h : RS) (z_g1 : RS) : Option (Int32) :=
 f_Ring_hasSweetsOf_L2 z_h z_g1 FU 0
def f_Mind_restsBehind_L18 : Nat → RS → RS → Int32 → Option (Int32 × RS × RS)
  | 0, _, _, _ => none
  | n + 1, z_h_one, z_h_two, x2 =>
  if 200 < x2 then
   some ((-9), z_h_one, z_h_two)
  else
   (f_Ring_strike z_h_two).bind fun q4 =>
   (f_Ring_hasSweetsOf q4.2 z_h_one).bind fun q5 =>
   if q5 = 0 then
    (f_Ring_copyFrom z_h_one q4.2).bind fun q7 =>
    f_Mind_restsBehind_L18 n q7 q4.2 (x2 + 1)
   else
    some (x2, z_h_one, q4.2)
def f_Mind_restsBehind (z_h_one : RS) (z_h_two : RS) (z_g1 : RS) : Option (Int32 × RS × RS) :=
 (f_Ring_copyFrom z_h_one z_g1).bind fun q1 =>
 (f_Ring_copyFrom z_h_two z_g1).bind fun q2 =>
 f_Mind_restsBehind_L18 FU q1 q2 0
def f_X_rests (z_h_now : RS) (z_h_refusals : (Nat → Int32)) (z_h_mind_one : RS) (z_h_mind_two : RS) : Option (Int32 × (Nat → Int32) × RS × RS) :=
 if (r_children z_h_now) = 0 then
  (f_X_refuse z_h_refusals (-3)).bind fun q3 =>
  some (q3.1, q3.2, z_h_mind_one, z_h_mind_two)
 else
  (f_Mind_restsBehind z_h_mind_one z_h_mind_two z_h_now).bind fun q2 =>
  some (q2.1, z_h_refusals, q2.2.1, q2.2.2)
def f_Ring_allHaveAlike_L2 (z_h : RS) : Nat → Int32 → Option (Int32)
  | 0, _ => none
  | n + 1, x1 =>
  if (r_children z_h) ≤ x1 then
   some 1
  else
   if x1 < 0 ∨ 8 ≤ x1.toNatClampNeg then none else
   if ((r_sweets z_h) x1.toNatClampNeg) = ((r_sweets z_h) 0) then
    f_Ring_allHaveAlike_L2 z_h n (x1 + 1)
   else
    some 0
def f_Ring_allHaveAlike (z_h : RS) : Option (Int32) :=
 f_Ring_allHaveAlike_L2 z_h FU 1
def f_Mind_alikeWithin_L2 (x1 : Int32) : Nat → RS → Int32 → Option (Int32 × RS)
  | 0, _, _ => none
  | n + 1, z_g0, x2 =>
  if x1 < x2 then
   some ((-9), z_g0)
  else
   (f_Ring_allHaveAlike z_g0).bind fun q2 =>
   if q2 = 0 then
    (f_Ring_strike z_g0).bind fun q4 =>
    f_Mind_alikeWithin_L2 x1 n q4.2 (x2 + 1)
   else
    some (x2, z_g0)
def f_Mind_alikeWithin (z_g0 : RS) (x1 : Int32) : Option (Int32 × RS) :=
 f_Mind_alikeWithin_L2 x1 FU z_g0 0
def f_Mind_alikeBehind (z_h_one : RS) (z_g1 : RS) : Option (Int32 × RS) :=
 (f_Ring_copyFrom z_h_one z_g1).bind fun q1 =>
 (f_Mind_alikeWithin q1 200).bind fun q2 =>
 some (q2.1, q2.2)
def f_X_alike (z_h_now : RS) (z_h_refusals : (Nat → Int32)) (z_h_mind_one : RS) : Option (Int32 × (Nat → Int32) × RS) :=
 if (r_children z_h_now) = 0 then
  (f_X_refuse z_h_refusals (-3)).bind fun q3 =>
  some (q3.1, q3.2, z_h_mind_one)
 else
  (f_Mind_alikeBehind z_h_mind_one z_h_now).bind fun q2 =>
  some (q2.1, z_h_refusals, q2.2)
def f_Ring_hasSweetsAndBagOf (z_h : RS) (z_g1 : RS) : Option (Int32) :=
 if ((r_settings z_h) 2) = ((r_settings z_g1) 2) then
  (f_Ring_hasSweetsOf z_h z_g1).bind fun q2 =>
  if q2 = 0 then
   some 0
  else
   some 1
 else
  some 0
def f_Mind_roundOf_L30 (z_h_one : RS) : Nat → RS → Int32 → Option (Int32 × RS × RS)
  | 0, _, _ => none
  | n + 1, z_h_two, x2 =>
  if 100 < x2 then
   some ((-9), z_h_one, z_h_two)
  else
   (f_Ring_strike z_h_two).bind fun q5 =>
   (f_Ring_hasSweetsAndBagOf q5.2 z_h_one).bind fun q6 =>
   if q6 = 0 then
    f_Mind_roundOf_L30 z_h_one n q5.2 (x2 + 1)
   else
    some (x2, z_h_one, q5.2)
def f_Mind_roundOf (z_h_one : RS) (z_h_two : RS) (z_g1 : RS) : Option (Int32 × RS × RS) :=
 (f_Ring_copyFrom z_h_one z_g1).bind fun q1 =>
 (f_Ring_strikeOften q1 100).bind fun q2 =>
 (f_Ring_copyFrom z_h_two q2).bind fun q3 =>
 f_Mind_roundOf_L30 q2 FU q3 1
def f_Mind_aheadOfRound_L26 : Nat → RS → RS → Int32 → Option (Int32 × RS × RS)
  | 0, _, _, _ => none
  | n + 1, z_h_one, z_h_two, x3 =>
  if 100 < x3 then
   some ((-9), z_h_one, z_h_two)
  else
   (f_Ring_hasSweetsAndBagOf z_h_two z_h_one).bind fun q5 =>
   if q5 = 0 then
    (f_Ring_strike z_h_one).bind fun q7 =>
    (f_Ring_strike z_h_two).bind fun q8 =>
    f_Mind_aheadOfRound_L26 n q7.2 q8.2 (x3 + 1)
   else
    some (x3, z_h_one, z_h_two)
def f_Mind_aheadOfRound (z_h_one : RS) (z_h_two : RS) (z_g1 : RS) (x2 : Int32) : Option (Int32 × RS × RS) :=
 (f_Ring_copyFrom z_h_one z_g1).bind fun q1 =>
 (f_Ring_copyFrom z_h_two z_g1).bind fun q2 =>
 (f_Ring_strikeOften q2 x2).bind fun q3 =>
 f_Mind_aheadOfRound_L26 FU q1 q3 0
def f_X_ring (z_h_now : RS) (z_h_refusals : (Nat → Int32)) (z_h_mind_one : RS) (z_h_mind_two : RS) (x1 : Int32) : Option (Int32 × (Nat → Int32) × RS × RS) :=
 (f_X_isPart x1).bind fun q1 =>
 if q1 = 0 then
  (f_X_refuse z_h_refusals (-2)).bind fun q9 =>
  some (q9.1, q9.2, z_h_mind_one, z_h_mind_two)
 else
  if (r_children z_h_now) = 0 then
   (f_X_refuse z_h_refusals (-3)).bind fun q8 =>
   some (q8.1, q8.2, z_h_mind_one, z_h_mind_two)
  else
   (f_Mind_roundOf z_h_mind_one z_h_mind_two z_h_now).bind fun q4 =>
   if q4.1 = (-9) then
    some (q4.1, z_h_refusals, q4.2.1, q4.2.2)
   else
    if x1 = 1 then
     some (q4.1, z_h_refusals, q4.2.1, q4.2.2)
    else
     (f_Mind_aheadOfRound q4.2.1 q4.2.2 z_h_now q4.1).bind fun q7 =>
     some (q7.1, z_h_refusals, q7.2.1, q7.2.2)
def f_X_areTwo (z_h_now : RS) (x1 : Int32) (x2 : Int32) : Option (Int32) :=
 (f_Ring_has z_h_now x1).bind fun q1 =>
 if q1 = 0 then
  some 0
 else
  (f_Ring_has z_h_now x2).bind fun q3 =>
  if q3 = 0 then
   some 0
  else
   if x1 = x2 then
    some 0
   else
    some 1
def f_Mind_meetBehind_L11 (x2 : Int32) (x3 : Int32) : Nat → RS → Int32 → Option (Int32 × RS)
  | 0, _, _ => none
  | n + 1, z_h_one, x4 =>
  if 200 < x4 then
   some ((-9), z_h_one)
  else
   if x2 < 0 ∨ 8 ≤ x2.toNatClampNeg then none else
   if x3 < 0 ∨ 8 ≤ x3.toNatClampNeg then none else
   if ((r_sweets z_h_one) x2.toNatClampNeg) = ((r_sweets z_h_one) x3.toNatClampNeg) then
    some (x4, z_h_one)
   else
    (f_Ring_strike z_h_one).bind fun q6 =>
    f_Mind_meetBehind_L11 x2 x3 n q6.2 (x4 + 1)
def f_Mind_meetBehind (z_h_one : RS) (z_g1 : RS) (x2 : Int32) (x3 : Int32) : Option (Int32 × RS) :=
 (f_Ring_copyFrom z_h_one z_g1).bind fun q1 =>
 f_Mind_meetBehind_L11 x2 x3 FU q1 0
def f_X_meet (z_h_now : RS) (z_h_refusals : (Nat → Int32)) (z_h_mind_one : RS) (x1 : Int32) (x2 : Int32) : Option (Int32 × (Nat → Int32) × RS) :=
 (f_X_areTwo z_h_now x1 x2).bind fun q1 =>
 if q1 = 0 then
  (f_X_refuse z_h_refusals (-1)).bind fun q4 =>
  some (q4.1, q4.2, z_h_mind_one)
 else
  (f_Mind_meetBehind z_h_mind_one z_h_now x1 x2).bind fun q3 =>
  some (q3.1, z_h_refusals, q3.2)
def f_Crumbs_begin_L7 (z_h_doublings : Int32) (z_g1 : RS) : Nat → (Nat → Int64) → Int32 → Option (Int32 × (Nat → Int64))
  | 0, _, _ => none
  | n + 1, z_h_have, x2 =>
  if (r_children z_g1) ≤ x2 then
   some (z_h_doublings, z_h_have)
  else
   if x2 < 0 ∨ 8 ≤ x2.toNatClampNeg then none else
   f_Crumbs_begin_L7 z_h_doublings z_g1 n (vp_updL z_h_have x2.toNatClampNeg (((r_sweets z_g1) x2.toNatClampNeg).toInt64)) (x2 + 1)
def f_Crumbs_begin (z_h_doublings : Int32) (z_h_have : (Nat → Int64)) (z_g1 : RS) : Option (Int32 × (Nat → Int64)) :=
 f_Crumbs_begin_L7 0 z_g1 FU z_h_have 0
def f_Crumbs_advance_L2 (z_h_have : (Nat → Int64)) (z_g1 : RS) (k : (Nat → Int64) → Option (Int32 × (Nat → Int64) × (Nat → Int64))) : Nat → (Nat → Int64) → Int32 → Option (Int32 × (Nat → Int64) × (Nat → Int64))
  | 0, _, _ => none
  | n + 1, z_h_next, x2 =>
  if (r_children z_g1) ≤ x2 then
   k z_h_next
  else
   if x2 < 0 ∨ 8 ≤ x2.toNatClampNeg then none else
   (f_Ring_rightOf z_g1 x2).bind fun q3 =>
   if q3 < 0 ∨ 8 ≤ q3.toNatClampNeg then none else
   f_Crumbs_advance_L2 z_h_have z_g1 k n (vp_updL z_h_next x2.toNatClampNeg ((z_h_have x2.toNatClampNeg) + (z_h_have q3.toNatClampNeg))) (x2 + 1)
def f_Crumbs_advance (z_h_doublings : Int32) (z_h_have : (Nat → Int64)) (z_h_next : (Nat → Int64)) (z_g1 : RS) : Option (Int32 × (Nat → Int64) × (Nat → Int64)) :=
 f_Crumbs_advance_L2 z_h_have z_g1 (fun z_h_next_5 =>
  some ((z_h_doublings + 1), (va_cpy z_h_next_5 z_h_have 0 0 8), z_h_next_5)) FU z_h_next 0
def f_Crumbs_take_L7 (z_g1 : RS) (x2 : Int32) : Nat → Int32 → (Nat → Int64) → (Nat → Int64) → Int32 → Option (Int32 × (Nat → Int64) × (Nat → Int64))
  | 0, _, _, _, _ => none
  | n + 1, z_h_doublings, z_h_have, z_h_next, x3 =>
  if x2 ≤ x3 then
   some (z_h_doublings, z_h_have, z_h_next)
  else
   (f_Crumbs_advance z_h_doublings z_h_have z_h_next z_g1).bind fun q3 =>
   f_Crumbs_take_L7 z_g1 x2 n q3.1 q3.2.1 q3.2.2 (x3 + 1)
def f_Crumbs_take (z_h_doublings : Int32) (z_h_have : (Nat → Int64)) (z_h_next : (Nat → Int64)) (z_g1 : RS) (x2 : Int32) : Option (Int32 × (Nat → Int64) × (Nat → Int64)) :=
 (f_Crumbs_begin z_h_doublings z_h_have z_g1).bind fun q1 =>
 f_Crumbs_take_L7 z_g1 x2 FU q1.1 q1.2 z_h_next 0
def f_Crumbs_halvings_L2 (z_h_doublings : Int32) (z_h_have : (Nat → Int64)) (x1 : Int32) : Nat → Int32 → Option (Int32)
  | 0, _ => none
  | n + 1, x2 =>
  if z_h_doublings ≤ x2 then
   some x2
  else
   if x1 < 0 ∨ 8 ≤ x1.toNatClampNeg then none else
   if (lg_cmp (((z_h_have x1.toNatClampNeg) >>> (x2.toInt64 &&& 63)) % 2) 0) = 0 then
    f_Crumbs_halvings_L2 z_h_doublings z_h_have x1 n (x2 + 1)
   else
    some x2
def f_Crumbs_halvings (z_h_doublings : Int32) (z_h_have : (Nat → Int64)) (x1 : Int32) : Option (Int32) :=
 f_Crumbs_halvings_L2 z_h_doublings z_h_have x1 FU 0
def f_Crumbs_above (z_h_doublings : Int32) (z_h_have : (Nat → Int64)) (x1 : Int32) : Option (Int64) :=
 if x1 < 0 ∨ 8 ≤ x1.toNatClampNeg then none else
 (f_Crumbs_halvings z_h_doublings z_h_have x1).bind fun q2 =>
 some ((z_h_have x1.toNatClampNeg) >>> (q2.toInt64 &&& 63))
def f_Crumbs_below (z_h_doublings : Int32) (z_h_have : (Nat → Int64)) (x1 : Int32) : Option (Int64) :=
 (f_Crumbs_halvings z_h_doublings z_h_have x1).bind fun q1 =>
 some (1 <<< ((z_h_doublings - q1).toInt64 &&& 63))
def f_X_crumbs (z_h_now : RS) (z_h_refusals : (Nat → Int32)) (z_h_parts_doublings : Int32) (z_h_parts_have : (Nat → Int64)) (z_h_parts_next : (Nat → Int64)) (x1 : Int32) (x2 : Int32) (x3 : Int32) : Option (Int64 × (Nat → Int32) × Int32 × (Nat → Int64) × (Nat → Int64)) :=
 (f_X_outside x2 0 20).bind fun q1 =>
 (f_Ring_has z_h_now x1).bind fun q2 =>
 if q2 = 0 then
  (f_X_refuse z_h_refusals (-1)).bind fun q13 =>
  some ((4000000000000000000 - (q13.1.toInt64)), q13.2, z_h_parts_doublings, z_h_parts_have, z_h_parts_next)
 else
  (f_X_isPart x3).bind fun q4 =>
  if q4 = 0 then
   (f_X_refuse z_h_refusals (-2)).bind fun q12 =>
   some ((4000000000000000000 - (q12.1.toInt64)), q12.2, z_h_parts_doublings, z_h_parts_have, z_h_parts_next)
  else
   if q1 = 0 then
    (f_Crumbs_take z_h_parts_doublings z_h_parts_have z_h_parts_next z_h_now x2).bind fun q7 =>
    if x3 = 0 then
     (f_Crumbs_above q7.1 q7.2.1 x1).bind fun q10 =>
     some (q10, z_h_refusals, q7.1, q7.2.1, q7.2.2)
    else
     (f_Crumbs_below q7.1 q7.2.1 x1).bind fun q9 =>
     some (q9, z_h_refusals, q7.1, q7.2.1, q7.2.2)
   else
    (f_X_refuse z_h_refusals q1).bind fun q11 =>
    some ((4000000000000000000 - (q11.1.toInt64)), q11.2, z_h_parts_doublings, z_h_parts_have, z_h_parts_next)
def f_Ring_allSweets_L4 (z_h : RS) : Nat → Int32 → Int32 → Option (Int32)
  | 0, _, _ => none
  | n + 1, x1, x2 =>
  if (r_children z_h) ≤ x2 then
   some x1
  else
   if x2 < 0 ∨ 8 ≤ x2.toNatClampNeg then none else
   f_Ring_allSweets_L4 z_h n (x1 + ((r_sweets z_h) x2.toNatClampNeg)) (x2 + 1)
def f_Ring_allSweets (z_h : RS) : Option (Int32) :=
 f_Ring_allSweets_L4 z_h FU 0 0
def f_Ring_commonDivisor_L10 (z_h : RS) (x1 : Int32) : Nat → Int32 → Option (Int32)
  | 0, _ => none
  | n + 1, x2 =>
  if x2 ≤ 1 then
   some 1
  else
   if x2 = 0 then none else
   if ((r_children z_h) % x2) = 0 then
    if (x1 % x2) = 0 then
     some x2
    else
     f_Ring_commonDivisor_L10 z_h x1 n (x2 + (-1))
   else
    f_Ring_commonDivisor_L10 z_h x1 n (x2 + (-1))
def f_Ring_commonDivisor (z_h : RS) : Option (Int32) :=
 (f_Ring_allSweets z_h).bind fun q1 =>
 f_Ring_commonDivisor_L10 z_h q1 FU (r_children z_h)
def f_X_mean (z_h_now : RS) (z_h_refusals : (Nat → Int32)) (x1 : Int32) : Option (Int32 × (Nat → Int32)) :=
 (f_X_isPart x1).bind fun q1 =>
 if q1 = 0 then
  (f_X_refuse z_h_refusals (-2)).bind fun q10 =>
  some (q10.1, q10.2)
 else
  if (r_children z_h_now) = 0 then
   (f_X_refuse z_h_refusals (-3)).bind fun q9 =>
   some (q9.1, q9.2)
  else
   (f_Ring_commonDivisor z_h_now).bind fun q4 =>
   if x1 = 0 then
    (f_Ring_allSweets z_h_now).bind fun q7 =>
    if (jmax q4 1) = 0 then none else
    some ((q7 / (jmax q4 1)), z_h_refusals)
   else
    if (jmax q4 1) = 0 then none else
    some (((r_children z_h_now) / (jmax q4 1)), z_h_refusals)
def f_Ring_oddHeaps_L4 (z_h : RS) : Nat → Int32 → Int32 → Option (Int32)
  | 0, _, _ => none
  | n + 1, x1, x2 =>
  if (r_children z_h) ≤ x2 then
   some x1
  else
   if x2 < 0 ∨ 8 ≤ x2.toNatClampNeg then none else
   f_Ring_oddHeaps_L4 z_h n (x1 + (((r_sweets z_h) x2.toNatClampNeg) % 2)) (x2 + 1)
def f_Ring_oddHeaps (z_h : RS) : Option (Int32) :=
 f_Ring_oddHeaps_L4 z_h FU 0 0
def f_X_count (z_h_numberCount : Int32) (z_h_now : RS) (z_h_letters_length : Int32) (z_h_refusals : (Nat → Int32)) (x1 : Int32) : Option (Int32) :=
 if x1 = 0 then
  some (r_children z_h_now)
 else
  if x1 = 1 then
   (f_Ring_allSweets z_h_now).bind fun q3 =>
   some q3
  else
   if x1 = 2 then
    some (r_strokes z_h_now)
   else
    if x1 = 3 then
     some (r_gave z_h_now)
    else
     if x1 = 4 then
      some (r_threw z_h_now)
     else
      if x1 = 5 then
       some z_h_letters_length
      else
       if x1 = 6 then
        some z_h_numberCount
       else
        if x1 = 7 then
         (f_Ring_oddHeaps z_h_now).bind fun q10 =>
         some q10
        else
         if x1 < 11 then
          some (-9)
         else
          if 16 < x1 then
           some (-9)
          else
           if (x1 - 10) < 0 ∨ 7 ≤ (x1 - 10).toNatClampNeg then none else
           some (z_h_refusals (x1 - 10).toNatClampNeg)
end
section
/-! Contracts: Ring. Printed by wip/whole/gen. -/
abbrev w_Ring_copyFrom (cI cJ cC : ClassId) (a_h a_h_kinds a_h_sweets a_h_settings a_h_heaps a_g1 a_g1_kinds a_g1_sweets a_g1_settings a_g1_heaps : Nat) (p_h_children : Int32) (p_h_strokes : Int32) (p_h_gave : Int32) (p_h_threw : Int32) (p_h_kinds : (Nat → Int32)) (p_h_sweets : (Nat → Int32)) (p_h_settings : (Nat → Int32)) (p_h_heaps : (Nat → Int32)) (p_g1_children : Int32) (p_g1_strokes : Int32) (p_g1_gave : Int32) (p_g1_threw : Int32) (p_g1_kinds : (Nat → Int32)) (p_g1_sweets : (Nat → Int32)) (p_g1_settings : (Nat → Int32)) : va_W := [(a_h, .inr (1, [.ref a_h_kinds, .ref a_h_sweets, .ref a_h_settings, .int p_h_children, .int p_h_strokes, .int p_h_gave, .int p_h_threw, .ref a_h_heaps])), (a_h_kinds, .inl (cI, (8, .inl p_h_kinds))), (a_h_sweets, .inl (cI, (8, .inl p_h_sweets))), (a_h_settings, .inl (cI, (3, .inl p_h_settings))), (a_h_heaps, .inl (cI, (8, .inl p_h_heaps))), (a_g1, .inr (1, [.ref a_g1_kinds, .ref a_g1_sweets, .ref a_g1_settings, .int p_g1_children, .int p_g1_strokes, .int p_g1_gave, .int p_g1_threw, .ref a_g1_heaps])), (a_g1_kinds, .inl (cI, (8, .inl p_g1_kinds))), (a_g1_sweets, .inl (cI, (8, .inl p_g1_sweets))), (a_g1_settings, .inl (cI, (3, .inl p_g1_settings)))]
theorem d_Ring_copyFrom_0 : decode b_Ring_copyFrom 0 = .ok (.aload_n 1, 1) := by decide +kernel
theorem d_Ring_copyFrom_1 : decode b_Ring_copyFrom 1 = .ok (.getfield 9, 3) := by decide +kernel
theorem d_Ring_copyFrom_4 : decode b_Ring_copyFrom 4 = .ok (.iconst 0, 1) := by decide +kernel
theorem d_Ring_copyFrom_5 : decode b_Ring_copyFrom 5 = .ok (.aload_n 0, 1) := by decide +kernel
theorem d_Ring_copyFrom_6 : decode b_Ring_copyFrom 6 = .ok (.getfield 9, 3) := by decide +kernel
theorem d_Ring_copyFrom_9 : decode b_Ring_copyFrom 9 = .ok (.iconst 0, 1) := by decide +kernel
theorem d_Ring_copyFrom_10 : decode b_Ring_copyFrom 10 = .ok (.bipush 8, 2) := by decide +kernel
theorem d_Ring_copyFrom_12 : decode b_Ring_copyFrom 12 = .ok (.invokestatic 37, 3) := by decide +kernel
theorem d_Ring_copyFrom_15 : decode b_Ring_copyFrom 15 = .ok (.aload_n 1, 1) := by decide +kernel
theorem d_Ring_copyFrom_16 : decode b_Ring_copyFrom 16 = .ok (.getfield 15, 3) := by decide +kernel
theorem d_Ring_copyFrom_19 : decode b_Ring_copyFrom 19 = .ok (.iconst 0, 1) := by decide +kernel
theorem d_Ring_copyFrom_20 : decode b_Ring_copyFrom 20 = .ok (.aload_n 0, 1) := by decide +kernel
theorem d_Ring_copyFrom_21 : decode b_Ring_copyFrom 21 = .ok (.getfield 15, 3) := by decide +kernel
theorem d_Ring_copyFrom_24 : decode b_Ring_copyFrom 24 = .ok (.iconst 0, 1) := by decide +kernel
theorem d_Ring_copyFrom_25 : decode b_Ring_copyFrom 25 = .ok (.bipush 8, 2) := by decide +kernel
theorem d_Ring_copyFrom_27 : decode b_Ring_copyFrom 27 = .ok (.invokestatic 37, 3) := by decide +kernel
theorem d_Ring_copyFrom_30 : decode b_Ring_copyFrom 30 = .ok (.aload_n 1, 1) := by decide +kernel
theorem d_Ring_copyFrom_31 : decode b_Ring_copyFrom 31 = .ok (.getfield 18, 3) := by decide +kernel
theorem d_Ring_copyFrom_34 : decode b_Ring_copyFrom 34 = .ok (.iconst 0, 1) := by decide +kernel
theorem d_Ring_copyFrom_35 : decode b_Ring_copyFrom 35 = .ok (.aload_n 0, 1) := by decide +kernel
theorem d_Ring_copyFrom_36 : decode b_Ring_copyFrom 36 = .ok (.getfield 18, 3) := by decide +kernel
theorem d_Ring_copyFrom_39 : decode b_Ring_copyFrom 39 = .ok (.iconst 0, 1) := by decide +kernel
theorem d_Ring_copyFrom_40 : decode b_Ring_copyFrom 40 = .ok (.aload_n 0, 1) := by decide +kernel
theorem d_Ring_copyFrom_41 : decode b_Ring_copyFrom 41 = .ok (.getfield 18, 3) := by decide +kernel
theorem d_Ring_copyFrom_44 : decode b_Ring_copyFrom 44 = .ok (.arraylength, 1) := by decide +kernel
theorem d_Ring_copyFrom_45 : decode b_Ring_copyFrom 45 = .ok (.invokestatic 37, 3) := by decide +kernel
theorem d_Ring_copyFrom_48 : decode b_Ring_copyFrom 48 = .ok (.aload_n 0, 1) := by decide +kernel
theorem d_Ring_copyFrom_49 : decode b_Ring_copyFrom 49 = .ok (.aload_n 1, 1) := by decide +kernel
theorem d_Ring_copyFrom_50 : decode b_Ring_copyFrom 50 = .ok (.getfield 21, 3) := by decide +kernel
theorem d_Ring_copyFrom_53 : decode b_Ring_copyFrom 53 = .ok (.putfield 21, 3) := by decide +kernel
theorem d_Ring_copyFrom_56 : decode b_Ring_copyFrom 56 = .ok (.aload_n 0, 1) := by decide +kernel
theorem d_Ring_copyFrom_57 : decode b_Ring_copyFrom 57 = .ok (.aload_n 1, 1) := by decide +kernel
theorem d_Ring_copyFrom_58 : decode b_Ring_copyFrom 58 = .ok (.getfield 25, 3) := by decide +kernel
theorem d_Ring_copyFrom_61 : decode b_Ring_copyFrom 61 = .ok (.putfield 25, 3) := by decide +kernel
theorem d_Ring_copyFrom_64 : decode b_Ring_copyFrom 64 = .ok (.aload_n 0, 1) := by decide +kernel
theorem d_Ring_copyFrom_65 : decode b_Ring_copyFrom 65 = .ok (.aload_n 1, 1) := by decide +kernel
theorem d_Ring_copyFrom_66 : decode b_Ring_copyFrom 66 = .ok (.getfield 28, 3) := by decide +kernel
theorem d_Ring_copyFrom_69 : decode b_Ring_copyFrom 69 = .ok (.putfield 28, 3) := by decide +kernel
theorem d_Ring_copyFrom_72 : decode b_Ring_copyFrom 72 = .ok (.aload_n 0, 1) := by decide +kernel
theorem d_Ring_copyFrom_73 : decode b_Ring_copyFrom 73 = .ok (.aload_n 1, 1) := by decide +kernel
theorem d_Ring_copyFrom_74 : decode b_Ring_copyFrom 74 = .ok (.getfield 31, 3) := by decide +kernel
theorem d_Ring_copyFrom_77 : decode b_Ring_copyFrom 77 = .ok (.putfield 31, 3) := by decide +kernel
theorem d_Ring_copyFrom_80 : decode b_Ring_copyFrom 80 = .ok (.return_, 1) := by decide +kernel
set_option maxHeartbeats 4000000 in
set_option maxRecDepth 100000 in
theorem c_Ring_copyFrom {l : Launch} {D : va_G} {cI cJ cC : ClassId} (a_h a_h_kinds a_h_sweets a_h_settings a_h_heaps a_g1 a_g1_kinds a_g1_sweets a_g1_settings a_g1_heaps : Nat) {z_h : RS} {z_g1 : RS} {q : RS} (hf : f_Ring_copyFrom z_h z_g1 = some q) : xV l y_Ring_copyFrom b_Ring_copyFrom 2 1 40 D (tyK cI cJ cC) xE0 [.ref a_h, .ref a_g1] (w_Ring_copyFrom cI cJ cC a_h a_h_kinds a_h_sweets a_h_settings a_h_heaps a_g1 a_g1_kinds a_g1_sweets a_g1_settings a_g1_heaps (r_children z_h) (r_strokes z_h) (r_gave z_h) (r_threw z_h) (r_kinds z_h) (r_sweets z_h) (r_settings z_h) (r_heaps z_h) (r_children z_g1) (r_strokes z_g1) (r_gave z_g1) (r_threw z_g1) (r_kinds z_g1) (r_sweets z_g1) (r_settings z_g1)) (w_Ring_copyFrom cI cJ cC a_h a_h_kinds a_h_sweets a_h_settings a_h_heaps a_g1 a_g1_kinds a_g1_sweets a_g1_settings a_g1_heaps (r_children q) (r_strokes q) (r_gave q) (r_threw q) (r_kinds q) (r_sweets q) (r_settings q) (r_heaps q) (r_children z_g1) (r_strokes z_g1) (r_gave z_g1) (r_threw z_g1) (r_kinds z_g1) (r_sweets z_g1) (r_settings z_g1)) := by
  refine xV_of (by decide) (Nat.le_of_ble_eq_true rfl) ?_
  intro p e s m args below meth c A Q hx hb hml hown hT hA hP hD hK hS hE hret ls hl
  have hown : s.vm.findClass R_Ring = some m.cls := hown
  have hl : lv_has ls 2 [(0, .ref a_h), (1, .ref a_g1)] := hl
  unfold f_Ring_copyFrom at hf
  refine lv_aload_n hx hb d_Ring_copyFrom_0 rfl (lv_at hl 1 rfl) ?_
  refine va_get hx hb hT i_Ring hown hK hP 5 rfl rfl 0 (Nat.le_of_ble_eq_true rfl) (hT _ k_29) (fun _ h => h) rfl d_Ring_copyFrom_1 ?_
  refine lv_iconst (v := 0) hx hb d_Ring_copyFrom_4 (by decide) ?_
  refine lv_aload_n hx hb d_Ring_copyFrom_5 rfl (lv_at hl 0 rfl) ?_
  refine va_get hx hb hT i_Ring hown hK hP 0 rfl rfl 0 (Nat.le_of_ble_eq_true rfl) (hT _ k_29) (fun _ h => h) rfl d_Ring_copyFrom_6 ?_
  refine lv_iconst (v := 0) hx hb d_Ring_copyFrom_9 (by decide) ?_
  refine lv_bipush (v := 8) hx hb d_Ring_copyFrom_10 (by decide) ?_
  refine x_copyi (j := 8) hx hb (hml.trans hl.1.symm) hown (hT _ k_227) (hT _ k_229) (hT _ k_228) (hT _ k_14) hK hP hD hS 6 1 0 0 rfl rfl rfl rfl rfl (by decide) (by decide) (by decide) (by decide +kernel) (by decide +kernel) (by decide +kernel) (fun _ _ => rfl) (Nat.le_of_ble_eq_true rfl) (by decide +kernel) d_Ring_copyFrom_12 (fun H locs hP hD hS => ?_)
  have hP : va_P D classes (w_Ring_copyFrom cI cJ cC a_h a_h_kinds a_h_sweets a_h_settings a_h_heaps a_g1 a_g1_kinds a_g1_sweets a_g1_settings a_g1_heaps (r_children z_h) (r_strokes z_h) (r_gave z_h) (r_threw z_h) (va_cpy (r_kinds z_g1) (r_kinds z_h) 0 0 8) (r_sweets z_h) (r_settings z_h) (r_heaps z_h) (r_children z_g1) (r_strokes z_g1) (r_gave z_g1) (r_threw z_g1) (r_kinds z_g1) (r_sweets z_g1) (r_settings z_g1)) H := hP
  have hD : va_D A (w_Ring_copyFrom cI cJ cC a_h a_h_kinds a_h_sweets a_h_settings a_h_heaps a_g1 a_g1_kinds a_g1_sweets a_g1_settings a_g1_heaps (r_children z_h) (r_strokes z_h) (r_gave z_h) (r_threw z_h) (va_cpy (r_kinds z_g1) (r_kinds z_h) 0 0 8) (r_sweets z_h) (r_settings z_h) (r_heaps z_h) (r_children z_g1) (r_strokes z_g1) (r_gave z_g1) (r_threw z_g1) (r_kinds z_g1) (r_sweets z_g1) (r_settings z_g1)) := hD
  refine lv_aload_n hx hb d_Ring_copyFrom_15 rfl (lv_at hl 1 rfl) ?_
  refine va_get hx hb hT i_Ring hown hK hP 5 rfl rfl 1 (Nat.le_of_ble_eq_true rfl) (hT _ k_31) (fun _ h => h) rfl d_Ring_copyFrom_16 ?_
  refine lv_iconst (v := 0) hx hb d_Ring_copyFrom_19 (by decide) ?_
  refine lv_aload_n hx hb d_Ring_copyFrom_20 rfl (lv_at hl 0 rfl) ?_
  refine va_get hx hb hT i_Ring hown hK hP 0 rfl rfl 1 (Nat.le_of_ble_eq_true rfl) (hT _ k_31) (fun _ h => h) rfl d_Ring_copyFrom_21 ?_
  refine lv_iconst (v := 0) hx hb d_Ring_copyFrom_24 (by decide) ?_
  refine lv_bipush (v := 8) hx hb d_Ring_copyFrom_25 (by decide) ?_
  refine x_copyi (j := 8) hx hb (hml.trans hl.1.symm) hown (hT _ k_227) (hT _ k_229) (hT _ k_228) (hT _ k_14) hK hP hD hS 7 2 0 0 rfl rfl rfl rfl rfl (by decide) (by decide) (by decide) (by decide +kernel) (by decide +kernel) (by decide +kernel) (fun _ _ => rfl) (Nat.le_of_ble_eq_true rfl) (by decide +kernel) d_Ring_copyFrom_27 (fun H locs hP hD hS => ?_)
  have hP : va_P D classes (w_Ring_copyFrom cI cJ cC a_h a_h_kinds a_h_sweets a_h_settings a_h_heaps a_g1 a_g1_kinds a_g1_sweets a_g1_settings a_g1_heaps (r_children z_h) (r_strokes z_h) (r_gave z_h) (r_threw z_h) (va_cpy (r_kinds z_g1) (r_kinds z_h) 0 0 8) (va_cpy (r_sweets z_g1) (r_sweets z_h) 0 0 8) (r_settings z_h) (r_heaps z_h) (r_children z_g1) (r_strokes z_g1) (r_gave z_g1) (r_threw z_g1) (r_kinds z_g1) (r_sweets z_g1) (r_settings z_g1)) H := hP
  have hD : va_D A (w_Ring_copyFrom cI cJ cC a_h a_h_kinds a_h_sweets a_h_settings a_h_heaps a_g1 a_g1_kinds a_g1_sweets a_g1_settings a_g1_heaps (r_children z_h) (r_strokes z_h) (r_gave z_h) (r_threw z_h) (va_cpy (r_kinds z_g1) (r_kinds z_h) 0 0 8) (va_cpy (r_sweets z_g1) (r_sweets z_h) 0 0 8) (r_settings z_h) (r_heaps z_h) (r_children z_g1) (r_strokes z_g1) (r_gave z_g1) (r_threw z_g1) (r_kinds z_g1) (r_sweets z_g1) (r_settings z_g1)) := hD
  refine lv_aload_n hx hb d_Ring_copyFrom_30 rfl (lv_at hl 1 rfl) ?_
  refine va_get hx hb hT i_Ring hown hK hP 5 rfl rfl 2 (Nat.le_of_ble_eq_true rfl) (hT _ k_35) (fun _ h => h) rfl d_Ring_copyFrom_31 ?_
  refine lv_iconst (v := 0) hx hb d_Ring_copyFrom_34 (by decide) ?_
  refine lv_aload_n hx hb d_Ring_copyFrom_35 rfl (lv_at hl 0 rfl) ?_
  refine va_get hx hb hT i_Ring hown hK hP 0 rfl rfl 2 (Nat.le_of_ble_eq_true rfl) (hT _ k_35) (fun _ h => h) rfl d_Ring_copyFrom_36 ?_
  refine lv_iconst (v := 0) hx hb d_Ring_copyFrom_39 (by decide) ?_
  refine lv_aload_n hx hb d_Ring_copyFrom_40 rfl (lv_at hl 0 rfl) ?_
  refine va_get hx hb hT i_Ring hown hK hP 0 rfl rfl 2 (Nat.le_of_ble_eq_true rfl) (hT _ k_35) (fun _ h => h) rfl d_Ring_copyFrom_41 ?_
  refine va_alen (v := 3) hx hb hK hP 3 0 rfl rfl rfl d_Ring_copyFrom_44 ?_
  refine x_copyi (j := 3) hx hb (hml.trans hl.1.symm) hown (hT _ k_227) (hT _ k_229) (hT _ k_228) (hT _ k_14) hK hP hD hS 8 3 0 0 rfl rfl rfl rfl rfl (by decide) (by decide) (by decide) (by decide +kernel) (by decide +kernel) (by decide +kernel) (fun _ _ => rfl) (Nat.le_of_ble_eq_true rfl) (by decide +kernel) d_Ring_copyFrom_45 (fun H locs hP hD hS => ?_)
  have hP : va_P D classes (w_Ring_copyFrom cI cJ cC a_h a_h_kinds a_h_sweets a_h_settings a_h_heaps a_g1 a_g1_kinds a_g1_sweets a_g1_settings a_g1_heaps (r_children z_h) (r_strokes z_h) (r_gave z_h) (r_threw z_h) (va_cpy (r_kinds z_g1) (r_kinds z_h) 0 0 8) (va_cpy (r_sweets z_g1) (r_sweets z_h) 0 0 8) (va_cpy (r_settings z_g1) (r_settings z_h) 0 0 3) (r_heaps z_h) (r_children z_g1) (r_strokes z_g1) (r_gave z_g1) (r_threw z_g1) (r_kinds z_g1) (r_sweets z_g1) (r_settings z_g1)) H := hP
  have hD : va_D A (w_Ring_copyFrom cI cJ cC a_h a_h_kinds a_h_sweets a_h_settings a_h_heaps a_g1 a_g1_kinds a_g1_sweets a_g1_settings a_g1_heaps (r_children z_h) (r_strokes z_h) (r_gave z_h) (r_threw z_h) (va_cpy (r_kinds z_g1) (r_kinds z_h) 0 0 8) (va_cpy (r_sweets z_g1) (r_sweets z_h) 0 0 8) (va_cpy (r_settings z_g1) (r_settings z_h) 0 0 3) (r_heaps z_h) (r_children z_g1) (r_strokes z_g1) (r_gave z_g1) (r_threw z_g1) (r_kinds z_g1) (r_sweets z_g1) (r_settings z_g1)) := hD
  refine lv_aload_n hx hb d_Ring_copyFrom_48 rfl (lv_at hl 0 rfl) ?_
  refine lv_aload_n hx hb d_Ring_copyFrom_49 rfl (lv_at hl 1 rfl) ?_
  refine va_get hx hb hT i_Ring hown hK hP 5 rfl rfl 3 (Nat.le_of_ble_eq_true rfl) (hT _ k_38) (fun _ h => h) rfl d_Ring_copyFrom_50 ?_
  refine va_put (ty := .int) hx hb hT i_Ring t_Ring t_Ring_ok n_Ring hown hK hP hD hS 0 rfl rfl 3 (Nat.le_of_ble_eq_true rfl) (hT _ k_38) (fun _ h => h) rfl rfl rfl rfl (Nat.le_of_ble_eq_true rfl) d_Ring_copyFrom_53 (fun H locs hP hD hS => ?_)
  have hP : va_P D classes (w_Ring_copyFrom cI cJ cC a_h a_h_kinds a_h_sweets a_h_settings a_h_heaps a_g1 a_g1_kinds a_g1_sweets a_g1_settings a_g1_heaps (r_children z_g1) (r_strokes z_h) (r_gave z_h) (r_threw z_h) (va_cpy (r_kinds z_g1) (r_kinds z_h) 0 0 8) (va_cpy (r_sweets z_g1) (r_sweets z_h) 0 0 8) (va_cpy (r_settings z_g1) (r_settings z_h) 0 0 3) (r_heaps z_h) (r_children z_g1) (r_strokes z_g1) (r_gave z_g1) (r_threw z_g1) (r_kinds z_g1) (r_sweets z_g1) (r_settings z_g1)) H := hP
  have hD : va_D A (w_Ring_copyFrom cI cJ cC a_h a_h_kinds a_h_sweets a_h_settings a_h_heaps a_g1 a_g1_kinds a_g1_sweets a_g1_settings a_g1_heaps (r_children z_g1) (r_strokes z_h) (r_gave z_h) (r_threw z_h) (va_cpy (r_kinds z_g1) (r_kinds z_h) 0 0 8) (va_cpy (r_sweets z_g1) (r_sweets z_h) 0 0 8) (va_cpy (r_settings z_g1) (r_settings z_h) 0 0 3) (r_heaps z_h) (r_children z_g1) (r_strokes z_g1) (r_gave z_g1) (r_threw z_g1) (r_kinds z_g1) (r_sweets z_g1) (r_settings z_g1)) := hD
  refine lv_aload_n hx hb d_Ring_copyFrom_56 rfl (lv_at hl 0 rfl) ?_
  refine lv_aload_n hx hb d_Ring_copyFrom_57 rfl (lv_at hl 1 rfl) ?_
  refine va_get hx hb hT i_Ring hown hK hP 5 rfl rfl 4 (Nat.le_of_ble_eq_true rfl) (hT _ k_41) (fun _ h => h) rfl d_Ring_copyFrom_58 ?_
  refine va_put (ty := .int) hx hb hT i_Ring t_Ring t_Ring_ok n_Ring hown hK hP hD hS 0 rfl rfl 4 (Nat.le_of_ble_eq_true rfl) (hT _ k_41) (fun _ h => h) rfl rfl rfl rfl (Nat.le_of_ble_eq_true rfl) d_Ring_copyFrom_61 (fun H locs hP hD hS => ?_)
  have hP : va_P D classes (w_Ring_copyFrom cI cJ cC a_h a_h_kinds a_h_sweets a_h_settings a_h_heaps a_g1 a_g1_kinds a_g1_sweets a_g1_settings a_g1_heaps (r_children z_g1) (r_strokes z_g1) (r_gave z_h) (r_threw z_h) (va_cpy (r_kinds z_g1) (r_kinds z_h) 0 0 8) (va_cpy (r_sweets z_g1) (r_sweets z_h) 0 0 8) (va_cpy (r_settings z_g1) (r_settings z_h) 0 0 3) (r_heaps z_h) (r_children z_g1) (r_strokes z_g1) (r_gave z_g1) (r_threw z_g1) (r_kinds z_g1) (r_sweets z_g1) (r_settings z_g1)) H := hP
  have hD : va_D A (w_Ring_copyFrom cI cJ cC a_h a_h_kinds a_h_sweets a_h_settings a_h_heaps a_g1 a_g1_kinds a_g1_sweets a_g1_settings a_g1_heaps (r_children z_g1) (r_strokes z_g1) (r_gave z_h) (r_threw z_h) (va_cpy (r_kinds z_g1) (r_kinds z_h) 0 0 8) (va_cpy (r_sweets z_g1) (r_sweets z_h) 0 0 8) (va_cpy (r_settings z_g1) (r_settings z_h) 0 0 3) (r_heaps z_h) (r_children z_g1) (r_strokes z_g1) (r_gave z_g1) (r_threw z_g1) (r_kinds z_g1) (r_sweets z_g1) (r_settings z_g1)) := hD
  refine lv_aload_n hx hb d_Ring_copyFrom_64 rfl (lv_at hl 0 rfl) ?_
  refine lv_aload_n hx hb d_Ring_copyFrom_65 rfl (lv_at hl 1 rfl) ?_
  refine va_get hx hb hT i_Ring hown hK hP 5 rfl rfl 5 (Nat.le_of_ble_eq_true rfl) (hT _ k_43) (fun _ h => h) rfl d_Ring_copyFrom_66 ?_
  refine va_put (ty := .int) hx hb hT i_Ring t_Ring t_Ring_ok n_Ring hown hK hP hD hS 0 rfl rfl 5 (Nat.le_of_ble_eq_true rfl) (hT _ k_43) (fun _ h => h) rfl rfl rfl rfl (Nat.le_of_ble_eq_true rfl) d_Ring_copyFrom_69 (fun H locs hP hD hS => ?_)
  have hP : va_P D classes (w_Ring_copyFrom cI cJ cC a_h a_h_kinds a_h_sweets a_h_settings a_h_heaps a_g1 a_g1_kinds a_g1_sweets a_g1_settings a_g1_heaps (r_children z_g1) (r_strokes z_g1) (r_gave z_g1) (r_threw z_h) (va_cpy (r_kinds z_g1) (r_kinds z_h) 0 0 8) (va_cpy (r_sweets z_g1) (r_sweets z_h) 0 0 8) (va_cpy (r_settings z_g1) (r_settings z_h) 0 0 3) (r_heaps z_h) (r_children z_g1) (r_strokes z_g1) (r_gave z_g1) (r_threw z_g1) (r_kinds z_g1) (r_sweets z_g1) (r_settings z_g1)) H := hP
  have hD : va_D A (w_Ring_copyFrom cI cJ cC a_h a_h_kinds a_h_sweets a_h_settings a_h_heaps a_g1 a_g1_kinds a_g1_sweets a_g1_settings a_g1_heaps (r_children z_g1) (r_strokes z_g1) (r_gave z_g1) (r_threw z_h) (va_cpy (r_kinds z_g1) (r_kinds z_h) 0 0 8) (va_cpy (r_sweets z_g1) (r_sweets z_h) 0 0 8) (va_cpy (r_settings z_g1) (r_settings z_h) 0 0 3) (r_heaps z_h) (r_children z_g1) (r_strokes z_g1) (r_gave z_g1) (r_threw z_g1) (r_kinds z_g1) (r_sweets z_g1) (r_settings z_g1)) := hD
  refine lv_aload_n hx hb d_Ring_copyFrom_72 rfl (lv_at hl 0 rfl) ?_
  refine lv_aload_n hx hb d_Ring_copyFrom_73 rfl (lv_at hl 1 rfl) ?_
  refine va_get hx hb hT i_Ring hown hK hP 5 rfl rfl 6 (Nat.le_of_ble_eq_true rfl) (hT _ k_46) (fun _ h => h) rfl d_Ring_copyFrom_74 ?_
  refine va_put (ty := .int) hx hb hT i_Ring t_Ring t_Ring_ok n_Ring hown hK hP hD hS 0 rfl rfl 6 (Nat.le_of_ble_eq_true rfl) (hT _ k_46) (fun _ h => h) rfl rfl rfl rfl (Nat.le_of_ble_eq_true rfl) d_Ring_copyFrom_77 (fun H locs hP hD hS => ?_)
  have hP : va_P D classes (w_Ring_copyFrom cI cJ cC a_h a_h_kinds a_h_sweets a_h_settings a_h_heaps a_g1 a_g1_kinds a_g1_sweets a_g1_settings a_g1_heaps (r_children z_g1) (r_strokes z_g1) (r_gave z_g1) (r_threw z_g1) (va_cpy (r_kinds z_g1) (r_kinds z_h) 0 0 8) (va_cpy (r_sweets z_g1) (r_sweets z_h) 0 0 8) (va_cpy (r_settings z_g1) (r_settings z_h) 0 0 3) (r_heaps z_h) (r_children z_g1) (r_strokes z_g1) (r_gave z_g1) (r_threw z_g1) (r_kinds z_g1) (r_sweets z_g1) (r_settings z_g1)) H := hP
  have hD : va_D A (w_Ring_copyFrom cI cJ cC a_h a_h_kinds a_h_sweets a_h_settings a_h_heaps a_g1 a_g1_kinds a_g1_sweets a_g1_settings a_g1_heaps (r_children z_g1) (r_strokes z_g1) (r_gave z_g1) (r_threw z_g1) (va_cpy (r_kinds z_g1) (r_kinds z_h) 0 0 8) (va_cpy (r_sweets z_g1) (r_sweets z_h) 0 0 8) (va_cpy (r_settings z_g1) (r_settings z_h) 0 0 3) (r_heaps z_h) (r_children z_g1) (r_strokes z_g1) (r_gave z_g1) (r_threw z_g1) (r_kinds z_g1) (r_sweets z_g1) (r_settings z_g1)) := hD
  have hq := Option.some.inj hf
  subst hq
  exact hret _ _ _ _ d_Ring_copyFrom_80 hP hD hS
abbrev w_Ring_seatLast (cI cJ cC : ClassId) (a_h a_h_kinds a_h_sweets a_h_settings a_h_heaps : Nat) (p_h_children : Int32) (p_h_strokes : Int32) (p_h_gave : Int32) (p_h_threw : Int32) (p_h_kinds : (Nat → Int32)) (p_h_sweets : (Nat → Int32)) (p_h_settings : (Nat → Int32)) (p_h_heaps : (Nat → Int32)) : va_W := [(a_h, .inr (1, [.ref a_h_kinds, .ref a_h_sweets, .ref a_h_settings, .int p_h_children, .int p_h_strokes, .int p_h_gave, .int p_h_threw, .ref a_h_heaps])), (a_h_kinds, .inl (cI, (8, .inl p_h_kinds))), (a_h_sweets, .inl (cI, (8, .inl p_h_sweets))), (a_h_settings, .inl (cI, (3, .inl p_h_settings))), (a_h_heaps, .inl (cI, (8, .inl p_h_heaps)))]
theorem d_Ring_seatLast_0 : decode b_Ring_seatLast 0 = .ok (.aload_n 0, 1) := by decide +kernel
theorem d_Ring_seatLast_1 : decode b_Ring_seatLast 1 = .ok (.getfield 21, 3) := by decide +kernel
theorem d_Ring_seatLast_4 : decode b_Ring_seatLast 4 = .ok (.bipush 8, 2) := by decide +kernel
theorem d_Ring_seatLast_6 : decode b_Ring_seatLast 6 = .ok (.if_icmp .lt 5, 3) := by decide +kernel
theorem d_Ring_seatLast_9 : decode b_Ring_seatLast 9 = .ok (.iconst 0, 1) := by decide +kernel
theorem d_Ring_seatLast_10 : decode b_Ring_seatLast 10 = .ok (.ireturn, 1) := by decide +kernel
theorem d_Ring_seatLast_11 : decode b_Ring_seatLast 11 = .ok (.aload_n 0, 1) := by decide +kernel
theorem d_Ring_seatLast_12 : decode b_Ring_seatLast 12 = .ok (.getfield 9, 3) := by decide +kernel
theorem d_Ring_seatLast_15 : decode b_Ring_seatLast 15 = .ok (.aload_n 0, 1) := by decide +kernel
theorem d_Ring_seatLast_16 : decode b_Ring_seatLast 16 = .ok (.getfield 21, 3) := by decide +kernel
theorem d_Ring_seatLast_19 : decode b_Ring_seatLast 19 = .ok (.iload_n 1, 1) := by decide +kernel
theorem d_Ring_seatLast_20 : decode b_Ring_seatLast 20 = .ok (.iastore, 1) := by decide +kernel
theorem d_Ring_seatLast_21 : decode b_Ring_seatLast 21 = .ok (.aload_n 0, 1) := by decide +kernel
theorem d_Ring_seatLast_22 : decode b_Ring_seatLast 22 = .ok (.getfield 15, 3) := by decide +kernel
theorem d_Ring_seatLast_25 : decode b_Ring_seatLast 25 = .ok (.aload_n 0, 1) := by decide +kernel
theorem d_Ring_seatLast_26 : decode b_Ring_seatLast 26 = .ok (.getfield 21, 3) := by decide +kernel
theorem d_Ring_seatLast_29 : decode b_Ring_seatLast 29 = .ok (.iload_n 2, 1) := by decide +kernel
theorem d_Ring_seatLast_30 : decode b_Ring_seatLast 30 = .ok (.iastore, 1) := by decide +kernel
theorem d_Ring_seatLast_31 : decode b_Ring_seatLast 31 = .ok (.aload_n 0, 1) := by decide +kernel
theorem d_Ring_seatLast_32 : decode b_Ring_seatLast 32 = .ok (.dup, 1) := by decide +kernel
theorem d_Ring_seatLast_33 : decode b_Ring_seatLast 33 = .ok (.getfield 21, 3) := by decide +kernel
theorem d_Ring_seatLast_36 : decode b_Ring_seatLast 36 = .ok (.iconst 1, 1) := by decide +kernel
theorem d_Ring_seatLast_37 : decode b_Ring_seatLast 37 = .ok (.iadd, 1) := by decide +kernel
theorem d_Ring_seatLast_38 : decode b_Ring_seatLast 38 = .ok (.putfield 21, 3) := by decide +kernel
theorem d_Ring_seatLast_41 : decode b_Ring_seatLast 41 = .ok (.iconst 1, 1) := by decide +kernel
theorem d_Ring_seatLast_42 : decode b_Ring_seatLast 42 = .ok (.ireturn, 1) := by decide +kernel
set_option maxHeartbeats 4000000 in
set_option maxRecDepth 100000 in
theorem c_Ring_seatLast {l : Launch} {D : va_G} {cI cJ cC : ClassId} (a_h a_h_kinds a_h_sweets a_h_settings a_h_heaps : Nat) {z_h : RS} {x1 : Int32} {x2 : Int32} {q : Int32 × RS} (hf : f_Ring_seatLast z_h x1 x2 = some q) : xI l y_Ring_seatLast b_Ring_seatLast 3 .boolean 0 0 D (tyK cI cJ cC) xE0 [.ref a_h, .int x1, .int x2] (w_Ring_seatLast cI cJ cC a_h a_h_kinds a_h_sweets a_h_settings a_h_heaps (r_children z_h) (r_strokes z_h) (r_gave z_h) (r_threw z_h) (r_kinds z_h) (r_sweets z_h) (r_settings z_h) (r_heaps z_h)) q.1 (w_Ring_seatLast cI cJ cC a_h a_h_kinds a_h_sweets a_h_settings a_h_heaps (r_children q.2) (r_strokes q.2) (r_gave q.2) (r_threw q.2) (r_kinds q.2) (r_sweets q.2) (r_settings q.2) (r_heaps q.2)) := by
  refine xI_of (by decide) (Nat.le_of_ble_eq_true rfl) ?_
  intro p e s m args below meth c A Q hx hb hml hown hT hA hP hD hK hS hE hret ls hl
  have hown : s.vm.findClass R_Ring = some m.cls := hown
  have hl : lv_has ls 3 [(0, .ref a_h), (1, .int x1), (2, .int x2)] := hl
  unfold f_Ring_seatLast at hf
  refine lv_aload_n hx hb d_Ring_seatLast_0 rfl (lv_at hl 0 rfl) ?_
  refine va_get hx hb hT i_Ring hown hK hP 0 rfl rfl 3 (Nat.le_of_ble_eq_true rfl) (hT _ k_38) (fun _ h => h) rfl d_Ring_seatLast_1 ?_
  refine lv_bipush (v := 8) hx hb d_Ring_seatLast_4 (by decide) ?_
  refine lv_icmp_lt (tgt := 11) hx hb d_Ring_seatLast_6 (by decide) (fun c1 => ?_) (fun c1 => ?_)
  · have hf := io_t hf c1
    refine lv_aload_n hx hb d_Ring_seatLast_11 rfl (lv_at hl 0 rfl) ?_
    refine va_get hx hb hT i_Ring hown hK hP 0 rfl rfl 0 (Nat.le_of_ble_eq_true rfl) (hT _ k_29) (fun _ h => h) rfl d_Ring_seatLast_12 ?_
    refine lv_aload_n hx hb d_Ring_seatLast_15 rfl (lv_at hl 0 rfl) ?_
    refine va_get hx hb hT i_Ring hown hK hP 0 rfl rfl 3 (Nat.le_of_ble_eq_true rfl) (hT _ k_38) (fun _ h => h) rfl d_Ring_seatLast_16 ?_
    refine lv_iload_n hx hb d_Ring_seatLast_19 rfl (lv_at hl 1 rfl) ?_
    obtain ⟨c2, hf⟩ := io_n hf
    refine x_iast hx hb hK hP hD hS 1 0 rfl rfl (j := (r_children z_h).toNatClampNeg) rfl c2 d_Ring_seatLast_20 (fun H locs hP hD hS => ?_)
    have hP : va_P D classes (w_Ring_seatLast cI cJ cC a_h a_h_kinds a_h_sweets a_h_settings a_h_heaps (r_children z_h) (r_strokes z_h) (r_gave z_h) (r_threw z_h) (upd (r_kinds z_h) (r_children z_h).toNatClampNeg x1) (r_sweets z_h) (r_settings z_h) (r_heaps z_h)) H := hP
    have hD : va_D A (w_Ring_seatLast cI cJ cC a_h a_h_kinds a_h_sweets a_h_settings a_h_heaps (r_children z_h) (r_strokes z_h) (r_gave z_h) (r_threw z_h) (upd (r_kinds z_h) (r_children z_h).toNatClampNeg x1) (r_sweets z_h) (r_settings z_h) (r_heaps z_h)) := hD
    refine lv_aload_n hx hb d_Ring_seatLast_21 rfl (lv_at hl 0 rfl) ?_
    refine va_get hx hb hT i_Ring hown hK hP 0 rfl rfl 1 (Nat.le_of_ble_eq_true rfl) (hT _ k_31) (fun _ h => h) rfl d_Ring_seatLast_22 ?_
    refine lv_aload_n hx hb d_Ring_seatLast_25 rfl (lv_at hl 0 rfl) ?_
    refine va_get hx hb hT i_Ring hown hK hP 0 rfl rfl 3 (Nat.le_of_ble_eq_true rfl) (hT _ k_38) (fun _ h => h) rfl d_Ring_seatLast_26 ?_
    refine lv_iload_n hx hb d_Ring_seatLast_29 rfl (lv_at hl 2 rfl) ?_
    refine x_iast hx hb hK hP hD hS 2 0 rfl rfl (j := (r_children z_h).toNatClampNeg) rfl c2 d_Ring_seatLast_30 (fun H locs hP hD hS => ?_)
    have hP : va_P D classes (w_Ring_seatLast cI cJ cC a_h a_h_kinds a_h_sweets a_h_settings a_h_heaps (r_children z_h) (r_strokes z_h) (r_gave z_h) (r_threw z_h) (upd (r_kinds z_h) (r_children z_h).toNatClampNeg x1) (upd (r_sweets z_h) (r_children z_h).toNatClampNeg x2) (r_settings z_h) (r_heaps z_h)) H := hP
    have hD : va_D A (w_Ring_seatLast cI cJ cC a_h a_h_kinds a_h_sweets a_h_settings a_h_heaps (r_children z_h) (r_strokes z_h) (r_gave z_h) (r_threw z_h) (upd (r_kinds z_h) (r_children z_h).toNatClampNeg x1) (upd (r_sweets z_h) (r_children z_h).toNatClampNeg x2) (r_settings z_h) (r_heaps z_h)) := hD
    refine lv_aload_n hx hb d_Ring_seatLast_31 rfl (lv_at hl 0 rfl) ?_
    refine lv_dup hx hb d_Ring_seatLast_32 rfl ?_
    refine va_get hx hb hT i_Ring hown hK hP 0 rfl rfl 3 (Nat.le_of_ble_eq_true rfl) (hT _ k_38) (fun _ h => h) rfl d_Ring_seatLast_33 ?_
    refine lv_iconst (v := 1) hx hb d_Ring_seatLast_36 (by decide) ?_
    refine lv_iadd hx hb d_Ring_seatLast_37 ?_
    refine va_put (ty := .int) hx hb hT i_Ring t_Ring t_Ring_ok n_Ring hown hK hP hD hS 0 rfl rfl 3 (Nat.le_of_ble_eq_true rfl) (hT _ k_38) (fun _ h => h) rfl rfl rfl rfl (Nat.le_of_ble_eq_true rfl) d_Ring_seatLast_38 (fun H locs hP hD hS => ?_)
    have hP : va_P D classes (w_Ring_seatLast cI cJ cC a_h a_h_kinds a_h_sweets a_h_settings a_h_heaps ((r_children z_h) + 1) (r_strokes z_h) (r_gave z_h) (r_threw z_h) (upd (r_kinds z_h) (r_children z_h).toNatClampNeg x1) (upd (r_sweets z_h) (r_children z_h).toNatClampNeg x2) (r_settings z_h) (r_heaps z_h)) H := hP
    have hD : va_D A (w_Ring_seatLast cI cJ cC a_h a_h_kinds a_h_sweets a_h_settings a_h_heaps ((r_children z_h) + 1) (r_strokes z_h) (r_gave z_h) (r_threw z_h) (upd (r_kinds z_h) (r_children z_h).toNatClampNeg x1) (upd (r_sweets z_h) (r_children z_h).toNatClampNeg x2) (r_settings z_h) (r_heaps z_h)) := hD
    refine lv_iconst (v := 1) hx hb d_Ring_seatLast_41 (by decide) ?_
    have hq := Option.some.inj hf
    subst hq
    exact hret _ _ _ _ _ d_Ring_seatLast_42 (by decide) rfl hP hD hS
  · have hf := io_f hf c1
    refine lv_iconst (v := 0) hx hb d_Ring_seatLast_9 (by decide) ?_
    have hq := Option.some.inj hf
    subst hq
    exact hret _ _ _ _ _ d_Ring_seatLast_10 (by decide) rfl hP hD hS
abbrev w_Ring_has (cI cJ cC : ClassId) (a_h a_h_kinds a_h_sweets a_h_settings a_h_heaps : Nat) (p_h_children : Int32) (p_h_strokes : Int32) (p_h_gave : Int32) (p_h_threw : Int32) : va_W := [(a_h, .inr (1, [.ref a_h_kinds, .ref a_h_sweets, .ref a_h_settings, .int p_h_children, .int p_h_strokes, .int p_h_gave, .int p_h_threw, .ref a_h_heaps]))]
theorem d_Ring_has_0 : decode b_Ring_has 0 = .ok (.iload_n 1, 1) := by decide +kernel
theorem d_Ring_has_1 : decode b_Ring_has 1 = .ok (.ifCond .lt 15, 3) := by decide +kernel
theorem d_Ring_has_4 : decode b_Ring_has 4 = .ok (.iload_n 1, 1) := by decide +kernel
theorem d_Ring_has_5 : decode b_Ring_has 5 = .ok (.aload_n 0, 1) := by decide +kernel
theorem d_Ring_has_6 : decode b_Ring_has 6 = .ok (.getfield 21, 3) := by decide +kernel
theorem d_Ring_has_9 : decode b_Ring_has 9 = .ok (.if_icmp .ge 7, 3) := by decide +kernel
theorem d_Ring_has_12 : decode b_Ring_has 12 = .ok (.iconst 1, 1) := by decide +kernel
theorem d_Ring_has_13 : decode b_Ring_has 13 = .ok (.goto 4, 3) := by decide +kernel
theorem d_Ring_has_16 : decode b_Ring_has 16 = .ok (.iconst 0, 1) := by decide +kernel
theorem d_Ring_has_17 : decode b_Ring_has 17 = .ok (.ireturn, 1) := by decide +kernel
set_option maxHeartbeats 4000000 in
set_option maxRecDepth 100000 in
theorem c_Ring_has {l : Launch} {D : va_G} {cI cJ cC : ClassId} (a_h a_h_kinds a_h_sweets a_h_settings a_h_heaps : Nat) {z_h : RS} {x1 : Int32} {q : Int32} (hf : f_Ring_has z_h x1 = some q) : xI l y_Ring_has b_Ring_has 2 .boolean 0 0 D (tyK cI cJ cC) xE0 [.ref a_h, .int x1] (w_Ring_has cI cJ cC a_h a_h_kinds a_h_sweets a_h_settings a_h_heaps (r_children z_h) (r_strokes z_h) (r_gave z_h) (r_threw z_h)) q (w_Ring_has cI cJ cC a_h a_h_kinds a_h_sweets a_h_settings a_h_heaps (r_children z_h) (r_strokes z_h) (r_gave z_h) (r_threw z_h)) := by
  refine xI_of (by decide) (Nat.le_of_ble_eq_true rfl) ?_
  intro p e s m args below meth c A Q hx hb hml hown hT hA hP hD hK hS hE hret ls hl
  have hown : s.vm.findClass R_Ring = some m.cls := hown
  have hl : lv_has ls 2 [(0, .ref a_h), (1, .int x1)] := hl
  unfold f_Ring_has at hf
  refine lv_iload_n hx hb d_Ring_has_0 rfl (lv_at hl 1 rfl) ?_
  refine lv_if_lt (tgt := 16) hx hb d_Ring_has_1 (by decide) (fun c1 => ?_) (fun c1 => ?_)
  · have hf := io_t hf c1
    refine lv_iconst (v := 0) hx hb d_Ring_has_16 (by decide) ?_
    have hq := Option.some.inj hf
    subst hq
    exact hret _ _ _ _ _ d_Ring_has_17 (by decide) rfl hP hD hS
  · have hf := io_f hf c1
    refine lv_iload_n hx hb d_Ring_has_4 rfl (lv_at hl 1 rfl) ?_
    refine lv_aload_n hx hb d_Ring_has_5 rfl (lv_at hl 0 rfl) ?_
    refine va_get hx hb hT i_Ring hown hK hP 0 rfl rfl 3 (Nat.le_of_ble_eq_true rfl) (hT _ k_38) (fun _ h => h) rfl d_Ring_has_6 ?_
    refine lv_icmp_ge (tgt := 16) hx hb d_Ring_has_9 (by decide) (fun c2 => ?_) (fun c2 => ?_)
    · have hf := io_t hf c2
      refine lv_iconst (v := 0) hx hb d_Ring_has_16 (by decide) ?_
      have hq := Option.some.inj hf
      subst hq
      exact hret _ _ _ _ _ d_Ring_has_17 (by decide) rfl hP hD hS
    · have hf := io_f hf c2
      refine lv_iconst (v := 1) hx hb d_Ring_has_12 (by decide) ?_
      refine lv_goto (tgt := 17) hx hb d_Ring_has_13 (by decide) ?_
      have hq := Option.some.inj hf
      subst hq
      exact hret _ _ _ _ _ d_Ring_has_17 (by decide) rfl hP hD hS
abbrev w_Ring_leftOf (cI cJ cC : ClassId) (a_h a_h_kinds a_h_sweets a_h_settings a_h_heaps : Nat) (p_h_children : Int32) (p_h_strokes : Int32) (p_h_gave : Int32) (p_h_threw : Int32) (p_h_settings : (Nat → Int32)) : va_W := [(a_h, .inr (1, [.ref a_h_kinds, .ref a_h_sweets, .ref a_h_settings, .int p_h_children, .int p_h_strokes, .int p_h_gave, .int p_h_threw, .ref a_h_heaps])), (a_h_settings, .inl (cI, (3, .inl p_h_settings)))]
theorem d_Ring_leftOf_0 : decode b_Ring_leftOf 0 = .ok (.aload_n 0, 1) := by decide +kernel
theorem d_Ring_leftOf_1 : decode b_Ring_leftOf 1 = .ok (.getfield 21, 3) := by decide +kernel
theorem d_Ring_leftOf_4 : decode b_Ring_leftOf 4 = .ok (.ifCond .ne 7, 3) := by decide +kernel
theorem d_Ring_leftOf_7 : decode b_Ring_leftOf 7 = .ok (.iconst 0, 1) := by decide +kernel
theorem d_Ring_leftOf_8 : decode b_Ring_leftOf 8 = .ok (.goto 16, 3) := by decide +kernel
theorem d_Ring_leftOf_11 : decode b_Ring_leftOf 11 = .ok (.iload_n 1, 1) := by decide +kernel
theorem d_Ring_leftOf_12 : decode b_Ring_leftOf 12 = .ok (.aload_n 0, 1) := by decide +kernel
theorem d_Ring_leftOf_13 : decode b_Ring_leftOf 13 = .ok (.getfield 18, 3) := by decide +kernel
theorem d_Ring_leftOf_16 : decode b_Ring_leftOf 16 = .ok (.iconst 1, 1) := by decide +kernel
theorem d_Ring_leftOf_17 : decode b_Ring_leftOf 17 = .ok (.iaload, 1) := by decide +kernel
theorem d_Ring_leftOf_18 : decode b_Ring_leftOf 18 = .ok (.iadd, 1) := by decide +kernel
theorem d_Ring_leftOf_19 : decode b_Ring_leftOf 19 = .ok (.aload_n 0, 1) := by decide +kernel
theorem d_Ring_leftOf_20 : decode b_Ring_leftOf 20 = .ok (.getfield 21, 3) := by decide +kernel
theorem d_Ring_leftOf_23 : decode b_Ring_leftOf 23 = .ok (.irem, 1) := by decide +kernel
theorem d_Ring_leftOf_24 : decode b_Ring_leftOf 24 = .ok (.ireturn, 1) := by decide +kernel
set_option maxHeartbeats 4000000 in
set_option maxRecDepth 100000 in
theorem c_Ring_leftOf {l : Launch} {D : va_G} {cI cJ cC : ClassId} (a_h a_h_kinds a_h_sweets a_h_settings a_h_heaps : Nat) {z_h : RS} {x1 : Int32} {q : Int32} (hf : f_Ring_leftOf z_h x1 = some q) : xI l y_Ring_leftOf b_Ring_leftOf 2 .int 0 0 D (tyK cI cJ cC) xE0 [.ref a_h, .int x1] (w_Ring_leftOf cI cJ cC a_h a_h_kinds a_h_sweets a_h_settings a_h_heaps (r_children z_h) (r_strokes z_h) (r_gave z_h) (r_threw z_h) (r_settings z_h)) q (w_Ring_leftOf cI cJ cC a_h a_h_kinds a_h_sweets a_h_settings a_h_heaps (r_children z_h) (r_strokes z_h) (r_gave z_h) (r_threw z_h) (r_settings z_h)) := by
  refine xI_of (by decide) (Nat.le_of_ble_eq_true rfl) ?_
  intro p e s m args below meth c A Q hx hb hml hown hT hA hP hD hK hS hE hret ls hl
  have hown : s.vm.findClass R_Ring = some m.cls := hown
  have hl : lv_has ls 2 [(0, .ref a_h), (1, .int x1)] := hl
  unfold f_Ring_leftOf at hf
  refine lv_aload_n hx hb d_Ring_leftOf_0 rfl (lv_at hl 0 rfl) ?_
  refine va_get hx hb hT i_Ring hown hK hP 0 rfl rfl 3 (Nat.le_of_ble_eq_true rfl) (hT _ k_38) (fun _ h => h) rfl d_Ring_leftOf_1 ?_
  refine lv_if_ne (tgt := 11) hx hb d_Ring_leftOf_4 (by decide) (fun c1 => ?_) (fun c1 => ?_)
  · have hf := io_f hf c1
    refine lv_iload_n hx hb d_Ring_leftOf_11 rfl (lv_at hl 1 rfl) ?_
    refine lv_aload_n hx hb d_Ring_leftOf_12 rfl (lv_at hl 0 rfl) ?_
    refine va_get hx hb hT i_Ring hown hK hP 0 rfl rfl 2 (Nat.le_of_ble_eq_true rfl) (hT _ k_35) (fun _ h => h) rfl d_Ring_leftOf_13 ?_
    refine lv_iconst (v := 1) hx hb d_Ring_leftOf_16 (by decide) ?_
    refine x_iald hx hb hK hP 1 0 rfl rfl (j := 1) (by decide +kernel) (by unfold vp_in; decide +kernel) d_Ring_leftOf_17 ?_
    refine lv_iadd hx hb d_Ring_leftOf_18 ?_
    refine lv_aload_n hx hb d_Ring_leftOf_19 rfl (lv_at hl 0 rfl) ?_
    refine va_get hx hb hT i_Ring hown hK hP 0 rfl rfl 3 (Nat.le_of_ble_eq_true rfl) (hT _ k_38) (fun _ h => h) rfl d_Ring_leftOf_20 ?_
    refine x_irem hx hb d_Ring_leftOf_23 c1 ?_
    have hq := Option.some.inj hf
    subst hq
    exact hret _ _ _ _ _ d_Ring_leftOf_24 rfl rfl hP hD hS
  · have hf := io_t hf c1
    refine lv_iconst (v := 0) hx hb d_Ring_leftOf_7 (by decide) ?_
    refine lv_goto (tgt := 24) hx hb d_Ring_leftOf_8 (by decide) ?_
    have hq := Option.some.inj hf
    subst hq
    exact hret _ _ _ _ _ d_Ring_leftOf_24 rfl rfl hP hD hS
abbrev w_Ring_gift (cI cJ cC : ClassId) (a_h a_h_kinds a_h_sweets a_h_settings a_h_heaps : Nat) (p_h_children : Int32) (p_h_strokes : Int32) (p_h_gave : Int32) (p_h_threw : Int32) (p_h_kinds : (Nat → Int32)) (p_h_sweets : (Nat → Int32)) (p_h_settings : (Nat → Int32)) : va_W := [(a_h, .inr (1, [.ref a_h_kinds, .ref a_h_sweets, .ref a_h_settings, .int p_h_children, .int p_h_strokes, .int p_h_gave, .int p_h_threw, .ref a_h_heaps])), (a_h_kinds, .inl (cI, (8, .inl p_h_kinds))), (a_h_sweets, .inl (cI, (8, .inl p_h_sweets))), (a_h_settings, .inl (cI, (3, .inl p_h_settings)))]
theorem d_Ring_gift_0 : decode b_Ring_gift 0 = .ok (.aload_n 0, 1) := by decide +kernel
theorem d_Ring_gift_1 : decode b_Ring_gift 1 = .ok (.iload_n 1, 1) := by decide +kernel
theorem d_Ring_gift_2 : decode b_Ring_gift 2 = .ok (.invokevirtual 47, 3) := by decide +kernel
theorem d_Ring_gift_5 : decode b_Ring_gift 5 = .ok (.istore_n 2, 1) := by decide +kernel
theorem d_Ring_gift_6 : decode b_Ring_gift 6 = .ok (.iload_n 2, 1) := by decide +kernel
theorem d_Ring_gift_7 : decode b_Ring_gift 7 = .ok (.iload_n 1, 1) := by decide +kernel
theorem d_Ring_gift_8 : decode b_Ring_gift 8 = .ok (.if_icmp .ne 5, 3) := by decide +kernel
theorem d_Ring_gift_11 : decode b_Ring_gift 11 = .ok (.iconst 0, 1) := by decide +kernel
theorem d_Ring_gift_12 : decode b_Ring_gift 12 = .ok (.ireturn, 1) := by decide +kernel
theorem d_Ring_gift_13 : decode b_Ring_gift 13 = .ok (.aload_n 0, 1) := by decide +kernel
theorem d_Ring_gift_14 : decode b_Ring_gift 14 = .ok (.getfield 15, 3) := by decide +kernel
theorem d_Ring_gift_17 : decode b_Ring_gift 17 = .ok (.iload_n 1, 1) := by decide +kernel
theorem d_Ring_gift_18 : decode b_Ring_gift 18 = .ok (.iaload, 1) := by decide +kernel
theorem d_Ring_gift_19 : decode b_Ring_gift 19 = .ok (.istore_n 3, 1) := by decide +kernel
theorem d_Ring_gift_20 : decode b_Ring_gift 20 = .ok (.aload_n 0, 1) := by decide +kernel
theorem d_Ring_gift_21 : decode b_Ring_gift 21 = .ok (.getfield 15, 3) := by decide +kernel
theorem d_Ring_gift_24 : decode b_Ring_gift 24 = .ok (.iload_n 2, 1) := by decide +kernel
theorem d_Ring_gift_25 : decode b_Ring_gift 25 = .ok (.iaload, 1) := by decide +kernel
theorem d_Ring_gift_26 : decode b_Ring_gift 26 = .ok (.istore 4, 2) := by decide +kernel
theorem d_Ring_gift_28 : decode b_Ring_gift 28 = .ok (.aload_n 0, 1) := by decide +kernel
theorem d_Ring_gift_29 : decode b_Ring_gift 29 = .ok (.getfield 9, 3) := by decide +kernel
theorem d_Ring_gift_32 : decode b_Ring_gift 32 = .ok (.iload_n 1, 1) := by decide +kernel
theorem d_Ring_gift_33 : decode b_Ring_gift 33 = .ok (.iaload, 1) := by decide +kernel
theorem d_Ring_gift_34 : decode b_Ring_gift 34 = .ok (.tableswitch 110 0 6 #[42, 46, 50, 64, 110, 78, 95], 42) := by decide +kernel
theorem d_Ring_gift_76 : decode b_Ring_gift 76 = .ok (.iload_n 3, 1) := by decide +kernel
theorem d_Ring_gift_77 : decode b_Ring_gift 77 = .ok (.iconst 2, 1) := by decide +kernel
theorem d_Ring_gift_78 : decode b_Ring_gift 78 = .ok (.idiv, 1) := by decide +kernel
theorem d_Ring_gift_79 : decode b_Ring_gift 79 = .ok (.ireturn, 1) := by decide +kernel
theorem d_Ring_gift_80 : decode b_Ring_gift 80 = .ok (.iload_n 3, 1) := by decide +kernel
theorem d_Ring_gift_81 : decode b_Ring_gift 81 = .ok (.iconst 4, 1) := by decide +kernel
theorem d_Ring_gift_82 : decode b_Ring_gift 82 = .ok (.idiv, 1) := by decide +kernel
theorem d_Ring_gift_83 : decode b_Ring_gift 83 = .ok (.ireturn, 1) := by decide +kernel
theorem d_Ring_gift_84 : decode b_Ring_gift 84 = .ok (.iload_n 3, 1) := by decide +kernel
theorem d_Ring_gift_85 : decode b_Ring_gift 85 = .ok (.iload 4, 2) := by decide +kernel
theorem d_Ring_gift_87 : decode b_Ring_gift 87 = .ok (.if_icmp .le 9, 3) := by decide +kernel
theorem d_Ring_gift_90 : decode b_Ring_gift 90 = .ok (.iload_n 3, 1) := by decide +kernel
theorem d_Ring_gift_91 : decode b_Ring_gift 91 = .ok (.iconst 2, 1) := by decide +kernel
theorem d_Ring_gift_92 : decode b_Ring_gift 92 = .ok (.idiv, 1) := by decide +kernel
theorem d_Ring_gift_93 : decode b_Ring_gift 93 = .ok (.goto 4, 3) := by decide +kernel
theorem d_Ring_gift_96 : decode b_Ring_gift 96 = .ok (.iconst 0, 1) := by decide +kernel
theorem d_Ring_gift_97 : decode b_Ring_gift 97 = .ok (.ireturn, 1) := by decide +kernel
theorem d_Ring_gift_98 : decode b_Ring_gift 98 = .ok (.iload_n 3, 1) := by decide +kernel
theorem d_Ring_gift_99 : decode b_Ring_gift 99 = .ok (.ifCond .le 11, 3) := by decide +kernel
theorem d_Ring_gift_102 : decode b_Ring_gift 102 = .ok (.iload_n 3, 1) := by decide +kernel
theorem d_Ring_gift_103 : decode b_Ring_gift 103 = .ok (.iconst 1, 1) := by decide +kernel
theorem d_Ring_gift_104 : decode b_Ring_gift 104 = .ok (.isub, 1) := by decide +kernel
theorem d_Ring_gift_105 : decode b_Ring_gift 105 = .ok (.iconst 2, 1) := by decide +kernel
theorem d_Ring_gift_106 : decode b_Ring_gift 106 = .ok (.idiv, 1) := by decide +kernel
theorem d_Ring_gift_107 : decode b_Ring_gift 107 = .ok (.goto 4, 3) := by decide +kernel
theorem d_Ring_gift_110 : decode b_Ring_gift 110 = .ok (.iconst 0, 1) := by decide +kernel
theorem d_Ring_gift_111 : decode b_Ring_gift 111 = .ok (.ireturn, 1) := by decide +kernel
theorem d_Ring_gift_112 : decode b_Ring_gift 112 = .ok (.iload_n 3, 1) := by decide +kernel
theorem d_Ring_gift_113 : decode b_Ring_gift 113 = .ok (.iload 4, 2) := by decide +kernel
theorem d_Ring_gift_115 : decode b_Ring_gift 115 = .ok (.if_icmp .le 12, 3) := by decide +kernel
theorem d_Ring_gift_118 : decode b_Ring_gift 118 = .ok (.iload_n 3, 1) := by decide +kernel
theorem d_Ring_gift_119 : decode b_Ring_gift 119 = .ok (.iload 4, 2) := by decide +kernel
theorem d_Ring_gift_121 : decode b_Ring_gift 121 = .ok (.isub, 1) := by decide +kernel
theorem d_Ring_gift_122 : decode b_Ring_gift 122 = .ok (.iconst 2, 1) := by decide +kernel
theorem d_Ring_gift_123 : decode b_Ring_gift 123 = .ok (.idiv, 1) := by decide +kernel
theorem d_Ring_gift_124 : decode b_Ring_gift 124 = .ok (.goto 4, 3) := by decide +kernel
theorem d_Ring_gift_127 : decode b_Ring_gift 127 = .ok (.iconst 0, 1) := by decide +kernel
theorem d_Ring_gift_128 : decode b_Ring_gift 128 = .ok (.ireturn, 1) := by decide +kernel
theorem d_Ring_gift_129 : decode b_Ring_gift 129 = .ok (.iload_n 3, 1) := by decide +kernel
theorem d_Ring_gift_130 : decode b_Ring_gift 130 = .ok (.iconst 4, 1) := by decide +kernel
theorem d_Ring_gift_131 : decode b_Ring_gift 131 = .ok (.if_icmp .lt 11, 3) := by decide +kernel
theorem d_Ring_gift_134 : decode b_Ring_gift 134 = .ok (.iload_n 3, 1) := by decide +kernel
theorem d_Ring_gift_135 : decode b_Ring_gift 135 = .ok (.iconst 1, 1) := by decide +kernel
theorem d_Ring_gift_136 : decode b_Ring_gift 136 = .ok (.isub, 1) := by decide +kernel
theorem d_Ring_gift_137 : decode b_Ring_gift 137 = .ok (.iconst 2, 1) := by decide +kernel
theorem d_Ring_gift_138 : decode b_Ring_gift 138 = .ok (.idiv, 1) := by decide +kernel
theorem d_Ring_gift_139 : decode b_Ring_gift 139 = .ok (.goto 4, 3) := by decide +kernel
theorem d_Ring_gift_142 : decode b_Ring_gift 142 = .ok (.iconst 0, 1) := by decide +kernel
theorem d_Ring_gift_143 : decode b_Ring_gift 143 = .ok (.ireturn, 1) := by decide +kernel
theorem d_Ring_gift_144 : decode b_Ring_gift 144 = .ok (.iconst 0, 1) := by decide +kernel
theorem d_Ring_gift_145 : decode b_Ring_gift 145 = .ok (.ireturn, 1) := by decide +kernel
set_option maxHeartbeats 4000000 in
set_option maxRecDepth 100000 in
theorem c_Ring_gift {l : Launch} {D : va_G} {cI cJ cC : ClassId} (a_h a_h_kinds a_h_sweets a_h_settings a_h_heaps : Nat) {z_h : RS} {x1 : Int32} {q : Int32} (hf : f_Ring_gift z_h x1 = some q) : xI l y_Ring_gift b_Ring_gift 5 .int 1 21 D (tyK cI cJ cC) xE0 [.ref a_h, .int x1] (w_Ring_gift cI cJ cC a_h a_h_kinds a_h_sweets a_h_settings a_h_heaps (r_children z_h) (r_strokes z_h) (r_gave z_h) (r_threw z_h) (r_kinds z_h) (r_sweets z_h) (r_settings z_h)) q (w_Ring_gift cI cJ cC a_h a_h_kinds a_h_sweets a_h_settings a_h_heaps (r_children z_h) (r_strokes z_h) (r_gave z_h) (r_threw z_h) (r_kinds z_h) (r_sweets z_h) (r_settings z_h)) := by
  refine xI_of (by decide) (Nat.le_of_ble_eq_true rfl) ?_
  intro p e s m args below meth c A Q hx hb hml hown hT hA hP hD hK hS hE hret ls hl
  have hown : s.vm.findClass R_Ring = some m.cls := hown
  have hl : lv_has ls 5 [(0, .ref a_h), (1, .int x1)] := hl
  unfold f_Ring_gift at hf
  refine lv_aload_n hx hb d_Ring_gift_0 rfl (lv_at hl 0 rfl) ?_
  refine lv_iload_n hx hb d_Ring_gift_1 rfl (lv_at hl 1 rfl) ?_
  obtain ⟨q1, hq1, hf⟩ := io_b hf
  refine xcVI (wc := (w_Ring_leftOf cI cJ cC a_h a_h_kinds a_h_sweets a_h_settings a_h_heaps (r_children z_h) (r_strokes z_h) (r_gave z_h) (r_threw z_h) (r_settings z_h))) (wc' := (w_Ring_leftOf cI cJ cC a_h a_h_kinds a_h_sweets a_h_settings a_h_heaps (r_children z_h) (r_strokes z_h) (r_gave z_h) (r_threw z_h) (r_settings z_h))) (ws' := (w_Ring_gift cI cJ cC a_h a_h_kinds a_h_sweets a_h_settings a_h_heaps (r_children z_h) (r_strokes z_h) (r_gave z_h) (r_threw z_h) (r_kinds z_h) (r_sweets z_h) (r_settings z_h))) (As := [.int x1]) (rest := []) hx hb hml hown hT (c_Ring_leftOf (z_h := z_h) a_h a_h_kinds a_h_sweets a_h_settings a_h_heaps hq1) k_206 k_207 k_208 k_2 k_209 hd_Ring_leftOf ⟨Nat.le_of_ble_eq_true rfl, Nat.le_of_ble_eq_true rfl⟩ xE0_ok trivial hA hK hP hD hS [0, 3] [1, 2] [2, 0, 1, 3] rfl rfl rfl rfl rfl rfl rfl rfl rfl rfl hl.1 rfl (Nat.le_of_ble_eq_true rfl) ⟨Nat.zero_le _, Nat.zero_le _⟩ d_Ring_gift_2 (fun H locs hP hD hS => ?_)
  refine lv_istore_n (lv' := [(2, .int q1), (0, .ref a_h), (1, .int x1)]) hx hb d_Ring_gift_5 rfl hl (by decide) rfl (fun ls hl => ?_)
  refine lv_iload_n hx hb d_Ring_gift_6 rfl (lv_at hl 0 rfl) ?_
  refine lv_iload_n hx hb d_Ring_gift_7 rfl (lv_at hl 2 rfl) ?_
  refine lv_icmp_ne (tgt := 13) hx hb d_Ring_gift_8 (by decide) (fun c2 => ?_) (fun c2 => ?_)
  · have hf := io_f hf c2
    refine lv_aload_n hx hb d_Ring_gift_13 rfl (lv_at hl 1 rfl) ?_
    refine va_get hx hb hT i_Ring hown hK hP 0 rfl rfl 1 (Nat.le_of_ble_eq_true rfl) (hT _ k_31) (fun _ h => h) rfl d_Ring_gift_14 ?_
    refine lv_iload_n hx hb d_Ring_gift_17 rfl (lv_at hl 2 rfl) ?_
    obtain ⟨c3, hf⟩ := io_n hf
    refine x_iald hx hb hK hP 2 0 rfl rfl (j := x1.toNatClampNeg) rfl c3 d_Ring_gift_18 ?_
    refine lv_istore_n (lv' := [(3, .int ((r_sweets z_h) x1.toNatClampNeg)), (2, .int q1), (0, .ref a_h), (1, .int x1)]) hx hb d_Ring_gift_19 rfl hl (by decide) rfl (fun ls hl => ?_)
    refine lv_aload_n hx hb d_Ring_gift_20 rfl (lv_at hl 2 rfl) ?_
    refine va_get hx hb hT i_Ring hown hK hP 0 rfl rfl 1 (Nat.le_of_ble_eq_true rfl) (hT _ k_31) (fun _ h => h) rfl d_Ring_gift_21 ?_
    refine lv_iload_n hx hb d_Ring_gift_24 rfl (lv_at hl 1 rfl) ?_
    obtain ⟨c4, hf⟩ := io_n hf
    refine x_iald hx hb hK hP 2 0 rfl rfl (j := q1.toNatClampNeg) rfl c4 d_Ring_gift_25 ?_
    refine lv_istore (lv' := [(4, .int ((r_sweets z_h) q1.toNatClampNeg)), (3, .int ((r_sweets z_h) x1.toNatClampNeg)), (2, .int q1), (0, .ref a_h), (1, .int x1)]) hx hb d_Ring_gift_26 hl (by decide) rfl (fun ls hl => ?_)
    refine lv_aload_n hx hb d_Ring_gift_28 rfl (lv_at hl 3 rfl) ?_
    refine va_get hx hb hT i_Ring hown hK hP 0 rfl rfl 0 (Nat.le_of_ble_eq_true rfl) (hT _ k_29) (fun _ h => h) rfl d_Ring_gift_29 ?_
    refine lv_iload_n hx hb d_Ring_gift_32 rfl (lv_at hl 4 rfl) ?_
    refine x_iald hx hb hK hP 1 0 rfl rfl (j := x1.toNatClampNeg) rfl c3 d_Ring_gift_33 ?_
    rcases Decidable.em (((r_kinds z_h) x1.toNatClampNeg) = 0) with c5 | c5
    · have hf := io_t hf c5
      refine lv_tableIn (off := 42) (tgt := 76) hx hb d_Ring_gift_34 (by rw [c5]; decide +kernel) (by rw [c5]; decide +kernel) (by rw [c5]; rfl) (by decide) ?_
      refine lv_iload_n hx hb d_Ring_gift_76 rfl (lv_at hl 1 rfl) ?_
      refine lv_iconst (v := 2) hx hb d_Ring_gift_77 (by decide) ?_
      refine x_idiv hx hb d_Ring_gift_78 (by decide) ?_
      have hq := Option.some.inj hf
      subst hq
      exact hret _ _ _ _ _ d_Ring_gift_79 rfl rfl hP hD hS
    · have hf := io_f hf c5
      rcases Decidable.em (((r_kinds z_h) x1.toNatClampNeg) = 1) with c6 | c6
      · have hf := io_t hf c6
        refine lv_tableIn (off := 46) (tgt := 80) hx hb d_Ring_gift_34 (by rw [c6]; decide +kernel) (by rw [c6]; decide +kernel) (by rw [c6]; rfl) (by decide) ?_
        refine lv_iload_n hx hb d_Ring_gift_80 rfl (lv_at hl 1 rfl) ?_
        refine lv_iconst (v := 4) hx hb d_Ring_gift_81 (by decide) ?_
        refine x_idiv hx hb d_Ring_gift_82 (by decide) ?_
        have hq := Option.some.inj hf
        subst hq
        exact hret _ _ _ _ _ d_Ring_gift_83 rfl rfl hP hD hS
      · have hf := io_f hf c6
        rcases Decidable.em (((r_kinds z_h) x1.toNatClampNeg) = 2) with c7 | c7
        · have hf := io_t hf c7
          refine lv_tableIn (off := 50) (tgt := 84) hx hb d_Ring_gift_34 (by rw [c7]; decide +kernel) (by rw [c7]; decide +kernel) (by rw [c7]; rfl) (by decide) ?_
          refine lv_iload_n hx hb d_Ring_gift_84 rfl (lv_at hl 1 rfl) ?_
          refine lv_iload hx hb d_Ring_gift_85 (lv_at hl 0 rfl) ?_
          refine lv_icmp_le (tgt := 96) hx hb d_Ring_gift_87 (by decide) (fun c8 => ?_) (fun c8 => ?_)
          · have hf := io_t hf c8
            refine lv_iconst (v := 0) hx hb d_Ring_gift_96 (by decide) ?_
            have hq := Option.some.inj hf
            subst hq
            exact hret _ _ _ _ _ d_Ring_gift_97 rfl rfl hP hD hS
          · have hf := io_f hf c8
            refine lv_iload_n hx hb d_Ring_gift_90 rfl (lv_at hl 1 rfl) ?_
            refine lv_iconst (v := 2) hx hb d_Ring_gift_91 (by decide) ?_
            refine x_idiv hx hb d_Ring_gift_92 (by decide) ?_
            refine lv_goto (tgt := 97) hx hb d_Ring_gift_93 (by decide) ?_
            have hq := Option.some.inj hf
            subst hq
            exact hret _ _ _ _ _ d_Ring_gift_97 rfl rfl hP hD hS
        · have hf := io_f hf c7
          rcases Decidable.em (((r_kinds z_h) x1.toNatClampNeg) = 3) with c9 | c9
          · have hf := io_t hf c9
            refine lv_tableIn (off := 64) (tgt := 98) hx hb d_Ring_gift_34 (by rw [c9]; decide +kernel) (by rw [c9]; decide +kernel) (by rw [c9]; rfl) (by decide) ?_
            refine lv_iload_n hx hb d_Ring_gift_98 rfl (lv_at hl 1 rfl) ?_
            refine lv_if_le (tgt := 110) hx hb d_Ring_gift_99 (by decide) (fun c10 => ?_) (fun c10 => ?_)
            · have hf := io_t hf c10
              refine lv_iconst (v := 0) hx hb d_Ring_gift_110 (by decide) ?_
              have hq := Option.some.inj hf
              subst hq
              exact hret _ _ _ _ _ d_Ring_gift_111 rfl rfl hP hD hS
            · have hf := io_f hf c10
              refine lv_iload_n hx hb d_Ring_gift_102 rfl (lv_at hl 1 rfl) ?_
              refine lv_iconst (v := 1) hx hb d_Ring_gift_103 (by decide) ?_
              refine lv_isub hx hb d_Ring_gift_104 ?_
              refine lv_iconst (v := 2) hx hb d_Ring_gift_105 (by decide) ?_
              refine x_idiv hx hb d_Ring_gift_106 (by decide) ?_
              refine lv_goto (tgt := 111) hx hb d_Ring_gift_107 (by decide) ?_
              have hq := Option.some.inj hf
              subst hq
              exact hret _ _ _ _ _ d_Ring_gift_111 rfl rfl hP hD hS
          · have hf := io_f hf c9
            rcases Decidable.em (((r_kinds z_h) x1.toNatClampNeg) = 4) with c11 | c11
            · have hf := io_t hf c11
              refine lv_tableIn (off := 110) (tgt := 144) hx hb d_Ring_gift_34 (by rw [c11]; decide +kernel) (by rw [c11]; decide +kernel) (by rw [c11]; rfl) (by decide) ?_
              refine lv_iconst (v := 0) hx hb d_Ring_gift_144 (by decide) ?_
              have hq := Option.some.inj hf
              subst hq
              exact hret _ _ _ _ _ d_Ring_gift_145 rfl rfl hP hD hS
            · have hf := io_f hf c11
              rcases Decidable.em (((r_kinds z_h) x1.toNatClampNeg) = 5) with c12 | c12
              · have hf := io_t hf c12
                refine lv_tableIn (off := 78) (tgt := 112) hx hb d_Ring_gift_34 (by rw [c12]; decide +kernel) (by rw [c12]; decide +kernel) (by rw [c12]; rfl) (by decide) ?_
                refine lv_iload_n hx hb d_Ring_gift_112 rfl (lv_at hl 1 rfl) ?_
                refine lv_iload hx hb d_Ring_gift_113 (lv_at hl 0 rfl) ?_
                refine lv_icmp_le (tgt := 127) hx hb d_Ring_gift_115 (by decide) (fun c13 => ?_) (fun c13 => ?_)
                · have hf := io_t hf c13
                  refine lv_iconst (v := 0) hx hb d_Ring_gift_127 (by decide) ?_
                  have hq := Option.some.inj hf
                  subst hq
                  exact hret _ _ _ _ _ d_Ring_gift_128 rfl rfl hP hD hS
                · have hf := io_f hf c13
                  refine lv_iload_n hx hb d_Ring_gift_118 rfl (lv_at hl 1 rfl) ?_
                  refine lv_iload hx hb d_Ring_gift_119 (lv_at hl 0 rfl) ?_
                  refine lv_isub hx hb d_Ring_gift_121 ?_
                  refine lv_iconst (v := 2) hx hb d_Ring_gift_122 (by decide) ?_
                  refine x_idiv hx hb d_Ring_gift_123 (by decide) ?_
                  refine lv_goto (tgt := 128) hx hb d_Ring_gift_124 (by decide) ?_
                  have hq := Option.some.inj hf
                  subst hq
                  exact hret _ _ _ _ _ d_Ring_gift_128 rfl rfl hP hD hS
              · have hf := io_f hf c12
                rcases Decidable.em (((r_kinds z_h) x1.toNatClampNeg) = 6) with c14 | c14
                · have hf := io_t hf c14
                  refine lv_tableIn (off := 95) (tgt := 129) hx hb d_Ring_gift_34 (by rw [c14]; decide +kernel) (by rw [c14]; decide +kernel) (by rw [c14]; rfl) (by decide) ?_
                  refine lv_iload_n hx hb d_Ring_gift_129 rfl (lv_at hl 1 rfl) ?_
                  refine lv_iconst (v := 4) hx hb d_Ring_gift_130 (by decide) ?_
                  refine lv_icmp_lt (tgt := 142) hx hb d_Ring_gift_131 (by decide) (fun c15 => ?_) (fun c15 => ?_)
                  · have hf := io_t hf c15
                    refine lv_iconst (v := 0) hx hb d_Ring_gift_142 (by decide) ?_
                    have hq := Option.some.inj hf
                    subst hq
                    exact hret _ _ _ _ _ d_Ring_gift_143 rfl rfl hP hD hS
                  · have hf := io_f hf c15
                    refine lv_iload_n hx hb d_Ring_gift_134 rfl (lv_at hl 1 rfl) ?_
                    refine lv_iconst (v := 1) hx hb d_Ring_gift_135 (by decide) ?_
                    refine lv_isub hx hb d_Ring_gift_136 ?_
                    refine lv_iconst (v := 2) hx hb d_Ring_gift_137 (by decide) ?_
                    refine x_idiv hx hb d_Ring_gift_138 (by decide) ?_
                    refine lv_goto (tgt := 143) hx hb d_Ring_gift_139 (by decide) ?_
                    have hq := Option.some.inj hf
                    subst hq
                    exact hret _ _ _ _ _ d_Ring_gift_143 rfl rfl hP hD hS
                · have hf := io_f hf c14
                  refine lv_tableOut (tgt := 144) hx hb d_Ring_gift_34 (by have e0 := lv_neT (a := 0) c5 (by decide +kernel); have e1 := lv_neT (a := 1) c6 (by decide +kernel); have e2 := lv_neT (a := 2) c7 (by decide +kernel); have e3 := lv_neT (a := 3) c9 (by decide +kernel); have e4 := lv_neT (a := 4) c11 (by decide +kernel); have e5 := lv_neT (a := 5) c12 (by decide +kernel); have e6 := lv_neT (a := 6) c14 (by decide +kernel); omega) (by decide) ?_
                  refine lv_iconst (v := 0) hx hb d_Ring_gift_144 (by decide) ?_
                  have hq := Option.some.inj hf
                  subst hq
                  exact hret _ _ _ _ _ d_Ring_gift_145 rfl rfl hP hD hS
  · have hf := io_t hf c2
    refine lv_iconst (v := 0) hx hb d_Ring_gift_11 (by decide) ?_
    have hq := Option.some.inj hf
    subst hq
    exact hret _ _ _ _ _ d_Ring_gift_12 rfl rfl hP hD hS
abbrev w_Ring_sides (cI cJ cC : ClassId) (a_h a_h_kinds a_h_sweets a_h_settings a_h_heaps : Nat) (p_h_children : Int32) (p_h_strokes : Int32) (p_h_gave : Int32) (p_h_threw : Int32) (p_h_kinds : (Nat → Int32)) (p_h_sweets : (Nat → Int32)) (p_h_settings : (Nat → Int32)) : va_W := [(a_h, .inr (1, [.ref a_h_kinds, .ref a_h_sweets, .ref a_h_settings, .int p_h_children, .int p_h_strokes, .int p_h_gave, .int p_h_threw, .ref a_h_heaps])), (a_h_kinds, .inl (cI, (8, .inl p_h_kinds))), (a_h_sweets, .inl (cI, (8, .inl p_h_sweets))), (a_h_settings, .inl (cI, (3, .inl p_h_settings)))]
theorem d_Ring_sides_0 : decode b_Ring_sides 0 = .ok (.aload_n 0, 1) := by decide +kernel
theorem d_Ring_sides_1 : decode b_Ring_sides 1 = .ok (.iload_n 1, 1) := by decide +kernel
theorem d_Ring_sides_2 : decode b_Ring_sides 2 = .ok (.invokevirtual 51, 3) := by decide +kernel
theorem d_Ring_sides_5 : decode b_Ring_sides 5 = .ok (.ifCond .ne 5, 3) := by decide +kernel
theorem d_Ring_sides_8 : decode b_Ring_sides 8 = .ok (.iconst 0, 1) := by decide +kernel
theorem d_Ring_sides_9 : decode b_Ring_sides 9 = .ok (.ireturn, 1) := by decide +kernel
theorem d_Ring_sides_10 : decode b_Ring_sides 10 = .ok (.aload_n 0, 1) := by decide +kernel
theorem d_Ring_sides_11 : decode b_Ring_sides 11 = .ok (.getfield 9, 3) := by decide +kernel
theorem d_Ring_sides_14 : decode b_Ring_sides 14 = .ok (.iload_n 1, 1) := by decide +kernel
theorem d_Ring_sides_15 : decode b_Ring_sides 15 = .ok (.iaload, 1) := by decide +kernel
theorem d_Ring_sides_16 : decode b_Ring_sides 16 = .ok (.iconst 1, 1) := by decide +kernel
theorem d_Ring_sides_17 : decode b_Ring_sides 17 = .ok (.if_icmp .ne 7, 3) := by decide +kernel
theorem d_Ring_sides_20 : decode b_Ring_sides 20 = .ok (.iconst 2, 1) := by decide +kernel
theorem d_Ring_sides_21 : decode b_Ring_sides 21 = .ok (.goto 4, 3) := by decide +kernel
theorem d_Ring_sides_24 : decode b_Ring_sides 24 = .ok (.iconst 1, 1) := by decide +kernel
theorem d_Ring_sides_25 : decode b_Ring_sides 25 = .ok (.ireturn, 1) := by decide +kernel
set_option maxHeartbeats 4000000 in
set_option maxRecDepth 100000 in
theorem c_Ring_sides {l : Launch} {D : va_G} {cI cJ cC : ClassId} (a_h a_h_kinds a_h_sweets a_h_settings a_h_heaps : Nat) {z_h : RS} {x1 : Int32} {q : Int32} (hf : f_Ring_sides z_h x1 = some q) : xI l y_Ring_sides b_Ring_sides 2 .int 2 45 D (tyK cI cJ cC) xE0 [.ref a_h, .int x1] (w_Ring_sides cI cJ cC a_h a_h_kinds a_h_sweets a_h_settings a_h_heaps (r_children z_h) (r_strokes z_h) (r_gave z_h) (r_threw z_h) (r_kinds z_h) (r_sweets z_h) (r_settings z_h)) q (w_Ring_sides cI cJ cC a_h a_h_kinds a_h_sweets a_h_settings a_h_heaps (r_children z_h) (r_strokes z_h) (r_gave z_h) (r_threw z_h) (r_kinds z_h) (r_sweets z_h) (r_settings z_h)) := by
  refine xI_of (by decide) (Nat.le_of_ble_eq_true rfl) ?_
  intro p e s m args below meth c A Q hx hb hml hown hT hA hP hD hK hS hE hret ls hl
  have hown : s.vm.findClass R_Ring = some m.cls := hown
  have hl : lv_has ls 2 [(0, .ref a_h), (1, .int x1)] := hl
  unfold f_Ring_sides at hf
  refine lv_aload_n hx hb d_Ring_sides_0 rfl (lv_at hl 0 rfl) ?_
  refine lv_iload_n hx hb d_Ring_sides_1 rfl (lv_at hl 1 rfl) ?_
  obtain ⟨q1, hq1, hf⟩ := io_b hf
  refine xcVI (wc := (w_Ring_gift cI cJ cC a_h a_h_kinds a_h_sweets a_h_settings a_h_heaps (r_children z_h) (r_strokes z_h) (r_gave z_h) (r_threw z_h) (r_kinds z_h) (r_sweets z_h) (r_settings z_h))) (wc' := (w_Ring_gift cI cJ cC a_h a_h_kinds a_h_sweets a_h_settings a_h_heaps (r_children z_h) (r_strokes z_h) (r_gave z_h) (r_threw z_h) (r_kinds z_h) (r_sweets z_h) (r_settings z_h))) (ws' := (w_Ring_sides cI cJ cC a_h a_h_kinds a_h_sweets a_h_settings a_h_heaps (r_children z_h) (r_strokes z_h) (r_gave z_h) (r_threw z_h) (r_kinds z_h) (r_sweets z_h) (r_settings z_h))) (As := [.int x1]) (rest := []) hx hb hml hown hT (c_Ring_gift (z_h := z_h) a_h a_h_kinds a_h_sweets a_h_settings a_h_heaps hq1) k_214 k_203 k_204 k_2 k_205 hd_Ring_gift ⟨Nat.le_of_ble_eq_true rfl, Nat.le_of_ble_eq_true rfl⟩ xE0_ok trivial hA hK hP hD hS [0, 1, 2, 3] [] [0, 1, 2, 3] rfl rfl rfl rfl rfl rfl rfl rfl rfl rfl hl.1 rfl (Nat.le_of_ble_eq_true rfl) ⟨Nat.zero_le _, Nat.zero_le _⟩ d_Ring_sides_2 (fun H locs hP hD hS => ?_)
  refine lv_if_ne (tgt := 10) hx hb d_Ring_sides_5 (by decide) (fun c2 => ?_) (fun c2 => ?_)
  · have hf := io_f hf c2
    refine lv_aload_n hx hb d_Ring_sides_10 rfl (lv_at hl 0 rfl) ?_
    refine va_get hx hb hT i_Ring hown hK hP 0 rfl rfl 0 (Nat.le_of_ble_eq_true rfl) (hT _ k_29) (fun _ h => h) rfl d_Ring_sides_11 ?_
    refine lv_iload_n hx hb d_Ring_sides_14 rfl (lv_at hl 1 rfl) ?_
    obtain ⟨c3, hf⟩ := io_n hf
    refine x_iald hx hb hK hP 1 0 rfl rfl (j := x1.toNatClampNeg) rfl c3 d_Ring_sides_15 ?_
    refine lv_iconst (v := 1) hx hb d_Ring_sides_16 (by decide) ?_
    refine lv_icmp_ne (tgt := 24) hx hb d_Ring_sides_17 (by decide) (fun c4 => ?_) (fun c4 => ?_)
    · have hf := io_f hf c4
      refine lv_iconst (v := 1) hx hb d_Ring_sides_24 (by decide) ?_
      have hq := Option.some.inj hf
      subst hq
      exact hret _ _ _ _ _ d_Ring_sides_25 rfl rfl hP hD hS
    · have hf := io_t hf c4
      refine lv_iconst (v := 2) hx hb d_Ring_sides_20 (by decide) ?_
      refine lv_goto (tgt := 25) hx hb d_Ring_sides_21 (by decide) ?_
      have hq := Option.some.inj hf
      subst hq
      exact hret _ _ _ _ _ d_Ring_sides_25 rfl rfl hP hD hS
  · have hf := io_t hf c2
    refine lv_iconst (v := 0) hx hb d_Ring_sides_8 (by decide) ?_
    have hq := Option.some.inj hf
    subst hq
    exact hret _ _ _ _ _ d_Ring_sides_9 rfl rfl hP hD hS
abbrev w_Ring_rightOf (cI cJ cC : ClassId) (a_h a_h_kinds a_h_sweets a_h_settings a_h_heaps : Nat) (p_h_children : Int32) (p_h_strokes : Int32) (p_h_gave : Int32) (p_h_threw : Int32) (p_h_settings : (Nat → Int32)) : va_W := [(a_h, .inr (1, [.ref a_h_kinds, .ref a_h_sweets, .ref a_h_settings, .int p_h_children, .int p_h_strokes, .int p_h_gave, .int p_h_threw, .ref a_h_heaps])), (a_h_settings, .inl (cI, (3, .inl p_h_settings)))]
theorem d_Ring_rightOf_0 : decode b_Ring_rightOf 0 = .ok (.aload_n 0, 1) := by decide +kernel
theorem d_Ring_rightOf_1 : decode b_Ring_rightOf 1 = .ok (.getfield 21, 3) := by decide +kernel
theorem d_Ring_rightOf_4 : decode b_Ring_rightOf 4 = .ok (.ifCond .ne 7, 3) := by decide +kernel
theorem d_Ring_rightOf_7 : decode b_Ring_rightOf 7 = .ok (.iconst 0, 1) := by decide +kernel
theorem d_Ring_rightOf_8 : decode b_Ring_rightOf 8 = .ok (.goto 23, 3) := by decide +kernel
theorem d_Ring_rightOf_11 : decode b_Ring_rightOf 11 = .ok (.iload_n 1, 1) := by decide +kernel
theorem d_Ring_rightOf_12 : decode b_Ring_rightOf 12 = .ok (.iconst 3, 1) := by decide +kernel
theorem d_Ring_rightOf_13 : decode b_Ring_rightOf 13 = .ok (.aload_n 0, 1) := by decide +kernel
theorem d_Ring_rightOf_14 : decode b_Ring_rightOf 14 = .ok (.getfield 21, 3) := by decide +kernel
theorem d_Ring_rightOf_17 : decode b_Ring_rightOf 17 = .ok (.imul, 1) := by decide +kernel
theorem d_Ring_rightOf_18 : decode b_Ring_rightOf 18 = .ok (.iadd, 1) := by decide +kernel
theorem d_Ring_rightOf_19 : decode b_Ring_rightOf 19 = .ok (.aload_n 0, 1) := by decide +kernel
theorem d_Ring_rightOf_20 : decode b_Ring_rightOf 20 = .ok (.getfield 18, 3) := by decide +kernel
theorem d_Ring_rightOf_23 : decode b_Ring_rightOf 23 = .ok (.iconst 1, 1) := by decide +kernel
theorem d_Ring_rightOf_24 : decode b_Ring_rightOf 24 = .ok (.iaload, 1) := by decide +kernel
theorem d_Ring_rightOf_25 : decode b_Ring_rightOf 25 = .ok (.isub, 1) := by decide +kernel
theorem d_Ring_rightOf_26 : decode b_Ring_rightOf 26 = .ok (.aload_n 0, 1) := by decide +kernel
theorem d_Ring_rightOf_27 : decode b_Ring_rightOf 27 = .ok (.getfield 21, 3) := by decide +kernel
theorem d_Ring_rightOf_30 : decode b_Ring_rightOf 30 = .ok (.irem, 1) := by decide +kernel
theorem d_Ring_rightOf_31 : decode b_Ring_rightOf 31 = .ok (.ireturn, 1) := by decide +kernel
set_option maxHeartbeats 4000000 in
set_option maxRecDepth 100000 in
theorem c_Ring_rightOf {l : Launch} {D : va_G} {cI cJ cC : ClassId} (a_h a_h_kinds a_h_sweets a_h_settings a_h_heaps : Nat) {z_h : RS} {x1 : Int32} {q : Int32} (hf : f_Ring_rightOf z_h x1 = some q) : xI l y_Ring_rightOf b_Ring_rightOf 2 .int 0 0 D (tyK cI cJ cC) xE0 [.ref a_h, .int x1] (w_Ring_rightOf cI cJ cC a_h a_h_kinds a_h_sweets a_h_settings a_h_heaps (r_children z_h) (r_strokes z_h) (r_gave z_h) (r_threw z_h) (r_settings z_h)) q (w_Ring_rightOf cI cJ cC a_h a_h_kinds a_h_sweets a_h_settings a_h_heaps (r_children z_h) (r_strokes z_h) (r_gave z_h) (r_threw z_h) (r_settings z_h)) := by
  refine xI_of (by decide) (Nat.le_of_ble_eq_true rfl) ?_
  intro p e s m args below meth c A Q hx hb hml hown hT hA hP hD hK hS hE hret ls hl
  have hown : s.vm.findClass R_Ring = some m.cls := hown
  have hl : lv_has ls 2 [(0, .ref a_h), (1, .int x1)] := hl
  unfold f_Ring_rightOf at hf
  refine lv_aload_n hx hb d_Ring_rightOf_0 rfl (lv_at hl 0 rfl) ?_
  refine va_get hx hb hT i_Ring hown hK hP 0 rfl rfl 3 (Nat.le_of_ble_eq_true rfl) (hT _ k_38) (fun _ h => h) rfl d_Ring_rightOf_1 ?_
  refine lv_if_ne (tgt := 11) hx hb d_Ring_rightOf_4 (by decide) (fun c1 => ?_) (fun c1 => ?_)
  · have hf := io_f hf c1
    refine lv_iload_n hx hb d_Ring_rightOf_11 rfl (lv_at hl 1 rfl) ?_
    refine lv_iconst (v := 3) hx hb d_Ring_rightOf_12 (by decide) ?_
    refine lv_aload_n hx hb d_Ring_rightOf_13 rfl (lv_at hl 0 rfl) ?_
    refine va_get hx hb hT i_Ring hown hK hP 0 rfl rfl 3 (Nat.le_of_ble_eq_true rfl) (hT _ k_38) (fun _ h => h) rfl d_Ring_rightOf_14 ?_
    refine lv_imul hx hb d_Ring_rightOf_17 ?_
    refine lv_iadd hx hb d_Ring_rightOf_18 ?_
    refine lv_aload_n hx hb d_Ring_rightOf_19 rfl (lv_at hl 0 rfl) ?_
    refine va_get hx hb hT i_Ring hown hK hP 0 rfl rfl 2 (Nat.le_of_ble_eq_true rfl) (hT _ k_35) (fun _ h => h) rfl d_Ring_rightOf_20 ?_
    refine lv_iconst (v := 1) hx hb d_Ring_rightOf_23 (by decide) ?_
    refine x_iald hx hb hK hP 1 0 rfl rfl (j := 1) (by decide +kernel) (by unfold vp_in; decide +kernel) d_Ring_rightOf_24 ?_
    refine lv_isub hx hb d_Ring_rightOf_25 ?_
    refine lv_aload_n hx hb d_Ring_rightOf_26 rfl (lv_at hl 0 rfl) ?_
    refine va_get hx hb hT i_Ring hown hK hP 0 rfl rfl 3 (Nat.le_of_ble_eq_true rfl) (hT _ k_38) (fun _ h => h) rfl d_Ring_rightOf_27 ?_
    refine x_irem hx hb d_Ring_rightOf_30 c1 ?_
    have hq := Option.some.inj hf
    subst hq
    exact hret _ _ _ _ _ d_Ring_rightOf_31 rfl rfl hP hD hS
  · have hf := io_t hf c1
    refine lv_iconst (v := 0) hx hb d_Ring_rightOf_7 (by decide) ?_
    refine lv_goto (tgt := 31) hx hb d_Ring_rightOf_8 (by decide) ?_
    have hq := Option.some.inj hf
    subst hq
    exact hret _ _ _ _ _ d_Ring_rightOf_31 rfl rfl hP hD hS
abbrev w_Ring_handOn (cI cJ cC : ClassId) (a_h a_h_kinds a_h_sweets a_h_settings a_h_heaps : Nat) (p_h_children : Int32) (p_h_strokes : Int32) (p_h_gave : Int32) (p_h_threw : Int32) (p_h_kinds : (Nat → Int32)) (p_h_sweets : (Nat → Int32)) (p_h_settings : (Nat → Int32)) (p_h_heaps : (Nat → Int32)) : va_W := [(a_h, .inr (1, [.ref a_h_kinds, .ref a_h_sweets, .ref a_h_settings, .int p_h_children, .int p_h_strokes, .int p_h_gave, .int p_h_threw, .ref a_h_heaps])), (a_h_kinds, .inl (cI, (8, .inl p_h_kinds))), (a_h_sweets, .inl (cI, (8, .inl p_h_sweets))), (a_h_settings, .inl (cI, (3, .inl p_h_settings))), (a_h_heaps, .inl (cI, (8, .inl p_h_heaps)))]
theorem d_Ring_handOn_0 : decode b_Ring_handOn 0 = .ok (.aload_n 0, 1) := by decide +kernel
theorem d_Ring_handOn_1 : decode b_Ring_handOn 1 = .ok (.getfield 15, 3) := by decide +kernel
theorem d_Ring_handOn_4 : decode b_Ring_handOn 4 = .ok (.iconst 0, 1) := by decide +kernel
theorem d_Ring_handOn_5 : decode b_Ring_handOn 5 = .ok (.aload_n 0, 1) := by decide +kernel
theorem d_Ring_handOn_6 : decode b_Ring_handOn 6 = .ok (.getfield 34, 3) := by decide +kernel
theorem d_Ring_handOn_9 : decode b_Ring_handOn 9 = .ok (.iconst 0, 1) := by decide +kernel
theorem d_Ring_handOn_10 : decode b_Ring_handOn 10 = .ok (.bipush 8, 2) := by decide +kernel
theorem d_Ring_handOn_12 : decode b_Ring_handOn 12 = .ok (.invokestatic 37, 3) := by decide +kernel
theorem d_Ring_handOn_15 : decode b_Ring_handOn 15 = .ok (.iconst 0, 1) := by decide +kernel
theorem d_Ring_handOn_16 : decode b_Ring_handOn 16 = .ok (.istore_n 1, 1) := by decide +kernel
theorem d_Ring_handOn_17 : decode b_Ring_handOn 17 = .ok (.iload_n 1, 1) := by decide +kernel
theorem d_Ring_handOn_18 : decode b_Ring_handOn 18 = .ok (.aload_n 0, 1) := by decide +kernel
theorem d_Ring_handOn_19 : decode b_Ring_handOn 19 = .ok (.getfield 21, 3) := by decide +kernel
theorem d_Ring_handOn_22 : decode b_Ring_handOn 22 = .ok (.if_icmp .ge 73, 3) := by decide +kernel
theorem d_Ring_handOn_25 : decode b_Ring_handOn 25 = .ok (.aload_n 0, 1) := by decide +kernel
theorem d_Ring_handOn_26 : decode b_Ring_handOn 26 = .ok (.iload_n 1, 1) := by decide +kernel
theorem d_Ring_handOn_27 : decode b_Ring_handOn 27 = .ok (.invokevirtual 51, 3) := by decide +kernel
theorem d_Ring_handOn_30 : decode b_Ring_handOn 30 = .ok (.istore_n 2, 1) := by decide +kernel
theorem d_Ring_handOn_31 : decode b_Ring_handOn 31 = .ok (.aload_n 0, 1) := by decide +kernel
theorem d_Ring_handOn_32 : decode b_Ring_handOn 32 = .ok (.getfield 34, 3) := by decide +kernel
theorem d_Ring_handOn_35 : decode b_Ring_handOn 35 = .ok (.iload_n 1, 1) := by decide +kernel
theorem d_Ring_handOn_36 : decode b_Ring_handOn 36 = .ok (.dup2, 1) := by decide +kernel
theorem d_Ring_handOn_37 : decode b_Ring_handOn 37 = .ok (.iaload, 1) := by decide +kernel
theorem d_Ring_handOn_38 : decode b_Ring_handOn 38 = .ok (.iload_n 2, 1) := by decide +kernel
theorem d_Ring_handOn_39 : decode b_Ring_handOn 39 = .ok (.isub, 1) := by decide +kernel
theorem d_Ring_handOn_40 : decode b_Ring_handOn 40 = .ok (.iastore, 1) := by decide +kernel
theorem d_Ring_handOn_41 : decode b_Ring_handOn 41 = .ok (.aload_n 0, 1) := by decide +kernel
theorem d_Ring_handOn_42 : decode b_Ring_handOn 42 = .ok (.getfield 34, 3) := by decide +kernel
theorem d_Ring_handOn_45 : decode b_Ring_handOn 45 = .ok (.aload_n 0, 1) := by decide +kernel
theorem d_Ring_handOn_46 : decode b_Ring_handOn 46 = .ok (.iload_n 1, 1) := by decide +kernel
theorem d_Ring_handOn_47 : decode b_Ring_handOn 47 = .ok (.invokevirtual 47, 3) := by decide +kernel
theorem d_Ring_handOn_50 : decode b_Ring_handOn 50 = .ok (.dup2, 1) := by decide +kernel
theorem d_Ring_handOn_51 : decode b_Ring_handOn 51 = .ok (.iaload, 1) := by decide +kernel
theorem d_Ring_handOn_52 : decode b_Ring_handOn 52 = .ok (.iload_n 2, 1) := by decide +kernel
theorem d_Ring_handOn_53 : decode b_Ring_handOn 53 = .ok (.iadd, 1) := by decide +kernel
theorem d_Ring_handOn_54 : decode b_Ring_handOn 54 = .ok (.iastore, 1) := by decide +kernel
theorem d_Ring_handOn_55 : decode b_Ring_handOn 55 = .ok (.aload_n 0, 1) := by decide +kernel
theorem d_Ring_handOn_56 : decode b_Ring_handOn 56 = .ok (.getfield 9, 3) := by decide +kernel
theorem d_Ring_handOn_59 : decode b_Ring_handOn 59 = .ok (.iload_n 1, 1) := by decide +kernel
theorem d_Ring_handOn_60 : decode b_Ring_handOn 60 = .ok (.iaload, 1) := by decide +kernel
theorem d_Ring_handOn_61 : decode b_Ring_handOn 61 = .ok (.iconst 1, 1) := by decide +kernel
theorem d_Ring_handOn_62 : decode b_Ring_handOn 62 = .ok (.if_icmp .ne 27, 3) := by decide +kernel
theorem d_Ring_handOn_65 : decode b_Ring_handOn 65 = .ok (.aload_n 0, 1) := by decide +kernel
theorem d_Ring_handOn_66 : decode b_Ring_handOn 66 = .ok (.getfield 34, 3) := by decide +kernel
theorem d_Ring_handOn_69 : decode b_Ring_handOn 69 = .ok (.iload_n 1, 1) := by decide +kernel
theorem d_Ring_handOn_70 : decode b_Ring_handOn 70 = .ok (.dup2, 1) := by decide +kernel
theorem d_Ring_handOn_71 : decode b_Ring_handOn 71 = .ok (.iaload, 1) := by decide +kernel
theorem d_Ring_handOn_72 : decode b_Ring_handOn 72 = .ok (.iload_n 2, 1) := by decide +kernel
theorem d_Ring_handOn_73 : decode b_Ring_handOn 73 = .ok (.isub, 1) := by decide +kernel
theorem d_Ring_handOn_74 : decode b_Ring_handOn 74 = .ok (.iastore, 1) := by decide +kernel
theorem d_Ring_handOn_75 : decode b_Ring_handOn 75 = .ok (.aload_n 0, 1) := by decide +kernel
theorem d_Ring_handOn_76 : decode b_Ring_handOn 76 = .ok (.getfield 34, 3) := by decide +kernel
theorem d_Ring_handOn_79 : decode b_Ring_handOn 79 = .ok (.aload_n 0, 1) := by decide +kernel
theorem d_Ring_handOn_80 : decode b_Ring_handOn 80 = .ok (.iload_n 1, 1) := by decide +kernel
theorem d_Ring_handOn_81 : decode b_Ring_handOn 81 = .ok (.invokevirtual 54, 3) := by decide +kernel
theorem d_Ring_handOn_84 : decode b_Ring_handOn 84 = .ok (.dup2, 1) := by decide +kernel
theorem d_Ring_handOn_85 : decode b_Ring_handOn 85 = .ok (.iaload, 1) := by decide +kernel
theorem d_Ring_handOn_86 : decode b_Ring_handOn 86 = .ok (.iload_n 2, 1) := by decide +kernel
theorem d_Ring_handOn_87 : decode b_Ring_handOn 87 = .ok (.iadd, 1) := by decide +kernel
theorem d_Ring_handOn_88 : decode b_Ring_handOn 88 = .ok (.iastore, 1) := by decide +kernel
theorem d_Ring_handOn_89 : decode b_Ring_handOn 89 = .ok (.iinc 1 1, 3) := by decide +kernel
theorem d_Ring_handOn_92 : decode b_Ring_handOn 92 = .ok (.goto (-75), 3) := by decide +kernel
theorem d_Ring_handOn_95 : decode b_Ring_handOn 95 = .ok (.iconst 0, 1) := by decide +kernel
theorem d_Ring_handOn_96 : decode b_Ring_handOn 96 = .ok (.istore_n 1, 1) := by decide +kernel
theorem d_Ring_handOn_97 : decode b_Ring_handOn 97 = .ok (.iload_n 1, 1) := by decide +kernel
theorem d_Ring_handOn_98 : decode b_Ring_handOn 98 = .ok (.aload_n 0, 1) := by decide +kernel
theorem d_Ring_handOn_99 : decode b_Ring_handOn 99 = .ok (.getfield 21, 3) := by decide +kernel
theorem d_Ring_handOn_102 : decode b_Ring_handOn 102 = .ok (.if_icmp .ge 27, 3) := by decide +kernel
theorem d_Ring_handOn_105 : decode b_Ring_handOn 105 = .ok (.aload_n 0, 1) := by decide +kernel
theorem d_Ring_handOn_106 : decode b_Ring_handOn 106 = .ok (.getfield 15, 3) := by decide +kernel
theorem d_Ring_handOn_109 : decode b_Ring_handOn 109 = .ok (.iload_n 1, 1) := by decide +kernel
theorem d_Ring_handOn_110 : decode b_Ring_handOn 110 = .ok (.aload_n 0, 1) := by decide +kernel
theorem d_Ring_handOn_111 : decode b_Ring_handOn 111 = .ok (.getfield 34, 3) := by decide +kernel
theorem d_Ring_handOn_114 : decode b_Ring_handOn 114 = .ok (.iload_n 1, 1) := by decide +kernel
theorem d_Ring_handOn_115 : decode b_Ring_handOn 115 = .ok (.iaload, 1) := by decide +kernel
theorem d_Ring_handOn_116 : decode b_Ring_handOn 116 = .ok (.sipush 999, 3) := by decide +kernel
theorem d_Ring_handOn_119 : decode b_Ring_handOn 119 = .ok (.invokestatic 68, 3) := by decide +kernel
theorem d_Ring_handOn_122 : decode b_Ring_handOn 122 = .ok (.iastore, 1) := by decide +kernel
theorem d_Ring_handOn_123 : decode b_Ring_handOn 123 = .ok (.iinc 1 1, 3) := by decide +kernel
theorem d_Ring_handOn_126 : decode b_Ring_handOn 126 = .ok (.goto (-29), 3) := by decide +kernel
theorem d_Ring_handOn_129 : decode b_Ring_handOn 129 = .ok (.return_, 1) := by decide +kernel
set_option maxHeartbeats 4000000 in
set_option maxRecDepth 100000 in
theorem c_Ring_handOn {l : Launch} {D : va_G} {cI cJ cC : ClassId} (a_h a_h_kinds a_h_sweets a_h_settings a_h_heaps : Nat) {z_h : RS} {q : RS} (hf : f_Ring_handOn z_h = some q) : xV l y_Ring_handOn b_Ring_handOn 3 2 45 D (tyK cI cJ cC) xE0 [.ref a_h] (w_Ring_handOn cI cJ cC a_h a_h_kinds a_h_sweets a_h_settings a_h_heaps (r_children z_h) (r_strokes z_h) (r_gave z_h) (r_threw z_h) (r_kinds z_h) (r_sweets z_h) (r_settings z_h) (r_heaps z_h)) (w_Ring_handOn cI cJ cC a_h a_h_kinds a_h_sweets a_h_settings a_h_heaps (r_children q) (r_strokes q) (r_gave q) (r_threw q) (r_kinds q) (r_sweets q) (r_settings q) (r_heaps q)) := by
  refine xV_of (by decide) (Nat.le_of_ble_eq_true rfl) ?_
  intro p e s m args below meth c A Q hx hb hml hown hT hA hP hD hK hS hE hret ls hl
  have hown : s.vm.findClass R_Ring = some m.cls := hown
  have hl : lv_has ls 3 [(0, .ref a_h)] := hl
  unfold f_Ring_handOn at hf
  have L17 : ∀ k : RS → Option (RS), (∀ (z_h : RS) (H : Heap) (locs : List Loc) (ls : Array Slot), k z_h = some q → va_P D classes (w_Ring_handOn cI cJ cC a_h a_h_kinds a_h_sweets a_h_settings a_h_heaps (r_children z_h) (r_strokes z_h) (r_gave z_h) (r_threw z_h) (r_kinds z_h) (r_sweets z_h) (r_settings z_h) (r_heaps z_h)) H → va_D A (w_Ring_handOn cI cJ cC a_h a_h_kinds a_h_sweets a_h_settings a_h_heaps (r_children z_h) (r_strokes z_h) (r_gave z_h) (r_threw z_h) (r_kinds z_h) (r_sweets z_h) (r_settings z_h) (r_heaps z_h)) → va_S A s.heap H locs → lv_has ls 3 [(0, .ref a_h)] → W p l e (xRm 2 45) s m args below meth c H locs 0 0 Q (F0 m 95 ls [])) → ∀ (n : Nat) (z_h : RS) (x1 : Int32) (H : Heap) (locs : List Loc) (ls : Array Slot), f_Ring_handOn_L17 k n z_h x1 = some q → va_P D classes (w_Ring_handOn cI cJ cC a_h a_h_kinds a_h_sweets a_h_settings a_h_heaps (r_children z_h) (r_strokes z_h) (r_gave z_h) (r_threw z_h) (r_kinds z_h) (r_sweets z_h) (r_settings z_h) (r_heaps z_h)) H → va_D A (w_Ring_handOn cI cJ cC a_h a_h_kinds a_h_sweets a_h_settings a_h_heaps (r_children z_h) (r_strokes z_h) (r_gave z_h) (r_threw z_h) (r_kinds z_h) (r_sweets z_h) (r_settings z_h) (r_heaps z_h)) → va_S A s.heap H locs → lv_has ls 3 [(0, .ref a_h), (1, .int x1)] → W p l e (xRm 2 45) s m args below meth c H locs 0 0 Q (F0 m 17 ls []) := by
    intro k hk n
    induction n with
    | zero => intro z_h x1 H locs ls hf hP hD hS hl; exact nomatch (show (none : Option (RS)) = some q from hf)
    | succ n ih =>
      intro z_h x1 H locs ls hf hP hD hS hl
      refine lv_iload_n hx hb d_Ring_handOn_17 rfl (lv_at hl 1 rfl) ?_
      refine lv_aload_n hx hb d_Ring_handOn_18 rfl (lv_at hl 0 rfl) ?_
      refine va_get hx hb hT i_Ring hown hK hP 0 rfl rfl 3 (Nat.le_of_ble_eq_true rfl) (hT _ k_38) (fun _ h => h) rfl d_Ring_handOn_19 ?_
      refine lv_icmp_ge (tgt := 95) hx hb d_Ring_handOn_22 (by decide) (fun c1 => ?_) (fun c1 => ?_)
      · have hf := io_t hf c1
        exact hk z_h _ _ _ hf hP hD hS (lv_sub hl [0] rfl)
      · have hf := io_f hf c1
        refine lv_aload_n hx hb d_Ring_handOn_25 rfl (lv_at hl 0 rfl) ?_
        refine lv_iload_n hx hb d_Ring_handOn_26 rfl (lv_at hl 1 rfl) ?_
        obtain ⟨q2, hq2, hf⟩ := io_b hf
        refine xcVI (wc := (w_Ring_gift cI cJ cC a_h a_h_kinds a_h_sweets a_h_settings a_h_heaps (r_children z_h) (r_strokes z_h) (r_gave z_h) (r_threw z_h) (r_kinds z_h) (r_sweets z_h) (r_settings z_h))) (wc' := (w_Ring_gift cI cJ cC a_h a_h_kinds a_h_sweets a_h_settings a_h_heaps (r_children z_h) (r_strokes z_h) (r_gave z_h) (r_threw z_h) (r_kinds z_h) (r_sweets z_h) (r_settings z_h))) (ws' := (w_Ring_handOn cI cJ cC a_h a_h_kinds a_h_sweets a_h_settings a_h_heaps (r_children z_h) (r_strokes z_h) (r_gave z_h) (r_threw z_h) (r_kinds z_h) (r_sweets z_h) (r_settings z_h) (r_heaps z_h))) (As := [.int x1]) (rest := []) hx hb hml hown hT (c_Ring_gift (z_h := z_h) a_h a_h_kinds a_h_sweets a_h_settings a_h_heaps hq2) k_214 k_203 k_204 k_2 k_205 hd_Ring_gift ⟨Nat.le_of_ble_eq_true rfl, Nat.le_of_ble_eq_true rfl⟩ xE0_ok trivial hA hK hP hD hS [0, 1, 2, 3] [4] [1, 2, 3, 4, 0] rfl rfl rfl rfl rfl rfl rfl rfl rfl rfl hl.1 rfl (Nat.le_of_ble_eq_true rfl) ⟨Nat.zero_le _, Nat.zero_le _⟩ d_Ring_handOn_27 (fun H locs hP hD hS => ?_)
        refine lv_istore_n (lv' := [(2, .int q2), (0, .ref a_h), (1, .int x1)]) hx hb d_Ring_handOn_30 rfl hl (by decide) rfl (fun ls hl => ?_)
        refine lv_aload_n hx hb d_Ring_handOn_31 rfl (lv_at hl 1 rfl) ?_
        refine va_get hx hb hT i_Ring hown hK hP 0 rfl rfl 7 (Nat.le_of_ble_eq_true rfl) (hT _ k_49) (fun _ h => h) rfl d_Ring_handOn_32 ?_
        refine lv_iload_n hx hb d_Ring_handOn_35 rfl (lv_at hl 2 rfl) ?_
        refine lv_dup2_11 hx hb d_Ring_handOn_36 rfl rfl ?_
        obtain ⟨c3, hf⟩ := io_n hf
        refine x_iald hx hb hK hP 4 0 rfl rfl (j := x1.toNatClampNeg) rfl c3 d_Ring_handOn_37 ?_
        refine lv_iload_n hx hb d_Ring_handOn_38 rfl (lv_at hl 0 rfl) ?_
        refine lv_isub hx hb d_Ring_handOn_39 ?_
        refine x_iast hx hb hK hP hD hS 4 0 rfl rfl (j := x1.toNatClampNeg) rfl c3 d_Ring_handOn_40 (fun H locs hP hD hS => ?_)
        have hP : va_P D classes (w_Ring_handOn cI cJ cC a_h a_h_kinds a_h_sweets a_h_settings a_h_heaps (r_children z_h) (r_strokes z_h) (r_gave z_h) (r_threw z_h) (r_kinds z_h) (r_sweets z_h) (r_settings z_h) (upd (r_heaps z_h) x1.toNatClampNeg (((r_heaps z_h) x1.toNatClampNeg) - q2))) H := hP
        have hD : va_D A (w_Ring_handOn cI cJ cC a_h a_h_kinds a_h_sweets a_h_settings a_h_heaps (r_children z_h) (r_strokes z_h) (r_gave z_h) (r_threw z_h) (r_kinds z_h) (r_sweets z_h) (r_settings z_h) (upd (r_heaps z_h) x1.toNatClampNeg (((r_heaps z_h) x1.toNatClampNeg) - q2))) := hD
        refine lv_aload_n hx hb d_Ring_handOn_41 rfl (lv_at hl 1 rfl) ?_
        refine va_get hx hb hT i_Ring hown hK hP 0 rfl rfl 7 (Nat.le_of_ble_eq_true rfl) (hT _ k_49) (fun _ h => h) rfl d_Ring_handOn_42 ?_
        refine lv_aload_n hx hb d_Ring_handOn_45 rfl (lv_at hl 1 rfl) ?_
        refine lv_iload_n hx hb d_Ring_handOn_46 rfl (lv_at hl 2 rfl) ?_
        obtain ⟨q4, hq4, hf⟩ := io_b hf
        refine xcVI (wc := (w_Ring_leftOf cI cJ cC a_h a_h_kinds a_h_sweets a_h_settings a_h_heaps (r_children z_h) (r_strokes z_h) (r_gave z_h) (r_threw z_h) (r_settings z_h))) (wc' := (w_Ring_leftOf cI cJ cC a_h a_h_kinds a_h_sweets a_h_settings a_h_heaps (r_children z_h) (r_strokes z_h) (r_gave z_h) (r_threw z_h) (r_settings z_h))) (ws' := (w_Ring_handOn cI cJ cC a_h a_h_kinds a_h_sweets a_h_settings a_h_heaps (r_children z_h) (r_strokes z_h) (r_gave z_h) (r_threw z_h) (r_kinds z_h) (r_sweets z_h) (r_settings z_h) (upd (r_heaps z_h) x1.toNatClampNeg (((r_heaps z_h) x1.toNatClampNeg) - q2)))) (As := [.int x1]) (rest := [.ref a_h_heaps]) hx hb hml hown hT (c_Ring_leftOf (z_h := ((r_kinds z_h), (r_sweets z_h), (r_settings z_h), (upd (r_heaps z_h) x1.toNatClampNeg (((r_heaps z_h) x1.toNatClampNeg) - q2)), (r_children z_h), (r_strokes z_h), (r_gave z_h), (r_threw z_h))) a_h a_h_kinds a_h_sweets a_h_settings a_h_heaps hq4) k_206 k_207 k_208 k_2 k_209 hd_Ring_leftOf ⟨Nat.le_of_ble_eq_true rfl, Nat.le_of_ble_eq_true rfl⟩ xE0_ok trivial hA hK hP hD hS [0, 3] [1, 2, 4] [3, 0, 1, 4, 2] rfl rfl rfl rfl rfl rfl rfl rfl rfl rfl hl.1 rfl (Nat.le_of_ble_eq_true rfl) ⟨Nat.zero_le _, Nat.zero_le _⟩ d_Ring_handOn_47 (fun H locs hP hD hS => ?_)
        refine lv_dup2_11 hx hb d_Ring_handOn_50 rfl rfl ?_
        obtain ⟨c5, hf⟩ := io_n hf
        refine x_iald hx hb hK hP 4 0 rfl rfl (j := q4.toNatClampNeg) rfl c5 d_Ring_handOn_51 ?_
        refine lv_iload_n hx hb d_Ring_handOn_52 rfl (lv_at hl 0 rfl) ?_
        refine lv_iadd hx hb d_Ring_handOn_53 ?_
        refine x_iast hx hb hK hP hD hS 4 0 rfl rfl (j := q4.toNatClampNeg) rfl c5 d_Ring_handOn_54 (fun H locs hP hD hS => ?_)
        have hP : va_P D classes (w_Ring_handOn cI cJ cC a_h a_h_kinds a_h_sweets a_h_settings a_h_heaps (r_children z_h) (r_strokes z_h) (r_gave z_h) (r_threw z_h) (r_kinds z_h) (r_sweets z_h) (r_settings z_h) (upd (upd (r_heaps z_h) x1.toNatClampNeg (((r_heaps z_h) x1.toNatClampNeg) - q2)) q4.toNatClampNeg (((upd (r_heaps z_h) x1.toNatClampNeg (((r_heaps z_h) x1.toNatClampNeg) - q2)) q4.toNatClampNeg) + q2))) H := hP
        have hD : va_D A (w_Ring_handOn cI cJ cC a_h a_h_kinds a_h_sweets a_h_settings a_h_heaps (r_children z_h) (r_strokes z_h) (r_gave z_h) (r_threw z_h) (r_kinds z_h) (r_sweets z_h) (r_settings z_h) (upd (upd (r_heaps z_h) x1.toNatClampNeg (((r_heaps z_h) x1.toNatClampNeg) - q2)) q4.toNatClampNeg (((upd (r_heaps z_h) x1.toNatClampNeg (((r_heaps z_h) x1.toNatClampNeg) - q2)) q4.toNatClampNeg) + q2))) := hD
        refine lv_aload_n hx hb d_Ring_handOn_55 rfl (lv_at hl 1 rfl) ?_
        refine va_get hx hb hT i_Ring hown hK hP 0 rfl rfl 0 (Nat.le_of_ble_eq_true rfl) (hT _ k_29) (fun _ h => h) rfl d_Ring_handOn_56 ?_
        refine lv_iload_n hx hb d_Ring_handOn_59 rfl (lv_at hl 2 rfl) ?_
        refine x_iald hx hb hK hP 1 0 rfl rfl (j := x1.toNatClampNeg) rfl c3 d_Ring_handOn_60 ?_
        refine lv_iconst (v := 1) hx hb d_Ring_handOn_61 (by decide) ?_
        refine lv_icmp_ne (tgt := 89) hx hb d_Ring_handOn_62 (by decide) (fun c6 => ?_) (fun c6 => ?_)
        · have hf := io_f hf c6
          refine lv_iinc (v := (x1 + 1)) (lv' := [(1, .int (x1 + 1)), (2, .int q2), (0, .ref a_h)]) hx hb d_Ring_handOn_89 hl (k := 2) rfl (by rfl) (by decide) rfl (fun ls hl => ?_)
          refine lv_goto (tgt := 17) hx hb d_Ring_handOn_92 (by decide) ?_
          exact ih ((r_kinds z_h), (r_sweets z_h), (r_settings z_h), (upd (upd (r_heaps z_h) x1.toNatClampNeg (((r_heaps z_h) x1.toNatClampNeg) - q2)) q4.toNatClampNeg (((upd (r_heaps z_h) x1.toNatClampNeg (((r_heaps z_h) x1.toNatClampNeg) - q2)) q4.toNatClampNeg) + q2)), (r_children z_h), (r_strokes z_h), (r_gave z_h), (r_threw z_h)) (x1 + 1) _ _ _ hf hP hD hS (lv_sub hl [2, 0] rfl)
        · have hf := io_t hf c6
          refine lv_aload_n hx hb d_Ring_handOn_65 rfl (lv_at hl 1 rfl) ?_
          refine va_get hx hb hT i_Ring hown hK hP 0 rfl rfl 7 (Nat.le_of_ble_eq_true rfl) (hT _ k_49) (fun _ h => h) rfl d_Ring_handOn_66 ?_
          refine lv_iload_n hx hb d_Ring_handOn_69 rfl (lv_at hl 2 rfl) ?_
          refine lv_dup2_11 hx hb d_Ring_handOn_70 rfl rfl ?_
          refine x_iald hx hb hK hP 4 0 rfl rfl (j := x1.toNatClampNeg) rfl c3 d_Ring_handOn_71 ?_
          refine lv_iload_n hx hb d_Ring_handOn_72 rfl (lv_at hl 0 rfl) ?_
          refine lv_isub hx hb d_Ring_handOn_73 ?_
          refine x_iast hx hb hK hP hD hS 4 0 rfl rfl (j := x1.toNatClampNeg) rfl c3 d_Ring_handOn_74 (fun H locs hP hD hS => ?_)
          have hP : va_P D classes (w_Ring_handOn cI cJ cC a_h a_h_kinds a_h_sweets a_h_settings a_h_heaps (r_children z_h) (r_strokes z_h) (r_gave z_h) (r_threw z_h) (r_kinds z_h) (r_sweets z_h) (r_settings z_h) (upd (upd (upd (r_heaps z_h) x1.toNatClampNeg (((r_heaps z_h) x1.toNatClampNeg) - q2)) q4.toNatClampNeg (((upd (r_heaps z_h) x1.toNatClampNeg (((r_heaps z_h) x1.toNatClampNeg) - q2)) q4.toNatClampNeg) + q2)) x1.toNatClampNeg (((upd (upd (r_heaps z_h) x1.toNatClampNeg (((r_heaps z_h) x1.toNatClampNeg) - q2)) q4.toNatClampNeg (((upd (r_heaps z_h) x1.toNatClampNeg (((r_heaps z_h) x1.toNatClampNeg) - q2)) q4.toNatClampNeg) + q2)) x1.toNatClampNeg) - q2))) H := hP
          have hD : va_D A (w_Ring_handOn cI cJ cC a_h a_h_kinds a_h_sweets a_h_settings a_h_heaps (r_children z_h) (r_strokes z_h) (r_gave z_h) (r_threw z_h) (r_kinds z_h) (r_sweets z_h) (r_settings z_h) (upd (upd (upd (r_heaps z_h) x1.toNatClampNeg (((r_heaps z_h) x1.toNatClampNeg) - q2)) q4.toNatClampNeg (((upd (r_heaps z_h) x1.toNatClampNeg (((r_heaps z_h) x1.toNatClampNeg) - q2)) q4.toNatClampNeg) + q2)) x1.toNatClampNeg (((upd (upd (r_heaps z_h) x1.toNatClampNeg (((r_heaps z_h) x1.toNatClampNeg) - q2)) q4.toNatClampNeg (((upd (r_heaps z_h) x1.toNatClampNeg (((r_heaps z_h) x1.toNatClampNeg) - q2)) q4.toNatClampNeg) + q2)) x1.toNatClampNeg) - q2))) := hD
          refine lv_aload_n hx hb d_Ring_handOn_75 rfl (lv_at hl 1 rfl) ?_
          refine va_get hx hb hT i_Ring hown hK hP 0 rfl rfl 7 (Nat.le_of_ble_eq_true rfl) (hT _ k_49) (fun _ h => h) rfl d_Ring_handOn_76 ?_
          refine lv_aload_n hx hb d_Ring_handOn_79 rfl (lv_at hl 1 rfl) ?_
          refine lv_iload_n hx hb d_Ring_handOn_80 rfl (lv_at hl 2 rfl) ?_
          obtain ⟨q7, hq7, hf⟩ := io_b hf
          refine xcVI (wc := (w_Ring_rightOf cI cJ cC a_h a_h_kinds a_h_sweets a_h_settings a_h_heaps (r_children z_h) (r_strokes z_h) (r_gave z_h) (r_threw z_h) (r_settings z_h))) (wc' := (w_Ring_rightOf cI cJ cC a_h a_h_kinds a_h_sweets a_h_settings a_h_heaps (r_children z_h) (r_strokes z_h) (r_gave z_h) (r_threw z_h) (r_settings z_h))) (ws' := (w_Ring_handOn cI cJ cC a_h a_h_kinds a_h_sweets a_h_settings a_h_heaps (r_children z_h) (r_strokes z_h) (r_gave z_h) (r_threw z_h) (r_kinds z_h) (r_sweets z_h) (r_settings z_h) (upd (upd (upd (r_heaps z_h) x1.toNatClampNeg (((r_heaps z_h) x1.toNatClampNeg) - q2)) q4.toNatClampNeg (((upd (r_heaps z_h) x1.toNatClampNeg (((r_heaps z_h) x1.toNatClampNeg) - q2)) q4.toNatClampNeg) + q2)) x1.toNatClampNeg (((upd (upd (r_heaps z_h) x1.toNatClampNeg (((r_heaps z_h) x1.toNatClampNeg) - q2)) q4.toNatClampNeg (((upd (r_heaps z_h) x1.toNatClampNeg (((r_heaps z_h) x1.toNatClampNeg) - q2)) q4.toNatClampNeg) + q2)) x1.toNatClampNeg) - q2)))) (As := [.int x1]) (rest := [.ref a_h_heaps]) hx hb hml hown hT (c_Ring_rightOf (z_h := ((r_kinds z_h), (r_sweets z_h), (r_settings z_h), (upd (upd (upd (r_heaps z_h) x1.toNatClampNeg (((r_heaps z_h) x1.toNatClampNeg) - q2)) q4.toNatClampNeg (((upd (r_heaps z_h) x1.toNatClampNeg (((r_heaps z_h) x1.toNatClampNeg) - q2)) q4.toNatClampNeg) + q2)) x1.toNatClampNeg (((upd (upd (r_heaps z_h) x1.toNatClampNeg (((r_heaps z_h) x1.toNatClampNeg) - q2)) q4.toNatClampNeg (((upd (r_heaps z_h) x1.toNatClampNeg (((r_heaps z_h) x1.toNatClampNeg) - q2)) q4.toNatClampNeg) + q2)) x1.toNatClampNeg) - q2)), (r_children z_h), (r_strokes z_h), (r_gave z_h), (r_threw z_h))) a_h a_h_kinds a_h_sweets a_h_settings a_h_heaps hq7) k_230 k_231 k_232 k_2 k_233 hd_Ring_rightOf ⟨Nat.le_of_ble_eq_true rfl, Nat.le_of_ble_eq_true rfl⟩ xE0_ok trivial hA hK hP hD hS [0, 3] [1, 2, 4] [3, 0, 1, 4, 2] rfl rfl rfl rfl rfl rfl rfl rfl rfl rfl hl.1 rfl (Nat.le_of_ble_eq_true rfl) ⟨Nat.zero_le _, Nat.zero_le _⟩ d_Ring_handOn_81 (fun H locs hP hD hS => ?_)
          refine lv_dup2_11 hx hb d_Ring_handOn_84 rfl rfl ?_
          obtain ⟨c8, hf⟩ := io_n hf
          refine x_iald hx hb hK hP 4 0 rfl rfl (j := q7.toNatClampNeg) rfl c8 d_Ring_handOn_85 ?_
          refine lv_iload_n hx hb d_Ring_handOn_86 rfl (lv_at hl 0 rfl) ?_
          refine lv_iadd hx hb d_Ring_handOn_87 ?_
          refine x_iast hx hb hK hP hD hS 4 0 rfl rfl (j := q7.toNatClampNeg) rfl c8 d_Ring_handOn_88 (fun H locs hP hD hS => ?_)
          have hP : va_P D classes (w_Ring_handOn cI cJ cC a_h a_h_kinds a_h_sweets a_h_settings a_h_heaps (r_children z_h) (r_strokes z_h) (r_gave z_h) (r_threw z_h) (r_kinds z_h) (r_sweets z_h) (r_settings z_h) (upd (upd (upd (upd (r_heaps z_h) x1.toNatClampNeg (((r_heaps z_h) x1.toNatClampNeg) - q2)) q4.toNatClampNeg (((upd (r_heaps z_h) x1.toNatClampNeg (((r_heaps z_h) x1.toNatClampNeg) - q2)) q4.toNatClampNeg) + q2)) x1.toNatClampNeg (((upd (upd (r_heaps z_h) x1.toNatClampNeg (((r_heaps z_h) x1.toNatClampNeg) - q2)) q4.toNatClampNeg (((upd (r_heaps z_h) x1.toNatClampNeg (((r_heaps z_h) x1.toNatClampNeg) - q2)) q4.toNatClampNeg) + q2)) x1.toNatClampNeg) - q2)) q7.toNatClampNeg (((upd (upd (upd (r_heaps z_h) x1.toNatClampNeg (((r_heaps z_h) x1.toNatClampNeg) - q2)) q4.toNatClampNeg (((upd (r_heaps z_h) x1.toNatClampNeg (((r_heaps z_h) x1.toNatClampNeg) - q2)) q4.toNatClampNeg) + q2)) x1.toNatClampNeg (((upd (upd (r_heaps z_h) x1.toNatClampNeg (((r_heaps z_h) x1.toNatClampNeg) - q2)) q4.toNatClampNeg (((upd (r_heaps z_h) x1.toNatClampNeg (((r_heaps z_h) x1.toNatClampNeg) - q2)) q4.toNatClampNeg) + q2)) x1.toNatClampNeg) - q2)) q7.toNatClampNeg) + q2))) H := hP
          have hD : va_D A (w_Ring_handOn cI cJ cC a_h a_h_kinds a_h_sweets a_h_settings a_h_heaps (r_children z_h) (r_strokes z_h) (r_gave z_h) (r_threw z_h) (r_kinds z_h) (r_sweets z_h) (r_settings z_h) (upd (upd (upd (upd (r_heaps z_h) x1.toNatClampNeg (((r_heaps z_h) x1.toNatClampNeg) - q2)) q4.toNatClampNeg (((upd (r_heaps z_h) x1.toNatClampNeg (((r_heaps z_h) x1.toNatClampNeg) - q2)) q4.toNatClampNeg) + q2)) x1.toNatClampNeg (((upd (upd (r_heaps z_h) x1.toNatClampNeg (((r_heaps z_h) x1.toNatClampNeg) - q2)) q4.toNatClampNeg (((upd (r_heaps z_h) x1.toNatClampNeg (((r_heaps z_h) x1.toNatClampNeg) - q2)) q4.toNatClampNeg) + q2)) x1.toNatClampNeg) - q2)) q7.toNatClampNeg (((upd (upd (upd (r_heaps z_h) x1.toNatClampNeg (((r_heaps z_h) x1.toNatClampNeg) - q2)) q4.toNatClampNeg (((upd (r_heaps z_h) x1.toNatClampNeg (((r_heaps z_h) x1.toNatClampNeg) - q2)) q4.toNatClampNeg) + q2)) x1.toNatClampNeg (((upd (upd (r_heaps z_h) x1.toNatClampNeg (((r_heaps z_h) x1.toNatClampNeg) - q2)) q4.toNatClampNeg (((upd (r_heaps z_h) x1.toNatClampNeg (((r_heaps z_h) x1.toNatClampNeg) - q2)) q4.toNatClampNeg) + q2)) x1.toNatClampNeg) - q2)) q7.toNatClampNeg) + q2))) := hD
          refine lv_iinc (v := (x1 + 1)) (lv' := [(1, .int (x1 + 1)), (2, .int q2), (0, .ref a_h)]) hx hb d_Ring_handOn_89 hl (k := 2) rfl (by rfl) (by decide) rfl (fun ls hl => ?_)
          refine lv_goto (tgt := 17) hx hb d_Ring_handOn_92 (by decide) ?_
          exact ih ((r_kinds z_h), (r_sweets z_h), (r_settings z_h), (upd (upd (upd (upd (r_heaps z_h) x1.toNatClampNeg (((r_heaps z_h) x1.toNatClampNeg) - q2)) q4.toNatClampNeg (((upd (r_heaps z_h) x1.toNatClampNeg (((r_heaps z_h) x1.toNatClampNeg) - q2)) q4.toNatClampNeg) + q2)) x1.toNatClampNeg (((upd (upd (r_heaps z_h) x1.toNatClampNeg (((r_heaps z_h) x1.toNatClampNeg) - q2)) q4.toNatClampNeg (((upd (r_heaps z_h) x1.toNatClampNeg (((r_heaps z_h) x1.toNatClampNeg) - q2)) q4.toNatClampNeg) + q2)) x1.toNatClampNeg) - q2)) q7.toNatClampNeg (((upd (upd (upd (r_heaps z_h) x1.toNatClampNeg (((r_heaps z_h) x1.toNatClampNeg) - q2)) q4.toNatClampNeg (((upd (r_heaps z_h) x1.toNatClampNeg (((r_heaps z_h) x1.toNatClampNeg) - q2)) q4.toNatClampNeg) + q2)) x1.toNatClampNeg (((upd (upd (r_heaps z_h) x1.toNatClampNeg (((r_heaps z_h) x1.toNatClampNeg) - q2)) q4.toNatClampNeg (((upd (r_heaps z_h) x1.toNatClampNeg (((r_heaps z_h) x1.toNatClampNeg) - q2)) q4.toNatClampNeg) + q2)) x1.toNatClampNeg) - q2)) q7.toNatClampNeg) + q2)), (r_children z_h), (r_strokes z_h), (r_gave z_h), (r_threw z_h)) (x1 + 1) _ _ _ hf hP hD hS (lv_sub hl [2, 0] rfl)
  have L97 : ∀ (n : Nat) (z_h : RS) (x1 : Int32) (H : Heap) (locs : List Loc) (ls : Array Slot), f_Ring_handOn_L97 n z_h x1 = some q → va_P D classes (w_Ring_handOn cI cJ cC a_h a_h_kinds a_h_sweets a_h_settings a_h_heaps (r_children z_h) (r_strokes z_h) (r_gave z_h) (r_threw z_h) (r_kinds z_h) (r_sweets z_h) (r_settings z_h) (r_heaps z_h)) H → va_D A (w_Ring_handOn cI cJ cC a_h a_h_kinds a_h_sweets a_h_settings a_h_heaps (r_children z_h) (r_strokes z_h) (r_gave z_h) (r_threw z_h) (r_kinds z_h) (r_sweets z_h) (r_settings z_h) (r_heaps z_h)) → va_S A s.heap H locs → lv_has ls 3 [(0, .ref a_h), (1, .int x1)] → W p l e (xRm 2 45) s m args below meth c H locs 0 0 Q (F0 m 97 ls []) := by
    intro n
    induction n with
    | zero => intro z_h x1 H locs ls hf hP hD hS hl; exact nomatch (show (none : Option (RS)) = some q from hf)
    | succ n ih =>
      intro z_h x1 H locs ls hf hP hD hS hl
      refine lv_iload_n hx hb d_Ring_handOn_97 rfl (lv_at hl 1 rfl) ?_
      refine lv_aload_n hx hb d_Ring_handOn_98 rfl (lv_at hl 0 rfl) ?_
      refine va_get hx hb hT i_Ring hown hK hP 0 rfl rfl 3 (Nat.le_of_ble_eq_true rfl) (hT _ k_38) (fun _ h => h) rfl d_Ring_handOn_99 ?_
      refine lv_icmp_ge (tgt := 129) hx hb d_Ring_handOn_102 (by decide) (fun c10 => ?_) (fun c10 => ?_)
      · have hf := io_t hf c10
        have hq := Option.some.inj hf
        subst hq
        exact hret _ _ _ _ d_Ring_handOn_129 hP hD hS
      · have hf := io_f hf c10
        refine lv_aload_n hx hb d_Ring_handOn_105 rfl (lv_at hl 0 rfl) ?_
        refine va_get hx hb hT i_Ring hown hK hP 0 rfl rfl 1 (Nat.le_of_ble_eq_true rfl) (hT _ k_31) (fun _ h => h) rfl d_Ring_handOn_106 ?_
        refine lv_iload_n hx hb d_Ring_handOn_109 rfl (lv_at hl 1 rfl) ?_
        refine lv_aload_n hx hb d_Ring_handOn_110 rfl (lv_at hl 0 rfl) ?_
        refine va_get hx hb hT i_Ring hown hK hP 0 rfl rfl 7 (Nat.le_of_ble_eq_true rfl) (hT _ k_49) (fun _ h => h) rfl d_Ring_handOn_111 ?_
        refine lv_iload_n hx hb d_Ring_handOn_114 rfl (lv_at hl 1 rfl) ?_
        obtain ⟨c11, hf⟩ := io_n hf
        refine x_iald hx hb hK hP 4 0 rfl rfl (j := x1.toNatClampNeg) rfl c11 d_Ring_handOn_115 ?_
        refine lv_sipush (v := 999) hx hb d_Ring_handOn_116 (by decide) ?_
        refine va_mmin hx hb (hml.trans hl.1.symm) hown (hT _ k_234) (hT _ k_235) (hT _ k_10) (hT _ k_236) (Nat.le_of_ble_eq_true rfl) (Nat.le_of_ble_eq_true rfl) (Nat.zero_le _) (Nat.zero_le _) d_Ring_handOn_119 ?_
        refine x_iast hx hb hK hP hD hS 2 0 rfl rfl (j := x1.toNatClampNeg) rfl c11 d_Ring_handOn_122 (fun H locs hP hD hS => ?_)
        have hP : va_P D classes (w_Ring_handOn cI cJ cC a_h a_h_kinds a_h_sweets a_h_settings a_h_heaps (r_children z_h) (r_strokes z_h) (r_gave z_h) (r_threw z_h) (r_kinds z_h) (upd (r_sweets z_h) x1.toNatClampNeg (jmin ((r_heaps z_h) x1.toNatClampNeg) 999)) (r_settings z_h) (r_heaps z_h)) H := hP
        have hD : va_D A (w_Ring_handOn cI cJ cC a_h a_h_kinds a_h_sweets a_h_settings a_h_heaps (r_children z_h) (r_strokes z_h) (r_gave z_h) (r_threw z_h) (r_kinds z_h) (upd (r_sweets z_h) x1.toNatClampNeg (jmin ((r_heaps z_h) x1.toNatClampNeg) 999)) (r_settings z_h) (r_heaps z_h)) := hD
        refine lv_iinc (v := (x1 + 1)) (lv' := [(1, .int (x1 + 1)), (0, .ref a_h)]) hx hb d_Ring_handOn_123 hl (k := 1) rfl (by rfl) (by decide) rfl (fun ls hl => ?_)
        refine lv_goto (tgt := 97) hx hb d_Ring_handOn_126 (by decide) ?_
        exact ih ((r_kinds z_h), (upd (r_sweets z_h) x1.toNatClampNeg (jmin ((r_heaps z_h) x1.toNatClampNeg) 999)), (r_settings z_h), (r_heaps z_h), (r_children z_h), (r_strokes z_h), (r_gave z_h), (r_threw z_h)) (x1 + 1) _ _ _ hf hP hD hS (lv_sub hl [1, 0] rfl)
  refine lv_aload_n hx hb d_Ring_handOn_0 rfl (lv_at hl 0 rfl) ?_
  refine va_get hx hb hT i_Ring hown hK hP 0 rfl rfl 1 (Nat.le_of_ble_eq_true rfl) (hT _ k_31) (fun _ h => h) rfl d_Ring_handOn_1 ?_
  refine lv_iconst (v := 0) hx hb d_Ring_handOn_4 (by decide) ?_
  refine lv_aload_n hx hb d_Ring_handOn_5 rfl (lv_at hl 0 rfl) ?_
  refine va_get hx hb hT i_Ring hown hK hP 0 rfl rfl 7 (Nat.le_of_ble_eq_true rfl) (hT _ k_49) (fun _ h => h) rfl d_Ring_handOn_6 ?_
  refine lv_iconst (v := 0) hx hb d_Ring_handOn_9 (by decide) ?_
  refine lv_bipush (v := 8) hx hb d_Ring_handOn_10 (by decide) ?_
  refine x_copyi (j := 8) hx hb (hml.trans hl.1.symm) hown (hT _ k_227) (hT _ k_229) (hT _ k_228) (hT _ k_14) hK hP hD hS 2 4 0 0 rfl rfl rfl rfl rfl (by decide) (by decide) (by decide) (by decide +kernel) (by decide +kernel) (by decide +kernel) (fun _ _ => rfl) (Nat.le_of_ble_eq_true rfl) (by decide +kernel) d_Ring_handOn_12 (fun H locs hP hD hS => ?_)
  have hP : va_P D classes (w_Ring_handOn cI cJ cC a_h a_h_kinds a_h_sweets a_h_settings a_h_heaps (r_children z_h) (r_strokes z_h) (r_gave z_h) (r_threw z_h) (r_kinds z_h) (r_sweets z_h) (r_settings z_h) (va_cpy (r_sweets z_h) (r_heaps z_h) 0 0 8)) H := hP
  have hD : va_D A (w_Ring_handOn cI cJ cC a_h a_h_kinds a_h_sweets a_h_settings a_h_heaps (r_children z_h) (r_strokes z_h) (r_gave z_h) (r_threw z_h) (r_kinds z_h) (r_sweets z_h) (r_settings z_h) (va_cpy (r_sweets z_h) (r_heaps z_h) 0 0 8)) := hD
  refine lv_iconst (v := 0) hx hb d_Ring_handOn_15 (by decide) ?_
  refine lv_istore_n (lv' := [(1, .int 0), (0, .ref a_h)]) hx hb d_Ring_handOn_16 rfl hl (by decide) rfl (fun ls hl => ?_)
  refine L17 _ (fun z_h_9 H locs ls hf hP hD hS hl => ?_) FU ((r_kinds z_h), (r_sweets z_h), (r_settings z_h), (va_cpy (r_sweets z_h) (r_heaps z_h) 0 0 8), (r_children z_h), (r_strokes z_h), (r_gave z_h), (r_threw z_h)) 0 _ _ _ hf hP hD hS (lv_sub hl [1, 0] rfl)
  refine lv_iconst (v := 0) hx hb d_Ring_handOn_95 (by decide) ?_
  refine lv_istore_n (lv' := [(1, .int 0), (0, .ref a_h)]) hx hb d_Ring_handOn_96 rfl hl (by decide) rfl (fun ls hl => ?_)
  exact L97 FU z_h_9 0 _ _ _ hf hP hD hS (lv_sub hl [1, 0] rfl)
abbrev w_Ring_mend (cI cJ cC : ClassId) (a_h a_h_kinds a_h_sweets a_h_settings a_h_heaps : Nat) (p_h_children : Int32) (p_h_strokes : Int32) (p_h_gave : Int32) (p_h_threw : Int32) (p_h_kinds : (Nat → Int32)) (p_h_sweets : (Nat → Int32)) (p_h_settings : (Nat → Int32)) (p_h_heaps : (Nat → Int32)) : va_W := [(a_h, .inr (1, [.ref a_h_kinds, .ref a_h_sweets, .ref a_h_settings, .int p_h_children, .int p_h_strokes, .int p_h_gave, .int p_h_threw, .ref a_h_heaps])), (a_h_kinds, .inl (cI, (8, .inl p_h_kinds))), (a_h_sweets, .inl (cI, (8, .inl p_h_sweets))), (a_h_settings, .inl (cI, (3, .inl p_h_settings))), (a_h_heaps, .inl (cI, (8, .inl p_h_heaps)))]
theorem d_Ring_mend_0 : decode b_Ring_mend 0 = .ok (.aload_n 0, 1) := by decide +kernel
theorem d_Ring_mend_1 : decode b_Ring_mend 1 = .ok (.getfield 18, 3) := by decide +kernel
theorem d_Ring_mend_4 : decode b_Ring_mend 4 = .ok (.iconst 0, 1) := by decide +kernel
theorem d_Ring_mend_5 : decode b_Ring_mend 5 = .ok (.iaload, 1) := by decide +kernel
theorem d_Ring_mend_6 : decode b_Ring_mend 6 = .ok (.ifCond .ne 55, 3) := by decide +kernel
theorem d_Ring_mend_9 : decode b_Ring_mend 9 = .ok (.aload_n 0, 1) := by decide +kernel
theorem d_Ring_mend_10 : decode b_Ring_mend 10 = .ok (.getfield 18, 3) := by decide +kernel
theorem d_Ring_mend_13 : decode b_Ring_mend 13 = .ok (.iconst 2, 1) := by decide +kernel
theorem d_Ring_mend_14 : decode b_Ring_mend 14 = .ok (.iaload, 1) := by decide +kernel
theorem d_Ring_mend_15 : decode b_Ring_mend 15 = .ok (.ifCond .le 46, 3) := by decide +kernel
theorem d_Ring_mend_18 : decode b_Ring_mend 18 = .ok (.aload_n 0, 1) := by decide +kernel
theorem d_Ring_mend_19 : decode b_Ring_mend 19 = .ok (.getfield 18, 3) := by decide +kernel
theorem d_Ring_mend_22 : decode b_Ring_mend 22 = .ok (.iconst 2, 1) := by decide +kernel
theorem d_Ring_mend_23 : decode b_Ring_mend 23 = .ok (.dup2, 1) := by decide +kernel
theorem d_Ring_mend_24 : decode b_Ring_mend 24 = .ok (.iaload, 1) := by decide +kernel
theorem d_Ring_mend_25 : decode b_Ring_mend 25 = .ok (.iconst 1, 1) := by decide +kernel
theorem d_Ring_mend_26 : decode b_Ring_mend 26 = .ok (.isub, 1) := by decide +kernel
theorem d_Ring_mend_27 : decode b_Ring_mend 27 = .ok (.iastore, 1) := by decide +kernel
theorem d_Ring_mend_28 : decode b_Ring_mend 28 = .ok (.aload_n 0, 1) := by decide +kernel
theorem d_Ring_mend_29 : decode b_Ring_mend 29 = .ok (.dup, 1) := by decide +kernel
theorem d_Ring_mend_30 : decode b_Ring_mend 30 = .ok (.getfield 28, 3) := by decide +kernel
theorem d_Ring_mend_33 : decode b_Ring_mend 33 = .ok (.iconst 1, 1) := by decide +kernel
theorem d_Ring_mend_34 : decode b_Ring_mend 34 = .ok (.iadd, 1) := by decide +kernel
theorem d_Ring_mend_35 : decode b_Ring_mend 35 = .ok (.putfield 28, 3) := by decide +kernel
theorem d_Ring_mend_38 : decode b_Ring_mend 38 = .ok (.aload_n 0, 1) := by decide +kernel
theorem d_Ring_mend_39 : decode b_Ring_mend 39 = .ok (.getfield 15, 3) := by decide +kernel
theorem d_Ring_mend_42 : decode b_Ring_mend 42 = .ok (.iload_n 1, 1) := by decide +kernel
theorem d_Ring_mend_43 : decode b_Ring_mend 43 = .ok (.aload_n 0, 1) := by decide +kernel
theorem d_Ring_mend_44 : decode b_Ring_mend 44 = .ok (.getfield 15, 3) := by decide +kernel
theorem d_Ring_mend_47 : decode b_Ring_mend 47 = .ok (.iload_n 1, 1) := by decide +kernel
theorem d_Ring_mend_48 : decode b_Ring_mend 48 = .ok (.iaload, 1) := by decide +kernel
theorem d_Ring_mend_49 : decode b_Ring_mend 49 = .ok (.iconst 1, 1) := by decide +kernel
theorem d_Ring_mend_50 : decode b_Ring_mend 50 = .ok (.iadd, 1) := by decide +kernel
theorem d_Ring_mend_51 : decode b_Ring_mend 51 = .ok (.sipush 999, 3) := by decide +kernel
theorem d_Ring_mend_54 : decode b_Ring_mend 54 = .ok (.invokestatic 68, 3) := by decide +kernel
theorem d_Ring_mend_57 : decode b_Ring_mend 57 = .ok (.iastore, 1) := by decide +kernel
theorem d_Ring_mend_58 : decode b_Ring_mend 58 = .ok (.goto 33, 3) := by decide +kernel
theorem d_Ring_mend_61 : decode b_Ring_mend 61 = .ok (.aload_n 0, 1) := by decide +kernel
theorem d_Ring_mend_62 : decode b_Ring_mend 62 = .ok (.getfield 18, 3) := by decide +kernel
theorem d_Ring_mend_65 : decode b_Ring_mend 65 = .ok (.iconst 0, 1) := by decide +kernel
theorem d_Ring_mend_66 : decode b_Ring_mend 66 = .ok (.iaload, 1) := by decide +kernel
theorem d_Ring_mend_67 : decode b_Ring_mend 67 = .ok (.iconst 1, 1) := by decide +kernel
theorem d_Ring_mend_68 : decode b_Ring_mend 68 = .ok (.if_icmp .ne 23, 3) := by decide +kernel
theorem d_Ring_mend_71 : decode b_Ring_mend 71 = .ok (.aload_n 0, 1) := by decide +kernel
theorem d_Ring_mend_72 : decode b_Ring_mend 72 = .ok (.getfield 15, 3) := by decide +kernel
theorem d_Ring_mend_75 : decode b_Ring_mend 75 = .ok (.iload_n 1, 1) := by decide +kernel
theorem d_Ring_mend_76 : decode b_Ring_mend 76 = .ok (.dup2, 1) := by decide +kernel
theorem d_Ring_mend_77 : decode b_Ring_mend 77 = .ok (.iaload, 1) := by decide +kernel
theorem d_Ring_mend_78 : decode b_Ring_mend 78 = .ok (.iconst 1, 1) := by decide +kernel
theorem d_Ring_mend_79 : decode b_Ring_mend 79 = .ok (.isub, 1) := by decide +kernel
theorem d_Ring_mend_80 : decode b_Ring_mend 80 = .ok (.iastore, 1) := by decide +kernel
theorem d_Ring_mend_81 : decode b_Ring_mend 81 = .ok (.aload_n 0, 1) := by decide +kernel
theorem d_Ring_mend_82 : decode b_Ring_mend 82 = .ok (.dup, 1) := by decide +kernel
theorem d_Ring_mend_83 : decode b_Ring_mend 83 = .ok (.getfield 31, 3) := by decide +kernel
theorem d_Ring_mend_86 : decode b_Ring_mend 86 = .ok (.iconst 1, 1) := by decide +kernel
theorem d_Ring_mend_87 : decode b_Ring_mend 87 = .ok (.iadd, 1) := by decide +kernel
theorem d_Ring_mend_88 : decode b_Ring_mend 88 = .ok (.putfield 31, 3) := by decide +kernel
theorem d_Ring_mend_91 : decode b_Ring_mend 91 = .ok (.return_, 1) := by decide +kernel
set_option maxHeartbeats 4000000 in
set_option maxRecDepth 100000 in
theorem c_Ring_mend {l : Launch} {D : va_G} {cI cJ cC : ClassId} (a_h a_h_kinds a_h_sweets a_h_settings a_h_heaps : Nat) {z_h : RS} {x1 : Int32} {q : RS} (hf : f_Ring_mend z_h x1 = some q) : xV l y_Ring_mend b_Ring_mend 2 1 21 D (tyK cI cJ cC) xE0 [.ref a_h, .int x1] (w_Ring_mend cI cJ cC a_h a_h_kinds a_h_sweets a_h_settings a_h_heaps (r_children z_h) (r_strokes z_h) (r_gave z_h) (r_threw z_h) (r_kinds z_h) (r_sweets z_h) (r_settings z_h) (r_heaps z_h)) (w_Ring_mend cI cJ cC a_h a_h_kinds a_h_sweets a_h_settings a_h_heaps (r_children q) (r_strokes q) (r_gave q) (r_threw q) (r_kinds q) (r_sweets q) (r_settings q) (r_heaps q)) := by
  refine xV_of (by decide) (Nat.le_of_ble_eq_true rfl) ?_
  intro p e s m args below meth c A Q hx hb hml hown hT hA hP hD hK hS hE hret ls hl
  have hown : s.vm.findClass R_Ring = some m.cls := hown
  have hl : lv_has ls 2 [(0, .ref a_h), (1, .int x1)] := hl
  unfold f_Ring_mend at hf
  refine lv_aload_n hx hb d_Ring_mend_0 rfl (lv_at hl 0 rfl) ?_
  refine va_get hx hb hT i_Ring hown hK hP 0 rfl rfl 2 (Nat.le_of_ble_eq_true rfl) (hT _ k_35) (fun _ h => h) rfl d_Ring_mend_1 ?_
  refine lv_iconst (v := 0) hx hb d_Ring_mend_4 (by decide) ?_
  refine x_iald hx hb hK hP 3 0 rfl rfl (j := 0) (by decide +kernel) (by unfold vp_in; decide +kernel) d_Ring_mend_5 ?_
  refine lv_if_ne (tgt := 61) hx hb d_Ring_mend_6 (by decide) (fun c1 => ?_) (fun c1 => ?_)
  · have hf := io_f hf c1
    refine lv_aload_n hx hb d_Ring_mend_61 rfl (lv_at hl 0 rfl) ?_
    refine va_get hx hb hT i_Ring hown hK hP 0 rfl rfl 2 (Nat.le_of_ble_eq_true rfl) (hT _ k_35) (fun _ h => h) rfl d_Ring_mend_62 ?_
    refine lv_iconst (v := 0) hx hb d_Ring_mend_65 (by decide) ?_
    refine x_iald hx hb hK hP 3 0 rfl rfl (j := 0) (by decide +kernel) (by unfold vp_in; decide +kernel) d_Ring_mend_66 ?_
    refine lv_iconst (v := 1) hx hb d_Ring_mend_67 (by decide) ?_
    refine lv_icmp_ne (tgt := 91) hx hb d_Ring_mend_68 (by decide) (fun c2 => ?_) (fun c2 => ?_)
    · have hf := io_f hf c2
      have hq := Option.some.inj hf
      subst hq
      exact hret _ _ _ _ d_Ring_mend_91 hP hD hS
    · have hf := io_t hf c2
      refine lv_aload_n hx hb d_Ring_mend_71 rfl (lv_at hl 0 rfl) ?_
      refine va_get hx hb hT i_Ring hown hK hP 0 rfl rfl 1 (Nat.le_of_ble_eq_true rfl) (hT _ k_31) (fun _ h => h) rfl d_Ring_mend_72 ?_
      refine lv_iload_n hx hb d_Ring_mend_75 rfl (lv_at hl 1 rfl) ?_
      refine lv_dup2_11 hx hb d_Ring_mend_76 rfl rfl ?_
      obtain ⟨c3, hf⟩ := io_n hf
      refine x_iald hx hb hK hP 2 0 rfl rfl (j := x1.toNatClampNeg) rfl c3 d_Ring_mend_77 ?_
      refine lv_iconst (v := 1) hx hb d_Ring_mend_78 (by decide) ?_
      refine lv_isub hx hb d_Ring_mend_79 ?_
      refine x_iast hx hb hK hP hD hS 2 0 rfl rfl (j := x1.toNatClampNeg) rfl c3 d_Ring_mend_80 (fun H locs hP hD hS => ?_)
      have hP : va_P D classes (w_Ring_mend cI cJ cC a_h a_h_kinds a_h_sweets a_h_settings a_h_heaps (r_children z_h) (r_strokes z_h) (r_gave z_h) (r_threw z_h) (r_kinds z_h) (upd (r_sweets z_h) x1.toNatClampNeg (((r_sweets z_h) x1.toNatClampNeg) - 1)) (r_settings z_h) (r_heaps z_h)) H := hP
      have hD : va_D A (w_Ring_mend cI cJ cC a_h a_h_kinds a_h_sweets a_h_settings a_h_heaps (r_children z_h) (r_strokes z_h) (r_gave z_h) (r_threw z_h) (r_kinds z_h) (upd (r_sweets z_h) x1.toNatClampNeg (((r_sweets z_h) x1.toNatClampNeg) - 1)) (r_settings z_h) (r_heaps z_h)) := hD
      refine lv_aload_n hx hb d_Ring_mend_81 rfl (lv_at hl 0 rfl) ?_
      refine lv_dup hx hb d_Ring_mend_82 rfl ?_
      refine va_get hx hb hT i_Ring hown hK hP 0 rfl rfl 6 (Nat.le_of_ble_eq_true rfl) (hT _ k_46) (fun _ h => h) rfl d_Ring_mend_83 ?_
      refine lv_iconst (v := 1) hx hb d_Ring_mend_86 (by decide) ?_
      refine lv_iadd hx hb d_Ring_mend_87 ?_
      refine va_put (ty := .int) hx hb hT i_Ring t_Ring t_Ring_ok n_Ring hown hK hP hD hS 0 rfl rfl 6 (Nat.le_of_ble_eq_true rfl) (hT _ k_46) (fun _ h => h) rfl rfl rfl rfl (Nat.le_of_ble_eq_true rfl) d_Ring_mend_88 (fun H locs hP hD hS => ?_)
      have hP : va_P D classes (w_Ring_mend cI cJ cC a_h a_h_kinds a_h_sweets a_h_settings a_h_heaps (r_children z_h) (r_strokes z_h) (r_gave z_h) ((r_threw z_h) + 1) (r_kinds z_h) (upd (r_sweets z_h) x1.toNatClampNeg (((r_sweets z_h) x1.toNatClampNeg) - 1)) (r_settings z_h) (r_heaps z_h)) H := hP
      have hD : va_D A (w_Ring_mend cI cJ cC a_h a_h_kinds a_h_sweets a_h_settings a_h_heaps (r_children z_h) (r_strokes z_h) (r_gave z_h) ((r_threw z_h) + 1) (r_kinds z_h) (upd (r_sweets z_h) x1.toNatClampNeg (((r_sweets z_h) x1.toNatClampNeg) - 1)) (r_settings z_h) (r_heaps z_h)) := hD
      have hq := Option.some.inj hf
      subst hq
      exact hret _ _ _ _ d_Ring_mend_91 hP hD hS
  · have hf := io_t hf c1
    refine lv_aload_n hx hb d_Ring_mend_9 rfl (lv_at hl 0 rfl) ?_
    refine va_get hx hb hT i_Ring hown hK hP 0 rfl rfl 2 (Nat.le_of_ble_eq_true rfl) (hT _ k_35) (fun _ h => h) rfl d_Ring_mend_10 ?_
    refine lv_iconst (v := 2) hx hb d_Ring_mend_13 (by decide) ?_
    refine x_iald hx hb hK hP 3 0 rfl rfl (j := 2) (by decide +kernel) (by unfold vp_in; decide +kernel) d_Ring_mend_14 ?_
    refine lv_if_le (tgt := 61) hx hb d_Ring_mend_15 (by decide) (fun c4 => ?_) (fun c4 => ?_)
    · have hf := io_t hf c4
      refine lv_aload_n hx hb d_Ring_mend_61 rfl (lv_at hl 0 rfl) ?_
      refine va_get hx hb hT i_Ring hown hK hP 0 rfl rfl 2 (Nat.le_of_ble_eq_true rfl) (hT _ k_35) (fun _ h => h) rfl d_Ring_mend_62 ?_
      refine lv_iconst (v := 0) hx hb d_Ring_mend_65 (by decide) ?_
      refine x_iald hx hb hK hP 3 0 rfl rfl (j := 0) (by decide +kernel) (by unfold vp_in; decide +kernel) d_Ring_mend_66 ?_
      refine lv_iconst (v := 1) hx hb d_Ring_mend_67 (by decide) ?_
      refine lv_icmp_ne (tgt := 91) hx hb d_Ring_mend_68 (by decide) (fun _ => ?_) (fun c => absurd c (show ¬ ((r_settings z_h) 0) = 1 from fun z => absurd (c1.symm.trans z) (by decide)))
      have hq := Option.some.inj hf
      subst hq
      exact hret _ _ _ _ d_Ring_mend_91 hP hD hS
    · have hf := io_f hf c4
      refine lv_aload_n hx hb d_Ring_mend_18 rfl (lv_at hl 0 rfl) ?_
      refine va_get hx hb hT i_Ring hown hK hP 0 rfl rfl 2 (Nat.le_of_ble_eq_true rfl) (hT _ k_35) (fun _ h => h) rfl d_Ring_mend_19 ?_
      refine lv_iconst (v := 2) hx hb d_Ring_mend_22 (by decide) ?_
      refine lv_dup2_11 hx hb d_Ring_mend_23 rfl rfl ?_
      refine x_iald hx hb hK hP 3 0 rfl rfl (j := 2) (by decide +kernel) (by unfold vp_in; decide +kernel) d_Ring_mend_24 ?_
      refine lv_iconst (v := 1) hx hb d_Ring_mend_25 (by decide) ?_
      refine lv_isub hx hb d_Ring_mend_26 ?_
      refine x_iast hx hb hK hP hD hS 3 0 rfl rfl (j := 2) (by decide +kernel) (by unfold vp_in; decide +kernel) d_Ring_mend_27 (fun H locs hP hD hS => ?_)
      have hP : va_P D classes (w_Ring_mend cI cJ cC a_h a_h_kinds a_h_sweets a_h_settings a_h_heaps (r_children z_h) (r_strokes z_h) (r_gave z_h) (r_threw z_h) (r_kinds z_h) (r_sweets z_h) (upd (r_settings z_h) 2 (((r_settings z_h) 2) - 1)) (r_heaps z_h)) H := hP
      have hD : va_D A (w_Ring_mend cI cJ cC a_h a_h_kinds a_h_sweets a_h_settings a_h_heaps (r_children z_h) (r_strokes z_h) (r_gave z_h) (r_threw z_h) (r_kinds z_h) (r_sweets z_h) (upd (r_settings z_h) 2 (((r_settings z_h) 2) - 1)) (r_heaps z_h)) := hD
      refine lv_aload_n hx hb d_Ring_mend_28 rfl (lv_at hl 0 rfl) ?_
      refine lv_dup hx hb d_Ring_mend_29 rfl ?_
      refine va_get hx hb hT i_Ring hown hK hP 0 rfl rfl 5 (Nat.le_of_ble_eq_true rfl) (hT _ k_43) (fun _ h => h) rfl d_Ring_mend_30 ?_
      refine lv_iconst (v := 1) hx hb d_Ring_mend_33 (by decide) ?_
      refine lv_iadd hx hb d_Ring_mend_34 ?_
      refine va_put (ty := .int) hx hb hT i_Ring t_Ring t_Ring_ok n_Ring hown hK hP hD hS 0 rfl rfl 5 (Nat.le_of_ble_eq_true rfl) (hT _ k_43) (fun _ h => h) rfl rfl rfl rfl (Nat.le_of_ble_eq_true rfl) d_Ring_mend_35 (fun H locs hP hD hS => ?_)
      have hP : va_P D classes (w_Ring_mend cI cJ cC a_h a_h_kinds a_h_sweets a_h_settings a_h_heaps (r_children z_h) (r_strokes z_h) ((r_gave z_h) + 1) (r_threw z_h) (r_kinds z_h) (r_sweets z_h) (upd (r_settings z_h) 2 (((r_settings z_h) 2) - 1)) (r_heaps z_h)) H := hP
      have hD : va_D A (w_Ring_mend cI cJ cC a_h a_h_kinds a_h_sweets a_h_settings a_h_heaps (r_children z_h) (r_strokes z_h) ((r_gave z_h) + 1) (r_threw z_h) (r_kinds z_h) (r_sweets z_h) (upd (r_settings z_h) 2 (((r_settings z_h) 2) - 1)) (r_heaps z_h)) := hD
      refine lv_aload_n hx hb d_Ring_mend_38 rfl (lv_at hl 0 rfl) ?_
      refine va_get hx hb hT i_Ring hown hK hP 0 rfl rfl 1 (Nat.le_of_ble_eq_true rfl) (hT _ k_31) (fun _ h => h) rfl d_Ring_mend_39 ?_
      refine lv_iload_n hx hb d_Ring_mend_42 rfl (lv_at hl 1 rfl) ?_
      refine lv_aload_n hx hb d_Ring_mend_43 rfl (lv_at hl 0 rfl) ?_
      refine va_get hx hb hT i_Ring hown hK hP 0 rfl rfl 1 (Nat.le_of_ble_eq_true rfl) (hT _ k_31) (fun _ h => h) rfl d_Ring_mend_44 ?_
      refine lv_iload_n hx hb d_Ring_mend_47 rfl (lv_at hl 1 rfl) ?_
      obtain ⟨c5, hf⟩ := io_n hf
      refine x_iald hx hb hK hP 2 0 rfl rfl (j := x1.toNatClampNeg) rfl c5 d_Ring_mend_48 ?_
      refine lv_iconst (v := 1) hx hb d_Ring_mend_49 (by decide) ?_
      refine lv_iadd hx hb d_Ring_mend_50 ?_
      refine lv_sipush (v := 999) hx hb d_Ring_mend_51 (by decide) ?_
      refine va_mmin hx hb (hml.trans hl.1.symm) hown (hT _ k_234) (hT _ k_235) (hT _ k_10) (hT _ k_236) (Nat.le_of_ble_eq_true rfl) (Nat.le_of_ble_eq_true rfl) (Nat.zero_le _) (Nat.zero_le _) d_Ring_mend_54 ?_
      refine x_iast hx hb hK hP hD hS 2 0 rfl rfl (j := x1.toNatClampNeg) rfl c5 d_Ring_mend_57 (fun H locs hP hD hS => ?_)
      have hP : va_P D classes (w_Ring_mend cI cJ cC a_h a_h_kinds a_h_sweets a_h_settings a_h_heaps (r_children z_h) (r_strokes z_h) ((r_gave z_h) + 1) (r_threw z_h) (r_kinds z_h) (upd (r_sweets z_h) x1.toNatClampNeg (jmin (((r_sweets z_h) x1.toNatClampNeg) + 1) 999)) (upd (r_settings z_h) 2 (((r_settings z_h) 2) - 1)) (r_heaps z_h)) H := hP
      have hD : va_D A (w_Ring_mend cI cJ cC a_h a_h_kinds a_h_sweets a_h_settings a_h_heaps (r_children z_h) (r_strokes z_h) ((r_gave z_h) + 1) (r_threw z_h) (r_kinds z_h) (upd (r_sweets z_h) x1.toNatClampNeg (jmin (((r_sweets z_h) x1.toNatClampNeg) + 1) 999)) (upd (r_settings z_h) 2 (((r_settings z_h) 2) - 1)) (r_heaps z_h)) := hD
      refine lv_goto (tgt := 91) hx hb d_Ring_mend_58 (by decide) ?_
      have hq := Option.some.inj hf
      subst hq
      exact hret _ _ _ _ d_Ring_mend_91 hP hD hS
abbrev w_Ring_strike (cI cJ cC : ClassId) (a_h a_h_kinds a_h_sweets a_h_settings a_h_heaps : Nat) (p_h_children : Int32) (p_h_strokes : Int32) (p_h_gave : Int32) (p_h_threw : Int32) (p_h_kinds : (Nat → Int32)) (p_h_sweets : (Nat → Int32)) (p_h_settings : (Nat → Int32)) (p_h_heaps : (Nat → Int32)) : va_W := [(a_h, .inr (1, [.ref a_h_kinds, .ref a_h_sweets, .ref a_h_settings, .int p_h_children, .int p_h_strokes, .int p_h_gave, .int p_h_threw, .ref a_h_heaps])), (a_h_kinds, .inl (cI, (8, .inl p_h_kinds))), (a_h_sweets, .inl (cI, (8, .inl p_h_sweets))), (a_h_settings, .inl (cI, (3, .inl p_h_settings))), (a_h_heaps, .inl (cI, (8, .inl p_h_heaps)))]
theorem d_Ring_strike_0 : decode b_Ring_strike 0 = .ok (.aload_n 0, 1) := by decide +kernel
theorem d_Ring_strike_1 : decode b_Ring_strike 1 = .ok (.getfield 28, 3) := by decide +kernel
theorem d_Ring_strike_4 : decode b_Ring_strike 4 = .ok (.istore_n 1, 1) := by decide +kernel
theorem d_Ring_strike_5 : decode b_Ring_strike 5 = .ok (.aload_n 0, 1) := by decide +kernel
theorem d_Ring_strike_6 : decode b_Ring_strike 6 = .ok (.invokevirtual 57, 3) := by decide +kernel
theorem d_Ring_strike_9 : decode b_Ring_strike 9 = .ok (.iconst 0, 1) := by decide +kernel
theorem d_Ring_strike_10 : decode b_Ring_strike 10 = .ok (.istore_n 2, 1) := by decide +kernel
theorem d_Ring_strike_11 : decode b_Ring_strike 11 = .ok (.iload_n 2, 1) := by decide +kernel
theorem d_Ring_strike_12 : decode b_Ring_strike 12 = .ok (.aload_n 0, 1) := by decide +kernel
theorem d_Ring_strike_13 : decode b_Ring_strike 13 = .ok (.getfield 21, 3) := by decide +kernel
theorem d_Ring_strike_16 : decode b_Ring_strike 16 = .ok (.if_icmp .ge 26, 3) := by decide +kernel
theorem d_Ring_strike_19 : decode b_Ring_strike 19 = .ok (.aload_n 0, 1) := by decide +kernel
theorem d_Ring_strike_20 : decode b_Ring_strike 20 = .ok (.getfield 15, 3) := by decide +kernel
theorem d_Ring_strike_23 : decode b_Ring_strike 23 = .ok (.iload_n 2, 1) := by decide +kernel
theorem d_Ring_strike_24 : decode b_Ring_strike 24 = .ok (.iaload, 1) := by decide +kernel
theorem d_Ring_strike_25 : decode b_Ring_strike 25 = .ok (.iconst 2, 1) := by decide +kernel
theorem d_Ring_strike_26 : decode b_Ring_strike 26 = .ok (.irem, 1) := by decide +kernel
theorem d_Ring_strike_27 : decode b_Ring_strike 27 = .ok (.iconst 1, 1) := by decide +kernel
theorem d_Ring_strike_28 : decode b_Ring_strike 28 = .ok (.if_icmp .ne 8, 3) := by decide +kernel
theorem d_Ring_strike_31 : decode b_Ring_strike 31 = .ok (.aload_n 0, 1) := by decide +kernel
theorem d_Ring_strike_32 : decode b_Ring_strike 32 = .ok (.iload_n 2, 1) := by decide +kernel
theorem d_Ring_strike_33 : decode b_Ring_strike 33 = .ok (.invokevirtual 60, 3) := by decide +kernel
theorem d_Ring_strike_36 : decode b_Ring_strike 36 = .ok (.iinc 2 1, 3) := by decide +kernel
theorem d_Ring_strike_39 : decode b_Ring_strike 39 = .ok (.goto (-28), 3) := by decide +kernel
theorem d_Ring_strike_42 : decode b_Ring_strike 42 = .ok (.aload_n 0, 1) := by decide +kernel
theorem d_Ring_strike_43 : decode b_Ring_strike 43 = .ok (.dup, 1) := by decide +kernel
theorem d_Ring_strike_44 : decode b_Ring_strike 44 = .ok (.getfield 25, 3) := by decide +kernel
theorem d_Ring_strike_47 : decode b_Ring_strike 47 = .ok (.iconst 1, 1) := by decide +kernel
theorem d_Ring_strike_48 : decode b_Ring_strike 48 = .ok (.iadd, 1) := by decide +kernel
theorem d_Ring_strike_49 : decode b_Ring_strike 49 = .ok (.putfield 25, 3) := by decide +kernel
theorem d_Ring_strike_52 : decode b_Ring_strike 52 = .ok (.aload_n 0, 1) := by decide +kernel
theorem d_Ring_strike_53 : decode b_Ring_strike 53 = .ok (.getfield 28, 3) := by decide +kernel
theorem d_Ring_strike_56 : decode b_Ring_strike 56 = .ok (.iload_n 1, 1) := by decide +kernel
theorem d_Ring_strike_57 : decode b_Ring_strike 57 = .ok (.isub, 1) := by decide +kernel
theorem d_Ring_strike_58 : decode b_Ring_strike 58 = .ok (.ireturn, 1) := by decide +kernel
set_option maxHeartbeats 4000000 in
set_option maxRecDepth 100000 in
theorem c_Ring_strike {l : Launch} {D : va_G} {cI cJ cC : ClassId} (a_h a_h_kinds a_h_sweets a_h_settings a_h_heaps : Nat) {z_h : RS} {q : Int32 × RS} (hf : f_Ring_strike z_h = some q) : xI l y_Ring_strike b_Ring_strike 3 .int 3 67 D (tyK cI cJ cC) xE0 [.ref a_h] (w_Ring_strike cI cJ cC a_h a_h_kinds a_h_sweets a_h_settings a_h_heaps (r_children z_h) (r_strokes z_h) (r_gave z_h) (r_threw z_h) (r_kinds z_h) (r_sweets z_h) (r_settings z_h) (r_heaps z_h)) q.1 (w_Ring_strike cI cJ cC a_h a_h_kinds a_h_sweets a_h_settings a_h_heaps (r_children q.2) (r_strokes q.2) (r_gave q.2) (r_threw q.2) (r_kinds q.2) (r_sweets q.2) (r_settings q.2) (r_heaps q.2)) := by
  refine xI_of (by decide) (Nat.le_of_ble_eq_true rfl) ?_
  intro p e s m args below meth c A Q hx hb hml hown hT hA hP hD hK hS hE hret ls hl
  have hown : s.vm.findClass R_Ring = some m.cls := hown
  have hl : lv_has ls 3 [(0, .ref a_h)] := hl
  unfold f_Ring_strike at hf
  have L11 : ∀ (x1 : Int32), ∀ (n : Nat) (z_h : RS) (x2 : Int32) (H : Heap) (locs : List Loc) (ls : Array Slot), f_Ring_strike_L11 x1 n z_h x2 = some q → va_P D classes (w_Ring_strike cI cJ cC a_h a_h_kinds a_h_sweets a_h_settings a_h_heaps (r_children z_h) (r_strokes z_h) (r_gave z_h) (r_threw z_h) (r_kinds z_h) (r_sweets z_h) (r_settings z_h) (r_heaps z_h)) H → va_D A (w_Ring_strike cI cJ cC a_h a_h_kinds a_h_sweets a_h_settings a_h_heaps (r_children z_h) (r_strokes z_h) (r_gave z_h) (r_threw z_h) (r_kinds z_h) (r_sweets z_h) (r_settings z_h) (r_heaps z_h)) → va_S A s.heap H locs → lv_has ls 3 [(0, .ref a_h), (1, .int x1), (2, .int x2)] → W p l e (xRm 3 67) s m args below meth c H locs 0 0 Q (F0 m 11 ls []) := by
    intro x1 n
    induction n with
    | zero => intro z_h x2 H locs ls hf hP hD hS hl; exact nomatch (show (none : Option (Int32 × RS)) = some q from hf)
    | succ n ih =>
      intro z_h x2 H locs ls hf hP hD hS hl
      refine lv_iload_n hx hb d_Ring_strike_11 rfl (lv_at hl 2 rfl) ?_
      refine lv_aload_n hx hb d_Ring_strike_12 rfl (lv_at hl 0 rfl) ?_
      refine va_get hx hb hT i_Ring hown hK hP 0 rfl rfl 3 (Nat.le_of_ble_eq_true rfl) (hT _ k_38) (fun _ h => h) rfl d_Ring_strike_13 ?_
      refine lv_icmp_ge (tgt := 42) hx hb d_Ring_strike_16 (by decide) (fun c2 => ?_) (fun c2 => ?_)
      · have hf := io_t hf c2
        refine lv_aload_n hx hb d_Ring_strike_42 rfl (lv_at hl 0 rfl) ?_
        refine lv_dup hx hb d_Ring_strike_43 rfl ?_
        refine va_get hx hb hT i_Ring hown hK hP 0 rfl rfl 4 (Nat.le_of_ble_eq_true rfl) (hT _ k_41) (fun _ h => h) rfl d_Ring_strike_44 ?_
        refine lv_iconst (v := 1) hx hb d_Ring_strike_47 (by decide) ?_
        refine lv_iadd hx hb d_Ring_strike_48 ?_
        refine va_put (ty := .int) hx hb hT i_Ring t_Ring t_Ring_ok n_Ring hown hK hP hD hS 0 rfl rfl 4 (Nat.le_of_ble_eq_true rfl) (hT _ k_41) (fun _ h => h) rfl rfl rfl rfl (Nat.le_of_ble_eq_true rfl) d_Ring_strike_49 (fun H locs hP hD hS => ?_)
        have hP : va_P D classes (w_Ring_strike cI cJ cC a_h a_h_kinds a_h_sweets a_h_settings a_h_heaps (r_children z_h) ((r_strokes z_h) + 1) (r_gave z_h) (r_threw z_h) (r_kinds z_h) (r_sweets z_h) (r_settings z_h) (r_heaps z_h)) H := hP
        have hD : va_D A (w_Ring_strike cI cJ cC a_h a_h_kinds a_h_sweets a_h_settings a_h_heaps (r_children z_h) ((r_strokes z_h) + 1) (r_gave z_h) (r_threw z_h) (r_kinds z_h) (r_sweets z_h) (r_settings z_h) (r_heaps z_h)) := hD
        refine lv_aload_n hx hb d_Ring_strike_52 rfl (lv_at hl 0 rfl) ?_
        refine va_get hx hb hT i_Ring hown hK hP 0 rfl rfl 5 (Nat.le_of_ble_eq_true rfl) (hT _ k_43) (fun _ h => h) rfl d_Ring_strike_53 ?_
        refine lv_iload_n hx hb d_Ring_strike_56 rfl (lv_at hl 1 rfl) ?_
        refine lv_isub hx hb d_Ring_strike_57 ?_
        have hq := Option.some.inj hf
        subst hq
        exact hret _ _ _ _ _ d_Ring_strike_58 rfl rfl hP hD hS
      · have hf := io_f hf c2
        refine lv_aload_n hx hb d_Ring_strike_19 rfl (lv_at hl 0 rfl) ?_
        refine va_get hx hb hT i_Ring hown hK hP 0 rfl rfl 1 (Nat.le_of_ble_eq_true rfl) (hT _ k_31) (fun _ h => h) rfl d_Ring_strike_20 ?_
        refine lv_iload_n hx hb d_Ring_strike_23 rfl (lv_at hl 2 rfl) ?_
        obtain ⟨c3, hf⟩ := io_n hf
        refine x_iald hx hb hK hP 2 0 rfl rfl (j := x2.toNatClampNeg) rfl c3 d_Ring_strike_24 ?_
        refine lv_iconst (v := 2) hx hb d_Ring_strike_25 (by decide) ?_
        refine x_irem hx hb d_Ring_strike_26 (by decide) ?_
        refine lv_iconst (v := 1) hx hb d_Ring_strike_27 (by decide) ?_
        refine lv_icmp_ne (tgt := 36) hx hb d_Ring_strike_28 (by decide) (fun c4 => ?_) (fun c4 => ?_)
        · have hf := io_f hf c4
          refine lv_iinc (v := (x2 + 1)) (lv' := [(2, .int (x2 + 1)), (0, .ref a_h), (1, .int x1)]) hx hb d_Ring_strike_36 hl (k := 2) rfl (by rfl) (by decide) rfl (fun ls hl => ?_)
          refine lv_goto (tgt := 11) hx hb d_Ring_strike_39 (by decide) ?_
          exact ih z_h (x2 + 1) _ _ _ hf hP hD hS (lv_sub hl [1, 2, 0] rfl)
        · have hf := io_t hf c4
          refine lv_aload_n hx hb d_Ring_strike_31 rfl (lv_at hl 0 rfl) ?_
          refine lv_iload_n hx hb d_Ring_strike_32 rfl (lv_at hl 2 rfl) ?_
          obtain ⟨q5, hq5, hf⟩ := io_b hf
          refine xcVV (wc := (w_Ring_mend cI cJ cC a_h a_h_kinds a_h_sweets a_h_settings a_h_heaps (r_children z_h) (r_strokes z_h) (r_gave z_h) (r_threw z_h) (r_kinds z_h) (r_sweets z_h) (r_settings z_h) (r_heaps z_h))) (wc' := (w_Ring_mend cI cJ cC a_h a_h_kinds a_h_sweets a_h_settings a_h_heaps (r_children q5) (r_strokes q5) (r_gave q5) (r_threw q5) (r_kinds q5) (r_sweets q5) (r_settings q5) (r_heaps q5))) (ws' := (w_Ring_strike cI cJ cC a_h a_h_kinds a_h_sweets a_h_settings a_h_heaps (r_children q5) (r_strokes q5) (r_gave q5) (r_threw q5) (r_kinds q5) (r_sweets q5) (r_settings q5) (r_heaps q5))) (As := [.int x2]) (rest := []) hx hb hml hown hT (c_Ring_mend (z_h := z_h) a_h a_h_kinds a_h_sweets a_h_settings a_h_heaps hq5) k_237 k_239 ks_2 k_2 k_240 hd_Ring_mend ⟨Nat.le_of_ble_eq_true rfl, Nat.le_of_ble_eq_true rfl⟩ xE0_ok trivial hA hK hP hD hS [0, 1, 2, 3, 4] [] [0, 1, 2, 3, 4] rfl rfl rfl rfl rfl rfl rfl rfl rfl rfl hl.1 rfl (Nat.le_of_ble_eq_true rfl) ⟨Nat.zero_le _, Nat.zero_le _⟩ d_Ring_strike_33 (fun H locs hP hD hS => ?_)
          refine lv_iinc (v := (x2 + 1)) (lv' := [(2, .int (x2 + 1)), (0, .ref a_h), (1, .int x1)]) hx hb d_Ring_strike_36 hl (k := 2) rfl (by rfl) (by decide) rfl (fun ls hl => ?_)
          refine lv_goto (tgt := 11) hx hb d_Ring_strike_39 (by decide) ?_
          exact ih q5 (x2 + 1) _ _ _ hf hP hD hS (lv_sub hl [1, 2, 0] rfl)
  refine lv_aload_n hx hb d_Ring_strike_0 rfl (lv_at hl 0 rfl) ?_
  refine va_get hx hb hT i_Ring hown hK hP 0 rfl rfl 5 (Nat.le_of_ble_eq_true rfl) (hT _ k_43) (fun _ h => h) rfl d_Ring_strike_1 ?_
  refine lv_istore_n (lv' := [(1, .int (r_gave z_h)), (0, .ref a_h)]) hx hb d_Ring_strike_4 rfl hl (by decide) rfl (fun ls hl => ?_)
  refine lv_aload_n hx hb d_Ring_strike_5 rfl (lv_at hl 1 rfl) ?_
  obtain ⟨q1, hq1, hf⟩ := io_b hf
  refine xcVV (wc := (w_Ring_handOn cI cJ cC a_h a_h_kinds a_h_sweets a_h_settings a_h_heaps (r_children z_h) (r_strokes z_h) (r_gave z_h) (r_threw z_h) (r_kinds z_h) (r_sweets z_h) (r_settings z_h) (r_heaps z_h))) (wc' := (w_Ring_handOn cI cJ cC a_h a_h_kinds a_h_sweets a_h_settings a_h_heaps (r_children q1) (r_strokes q1) (r_gave q1) (r_threw q1) (r_kinds q1) (r_sweets q1) (r_settings q1) (r_heaps q1))) (ws' := (w_Ring_strike cI cJ cC a_h a_h_kinds a_h_sweets a_h_settings a_h_heaps (r_children q1) (r_strokes q1) (r_gave q1) (r_threw q1) (r_kinds q1) (r_sweets q1) (r_settings q1) (r_heaps q1))) (As := []) (rest := []) hx hb hml hown hT (c_Ring_handOn (z_h := z_h) a_h a_h_kinds a_h_sweets a_h_settings a_h_heaps hq1) k_223 k_225 ks_1 k_2 k_226 hd_Ring_handOn ⟨Nat.le_of_ble_eq_true rfl, Nat.le_of_ble_eq_true rfl⟩ xE0_ok trivial hA hK hP hD hS [0, 1, 2, 3, 4] [] [0, 1, 2, 3, 4] rfl rfl rfl rfl rfl rfl rfl rfl rfl rfl hl.1 rfl (Nat.le_of_ble_eq_true rfl) ⟨Nat.zero_le _, Nat.zero_le _⟩ d_Ring_strike_6 (fun H locs hP hD hS => ?_)
  refine lv_iconst (v := 0) hx hb d_Ring_strike_9 (by decide) ?_
  refine lv_istore_n (lv' := [(2, .int 0), (1, .int (r_gave z_h)), (0, .ref a_h)]) hx hb d_Ring_strike_10 rfl hl (by decide) rfl (fun ls hl => ?_)
  exact L11 (r_gave z_h) FU q1 0 _ _ _ hf hP hD hS (lv_sub hl [2, 1, 0] rfl)
abbrev w_Ring_strikeOften (cI cJ cC : ClassId) (a_h a_h_kinds a_h_sweets a_h_settings a_h_heaps : Nat) (p_h_children : Int32) (p_h_strokes : Int32) (p_h_gave : Int32) (p_h_threw : Int32) (p_h_kinds : (Nat → Int32)) (p_h_sweets : (Nat → Int32)) (p_h_settings : (Nat → Int32)) (p_h_heaps : (Nat → Int32)) : va_W := [(a_h, .inr (1, [.ref a_h_kinds, .ref a_h_sweets, .ref a_h_settings, .int p_h_children, .int p_h_strokes, .int p_h_gave, .int p_h_threw, .ref a_h_heaps])), (a_h_kinds, .inl (cI, (8, .inl p_h_kinds))), (a_h_sweets, .inl (cI, (8, .inl p_h_sweets))), (a_h_settings, .inl (cI, (3, .inl p_h_settings))), (a_h_heaps, .inl (cI, (8, .inl p_h_heaps)))]
theorem d_Ring_strikeOften_0 : decode b_Ring_strikeOften 0 = .ok (.iconst 0, 1) := by decide +kernel
theorem d_Ring_strikeOften_1 : decode b_Ring_strikeOften 1 = .ok (.istore_n 2, 1) := by decide +kernel
theorem d_Ring_strikeOften_2 : decode b_Ring_strikeOften 2 = .ok (.iload_n 2, 1) := by decide +kernel
theorem d_Ring_strikeOften_3 : decode b_Ring_strikeOften 3 = .ok (.iload_n 1, 1) := by decide +kernel
theorem d_Ring_strikeOften_4 : decode b_Ring_strikeOften 4 = .ok (.if_icmp .ge 14, 3) := by decide +kernel
theorem d_Ring_strikeOften_7 : decode b_Ring_strikeOften 7 = .ok (.aload_n 0, 1) := by decide +kernel
theorem d_Ring_strikeOften_8 : decode b_Ring_strikeOften 8 = .ok (.invokevirtual 64, 3) := by decide +kernel
theorem d_Ring_strikeOften_11 : decode b_Ring_strikeOften 11 = .ok (.pop, 1) := by decide +kernel
theorem d_Ring_strikeOften_12 : decode b_Ring_strikeOften 12 = .ok (.iinc 2 1, 3) := by decide +kernel
theorem d_Ring_strikeOften_15 : decode b_Ring_strikeOften 15 = .ok (.goto (-13), 3) := by decide +kernel
theorem d_Ring_strikeOften_18 : decode b_Ring_strikeOften 18 = .ok (.return_, 1) := by decide +kernel
set_option maxHeartbeats 4000000 in
set_option maxRecDepth 100000 in
theorem c_Ring_strikeOften {l : Launch} {D : va_G} {cI cJ cC : ClassId} (a_h a_h_kinds a_h_sweets a_h_settings a_h_heaps : Nat) {z_h : RS} {x1 : Int32} {q : RS} (hf : f_Ring_strikeOften z_h x1 = some q) : xV l y_Ring_strikeOften b_Ring_strikeOften 3 4 89 D (tyK cI cJ cC) xE0 [.ref a_h, .int x1] (w_Ring_strikeOften cI cJ cC a_h a_h_kinds a_h_sweets a_h_settings a_h_heaps (r_children z_h) (r_strokes z_h) (r_gave z_h) (r_threw z_h) (r_kinds z_h) (r_sweets z_h) (r_settings z_h) (r_heaps z_h)) (w_Ring_strikeOften cI cJ cC a_h a_h_kinds a_h_sweets a_h_settings a_h_heaps (r_children q) (r_strokes q) (r_gave q) (r_threw q) (r_kinds q) (r_sweets q) (r_settings q) (r_heaps q)) := by
  refine xV_of (by decide) (Nat.le_of_ble_eq_true rfl) ?_
  intro p e s m args below meth c A Q hx hb hml hown hT hA hP hD hK hS hE hret ls hl
  have hown : s.vm.findClass R_Ring = some m.cls := hown
  have hl : lv_has ls 3 [(0, .ref a_h), (1, .int x1)] := hl
  unfold f_Ring_strikeOften at hf
  have L2 : ∀ (n : Nat) (z_h : RS) (x2 : Int32) (H : Heap) (locs : List Loc) (ls : Array Slot), f_Ring_strikeOften_L2 x1 n z_h x2 = some q → va_P D classes (w_Ring_strikeOften cI cJ cC a_h a_h_kinds a_h_sweets a_h_settings a_h_heaps (r_children z_h) (r_strokes z_h) (r_gave z_h) (r_threw z_h) (r_kinds z_h) (r_sweets z_h) (r_settings z_h) (r_heaps z_h)) H → va_D A (w_Ring_strikeOften cI cJ cC a_h a_h_kinds a_h_sweets a_h_settings a_h_heaps (r_children z_h) (r_strokes z_h) (r_gave z_h) (r_threw z_h) (r_kinds z_h) (r_sweets z_h) (r_settings z_h) (r_heaps z_h)) → va_S A s.heap H locs → lv_has ls 3 [(0, .ref a_h), (1, .int x1), (2, .int x2)] → W p l e (xRm 4 89) s m args below meth c H locs 0 0 Q (F0 m 2 ls []) := by
    intro n
    induction n with
    | zero => intro z_h x2 H locs ls hf hP hD hS hl; exact nomatch (show (none : Option (RS)) = some q from hf)
    | succ n ih =>
      intro z_h x2 H locs ls hf hP hD hS hl
      refine lv_iload_n hx hb d_Ring_strikeOften_2 rfl (lv_at hl 2 rfl) ?_
      refine lv_iload_n hx hb d_Ring_strikeOften_3 rfl (lv_at hl 1 rfl) ?_
      refine lv_icmp_ge (tgt := 18) hx hb d_Ring_strikeOften_4 (by decide) (fun c1 => ?_) (fun c1 => ?_)
      · have hf := io_t hf c1
        have hq := Option.some.inj hf
        subst hq
        exact hret _ _ _ _ d_Ring_strikeOften_18 hP hD hS
      · have hf := io_f hf c1
        refine lv_aload_n hx hb d_Ring_strikeOften_7 rfl (lv_at hl 0 rfl) ?_
        obtain ⟨q2, hq2, hf⟩ := io_b hf
        refine xcVI (wc := (w_Ring_strike cI cJ cC a_h a_h_kinds a_h_sweets a_h_settings a_h_heaps (r_children z_h) (r_strokes z_h) (r_gave z_h) (r_threw z_h) (r_kinds z_h) (r_sweets z_h) (r_settings z_h) (r_heaps z_h))) (wc' := (w_Ring_strike cI cJ cC a_h a_h_kinds a_h_sweets a_h_settings a_h_heaps (r_children q2.2) (r_strokes q2.2) (r_gave q2.2) (r_threw q2.2) (r_kinds q2.2) (r_sweets q2.2) (r_settings q2.2) (r_heaps q2.2))) (ws' := (w_Ring_strikeOften cI cJ cC a_h a_h_kinds a_h_sweets a_h_settings a_h_heaps (r_children q2.2) (r_strokes q2.2) (r_gave q2.2) (r_threw q2.2) (r_kinds q2.2) (r_sweets q2.2) (r_settings q2.2) (r_heaps q2.2))) (As := []) (rest := []) hx hb hml hown hT (c_Ring_strike (z_h := z_h) a_h a_h_kinds a_h_sweets a_h_settings a_h_heaps hq2) k_260 k_220 k_221 k_2 k_222 hd_Ring_strike ⟨Nat.le_of_ble_eq_true rfl, Nat.le_of_ble_eq_true rfl⟩ xE0_ok trivial hA hK hP hD hS [0, 1, 2, 3, 4] [] [0, 1, 2, 3, 4] rfl rfl rfl rfl rfl rfl rfl rfl rfl rfl hl.1 rfl (Nat.le_of_ble_eq_true rfl) ⟨Nat.zero_le _, Nat.zero_le _⟩ d_Ring_strikeOften_8 (fun H locs hP hD hS => ?_)
        refine lv_pop hx hb d_Ring_strikeOften_11 rfl ?_
        refine lv_iinc (v := (x2 + 1)) (lv' := [(2, .int (x2 + 1)), (0, .ref a_h), (1, .int x1)]) hx hb d_Ring_strikeOften_12 hl (k := 2) rfl (by rfl) (by decide) rfl (fun ls hl => ?_)
        refine lv_goto (tgt := 2) hx hb d_Ring_strikeOften_15 (by decide) ?_
        exact ih q2.2 (x2 + 1) _ _ _ hf hP hD hS (lv_sub hl [1, 2, 0] rfl)
  refine lv_iconst (v := 0) hx hb d_Ring_strikeOften_0 (by decide) ?_
  refine lv_istore_n (lv' := [(2, .int 0), (0, .ref a_h), (1, .int x1)]) hx hb d_Ring_strikeOften_1 rfl hl (by decide) rfl (fun ls hl => ?_)
  exact L2 FU z_h 0 _ _ _ hf hP hD hS (lv_sub hl [1, 2, 0] rfl)
abbrev w_Ring_hasSweetsOf (cI cJ cC : ClassId) (a_h a_h_kinds a_h_sweets a_h_settings a_h_heaps a_g1 a_g1_kinds a_g1_sweets a_g1_settings a_g1_heaps : Nat) (p_h_children : Int32) (p_h_strokes : Int32) (p_h_gave : Int32) (p_h_threw : Int32) (p_h_sweets : (Nat → Int32)) (p_g1_children : Int32) (p_g1_strokes : Int32) (p_g1_gave : Int32) (p_g1_threw : Int32) (p_g1_sweets : (Nat → Int32)) : va_W := [(a_h, .inr (1, [.ref a_h_kinds, .ref a_h_sweets, .ref a_h_settings, .int p_h_children, .int p_h_strokes, .int p_h_gave, .int p_h_threw, .ref a_h_heaps])), (a_h_sweets, .inl (cI, (8, .inl p_h_sweets))), (a_g1, .inr (1, [.ref a_g1_kinds, .ref a_g1_sweets, .ref a_g1_settings, .int p_g1_children, .int p_g1_strokes, .int p_g1_gave, .int p_g1_threw, .ref a_g1_heaps])), (a_g1_sweets, .inl (cI, (8, .inl p_g1_sweets)))]
theorem d_Ring_hasSweetsOf_0 : decode b_Ring_hasSweetsOf 0 = .ok (.iconst 0, 1) := by decide +kernel
theorem d_Ring_hasSweetsOf_1 : decode b_Ring_hasSweetsOf 1 = .ok (.istore_n 2, 1) := by decide +kernel
theorem d_Ring_hasSweetsOf_2 : decode b_Ring_hasSweetsOf 2 = .ok (.iload_n 2, 1) := by decide +kernel
theorem d_Ring_hasSweetsOf_3 : decode b_Ring_hasSweetsOf 3 = .ok (.aload_n 0, 1) := by decide +kernel
theorem d_Ring_hasSweetsOf_4 : decode b_Ring_hasSweetsOf 4 = .ok (.getfield 21, 3) := by decide +kernel
theorem d_Ring_hasSweetsOf_7 : decode b_Ring_hasSweetsOf 7 = .ok (.if_icmp .ge 26, 3) := by decide +kernel
theorem d_Ring_hasSweetsOf_10 : decode b_Ring_hasSweetsOf 10 = .ok (.aload_n 0, 1) := by decide +kernel
theorem d_Ring_hasSweetsOf_11 : decode b_Ring_hasSweetsOf 11 = .ok (.getfield 15, 3) := by decide +kernel
theorem d_Ring_hasSweetsOf_14 : decode b_Ring_hasSweetsOf 14 = .ok (.iload_n 2, 1) := by decide +kernel
theorem d_Ring_hasSweetsOf_15 : decode b_Ring_hasSweetsOf 15 = .ok (.iaload, 1) := by decide +kernel
theorem d_Ring_hasSweetsOf_16 : decode b_Ring_hasSweetsOf 16 = .ok (.aload_n 1, 1) := by decide +kernel
theorem d_Ring_hasSweetsOf_17 : decode b_Ring_hasSweetsOf 17 = .ok (.getfield 15, 3) := by decide +kernel
theorem d_Ring_hasSweetsOf_20 : decode b_Ring_hasSweetsOf 20 = .ok (.iload_n 2, 1) := by decide +kernel
theorem d_Ring_hasSweetsOf_21 : decode b_Ring_hasSweetsOf 21 = .ok (.iaload, 1) := by decide +kernel
theorem d_Ring_hasSweetsOf_22 : decode b_Ring_hasSweetsOf 22 = .ok (.if_icmp .eq 5, 3) := by decide +kernel
theorem d_Ring_hasSweetsOf_25 : decode b_Ring_hasSweetsOf 25 = .ok (.iconst 0, 1) := by decide +kernel
theorem d_Ring_hasSweetsOf_26 : decode b_Ring_hasSweetsOf 26 = .ok (.ireturn, 1) := by decide +kernel
theorem d_Ring_hasSweetsOf_27 : decode b_Ring_hasSweetsOf 27 = .ok (.iinc 2 1, 3) := by decide +kernel
theorem d_Ring_hasSweetsOf_30 : decode b_Ring_hasSweetsOf 30 = .ok (.goto (-28), 3) := by decide +kernel
theorem d_Ring_hasSweetsOf_33 : decode b_Ring_hasSweetsOf 33 = .ok (.iconst 1, 1) := by decide +kernel
theorem d_Ring_hasSweetsOf_34 : decode b_Ring_hasSweetsOf 34 = .ok (.ireturn, 1) := by decide +kernel
set_option maxHeartbeats 4000000 in
set_option maxRecDepth 100000 in
theorem c_Ring_hasSweetsOf {l : Launch} {D : va_G} {cI cJ cC : ClassId} (a_h a_h_kinds a_h_sweets a_h_settings a_h_heaps a_g1 a_g1_kinds a_g1_sweets a_g1_settings a_g1_heaps : Nat) {z_h : RS} {z_g1 : RS} {q : Int32} (hf : f_Ring_hasSweetsOf z_h z_g1 = some q) : xI l y_Ring_hasSweetsOf b_Ring_hasSweetsOf 3 .boolean 0 0 D (tyK cI cJ cC) xE0 [.ref a_h, .ref a_g1] (w_Ring_hasSweetsOf cI cJ cC a_h a_h_kinds a_h_sweets a_h_settings a_h_heaps a_g1 a_g1_kinds a_g1_sweets a_g1_settings a_g1_heaps (r_children z_h) (r_strokes z_h) (r_gave z_h) (r_threw z_h) (r_sweets z_h) (r_children z_g1) (r_strokes z_g1) (r_gave z_g1) (r_threw z_g1) (r_sweets z_g1)) q (w_Ring_hasSweetsOf cI cJ cC a_h a_h_kinds a_h_sweets a_h_settings a_h_heaps a_g1 a_g1_kinds a_g1_sweets a_g1_settings a_g1_heaps (r_children z_h) (r_strokes z_h) (r_gave z_h) (r_threw z_h) (r_sweets z_h) (r_children z_g1) (r_strokes z_g1) (r_gave z_g1) (r_threw z_g1) (r_sweets z_g1)) := by
  refine xI_of (by decide) (Nat.le_of_ble_eq_true rfl) ?_
  intro p e s m args below meth c A Q hx hb hml hown hT hA hP hD hK hS hE hret ls hl
  have hown : s.vm.findClass R_Ring = some m.cls := hown
  have hl : lv_has ls 3 [(0, .ref a_h), (1, .ref a_g1)] := hl
  unfold f_Ring_hasSweetsOf at hf
  have L2 : ∀ (n : Nat) (x2 : Int32) (H : Heap) (locs : List Loc) (ls : Array Slot), f_Ring_hasSweetsOf_L2 z_h z_g1 n x2 = some q → va_P D classes (w_Ring_hasSweetsOf cI cJ cC a_h a_h_kinds a_h_sweets a_h_settings a_h_heaps a_g1 a_g1_kinds a_g1_sweets a_g1_settings a_g1_heaps (r_children z_h) (r_strokes z_h) (r_gave z_h) (r_threw z_h) (r_sweets z_h) (r_children z_g1) (r_strokes z_g1) (r_gave z_g1) (r_threw z_g1) (r_sweets z_g1)) H → va_D A (w_Ring_hasSweetsOf cI cJ cC a_h a_h_kinds a_h_sweets a_h_settings a_h_heaps a_g1 a_g1_kinds a_g1_sweets a_g1_settings a_g1_heaps (r_children z_h) (r_strokes z_h) (r_gave z_h) (r_threw z_h) (r_sweets z_h) (r_children z_g1) (r_strokes z_g1) (r_gave z_g1) (r_threw z_g1) (r_sweets z_g1)) → va_S A s.heap H locs → lv_has ls 3 [(0, .ref a_h), (1, .ref a_g1), (2, .int x2)] → W p l e (xRm 0 0) s m args below meth c H locs 0 0 Q (F0 m 2 ls []) := by
    intro n
    induction n with
    | zero => intro x2 H locs ls hf hP hD hS hl; exact nomatch (show (none : Option (Int32)) = some q from hf)
    | succ n ih =>
      intro x2 H locs ls hf hP hD hS hl
      refine lv_iload_n hx hb d_Ring_hasSweetsOf_2 rfl (lv_at hl 2 rfl) ?_
      refine lv_aload_n hx hb d_Ring_hasSweetsOf_3 rfl (lv_at hl 0 rfl) ?_
      refine va_get hx hb hT i_Ring hown hK hP 0 rfl rfl 3 (Nat.le_of_ble_eq_true rfl) (hT _ k_38) (fun _ h => h) rfl d_Ring_hasSweetsOf_4 ?_
      refine lv_icmp_ge (tgt := 33) hx hb d_Ring_hasSweetsOf_7 (by decide) (fun c1 => ?_) (fun c1 => ?_)
      · have hf := io_t hf c1
        refine lv_iconst (v := 1) hx hb d_Ring_hasSweetsOf_33 (by decide) ?_
        have hq := Option.some.inj hf
        subst hq
        exact hret _ _ _ _ _ d_Ring_hasSweetsOf_34 (by decide) rfl hP hD hS
      · have hf := io_f hf c1
        refine lv_aload_n hx hb d_Ring_hasSweetsOf_10 rfl (lv_at hl 0 rfl) ?_
        refine va_get hx hb hT i_Ring hown hK hP 0 rfl rfl 1 (Nat.le_of_ble_eq_true rfl) (hT _ k_31) (fun _ h => h) rfl d_Ring_hasSweetsOf_11 ?_
        refine lv_iload_n hx hb d_Ring_hasSweetsOf_14 rfl (lv_at hl 2 rfl) ?_
        obtain ⟨c2, hf⟩ := io_n hf
        refine x_iald hx hb hK hP 1 0 rfl rfl (j := x2.toNatClampNeg) rfl c2 d_Ring_hasSweetsOf_15 ?_
        refine lv_aload_n hx hb d_Ring_hasSweetsOf_16 rfl (lv_at hl 1 rfl) ?_
        refine va_get hx hb hT i_Ring hown hK hP 2 rfl rfl 1 (Nat.le_of_ble_eq_true rfl) (hT _ k_31) (fun _ h => h) rfl d_Ring_hasSweetsOf_17 ?_
        refine lv_iload_n hx hb d_Ring_hasSweetsOf_20 rfl (lv_at hl 2 rfl) ?_
        refine x_iald hx hb hK hP 3 0 rfl rfl (j := x2.toNatClampNeg) rfl c2 d_Ring_hasSweetsOf_21 ?_
        refine lv_icmp_eq (tgt := 27) hx hb d_Ring_hasSweetsOf_22 (by decide) (fun c3 => ?_) (fun c3 => ?_)
        · have hf := io_t hf c3
          refine lv_iinc (v := (x2 + 1)) (lv' := [(2, .int (x2 + 1)), (0, .ref a_h), (1, .ref a_g1)]) hx hb d_Ring_hasSweetsOf_27 hl (k := 2) rfl (by rfl) (by decide) rfl (fun ls hl => ?_)
          refine lv_goto (tgt := 2) hx hb d_Ring_hasSweetsOf_30 (by decide) ?_
          exact ih (x2 + 1) _ _ _ hf hP hD hS (lv_sub hl [1, 2, 0] rfl)
        · have hf := io_f hf c3
          refine lv_iconst (v := 0) hx hb d_Ring_hasSweetsOf_25 (by decide) ?_
          have hq := Option.some.inj hf
          subst hq
          exact hret _ _ _ _ _ d_Ring_hasSweetsOf_26 (by decide) rfl hP hD hS
  refine lv_iconst (v := 0) hx hb d_Ring_hasSweetsOf_0 (by decide) ?_
  refine lv_istore_n (lv' := [(2, .int 0), (0, .ref a_h), (1, .ref a_g1)]) hx hb d_Ring_hasSweetsOf_1 rfl hl (by decide) rfl (fun ls hl => ?_)
  exact L2 FU 0 _ _ _ hf hP hD hS (lv_sub hl [1, 2, 0] rfl)
abbrev w_Ring_allHaveAlike (cI cJ cC : ClassId) (a_h a_h_kinds a_h_sweets a_h_settings a_h_heaps : Nat) (p_h_children : Int32) (p_h_strokes : Int32) (p_h_gave : Int32) (p_h_threw : Int32) (p_h_sweets : (Nat → Int32)) : va_W := [(a_h, .inr (1, [.ref a_h_kinds, .ref a_h_sweets, .ref a_h_settings, .int p_h_children, .int p_h_strokes, .int p_h_gave, .int p_h_threw, .ref a_h_heaps])), (a_h_sweets, .inl (cI, (8, .inl p_h_sweets)))]
theorem d_Ring_allHaveAlike_0 : decode b_Ring_allHaveAlike 0 = .ok (.iconst 1, 1) := by decide +kernel
theorem d_Ring_allHaveAlike_1 : decode b_Ring_allHaveAlike 1 = .ok (.istore_n 1, 1) := by decide +kernel
theorem d_Ring_allHaveAlike_2 : decode b_Ring_allHaveAlike 2 = .ok (.iload_n 1, 1) := by decide +kernel
theorem d_Ring_allHaveAlike_3 : decode b_Ring_allHaveAlike 3 = .ok (.aload_n 0, 1) := by decide +kernel
theorem d_Ring_allHaveAlike_4 : decode b_Ring_allHaveAlike 4 = .ok (.getfield 21, 3) := by decide +kernel
theorem d_Ring_allHaveAlike_7 : decode b_Ring_allHaveAlike 7 = .ok (.if_icmp .ge 26, 3) := by decide +kernel
theorem d_Ring_allHaveAlike_10 : decode b_Ring_allHaveAlike 10 = .ok (.aload_n 0, 1) := by decide +kernel
theorem d_Ring_allHaveAlike_11 : decode b_Ring_allHaveAlike 11 = .ok (.getfield 15, 3) := by decide +kernel
theorem d_Ring_allHaveAlike_14 : decode b_Ring_allHaveAlike 14 = .ok (.iload_n 1, 1) := by decide +kernel
theorem d_Ring_allHaveAlike_15 : decode b_Ring_allHaveAlike 15 = .ok (.iaload, 1) := by decide +kernel
theorem d_Ring_allHaveAlike_16 : decode b_Ring_allHaveAlike 16 = .ok (.aload_n 0, 1) := by decide +kernel
theorem d_Ring_allHaveAlike_17 : decode b_Ring_allHaveAlike 17 = .ok (.getfield 15, 3) := by decide +kernel
theorem d_Ring_allHaveAlike_20 : decode b_Ring_allHaveAlike 20 = .ok (.iconst 0, 1) := by decide +kernel
theorem d_Ring_allHaveAlike_21 : decode b_Ring_allHaveAlike 21 = .ok (.iaload, 1) := by decide +kernel
theorem d_Ring_allHaveAlike_22 : decode b_Ring_allHaveAlike 22 = .ok (.if_icmp .eq 5, 3) := by decide +kernel
theorem d_Ring_allHaveAlike_25 : decode b_Ring_allHaveAlike 25 = .ok (.iconst 0, 1) := by decide +kernel
theorem d_Ring_allHaveAlike_26 : decode b_Ring_allHaveAlike 26 = .ok (.ireturn, 1) := by decide +kernel
theorem d_Ring_allHaveAlike_27 : decode b_Ring_allHaveAlike 27 = .ok (.iinc 1 1, 3) := by decide +kernel
theorem d_Ring_allHaveAlike_30 : decode b_Ring_allHaveAlike 30 = .ok (.goto (-28), 3) := by decide +kernel
theorem d_Ring_allHaveAlike_33 : decode b_Ring_allHaveAlike 33 = .ok (.iconst 1, 1) := by decide +kernel
theorem d_Ring_allHaveAlike_34 : decode b_Ring_allHaveAlike 34 = .ok (.ireturn, 1) := by decide +kernel
set_option maxHeartbeats 4000000 in
set_option maxRecDepth 100000 in
theorem c_Ring_allHaveAlike {l : Launch} {D : va_G} {cI cJ cC : ClassId} (a_h a_h_kinds a_h_sweets a_h_settings a_h_heaps : Nat) {z_h : RS} {q : Int32} (hf : f_Ring_allHaveAlike z_h = some q) : xI l y_Ring_allHaveAlike b_Ring_allHaveAlike 2 .boolean 0 0 D (tyK cI cJ cC) xE0 [.ref a_h] (w_Ring_allHaveAlike cI cJ cC a_h a_h_kinds a_h_sweets a_h_settings a_h_heaps (r_children z_h) (r_strokes z_h) (r_gave z_h) (r_threw z_h) (r_sweets z_h)) q (w_Ring_allHaveAlike cI cJ cC a_h a_h_kinds a_h_sweets a_h_settings a_h_heaps (r_children z_h) (r_strokes z_h) (r_gave z_h) (r_threw z_h) (r_sweets z_h)) := by
  refine xI_of (by decide) (Nat.le_of_ble_eq_true rfl) ?_
  intro p e s m args below meth c A Q hx hb hml hown hT hA hP hD hK hS hE hret ls hl
  have hown : s.vm.findClass R_Ring = some m.cls := hown
  have hl : lv_has ls 2 [(0, .ref a_h)] := hl
  unfold f_Ring_allHaveAlike at hf
  have L2 : ∀ (n : Nat) (x1 : Int32) (H : Heap) (locs : List Loc) (ls : Array Slot), f_Ring_allHaveAlike_L2 z_h n x1 = some q → va_P D classes (w_Ring_allHaveAlike cI cJ cC a_h a_h_kinds a_h_sweets a_h_settings a_h_heaps (r_children z_h) (r_strokes z_h) (r_gave z_h) (r_threw z_h) (r_sweets z_h)) H → va_D A (w_Ring_allHaveAlike cI cJ cC a_h a_h_kinds a_h_sweets a_h_settings a_h_heaps (r_children z_h) (r_strokes z_h) (r_gave z_h) (r_threw z_h) (r_sweets z_h)) → va_S A s.heap H locs → lv_has ls 2 [(0, .ref a_h), (1, .int x1)] → W p l e (xRm 0 0) s m args below meth c H locs 0 0 Q (F0 m 2 ls []) := by
    intro n
    induction n with
    | zero => intro x1 H locs ls hf hP hD hS hl; exact nomatch (show (none : Option (Int32)) = some q from hf)
    | succ n ih =>
      intro x1 H locs ls hf hP hD hS hl
      refine lv_iload_n hx hb d_Ring_allHaveAlike_2 rfl (lv_at hl 1 rfl) ?_
      refine lv_aload_n hx hb d_Ring_allHaveAlike_3 rfl (lv_at hl 0 rfl) ?_
      refine va_get hx hb hT i_Ring hown hK hP 0 rfl rfl 3 (Nat.le_of_ble_eq_true rfl) (hT _ k_38) (fun _ h => h) rfl d_Ring_allHaveAlike_4 ?_
      refine lv_icmp_ge (tgt := 33) hx hb d_Ring_allHaveAlike_7 (by decide) (fun c1 => ?_) (fun c1 => ?_)
      · have hf := io_t hf c1
        refine lv_iconst (v := 1) hx hb d_Ring_allHaveAlike_33 (by decide) ?_
        have hq := Option.some.inj hf
        subst hq
        exact hret _ _ _ _ _ d_Ring_allHaveAlike_34 (by decide) rfl hP hD hS
      · have hf := io_f hf c1
        refine lv_aload_n hx hb d_Ring_allHaveAlike_10 rfl (lv_at hl 0 rfl) ?_
        refine va_get hx hb hT i_Ring hown hK hP 0 rfl rfl 1 (Nat.le_of_ble_eq_true rfl) (hT _ k_31) (fun _ h => h) rfl d_Ring_allHaveAlike_11 ?_
        refine lv_iload_n hx hb d_Ring_allHaveAlike_14 rfl (lv_at hl 1 rfl) ?_
        obtain ⟨c2, hf⟩ := io_n hf
        refine x_iald hx hb hK hP 1 0 rfl rfl (j := x1.toNatClampNeg) rfl c2 d_Ring_allHaveAlike_15 ?_
        refine lv_aload_n hx hb d_Ring_allHaveAlike_16 rfl (lv_at hl 0 rfl) ?_
        refine va_get hx hb hT i_Ring hown hK hP 0 rfl rfl 1 (Nat.le_of_ble_eq_true rfl) (hT _ k_31) (fun _ h => h) rfl d_Ring_allHaveAlike_17 ?_
        refine lv_iconst (v := 0) hx hb d_Ring_allHaveAlike_20 (by decide) ?_
        refine x_iald hx hb hK hP 1 0 rfl rfl (j := 0) (by decide +kernel) (by unfold vp_in; decide +kernel) d_Ring_allHaveAlike_21 ?_
        refine lv_icmp_eq (tgt := 27) hx hb d_Ring_allHaveAlike_22 (by decide) (fun c3 => ?_) (fun c3 => ?_)
        · have hf := io_t hf c3
          refine lv_iinc (v := (x1 + 1)) (lv' := [(1, .int (x1 + 1)), (0, .ref a_h)]) hx hb d_Ring_allHaveAlike_27 hl (k := 1) rfl (by rfl) (by decide) rfl (fun ls hl => ?_)
          refine lv_goto (tgt := 2) hx hb d_Ring_allHaveAlike_30 (by decide) ?_
          exact ih (x1 + 1) _ _ _ hf hP hD hS (lv_sub hl [1, 0] rfl)
        · have hf := io_f hf c3
          refine lv_iconst (v := 0) hx hb d_Ring_allHaveAlike_25 (by decide) ?_
          have hq := Option.some.inj hf
          subst hq
          exact hret _ _ _ _ _ d_Ring_allHaveAlike_26 (by decide) rfl hP hD hS
  refine lv_iconst (v := 1) hx hb d_Ring_allHaveAlike_0 (by decide) ?_
  refine lv_istore_n (lv' := [(1, .int 1), (0, .ref a_h)]) hx hb d_Ring_allHaveAlike_1 rfl hl (by decide) rfl (fun ls hl => ?_)
  exact L2 FU 1 _ _ _ hf hP hD hS (lv_sub hl [1, 0] rfl)
abbrev w_Ring_hasSweetsAndBagOf (cI cJ cC : ClassId) (a_h a_h_kinds a_h_sweets a_h_settings a_h_heaps a_g1 a_g1_kinds a_g1_sweets a_g1_settings a_g1_heaps : Nat) (p_h_children : Int32) (p_h_strokes : Int32) (p_h_gave : Int32) (p_h_threw : Int32) (p_h_sweets : (Nat → Int32)) (p_h_settings : (Nat → Int32)) (p_g1_children : Int32) (p_g1_strokes : Int32) (p_g1_gave : Int32) (p_g1_threw : Int32) (p_g1_sweets : (Nat → Int32)) (p_g1_settings : (Nat → Int32)) : va_W := [(a_h, .inr (1, [.ref a_h_kinds, .ref a_h_sweets, .ref a_h_settings, .int p_h_children, .int p_h_strokes, .int p_h_gave, .int p_h_threw, .ref a_h_heaps])), (a_h_sweets, .inl (cI, (8, .inl p_h_sweets))), (a_h_settings, .inl (cI, (3, .inl p_h_settings))), (a_g1, .inr (1, [.ref a_g1_kinds, .ref a_g1_sweets, .ref a_g1_settings, .int p_g1_children, .int p_g1_strokes, .int p_g1_gave, .int p_g1_threw, .ref a_g1_heaps])), (a_g1_sweets, .inl (cI, (8, .inl p_g1_sweets))), (a_g1_settings, .inl (cI, (3, .inl p_g1_settings)))]
theorem d_Ring_hasSweetsAndBagOf_0 : decode b_Ring_hasSweetsAndBagOf 0 = .ok (.aload_n 0, 1) := by decide +kernel
theorem d_Ring_hasSweetsAndBagOf_1 : decode b_Ring_hasSweetsAndBagOf 1 = .ok (.getfield 18, 3) := by decide +kernel
theorem d_Ring_hasSweetsAndBagOf_4 : decode b_Ring_hasSweetsAndBagOf 4 = .ok (.iconst 2, 1) := by decide +kernel
theorem d_Ring_hasSweetsAndBagOf_5 : decode b_Ring_hasSweetsAndBagOf 5 = .ok (.iaload, 1) := by decide +kernel
theorem d_Ring_hasSweetsAndBagOf_6 : decode b_Ring_hasSweetsAndBagOf 6 = .ok (.aload_n 1, 1) := by decide +kernel
theorem d_Ring_hasSweetsAndBagOf_7 : decode b_Ring_hasSweetsAndBagOf 7 = .ok (.getfield 18, 3) := by decide +kernel
theorem d_Ring_hasSweetsAndBagOf_10 : decode b_Ring_hasSweetsAndBagOf 10 = .ok (.iconst 2, 1) := by decide +kernel
theorem d_Ring_hasSweetsAndBagOf_11 : decode b_Ring_hasSweetsAndBagOf 11 = .ok (.iaload, 1) := by decide +kernel
theorem d_Ring_hasSweetsAndBagOf_12 : decode b_Ring_hasSweetsAndBagOf 12 = .ok (.if_icmp .ne 15, 3) := by decide +kernel
theorem d_Ring_hasSweetsAndBagOf_15 : decode b_Ring_hasSweetsAndBagOf 15 = .ok (.aload_n 0, 1) := by decide +kernel
theorem d_Ring_hasSweetsAndBagOf_16 : decode b_Ring_hasSweetsAndBagOf 16 = .ok (.aload_n 1, 1) := by decide +kernel
theorem d_Ring_hasSweetsAndBagOf_17 : decode b_Ring_hasSweetsAndBagOf 17 = .ok (.invokevirtual 77, 3) := by decide +kernel
theorem d_Ring_hasSweetsAndBagOf_20 : decode b_Ring_hasSweetsAndBagOf 20 = .ok (.ifCond .eq 7, 3) := by decide +kernel
theorem d_Ring_hasSweetsAndBagOf_23 : decode b_Ring_hasSweetsAndBagOf 23 = .ok (.iconst 1, 1) := by decide +kernel
theorem d_Ring_hasSweetsAndBagOf_24 : decode b_Ring_hasSweetsAndBagOf 24 = .ok (.goto 4, 3) := by decide +kernel
theorem d_Ring_hasSweetsAndBagOf_27 : decode b_Ring_hasSweetsAndBagOf 27 = .ok (.iconst 0, 1) := by decide +kernel
theorem d_Ring_hasSweetsAndBagOf_28 : decode b_Ring_hasSweetsAndBagOf 28 = .ok (.ireturn, 1) := by decide +kernel
set_option maxHeartbeats 4000000 in
set_option maxRecDepth 100000 in
theorem c_Ring_hasSweetsAndBagOf {l : Launch} {D : va_G} {cI cJ cC : ClassId} (a_h a_h_kinds a_h_sweets a_h_settings a_h_heaps a_g1 a_g1_kinds a_g1_sweets a_g1_settings a_g1_heaps : Nat) {z_h : RS} {z_g1 : RS} {q : Int32} (hf : f_Ring_hasSweetsAndBagOf z_h z_g1 = some q) : xI l y_Ring_hasSweetsAndBagOf b_Ring_hasSweetsAndBagOf 2 .boolean 1 22 D (tyK cI cJ cC) xE0 [.ref a_h, .ref a_g1] (w_Ring_hasSweetsAndBagOf cI cJ cC a_h a_h_kinds a_h_sweets a_h_settings a_h_heaps a_g1 a_g1_kinds a_g1_sweets a_g1_settings a_g1_heaps (r_children z_h) (r_strokes z_h) (r_gave z_h) (r_threw z_h) (r_sweets z_h) (r_settings z_h) (r_children z_g1) (r_strokes z_g1) (r_gave z_g1) (r_threw z_g1) (r_sweets z_g1) (r_settings z_g1)) q (w_Ring_hasSweetsAndBagOf cI cJ cC a_h a_h_kinds a_h_sweets a_h_settings a_h_heaps a_g1 a_g1_kinds a_g1_sweets a_g1_settings a_g1_heaps (r_children z_h) (r_strokes z_h) (r_gave z_h) (r_threw z_h) (r_sweets z_h) (r_settings z_h) (r_children z_g1) (r_strokes z_g1) (r_gave z_g1) (r_threw z_g1) (r_sweets z_g1) (r_settings z_g1)) := by
  refine xI_of (by decide) (Nat.le_of_ble_eq_true rfl) ?_
  intro p e s m args below meth c A Q hx hb hml hown hT hA hP hD hK hS hE hret ls hl
  have hown : s.vm.findClass R_Ring = some m.cls := hown
  have hl : lv_has ls 2 [(0, .ref a_h), (1, .ref a_g1)] := hl
  unfold f_Ring_hasSweetsAndBagOf at hf
  refine lv_aload_n hx hb d_Ring_hasSweetsAndBagOf_0 rfl (lv_at hl 0 rfl) ?_
  refine va_get hx hb hT i_Ring hown hK hP 0 rfl rfl 2 (Nat.le_of_ble_eq_true rfl) (hT _ k_35) (fun _ h => h) rfl d_Ring_hasSweetsAndBagOf_1 ?_
  refine lv_iconst (v := 2) hx hb d_Ring_hasSweetsAndBagOf_4 (by decide) ?_
  refine x_iald hx hb hK hP 2 0 rfl rfl (j := 2) (by decide +kernel) (by unfold vp_in; decide +kernel) d_Ring_hasSweetsAndBagOf_5 ?_
  refine lv_aload_n hx hb d_Ring_hasSweetsAndBagOf_6 rfl (lv_at hl 1 rfl) ?_
  refine va_get hx hb hT i_Ring hown hK hP 3 rfl rfl 2 (Nat.le_of_ble_eq_true rfl) (hT _ k_35) (fun _ h => h) rfl d_Ring_hasSweetsAndBagOf_7 ?_
  refine lv_iconst (v := 2) hx hb d_Ring_hasSweetsAndBagOf_10 (by decide) ?_
  refine x_iald hx hb hK hP 5 0 rfl rfl (j := 2) (by decide +kernel) (by unfold vp_in; decide +kernel) d_Ring_hasSweetsAndBagOf_11 ?_
  refine lv_icmp_ne (tgt := 27) hx hb d_Ring_hasSweetsAndBagOf_12 (by decide) (fun c1 => ?_) (fun c1 => ?_)
  · have hf := io_f hf c1
    refine lv_iconst (v := 0) hx hb d_Ring_hasSweetsAndBagOf_27 (by decide) ?_
    have hq := Option.some.inj hf
    subst hq
    exact hret _ _ _ _ _ d_Ring_hasSweetsAndBagOf_28 (by decide) rfl hP hD hS
  · have hf := io_t hf c1
    refine lv_aload_n hx hb d_Ring_hasSweetsAndBagOf_15 rfl (lv_at hl 0 rfl) ?_
    refine lv_aload_n hx hb d_Ring_hasSweetsAndBagOf_16 rfl (lv_at hl 1 rfl) ?_
    obtain ⟨q2, hq2, hf⟩ := io_b hf
    refine xcVI (wc := (w_Ring_hasSweetsOf cI cJ cC a_h a_h_kinds a_h_sweets a_h_settings a_h_heaps a_g1 a_g1_kinds a_g1_sweets a_g1_settings a_g1_heaps (r_children z_h) (r_strokes z_h) (r_gave z_h) (r_threw z_h) (r_sweets z_h) (r_children z_g1) (r_strokes z_g1) (r_gave z_g1) (r_threw z_g1) (r_sweets z_g1))) (wc' := (w_Ring_hasSweetsOf cI cJ cC a_h a_h_kinds a_h_sweets a_h_settings a_h_heaps a_g1 a_g1_kinds a_g1_sweets a_g1_settings a_g1_heaps (r_children z_h) (r_strokes z_h) (r_gave z_h) (r_threw z_h) (r_sweets z_h) (r_children z_g1) (r_strokes z_g1) (r_gave z_g1) (r_threw z_g1) (r_sweets z_g1))) (ws' := (w_Ring_hasSweetsAndBagOf cI cJ cC a_h a_h_kinds a_h_sweets a_h_settings a_h_heaps a_g1 a_g1_kinds a_g1_sweets a_g1_settings a_g1_heaps (r_children z_h) (r_strokes z_h) (r_gave z_h) (r_threw z_h) (r_sweets z_h) (r_settings z_h) (r_children z_g1) (r_strokes z_g1) (r_gave z_g1) (r_threw z_g1) (r_sweets z_g1) (r_settings z_g1))) (As := [.ref a_g1]) (rest := []) hx hb hml hown hT (c_Ring_hasSweetsOf (z_h := z_h) (z_g1 := z_g1) a_h a_h_kinds a_h_sweets a_h_settings a_h_heaps a_g1 a_g1_kinds a_g1_sweets a_g1_settings a_g1_heaps hq2) k_316 k_286 k_287 k_2 k_288 hd_Ring_hasSweetsOf ⟨Nat.le_of_ble_eq_true rfl, Nat.le_of_ble_eq_true rfl⟩ xE0_ok trivial hA hK hP hD hS [0, 1, 3, 4] [2, 5] [2, 3, 0, 4, 5, 1] rfl rfl rfl rfl rfl rfl rfl rfl rfl rfl hl.1 rfl (Nat.le_of_ble_eq_true rfl) ⟨Nat.zero_le _, Nat.zero_le _⟩ d_Ring_hasSweetsAndBagOf_17 (fun H locs hP hD hS => ?_)
    refine lv_if_eq (tgt := 27) hx hb d_Ring_hasSweetsAndBagOf_20 (by decide) (fun c3 => ?_) (fun c3 => ?_)
    · have hf := io_t hf c3
      refine lv_iconst (v := 0) hx hb d_Ring_hasSweetsAndBagOf_27 (by decide) ?_
      have hq := Option.some.inj hf
      subst hq
      exact hret _ _ _ _ _ d_Ring_hasSweetsAndBagOf_28 (by decide) rfl hP hD hS
    · have hf := io_f hf c3
      refine lv_iconst (v := 1) hx hb d_Ring_hasSweetsAndBagOf_23 (by decide) ?_
      refine lv_goto (tgt := 28) hx hb d_Ring_hasSweetsAndBagOf_24 (by decide) ?_
      have hq := Option.some.inj hf
      subst hq
      exact hret _ _ _ _ _ d_Ring_hasSweetsAndBagOf_28 (by decide) rfl hP hD hS
abbrev w_Ring_allSweets (cI cJ cC : ClassId) (a_h a_h_kinds a_h_sweets a_h_settings a_h_heaps : Nat) (p_h_children : Int32) (p_h_strokes : Int32) (p_h_gave : Int32) (p_h_threw : Int32) (p_h_sweets : (Nat → Int32)) : va_W := [(a_h, .inr (1, [.ref a_h_kinds, .ref a_h_sweets, .ref a_h_settings, .int p_h_children, .int p_h_strokes, .int p_h_gave, .int p_h_threw, .ref a_h_heaps])), (a_h_sweets, .inl (cI, (8, .inl p_h_sweets)))]
theorem d_Ring_allSweets_0 : decode b_Ring_allSweets 0 = .ok (.iconst 0, 1) := by decide +kernel
theorem d_Ring_allSweets_1 : decode b_Ring_allSweets 1 = .ok (.istore_n 1, 1) := by decide +kernel
theorem d_Ring_allSweets_2 : decode b_Ring_allSweets 2 = .ok (.iconst 0, 1) := by decide +kernel
theorem d_Ring_allSweets_3 : decode b_Ring_allSweets 3 = .ok (.istore_n 2, 1) := by decide +kernel
theorem d_Ring_allSweets_4 : decode b_Ring_allSweets 4 = .ok (.iload_n 2, 1) := by decide +kernel
theorem d_Ring_allSweets_5 : decode b_Ring_allSweets 5 = .ok (.aload_n 0, 1) := by decide +kernel
theorem d_Ring_allSweets_6 : decode b_Ring_allSweets 6 = .ok (.getfield 21, 3) := by decide +kernel
theorem d_Ring_allSweets_9 : decode b_Ring_allSweets 9 = .ok (.if_icmp .ge 18, 3) := by decide +kernel
theorem d_Ring_allSweets_12 : decode b_Ring_allSweets 12 = .ok (.iload_n 1, 1) := by decide +kernel
theorem d_Ring_allSweets_13 : decode b_Ring_allSweets 13 = .ok (.aload_n 0, 1) := by decide +kernel
theorem d_Ring_allSweets_14 : decode b_Ring_allSweets 14 = .ok (.getfield 15, 3) := by decide +kernel
theorem d_Ring_allSweets_17 : decode b_Ring_allSweets 17 = .ok (.iload_n 2, 1) := by decide +kernel
theorem d_Ring_allSweets_18 : decode b_Ring_allSweets 18 = .ok (.iaload, 1) := by decide +kernel
theorem d_Ring_allSweets_19 : decode b_Ring_allSweets 19 = .ok (.iadd, 1) := by decide +kernel
theorem d_Ring_allSweets_20 : decode b_Ring_allSweets 20 = .ok (.istore_n 1, 1) := by decide +kernel
theorem d_Ring_allSweets_21 : decode b_Ring_allSweets 21 = .ok (.iinc 2 1, 3) := by decide +kernel
theorem d_Ring_allSweets_24 : decode b_Ring_allSweets 24 = .ok (.goto (-20), 3) := by decide +kernel
theorem d_Ring_allSweets_27 : decode b_Ring_allSweets 27 = .ok (.iload_n 1, 1) := by decide +kernel
theorem d_Ring_allSweets_28 : decode b_Ring_allSweets 28 = .ok (.ireturn, 1) := by decide +kernel
set_option maxHeartbeats 4000000 in
set_option maxRecDepth 100000 in
theorem c_Ring_allSweets {l : Launch} {D : va_G} {cI cJ cC : ClassId} (a_h a_h_kinds a_h_sweets a_h_settings a_h_heaps : Nat) {z_h : RS} {q : Int32} (hf : f_Ring_allSweets z_h = some q) : xI l y_Ring_allSweets b_Ring_allSweets 3 .int 0 0 D (tyK cI cJ cC) xE0 [.ref a_h] (w_Ring_allSweets cI cJ cC a_h a_h_kinds a_h_sweets a_h_settings a_h_heaps (r_children z_h) (r_strokes z_h) (r_gave z_h) (r_threw z_h) (r_sweets z_h)) q (w_Ring_allSweets cI cJ cC a_h a_h_kinds a_h_sweets a_h_settings a_h_heaps (r_children z_h) (r_strokes z_h) (r_gave z_h) (r_threw z_h) (r_sweets z_h)) := by
  refine xI_of (by decide) (Nat.le_of_ble_eq_true rfl) ?_
  intro p e s m args below meth c A Q hx hb hml hown hT hA hP hD hK hS hE hret ls hl
  have hown : s.vm.findClass R_Ring = some m.cls := hown
  have hl : lv_has ls 3 [(0, .ref a_h)] := hl
  unfold f_Ring_allSweets at hf
  have L4 : ∀ (n : Nat) (x1 : Int32) (x2 : Int32) (H : Heap) (locs : List Loc) (ls : Array Slot), f_Ring_allSweets_L4 z_h n x1 x2 = some q → va_P D classes (w_Ring_allSweets cI cJ cC a_h a_h_kinds a_h_sweets a_h_settings a_h_heaps (r_children z_h) (r_strokes z_h) (r_gave z_h) (r_threw z_h) (r_sweets z_h)) H → va_D A (w_Ring_allSweets cI cJ cC a_h a_h_kinds a_h_sweets a_h_settings a_h_heaps (r_children z_h) (r_strokes z_h) (r_gave z_h) (r_threw z_h) (r_sweets z_h)) → va_S A s.heap H locs → lv_has ls 3 [(0, .ref a_h), (1, .int x1), (2, .int x2)] → W p l e (xRm 0 0) s m args below meth c H locs 0 0 Q (F0 m 4 ls []) := by
    intro n
    induction n with
    | zero => intro x1 x2 H locs ls hf hP hD hS hl; exact nomatch (show (none : Option (Int32)) = some q from hf)
    | succ n ih =>
      intro x1 x2 H locs ls hf hP hD hS hl
      refine lv_iload_n hx hb d_Ring_allSweets_4 rfl (lv_at hl 2 rfl) ?_
      refine lv_aload_n hx hb d_Ring_allSweets_5 rfl (lv_at hl 0 rfl) ?_
      refine va_get hx hb hT i_Ring hown hK hP 0 rfl rfl 3 (Nat.le_of_ble_eq_true rfl) (hT _ k_38) (fun _ h => h) rfl d_Ring_allSweets_6 ?_
      refine lv_icmp_ge (tgt := 27) hx hb d_Ring_allSweets_9 (by decide) (fun c1 => ?_) (fun c1 => ?_)
      · have hf := io_t hf c1
        refine lv_iload_n hx hb d_Ring_allSweets_27 rfl (lv_at hl 1 rfl) ?_
        have hq := Option.some.inj hf
        subst hq
        exact hret _ _ _ _ _ d_Ring_allSweets_28 rfl rfl hP hD hS
      · have hf := io_f hf c1
        refine lv_iload_n hx hb d_Ring_allSweets_12 rfl (lv_at hl 1 rfl) ?_
        refine lv_aload_n hx hb d_Ring_allSweets_13 rfl (lv_at hl 0 rfl) ?_
        refine va_get hx hb hT i_Ring hown hK hP 0 rfl rfl 1 (Nat.le_of_ble_eq_true rfl) (hT _ k_31) (fun _ h => h) rfl d_Ring_allSweets_14 ?_
        refine lv_iload_n hx hb d_Ring_allSweets_17 rfl (lv_at hl 2 rfl) ?_
        obtain ⟨c2, hf⟩ := io_n hf
        refine x_iald hx hb hK hP 1 0 rfl rfl (j := x2.toNatClampNeg) rfl c2 d_Ring_allSweets_18 ?_
        refine lv_iadd hx hb d_Ring_allSweets_19 ?_
        refine lv_istore_n (lv' := [(1, .int (x1 + ((r_sweets z_h) x2.toNatClampNeg))), (0, .ref a_h), (2, .int x2)]) hx hb d_Ring_allSweets_20 rfl hl (by decide) rfl (fun ls hl => ?_)
        refine lv_iinc (v := (x2 + 1)) (lv' := [(2, .int (x2 + 1)), (1, .int (x1 + ((r_sweets z_h) x2.toNatClampNeg))), (0, .ref a_h)]) hx hb d_Ring_allSweets_21 hl (k := 2) rfl (by rfl) (by decide) rfl (fun ls hl => ?_)
        refine lv_goto (tgt := 4) hx hb d_Ring_allSweets_24 (by decide) ?_
        exact ih (x1 + ((r_sweets z_h) x2.toNatClampNeg)) (x2 + 1) _ _ _ hf hP hD hS (lv_sub hl [2, 1, 0] rfl)
  refine lv_iconst (v := 0) hx hb d_Ring_allSweets_0 (by decide) ?_
  refine lv_istore_n (lv' := [(1, .int 0), (0, .ref a_h)]) hx hb d_Ring_allSweets_1 rfl hl (by decide) rfl (fun ls hl => ?_)
  refine lv_iconst (v := 0) hx hb d_Ring_allSweets_2 (by decide) ?_
  refine lv_istore_n (lv' := [(2, .int 0), (1, .int 0), (0, .ref a_h)]) hx hb d_Ring_allSweets_3 rfl hl (by decide) rfl (fun ls hl => ?_)
  exact L4 FU 0 0 _ _ _ hf hP hD hS (lv_sub hl [2, 1, 0] rfl)
abbrev w_Ring_commonDivisor (cI cJ cC : ClassId) (a_h a_h_kinds a_h_sweets a_h_settings a_h_heaps : Nat) (p_h_children : Int32) (p_h_strokes : Int32) (p_h_gave : Int32) (p_h_threw : Int32) (p_h_sweets : (Nat → Int32)) : va_W := [(a_h, .inr (1, [.ref a_h_kinds, .ref a_h_sweets, .ref a_h_settings, .int p_h_children, .int p_h_strokes, .int p_h_gave, .int p_h_threw, .ref a_h_heaps])), (a_h_sweets, .inl (cI, (8, .inl p_h_sweets)))]
theorem d_Ring_commonDivisor_0 : decode b_Ring_commonDivisor 0 = .ok (.aload_n 0, 1) := by decide +kernel
theorem d_Ring_commonDivisor_1 : decode b_Ring_commonDivisor 1 = .ok (.invokevirtual 74, 3) := by decide +kernel
theorem d_Ring_commonDivisor_4 : decode b_Ring_commonDivisor 4 = .ok (.istore_n 1, 1) := by decide +kernel
theorem d_Ring_commonDivisor_5 : decode b_Ring_commonDivisor 5 = .ok (.aload_n 0, 1) := by decide +kernel
theorem d_Ring_commonDivisor_6 : decode b_Ring_commonDivisor 6 = .ok (.getfield 21, 3) := by decide +kernel
theorem d_Ring_commonDivisor_9 : decode b_Ring_commonDivisor 9 = .ok (.istore_n 2, 1) := by decide +kernel
theorem d_Ring_commonDivisor_10 : decode b_Ring_commonDivisor 10 = .ok (.iload_n 2, 1) := by decide +kernel
theorem d_Ring_commonDivisor_11 : decode b_Ring_commonDivisor 11 = .ok (.iconst 1, 1) := by decide +kernel
theorem d_Ring_commonDivisor_12 : decode b_Ring_commonDivisor 12 = .ok (.if_icmp .le 26, 3) := by decide +kernel
theorem d_Ring_commonDivisor_15 : decode b_Ring_commonDivisor 15 = .ok (.aload_n 0, 1) := by decide +kernel
theorem d_Ring_commonDivisor_16 : decode b_Ring_commonDivisor 16 = .ok (.getfield 21, 3) := by decide +kernel
theorem d_Ring_commonDivisor_19 : decode b_Ring_commonDivisor 19 = .ok (.iload_n 2, 1) := by decide +kernel
theorem d_Ring_commonDivisor_20 : decode b_Ring_commonDivisor 20 = .ok (.irem, 1) := by decide +kernel
theorem d_Ring_commonDivisor_21 : decode b_Ring_commonDivisor 21 = .ok (.ifCond .ne 11, 3) := by decide +kernel
theorem d_Ring_commonDivisor_24 : decode b_Ring_commonDivisor 24 = .ok (.iload_n 1, 1) := by decide +kernel
theorem d_Ring_commonDivisor_25 : decode b_Ring_commonDivisor 25 = .ok (.iload_n 2, 1) := by decide +kernel
theorem d_Ring_commonDivisor_26 : decode b_Ring_commonDivisor 26 = .ok (.irem, 1) := by decide +kernel
theorem d_Ring_commonDivisor_27 : decode b_Ring_commonDivisor 27 = .ok (.ifCond .ne 5, 3) := by decide +kernel
theorem d_Ring_commonDivisor_30 : decode b_Ring_commonDivisor 30 = .ok (.iload_n 2, 1) := by decide +kernel
theorem d_Ring_commonDivisor_31 : decode b_Ring_commonDivisor 31 = .ok (.ireturn, 1) := by decide +kernel
theorem d_Ring_commonDivisor_32 : decode b_Ring_commonDivisor 32 = .ok (.iinc 2 (-1), 3) := by decide +kernel
theorem d_Ring_commonDivisor_35 : decode b_Ring_commonDivisor 35 = .ok (.goto (-25), 3) := by decide +kernel
theorem d_Ring_commonDivisor_38 : decode b_Ring_commonDivisor 38 = .ok (.iconst 1, 1) := by decide +kernel
theorem d_Ring_commonDivisor_39 : decode b_Ring_commonDivisor 39 = .ok (.ireturn, 1) := by decide +kernel
set_option maxHeartbeats 4000000 in
set_option maxRecDepth 100000 in
theorem c_Ring_commonDivisor {l : Launch} {D : va_G} {cI cJ cC : ClassId} (a_h a_h_kinds a_h_sweets a_h_settings a_h_heaps : Nat) {z_h : RS} {q : Int32} (hf : f_Ring_commonDivisor z_h = some q) : xI l y_Ring_commonDivisor b_Ring_commonDivisor 3 .int 1 22 D (tyK cI cJ cC) xE0 [.ref a_h] (w_Ring_commonDivisor cI cJ cC a_h a_h_kinds a_h_sweets a_h_settings a_h_heaps (r_children z_h) (r_strokes z_h) (r_gave z_h) (r_threw z_h) (r_sweets z_h)) q (w_Ring_commonDivisor cI cJ cC a_h a_h_kinds a_h_sweets a_h_settings a_h_heaps (r_children z_h) (r_strokes z_h) (r_gave z_h) (r_threw z_h) (r_sweets z_h)) := by
  refine xI_of (by decide) (Nat.le_of_ble_eq_true rfl) ?_
  intro p e s m args below meth c A Q hx hb hml hown hT hA hP hD hK hS hE hret ls hl
  have hown : s.vm.findClass R_Ring = some m.cls := hown
  have hl : lv_has ls 3 [(0, .ref a_h)] := hl
  unfold f_Ring_commonDivisor at hf
  have L10 : ∀ (x1 : Int32), ∀ (n : Nat) (x2 : Int32) (H : Heap) (locs : List Loc) (ls : Array Slot), f_Ring_commonDivisor_L10 z_h x1 n x2 = some q → va_P D classes (w_Ring_commonDivisor cI cJ cC a_h a_h_kinds a_h_sweets a_h_settings a_h_heaps (r_children z_h) (r_strokes z_h) (r_gave z_h) (r_threw z_h) (r_sweets z_h)) H → va_D A (w_Ring_commonDivisor cI cJ cC a_h a_h_kinds a_h_sweets a_h_settings a_h_heaps (r_children z_h) (r_strokes z_h) (r_gave z_h) (r_threw z_h) (r_sweets z_h)) → va_S A s.heap H locs → lv_has ls 3 [(0, .ref a_h), (1, .int x1), (2, .int x2)] → W p l e (xRm 1 22) s m args below meth c H locs 0 0 Q (F0 m 10 ls []) := by
    intro x1 n
    induction n with
    | zero => intro x2 H locs ls hf hP hD hS hl; exact nomatch (show (none : Option (Int32)) = some q from hf)
    | succ n ih =>
      intro x2 H locs ls hf hP hD hS hl
      refine lv_iload_n hx hb d_Ring_commonDivisor_10 rfl (lv_at hl 2 rfl) ?_
      refine lv_iconst (v := 1) hx hb d_Ring_commonDivisor_11 (by decide) ?_
      refine lv_icmp_le (tgt := 38) hx hb d_Ring_commonDivisor_12 (by decide) (fun c2 => ?_) (fun c2 => ?_)
      · have hf := io_t hf c2
        refine lv_iconst (v := 1) hx hb d_Ring_commonDivisor_38 (by decide) ?_
        have hq := Option.some.inj hf
        subst hq
        exact hret _ _ _ _ _ d_Ring_commonDivisor_39 rfl rfl hP hD hS
      · have hf := io_f hf c2
        refine lv_aload_n hx hb d_Ring_commonDivisor_15 rfl (lv_at hl 0 rfl) ?_
        refine va_get hx hb hT i_Ring hown hK hP 0 rfl rfl 3 (Nat.le_of_ble_eq_true rfl) (hT _ k_38) (fun _ h => h) rfl d_Ring_commonDivisor_16 ?_
        refine lv_iload_n hx hb d_Ring_commonDivisor_19 rfl (lv_at hl 2 rfl) ?_
        obtain ⟨c3, hf⟩ := io_n hf
        refine x_irem hx hb d_Ring_commonDivisor_20 c3 ?_
        refine lv_if_ne (tgt := 32) hx hb d_Ring_commonDivisor_21 (by decide) (fun c4 => ?_) (fun c4 => ?_)
        · have hf := io_f hf c4
          refine lv_iinc (v := (x2 + (-1))) (lv' := [(2, .int (x2 + (-1))), (0, .ref a_h), (1, .int x1)]) hx hb d_Ring_commonDivisor_32 hl (k := 2) rfl (by rfl) (by decide) rfl (fun ls hl => ?_)
          refine lv_goto (tgt := 10) hx hb d_Ring_commonDivisor_35 (by decide) ?_
          exact ih (x2 + (-1)) _ _ _ hf hP hD hS (lv_sub hl [1, 2, 0] rfl)
        · have hf := io_t hf c4
          refine lv_iload_n hx hb d_Ring_commonDivisor_24 rfl (lv_at hl 1 rfl) ?_
          refine lv_iload_n hx hb d_Ring_commonDivisor_25 rfl (lv_at hl 2 rfl) ?_
          refine x_irem hx hb d_Ring_commonDivisor_26 c3 ?_
          refine lv_if_ne (tgt := 32) hx hb d_Ring_commonDivisor_27 (by decide) (fun c5 => ?_) (fun c5 => ?_)
          · have hf := io_f hf c5
            refine lv_iinc (v := (x2 + (-1))) (lv' := [(2, .int (x2 + (-1))), (0, .ref a_h), (1, .int x1)]) hx hb d_Ring_commonDivisor_32 hl (k := 2) rfl (by rfl) (by decide) rfl (fun ls hl => ?_)
            refine lv_goto (tgt := 10) hx hb d_Ring_commonDivisor_35 (by decide) ?_
            exact ih (x2 + (-1)) _ _ _ hf hP hD hS (lv_sub hl [1, 2, 0] rfl)
          · have hf := io_t hf c5
            refine lv_iload_n hx hb d_Ring_commonDivisor_30 rfl (lv_at hl 2 rfl) ?_
            have hq := Option.some.inj hf
            subst hq
            exact hret _ _ _ _ _ d_Ring_commonDivisor_31 rfl rfl hP hD hS
  refine lv_aload_n hx hb d_Ring_commonDivisor_0 rfl (lv_at hl 0 rfl) ?_
  obtain ⟨q1, hq1, hf⟩ := io_b hf
  refine xcVI (wc := (w_Ring_allSweets cI cJ cC a_h a_h_kinds a_h_sweets a_h_settings a_h_heaps (r_children z_h) (r_strokes z_h) (r_gave z_h) (r_threw z_h) (r_sweets z_h))) (wc' := (w_Ring_allSweets cI cJ cC a_h a_h_kinds a_h_sweets a_h_settings a_h_heaps (r_children z_h) (r_strokes z_h) (r_gave z_h) (r_threw z_h) (r_sweets z_h))) (ws' := (w_Ring_commonDivisor cI cJ cC a_h a_h_kinds a_h_sweets a_h_settings a_h_heaps (r_children z_h) (r_strokes z_h) (r_gave z_h) (r_threw z_h) (r_sweets z_h))) (As := []) (rest := []) hx hb hml hown hT (c_Ring_allSweets (z_h := z_h) a_h a_h_kinds a_h_sweets a_h_settings a_h_heaps hq1) k_373 k_374 k_375 k_2 k_376 hd_Ring_allSweets ⟨Nat.le_of_ble_eq_true rfl, Nat.le_of_ble_eq_true rfl⟩ xE0_ok trivial hA hK hP hD hS [0, 1] [] [0, 1] rfl rfl rfl rfl rfl rfl rfl rfl rfl rfl hl.1 rfl (Nat.le_of_ble_eq_true rfl) ⟨Nat.zero_le _, Nat.zero_le _⟩ d_Ring_commonDivisor_1 (fun H locs hP hD hS => ?_)
  refine lv_istore_n (lv' := [(1, .int q1), (0, .ref a_h)]) hx hb d_Ring_commonDivisor_4 rfl hl (by decide) rfl (fun ls hl => ?_)
  refine lv_aload_n hx hb d_Ring_commonDivisor_5 rfl (lv_at hl 1 rfl) ?_
  refine va_get hx hb hT i_Ring hown hK hP 0 rfl rfl 3 (Nat.le_of_ble_eq_true rfl) (hT _ k_38) (fun _ h => h) rfl d_Ring_commonDivisor_6 ?_
  refine lv_istore_n (lv' := [(2, .int (r_children z_h)), (1, .int q1), (0, .ref a_h)]) hx hb d_Ring_commonDivisor_9 rfl hl (by decide) rfl (fun ls hl => ?_)
  exact L10 q1 FU (r_children z_h) _ _ _ hf hP hD hS (lv_sub hl [2, 1, 0] rfl)
abbrev w_Ring_oddHeaps (cI cJ cC : ClassId) (a_h a_h_kinds a_h_sweets a_h_settings a_h_heaps : Nat) (p_h_children : Int32) (p_h_strokes : Int32) (p_h_gave : Int32) (p_h_threw : Int32) (p_h_sweets : (Nat → Int32)) : va_W := [(a_h, .inr (1, [.ref a_h_kinds, .ref a_h_sweets, .ref a_h_settings, .int p_h_children, .int p_h_strokes, .int p_h_gave, .int p_h_threw, .ref a_h_heaps])), (a_h_sweets, .inl (cI, (8, .inl p_h_sweets)))]
theorem d_Ring_oddHeaps_0 : decode b_Ring_oddHeaps 0 = .ok (.iconst 0, 1) := by decide +kernel
theorem d_Ring_oddHeaps_1 : decode b_Ring_oddHeaps 1 = .ok (.istore_n 1, 1) := by decide +kernel
theorem d_Ring_oddHeaps_2 : decode b_Ring_oddHeaps 2 = .ok (.iconst 0, 1) := by decide +kernel
theorem d_Ring_oddHeaps_3 : decode b_Ring_oddHeaps 3 = .ok (.istore_n 2, 1) := by decide +kernel
theorem d_Ring_oddHeaps_4 : decode b_Ring_oddHeaps 4 = .ok (.iload_n 2, 1) := by decide +kernel
theorem d_Ring_oddHeaps_5 : decode b_Ring_oddHeaps 5 = .ok (.aload_n 0, 1) := by decide +kernel
theorem d_Ring_oddHeaps_6 : decode b_Ring_oddHeaps 6 = .ok (.getfield 21, 3) := by decide +kernel
theorem d_Ring_oddHeaps_9 : decode b_Ring_oddHeaps 9 = .ok (.if_icmp .ge 20, 3) := by decide +kernel
theorem d_Ring_oddHeaps_12 : decode b_Ring_oddHeaps 12 = .ok (.iload_n 1, 1) := by decide +kernel
theorem d_Ring_oddHeaps_13 : decode b_Ring_oddHeaps 13 = .ok (.aload_n 0, 1) := by decide +kernel
theorem d_Ring_oddHeaps_14 : decode b_Ring_oddHeaps 14 = .ok (.getfield 15, 3) := by decide +kernel
theorem d_Ring_oddHeaps_17 : decode b_Ring_oddHeaps 17 = .ok (.iload_n 2, 1) := by decide +kernel
theorem d_Ring_oddHeaps_18 : decode b_Ring_oddHeaps 18 = .ok (.iaload, 1) := by decide +kernel
theorem d_Ring_oddHeaps_19 : decode b_Ring_oddHeaps 19 = .ok (.iconst 2, 1) := by decide +kernel
theorem d_Ring_oddHeaps_20 : decode b_Ring_oddHeaps 20 = .ok (.irem, 1) := by decide +kernel
theorem d_Ring_oddHeaps_21 : decode b_Ring_oddHeaps 21 = .ok (.iadd, 1) := by decide +kernel
theorem d_Ring_oddHeaps_22 : decode b_Ring_oddHeaps 22 = .ok (.istore_n 1, 1) := by decide +kernel
theorem d_Ring_oddHeaps_23 : decode b_Ring_oddHeaps 23 = .ok (.iinc 2 1, 3) := by decide +kernel
theorem d_Ring_oddHeaps_26 : decode b_Ring_oddHeaps 26 = .ok (.goto (-22), 3) := by decide +kernel
theorem d_Ring_oddHeaps_29 : decode b_Ring_oddHeaps 29 = .ok (.iload_n 1, 1) := by decide +kernel
theorem d_Ring_oddHeaps_30 : decode b_Ring_oddHeaps 30 = .ok (.ireturn, 1) := by decide +kernel
set_option maxHeartbeats 4000000 in
set_option maxRecDepth 100000 in
theorem c_Ring_oddHeaps {l : Launch} {D : va_G} {cI cJ cC : ClassId} (a_h a_h_kinds a_h_sweets a_h_settings a_h_heaps : Nat) {z_h : RS} {q : Int32} (hf : f_Ring_oddHeaps z_h = some q) : xI l y_Ring_oddHeaps b_Ring_oddHeaps 3 .int 0 0 D (tyK cI cJ cC) xE0 [.ref a_h] (w_Ring_oddHeaps cI cJ cC a_h a_h_kinds a_h_sweets a_h_settings a_h_heaps (r_children z_h) (r_strokes z_h) (r_gave z_h) (r_threw z_h) (r_sweets z_h)) q (w_Ring_oddHeaps cI cJ cC a_h a_h_kinds a_h_sweets a_h_settings a_h_heaps (r_children z_h) (r_strokes z_h) (r_gave z_h) (r_threw z_h) (r_sweets z_h)) := by
  refine xI_of (by decide) (Nat.le_of_ble_eq_true rfl) ?_
  intro p e s m args below meth c A Q hx hb hml hown hT hA hP hD hK hS hE hret ls hl
  have hown : s.vm.findClass R_Ring = some m.cls := hown
  have hl : lv_has ls 3 [(0, .ref a_h)] := hl
  unfold f_Ring_oddHeaps at hf
  have L4 : ∀ (n : Nat) (x1 : Int32) (x2 : Int32) (H : Heap) (locs : List Loc) (ls : Array Slot), f_Ring_oddHeaps_L4 z_h n x1 x2 = some q → va_P D classes (w_Ring_oddHeaps cI cJ cC a_h a_h_kinds a_h_sweets a_h_settings a_h_heaps (r_children z_h) (r_strokes z_h) (r_gave z_h) (r_threw z_h) (r_sweets z_h)) H → va_D A (w_Ring_oddHeaps cI cJ cC a_h a_h_kinds a_h_sweets a_h_settings a_h_heaps (r_children z_h) (r_strokes z_h) (r_gave z_h) (r_threw z_h) (r_sweets z_h)) → va_S A s.heap H locs → lv_has ls 3 [(0, .ref a_h), (1, .int x1), (2, .int x2)] → W p l e (xRm 0 0) s m args below meth c H locs 0 0 Q (F0 m 4 ls []) := by
    intro n
    induction n with
    | zero => intro x1 x2 H locs ls hf hP hD hS hl; exact nomatch (show (none : Option (Int32)) = some q from hf)
    | succ n ih =>
      intro x1 x2 H locs ls hf hP hD hS hl
      refine lv_iload_n hx hb d_Ring_oddHeaps_4 rfl (lv_at hl 2 rfl) ?_
      refine lv_aload_n hx hb d_Ring_oddHeaps_5 rfl (lv_at hl 0 rfl) ?_
      refine va_get hx hb hT i_Ring hown hK hP 0 rfl rfl 3 (Nat.le_of_ble_eq_true rfl) (hT _ k_38) (fun _ h => h) rfl d_Ring_oddHeaps_6 ?_
      refine lv_icmp_ge (tgt := 29) hx hb d_Ring_oddHeaps_9 (by decide) (fun c1 => ?_) (fun c1 => ?_)
      · have hf := io_t hf c1
        refine lv_iload_n hx hb d_Ring_oddHeaps_29 rfl (lv_at hl 1 rfl) ?_
        have hq := Option.some.inj hf
        subst hq
        exact hret _ _ _ _ _ d_Ring_oddHeaps_30 rfl rfl hP hD hS
      · have hf := io_f hf c1
        refine lv_iload_n hx hb d_Ring_oddHeaps_12 rfl (lv_at hl 1 rfl) ?_
        refine lv_aload_n hx hb d_Ring_oddHeaps_13 rfl (lv_at hl 0 rfl) ?_
        refine va_get hx hb hT i_Ring hown hK hP 0 rfl rfl 1 (Nat.le_of_ble_eq_true rfl) (hT _ k_31) (fun _ h => h) rfl d_Ring_oddHeaps_14 ?_
        refine lv_iload_n hx hb d_Ring_oddHeaps_17 rfl (lv_at hl 2 rfl) ?_
        obtain ⟨c2, hf⟩ := io_n hf
        refine x_iald hx hb hK hP 1 0 rfl rfl (j := x2.toNatClampNeg) rfl c2 d_Ring_oddHeaps_18 ?_
        refine lv_iconst (v := 2) hx hb d_Ring_oddHeaps_19 (by decide) ?_
        refine x_irem hx hb d_Ring_oddHeaps_20 (by decide) ?_
        refine lv_iadd hx hb d_Ring_oddHeaps_21 ?_
        refine lv_istore_n (lv' := [(1, .int (x1 + (((r_sweets z_h) x2.toNatClampNeg) % 2))), (0, .ref a_h), (2, .int x2)]) hx hb d_Ring_oddHeaps_22 rfl hl (by decide) rfl (fun ls hl => ?_)
        refine lv_iinc (v := (x2 + 1)) (lv' := [(2, .int (x2 + 1)), (1, .int (x1 + (((r_sweets z_h) x2.toNatClampNeg) % 2))), (0, .ref a_h)]) hx hb d_Ring_oddHeaps_23 hl (k := 2) rfl (by rfl) (by decide) rfl (fun ls hl => ?_)
        refine lv_goto (tgt := 4) hx hb d_Ring_oddHeaps_26 (by decide) ?_
        exact ih (x1 + (((r_sweets z_h) x2.toNatClampNeg) % 2)) (x2 + 1) _ _ _ hf hP hD hS (lv_sub hl [2, 1, 0] rfl)
  refine lv_iconst (v := 0) hx hb d_Ring_oddHeaps_0 (by decide) ?_
  refine lv_istore_n (lv' := [(1, .int 0), (0, .ref a_h)]) hx hb d_Ring_oddHeaps_1 rfl hl (by decide) rfl (fun ls hl => ?_)
  refine lv_iconst (v := 0) hx hb d_Ring_oddHeaps_2 (by decide) ?_
  refine lv_istore_n (lv' := [(2, .int 0), (1, .int 0), (0, .ref a_h)]) hx hb d_Ring_oddHeaps_3 rfl hl (by decide) rfl (fun ls hl => ?_)
  exact L4 FU 0 0 _ _ _ hf hP hD hS (lv_sub hl [2, 1, 0] rfl)
end
section
/-! Contracts: Mind. Printed by wip/whole/gen. -/
abbrev w_Mind_sweetsBehind (cI cJ cC : ClassId) (a_h a_h_one a_h_two a_h_one_kinds a_h_one_sweets a_h_one_settings a_h_one_heaps a_g1 a_g1_kinds a_g1_sweets a_g1_settings a_g1_heaps : Nat) (y_h_seed : Int32) (p_h_one_children : Int32) (p_h_one_strokes : Int32) (p_h_one_gave : Int32) (p_h_one_threw : Int32) (p_h_one_kinds : (Nat → Int32)) (p_h_one_sweets : (Nat → Int32)) (p_h_one_settings : (Nat → Int32)) (p_h_one_heaps : (Nat → Int32)) (p_g1_children : Int32) (p_g1_strokes : Int32) (p_g1_gave : Int32) (p_g1_threw : Int32) (p_g1_kinds : (Nat → Int32)) (p_g1_sweets : (Nat → Int32)) (p_g1_settings : (Nat → Int32)) : va_W := [(a_h, .inr (3, [.ref a_h_one, .ref a_h_two, .int y_h_seed])), (a_h_one, .inr (1, [.ref a_h_one_kinds, .ref a_h_one_sweets, .ref a_h_one_settings, .int p_h_one_children, .int p_h_one_strokes, .int p_h_one_gave, .int p_h_one_threw, .ref a_h_one_heaps])), (a_h_one_kinds, .inl (cI, (8, .inl p_h_one_kinds))), (a_h_one_sweets, .inl (cI, (8, .inl p_h_one_sweets))), (a_h_one_settings, .inl (cI, (3, .inl p_h_one_settings))), (a_h_one_heaps, .inl (cI, (8, .inl p_h_one_heaps))), (a_g1, .inr (1, [.ref a_g1_kinds, .ref a_g1_sweets, .ref a_g1_settings, .int p_g1_children, .int p_g1_strokes, .int p_g1_gave, .int p_g1_threw, .ref a_g1_heaps])), (a_g1_kinds, .inl (cI, (8, .inl p_g1_kinds))), (a_g1_sweets, .inl (cI, (8, .inl p_g1_sweets))), (a_g1_settings, .inl (cI, (3, .inl p_g1_settings)))]
theorem d_Mind_sweetsBehind_0 : decode b_Mind_sweetsBehind 0 = .ok (.aload_n 0, 1) := by decide +kernel
theorem d_Mind_sweetsBehind_1 : decode b_Mind_sweetsBehind 1 = .ok (.getfield 12, 3) := by decide +kernel
theorem d_Mind_sweetsBehind_4 : decode b_Mind_sweetsBehind 4 = .ok (.aload_n 1, 1) := by decide +kernel
theorem d_Mind_sweetsBehind_5 : decode b_Mind_sweetsBehind 5 = .ok (.invokevirtual 25, 3) := by decide +kernel
theorem d_Mind_sweetsBehind_8 : decode b_Mind_sweetsBehind 8 = .ok (.aload_n 0, 1) := by decide +kernel
theorem d_Mind_sweetsBehind_9 : decode b_Mind_sweetsBehind 9 = .ok (.getfield 12, 3) := by decide +kernel
theorem d_Mind_sweetsBehind_12 : decode b_Mind_sweetsBehind 12 = .ok (.iload_n 3, 1) := by decide +kernel
theorem d_Mind_sweetsBehind_13 : decode b_Mind_sweetsBehind 13 = .ok (.invokevirtual 29, 3) := by decide +kernel
theorem d_Mind_sweetsBehind_16 : decode b_Mind_sweetsBehind 16 = .ok (.aload_n 0, 1) := by decide +kernel
theorem d_Mind_sweetsBehind_17 : decode b_Mind_sweetsBehind 17 = .ok (.getfield 12, 3) := by decide +kernel
theorem d_Mind_sweetsBehind_20 : decode b_Mind_sweetsBehind 20 = .ok (.getfield 33, 3) := by decide +kernel
theorem d_Mind_sweetsBehind_23 : decode b_Mind_sweetsBehind 23 = .ok (.iload_n 2, 1) := by decide +kernel
theorem d_Mind_sweetsBehind_24 : decode b_Mind_sweetsBehind 24 = .ok (.iaload, 1) := by decide +kernel
theorem d_Mind_sweetsBehind_25 : decode b_Mind_sweetsBehind 25 = .ok (.ireturn, 1) := by decide +kernel
set_option maxHeartbeats 4000000 in
set_option maxRecDepth 100000 in
theorem c_Mind_sweetsBehind {l : Launch} {D : va_G} {cI cJ cC : ClassId} (a_h a_h_one a_h_two a_h_one_kinds a_h_one_sweets a_h_one_settings a_h_one_heaps a_g1 a_g1_kinds a_g1_sweets a_g1_settings a_g1_heaps : Nat) (y_h_seed : Int32) {z_h_one : RS} {z_g1 : RS} {x2 : Int32} {x3 : Int32} {q : Int32 × RS} (hf : f_Mind_sweetsBehind z_h_one z_g1 x2 x3 = some q) : xI l y_Mind_sweetsBehind b_Mind_sweetsBehind 4 .int 5 111 D (tyK cI cJ cC) xE0 [.ref a_h, .ref a_g1, .int x2, .int x3] (w_Mind_sweetsBehind cI cJ cC a_h a_h_one a_h_two a_h_one_kinds a_h_one_sweets a_h_one_settings a_h_one_heaps a_g1 a_g1_kinds a_g1_sweets a_g1_settings a_g1_heaps y_h_seed (r_children z_h_one) (r_strokes z_h_one) (r_gave z_h_one) (r_threw z_h_one) (r_kinds z_h_one) (r_sweets z_h_one) (r_settings z_h_one) (r_heaps z_h_one) (r_children z_g1) (r_strokes z_g1) (r_gave z_g1) (r_threw z_g1) (r_kinds z_g1) (r_sweets z_g1) (r_settings z_g1)) q.1 (w_Mind_sweetsBehind cI cJ cC a_h a_h_one a_h_two a_h_one_kinds a_h_one_sweets a_h_one_settings a_h_one_heaps a_g1 a_g1_kinds a_g1_sweets a_g1_settings a_g1_heaps y_h_seed (r_children q.2) (r_strokes q.2) (r_gave q.2) (r_threw q.2) (r_kinds q.2) (r_sweets q.2) (r_settings q.2) (r_heaps q.2) (r_children z_g1) (r_strokes z_g1) (r_gave z_g1) (r_threw z_g1) (r_kinds z_g1) (r_sweets z_g1) (r_settings z_g1)) := by
  refine xI_of (by decide) (Nat.le_of_ble_eq_true rfl) ?_
  intro p e s m args below meth c A Q hx hb hml hown hT hA hP hD hK hS hE hret ls hl
  have hown : s.vm.findClass R_Mind = some m.cls := hown
  have hl : lv_has ls 4 [(0, .ref a_h), (1, .ref a_g1), (2, .int x2), (3, .int x3)] := hl
  unfold f_Mind_sweetsBehind at hf
  refine lv_aload_n hx hb d_Mind_sweetsBehind_0 rfl (lv_at hl 0 rfl) ?_
  refine va_get hx hb hT i_Mind hown hK hP 0 rfl rfl 0 (Nat.le_of_ble_eq_true rfl) (hT _ k_96) (fun _ h => h) rfl d_Mind_sweetsBehind_1 ?_
  refine lv_aload_n hx hb d_Mind_sweetsBehind_4 rfl (lv_at hl 1 rfl) ?_
  obtain ⟨q1, hq1, hf⟩ := io_b hf
  refine xcVV (wc := (w_Ring_copyFrom cI cJ cC a_h_one a_h_one_kinds a_h_one_sweets a_h_one_settings a_h_one_heaps a_g1 a_g1_kinds a_g1_sweets a_g1_settings a_g1_heaps (r_children z_h_one) (r_strokes z_h_one) (r_gave z_h_one) (r_threw z_h_one) (r_kinds z_h_one) (r_sweets z_h_one) (r_settings z_h_one) (r_heaps z_h_one) (r_children z_g1) (r_strokes z_g1) (r_gave z_g1) (r_threw z_g1) (r_kinds z_g1) (r_sweets z_g1) (r_settings z_g1))) (wc' := (w_Ring_copyFrom cI cJ cC a_h_one a_h_one_kinds a_h_one_sweets a_h_one_settings a_h_one_heaps a_g1 a_g1_kinds a_g1_sweets a_g1_settings a_g1_heaps (r_children q1) (r_strokes q1) (r_gave q1) (r_threw q1) (r_kinds q1) (r_sweets q1) (r_settings q1) (r_heaps q1) (r_children z_g1) (r_strokes z_g1) (r_gave z_g1) (r_threw z_g1) (r_kinds z_g1) (r_sweets z_g1) (r_settings z_g1))) (ws' := (w_Mind_sweetsBehind cI cJ cC a_h a_h_one a_h_two a_h_one_kinds a_h_one_sweets a_h_one_settings a_h_one_heaps a_g1 a_g1_kinds a_g1_sweets a_g1_settings a_g1_heaps y_h_seed (r_children q1) (r_strokes q1) (r_gave q1) (r_threw q1) (r_kinds q1) (r_sweets q1) (r_settings q1) (r_heaps q1) (r_children z_g1) (r_strokes z_g1) (r_gave z_g1) (r_threw z_g1) (r_kinds z_g1) (r_sweets z_g1) (r_settings z_g1))) (As := [.ref a_g1]) (rest := []) hx hb hml hown hT (c_Ring_copyFrom (z_h := z_h_one) (z_g1 := z_g1) a_h_one a_h_one_kinds a_h_one_sweets a_h_one_settings a_h_one_heaps a_g1 a_g1_kinds a_g1_sweets a_g1_settings a_g1_heaps hq1) k_252 k_253 k_254 k_2 k_255 hd_Ring_copyFrom ⟨Nat.le_of_ble_eq_true rfl, Nat.le_of_ble_eq_true rfl⟩ xE0_ok trivial hA hK hP hD hS [1, 2, 3, 4, 5, 6, 7, 8, 9] [0] [0, 1, 2, 3, 4, 5, 6, 7, 8, 9] rfl rfl rfl rfl rfl rfl rfl rfl rfl rfl hl.1 rfl (Nat.le_of_ble_eq_true rfl) ⟨Nat.zero_le _, Nat.zero_le _⟩ d_Mind_sweetsBehind_5 (fun H locs hP hD hS => ?_)
  refine lv_aload_n hx hb d_Mind_sweetsBehind_8 rfl (lv_at hl 0 rfl) ?_
  refine va_get hx hb hT i_Mind hown hK hP 0 rfl rfl 0 (Nat.le_of_ble_eq_true rfl) (hT _ k_96) (fun _ h => h) rfl d_Mind_sweetsBehind_9 ?_
  refine lv_iload_n hx hb d_Mind_sweetsBehind_12 rfl (lv_at hl 3 rfl) ?_
  obtain ⟨q2, hq2, hf⟩ := io_b hf
  refine xcVV (wc := (w_Ring_strikeOften cI cJ cC a_h_one a_h_one_kinds a_h_one_sweets a_h_one_settings a_h_one_heaps (r_children q1) (r_strokes q1) (r_gave q1) (r_threw q1) (r_kinds q1) (r_sweets q1) (r_settings q1) (r_heaps q1))) (wc' := (w_Ring_strikeOften cI cJ cC a_h_one a_h_one_kinds a_h_one_sweets a_h_one_settings a_h_one_heaps (r_children q2) (r_strokes q2) (r_gave q2) (r_threw q2) (r_kinds q2) (r_sweets q2) (r_settings q2) (r_heaps q2))) (ws' := (w_Mind_sweetsBehind cI cJ cC a_h a_h_one a_h_two a_h_one_kinds a_h_one_sweets a_h_one_settings a_h_one_heaps a_g1 a_g1_kinds a_g1_sweets a_g1_settings a_g1_heaps y_h_seed (r_children q2) (r_strokes q2) (r_gave q2) (r_threw q2) (r_kinds q2) (r_sweets q2) (r_settings q2) (r_heaps q2) (r_children z_g1) (r_strokes z_g1) (r_gave z_g1) (r_threw z_g1) (r_kinds z_g1) (r_sweets z_g1) (r_settings z_g1))) (As := [.int x3]) (rest := []) hx hb hml hown hT (c_Ring_strikeOften (z_h := q1) a_h_one a_h_one_kinds a_h_one_sweets a_h_one_settings a_h_one_heaps hq2) k_256 k_257 k_258 k_2 k_259 hd_Ring_strikeOften ⟨Nat.le_of_ble_eq_true rfl, Nat.le_of_ble_eq_true rfl⟩ xE0_ok trivial hA hK hP hD hS [1, 2, 3, 4, 5] [0, 6, 7, 8, 9] [0, 5, 6, 7, 8, 9, 1, 2, 3, 4] rfl rfl rfl rfl rfl rfl rfl rfl rfl rfl hl.1 rfl (Nat.le_of_ble_eq_true rfl) ⟨Nat.zero_le _, Nat.zero_le _⟩ d_Mind_sweetsBehind_13 (fun H locs hP hD hS => ?_)
  refine lv_aload_n hx hb d_Mind_sweetsBehind_16 rfl (lv_at hl 0 rfl) ?_
  refine va_get hx hb hT i_Mind hown hK hP 0 rfl rfl 0 (Nat.le_of_ble_eq_true rfl) (hT _ k_96) (fun _ h => h) rfl d_Mind_sweetsBehind_17 ?_
  refine va_get hx hb hT i_Ring hown hK hP 1 rfl rfl 1 (Nat.le_of_ble_eq_true rfl) (hT _ k_32) (fun _ h => h) rfl d_Mind_sweetsBehind_20 ?_
  refine lv_iload_n hx hb d_Mind_sweetsBehind_23 rfl (lv_at hl 2 rfl) ?_
  obtain ⟨c3, hf⟩ := io_n hf
  refine x_iald hx hb hK hP 3 0 rfl rfl (j := x2.toNatClampNeg) rfl c3 d_Mind_sweetsBehind_24 ?_
  have hq := Option.some.inj hf
  subst hq
  exact hret _ _ _ _ _ d_Mind_sweetsBehind_25 rfl rfl hP hD hS
abbrev w_Mind_gaveIn (cI cJ cC : ClassId) (a_h a_h_one a_h_two a_h_one_kinds a_h_one_sweets a_h_one_settings a_h_one_heaps a_g1 a_g1_kinds a_g1_sweets a_g1_settings a_g1_heaps : Nat) (y_h_seed : Int32) (p_h_one_children : Int32) (p_h_one_strokes : Int32) (p_h_one_gave : Int32) (p_h_one_threw : Int32) (p_h_one_kinds : (Nat → Int32)) (p_h_one_sweets : (Nat → Int32)) (p_h_one_settings : (Nat → Int32)) (p_h_one_heaps : (Nat → Int32)) (p_g1_children : Int32) (p_g1_strokes : Int32) (p_g1_gave : Int32) (p_g1_threw : Int32) (p_g1_kinds : (Nat → Int32)) (p_g1_sweets : (Nat → Int32)) (p_g1_settings : (Nat → Int32)) : va_W := [(a_h, .inr (3, [.ref a_h_one, .ref a_h_two, .int y_h_seed])), (a_h_one, .inr (1, [.ref a_h_one_kinds, .ref a_h_one_sweets, .ref a_h_one_settings, .int p_h_one_children, .int p_h_one_strokes, .int p_h_one_gave, .int p_h_one_threw, .ref a_h_one_heaps])), (a_h_one_kinds, .inl (cI, (8, .inl p_h_one_kinds))), (a_h_one_sweets, .inl (cI, (8, .inl p_h_one_sweets))), (a_h_one_settings, .inl (cI, (3, .inl p_h_one_settings))), (a_h_one_heaps, .inl (cI, (8, .inl p_h_one_heaps))), (a_g1, .inr (1, [.ref a_g1_kinds, .ref a_g1_sweets, .ref a_g1_settings, .int p_g1_children, .int p_g1_strokes, .int p_g1_gave, .int p_g1_threw, .ref a_g1_heaps])), (a_g1_kinds, .inl (cI, (8, .inl p_g1_kinds))), (a_g1_sweets, .inl (cI, (8, .inl p_g1_sweets))), (a_g1_settings, .inl (cI, (3, .inl p_g1_settings)))]
theorem d_Mind_gaveIn_0 : decode b_Mind_gaveIn 0 = .ok (.aload_n 0, 1) := by decide +kernel
theorem d_Mind_gaveIn_1 : decode b_Mind_gaveIn 1 = .ok (.getfield 12, 3) := by decide +kernel
theorem d_Mind_gaveIn_4 : decode b_Mind_gaveIn 4 = .ok (.aload_n 1, 1) := by decide +kernel
theorem d_Mind_gaveIn_5 : decode b_Mind_gaveIn 5 = .ok (.invokevirtual 25, 3) := by decide +kernel
theorem d_Mind_gaveIn_8 : decode b_Mind_gaveIn 8 = .ok (.aload_n 0, 1) := by decide +kernel
theorem d_Mind_gaveIn_9 : decode b_Mind_gaveIn 9 = .ok (.getfield 12, 3) := by decide +kernel
theorem d_Mind_gaveIn_12 : decode b_Mind_gaveIn 12 = .ok (.iload_n 2, 1) := by decide +kernel
theorem d_Mind_gaveIn_13 : decode b_Mind_gaveIn 13 = .ok (.invokevirtual 29, 3) := by decide +kernel
theorem d_Mind_gaveIn_16 : decode b_Mind_gaveIn 16 = .ok (.aload_n 0, 1) := by decide +kernel
theorem d_Mind_gaveIn_17 : decode b_Mind_gaveIn 17 = .ok (.getfield 12, 3) := by decide +kernel
theorem d_Mind_gaveIn_20 : decode b_Mind_gaveIn 20 = .ok (.getfield 37, 3) := by decide +kernel
theorem d_Mind_gaveIn_23 : decode b_Mind_gaveIn 23 = .ok (.aload_n 1, 1) := by decide +kernel
theorem d_Mind_gaveIn_24 : decode b_Mind_gaveIn 24 = .ok (.getfield 37, 3) := by decide +kernel
theorem d_Mind_gaveIn_27 : decode b_Mind_gaveIn 27 = .ok (.isub, 1) := by decide +kernel
theorem d_Mind_gaveIn_28 : decode b_Mind_gaveIn 28 = .ok (.ireturn, 1) := by decide +kernel
set_option maxHeartbeats 4000000 in
set_option maxRecDepth 100000 in
theorem c_Mind_gaveIn {l : Launch} {D : va_G} {cI cJ cC : ClassId} (a_h a_h_one a_h_two a_h_one_kinds a_h_one_sweets a_h_one_settings a_h_one_heaps a_g1 a_g1_kinds a_g1_sweets a_g1_settings a_g1_heaps : Nat) (y_h_seed : Int32) {z_h_one : RS} {z_g1 : RS} {x2 : Int32} {q : Int32 × RS} (hf : f_Mind_gaveIn z_h_one z_g1 x2 = some q) : xI l y_Mind_gaveIn b_Mind_gaveIn 3 .int 5 111 D (tyK cI cJ cC) xE0 [.ref a_h, .ref a_g1, .int x2] (w_Mind_gaveIn cI cJ cC a_h a_h_one a_h_two a_h_one_kinds a_h_one_sweets a_h_one_settings a_h_one_heaps a_g1 a_g1_kinds a_g1_sweets a_g1_settings a_g1_heaps y_h_seed (r_children z_h_one) (r_strokes z_h_one) (r_gave z_h_one) (r_threw z_h_one) (r_kinds z_h_one) (r_sweets z_h_one) (r_settings z_h_one) (r_heaps z_h_one) (r_children z_g1) (r_strokes z_g1) (r_gave z_g1) (r_threw z_g1) (r_kinds z_g1) (r_sweets z_g1) (r_settings z_g1)) q.1 (w_Mind_gaveIn cI cJ cC a_h a_h_one a_h_two a_h_one_kinds a_h_one_sweets a_h_one_settings a_h_one_heaps a_g1 a_g1_kinds a_g1_sweets a_g1_settings a_g1_heaps y_h_seed (r_children q.2) (r_strokes q.2) (r_gave q.2) (r_threw q.2) (r_kinds q.2) (r_sweets q.2) (r_settings q.2) (r_heaps q.2) (r_children z_g1) (r_strokes z_g1) (r_gave z_g1) (r_threw z_g1) (r_kinds z_g1) (r_sweets z_g1) (r_settings z_g1)) := by
  refine xI_of (by decide) (Nat.le_of_ble_eq_true rfl) ?_
  intro p e s m args below meth c A Q hx hb hml hown hT hA hP hD hK hS hE hret ls hl
  have hown : s.vm.findClass R_Mind = some m.cls := hown
  have hl : lv_has ls 3 [(0, .ref a_h), (1, .ref a_g1), (2, .int x2)] := hl
  unfold f_Mind_gaveIn at hf
  refine lv_aload_n hx hb d_Mind_gaveIn_0 rfl (lv_at hl 0 rfl) ?_
  refine va_get hx hb hT i_Mind hown hK hP 0 rfl rfl 0 (Nat.le_of_ble_eq_true rfl) (hT _ k_96) (fun _ h => h) rfl d_Mind_gaveIn_1 ?_
  refine lv_aload_n hx hb d_Mind_gaveIn_4 rfl (lv_at hl 1 rfl) ?_
  obtain ⟨q1, hq1, hf⟩ := io_b hf
  refine xcVV (wc := (w_Ring_copyFrom cI cJ cC a_h_one a_h_one_kinds a_h_one_sweets a_h_one_settings a_h_one_heaps a_g1 a_g1_kinds a_g1_sweets a_g1_settings a_g1_heaps (r_children z_h_one) (r_strokes z_h_one) (r_gave z_h_one) (r_threw z_h_one) (r_kinds z_h_one) (r_sweets z_h_one) (r_settings z_h_one) (r_heaps z_h_one) (r_children z_g1) (r_strokes z_g1) (r_gave z_g1) (r_threw z_g1) (r_kinds z_g1) (r_sweets z_g1) (r_settings z_g1))) (wc' := (w_Ring_copyFrom cI cJ cC a_h_one a_h_one_kinds a_h_one_sweets a_h_one_settings a_h_one_heaps a_g1 a_g1_kinds a_g1_sweets a_g1_settings a_g1_heaps (r_children q1) (r_strokes q1) (r_gave q1) (r_threw q1) (r_kinds q1) (r_sweets q1) (r_settings q1) (r_heaps q1) (r_children z_g1) (r_strokes z_g1) (r_gave z_g1) (r_threw z_g1) (r_kinds z_g1) (r_sweets z_g1) (r_settings z_g1))) (ws' := (w_Mind_gaveIn cI cJ cC a_h a_h_one a_h_two a_h_one_kinds a_h_one_sweets a_h_one_settings a_h_one_heaps a_g1 a_g1_kinds a_g1_sweets a_g1_settings a_g1_heaps y_h_seed (r_children q1) (r_strokes q1) (r_gave q1) (r_threw q1) (r_kinds q1) (r_sweets q1) (r_settings q1) (r_heaps q1) (r_children z_g1) (r_strokes z_g1) (r_gave z_g1) (r_threw z_g1) (r_kinds z_g1) (r_sweets z_g1) (r_settings z_g1))) (As := [.ref a_g1]) (rest := []) hx hb hml hown hT (c_Ring_copyFrom (z_h := z_h_one) (z_g1 := z_g1) a_h_one a_h_one_kinds a_h_one_sweets a_h_one_settings a_h_one_heaps a_g1 a_g1_kinds a_g1_sweets a_g1_settings a_g1_heaps hq1) k_252 k_253 k_254 k_2 k_255 hd_Ring_copyFrom ⟨Nat.le_of_ble_eq_true rfl, Nat.le_of_ble_eq_true rfl⟩ xE0_ok trivial hA hK hP hD hS [1, 2, 3, 4, 5, 6, 7, 8, 9] [0] [0, 1, 2, 3, 4, 5, 6, 7, 8, 9] rfl rfl rfl rfl rfl rfl rfl rfl rfl rfl hl.1 rfl (Nat.le_of_ble_eq_true rfl) ⟨Nat.zero_le _, Nat.zero_le _⟩ d_Mind_gaveIn_5 (fun H locs hP hD hS => ?_)
  refine lv_aload_n hx hb d_Mind_gaveIn_8 rfl (lv_at hl 0 rfl) ?_
  refine va_get hx hb hT i_Mind hown hK hP 0 rfl rfl 0 (Nat.le_of_ble_eq_true rfl) (hT _ k_96) (fun _ h => h) rfl d_Mind_gaveIn_9 ?_
  refine lv_iload_n hx hb d_Mind_gaveIn_12 rfl (lv_at hl 2 rfl) ?_
  obtain ⟨q2, hq2, hf⟩ := io_b hf
  refine xcVV (wc := (w_Ring_strikeOften cI cJ cC a_h_one a_h_one_kinds a_h_one_sweets a_h_one_settings a_h_one_heaps (r_children q1) (r_strokes q1) (r_gave q1) (r_threw q1) (r_kinds q1) (r_sweets q1) (r_settings q1) (r_heaps q1))) (wc' := (w_Ring_strikeOften cI cJ cC a_h_one a_h_one_kinds a_h_one_sweets a_h_one_settings a_h_one_heaps (r_children q2) (r_strokes q2) (r_gave q2) (r_threw q2) (r_kinds q2) (r_sweets q2) (r_settings q2) (r_heaps q2))) (ws' := (w_Mind_gaveIn cI cJ cC a_h a_h_one a_h_two a_h_one_kinds a_h_one_sweets a_h_one_settings a_h_one_heaps a_g1 a_g1_kinds a_g1_sweets a_g1_settings a_g1_heaps y_h_seed (r_children q2) (r_strokes q2) (r_gave q2) (r_threw q2) (r_kinds q2) (r_sweets q2) (r_settings q2) (r_heaps q2) (r_children z_g1) (r_strokes z_g1) (r_gave z_g1) (r_threw z_g1) (r_kinds z_g1) (r_sweets z_g1) (r_settings z_g1))) (As := [.int x2]) (rest := []) hx hb hml hown hT (c_Ring_strikeOften (z_h := q1) a_h_one a_h_one_kinds a_h_one_sweets a_h_one_settings a_h_one_heaps hq2) k_256 k_257 k_258 k_2 k_259 hd_Ring_strikeOften ⟨Nat.le_of_ble_eq_true rfl, Nat.le_of_ble_eq_true rfl⟩ xE0_ok trivial hA hK hP hD hS [1, 2, 3, 4, 5] [0, 6, 7, 8, 9] [0, 5, 6, 7, 8, 9, 1, 2, 3, 4] rfl rfl rfl rfl rfl rfl rfl rfl rfl rfl hl.1 rfl (Nat.le_of_ble_eq_true rfl) ⟨Nat.zero_le _, Nat.zero_le _⟩ d_Mind_gaveIn_13 (fun H locs hP hD hS => ?_)
  refine lv_aload_n hx hb d_Mind_gaveIn_16 rfl (lv_at hl 0 rfl) ?_
  refine va_get hx hb hT i_Mind hown hK hP 0 rfl rfl 0 (Nat.le_of_ble_eq_true rfl) (hT _ k_96) (fun _ h => h) rfl d_Mind_gaveIn_17 ?_
  refine va_get hx hb hT i_Ring hown hK hP 1 rfl rfl 5 (Nat.le_of_ble_eq_true rfl) (hT _ k_44) (fun _ h => h) rfl d_Mind_gaveIn_20 ?_
  refine lv_aload_n hx hb d_Mind_gaveIn_23 rfl (lv_at hl 1 rfl) ?_
  refine va_get hx hb hT i_Ring hown hK hP 6 rfl rfl 5 (Nat.le_of_ble_eq_true rfl) (hT _ k_44) (fun _ h => h) rfl d_Mind_gaveIn_24 ?_
  refine lv_isub hx hb d_Mind_gaveIn_27 ?_
  have hq := Option.some.inj hf
  subst hq
  exact hret _ _ _ _ _ d_Mind_gaveIn_28 rfl rfl hP hD hS
abbrev w_Mind_threwIn (cI cJ cC : ClassId) (a_h a_h_one a_h_two a_h_one_kinds a_h_one_sweets a_h_one_settings a_h_one_heaps a_g1 a_g1_kinds a_g1_sweets a_g1_settings a_g1_heaps : Nat) (y_h_seed : Int32) (p_h_one_children : Int32) (p_h_one_strokes : Int32) (p_h_one_gave : Int32) (p_h_one_threw : Int32) (p_h_one_kinds : (Nat → Int32)) (p_h_one_sweets : (Nat → Int32)) (p_h_one_settings : (Nat → Int32)) (p_h_one_heaps : (Nat → Int32)) (p_g1_children : Int32) (p_g1_strokes : Int32) (p_g1_gave : Int32) (p_g1_threw : Int32) (p_g1_kinds : (Nat → Int32)) (p_g1_sweets : (Nat → Int32)) (p_g1_settings : (Nat → Int32)) : va_W := [(a_h, .inr (3, [.ref a_h_one, .ref a_h_two, .int y_h_seed])), (a_h_one, .inr (1, [.ref a_h_one_kinds, .ref a_h_one_sweets, .ref a_h_one_settings, .int p_h_one_children, .int p_h_one_strokes, .int p_h_one_gave, .int p_h_one_threw, .ref a_h_one_heaps])), (a_h_one_kinds, .inl (cI, (8, .inl p_h_one_kinds))), (a_h_one_sweets, .inl (cI, (8, .inl p_h_one_sweets))), (a_h_one_settings, .inl (cI, (3, .inl p_h_one_settings))), (a_h_one_heaps, .inl (cI, (8, .inl p_h_one_heaps))), (a_g1, .inr (1, [.ref a_g1_kinds, .ref a_g1_sweets, .ref a_g1_settings, .int p_g1_children, .int p_g1_strokes, .int p_g1_gave, .int p_g1_threw, .ref a_g1_heaps])), (a_g1_kinds, .inl (cI, (8, .inl p_g1_kinds))), (a_g1_sweets, .inl (cI, (8, .inl p_g1_sweets))), (a_g1_settings, .inl (cI, (3, .inl p_g1_settings)))]
theorem d_Mind_threwIn_0 : decode b_Mind_threwIn 0 = .ok (.aload_n 0, 1) := by decide +kernel
theorem d_Mind_threwIn_1 : decode b_Mind_threwIn 1 = .ok (.getfield 12, 3) := by decide +kernel
theorem d_Mind_threwIn_4 : decode b_Mind_threwIn 4 = .ok (.aload_n 1, 1) := by decide +kernel
theorem d_Mind_threwIn_5 : decode b_Mind_threwIn 5 = .ok (.invokevirtual 25, 3) := by decide +kernel
theorem d_Mind_threwIn_8 : decode b_Mind_threwIn 8 = .ok (.aload_n 0, 1) := by decide +kernel
theorem d_Mind_threwIn_9 : decode b_Mind_threwIn 9 = .ok (.getfield 12, 3) := by decide +kernel
theorem d_Mind_threwIn_12 : decode b_Mind_threwIn 12 = .ok (.iload_n 2, 1) := by decide +kernel
theorem d_Mind_threwIn_13 : decode b_Mind_threwIn 13 = .ok (.invokevirtual 29, 3) := by decide +kernel
theorem d_Mind_threwIn_16 : decode b_Mind_threwIn 16 = .ok (.aload_n 0, 1) := by decide +kernel
theorem d_Mind_threwIn_17 : decode b_Mind_threwIn 17 = .ok (.getfield 12, 3) := by decide +kernel
theorem d_Mind_threwIn_20 : decode b_Mind_threwIn 20 = .ok (.getfield 40, 3) := by decide +kernel
theorem d_Mind_threwIn_23 : decode b_Mind_threwIn 23 = .ok (.aload_n 1, 1) := by decide +kernel
theorem d_Mind_threwIn_24 : decode b_Mind_threwIn 24 = .ok (.getfield 40, 3) := by decide +kernel
theorem d_Mind_threwIn_27 : decode b_Mind_threwIn 27 = .ok (.isub, 1) := by decide +kernel
theorem d_Mind_threwIn_28 : decode b_Mind_threwIn 28 = .ok (.ireturn, 1) := by decide +kernel
set_option maxHeartbeats 4000000 in
set_option maxRecDepth 100000 in
theorem c_Mind_threwIn {l : Launch} {D : va_G} {cI cJ cC : ClassId} (a_h a_h_one a_h_two a_h_one_kinds a_h_one_sweets a_h_one_settings a_h_one_heaps a_g1 a_g1_kinds a_g1_sweets a_g1_settings a_g1_heaps : Nat) (y_h_seed : Int32) {z_h_one : RS} {z_g1 : RS} {x2 : Int32} {q : Int32 × RS} (hf : f_Mind_threwIn z_h_one z_g1 x2 = some q) : xI l y_Mind_threwIn b_Mind_threwIn 3 .int 5 111 D (tyK cI cJ cC) xE0 [.ref a_h, .ref a_g1, .int x2] (w_Mind_threwIn cI cJ cC a_h a_h_one a_h_two a_h_one_kinds a_h_one_sweets a_h_one_settings a_h_one_heaps a_g1 a_g1_kinds a_g1_sweets a_g1_settings a_g1_heaps y_h_seed (r_children z_h_one) (r_strokes z_h_one) (r_gave z_h_one) (r_threw z_h_one) (r_kinds z_h_one) (r_sweets z_h_one) (r_settings z_h_one) (r_heaps z_h_one) (r_children z_g1) (r_strokes z_g1) (r_gave z_g1) (r_threw z_g1) (r_kinds z_g1) (r_sweets z_g1) (r_settings z_g1)) q.1 (w_Mind_threwIn cI cJ cC a_h a_h_one a_h_two a_h_one_kinds a_h_one_sweets a_h_one_settings a_h_one_heaps a_g1 a_g1_kinds a_g1_sweets a_g1_settings a_g1_heaps y_h_seed (r_children q.2) (r_strokes q.2) (r_gave q.2) (r_threw q.2) (r_kinds q.2) (r_sweets q.2) (r_settings q.2) (r_heaps q.2) (r_children z_g1) (r_strokes z_g1) (r_gave z_g1) (r_threw z_g1) (r_kinds z_g1) (r_sweets z_g1) (r_settings z_g1)) := by
  refine xI_of (by decide) (Nat.le_of_ble_eq_true rfl) ?_
  intro p e s m args below meth c A Q hx hb hml hown hT hA hP hD hK hS hE hret ls hl
  have hown : s.vm.findClass R_Mind = some m.cls := hown
  have hl : lv_has ls 3 [(0, .ref a_h), (1, .ref a_g1), (2, .int x2)] := hl
  unfold f_Mind_threwIn at hf
  refine lv_aload_n hx hb d_Mind_threwIn_0 rfl (lv_at hl 0 rfl) ?_
  refine va_get hx hb hT i_Mind hown hK hP 0 rfl rfl 0 (Nat.le_of_ble_eq_true rfl) (hT _ k_96) (fun _ h => h) rfl d_Mind_threwIn_1 ?_
  refine lv_aload_n hx hb d_Mind_threwIn_4 rfl (lv_at hl 1 rfl) ?_
  obtain ⟨q1, hq1, hf⟩ := io_b hf
  refine xcVV (wc := (w_Ring_copyFrom cI cJ cC a_h_one a_h_one_kinds a_h_one_sweets a_h_one_settings a_h_one_heaps a_g1 a_g1_kinds a_g1_sweets a_g1_settings a_g1_heaps (r_children z_h_one) (r_strokes z_h_one) (r_gave z_h_one) (r_threw z_h_one) (r_kinds z_h_one) (r_sweets z_h_one) (r_settings z_h_one) (r_heaps z_h_one) (r_children z_g1) (r_strokes z_g1) (r_gave z_g1) (r_threw z_g1) (r_kinds z_g1) (r_sweets z_g1) (r_settings z_g1))) (wc' := (w_Ring_copyFrom cI cJ cC a_h_one a_h_one_kinds a_h_one_sweets a_h_one_settings a_h_one_heaps a_g1 a_g1_kinds a_g1_sweets a_g1_settings a_g1_heaps (r_children q1) (r_strokes q1) (r_gave q1) (r_threw q1) (r_kinds q1) (r_sweets q1) (r_settings q1) (r_heaps q1) (r_children z_g1) (r_strokes z_g1) (r_gave z_g1) (r_threw z_g1) (r_kinds z_g1) (r_sweets z_g1) (r_settings z_g1))) (ws' := (w_Mind_threwIn cI cJ cC a_h a_h_one a_h_two a_h_one_kinds a_h_one_sweets a_h_one_settings a_h_one_heaps a_g1 a_g1_kinds a_g1_sweets a_g1_settings a_g1_heaps y_h_seed (r_children q1) (r_strokes q1) (r_gave q1) (r_threw q1) (r_kinds q1) (r_sweets q1) (r_settings q1) (r_heaps q1) (r_children z_g1) (r_strokes z_g1) (r_gave z_g1) (r_threw z_g1) (r_kinds z_g1) (r_sweets z_g1) (r_settings z_g1))) (As := [.ref a_g1]) (rest := []) hx hb hml hown hT (c_Ring_copyFrom (z_h := z_h_one) (z_g1 := z_g1) a_h_one a_h_one_kinds a_h_one_sweets a_h_one_settings a_h_one_heaps a_g1 a_g1_kinds a_g1_sweets a_g1_settings a_g1_heaps hq1) k_252 k_253 k_254 k_2 k_255 hd_Ring_copyFrom ⟨Nat.le_of_ble_eq_true rfl, Nat.le_of_ble_eq_true rfl⟩ xE0_ok trivial hA hK hP hD hS [1, 2, 3, 4, 5, 6, 7, 8, 9] [0] [0, 1, 2, 3, 4, 5, 6, 7, 8, 9] rfl rfl rfl rfl rfl rfl rfl rfl rfl rfl hl.1 rfl (Nat.le_of_ble_eq_true rfl) ⟨Nat.zero_le _, Nat.zero_le _⟩ d_Mind_threwIn_5 (fun H locs hP hD hS => ?_)
  refine lv_aload_n hx hb d_Mind_threwIn_8 rfl (lv_at hl 0 rfl) ?_
  refine va_get hx hb hT i_Mind hown hK hP 0 rfl rfl 0 (Nat.le_of_ble_eq_true rfl) (hT _ k_96) (fun _ h => h) rfl d_Mind_threwIn_9 ?_
  refine lv_iload_n hx hb d_Mind_threwIn_12 rfl (lv_at hl 2 rfl) ?_
  obtain ⟨q2, hq2, hf⟩ := io_b hf
  refine xcVV (wc := (w_Ring_strikeOften cI cJ cC a_h_one a_h_one_kinds a_h_one_sweets a_h_one_settings a_h_one_heaps (r_children q1) (r_strokes q1) (r_gave q1) (r_threw q1) (r_kinds q1) (r_sweets q1) (r_settings q1) (r_heaps q1))) (wc' := (w_Ring_strikeOften cI cJ cC a_h_one a_h_one_kinds a_h_one_sweets a_h_one_settings a_h_one_heaps (r_children q2) (r_strokes q2) (r_gave q2) (r_threw q2) (r_kinds q2) (r_sweets q2) (r_settings q2) (r_heaps q2))) (ws' := (w_Mind_threwIn cI cJ cC a_h a_h_one a_h_two a_h_one_kinds a_h_one_sweets a_h_one_settings a_h_one_heaps a_g1 a_g1_kinds a_g1_sweets a_g1_settings a_g1_heaps y_h_seed (r_children q2) (r_strokes q2) (r_gave q2) (r_threw q2) (r_kinds q2) (r_sweets q2) (r_settings q2) (r_heaps q2) (r_children z_g1) (r_strokes z_g1) (r_gave z_g1) (r_threw z_g1) (r_kinds z_g1) (r_sweets z_g1) (r_settings z_g1))) (As := [.int x2]) (rest := []) hx hb hml hown hT (c_Ring_strikeOften (z_h := q1) a_h_one a_h_one_kinds a_h_one_sweets a_h_one_settings a_h_one_heaps hq2) k_256 k_257 k_258 k_2 k_259 hd_Ring_strikeOften ⟨Nat.le_of_ble_eq_true rfl, Nat.le_of_ble_eq_true rfl⟩ xE0_ok trivial hA hK hP hD hS [1, 2, 3, 4, 5] [0, 6, 7, 8, 9] [0, 5, 6, 7, 8, 9, 1, 2, 3, 4] rfl rfl rfl rfl rfl rfl rfl rfl rfl rfl hl.1 rfl (Nat.le_of_ble_eq_true rfl) ⟨Nat.zero_le _, Nat.zero_le _⟩ d_Mind_threwIn_13 (fun H locs hP hD hS => ?_)
  refine lv_aload_n hx hb d_Mind_threwIn_16 rfl (lv_at hl 0 rfl) ?_
  refine va_get hx hb hT i_Mind hown hK hP 0 rfl rfl 0 (Nat.le_of_ble_eq_true rfl) (hT _ k_96) (fun _ h => h) rfl d_Mind_threwIn_17 ?_
  refine va_get hx hb hT i_Ring hown hK hP 1 rfl rfl 6 (Nat.le_of_ble_eq_true rfl) (hT _ k_47) (fun _ h => h) rfl d_Mind_threwIn_20 ?_
  refine lv_aload_n hx hb d_Mind_threwIn_23 rfl (lv_at hl 1 rfl) ?_
  refine va_get hx hb hT i_Ring hown hK hP 6 rfl rfl 6 (Nat.le_of_ble_eq_true rfl) (hT _ k_47) (fun _ h => h) rfl d_Mind_threwIn_24 ?_
  refine lv_isub hx hb d_Mind_threwIn_27 ?_
  have hq := Option.some.inj hf
  subst hq
  exact hret _ _ _ _ _ d_Mind_threwIn_28 rfl rfl hP hD hS
abbrev w_Mind_restsBehind (cI cJ cC : ClassId) (a_h a_h_one a_h_two a_h_one_kinds a_h_one_sweets a_h_one_settings a_h_one_heaps a_h_two_kinds a_h_two_sweets a_h_two_settings a_h_two_heaps a_g1 a_g1_kinds a_g1_sweets a_g1_settings a_g1_heaps : Nat) (y_h_seed : Int32) (p_h_one_children : Int32) (p_h_one_strokes : Int32) (p_h_one_gave : Int32) (p_h_one_threw : Int32) (p_h_one_kinds : (Nat → Int32)) (p_h_one_sweets : (Nat → Int32)) (p_h_one_settings : (Nat → Int32)) (p_h_one_heaps : (Nat → Int32)) (p_h_two_children : Int32) (p_h_two_strokes : Int32) (p_h_two_gave : Int32) (p_h_two_threw : Int32) (p_h_two_kinds : (Nat → Int32)) (p_h_two_sweets : (Nat → Int32)) (p_h_two_settings : (Nat → Int32)) (p_h_two_heaps : (Nat → Int32)) (p_g1_children : Int32) (p_g1_strokes : Int32) (p_g1_gave : Int32) (p_g1_threw : Int32) (p_g1_kinds : (Nat → Int32)) (p_g1_sweets : (Nat → Int32)) (p_g1_settings : (Nat → Int32)) : va_W := [(a_h, .inr (3, [.ref a_h_one, .ref a_h_two, .int y_h_seed])), (a_h_one, .inr (1, [.ref a_h_one_kinds, .ref a_h_one_sweets, .ref a_h_one_settings, .int p_h_one_children, .int p_h_one_strokes, .int p_h_one_gave, .int p_h_one_threw, .ref a_h_one_heaps])), (a_h_one_kinds, .inl (cI, (8, .inl p_h_one_kinds))), (a_h_one_sweets, .inl (cI, (8, .inl p_h_one_sweets))), (a_h_one_settings, .inl (cI, (3, .inl p_h_one_settings))), (a_h_one_heaps, .inl (cI, (8, .inl p_h_one_heaps))), (a_h_two, .inr (1, [.ref a_h_two_kinds, .ref a_h_two_sweets, .ref a_h_two_settings, .int p_h_two_children, .int p_h_two_strokes, .int p_h_two_gave, .int p_h_two_threw, .ref a_h_two_heaps])), (a_h_two_kinds, .inl (cI, (8, .inl p_h_two_kinds))), (a_h_two_sweets, .inl (cI, (8, .inl p_h_two_sweets))), (a_h_two_settings, .inl (cI, (3, .inl p_h_two_settings))), (a_h_two_heaps, .inl (cI, (8, .inl p_h_two_heaps))), (a_g1, .inr (1, [.ref a_g1_kinds, .ref a_g1_sweets, .ref a_g1_settings, .int p_g1_children, .int p_g1_strokes, .int p_g1_gave, .int p_g1_threw, .ref a_g1_heaps])), (a_g1_kinds, .inl (cI, (8, .inl p_g1_kinds))), (a_g1_sweets, .inl (cI, (8, .inl p_g1_sweets))), (a_g1_settings, .inl (cI, (3, .inl p_g1_settings)))]
theorem d_Mind_restsBehind_0 : decode b_Mind_restsBehind 0 = .ok (.aload_n 0, 1) := by decide +kernel
theorem d_Mind_restsBehind_1 : decode b_Mind_restsBehind 1 = .ok (.getfield 12, 3) := by decide +kernel
theorem d_Mind_restsBehind_4 : decode b_Mind_restsBehind 4 = .ok (.aload_n 1, 1) := by decide +kernel
theorem d_Mind_restsBehind_5 : decode b_Mind_restsBehind 5 = .ok (.invokevirtual 25, 3) := by decide +kernel
theorem d_Mind_restsBehind_8 : decode b_Mind_restsBehind 8 = .ok (.aload_n 0, 1) := by decide +kernel
theorem d_Mind_restsBehind_9 : decode b_Mind_restsBehind 9 = .ok (.getfield 18, 3) := by decide +kernel
theorem d_Mind_restsBehind_12 : decode b_Mind_restsBehind 12 = .ok (.aload_n 1, 1) := by decide +kernel
theorem d_Mind_restsBehind_13 : decode b_Mind_restsBehind 13 = .ok (.invokevirtual 25, 3) := by decide +kernel
theorem d_Mind_restsBehind_16 : decode b_Mind_restsBehind 16 = .ok (.iconst 0, 1) := by decide +kernel
theorem d_Mind_restsBehind_17 : decode b_Mind_restsBehind 17 = .ok (.istore_n 2, 1) := by decide +kernel
theorem d_Mind_restsBehind_18 : decode b_Mind_restsBehind 18 = .ok (.iload_n 2, 1) := by decide +kernel
theorem d_Mind_restsBehind_19 : decode b_Mind_restsBehind 19 = .ok (.sipush 200, 3) := by decide +kernel
theorem d_Mind_restsBehind_22 : decode b_Mind_restsBehind 22 = .ok (.if_icmp .gt 44, 3) := by decide +kernel
theorem d_Mind_restsBehind_25 : decode b_Mind_restsBehind 25 = .ok (.aload_n 0, 1) := by decide +kernel
theorem d_Mind_restsBehind_26 : decode b_Mind_restsBehind 26 = .ok (.getfield 18, 3) := by decide +kernel
theorem d_Mind_restsBehind_29 : decode b_Mind_restsBehind 29 = .ok (.invokevirtual 43, 3) := by decide +kernel
theorem d_Mind_restsBehind_32 : decode b_Mind_restsBehind 32 = .ok (.pop, 1) := by decide +kernel
theorem d_Mind_restsBehind_33 : decode b_Mind_restsBehind 33 = .ok (.aload_n 0, 1) := by decide +kernel
theorem d_Mind_restsBehind_34 : decode b_Mind_restsBehind 34 = .ok (.getfield 18, 3) := by decide +kernel
theorem d_Mind_restsBehind_37 : decode b_Mind_restsBehind 37 = .ok (.aload_n 0, 1) := by decide +kernel
theorem d_Mind_restsBehind_38 : decode b_Mind_restsBehind 38 = .ok (.getfield 12, 3) := by decide +kernel
theorem d_Mind_restsBehind_41 : decode b_Mind_restsBehind 41 = .ok (.invokevirtual 47, 3) := by decide +kernel
theorem d_Mind_restsBehind_44 : decode b_Mind_restsBehind 44 = .ok (.ifCond .eq 5, 3) := by decide +kernel
theorem d_Mind_restsBehind_47 : decode b_Mind_restsBehind 47 = .ok (.iload_n 2, 1) := by decide +kernel
theorem d_Mind_restsBehind_48 : decode b_Mind_restsBehind 48 = .ok (.ireturn, 1) := by decide +kernel
theorem d_Mind_restsBehind_49 : decode b_Mind_restsBehind 49 = .ok (.aload_n 0, 1) := by decide +kernel
theorem d_Mind_restsBehind_50 : decode b_Mind_restsBehind 50 = .ok (.getfield 12, 3) := by decide +kernel
theorem d_Mind_restsBehind_53 : decode b_Mind_restsBehind 53 = .ok (.aload_n 0, 1) := by decide +kernel
theorem d_Mind_restsBehind_54 : decode b_Mind_restsBehind 54 = .ok (.getfield 18, 3) := by decide +kernel
theorem d_Mind_restsBehind_57 : decode b_Mind_restsBehind 57 = .ok (.invokevirtual 25, 3) := by decide +kernel
theorem d_Mind_restsBehind_60 : decode b_Mind_restsBehind 60 = .ok (.iinc 2 1, 3) := by decide +kernel
theorem d_Mind_restsBehind_63 : decode b_Mind_restsBehind 63 = .ok (.goto (-45), 3) := by decide +kernel
theorem d_Mind_restsBehind_66 : decode b_Mind_restsBehind 66 = .ok (.bipush (-9), 2) := by decide +kernel
theorem d_Mind_restsBehind_68 : decode b_Mind_restsBehind 68 = .ok (.ireturn, 1) := by decide +kernel
set_option maxHeartbeats 4000000 in
set_option maxRecDepth 100000 in
theorem c_Mind_restsBehind {l : Launch} {D : va_G} {cI cJ cC : ClassId} (a_h a_h_one a_h_two a_h_one_kinds a_h_one_sweets a_h_one_settings a_h_one_heaps a_h_two_kinds a_h_two_sweets a_h_two_settings a_h_two_heaps a_g1 a_g1_kinds a_g1_sweets a_g1_settings a_g1_heaps : Nat) (y_h_seed : Int32) {z_h_one : RS} {z_h_two : RS} {z_g1 : RS} {q : Int32 × RS × RS} (hf : f_Mind_restsBehind z_h_one z_h_two z_g1 = some q) : xI l y_Mind_restsBehind b_Mind_restsBehind 3 .int 4 89 D (tyK cI cJ cC) xE0 [.ref a_h, .ref a_g1] (w_Mind_restsBehind cI cJ cC a_h a_h_one a_h_two a_h_one_kinds a_h_one_sweets a_h_one_settings a_h_one_heaps a_h_two_kinds a_h_two_sweets a_h_two_settings a_h_two_heaps a_g1 a_g1_kinds a_g1_sweets a_g1_settings a_g1_heaps y_h_seed (r_children z_h_one) (r_strokes z_h_one) (r_gave z_h_one) (r_threw z_h_one) (r_kinds z_h_one) (r_sweets z_h_one) (r_settings z_h_one) (r_heaps z_h_one) (r_children z_h_two) (r_strokes z_h_two) (r_gave z_h_two) (r_threw z_h_two) (r_kinds z_h_two) (r_sweets z_h_two) (r_settings z_h_two) (r_heaps z_h_two) (r_children z_g1) (r_strokes z_g1) (r_gave z_g1) (r_threw z_g1) (r_kinds z_g1) (r_sweets z_g1) (r_settings z_g1)) q.1 (w_Mind_restsBehind cI cJ cC a_h a_h_one a_h_two a_h_one_kinds a_h_one_sweets a_h_one_settings a_h_one_heaps a_h_two_kinds a_h_two_sweets a_h_two_settings a_h_two_heaps a_g1 a_g1_kinds a_g1_sweets a_g1_settings a_g1_heaps y_h_seed (r_children q.2.1) (r_strokes q.2.1) (r_gave q.2.1) (r_threw q.2.1) (r_kinds q.2.1) (r_sweets q.2.1) (r_settings q.2.1) (r_heaps q.2.1) (r_children q.2.2) (r_strokes q.2.2) (r_gave q.2.2) (r_threw q.2.2) (r_kinds q.2.2) (r_sweets q.2.2) (r_settings q.2.2) (r_heaps q.2.2) (r_children z_g1) (r_strokes z_g1) (r_gave z_g1) (r_threw z_g1) (r_kinds z_g1) (r_sweets z_g1) (r_settings z_g1)) := by
  refine xI_of (by decide) (Nat.le_of_ble_eq_true rfl) ?_
  intro p e s m args below meth c A Q hx hb hml hown hT hA hP hD hK hS hE hret ls hl
  have hown : s.vm.findClass R_Mind = some m.cls := hown
  have hl : lv_has ls 3 [(0, .ref a_h), (1, .ref a_g1)] := hl
  unfold f_Mind_restsBehind at hf
  have L18 : ∀ (n : Nat) (z_h_one : RS) (z_h_two : RS) (x2 : Int32) (H : Heap) (locs : List Loc) (ls : Array Slot), f_Mind_restsBehind_L18 n z_h_one z_h_two x2 = some q → va_P D classes (w_Mind_restsBehind cI cJ cC a_h a_h_one a_h_two a_h_one_kinds a_h_one_sweets a_h_one_settings a_h_one_heaps a_h_two_kinds a_h_two_sweets a_h_two_settings a_h_two_heaps a_g1 a_g1_kinds a_g1_sweets a_g1_settings a_g1_heaps y_h_seed (r_children z_h_one) (r_strokes z_h_one) (r_gave z_h_one) (r_threw z_h_one) (r_kinds z_h_one) (r_sweets z_h_one) (r_settings z_h_one) (r_heaps z_h_one) (r_children z_h_two) (r_strokes z_h_two) (r_gave z_h_two) (r_threw z_h_two) (r_kinds z_h_two) (r_sweets z_h_two) (r_settings z_h_two) (r_heaps z_h_two) (r_children z_g1) (r_strokes z_g1) (r_gave z_g1) (r_threw z_g1) (r_kinds z_g1) (r_sweets z_g1) (r_settings z_g1)) H → va_D A (w_Mind_restsBehind cI cJ cC a_h a_h_one a_h_two a_h_one_kinds a_h_one_sweets a_h_one_settings a_h_one_heaps a_h_two_kinds a_h_two_sweets a_h_two_settings a_h_two_heaps a_g1 a_g1_kinds a_g1_sweets a_g1_settings a_g1_heaps y_h_seed (r_children z_h_one) (r_strokes z_h_one) (r_gave z_h_one) (r_threw z_h_one) (r_kinds z_h_one) (r_sweets z_h_one) (r_settings z_h_one) (r_heaps z_h_one) (r_children z_h_two) (r_strokes z_h_two) (r_gave z_h_two) (r_threw z_h_two) (r_kinds z_h_two) (r_sweets z_h_two) (r_settings z_h_two) (r_heaps z_h_two) (r_children z_g1) (r_strokes z_g1) (r_gave z_g1) (r_threw z_g1) (r_kinds z_g1) (r_sweets z_g1) (r_settings z_g1)) → va_S A s.heap H locs → lv_has ls 3 [(0, .ref a_h), (2, .int x2)] → W p l e (xRm 4 89) s m args below meth c H locs 0 0 Q (F0 m 18 ls []) := by
    intro n
    induction n with
    | zero => intro z_h_one z_h_two x2 H locs ls hf hP hD hS hl; exact nomatch (show (none : Option (Int32 × RS × RS)) = some q from hf)
    | succ n ih =>
      intro z_h_one z_h_two x2 H locs ls hf hP hD hS hl
      refine lv_iload_n hx hb d_Mind_restsBehind_18 rfl (lv_at hl 1 rfl) ?_
      refine lv_sipush (v := 200) hx hb d_Mind_restsBehind_19 (by decide) ?_
      refine lv_icmp_gt (tgt := 66) hx hb d_Mind_restsBehind_22 (by decide) (fun c3 => ?_) (fun c3 => ?_)
      · have hf := io_t hf c3
        refine lv_bipush (v := (-9)) hx hb d_Mind_restsBehind_66 (by decide) ?_
        have hq := Option.some.inj hf
        subst hq
        exact hret _ _ _ _ _ d_Mind_restsBehind_68 rfl rfl hP hD hS
      · have hf := io_f hf c3
        refine lv_aload_n hx hb d_Mind_restsBehind_25 rfl (lv_at hl 0 rfl) ?_
        refine va_get hx hb hT i_Mind hown hK hP 0 rfl rfl 1 (Nat.le_of_ble_eq_true rfl) (hT _ k_97) (fun _ h => h) rfl d_Mind_restsBehind_26 ?_
        obtain ⟨q4, hq4, hf⟩ := io_b hf
        refine xcVI (wc := (w_Ring_strike cI cJ cC a_h_two a_h_two_kinds a_h_two_sweets a_h_two_settings a_h_two_heaps (r_children z_h_two) (r_strokes z_h_two) (r_gave z_h_two) (r_threw z_h_two) (r_kinds z_h_two) (r_sweets z_h_two) (r_settings z_h_two) (r_heaps z_h_two))) (wc' := (w_Ring_strike cI cJ cC a_h_two a_h_two_kinds a_h_two_sweets a_h_two_settings a_h_two_heaps (r_children q4.2) (r_strokes q4.2) (r_gave q4.2) (r_threw q4.2) (r_kinds q4.2) (r_sweets q4.2) (r_settings q4.2) (r_heaps q4.2))) (ws' := (w_Mind_restsBehind cI cJ cC a_h a_h_one a_h_two a_h_one_kinds a_h_one_sweets a_h_one_settings a_h_one_heaps a_h_two_kinds a_h_two_sweets a_h_two_settings a_h_two_heaps a_g1 a_g1_kinds a_g1_sweets a_g1_settings a_g1_heaps y_h_seed (r_children z_h_one) (r_strokes z_h_one) (r_gave z_h_one) (r_threw z_h_one) (r_kinds z_h_one) (r_sweets z_h_one) (r_settings z_h_one) (r_heaps z_h_one) (r_children q4.2) (r_strokes q4.2) (r_gave q4.2) (r_threw q4.2) (r_kinds q4.2) (r_sweets q4.2) (r_settings q4.2) (r_heaps q4.2) (r_children z_g1) (r_strokes z_g1) (r_gave z_g1) (r_threw z_g1) (r_kinds z_g1) (r_sweets z_g1) (r_settings z_g1))) (As := []) (rest := []) hx hb hml hown hT (c_Ring_strike (z_h := z_h_two) a_h_two a_h_two_kinds a_h_two_sweets a_h_two_settings a_h_two_heaps hq4) k_284 k_220 k_221 k_2 k_222 hd_Ring_strike ⟨Nat.le_of_ble_eq_true rfl, Nat.le_of_ble_eq_true rfl⟩ xE0_ok trivial hA hK hP hD hS [6, 7, 8, 9, 10] [0, 1, 2, 3, 4, 5, 11, 12, 13, 14] [0, 1, 2, 3, 4, 5, 10, 11, 12, 13, 14, 6, 7, 8, 9] rfl rfl rfl rfl rfl rfl rfl rfl rfl rfl hl.1 rfl (Nat.le_of_ble_eq_true rfl) ⟨Nat.zero_le _, Nat.zero_le _⟩ d_Mind_restsBehind_29 (fun H locs hP hD hS => ?_)
        refine lv_pop hx hb d_Mind_restsBehind_32 rfl ?_
        refine lv_aload_n hx hb d_Mind_restsBehind_33 rfl (lv_at hl 0 rfl) ?_
        refine va_get hx hb hT i_Mind hown hK hP 0 rfl rfl 1 (Nat.le_of_ble_eq_true rfl) (hT _ k_97) (fun _ h => h) rfl d_Mind_restsBehind_34 ?_
        refine lv_aload_n hx hb d_Mind_restsBehind_37 rfl (lv_at hl 0 rfl) ?_
        refine va_get hx hb hT i_Mind hown hK hP 0 rfl rfl 0 (Nat.le_of_ble_eq_true rfl) (hT _ k_96) (fun _ h => h) rfl d_Mind_restsBehind_38 ?_
        obtain ⟨q5, hq5, hf⟩ := io_b hf
        refine xcVI (wc := (w_Ring_hasSweetsOf cI cJ cC a_h_two a_h_two_kinds a_h_two_sweets a_h_two_settings a_h_two_heaps a_h_one a_h_one_kinds a_h_one_sweets a_h_one_settings a_h_one_heaps (r_children q4.2) (r_strokes q4.2) (r_gave q4.2) (r_threw q4.2) (r_sweets q4.2) (r_children z_h_one) (r_strokes z_h_one) (r_gave z_h_one) (r_threw z_h_one) (r_sweets z_h_one))) (wc' := (w_Ring_hasSweetsOf cI cJ cC a_h_two a_h_two_kinds a_h_two_sweets a_h_two_settings a_h_two_heaps a_h_one a_h_one_kinds a_h_one_sweets a_h_one_settings a_h_one_heaps (r_children q4.2) (r_strokes q4.2) (r_gave q4.2) (r_threw q4.2) (r_sweets q4.2) (r_children z_h_one) (r_strokes z_h_one) (r_gave z_h_one) (r_threw z_h_one) (r_sweets z_h_one))) (ws' := (w_Mind_restsBehind cI cJ cC a_h a_h_one a_h_two a_h_one_kinds a_h_one_sweets a_h_one_settings a_h_one_heaps a_h_two_kinds a_h_two_sweets a_h_two_settings a_h_two_heaps a_g1 a_g1_kinds a_g1_sweets a_g1_settings a_g1_heaps y_h_seed (r_children z_h_one) (r_strokes z_h_one) (r_gave z_h_one) (r_threw z_h_one) (r_kinds z_h_one) (r_sweets z_h_one) (r_settings z_h_one) (r_heaps z_h_one) (r_children q4.2) (r_strokes q4.2) (r_gave q4.2) (r_threw q4.2) (r_kinds q4.2) (r_sweets q4.2) (r_settings q4.2) (r_heaps q4.2) (r_children z_g1) (r_strokes z_g1) (r_gave z_g1) (r_threw z_g1) (r_kinds z_g1) (r_sweets z_g1) (r_settings z_g1))) (As := [.ref a_h_one]) (rest := []) hx hb hml hown hT (c_Ring_hasSweetsOf (z_h := q4.2) (z_g1 := z_h_one) a_h_two a_h_two_kinds a_h_two_sweets a_h_two_settings a_h_two_heaps a_h_one a_h_one_kinds a_h_one_sweets a_h_one_settings a_h_one_heaps hq5) k_285 k_286 k_287 k_2 k_288 hd_Ring_hasSweetsOf ⟨Nat.le_of_ble_eq_true rfl, Nat.le_of_ble_eq_true rfl⟩ xE0_ok trivial hA hK hP hD hS [6, 8, 1, 3] [0, 2, 4, 5, 7, 9, 10, 11, 12, 13, 14] [0, 13, 1, 14, 2, 3, 11, 4, 12, 5, 6, 7, 8, 9, 10] rfl rfl rfl rfl rfl rfl rfl rfl rfl rfl hl.1 rfl (Nat.le_of_ble_eq_true rfl) ⟨Nat.zero_le _, Nat.zero_le _⟩ d_Mind_restsBehind_41 (fun H locs hP hD hS => ?_)
        refine lv_if_eq (tgt := 49) hx hb d_Mind_restsBehind_44 (by decide) (fun c6 => ?_) (fun c6 => ?_)
        · have hf := io_t hf c6
          refine lv_aload_n hx hb d_Mind_restsBehind_49 rfl (lv_at hl 0 rfl) ?_
          refine va_get hx hb hT i_Mind hown hK hP 0 rfl rfl 0 (Nat.le_of_ble_eq_true rfl) (hT _ k_96) (fun _ h => h) rfl d_Mind_restsBehind_50 ?_
          refine lv_aload_n hx hb d_Mind_restsBehind_53 rfl (lv_at hl 0 rfl) ?_
          refine va_get hx hb hT i_Mind hown hK hP 0 rfl rfl 1 (Nat.le_of_ble_eq_true rfl) (hT _ k_97) (fun _ h => h) rfl d_Mind_restsBehind_54 ?_
          obtain ⟨q7, hq7, hf⟩ := io_b hf
          refine xcVV (wc := (w_Ring_copyFrom cI cJ cC a_h_one a_h_one_kinds a_h_one_sweets a_h_one_settings a_h_one_heaps a_h_two a_h_two_kinds a_h_two_sweets a_h_two_settings a_h_two_heaps (r_children z_h_one) (r_strokes z_h_one) (r_gave z_h_one) (r_threw z_h_one) (r_kinds z_h_one) (r_sweets z_h_one) (r_settings z_h_one) (r_heaps z_h_one) (r_children q4.2) (r_strokes q4.2) (r_gave q4.2) (r_threw q4.2) (r_kinds q4.2) (r_sweets q4.2) (r_settings q4.2))) (wc' := (w_Ring_copyFrom cI cJ cC a_h_one a_h_one_kinds a_h_one_sweets a_h_one_settings a_h_one_heaps a_h_two a_h_two_kinds a_h_two_sweets a_h_two_settings a_h_two_heaps (r_children q7) (r_strokes q7) (r_gave q7) (r_threw q7) (r_kinds q7) (r_sweets q7) (r_settings q7) (r_heaps q7) (r_children q4.2) (r_strokes q4.2) (r_gave q4.2) (r_threw q4.2) (r_kinds q4.2) (r_sweets q4.2) (r_settings q4.2))) (ws' := (w_Mind_restsBehind cI cJ cC a_h a_h_one a_h_two a_h_one_kinds a_h_one_sweets a_h_one_settings a_h_one_heaps a_h_two_kinds a_h_two_sweets a_h_two_settings a_h_two_heaps a_g1 a_g1_kinds a_g1_sweets a_g1_settings a_g1_heaps y_h_seed (r_children q7) (r_strokes q7) (r_gave q7) (r_threw q7) (r_kinds q7) (r_sweets q7) (r_settings q7) (r_heaps q7) (r_children q4.2) (r_strokes q4.2) (r_gave q4.2) (r_threw q4.2) (r_kinds q4.2) (r_sweets q4.2) (r_settings q4.2) (r_heaps q4.2) (r_children z_g1) (r_strokes z_g1) (r_gave z_g1) (r_threw z_g1) (r_kinds z_g1) (r_sweets z_g1) (r_settings z_g1))) (As := [.ref a_h_two]) (rest := []) hx hb hml hown hT (c_Ring_copyFrom (z_h := z_h_one) (z_g1 := q4.2) a_h_one a_h_one_kinds a_h_one_sweets a_h_one_settings a_h_one_heaps a_h_two a_h_two_kinds a_h_two_sweets a_h_two_settings a_h_two_heaps hq7) k_252 k_253 k_254 k_2 k_255 hd_Ring_copyFrom ⟨Nat.le_of_ble_eq_true rfl, Nat.le_of_ble_eq_true rfl⟩ xE0_ok trivial hA hK hP hD hS [1, 2, 3, 4, 5, 6, 7, 8, 9] [0, 10, 11, 12, 13, 14] [0, 6, 7, 8, 9, 10, 11, 12, 13, 14, 1, 2, 3, 4, 5] rfl rfl rfl rfl rfl rfl rfl rfl rfl rfl hl.1 rfl (Nat.le_of_ble_eq_true rfl) ⟨Nat.zero_le _, Nat.zero_le _⟩ d_Mind_restsBehind_57 (fun H locs hP hD hS => ?_)
          refine lv_iinc (v := (x2 + 1)) (lv' := [(2, .int (x2 + 1)), (0, .ref a_h)]) hx hb d_Mind_restsBehind_60 hl (k := 1) rfl (by rfl) (by decide) rfl (fun ls hl => ?_)
          refine lv_goto (tgt := 18) hx hb d_Mind_restsBehind_63 (by decide) ?_
          exact ih q7 q4.2 (x2 + 1) _ _ _ hf hP hD hS (lv_sub hl [1, 0] rfl)
        · have hf := io_f hf c6
          refine lv_iload_n hx hb d_Mind_restsBehind_47 rfl (lv_at hl 1 rfl) ?_
          have hq := Option.some.inj hf
          subst hq
          exact hret _ _ _ _ _ d_Mind_restsBehind_48 rfl rfl hP hD hS
  refine lv_aload_n hx hb d_Mind_restsBehind_0 rfl (lv_at hl 0 rfl) ?_
  refine va_get hx hb hT i_Mind hown hK hP 0 rfl rfl 0 (Nat.le_of_ble_eq_true rfl) (hT _ k_96) (fun _ h => h) rfl d_Mind_restsBehind_1 ?_
  refine lv_aload_n hx hb d_Mind_restsBehind_4 rfl (lv_at hl 1 rfl) ?_
  obtain ⟨q1, hq1, hf⟩ := io_b hf
  refine xcVV (wc := (w_Ring_copyFrom cI cJ cC a_h_one a_h_one_kinds a_h_one_sweets a_h_one_settings a_h_one_heaps a_g1 a_g1_kinds a_g1_sweets a_g1_settings a_g1_heaps (r_children z_h_one) (r_strokes z_h_one) (r_gave z_h_one) (r_threw z_h_one) (r_kinds z_h_one) (r_sweets z_h_one) (r_settings z_h_one) (r_heaps z_h_one) (r_children z_g1) (r_strokes z_g1) (r_gave z_g1) (r_threw z_g1) (r_kinds z_g1) (r_sweets z_g1) (r_settings z_g1))) (wc' := (w_Ring_copyFrom cI cJ cC a_h_one a_h_one_kinds a_h_one_sweets a_h_one_settings a_h_one_heaps a_g1 a_g1_kinds a_g1_sweets a_g1_settings a_g1_heaps (r_children q1) (r_strokes q1) (r_gave q1) (r_threw q1) (r_kinds q1) (r_sweets q1) (r_settings q1) (r_heaps q1) (r_children z_g1) (r_strokes z_g1) (r_gave z_g1) (r_threw z_g1) (r_kinds z_g1) (r_sweets z_g1) (r_settings z_g1))) (ws' := (w_Mind_restsBehind cI cJ cC a_h a_h_one a_h_two a_h_one_kinds a_h_one_sweets a_h_one_settings a_h_one_heaps a_h_two_kinds a_h_two_sweets a_h_two_settings a_h_two_heaps a_g1 a_g1_kinds a_g1_sweets a_g1_settings a_g1_heaps y_h_seed (r_children q1) (r_strokes q1) (r_gave q1) (r_threw q1) (r_kinds q1) (r_sweets q1) (r_settings q1) (r_heaps q1) (r_children z_h_two) (r_strokes z_h_two) (r_gave z_h_two) (r_threw z_h_two) (r_kinds z_h_two) (r_sweets z_h_two) (r_settings z_h_two) (r_heaps z_h_two) (r_children z_g1) (r_strokes z_g1) (r_gave z_g1) (r_threw z_g1) (r_kinds z_g1) (r_sweets z_g1) (r_settings z_g1))) (As := [.ref a_g1]) (rest := []) hx hb hml hown hT (c_Ring_copyFrom (z_h := z_h_one) (z_g1 := z_g1) a_h_one a_h_one_kinds a_h_one_sweets a_h_one_settings a_h_one_heaps a_g1 a_g1_kinds a_g1_sweets a_g1_settings a_g1_heaps hq1) k_252 k_253 k_254 k_2 k_255 hd_Ring_copyFrom ⟨Nat.le_of_ble_eq_true rfl, Nat.le_of_ble_eq_true rfl⟩ xE0_ok trivial hA hK hP hD hS [1, 2, 3, 4, 5, 11, 12, 13, 14] [0, 6, 7, 8, 9, 10] [0, 6, 7, 8, 9, 10, 1, 2, 3, 4, 5, 11, 12, 13, 14] rfl rfl rfl rfl rfl rfl rfl rfl rfl rfl hl.1 rfl (Nat.le_of_ble_eq_true rfl) ⟨Nat.zero_le _, Nat.zero_le _⟩ d_Mind_restsBehind_5 (fun H locs hP hD hS => ?_)
  refine lv_aload_n hx hb d_Mind_restsBehind_8 rfl (lv_at hl 0 rfl) ?_
  refine va_get hx hb hT i_Mind hown hK hP 0 rfl rfl 1 (Nat.le_of_ble_eq_true rfl) (hT _ k_97) (fun _ h => h) rfl d_Mind_restsBehind_9 ?_
  refine lv_aload_n hx hb d_Mind_restsBehind_12 rfl (lv_at hl 1 rfl) ?_
  obtain ⟨q2, hq2, hf⟩ := io_b hf
  refine xcVV (wc := (w_Ring_copyFrom cI cJ cC a_h_two a_h_two_kinds a_h_two_sweets a_h_two_settings a_h_two_heaps a_g1 a_g1_kinds a_g1_sweets a_g1_settings a_g1_heaps (r_children z_h_two) (r_strokes z_h_two) (r_gave z_h_two) (r_threw z_h_two) (r_kinds z_h_two) (r_sweets z_h_two) (r_settings z_h_two) (r_heaps z_h_two) (r_children z_g1) (r_strokes z_g1) (r_gave z_g1) (r_threw z_g1) (r_kinds z_g1) (r_sweets z_g1) (r_settings z_g1))) (wc' := (w_Ring_copyFrom cI cJ cC a_h_two a_h_two_kinds a_h_two_sweets a_h_two_settings a_h_two_heaps a_g1 a_g1_kinds a_g1_sweets a_g1_settings a_g1_heaps (r_children q2) (r_strokes q2) (r_gave q2) (r_threw q2) (r_kinds q2) (r_sweets q2) (r_settings q2) (r_heaps q2) (r_children z_g1) (r_strokes z_g1) (r_gave z_g1) (r_threw z_g1) (r_kinds z_g1) (r_sweets z_g1) (r_settings z_g1))) (ws' := (w_Mind_restsBehind cI cJ cC a_h a_h_one a_h_two a_h_one_kinds a_h_one_sweets a_h_one_settings a_h_one_heaps a_h_two_kinds a_h_two_sweets a_h_two_settings a_h_two_heaps a_g1 a_g1_kinds a_g1_sweets a_g1_settings a_g1_heaps y_h_seed (r_children q1) (r_strokes q1) (r_gave q1) (r_threw q1) (r_kinds q1) (r_sweets q1) (r_settings q1) (r_heaps q1) (r_children q2) (r_strokes q2) (r_gave q2) (r_threw q2) (r_kinds q2) (r_sweets q2) (r_settings q2) (r_heaps q2) (r_children z_g1) (r_strokes z_g1) (r_gave z_g1) (r_threw z_g1) (r_kinds z_g1) (r_sweets z_g1) (r_settings z_g1))) (As := [.ref a_g1]) (rest := []) hx hb hml hown hT (c_Ring_copyFrom (z_h := z_h_two) (z_g1 := z_g1) a_h_two a_h_two_kinds a_h_two_sweets a_h_two_settings a_h_two_heaps a_g1 a_g1_kinds a_g1_sweets a_g1_settings a_g1_heaps hq2) k_252 k_253 k_254 k_2 k_255 hd_Ring_copyFrom ⟨Nat.le_of_ble_eq_true rfl, Nat.le_of_ble_eq_true rfl⟩ xE0_ok trivial hA hK hP hD hS [6, 7, 8, 9, 10, 11, 12, 13, 14] [0, 1, 2, 3, 4, 5] [0, 1, 2, 3, 4, 5, 6, 7, 8, 9, 10, 11, 12, 13, 14] rfl rfl rfl rfl rfl rfl rfl rfl rfl rfl hl.1 rfl (Nat.le_of_ble_eq_true rfl) ⟨Nat.zero_le _, Nat.zero_le _⟩ d_Mind_restsBehind_13 (fun H locs hP hD hS => ?_)
  refine lv_iconst (v := 0) hx hb d_Mind_restsBehind_16 (by decide) ?_
  refine lv_istore_n (lv' := [(2, .int 0), (0, .ref a_h), (1, .ref a_g1)]) hx hb d_Mind_restsBehind_17 rfl hl (by decide) rfl (fun ls hl => ?_)
  exact L18 FU q1 q2 0 _ _ _ hf hP hD hS (lv_sub hl [1, 0] rfl)
abbrev w_Mind_alikeWithin (cI cJ cC : ClassId) (a_g0 a_g0_kinds a_g0_sweets a_g0_settings a_g0_heaps : Nat) (p_g0_children : Int32) (p_g0_strokes : Int32) (p_g0_gave : Int32) (p_g0_threw : Int32) (p_g0_kinds : (Nat → Int32)) (p_g0_sweets : (Nat → Int32)) (p_g0_settings : (Nat → Int32)) (p_g0_heaps : (Nat → Int32)) : va_W := [(a_g0, .inr (1, [.ref a_g0_kinds, .ref a_g0_sweets, .ref a_g0_settings, .int p_g0_children, .int p_g0_strokes, .int p_g0_gave, .int p_g0_threw, .ref a_g0_heaps])), (a_g0_kinds, .inl (cI, (8, .inl p_g0_kinds))), (a_g0_sweets, .inl (cI, (8, .inl p_g0_sweets))), (a_g0_settings, .inl (cI, (3, .inl p_g0_settings))), (a_g0_heaps, .inl (cI, (8, .inl p_g0_heaps)))]
theorem d_Mind_alikeWithin_0 : decode b_Mind_alikeWithin 0 = .ok (.iconst 0, 1) := by decide +kernel
theorem d_Mind_alikeWithin_1 : decode b_Mind_alikeWithin 1 = .ok (.istore_n 2, 1) := by decide +kernel
theorem d_Mind_alikeWithin_2 : decode b_Mind_alikeWithin 2 = .ok (.iload_n 2, 1) := by decide +kernel
theorem d_Mind_alikeWithin_3 : decode b_Mind_alikeWithin 3 = .ok (.iload_n 1, 1) := by decide +kernel
theorem d_Mind_alikeWithin_4 : decode b_Mind_alikeWithin 4 = .ok (.if_icmp .gt 23, 3) := by decide +kernel
theorem d_Mind_alikeWithin_7 : decode b_Mind_alikeWithin 7 = .ok (.aload_n 0, 1) := by decide +kernel
theorem d_Mind_alikeWithin_8 : decode b_Mind_alikeWithin 8 = .ok (.invokevirtual 55, 3) := by decide +kernel
theorem d_Mind_alikeWithin_11 : decode b_Mind_alikeWithin 11 = .ok (.ifCond .eq 5, 3) := by decide +kernel
theorem d_Mind_alikeWithin_14 : decode b_Mind_alikeWithin 14 = .ok (.iload_n 2, 1) := by decide +kernel
theorem d_Mind_alikeWithin_15 : decode b_Mind_alikeWithin 15 = .ok (.ireturn, 1) := by decide +kernel
theorem d_Mind_alikeWithin_16 : decode b_Mind_alikeWithin 16 = .ok (.aload_n 0, 1) := by decide +kernel
theorem d_Mind_alikeWithin_17 : decode b_Mind_alikeWithin 17 = .ok (.invokevirtual 43, 3) := by decide +kernel
theorem d_Mind_alikeWithin_20 : decode b_Mind_alikeWithin 20 = .ok (.pop, 1) := by decide +kernel
theorem d_Mind_alikeWithin_21 : decode b_Mind_alikeWithin 21 = .ok (.iinc 2 1, 3) := by decide +kernel
theorem d_Mind_alikeWithin_24 : decode b_Mind_alikeWithin 24 = .ok (.goto (-22), 3) := by decide +kernel
theorem d_Mind_alikeWithin_27 : decode b_Mind_alikeWithin 27 = .ok (.bipush (-9), 2) := by decide +kernel
theorem d_Mind_alikeWithin_29 : decode b_Mind_alikeWithin 29 = .ok (.ireturn, 1) := by decide +kernel
set_option maxHeartbeats 4000000 in
set_option maxRecDepth 100000 in
theorem c_Mind_alikeWithin {l : Launch} {D : va_G} {cI cJ cC : ClassId} (a_g0 a_g0_kinds a_g0_sweets a_g0_settings a_g0_heaps : Nat) {z_g0 : RS} {x1 : Int32} {q : Int32 × RS} (hf : f_Mind_alikeWithin z_g0 x1 = some q) : xI l y_Mind_alikeWithin b_Mind_alikeWithin 3 .int 4 89 D (tyK cI cJ cC) xE0 [.ref a_g0, .int x1] (w_Mind_alikeWithin cI cJ cC a_g0 a_g0_kinds a_g0_sweets a_g0_settings a_g0_heaps (r_children z_g0) (r_strokes z_g0) (r_gave z_g0) (r_threw z_g0) (r_kinds z_g0) (r_sweets z_g0) (r_settings z_g0) (r_heaps z_g0)) q.1 (w_Mind_alikeWithin cI cJ cC a_g0 a_g0_kinds a_g0_sweets a_g0_settings a_g0_heaps (r_children q.2) (r_strokes q.2) (r_gave q.2) (r_threw q.2) (r_kinds q.2) (r_sweets q.2) (r_settings q.2) (r_heaps q.2)) := by
  refine xI_of (by decide) (Nat.le_of_ble_eq_true rfl) ?_
  intro p e s m args below meth c A Q hx hb hml hown hT hA hP hD hK hS hE hret ls hl
  have hown : s.vm.findClass R_Mind = some m.cls := hown
  have hl : lv_has ls 3 [(0, .ref a_g0), (1, .int x1)] := hl
  unfold f_Mind_alikeWithin at hf
  have L2 : ∀ (n : Nat) (z_g0 : RS) (x2 : Int32) (H : Heap) (locs : List Loc) (ls : Array Slot), f_Mind_alikeWithin_L2 x1 n z_g0 x2 = some q → va_P D classes (w_Mind_alikeWithin cI cJ cC a_g0 a_g0_kinds a_g0_sweets a_g0_settings a_g0_heaps (r_children z_g0) (r_strokes z_g0) (r_gave z_g0) (r_threw z_g0) (r_kinds z_g0) (r_sweets z_g0) (r_settings z_g0) (r_heaps z_g0)) H → va_D A (w_Mind_alikeWithin cI cJ cC a_g0 a_g0_kinds a_g0_sweets a_g0_settings a_g0_heaps (r_children z_g0) (r_strokes z_g0) (r_gave z_g0) (r_threw z_g0) (r_kinds z_g0) (r_sweets z_g0) (r_settings z_g0) (r_heaps z_g0)) → va_S A s.heap H locs → lv_has ls 3 [(0, .ref a_g0), (1, .int x1), (2, .int x2)] → W p l e (xRm 4 89) s m args below meth c H locs 0 0 Q (F0 m 2 ls []) := by
    intro n
    induction n with
    | zero => intro z_g0 x2 H locs ls hf hP hD hS hl; exact nomatch (show (none : Option (Int32 × RS)) = some q from hf)
    | succ n ih =>
      intro z_g0 x2 H locs ls hf hP hD hS hl
      refine lv_iload_n hx hb d_Mind_alikeWithin_2 rfl (lv_at hl 2 rfl) ?_
      refine lv_iload_n hx hb d_Mind_alikeWithin_3 rfl (lv_at hl 1 rfl) ?_
      refine lv_icmp_gt (tgt := 27) hx hb d_Mind_alikeWithin_4 (by decide) (fun c1 => ?_) (fun c1 => ?_)
      · have hf := io_t hf c1
        refine lv_bipush (v := (-9)) hx hb d_Mind_alikeWithin_27 (by decide) ?_
        have hq := Option.some.inj hf
        subst hq
        exact hret _ _ _ _ _ d_Mind_alikeWithin_29 rfl rfl hP hD hS
      · have hf := io_f hf c1
        refine lv_aload_n hx hb d_Mind_alikeWithin_7 rfl (lv_at hl 0 rfl) ?_
        obtain ⟨q2, hq2, hf⟩ := io_b hf
        refine xcVI (wc := (w_Ring_allHaveAlike cI cJ cC a_g0 a_g0_kinds a_g0_sweets a_g0_settings a_g0_heaps (r_children z_g0) (r_strokes z_g0) (r_gave z_g0) (r_threw z_g0) (r_sweets z_g0))) (wc' := (w_Ring_allHaveAlike cI cJ cC a_g0 a_g0_kinds a_g0_sweets a_g0_settings a_g0_heaps (r_children z_g0) (r_strokes z_g0) (r_gave z_g0) (r_threw z_g0) (r_sweets z_g0))) (ws' := (w_Mind_alikeWithin cI cJ cC a_g0 a_g0_kinds a_g0_sweets a_g0_settings a_g0_heaps (r_children z_g0) (r_strokes z_g0) (r_gave z_g0) (r_threw z_g0) (r_kinds z_g0) (r_sweets z_g0) (r_settings z_g0) (r_heaps z_g0))) (As := []) (rest := []) hx hb hml hown hT (c_Ring_allHaveAlike (z_h := z_g0) a_g0 a_g0_kinds a_g0_sweets a_g0_settings a_g0_heaps hq2) k_300 k_301 k_302 k_2 k_303 hd_Ring_allHaveAlike ⟨Nat.le_of_ble_eq_true rfl, Nat.le_of_ble_eq_true rfl⟩ xE0_ok trivial hA hK hP hD hS [0, 2] [1, 3, 4] [3, 0, 4, 1, 2] rfl rfl rfl rfl rfl rfl rfl rfl rfl rfl hl.1 rfl (Nat.le_of_ble_eq_true rfl) ⟨Nat.zero_le _, Nat.zero_le _⟩ d_Mind_alikeWithin_8 (fun H locs hP hD hS => ?_)
        refine lv_if_eq (tgt := 16) hx hb d_Mind_alikeWithin_11 (by decide) (fun c3 => ?_) (fun c3 => ?_)
        · have hf := io_t hf c3
          refine lv_aload_n hx hb d_Mind_alikeWithin_16 rfl (lv_at hl 0 rfl) ?_
          obtain ⟨q4, hq4, hf⟩ := io_b hf
          refine xcVI (wc := (w_Ring_strike cI cJ cC a_g0 a_g0_kinds a_g0_sweets a_g0_settings a_g0_heaps (r_children z_g0) (r_strokes z_g0) (r_gave z_g0) (r_threw z_g0) (r_kinds z_g0) (r_sweets z_g0) (r_settings z_g0) (r_heaps z_g0))) (wc' := (w_Ring_strike cI cJ cC a_g0 a_g0_kinds a_g0_sweets a_g0_settings a_g0_heaps (r_children q4.2) (r_strokes q4.2) (r_gave q4.2) (r_threw q4.2) (r_kinds q4.2) (r_sweets q4.2) (r_settings q4.2) (r_heaps q4.2))) (ws' := (w_Mind_alikeWithin cI cJ cC a_g0 a_g0_kinds a_g0_sweets a_g0_settings a_g0_heaps (r_children q4.2) (r_strokes q4.2) (r_gave q4.2) (r_threw q4.2) (r_kinds q4.2) (r_sweets q4.2) (r_settings q4.2) (r_heaps q4.2))) (As := []) (rest := []) hx hb hml hown hT (c_Ring_strike (z_h := z_g0) a_g0 a_g0_kinds a_g0_sweets a_g0_settings a_g0_heaps hq4) k_284 k_220 k_221 k_2 k_222 hd_Ring_strike ⟨Nat.le_of_ble_eq_true rfl, Nat.le_of_ble_eq_true rfl⟩ xE0_ok trivial hA hK hP hD hS [0, 1, 2, 3, 4] [] [0, 1, 2, 3, 4] rfl rfl rfl rfl rfl rfl rfl rfl rfl rfl hl.1 rfl (Nat.le_of_ble_eq_true rfl) ⟨Nat.zero_le _, Nat.zero_le _⟩ d_Mind_alikeWithin_17 (fun H locs hP hD hS => ?_)
          refine lv_pop hx hb d_Mind_alikeWithin_20 rfl ?_
          refine lv_iinc (v := (x2 + 1)) (lv' := [(2, .int (x2 + 1)), (0, .ref a_g0), (1, .int x1)]) hx hb d_Mind_alikeWithin_21 hl (k := 2) rfl (by rfl) (by decide) rfl (fun ls hl => ?_)
          refine lv_goto (tgt := 2) hx hb d_Mind_alikeWithin_24 (by decide) ?_
          exact ih q4.2 (x2 + 1) _ _ _ hf hP hD hS (lv_sub hl [1, 2, 0] rfl)
        · have hf := io_f hf c3
          refine lv_iload_n hx hb d_Mind_alikeWithin_14 rfl (lv_at hl 2 rfl) ?_
          have hq := Option.some.inj hf
          subst hq
          exact hret _ _ _ _ _ d_Mind_alikeWithin_15 rfl rfl hP hD hS
  refine lv_iconst (v := 0) hx hb d_Mind_alikeWithin_0 (by decide) ?_
  refine lv_istore_n (lv' := [(2, .int 0), (0, .ref a_g0), (1, .int x1)]) hx hb d_Mind_alikeWithin_1 rfl hl (by decide) rfl (fun ls hl => ?_)
  exact L2 FU z_g0 0 _ _ _ hf hP hD hS (lv_sub hl [1, 2, 0] rfl)
abbrev w_Mind_alikeBehind (cI cJ cC : ClassId) (a_h a_h_one a_h_two a_h_one_kinds a_h_one_sweets a_h_one_settings a_h_one_heaps a_g1 a_g1_kinds a_g1_sweets a_g1_settings a_g1_heaps : Nat) (y_h_seed : Int32) (p_h_one_children : Int32) (p_h_one_strokes : Int32) (p_h_one_gave : Int32) (p_h_one_threw : Int32) (p_h_one_kinds : (Nat → Int32)) (p_h_one_sweets : (Nat → Int32)) (p_h_one_settings : (Nat → Int32)) (p_h_one_heaps : (Nat → Int32)) (p_g1_children : Int32) (p_g1_strokes : Int32) (p_g1_gave : Int32) (p_g1_threw : Int32) (p_g1_kinds : (Nat → Int32)) (p_g1_sweets : (Nat → Int32)) (p_g1_settings : (Nat → Int32)) : va_W := [(a_h, .inr (3, [.ref a_h_one, .ref a_h_two, .int y_h_seed])), (a_h_one, .inr (1, [.ref a_h_one_kinds, .ref a_h_one_sweets, .ref a_h_one_settings, .int p_h_one_children, .int p_h_one_strokes, .int p_h_one_gave, .int p_h_one_threw, .ref a_h_one_heaps])), (a_h_one_kinds, .inl (cI, (8, .inl p_h_one_kinds))), (a_h_one_sweets, .inl (cI, (8, .inl p_h_one_sweets))), (a_h_one_settings, .inl (cI, (3, .inl p_h_one_settings))), (a_h_one_heaps, .inl (cI, (8, .inl p_h_one_heaps))), (a_g1, .inr (1, [.ref a_g1_kinds, .ref a_g1_sweets, .ref a_g1_settings, .int p_g1_children, .int p_g1_strokes, .int p_g1_gave, .int p_g1_threw, .ref a_g1_heaps])), (a_g1_kinds, .inl (cI, (8, .inl p_g1_kinds))), (a_g1_sweets, .inl (cI, (8, .inl p_g1_sweets))), (a_g1_settings, .inl (cI, (3, .inl p_g1_settings)))]
theorem d_Mind_alikeBehind_0 : decode b_Mind_alikeBehind 0 = .ok (.aload_n 0, 1) := by decide +kernel
theorem d_Mind_alikeBehind_1 : decode b_Mind_alikeBehind 1 = .ok (.getfield 12, 3) := by decide +kernel
theorem d_Mind_alikeBehind_4 : decode b_Mind_alikeBehind 4 = .ok (.aload_n 1, 1) := by decide +kernel
theorem d_Mind_alikeBehind_5 : decode b_Mind_alikeBehind 5 = .ok (.invokevirtual 25, 3) := by decide +kernel
theorem d_Mind_alikeBehind_8 : decode b_Mind_alikeBehind 8 = .ok (.aload_n 0, 1) := by decide +kernel
theorem d_Mind_alikeBehind_9 : decode b_Mind_alikeBehind 9 = .ok (.getfield 12, 3) := by decide +kernel
theorem d_Mind_alikeBehind_12 : decode b_Mind_alikeBehind 12 = .ok (.sipush 200, 3) := by decide +kernel
theorem d_Mind_alikeBehind_15 : decode b_Mind_alikeBehind 15 = .ok (.invokestatic 51, 3) := by decide +kernel
theorem d_Mind_alikeBehind_18 : decode b_Mind_alikeBehind 18 = .ok (.ireturn, 1) := by decide +kernel
set_option maxHeartbeats 4000000 in
set_option maxRecDepth 100000 in
theorem c_Mind_alikeBehind {l : Launch} {D : va_G} {cI cJ cC : ClassId} (a_h a_h_one a_h_two a_h_one_kinds a_h_one_sweets a_h_one_settings a_h_one_heaps a_g1 a_g1_kinds a_g1_sweets a_g1_settings a_g1_heaps : Nat) (y_h_seed : Int32) {z_h_one : RS} {z_g1 : RS} {q : Int32 × RS} (hf : f_Mind_alikeBehind z_h_one z_g1 = some q) : xI l y_Mind_alikeBehind b_Mind_alikeBehind 2 .int 5 111 D (tyK cI cJ cC) xE0 [.ref a_h, .ref a_g1] (w_Mind_alikeBehind cI cJ cC a_h a_h_one a_h_two a_h_one_kinds a_h_one_sweets a_h_one_settings a_h_one_heaps a_g1 a_g1_kinds a_g1_sweets a_g1_settings a_g1_heaps y_h_seed (r_children z_h_one) (r_strokes z_h_one) (r_gave z_h_one) (r_threw z_h_one) (r_kinds z_h_one) (r_sweets z_h_one) (r_settings z_h_one) (r_heaps z_h_one) (r_children z_g1) (r_strokes z_g1) (r_gave z_g1) (r_threw z_g1) (r_kinds z_g1) (r_sweets z_g1) (r_settings z_g1)) q.1 (w_Mind_alikeBehind cI cJ cC a_h a_h_one a_h_two a_h_one_kinds a_h_one_sweets a_h_one_settings a_h_one_heaps a_g1 a_g1_kinds a_g1_sweets a_g1_settings a_g1_heaps y_h_seed (r_children q.2) (r_strokes q.2) (r_gave q.2) (r_threw q.2) (r_kinds q.2) (r_sweets q.2) (r_settings q.2) (r_heaps q.2) (r_children z_g1) (r_strokes z_g1) (r_gave z_g1) (r_threw z_g1) (r_kinds z_g1) (r_sweets z_g1) (r_settings z_g1)) := by
  refine xI_of (by decide) (Nat.le_of_ble_eq_true rfl) ?_
  intro p e s m args below meth c A Q hx hb hml hown hT hA hP hD hK hS hE hret ls hl
  have hown : s.vm.findClass R_Mind = some m.cls := hown
  have hl : lv_has ls 2 [(0, .ref a_h), (1, .ref a_g1)] := hl
  unfold f_Mind_alikeBehind at hf
  refine lv_aload_n hx hb d_Mind_alikeBehind_0 rfl (lv_at hl 0 rfl) ?_
  refine va_get hx hb hT i_Mind hown hK hP 0 rfl rfl 0 (Nat.le_of_ble_eq_true rfl) (hT _ k_96) (fun _ h => h) rfl d_Mind_alikeBehind_1 ?_
  refine lv_aload_n hx hb d_Mind_alikeBehind_4 rfl (lv_at hl 1 rfl) ?_
  obtain ⟨q1, hq1, hf⟩ := io_b hf
  refine xcVV (wc := (w_Ring_copyFrom cI cJ cC a_h_one a_h_one_kinds a_h_one_sweets a_h_one_settings a_h_one_heaps a_g1 a_g1_kinds a_g1_sweets a_g1_settings a_g1_heaps (r_children z_h_one) (r_strokes z_h_one) (r_gave z_h_one) (r_threw z_h_one) (r_kinds z_h_one) (r_sweets z_h_one) (r_settings z_h_one) (r_heaps z_h_one) (r_children z_g1) (r_strokes z_g1) (r_gave z_g1) (r_threw z_g1) (r_kinds z_g1) (r_sweets z_g1) (r_settings z_g1))) (wc' := (w_Ring_copyFrom cI cJ cC a_h_one a_h_one_kinds a_h_one_sweets a_h_one_settings a_h_one_heaps a_g1 a_g1_kinds a_g1_sweets a_g1_settings a_g1_heaps (r_children q1) (r_strokes q1) (r_gave q1) (r_threw q1) (r_kinds q1) (r_sweets q1) (r_settings q1) (r_heaps q1) (r_children z_g1) (r_strokes z_g1) (r_gave z_g1) (r_threw z_g1) (r_kinds z_g1) (r_sweets z_g1) (r_settings z_g1))) (ws' := (w_Mind_alikeBehind cI cJ cC a_h a_h_one a_h_two a_h_one_kinds a_h_one_sweets a_h_one_settings a_h_one_heaps a_g1 a_g1_kinds a_g1_sweets a_g1_settings a_g1_heaps y_h_seed (r_children q1) (r_strokes q1) (r_gave q1) (r_threw q1) (r_kinds q1) (r_sweets q1) (r_settings q1) (r_heaps q1) (r_children z_g1) (r_strokes z_g1) (r_gave z_g1) (r_threw z_g1) (r_kinds z_g1) (r_sweets z_g1) (r_settings z_g1))) (As := [.ref a_g1]) (rest := []) hx hb hml hown hT (c_Ring_copyFrom (z_h := z_h_one) (z_g1 := z_g1) a_h_one a_h_one_kinds a_h_one_sweets a_h_one_settings a_h_one_heaps a_g1 a_g1_kinds a_g1_sweets a_g1_settings a_g1_heaps hq1) k_252 k_253 k_254 k_2 k_255 hd_Ring_copyFrom ⟨Nat.le_of_ble_eq_true rfl, Nat.le_of_ble_eq_true rfl⟩ xE0_ok trivial hA hK hP hD hS [1, 2, 3, 4, 5, 6, 7, 8, 9] [0] [0, 1, 2, 3, 4, 5, 6, 7, 8, 9] rfl rfl rfl rfl rfl rfl rfl rfl rfl rfl hl.1 rfl (Nat.le_of_ble_eq_true rfl) ⟨Nat.zero_le _, Nat.zero_le _⟩ d_Mind_alikeBehind_5 (fun H locs hP hD hS => ?_)
  refine lv_aload_n hx hb d_Mind_alikeBehind_8 rfl (lv_at hl 0 rfl) ?_
  refine va_get hx hb hT i_Mind hown hK hP 0 rfl rfl 0 (Nat.le_of_ble_eq_true rfl) (hT _ k_96) (fun _ h => h) rfl d_Mind_alikeBehind_9 ?_
  refine lv_sipush (v := 200) hx hb d_Mind_alikeBehind_12 (by decide) ?_
  obtain ⟨q2, hq2, hf⟩ := io_b hf
  refine xcSI (wc := (w_Mind_alikeWithin cI cJ cC a_h_one a_h_one_kinds a_h_one_sweets a_h_one_settings a_h_one_heaps (r_children q1) (r_strokes q1) (r_gave q1) (r_threw q1) (r_kinds q1) (r_sweets q1) (r_settings q1) (r_heaps q1))) (wc' := (w_Mind_alikeWithin cI cJ cC a_h_one a_h_one_kinds a_h_one_sweets a_h_one_settings a_h_one_heaps (r_children q2.2) (r_strokes q2.2) (r_gave q2.2) (r_threw q2.2) (r_kinds q2.2) (r_sweets q2.2) (r_settings q2.2) (r_heaps q2.2))) (ws' := (w_Mind_alikeBehind cI cJ cC a_h a_h_one a_h_two a_h_one_kinds a_h_one_sweets a_h_one_settings a_h_one_heaps a_g1 a_g1_kinds a_g1_sweets a_g1_settings a_g1_heaps y_h_seed (r_children q2.2) (r_strokes q2.2) (r_gave q2.2) (r_threw q2.2) (r_kinds q2.2) (r_sweets q2.2) (r_settings q2.2) (r_heaps q2.2) (r_children z_g1) (r_strokes z_g1) (r_gave z_g1) (r_threw z_g1) (r_kinds z_g1) (r_sweets z_g1) (r_settings z_g1))) (As := [.ref a_h_one, .int 200]) (rest := []) hx hb hml hown hT (c_Mind_alikeWithin (z_g0 := q1) a_h_one a_h_one_kinds a_h_one_sweets a_h_one_settings a_h_one_heaps hq2) k_297 k_298 k_4 k_299 hd_Mind_alikeWithin ⟨Nat.le_of_ble_eq_true rfl, Nat.le_of_ble_eq_true rfl⟩ xE0_ok trivial hA hK hP hD hS [1, 2, 3, 4, 5] [0, 6, 7, 8, 9] [0, 5, 6, 7, 8, 9, 1, 2, 3, 4] rfl rfl rfl rfl rfl rfl rfl hl.1 rfl (Nat.le_of_ble_eq_true rfl) ⟨Nat.zero_le _, Nat.zero_le _⟩ d_Mind_alikeBehind_15 (fun H locs hP hD hS => ?_)
  have hq := Option.some.inj hf
  subst hq
  exact hret _ _ _ _ _ d_Mind_alikeBehind_18 rfl rfl hP hD hS
abbrev w_Mind_roundOf (cI cJ cC : ClassId) (a_h a_h_one a_h_two a_h_one_kinds a_h_one_sweets a_h_one_settings a_h_one_heaps a_h_two_kinds a_h_two_sweets a_h_two_settings a_h_two_heaps a_g1 a_g1_kinds a_g1_sweets a_g1_settings a_g1_heaps : Nat) (y_h_seed : Int32) (p_h_one_children : Int32) (p_h_one_strokes : Int32) (p_h_one_gave : Int32) (p_h_one_threw : Int32) (p_h_one_kinds : (Nat → Int32)) (p_h_one_sweets : (Nat → Int32)) (p_h_one_settings : (Nat → Int32)) (p_h_one_heaps : (Nat → Int32)) (p_h_two_children : Int32) (p_h_two_strokes : Int32) (p_h_two_gave : Int32) (p_h_two_threw : Int32) (p_h_two_kinds : (Nat → Int32)) (p_h_two_sweets : (Nat → Int32)) (p_h_two_settings : (Nat → Int32)) (p_h_two_heaps : (Nat → Int32)) (p_g1_children : Int32) (p_g1_strokes : Int32) (p_g1_gave : Int32) (p_g1_threw : Int32) (p_g1_kinds : (Nat → Int32)) (p_g1_sweets : (Nat → Int32)) (p_g1_settings : (Nat → Int32)) : va_W := [(a_h, .inr (3, [.ref a_h_one, .ref a_h_two, .int y_h_seed])), (a_h_one, .inr (1, [.ref a_h_one_kinds, .ref a_h_one_sweets, .ref a_h_one_settings, .int p_h_one_children, .int p_h_one_strokes, .int p_h_one_gave, .int p_h_one_threw, .ref a_h_one_heaps])), (a_h_one_kinds, .inl (cI, (8, .inl p_h_one_kinds))), (a_h_one_sweets, .inl (cI, (8, .inl p_h_one_sweets))), (a_h_one_settings, .inl (cI, (3, .inl p_h_one_settings))), (a_h_one_heaps, .inl (cI, (8, .inl p_h_one_heaps))), (a_h_two, .inr (1, [.ref a_h_two_kinds, .ref a_h_two_sweets, .ref a_h_two_settings, .int p_h_two_children, .int p_h_two_strokes, .int p_h_two_gave, .int p_h_two_threw, .ref a_h_two_heaps])), (a_h_two_kinds, .inl (cI, (8, .inl p_h_two_kinds))), (a_h_two_sweets, .inl (cI, (8, .inl p_h_two_sweets))), (a_h_two_settings, .inl (cI, (3, .inl p_h_two_settings))), (a_h_two_heaps, .inl (cI, (8, .inl p_h_two_heaps))), (a_g1, .inr (1, [.ref a_g1_kinds, .ref a_g1_sweets, .ref a_g1_settings, .int p_g1_children, .int p_g1_strokes, .int p_g1_gave, .int p_g1_threw, .ref a_g1_heaps])), (a_g1_kinds, .inl (cI, (8, .inl p_g1_kinds))), (a_g1_sweets, .inl (cI, (8, .inl p_g1_sweets))), (a_g1_settings, .inl (cI, (3, .inl p_g1_settings)))]
theorem d_Mind_roundOf_0 : decode b_Mind_roundOf 0 = .ok (.aload_n 0, 1) := by decide +kernel
theorem d_Mind_roundOf_1 : decode b_Mind_roundOf 1 = .ok (.getfield 12, 3) := by decide +kernel
theorem d_Mind_roundOf_4 : decode b_Mind_roundOf 4 = .ok (.aload_n 1, 1) := by decide +kernel
theorem d_Mind_roundOf_5 : decode b_Mind_roundOf 5 = .ok (.invokevirtual 25, 3) := by decide +kernel
theorem d_Mind_roundOf_8 : decode b_Mind_roundOf 8 = .ok (.aload_n 0, 1) := by decide +kernel
theorem d_Mind_roundOf_9 : decode b_Mind_roundOf 9 = .ok (.getfield 12, 3) := by decide +kernel
theorem d_Mind_roundOf_12 : decode b_Mind_roundOf 12 = .ok (.bipush 100, 2) := by decide +kernel
theorem d_Mind_roundOf_14 : decode b_Mind_roundOf 14 = .ok (.invokevirtual 29, 3) := by decide +kernel
theorem d_Mind_roundOf_17 : decode b_Mind_roundOf 17 = .ok (.aload_n 0, 1) := by decide +kernel
theorem d_Mind_roundOf_18 : decode b_Mind_roundOf 18 = .ok (.getfield 18, 3) := by decide +kernel
theorem d_Mind_roundOf_21 : decode b_Mind_roundOf 21 = .ok (.aload_n 0, 1) := by decide +kernel
theorem d_Mind_roundOf_22 : decode b_Mind_roundOf 22 = .ok (.getfield 12, 3) := by decide +kernel
theorem d_Mind_roundOf_25 : decode b_Mind_roundOf 25 = .ok (.invokevirtual 25, 3) := by decide +kernel
theorem d_Mind_roundOf_28 : decode b_Mind_roundOf 28 = .ok (.iconst 1, 1) := by decide +kernel
theorem d_Mind_roundOf_29 : decode b_Mind_roundOf 29 = .ok (.istore_n 2, 1) := by decide +kernel
theorem d_Mind_roundOf_30 : decode b_Mind_roundOf 30 = .ok (.iload_n 2, 1) := by decide +kernel
theorem d_Mind_roundOf_31 : decode b_Mind_roundOf 31 = .ok (.bipush 100, 2) := by decide +kernel
theorem d_Mind_roundOf_33 : decode b_Mind_roundOf 33 = .ok (.if_icmp .gt 33, 3) := by decide +kernel
theorem d_Mind_roundOf_36 : decode b_Mind_roundOf 36 = .ok (.aload_n 0, 1) := by decide +kernel
theorem d_Mind_roundOf_37 : decode b_Mind_roundOf 37 = .ok (.getfield 18, 3) := by decide +kernel
theorem d_Mind_roundOf_40 : decode b_Mind_roundOf 40 = .ok (.invokevirtual 43, 3) := by decide +kernel
theorem d_Mind_roundOf_43 : decode b_Mind_roundOf 43 = .ok (.pop, 1) := by decide +kernel
theorem d_Mind_roundOf_44 : decode b_Mind_roundOf 44 = .ok (.aload_n 0, 1) := by decide +kernel
theorem d_Mind_roundOf_45 : decode b_Mind_roundOf 45 = .ok (.getfield 18, 3) := by decide +kernel
theorem d_Mind_roundOf_48 : decode b_Mind_roundOf 48 = .ok (.aload_n 0, 1) := by decide +kernel
theorem d_Mind_roundOf_49 : decode b_Mind_roundOf 49 = .ok (.getfield 12, 3) := by decide +kernel
theorem d_Mind_roundOf_52 : decode b_Mind_roundOf 52 = .ok (.invokevirtual 59, 3) := by decide +kernel
theorem d_Mind_roundOf_55 : decode b_Mind_roundOf 55 = .ok (.ifCond .eq 5, 3) := by decide +kernel
theorem d_Mind_roundOf_58 : decode b_Mind_roundOf 58 = .ok (.iload_n 2, 1) := by decide +kernel
theorem d_Mind_roundOf_59 : decode b_Mind_roundOf 59 = .ok (.ireturn, 1) := by decide +kernel
theorem d_Mind_roundOf_60 : decode b_Mind_roundOf 60 = .ok (.iinc 2 1, 3) := by decide +kernel
theorem d_Mind_roundOf_63 : decode b_Mind_roundOf 63 = .ok (.goto (-33), 3) := by decide +kernel
theorem d_Mind_roundOf_66 : decode b_Mind_roundOf 66 = .ok (.bipush (-9), 2) := by decide +kernel
theorem d_Mind_roundOf_68 : decode b_Mind_roundOf 68 = .ok (.ireturn, 1) := by decide +kernel
set_option maxHeartbeats 4000000 in
set_option maxRecDepth 100000 in
theorem c_Mind_roundOf {l : Launch} {D : va_G} {cI cJ cC : ClassId} (a_h a_h_one a_h_two a_h_one_kinds a_h_one_sweets a_h_one_settings a_h_one_heaps a_h_two_kinds a_h_two_sweets a_h_two_settings a_h_two_heaps a_g1 a_g1_kinds a_g1_sweets a_g1_settings a_g1_heaps : Nat) (y_h_seed : Int32) {z_h_one : RS} {z_h_two : RS} {z_g1 : RS} {q : Int32 × RS × RS} (hf : f_Mind_roundOf z_h_one z_h_two z_g1 = some q) : xI l y_Mind_roundOf b_Mind_roundOf 3 .int 5 111 D (tyK cI cJ cC) xE0 [.ref a_h, .ref a_g1] (w_Mind_roundOf cI cJ cC a_h a_h_one a_h_two a_h_one_kinds a_h_one_sweets a_h_one_settings a_h_one_heaps a_h_two_kinds a_h_two_sweets a_h_two_settings a_h_two_heaps a_g1 a_g1_kinds a_g1_sweets a_g1_settings a_g1_heaps y_h_seed (r_children z_h_one) (r_strokes z_h_one) (r_gave z_h_one) (r_threw z_h_one) (r_kinds z_h_one) (r_sweets z_h_one) (r_settings z_h_one) (r_heaps z_h_one) (r_children z_h_two) (r_strokes z_h_two) (r_gave z_h_two) (r_threw z_h_two) (r_kinds z_h_two) (r_sweets z_h_two) (r_settings z_h_two) (r_heaps z_h_two) (r_children z_g1) (r_strokes z_g1) (r_gave z_g1) (r_threw z_g1) (r_kinds z_g1) (r_sweets z_g1) (r_settings z_g1)) q.1 (w_Mind_roundOf cI cJ cC a_h a_h_one a_h_two a_h_one_kinds a_h_one_sweets a_h_one_settings a_h_one_heaps a_h_two_kinds a_h_two_sweets a_h_two_settings a_h_two_heaps a_g1 a_g1_kinds a_g1_sweets a_g1_settings a_g1_heaps y_h_seed (r_children q.2.1) (r_strokes q.2.1) (r_gave q.2.1) (r_threw q.2.1) (r_kinds q.2.1) (r_sweets q.2.1) (r_settings q.2.1) (r_heaps q.2.1) (r_children q.2.2) (r_strokes q.2.2) (r_gave q.2.2) (r_threw q.2.2) (r_kinds q.2.2) (r_sweets q.2.2) (r_settings q.2.2) (r_heaps q.2.2) (r_children z_g1) (r_strokes z_g1) (r_gave z_g1) (r_threw z_g1) (r_kinds z_g1) (r_sweets z_g1) (r_settings z_g1)) := by
  refine xI_of (by decide) (Nat.le_of_ble_eq_true rfl) ?_
  intro p e s m args below meth c A Q hx hb hml hown hT hA hP hD hK hS hE hret ls hl
  have hown : s.vm.findClass R_Mind = some m.cls := hown
  have hl : lv_has ls 3 [(0, .ref a_h), (1, .ref a_g1)] := hl
  unfold f_Mind_roundOf at hf
  have L30 : ∀ (z_h_one : RS), ∀ (n : Nat) (z_h_two : RS) (x2 : Int32) (H : Heap) (locs : List Loc) (ls : Array Slot), f_Mind_roundOf_L30 z_h_one n z_h_two x2 = some q → va_P D classes (w_Mind_roundOf cI cJ cC a_h a_h_one a_h_two a_h_one_kinds a_h_one_sweets a_h_one_settings a_h_one_heaps a_h_two_kinds a_h_two_sweets a_h_two_settings a_h_two_heaps a_g1 a_g1_kinds a_g1_sweets a_g1_settings a_g1_heaps y_h_seed (r_children z_h_one) (r_strokes z_h_one) (r_gave z_h_one) (r_threw z_h_one) (r_kinds z_h_one) (r_sweets z_h_one) (r_settings z_h_one) (r_heaps z_h_one) (r_children z_h_two) (r_strokes z_h_two) (r_gave z_h_two) (r_threw z_h_two) (r_kinds z_h_two) (r_sweets z_h_two) (r_settings z_h_two) (r_heaps z_h_two) (r_children z_g1) (r_strokes z_g1) (r_gave z_g1) (r_threw z_g1) (r_kinds z_g1) (r_sweets z_g1) (r_settings z_g1)) H → va_D A (w_Mind_roundOf cI cJ cC a_h a_h_one a_h_two a_h_one_kinds a_h_one_sweets a_h_one_settings a_h_one_heaps a_h_two_kinds a_h_two_sweets a_h_two_settings a_h_two_heaps a_g1 a_g1_kinds a_g1_sweets a_g1_settings a_g1_heaps y_h_seed (r_children z_h_one) (r_strokes z_h_one) (r_gave z_h_one) (r_threw z_h_one) (r_kinds z_h_one) (r_sweets z_h_one) (r_settings z_h_one) (r_heaps z_h_one) (r_children z_h_two) (r_strokes z_h_two) (r_gave z_h_two) (r_threw z_h_two) (r_kinds z_h_two) (r_sweets z_h_two) (r_settings z_h_two) (r_heaps z_h_two) (r_children z_g1) (r_strokes z_g1) (r_gave z_g1) (r_threw z_g1) (r_kinds z_g1) (r_sweets z_g1) (r_settings z_g1)) → va_S A s.heap H locs → lv_has ls 3 [(0, .ref a_h), (2, .int x2)] → W p l e (xRm 5 111) s m args below meth c H locs 0 0 Q (F0 m 30 ls []) := by
    intro z_h_one n
    induction n with
    | zero => intro z_h_two x2 H locs ls hf hP hD hS hl; exact nomatch (show (none : Option (Int32 × RS × RS)) = some q from hf)
    | succ n ih =>
      intro z_h_two x2 H locs ls hf hP hD hS hl
      refine lv_iload_n hx hb d_Mind_roundOf_30 rfl (lv_at hl 1 rfl) ?_
      refine lv_bipush (v := 100) hx hb d_Mind_roundOf_31 (by decide) ?_
      refine lv_icmp_gt (tgt := 66) hx hb d_Mind_roundOf_33 (by decide) (fun c4 => ?_) (fun c4 => ?_)
      · have hf := io_t hf c4
        refine lv_bipush (v := (-9)) hx hb d_Mind_roundOf_66 (by decide) ?_
        have hq := Option.some.inj hf
        subst hq
        exact hret _ _ _ _ _ d_Mind_roundOf_68 rfl rfl hP hD hS
      · have hf := io_f hf c4
        refine lv_aload_n hx hb d_Mind_roundOf_36 rfl (lv_at hl 0 rfl) ?_
        refine va_get hx hb hT i_Mind hown hK hP 0 rfl rfl 1 (Nat.le_of_ble_eq_true rfl) (hT _ k_97) (fun _ h => h) rfl d_Mind_roundOf_37 ?_
        obtain ⟨q5, hq5, hf⟩ := io_b hf
        refine xcVI (wc := (w_Ring_strike cI cJ cC a_h_two a_h_two_kinds a_h_two_sweets a_h_two_settings a_h_two_heaps (r_children z_h_two) (r_strokes z_h_two) (r_gave z_h_two) (r_threw z_h_two) (r_kinds z_h_two) (r_sweets z_h_two) (r_settings z_h_two) (r_heaps z_h_two))) (wc' := (w_Ring_strike cI cJ cC a_h_two a_h_two_kinds a_h_two_sweets a_h_two_settings a_h_two_heaps (r_children q5.2) (r_strokes q5.2) (r_gave q5.2) (r_threw q5.2) (r_kinds q5.2) (r_sweets q5.2) (r_settings q5.2) (r_heaps q5.2))) (ws' := (w_Mind_roundOf cI cJ cC a_h a_h_one a_h_two a_h_one_kinds a_h_one_sweets a_h_one_settings a_h_one_heaps a_h_two_kinds a_h_two_sweets a_h_two_settings a_h_two_heaps a_g1 a_g1_kinds a_g1_sweets a_g1_settings a_g1_heaps y_h_seed (r_children z_h_one) (r_strokes z_h_one) (r_gave z_h_one) (r_threw z_h_one) (r_kinds z_h_one) (r_sweets z_h_one) (r_settings z_h_one) (r_heaps z_h_one) (r_children q5.2) (r_strokes q5.2) (r_gave q5.2) (r_threw q5.2) (r_kinds q5.2) (r_sweets q5.2) (r_settings q5.2) (r_heaps q5.2) (r_children z_g1) (r_strokes z_g1) (r_gave z_g1) (r_threw z_g1) (r_kinds z_g1) (r_sweets z_g1) (r_settings z_g1))) (As := []) (rest := []) hx hb hml hown hT (c_Ring_strike (z_h := z_h_two) a_h_two a_h_two_kinds a_h_two_sweets a_h_two_settings a_h_two_heaps hq5) k_284 k_220 k_221 k_2 k_222 hd_Ring_strike ⟨Nat.le_of_ble_eq_true rfl, Nat.le_of_ble_eq_true rfl⟩ xE0_ok trivial hA hK hP hD hS [6, 7, 8, 9, 10] [0, 1, 2, 3, 4, 5, 11, 12, 13, 14] [0, 1, 2, 3, 4, 5, 10, 11, 12, 13, 14, 6, 7, 8, 9] rfl rfl rfl rfl rfl rfl rfl rfl rfl rfl hl.1 rfl (Nat.le_of_ble_eq_true rfl) ⟨Nat.zero_le _, Nat.zero_le _⟩ d_Mind_roundOf_40 (fun H locs hP hD hS => ?_)
        refine lv_pop hx hb d_Mind_roundOf_43 rfl ?_
        refine lv_aload_n hx hb d_Mind_roundOf_44 rfl (lv_at hl 0 rfl) ?_
        refine va_get hx hb hT i_Mind hown hK hP 0 rfl rfl 1 (Nat.le_of_ble_eq_true rfl) (hT _ k_97) (fun _ h => h) rfl d_Mind_roundOf_45 ?_
        refine lv_aload_n hx hb d_Mind_roundOf_48 rfl (lv_at hl 0 rfl) ?_
        refine va_get hx hb hT i_Mind hown hK hP 0 rfl rfl 0 (Nat.le_of_ble_eq_true rfl) (hT _ k_96) (fun _ h => h) rfl d_Mind_roundOf_49 ?_
        obtain ⟨q6, hq6, hf⟩ := io_b hf
        refine xcVI (wc := (w_Ring_hasSweetsAndBagOf cI cJ cC a_h_two a_h_two_kinds a_h_two_sweets a_h_two_settings a_h_two_heaps a_h_one a_h_one_kinds a_h_one_sweets a_h_one_settings a_h_one_heaps (r_children q5.2) (r_strokes q5.2) (r_gave q5.2) (r_threw q5.2) (r_sweets q5.2) (r_settings q5.2) (r_children z_h_one) (r_strokes z_h_one) (r_gave z_h_one) (r_threw z_h_one) (r_sweets z_h_one) (r_settings z_h_one))) (wc' := (w_Ring_hasSweetsAndBagOf cI cJ cC a_h_two a_h_two_kinds a_h_two_sweets a_h_two_settings a_h_two_heaps a_h_one a_h_one_kinds a_h_one_sweets a_h_one_settings a_h_one_heaps (r_children q5.2) (r_strokes q5.2) (r_gave q5.2) (r_threw q5.2) (r_sweets q5.2) (r_settings q5.2) (r_children z_h_one) (r_strokes z_h_one) (r_gave z_h_one) (r_threw z_h_one) (r_sweets z_h_one) (r_settings z_h_one))) (ws' := (w_Mind_roundOf cI cJ cC a_h a_h_one a_h_two a_h_one_kinds a_h_one_sweets a_h_one_settings a_h_one_heaps a_h_two_kinds a_h_two_sweets a_h_two_settings a_h_two_heaps a_g1 a_g1_kinds a_g1_sweets a_g1_settings a_g1_heaps y_h_seed (r_children z_h_one) (r_strokes z_h_one) (r_gave z_h_one) (r_threw z_h_one) (r_kinds z_h_one) (r_sweets z_h_one) (r_settings z_h_one) (r_heaps z_h_one) (r_children q5.2) (r_strokes q5.2) (r_gave q5.2) (r_threw q5.2) (r_kinds q5.2) (r_sweets q5.2) (r_settings q5.2) (r_heaps q5.2) (r_children z_g1) (r_strokes z_g1) (r_gave z_g1) (r_threw z_g1) (r_kinds z_g1) (r_sweets z_g1) (r_settings z_g1))) (As := [.ref a_h_one]) (rest := []) hx hb hml hown hT (c_Ring_hasSweetsAndBagOf (z_h := q5.2) (z_g1 := z_h_one) a_h_two a_h_two_kinds a_h_two_sweets a_h_two_settings a_h_two_heaps a_h_one a_h_one_kinds a_h_one_sweets a_h_one_settings a_h_one_heaps hq6) k_312 k_313 k_314 k_2 k_315 hd_Ring_hasSweetsAndBagOf ⟨Nat.le_of_ble_eq_true rfl, Nat.le_of_ble_eq_true rfl⟩ xE0_ok trivial hA hK hP hD hS [6, 8, 9, 1, 3, 4] [0, 2, 5, 7, 10, 11, 12, 13, 14] [0, 12, 1, 13, 14, 2, 9, 3, 10, 11, 4, 5, 6, 7, 8] rfl rfl rfl rfl rfl rfl rfl rfl rfl rfl hl.1 rfl (Nat.le_of_ble_eq_true rfl) ⟨Nat.zero_le _, Nat.zero_le _⟩ d_Mind_roundOf_52 (fun H locs hP hD hS => ?_)
        refine lv_if_eq (tgt := 60) hx hb d_Mind_roundOf_55 (by decide) (fun c7 => ?_) (fun c7 => ?_)
        · have hf := io_t hf c7
          refine lv_iinc (v := (x2 + 1)) (lv' := [(2, .int (x2 + 1)), (0, .ref a_h)]) hx hb d_Mind_roundOf_60 hl (k := 1) rfl (by rfl) (by decide) rfl (fun ls hl => ?_)
          refine lv_goto (tgt := 30) hx hb d_Mind_roundOf_63 (by decide) ?_
          exact ih q5.2 (x2 + 1) _ _ _ hf hP hD hS (lv_sub hl [1, 0] rfl)
        · have hf := io_f hf c7
          refine lv_iload_n hx hb d_Mind_roundOf_58 rfl (lv_at hl 1 rfl) ?_
          have hq := Option.some.inj hf
          subst hq
          exact hret _ _ _ _ _ d_Mind_roundOf_59 rfl rfl hP hD hS
  refine lv_aload_n hx hb d_Mind_roundOf_0 rfl (lv_at hl 0 rfl) ?_
  refine va_get hx hb hT i_Mind hown hK hP 0 rfl rfl 0 (Nat.le_of_ble_eq_true rfl) (hT _ k_96) (fun _ h => h) rfl d_Mind_roundOf_1 ?_
  refine lv_aload_n hx hb d_Mind_roundOf_4 rfl (lv_at hl 1 rfl) ?_
  obtain ⟨q1, hq1, hf⟩ := io_b hf
  refine xcVV (wc := (w_Ring_copyFrom cI cJ cC a_h_one a_h_one_kinds a_h_one_sweets a_h_one_settings a_h_one_heaps a_g1 a_g1_kinds a_g1_sweets a_g1_settings a_g1_heaps (r_children z_h_one) (r_strokes z_h_one) (r_gave z_h_one) (r_threw z_h_one) (r_kinds z_h_one) (r_sweets z_h_one) (r_settings z_h_one) (r_heaps z_h_one) (r_children z_g1) (r_strokes z_g1) (r_gave z_g1) (r_threw z_g1) (r_kinds z_g1) (r_sweets z_g1) (r_settings z_g1))) (wc' := (w_Ring_copyFrom cI cJ cC a_h_one a_h_one_kinds a_h_one_sweets a_h_one_settings a_h_one_heaps a_g1 a_g1_kinds a_g1_sweets a_g1_settings a_g1_heaps (r_children q1) (r_strokes q1) (r_gave q1) (r_threw q1) (r_kinds q1) (r_sweets q1) (r_settings q1) (r_heaps q1) (r_children z_g1) (r_strokes z_g1) (r_gave z_g1) (r_threw z_g1) (r_kinds z_g1) (r_sweets z_g1) (r_settings z_g1))) (ws' := (w_Mind_roundOf cI cJ cC a_h a_h_one a_h_two a_h_one_kinds a_h_one_sweets a_h_one_settings a_h_one_heaps a_h_two_kinds a_h_two_sweets a_h_two_settings a_h_two_heaps a_g1 a_g1_kinds a_g1_sweets a_g1_settings a_g1_heaps y_h_seed (r_children q1) (r_strokes q1) (r_gave q1) (r_threw q1) (r_kinds q1) (r_sweets q1) (r_settings q1) (r_heaps q1) (r_children z_h_two) (r_strokes z_h_two) (r_gave z_h_two) (r_threw z_h_two) (r_kinds z_h_two) (r_sweets z_h_two) (r_settings z_h_two) (r_heaps z_h_two) (r_children z_g1) (r_strokes z_g1) (r_gave z_g1) (r_threw z_g1) (r_kinds z_g1) (r_sweets z_g1) (r_settings z_g1))) (As := [.ref a_g1]) (rest := []) hx hb hml hown hT (c_Ring_copyFrom (z_h := z_h_one) (z_g1 := z_g1) a_h_one a_h_one_kinds a_h_one_sweets a_h_one_settings a_h_one_heaps a_g1 a_g1_kinds a_g1_sweets a_g1_settings a_g1_heaps hq1) k_252 k_253 k_254 k_2 k_255 hd_Ring_copyFrom ⟨Nat.le_of_ble_eq_true rfl, Nat.le_of_ble_eq_true rfl⟩ xE0_ok trivial hA hK hP hD hS [1, 2, 3, 4, 5, 11, 12, 13, 14] [0, 6, 7, 8, 9, 10] [0, 6, 7, 8, 9, 10, 1, 2, 3, 4, 5, 11, 12, 13, 14] rfl rfl rfl rfl rfl rfl rfl rfl rfl rfl hl.1 rfl (Nat.le_of_ble_eq_true rfl) ⟨Nat.zero_le _, Nat.zero_le _⟩ d_Mind_roundOf_5 (fun H locs hP hD hS => ?_)
  refine lv_aload_n hx hb d_Mind_roundOf_8 rfl (lv_at hl 0 rfl) ?_
  refine va_get hx hb hT i_Mind hown hK hP 0 rfl rfl 0 (Nat.le_of_ble_eq_true rfl) (hT _ k_96) (fun _ h => h) rfl d_Mind_roundOf_9 ?_
  refine lv_bipush (v := 100) hx hb d_Mind_roundOf_12 (by decide) ?_
  obtain ⟨q2, hq2, hf⟩ := io_b hf
  refine xcVV (wc := (w_Ring_strikeOften cI cJ cC a_h_one a_h_one_kinds a_h_one_sweets a_h_one_settings a_h_one_heaps (r_children q1) (r_strokes q1) (r_gave q1) (r_threw q1) (r_kinds q1) (r_sweets q1) (r_settings q1) (r_heaps q1))) (wc' := (w_Ring_strikeOften cI cJ cC a_h_one a_h_one_kinds a_h_one_sweets a_h_one_settings a_h_one_heaps (r_children q2) (r_strokes q2) (r_gave q2) (r_threw q2) (r_kinds q2) (r_sweets q2) (r_settings q2) (r_heaps q2))) (ws' := (w_Mind_roundOf cI cJ cC a_h a_h_one a_h_two a_h_one_kinds a_h_one_sweets a_h_one_settings a_h_one_heaps a_h_two_kinds a_h_two_sweets a_h_two_settings a_h_two_heaps a_g1 a_g1_kinds a_g1_sweets a_g1_settings a_g1_heaps y_h_seed (r_children q2) (r_strokes q2) (r_gave q2) (r_threw q2) (r_kinds q2) (r_sweets q2) (r_settings q2) (r_heaps q2) (r_children z_h_two) (r_strokes z_h_two) (r_gave z_h_two) (r_threw z_h_two) (r_kinds z_h_two) (r_sweets z_h_two) (r_settings z_h_two) (r_heaps z_h_two) (r_children z_g1) (r_strokes z_g1) (r_gave z_g1) (r_threw z_g1) (r_kinds z_g1) (r_sweets z_g1) (r_settings z_g1))) (As := [.int 100]) (rest := []) hx hb hml hown hT (c_Ring_strikeOften (z_h := q1) a_h_one a_h_one_kinds a_h_one_sweets a_h_one_settings a_h_one_heaps hq2) k_256 k_257 k_258 k_2 k_259 hd_Ring_strikeOften ⟨Nat.le_of_ble_eq_true rfl, Nat.le_of_ble_eq_true rfl⟩ xE0_ok trivial hA hK hP hD hS [1, 2, 3, 4, 5] [0, 6, 7, 8, 9, 10, 11, 12, 13, 14] [0, 10, 11, 12, 13, 14, 1, 2, 3, 4, 5, 6, 7, 8, 9] rfl rfl rfl rfl rfl rfl rfl rfl rfl rfl hl.1 rfl (Nat.le_of_ble_eq_true rfl) ⟨Nat.zero_le _, Nat.zero_le _⟩ d_Mind_roundOf_14 (fun H locs hP hD hS => ?_)
  refine lv_aload_n hx hb d_Mind_roundOf_17 rfl (lv_at hl 0 rfl) ?_
  refine va_get hx hb hT i_Mind hown hK hP 0 rfl rfl 1 (Nat.le_of_ble_eq_true rfl) (hT _ k_97) (fun _ h => h) rfl d_Mind_roundOf_18 ?_
  refine lv_aload_n hx hb d_Mind_roundOf_21 rfl (lv_at hl 0 rfl) ?_
  refine va_get hx hb hT i_Mind hown hK hP 0 rfl rfl 0 (Nat.le_of_ble_eq_true rfl) (hT _ k_96) (fun _ h => h) rfl d_Mind_roundOf_22 ?_
  obtain ⟨q3, hq3, hf⟩ := io_b hf
  refine xcVV (wc := (w_Ring_copyFrom cI cJ cC a_h_two a_h_two_kinds a_h_two_sweets a_h_two_settings a_h_two_heaps a_h_one a_h_one_kinds a_h_one_sweets a_h_one_settings a_h_one_heaps (r_children z_h_two) (r_strokes z_h_two) (r_gave z_h_two) (r_threw z_h_two) (r_kinds z_h_two) (r_sweets z_h_two) (r_settings z_h_two) (r_heaps z_h_two) (r_children q2) (r_strokes q2) (r_gave q2) (r_threw q2) (r_kinds q2) (r_sweets q2) (r_settings q2))) (wc' := (w_Ring_copyFrom cI cJ cC a_h_two a_h_two_kinds a_h_two_sweets a_h_two_settings a_h_two_heaps a_h_one a_h_one_kinds a_h_one_sweets a_h_one_settings a_h_one_heaps (r_children q3) (r_strokes q3) (r_gave q3) (r_threw q3) (r_kinds q3) (r_sweets q3) (r_settings q3) (r_heaps q3) (r_children q2) (r_strokes q2) (r_gave q2) (r_threw q2) (r_kinds q2) (r_sweets q2) (r_settings q2))) (ws' := (w_Mind_roundOf cI cJ cC a_h a_h_one a_h_two a_h_one_kinds a_h_one_sweets a_h_one_settings a_h_one_heaps a_h_two_kinds a_h_two_sweets a_h_two_settings a_h_two_heaps a_g1 a_g1_kinds a_g1_sweets a_g1_settings a_g1_heaps y_h_seed (r_children q2) (r_strokes q2) (r_gave q2) (r_threw q2) (r_kinds q2) (r_sweets q2) (r_settings q2) (r_heaps q2) (r_children q3) (r_strokes q3) (r_gave q3) (r_threw q3) (r_kinds q3) (r_sweets q3) (r_settings q3) (r_heaps q3) (r_children z_g1) (r_strokes z_g1) (r_gave z_g1) (r_threw z_g1) (r_kinds z_g1) (r_sweets z_g1) (r_settings z_g1))) (As := [.ref a_h_one]) (rest := []) hx hb hml hown hT (c_Ring_copyFrom (z_h := z_h_two) (z_g1 := q2) a_h_two a_h_two_kinds a_h_two_sweets a_h_two_settings a_h_two_heaps a_h_one a_h_one_kinds a_h_one_sweets a_h_one_settings a_h_one_heaps hq3) k_252 k_253 k_254 k_2 k_255 hd_Ring_copyFrom ⟨Nat.le_of_ble_eq_true rfl, Nat.le_of_ble_eq_true rfl⟩ xE0_ok trivial hA hK hP hD hS [6, 7, 8, 9, 10, 1, 2, 3, 4] [0, 5, 11, 12, 13, 14] [0, 11, 12, 13, 14, 1, 6, 7, 8, 9, 10, 2, 3, 4, 5] rfl rfl rfl rfl rfl rfl rfl rfl rfl rfl hl.1 rfl (Nat.le_of_ble_eq_true rfl) ⟨Nat.zero_le _, Nat.zero_le _⟩ d_Mind_roundOf_25 (fun H locs hP hD hS => ?_)
  refine lv_iconst (v := 1) hx hb d_Mind_roundOf_28 (by decide) ?_
  refine lv_istore_n (lv' := [(2, .int 1), (0, .ref a_h), (1, .ref a_g1)]) hx hb d_Mind_roundOf_29 rfl hl (by decide) rfl (fun ls hl => ?_)
  exact L30 q2 FU q3 1 _ _ _ hf hP hD hS (lv_sub hl [1, 0] rfl)
abbrev w_Mind_aheadOfRound (cI cJ cC : ClassId) (a_h a_h_one a_h_two a_h_one_kinds a_h_one_sweets a_h_one_settings a_h_one_heaps a_h_two_kinds a_h_two_sweets a_h_two_settings a_h_two_heaps a_g1 a_g1_kinds a_g1_sweets a_g1_settings a_g1_heaps : Nat) (y_h_seed : Int32) (p_h_one_children : Int32) (p_h_one_strokes : Int32) (p_h_one_gave : Int32) (p_h_one_threw : Int32) (p_h_one_kinds : (Nat → Int32)) (p_h_one_sweets : (Nat → Int32)) (p_h_one_settings : (Nat → Int32)) (p_h_one_heaps : (Nat → Int32)) (p_h_two_children : Int32) (p_h_two_strokes : Int32) (p_h_two_gave : Int32) (p_h_two_threw : Int32) (p_h_two_kinds : (Nat → Int32)) (p_h_two_sweets : (Nat → Int32)) (p_h_two_settings : (Nat → Int32)) (p_h_two_heaps : (Nat → Int32)) (p_g1_children : Int32) (p_g1_strokes : Int32) (p_g1_gave : Int32) (p_g1_threw : Int32) (p_g1_kinds : (Nat → Int32)) (p_g1_sweets : (Nat → Int32)) (p_g1_settings : (Nat → Int32)) : va_W := [(a_h, .inr (3, [.ref a_h_one, .ref a_h_two, .int y_h_seed])), (a_h_one, .inr (1, [.ref a_h_one_kinds, .ref a_h_one_sweets, .ref a_h_one_settings, .int p_h_one_children, .int p_h_one_strokes, .int p_h_one_gave, .int p_h_one_threw, .ref a_h_one_heaps])), (a_h_one_kinds, .inl (cI, (8, .inl p_h_one_kinds))), (a_h_one_sweets, .inl (cI, (8, .inl p_h_one_sweets))), (a_h_one_settings, .inl (cI, (3, .inl p_h_one_settings))), (a_h_one_heaps, .inl (cI, (8, .inl p_h_one_heaps))), (a_h_two, .inr (1, [.ref a_h_two_kinds, .ref a_h_two_sweets, .ref a_h_two_settings, .int p_h_two_children, .int p_h_two_strokes, .int p_h_two_gave, .int p_h_two_threw, .ref a_h_two_heaps])), (a_h_two_kinds, .inl (cI, (8, .inl p_h_two_kinds))), (a_h_two_sweets, .inl (cI, (8, .inl p_h_two_sweets))), (a_h_two_settings, .inl (cI, (3, .inl p_h_two_settings))), (a_h_two_heaps, .inl (cI, (8, .inl p_h_two_heaps))), (a_g1, .inr (1, [.ref a_g1_kinds, .ref a_g1_sweets, .ref a_g1_settings, .int p_g1_children, .int p_g1_strokes, .int p_g1_gave, .int p_g1_threw, .ref a_g1_heaps])), (a_g1_kinds, .inl (cI, (8, .inl p_g1_kinds))), (a_g1_sweets, .inl (cI, (8, .inl p_g1_sweets))), (a_g1_settings, .inl (cI, (3, .inl p_g1_settings)))]
theorem d_Mind_aheadOfRound_0 : decode b_Mind_aheadOfRound 0 = .ok (.aload_n 0, 1) := by decide +kernel
theorem d_Mind_aheadOfRound_1 : decode b_Mind_aheadOfRound 1 = .ok (.getfield 12, 3) := by decide +kernel
theorem d_Mind_aheadOfRound_4 : decode b_Mind_aheadOfRound 4 = .ok (.aload_n 1, 1) := by decide +kernel
theorem d_Mind_aheadOfRound_5 : decode b_Mind_aheadOfRound 5 = .ok (.invokevirtual 25, 3) := by decide +kernel
theorem d_Mind_aheadOfRound_8 : decode b_Mind_aheadOfRound 8 = .ok (.aload_n 0, 1) := by decide +kernel
theorem d_Mind_aheadOfRound_9 : decode b_Mind_aheadOfRound 9 = .ok (.getfield 18, 3) := by decide +kernel
theorem d_Mind_aheadOfRound_12 : decode b_Mind_aheadOfRound 12 = .ok (.aload_n 1, 1) := by decide +kernel
theorem d_Mind_aheadOfRound_13 : decode b_Mind_aheadOfRound 13 = .ok (.invokevirtual 25, 3) := by decide +kernel
theorem d_Mind_aheadOfRound_16 : decode b_Mind_aheadOfRound 16 = .ok (.aload_n 0, 1) := by decide +kernel
theorem d_Mind_aheadOfRound_17 : decode b_Mind_aheadOfRound 17 = .ok (.getfield 18, 3) := by decide +kernel
theorem d_Mind_aheadOfRound_20 : decode b_Mind_aheadOfRound 20 = .ok (.iload_n 2, 1) := by decide +kernel
theorem d_Mind_aheadOfRound_21 : decode b_Mind_aheadOfRound 21 = .ok (.invokevirtual 29, 3) := by decide +kernel
theorem d_Mind_aheadOfRound_24 : decode b_Mind_aheadOfRound 24 = .ok (.iconst 0, 1) := by decide +kernel
theorem d_Mind_aheadOfRound_25 : decode b_Mind_aheadOfRound 25 = .ok (.istore_n 3, 1) := by decide +kernel
theorem d_Mind_aheadOfRound_26 : decode b_Mind_aheadOfRound 26 = .ok (.iload_n 3, 1) := by decide +kernel
theorem d_Mind_aheadOfRound_27 : decode b_Mind_aheadOfRound 27 = .ok (.bipush 100, 2) := by decide +kernel
theorem d_Mind_aheadOfRound_29 : decode b_Mind_aheadOfRound 29 = .ok (.if_icmp .gt 41, 3) := by decide +kernel
theorem d_Mind_aheadOfRound_32 : decode b_Mind_aheadOfRound 32 = .ok (.aload_n 0, 1) := by decide +kernel
theorem d_Mind_aheadOfRound_33 : decode b_Mind_aheadOfRound 33 = .ok (.getfield 18, 3) := by decide +kernel
theorem d_Mind_aheadOfRound_36 : decode b_Mind_aheadOfRound 36 = .ok (.aload_n 0, 1) := by decide +kernel
theorem d_Mind_aheadOfRound_37 : decode b_Mind_aheadOfRound 37 = .ok (.getfield 12, 3) := by decide +kernel
theorem d_Mind_aheadOfRound_40 : decode b_Mind_aheadOfRound 40 = .ok (.invokevirtual 59, 3) := by decide +kernel
theorem d_Mind_aheadOfRound_43 : decode b_Mind_aheadOfRound 43 = .ok (.ifCond .eq 5, 3) := by decide +kernel
theorem d_Mind_aheadOfRound_46 : decode b_Mind_aheadOfRound 46 = .ok (.iload_n 3, 1) := by decide +kernel
theorem d_Mind_aheadOfRound_47 : decode b_Mind_aheadOfRound 47 = .ok (.ireturn, 1) := by decide +kernel
theorem d_Mind_aheadOfRound_48 : decode b_Mind_aheadOfRound 48 = .ok (.aload_n 0, 1) := by decide +kernel
theorem d_Mind_aheadOfRound_49 : decode b_Mind_aheadOfRound 49 = .ok (.getfield 12, 3) := by decide +kernel
theorem d_Mind_aheadOfRound_52 : decode b_Mind_aheadOfRound 52 = .ok (.invokevirtual 43, 3) := by decide +kernel
theorem d_Mind_aheadOfRound_55 : decode b_Mind_aheadOfRound 55 = .ok (.pop, 1) := by decide +kernel
theorem d_Mind_aheadOfRound_56 : decode b_Mind_aheadOfRound 56 = .ok (.aload_n 0, 1) := by decide +kernel
theorem d_Mind_aheadOfRound_57 : decode b_Mind_aheadOfRound 57 = .ok (.getfield 18, 3) := by decide +kernel
theorem d_Mind_aheadOfRound_60 : decode b_Mind_aheadOfRound 60 = .ok (.invokevirtual 43, 3) := by decide +kernel
theorem d_Mind_aheadOfRound_63 : decode b_Mind_aheadOfRound 63 = .ok (.pop, 1) := by decide +kernel
theorem d_Mind_aheadOfRound_64 : decode b_Mind_aheadOfRound 64 = .ok (.iinc 3 1, 3) := by decide +kernel
theorem d_Mind_aheadOfRound_67 : decode b_Mind_aheadOfRound 67 = .ok (.goto (-41), 3) := by decide +kernel
theorem d_Mind_aheadOfRound_70 : decode b_Mind_aheadOfRound 70 = .ok (.bipush (-9), 2) := by decide +kernel
theorem d_Mind_aheadOfRound_72 : decode b_Mind_aheadOfRound 72 = .ok (.ireturn, 1) := by decide +kernel
set_option maxHeartbeats 4000000 in
set_option maxRecDepth 100000 in
theorem c_Mind_aheadOfRound {l : Launch} {D : va_G} {cI cJ cC : ClassId} (a_h a_h_one a_h_two a_h_one_kinds a_h_one_sweets a_h_one_settings a_h_one_heaps a_h_two_kinds a_h_two_sweets a_h_two_settings a_h_two_heaps a_g1 a_g1_kinds a_g1_sweets a_g1_settings a_g1_heaps : Nat) (y_h_seed : Int32) {z_h_one : RS} {z_h_two : RS} {z_g1 : RS} {x2 : Int32} {q : Int32 × RS × RS} (hf : f_Mind_aheadOfRound z_h_one z_h_two z_g1 x2 = some q) : xI l y_Mind_aheadOfRound b_Mind_aheadOfRound 4 .int 5 111 D (tyK cI cJ cC) xE0 [.ref a_h, .ref a_g1, .int x2] (w_Mind_aheadOfRound cI cJ cC a_h a_h_one a_h_two a_h_one_kinds a_h_one_sweets a_h_one_settings a_h_one_heaps a_h_two_kinds a_h_two_sweets a_h_two_settings a_h_two_heaps a_g1 a_g1_kinds a_g1_sweets a_g1_settings a_g1_heaps y_h_seed (r_children z_h_one) (r_strokes z_h_one) (r_gave z_h_one) (r_threw z_h_one) (r_kinds z_h_one) (r_sweets z_h_one) (r_settings z_h_one) (r_heaps z_h_one) (r_children z_h_two) (r_strokes z_h_two) (r_gave z_h_two) (r_threw z_h_two) (r_kinds z_h_two) (r_sweets z_h_two) (r_settings z_h_two) (r_heaps z_h_two) (r_children z_g1) (r_strokes z_g1) (r_gave z_g1) (r_threw z_g1) (r_kinds z_g1) (r_sweets z_g1) (r_settings z_g1)) q.1 (w_Mind_aheadOfRound cI cJ cC a_h a_h_one a_h_two a_h_one_kinds a_h_one_sweets a_h_one_settings a_h_one_heaps a_h_two_kinds a_h_two_sweets a_h_two_settings a_h_two_heaps a_g1 a_g1_kinds a_g1_sweets a_g1_settings a_g1_heaps y_h_seed (r_children q.2.1) (r_strokes q.2.1) (r_gave q.2.1) (r_threw q.2.1) (r_kinds q.2.1) (r_sweets q.2.1) (r_settings q.2.1) (r_heaps q.2.1) (r_children q.2.2) (r_strokes q.2.2) (r_gave q.2.2) (r_threw q.2.2) (r_kinds q.2.2) (r_sweets q.2.2) (r_settings q.2.2) (r_heaps q.2.2) (r_children z_g1) (r_strokes z_g1) (r_gave z_g1) (r_threw z_g1) (r_kinds z_g1) (r_sweets z_g1) (r_settings z_g1)) := by
  refine xI_of (by decide) (Nat.le_of_ble_eq_true rfl) ?_
  intro p e s m args below meth c A Q hx hb hml hown hT hA hP hD hK hS hE hret ls hl
  have hown : s.vm.findClass R_Mind = some m.cls := hown
  have hl : lv_has ls 4 [(0, .ref a_h), (1, .ref a_g1), (2, .int x2)] := hl
  unfold f_Mind_aheadOfRound at hf
  have L26 : ∀ (n : Nat) (z_h_one : RS) (z_h_two : RS) (x3 : Int32) (H : Heap) (locs : List Loc) (ls : Array Slot), f_Mind_aheadOfRound_L26 n z_h_one z_h_two x3 = some q → va_P D classes (w_Mind_aheadOfRound cI cJ cC a_h a_h_one a_h_two a_h_one_kinds a_h_one_sweets a_h_one_settings a_h_one_heaps a_h_two_kinds a_h_two_sweets a_h_two_settings a_h_two_heaps a_g1 a_g1_kinds a_g1_sweets a_g1_settings a_g1_heaps y_h_seed (r_children z_h_one) (r_strokes z_h_one) (r_gave z_h_one) (r_threw z_h_one) (r_kinds z_h_one) (r_sweets z_h_one) (r_settings z_h_one) (r_heaps z_h_one) (r_children z_h_two) (r_strokes z_h_two) (r_gave z_h_two) (r_threw z_h_two) (r_kinds z_h_two) (r_sweets z_h_two) (r_settings z_h_two) (r_heaps z_h_two) (r_children z_g1) (r_strokes z_g1) (r_gave z_g1) (r_threw z_g1) (r_kinds z_g1) (r_sweets z_g1) (r_settings z_g1)) H → va_D A (w_Mind_aheadOfRound cI cJ cC a_h a_h_one a_h_two a_h_one_kinds a_h_one_sweets a_h_one_settings a_h_one_heaps a_h_two_kinds a_h_two_sweets a_h_two_settings a_h_two_heaps a_g1 a_g1_kinds a_g1_sweets a_g1_settings a_g1_heaps y_h_seed (r_children z_h_one) (r_strokes z_h_one) (r_gave z_h_one) (r_threw z_h_one) (r_kinds z_h_one) (r_sweets z_h_one) (r_settings z_h_one) (r_heaps z_h_one) (r_children z_h_two) (r_strokes z_h_two) (r_gave z_h_two) (r_threw z_h_two) (r_kinds z_h_two) (r_sweets z_h_two) (r_settings z_h_two) (r_heaps z_h_two) (r_children z_g1) (r_strokes z_g1) (r_gave z_g1) (r_threw z_g1) (r_kinds z_g1) (r_sweets z_g1) (r_settings z_g1)) → va_S A s.heap H locs → lv_has ls 4 [(0, .ref a_h), (3, .int x3)] → W p l e (xRm 5 111) s m args below meth c H locs 0 0 Q (F0 m 26 ls []) := by
    intro n
    induction n with
    | zero => intro z_h_one z_h_two x3 H locs ls hf hP hD hS hl; exact nomatch (show (none : Option (Int32 × RS × RS)) = some q from hf)
    | succ n ih =>
      intro z_h_one z_h_two x3 H locs ls hf hP hD hS hl
      refine lv_iload_n hx hb d_Mind_aheadOfRound_26 rfl (lv_at hl 1 rfl) ?_
      refine lv_bipush (v := 100) hx hb d_Mind_aheadOfRound_27 (by decide) ?_
      refine lv_icmp_gt (tgt := 70) hx hb d_Mind_aheadOfRound_29 (by decide) (fun c4 => ?_) (fun c4 => ?_)
      · have hf := io_t hf c4
        refine lv_bipush (v := (-9)) hx hb d_Mind_aheadOfRound_70 (by decide) ?_
        have hq := Option.some.inj hf
        subst hq
        exact hret _ _ _ _ _ d_Mind_aheadOfRound_72 rfl rfl hP hD hS
      · have hf := io_f hf c4
        refine lv_aload_n hx hb d_Mind_aheadOfRound_32 rfl (lv_at hl 0 rfl) ?_
        refine va_get hx hb hT i_Mind hown hK hP 0 rfl rfl 1 (Nat.le_of_ble_eq_true rfl) (hT _ k_97) (fun _ h => h) rfl d_Mind_aheadOfRound_33 ?_
        refine lv_aload_n hx hb d_Mind_aheadOfRound_36 rfl (lv_at hl 0 rfl) ?_
        refine va_get hx hb hT i_Mind hown hK hP 0 rfl rfl 0 (Nat.le_of_ble_eq_true rfl) (hT _ k_96) (fun _ h => h) rfl d_Mind_aheadOfRound_37 ?_
        obtain ⟨q5, hq5, hf⟩ := io_b hf
        refine xcVI (wc := (w_Ring_hasSweetsAndBagOf cI cJ cC a_h_two a_h_two_kinds a_h_two_sweets a_h_two_settings a_h_two_heaps a_h_one a_h_one_kinds a_h_one_sweets a_h_one_settings a_h_one_heaps (r_children z_h_two) (r_strokes z_h_two) (r_gave z_h_two) (r_threw z_h_two) (r_sweets z_h_two) (r_settings z_h_two) (r_children z_h_one) (r_strokes z_h_one) (r_gave z_h_one) (r_threw z_h_one) (r_sweets z_h_one) (r_settings z_h_one))) (wc' := (w_Ring_hasSweetsAndBagOf cI cJ cC a_h_two a_h_two_kinds a_h_two_sweets a_h_two_settings a_h_two_heaps a_h_one a_h_one_kinds a_h_one_sweets a_h_one_settings a_h_one_heaps (r_children z_h_two) (r_strokes z_h_two) (r_gave z_h_two) (r_threw z_h_two) (r_sweets z_h_two) (r_settings z_h_two) (r_children z_h_one) (r_strokes z_h_one) (r_gave z_h_one) (r_threw z_h_one) (r_sweets z_h_one) (r_settings z_h_one))) (ws' := (w_Mind_aheadOfRound cI cJ cC a_h a_h_one a_h_two a_h_one_kinds a_h_one_sweets a_h_one_settings a_h_one_heaps a_h_two_kinds a_h_two_sweets a_h_two_settings a_h_two_heaps a_g1 a_g1_kinds a_g1_sweets a_g1_settings a_g1_heaps y_h_seed (r_children z_h_one) (r_strokes z_h_one) (r_gave z_h_one) (r_threw z_h_one) (r_kinds z_h_one) (r_sweets z_h_one) (r_settings z_h_one) (r_heaps z_h_one) (r_children z_h_two) (r_strokes z_h_two) (r_gave z_h_two) (r_threw z_h_two) (r_kinds z_h_two) (r_sweets z_h_two) (r_settings z_h_two) (r_heaps z_h_two) (r_children z_g1) (r_strokes z_g1) (r_gave z_g1) (r_threw z_g1) (r_kinds z_g1) (r_sweets z_g1) (r_settings z_g1))) (As := [.ref a_h_one]) (rest := []) hx hb hml hown hT (c_Ring_hasSweetsAndBagOf (z_h := z_h_two) (z_g1 := z_h_one) a_h_two a_h_two_kinds a_h_two_sweets a_h_two_settings a_h_two_heaps a_h_one a_h_one_kinds a_h_one_sweets a_h_one_settings a_h_one_heaps hq5) k_312 k_313 k_314 k_2 k_315 hd_Ring_hasSweetsAndBagOf ⟨Nat.le_of_ble_eq_true rfl, Nat.le_of_ble_eq_true rfl⟩ xE0_ok trivial hA hK hP hD hS [6, 8, 9, 1, 3, 4] [0, 2, 5, 7, 10, 11, 12, 13, 14] [0, 12, 1, 13, 14, 2, 9, 3, 10, 11, 4, 5, 6, 7, 8] rfl rfl rfl rfl rfl rfl rfl rfl rfl rfl hl.1 rfl (Nat.le_of_ble_eq_true rfl) ⟨Nat.zero_le _, Nat.zero_le _⟩ d_Mind_aheadOfRound_40 (fun H locs hP hD hS => ?_)
        refine lv_if_eq (tgt := 48) hx hb d_Mind_aheadOfRound_43 (by decide) (fun c6 => ?_) (fun c6 => ?_)
        · have hf := io_t hf c6
          refine lv_aload_n hx hb d_Mind_aheadOfRound_48 rfl (lv_at hl 0 rfl) ?_
          refine va_get hx hb hT i_Mind hown hK hP 0 rfl rfl 0 (Nat.le_of_ble_eq_true rfl) (hT _ k_96) (fun _ h => h) rfl d_Mind_aheadOfRound_49 ?_
          obtain ⟨q7, hq7, hf⟩ := io_b hf
          refine xcVI (wc := (w_Ring_strike cI cJ cC a_h_one a_h_one_kinds a_h_one_sweets a_h_one_settings a_h_one_heaps (r_children z_h_one) (r_strokes z_h_one) (r_gave z_h_one) (r_threw z_h_one) (r_kinds z_h_one) (r_sweets z_h_one) (r_settings z_h_one) (r_heaps z_h_one))) (wc' := (w_Ring_strike cI cJ cC a_h_one a_h_one_kinds a_h_one_sweets a_h_one_settings a_h_one_heaps (r_children q7.2) (r_strokes q7.2) (r_gave q7.2) (r_threw q7.2) (r_kinds q7.2) (r_sweets q7.2) (r_settings q7.2) (r_heaps q7.2))) (ws' := (w_Mind_aheadOfRound cI cJ cC a_h a_h_one a_h_two a_h_one_kinds a_h_one_sweets a_h_one_settings a_h_one_heaps a_h_two_kinds a_h_two_sweets a_h_two_settings a_h_two_heaps a_g1 a_g1_kinds a_g1_sweets a_g1_settings a_g1_heaps y_h_seed (r_children q7.2) (r_strokes q7.2) (r_gave q7.2) (r_threw q7.2) (r_kinds q7.2) (r_sweets q7.2) (r_settings q7.2) (r_heaps q7.2) (r_children z_h_two) (r_strokes z_h_two) (r_gave z_h_two) (r_threw z_h_two) (r_kinds z_h_two) (r_sweets z_h_two) (r_settings z_h_two) (r_heaps z_h_two) (r_children z_g1) (r_strokes z_g1) (r_gave z_g1) (r_threw z_g1) (r_kinds z_g1) (r_sweets z_g1) (r_settings z_g1))) (As := []) (rest := []) hx hb hml hown hT (c_Ring_strike (z_h := z_h_one) a_h_one a_h_one_kinds a_h_one_sweets a_h_one_settings a_h_one_heaps hq7) k_284 k_220 k_221 k_2 k_222 hd_Ring_strike ⟨Nat.le_of_ble_eq_true rfl, Nat.le_of_ble_eq_true rfl⟩ xE0_ok trivial hA hK hP hD hS [1, 2, 3, 4, 5] [0, 6, 7, 8, 9, 10, 11, 12, 13, 14] [0, 10, 11, 12, 13, 14, 1, 2, 3, 4, 5, 6, 7, 8, 9] rfl rfl rfl rfl rfl rfl rfl rfl rfl rfl hl.1 rfl (Nat.le_of_ble_eq_true rfl) ⟨Nat.zero_le _, Nat.zero_le _⟩ d_Mind_aheadOfRound_52 (fun H locs hP hD hS => ?_)
          refine lv_pop hx hb d_Mind_aheadOfRound_55 rfl ?_
          refine lv_aload_n hx hb d_Mind_aheadOfRound_56 rfl (lv_at hl 0 rfl) ?_
          refine va_get hx hb hT i_Mind hown hK hP 0 rfl rfl 1 (Nat.le_of_ble_eq_true rfl) (hT _ k_97) (fun _ h => h) rfl d_Mind_aheadOfRound_57 ?_
          obtain ⟨q8, hq8, hf⟩ := io_b hf
          refine xcVI (wc := (w_Ring_strike cI cJ cC a_h_two a_h_two_kinds a_h_two_sweets a_h_two_settings a_h_two_heaps (r_children z_h_two) (r_strokes z_h_two) (r_gave z_h_two) (r_threw z_h_two) (r_kinds z_h_two) (r_sweets z_h_two) (r_settings z_h_two) (r_heaps z_h_two))) (wc' := (w_Ring_strike cI cJ cC a_h_two a_h_two_kinds a_h_two_sweets a_h_two_settings a_h_two_heaps (r_children q8.2) (r_strokes q8.2) (r_gave q8.2) (r_threw q8.2) (r_kinds q8.2) (r_sweets q8.2) (r_settings q8.2) (r_heaps q8.2))) (ws' := (w_Mind_aheadOfRound cI cJ cC a_h a_h_one a_h_two a_h_one_kinds a_h_one_sweets a_h_one_settings a_h_one_heaps a_h_two_kinds a_h_two_sweets a_h_two_settings a_h_two_heaps a_g1 a_g1_kinds a_g1_sweets a_g1_settings a_g1_heaps y_h_seed (r_children q7.2) (r_strokes q7.2) (r_gave q7.2) (r_threw q7.2) (r_kinds q7.2) (r_sweets q7.2) (r_settings q7.2) (r_heaps q7.2) (r_children q8.2) (r_strokes q8.2) (r_gave q8.2) (r_threw q8.2) (r_kinds q8.2) (r_sweets q8.2) (r_settings q8.2) (r_heaps q8.2) (r_children z_g1) (r_strokes z_g1) (r_gave z_g1) (r_threw z_g1) (r_kinds z_g1) (r_sweets z_g1) (r_settings z_g1))) (As := []) (rest := []) hx hb hml hown hT (c_Ring_strike (z_h := z_h_two) a_h_two a_h_two_kinds a_h_two_sweets a_h_two_settings a_h_two_heaps hq8) k_284 k_220 k_221 k_2 k_222 hd_Ring_strike ⟨Nat.le_of_ble_eq_true rfl, Nat.le_of_ble_eq_true rfl⟩ xE0_ok trivial hA hK hP hD hS [6, 7, 8, 9, 10] [0, 1, 2, 3, 4, 5, 11, 12, 13, 14] [0, 1, 2, 3, 4, 5, 10, 11, 12, 13, 14, 6, 7, 8, 9] rfl rfl rfl rfl rfl rfl rfl rfl rfl rfl hl.1 rfl (Nat.le_of_ble_eq_true rfl) ⟨Nat.zero_le _, Nat.zero_le _⟩ d_Mind_aheadOfRound_60 (fun H locs hP hD hS => ?_)
          refine lv_pop hx hb d_Mind_aheadOfRound_63 rfl ?_
          refine lv_iinc (v := (x3 + 1)) (lv' := [(3, .int (x3 + 1)), (0, .ref a_h)]) hx hb d_Mind_aheadOfRound_64 hl (k := 1) rfl (by rfl) (by decide) rfl (fun ls hl => ?_)
          refine lv_goto (tgt := 26) hx hb d_Mind_aheadOfRound_67 (by decide) ?_
          exact ih q7.2 q8.2 (x3 + 1) _ _ _ hf hP hD hS (lv_sub hl [1, 0] rfl)
        · have hf := io_f hf c6
          refine lv_iload_n hx hb d_Mind_aheadOfRound_46 rfl (lv_at hl 1 rfl) ?_
          have hq := Option.some.inj hf
          subst hq
          exact hret _ _ _ _ _ d_Mind_aheadOfRound_47 rfl rfl hP hD hS
  refine lv_aload_n hx hb d_Mind_aheadOfRound_0 rfl (lv_at hl 0 rfl) ?_
  refine va_get hx hb hT i_Mind hown hK hP 0 rfl rfl 0 (Nat.le_of_ble_eq_true rfl) (hT _ k_96) (fun _ h => h) rfl d_Mind_aheadOfRound_1 ?_
  refine lv_aload_n hx hb d_Mind_aheadOfRound_4 rfl (lv_at hl 1 rfl) ?_
  obtain ⟨q1, hq1, hf⟩ := io_b hf
  refine xcVV (wc := (w_Ring_copyFrom cI cJ cC a_h_one a_h_one_kinds a_h_one_sweets a_h_one_settings a_h_one_heaps a_g1 a_g1_kinds a_g1_sweets a_g1_settings a_g1_heaps (r_children z_h_one) (r_strokes z_h_one) (r_gave z_h_one) (r_threw z_h_one) (r_kinds z_h_one) (r_sweets z_h_one) (r_settings z_h_one) (r_heaps z_h_one) (r_children z_g1) (r_strokes z_g1) (r_gave z_g1) (r_threw z_g1) (r_kinds z_g1) (r_sweets z_g1) (r_settings z_g1))) (wc' := (w_Ring_copyFrom cI cJ cC a_h_one a_h_one_kinds a_h_one_sweets a_h_one_settings a_h_one_heaps a_g1 a_g1_kinds a_g1_sweets a_g1_settings a_g1_heaps (r_children q1) (r_strokes q1) (r_gave q1) (r_threw q1) (r_kinds q1) (r_sweets q1) (r_settings q1) (r_heaps q1) (r_children z_g1) (r_strokes z_g1) (r_gave z_g1) (r_threw z_g1) (r_kinds z_g1) (r_sweets z_g1) (r_settings z_g1))) (ws' := (w_Mind_aheadOfRound cI cJ cC a_h a_h_one a_h_two a_h_one_kinds a_h_one_sweets a_h_one_settings a_h_one_heaps a_h_two_kinds a_h_two_sweets a_h_two_settings a_h_two_heaps a_g1 a_g1_kinds a_g1_sweets a_g1_settings a_g1_heaps y_h_seed (r_children q1) (r_strokes q1) (r_gave q1) (r_threw q1) (r_kinds q1) (r_sweets q1) (r_settings q1) (r_heaps q1) (r_children z_h_two) (r_strokes z_h_two) (r_gave z_h_two) (r_threw z_h_two) (r_kinds z_h_two) (r_sweets z_h_two) (r_settings z_h_two) (r_heaps z_h_two) (r_children z_g1) (r_strokes z_g1) (r_gave z_g1) (r_threw z_g1) (r_kinds z_g1) (r_sweets z_g1) (r_settings z_g1))) (As := [.ref a_g1]) (rest := []) hx hb hml hown hT (c_Ring_copyFrom (z_h := z_h_one) (z_g1 := z_g1) a_h_one a_h_one_kinds a_h_one_sweets a_h_one_settings a_h_one_heaps a_g1 a_g1_kinds a_g1_sweets a_g1_settings a_g1_heaps hq1) k_252 k_253 k_254 k_2 k_255 hd_Ring_copyFrom ⟨Nat.le_of_ble_eq_true rfl, Nat.le_of_ble_eq_true rfl⟩ xE0_ok trivial hA hK hP hD hS [1, 2, 3, 4, 5, 11, 12, 13, 14] [0, 6, 7, 8, 9, 10] [0, 6, 7, 8, 9, 10, 1, 2, 3, 4, 5, 11, 12, 13, 14] rfl rfl rfl rfl rfl rfl rfl rfl rfl rfl hl.1 rfl (Nat.le_of_ble_eq_true rfl) ⟨Nat.zero_le _, Nat.zero_le _⟩ d_Mind_aheadOfRound_5 (fun H locs hP hD hS => ?_)
  refine lv_aload_n hx hb d_Mind_aheadOfRound_8 rfl (lv_at hl 0 rfl) ?_
  refine va_get hx hb hT i_Mind hown hK hP 0 rfl rfl 1 (Nat.le_of_ble_eq_true rfl) (hT _ k_97) (fun _ h => h) rfl d_Mind_aheadOfRound_9 ?_
  refine lv_aload_n hx hb d_Mind_aheadOfRound_12 rfl (lv_at hl 1 rfl) ?_
  obtain ⟨q2, hq2, hf⟩ := io_b hf
  refine xcVV (wc := (w_Ring_copyFrom cI cJ cC a_h_two a_h_two_kinds a_h_two_sweets a_h_two_settings a_h_two_heaps a_g1 a_g1_kinds a_g1_sweets a_g1_settings a_g1_heaps (r_children z_h_two) (r_strokes z_h_two) (r_gave z_h_two) (r_threw z_h_two) (r_kinds z_h_two) (r_sweets z_h_two) (r_settings z_h_two) (r_heaps z_h_two) (r_children z_g1) (r_strokes z_g1) (r_gave z_g1) (r_threw z_g1) (r_kinds z_g1) (r_sweets z_g1) (r_settings z_g1))) (wc' := (w_Ring_copyFrom cI cJ cC a_h_two a_h_two_kinds a_h_two_sweets a_h_two_settings a_h_two_heaps a_g1 a_g1_kinds a_g1_sweets a_g1_settings a_g1_heaps (r_children q2) (r_strokes q2) (r_gave q2) (r_threw q2) (r_kinds q2) (r_sweets q2) (r_settings q2) (r_heaps q2) (r_children z_g1) (r_strokes z_g1) (r_gave z_g1) (r_threw z_g1) (r_kinds z_g1) (r_sweets z_g1) (r_settings z_g1))) (ws' := (w_Mind_aheadOfRound cI cJ cC a_h a_h_one a_h_two a_h_one_kinds a_h_one_sweets a_h_one_settings a_h_one_heaps a_h_two_kinds a_h_two_sweets a_h_two_settings a_h_two_heaps a_g1 a_g1_kinds a_g1_sweets a_g1_settings a_g1_heaps y_h_seed (r_children q1) (r_strokes q1) (r_gave q1) (r_threw q1) (r_kinds q1) (r_sweets q1) (r_settings q1) (r_heaps q1) (r_children q2) (r_strokes q2) (r_gave q2) (r_threw q2) (r_kinds q2) (r_sweets q2) (r_settings q2) (r_heaps q2) (r_children z_g1) (r_strokes z_g1) (r_gave z_g1) (r_threw z_g1) (r_kinds z_g1) (r_sweets z_g1) (r_settings z_g1))) (As := [.ref a_g1]) (rest := []) hx hb hml hown hT (c_Ring_copyFrom (z_h := z_h_two) (z_g1 := z_g1) a_h_two a_h_two_kinds a_h_two_sweets a_h_two_settings a_h_two_heaps a_g1 a_g1_kinds a_g1_sweets a_g1_settings a_g1_heaps hq2) k_252 k_253 k_254 k_2 k_255 hd_Ring_copyFrom ⟨Nat.le_of_ble_eq_true rfl, Nat.le_of_ble_eq_true rfl⟩ xE0_ok trivial hA hK hP hD hS [6, 7, 8, 9, 10, 11, 12, 13, 14] [0, 1, 2, 3, 4, 5] [0, 1, 2, 3, 4, 5, 6, 7, 8, 9, 10, 11, 12, 13, 14] rfl rfl rfl rfl rfl rfl rfl rfl rfl rfl hl.1 rfl (Nat.le_of_ble_eq_true rfl) ⟨Nat.zero_le _, Nat.zero_le _⟩ d_Mind_aheadOfRound_13 (fun H locs hP hD hS => ?_)
  refine lv_aload_n hx hb d_Mind_aheadOfRound_16 rfl (lv_at hl 0 rfl) ?_
  refine va_get hx hb hT i_Mind hown hK hP 0 rfl rfl 1 (Nat.le_of_ble_eq_true rfl) (hT _ k_97) (fun _ h => h) rfl d_Mind_aheadOfRound_17 ?_
  refine lv_iload_n hx hb d_Mind_aheadOfRound_20 rfl (lv_at hl 2 rfl) ?_
  obtain ⟨q3, hq3, hf⟩ := io_b hf
  refine xcVV (wc := (w_Ring_strikeOften cI cJ cC a_h_two a_h_two_kinds a_h_two_sweets a_h_two_settings a_h_two_heaps (r_children q2) (r_strokes q2) (r_gave q2) (r_threw q2) (r_kinds q2) (r_sweets q2) (r_settings q2) (r_heaps q2))) (wc' := (w_Ring_strikeOften cI cJ cC a_h_two a_h_two_kinds a_h_two_sweets a_h_two_settings a_h_two_heaps (r_children q3) (r_strokes q3) (r_gave q3) (r_threw q3) (r_kinds q3) (r_sweets q3) (r_settings q3) (r_heaps q3))) (ws' := (w_Mind_aheadOfRound cI cJ cC a_h a_h_one a_h_two a_h_one_kinds a_h_one_sweets a_h_one_settings a_h_one_heaps a_h_two_kinds a_h_two_sweets a_h_two_settings a_h_two_heaps a_g1 a_g1_kinds a_g1_sweets a_g1_settings a_g1_heaps y_h_seed (r_children q1) (r_strokes q1) (r_gave q1) (r_threw q1) (r_kinds q1) (r_sweets q1) (r_settings q1) (r_heaps q1) (r_children q3) (r_strokes q3) (r_gave q3) (r_threw q3) (r_kinds q3) (r_sweets q3) (r_settings q3) (r_heaps q3) (r_children z_g1) (r_strokes z_g1) (r_gave z_g1) (r_threw z_g1) (r_kinds z_g1) (r_sweets z_g1) (r_settings z_g1))) (As := [.int x2]) (rest := []) hx hb hml hown hT (c_Ring_strikeOften (z_h := q2) a_h_two a_h_two_kinds a_h_two_sweets a_h_two_settings a_h_two_heaps hq3) k_256 k_257 k_258 k_2 k_259 hd_Ring_strikeOften ⟨Nat.le_of_ble_eq_true rfl, Nat.le_of_ble_eq_true rfl⟩ xE0_ok trivial hA hK hP hD hS [6, 7, 8, 9, 10] [0, 1, 2, 3, 4, 5, 11, 12, 13, 14] [0, 1, 2, 3, 4, 5, 10, 11, 12, 13, 14, 6, 7, 8, 9] rfl rfl rfl rfl rfl rfl rfl rfl rfl rfl hl.1 rfl (Nat.le_of_ble_eq_true rfl) ⟨Nat.zero_le _, Nat.zero_le _⟩ d_Mind_aheadOfRound_21 (fun H locs hP hD hS => ?_)
  refine lv_iconst (v := 0) hx hb d_Mind_aheadOfRound_24 (by decide) ?_
  refine lv_istore_n (lv' := [(3, .int 0), (0, .ref a_h), (1, .ref a_g1), (2, .int x2)]) hx hb d_Mind_aheadOfRound_25 rfl hl (by decide) rfl (fun ls hl => ?_)
  exact L26 FU q1 q3 0 _ _ _ hf hP hD hS (lv_sub hl [1, 0] rfl)
abbrev w_Mind_meetBehind (cI cJ cC : ClassId) (a_h a_h_one a_h_two a_h_one_kinds a_h_one_sweets a_h_one_settings a_h_one_heaps a_g1 a_g1_kinds a_g1_sweets a_g1_settings a_g1_heaps : Nat) (y_h_seed : Int32) (p_h_one_children : Int32) (p_h_one_strokes : Int32) (p_h_one_gave : Int32) (p_h_one_threw : Int32) (p_h_one_kinds : (Nat → Int32)) (p_h_one_sweets : (Nat → Int32)) (p_h_one_settings : (Nat → Int32)) (p_h_one_heaps : (Nat → Int32)) (p_g1_children : Int32) (p_g1_strokes : Int32) (p_g1_gave : Int32) (p_g1_threw : Int32) (p_g1_kinds : (Nat → Int32)) (p_g1_sweets : (Nat → Int32)) (p_g1_settings : (Nat → Int32)) : va_W := [(a_h, .inr (3, [.ref a_h_one, .ref a_h_two, .int y_h_seed])), (a_h_one, .inr (1, [.ref a_h_one_kinds, .ref a_h_one_sweets, .ref a_h_one_settings, .int p_h_one_children, .int p_h_one_strokes, .int p_h_one_gave, .int p_h_one_threw, .ref a_h_one_heaps])), (a_h_one_kinds, .inl (cI, (8, .inl p_h_one_kinds))), (a_h_one_sweets, .inl (cI, (8, .inl p_h_one_sweets))), (a_h_one_settings, .inl (cI, (3, .inl p_h_one_settings))), (a_h_one_heaps, .inl (cI, (8, .inl p_h_one_heaps))), (a_g1, .inr (1, [.ref a_g1_kinds, .ref a_g1_sweets, .ref a_g1_settings, .int p_g1_children, .int p_g1_strokes, .int p_g1_gave, .int p_g1_threw, .ref a_g1_heaps])), (a_g1_kinds, .inl (cI, (8, .inl p_g1_kinds))), (a_g1_sweets, .inl (cI, (8, .inl p_g1_sweets))), (a_g1_settings, .inl (cI, (3, .inl p_g1_settings)))]
theorem d_Mind_meetBehind_0 : decode b_Mind_meetBehind 0 = .ok (.aload_n 0, 1) := by decide +kernel
theorem d_Mind_meetBehind_1 : decode b_Mind_meetBehind 1 = .ok (.getfield 12, 3) := by decide +kernel
theorem d_Mind_meetBehind_4 : decode b_Mind_meetBehind 4 = .ok (.aload_n 1, 1) := by decide +kernel
theorem d_Mind_meetBehind_5 : decode b_Mind_meetBehind 5 = .ok (.invokevirtual 25, 3) := by decide +kernel
theorem d_Mind_meetBehind_8 : decode b_Mind_meetBehind 8 = .ok (.iconst 0, 1) := by decide +kernel
theorem d_Mind_meetBehind_9 : decode b_Mind_meetBehind 9 = .ok (.istore 4, 2) := by decide +kernel
theorem d_Mind_meetBehind_11 : decode b_Mind_meetBehind 11 = .ok (.iload 4, 2) := by decide +kernel
theorem d_Mind_meetBehind_13 : decode b_Mind_meetBehind 13 = .ok (.sipush 200, 3) := by decide +kernel
theorem d_Mind_meetBehind_16 : decode b_Mind_meetBehind 16 = .ok (.if_icmp .gt 41, 3) := by decide +kernel
theorem d_Mind_meetBehind_19 : decode b_Mind_meetBehind 19 = .ok (.aload_n 0, 1) := by decide +kernel
theorem d_Mind_meetBehind_20 : decode b_Mind_meetBehind 20 = .ok (.getfield 12, 3) := by decide +kernel
theorem d_Mind_meetBehind_23 : decode b_Mind_meetBehind 23 = .ok (.getfield 33, 3) := by decide +kernel
theorem d_Mind_meetBehind_26 : decode b_Mind_meetBehind 26 = .ok (.iload_n 2, 1) := by decide +kernel
theorem d_Mind_meetBehind_27 : decode b_Mind_meetBehind 27 = .ok (.iaload, 1) := by decide +kernel
theorem d_Mind_meetBehind_28 : decode b_Mind_meetBehind 28 = .ok (.aload_n 0, 1) := by decide +kernel
theorem d_Mind_meetBehind_29 : decode b_Mind_meetBehind 29 = .ok (.getfield 12, 3) := by decide +kernel
theorem d_Mind_meetBehind_32 : decode b_Mind_meetBehind 32 = .ok (.getfield 33, 3) := by decide +kernel
theorem d_Mind_meetBehind_35 : decode b_Mind_meetBehind 35 = .ok (.iload_n 3, 1) := by decide +kernel
theorem d_Mind_meetBehind_36 : decode b_Mind_meetBehind 36 = .ok (.iaload, 1) := by decide +kernel
theorem d_Mind_meetBehind_37 : decode b_Mind_meetBehind 37 = .ok (.if_icmp .ne 6, 3) := by decide +kernel
theorem d_Mind_meetBehind_40 : decode b_Mind_meetBehind 40 = .ok (.iload 4, 2) := by decide +kernel
theorem d_Mind_meetBehind_42 : decode b_Mind_meetBehind 42 = .ok (.ireturn, 1) := by decide +kernel
theorem d_Mind_meetBehind_43 : decode b_Mind_meetBehind 43 = .ok (.aload_n 0, 1) := by decide +kernel
theorem d_Mind_meetBehind_44 : decode b_Mind_meetBehind 44 = .ok (.getfield 12, 3) := by decide +kernel
theorem d_Mind_meetBehind_47 : decode b_Mind_meetBehind 47 = .ok (.invokevirtual 43, 3) := by decide +kernel
theorem d_Mind_meetBehind_50 : decode b_Mind_meetBehind 50 = .ok (.pop, 1) := by decide +kernel
theorem d_Mind_meetBehind_51 : decode b_Mind_meetBehind 51 = .ok (.iinc 4 1, 3) := by decide +kernel
theorem d_Mind_meetBehind_54 : decode b_Mind_meetBehind 54 = .ok (.goto (-43), 3) := by decide +kernel
theorem d_Mind_meetBehind_57 : decode b_Mind_meetBehind 57 = .ok (.bipush (-9), 2) := by decide +kernel
theorem d_Mind_meetBehind_59 : decode b_Mind_meetBehind 59 = .ok (.ireturn, 1) := by decide +kernel
set_option maxHeartbeats 4000000 in
set_option maxRecDepth 100000 in
theorem c_Mind_meetBehind {l : Launch} {D : va_G} {cI cJ cC : ClassId} (a_h a_h_one a_h_two a_h_one_kinds a_h_one_sweets a_h_one_settings a_h_one_heaps a_g1 a_g1_kinds a_g1_sweets a_g1_settings a_g1_heaps : Nat) (y_h_seed : Int32) {z_h_one : RS} {z_g1 : RS} {x2 : Int32} {x3 : Int32} {q : Int32 × RS} (hf : f_Mind_meetBehind z_h_one z_g1 x2 x3 = some q) : xI l y_Mind_meetBehind b_Mind_meetBehind 5 .int 4 89 D (tyK cI cJ cC) xE0 [.ref a_h, .ref a_g1, .int x2, .int x3] (w_Mind_meetBehind cI cJ cC a_h a_h_one a_h_two a_h_one_kinds a_h_one_sweets a_h_one_settings a_h_one_heaps a_g1 a_g1_kinds a_g1_sweets a_g1_settings a_g1_heaps y_h_seed (r_children z_h_one) (r_strokes z_h_one) (r_gave z_h_one) (r_threw z_h_one) (r_kinds z_h_one) (r_sweets z_h_one) (r_settings z_h_one) (r_heaps z_h_one) (r_children z_g1) (r_strokes z_g1) (r_gave z_g1) (r_threw z_g1) (r_kinds z_g1) (r_sweets z_g1) (r_settings z_g1)) q.1 (w_Mind_meetBehind cI cJ cC a_h a_h_one a_h_two a_h_one_kinds a_h_one_sweets a_h_one_settings a_h_one_heaps a_g1 a_g1_kinds a_g1_sweets a_g1_settings a_g1_heaps y_h_seed (r_children q.2) (r_strokes q.2) (r_gave q.2) (r_threw q.2) (r_kinds q.2) (r_sweets q.2) (r_settings q.2) (r_heaps q.2) (r_children z_g1) (r_strokes z_g1) (r_gave z_g1) (r_threw z_g1) (r_kinds z_g1) (r_sweets z_g1) (r_settings z_g1)) := by
  refine xI_of (by decide) (Nat.le_of_ble_eq_true rfl) ?_
  intro p e s m args below meth c A Q hx hb hml hown hT hA hP hD hK hS hE hret ls hl
  have hown : s.vm.findClass R_Mind = some m.cls := hown
  have hl : lv_has ls 5 [(0, .ref a_h), (1, .ref a_g1), (2, .int x2), (3, .int x3)] := hl
  unfold f_Mind_meetBehind at hf
  have L11 : ∀ (n : Nat) (z_h_one : RS) (x4 : Int32) (H : Heap) (locs : List Loc) (ls : Array Slot), f_Mind_meetBehind_L11 x2 x3 n z_h_one x4 = some q → va_P D classes (w_Mind_meetBehind cI cJ cC a_h a_h_one a_h_two a_h_one_kinds a_h_one_sweets a_h_one_settings a_h_one_heaps a_g1 a_g1_kinds a_g1_sweets a_g1_settings a_g1_heaps y_h_seed (r_children z_h_one) (r_strokes z_h_one) (r_gave z_h_one) (r_threw z_h_one) (r_kinds z_h_one) (r_sweets z_h_one) (r_settings z_h_one) (r_heaps z_h_one) (r_children z_g1) (r_strokes z_g1) (r_gave z_g1) (r_threw z_g1) (r_kinds z_g1) (r_sweets z_g1) (r_settings z_g1)) H → va_D A (w_Mind_meetBehind cI cJ cC a_h a_h_one a_h_two a_h_one_kinds a_h_one_sweets a_h_one_settings a_h_one_heaps a_g1 a_g1_kinds a_g1_sweets a_g1_settings a_g1_heaps y_h_seed (r_children z_h_one) (r_strokes z_h_one) (r_gave z_h_one) (r_threw z_h_one) (r_kinds z_h_one) (r_sweets z_h_one) (r_settings z_h_one) (r_heaps z_h_one) (r_children z_g1) (r_strokes z_g1) (r_gave z_g1) (r_threw z_g1) (r_kinds z_g1) (r_sweets z_g1) (r_settings z_g1)) → va_S A s.heap H locs → lv_has ls 5 [(0, .ref a_h), (2, .int x2), (3, .int x3), (4, .int x4)] → W p l e (xRm 4 89) s m args below meth c H locs 0 0 Q (F0 m 11 ls []) := by
    intro n
    induction n with
    | zero => intro z_h_one x4 H locs ls hf hP hD hS hl; exact nomatch (show (none : Option (Int32 × RS)) = some q from hf)
    | succ n ih =>
      intro z_h_one x4 H locs ls hf hP hD hS hl
      refine lv_iload hx hb d_Mind_meetBehind_11 (lv_at hl 3 rfl) ?_
      refine lv_sipush (v := 200) hx hb d_Mind_meetBehind_13 (by decide) ?_
      refine lv_icmp_gt (tgt := 57) hx hb d_Mind_meetBehind_16 (by decide) (fun c2 => ?_) (fun c2 => ?_)
      · have hf := io_t hf c2
        refine lv_bipush (v := (-9)) hx hb d_Mind_meetBehind_57 (by decide) ?_
        have hq := Option.some.inj hf
        subst hq
        exact hret _ _ _ _ _ d_Mind_meetBehind_59 rfl rfl hP hD hS
      · have hf := io_f hf c2
        refine lv_aload_n hx hb d_Mind_meetBehind_19 rfl (lv_at hl 0 rfl) ?_
        refine va_get hx hb hT i_Mind hown hK hP 0 rfl rfl 0 (Nat.le_of_ble_eq_true rfl) (hT _ k_96) (fun _ h => h) rfl d_Mind_meetBehind_20 ?_
        refine va_get hx hb hT i_Ring hown hK hP 1 rfl rfl 1 (Nat.le_of_ble_eq_true rfl) (hT _ k_32) (fun _ h => h) rfl d_Mind_meetBehind_23 ?_
        refine lv_iload_n hx hb d_Mind_meetBehind_26 rfl (lv_at hl 1 rfl) ?_
        obtain ⟨c3, hf⟩ := io_n hf
        refine x_iald hx hb hK hP 3 0 rfl rfl (j := x2.toNatClampNeg) rfl c3 d_Mind_meetBehind_27 ?_
        refine lv_aload_n hx hb d_Mind_meetBehind_28 rfl (lv_at hl 0 rfl) ?_
        refine va_get hx hb hT i_Mind hown hK hP 0 rfl rfl 0 (Nat.le_of_ble_eq_true rfl) (hT _ k_96) (fun _ h => h) rfl d_Mind_meetBehind_29 ?_
        refine va_get hx hb hT i_Ring hown hK hP 1 rfl rfl 1 (Nat.le_of_ble_eq_true rfl) (hT _ k_32) (fun _ h => h) rfl d_Mind_meetBehind_32 ?_
        refine lv_iload_n hx hb d_Mind_meetBehind_35 rfl (lv_at hl 2 rfl) ?_
        obtain ⟨c4, hf⟩ := io_n hf
        refine x_iald hx hb hK hP 3 0 rfl rfl (j := x3.toNatClampNeg) rfl c4 d_Mind_meetBehind_36 ?_
        refine lv_icmp_ne (tgt := 43) hx hb d_Mind_meetBehind_37 (by decide) (fun c5 => ?_) (fun c5 => ?_)
        · have hf := io_f hf c5
          refine lv_aload_n hx hb d_Mind_meetBehind_43 rfl (lv_at hl 0 rfl) ?_
          refine va_get hx hb hT i_Mind hown hK hP 0 rfl rfl 0 (Nat.le_of_ble_eq_true rfl) (hT _ k_96) (fun _ h => h) rfl d_Mind_meetBehind_44 ?_
          obtain ⟨q6, hq6, hf⟩ := io_b hf
          refine xcVI (wc := (w_Ring_strike cI cJ cC a_h_one a_h_one_kinds a_h_one_sweets a_h_one_settings a_h_one_heaps (r_children z_h_one) (r_strokes z_h_one) (r_gave z_h_one) (r_threw z_h_one) (r_kinds z_h_one) (r_sweets z_h_one) (r_settings z_h_one) (r_heaps z_h_one))) (wc' := (w_Ring_strike cI cJ cC a_h_one a_h_one_kinds a_h_one_sweets a_h_one_settings a_h_one_heaps (r_children q6.2) (r_strokes q6.2) (r_gave q6.2) (r_threw q6.2) (r_kinds q6.2) (r_sweets q6.2) (r_settings q6.2) (r_heaps q6.2))) (ws' := (w_Mind_meetBehind cI cJ cC a_h a_h_one a_h_two a_h_one_kinds a_h_one_sweets a_h_one_settings a_h_one_heaps a_g1 a_g1_kinds a_g1_sweets a_g1_settings a_g1_heaps y_h_seed (r_children q6.2) (r_strokes q6.2) (r_gave q6.2) (r_threw q6.2) (r_kinds q6.2) (r_sweets q6.2) (r_settings q6.2) (r_heaps q6.2) (r_children z_g1) (r_strokes z_g1) (r_gave z_g1) (r_threw z_g1) (r_kinds z_g1) (r_sweets z_g1) (r_settings z_g1))) (As := []) (rest := []) hx hb hml hown hT (c_Ring_strike (z_h := z_h_one) a_h_one a_h_one_kinds a_h_one_sweets a_h_one_settings a_h_one_heaps hq6) k_284 k_220 k_221 k_2 k_222 hd_Ring_strike ⟨Nat.le_of_ble_eq_true rfl, Nat.le_of_ble_eq_true rfl⟩ xE0_ok trivial hA hK hP hD hS [1, 2, 3, 4, 5] [0, 6, 7, 8, 9] [0, 5, 6, 7, 8, 9, 1, 2, 3, 4] rfl rfl rfl rfl rfl rfl rfl rfl rfl rfl hl.1 rfl (Nat.le_of_ble_eq_true rfl) ⟨Nat.zero_le _, Nat.zero_le _⟩ d_Mind_meetBehind_47 (fun H locs hP hD hS => ?_)
          refine lv_pop hx hb d_Mind_meetBehind_50 rfl ?_
          refine lv_iinc (v := (x4 + 1)) (lv' := [(4, .int (x4 + 1)), (0, .ref a_h), (2, .int x2), (3, .int x3)]) hx hb d_Mind_meetBehind_51 hl (k := 3) rfl (by rfl) (by decide) rfl (fun ls hl => ?_)
          refine lv_goto (tgt := 11) hx hb d_Mind_meetBehind_54 (by decide) ?_
          exact ih q6.2 (x4 + 1) _ _ _ hf hP hD hS (lv_sub hl [1, 2, 3, 0] rfl)
        · have hf := io_t hf c5
          refine lv_iload hx hb d_Mind_meetBehind_40 (lv_at hl 3 rfl) ?_
          have hq := Option.some.inj hf
          subst hq
          exact hret _ _ _ _ _ d_Mind_meetBehind_42 rfl rfl hP hD hS
  refine lv_aload_n hx hb d_Mind_meetBehind_0 rfl (lv_at hl 0 rfl) ?_
  refine va_get hx hb hT i_Mind hown hK hP 0 rfl rfl 0 (Nat.le_of_ble_eq_true rfl) (hT _ k_96) (fun _ h => h) rfl d_Mind_meetBehind_1 ?_
  refine lv_aload_n hx hb d_Mind_meetBehind_4 rfl (lv_at hl 1 rfl) ?_
  obtain ⟨q1, hq1, hf⟩ := io_b hf
  refine xcVV (wc := (w_Ring_copyFrom cI cJ cC a_h_one a_h_one_kinds a_h_one_sweets a_h_one_settings a_h_one_heaps a_g1 a_g1_kinds a_g1_sweets a_g1_settings a_g1_heaps (r_children z_h_one) (r_strokes z_h_one) (r_gave z_h_one) (r_threw z_h_one) (r_kinds z_h_one) (r_sweets z_h_one) (r_settings z_h_one) (r_heaps z_h_one) (r_children z_g1) (r_strokes z_g1) (r_gave z_g1) (r_threw z_g1) (r_kinds z_g1) (r_sweets z_g1) (r_settings z_g1))) (wc' := (w_Ring_copyFrom cI cJ cC a_h_one a_h_one_kinds a_h_one_sweets a_h_one_settings a_h_one_heaps a_g1 a_g1_kinds a_g1_sweets a_g1_settings a_g1_heaps (r_children q1) (r_strokes q1) (r_gave q1) (r_threw q1) (r_kinds q1) (r_sweets q1) (r_settings q1) (r_heaps q1) (r_children z_g1) (r_strokes z_g1) (r_gave z_g1) (r_threw z_g1) (r_kinds z_g1) (r_sweets z_g1) (r_settings z_g1))) (ws' := (w_Mind_meetBehind cI cJ cC a_h a_h_one a_h_two a_h_one_kinds a_h_one_sweets a_h_one_settings a_h_one_heaps a_g1 a_g1_kinds a_g1_sweets a_g1_settings a_g1_heaps y_h_seed (r_children q1) (r_strokes q1) (r_gave q1) (r_threw q1) (r_kinds q1) (r_sweets q1) (r_settings q1) (r_heaps q1) (r_children z_g1) (r_strokes z_g1) (r_gave z_g1) (r_threw z_g1) (r_kinds z_g1) (r_sweets z_g1) (r_settings z_g1))) (As := [.ref a_g1]) (rest := []) hx hb hml hown hT (c_Ring_copyFrom (z_h := z_h_one) (z_g1 := z_g1) a_h_one a_h_one_kinds a_h_one_sweets a_h_one_settings a_h_one_heaps a_g1 a_g1_kinds a_g1_sweets a_g1_settings a_g1_heaps hq1) k_252 k_253 k_254 k_2 k_255 hd_Ring_copyFrom ⟨Nat.le_of_ble_eq_true rfl, Nat.le_of_ble_eq_true rfl⟩ xE0_ok trivial hA hK hP hD hS [1, 2, 3, 4, 5, 6, 7, 8, 9] [0] [0, 1, 2, 3, 4, 5, 6, 7, 8, 9] rfl rfl rfl rfl rfl rfl rfl rfl rfl rfl hl.1 rfl (Nat.le_of_ble_eq_true rfl) ⟨Nat.zero_le _, Nat.zero_le _⟩ d_Mind_meetBehind_5 (fun H locs hP hD hS => ?_)
  refine lv_iconst (v := 0) hx hb d_Mind_meetBehind_8 (by decide) ?_
  refine lv_istore (lv' := [(4, .int 0), (0, .ref a_h), (1, .ref a_g1), (2, .int x2), (3, .int x3)]) hx hb d_Mind_meetBehind_9 hl (by decide) rfl (fun ls hl => ?_)
  exact L11 FU q1 0 _ _ _ hf hP hD hS (lv_sub hl [1, 3, 4, 0] rfl)
end
section
/-! Contracts: Small. Printed by wip/whole/gen. -/
abbrev w_Crumbs_begin (cI cJ cC : ClassId) (a_h a_h_have a_h_next a_g1 a_g1_kinds a_g1_sweets a_g1_settings a_g1_heaps : Nat) (p_h_doublings : Int32) (p_h_have : (Nat → Int64)) (p_g1_children : Int32) (p_g1_strokes : Int32) (p_g1_gave : Int32) (p_g1_threw : Int32) (p_g1_sweets : (Nat → Int32)) : va_W := [(a_h, .inr (4, [.ref a_h_have, .ref a_h_next, .int p_h_doublings])), (a_h_have, .inl (cJ, (8, .inr (.inl p_h_have)))), (a_g1, .inr (1, [.ref a_g1_kinds, .ref a_g1_sweets, .ref a_g1_settings, .int p_g1_children, .int p_g1_strokes, .int p_g1_gave, .int p_g1_threw, .ref a_g1_heaps])), (a_g1_sweets, .inl (cI, (8, .inl p_g1_sweets)))]
theorem d_Crumbs_begin_0 : decode b_Crumbs_begin 0 = .ok (.aload_n 0, 1) := by decide +kernel
theorem d_Crumbs_begin_1 : decode b_Crumbs_begin 1 = .ok (.iconst 0, 1) := by decide +kernel
theorem d_Crumbs_begin_2 : decode b_Crumbs_begin 2 = .ok (.putfield 18, 3) := by decide +kernel
theorem d_Crumbs_begin_5 : decode b_Crumbs_begin 5 = .ok (.iconst 0, 1) := by decide +kernel
theorem d_Crumbs_begin_6 : decode b_Crumbs_begin 6 = .ok (.istore_n 2, 1) := by decide +kernel
theorem d_Crumbs_begin_7 : decode b_Crumbs_begin 7 = .ok (.iload_n 2, 1) := by decide +kernel
theorem d_Crumbs_begin_8 : decode b_Crumbs_begin 8 = .ok (.aload_n 1, 1) := by decide +kernel
theorem d_Crumbs_begin_9 : decode b_Crumbs_begin 9 = .ok (.getfield 29, 3) := by decide +kernel
theorem d_Crumbs_begin_12 : decode b_Crumbs_begin 12 = .ok (.if_icmp .ge 22, 3) := by decide +kernel
theorem d_Crumbs_begin_15 : decode b_Crumbs_begin 15 = .ok (.aload_n 0, 1) := by decide +kernel
theorem d_Crumbs_begin_16 : decode b_Crumbs_begin 16 = .ok (.getfield 9, 3) := by decide +kernel
theorem d_Crumbs_begin_19 : decode b_Crumbs_begin 19 = .ok (.iload_n 2, 1) := by decide +kernel
theorem d_Crumbs_begin_20 : decode b_Crumbs_begin 20 = .ok (.aload_n 1, 1) := by decide +kernel
theorem d_Crumbs_begin_21 : decode b_Crumbs_begin 21 = .ok (.getfield 34, 3) := by decide +kernel
theorem d_Crumbs_begin_24 : decode b_Crumbs_begin 24 = .ok (.iload_n 2, 1) := by decide +kernel
theorem d_Crumbs_begin_25 : decode b_Crumbs_begin 25 = .ok (.iaload, 1) := by decide +kernel
theorem d_Crumbs_begin_26 : decode b_Crumbs_begin 26 = .ok (.i2l, 1) := by decide +kernel
theorem d_Crumbs_begin_27 : decode b_Crumbs_begin 27 = .ok (.lastore, 1) := by decide +kernel
theorem d_Crumbs_begin_28 : decode b_Crumbs_begin 28 = .ok (.iinc 2 1, 3) := by decide +kernel
theorem d_Crumbs_begin_31 : decode b_Crumbs_begin 31 = .ok (.goto (-24), 3) := by decide +kernel
theorem d_Crumbs_begin_34 : decode b_Crumbs_begin 34 = .ok (.return_, 1) := by decide +kernel
set_option maxHeartbeats 4000000 in
set_option maxRecDepth 100000 in
theorem c_Crumbs_begin {l : Launch} {D : va_G} {cI cJ cC : ClassId} (a_h a_h_have a_h_next a_g1 a_g1_kinds a_g1_sweets a_g1_settings a_g1_heaps : Nat) {z_h_doublings : Int32} {z_h_have : (Nat → Int64)} {z_g1 : RS} {q : Int32 × (Nat → Int64)} (hf : f_Crumbs_begin z_h_doublings z_h_have z_g1 = some q) : xV l y_Crumbs_begin b_Crumbs_begin 3 0 0 D (tyK cI cJ cC) xE0 [.ref a_h, .ref a_g1] (w_Crumbs_begin cI cJ cC a_h a_h_have a_h_next a_g1 a_g1_kinds a_g1_sweets a_g1_settings a_g1_heaps z_h_doublings z_h_have (r_children z_g1) (r_strokes z_g1) (r_gave z_g1) (r_threw z_g1) (r_sweets z_g1)) (w_Crumbs_begin cI cJ cC a_h a_h_have a_h_next a_g1 a_g1_kinds a_g1_sweets a_g1_settings a_g1_heaps q.1 q.2 (r_children z_g1) (r_strokes z_g1) (r_gave z_g1) (r_threw z_g1) (r_sweets z_g1)) := by
  refine xV_of (by decide) (Nat.le_of_ble_eq_true rfl) ?_
  intro p e s m args below meth c A Q hx hb hml hown hT hA hP hD hK hS hE hret ls hl
  have hown : s.vm.findClass R_Crumbs = some m.cls := hown
  have hl : lv_has ls 3 [(0, .ref a_h), (1, .ref a_g1)] := hl
  unfold f_Crumbs_begin at hf
  have L7 : ∀ (z_h_doublings : Int32), ∀ (n : Nat) (z_h_have : (Nat → Int64)) (x2 : Int32) (H : Heap) (locs : List Loc) (ls : Array Slot), f_Crumbs_begin_L7 z_h_doublings z_g1 n z_h_have x2 = some q → va_P D classes (w_Crumbs_begin cI cJ cC a_h a_h_have a_h_next a_g1 a_g1_kinds a_g1_sweets a_g1_settings a_g1_heaps z_h_doublings z_h_have (r_children z_g1) (r_strokes z_g1) (r_gave z_g1) (r_threw z_g1) (r_sweets z_g1)) H → va_D A (w_Crumbs_begin cI cJ cC a_h a_h_have a_h_next a_g1 a_g1_kinds a_g1_sweets a_g1_settings a_g1_heaps z_h_doublings z_h_have (r_children z_g1) (r_strokes z_g1) (r_gave z_g1) (r_threw z_g1) (r_sweets z_g1)) → va_S A s.heap H locs → lv_has ls 3 [(0, .ref a_h), (1, .ref a_g1), (2, .int x2)] → W p l e (xRm 0 0) s m args below meth c H locs 0 0 Q (F0 m 7 ls []) := by
    intro z_h_doublings n
    induction n with
    | zero => intro z_h_have x2 H locs ls hf hP hD hS hl; exact nomatch (show (none : Option (Int32 × (Nat → Int64))) = some q from hf)
    | succ n ih =>
      intro z_h_have x2 H locs ls hf hP hD hS hl
      refine lv_iload_n hx hb d_Crumbs_begin_7 rfl (lv_at hl 2 rfl) ?_
      refine lv_aload_n hx hb d_Crumbs_begin_8 rfl (lv_at hl 1 rfl) ?_
      refine va_get hx hb hT i_Ring hown hK hP 2 rfl rfl 3 (Nat.le_of_ble_eq_true rfl) (hT _ k_39) (fun _ h => h) rfl d_Crumbs_begin_9 ?_
      refine lv_icmp_ge (tgt := 34) hx hb d_Crumbs_begin_12 (by decide) (fun c1 => ?_) (fun c1 => ?_)
      · have hf := io_t hf c1
        have hq := Option.some.inj hf
        subst hq
        exact hret _ _ _ _ d_Crumbs_begin_34 hP hD hS
      · have hf := io_f hf c1
        refine lv_aload_n hx hb d_Crumbs_begin_15 rfl (lv_at hl 0 rfl) ?_
        refine va_get hx hb hT i_Crumbs hown hK hP 0 rfl rfl 0 (Nat.le_of_ble_eq_true rfl) (hT _ k_112) (fun _ h => h) rfl d_Crumbs_begin_16 ?_
        refine lv_iload_n hx hb d_Crumbs_begin_19 rfl (lv_at hl 2 rfl) ?_
        refine lv_aload_n hx hb d_Crumbs_begin_20 rfl (lv_at hl 1 rfl) ?_
        refine va_get hx hb hT i_Ring hown hK hP 2 rfl rfl 1 (Nat.le_of_ble_eq_true rfl) (hT _ k_33) (fun _ h => h) rfl d_Crumbs_begin_21 ?_
        refine lv_iload_n hx hb d_Crumbs_begin_24 rfl (lv_at hl 2 rfl) ?_
        obtain ⟨c2, hf⟩ := io_n hf
        refine x_iald hx hb hK hP 3 0 rfl rfl (j := x2.toNatClampNeg) rfl c2 d_Crumbs_begin_25 ?_
        refine lv_i2l (v := (((r_sweets z_g1) x2.toNatClampNeg).toInt64)) hx hb d_Crumbs_begin_26 rfl ?_
        refine x_last hx hb hK hP hD hS 1 1 rfl rfl (j := x2.toNatClampNeg) rfl c2 d_Crumbs_begin_27 (fun H locs hP hD hS => ?_)
        have hP : va_P D classes (w_Crumbs_begin cI cJ cC a_h a_h_have a_h_next a_g1 a_g1_kinds a_g1_sweets a_g1_settings a_g1_heaps z_h_doublings (vp_updL z_h_have x2.toNatClampNeg (((r_sweets z_g1) x2.toNatClampNeg).toInt64)) (r_children z_g1) (r_strokes z_g1) (r_gave z_g1) (r_threw z_g1) (r_sweets z_g1)) H := hP
        have hD : va_D A (w_Crumbs_begin cI cJ cC a_h a_h_have a_h_next a_g1 a_g1_kinds a_g1_sweets a_g1_settings a_g1_heaps z_h_doublings (vp_updL z_h_have x2.toNatClampNeg (((r_sweets z_g1) x2.toNatClampNeg).toInt64)) (r_children z_g1) (r_strokes z_g1) (r_gave z_g1) (r_threw z_g1) (r_sweets z_g1)) := hD
        refine lv_iinc (v := (x2 + 1)) (lv' := [(2, .int (x2 + 1)), (0, .ref a_h), (1, .ref a_g1)]) hx hb d_Crumbs_begin_28 hl (k := 2) rfl (by rfl) (by decide) rfl (fun ls hl => ?_)
        refine lv_goto (tgt := 7) hx hb d_Crumbs_begin_31 (by decide) ?_
        exact ih (vp_updL z_h_have x2.toNatClampNeg (((r_sweets z_g1) x2.toNatClampNeg).toInt64)) (x2 + 1) _ _ _ hf hP hD hS (lv_sub hl [1, 2, 0] rfl)
  refine lv_aload_n hx hb d_Crumbs_begin_0 rfl (lv_at hl 0 rfl) ?_
  refine lv_iconst (v := 0) hx hb d_Crumbs_begin_1 (by decide) ?_
  refine va_put (ty := .int) hx hb hT i_Crumbs t_Crumbs t_Crumbs_ok n_Crumbs hown hK hP hD hS 0 rfl rfl 2 (Nat.le_of_ble_eq_true rfl) (hT _ k_114) (fun _ h => h) rfl rfl rfl rfl (Nat.le_of_ble_eq_true rfl) d_Crumbs_begin_2 (fun H locs hP hD hS => ?_)
  have hP : va_P D classes (w_Crumbs_begin cI cJ cC a_h a_h_have a_h_next a_g1 a_g1_kinds a_g1_sweets a_g1_settings a_g1_heaps 0 z_h_have (r_children z_g1) (r_strokes z_g1) (r_gave z_g1) (r_threw z_g1) (r_sweets z_g1)) H := hP
  have hD : va_D A (w_Crumbs_begin cI cJ cC a_h a_h_have a_h_next a_g1 a_g1_kinds a_g1_sweets a_g1_settings a_g1_heaps 0 z_h_have (r_children z_g1) (r_strokes z_g1) (r_gave z_g1) (r_threw z_g1) (r_sweets z_g1)) := hD
  refine lv_iconst (v := 0) hx hb d_Crumbs_begin_5 (by decide) ?_
  refine lv_istore_n (lv' := [(2, .int 0), (0, .ref a_h), (1, .ref a_g1)]) hx hb d_Crumbs_begin_6 rfl hl (by decide) rfl (fun ls hl => ?_)
  exact L7 0 FU z_h_have 0 _ _ _ hf hP hD hS (lv_sub hl [1, 2, 0] rfl)
abbrev w_Crumbs_advance (cI cJ cC : ClassId) (a_h a_h_have a_h_next a_g1 a_g1_kinds a_g1_sweets a_g1_settings a_g1_heaps : Nat) (p_h_doublings : Int32) (p_h_have : (Nat → Int64)) (p_h_next : (Nat → Int64)) (p_g1_children : Int32) (p_g1_strokes : Int32) (p_g1_gave : Int32) (p_g1_threw : Int32) (p_g1_settings : (Nat → Int32)) : va_W := [(a_h, .inr (4, [.ref a_h_have, .ref a_h_next, .int p_h_doublings])), (a_h_have, .inl (cJ, (8, .inr (.inl p_h_have)))), (a_h_next, .inl (cJ, (8, .inr (.inl p_h_next)))), (a_g1, .inr (1, [.ref a_g1_kinds, .ref a_g1_sweets, .ref a_g1_settings, .int p_g1_children, .int p_g1_strokes, .int p_g1_gave, .int p_g1_threw, .ref a_g1_heaps])), (a_g1_settings, .inl (cI, (3, .inl p_g1_settings)))]
theorem d_Crumbs_advance_0 : decode b_Crumbs_advance 0 = .ok (.iconst 0, 1) := by decide +kernel
theorem d_Crumbs_advance_1 : decode b_Crumbs_advance 1 = .ok (.istore_n 2, 1) := by decide +kernel
theorem d_Crumbs_advance_2 : decode b_Crumbs_advance 2 = .ok (.iload_n 2, 1) := by decide +kernel
theorem d_Crumbs_advance_3 : decode b_Crumbs_advance 3 = .ok (.aload_n 1, 1) := by decide +kernel
theorem d_Crumbs_advance_4 : decode b_Crumbs_advance 4 = .ok (.getfield 29, 3) := by decide +kernel
theorem d_Crumbs_advance_7 : decode b_Crumbs_advance 7 = .ok (.if_icmp .ge 32, 3) := by decide +kernel
theorem d_Crumbs_advance_10 : decode b_Crumbs_advance 10 = .ok (.aload_n 0, 1) := by decide +kernel
theorem d_Crumbs_advance_11 : decode b_Crumbs_advance 11 = .ok (.getfield 15, 3) := by decide +kernel
theorem d_Crumbs_advance_14 : decode b_Crumbs_advance 14 = .ok (.iload_n 2, 1) := by decide +kernel
theorem d_Crumbs_advance_15 : decode b_Crumbs_advance 15 = .ok (.aload_n 0, 1) := by decide +kernel
theorem d_Crumbs_advance_16 : decode b_Crumbs_advance 16 = .ok (.getfield 9, 3) := by decide +kernel
theorem d_Crumbs_advance_19 : decode b_Crumbs_advance 19 = .ok (.iload_n 2, 1) := by decide +kernel
theorem d_Crumbs_advance_20 : decode b_Crumbs_advance 20 = .ok (.laload, 1) := by decide +kernel
theorem d_Crumbs_advance_21 : decode b_Crumbs_advance 21 = .ok (.aload_n 0, 1) := by decide +kernel
theorem d_Crumbs_advance_22 : decode b_Crumbs_advance 22 = .ok (.getfield 9, 3) := by decide +kernel
theorem d_Crumbs_advance_25 : decode b_Crumbs_advance 25 = .ok (.aload_n 1, 1) := by decide +kernel
theorem d_Crumbs_advance_26 : decode b_Crumbs_advance 26 = .ok (.iload_n 2, 1) := by decide +kernel
theorem d_Crumbs_advance_27 : decode b_Crumbs_advance 27 = .ok (.invokevirtual 38, 3) := by decide +kernel
theorem d_Crumbs_advance_30 : decode b_Crumbs_advance 30 = .ok (.laload, 1) := by decide +kernel
theorem d_Crumbs_advance_31 : decode b_Crumbs_advance 31 = .ok (.ladd, 1) := by decide +kernel
theorem d_Crumbs_advance_32 : decode b_Crumbs_advance 32 = .ok (.lastore, 1) := by decide +kernel
theorem d_Crumbs_advance_33 : decode b_Crumbs_advance 33 = .ok (.iinc 2 1, 3) := by decide +kernel
theorem d_Crumbs_advance_36 : decode b_Crumbs_advance 36 = .ok (.goto (-34), 3) := by decide +kernel
theorem d_Crumbs_advance_39 : decode b_Crumbs_advance 39 = .ok (.aload_n 0, 1) := by decide +kernel
theorem d_Crumbs_advance_40 : decode b_Crumbs_advance 40 = .ok (.getfield 15, 3) := by decide +kernel
theorem d_Crumbs_advance_43 : decode b_Crumbs_advance 43 = .ok (.iconst 0, 1) := by decide +kernel
theorem d_Crumbs_advance_44 : decode b_Crumbs_advance 44 = .ok (.aload_n 0, 1) := by decide +kernel
theorem d_Crumbs_advance_45 : decode b_Crumbs_advance 45 = .ok (.getfield 9, 3) := by decide +kernel
theorem d_Crumbs_advance_48 : decode b_Crumbs_advance 48 = .ok (.iconst 0, 1) := by decide +kernel
theorem d_Crumbs_advance_49 : decode b_Crumbs_advance 49 = .ok (.bipush 8, 2) := by decide +kernel
theorem d_Crumbs_advance_51 : decode b_Crumbs_advance 51 = .ok (.invokestatic 42, 3) := by decide +kernel
theorem d_Crumbs_advance_54 : decode b_Crumbs_advance 54 = .ok (.aload_n 0, 1) := by decide +kernel
theorem d_Crumbs_advance_55 : decode b_Crumbs_advance 55 = .ok (.dup, 1) := by decide +kernel
theorem d_Crumbs_advance_56 : decode b_Crumbs_advance 56 = .ok (.getfield 18, 3) := by decide +kernel
theorem d_Crumbs_advance_59 : decode b_Crumbs_advance 59 = .ok (.iconst 1, 1) := by decide +kernel
theorem d_Crumbs_advance_60 : decode b_Crumbs_advance 60 = .ok (.iadd, 1) := by decide +kernel
theorem d_Crumbs_advance_61 : decode b_Crumbs_advance 61 = .ok (.putfield 18, 3) := by decide +kernel
theorem d_Crumbs_advance_64 : decode b_Crumbs_advance 64 = .ok (.return_, 1) := by decide +kernel
set_option maxHeartbeats 4000000 in
set_option maxRecDepth 100000 in
theorem c_Crumbs_advance {l : Launch} {D : va_G} {cI cJ cC : ClassId} (a_h a_h_have a_h_next a_g1 a_g1_kinds a_g1_sweets a_g1_settings a_g1_heaps : Nat) {z_h_doublings : Int32} {z_h_have : (Nat → Int64)} {z_h_next : (Nat → Int64)} {z_g1 : RS} {q : Int32 × (Nat → Int64) × (Nat → Int64)} (hf : f_Crumbs_advance z_h_doublings z_h_have z_h_next z_g1 = some q) : xV l y_Crumbs_advance b_Crumbs_advance 3 1 40 D (tyK cI cJ cC) xE0 [.ref a_h, .ref a_g1] (w_Crumbs_advance cI cJ cC a_h a_h_have a_h_next a_g1 a_g1_kinds a_g1_sweets a_g1_settings a_g1_heaps z_h_doublings z_h_have z_h_next (r_children z_g1) (r_strokes z_g1) (r_gave z_g1) (r_threw z_g1) (r_settings z_g1)) (w_Crumbs_advance cI cJ cC a_h a_h_have a_h_next a_g1 a_g1_kinds a_g1_sweets a_g1_settings a_g1_heaps q.1 q.2.1 q.2.2 (r_children z_g1) (r_strokes z_g1) (r_gave z_g1) (r_threw z_g1) (r_settings z_g1)) := by
  refine xV_of (by decide) (Nat.le_of_ble_eq_true rfl) ?_
  intro p e s m args below meth c A Q hx hb hml hown hT hA hP hD hK hS hE hret ls hl
  have hown : s.vm.findClass R_Crumbs = some m.cls := hown
  have hl : lv_has ls 3 [(0, .ref a_h), (1, .ref a_g1)] := hl
  unfold f_Crumbs_advance at hf
  have L2 : ∀ (z_h_doublings : Int32) (z_h_have : (Nat → Int64)) (k : (Nat → Int64) → Option (Int32 × (Nat → Int64) × (Nat → Int64))), (∀ (z_h_next : (Nat → Int64)) (H : Heap) (locs : List Loc) (ls : Array Slot), k z_h_next = some q → va_P D classes (w_Crumbs_advance cI cJ cC a_h a_h_have a_h_next a_g1 a_g1_kinds a_g1_sweets a_g1_settings a_g1_heaps z_h_doublings z_h_have z_h_next (r_children z_g1) (r_strokes z_g1) (r_gave z_g1) (r_threw z_g1) (r_settings z_g1)) H → va_D A (w_Crumbs_advance cI cJ cC a_h a_h_have a_h_next a_g1 a_g1_kinds a_g1_sweets a_g1_settings a_g1_heaps z_h_doublings z_h_have z_h_next (r_children z_g1) (r_strokes z_g1) (r_gave z_g1) (r_threw z_g1) (r_settings z_g1)) → va_S A s.heap H locs → lv_has ls 3 [(0, .ref a_h)] → W p l e (xRm 1 40) s m args below meth c H locs 0 0 Q (F0 m 39 ls [])) → ∀ (n : Nat) (z_h_next : (Nat → Int64)) (x2 : Int32) (H : Heap) (locs : List Loc) (ls : Array Slot), f_Crumbs_advance_L2 z_h_have z_g1 k n z_h_next x2 = some q → va_P D classes (w_Crumbs_advance cI cJ cC a_h a_h_have a_h_next a_g1 a_g1_kinds a_g1_sweets a_g1_settings a_g1_heaps z_h_doublings z_h_have z_h_next (r_children z_g1) (r_strokes z_g1) (r_gave z_g1) (r_threw z_g1) (r_settings z_g1)) H → va_D A (w_Crumbs_advance cI cJ cC a_h a_h_have a_h_next a_g1 a_g1_kinds a_g1_sweets a_g1_settings a_g1_heaps z_h_doublings z_h_have z_h_next (r_children z_g1) (r_strokes z_g1) (r_gave z_g1) (r_threw z_g1) (r_settings z_g1)) → va_S A s.heap H locs → lv_has ls 3 [(0, .ref a_h), (1, .ref a_g1), (2, .int x2)] → W p l e (xRm 1 40) s m args below meth c H locs 0 0 Q (F0 m 2 ls []) := by
    intro z_h_doublings z_h_have k hk n
    induction n with
    | zero => intro z_h_next x2 H locs ls hf hP hD hS hl; exact nomatch (show (none : Option (Int32 × (Nat → Int64) × (Nat → Int64))) = some q from hf)
    | succ n ih =>
      intro z_h_next x2 H locs ls hf hP hD hS hl
      refine lv_iload_n hx hb d_Crumbs_advance_2 rfl (lv_at hl 2 rfl) ?_
      refine lv_aload_n hx hb d_Crumbs_advance_3 rfl (lv_at hl 1 rfl) ?_
      refine va_get hx hb hT i_Ring hown hK hP 3 rfl rfl 3 (Nat.le_of_ble_eq_true rfl) (hT _ k_39) (fun _ h => h) rfl d_Crumbs_advance_4 ?_
      refine lv_icmp_ge (tgt := 39) hx hb d_Crumbs_advance_7 (by decide) (fun c1 => ?_) (fun c1 => ?_)
      · have hf := io_t hf c1
        exact hk z_h_next _ _ _ hf hP hD hS (lv_sub hl [0] rfl)
      · have hf := io_f hf c1
        refine lv_aload_n hx hb d_Crumbs_advance_10 rfl (lv_at hl 0 rfl) ?_
        refine va_get hx hb hT i_Crumbs hown hK hP 0 rfl rfl 1 (Nat.le_of_ble_eq_true rfl) (hT _ k_113) (fun _ h => h) rfl d_Crumbs_advance_11 ?_
        refine lv_iload_n hx hb d_Crumbs_advance_14 rfl (lv_at hl 2 rfl) ?_
        refine lv_aload_n hx hb d_Crumbs_advance_15 rfl (lv_at hl 0 rfl) ?_
        refine va_get hx hb hT i_Crumbs hown hK hP 0 rfl rfl 0 (Nat.le_of_ble_eq_true rfl) (hT _ k_112) (fun _ h => h) rfl d_Crumbs_advance_16 ?_
        refine lv_iload_n hx hb d_Crumbs_advance_19 rfl (lv_at hl 2 rfl) ?_
        obtain ⟨c2, hf⟩ := io_n hf
        refine x_lald hx hb hK hP 1 1 rfl rfl (j := x2.toNatClampNeg) rfl c2 d_Crumbs_advance_20 ?_
        refine lv_aload_n hx hb d_Crumbs_advance_21 rfl (lv_at hl 0 rfl) ?_
        refine va_get hx hb hT i_Crumbs hown hK hP 0 rfl rfl 0 (Nat.le_of_ble_eq_true rfl) (hT _ k_112) (fun _ h => h) rfl d_Crumbs_advance_22 ?_
        refine lv_aload_n hx hb d_Crumbs_advance_25 rfl (lv_at hl 1 rfl) ?_
        refine lv_iload_n hx hb d_Crumbs_advance_26 rfl (lv_at hl 2 rfl) ?_
        obtain ⟨q3, hq3, hf⟩ := io_b hf
        refine xcVI (wc := (w_Ring_rightOf cI cJ cC a_g1 a_g1_kinds a_g1_sweets a_g1_settings a_g1_heaps (r_children z_g1) (r_strokes z_g1) (r_gave z_g1) (r_threw z_g1) (r_settings z_g1))) (wc' := (w_Ring_rightOf cI cJ cC a_g1 a_g1_kinds a_g1_sweets a_g1_settings a_g1_heaps (r_children z_g1) (r_strokes z_g1) (r_gave z_g1) (r_threw z_g1) (r_settings z_g1))) (ws' := (w_Crumbs_advance cI cJ cC a_h a_h_have a_h_next a_g1 a_g1_kinds a_g1_sweets a_g1_settings a_g1_heaps z_h_doublings z_h_have z_h_next (r_children z_g1) (r_strokes z_g1) (r_gave z_g1) (r_threw z_g1) (r_settings z_g1))) (As := [.int x2]) (rest := [.ref a_h_have, .long (z_h_have x2.toNatClampNeg), .int x2, .ref a_h_next]) hx hb hml hown hT (c_Ring_rightOf (z_h := z_g1) a_g1 a_g1_kinds a_g1_sweets a_g1_settings a_g1_heaps hq3) k_350 k_231 k_232 k_2 k_233 hd_Ring_rightOf ⟨Nat.le_of_ble_eq_true rfl, Nat.le_of_ble_eq_true rfl⟩ xE0_ok trivial hA hK hP hD hS [3, 4] [0, 1, 2] [0, 1, 2, 3, 4] rfl rfl rfl rfl rfl rfl rfl rfl rfl rfl hl.1 rfl (Nat.le_of_ble_eq_true rfl) ⟨Nat.zero_le _, Nat.zero_le _⟩ d_Crumbs_advance_27 (fun H locs hP hD hS => ?_)
        obtain ⟨c4, hf⟩ := io_n hf
        refine x_lald hx hb hK hP 1 1 rfl rfl (j := q3.toNatClampNeg) rfl c4 d_Crumbs_advance_30 ?_
        refine lv_ladd hx hb d_Crumbs_advance_31 ?_
        refine x_last hx hb hK hP hD hS 2 1 rfl rfl (j := x2.toNatClampNeg) rfl c2 d_Crumbs_advance_32 (fun H locs hP hD hS => ?_)
        have hP : va_P D classes (w_Crumbs_advance cI cJ cC a_h a_h_have a_h_next a_g1 a_g1_kinds a_g1_sweets a_g1_settings a_g1_heaps z_h_doublings z_h_have (vp_updL z_h_next x2.toNatClampNeg ((z_h_have x2.toNatClampNeg) + (z_h_have q3.toNatClampNeg))) (r_children z_g1) (r_strokes z_g1) (r_gave z_g1) (r_threw z_g1) (r_settings z_g1)) H := hP
        have hD : va_D A (w_Crumbs_advance cI cJ cC a_h a_h_have a_h_next a_g1 a_g1_kinds a_g1_sweets a_g1_settings a_g1_heaps z_h_doublings z_h_have (vp_updL z_h_next x2.toNatClampNeg ((z_h_have x2.toNatClampNeg) + (z_h_have q3.toNatClampNeg))) (r_children z_g1) (r_strokes z_g1) (r_gave z_g1) (r_threw z_g1) (r_settings z_g1)) := hD
        refine lv_iinc (v := (x2 + 1)) (lv' := [(2, .int (x2 + 1)), (0, .ref a_h), (1, .ref a_g1)]) hx hb d_Crumbs_advance_33 hl (k := 2) rfl (by rfl) (by decide) rfl (fun ls hl => ?_)
        refine lv_goto (tgt := 2) hx hb d_Crumbs_advance_36 (by decide) ?_
        exact ih (vp_updL z_h_next x2.toNatClampNeg ((z_h_have x2.toNatClampNeg) + (z_h_have q3.toNatClampNeg))) (x2 + 1) _ _ _ hf hP hD hS (lv_sub hl [1, 2, 0] rfl)
  refine lv_iconst (v := 0) hx hb d_Crumbs_advance_0 (by decide) ?_
  refine lv_istore_n (lv' := [(2, .int 0), (0, .ref a_h), (1, .ref a_g1)]) hx hb d_Crumbs_advance_1 rfl hl (by decide) rfl (fun ls hl => ?_)
  refine L2 z_h_doublings z_h_have _ (fun z_h_next_5 H locs ls hf hP hD hS hl => ?_) FU z_h_next 0 _ _ _ hf hP hD hS (lv_sub hl [1, 2, 0] rfl)
  refine lv_aload_n hx hb d_Crumbs_advance_39 rfl (lv_at hl 0 rfl) ?_
  refine va_get hx hb hT i_Crumbs hown hK hP 0 rfl rfl 1 (Nat.le_of_ble_eq_true rfl) (hT _ k_113) (fun _ h => h) rfl d_Crumbs_advance_40 ?_
  refine lv_iconst (v := 0) hx hb d_Crumbs_advance_43 (by decide) ?_
  refine lv_aload_n hx hb d_Crumbs_advance_44 rfl (lv_at hl 0 rfl) ?_
  refine va_get hx hb hT i_Crumbs hown hK hP 0 rfl rfl 0 (Nat.le_of_ble_eq_true rfl) (hT _ k_112) (fun _ h => h) rfl d_Crumbs_advance_45 ?_
  refine lv_iconst (v := 0) hx hb d_Crumbs_advance_48 (by decide) ?_
  refine lv_bipush (v := 8) hx hb d_Crumbs_advance_49 (by decide) ?_
  refine x_copyl (j := 8) hx hb (hml.trans hl.1.symm) hown (hT _ k_351) (hT _ k_229) (hT _ k_228) (hT _ k_14) hK hP hD hS 2 1 1 1 rfl rfl rfl rfl rfl (by decide) (by decide) (by decide) (by decide +kernel) (by decide +kernel) (by decide +kernel) (fun _ _ => rfl) (Nat.le_of_ble_eq_true rfl) (by decide +kernel) d_Crumbs_advance_51 (fun H locs hP hD hS => ?_)
  have hP : va_P D classes (w_Crumbs_advance cI cJ cC a_h a_h_have a_h_next a_g1 a_g1_kinds a_g1_sweets a_g1_settings a_g1_heaps z_h_doublings (va_cpy z_h_next_5 z_h_have 0 0 8) z_h_next_5 (r_children z_g1) (r_strokes z_g1) (r_gave z_g1) (r_threw z_g1) (r_settings z_g1)) H := hP
  have hD : va_D A (w_Crumbs_advance cI cJ cC a_h a_h_have a_h_next a_g1 a_g1_kinds a_g1_sweets a_g1_settings a_g1_heaps z_h_doublings (va_cpy z_h_next_5 z_h_have 0 0 8) z_h_next_5 (r_children z_g1) (r_strokes z_g1) (r_gave z_g1) (r_threw z_g1) (r_settings z_g1)) := hD
  refine lv_aload_n hx hb d_Crumbs_advance_54 rfl (lv_at hl 0 rfl) ?_
  refine lv_dup hx hb d_Crumbs_advance_55 rfl ?_
  refine va_get hx hb hT i_Crumbs hown hK hP 0 rfl rfl 2 (Nat.le_of_ble_eq_true rfl) (hT _ k_114) (fun _ h => h) rfl d_Crumbs_advance_56 ?_
  refine lv_iconst (v := 1) hx hb d_Crumbs_advance_59 (by decide) ?_
  refine lv_iadd hx hb d_Crumbs_advance_60 ?_
  refine va_put (ty := .int) hx hb hT i_Crumbs t_Crumbs t_Crumbs_ok n_Crumbs hown hK hP hD hS 0 rfl rfl 2 (Nat.le_of_ble_eq_true rfl) (hT _ k_114) (fun _ h => h) rfl rfl rfl rfl (Nat.le_of_ble_eq_true rfl) d_Crumbs_advance_61 (fun H locs hP hD hS => ?_)
  have hP : va_P D classes (w_Crumbs_advance cI cJ cC a_h a_h_have a_h_next a_g1 a_g1_kinds a_g1_sweets a_g1_settings a_g1_heaps (z_h_doublings + 1) (va_cpy z_h_next_5 z_h_have 0 0 8) z_h_next_5 (r_children z_g1) (r_strokes z_g1) (r_gave z_g1) (r_threw z_g1) (r_settings z_g1)) H := hP
  have hD : va_D A (w_Crumbs_advance cI cJ cC a_h a_h_have a_h_next a_g1 a_g1_kinds a_g1_sweets a_g1_settings a_g1_heaps (z_h_doublings + 1) (va_cpy z_h_next_5 z_h_have 0 0 8) z_h_next_5 (r_children z_g1) (r_strokes z_g1) (r_gave z_g1) (r_threw z_g1) (r_settings z_g1)) := hD
  have hq := Option.some.inj hf
  subst hq
  exact hret _ _ _ _ d_Crumbs_advance_64 hP hD hS
abbrev w_Crumbs_take (cI cJ cC : ClassId) (a_h a_h_have a_h_next a_g1 a_g1_kinds a_g1_sweets a_g1_settings a_g1_heaps : Nat) (p_h_doublings : Int32) (p_h_have : (Nat → Int64)) (p_h_next : (Nat → Int64)) (p_g1_children : Int32) (p_g1_strokes : Int32) (p_g1_gave : Int32) (p_g1_threw : Int32) (p_g1_sweets : (Nat → Int32)) (p_g1_settings : (Nat → Int32)) : va_W := [(a_h, .inr (4, [.ref a_h_have, .ref a_h_next, .int p_h_doublings])), (a_h_have, .inl (cJ, (8, .inr (.inl p_h_have)))), (a_h_next, .inl (cJ, (8, .inr (.inl p_h_next)))), (a_g1, .inr (1, [.ref a_g1_kinds, .ref a_g1_sweets, .ref a_g1_settings, .int p_g1_children, .int p_g1_strokes, .int p_g1_gave, .int p_g1_threw, .ref a_g1_heaps])), (a_g1_sweets, .inl (cI, (8, .inl p_g1_sweets))), (a_g1_settings, .inl (cI, (3, .inl p_g1_settings)))]
theorem d_Crumbs_take_0 : decode b_Crumbs_take 0 = .ok (.aload_n 0, 1) := by decide +kernel
theorem d_Crumbs_take_1 : decode b_Crumbs_take 1 = .ok (.aload_n 1, 1) := by decide +kernel
theorem d_Crumbs_take_2 : decode b_Crumbs_take 2 = .ok (.invokevirtual 22, 3) := by decide +kernel
theorem d_Crumbs_take_5 : decode b_Crumbs_take 5 = .ok (.iconst 0, 1) := by decide +kernel
theorem d_Crumbs_take_6 : decode b_Crumbs_take 6 = .ok (.istore_n 3, 1) := by decide +kernel
theorem d_Crumbs_take_7 : decode b_Crumbs_take 7 = .ok (.iload_n 3, 1) := by decide +kernel
theorem d_Crumbs_take_8 : decode b_Crumbs_take 8 = .ok (.iload_n 2, 1) := by decide +kernel
theorem d_Crumbs_take_9 : decode b_Crumbs_take 9 = .ok (.if_icmp .ge 14, 3) := by decide +kernel
theorem d_Crumbs_take_12 : decode b_Crumbs_take 12 = .ok (.aload_n 0, 1) := by decide +kernel
theorem d_Crumbs_take_13 : decode b_Crumbs_take 13 = .ok (.aload_n 1, 1) := by decide +kernel
theorem d_Crumbs_take_14 : decode b_Crumbs_take 14 = .ok (.invokevirtual 26, 3) := by decide +kernel
theorem d_Crumbs_take_17 : decode b_Crumbs_take 17 = .ok (.iinc 3 1, 3) := by decide +kernel
theorem d_Crumbs_take_20 : decode b_Crumbs_take 20 = .ok (.goto (-13), 3) := by decide +kernel
theorem d_Crumbs_take_23 : decode b_Crumbs_take 23 = .ok (.return_, 1) := by decide +kernel
set_option maxHeartbeats 4000000 in
set_option maxRecDepth 100000 in
theorem c_Crumbs_take {l : Launch} {D : va_G} {cI cJ cC : ClassId} (a_h a_h_have a_h_next a_g1 a_g1_kinds a_g1_sweets a_g1_settings a_g1_heaps : Nat) {z_h_doublings : Int32} {z_h_have : (Nat → Int64)} {z_h_next : (Nat → Int64)} {z_g1 : RS} {x2 : Int32} {q : Int32 × (Nat → Int64) × (Nat → Int64)} (hf : f_Crumbs_take z_h_doublings z_h_have z_h_next z_g1 x2 = some q) : xV l y_Crumbs_take b_Crumbs_take 4 2 62 D (tyK cI cJ cC) xE0 [.ref a_h, .ref a_g1, .int x2] (w_Crumbs_take cI cJ cC a_h a_h_have a_h_next a_g1 a_g1_kinds a_g1_sweets a_g1_settings a_g1_heaps z_h_doublings z_h_have z_h_next (r_children z_g1) (r_strokes z_g1) (r_gave z_g1) (r_threw z_g1) (r_sweets z_g1) (r_settings z_g1)) (w_Crumbs_take cI cJ cC a_h a_h_have a_h_next a_g1 a_g1_kinds a_g1_sweets a_g1_settings a_g1_heaps q.1 q.2.1 q.2.2 (r_children z_g1) (r_strokes z_g1) (r_gave z_g1) (r_threw z_g1) (r_sweets z_g1) (r_settings z_g1)) := by
  refine xV_of (by decide) (Nat.le_of_ble_eq_true rfl) ?_
  intro p e s m args below meth c A Q hx hb hml hown hT hA hP hD hK hS hE hret ls hl
  have hown : s.vm.findClass R_Crumbs = some m.cls := hown
  have hl : lv_has ls 4 [(0, .ref a_h), (1, .ref a_g1), (2, .int x2)] := hl
  unfold f_Crumbs_take at hf
  have L7 : ∀ (n : Nat) (z_h_doublings : Int32) (z_h_have : (Nat → Int64)) (z_h_next : (Nat → Int64)) (x3 : Int32) (H : Heap) (locs : List Loc) (ls : Array Slot), f_Crumbs_take_L7 z_g1 x2 n z_h_doublings z_h_have z_h_next x3 = some q → va_P D classes (w_Crumbs_take cI cJ cC a_h a_h_have a_h_next a_g1 a_g1_kinds a_g1_sweets a_g1_settings a_g1_heaps z_h_doublings z_h_have z_h_next (r_children z_g1) (r_strokes z_g1) (r_gave z_g1) (r_threw z_g1) (r_sweets z_g1) (r_settings z_g1)) H → va_D A (w_Crumbs_take cI cJ cC a_h a_h_have a_h_next a_g1 a_g1_kinds a_g1_sweets a_g1_settings a_g1_heaps z_h_doublings z_h_have z_h_next (r_children z_g1) (r_strokes z_g1) (r_gave z_g1) (r_threw z_g1) (r_sweets z_g1) (r_settings z_g1)) → va_S A s.heap H locs → lv_has ls 4 [(0, .ref a_h), (1, .ref a_g1), (2, .int x2), (3, .int x3)] → W p l e (xRm 2 62) s m args below meth c H locs 0 0 Q (F0 m 7 ls []) := by
    intro n
    induction n with
    | zero => intro z_h_doublings z_h_have z_h_next x3 H locs ls hf hP hD hS hl; exact nomatch (show (none : Option (Int32 × (Nat → Int64) × (Nat → Int64))) = some q from hf)
    | succ n ih =>
      intro z_h_doublings z_h_have z_h_next x3 H locs ls hf hP hD hS hl
      refine lv_iload_n hx hb d_Crumbs_take_7 rfl (lv_at hl 3 rfl) ?_
      refine lv_iload_n hx hb d_Crumbs_take_8 rfl (lv_at hl 2 rfl) ?_
      refine lv_icmp_ge (tgt := 23) hx hb d_Crumbs_take_9 (by decide) (fun c2 => ?_) (fun c2 => ?_)
      · have hf := io_t hf c2
        have hq := Option.some.inj hf
        subst hq
        exact hret _ _ _ _ d_Crumbs_take_23 hP hD hS
      · have hf := io_f hf c2
        refine lv_aload_n hx hb d_Crumbs_take_12 rfl (lv_at hl 0 rfl) ?_
        refine lv_aload_n hx hb d_Crumbs_take_13 rfl (lv_at hl 1 rfl) ?_
        obtain ⟨q3, hq3, hf⟩ := io_b hf
        refine xcVV (wc := (w_Crumbs_advance cI cJ cC a_h a_h_have a_h_next a_g1 a_g1_kinds a_g1_sweets a_g1_settings a_g1_heaps z_h_doublings z_h_have z_h_next (r_children z_g1) (r_strokes z_g1) (r_gave z_g1) (r_threw z_g1) (r_settings z_g1))) (wc' := (w_Crumbs_advance cI cJ cC a_h a_h_have a_h_next a_g1 a_g1_kinds a_g1_sweets a_g1_settings a_g1_heaps q3.1 q3.2.1 q3.2.2 (r_children z_g1) (r_strokes z_g1) (r_gave z_g1) (r_threw z_g1) (r_settings z_g1))) (ws' := (w_Crumbs_take cI cJ cC a_h a_h_have a_h_next a_g1 a_g1_kinds a_g1_sweets a_g1_settings a_g1_heaps q3.1 q3.2.1 q3.2.2 (r_children z_g1) (r_strokes z_g1) (r_gave z_g1) (r_threw z_g1) (r_sweets z_g1) (r_settings z_g1))) (As := [.ref a_g1]) (rest := []) hx hb hml hown hT (c_Crumbs_advance (z_h_doublings := z_h_doublings) (z_h_have := z_h_have) (z_h_next := z_h_next) (z_g1 := z_g1) a_h a_h_have a_h_next a_g1 a_g1_kinds a_g1_sweets a_g1_settings a_g1_heaps hq3) k_346 k_348 ks_5 k_5 k_349 hd_Crumbs_advance ⟨Nat.le_of_ble_eq_true rfl, Nat.le_of_ble_eq_true rfl⟩ xE0_ok trivial hA hK hP hD hS [0, 1, 2, 3, 5] [4] [1, 2, 3, 4, 0, 5] rfl rfl rfl rfl rfl rfl rfl rfl rfl rfl hl.1 rfl (Nat.le_of_ble_eq_true rfl) ⟨Nat.zero_le _, Nat.zero_le _⟩ d_Crumbs_take_14 (fun H locs hP hD hS => ?_)
        refine lv_iinc (v := (x3 + 1)) (lv' := [(3, .int (x3 + 1)), (0, .ref a_h), (1, .ref a_g1), (2, .int x2)]) hx hb d_Crumbs_take_17 hl (k := 3) rfl (by rfl) (by decide) rfl (fun ls hl => ?_)
        refine lv_goto (tgt := 7) hx hb d_Crumbs_take_20 (by decide) ?_
        exact ih q3.1 q3.2.1 q3.2.2 (x3 + 1) _ _ _ hf hP hD hS (lv_sub hl [1, 2, 3, 0] rfl)
  refine lv_aload_n hx hb d_Crumbs_take_0 rfl (lv_at hl 0 rfl) ?_
  refine lv_aload_n hx hb d_Crumbs_take_1 rfl (lv_at hl 1 rfl) ?_
  obtain ⟨q1, hq1, hf⟩ := io_b hf
  refine xcVV (wc := (w_Crumbs_begin cI cJ cC a_h a_h_have a_h_next a_g1 a_g1_kinds a_g1_sweets a_g1_settings a_g1_heaps z_h_doublings z_h_have (r_children z_g1) (r_strokes z_g1) (r_gave z_g1) (r_threw z_g1) (r_sweets z_g1))) (wc' := (w_Crumbs_begin cI cJ cC a_h a_h_have a_h_next a_g1 a_g1_kinds a_g1_sweets a_g1_settings a_g1_heaps q1.1 q1.2 (r_children z_g1) (r_strokes z_g1) (r_gave z_g1) (r_threw z_g1) (r_sweets z_g1))) (ws' := (w_Crumbs_take cI cJ cC a_h a_h_have a_h_next a_g1 a_g1_kinds a_g1_sweets a_g1_settings a_g1_heaps q1.1 q1.2 z_h_next (r_children z_g1) (r_strokes z_g1) (r_gave z_g1) (r_threw z_g1) (r_sweets z_g1) (r_settings z_g1))) (As := [.ref a_g1]) (rest := []) hx hb hml hown hT (c_Crumbs_begin (z_h_doublings := z_h_doublings) (z_h_have := z_h_have) (z_g1 := z_g1) a_h a_h_have a_h_next a_g1 a_g1_kinds a_g1_sweets a_g1_settings a_g1_heaps hq1) k_342 k_344 ks_4 k_5 k_345 hd_Crumbs_begin ⟨Nat.le_of_ble_eq_true rfl, Nat.le_of_ble_eq_true rfl⟩ xE0_ok trivial hA hK hP hD hS [0, 1, 3, 4] [2, 5] [2, 3, 0, 4, 5, 1] rfl rfl rfl rfl rfl rfl rfl rfl rfl rfl hl.1 rfl (Nat.le_of_ble_eq_true rfl) ⟨Nat.zero_le _, Nat.zero_le _⟩ d_Crumbs_take_2 (fun H locs hP hD hS => ?_)
  refine lv_iconst (v := 0) hx hb d_Crumbs_take_5 (by decide) ?_
  refine lv_istore_n (lv' := [(3, .int 0), (0, .ref a_h), (1, .ref a_g1), (2, .int x2)]) hx hb d_Crumbs_take_6 rfl hl (by decide) rfl (fun ls hl => ?_)
  exact L7 FU q1.1 q1.2 z_h_next 0 _ _ _ hf hP hD hS (lv_sub hl [1, 2, 3, 0] rfl)
abbrev w_Crumbs_halvings (cI cJ cC : ClassId) (a_h a_h_have a_h_next : Nat) (p_h_doublings : Int32) (p_h_have : (Nat → Int64)) : va_W := [(a_h, .inr (4, [.ref a_h_have, .ref a_h_next, .int p_h_doublings])), (a_h_have, .inl (cJ, (8, .inr (.inl p_h_have))))]
theorem d_Crumbs_halvings_0 : decode b_Crumbs_halvings 0 = .ok (.iconst 0, 1) := by decide +kernel
theorem d_Crumbs_halvings_1 : decode b_Crumbs_halvings 1 = .ok (.istore_n 2, 1) := by decide +kernel
theorem d_Crumbs_halvings_2 : decode b_Crumbs_halvings 2 = .ok (.iload_n 2, 1) := by decide +kernel
theorem d_Crumbs_halvings_3 : decode b_Crumbs_halvings 3 = .ok (.aload_n 0, 1) := by decide +kernel
theorem d_Crumbs_halvings_4 : decode b_Crumbs_halvings 4 = .ok (.getfield 18, 3) := by decide +kernel
theorem d_Crumbs_halvings_7 : decode b_Crumbs_halvings 7 = .ok (.if_icmp .ge 26, 3) := by decide +kernel
theorem d_Crumbs_halvings_10 : decode b_Crumbs_halvings 10 = .ok (.aload_n 0, 1) := by decide +kernel
theorem d_Crumbs_halvings_11 : decode b_Crumbs_halvings 11 = .ok (.getfield 9, 3) := by decide +kernel
theorem d_Crumbs_halvings_14 : decode b_Crumbs_halvings 14 = .ok (.iload_n 1, 1) := by decide +kernel
theorem d_Crumbs_halvings_15 : decode b_Crumbs_halvings 15 = .ok (.laload, 1) := by decide +kernel
theorem d_Crumbs_halvings_16 : decode b_Crumbs_halvings 16 = .ok (.iload_n 2, 1) := by decide +kernel
theorem d_Crumbs_halvings_17 : decode b_Crumbs_halvings 17 = .ok (.lshr, 1) := by decide +kernel
theorem d_Crumbs_halvings_18 : decode b_Crumbs_halvings 18 = .ok (.ldc2_w 51, 3) := by decide +kernel
theorem d_Crumbs_halvings_21 : decode b_Crumbs_halvings 21 = .ok (.lrem, 1) := by decide +kernel
theorem d_Crumbs_halvings_22 : decode b_Crumbs_halvings 22 = .ok (.lconst 0, 1) := by decide +kernel
theorem d_Crumbs_halvings_23 : decode b_Crumbs_halvings 23 = .ok (.lcmp, 1) := by decide +kernel
theorem d_Crumbs_halvings_24 : decode b_Crumbs_halvings 24 = .ok (.ifCond .ne 9, 3) := by decide +kernel
theorem d_Crumbs_halvings_27 : decode b_Crumbs_halvings 27 = .ok (.iinc 2 1, 3) := by decide +kernel
theorem d_Crumbs_halvings_30 : decode b_Crumbs_halvings 30 = .ok (.goto (-28), 3) := by decide +kernel
theorem d_Crumbs_halvings_33 : decode b_Crumbs_halvings 33 = .ok (.iload_n 2, 1) := by decide +kernel
theorem d_Crumbs_halvings_34 : decode b_Crumbs_halvings 34 = .ok (.ireturn, 1) := by decide +kernel
set_option maxHeartbeats 4000000 in
set_option maxRecDepth 100000 in
theorem c_Crumbs_halvings {l : Launch} {D : va_G} {cI cJ cC : ClassId} (a_h a_h_have a_h_next : Nat) {z_h_doublings : Int32} {z_h_have : (Nat → Int64)} {x1 : Int32} {q : Int32} (hf : f_Crumbs_halvings z_h_doublings z_h_have x1 = some q) : xI l y_Crumbs_halvings b_Crumbs_halvings 3 .int 0 0 D (tyK cI cJ cC) xE0 [.ref a_h, .int x1] (w_Crumbs_halvings cI cJ cC a_h a_h_have a_h_next z_h_doublings z_h_have) q (w_Crumbs_halvings cI cJ cC a_h a_h_have a_h_next z_h_doublings z_h_have) := by
  refine xI_of (by decide) (Nat.le_of_ble_eq_true rfl) ?_
  intro p e s m args below meth c A Q hx hb hml hown hT hA hP hD hK hS hE hret ls hl
  have hown : s.vm.findClass R_Crumbs = some m.cls := hown
  have hl : lv_has ls 3 [(0, .ref a_h), (1, .int x1)] := hl
  unfold f_Crumbs_halvings at hf
  have L2 : ∀ (n : Nat) (x2 : Int32) (H : Heap) (locs : List Loc) (ls : Array Slot), f_Crumbs_halvings_L2 z_h_doublings z_h_have x1 n x2 = some q → va_P D classes (w_Crumbs_halvings cI cJ cC a_h a_h_have a_h_next z_h_doublings z_h_have) H → va_D A (w_Crumbs_halvings cI cJ cC a_h a_h_have a_h_next z_h_doublings z_h_have) → va_S A s.heap H locs → lv_has ls 3 [(0, .ref a_h), (1, .int x1), (2, .int x2)] → W p l e (xRm 0 0) s m args below meth c H locs 0 0 Q (F0 m 2 ls []) := by
    intro n
    induction n with
    | zero => intro x2 H locs ls hf hP hD hS hl; exact nomatch (show (none : Option (Int32)) = some q from hf)
    | succ n ih =>
      intro x2 H locs ls hf hP hD hS hl
      refine lv_iload_n hx hb d_Crumbs_halvings_2 rfl (lv_at hl 2 rfl) ?_
      refine lv_aload_n hx hb d_Crumbs_halvings_3 rfl (lv_at hl 0 rfl) ?_
      refine va_get hx hb hT i_Crumbs hown hK hP 0 rfl rfl 2 (Nat.le_of_ble_eq_true rfl) (hT _ k_114) (fun _ h => h) rfl d_Crumbs_halvings_4 ?_
      refine lv_icmp_ge (tgt := 33) hx hb d_Crumbs_halvings_7 (by decide) (fun c1 => ?_) (fun c1 => ?_)
      · have hf := io_t hf c1
        refine lv_iload_n hx hb d_Crumbs_halvings_33 rfl (lv_at hl 2 rfl) ?_
        have hq := Option.some.inj hf
        subst hq
        exact hret _ _ _ _ _ d_Crumbs_halvings_34 rfl rfl hP hD hS
      · have hf := io_f hf c1
        refine lv_aload_n hx hb d_Crumbs_halvings_10 rfl (lv_at hl 0 rfl) ?_
        refine va_get hx hb hT i_Crumbs hown hK hP 0 rfl rfl 0 (Nat.le_of_ble_eq_true rfl) (hT _ k_112) (fun _ h => h) rfl d_Crumbs_halvings_11 ?_
        refine lv_iload_n hx hb d_Crumbs_halvings_14 rfl (lv_at hl 1 rfl) ?_
        obtain ⟨c2, hf⟩ := io_n hf
        refine x_lald hx hb hK hP 1 1 rfl rfl (j := x1.toNatClampNeg) rfl c2 d_Crumbs_halvings_15 ?_
        refine lv_iload_n hx hb d_Crumbs_halvings_16 rfl (lv_at hl 2 rfl) ?_
        refine lv_lshr (v := ((z_h_have x1.toNatClampNeg) >>> (x2.toInt64 &&& 63))) hx hb d_Crumbs_halvings_17 rfl ?_
        refine lv_ldc2 (v := 2) hx hb hown (hT _ k_360) d_Crumbs_halvings_18 ?_
        refine x_lrem hx hb d_Crumbs_halvings_21 (by decide) ?_
        refine lv_lconst (v := 0) hx hb d_Crumbs_halvings_22 (by decide) ?_
        refine W.lcmp hx hb d_Crumbs_halvings_23 ?_
        refine lv_if_ne (tgt := 33) hx hb d_Crumbs_halvings_24 (by decide) (fun c3 => ?_) (fun c3 => ?_)
        · have hf := io_f hf c3
          refine lv_iload_n hx hb d_Crumbs_halvings_33 rfl (lv_at hl 2 rfl) ?_
          have hq := Option.some.inj hf
          subst hq
          exact hret _ _ _ _ _ d_Crumbs_halvings_34 rfl rfl hP hD hS
        · have hf := io_t hf c3
          refine lv_iinc (v := (x2 + 1)) (lv' := [(2, .int (x2 + 1)), (0, .ref a_h), (1, .int x1)]) hx hb d_Crumbs_halvings_27 hl (k := 2) rfl (by rfl) (by decide) rfl (fun ls hl => ?_)
          refine lv_goto (tgt := 2) hx hb d_Crumbs_halvings_30 (by decide) ?_
          exact ih (x2 + 1) _ _ _ hf hP hD hS (lv_sub hl [1, 2, 0] rfl)
  refine lv_iconst (v := 0) hx hb d_Crumbs_halvings_0 (by decide) ?_
  refine lv_istore_n (lv' := [(2, .int 0), (0, .ref a_h), (1, .int x1)]) hx hb d_Crumbs_halvings_1 rfl hl (by decide) rfl (fun ls hl => ?_)
  exact L2 FU 0 _ _ _ hf hP hD hS (lv_sub hl [1, 2, 0] rfl)
abbrev w_Crumbs_above (cI cJ cC : ClassId) (a_h a_h_have a_h_next : Nat) (p_h_doublings : Int32) (p_h_have : (Nat → Int64)) : va_W := [(a_h, .inr (4, [.ref a_h_have, .ref a_h_next, .int p_h_doublings])), (a_h_have, .inl (cJ, (8, .inr (.inl p_h_have))))]
theorem d_Crumbs_above_0 : decode b_Crumbs_above 0 = .ok (.aload_n 0, 1) := by decide +kernel
theorem d_Crumbs_above_1 : decode b_Crumbs_above 1 = .ok (.getfield 9, 3) := by decide +kernel
theorem d_Crumbs_above_4 : decode b_Crumbs_above 4 = .ok (.iload_n 1, 1) := by decide +kernel
theorem d_Crumbs_above_5 : decode b_Crumbs_above 5 = .ok (.laload, 1) := by decide +kernel
theorem d_Crumbs_above_6 : decode b_Crumbs_above 6 = .ok (.aload_n 0, 1) := by decide +kernel
theorem d_Crumbs_above_7 : decode b_Crumbs_above 7 = .ok (.iload_n 1, 1) := by decide +kernel
theorem d_Crumbs_above_8 : decode b_Crumbs_above 8 = .ok (.invokevirtual 48, 3) := by decide +kernel
theorem d_Crumbs_above_11 : decode b_Crumbs_above 11 = .ok (.lshr, 1) := by decide +kernel
theorem d_Crumbs_above_12 : decode b_Crumbs_above 12 = .ok (.lreturn, 1) := by decide +kernel
set_option maxHeartbeats 4000000 in
set_option maxRecDepth 100000 in
theorem c_Crumbs_above {l : Launch} {D : va_G} {cI cJ cC : ClassId} (a_h a_h_have a_h_next : Nat) {z_h_doublings : Int32} {z_h_have : (Nat → Int64)} {x1 : Int32} {q : Int64} (hf : f_Crumbs_above z_h_doublings z_h_have x1 = some q) : xL l y_Crumbs_above b_Crumbs_above 2 .long 1 22 D (tyK cI cJ cC) xE0 [.ref a_h, .int x1] (w_Crumbs_above cI cJ cC a_h a_h_have a_h_next z_h_doublings z_h_have) q (w_Crumbs_above cI cJ cC a_h a_h_have a_h_next z_h_doublings z_h_have) := by
  refine xL_of (by decide) (Nat.le_of_ble_eq_true rfl) ?_
  intro p e s m args below meth c A Q hx hb hml hown hT hA hP hD hK hS hE hret ls hl
  have hown : s.vm.findClass R_Crumbs = some m.cls := hown
  have hl : lv_has ls 2 [(0, .ref a_h), (1, .int x1)] := hl
  unfold f_Crumbs_above at hf
  refine lv_aload_n hx hb d_Crumbs_above_0 rfl (lv_at hl 0 rfl) ?_
  refine va_get hx hb hT i_Crumbs hown hK hP 0 rfl rfl 0 (Nat.le_of_ble_eq_true rfl) (hT _ k_112) (fun _ h => h) rfl d_Crumbs_above_1 ?_
  refine lv_iload_n hx hb d_Crumbs_above_4 rfl (lv_at hl 1 rfl) ?_
  obtain ⟨c1, hf⟩ := io_n hf
  refine x_lald hx hb hK hP 1 1 rfl rfl (j := x1.toNatClampNeg) rfl c1 d_Crumbs_above_5 ?_
  refine lv_aload_n hx hb d_Crumbs_above_6 rfl (lv_at hl 0 rfl) ?_
  refine lv_iload_n hx hb d_Crumbs_above_7 rfl (lv_at hl 1 rfl) ?_
  obtain ⟨q2, hq2, hf⟩ := io_b hf
  refine xcVI (wc := (w_Crumbs_halvings cI cJ cC a_h a_h_have a_h_next z_h_doublings z_h_have)) (wc' := (w_Crumbs_halvings cI cJ cC a_h a_h_have a_h_next z_h_doublings z_h_have)) (ws' := (w_Crumbs_above cI cJ cC a_h a_h_have a_h_next z_h_doublings z_h_have)) (As := [.int x1]) (rest := [.long (z_h_have x1.toNatClampNeg)]) hx hb hml hown hT (c_Crumbs_halvings (z_h_doublings := z_h_doublings) (z_h_have := z_h_have) a_h a_h_have a_h_next hq2) k_356 k_358 ks_6 k_5 k_359 hd_Crumbs_halvings ⟨Nat.le_of_ble_eq_true rfl, Nat.le_of_ble_eq_true rfl⟩ xE0_ok trivial hA hK hP hD hS [0, 1] [] [0, 1] rfl rfl rfl rfl rfl rfl rfl rfl rfl rfl hl.1 rfl (Nat.le_of_ble_eq_true rfl) ⟨Nat.zero_le _, Nat.zero_le _⟩ d_Crumbs_above_8 (fun H locs hP hD hS => ?_)
  refine lv_lshr (v := ((z_h_have x1.toNatClampNeg) >>> (q2.toInt64 &&& 63))) hx hb d_Crumbs_above_11 rfl ?_
  have hq := Option.some.inj hf
  subst hq
  exact hret _ _ _ _ _ d_Crumbs_above_12 rfl hP hD hS
abbrev w_Crumbs_below (cI cJ cC : ClassId) (a_h a_h_have a_h_next : Nat) (p_h_doublings : Int32) (p_h_have : (Nat → Int64)) : va_W := [(a_h, .inr (4, [.ref a_h_have, .ref a_h_next, .int p_h_doublings])), (a_h_have, .inl (cJ, (8, .inr (.inl p_h_have))))]
theorem d_Crumbs_below_0 : decode b_Crumbs_below 0 = .ok (.lconst 1, 1) := by decide +kernel
theorem d_Crumbs_below_1 : decode b_Crumbs_below 1 = .ok (.aload_n 0, 1) := by decide +kernel
theorem d_Crumbs_below_2 : decode b_Crumbs_below 2 = .ok (.getfield 18, 3) := by decide +kernel
theorem d_Crumbs_below_5 : decode b_Crumbs_below 5 = .ok (.aload_n 0, 1) := by decide +kernel
theorem d_Crumbs_below_6 : decode b_Crumbs_below 6 = .ok (.iload_n 1, 1) := by decide +kernel
theorem d_Crumbs_below_7 : decode b_Crumbs_below 7 = .ok (.invokevirtual 48, 3) := by decide +kernel
theorem d_Crumbs_below_10 : decode b_Crumbs_below 10 = .ok (.isub, 1) := by decide +kernel
theorem d_Crumbs_below_11 : decode b_Crumbs_below 11 = .ok (.lshl, 1) := by decide +kernel
theorem d_Crumbs_below_12 : decode b_Crumbs_below 12 = .ok (.lreturn, 1) := by decide +kernel
set_option maxHeartbeats 4000000 in
set_option maxRecDepth 100000 in
theorem c_Crumbs_below {l : Launch} {D : va_G} {cI cJ cC : ClassId} (a_h a_h_have a_h_next : Nat) {z_h_doublings : Int32} {z_h_have : (Nat → Int64)} {x1 : Int32} {q : Int64} (hf : f_Crumbs_below z_h_doublings z_h_have x1 = some q) : xL l y_Crumbs_below b_Crumbs_below 2 .long 1 22 D (tyK cI cJ cC) xE0 [.ref a_h, .int x1] (w_Crumbs_below cI cJ cC a_h a_h_have a_h_next z_h_doublings z_h_have) q (w_Crumbs_below cI cJ cC a_h a_h_have a_h_next z_h_doublings z_h_have) := by
  refine xL_of (by decide) (Nat.le_of_ble_eq_true rfl) ?_
  intro p e s m args below meth c A Q hx hb hml hown hT hA hP hD hK hS hE hret ls hl
  have hown : s.vm.findClass R_Crumbs = some m.cls := hown
  have hl : lv_has ls 2 [(0, .ref a_h), (1, .int x1)] := hl
  unfold f_Crumbs_below at hf
  refine lv_lconst (v := 1) hx hb d_Crumbs_below_0 (by decide) ?_
  refine lv_aload_n hx hb d_Crumbs_below_1 rfl (lv_at hl 0 rfl) ?_
  refine va_get hx hb hT i_Crumbs hown hK hP 0 rfl rfl 2 (Nat.le_of_ble_eq_true rfl) (hT _ k_114) (fun _ h => h) rfl d_Crumbs_below_2 ?_
  refine lv_aload_n hx hb d_Crumbs_below_5 rfl (lv_at hl 0 rfl) ?_
  refine lv_iload_n hx hb d_Crumbs_below_6 rfl (lv_at hl 1 rfl) ?_
  obtain ⟨q1, hq1, hf⟩ := io_b hf
  refine xcVI (wc := (w_Crumbs_halvings cI cJ cC a_h a_h_have a_h_next z_h_doublings z_h_have)) (wc' := (w_Crumbs_halvings cI cJ cC a_h a_h_have a_h_next z_h_doublings z_h_have)) (ws' := (w_Crumbs_below cI cJ cC a_h a_h_have a_h_next z_h_doublings z_h_have)) (As := [.int x1]) (rest := [.int z_h_doublings, .long 1]) hx hb hml hown hT (c_Crumbs_halvings (z_h_doublings := z_h_doublings) (z_h_have := z_h_have) a_h a_h_have a_h_next hq1) k_356 k_358 ks_6 k_5 k_359 hd_Crumbs_halvings ⟨Nat.le_of_ble_eq_true rfl, Nat.le_of_ble_eq_true rfl⟩ xE0_ok trivial hA hK hP hD hS [0, 1] [] [0, 1] rfl rfl rfl rfl rfl rfl rfl rfl rfl rfl hl.1 rfl (Nat.le_of_ble_eq_true rfl) ⟨Nat.zero_le _, Nat.zero_le _⟩ d_Crumbs_below_7 (fun H locs hP hD hS => ?_)
  refine lv_isub hx hb d_Crumbs_below_10 ?_
  refine lv_lshl (v := (1 <<< ((z_h_doublings - q1).toInt64 &&& 63))) hx hb d_Crumbs_below_11 rfl ?_
  have hq := Option.some.inj hf
  subst hq
  exact hret _ _ _ _ _ d_Crumbs_below_12 rfl hP hD hS
end
section
/-! Contracts: Letters. Printed by wip/whole/gen. -/
abbrev w_Letters_add (cI cJ cC : ClassId) (a_h a_h_text a_h_trial : Nat) (p_h_length : Int32) (p_h_text : (Nat → Int32)) : va_W := [(a_h, .inr (2, [.int p_h_length, .ref a_h_text, .ref a_h_trial])), (a_h_text, .inl (cC, (64, .inl p_h_text)))]
theorem d_Letters_add_0 : decode b_Letters_add 0 = .ok (.aload_n 0, 1) := by decide +kernel
theorem d_Letters_add_1 : decode b_Letters_add 1 = .ok (.getfield 9, 3) := by decide +kernel
theorem d_Letters_add_4 : decode b_Letters_add 4 = .ok (.bipush 64, 2) := by decide +kernel
theorem d_Letters_add_6 : decode b_Letters_add 6 = .ok (.if_icmp .ge 23, 3) := by decide +kernel
theorem d_Letters_add_9 : decode b_Letters_add 9 = .ok (.aload_n 0, 1) := by decide +kernel
theorem d_Letters_add_10 : decode b_Letters_add 10 = .ok (.getfield 15, 3) := by decide +kernel
theorem d_Letters_add_13 : decode b_Letters_add 13 = .ok (.aload_n 0, 1) := by decide +kernel
theorem d_Letters_add_14 : decode b_Letters_add 14 = .ok (.getfield 9, 3) := by decide +kernel
theorem d_Letters_add_17 : decode b_Letters_add 17 = .ok (.iload_n 1, 1) := by decide +kernel
theorem d_Letters_add_18 : decode b_Letters_add 18 = .ok (.castore, 1) := by decide +kernel
theorem d_Letters_add_19 : decode b_Letters_add 19 = .ok (.aload_n 0, 1) := by decide +kernel
theorem d_Letters_add_20 : decode b_Letters_add 20 = .ok (.dup, 1) := by decide +kernel
theorem d_Letters_add_21 : decode b_Letters_add 21 = .ok (.getfield 9, 3) := by decide +kernel
theorem d_Letters_add_24 : decode b_Letters_add 24 = .ok (.iconst 1, 1) := by decide +kernel
theorem d_Letters_add_25 : decode b_Letters_add 25 = .ok (.iadd, 1) := by decide +kernel
theorem d_Letters_add_26 : decode b_Letters_add 26 = .ok (.putfield 9, 3) := by decide +kernel
theorem d_Letters_add_29 : decode b_Letters_add 29 = .ok (.aload_n 0, 1) := by decide +kernel
theorem d_Letters_add_30 : decode b_Letters_add 30 = .ok (.getfield 9, 3) := by decide +kernel
theorem d_Letters_add_33 : decode b_Letters_add 33 = .ok (.ireturn, 1) := by decide +kernel
set_option maxHeartbeats 4000000 in
set_option maxRecDepth 100000 in
theorem c_Letters_add {l : Launch} {D : va_G} {cI cJ cC : ClassId} (a_h a_h_text a_h_trial : Nat) {z_h_length : Int32} {z_h_text : (Nat → Int32)} {x1 : Int32} {q : Int32 × Int32 × (Nat → Int32)} (hf : f_Letters_add z_h_length z_h_text x1 = some q) : xI l y_Letters_add b_Letters_add 2 .int 0 0 D (tyK cI cJ cC) xE0 [.ref a_h, .int x1] (w_Letters_add cI cJ cC a_h a_h_text a_h_trial z_h_length z_h_text) q.1 (w_Letters_add cI cJ cC a_h a_h_text a_h_trial q.2.1 q.2.2) := by
  refine xI_of (by decide) (Nat.le_of_ble_eq_true rfl) ?_
  intro p e s m args below meth c A Q hx hb hml hown hT hA hP hD hK hS hE hret ls hl
  have hown : s.vm.findClass R_Letters = some m.cls := hown
  have hl : lv_has ls 2 [(0, .ref a_h), (1, .int x1)] := hl
  unfold f_Letters_add at hf
  refine lv_aload_n hx hb d_Letters_add_0 rfl (lv_at hl 0 rfl) ?_
  refine va_get hx hb hT i_Letters hown hK hP 0 rfl rfl 0 (Nat.le_of_ble_eq_true rfl) (hT _ k_76) (fun _ h => h) rfl d_Letters_add_1 ?_
  refine lv_bipush (v := 64) hx hb d_Letters_add_4 (by decide) ?_
  refine lv_icmp_ge (tgt := 29) hx hb d_Letters_add_6 (by decide) (fun c1 => ?_) (fun c1 => ?_)
  · have hf := io_t hf c1
    refine lv_aload_n hx hb d_Letters_add_29 rfl (lv_at hl 0 rfl) ?_
    refine va_get hx hb hT i_Letters hown hK hP 0 rfl rfl 0 (Nat.le_of_ble_eq_true rfl) (hT _ k_76) (fun _ h => h) rfl d_Letters_add_30 ?_
    have hq := Option.some.inj hf
    subst hq
    exact hret _ _ _ _ _ d_Letters_add_33 rfl rfl hP hD hS
  · have hf := io_f hf c1
    refine lv_aload_n hx hb d_Letters_add_9 rfl (lv_at hl 0 rfl) ?_
    refine va_get hx hb hT i_Letters hown hK hP 0 rfl rfl 1 (Nat.le_of_ble_eq_true rfl) (hT _ k_78) (fun _ h => h) rfl d_Letters_add_10 ?_
    refine lv_aload_n hx hb d_Letters_add_13 rfl (lv_at hl 0 rfl) ?_
    refine va_get hx hb hT i_Letters hown hK hP 0 rfl rfl 0 (Nat.le_of_ble_eq_true rfl) (hT _ k_76) (fun _ h => h) rfl d_Letters_add_14 ?_
    refine lv_iload_n hx hb d_Letters_add_17 rfl (lv_at hl 1 rfl) ?_
    obtain ⟨c2, hf⟩ := io_n hf
    refine x_cast hx hb hK hP hD hS 1 2 rfl rfl (j := z_h_length.toNatClampNeg) rfl c2 d_Letters_add_18 (fun H locs hP hD hS => ?_)
    have hP : va_P D classes (w_Letters_add cI cJ cC a_h a_h_text a_h_trial z_h_length (upd z_h_text z_h_length.toNatClampNeg (vp_nar .char x1))) H := hP
    have hD : va_D A (w_Letters_add cI cJ cC a_h a_h_text a_h_trial z_h_length (upd z_h_text z_h_length.toNatClampNeg (vp_nar .char x1))) := hD
    refine lv_aload_n hx hb d_Letters_add_19 rfl (lv_at hl 0 rfl) ?_
    refine lv_dup hx hb d_Letters_add_20 rfl ?_
    refine va_get hx hb hT i_Letters hown hK hP 0 rfl rfl 0 (Nat.le_of_ble_eq_true rfl) (hT _ k_76) (fun _ h => h) rfl d_Letters_add_21 ?_
    refine lv_iconst (v := 1) hx hb d_Letters_add_24 (by decide) ?_
    refine lv_iadd hx hb d_Letters_add_25 ?_
    refine va_put (ty := .int) hx hb hT i_Letters t_Letters t_Letters_ok n_Letters hown hK hP hD hS 0 rfl rfl 0 (Nat.le_of_ble_eq_true rfl) (hT _ k_76) (fun _ h => h) rfl rfl rfl rfl (Nat.le_of_ble_eq_true rfl) d_Letters_add_26 (fun H locs hP hD hS => ?_)
    have hP : va_P D classes (w_Letters_add cI cJ cC a_h a_h_text a_h_trial (z_h_length + 1) (upd z_h_text z_h_length.toNatClampNeg (vp_nar .char x1))) H := hP
    have hD : va_D A (w_Letters_add cI cJ cC a_h a_h_text a_h_trial (z_h_length + 1) (upd z_h_text z_h_length.toNatClampNeg (vp_nar .char x1))) := hD
    refine lv_aload_n hx hb d_Letters_add_29 rfl (lv_at hl 0 rfl) ?_
    refine va_get hx hb hT i_Letters hown hK hP 0 rfl rfl 0 (Nat.le_of_ble_eq_true rfl) (hT _ k_76) (fun _ h => h) rfl d_Letters_add_30 ?_
    have hq := Option.some.inj hf
    subst hq
    exact hret _ _ _ _ _ d_Letters_add_33 rfl rfl hP hD hS
theorem d_Letters_behindStart_0 : decode b_Letters_behindStart 0 = .ok (.iload_n 0, 1) := by decide +kernel
theorem d_Letters_behindStart_1 : decode b_Letters_behindStart 1 = .ok (.lookupswitch 42 #[(99, 35), (103, 40), (108, 37)], 35) := by decide +kernel
theorem d_Letters_behindStart_36 : decode b_Letters_behindStart 36 = .ok (.iconst 1, 1) := by decide +kernel
theorem d_Letters_behindStart_37 : decode b_Letters_behindStart 37 = .ok (.ireturn, 1) := by decide +kernel
theorem d_Letters_behindStart_38 : decode b_Letters_behindStart 38 = .ok (.bipush 6, 2) := by decide +kernel
theorem d_Letters_behindStart_40 : decode b_Letters_behindStart 40 = .ok (.ireturn, 1) := by decide +kernel
theorem d_Letters_behindStart_41 : decode b_Letters_behindStart 41 = .ok (.iconst 2, 1) := by decide +kernel
theorem d_Letters_behindStart_42 : decode b_Letters_behindStart 42 = .ok (.ireturn, 1) := by decide +kernel
theorem d_Letters_behindStart_43 : decode b_Letters_behindStart 43 = .ok (.iconst (-1), 1) := by decide +kernel
theorem d_Letters_behindStart_44 : decode b_Letters_behindStart 44 = .ok (.ireturn, 1) := by decide +kernel
set_option maxHeartbeats 4000000 in
set_option maxRecDepth 100000 in
theorem c_Letters_behindStart {l : Launch} {D : va_G} {cI cJ cC : ClassId} {x0 : Int32} {q : Int32} (hf : f_Letters_behindStart x0 = some q) : xI l y_Letters_behindStart b_Letters_behindStart 1 .int 0 0 D (tyK cI cJ cC) xE0 [.int x0] [] q [] := by
  refine xI_of (by decide) (Nat.le_of_ble_eq_true rfl) ?_
  intro p e s m args below meth c A Q hx hb hml hown hT hA hP hD hK hS hE hret ls hl
  have hown : s.vm.findClass R_Letters = some m.cls := hown
  have hl : lv_has ls 1 [(0, .int x0)] := hl
  unfold f_Letters_behindStart at hf
  refine lv_iload_n hx hb d_Letters_behindStart_0 rfl (lv_at hl 0 rfl) ?_
  rcases Decidable.em (x0 = 99) with c1 | c1
  · have hf := io_t hf c1
    refine lv_lookup (off := 35) (tgt := 36) hx hb d_Letters_behindStart_1 (by decide +kernel) (by rw [c1]; rfl) (by decide) ?_
    refine lv_iconst (v := 1) hx hb d_Letters_behindStart_36 (by decide) ?_
    have hq := Option.some.inj hf
    subst hq
    exact hret _ _ _ _ _ d_Letters_behindStart_37 rfl rfl hP hD hS
  · have hf := io_f hf c1
    rcases Decidable.em (x0 = 103) with c2 | c2
    · have hf := io_t hf c2
      refine lv_lookup (off := 40) (tgt := 41) hx hb d_Letters_behindStart_1 (by decide +kernel) (by rw [c2]; rfl) (by decide) ?_
      refine lv_iconst (v := 2) hx hb d_Letters_behindStart_41 (by decide) ?_
      have hq := Option.some.inj hf
      subst hq
      exact hret _ _ _ _ _ d_Letters_behindStart_42 rfl rfl hP hD hS
    · have hf := io_f hf c2
      rcases Decidable.em (x0 = 108) with c3 | c3
      · have hf := io_t hf c3
        refine lv_lookup (off := 37) (tgt := 38) hx hb d_Letters_behindStart_1 (by decide +kernel) (by rw [c3]; rfl) (by decide) ?_
        refine lv_bipush (v := 6) hx hb d_Letters_behindStart_38 (by decide) ?_
        have hq := Option.some.inj hf
        subst hq
        exact hret _ _ _ _ _ d_Letters_behindStart_40 rfl rfl hP hD hS
      · have hf := io_f hf c3
        refine lv_lookup (off := 42) (tgt := 43) hx hb d_Letters_behindStart_1 (by decide +kernel) (by refine (lv_osw (k := 99) c1 (by decide +kernel)).trans ?_; refine (lv_osw (k := 103) c2 (by decide +kernel)).trans ?_; refine (lv_osw (k := 108) c3 (by decide +kernel)).trans ?_; rfl) (by decide) ?_
        refine lv_iconst (v := (-1)) hx hb d_Letters_behindStart_43 (by decide) ?_
        have hq := Option.some.inj hf
        subst hq
        exact hret _ _ _ _ _ d_Letters_behindStart_44 rfl rfl hP hD hS
theorem d_Letters_isDigit_0 : decode b_Letters_isDigit 0 = .ok (.iload_n 0, 1) := by decide +kernel
theorem d_Letters_isDigit_1 : decode b_Letters_isDigit 1 = .ok (.bipush 48, 2) := by decide +kernel
theorem d_Letters_isDigit_3 : decode b_Letters_isDigit 3 = .ok (.if_icmp .lt 13, 3) := by decide +kernel
theorem d_Letters_isDigit_6 : decode b_Letters_isDigit 6 = .ok (.iload_n 0, 1) := by decide +kernel
theorem d_Letters_isDigit_7 : decode b_Letters_isDigit 7 = .ok (.bipush 57, 2) := by decide +kernel
theorem d_Letters_isDigit_9 : decode b_Letters_isDigit 9 = .ok (.if_icmp .gt 7, 3) := by decide +kernel
theorem d_Letters_isDigit_12 : decode b_Letters_isDigit 12 = .ok (.iconst 1, 1) := by decide +kernel
theorem d_Letters_isDigit_13 : decode b_Letters_isDigit 13 = .ok (.goto 4, 3) := by decide +kernel
theorem d_Letters_isDigit_16 : decode b_Letters_isDigit 16 = .ok (.iconst 0, 1) := by decide +kernel
theorem d_Letters_isDigit_17 : decode b_Letters_isDigit 17 = .ok (.ireturn, 1) := by decide +kernel
set_option maxHeartbeats 4000000 in
set_option maxRecDepth 100000 in
theorem c_Letters_isDigit {l : Launch} {D : va_G} {cI cJ cC : ClassId} {x0 : Int32} {q : Int32} (hf : f_Letters_isDigit x0 = some q) : xI l y_Letters_isDigit b_Letters_isDigit 1 .boolean 0 0 D (tyK cI cJ cC) xE0 [.int x0] [] q [] := by
  refine xI_of (by decide) (Nat.le_of_ble_eq_true rfl) ?_
  intro p e s m args below meth c A Q hx hb hml hown hT hA hP hD hK hS hE hret ls hl
  have hown : s.vm.findClass R_Letters = some m.cls := hown
  have hl : lv_has ls 1 [(0, .int x0)] := hl
  unfold f_Letters_isDigit at hf
  refine lv_iload_n hx hb d_Letters_isDigit_0 rfl (lv_at hl 0 rfl) ?_
  refine lv_bipush (v := 48) hx hb d_Letters_isDigit_1 (by decide) ?_
  refine lv_icmp_lt (tgt := 16) hx hb d_Letters_isDigit_3 (by decide) (fun c1 => ?_) (fun c1 => ?_)
  · have hf := io_t hf c1
    refine lv_iconst (v := 0) hx hb d_Letters_isDigit_16 (by decide) ?_
    have hq := Option.some.inj hf
    subst hq
    exact hret _ _ _ _ _ d_Letters_isDigit_17 (by decide) rfl hP hD hS
  · have hf := io_f hf c1
    refine lv_iload_n hx hb d_Letters_isDigit_6 rfl (lv_at hl 0 rfl) ?_
    refine lv_bipush (v := 57) hx hb d_Letters_isDigit_7 (by decide) ?_
    refine lv_icmp_gt (tgt := 16) hx hb d_Letters_isDigit_9 (by decide) (fun c2 => ?_) (fun c2 => ?_)
    · have hf := io_t hf c2
      refine lv_iconst (v := 0) hx hb d_Letters_isDigit_16 (by decide) ?_
      have hq := Option.some.inj hf
      subst hq
      exact hret _ _ _ _ _ d_Letters_isDigit_17 (by decide) rfl hP hD hS
    · have hf := io_f hf c2
      refine lv_iconst (v := 1) hx hb d_Letters_isDigit_12 (by decide) ?_
      refine lv_goto (tgt := 17) hx hb d_Letters_isDigit_13 (by decide) ?_
      have hq := Option.some.inj hf
      subst hq
      exact hret _ _ _ _ _ d_Letters_isDigit_17 (by decide) rfl hP hD hS
theorem d_Letters_behindEnd_0 : decode b_Letters_behindEnd 0 = .ok (.iload_n 0, 1) := by decide +kernel
theorem d_Letters_behindEnd_1 : decode b_Letters_behindEnd 1 = .ok (.bipush 59, 2) := by decide +kernel
theorem d_Letters_behindEnd_3 : decode b_Letters_behindEnd 3 = .ok (.if_icmp .ne 7, 3) := by decide +kernel
theorem d_Letters_behindEnd_6 : decode b_Letters_behindEnd 6 = .ok (.iconst 0, 1) := by decide +kernel
theorem d_Letters_behindEnd_7 : decode b_Letters_behindEnd 7 = .ok (.goto 4, 3) := by decide +kernel
theorem d_Letters_behindEnd_10 : decode b_Letters_behindEnd 10 = .ok (.iconst (-1), 1) := by decide +kernel
theorem d_Letters_behindEnd_11 : decode b_Letters_behindEnd 11 = .ok (.ireturn, 1) := by decide +kernel
set_option maxHeartbeats 4000000 in
set_option maxRecDepth 100000 in
theorem c_Letters_behindEnd {l : Launch} {D : va_G} {cI cJ cC : ClassId} {x0 : Int32} {q : Int32} (hf : f_Letters_behindEnd x0 = some q) : xI l y_Letters_behindEnd b_Letters_behindEnd 1 .int 0 0 D (tyK cI cJ cC) xE0 [.int x0] [] q [] := by
  refine xI_of (by decide) (Nat.le_of_ble_eq_true rfl) ?_
  intro p e s m args below meth c A Q hx hb hml hown hT hA hP hD hK hS hE hret ls hl
  have hown : s.vm.findClass R_Letters = some m.cls := hown
  have hl : lv_has ls 1 [(0, .int x0)] := hl
  unfold f_Letters_behindEnd at hf
  refine lv_iload_n hx hb d_Letters_behindEnd_0 rfl (lv_at hl 0 rfl) ?_
  refine lv_bipush (v := 59) hx hb d_Letters_behindEnd_1 (by decide) ?_
  refine lv_icmp_ne (tgt := 10) hx hb d_Letters_behindEnd_3 (by decide) (fun c1 => ?_) (fun c1 => ?_)
  · have hf := io_f hf c1
    refine lv_iconst (v := (-1)) hx hb d_Letters_behindEnd_10 (by decide) ?_
    have hq := Option.some.inj hf
    subst hq
    exact hret _ _ _ _ _ d_Letters_behindEnd_11 rfl rfl hP hD hS
  · have hf := io_t hf c1
    refine lv_iconst (v := 0) hx hb d_Letters_behindEnd_6 (by decide) ?_
    refine lv_goto (tgt := 11) hx hb d_Letters_behindEnd_7 (by decide) ?_
    have hq := Option.some.inj hf
    subst hq
    exact hret _ _ _ _ _ d_Letters_behindEnd_11 rfl rfl hP hD hS
theorem d_Str_isLatin1_0 : decode b_Str_isLatin1 0 = .ok (.getstatic 38, 3) := by decide +kernel
theorem d_Str_isLatin1_3 : decode b_Str_isLatin1 3 = .ok (.ifCond .eq 14, 3) := by decide +kernel
theorem d_Str_isLatin1_6 : decode b_Str_isLatin1 6 = .ok (.aload_n 0, 1) := by decide +kernel
theorem d_Str_isLatin1_7 : decode b_Str_isLatin1 7 = .ok (.getfield 15, 3) := by decide +kernel
theorem d_Str_isLatin1_10 : decode b_Str_isLatin1 10 = .ok (.ifCond .ne 7, 3) := by decide +kernel
theorem d_Str_isLatin1_13 : decode b_Str_isLatin1 13 = .ok (.iconst 1, 1) := by decide +kernel
theorem d_Str_isLatin1_14 : decode b_Str_isLatin1 14 = .ok (.goto 4, 3) := by decide +kernel
theorem d_Str_isLatin1_17 : decode b_Str_isLatin1 17 = .ok (.iconst 0, 1) := by decide +kernel
theorem d_Str_isLatin1_18 : decode b_Str_isLatin1 18 = .ok (.ireturn, 1) := by decide +kernel
set_option maxHeartbeats 4000000 in
set_option maxRecDepth 100000 in
theorem c_Str_isLatin1 {l : Launch} {D : va_G} {cI cJ cC : ClassId} {t_LEAST_SETTING t_GREATEST_SETTING t_str t_val : Nat} {q : Int32} (hf : f_Str_isLatin1 = some q) : xI l y_Str_isLatin1 b_Str_isLatin1 1 .boolean 0 0 D (tyK cI cJ cC) (xEv t_LEAST_SETTING t_GREATEST_SETTING t_str t_val) [.ref t_str] [] q [] := by
  refine xI_of (by decide) (Nat.le_of_ble_eq_true rfl) ?_
  intro p e s m args below meth c A Q hx hb hml hown hT hA hP hD hK hS hE hret ls hl
  have hown : s.vm.findClass R_Str = some m.cls := hown
  have hl : lv_has ls 1 [(0, .ref t_str)] := hl
  unfold f_Str_isLatin1 at hf
  obtain ⟨hZ_LEAST_SETTING, hT_LEAST_SETTING, hZ_GREATEST_SETTING, hT_GREATEST_SETTING, hZ_CS, hO_str, hC_str, hV_str, hT_str, hR_str, hN_X_outside, hNF_LEAST_SETTING, hNF_GREATEST_SETTING⟩ := id hE
  refine va_gets hx hb hZ_CS hS hown (hT _ k_444) (fun _ h => h) d_Str_isLatin1_0 ?_
  refine lv_if_eq (tgt := 17) hx hb d_Str_isLatin1_3 (by decide) (fun c => absurd c (show ¬ (1 : Int32) = 0 from by decide +kernel)) (fun _ => ?_)
  refine lv_aload_n hx hb d_Str_isLatin1_6 rfl (lv_at hl 0 rfl) ?_
  refine vk_getf hx hb hC_str hS hown (hT _ k_555) (fun _ h => h) d_Str_isLatin1_7 ?_
  refine lv_if_ne (tgt := 17) hx hb d_Str_isLatin1_10 (by decide) (fun c => absurd (show (0 : Int32) = 0 from by decide +kernel) c) (fun _ => ?_)
  refine lv_iconst (v := 1) hx hb d_Str_isLatin1_13 (by decide) ?_
  refine lv_goto (tgt := 18) hx hb d_Str_isLatin1_14 (by decide) ?_
  have hq := Option.some.inj hf
  subst hq
  exact hret _ _ _ _ _ d_Str_isLatin1_18 (by decide) rfl hP hD hS
theorem d_Str_coder_0 : decode b_Str_coder 0 = .ok (.getstatic 38, 3) := by decide +kernel
theorem d_Str_coder_3 : decode b_Str_coder 3 = .ok (.ifCond .eq 10, 3) := by decide +kernel
theorem d_Str_coder_6 : decode b_Str_coder 6 = .ok (.aload_n 0, 1) := by decide +kernel
theorem d_Str_coder_7 : decode b_Str_coder 7 = .ok (.getfield 15, 3) := by decide +kernel
theorem d_Str_coder_10 : decode b_Str_coder 10 = .ok (.goto 4, 3) := by decide +kernel
theorem d_Str_coder_13 : decode b_Str_coder 13 = .ok (.iconst 1, 1) := by decide +kernel
theorem d_Str_coder_14 : decode b_Str_coder 14 = .ok (.ireturn, 1) := by decide +kernel
set_option maxHeartbeats 4000000 in
set_option maxRecDepth 100000 in
theorem c_Str_coder {l : Launch} {D : va_G} {cI cJ cC : ClassId} {t_LEAST_SETTING t_GREATEST_SETTING t_str t_val : Nat} {q : Int32} (hf : f_Str_coder = some q) : xI l y_Str_coder b_Str_coder 1 .byte 0 0 D (tyK cI cJ cC) (xEv t_LEAST_SETTING t_GREATEST_SETTING t_str t_val) [.ref t_str] [] q [] := by
  refine xI_of (by decide) (Nat.le_of_ble_eq_true rfl) ?_
  intro p e s m args below meth c A Q hx hb hml hown hT hA hP hD hK hS hE hret ls hl
  have hown : s.vm.findClass R_Str = some m.cls := hown
  have hl : lv_has ls 1 [(0, .ref t_str)] := hl
  unfold f_Str_coder at hf
  obtain ⟨hZ_LEAST_SETTING, hT_LEAST_SETTING, hZ_GREATEST_SETTING, hT_GREATEST_SETTING, hZ_CS, hO_str, hC_str, hV_str, hT_str, hR_str, hN_X_outside, hNF_LEAST_SETTING, hNF_GREATEST_SETTING⟩ := id hE
  refine va_gets hx hb hZ_CS hS hown (hT _ k_444) (fun _ h => h) d_Str_coder_0 ?_
  refine lv_if_eq (tgt := 13) hx hb d_Str_coder_3 (by decide) (fun c => absurd c (show ¬ (1 : Int32) = 0 from by decide +kernel)) (fun _ => ?_)
  refine lv_aload_n hx hb d_Str_coder_6 rfl (lv_at hl 0 rfl) ?_
  refine vk_getf hx hb hC_str hS hown (hT _ k_555) (fun _ h => h) d_Str_coder_7 ?_
  refine lv_goto (tgt := 14) hx hb d_Str_coder_10 (by decide) ?_
  have hq := Option.some.inj hf
  subst hq
  exact hret _ _ _ _ _ d_Str_coder_14 (by decide) rfl hP hD hS
theorem d_Str_length_0 : decode b_Str_length 0 = .ok (.aload_n 0, 1) := by decide +kernel
theorem d_Str_length_1 : decode b_Str_length 1 = .ok (.getfield 9, 3) := by decide +kernel
theorem d_Str_length_4 : decode b_Str_length 4 = .ok (.arraylength, 1) := by decide +kernel
theorem d_Str_length_5 : decode b_Str_length 5 = .ok (.aload_n 0, 1) := by decide +kernel
theorem d_Str_length_6 : decode b_Str_length 6 = .ok (.invokevirtual 335, 3) := by decide +kernel
theorem d_Str_length_9 : decode b_Str_length 9 = .ok (.ishr, 1) := by decide +kernel
theorem d_Str_length_10 : decode b_Str_length 10 = .ok (.ireturn, 1) := by decide +kernel
set_option maxHeartbeats 4000000 in
set_option maxRecDepth 100000 in
theorem c_Str_length {l : Launch} {D : va_G} {cI cJ cC : ClassId} {t_LEAST_SETTING t_GREATEST_SETTING t_str t_val : Nat} {q : Int32} (hf : f_Str_length = some q) : xI l y_Str_length b_Str_length 1 .int 1 20 D (tyK cI cJ cC) (xEv t_LEAST_SETTING t_GREATEST_SETTING t_str t_val) [.ref t_str] [] q [] := by
  refine xI_of (by decide) (Nat.le_of_ble_eq_true rfl) ?_
  intro p e s m args below meth c A Q hx hb hml hown hT hA hP hD hK hS hE hret ls hl
  have hown : s.vm.findClass R_Str = some m.cls := hown
  have hl : lv_has ls 1 [(0, .ref t_str)] := hl
  unfold f_Str_length at hf
  obtain ⟨hZ_LEAST_SETTING, hT_LEAST_SETTING, hZ_GREATEST_SETTING, hT_GREATEST_SETTING, hZ_CS, hO_str, hC_str, hV_str, hT_str, hR_str, hN_X_outside, hNF_LEAST_SETTING, hNF_GREATEST_SETTING⟩ := id hE
  refine lv_aload_n hx hb d_Str_length_0 rfl (lv_at hl 0 rfl) ?_
  refine vk_getf hx hb hV_str hS hown (hT _ k_556) (fun _ h => h) d_Str_length_1 ?_
  refine va_tlen (v := 7) hx hb hT_str hS (by decide +kernel) d_Str_length_4 ?_
  refine lv_aload_n hx hb d_Str_length_5 rfl (lv_at hl 0 rfl) ?_
  obtain ⟨q1, hq1, hf⟩ := io_b hf
  refine xcTI (wc := []) (wc' := []) (ws' := []) (As := []) (rest := [.int 7]) hx hb hml hown hT (c_Str_coder hq1) k_450 k_451 k_452 k_8 k_453 hd_Str_coder ⟨Nat.le_of_ble_eq_true rfl, Nat.le_of_ble_eq_true rfl⟩ (xEv_ok _ _ _ _) hE hA hK hP hD hS [] [] [] rfl rfl rfl rfl rfl rfl rfl (x_rec hO_str hS) hl.1 rfl (Nat.le_of_ble_eq_true rfl) ⟨Nat.zero_le _, Nat.zero_le _⟩ d_Str_length_6 (fun H locs hP hD hS => ?_)
  refine lv_ishr hx hb d_Str_length_9 ?_
  have hq := Option.some.inj hf
  subst hq
  exact hret _ _ _ _ _ d_Str_length_10 rfl rfl hP hD hS
theorem d_Lat_canEncode_0 : decode b_Lat_canEncode 0 = .ok (.iload_n 0, 1) := by decide +kernel
theorem d_Lat_canEncode_1 : decode b_Lat_canEncode 1 = .ok (.ifCond .lt 14, 3) := by decide +kernel
theorem d_Lat_canEncode_4 : decode b_Lat_canEncode 4 = .ok (.iload_n 0, 1) := by decide +kernel
theorem d_Lat_canEncode_5 : decode b_Lat_canEncode 5 = .ok (.sipush 255, 3) := by decide +kernel
theorem d_Lat_canEncode_8 : decode b_Lat_canEncode 8 = .ok (.if_icmp .gt 7, 3) := by decide +kernel
theorem d_Lat_canEncode_11 : decode b_Lat_canEncode 11 = .ok (.iconst 1, 1) := by decide +kernel
theorem d_Lat_canEncode_12 : decode b_Lat_canEncode 12 = .ok (.goto 4, 3) := by decide +kernel
theorem d_Lat_canEncode_15 : decode b_Lat_canEncode 15 = .ok (.iconst 0, 1) := by decide +kernel
theorem d_Lat_canEncode_16 : decode b_Lat_canEncode 16 = .ok (.ireturn, 1) := by decide +kernel
set_option maxHeartbeats 4000000 in
set_option maxRecDepth 100000 in
theorem c_Lat_canEncode {l : Launch} {D : va_G} {cI cJ cC : ClassId} {x0 : Int32} {q : Int32} (hf : f_Lat_canEncode x0 = some q) : xI l y_Lat_canEncode b_Lat_canEncode 1 .boolean 0 0 D (tyK cI cJ cC) xE0 [.int x0] [] q [] := by
  refine xI_of (by decide) (Nat.le_of_ble_eq_true rfl) ?_
  intro p e s m args below meth c A Q hx hb hml hown hT hA hP hD hK hS hE hret ls hl
  have hown : s.vm.findClass R_Lat = some m.cls := hown
  have hl : lv_has ls 1 [(0, .int x0)] := hl
  unfold f_Lat_canEncode at hf
  refine lv_iload_n hx hb d_Lat_canEncode_0 rfl (lv_at hl 0 rfl) ?_
  refine lv_if_lt (tgt := 15) hx hb d_Lat_canEncode_1 (by decide) (fun c1 => ?_) (fun c1 => ?_)
  · have hf := io_t hf c1
    refine lv_iconst (v := 0) hx hb d_Lat_canEncode_15 (by decide) ?_
    have hq := Option.some.inj hf
    subst hq
    exact hret _ _ _ _ _ d_Lat_canEncode_16 (by decide) rfl hP hD hS
  · have hf := io_f hf c1
    refine lv_iload_n hx hb d_Lat_canEncode_4 rfl (lv_at hl 0 rfl) ?_
    refine lv_sipush (v := 255) hx hb d_Lat_canEncode_5 (by decide) ?_
    refine lv_icmp_gt (tgt := 15) hx hb d_Lat_canEncode_8 (by decide) (fun c2 => ?_) (fun c2 => ?_)
    · have hf := io_t hf c2
      refine lv_iconst (v := 0) hx hb d_Lat_canEncode_15 (by decide) ?_
      have hq := Option.some.inj hf
      subst hq
      exact hret _ _ _ _ _ d_Lat_canEncode_16 (by decide) rfl hP hD hS
    · have hf := io_f hf c2
      refine lv_iconst (v := 1) hx hb d_Lat_canEncode_11 (by decide) ?_
      refine lv_goto (tgt := 16) hx hb d_Lat_canEncode_12 (by decide) ?_
      have hq := Option.some.inj hf
      subst hq
      exact hret _ _ _ _ _ d_Lat_canEncode_16 (by decide) rfl hP hD hS
theorem d_Lat_indexOfChar_0 : decode b_Lat_indexOfChar 0 = .ok (.iload_n 1, 1) := by decide +kernel
theorem d_Lat_indexOfChar_1 : decode b_Lat_indexOfChar 1 = .ok (.i2b, 1) := by decide +kernel
theorem d_Lat_indexOfChar_2 : decode b_Lat_indexOfChar 2 = .ok (.istore 4, 2) := by decide +kernel
theorem d_Lat_indexOfChar_4 : decode b_Lat_indexOfChar 4 = .ok (.iload_n 2, 1) := by decide +kernel
theorem d_Lat_indexOfChar_5 : decode b_Lat_indexOfChar 5 = .ok (.istore 5, 2) := by decide +kernel
theorem d_Lat_indexOfChar_7 : decode b_Lat_indexOfChar 7 = .ok (.iload 5, 2) := by decide +kernel
theorem d_Lat_indexOfChar_9 : decode b_Lat_indexOfChar 9 = .ok (.iload_n 3, 1) := by decide +kernel
theorem d_Lat_indexOfChar_10 : decode b_Lat_indexOfChar 10 = .ok (.if_icmp .ge 21, 3) := by decide +kernel
theorem d_Lat_indexOfChar_13 : decode b_Lat_indexOfChar 13 = .ok (.aload_n 0, 1) := by decide +kernel
theorem d_Lat_indexOfChar_14 : decode b_Lat_indexOfChar 14 = .ok (.iload 5, 2) := by decide +kernel
theorem d_Lat_indexOfChar_16 : decode b_Lat_indexOfChar 16 = .ok (.baload, 1) := by decide +kernel
theorem d_Lat_indexOfChar_17 : decode b_Lat_indexOfChar 17 = .ok (.iload 4, 2) := by decide +kernel
theorem d_Lat_indexOfChar_19 : decode b_Lat_indexOfChar 19 = .ok (.if_icmp .ne 6, 3) := by decide +kernel
theorem d_Lat_indexOfChar_22 : decode b_Lat_indexOfChar 22 = .ok (.iload 5, 2) := by decide +kernel
theorem d_Lat_indexOfChar_24 : decode b_Lat_indexOfChar 24 = .ok (.ireturn, 1) := by decide +kernel
theorem d_Lat_indexOfChar_25 : decode b_Lat_indexOfChar 25 = .ok (.iinc 5 1, 3) := by decide +kernel
theorem d_Lat_indexOfChar_28 : decode b_Lat_indexOfChar 28 = .ok (.goto (-21), 3) := by decide +kernel
theorem d_Lat_indexOfChar_31 : decode b_Lat_indexOfChar 31 = .ok (.iconst (-1), 1) := by decide +kernel
theorem d_Lat_indexOfChar_32 : decode b_Lat_indexOfChar 32 = .ok (.ireturn, 1) := by decide +kernel
set_option maxHeartbeats 4000000 in
set_option maxRecDepth 100000 in
theorem c_Lat_indexOfChar {l : Launch} {D : va_G} {cI cJ cC : ClassId} {t_LEAST_SETTING t_GREATEST_SETTING t_str t_val : Nat} {x1 : Int32} {x2 : Int32} {x3 : Int32} {q : Int32} (hf : f_Lat_indexOfChar x1 x2 x3 = some q) : xI l y_Lat_indexOfChar b_Lat_indexOfChar 6 .int 0 0 D (tyK cI cJ cC) (xEv t_LEAST_SETTING t_GREATEST_SETTING t_str t_val) [.ref t_val, .int x1, .int x2, .int x3] [] q [] := by
  refine xI_of (by decide) (Nat.le_of_ble_eq_true rfl) ?_
  intro p e s m args below meth c A Q hx hb hml hown hT hA hP hD hK hS hE hret ls hl
  have hown : s.vm.findClass R_Lat = some m.cls := hown
  have hl : lv_has ls 6 [(0, .ref t_val), (1, .int x1), (2, .int x2), (3, .int x3)] := hl
  unfold f_Lat_indexOfChar at hf
  obtain ⟨hZ_LEAST_SETTING, hT_LEAST_SETTING, hZ_GREATEST_SETTING, hT_GREATEST_SETTING, hZ_CS, hO_str, hC_str, hV_str, hT_str, hR_str, hN_X_outside, hNF_LEAST_SETTING, hNF_GREATEST_SETTING⟩ := id hE
  have L7 : ∀ (x4 : Int32), ∀ (n : Nat) (x5 : Int32) (H : Heap) (locs : List Loc) (ls : Array Slot), f_Lat_indexOfChar_L7 x3 x4 n x5 = some q → va_P D classes [] H → va_D A [] → va_S A s.heap H locs → lv_has ls 6 [(0, .ref t_val), (3, .int x3), (4, .int x4), (5, .int x5)] → W p l e (xRm 0 0) s m args below meth c H locs 0 0 Q (F0 m 7 ls []) := by
    intro x4 n
    induction n with
    | zero => intro x5 H locs ls hf hP hD hS hl; exact nomatch (show (none : Option (Int32)) = some q from hf)
    | succ n ih =>
      intro x5 H locs ls hf hP hD hS hl
      refine lv_iload hx hb d_Lat_indexOfChar_7 (lv_at hl 3 rfl) ?_
      refine lv_iload_n hx hb d_Lat_indexOfChar_9 rfl (lv_at hl 1 rfl) ?_
      refine lv_icmp_ge (tgt := 31) hx hb d_Lat_indexOfChar_10 (by decide) (fun c1 => ?_) (fun c1 => ?_)
      · have hf := io_t hf c1
        refine lv_iconst (v := (-1)) hx hb d_Lat_indexOfChar_31 (by decide) ?_
        have hq := Option.some.inj hf
        subst hq
        exact hret _ _ _ _ _ d_Lat_indexOfChar_32 rfl rfl hP hD hS
      · have hf := io_f hf c1
        refine lv_aload_n hx hb d_Lat_indexOfChar_13 rfl (lv_at hl 0 rfl) ?_
        refine lv_iload hx hb d_Lat_indexOfChar_14 (lv_at hl 3 rfl) ?_
        obtain ⟨c2, hf⟩ := io_n hf
        refine va_tb (v := .int (s_text x5.toNatClampNeg)) hx hb hT_str hS c2 rfl d_Lat_indexOfChar_16 ?_
        refine lv_iload hx hb d_Lat_indexOfChar_17 (lv_at hl 2 rfl) ?_
        refine lv_icmp_ne (tgt := 25) hx hb d_Lat_indexOfChar_19 (by decide) (fun c3 => ?_) (fun c3 => ?_)
        · have hf := io_f hf c3
          refine lv_iinc (v := (x5 + 1)) (lv' := [(5, .int (x5 + 1)), (0, .ref t_val), (3, .int x3), (4, .int x4)]) hx hb d_Lat_indexOfChar_25 hl (k := 3) rfl (by rfl) (by decide) rfl (fun ls hl => ?_)
          refine lv_goto (tgt := 7) hx hb d_Lat_indexOfChar_28 (by decide) ?_
          exact ih (x5 + 1) _ _ _ hf hP hD hS (lv_sub hl [1, 2, 3, 0] rfl)
        · have hf := io_t hf c3
          refine lv_iload hx hb d_Lat_indexOfChar_22 (lv_at hl 3 rfl) ?_
          have hq := Option.some.inj hf
          subst hq
          exact hret _ _ _ _ _ d_Lat_indexOfChar_24 rfl rfl hP hD hS
  refine lv_iload_n hx hb d_Lat_indexOfChar_0 rfl (lv_at hl 1 rfl) ?_
  refine lv_i2b (v := (x1.toInt8.toInt32)) hx hb d_Lat_indexOfChar_1 rfl ?_
  refine lv_istore (lv' := [(4, .int (x1.toInt8.toInt32)), (0, .ref t_val), (1, .int x1), (2, .int x2), (3, .int x3)]) hx hb d_Lat_indexOfChar_2 hl (by decide) rfl (fun ls hl => ?_)
  refine lv_iload_n hx hb d_Lat_indexOfChar_4 rfl (lv_at hl 3 rfl) ?_
  refine lv_istore (lv' := [(5, .int x2), (4, .int (x1.toInt8.toInt32)), (0, .ref t_val), (1, .int x1), (2, .int x2), (3, .int x3)]) hx hb d_Lat_indexOfChar_5 hl (by decide) rfl (fun ls hl => ?_)
  exact L7 (x1.toInt8.toInt32) FU x2 _ _ _ hf hP hD hS (lv_sub hl [2, 5, 1, 0] rfl)
theorem d_Lat_indexOf_0 : decode b_Lat_indexOf 0 = .ok (.iload_n 1, 1) := by decide +kernel
theorem d_Lat_indexOf_1 : decode b_Lat_indexOf 1 = .ok (.invokestatic 88, 3) := by decide +kernel
theorem d_Lat_indexOf_4 : decode b_Lat_indexOf 4 = .ok (.ifCond .ne 5, 3) := by decide +kernel
theorem d_Lat_indexOf_7 : decode b_Lat_indexOf 7 = .ok (.iconst (-1), 1) := by decide +kernel
theorem d_Lat_indexOf_8 : decode b_Lat_indexOf 8 = .ok (.ireturn, 1) := by decide +kernel
theorem d_Lat_indexOf_9 : decode b_Lat_indexOf 9 = .ok (.iload_n 2, 1) := by decide +kernel
theorem d_Lat_indexOf_10 : decode b_Lat_indexOf 10 = .ok (.iconst 0, 1) := by decide +kernel
theorem d_Lat_indexOf_11 : decode b_Lat_indexOf 11 = .ok (.invokestatic 92, 3) := by decide +kernel
theorem d_Lat_indexOf_14 : decode b_Lat_indexOf 14 = .ok (.istore_n 2, 1) := by decide +kernel
theorem d_Lat_indexOf_15 : decode b_Lat_indexOf 15 = .ok (.iload_n 3, 1) := by decide +kernel
theorem d_Lat_indexOf_16 : decode b_Lat_indexOf 16 = .ok (.aload_n 0, 1) := by decide +kernel
theorem d_Lat_indexOf_17 : decode b_Lat_indexOf 17 = .ok (.arraylength, 1) := by decide +kernel
theorem d_Lat_indexOf_18 : decode b_Lat_indexOf 18 = .ok (.invokestatic 38, 3) := by decide +kernel
theorem d_Lat_indexOf_21 : decode b_Lat_indexOf 21 = .ok (.istore_n 3, 1) := by decide +kernel
theorem d_Lat_indexOf_22 : decode b_Lat_indexOf 22 = .ok (.iload_n 2, 1) := by decide +kernel
theorem d_Lat_indexOf_23 : decode b_Lat_indexOf 23 = .ok (.iload_n 3, 1) := by decide +kernel
theorem d_Lat_indexOf_24 : decode b_Lat_indexOf 24 = .ok (.if_icmp .lt 5, 3) := by decide +kernel
theorem d_Lat_indexOf_27 : decode b_Lat_indexOf 27 = .ok (.iconst (-1), 1) := by decide +kernel
theorem d_Lat_indexOf_28 : decode b_Lat_indexOf 28 = .ok (.ireturn, 1) := by decide +kernel
theorem d_Lat_indexOf_29 : decode b_Lat_indexOf 29 = .ok (.aload_n 0, 1) := by decide +kernel
theorem d_Lat_indexOf_30 : decode b_Lat_indexOf 30 = .ok (.iload_n 1, 1) := by decide +kernel
theorem d_Lat_indexOf_31 : decode b_Lat_indexOf 31 = .ok (.iload_n 2, 1) := by decide +kernel
theorem d_Lat_indexOf_32 : decode b_Lat_indexOf 32 = .ok (.iload_n 3, 1) := by decide +kernel
theorem d_Lat_indexOf_33 : decode b_Lat_indexOf 33 = .ok (.invokestatic 95, 3) := by decide +kernel
theorem d_Lat_indexOf_36 : decode b_Lat_indexOf 36 = .ok (.ireturn, 1) := by decide +kernel
set_option maxHeartbeats 4000000 in
set_option maxRecDepth 100000 in
theorem c_Lat_indexOf {l : Launch} {D : va_G} {cI cJ cC : ClassId} {t_LEAST_SETTING t_GREATEST_SETTING t_str t_val : Nat} {x1 : Int32} {x2 : Int32} {x3 : Int32} {q : Int32} (hf : f_Lat_indexOf x1 x2 x3 = some q) : xI l y_Lat_indexOf b_Lat_indexOf 4 .int 1 25 D (tyK cI cJ cC) (xEv t_LEAST_SETTING t_GREATEST_SETTING t_str t_val) [.ref t_val, .int x1, .int x2, .int x3] [] q [] := by
  refine xI_of (by decide) (Nat.le_of_ble_eq_true rfl) ?_
  intro p e s m args below meth c A Q hx hb hml hown hT hA hP hD hK hS hE hret ls hl
  have hown : s.vm.findClass R_Lat = some m.cls := hown
  have hl : lv_has ls 4 [(0, .ref t_val), (1, .int x1), (2, .int x2), (3, .int x3)] := hl
  unfold f_Lat_indexOf at hf
  obtain ⟨hZ_LEAST_SETTING, hT_LEAST_SETTING, hZ_GREATEST_SETTING, hT_GREATEST_SETTING, hZ_CS, hO_str, hC_str, hV_str, hT_str, hR_str, hN_X_outside, hNF_LEAST_SETTING, hNF_GREATEST_SETTING⟩ := id hE
  refine lv_iload_n hx hb d_Lat_indexOf_0 rfl (lv_at hl 1 rfl) ?_
  obtain ⟨q1, hq1, hf⟩ := io_b hf
  refine xcSI (wc := []) (wc' := []) (ws' := []) (As := [.int x1]) (rest := []) hx hb hml hown hT (c_Lat_canEncode hq1) k_457 k_458 k_9 k_459 hd_Lat_canEncode ⟨Nat.le_of_ble_eq_true rfl, Nat.le_of_ble_eq_true rfl⟩ xE0_ok trivial hA hK hP hD hS [] [] [] rfl rfl rfl rfl rfl rfl rfl hl.1 rfl (Nat.le_of_ble_eq_true rfl) ⟨Nat.zero_le _, Nat.zero_le _⟩ d_Lat_indexOf_1 (fun H locs hP hD hS => ?_)
  refine lv_if_ne (tgt := 9) hx hb d_Lat_indexOf_4 (by decide) (fun c2 => ?_) (fun c2 => ?_)
  · have hf := io_f hf c2
    refine lv_iload_n hx hb d_Lat_indexOf_9 rfl (lv_at hl 2 rfl) ?_
    refine lv_iconst (v := 0) hx hb d_Lat_indexOf_10 (by decide) ?_
    refine va_mmax hx hb (hml.trans hl.1.symm) hown (hT _ k_460) (hT _ k_378) (hT _ k_10) (hT _ k_379) (Nat.le_of_ble_eq_true rfl) (Nat.le_of_ble_eq_true rfl) (Nat.zero_le _) (Nat.zero_le _) d_Lat_indexOf_11 ?_
    refine lv_istore_n (lv' := [(2, .int (jmax x2 0)), (0, .ref t_val), (1, .int x1), (3, .int x3)]) hx hb d_Lat_indexOf_14 rfl hl (by decide) rfl (fun ls hl => ?_)
    refine lv_iload_n hx hb d_Lat_indexOf_15 rfl (lv_at hl 3 rfl) ?_
    refine lv_aload_n hx hb d_Lat_indexOf_16 rfl (lv_at hl 1 rfl) ?_
    refine va_tlen (v := 7) hx hb hT_str hS (by decide +kernel) d_Lat_indexOf_17 ?_
    refine va_mmin hx hb (hml.trans hl.1.symm) hown (hT _ k_461) (hT _ k_235) (hT _ k_10) (hT _ k_236) (Nat.le_of_ble_eq_true rfl) (Nat.le_of_ble_eq_true rfl) (Nat.zero_le _) (Nat.zero_le _) d_Lat_indexOf_18 ?_
    refine lv_istore_n (lv' := [(3, .int (jmin x3 7)), (2, .int (jmax x2 0)), (0, .ref t_val), (1, .int x1)]) hx hb d_Lat_indexOf_21 rfl hl (by decide) rfl (fun ls hl => ?_)
    refine lv_iload_n hx hb d_Lat_indexOf_22 rfl (lv_at hl 1 rfl) ?_
    refine lv_iload_n hx hb d_Lat_indexOf_23 rfl (lv_at hl 0 rfl) ?_
    refine lv_icmp_lt (tgt := 29) hx hb d_Lat_indexOf_24 (by decide) (fun c3 => ?_) (fun c3 => ?_)
    · have hf := io_t hf c3
      refine lv_aload_n hx hb d_Lat_indexOf_29 rfl (lv_at hl 2 rfl) ?_
      refine lv_iload_n hx hb d_Lat_indexOf_30 rfl (lv_at hl 3 rfl) ?_
      refine lv_iload_n hx hb d_Lat_indexOf_31 rfl (lv_at hl 1 rfl) ?_
      refine lv_iload_n hx hb d_Lat_indexOf_32 rfl (lv_at hl 0 rfl) ?_
      obtain ⟨q4, hq4, hf⟩ := io_b hf
      refine xcSI (wc := []) (wc' := []) (ws' := []) (As := [.ref t_val, .int x1, .int (jmax x2 0), .int (jmin x3 7)]) (rest := []) hx hb hml hown hT (c_Lat_indexOfChar hq4) k_462 k_463 k_9 k_464 hd_Lat_indexOfChar ⟨Nat.le_of_ble_eq_true rfl, Nat.le_of_ble_eq_true rfl⟩ (xEv_ok _ _ _ _) hE hA hK hP hD hS [] [] [] rfl rfl rfl rfl rfl rfl rfl hl.1 rfl (Nat.le_of_ble_eq_true rfl) ⟨Nat.zero_le _, Nat.zero_le _⟩ d_Lat_indexOf_33 (fun H locs hP hD hS => ?_)
      have hq := Option.some.inj hf
      subst hq
      exact hret _ _ _ _ _ d_Lat_indexOf_36 rfl rfl hP hD hS
    · have hf := io_f hf c3
      refine lv_iconst (v := (-1)) hx hb d_Lat_indexOf_27 (by decide) ?_
      have hq := Option.some.inj hf
      subst hq
      exact hret _ _ _ _ _ d_Lat_indexOf_28 rfl rfl hP hD hS
  · have hf := io_t hf c2
    refine lv_iconst (v := (-1)) hx hb d_Lat_indexOf_7 (by decide) ?_
    have hq := Option.some.inj hf
    subst hq
    exact hret _ _ _ _ _ d_Lat_indexOf_8 rfl rfl hP hD hS
theorem d_Str_indexOf2_0 : decode b_Str_indexOf2 0 = .ok (.aload_n 0, 1) := by decide +kernel
theorem d_Str_indexOf2_1 : decode b_Str_indexOf2 1 = .ok (.invokevirtual 492, 3) := by decide +kernel
theorem d_Str_indexOf2_4 : decode b_Str_indexOf2 4 = .ok (.ifCond .eq 19, 3) := by decide +kernel
theorem d_Str_indexOf2_7 : decode b_Str_indexOf2 7 = .ok (.aload_n 0, 1) := by decide +kernel
theorem d_Str_indexOf2_8 : decode b_Str_indexOf2 8 = .ok (.getfield 9, 3) := by decide +kernel
theorem d_Str_indexOf2_11 : decode b_Str_indexOf2 11 = .ok (.iload_n 1, 1) := by decide +kernel
theorem d_Str_indexOf2_12 : decode b_Str_indexOf2 12 = .ok (.iload_n 2, 1) := by decide +kernel
theorem d_Str_indexOf2_13 : decode b_Str_indexOf2 13 = .ok (.aload_n 0, 1) := by decide +kernel
theorem d_Str_indexOf2_14 : decode b_Str_indexOf2 14 = .ok (.invokevirtual 505, 3) := by decide +kernel
theorem d_Str_indexOf2_17 : decode b_Str_indexOf2 17 = .ok (.invokestatic 637, 3) := by decide +kernel
theorem d_Str_indexOf2_20 : decode b_Str_indexOf2 20 = .ok (.goto 16, 3) := by decide +kernel
theorem d_Str_indexOf2_23 : decode b_Str_indexOf2 23 = .ok (.aload_n 0, 1) := by decide +kernel
theorem d_Str_indexOf2_24 : decode b_Str_indexOf2 24 = .ok (.getfield 9, 3) := by decide +kernel
theorem d_Str_indexOf2_27 : decode b_Str_indexOf2 27 = .ok (.iload_n 1, 1) := by decide +kernel
theorem d_Str_indexOf2_28 : decode b_Str_indexOf2 28 = .ok (.iload_n 2, 1) := by decide +kernel
theorem d_Str_indexOf2_29 : decode b_Str_indexOf2 29 = .ok (.aload_n 0, 1) := by decide +kernel
theorem d_Str_indexOf2_30 : decode b_Str_indexOf2 30 = .ok (.invokevirtual 505, 3) := by decide +kernel
theorem d_Str_indexOf2_33 : decode b_Str_indexOf2 33 = .ok (.invokestatic 640, 3) := by decide +kernel
theorem d_Str_indexOf2_36 : decode b_Str_indexOf2 36 = .ok (.ireturn, 1) := by decide +kernel
set_option maxHeartbeats 4000000 in
set_option maxRecDepth 100000 in
theorem c_Str_indexOf2 {l : Launch} {D : va_G} {cI cJ cC : ClassId} {t_LEAST_SETTING t_GREATEST_SETTING t_str t_val : Nat} {x1 : Int32} {x2 : Int32} {q : Int32} (hf : f_Str_indexOf2 x1 x2 = some q) : xI l y_Str_indexOf2 b_Str_indexOf2 3 .int 2 48 D (tyK cI cJ cC) (xEv t_LEAST_SETTING t_GREATEST_SETTING t_str t_val) [.ref t_str, .int x1, .int x2] [] q [] := by
  refine xI_of (by decide) (Nat.le_of_ble_eq_true rfl) ?_
  intro p e s m args below meth c A Q hx hb hml hown hT hA hP hD hK hS hE hret ls hl
  have hown : s.vm.findClass R_Str = some m.cls := hown
  have hl : lv_has ls 3 [(0, .ref t_str), (1, .int x1), (2, .int x2)] := hl
  unfold f_Str_indexOf2 at hf
  obtain ⟨hZ_LEAST_SETTING, hT_LEAST_SETTING, hZ_GREATEST_SETTING, hT_GREATEST_SETTING, hZ_CS, hO_str, hC_str, hV_str, hT_str, hR_str, hN_X_outside, hNF_LEAST_SETTING, hNF_GREATEST_SETTING⟩ := id hE
  refine lv_aload_n hx hb d_Str_indexOf2_0 rfl (lv_at hl 0 rfl) ?_
  obtain ⟨q1, hq1, hf⟩ := io_b hf
  refine xcTI (wc := []) (wc' := []) (ws' := []) (As := []) (rest := []) hx hb hml hown hT (c_Str_isLatin1 hq1) k_440 k_441 k_442 k_8 k_443 hd_Str_isLatin1 ⟨Nat.le_of_ble_eq_true rfl, Nat.le_of_ble_eq_true rfl⟩ (xEv_ok _ _ _ _) hE hA hK hP hD hS [] [] [] rfl rfl rfl rfl rfl rfl rfl (x_rec hO_str hS) hl.1 rfl (Nat.le_of_ble_eq_true rfl) ⟨Nat.zero_le _, Nat.zero_le _⟩ d_Str_indexOf2_1 (fun H locs hP hD hS => ?_)
  refine lv_if_eq (tgt := 23) hx hb d_Str_indexOf2_4 (by decide) (fun c2 => ?_) (fun c2 => ?_)
  · have hf := io_t hf c2
    refine lv_aload_n hx hb d_Str_indexOf2_23 rfl (lv_at hl 0 rfl) ?_
    refine vk_getf hx hb hV_str hS hown (hT _ k_556) (fun _ h => h) d_Str_indexOf2_24 ?_
    refine lv_iload_n hx hb d_Str_indexOf2_27 rfl (lv_at hl 1 rfl) ?_
    refine lv_iload_n hx hb d_Str_indexOf2_28 rfl (lv_at hl 2 rfl) ?_
    refine lv_aload_n hx hb d_Str_indexOf2_29 rfl (lv_at hl 0 rfl) ?_
    obtain ⟨q3, hq3, hf⟩ := io_b hf
    refine xcTI (wc := []) (wc' := []) (ws' := []) (As := []) (rest := [.int x2, .int x1, .ref t_val]) hx hb hml hown hT (c_Str_length hq3) k_446 k_447 k_448 k_8 k_449 hd_Str_length ⟨Nat.le_of_ble_eq_true rfl, Nat.le_of_ble_eq_true rfl⟩ (xEv_ok _ _ _ _) hE hA hK hP hD hS [] [] [] rfl rfl rfl rfl rfl rfl rfl (x_rec hO_str hS) hl.1 rfl (Nat.le_of_ble_eq_true rfl) ⟨Nat.zero_le _, Nat.zero_le _⟩ d_Str_indexOf2_30 (fun H locs hP hD hS => ?_)
    exact nomatch (show (none : Option (Int32)) = some q from hf)
  · have hf := io_f hf c2
    refine lv_aload_n hx hb d_Str_indexOf2_7 rfl (lv_at hl 0 rfl) ?_
    refine vk_getf hx hb hV_str hS hown (hT _ k_556) (fun _ h => h) d_Str_indexOf2_8 ?_
    refine lv_iload_n hx hb d_Str_indexOf2_11 rfl (lv_at hl 1 rfl) ?_
    refine lv_iload_n hx hb d_Str_indexOf2_12 rfl (lv_at hl 2 rfl) ?_
    refine lv_aload_n hx hb d_Str_indexOf2_13 rfl (lv_at hl 0 rfl) ?_
    obtain ⟨q4, hq4, hf⟩ := io_b hf
    refine xcTI (wc := []) (wc' := []) (ws' := []) (As := []) (rest := [.int x2, .int x1, .ref t_val]) hx hb hml hown hT (c_Str_length hq4) k_446 k_447 k_448 k_8 k_449 hd_Str_length ⟨Nat.le_of_ble_eq_true rfl, Nat.le_of_ble_eq_true rfl⟩ (xEv_ok _ _ _ _) hE hA hK hP hD hS [] [] [] rfl rfl rfl rfl rfl rfl rfl (x_rec hO_str hS) hl.1 rfl (Nat.le_of_ble_eq_true rfl) ⟨Nat.zero_le _, Nat.zero_le _⟩ d_Str_indexOf2_14 (fun H locs hP hD hS => ?_)
    obtain ⟨q5, hq5, hf⟩ := io_b hf
    refine xcSI (wc := []) (wc' := []) (ws' := []) (As := [.ref t_val, .int x1, .int x2, .int q4]) (rest := []) hx hb hml hown hT (c_Lat_indexOf hq5) k_454 k_455 k_9 k_456 hd_Lat_indexOf ⟨Nat.le_of_ble_eq_true rfl, Nat.le_of_ble_eq_true rfl⟩ (xEv_ok _ _ _ _) hE hA hK hP hD hS [] [] [] rfl rfl rfl rfl rfl rfl rfl hl.1 rfl (Nat.le_of_ble_eq_true rfl) ⟨Nat.zero_le _, Nat.zero_le _⟩ d_Str_indexOf2_17 (fun H locs hP hD hS => ?_)
    refine lv_goto (tgt := 36) hx hb d_Str_indexOf2_20 (by decide) ?_
    have hq := Option.some.inj hf
    subst hq
    exact hret _ _ _ _ _ d_Str_indexOf2_36 rfl rfl hP hD hS
theorem d_Str_indexOf1_0 : decode b_Str_indexOf1 0 = .ok (.aload_n 0, 1) := by decide +kernel
theorem d_Str_indexOf1_1 : decode b_Str_indexOf1 1 = .ok (.iload_n 1, 1) := by decide +kernel
theorem d_Str_indexOf1_2 : decode b_Str_indexOf1 2 = .ok (.iconst 0, 1) := by decide +kernel
theorem d_Str_indexOf1_3 : decode b_Str_indexOf1 3 = .ok (.invokevirtual 633, 3) := by decide +kernel
theorem d_Str_indexOf1_6 : decode b_Str_indexOf1 6 = .ok (.ireturn, 1) := by decide +kernel
set_option maxHeartbeats 4000000 in
set_option maxRecDepth 100000 in
theorem c_Str_indexOf1 {l : Launch} {D : va_G} {cI cJ cC : ClassId} {t_LEAST_SETTING t_GREATEST_SETTING t_str t_val : Nat} {x1 : Int32} {q : Int32} (hf : f_Str_indexOf1 x1 = some q) : xI l y_Str_indexOf1 b_Str_indexOf1 2 .int 3 70 D (tyK cI cJ cC) (xEv t_LEAST_SETTING t_GREATEST_SETTING t_str t_val) [.ref t_str, .int x1] [] q [] := by
  refine xI_of (by decide) (Nat.le_of_ble_eq_true rfl) ?_
  intro p e s m args below meth c A Q hx hb hml hown hT hA hP hD hK hS hE hret ls hl
  have hown : s.vm.findClass R_Str = some m.cls := hown
  have hl : lv_has ls 2 [(0, .ref t_str), (1, .int x1)] := hl
  unfold f_Str_indexOf1 at hf
  obtain ⟨hZ_LEAST_SETTING, hT_LEAST_SETTING, hZ_GREATEST_SETTING, hT_GREATEST_SETTING, hZ_CS, hO_str, hC_str, hV_str, hT_str, hR_str, hN_X_outside, hNF_LEAST_SETTING, hNF_GREATEST_SETTING⟩ := id hE
  refine lv_aload_n hx hb d_Str_indexOf1_0 rfl (lv_at hl 0 rfl) ?_
  refine lv_iload_n hx hb d_Str_indexOf1_1 rfl (lv_at hl 1 rfl) ?_
  refine lv_iconst (v := 0) hx hb d_Str_indexOf1_2 (by decide) ?_
  obtain ⟨q1, hq1, hf⟩ := io_b hf
  refine xcTI (wc := []) (wc' := []) (ws' := []) (As := [.int x1, .int 0]) (rest := []) hx hb hml hown hT (c_Str_indexOf2 hq1) k_436 k_437 k_438 k_8 k_439 hd_Str_indexOf2 ⟨Nat.le_of_ble_eq_true rfl, Nat.le_of_ble_eq_true rfl⟩ (xEv_ok _ _ _ _) hE hA hK hP hD hS [] [] [] rfl rfl rfl rfl rfl rfl rfl (x_rec hO_str hS) hl.1 rfl (Nat.le_of_ble_eq_true rfl) ⟨Nat.zero_le _, Nat.zero_le _⟩ d_Str_indexOf1_3 (fun H locs hP hD hS => ?_)
  have hq := Option.some.inj hf
  subst hq
  exact hret _ _ _ _ _ d_Str_indexOf1_6 rfl rfl hP hD hS
theorem d_Letters_behind_0 : decode b_Letters_behind 0 = .ok (.iload_n 0, 1) := by decide +kernel
theorem d_Letters_behind_1 : decode b_Letters_behind 1 = .ok (.tableswitch 144 0 7 #[47, 52, 67, 80, 96, 112, 117, 131], 47) := by decide +kernel
theorem d_Letters_behind_48 : decode b_Letters_behind 48 = .ok (.iload_n 1, 1) := by decide +kernel
theorem d_Letters_behind_49 : decode b_Letters_behind 49 = .ok (.invokestatic 42, 3) := by decide +kernel
theorem d_Letters_behind_52 : decode b_Letters_behind 52 = .ok (.ireturn, 1) := by decide +kernel
theorem d_Letters_behind_53 : decode b_Letters_behind 53 = .ok (.ldc 46, 2) := by decide +kernel
theorem d_Letters_behind_55 : decode b_Letters_behind 55 = .ok (.iload_n 1, 1) := by decide +kernel
theorem d_Letters_behind_56 : decode b_Letters_behind 56 = .ok (.invokevirtual 48, 3) := by decide +kernel
theorem d_Letters_behind_59 : decode b_Letters_behind 59 = .ok (.ifCond .lt 7, 3) := by decide +kernel
theorem d_Letters_behind_62 : decode b_Letters_behind 62 = .ok (.iconst 2, 1) := by decide +kernel
theorem d_Letters_behind_63 : decode b_Letters_behind 63 = .ok (.goto 4, 3) := by decide +kernel
theorem d_Letters_behind_66 : decode b_Letters_behind 66 = .ok (.iconst (-1), 1) := by decide +kernel
theorem d_Letters_behind_67 : decode b_Letters_behind 67 = .ok (.ireturn, 1) := by decide +kernel
theorem d_Letters_behind_68 : decode b_Letters_behind 68 = .ok (.iload_n 1, 1) := by decide +kernel
theorem d_Letters_behind_69 : decode b_Letters_behind 69 = .ok (.invokestatic 54, 3) := by decide +kernel
theorem d_Letters_behind_72 : decode b_Letters_behind 72 = .ok (.ifCond .eq 7, 3) := by decide +kernel
theorem d_Letters_behind_75 : decode b_Letters_behind 75 = .ok (.iconst 3, 1) := by decide +kernel
theorem d_Letters_behind_76 : decode b_Letters_behind 76 = .ok (.goto 4, 3) := by decide +kernel
theorem d_Letters_behind_79 : decode b_Letters_behind 79 = .ok (.iconst (-1), 1) := by decide +kernel
theorem d_Letters_behind_80 : decode b_Letters_behind 80 = .ok (.ireturn, 1) := by decide +kernel
theorem d_Letters_behind_81 : decode b_Letters_behind 81 = .ok (.iload_n 1, 1) := by decide +kernel
theorem d_Letters_behind_82 : decode b_Letters_behind 82 = .ok (.invokestatic 54, 3) := by decide +kernel
theorem d_Letters_behind_85 : decode b_Letters_behind 85 = .ok (.ifCond .eq 7, 3) := by decide +kernel
theorem d_Letters_behind_88 : decode b_Letters_behind 88 = .ok (.iconst 4, 1) := by decide +kernel
theorem d_Letters_behind_89 : decode b_Letters_behind 89 = .ok (.goto 7, 3) := by decide +kernel
theorem d_Letters_behind_92 : decode b_Letters_behind 92 = .ok (.iload_n 1, 1) := by decide +kernel
theorem d_Letters_behind_93 : decode b_Letters_behind 93 = .ok (.invokestatic 58, 3) := by decide +kernel
theorem d_Letters_behind_96 : decode b_Letters_behind 96 = .ok (.ireturn, 1) := by decide +kernel
theorem d_Letters_behind_97 : decode b_Letters_behind 97 = .ok (.iload_n 1, 1) := by decide +kernel
theorem d_Letters_behind_98 : decode b_Letters_behind 98 = .ok (.invokestatic 54, 3) := by decide +kernel
theorem d_Letters_behind_101 : decode b_Letters_behind 101 = .ok (.ifCond .eq 7, 3) := by decide +kernel
theorem d_Letters_behind_104 : decode b_Letters_behind 104 = .ok (.iconst 5, 1) := by decide +kernel
theorem d_Letters_behind_105 : decode b_Letters_behind 105 = .ok (.goto 7, 3) := by decide +kernel
theorem d_Letters_behind_108 : decode b_Letters_behind 108 = .ok (.iload_n 1, 1) := by decide +kernel
theorem d_Letters_behind_109 : decode b_Letters_behind 109 = .ok (.invokestatic 58, 3) := by decide +kernel
theorem d_Letters_behind_112 : decode b_Letters_behind 112 = .ok (.ireturn, 1) := by decide +kernel
theorem d_Letters_behind_113 : decode b_Letters_behind 113 = .ok (.iload_n 1, 1) := by decide +kernel
theorem d_Letters_behind_114 : decode b_Letters_behind 114 = .ok (.invokestatic 58, 3) := by decide +kernel
theorem d_Letters_behind_117 : decode b_Letters_behind 117 = .ok (.ireturn, 1) := by decide +kernel
theorem d_Letters_behind_118 : decode b_Letters_behind 118 = .ok (.iload_n 1, 1) := by decide +kernel
theorem d_Letters_behind_119 : decode b_Letters_behind 119 = .ok (.invokestatic 54, 3) := by decide +kernel
theorem d_Letters_behind_122 : decode b_Letters_behind 122 = .ok (.ifCond .eq 8, 3) := by decide +kernel
theorem d_Letters_behind_125 : decode b_Letters_behind 125 = .ok (.bipush 7, 2) := by decide +kernel
theorem d_Letters_behind_127 : decode b_Letters_behind 127 = .ok (.goto 4, 3) := by decide +kernel
theorem d_Letters_behind_130 : decode b_Letters_behind 130 = .ok (.iconst (-1), 1) := by decide +kernel
theorem d_Letters_behind_131 : decode b_Letters_behind 131 = .ok (.ireturn, 1) := by decide +kernel
theorem d_Letters_behind_132 : decode b_Letters_behind 132 = .ok (.iload_n 1, 1) := by decide +kernel
theorem d_Letters_behind_133 : decode b_Letters_behind 133 = .ok (.invokestatic 54, 3) := by decide +kernel
theorem d_Letters_behind_136 : decode b_Letters_behind 136 = .ok (.ifCond .eq 7, 3) := by decide +kernel
theorem d_Letters_behind_139 : decode b_Letters_behind 139 = .ok (.iconst 5, 1) := by decide +kernel
theorem d_Letters_behind_140 : decode b_Letters_behind 140 = .ok (.goto 4, 3) := by decide +kernel
theorem d_Letters_behind_143 : decode b_Letters_behind 143 = .ok (.iconst (-1), 1) := by decide +kernel
theorem d_Letters_behind_144 : decode b_Letters_behind 144 = .ok (.ireturn, 1) := by decide +kernel
theorem d_Letters_behind_145 : decode b_Letters_behind 145 = .ok (.iconst (-1), 1) := by decide +kernel
theorem d_Letters_behind_146 : decode b_Letters_behind 146 = .ok (.ireturn, 1) := by decide +kernel
set_option maxHeartbeats 4000000 in
set_option maxRecDepth 100000 in
theorem c_Letters_behind {l : Launch} {D : va_G} {cI cJ cC : ClassId} {t_LEAST_SETTING t_GREATEST_SETTING t_str t_val : Nat} {x0 : Int32} {x1 : Int32} {q : Int32} (hf : f_Letters_behind x0 x1 = some q) : xI l y_Letters_behind b_Letters_behind 2 .int 4 91 D (tyK cI cJ cC) (xEv t_LEAST_SETTING t_GREATEST_SETTING t_str t_val) [.int x0, .int x1] [] q [] := by
  refine xI_of (by decide) (Nat.le_of_ble_eq_true rfl) ?_
  intro p e s m args below meth c A Q hx hb hml hown hT hA hP hD hK hS hE hret ls hl
  have hown : s.vm.findClass R_Letters = some m.cls := hown
  have hl : lv_has ls 2 [(0, .int x0), (1, .int x1)] := hl
  unfold f_Letters_behind at hf
  obtain ⟨hZ_LEAST_SETTING, hT_LEAST_SETTING, hZ_GREATEST_SETTING, hT_GREATEST_SETTING, hZ_CS, hO_str, hC_str, hV_str, hT_str, hR_str, hN_X_outside, hNF_LEAST_SETTING, hNF_GREATEST_SETTING⟩ := id hE
  refine lv_iload_n hx hb d_Letters_behind_0 rfl (lv_at hl 0 rfl) ?_
  rcases Decidable.em (x0 = 0) with c1 | c1
  · have hf := io_t hf c1
    refine lv_tableIn (off := 47) (tgt := 48) hx hb d_Letters_behind_1 (by rw [c1]; decide +kernel) (by rw [c1]; decide +kernel) (by rw [c1]; rfl) (by decide) ?_
    refine lv_iload_n hx hb d_Letters_behind_48 rfl (lv_at hl 1 rfl) ?_
    obtain ⟨q2, hq2, hf⟩ := io_b hf
    refine xcSI (wc := []) (wc' := []) (ws' := []) (As := [.int x1]) (rest := []) hx hb hml hown hT (c_Letters_behindStart hq2) k_428 k_429 k_3 k_430 hd_Letters_behindStart ⟨Nat.le_of_ble_eq_true rfl, Nat.le_of_ble_eq_true rfl⟩ xE0_ok trivial hA hK hP hD hS [] [] [] rfl rfl rfl rfl rfl rfl rfl hl.1 rfl (Nat.le_of_ble_eq_true rfl) ⟨Nat.zero_le _, Nat.zero_le _⟩ d_Letters_behind_49 (fun H locs hP hD hS => ?_)
    have hq := Option.some.inj hf
    subst hq
    exact hret _ _ _ _ _ d_Letters_behind_52 rfl rfl hP hD hS
  · have hf := io_f hf c1
    rcases Decidable.em (x0 = 1) with c3 | c3
    · have hf := io_t hf c3
      refine lv_tableIn (off := 52) (tgt := 53) hx hb d_Letters_behind_1 (by rw [c3]; decide +kernel) (by rw [c3]; decide +kernel) (by rw [c3]; rfl) (by decide) ?_
      refine va_ldcS hx hb hown hR_str d_Letters_behind_53 ?_
      refine lv_iload_n hx hb d_Letters_behind_55 rfl (lv_at hl 1 rfl) ?_
      obtain ⟨q4, hq4, hf⟩ := io_b hf
      refine xcTI (wc := []) (wc' := []) (ws' := []) (As := [.int x1]) (rest := []) hx hb hml hown hT (c_Str_indexOf1 hq4) k_432 k_433 k_434 k_8 k_435 hd_Str_indexOf1 ⟨Nat.le_of_ble_eq_true rfl, Nat.le_of_ble_eq_true rfl⟩ (xEv_ok _ _ _ _) hE hA hK hP hD hS [] [] [] rfl rfl rfl rfl rfl rfl rfl (x_rec hO_str hS) hl.1 rfl (Nat.le_of_ble_eq_true rfl) ⟨Nat.zero_le _, Nat.zero_le _⟩ d_Letters_behind_56 (fun H locs hP hD hS => ?_)
      refine lv_if_lt (tgt := 66) hx hb d_Letters_behind_59 (by decide) (fun c5 => ?_) (fun c5 => ?_)
      · have hf := io_t hf c5
        refine lv_iconst (v := (-1)) hx hb d_Letters_behind_66 (by decide) ?_
        have hq := Option.some.inj hf
        subst hq
        exact hret _ _ _ _ _ d_Letters_behind_67 rfl rfl hP hD hS
      · have hf := io_f hf c5
        refine lv_iconst (v := 2) hx hb d_Letters_behind_62 (by decide) ?_
        refine lv_goto (tgt := 67) hx hb d_Letters_behind_63 (by decide) ?_
        have hq := Option.some.inj hf
        subst hq
        exact hret _ _ _ _ _ d_Letters_behind_67 rfl rfl hP hD hS
    · have hf := io_f hf c3
      rcases Decidable.em (x0 = 2) with c6 | c6
      · have hf := io_t hf c6
        refine lv_tableIn (off := 67) (tgt := 68) hx hb d_Letters_behind_1 (by rw [c6]; decide +kernel) (by rw [c6]; decide +kernel) (by rw [c6]; rfl) (by decide) ?_
        refine lv_iload_n hx hb d_Letters_behind_68 rfl (lv_at hl 1 rfl) ?_
        obtain ⟨q7, hq7, hf⟩ := io_b hf
        refine xcSI (wc := []) (wc' := []) (ws' := []) (As := [.int x1]) (rest := []) hx hb hml hown hT (c_Letters_isDigit hq7) k_514 k_515 k_3 k_516 hd_Letters_isDigit ⟨Nat.le_of_ble_eq_true rfl, Nat.le_of_ble_eq_true rfl⟩ xE0_ok trivial hA hK hP hD hS [] [] [] rfl rfl rfl rfl rfl rfl rfl hl.1 rfl (Nat.le_of_ble_eq_true rfl) ⟨Nat.zero_le _, Nat.zero_le _⟩ d_Letters_behind_69 (fun H locs hP hD hS => ?_)
        refine lv_if_eq (tgt := 79) hx hb d_Letters_behind_72 (by decide) (fun c8 => ?_) (fun c8 => ?_)
        · have hf := io_t hf c8
          refine lv_iconst (v := (-1)) hx hb d_Letters_behind_79 (by decide) ?_
          have hq := Option.some.inj hf
          subst hq
          exact hret _ _ _ _ _ d_Letters_behind_80 rfl rfl hP hD hS
        · have hf := io_f hf c8
          refine lv_iconst (v := 3) hx hb d_Letters_behind_75 (by decide) ?_
          refine lv_goto (tgt := 80) hx hb d_Letters_behind_76 (by decide) ?_
          have hq := Option.some.inj hf
          subst hq
          exact hret _ _ _ _ _ d_Letters_behind_80 rfl rfl hP hD hS
      · have hf := io_f hf c6
        rcases Decidable.em (x0 = 3) with c9 | c9
        · have hf := io_t hf c9
          refine lv_tableIn (off := 80) (tgt := 81) hx hb d_Letters_behind_1 (by rw [c9]; decide +kernel) (by rw [c9]; decide +kernel) (by rw [c9]; rfl) (by decide) ?_
          refine lv_iload_n hx hb d_Letters_behind_81 rfl (lv_at hl 1 rfl) ?_
          obtain ⟨q10, hq10, hf⟩ := io_b hf
          refine xcSI (wc := []) (wc' := []) (ws' := []) (As := [.int x1]) (rest := []) hx hb hml hown hT (c_Letters_isDigit hq10) k_514 k_515 k_3 k_516 hd_Letters_isDigit ⟨Nat.le_of_ble_eq_true rfl, Nat.le_of_ble_eq_true rfl⟩ xE0_ok trivial hA hK hP hD hS [] [] [] rfl rfl rfl rfl rfl rfl rfl hl.1 rfl (Nat.le_of_ble_eq_true rfl) ⟨Nat.zero_le _, Nat.zero_le _⟩ d_Letters_behind_82 (fun H locs hP hD hS => ?_)
          refine lv_if_eq (tgt := 92) hx hb d_Letters_behind_85 (by decide) (fun c11 => ?_) (fun c11 => ?_)
          · have hf := io_t hf c11
            refine lv_iload_n hx hb d_Letters_behind_92 rfl (lv_at hl 1 rfl) ?_
            obtain ⟨q12, hq12, hf⟩ := io_b hf
            refine xcSI (wc := []) (wc' := []) (ws' := []) (As := [.int x1]) (rest := []) hx hb hml hown hT (c_Letters_behindEnd hq12) k_517 k_518 k_3 k_519 hd_Letters_behindEnd ⟨Nat.le_of_ble_eq_true rfl, Nat.le_of_ble_eq_true rfl⟩ xE0_ok trivial hA hK hP hD hS [] [] [] rfl rfl rfl rfl rfl rfl rfl hl.1 rfl (Nat.le_of_ble_eq_true rfl) ⟨Nat.zero_le _, Nat.zero_le _⟩ d_Letters_behind_93 (fun H locs hP hD hS => ?_)
            have hq := Option.some.inj hf
            subst hq
            exact hret _ _ _ _ _ d_Letters_behind_96 rfl rfl hP hD hS
          · have hf := io_f hf c11
            refine lv_iconst (v := 4) hx hb d_Letters_behind_88 (by decide) ?_
            refine lv_goto (tgt := 96) hx hb d_Letters_behind_89 (by decide) ?_
            have hq := Option.some.inj hf
            subst hq
            exact hret _ _ _ _ _ d_Letters_behind_96 rfl rfl hP hD hS
        · have hf := io_f hf c9
          rcases Decidable.em (x0 = 4) with c13 | c13
          · have hf := io_t hf c13
            refine lv_tableIn (off := 96) (tgt := 97) hx hb d_Letters_behind_1 (by rw [c13]; decide +kernel) (by rw [c13]; decide +kernel) (by rw [c13]; rfl) (by decide) ?_
            refine lv_iload_n hx hb d_Letters_behind_97 rfl (lv_at hl 1 rfl) ?_
            obtain ⟨q14, hq14, hf⟩ := io_b hf
            refine xcSI (wc := []) (wc' := []) (ws' := []) (As := [.int x1]) (rest := []) hx hb hml hown hT (c_Letters_isDigit hq14) k_514 k_515 k_3 k_516 hd_Letters_isDigit ⟨Nat.le_of_ble_eq_true rfl, Nat.le_of_ble_eq_true rfl⟩ xE0_ok trivial hA hK hP hD hS [] [] [] rfl rfl rfl rfl rfl rfl rfl hl.1 rfl (Nat.le_of_ble_eq_true rfl) ⟨Nat.zero_le _, Nat.zero_le _⟩ d_Letters_behind_98 (fun H locs hP hD hS => ?_)
            refine lv_if_eq (tgt := 108) hx hb d_Letters_behind_101 (by decide) (fun c15 => ?_) (fun c15 => ?_)
            · have hf := io_t hf c15
              refine lv_iload_n hx hb d_Letters_behind_108 rfl (lv_at hl 1 rfl) ?_
              obtain ⟨q16, hq16, hf⟩ := io_b hf
              refine xcSI (wc := []) (wc' := []) (ws' := []) (As := [.int x1]) (rest := []) hx hb hml hown hT (c_Letters_behindEnd hq16) k_517 k_518 k_3 k_519 hd_Letters_behindEnd ⟨Nat.le_of_ble_eq_true rfl, Nat.le_of_ble_eq_true rfl⟩ xE0_ok trivial hA hK hP hD hS [] [] [] rfl rfl rfl rfl rfl rfl rfl hl.1 rfl (Nat.le_of_ble_eq_true rfl) ⟨Nat.zero_le _, Nat.zero_le _⟩ d_Letters_behind_109 (fun H locs hP hD hS => ?_)
              have hq := Option.some.inj hf
              subst hq
              exact hret _ _ _ _ _ d_Letters_behind_112 rfl rfl hP hD hS
            · have hf := io_f hf c15
              refine lv_iconst (v := 5) hx hb d_Letters_behind_104 (by decide) ?_
              refine lv_goto (tgt := 112) hx hb d_Letters_behind_105 (by decide) ?_
              have hq := Option.some.inj hf
              subst hq
              exact hret _ _ _ _ _ d_Letters_behind_112 rfl rfl hP hD hS
          · have hf := io_f hf c13
            rcases Decidable.em (x0 = 5) with c17 | c17
            · have hf := io_t hf c17
              refine lv_tableIn (off := 112) (tgt := 113) hx hb d_Letters_behind_1 (by rw [c17]; decide +kernel) (by rw [c17]; decide +kernel) (by rw [c17]; rfl) (by decide) ?_
              refine lv_iload_n hx hb d_Letters_behind_113 rfl (lv_at hl 1 rfl) ?_
              obtain ⟨q18, hq18, hf⟩ := io_b hf
              refine xcSI (wc := []) (wc' := []) (ws' := []) (As := [.int x1]) (rest := []) hx hb hml hown hT (c_Letters_behindEnd hq18) k_517 k_518 k_3 k_519 hd_Letters_behindEnd ⟨Nat.le_of_ble_eq_true rfl, Nat.le_of_ble_eq_true rfl⟩ xE0_ok trivial hA hK hP hD hS [] [] [] rfl rfl rfl rfl rfl rfl rfl hl.1 rfl (Nat.le_of_ble_eq_true rfl) ⟨Nat.zero_le _, Nat.zero_le _⟩ d_Letters_behind_114 (fun H locs hP hD hS => ?_)
              have hq := Option.some.inj hf
              subst hq
              exact hret _ _ _ _ _ d_Letters_behind_117 rfl rfl hP hD hS
            · have hf := io_f hf c17
              rcases Decidable.em (x0 = 6) with c19 | c19
              · have hf := io_t hf c19
                refine lv_tableIn (off := 117) (tgt := 118) hx hb d_Letters_behind_1 (by rw [c19]; decide +kernel) (by rw [c19]; decide +kernel) (by rw [c19]; rfl) (by decide) ?_
                refine lv_iload_n hx hb d_Letters_behind_118 rfl (lv_at hl 1 rfl) ?_
                obtain ⟨q20, hq20, hf⟩ := io_b hf
                refine xcSI (wc := []) (wc' := []) (ws' := []) (As := [.int x1]) (rest := []) hx hb hml hown hT (c_Letters_isDigit hq20) k_514 k_515 k_3 k_516 hd_Letters_isDigit ⟨Nat.le_of_ble_eq_true rfl, Nat.le_of_ble_eq_true rfl⟩ xE0_ok trivial hA hK hP hD hS [] [] [] rfl rfl rfl rfl rfl rfl rfl hl.1 rfl (Nat.le_of_ble_eq_true rfl) ⟨Nat.zero_le _, Nat.zero_le _⟩ d_Letters_behind_119 (fun H locs hP hD hS => ?_)
                refine lv_if_eq (tgt := 130) hx hb d_Letters_behind_122 (by decide) (fun c21 => ?_) (fun c21 => ?_)
                · have hf := io_t hf c21
                  refine lv_iconst (v := (-1)) hx hb d_Letters_behind_130 (by decide) ?_
                  have hq := Option.some.inj hf
                  subst hq
                  exact hret _ _ _ _ _ d_Letters_behind_131 rfl rfl hP hD hS
                · have hf := io_f hf c21
                  refine lv_bipush (v := 7) hx hb d_Letters_behind_125 (by decide) ?_
                  refine lv_goto (tgt := 131) hx hb d_Letters_behind_127 (by decide) ?_
                  have hq := Option.some.inj hf
                  subst hq
                  exact hret _ _ _ _ _ d_Letters_behind_131 rfl rfl hP hD hS
              · have hf := io_f hf c19
                rcases Decidable.em (x0 = 7) with c22 | c22
                · have hf := io_t hf c22
                  refine lv_tableIn (off := 131) (tgt := 132) hx hb d_Letters_behind_1 (by rw [c22]; decide +kernel) (by rw [c22]; decide +kernel) (by rw [c22]; rfl) (by decide) ?_
                  refine lv_iload_n hx hb d_Letters_behind_132 rfl (lv_at hl 1 rfl) ?_
                  obtain ⟨q23, hq23, hf⟩ := io_b hf
                  refine xcSI (wc := []) (wc' := []) (ws' := []) (As := [.int x1]) (rest := []) hx hb hml hown hT (c_Letters_isDigit hq23) k_514 k_515 k_3 k_516 hd_Letters_isDigit ⟨Nat.le_of_ble_eq_true rfl, Nat.le_of_ble_eq_true rfl⟩ xE0_ok trivial hA hK hP hD hS [] [] [] rfl rfl rfl rfl rfl rfl rfl hl.1 rfl (Nat.le_of_ble_eq_true rfl) ⟨Nat.zero_le _, Nat.zero_le _⟩ d_Letters_behind_133 (fun H locs hP hD hS => ?_)
                  refine lv_if_eq (tgt := 143) hx hb d_Letters_behind_136 (by decide) (fun c24 => ?_) (fun c24 => ?_)
                  · have hf := io_t hf c24
                    refine lv_iconst (v := (-1)) hx hb d_Letters_behind_143 (by decide) ?_
                    have hq := Option.some.inj hf
                    subst hq
                    exact hret _ _ _ _ _ d_Letters_behind_144 rfl rfl hP hD hS
                  · have hf := io_f hf c24
                    refine lv_iconst (v := 5) hx hb d_Letters_behind_139 (by decide) ?_
                    refine lv_goto (tgt := 144) hx hb d_Letters_behind_140 (by decide) ?_
                    have hq := Option.some.inj hf
                    subst hq
                    exact hret _ _ _ _ _ d_Letters_behind_144 rfl rfl hP hD hS
                · have hf := io_f hf c22
                  refine lv_tableOut (tgt := 145) hx hb d_Letters_behind_1 (by have e0 := lv_neT (a := 0) c1 (by decide +kernel); have e1 := lv_neT (a := 1) c3 (by decide +kernel); have e2 := lv_neT (a := 2) c6 (by decide +kernel); have e3 := lv_neT (a := 3) c9 (by decide +kernel); have e4 := lv_neT (a := 4) c13 (by decide +kernel); have e5 := lv_neT (a := 5) c17 (by decide +kernel); have e6 := lv_neT (a := 6) c19 (by decide +kernel); have e7 := lv_neT (a := 7) c22 (by decide +kernel); omega) (by decide) ?_
                  refine lv_iconst (v := (-1)) hx hb d_Letters_behind_145 (by decide) ?_
                  have hq := Option.some.inj hf
                  subst hq
                  exact hret _ _ _ _ _ d_Letters_behind_146 rfl rfl hP hD hS
abbrev w_Letters_placeOfBadForm (cI cJ cC : ClassId) (a_h a_h_text a_h_trial : Nat) (p_h_length : Int32) (p_h_text : (Nat → Int32)) : va_W := [(a_h, .inr (2, [.int p_h_length, .ref a_h_text, .ref a_h_trial])), (a_h_text, .inl (cC, (64, .inl p_h_text)))]
theorem d_Letters_placeOfBadForm_0 : decode b_Letters_placeOfBadForm 0 = .ok (.iconst 0, 1) := by decide +kernel
theorem d_Letters_placeOfBadForm_1 : decode b_Letters_placeOfBadForm 1 = .ok (.istore_n 1, 1) := by decide +kernel
theorem d_Letters_placeOfBadForm_2 : decode b_Letters_placeOfBadForm 2 = .ok (.iconst 0, 1) := by decide +kernel
theorem d_Letters_placeOfBadForm_3 : decode b_Letters_placeOfBadForm 3 = .ok (.istore_n 2, 1) := by decide +kernel
theorem d_Letters_placeOfBadForm_4 : decode b_Letters_placeOfBadForm 4 = .ok (.iload_n 2, 1) := by decide +kernel
theorem d_Letters_placeOfBadForm_5 : decode b_Letters_placeOfBadForm 5 = .ok (.aload_n 0, 1) := by decide +kernel
theorem d_Letters_placeOfBadForm_6 : decode b_Letters_placeOfBadForm 6 = .ok (.getfield 9, 3) := by decide +kernel
theorem d_Letters_placeOfBadForm_9 : decode b_Letters_placeOfBadForm 9 = .ok (.if_icmp .ge 27, 3) := by decide +kernel
theorem d_Letters_placeOfBadForm_12 : decode b_Letters_placeOfBadForm 12 = .ok (.iload_n 1, 1) := by decide +kernel
theorem d_Letters_placeOfBadForm_13 : decode b_Letters_placeOfBadForm 13 = .ok (.aload_n 0, 1) := by decide +kernel
theorem d_Letters_placeOfBadForm_14 : decode b_Letters_placeOfBadForm 14 = .ok (.getfield 15, 3) := by decide +kernel
theorem d_Letters_placeOfBadForm_17 : decode b_Letters_placeOfBadForm 17 = .ok (.iload_n 2, 1) := by decide +kernel
theorem d_Letters_placeOfBadForm_18 : decode b_Letters_placeOfBadForm 18 = .ok (.caload, 1) := by decide +kernel
theorem d_Letters_placeOfBadForm_19 : decode b_Letters_placeOfBadForm 19 = .ok (.invokestatic 38, 3) := by decide +kernel
theorem d_Letters_placeOfBadForm_22 : decode b_Letters_placeOfBadForm 22 = .ok (.istore_n 1, 1) := by decide +kernel
theorem d_Letters_placeOfBadForm_23 : decode b_Letters_placeOfBadForm 23 = .ok (.iload_n 1, 1) := by decide +kernel
theorem d_Letters_placeOfBadForm_24 : decode b_Letters_placeOfBadForm 24 = .ok (.iconst (-1), 1) := by decide +kernel
theorem d_Letters_placeOfBadForm_25 : decode b_Letters_placeOfBadForm 25 = .ok (.if_icmp .ne 5, 3) := by decide +kernel
theorem d_Letters_placeOfBadForm_28 : decode b_Letters_placeOfBadForm 28 = .ok (.iload_n 2, 1) := by decide +kernel
theorem d_Letters_placeOfBadForm_29 : decode b_Letters_placeOfBadForm 29 = .ok (.ireturn, 1) := by decide +kernel
theorem d_Letters_placeOfBadForm_30 : decode b_Letters_placeOfBadForm 30 = .ok (.iinc 2 1, 3) := by decide +kernel
theorem d_Letters_placeOfBadForm_33 : decode b_Letters_placeOfBadForm 33 = .ok (.goto (-29), 3) := by decide +kernel
theorem d_Letters_placeOfBadForm_36 : decode b_Letters_placeOfBadForm 36 = .ok (.aload_n 0, 1) := by decide +kernel
theorem d_Letters_placeOfBadForm_37 : decode b_Letters_placeOfBadForm 37 = .ok (.getfield 9, 3) := by decide +kernel
theorem d_Letters_placeOfBadForm_40 : decode b_Letters_placeOfBadForm 40 = .ok (.ifCond .le 11, 3) := by decide +kernel
theorem d_Letters_placeOfBadForm_43 : decode b_Letters_placeOfBadForm 43 = .ok (.iload_n 1, 1) := by decide +kernel
theorem d_Letters_placeOfBadForm_44 : decode b_Letters_placeOfBadForm 44 = .ok (.ifCond .ne 7, 3) := by decide +kernel
theorem d_Letters_placeOfBadForm_47 : decode b_Letters_placeOfBadForm 47 = .ok (.iconst (-1), 1) := by decide +kernel
theorem d_Letters_placeOfBadForm_48 : decode b_Letters_placeOfBadForm 48 = .ok (.goto 7, 3) := by decide +kernel
theorem d_Letters_placeOfBadForm_51 : decode b_Letters_placeOfBadForm 51 = .ok (.aload_n 0, 1) := by decide +kernel
theorem d_Letters_placeOfBadForm_52 : decode b_Letters_placeOfBadForm 52 = .ok (.getfield 9, 3) := by decide +kernel
theorem d_Letters_placeOfBadForm_55 : decode b_Letters_placeOfBadForm 55 = .ok (.ireturn, 1) := by decide +kernel
set_option maxHeartbeats 4000000 in
set_option maxRecDepth 100000 in
theorem c_Letters_placeOfBadForm {l : Launch} {D : va_G} {cI cJ cC : ClassId} {t_LEAST_SETTING t_GREATEST_SETTING t_str t_val : Nat} (a_h a_h_text a_h_trial : Nat) {z_h_length : Int32} {z_h_text : (Nat → Int32)} {q : Int32} (hf : f_Letters_placeOfBadForm z_h_length z_h_text = some q) : xI l y_Letters_placeOfBadForm b_Letters_placeOfBadForm 3 .int 5 112 D (tyK cI cJ cC) (xEv t_LEAST_SETTING t_GREATEST_SETTING t_str t_val) [.ref a_h] (w_Letters_placeOfBadForm cI cJ cC a_h a_h_text a_h_trial z_h_length z_h_text) q (w_Letters_placeOfBadForm cI cJ cC a_h a_h_text a_h_trial z_h_length z_h_text) := by
  refine xI_of (by decide) (Nat.le_of_ble_eq_true rfl) ?_
  intro p e s m args below meth c A Q hx hb hml hown hT hA hP hD hK hS hE hret ls hl
  have hown : s.vm.findClass R_Letters = some m.cls := hown
  have hl : lv_has ls 3 [(0, .ref a_h)] := hl
  unfold f_Letters_placeOfBadForm at hf
  obtain ⟨hZ_LEAST_SETTING, hT_LEAST_SETTING, hZ_GREATEST_SETTING, hT_GREATEST_SETTING, hZ_CS, hO_str, hC_str, hV_str, hT_str, hR_str, hN_X_outside, hNF_LEAST_SETTING, hNF_GREATEST_SETTING⟩ := id hE
  have L4 : ∀ (n : Nat) (x1 : Int32) (x2 : Int32) (H : Heap) (locs : List Loc) (ls : Array Slot), f_Letters_placeOfBadForm_L4 z_h_length z_h_text n x1 x2 = some q → va_P D classes (w_Letters_placeOfBadForm cI cJ cC a_h a_h_text a_h_trial z_h_length z_h_text) H → va_D A (w_Letters_placeOfBadForm cI cJ cC a_h a_h_text a_h_trial z_h_length z_h_text) → va_S A s.heap H locs → lv_has ls 3 [(0, .ref a_h), (1, .int x1), (2, .int x2)] → W p l e (xRm 5 112) s m args below meth c H locs 0 0 Q (F0 m 4 ls []) := by
    intro n
    induction n with
    | zero => intro x1 x2 H locs ls hf hP hD hS hl; exact nomatch (show (none : Option (Int32)) = some q from hf)
    | succ n ih =>
      intro x1 x2 H locs ls hf hP hD hS hl
      refine lv_iload_n hx hb d_Letters_placeOfBadForm_4 rfl (lv_at hl 2 rfl) ?_
      refine lv_aload_n hx hb d_Letters_placeOfBadForm_5 rfl (lv_at hl 0 rfl) ?_
      refine va_get hx hb hT i_Letters hown hK hP 0 rfl rfl 0 (Nat.le_of_ble_eq_true rfl) (hT _ k_76) (fun _ h => h) rfl d_Letters_placeOfBadForm_6 ?_
      refine lv_icmp_ge (tgt := 36) hx hb d_Letters_placeOfBadForm_9 (by decide) (fun c1 => ?_) (fun c1 => ?_)
      · have hf := io_t hf c1
        refine lv_aload_n hx hb d_Letters_placeOfBadForm_36 rfl (lv_at hl 0 rfl) ?_
        refine va_get hx hb hT i_Letters hown hK hP 0 rfl rfl 0 (Nat.le_of_ble_eq_true rfl) (hT _ k_76) (fun _ h => h) rfl d_Letters_placeOfBadForm_37 ?_
        refine lv_if_le (tgt := 51) hx hb d_Letters_placeOfBadForm_40 (by decide) (fun c2 => ?_) (fun c2 => ?_)
        · have hf := io_t hf c2
          refine lv_aload_n hx hb d_Letters_placeOfBadForm_51 rfl (lv_at hl 0 rfl) ?_
          refine va_get hx hb hT i_Letters hown hK hP 0 rfl rfl 0 (Nat.le_of_ble_eq_true rfl) (hT _ k_76) (fun _ h => h) rfl d_Letters_placeOfBadForm_52 ?_
          have hq := Option.some.inj hf
          subst hq
          exact hret _ _ _ _ _ d_Letters_placeOfBadForm_55 rfl rfl hP hD hS
        · have hf := io_f hf c2
          refine lv_iload_n hx hb d_Letters_placeOfBadForm_43 rfl (lv_at hl 1 rfl) ?_
          refine lv_if_ne (tgt := 51) hx hb d_Letters_placeOfBadForm_44 (by decide) (fun c3 => ?_) (fun c3 => ?_)
          · have hf := io_f hf c3
            refine lv_aload_n hx hb d_Letters_placeOfBadForm_51 rfl (lv_at hl 0 rfl) ?_
            refine va_get hx hb hT i_Letters hown hK hP 0 rfl rfl 0 (Nat.le_of_ble_eq_true rfl) (hT _ k_76) (fun _ h => h) rfl d_Letters_placeOfBadForm_52 ?_
            have hq := Option.some.inj hf
            subst hq
            exact hret _ _ _ _ _ d_Letters_placeOfBadForm_55 rfl rfl hP hD hS
          · have hf := io_t hf c3
            refine lv_iconst (v := (-1)) hx hb d_Letters_placeOfBadForm_47 (by decide) ?_
            refine lv_goto (tgt := 55) hx hb d_Letters_placeOfBadForm_48 (by decide) ?_
            have hq := Option.some.inj hf
            subst hq
            exact hret _ _ _ _ _ d_Letters_placeOfBadForm_55 rfl rfl hP hD hS
      · have hf := io_f hf c1
        refine lv_iload_n hx hb d_Letters_placeOfBadForm_12 rfl (lv_at hl 1 rfl) ?_
        refine lv_aload_n hx hb d_Letters_placeOfBadForm_13 rfl (lv_at hl 0 rfl) ?_
        refine va_get hx hb hT i_Letters hown hK hP 0 rfl rfl 1 (Nat.le_of_ble_eq_true rfl) (hT _ k_78) (fun _ h => h) rfl d_Letters_placeOfBadForm_14 ?_
        refine lv_iload_n hx hb d_Letters_placeOfBadForm_17 rfl (lv_at hl 2 rfl) ?_
        obtain ⟨c4, hf⟩ := io_n hf
        refine x_cald hx hb hK hP 1 2 rfl rfl (j := x2.toNatClampNeg) rfl c4 d_Letters_placeOfBadForm_18 ?_
        obtain ⟨q5, hq5, hf⟩ := io_b hf
        refine xcSI (wc := []) (wc' := []) (ws' := (w_Letters_placeOfBadForm cI cJ cC a_h a_h_text a_h_trial z_h_length z_h_text)) (As := [.int x1, .int (z_h_text x2.toNatClampNeg)]) (rest := []) hx hb hml hown hT (c_Letters_behind hq5) k_425 k_426 k_3 k_427 hd_Letters_behind ⟨Nat.le_of_ble_eq_true rfl, Nat.le_of_ble_eq_true rfl⟩ (xEv_ok _ _ _ _) hE hA hK hP hD hS [] [0, 1] [0, 1] rfl rfl rfl rfl rfl rfl rfl hl.1 rfl (Nat.le_of_ble_eq_true rfl) ⟨Nat.zero_le _, Nat.zero_le _⟩ d_Letters_placeOfBadForm_19 (fun H locs hP hD hS => ?_)
        refine lv_istore_n (lv' := [(1, .int q5), (0, .ref a_h), (2, .int x2)]) hx hb d_Letters_placeOfBadForm_22 rfl hl (by decide) rfl (fun ls hl => ?_)
        refine lv_iload_n hx hb d_Letters_placeOfBadForm_23 rfl (lv_at hl 0 rfl) ?_
        refine lv_iconst (v := (-1)) hx hb d_Letters_placeOfBadForm_24 (by decide) ?_
        refine lv_icmp_ne (tgt := 30) hx hb d_Letters_placeOfBadForm_25 (by decide) (fun c6 => ?_) (fun c6 => ?_)
        · have hf := io_f hf c6
          refine lv_iinc (v := (x2 + 1)) (lv' := [(2, .int (x2 + 1)), (1, .int q5), (0, .ref a_h)]) hx hb d_Letters_placeOfBadForm_30 hl (k := 2) rfl (by rfl) (by decide) rfl (fun ls hl => ?_)
          refine lv_goto (tgt := 4) hx hb d_Letters_placeOfBadForm_33 (by decide) ?_
          exact ih q5 (x2 + 1) _ _ _ hf hP hD hS (lv_sub hl [2, 1, 0] rfl)
        · have hf := io_t hf c6
          refine lv_iload_n hx hb d_Letters_placeOfBadForm_28 rfl (lv_at hl 2 rfl) ?_
          have hq := Option.some.inj hf
          subst hq
          exact hret _ _ _ _ _ d_Letters_placeOfBadForm_29 rfl rfl hP hD hS
  refine lv_iconst (v := 0) hx hb d_Letters_placeOfBadForm_0 (by decide) ?_
  refine lv_istore_n (lv' := [(1, .int 0), (0, .ref a_h)]) hx hb d_Letters_placeOfBadForm_1 rfl hl (by decide) rfl (fun ls hl => ?_)
  refine lv_iconst (v := 0) hx hb d_Letters_placeOfBadForm_2 (by decide) ?_
  refine lv_istore_n (lv' := [(2, .int 0), (1, .int 0), (0, .ref a_h)]) hx hb d_Letters_placeOfBadForm_3 rfl hl (by decide) rfl (fun ls hl => ?_)
  exact L4 FU 0 0 _ _ _ hf hP hD hS (lv_sub hl [2, 1, 0] rfl)
abbrev w_Letters_letterAt (cI cJ cC : ClassId) (a_h a_h_text a_h_trial : Nat) (p_h_length : Int32) (p_h_text : (Nat → Int32)) : va_W := [(a_h, .inr (2, [.int p_h_length, .ref a_h_text, .ref a_h_trial])), (a_h_text, .inl (cC, (64, .inl p_h_text)))]
theorem d_Letters_letterAt_0 : decode b_Letters_letterAt 0 = .ok (.iload_n 1, 1) := by decide +kernel
theorem d_Letters_letterAt_1 : decode b_Letters_letterAt 1 = .ok (.ifCond .lt 20, 3) := by decide +kernel
theorem d_Letters_letterAt_4 : decode b_Letters_letterAt 4 = .ok (.iload_n 1, 1) := by decide +kernel
theorem d_Letters_letterAt_5 : decode b_Letters_letterAt 5 = .ok (.aload_n 0, 1) := by decide +kernel
theorem d_Letters_letterAt_6 : decode b_Letters_letterAt 6 = .ok (.getfield 9, 3) := by decide +kernel
theorem d_Letters_letterAt_9 : decode b_Letters_letterAt 9 = .ok (.if_icmp .ge 12, 3) := by decide +kernel
theorem d_Letters_letterAt_12 : decode b_Letters_letterAt 12 = .ok (.aload_n 0, 1) := by decide +kernel
theorem d_Letters_letterAt_13 : decode b_Letters_letterAt 13 = .ok (.getfield 15, 3) := by decide +kernel
theorem d_Letters_letterAt_16 : decode b_Letters_letterAt 16 = .ok (.iload_n 1, 1) := by decide +kernel
theorem d_Letters_letterAt_17 : decode b_Letters_letterAt 17 = .ok (.caload, 1) := by decide +kernel
theorem d_Letters_letterAt_18 : decode b_Letters_letterAt 18 = .ok (.goto 5, 3) := by decide +kernel
theorem d_Letters_letterAt_21 : decode b_Letters_letterAt 21 = .ok (.bipush 32, 2) := by decide +kernel
theorem d_Letters_letterAt_23 : decode b_Letters_letterAt 23 = .ok (.ireturn, 1) := by decide +kernel
set_option maxHeartbeats 4000000 in
set_option maxRecDepth 100000 in
theorem c_Letters_letterAt {l : Launch} {D : va_G} {cI cJ cC : ClassId} (a_h a_h_text a_h_trial : Nat) {z_h_length : Int32} {z_h_text : (Nat → Int32)} {x1 : Int32} {q : Int32} (hf : f_Letters_letterAt z_h_length z_h_text x1 = some q) : xI l y_Letters_letterAt b_Letters_letterAt 2 .char 0 0 D (tyK cI cJ cC) xE0 [.ref a_h, .int x1] (w_Letters_letterAt cI cJ cC a_h a_h_text a_h_trial z_h_length z_h_text) q (w_Letters_letterAt cI cJ cC a_h a_h_text a_h_trial z_h_length z_h_text) := by
  refine xI_of (by decide) (Nat.le_of_ble_eq_true rfl) ?_
  intro p e s m args below meth c A Q hx hb hml hown hT hA hP hD hK hS hE hret ls hl
  have hown : s.vm.findClass R_Letters = some m.cls := hown
  have hl : lv_has ls 2 [(0, .ref a_h), (1, .int x1)] := hl
  unfold f_Letters_letterAt at hf
  refine lv_iload_n hx hb d_Letters_letterAt_0 rfl (lv_at hl 1 rfl) ?_
  refine lv_if_lt (tgt := 21) hx hb d_Letters_letterAt_1 (by decide) (fun c1 => ?_) (fun c1 => ?_)
  · have hf := io_t hf c1
    refine lv_bipush (v := 32) hx hb d_Letters_letterAt_21 (by decide) ?_
    have hq := Option.some.inj hf
    subst hq
    exact hret _ _ _ _ _ d_Letters_letterAt_23 (by decide) rfl hP hD hS
  · have hf := io_f hf c1
    refine lv_iload_n hx hb d_Letters_letterAt_4 rfl (lv_at hl 1 rfl) ?_
    refine lv_aload_n hx hb d_Letters_letterAt_5 rfl (lv_at hl 0 rfl) ?_
    refine va_get hx hb hT i_Letters hown hK hP 0 rfl rfl 0 (Nat.le_of_ble_eq_true rfl) (hT _ k_76) (fun _ h => h) rfl d_Letters_letterAt_6 ?_
    refine lv_icmp_ge (tgt := 21) hx hb d_Letters_letterAt_9 (by decide) (fun c2 => ?_) (fun c2 => ?_)
    · have hf := io_t hf c2
      refine lv_bipush (v := 32) hx hb d_Letters_letterAt_21 (by decide) ?_
      have hq := Option.some.inj hf
      subst hq
      exact hret _ _ _ _ _ d_Letters_letterAt_23 (by decide) rfl hP hD hS
    · have hf := io_f hf c2
      refine lv_aload_n hx hb d_Letters_letterAt_12 rfl (lv_at hl 0 rfl) ?_
      refine va_get hx hb hT i_Letters hown hK hP 0 rfl rfl 1 (Nat.le_of_ble_eq_true rfl) (hT _ k_78) (fun _ h => h) rfl d_Letters_letterAt_13 ?_
      refine lv_iload_n hx hb d_Letters_letterAt_16 rfl (lv_at hl 1 rfl) ?_
      obtain ⟨c3, hf⟩ := io_n hf
      refine x_cald hx hb hK hP 1 2 rfl rfl (j := x1.toNatClampNeg) rfl c3 d_Letters_letterAt_17 ?_
      refine lv_goto (tgt := 23) hx hb d_Letters_letterAt_18 (by decide) ?_
      obtain ⟨c4, hf⟩ := io_n hf
      have hq := Option.some.inj hf
      subst hq
      exact hret _ _ _ _ _ d_Letters_letterAt_23 (x_narC c4) rfl hP hD hS
abbrev w_Letters_number (cI cJ cC : ClassId) (a_h a_h_text a_h_trial : Nat) (p_h_length : Int32) (p_h_text : (Nat → Int32)) : va_W := [(a_h, .inr (2, [.int p_h_length, .ref a_h_text, .ref a_h_trial])), (a_h_text, .inl (cC, (64, .inl p_h_text)))]
theorem d_Letters_number_0 : decode b_Letters_number 0 = .ok (.iconst 0, 1) := by decide +kernel
theorem d_Letters_number_1 : decode b_Letters_number 1 = .ok (.istore_n 3, 1) := by decide +kernel
theorem d_Letters_number_2 : decode b_Letters_number 2 = .ok (.iload_n 1, 1) := by decide +kernel
theorem d_Letters_number_3 : decode b_Letters_number 3 = .ok (.istore 4, 2) := by decide +kernel
theorem d_Letters_number_5 : decode b_Letters_number 5 = .ok (.iload 4, 2) := by decide +kernel
theorem d_Letters_number_7 : decode b_Letters_number 7 = .ok (.iload_n 2, 1) := by decide +kernel
theorem d_Letters_number_8 : decode b_Letters_number 8 = .ok (.if_icmp .ge 24, 3) := by decide +kernel
theorem d_Letters_number_11 : decode b_Letters_number 11 = .ok (.iload_n 3, 1) := by decide +kernel
theorem d_Letters_number_12 : decode b_Letters_number 12 = .ok (.bipush 10, 2) := by decide +kernel
theorem d_Letters_number_14 : decode b_Letters_number 14 = .ok (.imul, 1) := by decide +kernel
theorem d_Letters_number_15 : decode b_Letters_number 15 = .ok (.aload_n 0, 1) := by decide +kernel
theorem d_Letters_number_16 : decode b_Letters_number 16 = .ok (.iload 4, 2) := by decide +kernel
theorem d_Letters_number_18 : decode b_Letters_number 18 = .ok (.invokevirtual 61, 3) := by decide +kernel
theorem d_Letters_number_21 : decode b_Letters_number 21 = .ok (.iadd, 1) := by decide +kernel
theorem d_Letters_number_22 : decode b_Letters_number 22 = .ok (.bipush 48, 2) := by decide +kernel
theorem d_Letters_number_24 : decode b_Letters_number 24 = .ok (.isub, 1) := by decide +kernel
theorem d_Letters_number_25 : decode b_Letters_number 25 = .ok (.istore_n 3, 1) := by decide +kernel
theorem d_Letters_number_26 : decode b_Letters_number 26 = .ok (.iinc 4 1, 3) := by decide +kernel
theorem d_Letters_number_29 : decode b_Letters_number 29 = .ok (.goto (-24), 3) := by decide +kernel
theorem d_Letters_number_32 : decode b_Letters_number 32 = .ok (.iload_n 3, 1) := by decide +kernel
theorem d_Letters_number_33 : decode b_Letters_number 33 = .ok (.ireturn, 1) := by decide +kernel
set_option maxHeartbeats 4000000 in
set_option maxRecDepth 100000 in
theorem c_Letters_number {l : Launch} {D : va_G} {cI cJ cC : ClassId} (a_h a_h_text a_h_trial : Nat) {z_h_length : Int32} {z_h_text : (Nat → Int32)} {x1 : Int32} {x2 : Int32} {q : Int32} (hf : f_Letters_number z_h_length z_h_text x1 x2 = some q) : xI l y_Letters_number b_Letters_number 5 .int 1 21 D (tyK cI cJ cC) xE0 [.ref a_h, .int x1, .int x2] (w_Letters_number cI cJ cC a_h a_h_text a_h_trial z_h_length z_h_text) q (w_Letters_number cI cJ cC a_h a_h_text a_h_trial z_h_length z_h_text) := by
  refine xI_of (by decide) (Nat.le_of_ble_eq_true rfl) ?_
  intro p e s m args below meth c A Q hx hb hml hown hT hA hP hD hK hS hE hret ls hl
  have hown : s.vm.findClass R_Letters = some m.cls := hown
  have hl : lv_has ls 5 [(0, .ref a_h), (1, .int x1), (2, .int x2)] := hl
  unfold f_Letters_number at hf
  have L5 : ∀ (n : Nat) (x3 : Int32) (x4 : Int32) (H : Heap) (locs : List Loc) (ls : Array Slot), f_Letters_number_L5 z_h_length z_h_text x2 n x3 x4 = some q → va_P D classes (w_Letters_number cI cJ cC a_h a_h_text a_h_trial z_h_length z_h_text) H → va_D A (w_Letters_number cI cJ cC a_h a_h_text a_h_trial z_h_length z_h_text) → va_S A s.heap H locs → lv_has ls 5 [(0, .ref a_h), (2, .int x2), (3, .int x3), (4, .int x4)] → W p l e (xRm 1 21) s m args below meth c H locs 0 0 Q (F0 m 5 ls []) := by
    intro n
    induction n with
    | zero => intro x3 x4 H locs ls hf hP hD hS hl; exact nomatch (show (none : Option (Int32)) = some q from hf)
    | succ n ih =>
      intro x3 x4 H locs ls hf hP hD hS hl
      refine lv_iload hx hb d_Letters_number_5 (lv_at hl 3 rfl) ?_
      refine lv_iload_n hx hb d_Letters_number_7 rfl (lv_at hl 1 rfl) ?_
      refine lv_icmp_ge (tgt := 32) hx hb d_Letters_number_8 (by decide) (fun c1 => ?_) (fun c1 => ?_)
      · have hf := io_t hf c1
        refine lv_iload_n hx hb d_Letters_number_32 rfl (lv_at hl 2 rfl) ?_
        have hq := Option.some.inj hf
        subst hq
        exact hret _ _ _ _ _ d_Letters_number_33 rfl rfl hP hD hS
      · have hf := io_f hf c1
        refine lv_iload_n hx hb d_Letters_number_11 rfl (lv_at hl 2 rfl) ?_
        refine lv_bipush (v := 10) hx hb d_Letters_number_12 (by decide) ?_
        refine lv_imul hx hb d_Letters_number_14 ?_
        refine lv_aload_n hx hb d_Letters_number_15 rfl (lv_at hl 0 rfl) ?_
        refine lv_iload hx hb d_Letters_number_16 (lv_at hl 3 rfl) ?_
        obtain ⟨q2, hq2, hf⟩ := io_b hf
        refine xcVI (wc := (w_Letters_letterAt cI cJ cC a_h a_h_text a_h_trial z_h_length z_h_text)) (wc' := (w_Letters_letterAt cI cJ cC a_h a_h_text a_h_trial z_h_length z_h_text)) (ws' := (w_Letters_number cI cJ cC a_h a_h_text a_h_trial z_h_length z_h_text)) (As := [.int x4]) (rest := [.int (x3 * 10)]) hx hb hml hown hT (c_Letters_letterAt (z_h_length := z_h_length) (z_h_text := z_h_text) a_h a_h_text a_h_trial hq2) k_525 k_527 ks_9 k_3 k_528 hd_Letters_letterAt ⟨Nat.le_of_ble_eq_true rfl, Nat.le_of_ble_eq_true rfl⟩ xE0_ok trivial hA hK hP hD hS [0, 1] [] [0, 1] rfl rfl rfl rfl rfl rfl rfl rfl rfl rfl hl.1 rfl (Nat.le_of_ble_eq_true rfl) ⟨Nat.zero_le _, Nat.zero_le _⟩ d_Letters_number_18 (fun H locs hP hD hS => ?_)
        refine lv_iadd hx hb d_Letters_number_21 ?_
        refine lv_bipush (v := 48) hx hb d_Letters_number_22 (by decide) ?_
        refine lv_isub hx hb d_Letters_number_24 ?_
        refine lv_istore_n (lv' := [(3, .int (((x3 * 10) + q2) - 48)), (0, .ref a_h), (2, .int x2), (4, .int x4)]) hx hb d_Letters_number_25 rfl hl (by decide) rfl (fun ls hl => ?_)
        refine lv_iinc (v := (x4 + 1)) (lv' := [(4, .int (x4 + 1)), (3, .int (((x3 * 10) + q2) - 48)), (0, .ref a_h), (2, .int x2)]) hx hb d_Letters_number_26 hl (k := 3) rfl (by rfl) (by decide) rfl (fun ls hl => ?_)
        refine lv_goto (tgt := 5) hx hb d_Letters_number_29 (by decide) ?_
        exact ih (((x3 * 10) + q2) - 48) (x4 + 1) _ _ _ hf hP hD hS (lv_sub hl [2, 3, 1, 0] rfl)
  refine lv_iconst (v := 0) hx hb d_Letters_number_0 (by decide) ?_
  refine lv_istore_n (lv' := [(3, .int 0), (0, .ref a_h), (1, .int x1), (2, .int x2)]) hx hb d_Letters_number_1 rfl hl (by decide) rfl (fun ls hl => ?_)
  refine lv_iload_n hx hb d_Letters_number_2 rfl (lv_at hl 2 rfl) ?_
  refine lv_istore (lv' := [(4, .int x1), (3, .int 0), (0, .ref a_h), (1, .int x1), (2, .int x2)]) hx hb d_Letters_number_3 hl (by decide) rfl (fun ls hl => ?_)
  exact L5 FU 0 x1 _ _ _ hf hP hD hS (lv_sub hl [2, 4, 1, 0] rfl)
theorem d_X_outside_0 : decode b_X_outside 0 = .ok (.iload_n 0, 1) := by decide +kernel
theorem d_X_outside_1 : decode b_X_outside 1 = .ok (.iload_n 1, 1) := by decide +kernel
theorem d_X_outside_2 : decode b_X_outside 2 = .ok (.if_icmp .ge 6, 3) := by decide +kernel
theorem d_X_outside_5 : decode b_X_outside 5 = .ok (.bipush (-4), 2) := by decide +kernel
theorem d_X_outside_7 : decode b_X_outside 7 = .ok (.ireturn, 1) := by decide +kernel
theorem d_X_outside_8 : decode b_X_outside 8 = .ok (.iload_n 0, 1) := by decide +kernel
theorem d_X_outside_9 : decode b_X_outside 9 = .ok (.iload_n 2, 1) := by decide +kernel
theorem d_X_outside_10 : decode b_X_outside 10 = .ok (.if_icmp .le 8, 3) := by decide +kernel
theorem d_X_outside_13 : decode b_X_outside 13 = .ok (.bipush (-6), 2) := by decide +kernel
theorem d_X_outside_15 : decode b_X_outside 15 = .ok (.goto 4, 3) := by decide +kernel
theorem d_X_outside_18 : decode b_X_outside 18 = .ok (.iconst 0, 1) := by decide +kernel
theorem d_X_outside_19 : decode b_X_outside 19 = .ok (.ireturn, 1) := by decide +kernel
set_option maxHeartbeats 4000000 in
set_option maxRecDepth 100000 in
theorem c_X_outside {l : Launch} {D : va_G} {cI cJ cC : ClassId} {x0 : Int32} {x1 : Int32} {x2 : Int32} {q : Int32} (hf : f_X_outside x0 x1 x2 = some q) : xI l y_X_outside b_X_outside 3 .int 0 0 D (tyK cI cJ cC) xE0 [.int x0, .int x1, .int x2] [] q [] := by
  refine xI_of (by decide) (Nat.le_of_ble_eq_true rfl) ?_
  intro p e s m args below meth c A Q hx hb hml hown hT hA hP hD hK hS hE hret ls hl
  have hown : s.vm.findClass R_X = some m.cls := hown
  have hl : lv_has ls 3 [(0, .int x0), (1, .int x1), (2, .int x2)] := hl
  unfold f_X_outside at hf
  refine lv_iload_n hx hb d_X_outside_0 rfl (lv_at hl 0 rfl) ?_
  refine lv_iload_n hx hb d_X_outside_1 rfl (lv_at hl 1 rfl) ?_
  refine lv_icmp_ge (tgt := 8) hx hb d_X_outside_2 (by decide) (fun c1 => ?_) (fun c1 => ?_)
  · have hf := io_t hf c1
    refine lv_iload_n hx hb d_X_outside_8 rfl (lv_at hl 0 rfl) ?_
    refine lv_iload_n hx hb d_X_outside_9 rfl (lv_at hl 2 rfl) ?_
    refine lv_icmp_le (tgt := 18) hx hb d_X_outside_10 (by decide) (fun c2 => ?_) (fun c2 => ?_)
    · have hf := io_t hf c2
      refine lv_iconst (v := 0) hx hb d_X_outside_18 (by decide) ?_
      have hq := Option.some.inj hf
      subst hq
      exact hret _ _ _ _ _ d_X_outside_19 rfl rfl hP hD hS
    · have hf := io_f hf c2
      refine lv_bipush (v := (-6)) hx hb d_X_outside_13 (by decide) ?_
      refine lv_goto (tgt := 19) hx hb d_X_outside_15 (by decide) ?_
      have hq := Option.some.inj hf
      subst hq
      exact hret _ _ _ _ _ d_X_outside_19 rfl rfl hP hD hS
  · have hf := io_f hf c1
    refine lv_bipush (v := (-4)) hx hb d_X_outside_5 (by decide) ?_
    have hq := Option.some.inj hf
    subst hq
    exact hret _ _ _ _ _ d_X_outside_7 rfl rfl hP hD hS
abbrev w_Letters_bring (cI cJ cC : ClassId) (a_h a_h_text a_h_trial a_h_trial_kinds a_h_trial_sweets a_h_trial_settings a_h_trial_heaps : Nat) (y_h_length : Int32) (p_h_trial_children : Int32) (p_h_trial_strokes : Int32) (p_h_trial_gave : Int32) (p_h_trial_threw : Int32) (p_h_trial_kinds : (Nat → Int32)) (p_h_trial_sweets : (Nat → Int32)) (p_h_trial_settings : (Nat → Int32)) (p_h_trial_heaps : (Nat → Int32)) : va_W := [(a_h, .inr (2, [.int y_h_length, .ref a_h_text, .ref a_h_trial])), (a_h_trial, .inr (1, [.ref a_h_trial_kinds, .ref a_h_trial_sweets, .ref a_h_trial_settings, .int p_h_trial_children, .int p_h_trial_strokes, .int p_h_trial_gave, .int p_h_trial_threw, .ref a_h_trial_heaps])), (a_h_trial_kinds, .inl (cI, (8, .inl p_h_trial_kinds))), (a_h_trial_sweets, .inl (cI, (8, .inl p_h_trial_sweets))), (a_h_trial_settings, .inl (cI, (3, .inl p_h_trial_settings))), (a_h_trial_heaps, .inl (cI, (8, .inl p_h_trial_heaps)))]
theorem d_Letters_bring_0 : decode b_Letters_bring 0 = .ok (.iload_n 2, 1) := by decide +kernel
theorem d_Letters_bring_1 : decode b_Letters_bring 1 = .ok (.getstatic 75, 3) := by decide +kernel
theorem d_Letters_bring_4 : decode b_Letters_bring 4 = .ok (.iload_n 1, 1) := by decide +kernel
theorem d_Letters_bring_5 : decode b_Letters_bring 5 = .ok (.iaload, 1) := by decide +kernel
theorem d_Letters_bring_6 : decode b_Letters_bring 6 = .ok (.getstatic 79, 3) := by decide +kernel
theorem d_Letters_bring_9 : decode b_Letters_bring 9 = .ok (.iload_n 1, 1) := by decide +kernel
theorem d_Letters_bring_10 : decode b_Letters_bring 10 = .ok (.iaload, 1) := by decide +kernel
theorem d_Letters_bring_11 : decode b_Letters_bring 11 = .ok (.invokestatic 82, 3) := by decide +kernel
theorem d_Letters_bring_14 : decode b_Letters_bring 14 = .ok (.ifCond .eq 5, 3) := by decide +kernel
theorem d_Letters_bring_17 : decode b_Letters_bring 17 = .ok (.iconst 0, 1) := by decide +kernel
theorem d_Letters_bring_18 : decode b_Letters_bring 18 = .ok (.ireturn, 1) := by decide +kernel
theorem d_Letters_bring_19 : decode b_Letters_bring 19 = .ok (.aload_n 0, 1) := by decide +kernel
theorem d_Letters_bring_20 : decode b_Letters_bring 20 = .ok (.getfield 22, 3) := by decide +kernel
theorem d_Letters_bring_23 : decode b_Letters_bring 23 = .ok (.getfield 86, 3) := by decide +kernel
theorem d_Letters_bring_26 : decode b_Letters_bring 26 = .ok (.iload_n 1, 1) := by decide +kernel
theorem d_Letters_bring_27 : decode b_Letters_bring 27 = .ok (.iload_n 2, 1) := by decide +kernel
theorem d_Letters_bring_28 : decode b_Letters_bring 28 = .ok (.iastore, 1) := by decide +kernel
theorem d_Letters_bring_29 : decode b_Letters_bring 29 = .ok (.iconst 1, 1) := by decide +kernel
theorem d_Letters_bring_30 : decode b_Letters_bring 30 = .ok (.ireturn, 1) := by decide +kernel
set_option maxHeartbeats 4000000 in
set_option maxRecDepth 100000 in
theorem c_Letters_bring {l : Launch} {D : va_G} {cI cJ cC : ClassId} {t_LEAST_SETTING t_GREATEST_SETTING t_str t_val : Nat} (a_h a_h_text a_h_trial a_h_trial_kinds a_h_trial_sweets a_h_trial_settings a_h_trial_heaps : Nat) (y_h_length : Int32) {z_h_trial : RS} {x1 : Int32} {x2 : Int32} {q : Int32 × RS} (hf : f_Letters_bring z_h_trial x1 x2 = some q) : xI l y_Letters_bring b_Letters_bring 3 .boolean 1 22 D (tyK cI cJ cC) (xEv t_LEAST_SETTING t_GREATEST_SETTING t_str t_val) [.ref a_h, .int x1, .int x2] (w_Letters_bring cI cJ cC a_h a_h_text a_h_trial a_h_trial_kinds a_h_trial_sweets a_h_trial_settings a_h_trial_heaps y_h_length (r_children z_h_trial) (r_strokes z_h_trial) (r_gave z_h_trial) (r_threw z_h_trial) (r_kinds z_h_trial) (r_sweets z_h_trial) (r_settings z_h_trial) (r_heaps z_h_trial)) q.1 (w_Letters_bring cI cJ cC a_h a_h_text a_h_trial a_h_trial_kinds a_h_trial_sweets a_h_trial_settings a_h_trial_heaps y_h_length (r_children q.2) (r_strokes q.2) (r_gave q.2) (r_threw q.2) (r_kinds q.2) (r_sweets q.2) (r_settings q.2) (r_heaps q.2)) := by
  refine xI_of (by decide) (Nat.le_of_ble_eq_true rfl) ?_
  intro p e s m args below meth c A Q hx hb hml hown hT hA hP hD hK hS hE hret ls hl
  have hown : s.vm.findClass R_Letters = some m.cls := hown
  have hl : lv_has ls 3 [(0, .ref a_h), (1, .int x1), (2, .int x2)] := hl
  unfold f_Letters_bring at hf
  obtain ⟨hZ_LEAST_SETTING, hT_LEAST_SETTING, hZ_GREATEST_SETTING, hT_GREATEST_SETTING, hZ_CS, hO_str, hC_str, hV_str, hT_str, hR_str, hN_X_outside, hNF_LEAST_SETTING, hNF_GREATEST_SETTING⟩ := id hE
  refine lv_iload_n hx hb d_Letters_bring_0 rfl (lv_at hl 2 rfl) ?_
  refine va_getsN hx hb hZ_LEAST_SETTING hS hown (va_Nw.use rfl hNF_LEAST_SETTING) (fun _ h => h) d_Letters_bring_1 ?_
  refine lv_iload_n hx hb d_Letters_bring_4 rfl (lv_at hl 1 rfl) ?_
  obtain ⟨c1, hf⟩ := io_n hf
  refine va_ti (v := .int (s_LEAST_SETTING x1.toNatClampNeg)) hx hb hT_LEAST_SETTING hS c1 rfl d_Letters_bring_5 ?_
  refine va_getsN hx hb hZ_GREATEST_SETTING hS hown (va_Nw.use rfl hNF_GREATEST_SETTING) (fun _ h => h) d_Letters_bring_6 ?_
  refine lv_iload_n hx hb d_Letters_bring_9 rfl (lv_at hl 1 rfl) ?_
  refine va_ti (v := .int (s_GREATEST_SETTING x1.toNatClampNeg)) hx hb hT_GREATEST_SETTING hS c1 rfl d_Letters_bring_10 ?_
  obtain ⟨q2, hq2, hf⟩ := io_b hf
  refine xcNI (wc := []) (wc' := []) (ws' := (w_Letters_bring cI cJ cC a_h a_h_text a_h_trial a_h_trial_kinds a_h_trial_sweets a_h_trial_settings a_h_trial_heaps y_h_length (r_children z_h_trial) (r_strokes z_h_trial) (r_gave z_h_trial) (r_threw z_h_trial) (r_kinds z_h_trial) (r_sweets z_h_trial) (r_settings z_h_trial) (r_heaps z_h_trial))) (As := [.int x2, .int (s_LEAST_SETTING x1.toNatClampNeg), .int (s_GREATEST_SETTING x1.toNatClampNeg)]) (rest := []) hx hb hml hown hT (c_X_outside hq2) (va_Nw.use rfl hN_X_outside) k_246 k_1 k_247 hd_X_outside ⟨Nat.le_of_ble_eq_true rfl, Nat.le_of_ble_eq_true rfl⟩ xE0_ok trivial hA hK hP hD hS [] [0, 1, 2, 3, 4, 5] [0, 1, 2, 3, 4, 5] rfl rfl rfl rfl rfl rfl rfl hl.1 rfl (Nat.le_of_ble_eq_true rfl) ⟨Nat.zero_le _, Nat.zero_le _⟩ d_Letters_bring_11 (fun H locs hP hD hS => ?_)
  refine lv_if_eq (tgt := 19) hx hb d_Letters_bring_14 (by decide) (fun c3 => ?_) (fun c3 => ?_)
  · have hf := io_t hf c3
    refine lv_aload_n hx hb d_Letters_bring_19 rfl (lv_at hl 0 rfl) ?_
    refine va_get hx hb hT i_Letters hown hK hP 0 rfl rfl 2 (Nat.le_of_ble_eq_true rfl) (hT _ k_79) (fun _ h => h) rfl d_Letters_bring_20 ?_
    refine va_get hx hb hT i_Ring hown hK hP 1 rfl rfl 2 (Nat.le_of_ble_eq_true rfl) (hT _ k_37) (fun _ h => h) rfl d_Letters_bring_23 ?_
    refine lv_iload_n hx hb d_Letters_bring_26 rfl (lv_at hl 1 rfl) ?_
    refine lv_iload_n hx hb d_Letters_bring_27 rfl (lv_at hl 2 rfl) ?_
    refine x_iast hx hb hK hP hD hS 4 0 rfl rfl (j := x1.toNatClampNeg) rfl c1 d_Letters_bring_28 (fun H locs hP hD hS => ?_)
    have hP : va_P D classes (w_Letters_bring cI cJ cC a_h a_h_text a_h_trial a_h_trial_kinds a_h_trial_sweets a_h_trial_settings a_h_trial_heaps y_h_length (r_children z_h_trial) (r_strokes z_h_trial) (r_gave z_h_trial) (r_threw z_h_trial) (r_kinds z_h_trial) (r_sweets z_h_trial) (upd (r_settings z_h_trial) x1.toNatClampNeg x2) (r_heaps z_h_trial)) H := hP
    have hD : va_D A (w_Letters_bring cI cJ cC a_h a_h_text a_h_trial a_h_trial_kinds a_h_trial_sweets a_h_trial_settings a_h_trial_heaps y_h_length (r_children z_h_trial) (r_strokes z_h_trial) (r_gave z_h_trial) (r_threw z_h_trial) (r_kinds z_h_trial) (r_sweets z_h_trial) (upd (r_settings z_h_trial) x1.toNatClampNeg x2) (r_heaps z_h_trial)) := hD
    refine lv_iconst (v := 1) hx hb d_Letters_bring_29 (by decide) ?_
    have hq := Option.some.inj hf
    subst hq
    exact hret _ _ _ _ _ d_Letters_bring_30 (by decide) rfl hP hD hS
  · have hf := io_f hf c3
    refine lv_iconst (v := 0) hx hb d_Letters_bring_17 (by decide) ?_
    have hq := Option.some.inj hf
    subst hq
    exact hret _ _ _ _ _ d_Letters_bring_18 (by decide) rfl hP hD hS
abbrev w_Letters_carryOutOne (cI cJ cC : ClassId) (a_h a_h_text a_h_trial a_h_trial_kinds a_h_trial_sweets a_h_trial_settings a_h_trial_heaps : Nat) (p_h_length : Int32) (p_h_text : (Nat → Int32)) (p_h_trial_children : Int32) (p_h_trial_strokes : Int32) (p_h_trial_gave : Int32) (p_h_trial_threw : Int32) (p_h_trial_kinds : (Nat → Int32)) (p_h_trial_sweets : (Nat → Int32)) (p_h_trial_settings : (Nat → Int32)) (p_h_trial_heaps : (Nat → Int32)) : va_W := [(a_h, .inr (2, [.int p_h_length, .ref a_h_text, .ref a_h_trial])), (a_h_text, .inl (cC, (64, .inl p_h_text))), (a_h_trial, .inr (1, [.ref a_h_trial_kinds, .ref a_h_trial_sweets, .ref a_h_trial_settings, .int p_h_trial_children, .int p_h_trial_strokes, .int p_h_trial_gave, .int p_h_trial_threw, .ref a_h_trial_heaps])), (a_h_trial_kinds, .inl (cI, (8, .inl p_h_trial_kinds))), (a_h_trial_sweets, .inl (cI, (8, .inl p_h_trial_sweets))), (a_h_trial_settings, .inl (cI, (3, .inl p_h_trial_settings))), (a_h_trial_heaps, .inl (cI, (8, .inl p_h_trial_heaps)))]
theorem d_Letters_carryOutOne_0 : decode b_Letters_carryOutOne 0 = .ok (.aload_n 0, 1) := by decide +kernel
theorem d_Letters_carryOutOne_1 : decode b_Letters_carryOutOne 1 = .ok (.iload_n 1, 1) := by decide +kernel
theorem d_Letters_carryOutOne_2 : decode b_Letters_carryOutOne 2 = .ok (.invokevirtual 61, 3) := by decide +kernel
theorem d_Letters_carryOutOne_5 : decode b_Letters_carryOutOne 5 = .ok (.lookupswitch 117 #[(99, 35), (103, 103), (108, 63)], 35) := by decide +kernel
theorem d_Letters_carryOutOne_40 : decode b_Letters_carryOutOne 40 = .ok (.aload_n 0, 1) := by decide +kernel
theorem d_Letters_carryOutOne_41 : decode b_Letters_carryOutOne 41 = .ok (.getfield 22, 3) := by decide +kernel
theorem d_Letters_carryOutOne_44 : decode b_Letters_carryOutOne 44 = .ok (.ldc 46, 2) := by decide +kernel
theorem d_Letters_carryOutOne_46 : decode b_Letters_carryOutOne 46 = .ok (.aload_n 0, 1) := by decide +kernel
theorem d_Letters_carryOutOne_47 : decode b_Letters_carryOutOne 47 = .ok (.iload_n 1, 1) := by decide +kernel
theorem d_Letters_carryOutOne_48 : decode b_Letters_carryOutOne 48 = .ok (.iconst 1, 1) := by decide +kernel
theorem d_Letters_carryOutOne_49 : decode b_Letters_carryOutOne 49 = .ok (.iadd, 1) := by decide +kernel
theorem d_Letters_carryOutOne_50 : decode b_Letters_carryOutOne 50 = .ok (.invokevirtual 61, 3) := by decide +kernel
theorem d_Letters_carryOutOne_53 : decode b_Letters_carryOutOne 53 = .ok (.invokevirtual 48, 3) := by decide +kernel
theorem d_Letters_carryOutOne_56 : decode b_Letters_carryOutOne 56 = .ok (.aload_n 0, 1) := by decide +kernel
theorem d_Letters_carryOutOne_57 : decode b_Letters_carryOutOne 57 = .ok (.iload_n 1, 1) := by decide +kernel
theorem d_Letters_carryOutOne_58 : decode b_Letters_carryOutOne 58 = .ok (.iconst 2, 1) := by decide +kernel
theorem d_Letters_carryOutOne_59 : decode b_Letters_carryOutOne 59 = .ok (.iadd, 1) := by decide +kernel
theorem d_Letters_carryOutOne_60 : decode b_Letters_carryOutOne 60 = .ok (.iload_n 2, 1) := by decide +kernel
theorem d_Letters_carryOutOne_61 : decode b_Letters_carryOutOne 61 = .ok (.invokevirtual 65, 3) := by decide +kernel
theorem d_Letters_carryOutOne_64 : decode b_Letters_carryOutOne 64 = .ok (.invokevirtual 69, 3) := by decide +kernel
theorem d_Letters_carryOutOne_67 : decode b_Letters_carryOutOne 67 = .ok (.ireturn, 1) := by decide +kernel
theorem d_Letters_carryOutOne_68 : decode b_Letters_carryOutOne 68 = .ok (.aload_n 0, 1) := by decide +kernel
theorem d_Letters_carryOutOne_69 : decode b_Letters_carryOutOne 69 = .ok (.iconst 0, 1) := by decide +kernel
theorem d_Letters_carryOutOne_70 : decode b_Letters_carryOutOne 70 = .ok (.aload_n 0, 1) := by decide +kernel
theorem d_Letters_carryOutOne_71 : decode b_Letters_carryOutOne 71 = .ok (.iload_n 1, 1) := by decide +kernel
theorem d_Letters_carryOutOne_72 : decode b_Letters_carryOutOne 72 = .ok (.iconst 1, 1) := by decide +kernel
theorem d_Letters_carryOutOne_73 : decode b_Letters_carryOutOne 73 = .ok (.iadd, 1) := by decide +kernel
theorem d_Letters_carryOutOne_74 : decode b_Letters_carryOutOne 74 = .ok (.iload_n 1, 1) := by decide +kernel
theorem d_Letters_carryOutOne_75 : decode b_Letters_carryOutOne 75 = .ok (.iconst 2, 1) := by decide +kernel
theorem d_Letters_carryOutOne_76 : decode b_Letters_carryOutOne 76 = .ok (.iadd, 1) := by decide +kernel
theorem d_Letters_carryOutOne_77 : decode b_Letters_carryOutOne 77 = .ok (.invokevirtual 65, 3) := by decide +kernel
theorem d_Letters_carryOutOne_80 : decode b_Letters_carryOutOne 80 = .ok (.invokevirtual 72, 3) := by decide +kernel
theorem d_Letters_carryOutOne_83 : decode b_Letters_carryOutOne 83 = .ok (.ifCond .eq 23, 3) := by decide +kernel
theorem d_Letters_carryOutOne_86 : decode b_Letters_carryOutOne 86 = .ok (.aload_n 0, 1) := by decide +kernel
theorem d_Letters_carryOutOne_87 : decode b_Letters_carryOutOne 87 = .ok (.iconst 1, 1) := by decide +kernel
theorem d_Letters_carryOutOne_88 : decode b_Letters_carryOutOne 88 = .ok (.aload_n 0, 1) := by decide +kernel
theorem d_Letters_carryOutOne_89 : decode b_Letters_carryOutOne 89 = .ok (.iload_n 1, 1) := by decide +kernel
theorem d_Letters_carryOutOne_90 : decode b_Letters_carryOutOne 90 = .ok (.iconst 2, 1) := by decide +kernel
theorem d_Letters_carryOutOne_91 : decode b_Letters_carryOutOne 91 = .ok (.iadd, 1) := by decide +kernel
theorem d_Letters_carryOutOne_92 : decode b_Letters_carryOutOne 92 = .ok (.iload_n 2, 1) := by decide +kernel
theorem d_Letters_carryOutOne_93 : decode b_Letters_carryOutOne 93 = .ok (.invokevirtual 65, 3) := by decide +kernel
theorem d_Letters_carryOutOne_96 : decode b_Letters_carryOutOne 96 = .ok (.invokevirtual 72, 3) := by decide +kernel
theorem d_Letters_carryOutOne_99 : decode b_Letters_carryOutOne 99 = .ok (.ifCond .eq 7, 3) := by decide +kernel
theorem d_Letters_carryOutOne_102 : decode b_Letters_carryOutOne 102 = .ok (.iconst 1, 1) := by decide +kernel
theorem d_Letters_carryOutOne_103 : decode b_Letters_carryOutOne 103 = .ok (.goto 4, 3) := by decide +kernel
theorem d_Letters_carryOutOne_106 : decode b_Letters_carryOutOne 106 = .ok (.iconst 0, 1) := by decide +kernel
theorem d_Letters_carryOutOne_107 : decode b_Letters_carryOutOne 107 = .ok (.ireturn, 1) := by decide +kernel
theorem d_Letters_carryOutOne_108 : decode b_Letters_carryOutOne 108 = .ok (.aload_n 0, 1) := by decide +kernel
theorem d_Letters_carryOutOne_109 : decode b_Letters_carryOutOne 109 = .ok (.iconst 2, 1) := by decide +kernel
theorem d_Letters_carryOutOne_110 : decode b_Letters_carryOutOne 110 = .ok (.aload_n 0, 1) := by decide +kernel
theorem d_Letters_carryOutOne_111 : decode b_Letters_carryOutOne 111 = .ok (.iload_n 1, 1) := by decide +kernel
theorem d_Letters_carryOutOne_112 : decode b_Letters_carryOutOne 112 = .ok (.iconst 1, 1) := by decide +kernel
theorem d_Letters_carryOutOne_113 : decode b_Letters_carryOutOne 113 = .ok (.iadd, 1) := by decide +kernel
theorem d_Letters_carryOutOne_114 : decode b_Letters_carryOutOne 114 = .ok (.iload_n 2, 1) := by decide +kernel
theorem d_Letters_carryOutOne_115 : decode b_Letters_carryOutOne 115 = .ok (.invokevirtual 65, 3) := by decide +kernel
theorem d_Letters_carryOutOne_118 : decode b_Letters_carryOutOne 118 = .ok (.invokevirtual 72, 3) := by decide +kernel
theorem d_Letters_carryOutOne_121 : decode b_Letters_carryOutOne 121 = .ok (.ireturn, 1) := by decide +kernel
theorem d_Letters_carryOutOne_122 : decode b_Letters_carryOutOne 122 = .ok (.iconst 0, 1) := by decide +kernel
theorem d_Letters_carryOutOne_123 : decode b_Letters_carryOutOne 123 = .ok (.ireturn, 1) := by decide +kernel
set_option maxHeartbeats 4000000 in
set_option maxRecDepth 100000 in
theorem c_Letters_carryOutOne {l : Launch} {D : va_G} {cI cJ cC : ClassId} {t_LEAST_SETTING t_GREATEST_SETTING t_str t_val : Nat} (a_h a_h_text a_h_trial a_h_trial_kinds a_h_trial_sweets a_h_trial_settings a_h_trial_heaps : Nat) {z_h_length : Int32} {z_h_text : (Nat → Int32)} {z_h_trial : RS} {x1 : Int32} {x2 : Int32} {q : Int32 × RS} (hf : f_Letters_carryOutOne z_h_length z_h_text z_h_trial x1 x2 = some q) : xI l y_Letters_carryOutOne b_Letters_carryOutOne 3 .boolean 4 91 D (tyK cI cJ cC) (xEv t_LEAST_SETTING t_GREATEST_SETTING t_str t_val) [.ref a_h, .int x1, .int x2] (w_Letters_carryOutOne cI cJ cC a_h a_h_text a_h_trial a_h_trial_kinds a_h_trial_sweets a_h_trial_settings a_h_trial_heaps z_h_length z_h_text (r_children z_h_trial) (r_strokes z_h_trial) (r_gave z_h_trial) (r_threw z_h_trial) (r_kinds z_h_trial) (r_sweets z_h_trial) (r_settings z_h_trial) (r_heaps z_h_trial)) q.1 (w_Letters_carryOutOne cI cJ cC a_h a_h_text a_h_trial a_h_trial_kinds a_h_trial_sweets a_h_trial_settings a_h_trial_heaps z_h_length z_h_text (r_children q.2) (r_strokes q.2) (r_gave q.2) (r_threw q.2) (r_kinds q.2) (r_sweets q.2) (r_settings q.2) (r_heaps q.2)) := by
  refine xI_of (by decide) (Nat.le_of_ble_eq_true rfl) ?_
  intro p e s m args below meth c A Q hx hb hml hown hT hA hP hD hK hS hE hret ls hl
  have hown : s.vm.findClass R_Letters = some m.cls := hown
  have hl : lv_has ls 3 [(0, .ref a_h), (1, .int x1), (2, .int x2)] := hl
  unfold f_Letters_carryOutOne at hf
  obtain ⟨hZ_LEAST_SETTING, hT_LEAST_SETTING, hZ_GREATEST_SETTING, hT_GREATEST_SETTING, hZ_CS, hO_str, hC_str, hV_str, hT_str, hR_str, hN_X_outside, hNF_LEAST_SETTING, hNF_GREATEST_SETTING⟩ := id hE
  refine lv_aload_n hx hb d_Letters_carryOutOne_0 rfl (lv_at hl 0 rfl) ?_
  refine lv_iload_n hx hb d_Letters_carryOutOne_1 rfl (lv_at hl 1 rfl) ?_
  obtain ⟨q1, hq1, hf⟩ := io_b hf
  refine xcVI (wc := (w_Letters_letterAt cI cJ cC a_h a_h_text a_h_trial z_h_length z_h_text)) (wc' := (w_Letters_letterAt cI cJ cC a_h a_h_text a_h_trial z_h_length z_h_text)) (ws' := (w_Letters_carryOutOne cI cJ cC a_h a_h_text a_h_trial a_h_trial_kinds a_h_trial_sweets a_h_trial_settings a_h_trial_heaps z_h_length z_h_text (r_children z_h_trial) (r_strokes z_h_trial) (r_gave z_h_trial) (r_threw z_h_trial) (r_kinds z_h_trial) (r_sweets z_h_trial) (r_settings z_h_trial) (r_heaps z_h_trial))) (As := [.int x1]) (rest := []) hx hb hml hown hT (c_Letters_letterAt (z_h_length := z_h_length) (z_h_text := z_h_text) a_h a_h_text a_h_trial hq1) k_525 k_527 ks_9 k_3 k_528 hd_Letters_letterAt ⟨Nat.le_of_ble_eq_true rfl, Nat.le_of_ble_eq_true rfl⟩ xE0_ok trivial hA hK hP hD hS [0, 1] [2, 3, 4, 5, 6] [5, 6, 0, 1, 2, 3, 4] rfl rfl rfl rfl rfl rfl rfl rfl rfl rfl hl.1 rfl (Nat.le_of_ble_eq_true rfl) ⟨Nat.zero_le _, Nat.zero_le _⟩ d_Letters_carryOutOne_2 (fun H locs hP hD hS => ?_)
  rcases Decidable.em (q1 = 99) with c2 | c2
  · have hf := io_t hf c2
    refine lv_lookup (off := 35) (tgt := 40) hx hb d_Letters_carryOutOne_5 (by decide +kernel) (by rw [c2]; rfl) (by decide) ?_
    refine lv_aload_n hx hb d_Letters_carryOutOne_40 rfl (lv_at hl 0 rfl) ?_
    refine va_get hx hb hT i_Letters hown hK hP 0 rfl rfl 2 (Nat.le_of_ble_eq_true rfl) (hT _ k_79) (fun _ h => h) rfl d_Letters_carryOutOne_41 ?_
    refine va_ldcS hx hb hown hR_str d_Letters_carryOutOne_44 ?_
    refine lv_aload_n hx hb d_Letters_carryOutOne_46 rfl (lv_at hl 0 rfl) ?_
    refine lv_iload_n hx hb d_Letters_carryOutOne_47 rfl (lv_at hl 1 rfl) ?_
    refine lv_iconst (v := 1) hx hb d_Letters_carryOutOne_48 (by decide) ?_
    refine lv_iadd hx hb d_Letters_carryOutOne_49 ?_
    obtain ⟨q3, hq3, hf⟩ := io_b hf
    refine xcVI (wc := (w_Letters_letterAt cI cJ cC a_h a_h_text a_h_trial z_h_length z_h_text)) (wc' := (w_Letters_letterAt cI cJ cC a_h a_h_text a_h_trial z_h_length z_h_text)) (ws' := (w_Letters_carryOutOne cI cJ cC a_h a_h_text a_h_trial a_h_trial_kinds a_h_trial_sweets a_h_trial_settings a_h_trial_heaps z_h_length z_h_text (r_children z_h_trial) (r_strokes z_h_trial) (r_gave z_h_trial) (r_threw z_h_trial) (r_kinds z_h_trial) (r_sweets z_h_trial) (r_settings z_h_trial) (r_heaps z_h_trial))) (As := [.int (x1 + 1)]) (rest := [.ref t_str, .ref a_h_trial]) hx hb hml hown hT (c_Letters_letterAt (z_h_length := z_h_length) (z_h_text := z_h_text) a_h a_h_text a_h_trial hq3) k_525 k_527 ks_9 k_3 k_528 hd_Letters_letterAt ⟨Nat.le_of_ble_eq_true rfl, Nat.le_of_ble_eq_true rfl⟩ xE0_ok trivial hA hK hP hD hS [0, 1] [2, 3, 4, 5, 6] [5, 6, 0, 1, 2, 3, 4] rfl rfl rfl rfl rfl rfl rfl rfl rfl rfl hl.1 rfl (Nat.le_of_ble_eq_true rfl) ⟨Nat.zero_le _, Nat.zero_le _⟩ d_Letters_carryOutOne_50 (fun H locs hP hD hS => ?_)
    obtain ⟨q4, hq4, hf⟩ := io_b hf
    refine xcTI (wc := []) (wc' := []) (ws' := (w_Letters_carryOutOne cI cJ cC a_h a_h_text a_h_trial a_h_trial_kinds a_h_trial_sweets a_h_trial_settings a_h_trial_heaps z_h_length z_h_text (r_children z_h_trial) (r_strokes z_h_trial) (r_gave z_h_trial) (r_threw z_h_trial) (r_kinds z_h_trial) (r_sweets z_h_trial) (r_settings z_h_trial) (r_heaps z_h_trial))) (As := [.int q3]) (rest := [.ref a_h_trial]) hx hb hml hown hT (c_Str_indexOf1 hq4) k_432 k_433 k_434 k_8 k_435 hd_Str_indexOf1 ⟨Nat.le_of_ble_eq_true rfl, Nat.le_of_ble_eq_true rfl⟩ (xEv_ok _ _ _ _) hE hA hK hP hD hS [] [0, 1, 2, 3, 4, 5, 6] [0, 1, 2, 3, 4, 5, 6] rfl rfl rfl rfl rfl rfl rfl (x_rec hO_str hS) hl.1 rfl (Nat.le_of_ble_eq_true rfl) ⟨Nat.zero_le _, Nat.zero_le _⟩ d_Letters_carryOutOne_53 (fun H locs hP hD hS => ?_)
    refine lv_aload_n hx hb d_Letters_carryOutOne_56 rfl (lv_at hl 0 rfl) ?_
    refine lv_iload_n hx hb d_Letters_carryOutOne_57 rfl (lv_at hl 1 rfl) ?_
    refine lv_iconst (v := 2) hx hb d_Letters_carryOutOne_58 (by decide) ?_
    refine lv_iadd hx hb d_Letters_carryOutOne_59 ?_
    refine lv_iload_n hx hb d_Letters_carryOutOne_60 rfl (lv_at hl 2 rfl) ?_
    obtain ⟨q5, hq5, hf⟩ := io_b hf
    refine xcVI (wc := (w_Letters_number cI cJ cC a_h a_h_text a_h_trial z_h_length z_h_text)) (wc' := (w_Letters_number cI cJ cC a_h a_h_text a_h_trial z_h_length z_h_text)) (ws' := (w_Letters_carryOutOne cI cJ cC a_h a_h_text a_h_trial a_h_trial_kinds a_h_trial_sweets a_h_trial_settings a_h_trial_heaps z_h_length z_h_text (r_children z_h_trial) (r_strokes z_h_trial) (r_gave z_h_trial) (r_threw z_h_trial) (r_kinds z_h_trial) (r_sweets z_h_trial) (r_settings z_h_trial) (r_heaps z_h_trial))) (As := [.int (x1 + 2), .int x2]) (rest := [.int q4, .ref a_h_trial]) hx hb hml hown hT (c_Letters_number (z_h_length := z_h_length) (z_h_text := z_h_text) a_h a_h_text a_h_trial hq5) k_529 k_531 ks_10 k_3 k_532 hd_Letters_number ⟨Nat.le_of_ble_eq_true rfl, Nat.le_of_ble_eq_true rfl⟩ xE0_ok trivial hA hK hP hD hS [0, 1] [2, 3, 4, 5, 6] [5, 6, 0, 1, 2, 3, 4] rfl rfl rfl rfl rfl rfl rfl rfl rfl rfl hl.1 rfl (Nat.le_of_ble_eq_true rfl) ⟨Nat.zero_le _, Nat.zero_le _⟩ d_Letters_carryOutOne_61 (fun H locs hP hD hS => ?_)
    obtain ⟨q6, hq6, hf⟩ := io_b hf
    refine xcVI (wc := (w_Ring_seatLast cI cJ cC a_h_trial a_h_trial_kinds a_h_trial_sweets a_h_trial_settings a_h_trial_heaps (r_children z_h_trial) (r_strokes z_h_trial) (r_gave z_h_trial) (r_threw z_h_trial) (r_kinds z_h_trial) (r_sweets z_h_trial) (r_settings z_h_trial) (r_heaps z_h_trial))) (wc' := (w_Ring_seatLast cI cJ cC a_h_trial a_h_trial_kinds a_h_trial_sweets a_h_trial_settings a_h_trial_heaps (r_children q6.2) (r_strokes q6.2) (r_gave q6.2) (r_threw q6.2) (r_kinds q6.2) (r_sweets q6.2) (r_settings q6.2) (r_heaps q6.2))) (ws' := (w_Letters_carryOutOne cI cJ cC a_h a_h_text a_h_trial a_h_trial_kinds a_h_trial_sweets a_h_trial_settings a_h_trial_heaps z_h_length z_h_text (r_children q6.2) (r_strokes q6.2) (r_gave q6.2) (r_threw q6.2) (r_kinds q6.2) (r_sweets q6.2) (r_settings q6.2) (r_heaps q6.2))) (As := [.int q4, .int q5]) (rest := []) hx hb hml hown hT (c_Ring_seatLast (z_h := z_h_trial) a_h_trial a_h_trial_kinds a_h_trial_sweets a_h_trial_settings a_h_trial_heaps hq6) k_533 k_534 k_535 k_2 k_536 hd_Ring_seatLast ⟨Nat.le_of_ble_eq_true rfl, Nat.le_of_ble_eq_true rfl⟩ xE0_ok trivial hA hK hP hD hS [2, 3, 4, 5, 6] [0, 1] [0, 1, 2, 3, 4, 5, 6] rfl rfl rfl rfl rfl rfl rfl rfl rfl rfl hl.1 rfl (Nat.le_of_ble_eq_true rfl) ⟨Nat.zero_le _, Nat.zero_le _⟩ d_Letters_carryOutOne_64 (fun H locs hP hD hS => ?_)
    obtain ⟨c7, hf⟩ := io_n hf
    have hq := Option.some.inj hf
    subst hq
    exact hret _ _ _ _ _ d_Letters_carryOutOne_67 (x_narZ c7) rfl hP hD hS
  · have hf := io_f hf c2
    rcases Decidable.em (q1 = 103) with c8 | c8
    · have hf := io_t hf c8
      refine lv_lookup (off := 103) (tgt := 108) hx hb d_Letters_carryOutOne_5 (by decide +kernel) (by rw [c8]; rfl) (by decide) ?_
      refine lv_aload_n hx hb d_Letters_carryOutOne_108 rfl (lv_at hl 0 rfl) ?_
      refine lv_iconst (v := 2) hx hb d_Letters_carryOutOne_109 (by decide) ?_
      refine lv_aload_n hx hb d_Letters_carryOutOne_110 rfl (lv_at hl 0 rfl) ?_
      refine lv_iload_n hx hb d_Letters_carryOutOne_111 rfl (lv_at hl 1 rfl) ?_
      refine lv_iconst (v := 1) hx hb d_Letters_carryOutOne_112 (by decide) ?_
      refine lv_iadd hx hb d_Letters_carryOutOne_113 ?_
      refine lv_iload_n hx hb d_Letters_carryOutOne_114 rfl (lv_at hl 2 rfl) ?_
      obtain ⟨q9, hq9, hf⟩ := io_b hf
      refine xcVI (wc := (w_Letters_number cI cJ cC a_h a_h_text a_h_trial z_h_length z_h_text)) (wc' := (w_Letters_number cI cJ cC a_h a_h_text a_h_trial z_h_length z_h_text)) (ws' := (w_Letters_carryOutOne cI cJ cC a_h a_h_text a_h_trial a_h_trial_kinds a_h_trial_sweets a_h_trial_settings a_h_trial_heaps z_h_length z_h_text (r_children z_h_trial) (r_strokes z_h_trial) (r_gave z_h_trial) (r_threw z_h_trial) (r_kinds z_h_trial) (r_sweets z_h_trial) (r_settings z_h_trial) (r_heaps z_h_trial))) (As := [.int (x1 + 1), .int x2]) (rest := [.int 2, .ref a_h]) hx hb hml hown hT (c_Letters_number (z_h_length := z_h_length) (z_h_text := z_h_text) a_h a_h_text a_h_trial hq9) k_529 k_531 ks_10 k_3 k_532 hd_Letters_number ⟨Nat.le_of_ble_eq_true rfl, Nat.le_of_ble_eq_true rfl⟩ xE0_ok trivial hA hK hP hD hS [0, 1] [2, 3, 4, 5, 6] [5, 6, 0, 1, 2, 3, 4] rfl rfl rfl rfl rfl rfl rfl rfl rfl rfl hl.1 rfl (Nat.le_of_ble_eq_true rfl) ⟨Nat.zero_le _, Nat.zero_le _⟩ d_Letters_carryOutOne_115 (fun H locs hP hD hS => ?_)
      obtain ⟨q10, hq10, hf⟩ := io_b hf
      refine xcVI (wc := (w_Letters_bring cI cJ cC a_h a_h_text a_h_trial a_h_trial_kinds a_h_trial_sweets a_h_trial_settings a_h_trial_heaps z_h_length (r_children z_h_trial) (r_strokes z_h_trial) (r_gave z_h_trial) (r_threw z_h_trial) (r_kinds z_h_trial) (r_sweets z_h_trial) (r_settings z_h_trial) (r_heaps z_h_trial))) (wc' := (w_Letters_bring cI cJ cC a_h a_h_text a_h_trial a_h_trial_kinds a_h_trial_sweets a_h_trial_settings a_h_trial_heaps z_h_length (r_children q10.2) (r_strokes q10.2) (r_gave q10.2) (r_threw q10.2) (r_kinds q10.2) (r_sweets q10.2) (r_settings q10.2) (r_heaps q10.2))) (ws' := (w_Letters_carryOutOne cI cJ cC a_h a_h_text a_h_trial a_h_trial_kinds a_h_trial_sweets a_h_trial_settings a_h_trial_heaps z_h_length z_h_text (r_children q10.2) (r_strokes q10.2) (r_gave q10.2) (r_threw q10.2) (r_kinds q10.2) (r_sweets q10.2) (r_settings q10.2) (r_heaps q10.2))) (As := [.int 2, .int q9]) (rest := []) hx hb hml hown hT (c_Letters_bring (z_h_trial := z_h_trial) a_h a_h_text a_h_trial a_h_trial_kinds a_h_trial_sweets a_h_trial_settings a_h_trial_heaps z_h_length hq10) k_537 k_539 ks_11 k_3 k_540 hd_Letters_bring ⟨Nat.le_of_ble_eq_true rfl, Nat.le_of_ble_eq_true rfl⟩ (xEv_ok _ _ _ _) hE hA hK hP hD hS [0, 2, 3, 4, 5, 6] [1] [1, 0, 2, 3, 4, 5, 6] rfl rfl rfl rfl rfl rfl rfl rfl rfl rfl hl.1 rfl (Nat.le_of_ble_eq_true rfl) ⟨Nat.zero_le _, Nat.zero_le _⟩ d_Letters_carryOutOne_118 (fun H locs hP hD hS => ?_)
      obtain ⟨c11, hf⟩ := io_n hf
      have hq := Option.some.inj hf
      subst hq
      exact hret _ _ _ _ _ d_Letters_carryOutOne_121 (x_narZ c11) rfl hP hD hS
    · have hf := io_f hf c8
      rcases Decidable.em (q1 = 108) with c12 | c12
      · have hf := io_t hf c12
        refine lv_lookup (off := 63) (tgt := 68) hx hb d_Letters_carryOutOne_5 (by decide +kernel) (by rw [c12]; rfl) (by decide) ?_
        refine lv_aload_n hx hb d_Letters_carryOutOne_68 rfl (lv_at hl 0 rfl) ?_
        refine lv_iconst (v := 0) hx hb d_Letters_carryOutOne_69 (by decide) ?_
        refine lv_aload_n hx hb d_Letters_carryOutOne_70 rfl (lv_at hl 0 rfl) ?_
        refine lv_iload_n hx hb d_Letters_carryOutOne_71 rfl (lv_at hl 1 rfl) ?_
        refine lv_iconst (v := 1) hx hb d_Letters_carryOutOne_72 (by decide) ?_
        refine lv_iadd hx hb d_Letters_carryOutOne_73 ?_
        refine lv_iload_n hx hb d_Letters_carryOutOne_74 rfl (lv_at hl 1 rfl) ?_
        refine lv_iconst (v := 2) hx hb d_Letters_carryOutOne_75 (by decide) ?_
        refine lv_iadd hx hb d_Letters_carryOutOne_76 ?_
        obtain ⟨q13, hq13, hf⟩ := io_b hf
        refine xcVI (wc := (w_Letters_number cI cJ cC a_h a_h_text a_h_trial z_h_length z_h_text)) (wc' := (w_Letters_number cI cJ cC a_h a_h_text a_h_trial z_h_length z_h_text)) (ws' := (w_Letters_carryOutOne cI cJ cC a_h a_h_text a_h_trial a_h_trial_kinds a_h_trial_sweets a_h_trial_settings a_h_trial_heaps z_h_length z_h_text (r_children z_h_trial) (r_strokes z_h_trial) (r_gave z_h_trial) (r_threw z_h_trial) (r_kinds z_h_trial) (r_sweets z_h_trial) (r_settings z_h_trial) (r_heaps z_h_trial))) (As := [.int (x1 + 1), .int (x1 + 2)]) (rest := [.int 0, .ref a_h]) hx hb hml hown hT (c_Letters_number (z_h_length := z_h_length) (z_h_text := z_h_text) a_h a_h_text a_h_trial hq13) k_529 k_531 ks_10 k_3 k_532 hd_Letters_number ⟨Nat.le_of_ble_eq_true rfl, Nat.le_of_ble_eq_true rfl⟩ xE0_ok trivial hA hK hP hD hS [0, 1] [2, 3, 4, 5, 6] [5, 6, 0, 1, 2, 3, 4] rfl rfl rfl rfl rfl rfl rfl rfl rfl rfl hl.1 rfl (Nat.le_of_ble_eq_true rfl) ⟨Nat.zero_le _, Nat.zero_le _⟩ d_Letters_carryOutOne_77 (fun H locs hP hD hS => ?_)
        obtain ⟨q14, hq14, hf⟩ := io_b hf
        refine xcVI (wc := (w_Letters_bring cI cJ cC a_h a_h_text a_h_trial a_h_trial_kinds a_h_trial_sweets a_h_trial_settings a_h_trial_heaps z_h_length (r_children z_h_trial) (r_strokes z_h_trial) (r_gave z_h_trial) (r_threw z_h_trial) (r_kinds z_h_trial) (r_sweets z_h_trial) (r_settings z_h_trial) (r_heaps z_h_trial))) (wc' := (w_Letters_bring cI cJ cC a_h a_h_text a_h_trial a_h_trial_kinds a_h_trial_sweets a_h_trial_settings a_h_trial_heaps z_h_length (r_children q14.2) (r_strokes q14.2) (r_gave q14.2) (r_threw q14.2) (r_kinds q14.2) (r_sweets q14.2) (r_settings q14.2) (r_heaps q14.2))) (ws' := (w_Letters_carryOutOne cI cJ cC a_h a_h_text a_h_trial a_h_trial_kinds a_h_trial_sweets a_h_trial_settings a_h_trial_heaps z_h_length z_h_text (r_children q14.2) (r_strokes q14.2) (r_gave q14.2) (r_threw q14.2) (r_kinds q14.2) (r_sweets q14.2) (r_settings q14.2) (r_heaps q14.2))) (As := [.int 0, .int q13]) (rest := []) hx hb hml hown hT (c_Letters_bring (z_h_trial := z_h_trial) a_h a_h_text a_h_trial a_h_trial_kinds a_h_trial_sweets a_h_trial_settings a_h_trial_heaps z_h_length hq14) k_537 k_539 ks_11 k_3 k_540 hd_Letters_bring ⟨Nat.le_of_ble_eq_true rfl, Nat.le_of_ble_eq_true rfl⟩ (xEv_ok _ _ _ _) hE hA hK hP hD hS [0, 2, 3, 4, 5, 6] [1] [1, 0, 2, 3, 4, 5, 6] rfl rfl rfl rfl rfl rfl rfl rfl rfl rfl hl.1 rfl (Nat.le_of_ble_eq_true rfl) ⟨Nat.zero_le _, Nat.zero_le _⟩ d_Letters_carryOutOne_80 (fun H locs hP hD hS => ?_)
        refine lv_if_eq (tgt := 106) hx hb d_Letters_carryOutOne_83 (by decide) (fun c15 => ?_) (fun c15 => ?_)
        · have hf := io_t hf c15
          refine lv_iconst (v := 0) hx hb d_Letters_carryOutOne_106 (by decide) ?_
          have hq := Option.some.inj hf
          subst hq
          exact hret _ _ _ _ _ d_Letters_carryOutOne_107 (by decide) rfl hP hD hS
        · have hf := io_f hf c15
          refine lv_aload_n hx hb d_Letters_carryOutOne_86 rfl (lv_at hl 0 rfl) ?_
          refine lv_iconst (v := 1) hx hb d_Letters_carryOutOne_87 (by decide) ?_
          refine lv_aload_n hx hb d_Letters_carryOutOne_88 rfl (lv_at hl 0 rfl) ?_
          refine lv_iload_n hx hb d_Letters_carryOutOne_89 rfl (lv_at hl 1 rfl) ?_
          refine lv_iconst (v := 2) hx hb d_Letters_carryOutOne_90 (by decide) ?_
          refine lv_iadd hx hb d_Letters_carryOutOne_91 ?_
          refine lv_iload_n hx hb d_Letters_carryOutOne_92 rfl (lv_at hl 2 rfl) ?_
          obtain ⟨q16, hq16, hf⟩ := io_b hf
          refine xcVI (wc := (w_Letters_number cI cJ cC a_h a_h_text a_h_trial z_h_length z_h_text)) (wc' := (w_Letters_number cI cJ cC a_h a_h_text a_h_trial z_h_length z_h_text)) (ws' := (w_Letters_carryOutOne cI cJ cC a_h a_h_text a_h_trial a_h_trial_kinds a_h_trial_sweets a_h_trial_settings a_h_trial_heaps z_h_length z_h_text (r_children q14.2) (r_strokes q14.2) (r_gave q14.2) (r_threw q14.2) (r_kinds q14.2) (r_sweets q14.2) (r_settings q14.2) (r_heaps q14.2))) (As := [.int (x1 + 2), .int x2]) (rest := [.int 1, .ref a_h]) hx hb hml hown hT (c_Letters_number (z_h_length := z_h_length) (z_h_text := z_h_text) a_h a_h_text a_h_trial hq16) k_529 k_531 ks_10 k_3 k_532 hd_Letters_number ⟨Nat.le_of_ble_eq_true rfl, Nat.le_of_ble_eq_true rfl⟩ xE0_ok trivial hA hK hP hD hS [0, 1] [2, 3, 4, 5, 6] [5, 6, 0, 1, 2, 3, 4] rfl rfl rfl rfl rfl rfl rfl rfl rfl rfl hl.1 rfl (Nat.le_of_ble_eq_true rfl) ⟨Nat.zero_le _, Nat.zero_le _⟩ d_Letters_carryOutOne_93 (fun H locs hP hD hS => ?_)
          obtain ⟨q17, hq17, hf⟩ := io_b hf
          refine xcVI (wc := (w_Letters_bring cI cJ cC a_h a_h_text a_h_trial a_h_trial_kinds a_h_trial_sweets a_h_trial_settings a_h_trial_heaps z_h_length (r_children q14.2) (r_strokes q14.2) (r_gave q14.2) (r_threw q14.2) (r_kinds q14.2) (r_sweets q14.2) (r_settings q14.2) (r_heaps q14.2))) (wc' := (w_Letters_bring cI cJ cC a_h a_h_text a_h_trial a_h_trial_kinds a_h_trial_sweets a_h_trial_settings a_h_trial_heaps z_h_length (r_children q17.2) (r_strokes q17.2) (r_gave q17.2) (r_threw q17.2) (r_kinds q17.2) (r_sweets q17.2) (r_settings q17.2) (r_heaps q17.2))) (ws' := (w_Letters_carryOutOne cI cJ cC a_h a_h_text a_h_trial a_h_trial_kinds a_h_trial_sweets a_h_trial_settings a_h_trial_heaps z_h_length z_h_text (r_children q17.2) (r_strokes q17.2) (r_gave q17.2) (r_threw q17.2) (r_kinds q17.2) (r_sweets q17.2) (r_settings q17.2) (r_heaps q17.2))) (As := [.int 1, .int q16]) (rest := []) hx hb hml hown hT (c_Letters_bring (z_h_trial := q14.2) a_h a_h_text a_h_trial a_h_trial_kinds a_h_trial_sweets a_h_trial_settings a_h_trial_heaps z_h_length hq17) k_537 k_539 ks_11 k_3 k_540 hd_Letters_bring ⟨Nat.le_of_ble_eq_true rfl, Nat.le_of_ble_eq_true rfl⟩ (xEv_ok _ _ _ _) hE hA hK hP hD hS [0, 2, 3, 4, 5, 6] [1] [1, 0, 2, 3, 4, 5, 6] rfl rfl rfl rfl rfl rfl rfl rfl rfl rfl hl.1 rfl (Nat.le_of_ble_eq_true rfl) ⟨Nat.zero_le _, Nat.zero_le _⟩ d_Letters_carryOutOne_96 (fun H locs hP hD hS => ?_)
          refine lv_if_eq (tgt := 106) hx hb d_Letters_carryOutOne_99 (by decide) (fun c18 => ?_) (fun c18 => ?_)
          · have hf := io_t hf c18
            refine lv_iconst (v := 0) hx hb d_Letters_carryOutOne_106 (by decide) ?_
            have hq := Option.some.inj hf
            subst hq
            exact hret _ _ _ _ _ d_Letters_carryOutOne_107 (by decide) rfl hP hD hS
          · have hf := io_f hf c18
            refine lv_iconst (v := 1) hx hb d_Letters_carryOutOne_102 (by decide) ?_
            refine lv_goto (tgt := 107) hx hb d_Letters_carryOutOne_103 (by decide) ?_
            have hq := Option.some.inj hf
            subst hq
            exact hret _ _ _ _ _ d_Letters_carryOutOne_107 (by decide) rfl hP hD hS
      · have hf := io_f hf c12
        refine lv_lookup (off := 117) (tgt := 122) hx hb d_Letters_carryOutOne_5 (by decide +kernel) (by refine (lv_osw (k := 99) c2 (by decide +kernel)).trans ?_; refine (lv_osw (k := 103) c8 (by decide +kernel)).trans ?_; refine (lv_osw (k := 108) c12 (by decide +kernel)).trans ?_; rfl) (by decide) ?_
        refine lv_iconst (v := 0) hx hb d_Letters_carryOutOne_122 (by decide) ?_
        have hq := Option.some.inj hf
        subst hq
        exact hret _ _ _ _ _ d_Letters_carryOutOne_123 (by decide) rfl hP hD hS
abbrev w_Letters_carryOut (cI cJ cC : ClassId) (a_h a_h_text a_h_trial a_h_trial_kinds a_h_trial_sweets a_h_trial_settings a_h_trial_heaps a_g1 a_g1_kinds a_g1_sweets a_g1_settings a_g1_heaps : Nat) (p_h_length : Int32) (p_h_text : (Nat → Int32)) (p_h_trial_children : Int32) (p_h_trial_strokes : Int32) (p_h_trial_gave : Int32) (p_h_trial_threw : Int32) (p_h_trial_kinds : (Nat → Int32)) (p_h_trial_sweets : (Nat → Int32)) (p_h_trial_settings : (Nat → Int32)) (p_h_trial_heaps : (Nat → Int32)) (p_g1_children : Int32) (p_g1_strokes : Int32) (p_g1_gave : Int32) (p_g1_threw : Int32) (p_g1_kinds : (Nat → Int32)) (p_g1_sweets : (Nat → Int32)) (p_g1_settings : (Nat → Int32)) (p_g1_heaps : (Nat → Int32)) : va_W := [(a_h, .inr (2, [.int p_h_length, .ref a_h_text, .ref a_h_trial])), (a_h_text, .inl (cC, (64, .inl p_h_text))), (a_h_trial, .inr (1, [.ref a_h_trial_kinds, .ref a_h_trial_sweets, .ref a_h_trial_settings, .int p_h_trial_children, .int p_h_trial_strokes, .int p_h_trial_gave, .int p_h_trial_threw, .ref a_h_trial_heaps])), (a_h_trial_kinds, .inl (cI, (8, .inl p_h_trial_kinds))), (a_h_trial_sweets, .inl (cI, (8, .inl p_h_trial_sweets))), (a_h_trial_settings, .inl (cI, (3, .inl p_h_trial_settings))), (a_h_trial_heaps, .inl (cI, (8, .inl p_h_trial_heaps))), (a_g1, .inr (1, [.ref a_g1_kinds, .ref a_g1_sweets, .ref a_g1_settings, .int p_g1_children, .int p_g1_strokes, .int p_g1_gave, .int p_g1_threw, .ref a_g1_heaps])), (a_g1_kinds, .inl (cI, (8, .inl p_g1_kinds))), (a_g1_sweets, .inl (cI, (8, .inl p_g1_sweets))), (a_g1_settings, .inl (cI, (3, .inl p_g1_settings))), (a_g1_heaps, .inl (cI, (8, .inl p_g1_heaps)))]
theorem d_Letters_carryOut_0 : decode b_Letters_carryOut 0 = .ok (.aload_n 0, 1) := by decide +kernel
theorem d_Letters_carryOut_1 : decode b_Letters_carryOut 1 = .ok (.invokevirtual 26, 3) := by decide +kernel
theorem d_Letters_carryOut_4 : decode b_Letters_carryOut 4 = .ok (.istore_n 2, 1) := by decide +kernel
theorem d_Letters_carryOut_5 : decode b_Letters_carryOut 5 = .ok (.iload_n 2, 1) := by decide +kernel
theorem d_Letters_carryOut_6 : decode b_Letters_carryOut 6 = .ok (.ifCond .lt 9, 3) := by decide +kernel
theorem d_Letters_carryOut_9 : decode b_Letters_carryOut 9 = .ok (.sipush (-1000), 3) := by decide +kernel
theorem d_Letters_carryOut_12 : decode b_Letters_carryOut 12 = .ok (.iload_n 2, 1) := by decide +kernel
theorem d_Letters_carryOut_13 : decode b_Letters_carryOut 13 = .ok (.isub, 1) := by decide +kernel
theorem d_Letters_carryOut_14 : decode b_Letters_carryOut 14 = .ok (.ireturn, 1) := by decide +kernel
theorem d_Letters_carryOut_15 : decode b_Letters_carryOut 15 = .ok (.aload_n 0, 1) := by decide +kernel
theorem d_Letters_carryOut_16 : decode b_Letters_carryOut 16 = .ok (.getfield 22, 3) := by decide +kernel
theorem d_Letters_carryOut_19 : decode b_Letters_carryOut 19 = .ok (.aload_n 1, 1) := by decide +kernel
theorem d_Letters_carryOut_20 : decode b_Letters_carryOut 20 = .ok (.invokevirtual 30, 3) := by decide +kernel
theorem d_Letters_carryOut_23 : decode b_Letters_carryOut 23 = .ok (.iconst 0, 1) := by decide +kernel
theorem d_Letters_carryOut_24 : decode b_Letters_carryOut 24 = .ok (.istore_n 3, 1) := by decide +kernel
theorem d_Letters_carryOut_25 : decode b_Letters_carryOut 25 = .ok (.iconst 0, 1) := by decide +kernel
theorem d_Letters_carryOut_26 : decode b_Letters_carryOut 26 = .ok (.istore 4, 2) := by decide +kernel
theorem d_Letters_carryOut_28 : decode b_Letters_carryOut 28 = .ok (.iconst 0, 1) := by decide +kernel
theorem d_Letters_carryOut_29 : decode b_Letters_carryOut 29 = .ok (.istore 5, 2) := by decide +kernel
theorem d_Letters_carryOut_31 : decode b_Letters_carryOut 31 = .ok (.iload 5, 2) := by decide +kernel
theorem d_Letters_carryOut_33 : decode b_Letters_carryOut 33 = .ok (.aload_n 0, 1) := by decide +kernel
theorem d_Letters_carryOut_34 : decode b_Letters_carryOut 34 = .ok (.getfield 9, 3) := by decide +kernel
theorem d_Letters_carryOut_37 : decode b_Letters_carryOut 37 = .ok (.if_icmp .ge 48, 3) := by decide +kernel
theorem d_Letters_carryOut_40 : decode b_Letters_carryOut 40 = .ok (.aload_n 0, 1) := by decide +kernel
theorem d_Letters_carryOut_41 : decode b_Letters_carryOut 41 = .ok (.getfield 15, 3) := by decide +kernel
theorem d_Letters_carryOut_44 : decode b_Letters_carryOut 44 = .ok (.iload 5, 2) := by decide +kernel
theorem d_Letters_carryOut_46 : decode b_Letters_carryOut 46 = .ok (.caload, 1) := by decide +kernel
theorem d_Letters_carryOut_47 : decode b_Letters_carryOut 47 = .ok (.bipush 59, 2) := by decide +kernel
theorem d_Letters_carryOut_49 : decode b_Letters_carryOut 49 = .ok (.if_icmp .ne 30, 3) := by decide +kernel
theorem d_Letters_carryOut_52 : decode b_Letters_carryOut 52 = .ok (.aload_n 0, 1) := by decide +kernel
theorem d_Letters_carryOut_53 : decode b_Letters_carryOut 53 = .ok (.iload 4, 2) := by decide +kernel
theorem d_Letters_carryOut_55 : decode b_Letters_carryOut 55 = .ok (.iload 5, 2) := by decide +kernel
theorem d_Letters_carryOut_57 : decode b_Letters_carryOut 57 = .ok (.invokevirtual 34, 3) := by decide +kernel
theorem d_Letters_carryOut_60 : decode b_Letters_carryOut 60 = .ok (.ifCond .ne 10, 3) := by decide +kernel
theorem d_Letters_carryOut_63 : decode b_Letters_carryOut 63 = .ok (.sipush (-2000), 3) := by decide +kernel
theorem d_Letters_carryOut_66 : decode b_Letters_carryOut 66 = .ok (.iload 4, 2) := by decide +kernel
theorem d_Letters_carryOut_68 : decode b_Letters_carryOut 68 = .ok (.isub, 1) := by decide +kernel
theorem d_Letters_carryOut_69 : decode b_Letters_carryOut 69 = .ok (.ireturn, 1) := by decide +kernel
theorem d_Letters_carryOut_70 : decode b_Letters_carryOut 70 = .ok (.iinc 3 1, 3) := by decide +kernel
theorem d_Letters_carryOut_73 : decode b_Letters_carryOut 73 = .ok (.iload 5, 2) := by decide +kernel
theorem d_Letters_carryOut_75 : decode b_Letters_carryOut 75 = .ok (.iconst 1, 1) := by decide +kernel
theorem d_Letters_carryOut_76 : decode b_Letters_carryOut 76 = .ok (.iadd, 1) := by decide +kernel
theorem d_Letters_carryOut_77 : decode b_Letters_carryOut 77 = .ok (.istore 4, 2) := by decide +kernel
theorem d_Letters_carryOut_79 : decode b_Letters_carryOut 79 = .ok (.iinc 5 1, 3) := by decide +kernel
theorem d_Letters_carryOut_82 : decode b_Letters_carryOut 82 = .ok (.goto (-51), 3) := by decide +kernel
theorem d_Letters_carryOut_85 : decode b_Letters_carryOut 85 = .ok (.aload_n 1, 1) := by decide +kernel
theorem d_Letters_carryOut_86 : decode b_Letters_carryOut 86 = .ok (.aload_n 0, 1) := by decide +kernel
theorem d_Letters_carryOut_87 : decode b_Letters_carryOut 87 = .ok (.getfield 22, 3) := by decide +kernel
theorem d_Letters_carryOut_90 : decode b_Letters_carryOut 90 = .ok (.invokevirtual 30, 3) := by decide +kernel
theorem d_Letters_carryOut_93 : decode b_Letters_carryOut 93 = .ok (.iload_n 3, 1) := by decide +kernel
theorem d_Letters_carryOut_94 : decode b_Letters_carryOut 94 = .ok (.ireturn, 1) := by decide +kernel
set_option maxHeartbeats 4000000 in
set_option maxRecDepth 100000 in
theorem c_Letters_carryOut {l : Launch} {D : va_G} {cI cJ cC : ClassId} {t_LEAST_SETTING t_GREATEST_SETTING t_str t_val : Nat} (a_h a_h_text a_h_trial a_h_trial_kinds a_h_trial_sweets a_h_trial_settings a_h_trial_heaps a_g1 a_g1_kinds a_g1_sweets a_g1_settings a_g1_heaps : Nat) {z_h_length : Int32} {z_h_text : (Nat → Int32)} {z_h_trial : RS} {z_g1 : RS} {q : Int32 × RS × RS} (hf : f_Letters_carryOut z_h_length z_h_text z_h_trial z_g1 = some q) : xI l y_Letters_carryOut b_Letters_carryOut 6 .int 6 134 D (tyK cI cJ cC) (xEv t_LEAST_SETTING t_GREATEST_SETTING t_str t_val) [.ref a_h, .ref a_g1] (w_Letters_carryOut cI cJ cC a_h a_h_text a_h_trial a_h_trial_kinds a_h_trial_sweets a_h_trial_settings a_h_trial_heaps a_g1 a_g1_kinds a_g1_sweets a_g1_settings a_g1_heaps z_h_length z_h_text (r_children z_h_trial) (r_strokes z_h_trial) (r_gave z_h_trial) (r_threw z_h_trial) (r_kinds z_h_trial) (r_sweets z_h_trial) (r_settings z_h_trial) (r_heaps z_h_trial) (r_children z_g1) (r_strokes z_g1) (r_gave z_g1) (r_threw z_g1) (r_kinds z_g1) (r_sweets z_g1) (r_settings z_g1) (r_heaps z_g1)) q.1 (w_Letters_carryOut cI cJ cC a_h a_h_text a_h_trial a_h_trial_kinds a_h_trial_sweets a_h_trial_settings a_h_trial_heaps a_g1 a_g1_kinds a_g1_sweets a_g1_settings a_g1_heaps z_h_length z_h_text (r_children q.2.1) (r_strokes q.2.1) (r_gave q.2.1) (r_threw q.2.1) (r_kinds q.2.1) (r_sweets q.2.1) (r_settings q.2.1) (r_heaps q.2.1) (r_children q.2.2) (r_strokes q.2.2) (r_gave q.2.2) (r_threw q.2.2) (r_kinds q.2.2) (r_sweets q.2.2) (r_settings q.2.2) (r_heaps q.2.2)) := by
  refine xI_of (by decide) (Nat.le_of_ble_eq_true rfl) ?_
  intro p e s m args below meth c A Q hx hb hml hown hT hA hP hD hK hS hE hret ls hl
  have hown : s.vm.findClass R_Letters = some m.cls := hown
  have hl : lv_has ls 6 [(0, .ref a_h), (1, .ref a_g1)] := hl
  unfold f_Letters_carryOut at hf
  obtain ⟨hZ_LEAST_SETTING, hT_LEAST_SETTING, hZ_GREATEST_SETTING, hT_GREATEST_SETTING, hZ_CS, hO_str, hC_str, hV_str, hT_str, hR_str, hN_X_outside, hNF_LEAST_SETTING, hNF_GREATEST_SETTING⟩ := id hE
  have L31 : ∀ (z_g1 : RS) (k : RS → Int32 → Option (Int32 × RS × RS)), (∀ (z_h_trial : RS) (x3 : Int32) (H : Heap) (locs : List Loc) (ls : Array Slot), k z_h_trial x3 = some q → va_P D classes (w_Letters_carryOut cI cJ cC a_h a_h_text a_h_trial a_h_trial_kinds a_h_trial_sweets a_h_trial_settings a_h_trial_heaps a_g1 a_g1_kinds a_g1_sweets a_g1_settings a_g1_heaps z_h_length z_h_text (r_children z_h_trial) (r_strokes z_h_trial) (r_gave z_h_trial) (r_threw z_h_trial) (r_kinds z_h_trial) (r_sweets z_h_trial) (r_settings z_h_trial) (r_heaps z_h_trial) (r_children z_g1) (r_strokes z_g1) (r_gave z_g1) (r_threw z_g1) (r_kinds z_g1) (r_sweets z_g1) (r_settings z_g1) (r_heaps z_g1)) H → va_D A (w_Letters_carryOut cI cJ cC a_h a_h_text a_h_trial a_h_trial_kinds a_h_trial_sweets a_h_trial_settings a_h_trial_heaps a_g1 a_g1_kinds a_g1_sweets a_g1_settings a_g1_heaps z_h_length z_h_text (r_children z_h_trial) (r_strokes z_h_trial) (r_gave z_h_trial) (r_threw z_h_trial) (r_kinds z_h_trial) (r_sweets z_h_trial) (r_settings z_h_trial) (r_heaps z_h_trial) (r_children z_g1) (r_strokes z_g1) (r_gave z_g1) (r_threw z_g1) (r_kinds z_g1) (r_sweets z_g1) (r_settings z_g1) (r_heaps z_g1)) → va_S A s.heap H locs → lv_has ls 6 [(0, .ref a_h), (1, .ref a_g1), (3, .int x3)] → W p l e (xRm 6 134) s m args below meth c H locs 0 0 Q (F0 m 85 ls [])) → ∀ (n : Nat) (z_h_trial : RS) (x3 : Int32) (x4 : Int32) (x5 : Int32) (H : Heap) (locs : List Loc) (ls : Array Slot), f_Letters_carryOut_L31 z_h_length z_h_text z_g1 k n z_h_trial x3 x4 x5 = some q → va_P D classes (w_Letters_carryOut cI cJ cC a_h a_h_text a_h_trial a_h_trial_kinds a_h_trial_sweets a_h_trial_settings a_h_trial_heaps a_g1 a_g1_kinds a_g1_sweets a_g1_settings a_g1_heaps z_h_length z_h_text (r_children z_h_trial) (r_strokes z_h_trial) (r_gave z_h_trial) (r_threw z_h_trial) (r_kinds z_h_trial) (r_sweets z_h_trial) (r_settings z_h_trial) (r_heaps z_h_trial) (r_children z_g1) (r_strokes z_g1) (r_gave z_g1) (r_threw z_g1) (r_kinds z_g1) (r_sweets z_g1) (r_settings z_g1) (r_heaps z_g1)) H → va_D A (w_Letters_carryOut cI cJ cC a_h a_h_text a_h_trial a_h_trial_kinds a_h_trial_sweets a_h_trial_settings a_h_trial_heaps a_g1 a_g1_kinds a_g1_sweets a_g1_settings a_g1_heaps z_h_length z_h_text (r_children z_h_trial) (r_strokes z_h_trial) (r_gave z_h_trial) (r_threw z_h_trial) (r_kinds z_h_trial) (r_sweets z_h_trial) (r_settings z_h_trial) (r_heaps z_h_trial) (r_children z_g1) (r_strokes z_g1) (r_gave z_g1) (r_threw z_g1) (r_kinds z_g1) (r_sweets z_g1) (r_settings z_g1) (r_heaps z_g1)) → va_S A s.heap H locs → lv_has ls 6 [(0, .ref a_h), (1, .ref a_g1), (3, .int x3), (4, .int x4), (5, .int x5)] → W p l e (xRm 6 134) s m args below meth c H locs 0 0 Q (F0 m 31 ls []) := by
    intro z_g1 k hk n
    induction n with
    | zero => intro z_h_trial x3 x4 x5 H locs ls hf hP hD hS hl; exact nomatch (show (none : Option (Int32 × RS × RS)) = some q from hf)
    | succ n ih =>
      intro z_h_trial x3 x4 x5 H locs ls hf hP hD hS hl
      refine lv_iload hx hb d_Letters_carryOut_31 (lv_at hl 4 rfl) ?_
      refine lv_aload_n hx hb d_Letters_carryOut_33 rfl (lv_at hl 0 rfl) ?_
      refine va_get hx hb hT i_Letters hown hK hP 0 rfl rfl 0 (Nat.le_of_ble_eq_true rfl) (hT _ k_76) (fun _ h => h) rfl d_Letters_carryOut_34 ?_
      refine lv_icmp_ge (tgt := 85) hx hb d_Letters_carryOut_37 (by decide) (fun c4 => ?_) (fun c4 => ?_)
      · have hf := io_t hf c4
        exact hk z_h_trial x3 _ _ _ hf hP hD hS (lv_sub hl [0, 1, 2] rfl)
      · have hf := io_f hf c4
        refine lv_aload_n hx hb d_Letters_carryOut_40 rfl (lv_at hl 0 rfl) ?_
        refine va_get hx hb hT i_Letters hown hK hP 0 rfl rfl 1 (Nat.le_of_ble_eq_true rfl) (hT _ k_78) (fun _ h => h) rfl d_Letters_carryOut_41 ?_
        refine lv_iload hx hb d_Letters_carryOut_44 (lv_at hl 4 rfl) ?_
        obtain ⟨c5, hf⟩ := io_n hf
        refine x_cald hx hb hK hP 1 2 rfl rfl (j := x5.toNatClampNeg) rfl c5 d_Letters_carryOut_46 ?_
        refine lv_bipush (v := 59) hx hb d_Letters_carryOut_47 (by decide) ?_
        refine lv_icmp_ne (tgt := 79) hx hb d_Letters_carryOut_49 (by decide) (fun c6 => ?_) (fun c6 => ?_)
        · have hf := io_f hf c6
          refine lv_iinc (v := (x5 + 1)) (lv' := [(5, .int (x5 + 1)), (0, .ref a_h), (1, .ref a_g1), (3, .int x3), (4, .int x4)]) hx hb d_Letters_carryOut_79 hl (k := 4) rfl (by rfl) (by decide) rfl (fun ls hl => ?_)
          refine lv_goto (tgt := 31) hx hb d_Letters_carryOut_82 (by decide) ?_
          exact ih z_h_trial x3 x4 (x5 + 1) _ _ _ hf hP hD hS (lv_sub hl [1, 2, 3, 4, 0] rfl)
        · have hf := io_t hf c6
          refine lv_aload_n hx hb d_Letters_carryOut_52 rfl (lv_at hl 0 rfl) ?_
          refine lv_iload hx hb d_Letters_carryOut_53 (lv_at hl 3 rfl) ?_
          refine lv_iload hx hb d_Letters_carryOut_55 (lv_at hl 4 rfl) ?_
          obtain ⟨q7, hq7, hf⟩ := io_b hf
          refine xcVI (wc := (w_Letters_carryOutOne cI cJ cC a_h a_h_text a_h_trial a_h_trial_kinds a_h_trial_sweets a_h_trial_settings a_h_trial_heaps z_h_length z_h_text (r_children z_h_trial) (r_strokes z_h_trial) (r_gave z_h_trial) (r_threw z_h_trial) (r_kinds z_h_trial) (r_sweets z_h_trial) (r_settings z_h_trial) (r_heaps z_h_trial))) (wc' := (w_Letters_carryOutOne cI cJ cC a_h a_h_text a_h_trial a_h_trial_kinds a_h_trial_sweets a_h_trial_settings a_h_trial_heaps z_h_length z_h_text (r_children q7.2) (r_strokes q7.2) (r_gave q7.2) (r_threw q7.2) (r_kinds q7.2) (r_sweets q7.2) (r_settings q7.2) (r_heaps q7.2))) (ws' := (w_Letters_carryOut cI cJ cC a_h a_h_text a_h_trial a_h_trial_kinds a_h_trial_sweets a_h_trial_settings a_h_trial_heaps a_g1 a_g1_kinds a_g1_sweets a_g1_settings a_g1_heaps z_h_length z_h_text (r_children q7.2) (r_strokes q7.2) (r_gave q7.2) (r_threw q7.2) (r_kinds q7.2) (r_sweets q7.2) (r_settings q7.2) (r_heaps q7.2) (r_children z_g1) (r_strokes z_g1) (r_gave z_g1) (r_threw z_g1) (r_kinds z_g1) (r_sweets z_g1) (r_settings z_g1) (r_heaps z_g1))) (As := [.int x4, .int x5]) (rest := []) hx hb hml hown hT (c_Letters_carryOutOne (z_h_length := z_h_length) (z_h_text := z_h_text) (z_h_trial := z_h_trial) a_h a_h_text a_h_trial a_h_trial_kinds a_h_trial_sweets a_h_trial_settings a_h_trial_heaps hq7) k_521 k_523 ks_8 k_3 k_524 hd_Letters_carryOutOne ⟨Nat.le_of_ble_eq_true rfl, Nat.le_of_ble_eq_true rfl⟩ (xEv_ok _ _ _ _) hE hA hK hP hD hS [0, 1, 2, 3, 4, 5, 6] [7, 8, 9, 10, 11] [5, 6, 7, 8, 9, 10, 11, 0, 1, 2, 3, 4] rfl rfl rfl rfl rfl rfl rfl rfl rfl rfl hl.1 rfl (Nat.le_of_ble_eq_true rfl) ⟨Nat.zero_le _, Nat.zero_le _⟩ d_Letters_carryOut_57 (fun H locs hP hD hS => ?_)
          refine lv_if_ne (tgt := 70) hx hb d_Letters_carryOut_60 (by decide) (fun c8 => ?_) (fun c8 => ?_)
          · have hf := io_f hf c8
            refine lv_iinc (v := (x3 + 1)) (lv' := [(3, .int (x3 + 1)), (0, .ref a_h), (1, .ref a_g1), (4, .int x4), (5, .int x5)]) hx hb d_Letters_carryOut_70 hl (k := 2) rfl (by rfl) (by decide) rfl (fun ls hl => ?_)
            refine lv_iload hx hb d_Letters_carryOut_73 (lv_at hl 4 rfl) ?_
            refine lv_iconst (v := 1) hx hb d_Letters_carryOut_75 (by decide) ?_
            refine lv_iadd hx hb d_Letters_carryOut_76 ?_
            refine lv_istore (lv' := [(4, .int (x5 + 1)), (3, .int (x3 + 1)), (0, .ref a_h), (1, .ref a_g1), (5, .int x5)]) hx hb d_Letters_carryOut_77 hl (by decide) rfl (fun ls hl => ?_)
            refine lv_iinc (v := (x5 + 1)) (lv' := [(5, .int (x5 + 1)), (4, .int (x5 + 1)), (3, .int (x3 + 1)), (0, .ref a_h), (1, .ref a_g1)]) hx hb d_Letters_carryOut_79 hl (k := 4) rfl (by rfl) (by decide) rfl (fun ls hl => ?_)
            refine lv_goto (tgt := 31) hx hb d_Letters_carryOut_82 (by decide) ?_
            exact ih q7.2 (x3 + 1) (x5 + 1) (x5 + 1) _ _ _ hf hP hD hS (lv_sub hl [3, 4, 2, 1, 0] rfl)
          · have hf := io_t hf c8
            refine lv_sipush (v := (-2000)) hx hb d_Letters_carryOut_63 (by decide) ?_
            refine lv_iload hx hb d_Letters_carryOut_66 (lv_at hl 3 rfl) ?_
            refine lv_isub hx hb d_Letters_carryOut_68 ?_
            have hq := Option.some.inj hf
            subst hq
            exact hret _ _ _ _ _ d_Letters_carryOut_69 rfl rfl hP hD hS
  refine lv_aload_n hx hb d_Letters_carryOut_0 rfl (lv_at hl 0 rfl) ?_
  obtain ⟨q1, hq1, hf⟩ := io_b hf
  refine xcVI (wc := (w_Letters_placeOfBadForm cI cJ cC a_h a_h_text a_h_trial z_h_length z_h_text)) (wc' := (w_Letters_placeOfBadForm cI cJ cC a_h a_h_text a_h_trial z_h_length z_h_text)) (ws' := (w_Letters_carryOut cI cJ cC a_h a_h_text a_h_trial a_h_trial_kinds a_h_trial_sweets a_h_trial_settings a_h_trial_heaps a_g1 a_g1_kinds a_g1_sweets a_g1_settings a_g1_heaps z_h_length z_h_text (r_children z_h_trial) (r_strokes z_h_trial) (r_gave z_h_trial) (r_threw z_h_trial) (r_kinds z_h_trial) (r_sweets z_h_trial) (r_settings z_h_trial) (r_heaps z_h_trial) (r_children z_g1) (r_strokes z_g1) (r_gave z_g1) (r_threw z_g1) (r_kinds z_g1) (r_sweets z_g1) (r_settings z_g1) (r_heaps z_g1))) (As := []) (rest := []) hx hb hml hown hT (c_Letters_placeOfBadForm (z_h_length := z_h_length) (z_h_text := z_h_text) a_h a_h_text a_h_trial hq1) k_421 k_423 ks_7 k_3 k_424 hd_Letters_placeOfBadForm ⟨Nat.le_of_ble_eq_true rfl, Nat.le_of_ble_eq_true rfl⟩ (xEv_ok _ _ _ _) hE hA hK hP hD hS [0, 1] [2, 3, 4, 5, 6, 7, 8, 9, 10, 11] [10, 11, 0, 1, 2, 3, 4, 5, 6, 7, 8, 9] rfl rfl rfl rfl rfl rfl rfl rfl rfl rfl hl.1 rfl (Nat.le_of_ble_eq_true rfl) ⟨Nat.zero_le _, Nat.zero_le _⟩ d_Letters_carryOut_1 (fun H locs hP hD hS => ?_)
  refine lv_istore_n (lv' := [(2, .int q1), (0, .ref a_h), (1, .ref a_g1)]) hx hb d_Letters_carryOut_4 rfl hl (by decide) rfl (fun ls hl => ?_)
  refine lv_iload_n hx hb d_Letters_carryOut_5 rfl (lv_at hl 0 rfl) ?_
  refine lv_if_lt (tgt := 15) hx hb d_Letters_carryOut_6 (by decide) (fun c2 => ?_) (fun c2 => ?_)
  · have hf := io_t hf c2
    refine lv_aload_n hx hb d_Letters_carryOut_15 rfl (lv_at hl 1 rfl) ?_
    refine va_get hx hb hT i_Letters hown hK hP 0 rfl rfl 2 (Nat.le_of_ble_eq_true rfl) (hT _ k_79) (fun _ h => h) rfl d_Letters_carryOut_16 ?_
    refine lv_aload_n hx hb d_Letters_carryOut_19 rfl (lv_at hl 2 rfl) ?_
    obtain ⟨q3, hq3, hf⟩ := io_b hf
    refine xcVV (wc := (w_Ring_copyFrom cI cJ cC a_h_trial a_h_trial_kinds a_h_trial_sweets a_h_trial_settings a_h_trial_heaps a_g1 a_g1_kinds a_g1_sweets a_g1_settings a_g1_heaps (r_children z_h_trial) (r_strokes z_h_trial) (r_gave z_h_trial) (r_threw z_h_trial) (r_kinds z_h_trial) (r_sweets z_h_trial) (r_settings z_h_trial) (r_heaps z_h_trial) (r_children z_g1) (r_strokes z_g1) (r_gave z_g1) (r_threw z_g1) (r_kinds z_g1) (r_sweets z_g1) (r_settings z_g1))) (wc' := (w_Ring_copyFrom cI cJ cC a_h_trial a_h_trial_kinds a_h_trial_sweets a_h_trial_settings a_h_trial_heaps a_g1 a_g1_kinds a_g1_sweets a_g1_settings a_g1_heaps (r_children q3) (r_strokes q3) (r_gave q3) (r_threw q3) (r_kinds q3) (r_sweets q3) (r_settings q3) (r_heaps q3) (r_children z_g1) (r_strokes z_g1) (r_gave z_g1) (r_threw z_g1) (r_kinds z_g1) (r_sweets z_g1) (r_settings z_g1))) (ws' := (w_Letters_carryOut cI cJ cC a_h a_h_text a_h_trial a_h_trial_kinds a_h_trial_sweets a_h_trial_settings a_h_trial_heaps a_g1 a_g1_kinds a_g1_sweets a_g1_settings a_g1_heaps z_h_length z_h_text (r_children q3) (r_strokes q3) (r_gave q3) (r_threw q3) (r_kinds q3) (r_sweets q3) (r_settings q3) (r_heaps q3) (r_children z_g1) (r_strokes z_g1) (r_gave z_g1) (r_threw z_g1) (r_kinds z_g1) (r_sweets z_g1) (r_settings z_g1) (r_heaps z_g1))) (As := [.ref a_g1]) (rest := []) hx hb hml hown hT (c_Ring_copyFrom (z_h := z_h_trial) (z_g1 := z_g1) a_h_trial a_h_trial_kinds a_h_trial_sweets a_h_trial_settings a_h_trial_heaps a_g1 a_g1_kinds a_g1_sweets a_g1_settings a_g1_heaps hq3) k_520 k_253 k_254 k_2 k_255 hd_Ring_copyFrom ⟨Nat.le_of_ble_eq_true rfl, Nat.le_of_ble_eq_true rfl⟩ xE0_ok trivial hA hK hP hD hS [2, 3, 4, 5, 6, 7, 8, 9, 10] [0, 1, 11] [0, 1, 3, 4, 5, 6, 7, 8, 9, 10, 11, 2] rfl rfl rfl rfl rfl rfl rfl rfl rfl rfl hl.1 rfl (Nat.le_of_ble_eq_true rfl) ⟨Nat.zero_le _, Nat.zero_le _⟩ d_Letters_carryOut_20 (fun H locs hP hD hS => ?_)
    refine lv_iconst (v := 0) hx hb d_Letters_carryOut_23 (by decide) ?_
    refine lv_istore_n (lv' := [(3, .int 0), (2, .int q1), (0, .ref a_h), (1, .ref a_g1)]) hx hb d_Letters_carryOut_24 rfl hl (by decide) rfl (fun ls hl => ?_)
    refine lv_iconst (v := 0) hx hb d_Letters_carryOut_25 (by decide) ?_
    refine lv_istore (lv' := [(4, .int 0), (3, .int 0), (2, .int q1), (0, .ref a_h), (1, .ref a_g1)]) hx hb d_Letters_carryOut_26 hl (by decide) rfl (fun ls hl => ?_)
    refine lv_iconst (v := 0) hx hb d_Letters_carryOut_28 (by decide) ?_
    refine lv_istore (lv' := [(5, .int 0), (4, .int 0), (3, .int 0), (2, .int q1), (0, .ref a_h), (1, .ref a_g1)]) hx hb d_Letters_carryOut_29 hl (by decide) rfl (fun ls hl => ?_)
    refine L31 z_g1 _ (fun z_h_trial_9 x3_9 H locs ls hf hP hD hS hl => ?_) FU q3 0 0 0 _ _ _ hf hP hD hS (lv_sub hl [4, 5, 2, 1, 0] rfl)
    refine lv_aload_n hx hb d_Letters_carryOut_85 rfl (lv_at hl 1 rfl) ?_
    refine lv_aload_n hx hb d_Letters_carryOut_86 rfl (lv_at hl 0 rfl) ?_
    refine va_get hx hb hT i_Letters hown hK hP 0 rfl rfl 2 (Nat.le_of_ble_eq_true rfl) (hT _ k_79) (fun _ h => h) rfl d_Letters_carryOut_87 ?_
    obtain ⟨q10, hq10, hf⟩ := io_b hf
    refine xcVV (wc := (w_Ring_copyFrom cI cJ cC a_g1 a_g1_kinds a_g1_sweets a_g1_settings a_g1_heaps a_h_trial a_h_trial_kinds a_h_trial_sweets a_h_trial_settings a_h_trial_heaps (r_children z_g1) (r_strokes z_g1) (r_gave z_g1) (r_threw z_g1) (r_kinds z_g1) (r_sweets z_g1) (r_settings z_g1) (r_heaps z_g1) (r_children z_h_trial_9) (r_strokes z_h_trial_9) (r_gave z_h_trial_9) (r_threw z_h_trial_9) (r_kinds z_h_trial_9) (r_sweets z_h_trial_9) (r_settings z_h_trial_9))) (wc' := (w_Ring_copyFrom cI cJ cC a_g1 a_g1_kinds a_g1_sweets a_g1_settings a_g1_heaps a_h_trial a_h_trial_kinds a_h_trial_sweets a_h_trial_settings a_h_trial_heaps (r_children q10) (r_strokes q10) (r_gave q10) (r_threw q10) (r_kinds q10) (r_sweets q10) (r_settings q10) (r_heaps q10) (r_children z_h_trial_9) (r_strokes z_h_trial_9) (r_gave z_h_trial_9) (r_threw z_h_trial_9) (r_kinds z_h_trial_9) (r_sweets z_h_trial_9) (r_settings z_h_trial_9))) (ws' := (w_Letters_carryOut cI cJ cC a_h a_h_text a_h_trial a_h_trial_kinds a_h_trial_sweets a_h_trial_settings a_h_trial_heaps a_g1 a_g1_kinds a_g1_sweets a_g1_settings a_g1_heaps z_h_length z_h_text (r_children z_h_trial_9) (r_strokes z_h_trial_9) (r_gave z_h_trial_9) (r_threw z_h_trial_9) (r_kinds z_h_trial_9) (r_sweets z_h_trial_9) (r_settings z_h_trial_9) (r_heaps z_h_trial_9) (r_children q10) (r_strokes q10) (r_gave q10) (r_threw q10) (r_kinds q10) (r_sweets q10) (r_settings q10) (r_heaps q10))) (As := [.ref a_h_trial]) (rest := []) hx hb hml hown hT (c_Ring_copyFrom (z_h := z_g1) (z_g1 := z_h_trial_9) a_g1 a_g1_kinds a_g1_sweets a_g1_settings a_g1_heaps a_h_trial a_h_trial_kinds a_h_trial_sweets a_h_trial_settings a_h_trial_heaps hq10) k_520 k_253 k_254 k_2 k_255 hd_Ring_copyFrom ⟨Nat.le_of_ble_eq_true rfl, Nat.le_of_ble_eq_true rfl⟩ xE0_ok trivial hA hK hP hD hS [7, 8, 9, 10, 11, 2, 3, 4, 5] [0, 1, 6] [0, 1, 8, 9, 10, 11, 2, 3, 4, 5, 6, 7] rfl rfl rfl rfl rfl rfl rfl rfl rfl rfl hl.1 rfl (Nat.le_of_ble_eq_true rfl) ⟨Nat.zero_le _, Nat.zero_le _⟩ d_Letters_carryOut_90 (fun H locs hP hD hS => ?_)
    refine lv_iload_n hx hb d_Letters_carryOut_93 rfl (lv_at hl 2 rfl) ?_
    have hq := Option.some.inj hf
    subst hq
    exact hret _ _ _ _ _ d_Letters_carryOut_94 rfl rfl hP hD hS
  · have hf := io_f hf c2
    refine lv_sipush (v := (-1000)) hx hb d_Letters_carryOut_9 (by decide) ?_
    refine lv_iload_n hx hb d_Letters_carryOut_12 rfl (lv_at hl 0 rfl) ?_
    refine lv_isub hx hb d_Letters_carryOut_13 ?_
    have hq := Option.some.inj hf
    subst hq
    exact hret _ _ _ _ _ d_Letters_carryOut_14 rfl rfl hP hD hS
end
section
/-! Contracts: X1. Printed by wip/whole/gen. -/
abbrev w_X_refuse (cI cJ cC : ClassId) (a_h a_h_now a_h_kept a_h_letters a_h_numbers a_h_refusals a_h_mind a_h_parts a_h_past a_h_seating : Nat) (y_h_isKept : Int32) (y_h_numberCount : Int32) (p_h_refusals : (Nat → Int32)) : va_W := [(a_h, .inr (0, [.ref a_h_now, .ref a_h_kept, .int y_h_isKept, .ref a_h_letters, .ref a_h_numbers, .int y_h_numberCount, .ref a_h_refusals, .ref a_h_mind, .ref a_h_parts, .ref a_h_past, .ref a_h_seating])), (a_h_refusals, .inl (cI, (7, .inl p_h_refusals)))]
theorem d_X_refuse_0 : decode b_X_refuse 0 = .ok (.iload_n 1, 1) := by decide +kernel
theorem d_X_refuse_1 : decode b_X_refuse 1 = .ok (.bipush (-6), 2) := by decide +kernel
theorem d_X_refuse_3 : decode b_X_refuse 3 = .ok (.if_icmp .lt 19, 3) := by decide +kernel
theorem d_X_refuse_6 : decode b_X_refuse 6 = .ok (.iload_n 1, 1) := by decide +kernel
theorem d_X_refuse_7 : decode b_X_refuse 7 = .ok (.iconst (-1), 1) := by decide +kernel
theorem d_X_refuse_8 : decode b_X_refuse 8 = .ok (.if_icmp .gt 14, 3) := by decide +kernel
theorem d_X_refuse_11 : decode b_X_refuse 11 = .ok (.aload_n 0, 1) := by decide +kernel
theorem d_X_refuse_12 : decode b_X_refuse 12 = .ok (.getfield 38, 3) := by decide +kernel
theorem d_X_refuse_15 : decode b_X_refuse 15 = .ok (.iload_n 1, 1) := by decide +kernel
theorem d_X_refuse_16 : decode b_X_refuse 16 = .ok (.ineg, 1) := by decide +kernel
theorem d_X_refuse_17 : decode b_X_refuse 17 = .ok (.dup2, 1) := by decide +kernel
theorem d_X_refuse_18 : decode b_X_refuse 18 = .ok (.iaload, 1) := by decide +kernel
theorem d_X_refuse_19 : decode b_X_refuse 19 = .ok (.iconst 1, 1) := by decide +kernel
theorem d_X_refuse_20 : decode b_X_refuse 20 = .ok (.iadd, 1) := by decide +kernel
theorem d_X_refuse_21 : decode b_X_refuse 21 = .ok (.iastore, 1) := by decide +kernel
theorem d_X_refuse_22 : decode b_X_refuse 22 = .ok (.iload_n 1, 1) := by decide +kernel
theorem d_X_refuse_23 : decode b_X_refuse 23 = .ok (.ireturn, 1) := by decide +kernel
set_option maxHeartbeats 4000000 in
set_option maxRecDepth 100000 in
theorem c_X_refuse {l : Launch} {D : va_G} {cI cJ cC : ClassId} (a_h a_h_now a_h_kept a_h_letters a_h_numbers a_h_refusals a_h_mind a_h_parts a_h_past a_h_seating : Nat) (y_h_isKept : Int32) (y_h_numberCount : Int32) {z_h_refusals : (Nat → Int32)} {x1 : Int32} {q : Int32 × (Nat → Int32)} (hf : f_X_refuse z_h_refusals x1 = some q) : xI l y_X_refuse b_X_refuse 2 .int 0 0 D (tyK cI cJ cC) xE0 [.ref a_h, .int x1] (w_X_refuse cI cJ cC a_h a_h_now a_h_kept a_h_letters a_h_numbers a_h_refusals a_h_mind a_h_parts a_h_past a_h_seating y_h_isKept y_h_numberCount z_h_refusals) q.1 (w_X_refuse cI cJ cC a_h a_h_now a_h_kept a_h_letters a_h_numbers a_h_refusals a_h_mind a_h_parts a_h_past a_h_seating y_h_isKept y_h_numberCount q.2) := by
  refine xI_of (by decide) (Nat.le_of_ble_eq_true rfl) ?_
  intro p e s m args below meth c A Q hx hb hml hown hT hA hP hD hK hS hE hret ls hl
  have hown : s.vm.findClass R_X = some m.cls := hown
  have hl : lv_has ls 2 [(0, .ref a_h), (1, .int x1)] := hl
  unfold f_X_refuse at hf
  refine lv_iload_n hx hb d_X_refuse_0 rfl (lv_at hl 1 rfl) ?_
  refine lv_bipush (v := (-6)) hx hb d_X_refuse_1 (by decide) ?_
  refine lv_icmp_lt (tgt := 22) hx hb d_X_refuse_3 (by decide) (fun c1 => ?_) (fun c1 => ?_)
  · have hf := io_t hf c1
    refine lv_iload_n hx hb d_X_refuse_22 rfl (lv_at hl 1 rfl) ?_
    have hq := Option.some.inj hf
    subst hq
    exact hret _ _ _ _ _ d_X_refuse_23 rfl rfl hP hD hS
  · have hf := io_f hf c1
    refine lv_iload_n hx hb d_X_refuse_6 rfl (lv_at hl 1 rfl) ?_
    refine lv_iconst (v := (-1)) hx hb d_X_refuse_7 (by decide) ?_
    refine lv_icmp_gt (tgt := 22) hx hb d_X_refuse_8 (by decide) (fun c2 => ?_) (fun c2 => ?_)
    · have hf := io_t hf c2
      refine lv_iload_n hx hb d_X_refuse_22 rfl (lv_at hl 1 rfl) ?_
      have hq := Option.some.inj hf
      subst hq
      exact hret _ _ _ _ _ d_X_refuse_23 rfl rfl hP hD hS
    · have hf := io_f hf c2
      refine lv_aload_n hx hb d_X_refuse_11 rfl (lv_at hl 0 rfl) ?_
      refine va_get hx hb hT i_X hown hK hP 0 rfl rfl 6 (Nat.le_of_ble_eq_true rfl) (hT _ k_162) (fun _ h => h) rfl d_X_refuse_12 ?_
      refine lv_iload_n hx hb d_X_refuse_15 rfl (lv_at hl 1 rfl) ?_
      refine lv_ineg hx hb d_X_refuse_16 ?_
      refine lv_dup2_11 hx hb d_X_refuse_17 rfl rfl ?_
      obtain ⟨c3, hf⟩ := io_n hf
      refine x_iald hx hb hK hP 1 0 rfl rfl (j := (-x1).toNatClampNeg) rfl c3 d_X_refuse_18 ?_
      refine lv_iconst (v := 1) hx hb d_X_refuse_19 (by decide) ?_
      refine lv_iadd hx hb d_X_refuse_20 ?_
      refine x_iast hx hb hK hP hD hS 1 0 rfl rfl (j := (-x1).toNatClampNeg) rfl c3 d_X_refuse_21 (fun H locs hP hD hS => ?_)
      have hP : va_P D classes (w_X_refuse cI cJ cC a_h a_h_now a_h_kept a_h_letters a_h_numbers a_h_refusals a_h_mind a_h_parts a_h_past a_h_seating y_h_isKept y_h_numberCount (upd z_h_refusals (-x1).toNatClampNeg ((z_h_refusals (-x1).toNatClampNeg) + 1))) H := hP
      have hD : va_D A (w_X_refuse cI cJ cC a_h a_h_now a_h_kept a_h_letters a_h_numbers a_h_refusals a_h_mind a_h_parts a_h_past a_h_seating y_h_isKept y_h_numberCount (upd z_h_refusals (-x1).toNatClampNeg ((z_h_refusals (-x1).toNatClampNeg) + 1))) := hD
      refine lv_iload_n hx hb d_X_refuse_22 rfl (lv_at hl 1 rfl) ?_
      have hq := Option.some.inj hf
      subst hq
      exact hret _ _ _ _ _ d_X_refuse_23 rfl rfl hP hD hS
abbrev w_X_feed (cI cJ cC : ClassId) (a_h a_h_now a_h_kept a_h_letters a_h_numbers a_h_refusals a_h_mind a_h_parts a_h_past a_h_seating a_h_letters_text a_h_letters_trial : Nat) (y_h_isKept : Int32) (y_h_numberCount : Int32) (p_h_letters_length : Int32) (p_h_letters_text : (Nat → Int32)) (p_h_refusals : (Nat → Int32)) : va_W := [(a_h, .inr (0, [.ref a_h_now, .ref a_h_kept, .int y_h_isKept, .ref a_h_letters, .ref a_h_numbers, .int y_h_numberCount, .ref a_h_refusals, .ref a_h_mind, .ref a_h_parts, .ref a_h_past, .ref a_h_seating])), (a_h_letters, .inr (2, [.int p_h_letters_length, .ref a_h_letters_text, .ref a_h_letters_trial])), (a_h_letters_text, .inl (cC, (64, .inl p_h_letters_text))), (a_h_refusals, .inl (cI, (7, .inl p_h_refusals)))]
theorem d_X_feed_0 : decode b_X_feed 0 = .ok (.iload_n 1, 1) := by decide +kernel
theorem d_X_feed_1 : decode b_X_feed 1 = .ok (.ifCond .ge 10, 3) := by decide +kernel
theorem d_X_feed_4 : decode b_X_feed 4 = .ok (.aload_n 0, 1) := by decide +kernel
theorem d_X_feed_5 : decode b_X_feed 5 = .ok (.bipush (-4), 2) := by decide +kernel
theorem d_X_feed_7 : decode b_X_feed 7 = .ok (.invokevirtual 69, 3) := by decide +kernel
theorem d_X_feed_10 : decode b_X_feed 10 = .ok (.ireturn, 1) := by decide +kernel
theorem d_X_feed_11 : decode b_X_feed 11 = .ok (.iload_n 1, 1) := by decide +kernel
theorem d_X_feed_12 : decode b_X_feed 12 = .ok (.sipush 255, 3) := by decide +kernel
theorem d_X_feed_15 : decode b_X_feed 15 = .ok (.if_icmp .gt 15, 3) := by decide +kernel
theorem d_X_feed_18 : decode b_X_feed 18 = .ok (.aload_n 0, 1) := by decide +kernel
theorem d_X_feed_19 : decode b_X_feed 19 = .ok (.getfield 26, 3) := by decide +kernel
theorem d_X_feed_22 : decode b_X_feed 22 = .ok (.getfield 73, 3) := by decide +kernel
theorem d_X_feed_25 : decode b_X_feed 25 = .ok (.bipush 64, 2) := by decide +kernel
theorem d_X_feed_27 : decode b_X_feed 27 = .ok (.if_icmp .lt 10, 3) := by decide +kernel
theorem d_X_feed_30 : decode b_X_feed 30 = .ok (.aload_n 0, 1) := by decide +kernel
theorem d_X_feed_31 : decode b_X_feed 31 = .ok (.bipush (-6), 2) := by decide +kernel
theorem d_X_feed_33 : decode b_X_feed 33 = .ok (.invokevirtual 69, 3) := by decide +kernel
theorem d_X_feed_36 : decode b_X_feed 36 = .ok (.ireturn, 1) := by decide +kernel
theorem d_X_feed_37 : decode b_X_feed 37 = .ok (.aload_n 0, 1) := by decide +kernel
theorem d_X_feed_38 : decode b_X_feed 38 = .ok (.getfield 26, 3) := by decide +kernel
theorem d_X_feed_41 : decode b_X_feed 41 = .ok (.iload_n 1, 1) := by decide +kernel
theorem d_X_feed_42 : decode b_X_feed 42 = .ok (.i2c, 1) := by decide +kernel
theorem d_X_feed_43 : decode b_X_feed 43 = .ok (.invokevirtual 76, 3) := by decide +kernel
theorem d_X_feed_46 : decode b_X_feed 46 = .ok (.ireturn, 1) := by decide +kernel
set_option maxHeartbeats 4000000 in
set_option maxRecDepth 100000 in
theorem c_X_feed {l : Launch} {D : va_G} {cI cJ cC : ClassId} (a_h a_h_now a_h_kept a_h_letters a_h_numbers a_h_refusals a_h_mind a_h_parts a_h_past a_h_seating a_h_letters_text a_h_letters_trial : Nat) (y_h_isKept : Int32) (y_h_numberCount : Int32) {z_h_letters_length : Int32} {z_h_letters_text : (Nat → Int32)} {z_h_refusals : (Nat → Int32)} {x1 : Int32} {q : Int32 × Int32 × (Nat → Int32) × (Nat → Int32)} (hf : f_X_feed z_h_letters_length z_h_letters_text z_h_refusals x1 = some q) : xI l y_X_feed b_X_feed 2 .int 1 21 D (tyK cI cJ cC) xE0 [.ref a_h, .int x1] (w_X_feed cI cJ cC a_h a_h_now a_h_kept a_h_letters a_h_numbers a_h_refusals a_h_mind a_h_parts a_h_past a_h_seating a_h_letters_text a_h_letters_trial y_h_isKept y_h_numberCount z_h_letters_length z_h_letters_text z_h_refusals) q.1 (w_X_feed cI cJ cC a_h a_h_now a_h_kept a_h_letters a_h_numbers a_h_refusals a_h_mind a_h_parts a_h_past a_h_seating a_h_letters_text a_h_letters_trial y_h_isKept y_h_numberCount q.2.1 q.2.2.1 q.2.2.2) := by
  refine xI_of (by decide) (Nat.le_of_ble_eq_true rfl) ?_
  intro p e s m args below meth c A Q hx hb hml hown hT hA hP hD hK hS hE hret ls hl
  have hown : s.vm.findClass R_X = some m.cls := hown
  have hl : lv_has ls 2 [(0, .ref a_h), (1, .int x1)] := hl
  unfold f_X_feed at hf
  refine lv_iload_n hx hb d_X_feed_0 rfl (lv_at hl 1 rfl) ?_
  refine lv_if_ge (tgt := 11) hx hb d_X_feed_1 (by decide) (fun c1 => ?_) (fun c1 => ?_)
  · have hf := io_t hf c1
    refine lv_iload_n hx hb d_X_feed_11 rfl (lv_at hl 1 rfl) ?_
    refine lv_sipush (v := 255) hx hb d_X_feed_12 (by decide) ?_
    refine lv_icmp_gt (tgt := 30) hx hb d_X_feed_15 (by decide) (fun c2 => ?_) (fun c2 => ?_)
    · have hf := io_t hf c2
      refine lv_aload_n hx hb d_X_feed_30 rfl (lv_at hl 0 rfl) ?_
      refine lv_bipush (v := (-6)) hx hb d_X_feed_31 (by decide) ?_
      obtain ⟨q3, hq3, hf⟩ := io_b hf
      refine xcVI (wc := (w_X_refuse cI cJ cC a_h a_h_now a_h_kept a_h_letters a_h_numbers a_h_refusals a_h_mind a_h_parts a_h_past a_h_seating y_h_isKept y_h_numberCount z_h_refusals)) (wc' := (w_X_refuse cI cJ cC a_h a_h_now a_h_kept a_h_letters a_h_numbers a_h_refusals a_h_mind a_h_parts a_h_past a_h_seating y_h_isKept y_h_numberCount q3.2)) (ws' := (w_X_feed cI cJ cC a_h a_h_now a_h_kept a_h_letters a_h_numbers a_h_refusals a_h_mind a_h_parts a_h_past a_h_seating a_h_letters_text a_h_letters_trial y_h_isKept y_h_numberCount z_h_letters_length z_h_letters_text q3.2)) (As := [.int (-6)]) (rest := []) hx hb hml hown hT (c_X_refuse (z_h_refusals := z_h_refusals) a_h a_h_now a_h_kept a_h_letters a_h_numbers a_h_refusals a_h_mind a_h_parts a_h_past a_h_seating y_h_isKept y_h_numberCount hq3) k_198 k_200 ks_0 k_1 k_201 hd_X_refuse ⟨Nat.le_of_ble_eq_true rfl, Nat.le_of_ble_eq_true rfl⟩ xE0_ok trivial hA hK hP hD hS [0, 3] [1, 2] [2, 0, 1, 3] rfl rfl rfl rfl rfl rfl rfl rfl rfl rfl hl.1 rfl (Nat.le_of_ble_eq_true rfl) ⟨Nat.zero_le _, Nat.zero_le _⟩ d_X_feed_33 (fun H locs hP hD hS => ?_)
      have hq := Option.some.inj hf
      subst hq
      exact hret _ _ _ _ _ d_X_feed_36 rfl rfl hP hD hS
    · have hf := io_f hf c2
      refine lv_aload_n hx hb d_X_feed_18 rfl (lv_at hl 0 rfl) ?_
      refine va_get hx hb hT i_X hown hK hP 0 rfl rfl 3 (Nat.le_of_ble_eq_true rfl) (hT _ k_159) (fun _ h => h) rfl d_X_feed_19 ?_
      refine va_get hx hb hT i_Letters hown hK hP 1 rfl rfl 0 (Nat.le_of_ble_eq_true rfl) (hT _ k_77) (fun _ h => h) rfl d_X_feed_22 ?_
      refine lv_bipush (v := 64) hx hb d_X_feed_25 (by decide) ?_
      refine lv_icmp_lt (tgt := 37) hx hb d_X_feed_27 (by decide) (fun c4 => ?_) (fun c4 => ?_)
      · have hf := io_t hf c4
        refine lv_aload_n hx hb d_X_feed_37 rfl (lv_at hl 0 rfl) ?_
        refine va_get hx hb hT i_X hown hK hP 0 rfl rfl 3 (Nat.le_of_ble_eq_true rfl) (hT _ k_159) (fun _ h => h) rfl d_X_feed_38 ?_
        refine lv_iload_n hx hb d_X_feed_41 rfl (lv_at hl 1 rfl) ?_
        refine lv_i2c (v := ((x1.toUInt32 % 65536).toInt32)) hx hb d_X_feed_42 rfl ?_
        obtain ⟨q5, hq5, hf⟩ := io_b hf
        refine xcVI (wc := (w_Letters_add cI cJ cC a_h_letters a_h_letters_text a_h_letters_trial z_h_letters_length z_h_letters_text)) (wc' := (w_Letters_add cI cJ cC a_h_letters a_h_letters_text a_h_letters_trial q5.2.1 q5.2.2)) (ws' := (w_X_feed cI cJ cC a_h a_h_now a_h_kept a_h_letters a_h_numbers a_h_refusals a_h_mind a_h_parts a_h_past a_h_seating a_h_letters_text a_h_letters_trial y_h_isKept y_h_numberCount q5.2.1 q5.2.2 z_h_refusals)) (As := [.int ((x1.toUInt32 % 65536).toInt32)]) (rest := []) hx hb hml hown hT (c_Letters_add (z_h_length := z_h_letters_length) (z_h_text := z_h_letters_text) a_h_letters a_h_letters_text a_h_letters_trial hq5) k_409 k_410 k_411 k_3 k_412 hd_Letters_add ⟨Nat.le_of_ble_eq_true rfl, Nat.le_of_ble_eq_true rfl⟩ xE0_ok trivial hA hK hP hD hS [1, 2] [0, 3] [0, 2, 3, 1] rfl rfl rfl rfl rfl rfl rfl rfl rfl rfl hl.1 rfl (Nat.le_of_ble_eq_true rfl) ⟨Nat.zero_le _, Nat.zero_le _⟩ d_X_feed_43 (fun H locs hP hD hS => ?_)
        have hq := Option.some.inj hf
        subst hq
        exact hret _ _ _ _ _ d_X_feed_46 rfl rfl hP hD hS
      · have hf := io_f hf c4
        refine lv_aload_n hx hb d_X_feed_30 rfl (lv_at hl 0 rfl) ?_
        refine lv_bipush (v := (-6)) hx hb d_X_feed_31 (by decide) ?_
        obtain ⟨q6, hq6, hf⟩ := io_b hf
        refine xcVI (wc := (w_X_refuse cI cJ cC a_h a_h_now a_h_kept a_h_letters a_h_numbers a_h_refusals a_h_mind a_h_parts a_h_past a_h_seating y_h_isKept y_h_numberCount z_h_refusals)) (wc' := (w_X_refuse cI cJ cC a_h a_h_now a_h_kept a_h_letters a_h_numbers a_h_refusals a_h_mind a_h_parts a_h_past a_h_seating y_h_isKept y_h_numberCount q6.2)) (ws' := (w_X_feed cI cJ cC a_h a_h_now a_h_kept a_h_letters a_h_numbers a_h_refusals a_h_mind a_h_parts a_h_past a_h_seating a_h_letters_text a_h_letters_trial y_h_isKept y_h_numberCount z_h_letters_length z_h_letters_text q6.2)) (As := [.int (-6)]) (rest := []) hx hb hml hown hT (c_X_refuse (z_h_refusals := z_h_refusals) a_h a_h_now a_h_kept a_h_letters a_h_numbers a_h_refusals a_h_mind a_h_parts a_h_past a_h_seating y_h_isKept y_h_numberCount hq6) k_198 k_200 ks_0 k_1 k_201 hd_X_refuse ⟨Nat.le_of_ble_eq_true rfl, Nat.le_of_ble_eq_true rfl⟩ xE0_ok trivial hA hK hP hD hS [0, 3] [1, 2] [2, 0, 1, 3] rfl rfl rfl rfl rfl rfl rfl rfl rfl rfl hl.1 rfl (Nat.le_of_ble_eq_true rfl) ⟨Nat.zero_le _, Nat.zero_le _⟩ d_X_feed_33 (fun H locs hP hD hS => ?_)
        have hq := Option.some.inj hf
        subst hq
        exact hret _ _ _ _ _ d_X_feed_36 rfl rfl hP hD hS
  · have hf := io_f hf c1
    refine lv_aload_n hx hb d_X_feed_4 rfl (lv_at hl 0 rfl) ?_
    refine lv_bipush (v := (-4)) hx hb d_X_feed_5 (by decide) ?_
    obtain ⟨q7, hq7, hf⟩ := io_b hf
    refine xcVI (wc := (w_X_refuse cI cJ cC a_h a_h_now a_h_kept a_h_letters a_h_numbers a_h_refusals a_h_mind a_h_parts a_h_past a_h_seating y_h_isKept y_h_numberCount z_h_refusals)) (wc' := (w_X_refuse cI cJ cC a_h a_h_now a_h_kept a_h_letters a_h_numbers a_h_refusals a_h_mind a_h_parts a_h_past a_h_seating y_h_isKept y_h_numberCount q7.2)) (ws' := (w_X_feed cI cJ cC a_h a_h_now a_h_kept a_h_letters a_h_numbers a_h_refusals a_h_mind a_h_parts a_h_past a_h_seating a_h_letters_text a_h_letters_trial y_h_isKept y_h_numberCount z_h_letters_length z_h_letters_text q7.2)) (As := [.int (-4)]) (rest := []) hx hb hml hown hT (c_X_refuse (z_h_refusals := z_h_refusals) a_h a_h_now a_h_kept a_h_letters a_h_numbers a_h_refusals a_h_mind a_h_parts a_h_past a_h_seating y_h_isKept y_h_numberCount hq7) k_198 k_200 ks_0 k_1 k_201 hd_X_refuse ⟨Nat.le_of_ble_eq_true rfl, Nat.le_of_ble_eq_true rfl⟩ xE0_ok trivial hA hK hP hD hS [0, 3] [1, 2] [2, 0, 1, 3] rfl rfl rfl rfl rfl rfl rfl rfl rfl rfl hl.1 rfl (Nat.le_of_ble_eq_true rfl) ⟨Nat.zero_le _, Nat.zero_le _⟩ d_X_feed_7 (fun H locs hP hD hS => ?_)
    have hq := Option.some.inj hf
    subst hq
    exact hret _ _ _ _ _ d_X_feed_10 rfl rfl hP hD hS
abbrev w_X_table (cI cJ cC : ClassId) (a_h a_h_now a_h_kept a_h_letters a_h_numbers a_h_refusals a_h_mind a_h_parts a_h_past a_h_seating a_h_now_kinds a_h_now_sweets a_h_now_settings a_h_now_heaps a_h_letters_text a_h_letters_trial a_h_letters_trial_kinds a_h_letters_trial_sweets a_h_letters_trial_settings a_h_letters_trial_heaps : Nat) (y_h_isKept : Int32) (y_h_numberCount : Int32) (p_h_now_children : Int32) (p_h_now_strokes : Int32) (p_h_now_gave : Int32) (p_h_now_threw : Int32) (p_h_now_kinds : (Nat → Int32)) (p_h_now_sweets : (Nat → Int32)) (p_h_now_settings : (Nat → Int32)) (p_h_now_heaps : (Nat → Int32)) (p_h_letters_length : Int32) (p_h_letters_text : (Nat → Int32)) (p_h_letters_trial_children : Int32) (p_h_letters_trial_strokes : Int32) (p_h_letters_trial_gave : Int32) (p_h_letters_trial_threw : Int32) (p_h_letters_trial_kinds : (Nat → Int32)) (p_h_letters_trial_sweets : (Nat → Int32)) (p_h_letters_trial_settings : (Nat → Int32)) (p_h_letters_trial_heaps : (Nat → Int32)) : va_W := [(a_h, .inr (0, [.ref a_h_now, .ref a_h_kept, .int y_h_isKept, .ref a_h_letters, .ref a_h_numbers, .int y_h_numberCount, .ref a_h_refusals, .ref a_h_mind, .ref a_h_parts, .ref a_h_past, .ref a_h_seating])), (a_h_now, .inr (1, [.ref a_h_now_kinds, .ref a_h_now_sweets, .ref a_h_now_settings, .int p_h_now_children, .int p_h_now_strokes, .int p_h_now_gave, .int p_h_now_threw, .ref a_h_now_heaps])), (a_h_now_kinds, .inl (cI, (8, .inl p_h_now_kinds))), (a_h_now_sweets, .inl (cI, (8, .inl p_h_now_sweets))), (a_h_now_settings, .inl (cI, (3, .inl p_h_now_settings))), (a_h_now_heaps, .inl (cI, (8, .inl p_h_now_heaps))), (a_h_letters, .inr (2, [.int p_h_letters_length, .ref a_h_letters_text, .ref a_h_letters_trial])), (a_h_letters_text, .inl (cC, (64, .inl p_h_letters_text))), (a_h_letters_trial, .inr (1, [.ref a_h_letters_trial_kinds, .ref a_h_letters_trial_sweets, .ref a_h_letters_trial_settings, .int p_h_letters_trial_children, .int p_h_letters_trial_strokes, .int p_h_letters_trial_gave, .int p_h_letters_trial_threw, .ref a_h_letters_trial_heaps])), (a_h_letters_trial_kinds, .inl (cI, (8, .inl p_h_letters_trial_kinds))), (a_h_letters_trial_sweets, .inl (cI, (8, .inl p_h_letters_trial_sweets))), (a_h_letters_trial_settings, .inl (cI, (3, .inl p_h_letters_trial_settings))), (a_h_letters_trial_heaps, .inl (cI, (8, .inl p_h_letters_trial_heaps)))]
theorem d_X_table_0 : decode b_X_table 0 = .ok (.aload_n 0, 1) := by decide +kernel
theorem d_X_table_1 : decode b_X_table 1 = .ok (.getfield 26, 3) := by decide +kernel
theorem d_X_table_4 : decode b_X_table 4 = .ok (.aload_n 0, 1) := by decide +kernel
theorem d_X_table_5 : decode b_X_table 5 = .ok (.getfield 10, 3) := by decide +kernel
theorem d_X_table_8 : decode b_X_table 8 = .ok (.invokevirtual 80, 3) := by decide +kernel
theorem d_X_table_11 : decode b_X_table 11 = .ok (.istore_n 1, 1) := by decide +kernel
theorem d_X_table_12 : decode b_X_table 12 = .ok (.aload_n 0, 1) := by decide +kernel
theorem d_X_table_13 : decode b_X_table 13 = .ok (.getfield 26, 3) := by decide +kernel
theorem d_X_table_16 : decode b_X_table 16 = .ok (.iconst 0, 1) := by decide +kernel
theorem d_X_table_17 : decode b_X_table 17 = .ok (.putfield 73, 3) := by decide +kernel
theorem d_X_table_20 : decode b_X_table 20 = .ok (.iload_n 1, 1) := by decide +kernel
theorem d_X_table_21 : decode b_X_table 21 = .ok (.ireturn, 1) := by decide +kernel
set_option maxHeartbeats 4000000 in
set_option maxRecDepth 100000 in
theorem c_X_table {l : Launch} {D : va_G} {cI cJ cC : ClassId} {t_LEAST_SETTING t_GREATEST_SETTING t_str t_val : Nat} (a_h a_h_now a_h_kept a_h_letters a_h_numbers a_h_refusals a_h_mind a_h_parts a_h_past a_h_seating a_h_now_kinds a_h_now_sweets a_h_now_settings a_h_now_heaps a_h_letters_text a_h_letters_trial a_h_letters_trial_kinds a_h_letters_trial_sweets a_h_letters_trial_settings a_h_letters_trial_heaps : Nat) (y_h_isKept : Int32) (y_h_numberCount : Int32) {z_h_now : RS} {z_h_letters_length : Int32} {z_h_letters_text : (Nat → Int32)} {z_h_letters_trial : RS} {q : Int32 × RS × Int32 × RS} (hf : f_X_table z_h_now z_h_letters_length z_h_letters_text z_h_letters_trial = some q) : xI l y_X_table b_X_table 2 .int 7 159 D (tyK cI cJ cC) (xEv t_LEAST_SETTING t_GREATEST_SETTING t_str t_val) [.ref a_h] (w_X_table cI cJ cC a_h a_h_now a_h_kept a_h_letters a_h_numbers a_h_refusals a_h_mind a_h_parts a_h_past a_h_seating a_h_now_kinds a_h_now_sweets a_h_now_settings a_h_now_heaps a_h_letters_text a_h_letters_trial a_h_letters_trial_kinds a_h_letters_trial_sweets a_h_letters_trial_settings a_h_letters_trial_heaps y_h_isKept y_h_numberCount (r_children z_h_now) (r_strokes z_h_now) (r_gave z_h_now) (r_threw z_h_now) (r_kinds z_h_now) (r_sweets z_h_now) (r_settings z_h_now) (r_heaps z_h_now) z_h_letters_length z_h_letters_text (r_children z_h_letters_trial) (r_strokes z_h_letters_trial) (r_gave z_h_letters_trial) (r_threw z_h_letters_trial) (r_kinds z_h_letters_trial) (r_sweets z_h_letters_trial) (r_settings z_h_letters_trial) (r_heaps z_h_letters_trial)) q.1 (w_X_table cI cJ cC a_h a_h_now a_h_kept a_h_letters a_h_numbers a_h_refusals a_h_mind a_h_parts a_h_past a_h_seating a_h_now_kinds a_h_now_sweets a_h_now_settings a_h_now_heaps a_h_letters_text a_h_letters_trial a_h_letters_trial_kinds a_h_letters_trial_sweets a_h_letters_trial_settings a_h_letters_trial_heaps y_h_isKept y_h_numberCount (r_children q.2.1) (r_strokes q.2.1) (r_gave q.2.1) (r_threw q.2.1) (r_kinds q.2.1) (r_sweets q.2.1) (r_settings q.2.1) (r_heaps q.2.1) q.2.2.1 z_h_letters_text (r_children q.2.2.2) (r_strokes q.2.2.2) (r_gave q.2.2.2) (r_threw q.2.2.2) (r_kinds q.2.2.2) (r_sweets q.2.2.2) (r_settings q.2.2.2) (r_heaps q.2.2.2)) := by
  refine xI_of (by decide) (Nat.le_of_ble_eq_true rfl) ?_
  intro p e s m args below meth c A Q hx hb hml hown hT hA hP hD hK hS hE hret ls hl
  have hown : s.vm.findClass R_X = some m.cls := hown
  have hl : lv_has ls 2 [(0, .ref a_h)] := hl
  unfold f_X_table at hf
  obtain ⟨hZ_LEAST_SETTING, hT_LEAST_SETTING, hZ_GREATEST_SETTING, hT_GREATEST_SETTING, hZ_CS, hO_str, hC_str, hV_str, hT_str, hR_str, hN_X_outside, hNF_LEAST_SETTING, hNF_GREATEST_SETTING⟩ := id hE
  refine lv_aload_n hx hb d_X_table_0 rfl (lv_at hl 0 rfl) ?_
  refine va_get hx hb hT i_X hown hK hP 0 rfl rfl 3 (Nat.le_of_ble_eq_true rfl) (hT _ k_159) (fun _ h => h) rfl d_X_table_1 ?_
  refine lv_aload_n hx hb d_X_table_4 rfl (lv_at hl 0 rfl) ?_
  refine va_get hx hb hT i_X hown hK hP 0 rfl rfl 0 (Nat.le_of_ble_eq_true rfl) (hT _ k_156) (fun _ h => h) rfl d_X_table_5 ?_
  obtain ⟨q1, hq1, hf⟩ := io_b hf
  refine xcVI (wc := (w_Letters_carryOut cI cJ cC a_h_letters a_h_letters_text a_h_letters_trial a_h_letters_trial_kinds a_h_letters_trial_sweets a_h_letters_trial_settings a_h_letters_trial_heaps a_h_now a_h_now_kinds a_h_now_sweets a_h_now_settings a_h_now_heaps z_h_letters_length z_h_letters_text (r_children z_h_letters_trial) (r_strokes z_h_letters_trial) (r_gave z_h_letters_trial) (r_threw z_h_letters_trial) (r_kinds z_h_letters_trial) (r_sweets z_h_letters_trial) (r_settings z_h_letters_trial) (r_heaps z_h_letters_trial) (r_children z_h_now) (r_strokes z_h_now) (r_gave z_h_now) (r_threw z_h_now) (r_kinds z_h_now) (r_sweets z_h_now) (r_settings z_h_now) (r_heaps z_h_now))) (wc' := (w_Letters_carryOut cI cJ cC a_h_letters a_h_letters_text a_h_letters_trial a_h_letters_trial_kinds a_h_letters_trial_sweets a_h_letters_trial_settings a_h_letters_trial_heaps a_h_now a_h_now_kinds a_h_now_sweets a_h_now_settings a_h_now_heaps z_h_letters_length z_h_letters_text (r_children q1.2.1) (r_strokes q1.2.1) (r_gave q1.2.1) (r_threw q1.2.1) (r_kinds q1.2.1) (r_sweets q1.2.1) (r_settings q1.2.1) (r_heaps q1.2.1) (r_children q1.2.2) (r_strokes q1.2.2) (r_gave q1.2.2) (r_threw q1.2.2) (r_kinds q1.2.2) (r_sweets q1.2.2) (r_settings q1.2.2) (r_heaps q1.2.2))) (ws' := (w_X_table cI cJ cC a_h a_h_now a_h_kept a_h_letters a_h_numbers a_h_refusals a_h_mind a_h_parts a_h_past a_h_seating a_h_now_kinds a_h_now_sweets a_h_now_settings a_h_now_heaps a_h_letters_text a_h_letters_trial a_h_letters_trial_kinds a_h_letters_trial_sweets a_h_letters_trial_settings a_h_letters_trial_heaps y_h_isKept y_h_numberCount (r_children q1.2.2) (r_strokes q1.2.2) (r_gave q1.2.2) (r_threw q1.2.2) (r_kinds q1.2.2) (r_sweets q1.2.2) (r_settings q1.2.2) (r_heaps q1.2.2) z_h_letters_length z_h_letters_text (r_children q1.2.1) (r_strokes q1.2.1) (r_gave q1.2.1) (r_threw q1.2.1) (r_kinds q1.2.1) (r_sweets q1.2.1) (r_settings q1.2.1) (r_heaps q1.2.1))) (As := [.ref a_h_now]) (rest := []) hx hb hml hown hT (c_Letters_carryOut (z_h_length := z_h_letters_length) (z_h_text := z_h_letters_text) (z_h_trial := z_h_letters_trial) (z_g1 := z_h_now) a_h_letters a_h_letters_text a_h_letters_trial a_h_letters_trial_kinds a_h_letters_trial_sweets a_h_letters_trial_settings a_h_letters_trial_heaps a_h_now a_h_now_kinds a_h_now_sweets a_h_now_settings a_h_now_heaps hq1) k_417 k_418 k_419 k_3 k_420 hd_Letters_carryOut ⟨Nat.le_of_ble_eq_true rfl, Nat.le_of_ble_eq_true rfl⟩ (xEv_ok _ _ _ _) hE hA hK hP hD hS [6, 7, 8, 9, 10, 11, 12, 1, 2, 3, 4, 5] [0] [0, 8, 9, 10, 11, 12, 1, 2, 3, 4, 5, 6, 7] rfl rfl rfl rfl rfl rfl rfl rfl rfl rfl hl.1 rfl (Nat.le_of_ble_eq_true rfl) ⟨Nat.zero_le _, Nat.zero_le _⟩ d_X_table_8 (fun H locs hP hD hS => ?_)
  refine lv_istore_n (lv' := [(1, .int q1.1), (0, .ref a_h)]) hx hb d_X_table_11 rfl hl (by decide) rfl (fun ls hl => ?_)
  refine lv_aload_n hx hb d_X_table_12 rfl (lv_at hl 1 rfl) ?_
  refine va_get hx hb hT i_X hown hK hP 0 rfl rfl 3 (Nat.le_of_ble_eq_true rfl) (hT _ k_159) (fun _ h => h) rfl d_X_table_13 ?_
  refine lv_iconst (v := 0) hx hb d_X_table_16 (by decide) ?_
  refine va_put (ty := .int) hx hb hT i_Letters t_Letters t_Letters_ok n_Letters hown hK hP hD hS 6 rfl rfl 0 (Nat.le_of_ble_eq_true rfl) (hT _ k_77) (fun _ h => h) rfl rfl rfl rfl (Nat.le_of_ble_eq_true rfl) d_X_table_17 (fun H locs hP hD hS => ?_)
  have hP : va_P D classes (w_X_table cI cJ cC a_h a_h_now a_h_kept a_h_letters a_h_numbers a_h_refusals a_h_mind a_h_parts a_h_past a_h_seating a_h_now_kinds a_h_now_sweets a_h_now_settings a_h_now_heaps a_h_letters_text a_h_letters_trial a_h_letters_trial_kinds a_h_letters_trial_sweets a_h_letters_trial_settings a_h_letters_trial_heaps y_h_isKept y_h_numberCount (r_children q1.2.2) (r_strokes q1.2.2) (r_gave q1.2.2) (r_threw q1.2.2) (r_kinds q1.2.2) (r_sweets q1.2.2) (r_settings q1.2.2) (r_heaps q1.2.2) 0 z_h_letters_text (r_children q1.2.1) (r_strokes q1.2.1) (r_gave q1.2.1) (r_threw q1.2.1) (r_kinds q1.2.1) (r_sweets q1.2.1) (r_settings q1.2.1) (r_heaps q1.2.1)) H := hP
  have hD : va_D A (w_X_table cI cJ cC a_h a_h_now a_h_kept a_h_letters a_h_numbers a_h_refusals a_h_mind a_h_parts a_h_past a_h_seating a_h_now_kinds a_h_now_sweets a_h_now_settings a_h_now_heaps a_h_letters_text a_h_letters_trial a_h_letters_trial_kinds a_h_letters_trial_sweets a_h_letters_trial_settings a_h_letters_trial_heaps y_h_isKept y_h_numberCount (r_children q1.2.2) (r_strokes q1.2.2) (r_gave q1.2.2) (r_threw q1.2.2) (r_kinds q1.2.2) (r_sweets q1.2.2) (r_settings q1.2.2) (r_heaps q1.2.2) 0 z_h_letters_text (r_children q1.2.1) (r_strokes q1.2.1) (r_gave q1.2.1) (r_threw q1.2.1) (r_kinds q1.2.1) (r_sweets q1.2.1) (r_settings q1.2.1) (r_heaps q1.2.1)) := hD
  refine lv_iload_n hx hb d_X_table_20 rfl (lv_at hl 0 rfl) ?_
  have hq := Option.some.inj hf
  subst hq
  exact hret _ _ _ _ _ d_X_table_21 rfl rfl hP hD hS
abbrev w_X_child (cI cJ cC : ClassId) (a_h a_h_now a_h_kept a_h_letters a_h_numbers a_h_refusals a_h_mind a_h_parts a_h_past a_h_seating a_h_now_kinds a_h_now_sweets a_h_now_settings a_h_now_heaps : Nat) (y_h_isKept : Int32) (y_h_numberCount : Int32) (p_h_now_children : Int32) (p_h_now_strokes : Int32) (p_h_now_gave : Int32) (p_h_now_threw : Int32) (p_h_now_kinds : (Nat → Int32)) (p_h_now_sweets : (Nat → Int32)) (p_h_now_settings : (Nat → Int32)) (p_h_refusals : (Nat → Int32)) : va_W := [(a_h, .inr (0, [.ref a_h_now, .ref a_h_kept, .int y_h_isKept, .ref a_h_letters, .ref a_h_numbers, .int y_h_numberCount, .ref a_h_refusals, .ref a_h_mind, .ref a_h_parts, .ref a_h_past, .ref a_h_seating])), (a_h_now, .inr (1, [.ref a_h_now_kinds, .ref a_h_now_sweets, .ref a_h_now_settings, .int p_h_now_children, .int p_h_now_strokes, .int p_h_now_gave, .int p_h_now_threw, .ref a_h_now_heaps])), (a_h_now_kinds, .inl (cI, (8, .inl p_h_now_kinds))), (a_h_now_sweets, .inl (cI, (8, .inl p_h_now_sweets))), (a_h_now_settings, .inl (cI, (3, .inl p_h_now_settings))), (a_h_refusals, .inl (cI, (7, .inl p_h_refusals)))]
theorem d_X_child_0 : decode b_X_child 0 = .ok (.aload_n 0, 1) := by decide +kernel
theorem d_X_child_1 : decode b_X_child 1 = .ok (.getfield 10, 3) := by decide +kernel
theorem d_X_child_4 : decode b_X_child 4 = .ok (.iload_n 1, 1) := by decide +kernel
theorem d_X_child_5 : decode b_X_child 5 = .ok (.invokevirtual 84, 3) := by decide +kernel
theorem d_X_child_8 : decode b_X_child 8 = .ok (.ifCond .ne 9, 3) := by decide +kernel
theorem d_X_child_11 : decode b_X_child 11 = .ok (.aload_n 0, 1) := by decide +kernel
theorem d_X_child_12 : decode b_X_child 12 = .ok (.iconst (-1), 1) := by decide +kernel
theorem d_X_child_13 : decode b_X_child 13 = .ok (.invokevirtual 69, 3) := by decide +kernel
theorem d_X_child_16 : decode b_X_child 16 = .ok (.ireturn, 1) := by decide +kernel
theorem d_X_child_17 : decode b_X_child 17 = .ok (.iload_n 2, 1) := by decide +kernel
theorem d_X_child_18 : decode b_X_child 18 = .ok (.tableswitch 68 0 3 #[30, 40, 50, 59], 30) := by decide +kernel
theorem d_X_child_48 : decode b_X_child 48 = .ok (.aload_n 0, 1) := by decide +kernel
theorem d_X_child_49 : decode b_X_child 49 = .ok (.getfield 10, 3) := by decide +kernel
theorem d_X_child_52 : decode b_X_child 52 = .ok (.getfield 88, 3) := by decide +kernel
theorem d_X_child_55 : decode b_X_child 55 = .ok (.iload_n 1, 1) := by decide +kernel
theorem d_X_child_56 : decode b_X_child 56 = .ok (.iaload, 1) := by decide +kernel
theorem d_X_child_57 : decode b_X_child 57 = .ok (.ireturn, 1) := by decide +kernel
theorem d_X_child_58 : decode b_X_child 58 = .ok (.aload_n 0, 1) := by decide +kernel
theorem d_X_child_59 : decode b_X_child 59 = .ok (.getfield 10, 3) := by decide +kernel
theorem d_X_child_62 : decode b_X_child 62 = .ok (.getfield 91, 3) := by decide +kernel
theorem d_X_child_65 : decode b_X_child 65 = .ok (.iload_n 1, 1) := by decide +kernel
theorem d_X_child_66 : decode b_X_child 66 = .ok (.iaload, 1) := by decide +kernel
theorem d_X_child_67 : decode b_X_child 67 = .ok (.ireturn, 1) := by decide +kernel
theorem d_X_child_68 : decode b_X_child 68 = .ok (.aload_n 0, 1) := by decide +kernel
theorem d_X_child_69 : decode b_X_child 69 = .ok (.getfield 10, 3) := by decide +kernel
theorem d_X_child_72 : decode b_X_child 72 = .ok (.iload_n 1, 1) := by decide +kernel
theorem d_X_child_73 : decode b_X_child 73 = .ok (.invokevirtual 94, 3) := by decide +kernel
theorem d_X_child_76 : decode b_X_child 76 = .ok (.ireturn, 1) := by decide +kernel
theorem d_X_child_77 : decode b_X_child 77 = .ok (.aload_n 0, 1) := by decide +kernel
theorem d_X_child_78 : decode b_X_child 78 = .ok (.getfield 10, 3) := by decide +kernel
theorem d_X_child_81 : decode b_X_child 81 = .ok (.iload_n 1, 1) := by decide +kernel
theorem d_X_child_82 : decode b_X_child 82 = .ok (.invokevirtual 97, 3) := by decide +kernel
theorem d_X_child_85 : decode b_X_child 85 = .ok (.ireturn, 1) := by decide +kernel
theorem d_X_child_86 : decode b_X_child 86 = .ok (.aload_n 0, 1) := by decide +kernel
theorem d_X_child_87 : decode b_X_child 87 = .ok (.bipush (-2), 2) := by decide +kernel
theorem d_X_child_89 : decode b_X_child 89 = .ok (.invokevirtual 69, 3) := by decide +kernel
theorem d_X_child_92 : decode b_X_child 92 = .ok (.ireturn, 1) := by decide +kernel
set_option maxHeartbeats 4000000 in
set_option maxRecDepth 100000 in
theorem c_X_child {l : Launch} {D : va_G} {cI cJ cC : ClassId} (a_h a_h_now a_h_kept a_h_letters a_h_numbers a_h_refusals a_h_mind a_h_parts a_h_past a_h_seating a_h_now_kinds a_h_now_sweets a_h_now_settings a_h_now_heaps : Nat) (y_h_isKept : Int32) (y_h_numberCount : Int32) {z_h_now : RS} {z_h_refusals : (Nat → Int32)} {x1 : Int32} {x2 : Int32} {q : Int32 × (Nat → Int32)} (hf : f_X_child z_h_now z_h_refusals x1 x2 = some q) : xI l y_X_child b_X_child 3 .int 3 66 D (tyK cI cJ cC) xE0 [.ref a_h, .int x1, .int x2] (w_X_child cI cJ cC a_h a_h_now a_h_kept a_h_letters a_h_numbers a_h_refusals a_h_mind a_h_parts a_h_past a_h_seating a_h_now_kinds a_h_now_sweets a_h_now_settings a_h_now_heaps y_h_isKept y_h_numberCount (r_children z_h_now) (r_strokes z_h_now) (r_gave z_h_now) (r_threw z_h_now) (r_kinds z_h_now) (r_sweets z_h_now) (r_settings z_h_now) z_h_refusals) q.1 (w_X_child cI cJ cC a_h a_h_now a_h_kept a_h_letters a_h_numbers a_h_refusals a_h_mind a_h_parts a_h_past a_h_seating a_h_now_kinds a_h_now_sweets a_h_now_settings a_h_now_heaps y_h_isKept y_h_numberCount (r_children z_h_now) (r_strokes z_h_now) (r_gave z_h_now) (r_threw z_h_now) (r_kinds z_h_now) (r_sweets z_h_now) (r_settings z_h_now) q.2) := by
  refine xI_of (by decide) (Nat.le_of_ble_eq_true rfl) ?_
  intro p e s m args below meth c A Q hx hb hml hown hT hA hP hD hK hS hE hret ls hl
  have hown : s.vm.findClass R_X = some m.cls := hown
  have hl : lv_has ls 3 [(0, .ref a_h), (1, .int x1), (2, .int x2)] := hl
  unfold f_X_child at hf
  refine lv_aload_n hx hb d_X_child_0 rfl (lv_at hl 0 rfl) ?_
  refine va_get hx hb hT i_X hown hK hP 0 rfl rfl 0 (Nat.le_of_ble_eq_true rfl) (hT _ k_156) (fun _ h => h) rfl d_X_child_1 ?_
  refine lv_iload_n hx hb d_X_child_4 rfl (lv_at hl 1 rfl) ?_
  obtain ⟨q1, hq1, hf⟩ := io_b hf
  refine xcVI (wc := (w_Ring_has cI cJ cC a_h_now a_h_now_kinds a_h_now_sweets a_h_now_settings a_h_now_heaps (r_children z_h_now) (r_strokes z_h_now) (r_gave z_h_now) (r_threw z_h_now))) (wc' := (w_Ring_has cI cJ cC a_h_now a_h_now_kinds a_h_now_sweets a_h_now_settings a_h_now_heaps (r_children z_h_now) (r_strokes z_h_now) (r_gave z_h_now) (r_threw z_h_now))) (ws' := (w_X_child cI cJ cC a_h a_h_now a_h_kept a_h_letters a_h_numbers a_h_refusals a_h_mind a_h_parts a_h_past a_h_seating a_h_now_kinds a_h_now_sweets a_h_now_settings a_h_now_heaps y_h_isKept y_h_numberCount (r_children z_h_now) (r_strokes z_h_now) (r_gave z_h_now) (r_threw z_h_now) (r_kinds z_h_now) (r_sweets z_h_now) (r_settings z_h_now) z_h_refusals)) (As := [.int x1]) (rest := []) hx hb hml hown hT (c_Ring_has (z_h := z_h_now) a_h_now a_h_now_kinds a_h_now_sweets a_h_now_settings a_h_now_heaps hq1) k_194 k_195 k_196 k_2 k_197 hd_Ring_has ⟨Nat.le_of_ble_eq_true rfl, Nat.le_of_ble_eq_true rfl⟩ xE0_ok trivial hA hK hP hD hS [1] [0, 2, 3, 4, 5] [0, 5, 1, 2, 3, 4] rfl rfl rfl rfl rfl rfl rfl rfl rfl rfl hl.1 rfl (Nat.le_of_ble_eq_true rfl) ⟨Nat.zero_le _, Nat.zero_le _⟩ d_X_child_5 (fun H locs hP hD hS => ?_)
  refine lv_if_ne (tgt := 17) hx hb d_X_child_8 (by decide) (fun c2 => ?_) (fun c2 => ?_)
  · have hf := io_f hf c2
    refine lv_iload_n hx hb d_X_child_17 rfl (lv_at hl 2 rfl) ?_
    rcases Decidable.em (x2 = 0) with c3 | c3
    · have hf := io_t hf c3
      refine lv_tableIn (off := 30) (tgt := 48) hx hb d_X_child_18 (by rw [c3]; decide +kernel) (by rw [c3]; decide +kernel) (by rw [c3]; rfl) (by decide) ?_
      refine lv_aload_n hx hb d_X_child_48 rfl (lv_at hl 0 rfl) ?_
      refine va_get hx hb hT i_X hown hK hP 0 rfl rfl 0 (Nat.le_of_ble_eq_true rfl) (hT _ k_156) (fun _ h => h) rfl d_X_child_49 ?_
      refine va_get hx hb hT i_Ring hown hK hP 1 rfl rfl 0 (Nat.le_of_ble_eq_true rfl) (hT _ k_30) (fun _ h => h) rfl d_X_child_52 ?_
      refine lv_iload_n hx hb d_X_child_55 rfl (lv_at hl 1 rfl) ?_
      obtain ⟨c4, hf⟩ := io_n hf
      refine x_iald hx hb hK hP 2 0 rfl rfl (j := x1.toNatClampNeg) rfl c4 d_X_child_56 ?_
      have hq := Option.some.inj hf
      subst hq
      exact hret _ _ _ _ _ d_X_child_57 rfl rfl hP hD hS
    · have hf := io_f hf c3
      rcases Decidable.em (x2 = 1) with c5 | c5
      · have hf := io_t hf c5
        refine lv_tableIn (off := 40) (tgt := 58) hx hb d_X_child_18 (by rw [c5]; decide +kernel) (by rw [c5]; decide +kernel) (by rw [c5]; rfl) (by decide) ?_
        refine lv_aload_n hx hb d_X_child_58 rfl (lv_at hl 0 rfl) ?_
        refine va_get hx hb hT i_X hown hK hP 0 rfl rfl 0 (Nat.le_of_ble_eq_true rfl) (hT _ k_156) (fun _ h => h) rfl d_X_child_59 ?_
        refine va_get hx hb hT i_Ring hown hK hP 1 rfl rfl 1 (Nat.le_of_ble_eq_true rfl) (hT _ k_34) (fun _ h => h) rfl d_X_child_62 ?_
        refine lv_iload_n hx hb d_X_child_65 rfl (lv_at hl 1 rfl) ?_
        obtain ⟨c6, hf⟩ := io_n hf
        refine x_iald hx hb hK hP 3 0 rfl rfl (j := x1.toNatClampNeg) rfl c6 d_X_child_66 ?_
        have hq := Option.some.inj hf
        subst hq
        exact hret _ _ _ _ _ d_X_child_67 rfl rfl hP hD hS
      · have hf := io_f hf c5
        rcases Decidable.em (x2 = 2) with c7 | c7
        · have hf := io_t hf c7
          refine lv_tableIn (off := 50) (tgt := 68) hx hb d_X_child_18 (by rw [c7]; decide +kernel) (by rw [c7]; decide +kernel) (by rw [c7]; rfl) (by decide) ?_
          refine lv_aload_n hx hb d_X_child_68 rfl (lv_at hl 0 rfl) ?_
          refine va_get hx hb hT i_X hown hK hP 0 rfl rfl 0 (Nat.le_of_ble_eq_true rfl) (hT _ k_156) (fun _ h => h) rfl d_X_child_69 ?_
          refine lv_iload_n hx hb d_X_child_72 rfl (lv_at hl 1 rfl) ?_
          obtain ⟨q8, hq8, hf⟩ := io_b hf
          refine xcVI (wc := (w_Ring_gift cI cJ cC a_h_now a_h_now_kinds a_h_now_sweets a_h_now_settings a_h_now_heaps (r_children z_h_now) (r_strokes z_h_now) (r_gave z_h_now) (r_threw z_h_now) (r_kinds z_h_now) (r_sweets z_h_now) (r_settings z_h_now))) (wc' := (w_Ring_gift cI cJ cC a_h_now a_h_now_kinds a_h_now_sweets a_h_now_settings a_h_now_heaps (r_children z_h_now) (r_strokes z_h_now) (r_gave z_h_now) (r_threw z_h_now) (r_kinds z_h_now) (r_sweets z_h_now) (r_settings z_h_now))) (ws' := (w_X_child cI cJ cC a_h a_h_now a_h_kept a_h_letters a_h_numbers a_h_refusals a_h_mind a_h_parts a_h_past a_h_seating a_h_now_kinds a_h_now_sweets a_h_now_settings a_h_now_heaps y_h_isKept y_h_numberCount (r_children z_h_now) (r_strokes z_h_now) (r_gave z_h_now) (r_threw z_h_now) (r_kinds z_h_now) (r_sweets z_h_now) (r_settings z_h_now) z_h_refusals)) (As := [.int x1]) (rest := []) hx hb hml hown hT (c_Ring_gift (z_h := z_h_now) a_h_now a_h_now_kinds a_h_now_sweets a_h_now_settings a_h_now_heaps hq8) k_202 k_203 k_204 k_2 k_205 hd_Ring_gift ⟨Nat.le_of_ble_eq_true rfl, Nat.le_of_ble_eq_true rfl⟩ xE0_ok trivial hA hK hP hD hS [1, 2, 3, 4] [0, 5] [0, 2, 3, 4, 5, 1] rfl rfl rfl rfl rfl rfl rfl rfl rfl rfl hl.1 rfl (Nat.le_of_ble_eq_true rfl) ⟨Nat.zero_le _, Nat.zero_le _⟩ d_X_child_73 (fun H locs hP hD hS => ?_)
          have hq := Option.some.inj hf
          subst hq
          exact hret _ _ _ _ _ d_X_child_76 rfl rfl hP hD hS
        · have hf := io_f hf c7
          rcases Decidable.em (x2 = 3) with c9 | c9
          · have hf := io_t hf c9
            refine lv_tableIn (off := 59) (tgt := 77) hx hb d_X_child_18 (by rw [c9]; decide +kernel) (by rw [c9]; decide +kernel) (by rw [c9]; rfl) (by decide) ?_
            refine lv_aload_n hx hb d_X_child_77 rfl (lv_at hl 0 rfl) ?_
            refine va_get hx hb hT i_X hown hK hP 0 rfl rfl 0 (Nat.le_of_ble_eq_true rfl) (hT _ k_156) (fun _ h => h) rfl d_X_child_78 ?_
            refine lv_iload_n hx hb d_X_child_81 rfl (lv_at hl 1 rfl) ?_
            obtain ⟨q10, hq10, hf⟩ := io_b hf
            refine xcVI (wc := (w_Ring_sides cI cJ cC a_h_now a_h_now_kinds a_h_now_sweets a_h_now_settings a_h_now_heaps (r_children z_h_now) (r_strokes z_h_now) (r_gave z_h_now) (r_threw z_h_now) (r_kinds z_h_now) (r_sweets z_h_now) (r_settings z_h_now))) (wc' := (w_Ring_sides cI cJ cC a_h_now a_h_now_kinds a_h_now_sweets a_h_now_settings a_h_now_heaps (r_children z_h_now) (r_strokes z_h_now) (r_gave z_h_now) (r_threw z_h_now) (r_kinds z_h_now) (r_sweets z_h_now) (r_settings z_h_now))) (ws' := (w_X_child cI cJ cC a_h a_h_now a_h_kept a_h_letters a_h_numbers a_h_refusals a_h_mind a_h_parts a_h_past a_h_seating a_h_now_kinds a_h_now_sweets a_h_now_settings a_h_now_heaps y_h_isKept y_h_numberCount (r_children z_h_now) (r_strokes z_h_now) (r_gave z_h_now) (r_threw z_h_now) (r_kinds z_h_now) (r_sweets z_h_now) (r_settings z_h_now) z_h_refusals)) (As := [.int x1]) (rest := []) hx hb hml hown hT (c_Ring_sides (z_h := z_h_now) a_h_now a_h_now_kinds a_h_now_sweets a_h_now_settings a_h_now_heaps hq10) k_210 k_211 k_212 k_2 k_213 hd_Ring_sides ⟨Nat.le_of_ble_eq_true rfl, Nat.le_of_ble_eq_true rfl⟩ xE0_ok trivial hA hK hP hD hS [1, 2, 3, 4] [0, 5] [0, 2, 3, 4, 5, 1] rfl rfl rfl rfl rfl rfl rfl rfl rfl rfl hl.1 rfl (Nat.le_of_ble_eq_true rfl) ⟨Nat.zero_le _, Nat.zero_le _⟩ d_X_child_82 (fun H locs hP hD hS => ?_)
            have hq := Option.some.inj hf
            subst hq
            exact hret _ _ _ _ _ d_X_child_85 rfl rfl hP hD hS
          · have hf := io_f hf c9
            refine lv_tableOut (tgt := 86) hx hb d_X_child_18 (by have e0 := lv_neT (a := 0) c3 (by decide +kernel); have e1 := lv_neT (a := 1) c5 (by decide +kernel); have e2 := lv_neT (a := 2) c7 (by decide +kernel); have e3 := lv_neT (a := 3) c9 (by decide +kernel); omega) (by decide) ?_
            refine lv_aload_n hx hb d_X_child_86 rfl (lv_at hl 0 rfl) ?_
            refine lv_bipush (v := (-2)) hx hb d_X_child_87 (by decide) ?_
            obtain ⟨q11, hq11, hf⟩ := io_b hf
            refine xcVI (wc := (w_X_refuse cI cJ cC a_h a_h_now a_h_kept a_h_letters a_h_numbers a_h_refusals a_h_mind a_h_parts a_h_past a_h_seating y_h_isKept y_h_numberCount z_h_refusals)) (wc' := (w_X_refuse cI cJ cC a_h a_h_now a_h_kept a_h_letters a_h_numbers a_h_refusals a_h_mind a_h_parts a_h_past a_h_seating y_h_isKept y_h_numberCount q11.2)) (ws' := (w_X_child cI cJ cC a_h a_h_now a_h_kept a_h_letters a_h_numbers a_h_refusals a_h_mind a_h_parts a_h_past a_h_seating a_h_now_kinds a_h_now_sweets a_h_now_settings a_h_now_heaps y_h_isKept y_h_numberCount (r_children z_h_now) (r_strokes z_h_now) (r_gave z_h_now) (r_threw z_h_now) (r_kinds z_h_now) (r_sweets z_h_now) (r_settings z_h_now) q11.2)) (As := [.int (-2)]) (rest := []) hx hb hml hown hT (c_X_refuse (z_h_refusals := z_h_refusals) a_h a_h_now a_h_kept a_h_letters a_h_numbers a_h_refusals a_h_mind a_h_parts a_h_past a_h_seating y_h_isKept y_h_numberCount hq11) k_198 k_200 ks_0 k_1 k_201 hd_X_refuse ⟨Nat.le_of_ble_eq_true rfl, Nat.le_of_ble_eq_true rfl⟩ xE0_ok trivial hA hK hP hD hS [0, 5] [1, 2, 3, 4] [4, 0, 1, 2, 3, 5] rfl rfl rfl rfl rfl rfl rfl rfl rfl rfl hl.1 rfl (Nat.le_of_ble_eq_true rfl) ⟨Nat.zero_le _, Nat.zero_le _⟩ d_X_child_89 (fun H locs hP hD hS => ?_)
            have hq := Option.some.inj hf
            subst hq
            exact hret _ _ _ _ _ d_X_child_92 rfl rfl hP hD hS
  · have hf := io_t hf c2
    refine lv_aload_n hx hb d_X_child_11 rfl (lv_at hl 0 rfl) ?_
    refine lv_iconst (v := (-1)) hx hb d_X_child_12 (by decide) ?_
    obtain ⟨q12, hq12, hf⟩ := io_b hf
    refine xcVI (wc := (w_X_refuse cI cJ cC a_h a_h_now a_h_kept a_h_letters a_h_numbers a_h_refusals a_h_mind a_h_parts a_h_past a_h_seating y_h_isKept y_h_numberCount z_h_refusals)) (wc' := (w_X_refuse cI cJ cC a_h a_h_now a_h_kept a_h_letters a_h_numbers a_h_refusals a_h_mind a_h_parts a_h_past a_h_seating y_h_isKept y_h_numberCount q12.2)) (ws' := (w_X_child cI cJ cC a_h a_h_now a_h_kept a_h_letters a_h_numbers a_h_refusals a_h_mind a_h_parts a_h_past a_h_seating a_h_now_kinds a_h_now_sweets a_h_now_settings a_h_now_heaps y_h_isKept y_h_numberCount (r_children z_h_now) (r_strokes z_h_now) (r_gave z_h_now) (r_threw z_h_now) (r_kinds z_h_now) (r_sweets z_h_now) (r_settings z_h_now) q12.2)) (As := [.int (-1)]) (rest := []) hx hb hml hown hT (c_X_refuse (z_h_refusals := z_h_refusals) a_h a_h_now a_h_kept a_h_letters a_h_numbers a_h_refusals a_h_mind a_h_parts a_h_past a_h_seating y_h_isKept y_h_numberCount hq12) k_198 k_200 ks_0 k_1 k_201 hd_X_refuse ⟨Nat.le_of_ble_eq_true rfl, Nat.le_of_ble_eq_true rfl⟩ xE0_ok trivial hA hK hP hD hS [0, 5] [1, 2, 3, 4] [4, 0, 1, 2, 3, 5] rfl rfl rfl rfl rfl rfl rfl rfl rfl rfl hl.1 rfl (Nat.le_of_ble_eq_true rfl) ⟨Nat.zero_le _, Nat.zero_le _⟩ d_X_child_13 (fun H locs hP hD hS => ?_)
    have hq := Option.some.inj hf
    subst hq
    exact hret _ _ _ _ _ d_X_child_16 rfl rfl hP hD hS
abbrev w_X_set (cI cJ cC : ClassId) (a_h a_h_now a_h_kept a_h_letters a_h_numbers a_h_refusals a_h_mind a_h_parts a_h_past a_h_seating a_h_now_kinds a_h_now_sweets a_h_now_settings a_h_now_heaps : Nat) (y_h_isKept : Int32) (y_h_numberCount : Int32) (p_h_now_children : Int32) (p_h_now_strokes : Int32) (p_h_now_gave : Int32) (p_h_now_threw : Int32) (p_h_now_kinds : (Nat → Int32)) (p_h_now_sweets : (Nat → Int32)) (p_h_now_settings : (Nat → Int32)) (p_h_now_heaps : (Nat → Int32)) (p_h_refusals : (Nat → Int32)) : va_W := [(a_h, .inr (0, [.ref a_h_now, .ref a_h_kept, .int y_h_isKept, .ref a_h_letters, .ref a_h_numbers, .int y_h_numberCount, .ref a_h_refusals, .ref a_h_mind, .ref a_h_parts, .ref a_h_past, .ref a_h_seating])), (a_h_now, .inr (1, [.ref a_h_now_kinds, .ref a_h_now_sweets, .ref a_h_now_settings, .int p_h_now_children, .int p_h_now_strokes, .int p_h_now_gave, .int p_h_now_threw, .ref a_h_now_heaps])), (a_h_now_kinds, .inl (cI, (8, .inl p_h_now_kinds))), (a_h_now_sweets, .inl (cI, (8, .inl p_h_now_sweets))), (a_h_now_settings, .inl (cI, (3, .inl p_h_now_settings))), (a_h_now_heaps, .inl (cI, (8, .inl p_h_now_heaps))), (a_h_refusals, .inl (cI, (7, .inl p_h_refusals)))]
theorem d_X_set_0 : decode b_X_set 0 = .ok (.iload_n 1, 1) := by decide +kernel
theorem d_X_set_1 : decode b_X_set 1 = .ok (.ifCond .lt 8, 3) := by decide +kernel
theorem d_X_set_4 : decode b_X_set 4 = .ok (.iload_n 1, 1) := by decide +kernel
theorem d_X_set_5 : decode b_X_set 5 = .ok (.iconst 2, 1) := by decide +kernel
theorem d_X_set_6 : decode b_X_set 6 = .ok (.if_icmp .le 10, 3) := by decide +kernel
theorem d_X_set_9 : decode b_X_set 9 = .ok (.aload_n 0, 1) := by decide +kernel
theorem d_X_set_10 : decode b_X_set 10 = .ok (.bipush (-2), 2) := by decide +kernel
theorem d_X_set_12 : decode b_X_set 12 = .ok (.invokevirtual 69, 3) := by decide +kernel
theorem d_X_set_15 : decode b_X_set 15 = .ok (.ireturn, 1) := by decide +kernel
theorem d_X_set_16 : decode b_X_set 16 = .ok (.iload_n 2, 1) := by decide +kernel
theorem d_X_set_17 : decode b_X_set 17 = .ok (.getstatic 104, 3) := by decide +kernel
theorem d_X_set_20 : decode b_X_set 20 = .ok (.iload_n 1, 1) := by decide +kernel
theorem d_X_set_21 : decode b_X_set 21 = .ok (.iaload, 1) := by decide +kernel
theorem d_X_set_22 : decode b_X_set 22 = .ok (.getstatic 107, 3) := by decide +kernel
theorem d_X_set_25 : decode b_X_set 25 = .ok (.iload_n 1, 1) := by decide +kernel
theorem d_X_set_26 : decode b_X_set 26 = .ok (.iaload, 1) := by decide +kernel
theorem d_X_set_27 : decode b_X_set 27 = .ok (.invokestatic 100, 3) := by decide +kernel
theorem d_X_set_30 : decode b_X_set 30 = .ok (.istore_n 3, 1) := by decide +kernel
theorem d_X_set_31 : decode b_X_set 31 = .ok (.iload_n 3, 1) := by decide +kernel
theorem d_X_set_32 : decode b_X_set 32 = .ok (.ifCond .eq 9, 3) := by decide +kernel
theorem d_X_set_35 : decode b_X_set 35 = .ok (.aload_n 0, 1) := by decide +kernel
theorem d_X_set_36 : decode b_X_set 36 = .ok (.iload_n 3, 1) := by decide +kernel
theorem d_X_set_37 : decode b_X_set 37 = .ok (.invokevirtual 69, 3) := by decide +kernel
theorem d_X_set_40 : decode b_X_set 40 = .ok (.ireturn, 1) := by decide +kernel
theorem d_X_set_41 : decode b_X_set 41 = .ok (.aload_n 0, 1) := by decide +kernel
theorem d_X_set_42 : decode b_X_set 42 = .ok (.getfield 10, 3) := by decide +kernel
theorem d_X_set_45 : decode b_X_set 45 = .ok (.getfield 110, 3) := by decide +kernel
theorem d_X_set_48 : decode b_X_set 48 = .ok (.iload_n 1, 1) := by decide +kernel
theorem d_X_set_49 : decode b_X_set 49 = .ok (.iaload, 1) := by decide +kernel
theorem d_X_set_50 : decode b_X_set 50 = .ok (.istore 4, 2) := by decide +kernel
theorem d_X_set_52 : decode b_X_set 52 = .ok (.aload_n 0, 1) := by decide +kernel
theorem d_X_set_53 : decode b_X_set 53 = .ok (.getfield 10, 3) := by decide +kernel
theorem d_X_set_56 : decode b_X_set 56 = .ok (.getfield 110, 3) := by decide +kernel
theorem d_X_set_59 : decode b_X_set 59 = .ok (.iload_n 1, 1) := by decide +kernel
theorem d_X_set_60 : decode b_X_set 60 = .ok (.iload_n 2, 1) := by decide +kernel
theorem d_X_set_61 : decode b_X_set 61 = .ok (.iastore, 1) := by decide +kernel
theorem d_X_set_62 : decode b_X_set 62 = .ok (.iload 4, 2) := by decide +kernel
theorem d_X_set_64 : decode b_X_set 64 = .ok (.ireturn, 1) := by decide +kernel
set_option maxHeartbeats 4000000 in
set_option maxRecDepth 100000 in
theorem c_X_set {l : Launch} {D : va_G} {cI cJ cC : ClassId} {t_LEAST_SETTING t_GREATEST_SETTING t_str t_val : Nat} (a_h a_h_now a_h_kept a_h_letters a_h_numbers a_h_refusals a_h_mind a_h_parts a_h_past a_h_seating a_h_now_kinds a_h_now_sweets a_h_now_settings a_h_now_heaps : Nat) (y_h_isKept : Int32) (y_h_numberCount : Int32) {z_h_now : RS} {z_h_refusals : (Nat → Int32)} {x1 : Int32} {x2 : Int32} {q : Int32 × RS × (Nat → Int32)} (hf : f_X_set z_h_now z_h_refusals x1 x2 = some q) : xI l y_X_set b_X_set 5 .int 1 22 D (tyK cI cJ cC) (xEv t_LEAST_SETTING t_GREATEST_SETTING t_str t_val) [.ref a_h, .int x1, .int x2] (w_X_set cI cJ cC a_h a_h_now a_h_kept a_h_letters a_h_numbers a_h_refusals a_h_mind a_h_parts a_h_past a_h_seating a_h_now_kinds a_h_now_sweets a_h_now_settings a_h_now_heaps y_h_isKept y_h_numberCount (r_children z_h_now) (r_strokes z_h_now) (r_gave z_h_now) (r_threw z_h_now) (r_kinds z_h_now) (r_sweets z_h_now) (r_settings z_h_now) (r_heaps z_h_now) z_h_refusals) q.1 (w_X_set cI cJ cC a_h a_h_now a_h_kept a_h_letters a_h_numbers a_h_refusals a_h_mind a_h_parts a_h_past a_h_seating a_h_now_kinds a_h_now_sweets a_h_now_settings a_h_now_heaps y_h_isKept y_h_numberCount (r_children q.2.1) (r_strokes q.2.1) (r_gave q.2.1) (r_threw q.2.1) (r_kinds q.2.1) (r_sweets q.2.1) (r_settings q.2.1) (r_heaps q.2.1) q.2.2) := by
  refine xI_of (by decide) (Nat.le_of_ble_eq_true rfl) ?_
  intro p e s m args below meth c A Q hx hb hml hown hT hA hP hD hK hS hE hret ls hl
  have hown : s.vm.findClass R_X = some m.cls := hown
  have hl : lv_has ls 5 [(0, .ref a_h), (1, .int x1), (2, .int x2)] := hl
  unfold f_X_set at hf
  obtain ⟨hZ_LEAST_SETTING, hT_LEAST_SETTING, hZ_GREATEST_SETTING, hT_GREATEST_SETTING, hZ_CS, hO_str, hC_str, hV_str, hT_str, hR_str, hN_X_outside, hNF_LEAST_SETTING, hNF_GREATEST_SETTING⟩ := id hE
  refine lv_iload_n hx hb d_X_set_0 rfl (lv_at hl 1 rfl) ?_
  refine lv_if_lt (tgt := 9) hx hb d_X_set_1 (by decide) (fun c1 => ?_) (fun c1 => ?_)
  · have hf := io_t hf c1
    refine lv_aload_n hx hb d_X_set_9 rfl (lv_at hl 0 rfl) ?_
    refine lv_bipush (v := (-2)) hx hb d_X_set_10 (by decide) ?_
    obtain ⟨q2, hq2, hf⟩ := io_b hf
    refine xcVI (wc := (w_X_refuse cI cJ cC a_h a_h_now a_h_kept a_h_letters a_h_numbers a_h_refusals a_h_mind a_h_parts a_h_past a_h_seating y_h_isKept y_h_numberCount z_h_refusals)) (wc' := (w_X_refuse cI cJ cC a_h a_h_now a_h_kept a_h_letters a_h_numbers a_h_refusals a_h_mind a_h_parts a_h_past a_h_seating y_h_isKept y_h_numberCount q2.2)) (ws' := (w_X_set cI cJ cC a_h a_h_now a_h_kept a_h_letters a_h_numbers a_h_refusals a_h_mind a_h_parts a_h_past a_h_seating a_h_now_kinds a_h_now_sweets a_h_now_settings a_h_now_heaps y_h_isKept y_h_numberCount (r_children z_h_now) (r_strokes z_h_now) (r_gave z_h_now) (r_threw z_h_now) (r_kinds z_h_now) (r_sweets z_h_now) (r_settings z_h_now) (r_heaps z_h_now) q2.2)) (As := [.int (-2)]) (rest := []) hx hb hml hown hT (c_X_refuse (z_h_refusals := z_h_refusals) a_h a_h_now a_h_kept a_h_letters a_h_numbers a_h_refusals a_h_mind a_h_parts a_h_past a_h_seating y_h_isKept y_h_numberCount hq2) k_198 k_200 ks_0 k_1 k_201 hd_X_refuse ⟨Nat.le_of_ble_eq_true rfl, Nat.le_of_ble_eq_true rfl⟩ xE0_ok trivial hA hK hP hD hS [0, 6] [1, 2, 3, 4, 5] [5, 0, 1, 2, 3, 4, 6] rfl rfl rfl rfl rfl rfl rfl rfl rfl rfl hl.1 rfl (Nat.le_of_ble_eq_true rfl) ⟨Nat.zero_le _, Nat.zero_le _⟩ d_X_set_12 (fun H locs hP hD hS => ?_)
    have hq := Option.some.inj hf
    subst hq
    exact hret _ _ _ _ _ d_X_set_15 rfl rfl hP hD hS
  · have hf := io_f hf c1
    refine lv_iload_n hx hb d_X_set_4 rfl (lv_at hl 1 rfl) ?_
    refine lv_iconst (v := 2) hx hb d_X_set_5 (by decide) ?_
    refine lv_icmp_le (tgt := 16) hx hb d_X_set_6 (by decide) (fun c3 => ?_) (fun c3 => ?_)
    · have hf := io_t hf c3
      refine lv_iload_n hx hb d_X_set_16 rfl (lv_at hl 2 rfl) ?_
      refine va_gets hx hb hZ_LEAST_SETTING hS hown (hT _ k_550) (fun _ h => h) d_X_set_17 ?_
      refine lv_iload_n hx hb d_X_set_20 rfl (lv_at hl 1 rfl) ?_
      obtain ⟨c4, hf⟩ := io_n hf
      refine va_ti (v := .int (s_LEAST_SETTING x1.toNatClampNeg)) hx hb hT_LEAST_SETTING hS c4 rfl d_X_set_21 ?_
      refine va_gets hx hb hZ_GREATEST_SETTING hS hown (hT _ k_551) (fun _ h => h) d_X_set_22 ?_
      refine lv_iload_n hx hb d_X_set_25 rfl (lv_at hl 1 rfl) ?_
      refine va_ti (v := .int (s_GREATEST_SETTING x1.toNatClampNeg)) hx hb hT_GREATEST_SETTING hS c4 rfl d_X_set_26 ?_
      obtain ⟨q5, hq5, hf⟩ := io_b hf
      refine xcSI (wc := []) (wc' := []) (ws' := (w_X_set cI cJ cC a_h a_h_now a_h_kept a_h_letters a_h_numbers a_h_refusals a_h_mind a_h_parts a_h_past a_h_seating a_h_now_kinds a_h_now_sweets a_h_now_settings a_h_now_heaps y_h_isKept y_h_numberCount (r_children z_h_now) (r_strokes z_h_now) (r_gave z_h_now) (r_threw z_h_now) (r_kinds z_h_now) (r_sweets z_h_now) (r_settings z_h_now) (r_heaps z_h_now) z_h_refusals)) (As := [.int x2, .int (s_LEAST_SETTING x1.toNatClampNeg), .int (s_GREATEST_SETTING x1.toNatClampNeg)]) (rest := []) hx hb hml hown hT (c_X_outside hq5) k_245 k_246 k_1 k_247 hd_X_outside ⟨Nat.le_of_ble_eq_true rfl, Nat.le_of_ble_eq_true rfl⟩ xE0_ok trivial hA hK hP hD hS [] [0, 1, 2, 3, 4, 5, 6] [0, 1, 2, 3, 4, 5, 6] rfl rfl rfl rfl rfl rfl rfl hl.1 rfl (Nat.le_of_ble_eq_true rfl) ⟨Nat.zero_le _, Nat.zero_le _⟩ d_X_set_27 (fun H locs hP hD hS => ?_)
      refine lv_istore_n (lv' := [(3, .int q5), (0, .ref a_h), (1, .int x1), (2, .int x2)]) hx hb d_X_set_30 rfl hl (by decide) rfl (fun ls hl => ?_)
      refine lv_iload_n hx hb d_X_set_31 rfl (lv_at hl 0 rfl) ?_
      refine lv_if_eq (tgt := 41) hx hb d_X_set_32 (by decide) (fun c6 => ?_) (fun c6 => ?_)
      · have hf := io_t hf c6
        refine lv_aload_n hx hb d_X_set_41 rfl (lv_at hl 1 rfl) ?_
        refine va_get hx hb hT i_X hown hK hP 0 rfl rfl 0 (Nat.le_of_ble_eq_true rfl) (hT _ k_156) (fun _ h => h) rfl d_X_set_42 ?_
        refine va_get hx hb hT i_Ring hown hK hP 1 rfl rfl 2 (Nat.le_of_ble_eq_true rfl) (hT _ k_36) (fun _ h => h) rfl d_X_set_45 ?_
        refine lv_iload_n hx hb d_X_set_48 rfl (lv_at hl 2 rfl) ?_
        refine x_iald hx hb hK hP 4 0 rfl rfl (j := x1.toNatClampNeg) rfl c4 d_X_set_49 ?_
        refine lv_istore (lv' := [(4, .int ((r_settings z_h_now) x1.toNatClampNeg)), (3, .int q5), (0, .ref a_h), (1, .int x1), (2, .int x2)]) hx hb d_X_set_50 hl (by decide) rfl (fun ls hl => ?_)
        refine lv_aload_n hx hb d_X_set_52 rfl (lv_at hl 2 rfl) ?_
        refine va_get hx hb hT i_X hown hK hP 0 rfl rfl 0 (Nat.le_of_ble_eq_true rfl) (hT _ k_156) (fun _ h => h) rfl d_X_set_53 ?_
        refine va_get hx hb hT i_Ring hown hK hP 1 rfl rfl 2 (Nat.le_of_ble_eq_true rfl) (hT _ k_36) (fun _ h => h) rfl d_X_set_56 ?_
        refine lv_iload_n hx hb d_X_set_59 rfl (lv_at hl 3 rfl) ?_
        refine lv_iload_n hx hb d_X_set_60 rfl (lv_at hl 4 rfl) ?_
        refine x_iast hx hb hK hP hD hS 4 0 rfl rfl (j := x1.toNatClampNeg) rfl c4 d_X_set_61 (fun H locs hP hD hS => ?_)
        have hP : va_P D classes (w_X_set cI cJ cC a_h a_h_now a_h_kept a_h_letters a_h_numbers a_h_refusals a_h_mind a_h_parts a_h_past a_h_seating a_h_now_kinds a_h_now_sweets a_h_now_settings a_h_now_heaps y_h_isKept y_h_numberCount (r_children z_h_now) (r_strokes z_h_now) (r_gave z_h_now) (r_threw z_h_now) (r_kinds z_h_now) (r_sweets z_h_now) (upd (r_settings z_h_now) x1.toNatClampNeg x2) (r_heaps z_h_now) z_h_refusals) H := hP
        have hD : va_D A (w_X_set cI cJ cC a_h a_h_now a_h_kept a_h_letters a_h_numbers a_h_refusals a_h_mind a_h_parts a_h_past a_h_seating a_h_now_kinds a_h_now_sweets a_h_now_settings a_h_now_heaps y_h_isKept y_h_numberCount (r_children z_h_now) (r_strokes z_h_now) (r_gave z_h_now) (r_threw z_h_now) (r_kinds z_h_now) (r_sweets z_h_now) (upd (r_settings z_h_now) x1.toNatClampNeg x2) (r_heaps z_h_now) z_h_refusals) := hD
        refine lv_iload hx hb d_X_set_62 (lv_at hl 0 rfl) ?_
        have hq := Option.some.inj hf
        subst hq
        exact hret _ _ _ _ _ d_X_set_64 rfl rfl hP hD hS
      · have hf := io_f hf c6
        refine lv_aload_n hx hb d_X_set_35 rfl (lv_at hl 1 rfl) ?_
        refine lv_iload_n hx hb d_X_set_36 rfl (lv_at hl 0 rfl) ?_
        obtain ⟨q7, hq7, hf⟩ := io_b hf
        refine xcVI (wc := (w_X_refuse cI cJ cC a_h a_h_now a_h_kept a_h_letters a_h_numbers a_h_refusals a_h_mind a_h_parts a_h_past a_h_seating y_h_isKept y_h_numberCount z_h_refusals)) (wc' := (w_X_refuse cI cJ cC a_h a_h_now a_h_kept a_h_letters a_h_numbers a_h_refusals a_h_mind a_h_parts a_h_past a_h_seating y_h_isKept y_h_numberCount q7.2)) (ws' := (w_X_set cI cJ cC a_h a_h_now a_h_kept a_h_letters a_h_numbers a_h_refusals a_h_mind a_h_parts a_h_past a_h_seating a_h_now_kinds a_h_now_sweets a_h_now_settings a_h_now_heaps y_h_isKept y_h_numberCount (r_children z_h_now) (r_strokes z_h_now) (r_gave z_h_now) (r_threw z_h_now) (r_kinds z_h_now) (r_sweets z_h_now) (r_settings z_h_now) (r_heaps z_h_now) q7.2)) (As := [.int q5]) (rest := []) hx hb hml hown hT (c_X_refuse (z_h_refusals := z_h_refusals) a_h a_h_now a_h_kept a_h_letters a_h_numbers a_h_refusals a_h_mind a_h_parts a_h_past a_h_seating y_h_isKept y_h_numberCount hq7) k_198 k_200 ks_0 k_1 k_201 hd_X_refuse ⟨Nat.le_of_ble_eq_true rfl, Nat.le_of_ble_eq_true rfl⟩ xE0_ok trivial hA hK hP hD hS [0, 6] [1, 2, 3, 4, 5] [5, 0, 1, 2, 3, 4, 6] rfl rfl rfl rfl rfl rfl rfl rfl rfl rfl hl.1 rfl (Nat.le_of_ble_eq_true rfl) ⟨Nat.zero_le _, Nat.zero_le _⟩ d_X_set_37 (fun H locs hP hD hS => ?_)
        have hq := Option.some.inj hf
        subst hq
        exact hret _ _ _ _ _ d_X_set_40 rfl rfl hP hD hS
    · have hf := io_f hf c3
      refine lv_aload_n hx hb d_X_set_9 rfl (lv_at hl 0 rfl) ?_
      refine lv_bipush (v := (-2)) hx hb d_X_set_10 (by decide) ?_
      obtain ⟨q8, hq8, hf⟩ := io_b hf
      refine xcVI (wc := (w_X_refuse cI cJ cC a_h a_h_now a_h_kept a_h_letters a_h_numbers a_h_refusals a_h_mind a_h_parts a_h_past a_h_seating y_h_isKept y_h_numberCount z_h_refusals)) (wc' := (w_X_refuse cI cJ cC a_h a_h_now a_h_kept a_h_letters a_h_numbers a_h_refusals a_h_mind a_h_parts a_h_past a_h_seating y_h_isKept y_h_numberCount q8.2)) (ws' := (w_X_set cI cJ cC a_h a_h_now a_h_kept a_h_letters a_h_numbers a_h_refusals a_h_mind a_h_parts a_h_past a_h_seating a_h_now_kinds a_h_now_sweets a_h_now_settings a_h_now_heaps y_h_isKept y_h_numberCount (r_children z_h_now) (r_strokes z_h_now) (r_gave z_h_now) (r_threw z_h_now) (r_kinds z_h_now) (r_sweets z_h_now) (r_settings z_h_now) (r_heaps z_h_now) q8.2)) (As := [.int (-2)]) (rest := []) hx hb hml hown hT (c_X_refuse (z_h_refusals := z_h_refusals) a_h a_h_now a_h_kept a_h_letters a_h_numbers a_h_refusals a_h_mind a_h_parts a_h_past a_h_seating y_h_isKept y_h_numberCount hq8) k_198 k_200 ks_0 k_1 k_201 hd_X_refuse ⟨Nat.le_of_ble_eq_true rfl, Nat.le_of_ble_eq_true rfl⟩ xE0_ok trivial hA hK hP hD hS [0, 6] [1, 2, 3, 4, 5] [5, 0, 1, 2, 3, 4, 6] rfl rfl rfl rfl rfl rfl rfl rfl rfl rfl hl.1 rfl (Nat.le_of_ble_eq_true rfl) ⟨Nat.zero_le _, Nat.zero_le _⟩ d_X_set_12 (fun H locs hP hD hS => ?_)
      have hq := Option.some.inj hf
      subst hq
      exact hret _ _ _ _ _ d_X_set_15 rfl rfl hP hD hS
abbrev w_X_stroke (cI cJ cC : ClassId) (a_h a_h_now a_h_kept a_h_letters a_h_numbers a_h_refusals a_h_mind a_h_parts a_h_past a_h_seating a_h_now_kinds a_h_now_sweets a_h_now_settings a_h_now_heaps : Nat) (y_h_isKept : Int32) (y_h_numberCount : Int32) (p_h_now_children : Int32) (p_h_now_strokes : Int32) (p_h_now_gave : Int32) (p_h_now_threw : Int32) (p_h_now_kinds : (Nat → Int32)) (p_h_now_sweets : (Nat → Int32)) (p_h_now_settings : (Nat → Int32)) (p_h_now_heaps : (Nat → Int32)) (p_h_refusals : (Nat → Int32)) : va_W := [(a_h, .inr (0, [.ref a_h_now, .ref a_h_kept, .int y_h_isKept, .ref a_h_letters, .ref a_h_numbers, .int y_h_numberCount, .ref a_h_refusals, .ref a_h_mind, .ref a_h_parts, .ref a_h_past, .ref a_h_seating])), (a_h_now, .inr (1, [.ref a_h_now_kinds, .ref a_h_now_sweets, .ref a_h_now_settings, .int p_h_now_children, .int p_h_now_strokes, .int p_h_now_gave, .int p_h_now_threw, .ref a_h_now_heaps])), (a_h_now_kinds, .inl (cI, (8, .inl p_h_now_kinds))), (a_h_now_sweets, .inl (cI, (8, .inl p_h_now_sweets))), (a_h_now_settings, .inl (cI, (3, .inl p_h_now_settings))), (a_h_now_heaps, .inl (cI, (8, .inl p_h_now_heaps))), (a_h_refusals, .inl (cI, (7, .inl p_h_refusals)))]
theorem d_X_stroke_0 : decode b_X_stroke 0 = .ok (.aload_n 0, 1) := by decide +kernel
theorem d_X_stroke_1 : decode b_X_stroke 1 = .ok (.getfield 10, 3) := by decide +kernel
theorem d_X_stroke_4 : decode b_X_stroke 4 = .ok (.getfield 121, 3) := by decide +kernel
theorem d_X_stroke_7 : decode b_X_stroke 7 = .ok (.ifCond .ne 10, 3) := by decide +kernel
theorem d_X_stroke_10 : decode b_X_stroke 10 = .ok (.aload_n 0, 1) := by decide +kernel
theorem d_X_stroke_11 : decode b_X_stroke 11 = .ok (.bipush (-3), 2) := by decide +kernel
theorem d_X_stroke_13 : decode b_X_stroke 13 = .ok (.invokevirtual 69, 3) := by decide +kernel
theorem d_X_stroke_16 : decode b_X_stroke 16 = .ok (.ireturn, 1) := by decide +kernel
theorem d_X_stroke_17 : decode b_X_stroke 17 = .ok (.aload_n 0, 1) := by decide +kernel
theorem d_X_stroke_18 : decode b_X_stroke 18 = .ok (.getfield 10, 3) := by decide +kernel
theorem d_X_stroke_21 : decode b_X_stroke 21 = .ok (.invokevirtual 124, 3) := by decide +kernel
theorem d_X_stroke_24 : decode b_X_stroke 24 = .ok (.ireturn, 1) := by decide +kernel
set_option maxHeartbeats 4000000 in
set_option maxRecDepth 100000 in
theorem c_X_stroke {l : Launch} {D : va_G} {cI cJ cC : ClassId} (a_h a_h_now a_h_kept a_h_letters a_h_numbers a_h_refusals a_h_mind a_h_parts a_h_past a_h_seating a_h_now_kinds a_h_now_sweets a_h_now_settings a_h_now_heaps : Nat) (y_h_isKept : Int32) (y_h_numberCount : Int32) {z_h_now : RS} {z_h_refusals : (Nat → Int32)} {q : Int32 × RS × (Nat → Int32)} (hf : f_X_stroke z_h_now z_h_refusals = some q) : xI l y_X_stroke b_X_stroke 1 .int 4 89 D (tyK cI cJ cC) xE0 [.ref a_h] (w_X_stroke cI cJ cC a_h a_h_now a_h_kept a_h_letters a_h_numbers a_h_refusals a_h_mind a_h_parts a_h_past a_h_seating a_h_now_kinds a_h_now_sweets a_h_now_settings a_h_now_heaps y_h_isKept y_h_numberCount (r_children z_h_now) (r_strokes z_h_now) (r_gave z_h_now) (r_threw z_h_now) (r_kinds z_h_now) (r_sweets z_h_now) (r_settings z_h_now) (r_heaps z_h_now) z_h_refusals) q.1 (w_X_stroke cI cJ cC a_h a_h_now a_h_kept a_h_letters a_h_numbers a_h_refusals a_h_mind a_h_parts a_h_past a_h_seating a_h_now_kinds a_h_now_sweets a_h_now_settings a_h_now_heaps y_h_isKept y_h_numberCount (r_children q.2.1) (r_strokes q.2.1) (r_gave q.2.1) (r_threw q.2.1) (r_kinds q.2.1) (r_sweets q.2.1) (r_settings q.2.1) (r_heaps q.2.1) q.2.2) := by
  refine xI_of (by decide) (Nat.le_of_ble_eq_true rfl) ?_
  intro p e s m args below meth c A Q hx hb hml hown hT hA hP hD hK hS hE hret ls hl
  have hown : s.vm.findClass R_X = some m.cls := hown
  have hl : lv_has ls 1 [(0, .ref a_h)] := hl
  unfold f_X_stroke at hf
  refine lv_aload_n hx hb d_X_stroke_0 rfl (lv_at hl 0 rfl) ?_
  refine va_get hx hb hT i_X hown hK hP 0 rfl rfl 0 (Nat.le_of_ble_eq_true rfl) (hT _ k_156) (fun _ h => h) rfl d_X_stroke_1 ?_
  refine va_get hx hb hT i_Ring hown hK hP 1 rfl rfl 3 (Nat.le_of_ble_eq_true rfl) (hT _ k_40) (fun _ h => h) rfl d_X_stroke_4 ?_
  refine lv_if_ne (tgt := 17) hx hb d_X_stroke_7 (by decide) (fun c1 => ?_) (fun c1 => ?_)
  · have hf := io_f hf c1
    refine lv_aload_n hx hb d_X_stroke_17 rfl (lv_at hl 0 rfl) ?_
    refine va_get hx hb hT i_X hown hK hP 0 rfl rfl 0 (Nat.le_of_ble_eq_true rfl) (hT _ k_156) (fun _ h => h) rfl d_X_stroke_18 ?_
    obtain ⟨q2, hq2, hf⟩ := io_b hf
    refine xcVI (wc := (w_Ring_strike cI cJ cC a_h_now a_h_now_kinds a_h_now_sweets a_h_now_settings a_h_now_heaps (r_children z_h_now) (r_strokes z_h_now) (r_gave z_h_now) (r_threw z_h_now) (r_kinds z_h_now) (r_sweets z_h_now) (r_settings z_h_now) (r_heaps z_h_now))) (wc' := (w_Ring_strike cI cJ cC a_h_now a_h_now_kinds a_h_now_sweets a_h_now_settings a_h_now_heaps (r_children q2.2) (r_strokes q2.2) (r_gave q2.2) (r_threw q2.2) (r_kinds q2.2) (r_sweets q2.2) (r_settings q2.2) (r_heaps q2.2))) (ws' := (w_X_stroke cI cJ cC a_h a_h_now a_h_kept a_h_letters a_h_numbers a_h_refusals a_h_mind a_h_parts a_h_past a_h_seating a_h_now_kinds a_h_now_sweets a_h_now_settings a_h_now_heaps y_h_isKept y_h_numberCount (r_children q2.2) (r_strokes q2.2) (r_gave q2.2) (r_threw q2.2) (r_kinds q2.2) (r_sweets q2.2) (r_settings q2.2) (r_heaps q2.2) z_h_refusals)) (As := []) (rest := []) hx hb hml hown hT (c_Ring_strike (z_h := z_h_now) a_h_now a_h_now_kinds a_h_now_sweets a_h_now_settings a_h_now_heaps hq2) k_219 k_220 k_221 k_2 k_222 hd_Ring_strike ⟨Nat.le_of_ble_eq_true rfl, Nat.le_of_ble_eq_true rfl⟩ xE0_ok trivial hA hK hP hD hS [1, 2, 3, 4, 5] [0, 6] [0, 2, 3, 4, 5, 6, 1] rfl rfl rfl rfl rfl rfl rfl rfl rfl rfl hl.1 rfl (Nat.le_of_ble_eq_true rfl) ⟨Nat.zero_le _, Nat.zero_le _⟩ d_X_stroke_21 (fun H locs hP hD hS => ?_)
    have hq := Option.some.inj hf
    subst hq
    exact hret _ _ _ _ _ d_X_stroke_24 rfl rfl hP hD hS
  · have hf := io_t hf c1
    refine lv_aload_n hx hb d_X_stroke_10 rfl (lv_at hl 0 rfl) ?_
    refine lv_bipush (v := (-3)) hx hb d_X_stroke_11 (by decide) ?_
    obtain ⟨q3, hq3, hf⟩ := io_b hf
    refine xcVI (wc := (w_X_refuse cI cJ cC a_h a_h_now a_h_kept a_h_letters a_h_numbers a_h_refusals a_h_mind a_h_parts a_h_past a_h_seating y_h_isKept y_h_numberCount z_h_refusals)) (wc' := (w_X_refuse cI cJ cC a_h a_h_now a_h_kept a_h_letters a_h_numbers a_h_refusals a_h_mind a_h_parts a_h_past a_h_seating y_h_isKept y_h_numberCount q3.2)) (ws' := (w_X_stroke cI cJ cC a_h a_h_now a_h_kept a_h_letters a_h_numbers a_h_refusals a_h_mind a_h_parts a_h_past a_h_seating a_h_now_kinds a_h_now_sweets a_h_now_settings a_h_now_heaps y_h_isKept y_h_numberCount (r_children z_h_now) (r_strokes z_h_now) (r_gave z_h_now) (r_threw z_h_now) (r_kinds z_h_now) (r_sweets z_h_now) (r_settings z_h_now) (r_heaps z_h_now) q3.2)) (As := [.int (-3)]) (rest := []) hx hb hml hown hT (c_X_refuse (z_h_refusals := z_h_refusals) a_h a_h_now a_h_kept a_h_letters a_h_numbers a_h_refusals a_h_mind a_h_parts a_h_past a_h_seating y_h_isKept y_h_numberCount hq3) k_198 k_200 ks_0 k_1 k_201 hd_X_refuse ⟨Nat.le_of_ble_eq_true rfl, Nat.le_of_ble_eq_true rfl⟩ xE0_ok trivial hA hK hP hD hS [0, 6] [1, 2, 3, 4, 5] [5, 0, 1, 2, 3, 4, 6] rfl rfl rfl rfl rfl rfl rfl rfl rfl rfl hl.1 rfl (Nat.le_of_ble_eq_true rfl) ⟨Nat.zero_le _, Nat.zero_le _⟩ d_X_stroke_13 (fun H locs hP hD hS => ?_)
    have hq := Option.some.inj hf
    subst hq
    exact hret _ _ _ _ _ d_X_stroke_16 rfl rfl hP hD hS
abbrev w_X_run (cI cJ cC : ClassId) (a_h a_h_now a_h_kept a_h_letters a_h_numbers a_h_refusals a_h_mind a_h_parts a_h_past a_h_seating a_h_now_kinds a_h_now_sweets a_h_now_settings a_h_now_heaps a_h_mind_one a_h_mind_two a_h_mind_one_kinds a_h_mind_one_sweets a_h_mind_one_settings a_h_mind_one_heaps : Nat) (y_h_isKept : Int32) (y_h_numberCount : Int32) (y_h_mind_seed : Int32) (p_h_now_children : Int32) (p_h_now_strokes : Int32) (p_h_now_gave : Int32) (p_h_now_threw : Int32) (p_h_now_kinds : (Nat → Int32)) (p_h_now_sweets : (Nat → Int32)) (p_h_now_settings : (Nat → Int32)) (p_h_refusals : (Nat → Int32)) (p_h_mind_one_children : Int32) (p_h_mind_one_strokes : Int32) (p_h_mind_one_gave : Int32) (p_h_mind_one_threw : Int32) (p_h_mind_one_kinds : (Nat → Int32)) (p_h_mind_one_sweets : (Nat → Int32)) (p_h_mind_one_settings : (Nat → Int32)) (p_h_mind_one_heaps : (Nat → Int32)) : va_W := [(a_h, .inr (0, [.ref a_h_now, .ref a_h_kept, .int y_h_isKept, .ref a_h_letters, .ref a_h_numbers, .int y_h_numberCount, .ref a_h_refusals, .ref a_h_mind, .ref a_h_parts, .ref a_h_past, .ref a_h_seating])), (a_h_now, .inr (1, [.ref a_h_now_kinds, .ref a_h_now_sweets, .ref a_h_now_settings, .int p_h_now_children, .int p_h_now_strokes, .int p_h_now_gave, .int p_h_now_threw, .ref a_h_now_heaps])), (a_h_now_kinds, .inl (cI, (8, .inl p_h_now_kinds))), (a_h_now_sweets, .inl (cI, (8, .inl p_h_now_sweets))), (a_h_now_settings, .inl (cI, (3, .inl p_h_now_settings))), (a_h_refusals, .inl (cI, (7, .inl p_h_refusals))), (a_h_mind, .inr (3, [.ref a_h_mind_one, .ref a_h_mind_two, .int y_h_mind_seed])), (a_h_mind_one, .inr (1, [.ref a_h_mind_one_kinds, .ref a_h_mind_one_sweets, .ref a_h_mind_one_settings, .int p_h_mind_one_children, .int p_h_mind_one_strokes, .int p_h_mind_one_gave, .int p_h_mind_one_threw, .ref a_h_mind_one_heaps])), (a_h_mind_one_kinds, .inl (cI, (8, .inl p_h_mind_one_kinds))), (a_h_mind_one_sweets, .inl (cI, (8, .inl p_h_mind_one_sweets))), (a_h_mind_one_settings, .inl (cI, (3, .inl p_h_mind_one_settings))), (a_h_mind_one_heaps, .inl (cI, (8, .inl p_h_mind_one_heaps)))]
theorem d_X_run_0 : decode b_X_run 0 = .ok (.aload_n 0, 1) := by decide +kernel
theorem d_X_run_1 : decode b_X_run 1 = .ok (.getfield 10, 3) := by decide +kernel
theorem d_X_run_4 : decode b_X_run 4 = .ok (.iload_n 1, 1) := by decide +kernel
theorem d_X_run_5 : decode b_X_run 5 = .ok (.invokevirtual 84, 3) := by decide +kernel
theorem d_X_run_8 : decode b_X_run 8 = .ok (.ifCond .eq 14, 3) := by decide +kernel
theorem d_X_run_11 : decode b_X_run 11 = .ok (.iload_n 2, 1) := by decide +kernel
theorem d_X_run_12 : decode b_X_run 12 = .ok (.iconst 0, 1) := by decide +kernel
theorem d_X_run_13 : decode b_X_run 13 = .ok (.sipush 200, 3) := by decide +kernel
theorem d_X_run_16 : decode b_X_run 16 = .ok (.invokestatic 100, 3) := by decide +kernel
theorem d_X_run_19 : decode b_X_run 19 = .ok (.goto 4, 3) := by decide +kernel
theorem d_X_run_22 : decode b_X_run 22 = .ok (.iconst (-1), 1) := by decide +kernel
theorem d_X_run_23 : decode b_X_run 23 = .ok (.istore_n 3, 1) := by decide +kernel
theorem d_X_run_24 : decode b_X_run 24 = .ok (.iload_n 3, 1) := by decide +kernel
theorem d_X_run_25 : decode b_X_run 25 = .ok (.ifCond .eq 9, 3) := by decide +kernel
theorem d_X_run_28 : decode b_X_run 28 = .ok (.aload_n 0, 1) := by decide +kernel
theorem d_X_run_29 : decode b_X_run 29 = .ok (.iload_n 3, 1) := by decide +kernel
theorem d_X_run_30 : decode b_X_run 30 = .ok (.invokevirtual 69, 3) := by decide +kernel
theorem d_X_run_33 : decode b_X_run 33 = .ok (.ireturn, 1) := by decide +kernel
theorem d_X_run_34 : decode b_X_run 34 = .ok (.aload_n 0, 1) := by decide +kernel
theorem d_X_run_35 : decode b_X_run 35 = .ok (.getfield 44, 3) := by decide +kernel
theorem d_X_run_38 : decode b_X_run 38 = .ok (.aload_n 0, 1) := by decide +kernel
theorem d_X_run_39 : decode b_X_run 39 = .ok (.getfield 10, 3) := by decide +kernel
theorem d_X_run_42 : decode b_X_run 42 = .ok (.iload_n 1, 1) := by decide +kernel
theorem d_X_run_43 : decode b_X_run 43 = .ok (.iload_n 2, 1) := by decide +kernel
theorem d_X_run_44 : decode b_X_run 44 = .ok (.invokevirtual 128, 3) := by decide +kernel
theorem d_X_run_47 : decode b_X_run 47 = .ok (.ireturn, 1) := by decide +kernel
set_option maxHeartbeats 4000000 in
set_option maxRecDepth 100000 in
theorem c_X_run {l : Launch} {D : va_G} {cI cJ cC : ClassId} (a_h a_h_now a_h_kept a_h_letters a_h_numbers a_h_refusals a_h_mind a_h_parts a_h_past a_h_seating a_h_now_kinds a_h_now_sweets a_h_now_settings a_h_now_heaps a_h_mind_one a_h_mind_two a_h_mind_one_kinds a_h_mind_one_sweets a_h_mind_one_settings a_h_mind_one_heaps : Nat) (y_h_isKept : Int32) (y_h_numberCount : Int32) (y_h_mind_seed : Int32) {z_h_now : RS} {z_h_refusals : (Nat → Int32)} {z_h_mind_one : RS} {x1 : Int32} {x2 : Int32} {q : Int32 × (Nat → Int32) × RS} (hf : f_X_run z_h_now z_h_refusals z_h_mind_one x1 x2 = some q) : xI l y_X_run b_X_run 4 .int 6 134 D (tyK cI cJ cC) xE0 [.ref a_h, .int x1, .int x2] (w_X_run cI cJ cC a_h a_h_now a_h_kept a_h_letters a_h_numbers a_h_refusals a_h_mind a_h_parts a_h_past a_h_seating a_h_now_kinds a_h_now_sweets a_h_now_settings a_h_now_heaps a_h_mind_one a_h_mind_two a_h_mind_one_kinds a_h_mind_one_sweets a_h_mind_one_settings a_h_mind_one_heaps y_h_isKept y_h_numberCount y_h_mind_seed (r_children z_h_now) (r_strokes z_h_now) (r_gave z_h_now) (r_threw z_h_now) (r_kinds z_h_now) (r_sweets z_h_now) (r_settings z_h_now) z_h_refusals (r_children z_h_mind_one) (r_strokes z_h_mind_one) (r_gave z_h_mind_one) (r_threw z_h_mind_one) (r_kinds z_h_mind_one) (r_sweets z_h_mind_one) (r_settings z_h_mind_one) (r_heaps z_h_mind_one)) q.1 (w_X_run cI cJ cC a_h a_h_now a_h_kept a_h_letters a_h_numbers a_h_refusals a_h_mind a_h_parts a_h_past a_h_seating a_h_now_kinds a_h_now_sweets a_h_now_settings a_h_now_heaps a_h_mind_one a_h_mind_two a_h_mind_one_kinds a_h_mind_one_sweets a_h_mind_one_settings a_h_mind_one_heaps y_h_isKept y_h_numberCount y_h_mind_seed (r_children z_h_now) (r_strokes z_h_now) (r_gave z_h_now) (r_threw z_h_now) (r_kinds z_h_now) (r_sweets z_h_now) (r_settings z_h_now) q.2.1 (r_children q.2.2) (r_strokes q.2.2) (r_gave q.2.2) (r_threw q.2.2) (r_kinds q.2.2) (r_sweets q.2.2) (r_settings q.2.2) (r_heaps q.2.2)) := by
  refine xI_of (by decide) (Nat.le_of_ble_eq_true rfl) ?_
  intro p e s m args below meth c A Q hx hb hml hown hT hA hP hD hK hS hE hret ls hl
  have hown : s.vm.findClass R_X = some m.cls := hown
  have hl : lv_has ls 4 [(0, .ref a_h), (1, .int x1), (2, .int x2)] := hl
  unfold f_X_run at hf
  refine lv_aload_n hx hb d_X_run_0 rfl (lv_at hl 0 rfl) ?_
  refine va_get hx hb hT i_X hown hK hP 0 rfl rfl 0 (Nat.le_of_ble_eq_true rfl) (hT _ k_156) (fun _ h => h) rfl d_X_run_1 ?_
  refine lv_iload_n hx hb d_X_run_4 rfl (lv_at hl 1 rfl) ?_
  obtain ⟨q1, hq1, hf⟩ := io_b hf
  refine xcVI (wc := (w_Ring_has cI cJ cC a_h_now a_h_now_kinds a_h_now_sweets a_h_now_settings a_h_now_heaps (r_children z_h_now) (r_strokes z_h_now) (r_gave z_h_now) (r_threw z_h_now))) (wc' := (w_Ring_has cI cJ cC a_h_now a_h_now_kinds a_h_now_sweets a_h_now_settings a_h_now_heaps (r_children z_h_now) (r_strokes z_h_now) (r_gave z_h_now) (r_threw z_h_now))) (ws' := (w_X_run cI cJ cC a_h a_h_now a_h_kept a_h_letters a_h_numbers a_h_refusals a_h_mind a_h_parts a_h_past a_h_seating a_h_now_kinds a_h_now_sweets a_h_now_settings a_h_now_heaps a_h_mind_one a_h_mind_two a_h_mind_one_kinds a_h_mind_one_sweets a_h_mind_one_settings a_h_mind_one_heaps y_h_isKept y_h_numberCount y_h_mind_seed (r_children z_h_now) (r_strokes z_h_now) (r_gave z_h_now) (r_threw z_h_now) (r_kinds z_h_now) (r_sweets z_h_now) (r_settings z_h_now) z_h_refusals (r_children z_h_mind_one) (r_strokes z_h_mind_one) (r_gave z_h_mind_one) (r_threw z_h_mind_one) (r_kinds z_h_mind_one) (r_sweets z_h_mind_one) (r_settings z_h_mind_one) (r_heaps z_h_mind_one))) (As := [.int x1]) (rest := []) hx hb hml hown hT (c_Ring_has (z_h := z_h_now) a_h_now a_h_now_kinds a_h_now_sweets a_h_now_settings a_h_now_heaps hq1) k_194 k_195 k_196 k_2 k_197 hd_Ring_has ⟨Nat.le_of_ble_eq_true rfl, Nat.le_of_ble_eq_true rfl⟩ xE0_ok trivial hA hK hP hD hS [1] [0, 2, 3, 4, 5, 6, 7, 8, 9, 10, 11] [0, 11, 1, 2, 3, 4, 5, 6, 7, 8, 9, 10] rfl rfl rfl rfl rfl rfl rfl rfl rfl rfl hl.1 rfl (Nat.le_of_ble_eq_true rfl) ⟨Nat.zero_le _, Nat.zero_le _⟩ d_X_run_5 (fun H locs hP hD hS => ?_)
  refine lv_if_eq (tgt := 22) hx hb d_X_run_8 (by decide) (fun c2 => ?_) (fun c2 => ?_)
  · have hf := io_t hf c2
    refine lv_iconst (v := (-1)) hx hb d_X_run_22 (by decide) ?_
    refine lv_istore_n (lv' := [(3, .int (-1)), (0, .ref a_h), (1, .int x1), (2, .int x2)]) hx hb d_X_run_23 rfl hl (by decide) rfl (fun ls hl => ?_)
    refine lv_iload_n hx hb d_X_run_24 rfl (lv_at hl 0 rfl) ?_
    refine lv_if_eq (tgt := 34) hx hb d_X_run_25 (by decide) (fun c => absurd c (show ¬ ((-1) : Int32) = 0 from by decide +kernel)) (fun _ => ?_)
    refine lv_aload_n hx hb d_X_run_28 rfl (lv_at hl 1 rfl) ?_
    refine lv_iload_n hx hb d_X_run_29 rfl (lv_at hl 0 rfl) ?_
    obtain ⟨q3, hq3, hf⟩ := io_b hf
    refine xcVI (wc := (w_X_refuse cI cJ cC a_h a_h_now a_h_kept a_h_letters a_h_numbers a_h_refusals a_h_mind a_h_parts a_h_past a_h_seating y_h_isKept y_h_numberCount z_h_refusals)) (wc' := (w_X_refuse cI cJ cC a_h a_h_now a_h_kept a_h_letters a_h_numbers a_h_refusals a_h_mind a_h_parts a_h_past a_h_seating y_h_isKept y_h_numberCount q3.2)) (ws' := (w_X_run cI cJ cC a_h a_h_now a_h_kept a_h_letters a_h_numbers a_h_refusals a_h_mind a_h_parts a_h_past a_h_seating a_h_now_kinds a_h_now_sweets a_h_now_settings a_h_now_heaps a_h_mind_one a_h_mind_two a_h_mind_one_kinds a_h_mind_one_sweets a_h_mind_one_settings a_h_mind_one_heaps y_h_isKept y_h_numberCount y_h_mind_seed (r_children z_h_now) (r_strokes z_h_now) (r_gave z_h_now) (r_threw z_h_now) (r_kinds z_h_now) (r_sweets z_h_now) (r_settings z_h_now) q3.2 (r_children z_h_mind_one) (r_strokes z_h_mind_one) (r_gave z_h_mind_one) (r_threw z_h_mind_one) (r_kinds z_h_mind_one) (r_sweets z_h_mind_one) (r_settings z_h_mind_one) (r_heaps z_h_mind_one))) (As := [.int (-1)]) (rest := []) hx hb hml hown hT (c_X_refuse (z_h_refusals := z_h_refusals) a_h a_h_now a_h_kept a_h_letters a_h_numbers a_h_refusals a_h_mind a_h_parts a_h_past a_h_seating y_h_isKept y_h_numberCount hq3) k_198 k_200 ks_0 k_1 k_201 hd_X_refuse ⟨Nat.le_of_ble_eq_true rfl, Nat.le_of_ble_eq_true rfl⟩ xE0_ok trivial hA hK hP hD hS [0, 5] [1, 2, 3, 4, 6, 7, 8, 9, 10, 11] [10, 0, 1, 2, 3, 11, 4, 5, 6, 7, 8, 9] rfl rfl rfl rfl rfl rfl rfl rfl rfl rfl hl.1 rfl (Nat.le_of_ble_eq_true rfl) ⟨Nat.zero_le _, Nat.zero_le _⟩ d_X_run_30 (fun H locs hP hD hS => ?_)
    have hq := Option.some.inj hf
    subst hq
    exact hret _ _ _ _ _ d_X_run_33 rfl rfl hP hD hS
  · have hf := io_f hf c2
    refine lv_iload_n hx hb d_X_run_11 rfl (lv_at hl 2 rfl) ?_
    refine lv_iconst (v := 0) hx hb d_X_run_12 (by decide) ?_
    refine lv_sipush (v := 200) hx hb d_X_run_13 (by decide) ?_
    obtain ⟨q4, hq4, hf⟩ := io_b hf
    refine xcSI (wc := []) (wc' := []) (ws' := (w_X_run cI cJ cC a_h a_h_now a_h_kept a_h_letters a_h_numbers a_h_refusals a_h_mind a_h_parts a_h_past a_h_seating a_h_now_kinds a_h_now_sweets a_h_now_settings a_h_now_heaps a_h_mind_one a_h_mind_two a_h_mind_one_kinds a_h_mind_one_sweets a_h_mind_one_settings a_h_mind_one_heaps y_h_isKept y_h_numberCount y_h_mind_seed (r_children z_h_now) (r_strokes z_h_now) (r_gave z_h_now) (r_threw z_h_now) (r_kinds z_h_now) (r_sweets z_h_now) (r_settings z_h_now) z_h_refusals (r_children z_h_mind_one) (r_strokes z_h_mind_one) (r_gave z_h_mind_one) (r_threw z_h_mind_one) (r_kinds z_h_mind_one) (r_sweets z_h_mind_one) (r_settings z_h_mind_one) (r_heaps z_h_mind_one))) (As := [.int x2, .int 0, .int 200]) (rest := []) hx hb hml hown hT (c_X_outside hq4) k_245 k_246 k_1 k_247 hd_X_outside ⟨Nat.le_of_ble_eq_true rfl, Nat.le_of_ble_eq_true rfl⟩ xE0_ok trivial hA hK hP hD hS [] [0, 1, 2, 3, 4, 5, 6, 7, 8, 9, 10, 11] [0, 1, 2, 3, 4, 5, 6, 7, 8, 9, 10, 11] rfl rfl rfl rfl rfl rfl rfl hl.1 rfl (Nat.le_of_ble_eq_true rfl) ⟨Nat.zero_le _, Nat.zero_le _⟩ d_X_run_16 (fun H locs hP hD hS => ?_)
    refine lv_goto (tgt := 23) hx hb d_X_run_19 (by decide) ?_
    refine lv_istore_n (lv' := [(3, .int q4), (0, .ref a_h), (1, .int x1), (2, .int x2)]) hx hb d_X_run_23 rfl hl (by decide) rfl (fun ls hl => ?_)
    refine lv_iload_n hx hb d_X_run_24 rfl (lv_at hl 0 rfl) ?_
    refine lv_if_eq (tgt := 34) hx hb d_X_run_25 (by decide) (fun c5 => ?_) (fun c5 => ?_)
    · have hf := io_t hf c5
      refine lv_aload_n hx hb d_X_run_34 rfl (lv_at hl 1 rfl) ?_
      refine va_get hx hb hT i_X hown hK hP 0 rfl rfl 7 (Nat.le_of_ble_eq_true rfl) (hT _ k_163) (fun _ h => h) rfl d_X_run_35 ?_
      refine lv_aload_n hx hb d_X_run_38 rfl (lv_at hl 1 rfl) ?_
      refine va_get hx hb hT i_X hown hK hP 0 rfl rfl 0 (Nat.le_of_ble_eq_true rfl) (hT _ k_156) (fun _ h => h) rfl d_X_run_39 ?_
      refine lv_iload_n hx hb d_X_run_42 rfl (lv_at hl 2 rfl) ?_
      refine lv_iload_n hx hb d_X_run_43 rfl (lv_at hl 3 rfl) ?_
      obtain ⟨q6, hq6, hf⟩ := io_b hf
      refine xcVI (wc := (w_Mind_sweetsBehind cI cJ cC a_h_mind a_h_mind_one a_h_mind_two a_h_mind_one_kinds a_h_mind_one_sweets a_h_mind_one_settings a_h_mind_one_heaps a_h_now a_h_now_kinds a_h_now_sweets a_h_now_settings a_h_now_heaps y_h_mind_seed (r_children z_h_mind_one) (r_strokes z_h_mind_one) (r_gave z_h_mind_one) (r_threw z_h_mind_one) (r_kinds z_h_mind_one) (r_sweets z_h_mind_one) (r_settings z_h_mind_one) (r_heaps z_h_mind_one) (r_children z_h_now) (r_strokes z_h_now) (r_gave z_h_now) (r_threw z_h_now) (r_kinds z_h_now) (r_sweets z_h_now) (r_settings z_h_now))) (wc' := (w_Mind_sweetsBehind cI cJ cC a_h_mind a_h_mind_one a_h_mind_two a_h_mind_one_kinds a_h_mind_one_sweets a_h_mind_one_settings a_h_mind_one_heaps a_h_now a_h_now_kinds a_h_now_sweets a_h_now_settings a_h_now_heaps y_h_mind_seed (r_children q6.2) (r_strokes q6.2) (r_gave q6.2) (r_threw q6.2) (r_kinds q6.2) (r_sweets q6.2) (r_settings q6.2) (r_heaps q6.2) (r_children z_h_now) (r_strokes z_h_now) (r_gave z_h_now) (r_threw z_h_now) (r_kinds z_h_now) (r_sweets z_h_now) (r_settings z_h_now))) (ws' := (w_X_run cI cJ cC a_h a_h_now a_h_kept a_h_letters a_h_numbers a_h_refusals a_h_mind a_h_parts a_h_past a_h_seating a_h_now_kinds a_h_now_sweets a_h_now_settings a_h_now_heaps a_h_mind_one a_h_mind_two a_h_mind_one_kinds a_h_mind_one_sweets a_h_mind_one_settings a_h_mind_one_heaps y_h_isKept y_h_numberCount y_h_mind_seed (r_children z_h_now) (r_strokes z_h_now) (r_gave z_h_now) (r_threw z_h_now) (r_kinds z_h_now) (r_sweets z_h_now) (r_settings z_h_now) z_h_refusals (r_children q6.2) (r_strokes q6.2) (r_gave q6.2) (r_threw q6.2) (r_kinds q6.2) (r_sweets q6.2) (r_settings q6.2) (r_heaps q6.2))) (As := [.ref a_h_now, .int x1, .int x2]) (rest := []) hx hb hml hown hT (c_Mind_sweetsBehind (z_h_one := z_h_mind_one) (z_g1 := z_h_now) a_h_mind a_h_mind_one a_h_mind_two a_h_mind_one_kinds a_h_mind_one_sweets a_h_mind_one_settings a_h_mind_one_heaps a_h_now a_h_now_kinds a_h_now_sweets a_h_now_settings a_h_now_heaps y_h_mind_seed hq6) k_248 k_249 k_250 k_4 k_251 hd_Mind_sweetsBehind ⟨Nat.le_of_ble_eq_true rfl, Nat.le_of_ble_eq_true rfl⟩ xE0_ok trivial hA hK hP hD hS [6, 7, 8, 9, 10, 11, 1, 2, 3, 4] [0, 5] [0, 8, 9, 10, 11, 1, 2, 3, 4, 5, 6, 7] rfl rfl rfl rfl rfl rfl rfl rfl rfl rfl hl.1 rfl (Nat.le_of_ble_eq_true rfl) ⟨Nat.zero_le _, Nat.zero_le _⟩ d_X_run_44 (fun H locs hP hD hS => ?_)
      have hq := Option.some.inj hf
      subst hq
      exact hret _ _ _ _ _ d_X_run_47 rfl rfl hP hD hS
    · have hf := io_f hf c5
      refine lv_aload_n hx hb d_X_run_28 rfl (lv_at hl 1 rfl) ?_
      refine lv_iload_n hx hb d_X_run_29 rfl (lv_at hl 0 rfl) ?_
      obtain ⟨q7, hq7, hf⟩ := io_b hf
      refine xcVI (wc := (w_X_refuse cI cJ cC a_h a_h_now a_h_kept a_h_letters a_h_numbers a_h_refusals a_h_mind a_h_parts a_h_past a_h_seating y_h_isKept y_h_numberCount z_h_refusals)) (wc' := (w_X_refuse cI cJ cC a_h a_h_now a_h_kept a_h_letters a_h_numbers a_h_refusals a_h_mind a_h_parts a_h_past a_h_seating y_h_isKept y_h_numberCount q7.2)) (ws' := (w_X_run cI cJ cC a_h a_h_now a_h_kept a_h_letters a_h_numbers a_h_refusals a_h_mind a_h_parts a_h_past a_h_seating a_h_now_kinds a_h_now_sweets a_h_now_settings a_h_now_heaps a_h_mind_one a_h_mind_two a_h_mind_one_kinds a_h_mind_one_sweets a_h_mind_one_settings a_h_mind_one_heaps y_h_isKept y_h_numberCount y_h_mind_seed (r_children z_h_now) (r_strokes z_h_now) (r_gave z_h_now) (r_threw z_h_now) (r_kinds z_h_now) (r_sweets z_h_now) (r_settings z_h_now) q7.2 (r_children z_h_mind_one) (r_strokes z_h_mind_one) (r_gave z_h_mind_one) (r_threw z_h_mind_one) (r_kinds z_h_mind_one) (r_sweets z_h_mind_one) (r_settings z_h_mind_one) (r_heaps z_h_mind_one))) (As := [.int q4]) (rest := []) hx hb hml hown hT (c_X_refuse (z_h_refusals := z_h_refusals) a_h a_h_now a_h_kept a_h_letters a_h_numbers a_h_refusals a_h_mind a_h_parts a_h_past a_h_seating y_h_isKept y_h_numberCount hq7) k_198 k_200 ks_0 k_1 k_201 hd_X_refuse ⟨Nat.le_of_ble_eq_true rfl, Nat.le_of_ble_eq_true rfl⟩ xE0_ok trivial hA hK hP hD hS [0, 5] [1, 2, 3, 4, 6, 7, 8, 9, 10, 11] [10, 0, 1, 2, 3, 11, 4, 5, 6, 7, 8, 9] rfl rfl rfl rfl rfl rfl rfl rfl rfl rfl hl.1 rfl (Nat.le_of_ble_eq_true rfl) ⟨Nat.zero_le _, Nat.zero_le _⟩ d_X_run_30 (fun H locs hP hD hS => ?_)
      have hq := Option.some.inj hf
      subst hq
      exact hret _ _ _ _ _ d_X_run_33 rfl rfl hP hD hS
theorem d_X_isPart_0 : decode b_X_isPart 0 = .ok (.iload_n 0, 1) := by decide +kernel
theorem d_X_isPart_1 : decode b_X_isPart 1 = .ok (.ifCond .eq 8, 3) := by decide +kernel
theorem d_X_isPart_4 : decode b_X_isPart 4 = .ok (.iload_n 0, 1) := by decide +kernel
theorem d_X_isPart_5 : decode b_X_isPart 5 = .ok (.iconst 1, 1) := by decide +kernel
theorem d_X_isPart_6 : decode b_X_isPart 6 = .ok (.if_icmp .ne 7, 3) := by decide +kernel
theorem d_X_isPart_9 : decode b_X_isPart 9 = .ok (.iconst 1, 1) := by decide +kernel
theorem d_X_isPart_10 : decode b_X_isPart 10 = .ok (.goto 4, 3) := by decide +kernel
theorem d_X_isPart_13 : decode b_X_isPart 13 = .ok (.iconst 0, 1) := by decide +kernel
theorem d_X_isPart_14 : decode b_X_isPart 14 = .ok (.ireturn, 1) := by decide +kernel
set_option maxHeartbeats 4000000 in
set_option maxRecDepth 100000 in
theorem c_X_isPart {l : Launch} {D : va_G} {cI cJ cC : ClassId} {x0 : Int32} {q : Int32} (hf : f_X_isPart x0 = some q) : xI l y_X_isPart b_X_isPart 1 .boolean 0 0 D (tyK cI cJ cC) xE0 [.int x0] [] q [] := by
  refine xI_of (by decide) (Nat.le_of_ble_eq_true rfl) ?_
  intro p e s m args below meth c A Q hx hb hml hown hT hA hP hD hK hS hE hret ls hl
  have hown : s.vm.findClass R_X = some m.cls := hown
  have hl : lv_has ls 1 [(0, .int x0)] := hl
  unfold f_X_isPart at hf
  refine lv_iload_n hx hb d_X_isPart_0 rfl (lv_at hl 0 rfl) ?_
  refine lv_if_eq (tgt := 9) hx hb d_X_isPart_1 (by decide) (fun c1 => ?_) (fun c1 => ?_)
  · have hf := io_t hf c1
    refine lv_iconst (v := 1) hx hb d_X_isPart_9 (by decide) ?_
    refine lv_goto (tgt := 14) hx hb d_X_isPart_10 (by decide) ?_
    have hq := Option.some.inj hf
    subst hq
    exact hret _ _ _ _ _ d_X_isPart_14 (by decide) rfl hP hD hS
  · have hf := io_f hf c1
    refine lv_iload_n hx hb d_X_isPart_4 rfl (lv_at hl 0 rfl) ?_
    refine lv_iconst (v := 1) hx hb d_X_isPart_5 (by decide) ?_
    refine lv_icmp_ne (tgt := 13) hx hb d_X_isPart_6 (by decide) (fun c2 => ?_) (fun c2 => ?_)
    · have hf := io_f hf c2
      refine lv_iconst (v := 0) hx hb d_X_isPart_13 (by decide) ?_
      have hq := Option.some.inj hf
      subst hq
      exact hret _ _ _ _ _ d_X_isPart_14 (by decide) rfl hP hD hS
    · have hf := io_t hf c2
      refine lv_iconst (v := 1) hx hb d_X_isPart_9 (by decide) ?_
      refine lv_goto (tgt := 14) hx hb d_X_isPart_10 (by decide) ?_
      have hq := Option.some.inj hf
      subst hq
      exact hret _ _ _ _ _ d_X_isPart_14 (by decide) rfl hP hD hS
end
section
/-! Contracts: X2. Printed by wip/whole/gen. -/
abbrev w_X_given (cI cJ cC : ClassId) (a_h a_h_now a_h_kept a_h_letters a_h_numbers a_h_refusals a_h_mind a_h_parts a_h_past a_h_seating a_h_now_kinds a_h_now_sweets a_h_now_settings a_h_now_heaps a_h_mind_one a_h_mind_two a_h_mind_one_kinds a_h_mind_one_sweets a_h_mind_one_settings a_h_mind_one_heaps : Nat) (y_h_isKept : Int32) (y_h_numberCount : Int32) (y_h_mind_seed : Int32) (p_h_now_children : Int32) (p_h_now_strokes : Int32) (p_h_now_gave : Int32) (p_h_now_threw : Int32) (p_h_now_kinds : (Nat → Int32)) (p_h_now_sweets : (Nat → Int32)) (p_h_now_settings : (Nat → Int32)) (p_h_refusals : (Nat → Int32)) (p_h_mind_one_children : Int32) (p_h_mind_one_strokes : Int32) (p_h_mind_one_gave : Int32) (p_h_mind_one_threw : Int32) (p_h_mind_one_kinds : (Nat → Int32)) (p_h_mind_one_sweets : (Nat → Int32)) (p_h_mind_one_settings : (Nat → Int32)) (p_h_mind_one_heaps : (Nat → Int32)) : va_W := [(a_h, .inr (0, [.ref a_h_now, .ref a_h_kept, .int y_h_isKept, .ref a_h_letters, .ref a_h_numbers, .int y_h_numberCount, .ref a_h_refusals, .ref a_h_mind, .ref a_h_parts, .ref a_h_past, .ref a_h_seating])), (a_h_now, .inr (1, [.ref a_h_now_kinds, .ref a_h_now_sweets, .ref a_h_now_settings, .int p_h_now_children, .int p_h_now_strokes, .int p_h_now_gave, .int p_h_now_threw, .ref a_h_now_heaps])), (a_h_now_kinds, .inl (cI, (8, .inl p_h_now_kinds))), (a_h_now_sweets, .inl (cI, (8, .inl p_h_now_sweets))), (a_h_now_settings, .inl (cI, (3, .inl p_h_now_settings))), (a_h_refusals, .inl (cI, (7, .inl p_h_refusals))), (a_h_mind, .inr (3, [.ref a_h_mind_one, .ref a_h_mind_two, .int y_h_mind_seed])), (a_h_mind_one, .inr (1, [.ref a_h_mind_one_kinds, .ref a_h_mind_one_sweets, .ref a_h_mind_one_settings, .int p_h_mind_one_children, .int p_h_mind_one_strokes, .int p_h_mind_one_gave, .int p_h_mind_one_threw, .ref a_h_mind_one_heaps])), (a_h_mind_one_kinds, .inl (cI, (8, .inl p_h_mind_one_kinds))), (a_h_mind_one_sweets, .inl (cI, (8, .inl p_h_mind_one_sweets))), (a_h_mind_one_settings, .inl (cI, (3, .inl p_h_mind_one_settings))), (a_h_mind_one_heaps, .inl (cI, (8, .inl p_h_mind_one_heaps)))]
theorem d_X_given_0 : decode b_X_given 0 = .ok (.iload_n 2, 1) := by decide +kernel
theorem d_X_given_1 : decode b_X_given 1 = .ok (.invokestatic 132, 3) := by decide +kernel
theorem d_X_given_4 : decode b_X_given 4 = .ok (.ifCond .eq 14, 3) := by decide +kernel
theorem d_X_given_7 : decode b_X_given 7 = .ok (.iload_n 1, 1) := by decide +kernel
theorem d_X_given_8 : decode b_X_given 8 = .ok (.iconst 0, 1) := by decide +kernel
theorem d_X_given_9 : decode b_X_given 9 = .ok (.sipush 200, 3) := by decide +kernel
theorem d_X_given_12 : decode b_X_given 12 = .ok (.invokestatic 100, 3) := by decide +kernel
theorem d_X_given_15 : decode b_X_given 15 = .ok (.goto 5, 3) := by decide +kernel
theorem d_X_given_18 : decode b_X_given 18 = .ok (.bipush (-2), 2) := by decide +kernel
theorem d_X_given_20 : decode b_X_given 20 = .ok (.istore_n 3, 1) := by decide +kernel
theorem d_X_given_21 : decode b_X_given 21 = .ok (.iload_n 3, 1) := by decide +kernel
theorem d_X_given_22 : decode b_X_given 22 = .ok (.ifCond .eq 9, 3) := by decide +kernel
theorem d_X_given_25 : decode b_X_given 25 = .ok (.aload_n 0, 1) := by decide +kernel
theorem d_X_given_26 : decode b_X_given 26 = .ok (.iload_n 3, 1) := by decide +kernel
theorem d_X_given_27 : decode b_X_given 27 = .ok (.invokevirtual 69, 3) := by decide +kernel
theorem d_X_given_30 : decode b_X_given 30 = .ok (.ireturn, 1) := by decide +kernel
theorem d_X_given_31 : decode b_X_given 31 = .ok (.iload_n 2, 1) := by decide +kernel
theorem d_X_given_32 : decode b_X_given 32 = .ok (.ifCond .ne 18, 3) := by decide +kernel
theorem d_X_given_35 : decode b_X_given 35 = .ok (.aload_n 0, 1) := by decide +kernel
theorem d_X_given_36 : decode b_X_given 36 = .ok (.getfield 44, 3) := by decide +kernel
theorem d_X_given_39 : decode b_X_given 39 = .ok (.aload_n 0, 1) := by decide +kernel
theorem d_X_given_40 : decode b_X_given 40 = .ok (.getfield 10, 3) := by decide +kernel
theorem d_X_given_43 : decode b_X_given 43 = .ok (.iload_n 1, 1) := by decide +kernel
theorem d_X_given_44 : decode b_X_given 44 = .ok (.invokevirtual 135, 3) := by decide +kernel
theorem d_X_given_47 : decode b_X_given 47 = .ok (.goto 15, 3) := by decide +kernel
theorem d_X_given_50 : decode b_X_given 50 = .ok (.aload_n 0, 1) := by decide +kernel
theorem d_X_given_51 : decode b_X_given 51 = .ok (.getfield 44, 3) := by decide +kernel
theorem d_X_given_54 : decode b_X_given 54 = .ok (.aload_n 0, 1) := by decide +kernel
theorem d_X_given_55 : decode b_X_given 55 = .ok (.getfield 10, 3) := by decide +kernel
theorem d_X_given_58 : decode b_X_given 58 = .ok (.iload_n 1, 1) := by decide +kernel
theorem d_X_given_59 : decode b_X_given 59 = .ok (.invokevirtual 139, 3) := by decide +kernel
theorem d_X_given_62 : decode b_X_given 62 = .ok (.ireturn, 1) := by decide +kernel
set_option maxHeartbeats 4000000 in
set_option maxRecDepth 100000 in
theorem c_X_given {l : Launch} {D : va_G} {cI cJ cC : ClassId} (a_h a_h_now a_h_kept a_h_letters a_h_numbers a_h_refusals a_h_mind a_h_parts a_h_past a_h_seating a_h_now_kinds a_h_now_sweets a_h_now_settings a_h_now_heaps a_h_mind_one a_h_mind_two a_h_mind_one_kinds a_h_mind_one_sweets a_h_mind_one_settings a_h_mind_one_heaps : Nat) (y_h_isKept : Int32) (y_h_numberCount : Int32) (y_h_mind_seed : Int32) {z_h_now : RS} {z_h_refusals : (Nat → Int32)} {z_h_mind_one : RS} {x1 : Int32} {x2 : Int32} {q : Int32 × (Nat → Int32) × RS} (hf : f_X_given z_h_now z_h_refusals z_h_mind_one x1 x2 = some q) : xI l y_X_given b_X_given 4 .int 6 133 D (tyK cI cJ cC) xE0 [.ref a_h, .int x1, .int x2] (w_X_given cI cJ cC a_h a_h_now a_h_kept a_h_letters a_h_numbers a_h_refusals a_h_mind a_h_parts a_h_past a_h_seating a_h_now_kinds a_h_now_sweets a_h_now_settings a_h_now_heaps a_h_mind_one a_h_mind_two a_h_mind_one_kinds a_h_mind_one_sweets a_h_mind_one_settings a_h_mind_one_heaps y_h_isKept y_h_numberCount y_h_mind_seed (r_children z_h_now) (r_strokes z_h_now) (r_gave z_h_now) (r_threw z_h_now) (r_kinds z_h_now) (r_sweets z_h_now) (r_settings z_h_now) z_h_refusals (r_children z_h_mind_one) (r_strokes z_h_mind_one) (r_gave z_h_mind_one) (r_threw z_h_mind_one) (r_kinds z_h_mind_one) (r_sweets z_h_mind_one) (r_settings z_h_mind_one) (r_heaps z_h_mind_one)) q.1 (w_X_given cI cJ cC a_h a_h_now a_h_kept a_h_letters a_h_numbers a_h_refusals a_h_mind a_h_parts a_h_past a_h_seating a_h_now_kinds a_h_now_sweets a_h_now_settings a_h_now_heaps a_h_mind_one a_h_mind_two a_h_mind_one_kinds a_h_mind_one_sweets a_h_mind_one_settings a_h_mind_one_heaps y_h_isKept y_h_numberCount y_h_mind_seed (r_children z_h_now) (r_strokes z_h_now) (r_gave z_h_now) (r_threw z_h_now) (r_kinds z_h_now) (r_sweets z_h_now) (r_settings z_h_now) q.2.1 (r_children q.2.2) (r_strokes q.2.2) (r_gave q.2.2) (r_threw q.2.2) (r_kinds q.2.2) (r_sweets q.2.2) (r_settings q.2.2) (r_heaps q.2.2)) := by
  refine xI_of (by decide) (Nat.le_of_ble_eq_true rfl) ?_
  intro p e s m args below meth c A Q hx hb hml hown hT hA hP hD hK hS hE hret ls hl
  have hown : s.vm.findClass R_X = some m.cls := hown
  have hl : lv_has ls 4 [(0, .ref a_h), (1, .int x1), (2, .int x2)] := hl
  unfold f_X_given at hf
  refine lv_iload_n hx hb d_X_given_0 rfl (lv_at hl 2 rfl) ?_
  obtain ⟨q1, hq1, hf⟩ := io_b hf
  refine xcSI (wc := []) (wc' := []) (ws' := (w_X_given cI cJ cC a_h a_h_now a_h_kept a_h_letters a_h_numbers a_h_refusals a_h_mind a_h_parts a_h_past a_h_seating a_h_now_kinds a_h_now_sweets a_h_now_settings a_h_now_heaps a_h_mind_one a_h_mind_two a_h_mind_one_kinds a_h_mind_one_sweets a_h_mind_one_settings a_h_mind_one_heaps y_h_isKept y_h_numberCount y_h_mind_seed (r_children z_h_now) (r_strokes z_h_now) (r_gave z_h_now) (r_threw z_h_now) (r_kinds z_h_now) (r_sweets z_h_now) (r_settings z_h_now) z_h_refusals (r_children z_h_mind_one) (r_strokes z_h_mind_one) (r_gave z_h_mind_one) (r_threw z_h_mind_one) (r_kinds z_h_mind_one) (r_sweets z_h_mind_one) (r_settings z_h_mind_one) (r_heaps z_h_mind_one))) (As := [.int x2]) (rest := []) hx hb hml hown hT (c_X_isPart hq1) k_265 k_266 k_1 k_267 hd_X_isPart ⟨Nat.le_of_ble_eq_true rfl, Nat.le_of_ble_eq_true rfl⟩ xE0_ok trivial hA hK hP hD hS [] [0, 1, 2, 3, 4, 5, 6, 7, 8, 9, 10, 11] [0, 1, 2, 3, 4, 5, 6, 7, 8, 9, 10, 11] rfl rfl rfl rfl rfl rfl rfl hl.1 rfl (Nat.le_of_ble_eq_true rfl) ⟨Nat.zero_le _, Nat.zero_le _⟩ d_X_given_1 (fun H locs hP hD hS => ?_)
  refine lv_if_eq (tgt := 18) hx hb d_X_given_4 (by decide) (fun c2 => ?_) (fun c2 => ?_)
  · have hf := io_t hf c2
    refine lv_bipush (v := (-2)) hx hb d_X_given_18 (by decide) ?_
    refine lv_istore_n (lv' := [(3, .int (-2)), (0, .ref a_h), (1, .int x1), (2, .int x2)]) hx hb d_X_given_20 rfl hl (by decide) rfl (fun ls hl => ?_)
    refine lv_iload_n hx hb d_X_given_21 rfl (lv_at hl 0 rfl) ?_
    refine lv_if_eq (tgt := 31) hx hb d_X_given_22 (by decide) (fun c => absurd c (show ¬ ((-2) : Int32) = 0 from by decide +kernel)) (fun _ => ?_)
    refine lv_aload_n hx hb d_X_given_25 rfl (lv_at hl 1 rfl) ?_
    refine lv_iload_n hx hb d_X_given_26 rfl (lv_at hl 0 rfl) ?_
    obtain ⟨q3, hq3, hf⟩ := io_b hf
    refine xcVI (wc := (w_X_refuse cI cJ cC a_h a_h_now a_h_kept a_h_letters a_h_numbers a_h_refusals a_h_mind a_h_parts a_h_past a_h_seating y_h_isKept y_h_numberCount z_h_refusals)) (wc' := (w_X_refuse cI cJ cC a_h a_h_now a_h_kept a_h_letters a_h_numbers a_h_refusals a_h_mind a_h_parts a_h_past a_h_seating y_h_isKept y_h_numberCount q3.2)) (ws' := (w_X_given cI cJ cC a_h a_h_now a_h_kept a_h_letters a_h_numbers a_h_refusals a_h_mind a_h_parts a_h_past a_h_seating a_h_now_kinds a_h_now_sweets a_h_now_settings a_h_now_heaps a_h_mind_one a_h_mind_two a_h_mind_one_kinds a_h_mind_one_sweets a_h_mind_one_settings a_h_mind_one_heaps y_h_isKept y_h_numberCount y_h_mind_seed (r_children z_h_now) (r_strokes z_h_now) (r_gave z_h_now) (r_threw z_h_now) (r_kinds z_h_now) (r_sweets z_h_now) (r_settings z_h_now) q3.2 (r_children z_h_mind_one) (r_strokes z_h_mind_one) (r_gave z_h_mind_one) (r_threw z_h_mind_one) (r_kinds z_h_mind_one) (r_sweets z_h_mind_one) (r_settings z_h_mind_one) (r_heaps z_h_mind_one))) (As := [.int (-2)]) (rest := []) hx hb hml hown hT (c_X_refuse (z_h_refusals := z_h_refusals) a_h a_h_now a_h_kept a_h_letters a_h_numbers a_h_refusals a_h_mind a_h_parts a_h_past a_h_seating y_h_isKept y_h_numberCount hq3) k_198 k_200 ks_0 k_1 k_201 hd_X_refuse ⟨Nat.le_of_ble_eq_true rfl, Nat.le_of_ble_eq_true rfl⟩ xE0_ok trivial hA hK hP hD hS [0, 5] [1, 2, 3, 4, 6, 7, 8, 9, 10, 11] [10, 0, 1, 2, 3, 11, 4, 5, 6, 7, 8, 9] rfl rfl rfl rfl rfl rfl rfl rfl rfl rfl hl.1 rfl (Nat.le_of_ble_eq_true rfl) ⟨Nat.zero_le _, Nat.zero_le _⟩ d_X_given_27 (fun H locs hP hD hS => ?_)
    have hq := Option.some.inj hf
    subst hq
    exact hret _ _ _ _ _ d_X_given_30 rfl rfl hP hD hS
  · have hf := io_f hf c2
    refine lv_iload_n hx hb d_X_given_7 rfl (lv_at hl 1 rfl) ?_
    refine lv_iconst (v := 0) hx hb d_X_given_8 (by decide) ?_
    refine lv_sipush (v := 200) hx hb d_X_given_9 (by decide) ?_
    obtain ⟨q4, hq4, hf⟩ := io_b hf
    refine xcSI (wc := []) (wc' := []) (ws' := (w_X_given cI cJ cC a_h a_h_now a_h_kept a_h_letters a_h_numbers a_h_refusals a_h_mind a_h_parts a_h_past a_h_seating a_h_now_kinds a_h_now_sweets a_h_now_settings a_h_now_heaps a_h_mind_one a_h_mind_two a_h_mind_one_kinds a_h_mind_one_sweets a_h_mind_one_settings a_h_mind_one_heaps y_h_isKept y_h_numberCount y_h_mind_seed (r_children z_h_now) (r_strokes z_h_now) (r_gave z_h_now) (r_threw z_h_now) (r_kinds z_h_now) (r_sweets z_h_now) (r_settings z_h_now) z_h_refusals (r_children z_h_mind_one) (r_strokes z_h_mind_one) (r_gave z_h_mind_one) (r_threw z_h_mind_one) (r_kinds z_h_mind_one) (r_sweets z_h_mind_one) (r_settings z_h_mind_one) (r_heaps z_h_mind_one))) (As := [.int x1, .int 0, .int 200]) (rest := []) hx hb hml hown hT (c_X_outside hq4) k_245 k_246 k_1 k_247 hd_X_outside ⟨Nat.le_of_ble_eq_true rfl, Nat.le_of_ble_eq_true rfl⟩ xE0_ok trivial hA hK hP hD hS [] [0, 1, 2, 3, 4, 5, 6, 7, 8, 9, 10, 11] [0, 1, 2, 3, 4, 5, 6, 7, 8, 9, 10, 11] rfl rfl rfl rfl rfl rfl rfl hl.1 rfl (Nat.le_of_ble_eq_true rfl) ⟨Nat.zero_le _, Nat.zero_le _⟩ d_X_given_12 (fun H locs hP hD hS => ?_)
    refine lv_goto (tgt := 20) hx hb d_X_given_15 (by decide) ?_
    refine lv_istore_n (lv' := [(3, .int q4), (0, .ref a_h), (1, .int x1), (2, .int x2)]) hx hb d_X_given_20 rfl hl (by decide) rfl (fun ls hl => ?_)
    refine lv_iload_n hx hb d_X_given_21 rfl (lv_at hl 0 rfl) ?_
    refine lv_if_eq (tgt := 31) hx hb d_X_given_22 (by decide) (fun c5 => ?_) (fun c5 => ?_)
    · have hf := io_t hf c5
      refine lv_iload_n hx hb d_X_given_31 rfl (lv_at hl 3 rfl) ?_
      refine lv_if_ne (tgt := 50) hx hb d_X_given_32 (by decide) (fun c6 => ?_) (fun c6 => ?_)
      · have hf := io_f hf c6
        refine lv_aload_n hx hb d_X_given_50 rfl (lv_at hl 1 rfl) ?_
        refine va_get hx hb hT i_X hown hK hP 0 rfl rfl 7 (Nat.le_of_ble_eq_true rfl) (hT _ k_163) (fun _ h => h) rfl d_X_given_51 ?_
        refine lv_aload_n hx hb d_X_given_54 rfl (lv_at hl 1 rfl) ?_
        refine va_get hx hb hT i_X hown hK hP 0 rfl rfl 0 (Nat.le_of_ble_eq_true rfl) (hT _ k_156) (fun _ h => h) rfl d_X_given_55 ?_
        refine lv_iload_n hx hb d_X_given_58 rfl (lv_at hl 2 rfl) ?_
        obtain ⟨q7, hq7, hf⟩ := io_b hf
        refine xcVI (wc := (w_Mind_threwIn cI cJ cC a_h_mind a_h_mind_one a_h_mind_two a_h_mind_one_kinds a_h_mind_one_sweets a_h_mind_one_settings a_h_mind_one_heaps a_h_now a_h_now_kinds a_h_now_sweets a_h_now_settings a_h_now_heaps y_h_mind_seed (r_children z_h_mind_one) (r_strokes z_h_mind_one) (r_gave z_h_mind_one) (r_threw z_h_mind_one) (r_kinds z_h_mind_one) (r_sweets z_h_mind_one) (r_settings z_h_mind_one) (r_heaps z_h_mind_one) (r_children z_h_now) (r_strokes z_h_now) (r_gave z_h_now) (r_threw z_h_now) (r_kinds z_h_now) (r_sweets z_h_now) (r_settings z_h_now))) (wc' := (w_Mind_threwIn cI cJ cC a_h_mind a_h_mind_one a_h_mind_two a_h_mind_one_kinds a_h_mind_one_sweets a_h_mind_one_settings a_h_mind_one_heaps a_h_now a_h_now_kinds a_h_now_sweets a_h_now_settings a_h_now_heaps y_h_mind_seed (r_children q7.2) (r_strokes q7.2) (r_gave q7.2) (r_threw q7.2) (r_kinds q7.2) (r_sweets q7.2) (r_settings q7.2) (r_heaps q7.2) (r_children z_h_now) (r_strokes z_h_now) (r_gave z_h_now) (r_threw z_h_now) (r_kinds z_h_now) (r_sweets z_h_now) (r_settings z_h_now))) (ws' := (w_X_given cI cJ cC a_h a_h_now a_h_kept a_h_letters a_h_numbers a_h_refusals a_h_mind a_h_parts a_h_past a_h_seating a_h_now_kinds a_h_now_sweets a_h_now_settings a_h_now_heaps a_h_mind_one a_h_mind_two a_h_mind_one_kinds a_h_mind_one_sweets a_h_mind_one_settings a_h_mind_one_heaps y_h_isKept y_h_numberCount y_h_mind_seed (r_children z_h_now) (r_strokes z_h_now) (r_gave z_h_now) (r_threw z_h_now) (r_kinds z_h_now) (r_sweets z_h_now) (r_settings z_h_now) z_h_refusals (r_children q7.2) (r_strokes q7.2) (r_gave q7.2) (r_threw q7.2) (r_kinds q7.2) (r_sweets q7.2) (r_settings q7.2) (r_heaps q7.2))) (As := [.ref a_h_now, .int x1]) (rest := []) hx hb hml hown hT (c_Mind_threwIn (z_h_one := z_h_mind_one) (z_g1 := z_h_now) a_h_mind a_h_mind_one a_h_mind_two a_h_mind_one_kinds a_h_mind_one_sweets a_h_mind_one_settings a_h_mind_one_heaps a_h_now a_h_now_kinds a_h_now_sweets a_h_now_settings a_h_now_heaps y_h_mind_seed hq7) k_272 k_273 k_274 k_4 k_275 hd_Mind_threwIn ⟨Nat.le_of_ble_eq_true rfl, Nat.le_of_ble_eq_true rfl⟩ xE0_ok trivial hA hK hP hD hS [6, 7, 8, 9, 10, 11, 1, 2, 3, 4] [0, 5] [0, 8, 9, 10, 11, 1, 2, 3, 4, 5, 6, 7] rfl rfl rfl rfl rfl rfl rfl rfl rfl rfl hl.1 rfl (Nat.le_of_ble_eq_true rfl) ⟨Nat.zero_le _, Nat.zero_le _⟩ d_X_given_59 (fun H locs hP hD hS => ?_)
        have hq := Option.some.inj hf
        subst hq
        exact hret _ _ _ _ _ d_X_given_62 rfl rfl hP hD hS
      · have hf := io_t hf c6
        refine lv_aload_n hx hb d_X_given_35 rfl (lv_at hl 1 rfl) ?_
        refine va_get hx hb hT i_X hown hK hP 0 rfl rfl 7 (Nat.le_of_ble_eq_true rfl) (hT _ k_163) (fun _ h => h) rfl d_X_given_36 ?_
        refine lv_aload_n hx hb d_X_given_39 rfl (lv_at hl 1 rfl) ?_
        refine va_get hx hb hT i_X hown hK hP 0 rfl rfl 0 (Nat.le_of_ble_eq_true rfl) (hT _ k_156) (fun _ h => h) rfl d_X_given_40 ?_
        refine lv_iload_n hx hb d_X_given_43 rfl (lv_at hl 2 rfl) ?_
        obtain ⟨q8, hq8, hf⟩ := io_b hf
        refine xcVI (wc := (w_Mind_gaveIn cI cJ cC a_h_mind a_h_mind_one a_h_mind_two a_h_mind_one_kinds a_h_mind_one_sweets a_h_mind_one_settings a_h_mind_one_heaps a_h_now a_h_now_kinds a_h_now_sweets a_h_now_settings a_h_now_heaps y_h_mind_seed (r_children z_h_mind_one) (r_strokes z_h_mind_one) (r_gave z_h_mind_one) (r_threw z_h_mind_one) (r_kinds z_h_mind_one) (r_sweets z_h_mind_one) (r_settings z_h_mind_one) (r_heaps z_h_mind_one) (r_children z_h_now) (r_strokes z_h_now) (r_gave z_h_now) (r_threw z_h_now) (r_kinds z_h_now) (r_sweets z_h_now) (r_settings z_h_now))) (wc' := (w_Mind_gaveIn cI cJ cC a_h_mind a_h_mind_one a_h_mind_two a_h_mind_one_kinds a_h_mind_one_sweets a_h_mind_one_settings a_h_mind_one_heaps a_h_now a_h_now_kinds a_h_now_sweets a_h_now_settings a_h_now_heaps y_h_mind_seed (r_children q8.2) (r_strokes q8.2) (r_gave q8.2) (r_threw q8.2) (r_kinds q8.2) (r_sweets q8.2) (r_settings q8.2) (r_heaps q8.2) (r_children z_h_now) (r_strokes z_h_now) (r_gave z_h_now) (r_threw z_h_now) (r_kinds z_h_now) (r_sweets z_h_now) (r_settings z_h_now))) (ws' := (w_X_given cI cJ cC a_h a_h_now a_h_kept a_h_letters a_h_numbers a_h_refusals a_h_mind a_h_parts a_h_past a_h_seating a_h_now_kinds a_h_now_sweets a_h_now_settings a_h_now_heaps a_h_mind_one a_h_mind_two a_h_mind_one_kinds a_h_mind_one_sweets a_h_mind_one_settings a_h_mind_one_heaps y_h_isKept y_h_numberCount y_h_mind_seed (r_children z_h_now) (r_strokes z_h_now) (r_gave z_h_now) (r_threw z_h_now) (r_kinds z_h_now) (r_sweets z_h_now) (r_settings z_h_now) z_h_refusals (r_children q8.2) (r_strokes q8.2) (r_gave q8.2) (r_threw q8.2) (r_kinds q8.2) (r_sweets q8.2) (r_settings q8.2) (r_heaps q8.2))) (As := [.ref a_h_now, .int x1]) (rest := []) hx hb hml hown hT (c_Mind_gaveIn (z_h_one := z_h_mind_one) (z_g1 := z_h_now) a_h_mind a_h_mind_one a_h_mind_two a_h_mind_one_kinds a_h_mind_one_sweets a_h_mind_one_settings a_h_mind_one_heaps a_h_now a_h_now_kinds a_h_now_sweets a_h_now_settings a_h_now_heaps y_h_mind_seed hq8) k_268 k_269 k_270 k_4 k_271 hd_Mind_gaveIn ⟨Nat.le_of_ble_eq_true rfl, Nat.le_of_ble_eq_true rfl⟩ xE0_ok trivial hA hK hP hD hS [6, 7, 8, 9, 10, 11, 1, 2, 3, 4] [0, 5] [0, 8, 9, 10, 11, 1, 2, 3, 4, 5, 6, 7] rfl rfl rfl rfl rfl rfl rfl rfl rfl rfl hl.1 rfl (Nat.le_of_ble_eq_true rfl) ⟨Nat.zero_le _, Nat.zero_le _⟩ d_X_given_44 (fun H locs hP hD hS => ?_)
        refine lv_goto (tgt := 62) hx hb d_X_given_47 (by decide) ?_
        have hq := Option.some.inj hf
        subst hq
        exact hret _ _ _ _ _ d_X_given_62 rfl rfl hP hD hS
    · have hf := io_f hf c5
      refine lv_aload_n hx hb d_X_given_25 rfl (lv_at hl 1 rfl) ?_
      refine lv_iload_n hx hb d_X_given_26 rfl (lv_at hl 0 rfl) ?_
      obtain ⟨q9, hq9, hf⟩ := io_b hf
      refine xcVI (wc := (w_X_refuse cI cJ cC a_h a_h_now a_h_kept a_h_letters a_h_numbers a_h_refusals a_h_mind a_h_parts a_h_past a_h_seating y_h_isKept y_h_numberCount z_h_refusals)) (wc' := (w_X_refuse cI cJ cC a_h a_h_now a_h_kept a_h_letters a_h_numbers a_h_refusals a_h_mind a_h_parts a_h_past a_h_seating y_h_isKept y_h_numberCount q9.2)) (ws' := (w_X_given cI cJ cC a_h a_h_now a_h_kept a_h_letters a_h_numbers a_h_refusals a_h_mind a_h_parts a_h_past a_h_seating a_h_now_kinds a_h_now_sweets a_h_now_settings a_h_now_heaps a_h_mind_one a_h_mind_two a_h_mind_one_kinds a_h_mind_one_sweets a_h_mind_one_settings a_h_mind_one_heaps y_h_isKept y_h_numberCount y_h_mind_seed (r_children z_h_now) (r_strokes z_h_now) (r_gave z_h_now) (r_threw z_h_now) (r_kinds z_h_now) (r_sweets z_h_now) (r_settings z_h_now) q9.2 (r_children z_h_mind_one) (r_strokes z_h_mind_one) (r_gave z_h_mind_one) (r_threw z_h_mind_one) (r_kinds z_h_mind_one) (r_sweets z_h_mind_one) (r_settings z_h_mind_one) (r_heaps z_h_mind_one))) (As := [.int q4]) (rest := []) hx hb hml hown hT (c_X_refuse (z_h_refusals := z_h_refusals) a_h a_h_now a_h_kept a_h_letters a_h_numbers a_h_refusals a_h_mind a_h_parts a_h_past a_h_seating y_h_isKept y_h_numberCount hq9) k_198 k_200 ks_0 k_1 k_201 hd_X_refuse ⟨Nat.le_of_ble_eq_true rfl, Nat.le_of_ble_eq_true rfl⟩ xE0_ok trivial hA hK hP hD hS [0, 5] [1, 2, 3, 4, 6, 7, 8, 9, 10, 11] [10, 0, 1, 2, 3, 11, 4, 5, 6, 7, 8, 9] rfl rfl rfl rfl rfl rfl rfl rfl rfl rfl hl.1 rfl (Nat.le_of_ble_eq_true rfl) ⟨Nat.zero_le _, Nat.zero_le _⟩ d_X_given_27 (fun H locs hP hD hS => ?_)
      have hq := Option.some.inj hf
      subst hq
      exact hret _ _ _ _ _ d_X_given_30 rfl rfl hP hD hS
abbrev w_X_rests (cI cJ cC : ClassId) (a_h a_h_now a_h_kept a_h_letters a_h_numbers a_h_refusals a_h_mind a_h_parts a_h_past a_h_seating a_h_now_kinds a_h_now_sweets a_h_now_settings a_h_now_heaps a_h_mind_one a_h_mind_two a_h_mind_one_kinds a_h_mind_one_sweets a_h_mind_one_settings a_h_mind_one_heaps a_h_mind_two_kinds a_h_mind_two_sweets a_h_mind_two_settings a_h_mind_two_heaps : Nat) (y_h_isKept : Int32) (y_h_numberCount : Int32) (y_h_mind_seed : Int32) (p_h_now_children : Int32) (p_h_now_strokes : Int32) (p_h_now_gave : Int32) (p_h_now_threw : Int32) (p_h_now_kinds : (Nat → Int32)) (p_h_now_sweets : (Nat → Int32)) (p_h_now_settings : (Nat → Int32)) (p_h_refusals : (Nat → Int32)) (p_h_mind_one_children : Int32) (p_h_mind_one_strokes : Int32) (p_h_mind_one_gave : Int32) (p_h_mind_one_threw : Int32) (p_h_mind_one_kinds : (Nat → Int32)) (p_h_mind_one_sweets : (Nat → Int32)) (p_h_mind_one_settings : (Nat → Int32)) (p_h_mind_one_heaps : (Nat → Int32)) (p_h_mind_two_children : Int32) (p_h_mind_two_strokes : Int32) (p_h_mind_two_gave : Int32) (p_h_mind_two_threw : Int32) (p_h_mind_two_kinds : (Nat → Int32)) (p_h_mind_two_sweets : (Nat → Int32)) (p_h_mind_two_settings : (Nat → Int32)) (p_h_mind_two_heaps : (Nat → Int32)) : va_W := [(a_h, .inr (0, [.ref a_h_now, .ref a_h_kept, .int y_h_isKept, .ref a_h_letters, .ref a_h_numbers, .int y_h_numberCount, .ref a_h_refusals, .ref a_h_mind, .ref a_h_parts, .ref a_h_past, .ref a_h_seating])), (a_h_now, .inr (1, [.ref a_h_now_kinds, .ref a_h_now_sweets, .ref a_h_now_settings, .int p_h_now_children, .int p_h_now_strokes, .int p_h_now_gave, .int p_h_now_threw, .ref a_h_now_heaps])), (a_h_now_kinds, .inl (cI, (8, .inl p_h_now_kinds))), (a_h_now_sweets, .inl (cI, (8, .inl p_h_now_sweets))), (a_h_now_settings, .inl (cI, (3, .inl p_h_now_settings))), (a_h_refusals, .inl (cI, (7, .inl p_h_refusals))), (a_h_mind, .inr (3, [.ref a_h_mind_one, .ref a_h_mind_two, .int y_h_mind_seed])), (a_h_mind_one, .inr (1, [.ref a_h_mind_one_kinds, .ref a_h_mind_one_sweets, .ref a_h_mind_one_settings, .int p_h_mind_one_children, .int p_h_mind_one_strokes, .int p_h_mind_one_gave, .int p_h_mind_one_threw, .ref a_h_mind_one_heaps])), (a_h_mind_one_kinds, .inl (cI, (8, .inl p_h_mind_one_kinds))), (a_h_mind_one_sweets, .inl (cI, (8, .inl p_h_mind_one_sweets))), (a_h_mind_one_settings, .inl (cI, (3, .inl p_h_mind_one_settings))), (a_h_mind_one_heaps, .inl (cI, (8, .inl p_h_mind_one_heaps))), (a_h_mind_two, .inr (1, [.ref a_h_mind_two_kinds, .ref a_h_mind_two_sweets, .ref a_h_mind_two_settings, .int p_h_mind_two_children, .int p_h_mind_two_strokes, .int p_h_mind_two_gave, .int p_h_mind_two_threw, .ref a_h_mind_two_heaps])), (a_h_mind_two_kinds, .inl (cI, (8, .inl p_h_mind_two_kinds))), (a_h_mind_two_sweets, .inl (cI, (8, .inl p_h_mind_two_sweets))), (a_h_mind_two_settings, .inl (cI, (3, .inl p_h_mind_two_settings))), (a_h_mind_two_heaps, .inl (cI, (8, .inl p_h_mind_two_heaps)))]
theorem d_X_rests_0 : decode b_X_rests 0 = .ok (.aload_n 0, 1) := by decide +kernel
theorem d_X_rests_1 : decode b_X_rests 1 = .ok (.getfield 10, 3) := by decide +kernel
theorem d_X_rests_4 : decode b_X_rests 4 = .ok (.getfield 121, 3) := by decide +kernel
theorem d_X_rests_7 : decode b_X_rests 7 = .ok (.ifCond .ne 10, 3) := by decide +kernel
theorem d_X_rests_10 : decode b_X_rests 10 = .ok (.aload_n 0, 1) := by decide +kernel
theorem d_X_rests_11 : decode b_X_rests 11 = .ok (.bipush (-3), 2) := by decide +kernel
theorem d_X_rests_13 : decode b_X_rests 13 = .ok (.invokevirtual 69, 3) := by decide +kernel
theorem d_X_rests_16 : decode b_X_rests 16 = .ok (.ireturn, 1) := by decide +kernel
theorem d_X_rests_17 : decode b_X_rests 17 = .ok (.aload_n 0, 1) := by decide +kernel
theorem d_X_rests_18 : decode b_X_rests 18 = .ok (.getfield 44, 3) := by decide +kernel
theorem d_X_rests_21 : decode b_X_rests 21 = .ok (.aload_n 0, 1) := by decide +kernel
theorem d_X_rests_22 : decode b_X_rests 22 = .ok (.getfield 10, 3) := by decide +kernel
theorem d_X_rests_25 : decode b_X_rests 25 = .ok (.invokevirtual 142, 3) := by decide +kernel
theorem d_X_rests_28 : decode b_X_rests 28 = .ok (.ireturn, 1) := by decide +kernel
set_option maxHeartbeats 4000000 in
set_option maxRecDepth 100000 in
theorem c_X_rests {l : Launch} {D : va_G} {cI cJ cC : ClassId} (a_h a_h_now a_h_kept a_h_letters a_h_numbers a_h_refusals a_h_mind a_h_parts a_h_past a_h_seating a_h_now_kinds a_h_now_sweets a_h_now_settings a_h_now_heaps a_h_mind_one a_h_mind_two a_h_mind_one_kinds a_h_mind_one_sweets a_h_mind_one_settings a_h_mind_one_heaps a_h_mind_two_kinds a_h_mind_two_sweets a_h_mind_two_settings a_h_mind_two_heaps : Nat) (y_h_isKept : Int32) (y_h_numberCount : Int32) (y_h_mind_seed : Int32) {z_h_now : RS} {z_h_refusals : (Nat → Int32)} {z_h_mind_one : RS} {z_h_mind_two : RS} {q : Int32 × (Nat → Int32) × RS × RS} (hf : f_X_rests z_h_now z_h_refusals z_h_mind_one z_h_mind_two = some q) : xI l y_X_rests b_X_rests 1 .int 5 111 D (tyK cI cJ cC) xE0 [.ref a_h] (w_X_rests cI cJ cC a_h a_h_now a_h_kept a_h_letters a_h_numbers a_h_refusals a_h_mind a_h_parts a_h_past a_h_seating a_h_now_kinds a_h_now_sweets a_h_now_settings a_h_now_heaps a_h_mind_one a_h_mind_two a_h_mind_one_kinds a_h_mind_one_sweets a_h_mind_one_settings a_h_mind_one_heaps a_h_mind_two_kinds a_h_mind_two_sweets a_h_mind_two_settings a_h_mind_two_heaps y_h_isKept y_h_numberCount y_h_mind_seed (r_children z_h_now) (r_strokes z_h_now) (r_gave z_h_now) (r_threw z_h_now) (r_kinds z_h_now) (r_sweets z_h_now) (r_settings z_h_now) z_h_refusals (r_children z_h_mind_one) (r_strokes z_h_mind_one) (r_gave z_h_mind_one) (r_threw z_h_mind_one) (r_kinds z_h_mind_one) (r_sweets z_h_mind_one) (r_settings z_h_mind_one) (r_heaps z_h_mind_one) (r_children z_h_mind_two) (r_strokes z_h_mind_two) (r_gave z_h_mind_two) (r_threw z_h_mind_two) (r_kinds z_h_mind_two) (r_sweets z_h_mind_two) (r_settings z_h_mind_two) (r_heaps z_h_mind_two)) q.1 (w_X_rests cI cJ cC a_h a_h_now a_h_kept a_h_letters a_h_numbers a_h_refusals a_h_mind a_h_parts a_h_past a_h_seating a_h_now_kinds a_h_now_sweets a_h_now_settings a_h_now_heaps a_h_mind_one a_h_mind_two a_h_mind_one_kinds a_h_mind_one_sweets a_h_mind_one_settings a_h_mind_one_heaps a_h_mind_two_kinds a_h_mind_two_sweets a_h_mind_two_settings a_h_mind_two_heaps y_h_isKept y_h_numberCount y_h_mind_seed (r_children z_h_now) (r_strokes z_h_now) (r_gave z_h_now) (r_threw z_h_now) (r_kinds z_h_now) (r_sweets z_h_now) (r_settings z_h_now) q.2.1 (r_children q.2.2.1) (r_strokes q.2.2.1) (r_gave q.2.2.1) (r_threw q.2.2.1) (r_kinds q.2.2.1) (r_sweets q.2.2.1) (r_settings q.2.2.1) (r_heaps q.2.2.1) (r_children q.2.2.2) (r_strokes q.2.2.2) (r_gave q.2.2.2) (r_threw q.2.2.2) (r_kinds q.2.2.2) (r_sweets q.2.2.2) (r_settings q.2.2.2) (r_heaps q.2.2.2)) := by
  refine xI_of (by decide) (Nat.le_of_ble_eq_true rfl) ?_
  intro p e s m args below meth c A Q hx hb hml hown hT hA hP hD hK hS hE hret ls hl
  have hown : s.vm.findClass R_X = some m.cls := hown
  have hl : lv_has ls 1 [(0, .ref a_h)] := hl
  unfold f_X_rests at hf
  refine lv_aload_n hx hb d_X_rests_0 rfl (lv_at hl 0 rfl) ?_
  refine va_get hx hb hT i_X hown hK hP 0 rfl rfl 0 (Nat.le_of_ble_eq_true rfl) (hT _ k_156) (fun _ h => h) rfl d_X_rests_1 ?_
  refine va_get hx hb hT i_Ring hown hK hP 1 rfl rfl 3 (Nat.le_of_ble_eq_true rfl) (hT _ k_40) (fun _ h => h) rfl d_X_rests_4 ?_
  refine lv_if_ne (tgt := 17) hx hb d_X_rests_7 (by decide) (fun c1 => ?_) (fun c1 => ?_)
  · have hf := io_f hf c1
    refine lv_aload_n hx hb d_X_rests_17 rfl (lv_at hl 0 rfl) ?_
    refine va_get hx hb hT i_X hown hK hP 0 rfl rfl 7 (Nat.le_of_ble_eq_true rfl) (hT _ k_163) (fun _ h => h) rfl d_X_rests_18 ?_
    refine lv_aload_n hx hb d_X_rests_21 rfl (lv_at hl 0 rfl) ?_
    refine va_get hx hb hT i_X hown hK hP 0 rfl rfl 0 (Nat.le_of_ble_eq_true rfl) (hT _ k_156) (fun _ h => h) rfl d_X_rests_22 ?_
    obtain ⟨q2, hq2, hf⟩ := io_b hf
    refine xcVI (wc := (w_Mind_restsBehind cI cJ cC a_h_mind a_h_mind_one a_h_mind_two a_h_mind_one_kinds a_h_mind_one_sweets a_h_mind_one_settings a_h_mind_one_heaps a_h_mind_two_kinds a_h_mind_two_sweets a_h_mind_two_settings a_h_mind_two_heaps a_h_now a_h_now_kinds a_h_now_sweets a_h_now_settings a_h_now_heaps y_h_mind_seed (r_children z_h_mind_one) (r_strokes z_h_mind_one) (r_gave z_h_mind_one) (r_threw z_h_mind_one) (r_kinds z_h_mind_one) (r_sweets z_h_mind_one) (r_settings z_h_mind_one) (r_heaps z_h_mind_one) (r_children z_h_mind_two) (r_strokes z_h_mind_two) (r_gave z_h_mind_two) (r_threw z_h_mind_two) (r_kinds z_h_mind_two) (r_sweets z_h_mind_two) (r_settings z_h_mind_two) (r_heaps z_h_mind_two) (r_children z_h_now) (r_strokes z_h_now) (r_gave z_h_now) (r_threw z_h_now) (r_kinds z_h_now) (r_sweets z_h_now) (r_settings z_h_now))) (wc' := (w_Mind_restsBehind cI cJ cC a_h_mind a_h_mind_one a_h_mind_two a_h_mind_one_kinds a_h_mind_one_sweets a_h_mind_one_settings a_h_mind_one_heaps a_h_mind_two_kinds a_h_mind_two_sweets a_h_mind_two_settings a_h_mind_two_heaps a_h_now a_h_now_kinds a_h_now_sweets a_h_now_settings a_h_now_heaps y_h_mind_seed (r_children q2.2.1) (r_strokes q2.2.1) (r_gave q2.2.1) (r_threw q2.2.1) (r_kinds q2.2.1) (r_sweets q2.2.1) (r_settings q2.2.1) (r_heaps q2.2.1) (r_children q2.2.2) (r_strokes q2.2.2) (r_gave q2.2.2) (r_threw q2.2.2) (r_kinds q2.2.2) (r_sweets q2.2.2) (r_settings q2.2.2) (r_heaps q2.2.2) (r_children z_h_now) (r_strokes z_h_now) (r_gave z_h_now) (r_threw z_h_now) (r_kinds z_h_now) (r_sweets z_h_now) (r_settings z_h_now))) (ws' := (w_X_rests cI cJ cC a_h a_h_now a_h_kept a_h_letters a_h_numbers a_h_refusals a_h_mind a_h_parts a_h_past a_h_seating a_h_now_kinds a_h_now_sweets a_h_now_settings a_h_now_heaps a_h_mind_one a_h_mind_two a_h_mind_one_kinds a_h_mind_one_sweets a_h_mind_one_settings a_h_mind_one_heaps a_h_mind_two_kinds a_h_mind_two_sweets a_h_mind_two_settings a_h_mind_two_heaps y_h_isKept y_h_numberCount y_h_mind_seed (r_children z_h_now) (r_strokes z_h_now) (r_gave z_h_now) (r_threw z_h_now) (r_kinds z_h_now) (r_sweets z_h_now) (r_settings z_h_now) z_h_refusals (r_children q2.2.1) (r_strokes q2.2.1) (r_gave q2.2.1) (r_threw q2.2.1) (r_kinds q2.2.1) (r_sweets q2.2.1) (r_settings q2.2.1) (r_heaps q2.2.1) (r_children q2.2.2) (r_strokes q2.2.2) (r_gave q2.2.2) (r_threw q2.2.2) (r_kinds q2.2.2) (r_sweets q2.2.2) (r_settings q2.2.2) (r_heaps q2.2.2))) (As := [.ref a_h_now]) (rest := []) hx hb hml hown hT (c_Mind_restsBehind (z_h_one := z_h_mind_one) (z_h_two := z_h_mind_two) (z_g1 := z_h_now) a_h_mind a_h_mind_one a_h_mind_two a_h_mind_one_kinds a_h_mind_one_sweets a_h_mind_one_settings a_h_mind_one_heaps a_h_mind_two_kinds a_h_mind_two_sweets a_h_mind_two_settings a_h_mind_two_heaps a_h_now a_h_now_kinds a_h_now_sweets a_h_now_settings a_h_now_heaps y_h_mind_seed hq2) k_280 k_281 k_282 k_4 k_283 hd_Mind_restsBehind ⟨Nat.le_of_ble_eq_true rfl, Nat.le_of_ble_eq_true rfl⟩ xE0_ok trivial hA hK hP hD hS [6, 7, 8, 9, 10, 11, 12, 13, 14, 15, 16, 1, 2, 3, 4] [0, 5] [0, 13, 14, 15, 16, 1, 2, 3, 4, 5, 6, 7, 8, 9, 10, 11, 12] rfl rfl rfl rfl rfl rfl rfl rfl rfl rfl hl.1 rfl (Nat.le_of_ble_eq_true rfl) ⟨Nat.zero_le _, Nat.zero_le _⟩ d_X_rests_25 (fun H locs hP hD hS => ?_)
    have hq := Option.some.inj hf
    subst hq
    exact hret _ _ _ _ _ d_X_rests_28 rfl rfl hP hD hS
  · have hf := io_t hf c1
    refine lv_aload_n hx hb d_X_rests_10 rfl (lv_at hl 0 rfl) ?_
    refine lv_bipush (v := (-3)) hx hb d_X_rests_11 (by decide) ?_
    obtain ⟨q3, hq3, hf⟩ := io_b hf
    refine xcVI (wc := (w_X_refuse cI cJ cC a_h a_h_now a_h_kept a_h_letters a_h_numbers a_h_refusals a_h_mind a_h_parts a_h_past a_h_seating y_h_isKept y_h_numberCount z_h_refusals)) (wc' := (w_X_refuse cI cJ cC a_h a_h_now a_h_kept a_h_letters a_h_numbers a_h_refusals a_h_mind a_h_parts a_h_past a_h_seating y_h_isKept y_h_numberCount q3.2)) (ws' := (w_X_rests cI cJ cC a_h a_h_now a_h_kept a_h_letters a_h_numbers a_h_refusals a_h_mind a_h_parts a_h_past a_h_seating a_h_now_kinds a_h_now_sweets a_h_now_settings a_h_now_heaps a_h_mind_one a_h_mind_two a_h_mind_one_kinds a_h_mind_one_sweets a_h_mind_one_settings a_h_mind_one_heaps a_h_mind_two_kinds a_h_mind_two_sweets a_h_mind_two_settings a_h_mind_two_heaps y_h_isKept y_h_numberCount y_h_mind_seed (r_children z_h_now) (r_strokes z_h_now) (r_gave z_h_now) (r_threw z_h_now) (r_kinds z_h_now) (r_sweets z_h_now) (r_settings z_h_now) q3.2 (r_children z_h_mind_one) (r_strokes z_h_mind_one) (r_gave z_h_mind_one) (r_threw z_h_mind_one) (r_kinds z_h_mind_one) (r_sweets z_h_mind_one) (r_settings z_h_mind_one) (r_heaps z_h_mind_one) (r_children z_h_mind_two) (r_strokes z_h_mind_two) (r_gave z_h_mind_two) (r_threw z_h_mind_two) (r_kinds z_h_mind_two) (r_sweets z_h_mind_two) (r_settings z_h_mind_two) (r_heaps z_h_mind_two))) (As := [.int (-3)]) (rest := []) hx hb hml hown hT (c_X_refuse (z_h_refusals := z_h_refusals) a_h a_h_now a_h_kept a_h_letters a_h_numbers a_h_refusals a_h_mind a_h_parts a_h_past a_h_seating y_h_isKept y_h_numberCount hq3) k_198 k_200 ks_0 k_1 k_201 hd_X_refuse ⟨Nat.le_of_ble_eq_true rfl, Nat.le_of_ble_eq_true rfl⟩ xE0_ok trivial hA hK hP hD hS [0, 5] [1, 2, 3, 4, 6, 7, 8, 9, 10, 11, 12, 13, 14, 15, 16] [15, 0, 1, 2, 3, 16, 4, 5, 6, 7, 8, 9, 10, 11, 12, 13, 14] rfl rfl rfl rfl rfl rfl rfl rfl rfl rfl hl.1 rfl (Nat.le_of_ble_eq_true rfl) ⟨Nat.zero_le _, Nat.zero_le _⟩ d_X_rests_13 (fun H locs hP hD hS => ?_)
    have hq := Option.some.inj hf
    subst hq
    exact hret _ _ _ _ _ d_X_rests_16 rfl rfl hP hD hS
abbrev w_X_alike (cI cJ cC : ClassId) (a_h a_h_now a_h_kept a_h_letters a_h_numbers a_h_refusals a_h_mind a_h_parts a_h_past a_h_seating a_h_now_kinds a_h_now_sweets a_h_now_settings a_h_now_heaps a_h_mind_one a_h_mind_two a_h_mind_one_kinds a_h_mind_one_sweets a_h_mind_one_settings a_h_mind_one_heaps : Nat) (y_h_isKept : Int32) (y_h_numberCount : Int32) (y_h_mind_seed : Int32) (p_h_now_children : Int32) (p_h_now_strokes : Int32) (p_h_now_gave : Int32) (p_h_now_threw : Int32) (p_h_now_kinds : (Nat → Int32)) (p_h_now_sweets : (Nat → Int32)) (p_h_now_settings : (Nat → Int32)) (p_h_refusals : (Nat → Int32)) (p_h_mind_one_children : Int32) (p_h_mind_one_strokes : Int32) (p_h_mind_one_gave : Int32) (p_h_mind_one_threw : Int32) (p_h_mind_one_kinds : (Nat → Int32)) (p_h_mind_one_sweets : (Nat → Int32)) (p_h_mind_one_settings : (Nat → Int32)) (p_h_mind_one_heaps : (Nat → Int32)) : va_W := [(a_h, .inr (0, [.ref a_h_now, .ref a_h_kept, .int y_h_isKept, .ref a_h_letters, .ref a_h_numbers, .int y_h_numberCount, .ref a_h_refusals, .ref a_h_mind, .ref a_h_parts, .ref a_h_past, .ref a_h_seating])), (a_h_now, .inr (1, [.ref a_h_now_kinds, .ref a_h_now_sweets, .ref a_h_now_settings, .int p_h_now_children, .int p_h_now_strokes, .int p_h_now_gave, .int p_h_now_threw, .ref a_h_now_heaps])), (a_h_now_kinds, .inl (cI, (8, .inl p_h_now_kinds))), (a_h_now_sweets, .inl (cI, (8, .inl p_h_now_sweets))), (a_h_now_settings, .inl (cI, (3, .inl p_h_now_settings))), (a_h_refusals, .inl (cI, (7, .inl p_h_refusals))), (a_h_mind, .inr (3, [.ref a_h_mind_one, .ref a_h_mind_two, .int y_h_mind_seed])), (a_h_mind_one, .inr (1, [.ref a_h_mind_one_kinds, .ref a_h_mind_one_sweets, .ref a_h_mind_one_settings, .int p_h_mind_one_children, .int p_h_mind_one_strokes, .int p_h_mind_one_gave, .int p_h_mind_one_threw, .ref a_h_mind_one_heaps])), (a_h_mind_one_kinds, .inl (cI, (8, .inl p_h_mind_one_kinds))), (a_h_mind_one_sweets, .inl (cI, (8, .inl p_h_mind_one_sweets))), (a_h_mind_one_settings, .inl (cI, (3, .inl p_h_mind_one_settings))), (a_h_mind_one_heaps, .inl (cI, (8, .inl p_h_mind_one_heaps)))]
theorem d_X_alike_0 : decode b_X_alike 0 = .ok (.aload_n 0, 1) := by decide +kernel
theorem d_X_alike_1 : decode b_X_alike 1 = .ok (.getfield 10, 3) := by decide +kernel
theorem d_X_alike_4 : decode b_X_alike 4 = .ok (.getfield 121, 3) := by decide +kernel
theorem d_X_alike_7 : decode b_X_alike 7 = .ok (.ifCond .ne 10, 3) := by decide +kernel
theorem d_X_alike_10 : decode b_X_alike 10 = .ok (.aload_n 0, 1) := by decide +kernel
theorem d_X_alike_11 : decode b_X_alike 11 = .ok (.bipush (-3), 2) := by decide +kernel
theorem d_X_alike_13 : decode b_X_alike 13 = .ok (.invokevirtual 69, 3) := by decide +kernel
theorem d_X_alike_16 : decode b_X_alike 16 = .ok (.ireturn, 1) := by decide +kernel
theorem d_X_alike_17 : decode b_X_alike 17 = .ok (.aload_n 0, 1) := by decide +kernel
theorem d_X_alike_18 : decode b_X_alike 18 = .ok (.getfield 44, 3) := by decide +kernel
theorem d_X_alike_21 : decode b_X_alike 21 = .ok (.aload_n 0, 1) := by decide +kernel
theorem d_X_alike_22 : decode b_X_alike 22 = .ok (.getfield 10, 3) := by decide +kernel
theorem d_X_alike_25 : decode b_X_alike 25 = .ok (.invokevirtual 145, 3) := by decide +kernel
theorem d_X_alike_28 : decode b_X_alike 28 = .ok (.ireturn, 1) := by decide +kernel
set_option maxHeartbeats 4000000 in
set_option maxRecDepth 100000 in
theorem c_X_alike {l : Launch} {D : va_G} {cI cJ cC : ClassId} (a_h a_h_now a_h_kept a_h_letters a_h_numbers a_h_refusals a_h_mind a_h_parts a_h_past a_h_seating a_h_now_kinds a_h_now_sweets a_h_now_settings a_h_now_heaps a_h_mind_one a_h_mind_two a_h_mind_one_kinds a_h_mind_one_sweets a_h_mind_one_settings a_h_mind_one_heaps : Nat) (y_h_isKept : Int32) (y_h_numberCount : Int32) (y_h_mind_seed : Int32) {z_h_now : RS} {z_h_refusals : (Nat → Int32)} {z_h_mind_one : RS} {q : Int32 × (Nat → Int32) × RS} (hf : f_X_alike z_h_now z_h_refusals z_h_mind_one = some q) : xI l y_X_alike b_X_alike 1 .int 6 132 D (tyK cI cJ cC) xE0 [.ref a_h] (w_X_alike cI cJ cC a_h a_h_now a_h_kept a_h_letters a_h_numbers a_h_refusals a_h_mind a_h_parts a_h_past a_h_seating a_h_now_kinds a_h_now_sweets a_h_now_settings a_h_now_heaps a_h_mind_one a_h_mind_two a_h_mind_one_kinds a_h_mind_one_sweets a_h_mind_one_settings a_h_mind_one_heaps y_h_isKept y_h_numberCount y_h_mind_seed (r_children z_h_now) (r_strokes z_h_now) (r_gave z_h_now) (r_threw z_h_now) (r_kinds z_h_now) (r_sweets z_h_now) (r_settings z_h_now) z_h_refusals (r_children z_h_mind_one) (r_strokes z_h_mind_one) (r_gave z_h_mind_one) (r_threw z_h_mind_one) (r_kinds z_h_mind_one) (r_sweets z_h_mind_one) (r_settings z_h_mind_one) (r_heaps z_h_mind_one)) q.1 (w_X_alike cI cJ cC a_h a_h_now a_h_kept a_h_letters a_h_numbers a_h_refusals a_h_mind a_h_parts a_h_past a_h_seating a_h_now_kinds a_h_now_sweets a_h_now_settings a_h_now_heaps a_h_mind_one a_h_mind_two a_h_mind_one_kinds a_h_mind_one_sweets a_h_mind_one_settings a_h_mind_one_heaps y_h_isKept y_h_numberCount y_h_mind_seed (r_children z_h_now) (r_strokes z_h_now) (r_gave z_h_now) (r_threw z_h_now) (r_kinds z_h_now) (r_sweets z_h_now) (r_settings z_h_now) q.2.1 (r_children q.2.2) (r_strokes q.2.2) (r_gave q.2.2) (r_threw q.2.2) (r_kinds q.2.2) (r_sweets q.2.2) (r_settings q.2.2) (r_heaps q.2.2)) := by
  refine xI_of (by decide) (Nat.le_of_ble_eq_true rfl) ?_
  intro p e s m args below meth c A Q hx hb hml hown hT hA hP hD hK hS hE hret ls hl
  have hown : s.vm.findClass R_X = some m.cls := hown
  have hl : lv_has ls 1 [(0, .ref a_h)] := hl
  unfold f_X_alike at hf
  refine lv_aload_n hx hb d_X_alike_0 rfl (lv_at hl 0 rfl) ?_
  refine va_get hx hb hT i_X hown hK hP 0 rfl rfl 0 (Nat.le_of_ble_eq_true rfl) (hT _ k_156) (fun _ h => h) rfl d_X_alike_1 ?_
  refine va_get hx hb hT i_Ring hown hK hP 1 rfl rfl 3 (Nat.le_of_ble_eq_true rfl) (hT _ k_40) (fun _ h => h) rfl d_X_alike_4 ?_
  refine lv_if_ne (tgt := 17) hx hb d_X_alike_7 (by decide) (fun c1 => ?_) (fun c1 => ?_)
  · have hf := io_f hf c1
    refine lv_aload_n hx hb d_X_alike_17 rfl (lv_at hl 0 rfl) ?_
    refine va_get hx hb hT i_X hown hK hP 0 rfl rfl 7 (Nat.le_of_ble_eq_true rfl) (hT _ k_163) (fun _ h => h) rfl d_X_alike_18 ?_
    refine lv_aload_n hx hb d_X_alike_21 rfl (lv_at hl 0 rfl) ?_
    refine va_get hx hb hT i_X hown hK hP 0 rfl rfl 0 (Nat.le_of_ble_eq_true rfl) (hT _ k_156) (fun _ h => h) rfl d_X_alike_22 ?_
    obtain ⟨q2, hq2, hf⟩ := io_b hf
    refine xcVI (wc := (w_Mind_alikeBehind cI cJ cC a_h_mind a_h_mind_one a_h_mind_two a_h_mind_one_kinds a_h_mind_one_sweets a_h_mind_one_settings a_h_mind_one_heaps a_h_now a_h_now_kinds a_h_now_sweets a_h_now_settings a_h_now_heaps y_h_mind_seed (r_children z_h_mind_one) (r_strokes z_h_mind_one) (r_gave z_h_mind_one) (r_threw z_h_mind_one) (r_kinds z_h_mind_one) (r_sweets z_h_mind_one) (r_settings z_h_mind_one) (r_heaps z_h_mind_one) (r_children z_h_now) (r_strokes z_h_now) (r_gave z_h_now) (r_threw z_h_now) (r_kinds z_h_now) (r_sweets z_h_now) (r_settings z_h_now))) (wc' := (w_Mind_alikeBehind cI cJ cC a_h_mind a_h_mind_one a_h_mind_two a_h_mind_one_kinds a_h_mind_one_sweets a_h_mind_one_settings a_h_mind_one_heaps a_h_now a_h_now_kinds a_h_now_sweets a_h_now_settings a_h_now_heaps y_h_mind_seed (r_children q2.2) (r_strokes q2.2) (r_gave q2.2) (r_threw q2.2) (r_kinds q2.2) (r_sweets q2.2) (r_settings q2.2) (r_heaps q2.2) (r_children z_h_now) (r_strokes z_h_now) (r_gave z_h_now) (r_threw z_h_now) (r_kinds z_h_now) (r_sweets z_h_now) (r_settings z_h_now))) (ws' := (w_X_alike cI cJ cC a_h a_h_now a_h_kept a_h_letters a_h_numbers a_h_refusals a_h_mind a_h_parts a_h_past a_h_seating a_h_now_kinds a_h_now_sweets a_h_now_settings a_h_now_heaps a_h_mind_one a_h_mind_two a_h_mind_one_kinds a_h_mind_one_sweets a_h_mind_one_settings a_h_mind_one_heaps y_h_isKept y_h_numberCount y_h_mind_seed (r_children z_h_now) (r_strokes z_h_now) (r_gave z_h_now) (r_threw z_h_now) (r_kinds z_h_now) (r_sweets z_h_now) (r_settings z_h_now) z_h_refusals (r_children q2.2) (r_strokes q2.2) (r_gave q2.2) (r_threw q2.2) (r_kinds q2.2) (r_sweets q2.2) (r_settings q2.2) (r_heaps q2.2))) (As := [.ref a_h_now]) (rest := []) hx hb hml hown hT (c_Mind_alikeBehind (z_h_one := z_h_mind_one) (z_g1 := z_h_now) a_h_mind a_h_mind_one a_h_mind_two a_h_mind_one_kinds a_h_mind_one_sweets a_h_mind_one_settings a_h_mind_one_heaps a_h_now a_h_now_kinds a_h_now_sweets a_h_now_settings a_h_now_heaps y_h_mind_seed hq2) k_293 k_294 k_295 k_4 k_296 hd_Mind_alikeBehind ⟨Nat.le_of_ble_eq_true rfl, Nat.le_of_ble_eq_true rfl⟩ xE0_ok trivial hA hK hP hD hS [6, 7, 8, 9, 10, 11, 1, 2, 3, 4] [0, 5] [0, 8, 9, 10, 11, 1, 2, 3, 4, 5, 6, 7] rfl rfl rfl rfl rfl rfl rfl rfl rfl rfl hl.1 rfl (Nat.le_of_ble_eq_true rfl) ⟨Nat.zero_le _, Nat.zero_le _⟩ d_X_alike_25 (fun H locs hP hD hS => ?_)
    have hq := Option.some.inj hf
    subst hq
    exact hret _ _ _ _ _ d_X_alike_28 rfl rfl hP hD hS
  · have hf := io_t hf c1
    refine lv_aload_n hx hb d_X_alike_10 rfl (lv_at hl 0 rfl) ?_
    refine lv_bipush (v := (-3)) hx hb d_X_alike_11 (by decide) ?_
    obtain ⟨q3, hq3, hf⟩ := io_b hf
    refine xcVI (wc := (w_X_refuse cI cJ cC a_h a_h_now a_h_kept a_h_letters a_h_numbers a_h_refusals a_h_mind a_h_parts a_h_past a_h_seating y_h_isKept y_h_numberCount z_h_refusals)) (wc' := (w_X_refuse cI cJ cC a_h a_h_now a_h_kept a_h_letters a_h_numbers a_h_refusals a_h_mind a_h_parts a_h_past a_h_seating y_h_isKept y_h_numberCount q3.2)) (ws' := (w_X_alike cI cJ cC a_h a_h_now a_h_kept a_h_letters a_h_numbers a_h_refusals a_h_mind a_h_parts a_h_past a_h_seating a_h_now_kinds a_h_now_sweets a_h_now_settings a_h_now_heaps a_h_mind_one a_h_mind_two a_h_mind_one_kinds a_h_mind_one_sweets a_h_mind_one_settings a_h_mind_one_heaps y_h_isKept y_h_numberCount y_h_mind_seed (r_children z_h_now) (r_strokes z_h_now) (r_gave z_h_now) (r_threw z_h_now) (r_kinds z_h_now) (r_sweets z_h_now) (r_settings z_h_now) q3.2 (r_children z_h_mind_one) (r_strokes z_h_mind_one) (r_gave z_h_mind_one) (r_threw z_h_mind_one) (r_kinds z_h_mind_one) (r_sweets z_h_mind_one) (r_settings z_h_mind_one) (r_heaps z_h_mind_one))) (As := [.int (-3)]) (rest := []) hx hb hml hown hT (c_X_refuse (z_h_refusals := z_h_refusals) a_h a_h_now a_h_kept a_h_letters a_h_numbers a_h_refusals a_h_mind a_h_parts a_h_past a_h_seating y_h_isKept y_h_numberCount hq3) k_198 k_200 ks_0 k_1 k_201 hd_X_refuse ⟨Nat.le_of_ble_eq_true rfl, Nat.le_of_ble_eq_true rfl⟩ xE0_ok trivial hA hK hP hD hS [0, 5] [1, 2, 3, 4, 6, 7, 8, 9, 10, 11] [10, 0, 1, 2, 3, 11, 4, 5, 6, 7, 8, 9] rfl rfl rfl rfl rfl rfl rfl rfl rfl rfl hl.1 rfl (Nat.le_of_ble_eq_true rfl) ⟨Nat.zero_le _, Nat.zero_le _⟩ d_X_alike_13 (fun H locs hP hD hS => ?_)
    have hq := Option.some.inj hf
    subst hq
    exact hret _ _ _ _ _ d_X_alike_16 rfl rfl hP hD hS
abbrev w_X_ring (cI cJ cC : ClassId) (a_h a_h_now a_h_kept a_h_letters a_h_numbers a_h_refusals a_h_mind a_h_parts a_h_past a_h_seating a_h_now_kinds a_h_now_sweets a_h_now_settings a_h_now_heaps a_h_mind_one a_h_mind_two a_h_mind_one_kinds a_h_mind_one_sweets a_h_mind_one_settings a_h_mind_one_heaps a_h_mind_two_kinds a_h_mind_two_sweets a_h_mind_two_settings a_h_mind_two_heaps : Nat) (y_h_isKept : Int32) (y_h_numberCount : Int32) (y_h_mind_seed : Int32) (p_h_now_children : Int32) (p_h_now_strokes : Int32) (p_h_now_gave : Int32) (p_h_now_threw : Int32) (p_h_now_kinds : (Nat → Int32)) (p_h_now_sweets : (Nat → Int32)) (p_h_now_settings : (Nat → Int32)) (p_h_refusals : (Nat → Int32)) (p_h_mind_one_children : Int32) (p_h_mind_one_strokes : Int32) (p_h_mind_one_gave : Int32) (p_h_mind_one_threw : Int32) (p_h_mind_one_kinds : (Nat → Int32)) (p_h_mind_one_sweets : (Nat → Int32)) (p_h_mind_one_settings : (Nat → Int32)) (p_h_mind_one_heaps : (Nat → Int32)) (p_h_mind_two_children : Int32) (p_h_mind_two_strokes : Int32) (p_h_mind_two_gave : Int32) (p_h_mind_two_threw : Int32) (p_h_mind_two_kinds : (Nat → Int32)) (p_h_mind_two_sweets : (Nat → Int32)) (p_h_mind_two_settings : (Nat → Int32)) (p_h_mind_two_heaps : (Nat → Int32)) : va_W := [(a_h, .inr (0, [.ref a_h_now, .ref a_h_kept, .int y_h_isKept, .ref a_h_letters, .ref a_h_numbers, .int y_h_numberCount, .ref a_h_refusals, .ref a_h_mind, .ref a_h_parts, .ref a_h_past, .ref a_h_seating])), (a_h_now, .inr (1, [.ref a_h_now_kinds, .ref a_h_now_sweets, .ref a_h_now_settings, .int p_h_now_children, .int p_h_now_strokes, .int p_h_now_gave, .int p_h_now_threw, .ref a_h_now_heaps])), (a_h_now_kinds, .inl (cI, (8, .inl p_h_now_kinds))), (a_h_now_sweets, .inl (cI, (8, .inl p_h_now_sweets))), (a_h_now_settings, .inl (cI, (3, .inl p_h_now_settings))), (a_h_refusals, .inl (cI, (7, .inl p_h_refusals))), (a_h_mind, .inr (3, [.ref a_h_mind_one, .ref a_h_mind_two, .int y_h_mind_seed])), (a_h_mind_one, .inr (1, [.ref a_h_mind_one_kinds, .ref a_h_mind_one_sweets, .ref a_h_mind_one_settings, .int p_h_mind_one_children, .int p_h_mind_one_strokes, .int p_h_mind_one_gave, .int p_h_mind_one_threw, .ref a_h_mind_one_heaps])), (a_h_mind_one_kinds, .inl (cI, (8, .inl p_h_mind_one_kinds))), (a_h_mind_one_sweets, .inl (cI, (8, .inl p_h_mind_one_sweets))), (a_h_mind_one_settings, .inl (cI, (3, .inl p_h_mind_one_settings))), (a_h_mind_one_heaps, .inl (cI, (8, .inl p_h_mind_one_heaps))), (a_h_mind_two, .inr (1, [.ref a_h_mind_two_kinds, .ref a_h_mind_two_sweets, .ref a_h_mind_two_settings, .int p_h_mind_two_children, .int p_h_mind_two_strokes, .int p_h_mind_two_gave, .int p_h_mind_two_threw, .ref a_h_mind_two_heaps])), (a_h_mind_two_kinds, .inl (cI, (8, .inl p_h_mind_two_kinds))), (a_h_mind_two_sweets, .inl (cI, (8, .inl p_h_mind_two_sweets))), (a_h_mind_two_settings, .inl (cI, (3, .inl p_h_mind_two_settings))), (a_h_mind_two_heaps, .inl (cI, (8, .inl p_h_mind_two_heaps)))]
theorem d_X_ring_0 : decode b_X_ring 0 = .ok (.iload_n 1, 1) := by decide +kernel
theorem d_X_ring_1 : decode b_X_ring 1 = .ok (.invokestatic 132, 3) := by decide +kernel
theorem d_X_ring_4 : decode b_X_ring 4 = .ok (.ifCond .ne 10, 3) := by decide +kernel
theorem d_X_ring_7 : decode b_X_ring 7 = .ok (.aload_n 0, 1) := by decide +kernel
theorem d_X_ring_8 : decode b_X_ring 8 = .ok (.bipush (-2), 2) := by decide +kernel
theorem d_X_ring_10 : decode b_X_ring 10 = .ok (.invokevirtual 69, 3) := by decide +kernel
theorem d_X_ring_13 : decode b_X_ring 13 = .ok (.ireturn, 1) := by decide +kernel
theorem d_X_ring_14 : decode b_X_ring 14 = .ok (.aload_n 0, 1) := by decide +kernel
theorem d_X_ring_15 : decode b_X_ring 15 = .ok (.getfield 10, 3) := by decide +kernel
theorem d_X_ring_18 : decode b_X_ring 18 = .ok (.getfield 121, 3) := by decide +kernel
theorem d_X_ring_21 : decode b_X_ring 21 = .ok (.ifCond .ne 10, 3) := by decide +kernel
theorem d_X_ring_24 : decode b_X_ring 24 = .ok (.aload_n 0, 1) := by decide +kernel
theorem d_X_ring_25 : decode b_X_ring 25 = .ok (.bipush (-3), 2) := by decide +kernel
theorem d_X_ring_27 : decode b_X_ring 27 = .ok (.invokevirtual 69, 3) := by decide +kernel
theorem d_X_ring_30 : decode b_X_ring 30 = .ok (.ireturn, 1) := by decide +kernel
theorem d_X_ring_31 : decode b_X_ring 31 = .ok (.aload_n 0, 1) := by decide +kernel
theorem d_X_ring_32 : decode b_X_ring 32 = .ok (.getfield 44, 3) := by decide +kernel
theorem d_X_ring_35 : decode b_X_ring 35 = .ok (.aload_n 0, 1) := by decide +kernel
theorem d_X_ring_36 : decode b_X_ring 36 = .ok (.getfield 10, 3) := by decide +kernel
theorem d_X_ring_39 : decode b_X_ring 39 = .ok (.invokevirtual 148, 3) := by decide +kernel
theorem d_X_ring_42 : decode b_X_ring 42 = .ok (.istore_n 2, 1) := by decide +kernel
theorem d_X_ring_43 : decode b_X_ring 43 = .ok (.iload_n 2, 1) := by decide +kernel
theorem d_X_ring_44 : decode b_X_ring 44 = .ok (.bipush (-9), 2) := by decide +kernel
theorem d_X_ring_46 : decode b_X_ring 46 = .ok (.if_icmp .eq 8, 3) := by decide +kernel
theorem d_X_ring_49 : decode b_X_ring 49 = .ok (.iload_n 1, 1) := by decide +kernel
theorem d_X_ring_50 : decode b_X_ring 50 = .ok (.iconst 1, 1) := by decide +kernel
theorem d_X_ring_51 : decode b_X_ring 51 = .ok (.if_icmp .ne 5, 3) := by decide +kernel
theorem d_X_ring_54 : decode b_X_ring 54 = .ok (.iload_n 2, 1) := by decide +kernel
theorem d_X_ring_55 : decode b_X_ring 55 = .ok (.ireturn, 1) := by decide +kernel
theorem d_X_ring_56 : decode b_X_ring 56 = .ok (.aload_n 0, 1) := by decide +kernel
theorem d_X_ring_57 : decode b_X_ring 57 = .ok (.getfield 44, 3) := by decide +kernel
theorem d_X_ring_60 : decode b_X_ring 60 = .ok (.aload_n 0, 1) := by decide +kernel
theorem d_X_ring_61 : decode b_X_ring 61 = .ok (.getfield 10, 3) := by decide +kernel
theorem d_X_ring_64 : decode b_X_ring 64 = .ok (.iload_n 2, 1) := by decide +kernel
theorem d_X_ring_65 : decode b_X_ring 65 = .ok (.invokevirtual 151, 3) := by decide +kernel
theorem d_X_ring_68 : decode b_X_ring 68 = .ok (.ireturn, 1) := by decide +kernel
set_option maxHeartbeats 4000000 in
set_option maxRecDepth 100000 in
theorem c_X_ring {l : Launch} {D : va_G} {cI cJ cC : ClassId} (a_h a_h_now a_h_kept a_h_letters a_h_numbers a_h_refusals a_h_mind a_h_parts a_h_past a_h_seating a_h_now_kinds a_h_now_sweets a_h_now_settings a_h_now_heaps a_h_mind_one a_h_mind_two a_h_mind_one_kinds a_h_mind_one_sweets a_h_mind_one_settings a_h_mind_one_heaps a_h_mind_two_kinds a_h_mind_two_sweets a_h_mind_two_settings a_h_mind_two_heaps : Nat) (y_h_isKept : Int32) (y_h_numberCount : Int32) (y_h_mind_seed : Int32) {z_h_now : RS} {z_h_refusals : (Nat → Int32)} {z_h_mind_one : RS} {z_h_mind_two : RS} {x1 : Int32} {q : Int32 × (Nat → Int32) × RS × RS} (hf : f_X_ring z_h_now z_h_refusals z_h_mind_one z_h_mind_two x1 = some q) : xI l y_X_ring b_X_ring 3 .int 6 134 D (tyK cI cJ cC) xE0 [.ref a_h, .int x1] (w_X_ring cI cJ cC a_h a_h_now a_h_kept a_h_letters a_h_numbers a_h_refusals a_h_mind a_h_parts a_h_past a_h_seating a_h_now_kinds a_h_now_sweets a_h_now_settings a_h_now_heaps a_h_mind_one a_h_mind_two a_h_mind_one_kinds a_h_mind_one_sweets a_h_mind_one_settings a_h_mind_one_heaps a_h_mind_two_kinds a_h_mind_two_sweets a_h_mind_two_settings a_h_mind_two_heaps y_h_isKept y_h_numberCount y_h_mind_seed (r_children z_h_now) (r_strokes z_h_now) (r_gave z_h_now) (r_threw z_h_now) (r_kinds z_h_now) (r_sweets z_h_now) (r_settings z_h_now) z_h_refusals (r_children z_h_mind_one) (r_strokes z_h_mind_one) (r_gave z_h_mind_one) (r_threw z_h_mind_one) (r_kinds z_h_mind_one) (r_sweets z_h_mind_one) (r_settings z_h_mind_one) (r_heaps z_h_mind_one) (r_children z_h_mind_two) (r_strokes z_h_mind_two) (r_gave z_h_mind_two) (r_threw z_h_mind_two) (r_kinds z_h_mind_two) (r_sweets z_h_mind_two) (r_settings z_h_mind_two) (r_heaps z_h_mind_two)) q.1 (w_X_ring cI cJ cC a_h a_h_now a_h_kept a_h_letters a_h_numbers a_h_refusals a_h_mind a_h_parts a_h_past a_h_seating a_h_now_kinds a_h_now_sweets a_h_now_settings a_h_now_heaps a_h_mind_one a_h_mind_two a_h_mind_one_kinds a_h_mind_one_sweets a_h_mind_one_settings a_h_mind_one_heaps a_h_mind_two_kinds a_h_mind_two_sweets a_h_mind_two_settings a_h_mind_two_heaps y_h_isKept y_h_numberCount y_h_mind_seed (r_children z_h_now) (r_strokes z_h_now) (r_gave z_h_now) (r_threw z_h_now) (r_kinds z_h_now) (r_sweets z_h_now) (r_settings z_h_now) q.2.1 (r_children q.2.2.1) (r_strokes q.2.2.1) (r_gave q.2.2.1) (r_threw q.2.2.1) (r_kinds q.2.2.1) (r_sweets q.2.2.1) (r_settings q.2.2.1) (r_heaps q.2.2.1) (r_children q.2.2.2) (r_strokes q.2.2.2) (r_gave q.2.2.2) (r_threw q.2.2.2) (r_kinds q.2.2.2) (r_sweets q.2.2.2) (r_settings q.2.2.2) (r_heaps q.2.2.2)) := by
  refine xI_of (by decide) (Nat.le_of_ble_eq_true rfl) ?_
  intro p e s m args below meth c A Q hx hb hml hown hT hA hP hD hK hS hE hret ls hl
  have hown : s.vm.findClass R_X = some m.cls := hown
  have hl : lv_has ls 3 [(0, .ref a_h), (1, .int x1)] := hl
  unfold f_X_ring at hf
  refine lv_iload_n hx hb d_X_ring_0 rfl (lv_at hl 1 rfl) ?_
  obtain ⟨q1, hq1, hf⟩ := io_b hf
  refine xcSI (wc := []) (wc' := []) (ws' := (w_X_ring cI cJ cC a_h a_h_now a_h_kept a_h_letters a_h_numbers a_h_refusals a_h_mind a_h_parts a_h_past a_h_seating a_h_now_kinds a_h_now_sweets a_h_now_settings a_h_now_heaps a_h_mind_one a_h_mind_two a_h_mind_one_kinds a_h_mind_one_sweets a_h_mind_one_settings a_h_mind_one_heaps a_h_mind_two_kinds a_h_mind_two_sweets a_h_mind_two_settings a_h_mind_two_heaps y_h_isKept y_h_numberCount y_h_mind_seed (r_children z_h_now) (r_strokes z_h_now) (r_gave z_h_now) (r_threw z_h_now) (r_kinds z_h_now) (r_sweets z_h_now) (r_settings z_h_now) z_h_refusals (r_children z_h_mind_one) (r_strokes z_h_mind_one) (r_gave z_h_mind_one) (r_threw z_h_mind_one) (r_kinds z_h_mind_one) (r_sweets z_h_mind_one) (r_settings z_h_mind_one) (r_heaps z_h_mind_one) (r_children z_h_mind_two) (r_strokes z_h_mind_two) (r_gave z_h_mind_two) (r_threw z_h_mind_two) (r_kinds z_h_mind_two) (r_sweets z_h_mind_two) (r_settings z_h_mind_two) (r_heaps z_h_mind_two))) (As := [.int x1]) (rest := []) hx hb hml hown hT (c_X_isPart hq1) k_265 k_266 k_1 k_267 hd_X_isPart ⟨Nat.le_of_ble_eq_true rfl, Nat.le_of_ble_eq_true rfl⟩ xE0_ok trivial hA hK hP hD hS [] [0, 1, 2, 3, 4, 5, 6, 7, 8, 9, 10, 11, 12, 13, 14, 15, 16] [0, 1, 2, 3, 4, 5, 6, 7, 8, 9, 10, 11, 12, 13, 14, 15, 16] rfl rfl rfl rfl rfl rfl rfl hl.1 rfl (Nat.le_of_ble_eq_true rfl) ⟨Nat.zero_le _, Nat.zero_le _⟩ d_X_ring_1 (fun H locs hP hD hS => ?_)
  refine lv_if_ne (tgt := 14) hx hb d_X_ring_4 (by decide) (fun c2 => ?_) (fun c2 => ?_)
  · have hf := io_f hf c2
    refine lv_aload_n hx hb d_X_ring_14 rfl (lv_at hl 0 rfl) ?_
    refine va_get hx hb hT i_X hown hK hP 0 rfl rfl 0 (Nat.le_of_ble_eq_true rfl) (hT _ k_156) (fun _ h => h) rfl d_X_ring_15 ?_
    refine va_get hx hb hT i_Ring hown hK hP 1 rfl rfl 3 (Nat.le_of_ble_eq_true rfl) (hT _ k_40) (fun _ h => h) rfl d_X_ring_18 ?_
    refine lv_if_ne (tgt := 31) hx hb d_X_ring_21 (by decide) (fun c3 => ?_) (fun c3 => ?_)
    · have hf := io_f hf c3
      refine lv_aload_n hx hb d_X_ring_31 rfl (lv_at hl 0 rfl) ?_
      refine va_get hx hb hT i_X hown hK hP 0 rfl rfl 7 (Nat.le_of_ble_eq_true rfl) (hT _ k_163) (fun _ h => h) rfl d_X_ring_32 ?_
      refine lv_aload_n hx hb d_X_ring_35 rfl (lv_at hl 0 rfl) ?_
      refine va_get hx hb hT i_X hown hK hP 0 rfl rfl 0 (Nat.le_of_ble_eq_true rfl) (hT _ k_156) (fun _ h => h) rfl d_X_ring_36 ?_
      obtain ⟨q4, hq4, hf⟩ := io_b hf
      refine xcVI (wc := (w_Mind_roundOf cI cJ cC a_h_mind a_h_mind_one a_h_mind_two a_h_mind_one_kinds a_h_mind_one_sweets a_h_mind_one_settings a_h_mind_one_heaps a_h_mind_two_kinds a_h_mind_two_sweets a_h_mind_two_settings a_h_mind_two_heaps a_h_now a_h_now_kinds a_h_now_sweets a_h_now_settings a_h_now_heaps y_h_mind_seed (r_children z_h_mind_one) (r_strokes z_h_mind_one) (r_gave z_h_mind_one) (r_threw z_h_mind_one) (r_kinds z_h_mind_one) (r_sweets z_h_mind_one) (r_settings z_h_mind_one) (r_heaps z_h_mind_one) (r_children z_h_mind_two) (r_strokes z_h_mind_two) (r_gave z_h_mind_two) (r_threw z_h_mind_two) (r_kinds z_h_mind_two) (r_sweets z_h_mind_two) (r_settings z_h_mind_two) (r_heaps z_h_mind_two) (r_children z_h_now) (r_strokes z_h_now) (r_gave z_h_now) (r_threw z_h_now) (r_kinds z_h_now) (r_sweets z_h_now) (r_settings z_h_now))) (wc' := (w_Mind_roundOf cI cJ cC a_h_mind a_h_mind_one a_h_mind_two a_h_mind_one_kinds a_h_mind_one_sweets a_h_mind_one_settings a_h_mind_one_heaps a_h_mind_two_kinds a_h_mind_two_sweets a_h_mind_two_settings a_h_mind_two_heaps a_h_now a_h_now_kinds a_h_now_sweets a_h_now_settings a_h_now_heaps y_h_mind_seed (r_children q4.2.1) (r_strokes q4.2.1) (r_gave q4.2.1) (r_threw q4.2.1) (r_kinds q4.2.1) (r_sweets q4.2.1) (r_settings q4.2.1) (r_heaps q4.2.1) (r_children q4.2.2) (r_strokes q4.2.2) (r_gave q4.2.2) (r_threw q4.2.2) (r_kinds q4.2.2) (r_sweets q4.2.2) (r_settings q4.2.2) (r_heaps q4.2.2) (r_children z_h_now) (r_strokes z_h_now) (r_gave z_h_now) (r_threw z_h_now) (r_kinds z_h_now) (r_sweets z_h_now) (r_settings z_h_now))) (ws' := (w_X_ring cI cJ cC a_h a_h_now a_h_kept a_h_letters a_h_numbers a_h_refusals a_h_mind a_h_parts a_h_past a_h_seating a_h_now_kinds a_h_now_sweets a_h_now_settings a_h_now_heaps a_h_mind_one a_h_mind_two a_h_mind_one_kinds a_h_mind_one_sweets a_h_mind_one_settings a_h_mind_one_heaps a_h_mind_two_kinds a_h_mind_two_sweets a_h_mind_two_settings a_h_mind_two_heaps y_h_isKept y_h_numberCount y_h_mind_seed (r_children z_h_now) (r_strokes z_h_now) (r_gave z_h_now) (r_threw z_h_now) (r_kinds z_h_now) (r_sweets z_h_now) (r_settings z_h_now) z_h_refusals (r_children q4.2.1) (r_strokes q4.2.1) (r_gave q4.2.1) (r_threw q4.2.1) (r_kinds q4.2.1) (r_sweets q4.2.1) (r_settings q4.2.1) (r_heaps q4.2.1) (r_children q4.2.2) (r_strokes q4.2.2) (r_gave q4.2.2) (r_threw q4.2.2) (r_kinds q4.2.2) (r_sweets q4.2.2) (r_settings q4.2.2) (r_heaps q4.2.2))) (As := [.ref a_h_now]) (rest := []) hx hb hml hown hT (c_Mind_roundOf (z_h_one := z_h_mind_one) (z_h_two := z_h_mind_two) (z_g1 := z_h_now) a_h_mind a_h_mind_one a_h_mind_two a_h_mind_one_kinds a_h_mind_one_sweets a_h_mind_one_settings a_h_mind_one_heaps a_h_mind_two_kinds a_h_mind_two_sweets a_h_mind_two_settings a_h_mind_two_heaps a_h_now a_h_now_kinds a_h_now_sweets a_h_now_settings a_h_now_heaps y_h_mind_seed hq4) k_308 k_309 k_310 k_4 k_311 hd_Mind_roundOf ⟨Nat.le_of_ble_eq_true rfl, Nat.le_of_ble_eq_true rfl⟩ xE0_ok trivial hA hK hP hD hS [6, 7, 8, 9, 10, 11, 12, 13, 14, 15, 16, 1, 2, 3, 4] [0, 5] [0, 13, 14, 15, 16, 1, 2, 3, 4, 5, 6, 7, 8, 9, 10, 11, 12] rfl rfl rfl rfl rfl rfl rfl rfl rfl rfl hl.1 rfl (Nat.le_of_ble_eq_true rfl) ⟨Nat.zero_le _, Nat.zero_le _⟩ d_X_ring_39 (fun H locs hP hD hS => ?_)
      refine lv_istore_n (lv' := [(2, .int q4.1), (0, .ref a_h), (1, .int x1)]) hx hb d_X_ring_42 rfl hl (by decide) rfl (fun ls hl => ?_)
      refine lv_iload_n hx hb d_X_ring_43 rfl (lv_at hl 0 rfl) ?_
      refine lv_bipush (v := (-9)) hx hb d_X_ring_44 (by decide) ?_
      refine lv_icmp_eq (tgt := 54) hx hb d_X_ring_46 (by decide) (fun c5 => ?_) (fun c5 => ?_)
      · have hf := io_t hf c5
        refine lv_iload_n hx hb d_X_ring_54 rfl (lv_at hl 0 rfl) ?_
        have hq := Option.some.inj hf
        subst hq
        exact hret _ _ _ _ _ d_X_ring_55 rfl rfl hP hD hS
      · have hf := io_f hf c5
        refine lv_iload_n hx hb d_X_ring_49 rfl (lv_at hl 2 rfl) ?_
        refine lv_iconst (v := 1) hx hb d_X_ring_50 (by decide) ?_
        refine lv_icmp_ne (tgt := 56) hx hb d_X_ring_51 (by decide) (fun c6 => ?_) (fun c6 => ?_)
        · have hf := io_f hf c6
          refine lv_aload_n hx hb d_X_ring_56 rfl (lv_at hl 1 rfl) ?_
          refine va_get hx hb hT i_X hown hK hP 0 rfl rfl 7 (Nat.le_of_ble_eq_true rfl) (hT _ k_163) (fun _ h => h) rfl d_X_ring_57 ?_
          refine lv_aload_n hx hb d_X_ring_60 rfl (lv_at hl 1 rfl) ?_
          refine va_get hx hb hT i_X hown hK hP 0 rfl rfl 0 (Nat.le_of_ble_eq_true rfl) (hT _ k_156) (fun _ h => h) rfl d_X_ring_61 ?_
          refine lv_iload_n hx hb d_X_ring_64 rfl (lv_at hl 0 rfl) ?_
          obtain ⟨q7, hq7, hf⟩ := io_b hf
          refine xcVI (wc := (w_Mind_aheadOfRound cI cJ cC a_h_mind a_h_mind_one a_h_mind_two a_h_mind_one_kinds a_h_mind_one_sweets a_h_mind_one_settings a_h_mind_one_heaps a_h_mind_two_kinds a_h_mind_two_sweets a_h_mind_two_settings a_h_mind_two_heaps a_h_now a_h_now_kinds a_h_now_sweets a_h_now_settings a_h_now_heaps y_h_mind_seed (r_children q4.2.1) (r_strokes q4.2.1) (r_gave q4.2.1) (r_threw q4.2.1) (r_kinds q4.2.1) (r_sweets q4.2.1) (r_settings q4.2.1) (r_heaps q4.2.1) (r_children q4.2.2) (r_strokes q4.2.2) (r_gave q4.2.2) (r_threw q4.2.2) (r_kinds q4.2.2) (r_sweets q4.2.2) (r_settings q4.2.2) (r_heaps q4.2.2) (r_children z_h_now) (r_strokes z_h_now) (r_gave z_h_now) (r_threw z_h_now) (r_kinds z_h_now) (r_sweets z_h_now) (r_settings z_h_now))) (wc' := (w_Mind_aheadOfRound cI cJ cC a_h_mind a_h_mind_one a_h_mind_two a_h_mind_one_kinds a_h_mind_one_sweets a_h_mind_one_settings a_h_mind_one_heaps a_h_mind_two_kinds a_h_mind_two_sweets a_h_mind_two_settings a_h_mind_two_heaps a_h_now a_h_now_kinds a_h_now_sweets a_h_now_settings a_h_now_heaps y_h_mind_seed (r_children q7.2.1) (r_strokes q7.2.1) (r_gave q7.2.1) (r_threw q7.2.1) (r_kinds q7.2.1) (r_sweets q7.2.1) (r_settings q7.2.1) (r_heaps q7.2.1) (r_children q7.2.2) (r_strokes q7.2.2) (r_gave q7.2.2) (r_threw q7.2.2) (r_kinds q7.2.2) (r_sweets q7.2.2) (r_settings q7.2.2) (r_heaps q7.2.2) (r_children z_h_now) (r_strokes z_h_now) (r_gave z_h_now) (r_threw z_h_now) (r_kinds z_h_now) (r_sweets z_h_now) (r_settings z_h_now))) (ws' := (w_X_ring cI cJ cC a_h a_h_now a_h_kept a_h_letters a_h_numbers a_h_refusals a_h_mind a_h_parts a_h_past a_h_seating a_h_now_kinds a_h_now_sweets a_h_now_settings a_h_now_heaps a_h_mind_one a_h_mind_two a_h_mind_one_kinds a_h_mind_one_sweets a_h_mind_one_settings a_h_mind_one_heaps a_h_mind_two_kinds a_h_mind_two_sweets a_h_mind_two_settings a_h_mind_two_heaps y_h_isKept y_h_numberCount y_h_mind_seed (r_children z_h_now) (r_strokes z_h_now) (r_gave z_h_now) (r_threw z_h_now) (r_kinds z_h_now) (r_sweets z_h_now) (r_settings z_h_now) z_h_refusals (r_children q7.2.1) (r_strokes q7.2.1) (r_gave q7.2.1) (r_threw q7.2.1) (r_kinds q7.2.1) (r_sweets q7.2.1) (r_settings q7.2.1) (r_heaps q7.2.1) (r_children q7.2.2) (r_strokes q7.2.2) (r_gave q7.2.2) (r_threw q7.2.2) (r_kinds q7.2.2) (r_sweets q7.2.2) (r_settings q7.2.2) (r_heaps q7.2.2))) (As := [.ref a_h_now, .int q4.1]) (rest := []) hx hb hml hown hT (c_Mind_aheadOfRound (z_h_one := q4.2.1) (z_h_two := q4.2.2) (z_g1 := z_h_now) a_h_mind a_h_mind_one a_h_mind_two a_h_mind_one_kinds a_h_mind_one_sweets a_h_mind_one_settings a_h_mind_one_heaps a_h_mind_two_kinds a_h_mind_two_sweets a_h_mind_two_settings a_h_mind_two_heaps a_h_now a_h_now_kinds a_h_now_sweets a_h_now_settings a_h_now_heaps y_h_mind_seed hq7) k_317 k_318 k_319 k_4 k_320 hd_Mind_aheadOfRound ⟨Nat.le_of_ble_eq_true rfl, Nat.le_of_ble_eq_true rfl⟩ xE0_ok trivial hA hK hP hD hS [6, 7, 8, 9, 10, 11, 12, 13, 14, 15, 16, 1, 2, 3, 4] [0, 5] [0, 13, 14, 15, 16, 1, 2, 3, 4, 5, 6, 7, 8, 9, 10, 11, 12] rfl rfl rfl rfl rfl rfl rfl rfl rfl rfl hl.1 rfl (Nat.le_of_ble_eq_true rfl) ⟨Nat.zero_le _, Nat.zero_le _⟩ d_X_ring_65 (fun H locs hP hD hS => ?_)
          have hq := Option.some.inj hf
          subst hq
          exact hret _ _ _ _ _ d_X_ring_68 rfl rfl hP hD hS
        · have hf := io_t hf c6
          refine lv_iload_n hx hb d_X_ring_54 rfl (lv_at hl 0 rfl) ?_
          have hq := Option.some.inj hf
          subst hq
          exact hret _ _ _ _ _ d_X_ring_55 rfl rfl hP hD hS
    · have hf := io_t hf c3
      refine lv_aload_n hx hb d_X_ring_24 rfl (lv_at hl 0 rfl) ?_
      refine lv_bipush (v := (-3)) hx hb d_X_ring_25 (by decide) ?_
      obtain ⟨q8, hq8, hf⟩ := io_b hf
      refine xcVI (wc := (w_X_refuse cI cJ cC a_h a_h_now a_h_kept a_h_letters a_h_numbers a_h_refusals a_h_mind a_h_parts a_h_past a_h_seating y_h_isKept y_h_numberCount z_h_refusals)) (wc' := (w_X_refuse cI cJ cC a_h a_h_now a_h_kept a_h_letters a_h_numbers a_h_refusals a_h_mind a_h_parts a_h_past a_h_seating y_h_isKept y_h_numberCount q8.2)) (ws' := (w_X_ring cI cJ cC a_h a_h_now a_h_kept a_h_letters a_h_numbers a_h_refusals a_h_mind a_h_parts a_h_past a_h_seating a_h_now_kinds a_h_now_sweets a_h_now_settings a_h_now_heaps a_h_mind_one a_h_mind_two a_h_mind_one_kinds a_h_mind_one_sweets a_h_mind_one_settings a_h_mind_one_heaps a_h_mind_two_kinds a_h_mind_two_sweets a_h_mind_two_settings a_h_mind_two_heaps y_h_isKept y_h_numberCount y_h_mind_seed (r_children z_h_now) (r_strokes z_h_now) (r_gave z_h_now) (r_threw z_h_now) (r_kinds z_h_now) (r_sweets z_h_now) (r_settings z_h_now) q8.2 (r_children z_h_mind_one) (r_strokes z_h_mind_one) (r_gave z_h_mind_one) (r_threw z_h_mind_one) (r_kinds z_h_mind_one) (r_sweets z_h_mind_one) (r_settings z_h_mind_one) (r_heaps z_h_mind_one) (r_children z_h_mind_two) (r_strokes z_h_mind_two) (r_gave z_h_mind_two) (r_threw z_h_mind_two) (r_kinds z_h_mind_two) (r_sweets z_h_mind_two) (r_settings z_h_mind_two) (r_heaps z_h_mind_two))) (As := [.int (-3)]) (rest := []) hx hb hml hown hT (c_X_refuse (z_h_refusals := z_h_refusals) a_h a_h_now a_h_kept a_h_letters a_h_numbers a_h_refusals a_h_mind a_h_parts a_h_past a_h_seating y_h_isKept y_h_numberCount hq8) k_198 k_200 ks_0 k_1 k_201 hd_X_refuse ⟨Nat.le_of_ble_eq_true rfl, Nat.le_of_ble_eq_true rfl⟩ xE0_ok trivial hA hK hP hD hS [0, 5] [1, 2, 3, 4, 6, 7, 8, 9, 10, 11, 12, 13, 14, 15, 16] [15, 0, 1, 2, 3, 16, 4, 5, 6, 7, 8, 9, 10, 11, 12, 13, 14] rfl rfl rfl rfl rfl rfl rfl rfl rfl rfl hl.1 rfl (Nat.le_of_ble_eq_true rfl) ⟨Nat.zero_le _, Nat.zero_le _⟩ d_X_ring_27 (fun H locs hP hD hS => ?_)
      have hq := Option.some.inj hf
      subst hq
      exact hret _ _ _ _ _ d_X_ring_30 rfl rfl hP hD hS
  · have hf := io_t hf c2
    refine lv_aload_n hx hb d_X_ring_7 rfl (lv_at hl 0 rfl) ?_
    refine lv_bipush (v := (-2)) hx hb d_X_ring_8 (by decide) ?_
    obtain ⟨q9, hq9, hf⟩ := io_b hf
    refine xcVI (wc := (w_X_refuse cI cJ cC a_h a_h_now a_h_kept a_h_letters a_h_numbers a_h_refusals a_h_mind a_h_parts a_h_past a_h_seating y_h_isKept y_h_numberCount z_h_refusals)) (wc' := (w_X_refuse cI cJ cC a_h a_h_now a_h_kept a_h_letters a_h_numbers a_h_refusals a_h_mind a_h_parts a_h_past a_h_seating y_h_isKept y_h_numberCount q9.2)) (ws' := (w_X_ring cI cJ cC a_h a_h_now a_h_kept a_h_letters a_h_numbers a_h_refusals a_h_mind a_h_parts a_h_past a_h_seating a_h_now_kinds a_h_now_sweets a_h_now_settings a_h_now_heaps a_h_mind_one a_h_mind_two a_h_mind_one_kinds a_h_mind_one_sweets a_h_mind_one_settings a_h_mind_one_heaps a_h_mind_two_kinds a_h_mind_two_sweets a_h_mind_two_settings a_h_mind_two_heaps y_h_isKept y_h_numberCount y_h_mind_seed (r_children z_h_now) (r_strokes z_h_now) (r_gave z_h_now) (r_threw z_h_now) (r_kinds z_h_now) (r_sweets z_h_now) (r_settings z_h_now) q9.2 (r_children z_h_mind_one) (r_strokes z_h_mind_one) (r_gave z_h_mind_one) (r_threw z_h_mind_one) (r_kinds z_h_mind_one) (r_sweets z_h_mind_one) (r_settings z_h_mind_one) (r_heaps z_h_mind_one) (r_children z_h_mind_two) (r_strokes z_h_mind_two) (r_gave z_h_mind_two) (r_threw z_h_mind_two) (r_kinds z_h_mind_two) (r_sweets z_h_mind_two) (r_settings z_h_mind_two) (r_heaps z_h_mind_two))) (As := [.int (-2)]) (rest := []) hx hb hml hown hT (c_X_refuse (z_h_refusals := z_h_refusals) a_h a_h_now a_h_kept a_h_letters a_h_numbers a_h_refusals a_h_mind a_h_parts a_h_past a_h_seating y_h_isKept y_h_numberCount hq9) k_198 k_200 ks_0 k_1 k_201 hd_X_refuse ⟨Nat.le_of_ble_eq_true rfl, Nat.le_of_ble_eq_true rfl⟩ xE0_ok trivial hA hK hP hD hS [0, 5] [1, 2, 3, 4, 6, 7, 8, 9, 10, 11, 12, 13, 14, 15, 16] [15, 0, 1, 2, 3, 16, 4, 5, 6, 7, 8, 9, 10, 11, 12, 13, 14] rfl rfl rfl rfl rfl rfl rfl rfl rfl rfl hl.1 rfl (Nat.le_of_ble_eq_true rfl) ⟨Nat.zero_le _, Nat.zero_le _⟩ d_X_ring_10 (fun H locs hP hD hS => ?_)
    have hq := Option.some.inj hf
    subst hq
    exact hret _ _ _ _ _ d_X_ring_13 rfl rfl hP hD hS
abbrev w_X_areTwo (cI cJ cC : ClassId) (a_h a_h_now a_h_kept a_h_letters a_h_numbers a_h_refusals a_h_mind a_h_parts a_h_past a_h_seating a_h_now_kinds a_h_now_sweets a_h_now_settings a_h_now_heaps : Nat) (y_h_isKept : Int32) (y_h_numberCount : Int32) (p_h_now_children : Int32) (p_h_now_strokes : Int32) (p_h_now_gave : Int32) (p_h_now_threw : Int32) : va_W := [(a_h, .inr (0, [.ref a_h_now, .ref a_h_kept, .int y_h_isKept, .ref a_h_letters, .ref a_h_numbers, .int y_h_numberCount, .ref a_h_refusals, .ref a_h_mind, .ref a_h_parts, .ref a_h_past, .ref a_h_seating])), (a_h_now, .inr (1, [.ref a_h_now_kinds, .ref a_h_now_sweets, .ref a_h_now_settings, .int p_h_now_children, .int p_h_now_strokes, .int p_h_now_gave, .int p_h_now_threw, .ref a_h_now_heaps]))]
theorem d_X_areTwo_0 : decode b_X_areTwo 0 = .ok (.aload_n 0, 1) := by decide +kernel
theorem d_X_areTwo_1 : decode b_X_areTwo 1 = .ok (.getfield 10, 3) := by decide +kernel
theorem d_X_areTwo_4 : decode b_X_areTwo 4 = .ok (.iload_n 1, 1) := by decide +kernel
theorem d_X_areTwo_5 : decode b_X_areTwo 5 = .ok (.invokevirtual 84, 3) := by decide +kernel
theorem d_X_areTwo_8 : decode b_X_areTwo 8 = .ok (.ifCond .eq 23, 3) := by decide +kernel
theorem d_X_areTwo_11 : decode b_X_areTwo 11 = .ok (.aload_n 0, 1) := by decide +kernel
theorem d_X_areTwo_12 : decode b_X_areTwo 12 = .ok (.getfield 10, 3) := by decide +kernel
theorem d_X_areTwo_15 : decode b_X_areTwo 15 = .ok (.iload_n 2, 1) := by decide +kernel
theorem d_X_areTwo_16 : decode b_X_areTwo 16 = .ok (.invokevirtual 84, 3) := by decide +kernel
theorem d_X_areTwo_19 : decode b_X_areTwo 19 = .ok (.ifCond .eq 12, 3) := by decide +kernel
theorem d_X_areTwo_22 : decode b_X_areTwo 22 = .ok (.iload_n 1, 1) := by decide +kernel
theorem d_X_areTwo_23 : decode b_X_areTwo 23 = .ok (.iload_n 2, 1) := by decide +kernel
theorem d_X_areTwo_24 : decode b_X_areTwo 24 = .ok (.if_icmp .eq 7, 3) := by decide +kernel
theorem d_X_areTwo_27 : decode b_X_areTwo 27 = .ok (.iconst 1, 1) := by decide +kernel
theorem d_X_areTwo_28 : decode b_X_areTwo 28 = .ok (.goto 4, 3) := by decide +kernel
theorem d_X_areTwo_31 : decode b_X_areTwo 31 = .ok (.iconst 0, 1) := by decide +kernel
theorem d_X_areTwo_32 : decode b_X_areTwo 32 = .ok (.ireturn, 1) := by decide +kernel
set_option maxHeartbeats 4000000 in
set_option maxRecDepth 100000 in
theorem c_X_areTwo {l : Launch} {D : va_G} {cI cJ cC : ClassId} (a_h a_h_now a_h_kept a_h_letters a_h_numbers a_h_refusals a_h_mind a_h_parts a_h_past a_h_seating a_h_now_kinds a_h_now_sweets a_h_now_settings a_h_now_heaps : Nat) (y_h_isKept : Int32) (y_h_numberCount : Int32) {z_h_now : RS} {x1 : Int32} {x2 : Int32} {q : Int32} (hf : f_X_areTwo z_h_now x1 x2 = some q) : xI l y_X_areTwo b_X_areTwo 3 .boolean 1 21 D (tyK cI cJ cC) xE0 [.ref a_h, .int x1, .int x2] (w_X_areTwo cI cJ cC a_h a_h_now a_h_kept a_h_letters a_h_numbers a_h_refusals a_h_mind a_h_parts a_h_past a_h_seating a_h_now_kinds a_h_now_sweets a_h_now_settings a_h_now_heaps y_h_isKept y_h_numberCount (r_children z_h_now) (r_strokes z_h_now) (r_gave z_h_now) (r_threw z_h_now)) q (w_X_areTwo cI cJ cC a_h a_h_now a_h_kept a_h_letters a_h_numbers a_h_refusals a_h_mind a_h_parts a_h_past a_h_seating a_h_now_kinds a_h_now_sweets a_h_now_settings a_h_now_heaps y_h_isKept y_h_numberCount (r_children z_h_now) (r_strokes z_h_now) (r_gave z_h_now) (r_threw z_h_now)) := by
  refine xI_of (by decide) (Nat.le_of_ble_eq_true rfl) ?_
  intro p e s m args below meth c A Q hx hb hml hown hT hA hP hD hK hS hE hret ls hl
  have hown : s.vm.findClass R_X = some m.cls := hown
  have hl : lv_has ls 3 [(0, .ref a_h), (1, .int x1), (2, .int x2)] := hl
  unfold f_X_areTwo at hf
  refine lv_aload_n hx hb d_X_areTwo_0 rfl (lv_at hl 0 rfl) ?_
  refine va_get hx hb hT i_X hown hK hP 0 rfl rfl 0 (Nat.le_of_ble_eq_true rfl) (hT _ k_156) (fun _ h => h) rfl d_X_areTwo_1 ?_
  refine lv_iload_n hx hb d_X_areTwo_4 rfl (lv_at hl 1 rfl) ?_
  obtain ⟨q1, hq1, hf⟩ := io_b hf
  refine xcVI (wc := (w_Ring_has cI cJ cC a_h_now a_h_now_kinds a_h_now_sweets a_h_now_settings a_h_now_heaps (r_children z_h_now) (r_strokes z_h_now) (r_gave z_h_now) (r_threw z_h_now))) (wc' := (w_Ring_has cI cJ cC a_h_now a_h_now_kinds a_h_now_sweets a_h_now_settings a_h_now_heaps (r_children z_h_now) (r_strokes z_h_now) (r_gave z_h_now) (r_threw z_h_now))) (ws' := (w_X_areTwo cI cJ cC a_h a_h_now a_h_kept a_h_letters a_h_numbers a_h_refusals a_h_mind a_h_parts a_h_past a_h_seating a_h_now_kinds a_h_now_sweets a_h_now_settings a_h_now_heaps y_h_isKept y_h_numberCount (r_children z_h_now) (r_strokes z_h_now) (r_gave z_h_now) (r_threw z_h_now))) (As := [.int x1]) (rest := []) hx hb hml hown hT (c_Ring_has (z_h := z_h_now) a_h_now a_h_now_kinds a_h_now_sweets a_h_now_settings a_h_now_heaps hq1) k_194 k_195 k_196 k_2 k_197 hd_Ring_has ⟨Nat.le_of_ble_eq_true rfl, Nat.le_of_ble_eq_true rfl⟩ xE0_ok trivial hA hK hP hD hS [1] [0] [0, 1] rfl rfl rfl rfl rfl rfl rfl rfl rfl rfl hl.1 rfl (Nat.le_of_ble_eq_true rfl) ⟨Nat.zero_le _, Nat.zero_le _⟩ d_X_areTwo_5 (fun H locs hP hD hS => ?_)
  refine lv_if_eq (tgt := 31) hx hb d_X_areTwo_8 (by decide) (fun c2 => ?_) (fun c2 => ?_)
  · have hf := io_t hf c2
    refine lv_iconst (v := 0) hx hb d_X_areTwo_31 (by decide) ?_
    have hq := Option.some.inj hf
    subst hq
    exact hret _ _ _ _ _ d_X_areTwo_32 (by decide) rfl hP hD hS
  · have hf := io_f hf c2
    refine lv_aload_n hx hb d_X_areTwo_11 rfl (lv_at hl 0 rfl) ?_
    refine va_get hx hb hT i_X hown hK hP 0 rfl rfl 0 (Nat.le_of_ble_eq_true rfl) (hT _ k_156) (fun _ h => h) rfl d_X_areTwo_12 ?_
    refine lv_iload_n hx hb d_X_areTwo_15 rfl (lv_at hl 2 rfl) ?_
    obtain ⟨q3, hq3, hf⟩ := io_b hf
    refine xcVI (wc := (w_Ring_has cI cJ cC a_h_now a_h_now_kinds a_h_now_sweets a_h_now_settings a_h_now_heaps (r_children z_h_now) (r_strokes z_h_now) (r_gave z_h_now) (r_threw z_h_now))) (wc' := (w_Ring_has cI cJ cC a_h_now a_h_now_kinds a_h_now_sweets a_h_now_settings a_h_now_heaps (r_children z_h_now) (r_strokes z_h_now) (r_gave z_h_now) (r_threw z_h_now))) (ws' := (w_X_areTwo cI cJ cC a_h a_h_now a_h_kept a_h_letters a_h_numbers a_h_refusals a_h_mind a_h_parts a_h_past a_h_seating a_h_now_kinds a_h_now_sweets a_h_now_settings a_h_now_heaps y_h_isKept y_h_numberCount (r_children z_h_now) (r_strokes z_h_now) (r_gave z_h_now) (r_threw z_h_now))) (As := [.int x2]) (rest := []) hx hb hml hown hT (c_Ring_has (z_h := z_h_now) a_h_now a_h_now_kinds a_h_now_sweets a_h_now_settings a_h_now_heaps hq3) k_194 k_195 k_196 k_2 k_197 hd_Ring_has ⟨Nat.le_of_ble_eq_true rfl, Nat.le_of_ble_eq_true rfl⟩ xE0_ok trivial hA hK hP hD hS [1] [0] [0, 1] rfl rfl rfl rfl rfl rfl rfl rfl rfl rfl hl.1 rfl (Nat.le_of_ble_eq_true rfl) ⟨Nat.zero_le _, Nat.zero_le _⟩ d_X_areTwo_16 (fun H locs hP hD hS => ?_)
    refine lv_if_eq (tgt := 31) hx hb d_X_areTwo_19 (by decide) (fun c4 => ?_) (fun c4 => ?_)
    · have hf := io_t hf c4
      refine lv_iconst (v := 0) hx hb d_X_areTwo_31 (by decide) ?_
      have hq := Option.some.inj hf
      subst hq
      exact hret _ _ _ _ _ d_X_areTwo_32 (by decide) rfl hP hD hS
    · have hf := io_f hf c4
      refine lv_iload_n hx hb d_X_areTwo_22 rfl (lv_at hl 1 rfl) ?_
      refine lv_iload_n hx hb d_X_areTwo_23 rfl (lv_at hl 2 rfl) ?_
      refine lv_icmp_eq (tgt := 31) hx hb d_X_areTwo_24 (by decide) (fun c5 => ?_) (fun c5 => ?_)
      · have hf := io_t hf c5
        refine lv_iconst (v := 0) hx hb d_X_areTwo_31 (by decide) ?_
        have hq := Option.some.inj hf
        subst hq
        exact hret _ _ _ _ _ d_X_areTwo_32 (by decide) rfl hP hD hS
      · have hf := io_f hf c5
        refine lv_iconst (v := 1) hx hb d_X_areTwo_27 (by decide) ?_
        refine lv_goto (tgt := 32) hx hb d_X_areTwo_28 (by decide) ?_
        have hq := Option.some.inj hf
        subst hq
        exact hret _ _ _ _ _ d_X_areTwo_32 (by decide) rfl hP hD hS
abbrev w_X_meet (cI cJ cC : ClassId) (a_h a_h_now a_h_kept a_h_letters a_h_numbers a_h_refusals a_h_mind a_h_parts a_h_past a_h_seating a_h_now_kinds a_h_now_sweets a_h_now_settings a_h_now_heaps a_h_mind_one a_h_mind_two a_h_mind_one_kinds a_h_mind_one_sweets a_h_mind_one_settings a_h_mind_one_heaps : Nat) (y_h_isKept : Int32) (y_h_numberCount : Int32) (y_h_mind_seed : Int32) (p_h_now_children : Int32) (p_h_now_strokes : Int32) (p_h_now_gave : Int32) (p_h_now_threw : Int32) (p_h_now_kinds : (Nat → Int32)) (p_h_now_sweets : (Nat → Int32)) (p_h_now_settings : (Nat → Int32)) (p_h_refusals : (Nat → Int32)) (p_h_mind_one_children : Int32) (p_h_mind_one_strokes : Int32) (p_h_mind_one_gave : Int32) (p_h_mind_one_threw : Int32) (p_h_mind_one_kinds : (Nat → Int32)) (p_h_mind_one_sweets : (Nat → Int32)) (p_h_mind_one_settings : (Nat → Int32)) (p_h_mind_one_heaps : (Nat → Int32)) : va_W := [(a_h, .inr (0, [.ref a_h_now, .ref a_h_kept, .int y_h_isKept, .ref a_h_letters, .ref a_h_numbers, .int y_h_numberCount, .ref a_h_refusals, .ref a_h_mind, .ref a_h_parts, .ref a_h_past, .ref a_h_seating])), (a_h_now, .inr (1, [.ref a_h_now_kinds, .ref a_h_now_sweets, .ref a_h_now_settings, .int p_h_now_children, .int p_h_now_strokes, .int p_h_now_gave, .int p_h_now_threw, .ref a_h_now_heaps])), (a_h_now_kinds, .inl (cI, (8, .inl p_h_now_kinds))), (a_h_now_sweets, .inl (cI, (8, .inl p_h_now_sweets))), (a_h_now_settings, .inl (cI, (3, .inl p_h_now_settings))), (a_h_refusals, .inl (cI, (7, .inl p_h_refusals))), (a_h_mind, .inr (3, [.ref a_h_mind_one, .ref a_h_mind_two, .int y_h_mind_seed])), (a_h_mind_one, .inr (1, [.ref a_h_mind_one_kinds, .ref a_h_mind_one_sweets, .ref a_h_mind_one_settings, .int p_h_mind_one_children, .int p_h_mind_one_strokes, .int p_h_mind_one_gave, .int p_h_mind_one_threw, .ref a_h_mind_one_heaps])), (a_h_mind_one_kinds, .inl (cI, (8, .inl p_h_mind_one_kinds))), (a_h_mind_one_sweets, .inl (cI, (8, .inl p_h_mind_one_sweets))), (a_h_mind_one_settings, .inl (cI, (3, .inl p_h_mind_one_settings))), (a_h_mind_one_heaps, .inl (cI, (8, .inl p_h_mind_one_heaps)))]
theorem d_X_meet_0 : decode b_X_meet 0 = .ok (.aload_n 0, 1) := by decide +kernel
theorem d_X_meet_1 : decode b_X_meet 1 = .ok (.iload_n 1, 1) := by decide +kernel
theorem d_X_meet_2 : decode b_X_meet 2 = .ok (.iload_n 2, 1) := by decide +kernel
theorem d_X_meet_3 : decode b_X_meet 3 = .ok (.invokevirtual 113, 3) := by decide +kernel
theorem d_X_meet_6 : decode b_X_meet 6 = .ok (.ifCond .ne 9, 3) := by decide +kernel
theorem d_X_meet_9 : decode b_X_meet 9 = .ok (.aload_n 0, 1) := by decide +kernel
theorem d_X_meet_10 : decode b_X_meet 10 = .ok (.iconst (-1), 1) := by decide +kernel
theorem d_X_meet_11 : decode b_X_meet 11 = .ok (.invokevirtual 69, 3) := by decide +kernel
theorem d_X_meet_14 : decode b_X_meet 14 = .ok (.ireturn, 1) := by decide +kernel
theorem d_X_meet_15 : decode b_X_meet 15 = .ok (.aload_n 0, 1) := by decide +kernel
theorem d_X_meet_16 : decode b_X_meet 16 = .ok (.getfield 44, 3) := by decide +kernel
theorem d_X_meet_19 : decode b_X_meet 19 = .ok (.aload_n 0, 1) := by decide +kernel
theorem d_X_meet_20 : decode b_X_meet 20 = .ok (.getfield 10, 3) := by decide +kernel
theorem d_X_meet_23 : decode b_X_meet 23 = .ok (.iload_n 1, 1) := by decide +kernel
theorem d_X_meet_24 : decode b_X_meet 24 = .ok (.iload_n 2, 1) := by decide +kernel
theorem d_X_meet_25 : decode b_X_meet 25 = .ok (.invokevirtual 154, 3) := by decide +kernel
theorem d_X_meet_28 : decode b_X_meet 28 = .ok (.ireturn, 1) := by decide +kernel
set_option maxHeartbeats 4000000 in
set_option maxRecDepth 100000 in
theorem c_X_meet {l : Launch} {D : va_G} {cI cJ cC : ClassId} (a_h a_h_now a_h_kept a_h_letters a_h_numbers a_h_refusals a_h_mind a_h_parts a_h_past a_h_seating a_h_now_kinds a_h_now_sweets a_h_now_settings a_h_now_heaps a_h_mind_one a_h_mind_two a_h_mind_one_kinds a_h_mind_one_sweets a_h_mind_one_settings a_h_mind_one_heaps : Nat) (y_h_isKept : Int32) (y_h_numberCount : Int32) (y_h_mind_seed : Int32) {z_h_now : RS} {z_h_refusals : (Nat → Int32)} {z_h_mind_one : RS} {x1 : Int32} {x2 : Int32} {q : Int32 × (Nat → Int32) × RS} (hf : f_X_meet z_h_now z_h_refusals z_h_mind_one x1 x2 = some q) : xI l y_X_meet b_X_meet 3 .int 5 113 D (tyK cI cJ cC) xE0 [.ref a_h, .int x1, .int x2] (w_X_meet cI cJ cC a_h a_h_now a_h_kept a_h_letters a_h_numbers a_h_refusals a_h_mind a_h_parts a_h_past a_h_seating a_h_now_kinds a_h_now_sweets a_h_now_settings a_h_now_heaps a_h_mind_one a_h_mind_two a_h_mind_one_kinds a_h_mind_one_sweets a_h_mind_one_settings a_h_mind_one_heaps y_h_isKept y_h_numberCount y_h_mind_seed (r_children z_h_now) (r_strokes z_h_now) (r_gave z_h_now) (r_threw z_h_now) (r_kinds z_h_now) (r_sweets z_h_now) (r_settings z_h_now) z_h_refusals (r_children z_h_mind_one) (r_strokes z_h_mind_one) (r_gave z_h_mind_one) (r_threw z_h_mind_one) (r_kinds z_h_mind_one) (r_sweets z_h_mind_one) (r_settings z_h_mind_one) (r_heaps z_h_mind_one)) q.1 (w_X_meet cI cJ cC a_h a_h_now a_h_kept a_h_letters a_h_numbers a_h_refusals a_h_mind a_h_parts a_h_past a_h_seating a_h_now_kinds a_h_now_sweets a_h_now_settings a_h_now_heaps a_h_mind_one a_h_mind_two a_h_mind_one_kinds a_h_mind_one_sweets a_h_mind_one_settings a_h_mind_one_heaps y_h_isKept y_h_numberCount y_h_mind_seed (r_children z_h_now) (r_strokes z_h_now) (r_gave z_h_now) (r_threw z_h_now) (r_kinds z_h_now) (r_sweets z_h_now) (r_settings z_h_now) q.2.1 (r_children q.2.2) (r_strokes q.2.2) (r_gave q.2.2) (r_threw q.2.2) (r_kinds q.2.2) (r_sweets q.2.2) (r_settings q.2.2) (r_heaps q.2.2)) := by
  refine xI_of (by decide) (Nat.le_of_ble_eq_true rfl) ?_
  intro p e s m args below meth c A Q hx hb hml hown hT hA hP hD hK hS hE hret ls hl
  have hown : s.vm.findClass R_X = some m.cls := hown
  have hl : lv_has ls 3 [(0, .ref a_h), (1, .int x1), (2, .int x2)] := hl
  unfold f_X_meet at hf
  refine lv_aload_n hx hb d_X_meet_0 rfl (lv_at hl 0 rfl) ?_
  refine lv_iload_n hx hb d_X_meet_1 rfl (lv_at hl 1 rfl) ?_
  refine lv_iload_n hx hb d_X_meet_2 rfl (lv_at hl 2 rfl) ?_
  obtain ⟨q1, hq1, hf⟩ := io_b hf
  refine xcVI (wc := (w_X_areTwo cI cJ cC a_h a_h_now a_h_kept a_h_letters a_h_numbers a_h_refusals a_h_mind a_h_parts a_h_past a_h_seating a_h_now_kinds a_h_now_sweets a_h_now_settings a_h_now_heaps y_h_isKept y_h_numberCount (r_children z_h_now) (r_strokes z_h_now) (r_gave z_h_now) (r_threw z_h_now))) (wc' := (w_X_areTwo cI cJ cC a_h a_h_now a_h_kept a_h_letters a_h_numbers a_h_refusals a_h_mind a_h_parts a_h_past a_h_seating a_h_now_kinds a_h_now_sweets a_h_now_settings a_h_now_heaps y_h_isKept y_h_numberCount (r_children z_h_now) (r_strokes z_h_now) (r_gave z_h_now) (r_threw z_h_now))) (ws' := (w_X_meet cI cJ cC a_h a_h_now a_h_kept a_h_letters a_h_numbers a_h_refusals a_h_mind a_h_parts a_h_past a_h_seating a_h_now_kinds a_h_now_sweets a_h_now_settings a_h_now_heaps a_h_mind_one a_h_mind_two a_h_mind_one_kinds a_h_mind_one_sweets a_h_mind_one_settings a_h_mind_one_heaps y_h_isKept y_h_numberCount y_h_mind_seed (r_children z_h_now) (r_strokes z_h_now) (r_gave z_h_now) (r_threw z_h_now) (r_kinds z_h_now) (r_sweets z_h_now) (r_settings z_h_now) z_h_refusals (r_children z_h_mind_one) (r_strokes z_h_mind_one) (r_gave z_h_mind_one) (r_threw z_h_mind_one) (r_kinds z_h_mind_one) (r_sweets z_h_mind_one) (r_settings z_h_mind_one) (r_heaps z_h_mind_one))) (As := [.int x1, .int x2]) (rest := []) hx hb hml hown hT (c_X_areTwo (z_h_now := z_h_now) a_h a_h_now a_h_kept a_h_letters a_h_numbers a_h_refusals a_h_mind a_h_parts a_h_past a_h_seating a_h_now_kinds a_h_now_sweets a_h_now_settings a_h_now_heaps y_h_isKept y_h_numberCount hq1) k_325 k_327 ks_3 k_1 k_328 hd_X_areTwo ⟨Nat.le_of_ble_eq_true rfl, Nat.le_of_ble_eq_true rfl⟩ xE0_ok trivial hA hK hP hD hS [0, 1] [2, 3, 4, 5, 6, 7, 8, 9, 10, 11] [10, 11, 0, 1, 2, 3, 4, 5, 6, 7, 8, 9] rfl rfl rfl rfl rfl rfl rfl rfl rfl rfl hl.1 rfl (Nat.le_of_ble_eq_true rfl) ⟨Nat.zero_le _, Nat.zero_le _⟩ d_X_meet_3 (fun H locs hP hD hS => ?_)
  refine lv_if_ne (tgt := 15) hx hb d_X_meet_6 (by decide) (fun c2 => ?_) (fun c2 => ?_)
  · have hf := io_f hf c2
    refine lv_aload_n hx hb d_X_meet_15 rfl (lv_at hl 0 rfl) ?_
    refine va_get hx hb hT i_X hown hK hP 0 rfl rfl 7 (Nat.le_of_ble_eq_true rfl) (hT _ k_163) (fun _ h => h) rfl d_X_meet_16 ?_
    refine lv_aload_n hx hb d_X_meet_19 rfl (lv_at hl 0 rfl) ?_
    refine va_get hx hb hT i_X hown hK hP 0 rfl rfl 0 (Nat.le_of_ble_eq_true rfl) (hT _ k_156) (fun _ h => h) rfl d_X_meet_20 ?_
    refine lv_iload_n hx hb d_X_meet_23 rfl (lv_at hl 1 rfl) ?_
    refine lv_iload_n hx hb d_X_meet_24 rfl (lv_at hl 2 rfl) ?_
    obtain ⟨q3, hq3, hf⟩ := io_b hf
    refine xcVI (wc := (w_Mind_meetBehind cI cJ cC a_h_mind a_h_mind_one a_h_mind_two a_h_mind_one_kinds a_h_mind_one_sweets a_h_mind_one_settings a_h_mind_one_heaps a_h_now a_h_now_kinds a_h_now_sweets a_h_now_settings a_h_now_heaps y_h_mind_seed (r_children z_h_mind_one) (r_strokes z_h_mind_one) (r_gave z_h_mind_one) (r_threw z_h_mind_one) (r_kinds z_h_mind_one) (r_sweets z_h_mind_one) (r_settings z_h_mind_one) (r_heaps z_h_mind_one) (r_children z_h_now) (r_strokes z_h_now) (r_gave z_h_now) (r_threw z_h_now) (r_kinds z_h_now) (r_sweets z_h_now) (r_settings z_h_now))) (wc' := (w_Mind_meetBehind cI cJ cC a_h_mind a_h_mind_one a_h_mind_two a_h_mind_one_kinds a_h_mind_one_sweets a_h_mind_one_settings a_h_mind_one_heaps a_h_now a_h_now_kinds a_h_now_sweets a_h_now_settings a_h_now_heaps y_h_mind_seed (r_children q3.2) (r_strokes q3.2) (r_gave q3.2) (r_threw q3.2) (r_kinds q3.2) (r_sweets q3.2) (r_settings q3.2) (r_heaps q3.2) (r_children z_h_now) (r_strokes z_h_now) (r_gave z_h_now) (r_threw z_h_now) (r_kinds z_h_now) (r_sweets z_h_now) (r_settings z_h_now))) (ws' := (w_X_meet cI cJ cC a_h a_h_now a_h_kept a_h_letters a_h_numbers a_h_refusals a_h_mind a_h_parts a_h_past a_h_seating a_h_now_kinds a_h_now_sweets a_h_now_settings a_h_now_heaps a_h_mind_one a_h_mind_two a_h_mind_one_kinds a_h_mind_one_sweets a_h_mind_one_settings a_h_mind_one_heaps y_h_isKept y_h_numberCount y_h_mind_seed (r_children z_h_now) (r_strokes z_h_now) (r_gave z_h_now) (r_threw z_h_now) (r_kinds z_h_now) (r_sweets z_h_now) (r_settings z_h_now) z_h_refusals (r_children q3.2) (r_strokes q3.2) (r_gave q3.2) (r_threw q3.2) (r_kinds q3.2) (r_sweets q3.2) (r_settings q3.2) (r_heaps q3.2))) (As := [.ref a_h_now, .int x1, .int x2]) (rest := []) hx hb hml hown hT (c_Mind_meetBehind (z_h_one := z_h_mind_one) (z_g1 := z_h_now) a_h_mind a_h_mind_one a_h_mind_two a_h_mind_one_kinds a_h_mind_one_sweets a_h_mind_one_settings a_h_mind_one_heaps a_h_now a_h_now_kinds a_h_now_sweets a_h_now_settings a_h_now_heaps y_h_mind_seed hq3) k_329 k_330 k_331 k_4 k_332 hd_Mind_meetBehind ⟨Nat.le_of_ble_eq_true rfl, Nat.le_of_ble_eq_true rfl⟩ xE0_ok trivial hA hK hP hD hS [6, 7, 8, 9, 10, 11, 1, 2, 3, 4] [0, 5] [0, 8, 9, 10, 11, 1, 2, 3, 4, 5, 6, 7] rfl rfl rfl rfl rfl rfl rfl rfl rfl rfl hl.1 rfl (Nat.le_of_ble_eq_true rfl) ⟨Nat.zero_le _, Nat.zero_le _⟩ d_X_meet_25 (fun H locs hP hD hS => ?_)
    have hq := Option.some.inj hf
    subst hq
    exact hret _ _ _ _ _ d_X_meet_28 rfl rfl hP hD hS
  · have hf := io_t hf c2
    refine lv_aload_n hx hb d_X_meet_9 rfl (lv_at hl 0 rfl) ?_
    refine lv_iconst (v := (-1)) hx hb d_X_meet_10 (by decide) ?_
    obtain ⟨q4, hq4, hf⟩ := io_b hf
    refine xcVI (wc := (w_X_refuse cI cJ cC a_h a_h_now a_h_kept a_h_letters a_h_numbers a_h_refusals a_h_mind a_h_parts a_h_past a_h_seating y_h_isKept y_h_numberCount z_h_refusals)) (wc' := (w_X_refuse cI cJ cC a_h a_h_now a_h_kept a_h_letters a_h_numbers a_h_refusals a_h_mind a_h_parts a_h_past a_h_seating y_h_isKept y_h_numberCount q4.2)) (ws' := (w_X_meet cI cJ cC a_h a_h_now a_h_kept a_h_letters a_h_numbers a_h_refusals a_h_mind a_h_parts a_h_past a_h_seating a_h_now_kinds a_h_now_sweets a_h_now_settings a_h_now_heaps a_h_mind_one a_h_mind_two a_h_mind_one_kinds a_h_mind_one_sweets a_h_mind_one_settings a_h_mind_one_heaps y_h_isKept y_h_numberCount y_h_mind_seed (r_children z_h_now) (r_strokes z_h_now) (r_gave z_h_now) (r_threw z_h_now) (r_kinds z_h_now) (r_sweets z_h_now) (r_settings z_h_now) q4.2 (r_children z_h_mind_one) (r_strokes z_h_mind_one) (r_gave z_h_mind_one) (r_threw z_h_mind_one) (r_kinds z_h_mind_one) (r_sweets z_h_mind_one) (r_settings z_h_mind_one) (r_heaps z_h_mind_one))) (As := [.int (-1)]) (rest := []) hx hb hml hown hT (c_X_refuse (z_h_refusals := z_h_refusals) a_h a_h_now a_h_kept a_h_letters a_h_numbers a_h_refusals a_h_mind a_h_parts a_h_past a_h_seating y_h_isKept y_h_numberCount hq4) k_198 k_200 ks_0 k_1 k_201 hd_X_refuse ⟨Nat.le_of_ble_eq_true rfl, Nat.le_of_ble_eq_true rfl⟩ xE0_ok trivial hA hK hP hD hS [0, 5] [1, 2, 3, 4, 6, 7, 8, 9, 10, 11] [10, 0, 1, 2, 3, 11, 4, 5, 6, 7, 8, 9] rfl rfl rfl rfl rfl rfl rfl rfl rfl rfl hl.1 rfl (Nat.le_of_ble_eq_true rfl) ⟨Nat.zero_le _, Nat.zero_le _⟩ d_X_meet_11 (fun H locs hP hD hS => ?_)
    have hq := Option.some.inj hf
    subst hq
    exact hret _ _ _ _ _ d_X_meet_14 rfl rfl hP hD hS
abbrev w_X_crumbs (cI cJ cC : ClassId) (a_h a_h_now a_h_kept a_h_letters a_h_numbers a_h_refusals a_h_mind a_h_parts a_h_past a_h_seating a_h_now_kinds a_h_now_sweets a_h_now_settings a_h_now_heaps a_h_parts_have a_h_parts_next : Nat) (y_h_isKept : Int32) (y_h_numberCount : Int32) (p_h_now_children : Int32) (p_h_now_strokes : Int32) (p_h_now_gave : Int32) (p_h_now_threw : Int32) (p_h_now_sweets : (Nat → Int32)) (p_h_now_settings : (Nat → Int32)) (p_h_refusals : (Nat → Int32)) (p_h_parts_doublings : Int32) (p_h_parts_have : (Nat → Int64)) (p_h_parts_next : (Nat → Int64)) : va_W := [(a_h, .inr (0, [.ref a_h_now, .ref a_h_kept, .int y_h_isKept, .ref a_h_letters, .ref a_h_numbers, .int y_h_numberCount, .ref a_h_refusals, .ref a_h_mind, .ref a_h_parts, .ref a_h_past, .ref a_h_seating])), (a_h_now, .inr (1, [.ref a_h_now_kinds, .ref a_h_now_sweets, .ref a_h_now_settings, .int p_h_now_children, .int p_h_now_strokes, .int p_h_now_gave, .int p_h_now_threw, .ref a_h_now_heaps])), (a_h_now_sweets, .inl (cI, (8, .inl p_h_now_sweets))), (a_h_now_settings, .inl (cI, (3, .inl p_h_now_settings))), (a_h_refusals, .inl (cI, (7, .inl p_h_refusals))), (a_h_parts, .inr (4, [.ref a_h_parts_have, .ref a_h_parts_next, .int p_h_parts_doublings])), (a_h_parts_have, .inl (cJ, (8, .inr (.inl p_h_parts_have)))), (a_h_parts_next, .inl (cJ, (8, .inr (.inl p_h_parts_next))))]
theorem d_X_crumbs_0 : decode b_X_crumbs 0 = .ok (.iload_n 2, 1) := by decide +kernel
theorem d_X_crumbs_1 : decode b_X_crumbs 1 = .ok (.iconst 0, 1) := by decide +kernel
theorem d_X_crumbs_2 : decode b_X_crumbs 2 = .ok (.bipush 20, 2) := by decide +kernel
theorem d_X_crumbs_4 : decode b_X_crumbs 4 = .ok (.invokestatic 100, 3) := by decide +kernel
theorem d_X_crumbs_7 : decode b_X_crumbs 7 = .ok (.istore 4, 2) := by decide +kernel
theorem d_X_crumbs_9 : decode b_X_crumbs 9 = .ok (.aload_n 0, 1) := by decide +kernel
theorem d_X_crumbs_10 : decode b_X_crumbs 10 = .ok (.getfield 10, 3) := by decide +kernel
theorem d_X_crumbs_13 : decode b_X_crumbs 13 = .ok (.iload_n 1, 1) := by decide +kernel
theorem d_X_crumbs_14 : decode b_X_crumbs 14 = .ok (.invokevirtual 84, 3) := by decide +kernel
theorem d_X_crumbs_17 : decode b_X_crumbs 17 = .ok (.ifCond .ne 9, 3) := by decide +kernel
theorem d_X_crumbs_20 : decode b_X_crumbs 20 = .ok (.iconst (-1), 1) := by decide +kernel
theorem d_X_crumbs_21 : decode b_X_crumbs 21 = .ok (.istore 4, 2) := by decide +kernel
theorem d_X_crumbs_23 : decode b_X_crumbs 23 = .ok (.goto 14, 3) := by decide +kernel
theorem d_X_crumbs_26 : decode b_X_crumbs 26 = .ok (.iload_n 3, 1) := by decide +kernel
theorem d_X_crumbs_27 : decode b_X_crumbs 27 = .ok (.invokestatic 132, 3) := by decide +kernel
theorem d_X_crumbs_30 : decode b_X_crumbs 30 = .ok (.ifCond .ne 7, 3) := by decide +kernel
theorem d_X_crumbs_33 : decode b_X_crumbs 33 = .ok (.bipush (-2), 2) := by decide +kernel
theorem d_X_crumbs_35 : decode b_X_crumbs 35 = .ok (.istore 4, 2) := by decide +kernel
theorem d_X_crumbs_37 : decode b_X_crumbs 37 = .ok (.iload 4, 2) := by decide +kernel
theorem d_X_crumbs_39 : decode b_X_crumbs 39 = .ok (.ifCond .eq 15, 3) := by decide +kernel
theorem d_X_crumbs_42 : decode b_X_crumbs 42 = .ok (.ldc2_w 157, 3) := by decide +kernel
theorem d_X_crumbs_45 : decode b_X_crumbs 45 = .ok (.aload_n 0, 1) := by decide +kernel
theorem d_X_crumbs_46 : decode b_X_crumbs 46 = .ok (.iload 4, 2) := by decide +kernel
theorem d_X_crumbs_48 : decode b_X_crumbs 48 = .ok (.invokevirtual 69, 3) := by decide +kernel
theorem d_X_crumbs_51 : decode b_X_crumbs 51 = .ok (.i2l, 1) := by decide +kernel
theorem d_X_crumbs_52 : decode b_X_crumbs 52 = .ok (.lsub, 1) := by decide +kernel
theorem d_X_crumbs_53 : decode b_X_crumbs 53 = .ok (.lreturn, 1) := by decide +kernel
theorem d_X_crumbs_54 : decode b_X_crumbs 54 = .ok (.aload_n 0, 1) := by decide +kernel
theorem d_X_crumbs_55 : decode b_X_crumbs 55 = .ok (.getfield 51, 3) := by decide +kernel
theorem d_X_crumbs_58 : decode b_X_crumbs 58 = .ok (.aload_n 0, 1) := by decide +kernel
theorem d_X_crumbs_59 : decode b_X_crumbs 59 = .ok (.getfield 10, 3) := by decide +kernel
theorem d_X_crumbs_62 : decode b_X_crumbs 62 = .ok (.iload_n 2, 1) := by decide +kernel
theorem d_X_crumbs_63 : decode b_X_crumbs 63 = .ok (.invokevirtual 159, 3) := by decide +kernel
theorem d_X_crumbs_66 : decode b_X_crumbs 66 = .ok (.iload_n 3, 1) := by decide +kernel
theorem d_X_crumbs_67 : decode b_X_crumbs 67 = .ok (.ifCond .ne 14, 3) := by decide +kernel
theorem d_X_crumbs_70 : decode b_X_crumbs 70 = .ok (.aload_n 0, 1) := by decide +kernel
theorem d_X_crumbs_71 : decode b_X_crumbs 71 = .ok (.getfield 51, 3) := by decide +kernel
theorem d_X_crumbs_74 : decode b_X_crumbs 74 = .ok (.iload_n 1, 1) := by decide +kernel
theorem d_X_crumbs_75 : decode b_X_crumbs 75 = .ok (.invokevirtual 163, 3) := by decide +kernel
theorem d_X_crumbs_78 : decode b_X_crumbs 78 = .ok (.goto 11, 3) := by decide +kernel
theorem d_X_crumbs_81 : decode b_X_crumbs 81 = .ok (.aload_n 0, 1) := by decide +kernel
theorem d_X_crumbs_82 : decode b_X_crumbs 82 = .ok (.getfield 51, 3) := by decide +kernel
theorem d_X_crumbs_85 : decode b_X_crumbs 85 = .ok (.iload_n 1, 1) := by decide +kernel
theorem d_X_crumbs_86 : decode b_X_crumbs 86 = .ok (.invokevirtual 167, 3) := by decide +kernel
theorem d_X_crumbs_89 : decode b_X_crumbs 89 = .ok (.lreturn, 1) := by decide +kernel
set_option maxHeartbeats 4000000 in
set_option maxRecDepth 100000 in
theorem c_X_crumbs {l : Launch} {D : va_G} {cI cJ cC : ClassId} (a_h a_h_now a_h_kept a_h_letters a_h_numbers a_h_refusals a_h_mind a_h_parts a_h_past a_h_seating a_h_now_kinds a_h_now_sweets a_h_now_settings a_h_now_heaps a_h_parts_have a_h_parts_next : Nat) (y_h_isKept : Int32) (y_h_numberCount : Int32) {z_h_now : RS} {z_h_refusals : (Nat → Int32)} {z_h_parts_doublings : Int32} {z_h_parts_have : (Nat → Int64)} {z_h_parts_next : (Nat → Int64)} {x1 : Int32} {x2 : Int32} {x3 : Int32} {q : Int64 × (Nat → Int32) × Int32 × (Nat → Int64) × (Nat → Int64)} (hf : f_X_crumbs z_h_now z_h_refusals z_h_parts_doublings z_h_parts_have z_h_parts_next x1 x2 x3 = some q) : xL l y_X_crumbs b_X_crumbs 5 .long 3 85 D (tyK cI cJ cC) xE0 [.ref a_h, .int x1, .int x2, .int x3] (w_X_crumbs cI cJ cC a_h a_h_now a_h_kept a_h_letters a_h_numbers a_h_refusals a_h_mind a_h_parts a_h_past a_h_seating a_h_now_kinds a_h_now_sweets a_h_now_settings a_h_now_heaps a_h_parts_have a_h_parts_next y_h_isKept y_h_numberCount (r_children z_h_now) (r_strokes z_h_now) (r_gave z_h_now) (r_threw z_h_now) (r_sweets z_h_now) (r_settings z_h_now) z_h_refusals z_h_parts_doublings z_h_parts_have z_h_parts_next) q.1 (w_X_crumbs cI cJ cC a_h a_h_now a_h_kept a_h_letters a_h_numbers a_h_refusals a_h_mind a_h_parts a_h_past a_h_seating a_h_now_kinds a_h_now_sweets a_h_now_settings a_h_now_heaps a_h_parts_have a_h_parts_next y_h_isKept y_h_numberCount (r_children z_h_now) (r_strokes z_h_now) (r_gave z_h_now) (r_threw z_h_now) (r_sweets z_h_now) (r_settings z_h_now) q.2.1 q.2.2.1 q.2.2.2.1 q.2.2.2.2) := by
  refine xL_of (by decide) (Nat.le_of_ble_eq_true rfl) ?_
  intro p e s m args below meth c A Q hx hb hml hown hT hA hP hD hK hS hE hret ls hl
  have hown : s.vm.findClass R_X = some m.cls := hown
  have hl : lv_has ls 5 [(0, .ref a_h), (1, .int x1), (2, .int x2), (3, .int x3)] := hl
  unfold f_X_crumbs at hf
  refine lv_iload_n hx hb d_X_crumbs_0 rfl (lv_at hl 2 rfl) ?_
  refine lv_iconst (v := 0) hx hb d_X_crumbs_1 (by decide) ?_
  refine lv_bipush (v := 20) hx hb d_X_crumbs_2 (by decide) ?_
  obtain ⟨q1, hq1, hf⟩ := io_b hf
  refine xcSI (wc := []) (wc' := []) (ws' := (w_X_crumbs cI cJ cC a_h a_h_now a_h_kept a_h_letters a_h_numbers a_h_refusals a_h_mind a_h_parts a_h_past a_h_seating a_h_now_kinds a_h_now_sweets a_h_now_settings a_h_now_heaps a_h_parts_have a_h_parts_next y_h_isKept y_h_numberCount (r_children z_h_now) (r_strokes z_h_now) (r_gave z_h_now) (r_threw z_h_now) (r_sweets z_h_now) (r_settings z_h_now) z_h_refusals z_h_parts_doublings z_h_parts_have z_h_parts_next)) (As := [.int x2, .int 0, .int 20]) (rest := []) hx hb hml hown hT (c_X_outside hq1) k_245 k_246 k_1 k_247 hd_X_outside ⟨Nat.le_of_ble_eq_true rfl, Nat.le_of_ble_eq_true rfl⟩ xE0_ok trivial hA hK hP hD hS [] [0, 1, 2, 3, 4, 5, 6, 7] [0, 1, 2, 3, 4, 5, 6, 7] rfl rfl rfl rfl rfl rfl rfl hl.1 rfl (Nat.le_of_ble_eq_true rfl) ⟨Nat.zero_le _, Nat.zero_le _⟩ d_X_crumbs_4 (fun H locs hP hD hS => ?_)
  refine lv_istore (lv' := [(4, .int q1), (0, .ref a_h), (1, .int x1), (2, .int x2), (3, .int x3)]) hx hb d_X_crumbs_7 hl (by decide) rfl (fun ls hl => ?_)
  refine lv_aload_n hx hb d_X_crumbs_9 rfl (lv_at hl 1 rfl) ?_
  refine va_get hx hb hT i_X hown hK hP 0 rfl rfl 0 (Nat.le_of_ble_eq_true rfl) (hT _ k_156) (fun _ h => h) rfl d_X_crumbs_10 ?_
  refine lv_iload_n hx hb d_X_crumbs_13 rfl (lv_at hl 2 rfl) ?_
  obtain ⟨q2, hq2, hf⟩ := io_b hf
  refine xcVI (wc := (w_Ring_has cI cJ cC a_h_now a_h_now_kinds a_h_now_sweets a_h_now_settings a_h_now_heaps (r_children z_h_now) (r_strokes z_h_now) (r_gave z_h_now) (r_threw z_h_now))) (wc' := (w_Ring_has cI cJ cC a_h_now a_h_now_kinds a_h_now_sweets a_h_now_settings a_h_now_heaps (r_children z_h_now) (r_strokes z_h_now) (r_gave z_h_now) (r_threw z_h_now))) (ws' := (w_X_crumbs cI cJ cC a_h a_h_now a_h_kept a_h_letters a_h_numbers a_h_refusals a_h_mind a_h_parts a_h_past a_h_seating a_h_now_kinds a_h_now_sweets a_h_now_settings a_h_now_heaps a_h_parts_have a_h_parts_next y_h_isKept y_h_numberCount (r_children z_h_now) (r_strokes z_h_now) (r_gave z_h_now) (r_threw z_h_now) (r_sweets z_h_now) (r_settings z_h_now) z_h_refusals z_h_parts_doublings z_h_parts_have z_h_parts_next)) (As := [.int x1]) (rest := []) hx hb hml hown hT (c_Ring_has (z_h := z_h_now) a_h_now a_h_now_kinds a_h_now_sweets a_h_now_settings a_h_now_heaps hq2) k_194 k_195 k_196 k_2 k_197 hd_Ring_has ⟨Nat.le_of_ble_eq_true rfl, Nat.le_of_ble_eq_true rfl⟩ xE0_ok trivial hA hK hP hD hS [1] [0, 2, 3, 4, 5, 6, 7] [0, 7, 1, 2, 3, 4, 5, 6] rfl rfl rfl rfl rfl rfl rfl rfl rfl rfl hl.1 rfl (Nat.le_of_ble_eq_true rfl) ⟨Nat.zero_le _, Nat.zero_le _⟩ d_X_crumbs_14 (fun H locs hP hD hS => ?_)
  refine lv_if_ne (tgt := 26) hx hb d_X_crumbs_17 (by decide) (fun c3 => ?_) (fun c3 => ?_)
  · have hf := io_f hf c3
    refine lv_iload_n hx hb d_X_crumbs_26 rfl (lv_at hl 4 rfl) ?_
    obtain ⟨q4, hq4, hf⟩ := io_b hf
    refine xcSI (wc := []) (wc' := []) (ws' := (w_X_crumbs cI cJ cC a_h a_h_now a_h_kept a_h_letters a_h_numbers a_h_refusals a_h_mind a_h_parts a_h_past a_h_seating a_h_now_kinds a_h_now_sweets a_h_now_settings a_h_now_heaps a_h_parts_have a_h_parts_next y_h_isKept y_h_numberCount (r_children z_h_now) (r_strokes z_h_now) (r_gave z_h_now) (r_threw z_h_now) (r_sweets z_h_now) (r_settings z_h_now) z_h_refusals z_h_parts_doublings z_h_parts_have z_h_parts_next)) (As := [.int x3]) (rest := []) hx hb hml hown hT (c_X_isPart hq4) k_265 k_266 k_1 k_267 hd_X_isPart ⟨Nat.le_of_ble_eq_true rfl, Nat.le_of_ble_eq_true rfl⟩ xE0_ok trivial hA hK hP hD hS [] [0, 1, 2, 3, 4, 5, 6, 7] [0, 1, 2, 3, 4, 5, 6, 7] rfl rfl rfl rfl rfl rfl rfl hl.1 rfl (Nat.le_of_ble_eq_true rfl) ⟨Nat.zero_le _, Nat.zero_le _⟩ d_X_crumbs_27 (fun H locs hP hD hS => ?_)
    refine lv_if_ne (tgt := 37) hx hb d_X_crumbs_30 (by decide) (fun c5 => ?_) (fun c5 => ?_)
    · have hf := io_f hf c5
      refine lv_iload hx hb d_X_crumbs_37 (lv_at hl 0 rfl) ?_
      refine lv_if_eq (tgt := 54) hx hb d_X_crumbs_39 (by decide) (fun c6 => ?_) (fun c6 => ?_)
      · have hf := io_t hf c6
        refine lv_aload_n hx hb d_X_crumbs_54 rfl (lv_at hl 1 rfl) ?_
        refine va_get hx hb hT i_X hown hK hP 0 rfl rfl 8 (Nat.le_of_ble_eq_true rfl) (hT _ k_164) (fun _ h => h) rfl d_X_crumbs_55 ?_
        refine lv_aload_n hx hb d_X_crumbs_58 rfl (lv_at hl 1 rfl) ?_
        refine va_get hx hb hT i_X hown hK hP 0 rfl rfl 0 (Nat.le_of_ble_eq_true rfl) (hT _ k_156) (fun _ h => h) rfl d_X_crumbs_59 ?_
        refine lv_iload_n hx hb d_X_crumbs_62 rfl (lv_at hl 3 rfl) ?_
        obtain ⟨q7, hq7, hf⟩ := io_b hf
        refine xcVV (wc := (w_Crumbs_take cI cJ cC a_h_parts a_h_parts_have a_h_parts_next a_h_now a_h_now_kinds a_h_now_sweets a_h_now_settings a_h_now_heaps z_h_parts_doublings z_h_parts_have z_h_parts_next (r_children z_h_now) (r_strokes z_h_now) (r_gave z_h_now) (r_threw z_h_now) (r_sweets z_h_now) (r_settings z_h_now))) (wc' := (w_Crumbs_take cI cJ cC a_h_parts a_h_parts_have a_h_parts_next a_h_now a_h_now_kinds a_h_now_sweets a_h_now_settings a_h_now_heaps q7.1 q7.2.1 q7.2.2 (r_children z_h_now) (r_strokes z_h_now) (r_gave z_h_now) (r_threw z_h_now) (r_sweets z_h_now) (r_settings z_h_now))) (ws' := (w_X_crumbs cI cJ cC a_h a_h_now a_h_kept a_h_letters a_h_numbers a_h_refusals a_h_mind a_h_parts a_h_past a_h_seating a_h_now_kinds a_h_now_sweets a_h_now_settings a_h_now_heaps a_h_parts_have a_h_parts_next y_h_isKept y_h_numberCount (r_children z_h_now) (r_strokes z_h_now) (r_gave z_h_now) (r_threw z_h_now) (r_sweets z_h_now) (r_settings z_h_now) z_h_refusals q7.1 q7.2.1 q7.2.2)) (As := [.ref a_h_now, .int x2]) (rest := []) hx hb hml hown hT (c_Crumbs_take (z_h_doublings := z_h_parts_doublings) (z_h_have := z_h_parts_have) (z_h_next := z_h_parts_next) (z_g1 := z_h_now) a_h_parts a_h_parts_have a_h_parts_next a_h_now a_h_now_kinds a_h_now_sweets a_h_now_settings a_h_now_heaps hq7) k_338 k_339 k_340 k_5 k_341 hd_Crumbs_take ⟨Nat.le_of_ble_eq_true rfl, Nat.le_of_ble_eq_true rfl⟩ xE0_ok trivial hA hK hP hD hS [5, 6, 7, 1, 2, 3] [0, 4] [0, 5, 6, 7, 1, 2, 3, 4] rfl rfl rfl rfl rfl rfl rfl rfl rfl rfl hl.1 rfl (Nat.le_of_ble_eq_true rfl) ⟨Nat.zero_le _, Nat.zero_le _⟩ d_X_crumbs_63 (fun H locs hP hD hS => ?_)
        refine lv_iload_n hx hb d_X_crumbs_66 rfl (lv_at hl 4 rfl) ?_
        refine lv_if_ne (tgt := 81) hx hb d_X_crumbs_67 (by decide) (fun c8 => ?_) (fun c8 => ?_)
        · have hf := io_f hf c8
          refine lv_aload_n hx hb d_X_crumbs_81 rfl (lv_at hl 1 rfl) ?_
          refine va_get hx hb hT i_X hown hK hP 0 rfl rfl 8 (Nat.le_of_ble_eq_true rfl) (hT _ k_164) (fun _ h => h) rfl d_X_crumbs_82 ?_
          refine lv_iload_n hx hb d_X_crumbs_85 rfl (lv_at hl 2 rfl) ?_
          obtain ⟨q9, hq9, hf⟩ := io_b hf
          refine xcVL (wc := (w_Crumbs_below cI cJ cC a_h_parts a_h_parts_have a_h_parts_next q7.1 q7.2.1)) (wc' := (w_Crumbs_below cI cJ cC a_h_parts a_h_parts_have a_h_parts_next q7.1 q7.2.1)) (ws' := (w_X_crumbs cI cJ cC a_h a_h_now a_h_kept a_h_letters a_h_numbers a_h_refusals a_h_mind a_h_parts a_h_past a_h_seating a_h_now_kinds a_h_now_sweets a_h_now_settings a_h_now_heaps a_h_parts_have a_h_parts_next y_h_isKept y_h_numberCount (r_children z_h_now) (r_strokes z_h_now) (r_gave z_h_now) (r_threw z_h_now) (r_sweets z_h_now) (r_settings z_h_now) z_h_refusals q7.1 q7.2.1 q7.2.2)) (As := [.int x1]) (rest := []) hx hb hml hown hT (c_Crumbs_below (z_h_doublings := q7.1) (z_h_have := q7.2.1) a_h_parts a_h_parts_have a_h_parts_next hq9) k_361 k_362 k_363 k_5 k_364 hd_Crumbs_below ⟨Nat.le_of_ble_eq_true rfl, Nat.le_of_ble_eq_true rfl⟩ xE0_ok trivial hA hK hP hD hS [5, 6] [0, 1, 2, 3, 4, 7] [0, 1, 2, 3, 4, 6, 7, 5] rfl rfl rfl rfl rfl rfl rfl rfl rfl rfl hl.1 rfl (Nat.le_of_ble_eq_true rfl) ⟨Nat.zero_le _, Nat.zero_le _⟩ d_X_crumbs_86 (fun H locs hP hD hS => ?_)
          have hq := Option.some.inj hf
          subst hq
          exact hret _ _ _ _ _ d_X_crumbs_89 rfl hP hD hS
        · have hf := io_t hf c8
          refine lv_aload_n hx hb d_X_crumbs_70 rfl (lv_at hl 1 rfl) ?_
          refine va_get hx hb hT i_X hown hK hP 0 rfl rfl 8 (Nat.le_of_ble_eq_true rfl) (hT _ k_164) (fun _ h => h) rfl d_X_crumbs_71 ?_
          refine lv_iload_n hx hb d_X_crumbs_74 rfl (lv_at hl 2 rfl) ?_
          obtain ⟨q10, hq10, hf⟩ := io_b hf
          refine xcVL (wc := (w_Crumbs_above cI cJ cC a_h_parts a_h_parts_have a_h_parts_next q7.1 q7.2.1)) (wc' := (w_Crumbs_above cI cJ cC a_h_parts a_h_parts_have a_h_parts_next q7.1 q7.2.1)) (ws' := (w_X_crumbs cI cJ cC a_h a_h_now a_h_kept a_h_letters a_h_numbers a_h_refusals a_h_mind a_h_parts a_h_past a_h_seating a_h_now_kinds a_h_now_sweets a_h_now_settings a_h_now_heaps a_h_parts_have a_h_parts_next y_h_isKept y_h_numberCount (r_children z_h_now) (r_strokes z_h_now) (r_gave z_h_now) (r_threw z_h_now) (r_sweets z_h_now) (r_settings z_h_now) z_h_refusals q7.1 q7.2.1 q7.2.2)) (As := [.int x1]) (rest := []) hx hb hml hown hT (c_Crumbs_above (z_h_doublings := q7.1) (z_h_have := q7.2.1) a_h_parts a_h_parts_have a_h_parts_next hq10) k_352 k_353 k_354 k_5 k_355 hd_Crumbs_above ⟨Nat.le_of_ble_eq_true rfl, Nat.le_of_ble_eq_true rfl⟩ xE0_ok trivial hA hK hP hD hS [5, 6] [0, 1, 2, 3, 4, 7] [0, 1, 2, 3, 4, 6, 7, 5] rfl rfl rfl rfl rfl rfl rfl rfl rfl rfl hl.1 rfl (Nat.le_of_ble_eq_true rfl) ⟨Nat.zero_le _, Nat.zero_le _⟩ d_X_crumbs_75 (fun H locs hP hD hS => ?_)
          refine lv_goto (tgt := 89) hx hb d_X_crumbs_78 (by decide) ?_
          have hq := Option.some.inj hf
          subst hq
          exact hret _ _ _ _ _ d_X_crumbs_89 rfl hP hD hS
      · have hf := io_f hf c6
        refine lv_ldc2 (v := 4000000000000000000) hx hb hown (hT _ k_337) d_X_crumbs_42 ?_
        refine lv_aload_n hx hb d_X_crumbs_45 rfl (lv_at hl 1 rfl) ?_
        refine lv_iload hx hb d_X_crumbs_46 (lv_at hl 0 rfl) ?_
        obtain ⟨q11, hq11, hf⟩ := io_b hf
        refine xcVI (wc := (w_X_refuse cI cJ cC a_h a_h_now a_h_kept a_h_letters a_h_numbers a_h_refusals a_h_mind a_h_parts a_h_past a_h_seating y_h_isKept y_h_numberCount z_h_refusals)) (wc' := (w_X_refuse cI cJ cC a_h a_h_now a_h_kept a_h_letters a_h_numbers a_h_refusals a_h_mind a_h_parts a_h_past a_h_seating y_h_isKept y_h_numberCount q11.2)) (ws' := (w_X_crumbs cI cJ cC a_h a_h_now a_h_kept a_h_letters a_h_numbers a_h_refusals a_h_mind a_h_parts a_h_past a_h_seating a_h_now_kinds a_h_now_sweets a_h_now_settings a_h_now_heaps a_h_parts_have a_h_parts_next y_h_isKept y_h_numberCount (r_children z_h_now) (r_strokes z_h_now) (r_gave z_h_now) (r_threw z_h_now) (r_sweets z_h_now) (r_settings z_h_now) q11.2 z_h_parts_doublings z_h_parts_have z_h_parts_next)) (As := [.int q1]) (rest := [.long 4000000000000000000]) hx hb hml hown hT (c_X_refuse (z_h_refusals := z_h_refusals) a_h a_h_now a_h_kept a_h_letters a_h_numbers a_h_refusals a_h_mind a_h_parts a_h_past a_h_seating y_h_isKept y_h_numberCount hq11) k_198 k_200 ks_0 k_1 k_201 hd_X_refuse ⟨Nat.le_of_ble_eq_true rfl, Nat.le_of_ble_eq_true rfl⟩ xE0_ok trivial hA hK hP hD hS [0, 4] [1, 2, 3, 5, 6, 7] [6, 0, 1, 2, 7, 3, 4, 5] rfl rfl rfl rfl rfl rfl rfl rfl rfl rfl hl.1 rfl (Nat.le_of_ble_eq_true rfl) ⟨Nat.zero_le _, Nat.zero_le _⟩ d_X_crumbs_48 (fun H locs hP hD hS => ?_)
        refine lv_i2l (v := (q11.1.toInt64)) hx hb d_X_crumbs_51 rfl ?_
        refine lv_lsub hx hb d_X_crumbs_52 ?_
        have hq := Option.some.inj hf
        subst hq
        exact hret _ _ _ _ _ d_X_crumbs_53 rfl hP hD hS
    · have hf := io_t hf c5
      refine lv_bipush (v := (-2)) hx hb d_X_crumbs_33 (by decide) ?_
      refine lv_istore (lv' := [(4, .int (-2)), (0, .ref a_h), (1, .int x1), (2, .int x2), (3, .int x3)]) hx hb d_X_crumbs_35 hl (by decide) rfl (fun ls hl => ?_)
      refine lv_iload hx hb d_X_crumbs_37 (lv_at hl 0 rfl) ?_
      refine lv_if_eq (tgt := 54) hx hb d_X_crumbs_39 (by decide) (fun c => absurd c (show ¬ ((-2) : Int32) = 0 from by decide +kernel)) (fun _ => ?_)
      refine lv_ldc2 (v := 4000000000000000000) hx hb hown (hT _ k_337) d_X_crumbs_42 ?_
      refine lv_aload_n hx hb d_X_crumbs_45 rfl (lv_at hl 1 rfl) ?_
      refine lv_iload hx hb d_X_crumbs_46 (lv_at hl 0 rfl) ?_
      obtain ⟨q12, hq12, hf⟩ := io_b hf
      refine xcVI (wc := (w_X_refuse cI cJ cC a_h a_h_now a_h_kept a_h_letters a_h_numbers a_h_refusals a_h_mind a_h_parts a_h_past a_h_seating y_h_isKept y_h_numberCount z_h_refusals)) (wc' := (w_X_refuse cI cJ cC a_h a_h_now a_h_kept a_h_letters a_h_numbers a_h_refusals a_h_mind a_h_parts a_h_past a_h_seating y_h_isKept y_h_numberCount q12.2)) (ws' := (w_X_crumbs cI cJ cC a_h a_h_now a_h_kept a_h_letters a_h_numbers a_h_refusals a_h_mind a_h_parts a_h_past a_h_seating a_h_now_kinds a_h_now_sweets a_h_now_settings a_h_now_heaps a_h_parts_have a_h_parts_next y_h_isKept y_h_numberCount (r_children z_h_now) (r_strokes z_h_now) (r_gave z_h_now) (r_threw z_h_now) (r_sweets z_h_now) (r_settings z_h_now) q12.2 z_h_parts_doublings z_h_parts_have z_h_parts_next)) (As := [.int (-2)]) (rest := [.long 4000000000000000000]) hx hb hml hown hT (c_X_refuse (z_h_refusals := z_h_refusals) a_h a_h_now a_h_kept a_h_letters a_h_numbers a_h_refusals a_h_mind a_h_parts a_h_past a_h_seating y_h_isKept y_h_numberCount hq12) k_198 k_200 ks_0 k_1 k_201 hd_X_refuse ⟨Nat.le_of_ble_eq_true rfl, Nat.le_of_ble_eq_true rfl⟩ xE0_ok trivial hA hK hP hD hS [0, 4] [1, 2, 3, 5, 6, 7] [6, 0, 1, 2, 7, 3, 4, 5] rfl rfl rfl rfl rfl rfl rfl rfl rfl rfl hl.1 rfl (Nat.le_of_ble_eq_true rfl) ⟨Nat.zero_le _, Nat.zero_le _⟩ d_X_crumbs_48 (fun H locs hP hD hS => ?_)
      refine lv_i2l (v := (q12.1.toInt64)) hx hb d_X_crumbs_51 rfl ?_
      refine lv_lsub hx hb d_X_crumbs_52 ?_
      have hq := Option.some.inj hf
      subst hq
      exact hret _ _ _ _ _ d_X_crumbs_53 rfl hP hD hS
  · have hf := io_t hf c3
    refine lv_iconst (v := (-1)) hx hb d_X_crumbs_20 (by decide) ?_
    refine lv_istore (lv' := [(4, .int (-1)), (0, .ref a_h), (1, .int x1), (2, .int x2), (3, .int x3)]) hx hb d_X_crumbs_21 hl (by decide) rfl (fun ls hl => ?_)
    refine lv_goto (tgt := 37) hx hb d_X_crumbs_23 (by decide) ?_
    refine lv_iload hx hb d_X_crumbs_37 (lv_at hl 0 rfl) ?_
    refine lv_if_eq (tgt := 54) hx hb d_X_crumbs_39 (by decide) (fun c => absurd c (show ¬ ((-1) : Int32) = 0 from by decide +kernel)) (fun _ => ?_)
    refine lv_ldc2 (v := 4000000000000000000) hx hb hown (hT _ k_337) d_X_crumbs_42 ?_
    refine lv_aload_n hx hb d_X_crumbs_45 rfl (lv_at hl 1 rfl) ?_
    refine lv_iload hx hb d_X_crumbs_46 (lv_at hl 0 rfl) ?_
    obtain ⟨q13, hq13, hf⟩ := io_b hf
    refine xcVI (wc := (w_X_refuse cI cJ cC a_h a_h_now a_h_kept a_h_letters a_h_numbers a_h_refusals a_h_mind a_h_parts a_h_past a_h_seating y_h_isKept y_h_numberCount z_h_refusals)) (wc' := (w_X_refuse cI cJ cC a_h a_h_now a_h_kept a_h_letters a_h_numbers a_h_refusals a_h_mind a_h_parts a_h_past a_h_seating y_h_isKept y_h_numberCount q13.2)) (ws' := (w_X_crumbs cI cJ cC a_h a_h_now a_h_kept a_h_letters a_h_numbers a_h_refusals a_h_mind a_h_parts a_h_past a_h_seating a_h_now_kinds a_h_now_sweets a_h_now_settings a_h_now_heaps a_h_parts_have a_h_parts_next y_h_isKept y_h_numberCount (r_children z_h_now) (r_strokes z_h_now) (r_gave z_h_now) (r_threw z_h_now) (r_sweets z_h_now) (r_settings z_h_now) q13.2 z_h_parts_doublings z_h_parts_have z_h_parts_next)) (As := [.int (-1)]) (rest := [.long 4000000000000000000]) hx hb hml hown hT (c_X_refuse (z_h_refusals := z_h_refusals) a_h a_h_now a_h_kept a_h_letters a_h_numbers a_h_refusals a_h_mind a_h_parts a_h_past a_h_seating y_h_isKept y_h_numberCount hq13) k_198 k_200 ks_0 k_1 k_201 hd_X_refuse ⟨Nat.le_of_ble_eq_true rfl, Nat.le_of_ble_eq_true rfl⟩ xE0_ok trivial hA hK hP hD hS [0, 4] [1, 2, 3, 5, 6, 7] [6, 0, 1, 2, 7, 3, 4, 5] rfl rfl rfl rfl rfl rfl rfl rfl rfl rfl hl.1 rfl (Nat.le_of_ble_eq_true rfl) ⟨Nat.zero_le _, Nat.zero_le _⟩ d_X_crumbs_48 (fun H locs hP hD hS => ?_)
    refine lv_i2l (v := (q13.1.toInt64)) hx hb d_X_crumbs_51 rfl ?_
    refine lv_lsub hx hb d_X_crumbs_52 ?_
    have hq := Option.some.inj hf
    subst hq
    exact hret _ _ _ _ _ d_X_crumbs_53 rfl hP hD hS
abbrev w_X_mean (cI cJ cC : ClassId) (a_h a_h_now a_h_kept a_h_letters a_h_numbers a_h_refusals a_h_mind a_h_parts a_h_past a_h_seating a_h_now_kinds a_h_now_sweets a_h_now_settings a_h_now_heaps : Nat) (y_h_isKept : Int32) (y_h_numberCount : Int32) (p_h_now_children : Int32) (p_h_now_strokes : Int32) (p_h_now_gave : Int32) (p_h_now_threw : Int32) (p_h_now_sweets : (Nat → Int32)) (p_h_refusals : (Nat → Int32)) : va_W := [(a_h, .inr (0, [.ref a_h_now, .ref a_h_kept, .int y_h_isKept, .ref a_h_letters, .ref a_h_numbers, .int y_h_numberCount, .ref a_h_refusals, .ref a_h_mind, .ref a_h_parts, .ref a_h_past, .ref a_h_seating])), (a_h_now, .inr (1, [.ref a_h_now_kinds, .ref a_h_now_sweets, .ref a_h_now_settings, .int p_h_now_children, .int p_h_now_strokes, .int p_h_now_gave, .int p_h_now_threw, .ref a_h_now_heaps])), (a_h_now_sweets, .inl (cI, (8, .inl p_h_now_sweets))), (a_h_refusals, .inl (cI, (7, .inl p_h_refusals)))]
theorem d_X_mean_0 : decode b_X_mean 0 = .ok (.iload_n 1, 1) := by decide +kernel
theorem d_X_mean_1 : decode b_X_mean 1 = .ok (.invokestatic 132, 3) := by decide +kernel
theorem d_X_mean_4 : decode b_X_mean 4 = .ok (.ifCond .ne 10, 3) := by decide +kernel
theorem d_X_mean_7 : decode b_X_mean 7 = .ok (.aload_n 0, 1) := by decide +kernel
theorem d_X_mean_8 : decode b_X_mean 8 = .ok (.bipush (-2), 2) := by decide +kernel
theorem d_X_mean_10 : decode b_X_mean 10 = .ok (.invokevirtual 69, 3) := by decide +kernel
theorem d_X_mean_13 : decode b_X_mean 13 = .ok (.ireturn, 1) := by decide +kernel
theorem d_X_mean_14 : decode b_X_mean 14 = .ok (.aload_n 0, 1) := by decide +kernel
theorem d_X_mean_15 : decode b_X_mean 15 = .ok (.getfield 10, 3) := by decide +kernel
theorem d_X_mean_18 : decode b_X_mean 18 = .ok (.getfield 121, 3) := by decide +kernel
theorem d_X_mean_21 : decode b_X_mean 21 = .ok (.ifCond .ne 10, 3) := by decide +kernel
theorem d_X_mean_24 : decode b_X_mean 24 = .ok (.aload_n 0, 1) := by decide +kernel
theorem d_X_mean_25 : decode b_X_mean 25 = .ok (.bipush (-3), 2) := by decide +kernel
theorem d_X_mean_27 : decode b_X_mean 27 = .ok (.invokevirtual 69, 3) := by decide +kernel
theorem d_X_mean_30 : decode b_X_mean 30 = .ok (.ireturn, 1) := by decide +kernel
theorem d_X_mean_31 : decode b_X_mean 31 = .ok (.aload_n 0, 1) := by decide +kernel
theorem d_X_mean_32 : decode b_X_mean 32 = .ok (.getfield 10, 3) := by decide +kernel
theorem d_X_mean_35 : decode b_X_mean 35 = .ok (.invokevirtual 170, 3) := by decide +kernel
theorem d_X_mean_38 : decode b_X_mean 38 = .ok (.iconst 1, 1) := by decide +kernel
theorem d_X_mean_39 : decode b_X_mean 39 = .ok (.invokestatic 173, 3) := by decide +kernel
theorem d_X_mean_42 : decode b_X_mean 42 = .ok (.istore_n 2, 1) := by decide +kernel
theorem d_X_mean_43 : decode b_X_mean 43 = .ok (.iload_n 1, 1) := by decide +kernel
theorem d_X_mean_44 : decode b_X_mean 44 = .ok (.ifCond .ne 13, 3) := by decide +kernel
theorem d_X_mean_47 : decode b_X_mean 47 = .ok (.aload_n 0, 1) := by decide +kernel
theorem d_X_mean_48 : decode b_X_mean 48 = .ok (.getfield 10, 3) := by decide +kernel
theorem d_X_mean_51 : decode b_X_mean 51 = .ok (.invokevirtual 179, 3) := by decide +kernel
theorem d_X_mean_54 : decode b_X_mean 54 = .ok (.goto 10, 3) := by decide +kernel
theorem d_X_mean_57 : decode b_X_mean 57 = .ok (.aload_n 0, 1) := by decide +kernel
theorem d_X_mean_58 : decode b_X_mean 58 = .ok (.getfield 10, 3) := by decide +kernel
theorem d_X_mean_61 : decode b_X_mean 61 = .ok (.getfield 121, 3) := by decide +kernel
theorem d_X_mean_64 : decode b_X_mean 64 = .ok (.iload_n 2, 1) := by decide +kernel
theorem d_X_mean_65 : decode b_X_mean 65 = .ok (.idiv, 1) := by decide +kernel
theorem d_X_mean_66 : decode b_X_mean 66 = .ok (.ireturn, 1) := by decide +kernel
set_option maxHeartbeats 4000000 in
set_option maxRecDepth 100000 in
theorem c_X_mean {l : Launch} {D : va_G} {cI cJ cC : ClassId} (a_h a_h_now a_h_kept a_h_letters a_h_numbers a_h_refusals a_h_mind a_h_parts a_h_past a_h_seating a_h_now_kinds a_h_now_sweets a_h_now_settings a_h_now_heaps : Nat) (y_h_isKept : Int32) (y_h_numberCount : Int32) {z_h_now : RS} {z_h_refusals : (Nat → Int32)} {x1 : Int32} {q : Int32 × (Nat → Int32)} (hf : f_X_mean z_h_now z_h_refusals x1 = some q) : xI l y_X_mean b_X_mean 3 .int 2 44 D (tyK cI cJ cC) xE0 [.ref a_h, .int x1] (w_X_mean cI cJ cC a_h a_h_now a_h_kept a_h_letters a_h_numbers a_h_refusals a_h_mind a_h_parts a_h_past a_h_seating a_h_now_kinds a_h_now_sweets a_h_now_settings a_h_now_heaps y_h_isKept y_h_numberCount (r_children z_h_now) (r_strokes z_h_now) (r_gave z_h_now) (r_threw z_h_now) (r_sweets z_h_now) z_h_refusals) q.1 (w_X_mean cI cJ cC a_h a_h_now a_h_kept a_h_letters a_h_numbers a_h_refusals a_h_mind a_h_parts a_h_past a_h_seating a_h_now_kinds a_h_now_sweets a_h_now_settings a_h_now_heaps y_h_isKept y_h_numberCount (r_children z_h_now) (r_strokes z_h_now) (r_gave z_h_now) (r_threw z_h_now) (r_sweets z_h_now) q.2) := by
  refine xI_of (by decide) (Nat.le_of_ble_eq_true rfl) ?_
  intro p e s m args below meth c A Q hx hb hml hown hT hA hP hD hK hS hE hret ls hl
  have hown : s.vm.findClass R_X = some m.cls := hown
  have hl : lv_has ls 3 [(0, .ref a_h), (1, .int x1)] := hl
  unfold f_X_mean at hf
  refine lv_iload_n hx hb d_X_mean_0 rfl (lv_at hl 1 rfl) ?_
  obtain ⟨q1, hq1, hf⟩ := io_b hf
  refine xcSI (wc := []) (wc' := []) (ws' := (w_X_mean cI cJ cC a_h a_h_now a_h_kept a_h_letters a_h_numbers a_h_refusals a_h_mind a_h_parts a_h_past a_h_seating a_h_now_kinds a_h_now_sweets a_h_now_settings a_h_now_heaps y_h_isKept y_h_numberCount (r_children z_h_now) (r_strokes z_h_now) (r_gave z_h_now) (r_threw z_h_now) (r_sweets z_h_now) z_h_refusals)) (As := [.int x1]) (rest := []) hx hb hml hown hT (c_X_isPart hq1) k_265 k_266 k_1 k_267 hd_X_isPart ⟨Nat.le_of_ble_eq_true rfl, Nat.le_of_ble_eq_true rfl⟩ xE0_ok trivial hA hK hP hD hS [] [0, 1, 2, 3] [0, 1, 2, 3] rfl rfl rfl rfl rfl rfl rfl hl.1 rfl (Nat.le_of_ble_eq_true rfl) ⟨Nat.zero_le _, Nat.zero_le _⟩ d_X_mean_1 (fun H locs hP hD hS => ?_)
  refine lv_if_ne (tgt := 14) hx hb d_X_mean_4 (by decide) (fun c2 => ?_) (fun c2 => ?_)
  · have hf := io_f hf c2
    refine lv_aload_n hx hb d_X_mean_14 rfl (lv_at hl 0 rfl) ?_
    refine va_get hx hb hT i_X hown hK hP 0 rfl rfl 0 (Nat.le_of_ble_eq_true rfl) (hT _ k_156) (fun _ h => h) rfl d_X_mean_15 ?_
    refine va_get hx hb hT i_Ring hown hK hP 1 rfl rfl 3 (Nat.le_of_ble_eq_true rfl) (hT _ k_40) (fun _ h => h) rfl d_X_mean_18 ?_
    refine lv_if_ne (tgt := 31) hx hb d_X_mean_21 (by decide) (fun c3 => ?_) (fun c3 => ?_)
    · have hf := io_f hf c3
      refine lv_aload_n hx hb d_X_mean_31 rfl (lv_at hl 0 rfl) ?_
      refine va_get hx hb hT i_X hown hK hP 0 rfl rfl 0 (Nat.le_of_ble_eq_true rfl) (hT _ k_156) (fun _ h => h) rfl d_X_mean_32 ?_
      obtain ⟨q4, hq4, hf⟩ := io_b hf
      refine xcVI (wc := (w_Ring_commonDivisor cI cJ cC a_h_now a_h_now_kinds a_h_now_sweets a_h_now_settings a_h_now_heaps (r_children z_h_now) (r_strokes z_h_now) (r_gave z_h_now) (r_threw z_h_now) (r_sweets z_h_now))) (wc' := (w_Ring_commonDivisor cI cJ cC a_h_now a_h_now_kinds a_h_now_sweets a_h_now_settings a_h_now_heaps (r_children z_h_now) (r_strokes z_h_now) (r_gave z_h_now) (r_threw z_h_now) (r_sweets z_h_now))) (ws' := (w_X_mean cI cJ cC a_h a_h_now a_h_kept a_h_letters a_h_numbers a_h_refusals a_h_mind a_h_parts a_h_past a_h_seating a_h_now_kinds a_h_now_sweets a_h_now_settings a_h_now_heaps y_h_isKept y_h_numberCount (r_children z_h_now) (r_strokes z_h_now) (r_gave z_h_now) (r_threw z_h_now) (r_sweets z_h_now) z_h_refusals)) (As := []) (rest := []) hx hb hml hown hT (c_Ring_commonDivisor (z_h := z_h_now) a_h_now a_h_now_kinds a_h_now_sweets a_h_now_settings a_h_now_heaps hq4) k_369 k_370 k_371 k_2 k_372 hd_Ring_commonDivisor ⟨Nat.le_of_ble_eq_true rfl, Nat.le_of_ble_eq_true rfl⟩ xE0_ok trivial hA hK hP hD hS [1, 2] [0, 3] [0, 2, 3, 1] rfl rfl rfl rfl rfl rfl rfl rfl rfl rfl hl.1 rfl (Nat.le_of_ble_eq_true rfl) ⟨Nat.zero_le _, Nat.zero_le _⟩ d_X_mean_35 (fun H locs hP hD hS => ?_)
      refine lv_iconst (v := 1) hx hb d_X_mean_38 (by decide) ?_
      refine va_mmax hx hb (hml.trans hl.1.symm) hown (hT _ k_377) (hT _ k_378) (hT _ k_10) (hT _ k_379) (Nat.le_of_ble_eq_true rfl) (Nat.le_of_ble_eq_true rfl) (Nat.zero_le _) (Nat.zero_le _) d_X_mean_39 ?_
      refine lv_istore_n (lv' := [(2, .int (jmax q4 1)), (0, .ref a_h), (1, .int x1)]) hx hb d_X_mean_42 rfl hl (by decide) rfl (fun ls hl => ?_)
      refine lv_iload_n hx hb d_X_mean_43 rfl (lv_at hl 2 rfl) ?_
      refine lv_if_ne (tgt := 57) hx hb d_X_mean_44 (by decide) (fun c5 => ?_) (fun c5 => ?_)
      · have hf := io_f hf c5
        refine lv_aload_n hx hb d_X_mean_57 rfl (lv_at hl 1 rfl) ?_
        refine va_get hx hb hT i_X hown hK hP 0 rfl rfl 0 (Nat.le_of_ble_eq_true rfl) (hT _ k_156) (fun _ h => h) rfl d_X_mean_58 ?_
        refine va_get hx hb hT i_Ring hown hK hP 1 rfl rfl 3 (Nat.le_of_ble_eq_true rfl) (hT _ k_40) (fun _ h => h) rfl d_X_mean_61 ?_
        refine lv_iload_n hx hb d_X_mean_64 rfl (lv_at hl 0 rfl) ?_
        obtain ⟨c6, hf⟩ := io_n hf
        refine x_idiv hx hb d_X_mean_65 c6 ?_
        have hq := Option.some.inj hf
        subst hq
        exact hret _ _ _ _ _ d_X_mean_66 rfl rfl hP hD hS
      · have hf := io_t hf c5
        refine lv_aload_n hx hb d_X_mean_47 rfl (lv_at hl 1 rfl) ?_
        refine va_get hx hb hT i_X hown hK hP 0 rfl rfl 0 (Nat.le_of_ble_eq_true rfl) (hT _ k_156) (fun _ h => h) rfl d_X_mean_48 ?_
        obtain ⟨q7, hq7, hf⟩ := io_b hf
        refine xcVI (wc := (w_Ring_allSweets cI cJ cC a_h_now a_h_now_kinds a_h_now_sweets a_h_now_settings a_h_now_heaps (r_children z_h_now) (r_strokes z_h_now) (r_gave z_h_now) (r_threw z_h_now) (r_sweets z_h_now))) (wc' := (w_Ring_allSweets cI cJ cC a_h_now a_h_now_kinds a_h_now_sweets a_h_now_settings a_h_now_heaps (r_children z_h_now) (r_strokes z_h_now) (r_gave z_h_now) (r_threw z_h_now) (r_sweets z_h_now))) (ws' := (w_X_mean cI cJ cC a_h a_h_now a_h_kept a_h_letters a_h_numbers a_h_refusals a_h_mind a_h_parts a_h_past a_h_seating a_h_now_kinds a_h_now_sweets a_h_now_settings a_h_now_heaps y_h_isKept y_h_numberCount (r_children z_h_now) (r_strokes z_h_now) (r_gave z_h_now) (r_threw z_h_now) (r_sweets z_h_now) z_h_refusals)) (As := []) (rest := []) hx hb hml hown hT (c_Ring_allSweets (z_h := z_h_now) a_h_now a_h_now_kinds a_h_now_sweets a_h_now_settings a_h_now_heaps hq7) k_380 k_374 k_375 k_2 k_376 hd_Ring_allSweets ⟨Nat.le_of_ble_eq_true rfl, Nat.le_of_ble_eq_true rfl⟩ xE0_ok trivial hA hK hP hD hS [1, 2] [0, 3] [0, 2, 3, 1] rfl rfl rfl rfl rfl rfl rfl rfl rfl rfl hl.1 rfl (Nat.le_of_ble_eq_true rfl) ⟨Nat.zero_le _, Nat.zero_le _⟩ d_X_mean_51 (fun H locs hP hD hS => ?_)
        refine lv_goto (tgt := 64) hx hb d_X_mean_54 (by decide) ?_
        refine lv_iload_n hx hb d_X_mean_64 rfl (lv_at hl 0 rfl) ?_
        obtain ⟨c8, hf⟩ := io_n hf
        refine x_idiv hx hb d_X_mean_65 c8 ?_
        have hq := Option.some.inj hf
        subst hq
        exact hret _ _ _ _ _ d_X_mean_66 rfl rfl hP hD hS
    · have hf := io_t hf c3
      refine lv_aload_n hx hb d_X_mean_24 rfl (lv_at hl 0 rfl) ?_
      refine lv_bipush (v := (-3)) hx hb d_X_mean_25 (by decide) ?_
      obtain ⟨q9, hq9, hf⟩ := io_b hf
      refine xcVI (wc := (w_X_refuse cI cJ cC a_h a_h_now a_h_kept a_h_letters a_h_numbers a_h_refusals a_h_mind a_h_parts a_h_past a_h_seating y_h_isKept y_h_numberCount z_h_refusals)) (wc' := (w_X_refuse cI cJ cC a_h a_h_now a_h_kept a_h_letters a_h_numbers a_h_refusals a_h_mind a_h_parts a_h_past a_h_seating y_h_isKept y_h_numberCount q9.2)) (ws' := (w_X_mean cI cJ cC a_h a_h_now a_h_kept a_h_letters a_h_numbers a_h_refusals a_h_mind a_h_parts a_h_past a_h_seating a_h_now_kinds a_h_now_sweets a_h_now_settings a_h_now_heaps y_h_isKept y_h_numberCount (r_children z_h_now) (r_strokes z_h_now) (r_gave z_h_now) (r_threw z_h_now) (r_sweets z_h_now) q9.2)) (As := [.int (-3)]) (rest := []) hx hb hml hown hT (c_X_refuse (z_h_refusals := z_h_refusals) a_h a_h_now a_h_kept a_h_letters a_h_numbers a_h_refusals a_h_mind a_h_parts a_h_past a_h_seating y_h_isKept y_h_numberCount hq9) k_198 k_200 ks_0 k_1 k_201 hd_X_refuse ⟨Nat.le_of_ble_eq_true rfl, Nat.le_of_ble_eq_true rfl⟩ xE0_ok trivial hA hK hP hD hS [0, 3] [1, 2] [2, 0, 1, 3] rfl rfl rfl rfl rfl rfl rfl rfl rfl rfl hl.1 rfl (Nat.le_of_ble_eq_true rfl) ⟨Nat.zero_le _, Nat.zero_le _⟩ d_X_mean_27 (fun H locs hP hD hS => ?_)
      have hq := Option.some.inj hf
      subst hq
      exact hret _ _ _ _ _ d_X_mean_30 rfl rfl hP hD hS
  · have hf := io_t hf c2
    refine lv_aload_n hx hb d_X_mean_7 rfl (lv_at hl 0 rfl) ?_
    refine lv_bipush (v := (-2)) hx hb d_X_mean_8 (by decide) ?_
    obtain ⟨q10, hq10, hf⟩ := io_b hf
    refine xcVI (wc := (w_X_refuse cI cJ cC a_h a_h_now a_h_kept a_h_letters a_h_numbers a_h_refusals a_h_mind a_h_parts a_h_past a_h_seating y_h_isKept y_h_numberCount z_h_refusals)) (wc' := (w_X_refuse cI cJ cC a_h a_h_now a_h_kept a_h_letters a_h_numbers a_h_refusals a_h_mind a_h_parts a_h_past a_h_seating y_h_isKept y_h_numberCount q10.2)) (ws' := (w_X_mean cI cJ cC a_h a_h_now a_h_kept a_h_letters a_h_numbers a_h_refusals a_h_mind a_h_parts a_h_past a_h_seating a_h_now_kinds a_h_now_sweets a_h_now_settings a_h_now_heaps y_h_isKept y_h_numberCount (r_children z_h_now) (r_strokes z_h_now) (r_gave z_h_now) (r_threw z_h_now) (r_sweets z_h_now) q10.2)) (As := [.int (-2)]) (rest := []) hx hb hml hown hT (c_X_refuse (z_h_refusals := z_h_refusals) a_h a_h_now a_h_kept a_h_letters a_h_numbers a_h_refusals a_h_mind a_h_parts a_h_past a_h_seating y_h_isKept y_h_numberCount hq10) k_198 k_200 ks_0 k_1 k_201 hd_X_refuse ⟨Nat.le_of_ble_eq_true rfl, Nat.le_of_ble_eq_true rfl⟩ xE0_ok trivial hA hK hP hD hS [0, 3] [1, 2] [2, 0, 1, 3] rfl rfl rfl rfl rfl rfl rfl rfl rfl rfl hl.1 rfl (Nat.le_of_ble_eq_true rfl) ⟨Nat.zero_le _, Nat.zero_le _⟩ d_X_mean_10 (fun H locs hP hD hS => ?_)
    have hq := Option.some.inj hf
    subst hq
    exact hret _ _ _ _ _ d_X_mean_13 rfl rfl hP hD hS
abbrev w_X_count (cI cJ cC : ClassId) (a_h a_h_now a_h_kept a_h_letters a_h_numbers a_h_refusals a_h_mind a_h_parts a_h_past a_h_seating a_h_now_kinds a_h_now_sweets a_h_now_settings a_h_now_heaps a_h_letters_text a_h_letters_trial : Nat) (y_h_isKept : Int32) (p_h_numberCount : Int32) (p_h_now_children : Int32) (p_h_now_strokes : Int32) (p_h_now_gave : Int32) (p_h_now_threw : Int32) (p_h_now_sweets : (Nat → Int32)) (p_h_letters_length : Int32) (p_h_refusals : (Nat → Int32)) : va_W := [(a_h, .inr (0, [.ref a_h_now, .ref a_h_kept, .int y_h_isKept, .ref a_h_letters, .ref a_h_numbers, .int p_h_numberCount, .ref a_h_refusals, .ref a_h_mind, .ref a_h_parts, .ref a_h_past, .ref a_h_seating])), (a_h_now, .inr (1, [.ref a_h_now_kinds, .ref a_h_now_sweets, .ref a_h_now_settings, .int p_h_now_children, .int p_h_now_strokes, .int p_h_now_gave, .int p_h_now_threw, .ref a_h_now_heaps])), (a_h_now_sweets, .inl (cI, (8, .inl p_h_now_sweets))), (a_h_letters, .inr (2, [.int p_h_letters_length, .ref a_h_letters_text, .ref a_h_letters_trial])), (a_h_refusals, .inl (cI, (7, .inl p_h_refusals)))]
theorem d_X_count_0 : decode b_X_count 0 = .ok (.iload_n 1, 1) := by decide +kernel
theorem d_X_count_1 : decode b_X_count 1 = .ok (.tableswitch 108 0 7 #[47, 55, 63, 71, 79, 87, 95, 100], 47) := by decide +kernel
theorem d_X_count_48 : decode b_X_count 48 = .ok (.aload_n 0, 1) := by decide +kernel
theorem d_X_count_49 : decode b_X_count 49 = .ok (.getfield 10, 3) := by decide +kernel
theorem d_X_count_52 : decode b_X_count 52 = .ok (.getfield 121, 3) := by decide +kernel
theorem d_X_count_55 : decode b_X_count 55 = .ok (.ireturn, 1) := by decide +kernel
theorem d_X_count_56 : decode b_X_count 56 = .ok (.aload_n 0, 1) := by decide +kernel
theorem d_X_count_57 : decode b_X_count 57 = .ok (.getfield 10, 3) := by decide +kernel
theorem d_X_count_60 : decode b_X_count 60 = .ok (.invokevirtual 179, 3) := by decide +kernel
theorem d_X_count_63 : decode b_X_count 63 = .ok (.ireturn, 1) := by decide +kernel
theorem d_X_count_64 : decode b_X_count 64 = .ok (.aload_n 0, 1) := by decide +kernel
theorem d_X_count_65 : decode b_X_count 65 = .ok (.getfield 10, 3) := by decide +kernel
theorem d_X_count_68 : decode b_X_count 68 = .ok (.getfield 236, 3) := by decide +kernel
theorem d_X_count_71 : decode b_X_count 71 = .ok (.ireturn, 1) := by decide +kernel
theorem d_X_count_72 : decode b_X_count 72 = .ok (.aload_n 0, 1) := by decide +kernel
theorem d_X_count_73 : decode b_X_count 73 = .ok (.getfield 10, 3) := by decide +kernel
theorem d_X_count_76 : decode b_X_count 76 = .ok (.getfield 239, 3) := by decide +kernel
theorem d_X_count_79 : decode b_X_count 79 = .ok (.ireturn, 1) := by decide +kernel
theorem d_X_count_80 : decode b_X_count 80 = .ok (.aload_n 0, 1) := by decide +kernel
theorem d_X_count_81 : decode b_X_count 81 = .ok (.getfield 10, 3) := by decide +kernel
theorem d_X_count_84 : decode b_X_count 84 = .ok (.getfield 242, 3) := by decide +kernel
theorem d_X_count_87 : decode b_X_count 87 = .ok (.ireturn, 1) := by decide +kernel
theorem d_X_count_88 : decode b_X_count 88 = .ok (.aload_n 0, 1) := by decide +kernel
theorem d_X_count_89 : decode b_X_count 89 = .ok (.getfield 26, 3) := by decide +kernel
theorem d_X_count_92 : decode b_X_count 92 = .ok (.getfield 73, 3) := by decide +kernel
theorem d_X_count_95 : decode b_X_count 95 = .ok (.ireturn, 1) := by decide +kernel
theorem d_X_count_96 : decode b_X_count 96 = .ok (.aload_n 0, 1) := by decide +kernel
theorem d_X_count_97 : decode b_X_count 97 = .ok (.getfield 34, 3) := by decide +kernel
theorem d_X_count_100 : decode b_X_count 100 = .ok (.ireturn, 1) := by decide +kernel
theorem d_X_count_101 : decode b_X_count 101 = .ok (.aload_n 0, 1) := by decide +kernel
theorem d_X_count_102 : decode b_X_count 102 = .ok (.getfield 10, 3) := by decide +kernel
theorem d_X_count_105 : decode b_X_count 105 = .ok (.invokevirtual 245, 3) := by decide +kernel
theorem d_X_count_108 : decode b_X_count 108 = .ok (.ireturn, 1) := by decide +kernel
theorem d_X_count_109 : decode b_X_count 109 = .ok (.iload_n 1, 1) := by decide +kernel
theorem d_X_count_110 : decode b_X_count 110 = .ok (.bipush 11, 2) := by decide +kernel
theorem d_X_count_112 : decode b_X_count 112 = .ok (.if_icmp .lt 21, 3) := by decide +kernel
theorem d_X_count_115 : decode b_X_count 115 = .ok (.iload_n 1, 1) := by decide +kernel
theorem d_X_count_116 : decode b_X_count 116 = .ok (.bipush 16, 2) := by decide +kernel
theorem d_X_count_118 : decode b_X_count 118 = .ok (.if_icmp .gt 15, 3) := by decide +kernel
theorem d_X_count_121 : decode b_X_count 121 = .ok (.aload_n 0, 1) := by decide +kernel
theorem d_X_count_122 : decode b_X_count 122 = .ok (.getfield 38, 3) := by decide +kernel
theorem d_X_count_125 : decode b_X_count 125 = .ok (.iload_n 1, 1) := by decide +kernel
theorem d_X_count_126 : decode b_X_count 126 = .ok (.bipush 10, 2) := by decide +kernel
theorem d_X_count_128 : decode b_X_count 128 = .ok (.isub, 1) := by decide +kernel
theorem d_X_count_129 : decode b_X_count 129 = .ok (.iaload, 1) := by decide +kernel
theorem d_X_count_130 : decode b_X_count 130 = .ok (.goto 5, 3) := by decide +kernel
theorem d_X_count_133 : decode b_X_count 133 = .ok (.bipush (-9), 2) := by decide +kernel
theorem d_X_count_135 : decode b_X_count 135 = .ok (.ireturn, 1) := by decide +kernel
set_option maxHeartbeats 4000000 in
set_option maxRecDepth 100000 in
theorem c_X_count {l : Launch} {D : va_G} {cI cJ cC : ClassId} (a_h a_h_now a_h_kept a_h_letters a_h_numbers a_h_refusals a_h_mind a_h_parts a_h_past a_h_seating a_h_now_kinds a_h_now_sweets a_h_now_settings a_h_now_heaps a_h_letters_text a_h_letters_trial : Nat) (y_h_isKept : Int32) {z_h_numberCount : Int32} {z_h_now : RS} {z_h_letters_length : Int32} {z_h_refusals : (Nat → Int32)} {x1 : Int32} {q : Int32} (hf : f_X_count z_h_numberCount z_h_now z_h_letters_length z_h_refusals x1 = some q) : xI l y_X_count b_X_count 2 .int 1 22 D (tyK cI cJ cC) xE0 [.ref a_h, .int x1] (w_X_count cI cJ cC a_h a_h_now a_h_kept a_h_letters a_h_numbers a_h_refusals a_h_mind a_h_parts a_h_past a_h_seating a_h_now_kinds a_h_now_sweets a_h_now_settings a_h_now_heaps a_h_letters_text a_h_letters_trial y_h_isKept z_h_numberCount (r_children z_h_now) (r_strokes z_h_now) (r_gave z_h_now) (r_threw z_h_now) (r_sweets z_h_now) z_h_letters_length z_h_refusals) q (w_X_count cI cJ cC a_h a_h_now a_h_kept a_h_letters a_h_numbers a_h_refusals a_h_mind a_h_parts a_h_past a_h_seating a_h_now_kinds a_h_now_sweets a_h_now_settings a_h_now_heaps a_h_letters_text a_h_letters_trial y_h_isKept z_h_numberCount (r_children z_h_now) (r_strokes z_h_now) (r_gave z_h_now) (r_threw z_h_now) (r_sweets z_h_now) z_h_letters_length z_h_refusals) := by
  refine xI_of (by decide) (Nat.le_of_ble_eq_true rfl) ?_
  intro p e s m args below meth c A Q hx hb hml hown hT hA hP hD hK hS hE hret ls hl
  have hown : s.vm.findClass R_X = some m.cls := hown
  have hl : lv_has ls 2 [(0, .ref a_h), (1, .int x1)] := hl
  unfold f_X_count at hf
  refine lv_iload_n hx hb d_X_count_0 rfl (lv_at hl 1 rfl) ?_
  rcases Decidable.em (x1 = 0) with c1 | c1
  · have hf := io_t hf c1
    refine lv_tableIn (off := 47) (tgt := 48) hx hb d_X_count_1 (by rw [c1]; decide +kernel) (by rw [c1]; decide +kernel) (by rw [c1]; rfl) (by decide) ?_
    refine lv_aload_n hx hb d_X_count_48 rfl (lv_at hl 0 rfl) ?_
    refine va_get hx hb hT i_X hown hK hP 0 rfl rfl 0 (Nat.le_of_ble_eq_true rfl) (hT _ k_156) (fun _ h => h) rfl d_X_count_49 ?_
    refine va_get hx hb hT i_Ring hown hK hP 1 rfl rfl 3 (Nat.le_of_ble_eq_true rfl) (hT _ k_40) (fun _ h => h) rfl d_X_count_52 ?_
    have hq := Option.some.inj hf
    subst hq
    exact hret _ _ _ _ _ d_X_count_55 rfl rfl hP hD hS
  · have hf := io_f hf c1
    rcases Decidable.em (x1 = 1) with c2 | c2
    · have hf := io_t hf c2
      refine lv_tableIn (off := 55) (tgt := 56) hx hb d_X_count_1 (by rw [c2]; decide +kernel) (by rw [c2]; decide +kernel) (by rw [c2]; rfl) (by decide) ?_
      refine lv_aload_n hx hb d_X_count_56 rfl (lv_at hl 0 rfl) ?_
      refine va_get hx hb hT i_X hown hK hP 0 rfl rfl 0 (Nat.le_of_ble_eq_true rfl) (hT _ k_156) (fun _ h => h) rfl d_X_count_57 ?_
      obtain ⟨q3, hq3, hf⟩ := io_b hf
      refine xcVI (wc := (w_Ring_allSweets cI cJ cC a_h_now a_h_now_kinds a_h_now_sweets a_h_now_settings a_h_now_heaps (r_children z_h_now) (r_strokes z_h_now) (r_gave z_h_now) (r_threw z_h_now) (r_sweets z_h_now))) (wc' := (w_Ring_allSweets cI cJ cC a_h_now a_h_now_kinds a_h_now_sweets a_h_now_settings a_h_now_heaps (r_children z_h_now) (r_strokes z_h_now) (r_gave z_h_now) (r_threw z_h_now) (r_sweets z_h_now))) (ws' := (w_X_count cI cJ cC a_h a_h_now a_h_kept a_h_letters a_h_numbers a_h_refusals a_h_mind a_h_parts a_h_past a_h_seating a_h_now_kinds a_h_now_sweets a_h_now_settings a_h_now_heaps a_h_letters_text a_h_letters_trial y_h_isKept z_h_numberCount (r_children z_h_now) (r_strokes z_h_now) (r_gave z_h_now) (r_threw z_h_now) (r_sweets z_h_now) z_h_letters_length z_h_refusals)) (As := []) (rest := []) hx hb hml hown hT (c_Ring_allSweets (z_h := z_h_now) a_h_now a_h_now_kinds a_h_now_sweets a_h_now_settings a_h_now_heaps hq3) k_380 k_374 k_375 k_2 k_376 hd_Ring_allSweets ⟨Nat.le_of_ble_eq_true rfl, Nat.le_of_ble_eq_true rfl⟩ xE0_ok trivial hA hK hP hD hS [1, 2] [0, 3, 4] [0, 3, 4, 1, 2] rfl rfl rfl rfl rfl rfl rfl rfl rfl rfl hl.1 rfl (Nat.le_of_ble_eq_true rfl) ⟨Nat.zero_le _, Nat.zero_le _⟩ d_X_count_60 (fun H locs hP hD hS => ?_)
      have hq := Option.some.inj hf
      subst hq
      exact hret _ _ _ _ _ d_X_count_63 rfl rfl hP hD hS
    · have hf := io_f hf c2
      rcases Decidable.em (x1 = 2) with c4 | c4
      · have hf := io_t hf c4
        refine lv_tableIn (off := 63) (tgt := 64) hx hb d_X_count_1 (by rw [c4]; decide +kernel) (by rw [c4]; decide +kernel) (by rw [c4]; rfl) (by decide) ?_
        refine lv_aload_n hx hb d_X_count_64 rfl (lv_at hl 0 rfl) ?_
        refine va_get hx hb hT i_X hown hK hP 0 rfl rfl 0 (Nat.le_of_ble_eq_true rfl) (hT _ k_156) (fun _ h => h) rfl d_X_count_65 ?_
        refine va_get hx hb hT i_Ring hown hK hP 1 rfl rfl 4 (Nat.le_of_ble_eq_true rfl) (hT _ k_42) (fun _ h => h) rfl d_X_count_68 ?_
        have hq := Option.some.inj hf
        subst hq
        exact hret _ _ _ _ _ d_X_count_71 rfl rfl hP hD hS
      · have hf := io_f hf c4
        rcases Decidable.em (x1 = 3) with c5 | c5
        · have hf := io_t hf c5
          refine lv_tableIn (off := 71) (tgt := 72) hx hb d_X_count_1 (by rw [c5]; decide +kernel) (by rw [c5]; decide +kernel) (by rw [c5]; rfl) (by decide) ?_
          refine lv_aload_n hx hb d_X_count_72 rfl (lv_at hl 0 rfl) ?_
          refine va_get hx hb hT i_X hown hK hP 0 rfl rfl 0 (Nat.le_of_ble_eq_true rfl) (hT _ k_156) (fun _ h => h) rfl d_X_count_73 ?_
          refine va_get hx hb hT i_Ring hown hK hP 1 rfl rfl 5 (Nat.le_of_ble_eq_true rfl) (hT _ k_45) (fun _ h => h) rfl d_X_count_76 ?_
          have hq := Option.some.inj hf
          subst hq
          exact hret _ _ _ _ _ d_X_count_79 rfl rfl hP hD hS
        · have hf := io_f hf c5
          rcases Decidable.em (x1 = 4) with c6 | c6
          · have hf := io_t hf c6
            refine lv_tableIn (off := 79) (tgt := 80) hx hb d_X_count_1 (by rw [c6]; decide +kernel) (by rw [c6]; decide +kernel) (by rw [c6]; rfl) (by decide) ?_
            refine lv_aload_n hx hb d_X_count_80 rfl (lv_at hl 0 rfl) ?_
            refine va_get hx hb hT i_X hown hK hP 0 rfl rfl 0 (Nat.le_of_ble_eq_true rfl) (hT _ k_156) (fun _ h => h) rfl d_X_count_81 ?_
            refine va_get hx hb hT i_Ring hown hK hP 1 rfl rfl 6 (Nat.le_of_ble_eq_true rfl) (hT _ k_48) (fun _ h => h) rfl d_X_count_84 ?_
            have hq := Option.some.inj hf
            subst hq
            exact hret _ _ _ _ _ d_X_count_87 rfl rfl hP hD hS
          · have hf := io_f hf c6
            rcases Decidable.em (x1 = 5) with c7 | c7
            · have hf := io_t hf c7
              refine lv_tableIn (off := 87) (tgt := 88) hx hb d_X_count_1 (by rw [c7]; decide +kernel) (by rw [c7]; decide +kernel) (by rw [c7]; rfl) (by decide) ?_
              refine lv_aload_n hx hb d_X_count_88 rfl (lv_at hl 0 rfl) ?_
              refine va_get hx hb hT i_X hown hK hP 0 rfl rfl 3 (Nat.le_of_ble_eq_true rfl) (hT _ k_159) (fun _ h => h) rfl d_X_count_89 ?_
              refine va_get hx hb hT i_Letters hown hK hP 3 rfl rfl 0 (Nat.le_of_ble_eq_true rfl) (hT _ k_77) (fun _ h => h) rfl d_X_count_92 ?_
              have hq := Option.some.inj hf
              subst hq
              exact hret _ _ _ _ _ d_X_count_95 rfl rfl hP hD hS
            · have hf := io_f hf c7
              rcases Decidable.em (x1 = 6) with c8 | c8
              · have hf := io_t hf c8
                refine lv_tableIn (off := 95) (tgt := 96) hx hb d_X_count_1 (by rw [c8]; decide +kernel) (by rw [c8]; decide +kernel) (by rw [c8]; rfl) (by decide) ?_
                refine lv_aload_n hx hb d_X_count_96 rfl (lv_at hl 0 rfl) ?_
                refine va_get hx hb hT i_X hown hK hP 0 rfl rfl 5 (Nat.le_of_ble_eq_true rfl) (hT _ k_161) (fun _ h => h) rfl d_X_count_97 ?_
                have hq := Option.some.inj hf
                subst hq
                exact hret _ _ _ _ _ d_X_count_100 rfl rfl hP hD hS
              · have hf := io_f hf c8
                rcases Decidable.em (x1 = 7) with c9 | c9
                · have hf := io_t hf c9
                  refine lv_tableIn (off := 100) (tgt := 101) hx hb d_X_count_1 (by rw [c9]; decide +kernel) (by rw [c9]; decide +kernel) (by rw [c9]; rfl) (by decide) ?_
                  refine lv_aload_n hx hb d_X_count_101 rfl (lv_at hl 0 rfl) ?_
                  refine va_get hx hb hT i_X hown hK hP 0 rfl rfl 0 (Nat.le_of_ble_eq_true rfl) (hT _ k_156) (fun _ h => h) rfl d_X_count_102 ?_
                  obtain ⟨q10, hq10, hf⟩ := io_b hf
                  refine xcVI (wc := (w_Ring_oddHeaps cI cJ cC a_h_now a_h_now_kinds a_h_now_sweets a_h_now_settings a_h_now_heaps (r_children z_h_now) (r_strokes z_h_now) (r_gave z_h_now) (r_threw z_h_now) (r_sweets z_h_now))) (wc' := (w_Ring_oddHeaps cI cJ cC a_h_now a_h_now_kinds a_h_now_sweets a_h_now_settings a_h_now_heaps (r_children z_h_now) (r_strokes z_h_now) (r_gave z_h_now) (r_threw z_h_now) (r_sweets z_h_now))) (ws' := (w_X_count cI cJ cC a_h a_h_now a_h_kept a_h_letters a_h_numbers a_h_refusals a_h_mind a_h_parts a_h_past a_h_seating a_h_now_kinds a_h_now_sweets a_h_now_settings a_h_now_heaps a_h_letters_text a_h_letters_trial y_h_isKept z_h_numberCount (r_children z_h_now) (r_strokes z_h_now) (r_gave z_h_now) (r_threw z_h_now) (r_sweets z_h_now) z_h_letters_length z_h_refusals)) (As := []) (rest := []) hx hb hml hown hT (c_Ring_oddHeaps (z_h := z_h_now) a_h_now a_h_now_kinds a_h_now_sweets a_h_now_settings a_h_now_heaps hq10) k_385 k_386 k_387 k_2 k_388 hd_Ring_oddHeaps ⟨Nat.le_of_ble_eq_true rfl, Nat.le_of_ble_eq_true rfl⟩ xE0_ok trivial hA hK hP hD hS [1, 2] [0, 3, 4] [0, 3, 4, 1, 2] rfl rfl rfl rfl rfl rfl rfl rfl rfl rfl hl.1 rfl (Nat.le_of_ble_eq_true rfl) ⟨Nat.zero_le _, Nat.zero_le _⟩ d_X_count_105 (fun H locs hP hD hS => ?_)
                  have hq := Option.some.inj hf
                  subst hq
                  exact hret _ _ _ _ _ d_X_count_108 rfl rfl hP hD hS
                · have hf := io_f hf c9
                  refine lv_tableOut (tgt := 109) hx hb d_X_count_1 (by have e0 := lv_neT (a := 0) c1 (by decide +kernel); have e1 := lv_neT (a := 1) c2 (by decide +kernel); have e2 := lv_neT (a := 2) c4 (by decide +kernel); have e3 := lv_neT (a := 3) c5 (by decide +kernel); have e4 := lv_neT (a := 4) c6 (by decide +kernel); have e5 := lv_neT (a := 5) c7 (by decide +kernel); have e6 := lv_neT (a := 6) c8 (by decide +kernel); have e7 := lv_neT (a := 7) c9 (by decide +kernel); omega) (by decide) ?_
                  refine lv_iload_n hx hb d_X_count_109 rfl (lv_at hl 1 rfl) ?_
                  refine lv_bipush (v := 11) hx hb d_X_count_110 (by decide) ?_
                  refine lv_icmp_lt (tgt := 133) hx hb d_X_count_112 (by decide) (fun c11 => ?_) (fun c11 => ?_)
                  · have hf := io_t hf c11
                    refine lv_bipush (v := (-9)) hx hb d_X_count_133 (by decide) ?_
                    have hq := Option.some.inj hf
                    subst hq
                    exact hret _ _ _ _ _ d_X_count_135 rfl rfl hP hD hS
                  · have hf := io_f hf c11
                    refine lv_iload_n hx hb d_X_count_115 rfl (lv_at hl 1 rfl) ?_
                    refine lv_bipush (v := 16) hx hb d_X_count_116 (by decide) ?_
                    refine lv_icmp_gt (tgt := 133) hx hb d_X_count_118 (by decide) (fun c12 => ?_) (fun c12 => ?_)
                    · have hf := io_t hf c12
                      refine lv_bipush (v := (-9)) hx hb d_X_count_133 (by decide) ?_
                      have hq := Option.some.inj hf
                      subst hq
                      exact hret _ _ _ _ _ d_X_count_135 rfl rfl hP hD hS
                    · have hf := io_f hf c12
                      refine lv_aload_n hx hb d_X_count_121 rfl (lv_at hl 0 rfl) ?_
                      refine va_get hx hb hT i_X hown hK hP 0 rfl rfl 6 (Nat.le_of_ble_eq_true rfl) (hT _ k_162) (fun _ h => h) rfl d_X_count_122 ?_
                      refine lv_iload_n hx hb d_X_count_125 rfl (lv_at hl 1 rfl) ?_
                      refine lv_bipush (v := 10) hx hb d_X_count_126 (by decide) ?_
                      refine lv_isub hx hb d_X_count_128 ?_
                      obtain ⟨c13, hf⟩ := io_n hf
                      refine x_iald hx hb hK hP 4 0 rfl rfl (j := (x1 - 10).toNatClampNeg) rfl c13 d_X_count_129 ?_
                      refine lv_goto (tgt := 135) hx hb d_X_count_130 (by decide) ?_
                      have hq := Option.some.inj hf
                      subst hq
                      exact hret _ _ _ _ _ d_X_count_135 rfl rfl hP hD hS
end
