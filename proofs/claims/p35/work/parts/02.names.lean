/-! Names: classes, their fields, methods, bundles of values; printed by wip/whole/gen. -/
def gw_tbl : List Cond := lw_tbl.filter goodWord
theorem tb_i {w : Cond} (i : Nat) (h : tables_1[i]? = some w) (hg : goodWord w = true) : w ∈ gw_tbl := List.mem_filter.mpr ⟨List.mem_append_right _ (List.mem_of_getElem? h), hg⟩
theorem tb_s {w : Cond} (i : Nat) (h : (k2_sels lw_privs)[i]? = some w) (hg : goodWord w = true) : w ∈ gw_tbl := List.mem_filter.mpr ⟨List.mem_append_left _ (List.mem_of_getElem? h), hg⟩
abbrev R_X : String := "HalfToTheLeft"
def F_X : u_T := fun k => match k with
  | 0 => ("HalfToTheLeft", "now", "LHalfToTheLeft$Ring;", true)
  | 1 => ("HalfToTheLeft", "kept", "LHalfToTheLeft$Ring;", true)
  | 2 => ("HalfToTheLeft", "isKept", "Z", false)
  | 3 => ("HalfToTheLeft", "letters", "LHalfToTheLeft$Letters;", true)
  | 4 => ("HalfToTheLeft", "numbers", "[I", true)
  | 5 => ("HalfToTheLeft", "numberCount", "I", false)
  | 6 => ("HalfToTheLeft", "refusals", "[I", true)
  | 7 => ("HalfToTheLeft", "mind", "LHalfToTheLeft$Mind;", true)
  | 8 => ("HalfToTheLeft", "parts", "LHalfToTheLeft$Crumbs;", true)
  | 9 => ("HalfToTheLeft", "past", "LHalfToTheLeft$Past;", true)
  | _ => ("HalfToTheLeft", "seating", "LHalfToTheLeft$Seating;", true)
def t_X : Nat → FieldType := fun k => match k with
  | 0 => .object "HalfToTheLeft$Ring"
  | 1 => .object "HalfToTheLeft$Ring"
  | 2 => .boolean
  | 3 => .object "HalfToTheLeft$Letters"
  | 4 => .array .int
  | 5 => .int
  | 6 => .array .int
  | 7 => .object "HalfToTheLeft$Mind"
  | 8 => .object "HalfToTheLeft$Crumbs"
  | 9 => .object "HalfToTheLeft$Past"
  | _ => .object "HalfToTheLeft$Seating"
theorem n_X : ∀ a, a < 11 → ∀ b, b < 11 → a ≠ b → (F_X a).2.1 ≠ (F_X b).2.1 := by decide +kernel
theorem t_X_ok : ∀ k, k < 11 → parseFieldDescriptor (F_X k).2.2.1 = some (t_X k) := by decide +kernel
theorem i_X : ∀ w ∈ u_ws R_X F_X 11, w ∈ gw_tbl := by decide +kernel
abbrev R_Ring : String := "HalfToTheLeft$Ring"
def F_Ring : u_T := fun k => match k with
  | 0 => ("HalfToTheLeft$Ring", "kinds", "[I", true)
  | 1 => ("HalfToTheLeft$Ring", "sweets", "[I", true)
  | 2 => ("HalfToTheLeft$Ring", "settings", "[I", true)
  | 3 => ("HalfToTheLeft$Ring", "children", "I", false)
  | 4 => ("HalfToTheLeft$Ring", "strokes", "I", false)
  | 5 => ("HalfToTheLeft$Ring", "gave", "I", false)
  | 6 => ("HalfToTheLeft$Ring", "threw", "I", false)
  | _ => ("HalfToTheLeft$Ring", "heaps", "[I", true)
def t_Ring : Nat → FieldType := fun k => match k with
  | 0 => .array .int
  | 1 => .array .int
  | 2 => .array .int
  | 3 => .int
  | 4 => .int
  | 5 => .int
  | 6 => .int
  | _ => .array .int
theorem n_Ring : ∀ a, a < 8 → ∀ b, b < 8 → a ≠ b → (F_Ring a).2.1 ≠ (F_Ring b).2.1 := by decide +kernel
theorem t_Ring_ok : ∀ k, k < 8 → parseFieldDescriptor (F_Ring k).2.2.1 = some (t_Ring k) := by decide +kernel
theorem i_Ring : ∀ w ∈ u_ws R_Ring F_Ring 8, w ∈ gw_tbl := by decide +kernel
abbrev R_Letters : String := "HalfToTheLeft$Letters"
def F_Letters : u_T := fun k => match k with
  | 0 => ("HalfToTheLeft$Letters", "length", "I", false)
  | 1 => ("HalfToTheLeft$Letters", "text", "[C", true)
  | _ => ("HalfToTheLeft$Letters", "trial", "LHalfToTheLeft$Ring;", true)
def t_Letters : Nat → FieldType := fun k => match k with
  | 0 => .int
  | 1 => .array .char
  | _ => .object "HalfToTheLeft$Ring"
theorem n_Letters : ∀ a, a < 3 → ∀ b, b < 3 → a ≠ b → (F_Letters a).2.1 ≠ (F_Letters b).2.1 := by decide +kernel
theorem t_Letters_ok : ∀ k, k < 3 → parseFieldDescriptor (F_Letters k).2.2.1 = some (t_Letters k) := by decide +kernel
theorem i_Letters : ∀ w ∈ u_ws R_Letters F_Letters 3, w ∈ gw_tbl := by decide +kernel
abbrev R_Mind : String := "HalfToTheLeft$Mind"
def F_Mind : u_T := fun k => match k with
  | 0 => ("HalfToTheLeft$Mind", "one", "LHalfToTheLeft$Ring;", true)
  | 1 => ("HalfToTheLeft$Mind", "two", "LHalfToTheLeft$Ring;", true)
  | _ => ("HalfToTheLeft$Mind", "seed", "I", false)
def t_Mind : Nat → FieldType := fun k => match k with
  | 0 => .object "HalfToTheLeft$Ring"
  | 1 => .object "HalfToTheLeft$Ring"
  | _ => .int
theorem n_Mind : ∀ a, a < 3 → ∀ b, b < 3 → a ≠ b → (F_Mind a).2.1 ≠ (F_Mind b).2.1 := by decide +kernel
theorem t_Mind_ok : ∀ k, k < 3 → parseFieldDescriptor (F_Mind k).2.2.1 = some (t_Mind k) := by decide +kernel
theorem i_Mind : ∀ w ∈ u_ws R_Mind F_Mind 3, w ∈ gw_tbl := by decide +kernel
abbrev R_Crumbs : String := "HalfToTheLeft$Crumbs"
def F_Crumbs : u_T := fun k => match k with
  | 0 => ("HalfToTheLeft$Crumbs", "have", "[J", true)
  | 1 => ("HalfToTheLeft$Crumbs", "next", "[J", true)
  | _ => ("HalfToTheLeft$Crumbs", "doublings", "I", false)
def t_Crumbs : Nat → FieldType := fun k => match k with
  | 0 => .array .long
  | 1 => .array .long
  | _ => .int
theorem n_Crumbs : ∀ a, a < 3 → ∀ b, b < 3 → a ≠ b → (F_Crumbs a).2.1 ≠ (F_Crumbs b).2.1 := by decide +kernel
theorem t_Crumbs_ok : ∀ k, k < 3 → parseFieldDescriptor (F_Crumbs k).2.2.1 = some (t_Crumbs k) := by decide +kernel
theorem i_Crumbs : ∀ w ∈ u_ws R_Crumbs F_Crumbs 3, w ∈ gw_tbl := by decide +kernel
abbrev R_Past : String := "HalfToTheLeft$Past"
def F_Past : u_T := fun k => match k with
  | 0 => ("HalfToTheLeft$Past", "told", "LHalfToTheLeft$Ring;", true)
  | _ => ("HalfToTheLeft$Past", "struck", "LHalfToTheLeft$Ring;", true)
def t_Past : Nat → FieldType := fun k => match k with
  | 0 => .object "HalfToTheLeft$Ring"
  | _ => .object "HalfToTheLeft$Ring"
theorem n_Past : ∀ a, a < 2 → ∀ b, b < 2 → a ≠ b → (F_Past a).2.1 ≠ (F_Past b).2.1 := by decide +kernel
theorem t_Past_ok : ∀ k, k < 2 → parseFieldDescriptor (F_Past k).2.2.1 = some (t_Past k) := by decide +kernel
theorem i_Past : ∀ w ∈ u_ws R_Past F_Past 2, w ∈ gw_tbl := by decide +kernel
abbrev R_Seating : String := "HalfToTheLeft$Seating"
def F_Seating : u_T := fun k => match k with
  | 0 => ("HalfToTheLeft$Seating", "bestOrder", "[I", true)
  | 1 => ("HalfToTheLeft$Seating", "order", "[I", true)
  | _ => ("HalfToTheLeft$Seating", "trial", "LHalfToTheLeft$Ring;", true)
def t_Seating : Nat → FieldType := fun k => match k with
  | 0 => .array .int
  | 1 => .array .int
  | _ => .object "HalfToTheLeft$Ring"
theorem n_Seating : ∀ a, a < 3 → ∀ b, b < 3 → a ≠ b → (F_Seating a).2.1 ≠ (F_Seating b).2.1 := by decide +kernel
theorem t_Seating_ok : ∀ k, k < 3 → parseFieldDescriptor (F_Seating k).2.2.1 = some (t_Seating k) := by decide +kernel
theorem i_Seating : ∀ w ∈ u_ws R_Seating F_Seating 3, w ∈ gw_tbl := by decide +kernel
abbrev R_Str : String := "java/lang/String"
abbrev R_Lat : String := "java/lang/StringLatin1"
abbrev R_Law : String := "HalfToTheLeftLaw"
abbrev classes : List vw_C := [(R_X, F_X, 11), (R_Ring, F_Ring, 8), (R_Letters, F_Letters, 3), (R_Mind, F_Mind, 3), (R_Crumbs, F_Crumbs, 3), (R_Past, F_Past, 2), (R_Seating, F_Seating, 3)]
abbrev RS : Type := (Nat → Int32) × (Nat → Int32) × (Nat → Int32) × (Nat → Int32) × Int32 × Int32 × Int32 × Int32
abbrev r_kinds (z : RS) : Nat → Int32 := z.1
abbrev r_sweets (z : RS) : Nat → Int32 := z.2.1
abbrev r_settings (z : RS) : Nat → Int32 := z.2.2.1
abbrev r_heaps (z : RS) : Nat → Int32 := z.2.2.2.1
abbrev r_children (z : RS) : Int32 := z.2.2.2.2.1
abbrev r_strokes (z : RS) : Int32 := z.2.2.2.2.2.1
abbrev r_gave (z : RS) : Int32 := z.2.2.2.2.2.2.1
abbrev r_threw (z : RS) : Int32 := z.2.2.2.2.2.2.2
def s_LEAST_SETTING : Nat → Int32 := fun k => if k = 1 then 1 else 0
def s_GREATEST_SETTING : Nat → Int32 := fun k => if k = 0 then 2 else if k = 1 then 3 else 999
def s_text : Nat → Int32 := fun j => if j = 0 then 104 else if j = 1 then 98 else if j = 2 then 114 else if j = 3 then 100 else if j = 4 then 110 else if j = 5 then 112 else 115
def f_kindIx (c : Int32) : Int32 := if c = 104 then 0 else if c = 98 then 1 else if c = 114 then 2 else if c = 100 then 3 else if c = 110 then 4 else if c = 112 then 5 else if c = 115 then 6 else -1
def FU : Nat := 1000000
abbrev jmin (x y : Int32) : Int32 := if y < x then y else x
abbrev jmax (x y : Int32) : Int32 := if x < y then y else x
abbrev jabs (x : Int32) : Int32 := if 0 ≤ x then x else 0 - x
abbrev jabsL (x : Int64) : Int64 := if 0 < x then x else -x
