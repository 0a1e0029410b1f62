/-! Rows for the law's walk: words, contracts that leave something unreachable behind. -/
theorem k_0 : Cond.initialized "HalfToTheLeftLaw" ∈ gw_tbl := tb_i 0 (by decide +kernel) rfl
theorem k_190 : Cond.methodLink "HalfToTheLeftLaw" 73 ⟨"HalfToTheLeft", "child", "(II)I"⟩ ∈ gw_tbl := tb_i 190 (by decide +kernel) rfl
theorem k_191 : Cond.instanceMethod ⟨"HalfToTheLeft", "child", "(II)I"⟩ ∈ gw_tbl := tb_i 191 (by decide +kernel) rfl
theorem k_192 : Cond.selects "HalfToTheLeft" ⟨"HalfToTheLeft", "child", "(II)I"⟩ ⟨"HalfToTheLeft", "child", "(II)I"⟩ ∈ gw_tbl := tb_i 192 (by decide +kernel) rfl
theorem k_193 : Cond.code ⟨"HalfToTheLeft", "child", "(II)I"⟩ prog_1_method_4_code 3 (some .int) ∈ gw_tbl := tb_i 193 (by decide +kernel) rfl
theorem k_215 : Cond.methodLink "HalfToTheLeftLaw" 80 ⟨"HalfToTheLeft", "stroke", "()I"⟩ ∈ gw_tbl := tb_i 215 (by decide +kernel) rfl
theorem k_216 : Cond.instanceMethod ⟨"HalfToTheLeft", "stroke", "()I"⟩ ∈ gw_tbl := tb_i 216 (by decide +kernel) rfl
theorem k_217 : Cond.selects "HalfToTheLeft" ⟨"HalfToTheLeft", "stroke", "()I"⟩ ⟨"HalfToTheLeft", "stroke", "()I"⟩ ∈ gw_tbl := tb_i 217 (by decide +kernel) rfl
theorem k_218 : Cond.code ⟨"HalfToTheLeft", "stroke", "()I"⟩ prog_1_method_9_code 1 (some .int) ∈ gw_tbl := tb_i 218 (by decide +kernel) rfl
theorem k_241 : Cond.methodLink "HalfToTheLeftLaw" 46 ⟨"HalfToTheLeft", "run", "(II)I"⟩ ∈ gw_tbl := tb_i 241 (by decide +kernel) rfl
theorem k_242 : Cond.instanceMethod ⟨"HalfToTheLeft", "run", "(II)I"⟩ ∈ gw_tbl := tb_i 242 (by decide +kernel) rfl
theorem k_243 : Cond.selects "HalfToTheLeft" ⟨"HalfToTheLeft", "run", "(II)I"⟩ ⟨"HalfToTheLeft", "run", "(II)I"⟩ ∈ gw_tbl := tb_i 243 (by decide +kernel) rfl
theorem k_244 : Cond.code ⟨"HalfToTheLeft", "run", "(II)I"⟩ prog_1_method_10_code 4 (some .int) ∈ gw_tbl := tb_i 244 (by decide +kernel) rfl
theorem k_261 : Cond.methodLink "HalfToTheLeftLaw" 49 ⟨"HalfToTheLeft", "given", "(II)I"⟩ ∈ gw_tbl := tb_i 261 (by decide +kernel) rfl
theorem k_262 : Cond.instanceMethod ⟨"HalfToTheLeft", "given", "(II)I"⟩ ∈ gw_tbl := tb_i 262 (by decide +kernel) rfl
theorem k_263 : Cond.selects "HalfToTheLeft" ⟨"HalfToTheLeft", "given", "(II)I"⟩ ⟨"HalfToTheLeft", "given", "(II)I"⟩ ∈ gw_tbl := tb_i 263 (by decide +kernel) rfl
theorem k_264 : Cond.code ⟨"HalfToTheLeft", "given", "(II)I"⟩ prog_1_method_11_code 4 (some .int) ∈ gw_tbl := tb_i 264 (by decide +kernel) rfl
theorem k_276 : Cond.methodLink "HalfToTheLeftLaw" 52 ⟨"HalfToTheLeft", "rests", "()I"⟩ ∈ gw_tbl := tb_i 276 (by decide +kernel) rfl
theorem k_277 : Cond.instanceMethod ⟨"HalfToTheLeft", "rests", "()I"⟩ ∈ gw_tbl := tb_i 277 (by decide +kernel) rfl
theorem k_278 : Cond.selects "HalfToTheLeft" ⟨"HalfToTheLeft", "rests", "()I"⟩ ⟨"HalfToTheLeft", "rests", "()I"⟩ ∈ gw_tbl := tb_i 278 (by decide +kernel) rfl
theorem k_279 : Cond.code ⟨"HalfToTheLeft", "rests", "()I"⟩ prog_1_method_12_code 1 (some .int) ∈ gw_tbl := tb_i 279 (by decide +kernel) rfl
theorem k_289 : Cond.methodLink "HalfToTheLeftLaw" 55 ⟨"HalfToTheLeft", "alike", "()I"⟩ ∈ gw_tbl := tb_i 289 (by decide +kernel) rfl
theorem k_290 : Cond.instanceMethod ⟨"HalfToTheLeft", "alike", "()I"⟩ ∈ gw_tbl := tb_i 290 (by decide +kernel) rfl
theorem k_291 : Cond.selects "HalfToTheLeft" ⟨"HalfToTheLeft", "alike", "()I"⟩ ⟨"HalfToTheLeft", "alike", "()I"⟩ ∈ gw_tbl := tb_i 291 (by decide +kernel) rfl
theorem k_292 : Cond.code ⟨"HalfToTheLeft", "alike", "()I"⟩ prog_1_method_13_code 1 (some .int) ∈ gw_tbl := tb_i 292 (by decide +kernel) rfl
theorem k_304 : Cond.methodLink "HalfToTheLeftLaw" 61 ⟨"HalfToTheLeft", "ring", "(I)I"⟩ ∈ gw_tbl := tb_i 304 (by decide +kernel) rfl
theorem k_305 : Cond.instanceMethod ⟨"HalfToTheLeft", "ring", "(I)I"⟩ ∈ gw_tbl := tb_i 305 (by decide +kernel) rfl
theorem k_306 : Cond.selects "HalfToTheLeft" ⟨"HalfToTheLeft", "ring", "(I)I"⟩ ⟨"HalfToTheLeft", "ring", "(I)I"⟩ ∈ gw_tbl := tb_i 306 (by decide +kernel) rfl
theorem k_307 : Cond.code ⟨"HalfToTheLeft", "ring", "(I)I"⟩ prog_1_method_14_code 3 (some .int) ∈ gw_tbl := tb_i 307 (by decide +kernel) rfl
theorem k_321 : Cond.methodLink "HalfToTheLeftLaw" 58 ⟨"HalfToTheLeft", "meet", "(II)I"⟩ ∈ gw_tbl := tb_i 321 (by decide +kernel) rfl
theorem k_322 : Cond.instanceMethod ⟨"HalfToTheLeft", "meet", "(II)I"⟩ ∈ gw_tbl := tb_i 322 (by decide +kernel) rfl
theorem k_323 : Cond.selects "HalfToTheLeft" ⟨"HalfToTheLeft", "meet", "(II)I"⟩ ⟨"HalfToTheLeft", "meet", "(II)I"⟩ ∈ gw_tbl := tb_i 323 (by decide +kernel) rfl
theorem k_324 : Cond.code ⟨"HalfToTheLeft", "meet", "(II)I"⟩ prog_1_method_15_code 3 (some .int) ∈ gw_tbl := tb_i 324 (by decide +kernel) rfl
theorem k_333 : Cond.methodLink "HalfToTheLeftLaw" 67 ⟨"HalfToTheLeft", "crumbs", "(III)J"⟩ ∈ gw_tbl := tb_i 333 (by decide +kernel) rfl
theorem k_334 : Cond.instanceMethod ⟨"HalfToTheLeft", "crumbs", "(III)J"⟩ ∈ gw_tbl := tb_i 334 (by decide +kernel) rfl
theorem k_335 : Cond.selects "HalfToTheLeft" ⟨"HalfToTheLeft", "crumbs", "(III)J"⟩ ⟨"HalfToTheLeft", "crumbs", "(III)J"⟩ ∈ gw_tbl := tb_i 335 (by decide +kernel) rfl
theorem k_336 : Cond.code ⟨"HalfToTheLeft", "crumbs", "(III)J"⟩ prog_1_method_16_code 5 (some .long) ∈ gw_tbl := tb_i 336 (by decide +kernel) rfl
theorem k_365 : Cond.methodLink "HalfToTheLeftLaw" 64 ⟨"HalfToTheLeft", "mean", "(I)I"⟩ ∈ gw_tbl := tb_i 365 (by decide +kernel) rfl
theorem k_366 : Cond.instanceMethod ⟨"HalfToTheLeft", "mean", "(I)I"⟩ ∈ gw_tbl := tb_i 366 (by decide +kernel) rfl
theorem k_367 : Cond.selects "HalfToTheLeft" ⟨"HalfToTheLeft", "mean", "(I)I"⟩ ⟨"HalfToTheLeft", "mean", "(I)I"⟩ ∈ gw_tbl := tb_i 367 (by decide +kernel) rfl
theorem k_368 : Cond.code ⟨"HalfToTheLeft", "mean", "(I)I"⟩ prog_1_method_17_code 3 (some .int) ∈ gw_tbl := tb_i 368 (by decide +kernel) rfl
theorem k_381 : Cond.methodLink "HalfToTheLeftLaw" 43 ⟨"HalfToTheLeft", "count", "(I)I"⟩ ∈ gw_tbl := tb_i 381 (by decide +kernel) rfl
theorem k_382 : Cond.instanceMethod ⟨"HalfToTheLeft", "count", "(I)I"⟩ ∈ gw_tbl := tb_i 382 (by decide +kernel) rfl
theorem k_383 : Cond.selects "HalfToTheLeft" ⟨"HalfToTheLeft", "count", "(I)I"⟩ ⟨"HalfToTheLeft", "count", "(I)I"⟩ ∈ gw_tbl := tb_i 383 (by decide +kernel) rfl
theorem k_384 : Cond.code ⟨"HalfToTheLeft", "count", "(I)I"⟩ prog_1_method_33_code 2 (some .int) ∈ gw_tbl := tb_i 384 (by decide +kernel) rfl
theorem k_389 : Cond.methodLink "HalfToTheLeftLaw" 24 ⟨"HalfToTheLeftLaw", "cell", "([II)I"⟩ ∈ gw_tbl := tb_i 389 (by decide +kernel) rfl
theorem k_390 : Cond.static ⟨"HalfToTheLeftLaw", "cell", "([II)I"⟩ ∈ gw_tbl := tb_i 390 (by decide +kernel) rfl
theorem k_391 : Cond.code ⟨"HalfToTheLeftLaw", "cell", "([II)I"⟩ method_2_code 2 (some .int) ∈ gw_tbl := tb_i 391 (by decide +kernel) rfl
theorem k_392 : Cond.methodLink "HalfToTheLeftLaw" 28 ⟨"HalfToTheLeftLaw", "pick", "(II)I"⟩ ∈ gw_tbl := tb_i 392 (by decide +kernel) rfl
theorem k_393 : Cond.static ⟨"HalfToTheLeftLaw", "pick", "(II)I"⟩ ∈ gw_tbl := tb_i 393 (by decide +kernel) rfl
theorem k_394 : Cond.code ⟨"HalfToTheLeftLaw", "pick", "(II)I"⟩ method_3_code 2 (some .int) ∈ gw_tbl := tb_i 394 (by decide +kernel) rfl
theorem k_395 : Cond.constant "HalfToTheLeftLaw" 7 2147483647 ∈ gw_tbl := tb_i 395 (by decide +kernel) rfl
theorem k_399 : Cond.methodLink "HalfToTheLeftLaw" 32 ⟨"HalfToTheLeftLaw", "child", "(LHalfToTheLeft;II)I"⟩ ∈ gw_tbl := tb_i 399 (by decide +kernel) rfl
theorem k_400 : Cond.static ⟨"HalfToTheLeftLaw", "child", "(LHalfToTheLeft;II)I"⟩ ∈ gw_tbl := tb_i 400 (by decide +kernel) rfl
theorem k_401 : Cond.code ⟨"HalfToTheLeftLaw", "child", "(LHalfToTheLeft;II)I"⟩ method_5_code 4 (some .int) ∈ gw_tbl := tb_i 401 (by decide +kernel) rfl
theorem k_402 : Cond.methodLink "HalfToTheLeftLaw" 18 ⟨"HalfToTheLeftLaw", "told", "(LHalfToTheLeft;[I)I"⟩ ∈ gw_tbl := tb_i 402 (by decide +kernel) rfl
theorem k_403 : Cond.static ⟨"HalfToTheLeftLaw", "told", "(LHalfToTheLeft;[I)I"⟩ ∈ gw_tbl := tb_i 403 (by decide +kernel) rfl
theorem k_404 : Cond.code ⟨"HalfToTheLeftLaw", "told", "(LHalfToTheLeft;[I)I"⟩ method_4_code 6 (some .int) ∈ gw_tbl := tb_i 404 (by decide +kernel) rfl
theorem k_405 : Cond.methodLink "HalfToTheLeftLaw" 8 ⟨"HalfToTheLeft", "feed", "(I)I"⟩ ∈ gw_tbl := tb_i 405 (by decide +kernel) rfl
theorem k_406 : Cond.instanceMethod ⟨"HalfToTheLeft", "feed", "(I)I"⟩ ∈ gw_tbl := tb_i 406 (by decide +kernel) rfl
theorem k_407 : Cond.selects "HalfToTheLeft" ⟨"HalfToTheLeft", "feed", "(I)I"⟩ ⟨"HalfToTheLeft", "feed", "(I)I"⟩ ∈ gw_tbl := tb_i 407 (by decide +kernel) rfl
theorem k_408 : Cond.code ⟨"HalfToTheLeft", "feed", "(I)I"⟩ prog_1_method_2_code 2 (some .int) ∈ gw_tbl := tb_i 408 (by decide +kernel) rfl
theorem k_413 : Cond.methodLink "HalfToTheLeftLaw" 14 ⟨"HalfToTheLeft", "table", "()I"⟩ ∈ gw_tbl := tb_i 413 (by decide +kernel) rfl
theorem k_414 : Cond.instanceMethod ⟨"HalfToTheLeft", "table", "()I"⟩ ∈ gw_tbl := tb_i 414 (by decide +kernel) rfl
theorem k_415 : Cond.selects "HalfToTheLeft" ⟨"HalfToTheLeft", "table", "()I"⟩ ⟨"HalfToTheLeft", "table", "()I"⟩ ∈ gw_tbl := tb_i 415 (by decide +kernel) rfl
theorem k_416 : Cond.code ⟨"HalfToTheLeft", "table", "()I"⟩ prog_1_method_3_code 2 (some .int) ∈ gw_tbl := tb_i 416 (by decide +kernel) rfl
theorem k_546 : Cond.methodLink "HalfToTheLeftLaw" 36 ⟨"HalfToTheLeft", "set", "(II)I"⟩ ∈ gw_tbl := tb_i 546 (by decide +kernel) rfl
theorem k_547 : Cond.instanceMethod ⟨"HalfToTheLeft", "set", "(II)I"⟩ ∈ gw_tbl := tb_i 547 (by decide +kernel) rfl
theorem k_548 : Cond.selects "HalfToTheLeft" ⟨"HalfToTheLeft", "set", "(II)I"⟩ ⟨"HalfToTheLeft", "set", "(II)I"⟩ ∈ gw_tbl := tb_i 548 (by decide +kernel) rfl
theorem k_549 : Cond.code ⟨"HalfToTheLeft", "set", "(II)I"⟩ prog_1_method_7_code 5 (some .int) ∈ gw_tbl := tb_i 549 (by decide +kernel) rfl
theorem k_553 : Cond.methodLink "HalfToTheLeftLaw" 75 ⟨"java/lang/Math", "max", "(II)I"⟩ ∈ gw_tbl := tb_i 553 (by decide +kernel) rfl
theorem k_554 : Cond.constantLong "HalfToTheLeftLaw" 71 128 ∈ gw_tbl := tb_i 554 (by decide +kernel) rfl
abbrev b_Law_cell : ByteArray := method_2_code
abbrev y_Law_cell : MethodName := ⟨"HalfToTheLeftLaw", "cell", "([II)I"⟩
theorem hd_Law_cell : y_Law_cell.cls ≠ "java/lang/invoke/MethodHandle" ∧ y_Law_cell.cls ≠ "java/lang/invoke/VarHandle" ∧ (parseMethodDescriptor y_Law_cell.desc).map (fun d => d.parameters.length) = some 2 := ⟨by decide +kernel, by decide +kernel, by decide +kernel⟩
abbrev b_Law_pick : ByteArray := method_3_code
abbrev y_Law_pick : MethodName := ⟨"HalfToTheLeftLaw", "pick", "(II)I"⟩
theorem hd_Law_pick : y_Law_pick.cls ≠ "java/lang/invoke/MethodHandle" ∧ y_Law_pick.cls ≠ "java/lang/invoke/VarHandle" ∧ (parseMethodDescriptor y_Law_pick.desc).map (fun d => d.parameters.length) = some 2 := ⟨by decide +kernel, by decide +kernel, by decide +kernel⟩
abbrev b_Law_told : ByteArray := method_4_code
abbrev y_Law_told : MethodName := ⟨"HalfToTheLeftLaw", "told", "(LHalfToTheLeft;[I)I"⟩
theorem hd_Law_told : y_Law_told.cls ≠ "java/lang/invoke/MethodHandle" ∧ y_Law_told.cls ≠ "java/lang/invoke/VarHandle" ∧ (parseMethodDescriptor y_Law_told.desc).map (fun d => d.parameters.length) = some 2 := ⟨by decide +kernel, by decide +kernel, by decide +kernel⟩
abbrev b_Law_child : ByteArray := method_5_code
abbrev y_Law_child : MethodName := ⟨"HalfToTheLeftLaw", "child", "(LHalfToTheLeft;II)I"⟩
theorem hd_Law_child : y_Law_child.cls ≠ "java/lang/invoke/MethodHandle" ∧ y_Law_child.cls ≠ "java/lang/invoke/VarHandle" ∧ (parseMethodDescriptor y_Law_child.desc).map (fun d => d.parameters.length) = some 3 := ⟨by decide +kernel, by decide +kernel, by decide +kernel⟩
abbrev b_Law_table : ByteArray := method_6_code
abbrev y_Law_table : MethodName := ⟨"HalfToTheLeftLaw", "table", "(LHalfToTheLeft;[III)I"⟩
theorem hd_Law_table : y_Law_table.cls ≠ "java/lang/invoke/MethodHandle" ∧ y_Law_table.cls ≠ "java/lang/invoke/VarHandle" ∧ (parseMethodDescriptor y_Law_table.desc).map (fun d => d.parameters.length) = some 4 := ⟨by decide +kernel, by decide +kernel, by decide +kernel⟩
def xG (l : Launch) (y : MethodName) (b : ByteArray) (n : Nat) (ret : FieldType) (fr lo mc ms : Nat) (D : va_G) (tys : List (ClassId × FieldType)) (E : (Nat → Prop) → State → Heap → Prop) (as : List Value) (ws : va_W) (r : Int32) (ws' : va_W) : Prop :=
  ∀ sz : Nat, Met l y (.code y b n (some ret) :: gw_tbl) { frames := fr, cells := mc, slots := ms, locals := lo } (va_Pc as (xPre D tys ws sz E)) (va_Qi (fun (x : Int32) (_ : Unit) => x = r) (fun _ t => xBack D tys ws' (va_A ws sz) t) (va_A ws sz)) mc ms (va_A ws sz)
theorem xG_of {l : Launch} {y : MethodName} {b : ByteArray} {n : Nat} {ret : FieldType} {fr lo mc ms : Nat} {D : va_G} {tys : List (ClassId × FieldType)} {E : (Nat → Prop) → State → Heap → Prop} {as : List Value} {ws : va_W} {r : Int32} {ws' : va_W} (hy : plainName y.cls = true) (hlen : (lg_sl as).length ≤ n)
    (body : ∀ (p : Program) (e : Env) (s : State) (m : MethodId) (args : Array Value) (below : List Frame) (meth : Method) (c : Code) (A : Nat → Prop) (Q : State → Prop), p.tables.exec = Jvm.exec → c.code = b → c.maxLocals = n → s.vm.findClass y.cls = some m.cls → (∀ w ∈ gw_tbl, w.before args s = true) → (∀ q, s.heap.size ≤ q → A q) →
      va_P D classes ws s.heap → va_D A ws → va_K D classes tys s → va_S A s.heap s.heap [] → E A s s.heap →
      (∀ (H : Heap) (locs : List Loc) (pc : Nat) (ls : Array Slot) (v : Int32), decode b pc = .ok (.ireturn, 1) → narrow ret (.int v) = .int v → v = r → va_P D classes ws' H → va_D A ws' → va_S A s.heap H locs → W p l e { frames := fr, cells := mc, slots := ms, locals := lo } s m args below meth c H locs mc ms Q (F0 m pc ls [.int v])) →
      ∀ ls : Array Slot, lv_has ls n (lv_args 0 as) → W p l e { frames := fr, cells := mc, slots := ms, locals := lo } s m args below meth c s.heap [] 0 0 Q (F0 m 0 ls [])) : xG l y b n ret fr lo mc ms D tys E as ws r ws' := by
  intro sz
  refine Met.ofW (cc := b) (maxL := n) (ret := some ret) hy rfl ?_
  intro p e s m args below meth c s₁ B hml hv
  obtain ⟨rfl, hsz, hP, hK, hD0, hE⟩ := hv
  have hts := atoms_spec (ws := .code y b n (some ret) :: gw_tbl) B.pre
  have hlocks := B.notSynchronized
  subst hsz
  have hD := hD0.self (sz := s.heap.size)
  generalize hAe : va_A ws s.heap.size = A at hD hE ⊢
  have hA : ∀ q : Nat, s.heap.size ≤ q → A q := fun q h => by rw [← hAe]; exact Or.inr h
  have hl := lv_entry as (n := n) hlen
  rw [lg_entry_eq]
  exact body p e s m _ below meth c A _ B.exec B.bytes hml (findClass_of_methodNamed B.named) (fun w h => hts w (List.mem_cons_of_mem _ h)) hA hP hD hK va_S.rf hE (fun H locs pc ls v hdg hn hv hP hD hS => W.zret B.exec B.bytes B.returns hn (fun t ht hW => ⟨⟨v, (), rfl, hv, by rw [ht]; exact hP, va_K.moved hW.alike hK, hD⟩, hS.F ht⟩) hS.2.2 hdg) _ hl
theorem xcGI {p : Program} {l : Launch} {e : Env} {R : Room} {s : State} {m : MethodId} {args : Array Value} {below : List Frame} {meth : Method} {c : Code} {H : Heap} {locs : List Loc} {cells slots : Nat} {Q : State → Prop} {cc : ByteArray} {nL : Nat} {A : Nat → Prop} {own : String} {pc index : Nat} {ls : Array Slot} {st rest As : List Value} {y : MethodName} {bytes : ByteArray} {maxL fr lo mc ms : Nat} {D : va_G} {tys : List (ClassId × FieldType)} {E : (Nat → Prop) → State → Heap → Prop} {ws wc wc' ws' : va_W} {ret : FieldType} {r : Int32} (hx : p.tables.exec = Jvm.exec) (hb : c.code = cc) (hml : c.maxLocals = nL) (hown : s.vm.findClass own = some m.cls) (hT : ∀ w ∈ gw_tbl, w.before args s = true) (hM : xG l y bytes maxL ret fr lo mc ms D tys E As wc r wc')
    (hlink : Cond.methodLink own index y ∈ gw_tbl) (hstat : Cond.static y ∈ gw_tbl) (hini : Cond.initialized y.cls ∈ gw_tbl) (hcode : Cond.code y bytes maxL (some ret) ∈ gw_tbl) (hd : y.cls ≠ "java/lang/invoke/MethodHandle" ∧ y.cls ≠ "java/lang/invoke/VarHandle" ∧ (parseMethodDescriptor y.desc).map (fun d => d.parameters.length) = some As.length) (hR : fr + 1 ≤ R.frames ∧ 8 + (maxL + 11) + lo ≤ R.locals)
    (hok : xOk E) (hE : E A s s.heap) (hA : ∀ q, s.heap.size ≤ q → A q) (hK : va_K D classes tys s) (hP : va_P D classes ws H) (hD : va_D A ws) (hS : va_S A s.heap H locs) (isC isR isN : List Nat) (hC : isC.map (fun i => ws[i]?) = wc.map some) (hCn : va_nd isC = true) (hRr : isR.map (fun i => ws[i]?) = (isR.filterMap (fun i => ws[i]?)).map some) (hn : va_nd isR = true) (hdis : isR.all (fun i => !isC.contains i) = true) (hNn : va_nd isN = true) (hN : isN.map (fun i => (isR.filterMap (fun i => ws[i]?) ++ wc')[i]?) = ws'.map some)
     (hsize : ls.size = nL) (hst : st = As.reverse ++ rest) (hW : (rest.map fun v => v.category).sum ≤ 8) (hcs : cells + mc ≤ R.cells ∧ slots + ms ≤ R.slots) (hdg : decode cc pc = .ok (.invokestatic index, 3))
    (kk : ∀ (H1 : Heap) (locs1 : List Loc), va_P D classes ws' H1 → va_D A ws' → va_S A s.heap H1 locs1 → W p l e R s m args below meth c H1 locs1 (cells + mc) (slots + ms) Q (F0 m (pc + 3) ls (.int r :: rest))) : W p l e R s m args below meth c H locs cells slots Q (F0 m pc ls st) := by
  have hF := va_free hD hS hA isC hC
  have hpay := tb_pay hT
  have hcb := hT _ hcode
  have hws : ∀ w ∈ (Cond.code y bytes maxL (some ret) :: gw_tbl), ∀ (a' : Array Value) (U : State), s.WarmedH U.vm → w.before a' U = true := by
    intro w hw
    rcases List.mem_cons.mp hw with rfl | hw
    · exact hpay _ hcode
    · exact hpay w hw
  have hlen : ∀ sig, parseMethodDescriptor y.desc = some sig → As.length = sig.parameters.length := fun sig h => by
    have h2 := hd.2.2
    rw [h] at h2
    exact (Option.some.inj h2).symm
  subst hst
  refine va_calli (va_runS (As := As) (rest := rest) ⟨hx, hb, hml, hown, hT⟩ (hM H.size) ⟨⟨rfl, rfl, hR.1, hR.2, hws, List.mem_cons_self, hcb, hT _ hini, ⟨hd.1, hd.2.1⟩, hlen, hT _ hlink⟩, hT _ hstat⟩ ⟨x_blind hok, fun U hU hW => ⟨rfl, x_pre hok hK hP hD hS hA hE isC hC hCn U hU hW⟩⟩ rfl rfl hsize rfl (lv_room hW) hdg hcs) hS (fun q _ h => hF q h) hF (fun r1 u t H1 locs1 ht hvm hw hB hz hk hS1 => ?_)
  subst hw
  obtain ⟨hP2, hD2⟩ := x_join hP hD hS hA isC isR isN hC hRr hn hdis hNn hN ht hB hk
  exact kk H1 locs1 hP2 hD2 hS1
-- the script, as an array that nobody writes
def xSc (b L : Nat) (xs : Nat → Int32) (A : Nat → Prop) (U : State) (H : Heap) : Prop := va_T .int b L (fun k => .int (xs k)) A U H
theorem xSc_ok (b L : Nat) (xs : Nat → Int32) : xOk (xSc b L xs) := by
  refine ⟨fun A u U H h q => ?_, fun A U H H1 q hq => va_T.kept q hq, fun A B U H q hAB => va_T.narrow q hAB⟩
  have hv : u.vm.Alike U.vm := by
    rcases h with h | h
    · rw [h]; exact Vm.Alike.refl _
    · exact h.alike
  exact va_T.moved hv q
def xBo (tL tG tS tV b L : Nat) (xs : Nat → Int32) (A : Nat → Prop) (U : State) (H : Heap) : Prop := xEv tL tG tS tV A U H ∧ xSc b L xs A U H
theorem xBo_ok (tL tG tS tV b L : Nat) (xs : Nat → Int32) : xOk (xBo tL tG tS tV b L xs) := ⟨fun A u U H h q => ⟨(xEv_ok tL tG tS tV).1 A u U H h q.1, (xSc_ok b L xs).1 A u U H h q.2⟩, fun A U H H1 q hq => ⟨(xEv_ok tL tG tS tV).2.1 A U H H1 q.1 hq, (xSc_ok b L xs).2.1 A U H H1 q.2 hq⟩, fun A B U H q hAB => ⟨(xEv_ok tL tG tS tV).2.2 A B U H q.1 hAB, (xSc_ok b L xs).2.2 A B U H q.2 hAB⟩⟩
