/-! My own rows: contracts of a fixed shape over the tables' words as one list, calls in one step, loops with fuel. -/
theorem tb_good : ∀ w ∈ gw_tbl, (w.onTables && w.keeps) = true ∨ ∃ ty, w = .arrayClass ty := fun w hw => good_of_word (List.mem_filter.mp hw).2
theorem tb_pay {args : Array Value} {s : State} (hT : ∀ w ∈ gw_tbl, w.before args s = true) : ∀ w ∈ gw_tbl, ∀ (a' : Array Value) (U : State), s.WarmedH U.vm → w.before a' U = true := fun w hw _ _ hW => word_at hW (tb_good w hw) (hT w hw)
-- decisions on the way
theorem io_t {α : Type} {c : Prop} [Decidable c] {a b r : α} (h : (if c then a else b) = r) (hc : c) : a = r := by rw [← h, if_pos hc]
theorem io_f {α : Type} {c : Prop} [Decidable c] {a b r : α} (h : (if c then a else b) = r) (hc : ¬ c) : b = r := by rw [← h, if_neg hc]
theorem io_n {α : Type} {c : Prop} [Decidable c] {b : Option α} {r : α} (h : (if c then none else b) = some r) : ¬ c ∧ b = some r := by
  by_cases hc : c
  · rw [if_pos hc] at h; cases h
  · rw [if_neg hc] at h; exact ⟨hc, h⟩
theorem io_b {α β : Type} {a : Option α} {k : α → Option β} {r : β} (h : a.bind k = some r) : ∃ q : α, a = some q ∧ k q = some r := by
  cases a with
  | none => cases h
  | some q => exact ⟨q, rfl, h⟩
-- the classes, the kinds of arrays
abbrev tyK (cI cJ cC : ClassId) : List (ClassId × FieldType) := [(cI, .int), (cJ, .long), (cC, .char)]
def xE0 : (Nat → Prop) → State → Heap → Prop := fun _ _ _ => True
def xOk (E : (Nat → Prop) → State → Heap → Prop) : Prop := (∀ (A : Nat → Prop) (u U : State) (H : Heap), (u.vm = U.vm ∨ u.WarmedH U.vm) → E A u H → E A U H) ∧ (∀ (A : Nat → Prop) (U : State) (H H1 : Heap), E A U H → (∀ a : Nat, a < H.size → ¬ A a → H1[a]? = H[a]?) → E A U H1) ∧ ∀ (A B : Nat → Prop) (U : State) (H : Heap), E A U H → (∀ q, B q → A q) → E B U H
theorem xE0_ok : xOk xE0 := ⟨fun _ _ _ _ _ _ => trivial, fun _ _ _ _ _ _ => trivial, fun _ _ _ _ _ _ => trivial⟩
def xPre (D : va_G) (tys : List (ClassId × FieldType)) (ws : va_W) (sz : Nat) (E : (Nat → Prop) → State → Heap → Prop) (U : State) : Prop := U.heap.size = sz ∧ va_P D classes ws U.heap ∧ va_K D classes tys U ∧ va_D (fun _ => True) ws ∧ E (va_A ws sz) U U.heap
def xBack (D : va_G) (tys : List (ClassId × FieldType)) (ws : va_W) (A : Nat → Prop) (t : State) : Prop := va_P D classes ws t.heap ∧ va_K D classes tys t ∧ va_D A ws
abbrev xRm (fr lo : Nat) : Room := { frames := fr, cells := 0, slots := 0, locals := lo }
def xI (l : Launch) (y : MethodName) (b : ByteArray) (n : Nat) (ret : FieldType) (fr lo : Nat) (D : va_G) (tys : List (ClassId × FieldType)) (E : (Nat → Prop) → State → Heap → Prop) (as : List Value) (ws : va_W) (r : Int32) (ws' : va_W) : Prop :=
  ∀ sz : Nat, Met l y (.code y b n (some ret) :: gw_tbl) (xRm fr lo) (va_Pc as (xPre D tys ws sz E)) (va_Qi (fun (x : Int32) (_ : Unit) => x = r) (fun _ t => xBack D tys ws' (va_A ws sz) t) (va_A ws sz)) 0 0 (va_A ws sz)
def xL (l : Launch) (y : MethodName) (b : ByteArray) (n : Nat) (ret : FieldType) (fr lo : Nat) (D : va_G) (tys : List (ClassId × FieldType)) (E : (Nat → Prop) → State → Heap → Prop) (as : List Value) (ws : va_W) (r : Int64) (ws' : va_W) : Prop :=
  ∀ sz : Nat, Met l y (.code y b n (some ret) :: gw_tbl) (xRm fr lo) (va_Pc as (xPre D tys ws sz E)) (va_Ql (fun (x : Int64) (_ : Unit) => x = r) (fun _ t => xBack D tys ws' (va_A ws sz) t) (va_A ws sz)) 0 0 (va_A ws sz)
def xV (l : Launch) (y : MethodName) (b : ByteArray) (n : Nat) (fr lo : Nat) (D : va_G) (tys : List (ClassId × FieldType)) (E : (Nat → Prop) → State → Heap → Prop) (as : List Value) (ws : va_W) (ws' : va_W) : Prop :=
  ∀ sz : Nat, Met l y (.code y b n none :: gw_tbl) (xRm fr lo) (va_Pc as (xPre D tys ws sz E)) (va_Qv (fun (_ : Unit) => True) (fun _ t => xBack D tys ws' (va_A ws sz) t) (va_A ws sz)) 0 0 (va_A ws sz)
/-- what a method's walk begins with -/
theorem xI_of {l : Launch} {y : MethodName} {b : ByteArray} {n : Nat} {ret : FieldType} {fr lo : Nat} {D : va_G} {tys : List (ClassId × FieldType)} {E : (Nat → Prop) → State → Heap → Prop} {as : List Value} {ws : va_W} {r : Int32} {ws' : va_W} (hy : plainName y.cls = true) (hlen : (lg_sl as).length ≤ n)
    (body : ∀ (p : Program) (e : Env) (s : State) (m : MethodId) (args : Array Value) (below : List Frame) (meth : Method) (c : Code) (A : Nat → Prop) (Q : State → Prop), p.tables.exec = Jvm.exec → c.code = b → c.maxLocals = n → s.vm.findClass y.cls = some m.cls → (∀ w ∈ gw_tbl, w.before args s = true) → (∀ q, s.heap.size ≤ q → A q) →
      va_P D classes ws s.heap → va_D A ws → va_K D classes tys s → va_S A s.heap s.heap [] → E A s s.heap →
      (∀ (H : Heap) (locs : List Loc) (pc : Nat) (ls : Array Slot) (v : Int32), decode b pc = .ok (.ireturn, 1) → narrow ret (.int v) = .int v → v = r → va_P D classes ws' H → va_D A ws' → va_S A s.heap H locs → W p l e (xRm fr lo) s m args below meth c H locs 0 0 Q (F0 m pc ls [.int v])) →
      ∀ ls : Array Slot, lv_has ls n (lv_args 0 as) → W p l e (xRm fr lo) s m args below meth c s.heap [] 0 0 Q (F0 m 0 ls [])) : xI l y b n ret fr lo D tys E as ws r ws' := by
  intro sz
  refine Met.ofW (cc := b) (maxL := n) (ret := some ret) hy rfl ?_
  intro p e s m args below meth c s₁ B hml hv
  obtain ⟨rfl, hsz, hP, hK, hD0, hE⟩ := hv
  have hts := atoms_spec (ws := .code y b n (some ret) :: gw_tbl) B.pre
  have hlocks := B.notSynchronized
  subst hsz
  have hD := hD0.self (sz := s.heap.size)
  generalize hAe : va_A ws s.heap.size = A at hD hE ⊢
  have hA : ∀ q : Nat, s.heap.size ≤ q → A q := fun q h => by rw [← hAe]; exact Or.inr h
  have hl := lv_entry as (n := n) hlen
  rw [lg_entry_eq]
  exact body p e s m _ below meth c A _ B.exec B.bytes hml (findClass_of_methodNamed B.named) (fun w h => hts w (List.mem_cons_of_mem _ h)) hA hP hD hK va_S.rf hE (fun H locs pc ls v hdg hn hv hP hD hS => W.zret B.exec B.bytes B.returns hn (fun t ht hW => ⟨⟨v, (), rfl, hv, by rw [ht]; exact hP, va_K.moved hW.alike hK, hD⟩, hS.F ht⟩) hS.2.2 hdg) _ hl
theorem xL_of {l : Launch} {y : MethodName} {b : ByteArray} {n : Nat} {fr lo : Nat} {D : va_G} {tys : List (ClassId × FieldType)} {E : (Nat → Prop) → State → Heap → Prop} {as : List Value} {ws : va_W} {r : Int64} {ws' : va_W} (hy : plainName y.cls = true) (hlen : (lg_sl as).length ≤ n)
    (body : ∀ (p : Program) (e : Env) (s : State) (m : MethodId) (args : Array Value) (below : List Frame) (meth : Method) (c : Code) (A : Nat → Prop) (Q : State → Prop), p.tables.exec = Jvm.exec → c.code = b → c.maxLocals = n → s.vm.findClass y.cls = some m.cls → (∀ w ∈ gw_tbl, w.before args s = true) → (∀ q, s.heap.size ≤ q → A q) →
      va_P D classes ws s.heap → va_D A ws → va_K D classes tys s → va_S A s.heap s.heap [] → E A s s.heap →
      (∀ (H : Heap) (locs : List Loc) (pc : Nat) (ls : Array Slot) (v : Int64), decode b pc = .ok (.lreturn, 1) → v = r → va_P D classes ws' H → va_D A ws' → va_S A s.heap H locs → W p l e (xRm fr lo) s m args below meth c H locs 0 0 Q (F0 m pc ls [.long v])) →
      ∀ ls : Array Slot, lv_has ls n (lv_args 0 as) → W p l e (xRm fr lo) s m args below meth c s.heap [] 0 0 Q (F0 m 0 ls [])) : xL l y b n .long fr lo D tys E as ws r ws' := by
  intro sz
  refine Met.ofW (cc := b) (maxL := n) (ret := some .long) hy rfl ?_
  intro p e s m args below meth c s₁ B hml hv
  obtain ⟨rfl, hsz, hP, hK, hD0, hE⟩ := hv
  have hts := atoms_spec (ws := .code y b n (some .long) :: gw_tbl) B.pre
  have hlocks := B.notSynchronized
  subst hsz
  have hD := hD0.self (sz := s.heap.size)
  generalize hAe : va_A ws s.heap.size = A at hD hE ⊢
  have hA : ∀ q : Nat, s.heap.size ≤ q → A q := fun q h => by rw [← hAe]; exact Or.inr h
  have hl := lv_entry as (n := n) hlen
  rw [lg_entry_eq]
  exact body p e s m _ below meth c A _ B.exec B.bytes hml (findClass_of_methodNamed B.named) (fun w h => hts w (List.mem_cons_of_mem _ h)) hA hP hD hK va_S.rf hE (fun H locs pc ls v hdg hv hP hD hS => W.lret B.exec B.bytes B.returns (fun t ht hW => ⟨⟨v, (), rfl, hv, by rw [ht]; exact hP, va_K.moved hW.alike hK, hD⟩, hS.F ht⟩) hS.2.2 hdg) _ hl
theorem xV_of {l : Launch} {y : MethodName} {b : ByteArray} {n : Nat} {fr lo : Nat} {D : va_G} {tys : List (ClassId × FieldType)} {E : (Nat → Prop) → State → Heap → Prop} {as : List Value} {ws : va_W} {ws' : va_W} (hy : plainName y.cls = true) (hlen : (lg_sl as).length ≤ n)
    (body : ∀ (p : Program) (e : Env) (s : State) (m : MethodId) (args : Array Value) (below : List Frame) (meth : Method) (c : Code) (A : Nat → Prop) (Q : State → Prop), p.tables.exec = Jvm.exec → c.code = b → c.maxLocals = n → s.vm.findClass y.cls = some m.cls → (∀ w ∈ gw_tbl, w.before args s = true) → (∀ q, s.heap.size ≤ q → A q) →
      va_P D classes ws s.heap → va_D A ws → va_K D classes tys s → va_S A s.heap s.heap [] → E A s s.heap →
      (∀ (H : Heap) (locs : List Loc) (pc : Nat) (ls : Array Slot), decode b pc = .ok (.return_, 1) → va_P D classes ws' H → va_D A ws' → va_S A s.heap H locs → W p l e (xRm fr lo) s m args below meth c H locs 0 0 Q (F0 m pc ls [])) →
      ∀ ls : Array Slot, lv_has ls n (lv_args 0 as) → W p l e (xRm fr lo) s m args below meth c s.heap [] 0 0 Q (F0 m 0 ls [])) : xV l y b n fr lo D tys E as ws ws' := by
  intro sz
  refine Met.ofW (cc := b) (maxL := n) (ret := none) hy rfl ?_
  intro p e s m args below meth c s₁ B hml hv
  obtain ⟨rfl, hsz, hP, hK, hD0, hE⟩ := hv
  have hts := atoms_spec (ws := .code y b n none :: gw_tbl) B.pre
  have hlocks := B.notSynchronized
  subst hsz
  have hD := hD0.self (sz := s.heap.size)
  generalize hAe : va_A ws s.heap.size = A at hD hE ⊢
  have hA : ∀ q : Nat, s.heap.size ≤ q → A q := fun q h => by rw [← hAe]; exact Or.inr h
  have hl := lv_entry as (n := n) hlen
  rw [lg_entry_eq]
  exact body p e s m _ below meth c A _ B.exec B.bytes hml (findClass_of_methodNamed B.named) (fun w h => hts w (List.mem_cons_of_mem _ h)) hA hP hD hK va_S.rf hE (fun H locs pc ls hdg hP hD hS => W.vret B.exec B.bytes B.returns (fun t ht hW => ⟨⟨(), rfl, trivial, by rw [ht]; exact hP, va_K.moved hW.alike hK, hD⟩, hS.F ht⟩) hS.2.2 hdg) _ hl
-- calls
theorem x_blind {as : List Value} {D : va_G} {tys : List (ClassId × FieldType)} {ws : va_W} {sz : Nat} {E : (Nat → Prop) → State → Heap → Prop} (hok : xOk E) : FrameBlind (va_Pc as (xPre D tys ws sz E)) := by
  intro a U g mk q
  obtain ⟨q0, q1, qP, qK, qD, qE⟩ := q
  exact ⟨q0, q1, qP, va_K.moved (u := U) (U := U.calling g mk a) (Vm.Alike.refl U.vm) qK, qD, hok.1 _ U (U.calling g mk a) _ (Or.inl rfl) qE⟩
theorem x_pre {D : va_G} {tys : List (ClassId × FieldType)} {ws wc : va_W} {s : State} {H : Heap} {locs : List Loc} {A : Nat → Prop} {E : (Nat → Prop) → State → Heap → Prop} (hok : xOk E) (hK : va_K D classes tys s) (hP : va_P D classes ws H) (hD : va_D A ws) (hS : va_S A s.heap H locs) (hA : ∀ q, s.heap.size ≤ q → A q) (hE : E A s s.heap) (isC : List Nat) (hC : isC.map (fun i => ws[i]?) = wc.map some) (hn : va_nd isC = true) :
    ∀ U : State, U.heap = H → s.WarmedH U.vm → xPre D tys wc H.size E U := by
  intro U hU hW
  have hF := va_free hD hS hA isC hC
  have hPc : va_P D classes wc H := by
    intro k q hk
    have h1 : (isC.map (fun i => ws[i]?))[k]? = some (some q) := by rw [hC, List.getElem?_map, hk]; rfl
    rw [List.getElem?_map] at h1
    cases hi : isC[k]? with
    | none => rw [hi] at h1; cases h1
    | some i =>
      rw [hi] at h1
      exact hP i q (Option.some.inj h1)
  refine ⟨by rw [hU], by rw [hU]; exact hPc, va_K.moved hW.alike hK, (hD.sub isC hn hC).weaken (fun _ _ _ _ => trivial), ?_⟩
  rw [hU]
  exact hok.1 _ s U _ (Or.inr hW) (hok.2.2 A _ s H (hok.2.1 A s s.heap H hE hS.2.1) hF)
theorem x_sub {ws ws' : va_W} {D : va_G} {H : Heap} (hP : va_P D classes ws H) (is : List Nat) (hs : is.map (fun i => ws[i]?) = ws'.map some) : va_P D classes ws' H := by
  intro k q hk
  have h1 : (is.map (fun i => ws[i]?))[k]? = some (some q) := by rw [hs, List.getElem?_map, hk]; rfl
  rw [List.getElem?_map] at h1
  cases hi : is[k]? with
  | none => rw [hi] at h1; cases h1
  | some i =>
    rw [hi] at h1
    exact hP i q (Option.some.inj h1)
theorem x_join {D : va_G} {tys : List (ClassId × FieldType)} {ws wc wr wc' ws' : va_W} {s t : State} {H H1 : Heap} {locs : List Loc} {A : Nat → Prop} (hP : va_P D classes ws H) (hD : va_D A ws) (hS : va_S A s.heap H locs) (hA : ∀ q, s.heap.size ≤ q → A q) (isC isR isN : List Nat) (hC : isC.map (fun i => ws[i]?) = wc.map some) (hR : isR.map (fun i => ws[i]?) = wr.map some) (hn : va_nd isR = true) (hdis : isR.all (fun i => !isC.contains i) = true) (hNn : va_nd isN = true) (hN : isN.map (fun i => (wr ++ wc')[i]?) = ws'.map some)
    (ht : t.heap = H1) (hB : xBack D tys wc' (va_A wc H.size) t) (hk : ∀ q : Nat, q < H.size → ¬ va_A wc H.size q → H1[q]? = H[q]?) : va_P D classes ws' H1 ∧ va_D A ws' := by
  obtain ⟨hP1, hK1, hD1⟩ := hB
  rw [ht] at hP1
  obtain ⟨h1, h2⟩ := va_join hP hD isC isR hC hR hn (fun i hi => by simpa using List.all_eq_true.mp hdis i hi) hk (va_free hD hS hA isC hC) hP1 hD1
  exact ⟨x_sub h1 isN hN, h2.sub isN hNn hN⟩
theorem xcVI {p : Program} {l : Launch} {e : Env} {R : Room} {s : State} {m : MethodId} {args : Array Value} {below : List Frame} {meth : Method} {c : Code} {H : Heap} {locs : List Loc} {cells slots : Nat} {Q : State → Prop} {cc : ByteArray} {nL : Nat} {A : Nat → Prop} {own : String} {pc index : Nat} {ls : Array Slot} {st rest As : List Value} {y : MethodName} {bytes : ByteArray} {maxL fr lo : Nat} {D : va_G} {tys : List (ClassId × FieldType)} {E : (Nat → Prop) → State → Heap → Prop} {ws wc wc' ws' : va_W} {ret : FieldType} {r : Int32} {b : Nat} {ci : Nat} {fs : List Value} {q : vw_C} (hx : p.tables.exec = Jvm.exec) (hb : c.code = cc) (hml : c.maxLocals = nL) (hown : s.vm.findClass own = some m.cls) (hT : ∀ w ∈ gw_tbl, w.before args s = true) (hM : xI l y bytes maxL ret fr lo D tys E (.ref b :: As) wc r wc')
    (hlink : Cond.methodLink own index y ∈ gw_tbl) (hinst : Cond.instanceMethod y ∈ gw_tbl) (hsel : Cond.selects y.cls y y ∈ gw_tbl) (hini : Cond.initialized y.cls ∈ gw_tbl) (hcode : Cond.code y bytes maxL (some ret) ∈ gw_tbl) (hd : y.cls ≠ "java/lang/invoke/MethodHandle" ∧ y.cls ≠ "java/lang/invoke/VarHandle" ∧ (parseMethodDescriptor y.desc).map (fun d => d.parameters.length) = some As.length) (hR : fr + 1 ≤ R.frames ∧ 8 + (maxL + 11) + lo ≤ R.locals)
    (hok : xOk E) (hE : E A s s.heap) (hA : ∀ q, s.heap.size ≤ q → A q) (hK : va_K D classes tys s) (hP : va_P D classes ws H) (hD : va_D A ws) (hS : va_S A s.heap H locs) (isC isR isN : List Nat) (hC : isC.map (fun i => ws[i]?) = wc.map some) (hCn : va_nd isC = true) (hRr : isR.map (fun i => ws[i]?) = (isR.filterMap (fun i => ws[i]?)).map some) (hn : va_nd isR = true) (hdis : isR.all (fun i => !isC.contains i) = true) (hNn : va_nd isN = true) (hN : isN.map (fun i => (isR.filterMap (fun i => ws[i]?) ++ wc')[i]?) = ws'.map some)
    (hrec : wc[0]? = some (b, .inr (ci, fs))) (hcl : classes[ci]? = some q) (hq : q.1 = y.cls) (hsize : ls.size = nL) (hst : st = As.reverse ++ .ref b :: rest) (hW : (rest.map fun v => v.category).sum ≤ 8) (hcs : cells ≤ R.cells ∧ slots ≤ R.slots) (hdg : decode cc pc = .ok (.invokevirtual index, 3))
    (kk : ∀ (H1 : Heap) (locs1 : List Loc), va_P D classes ws' H1 → va_D A ws' → va_S A s.heap H1 locs1 → W p l e R s m args below meth c H1 locs1 cells slots Q (F0 m (pc + 3) ls (.int r :: rest))) : W p l e R s m args below meth c H locs cells slots Q (F0 m pc ls st) := by
  have hF := va_free hD hS hA isC hC
  have hpay := tb_pay hT
  have hcb := hT _ hcode
  have hws : ∀ w ∈ (Cond.code y bytes maxL (some ret) :: gw_tbl), ∀ (a' : Array Value) (U : State), s.WarmedH U.vm → w.before a' U = true := by
    intro w hw
    rcases List.mem_cons.mp hw with rfl | hw
    · exact hpay _ hcode
    · exact hpay w hw
  have hlen : ∀ sig, parseMethodDescriptor y.desc = some sig → As.length = sig.parameters.length := fun sig h => by
    have h2 := hd.2.2
    rw [h] at h2
    exact (Option.some.inj h2).symm
  have hPc : va_P D classes wc H := x_sub hP isC hC
  have hrv := va_recv hK hPc hcl hrec
  rw [hq] at hrv
  subst hst
  refine va_calli (va_runV (As := As) (rest := rest) ⟨hx, hb, hml, hown, hT⟩ (hM H.size) ⟨⟨rfl, rfl, hR.1, hR.2, hws, List.mem_cons_self, hcb, hT _ hini, ⟨hd.1, hd.2.1⟩, hlen, hT _ hlink⟩, hT _ hinst, hT _ hsel⟩ ⟨x_blind hok, hrv, fun U hU hW => ⟨rfl, x_pre hok hK hP hD hS hA hE isC hC hCn U hU hW⟩⟩ rfl rfl hsize rfl (lv_room hW) hdg hcs) hS (fun q _ h => hF q h) hF (fun r1 u t H1 locs1 ht hvm hw hB hz hk hS1 => ?_)
  subst hw
  obtain ⟨hP2, hD2⟩ := x_join hP hD hS hA isC isR isN hC hRr hn hdis hNn hN ht hB hk
  exact kk H1 locs1 hP2 hD2 hS1
theorem xcSI {p : Program} {l : Launch} {e : Env} {R : Room} {s : State} {m : MethodId} {args : Array Value} {below : List Frame} {meth : Method} {c : Code} {H : Heap} {locs : List Loc} {cells slots : Nat} {Q : State → Prop} {cc : ByteArray} {nL : Nat} {A : Nat → Prop} {own : String} {pc index : Nat} {ls : Array Slot} {st rest As : List Value} {y : MethodName} {bytes : ByteArray} {maxL fr lo : Nat} {D : va_G} {tys : List (ClassId × FieldType)} {E : (Nat → Prop) → State → Heap → Prop} {ws wc wc' ws' : va_W} {ret : FieldType} {r : Int32} (hx : p.tables.exec = Jvm.exec) (hb : c.code = cc) (hml : c.maxLocals = nL) (hown : s.vm.findClass own = some m.cls) (hT : ∀ w ∈ gw_tbl, w.before args s = true) (hM : xI l y bytes maxL ret fr lo D tys E As wc r wc')
    (hlink : Cond.methodLink own index y ∈ gw_tbl) (hstat : Cond.static y ∈ gw_tbl) (hini : Cond.initialized y.cls ∈ gw_tbl) (hcode : Cond.code y bytes maxL (some ret) ∈ gw_tbl) (hd : y.cls ≠ "java/lang/invoke/MethodHandle" ∧ y.cls ≠ "java/lang/invoke/VarHandle" ∧ (parseMethodDescriptor y.desc).map (fun d => d.parameters.length) = some As.length) (hR : fr + 1 ≤ R.frames ∧ 8 + (maxL + 11) + lo ≤ R.locals)
    (hok : xOk E) (hE : E A s s.heap) (hA : ∀ q, s.heap.size ≤ q → A q) (hK : va_K D classes tys s) (hP : va_P D classes ws H) (hD : va_D A ws) (hS : va_S A s.heap H locs) (isC isR isN : List Nat) (hC : isC.map (fun i => ws[i]?) = wc.map some) (hCn : va_nd isC = true) (hRr : isR.map (fun i => ws[i]?) = (isR.filterMap (fun i => ws[i]?)).map some) (hn : va_nd isR = true) (hdis : isR.all (fun i => !isC.contains i) = true) (hNn : va_nd isN = true) (hN : isN.map (fun i => (isR.filterMap (fun i => ws[i]?) ++ wc')[i]?) = ws'.map some)
     (hsize : ls.size = nL) (hst : st = As.reverse ++ rest) (hW : (rest.map fun v => v.category).sum ≤ 8) (hcs : cells ≤ R.cells ∧ slots ≤ R.slots) (hdg : decode cc pc = .ok (.invokestatic index, 3))
    (kk : ∀ (H1 : Heap) (locs1 : List Loc), va_P D classes ws' H1 → va_D A ws' → va_S A s.heap H1 locs1 → W p l e R s m args below meth c H1 locs1 cells slots Q (F0 m (pc + 3) ls (.int r :: rest))) : W p l e R s m args below meth c H locs cells slots Q (F0 m pc ls st) := by
  have hF := va_free hD hS hA isC hC
  have hpay := tb_pay hT
  have hcb := hT _ hcode
  have hws : ∀ w ∈ (Cond.code y bytes maxL (some ret) :: gw_tbl), ∀ (a' : Array Value) (U : State), s.WarmedH U.vm → w.before a' U = true := by
    intro w hw
    rcases List.mem_cons.mp hw with rfl | hw
    · exact hpay _ hcode
    · exact hpay w hw
  have hlen : ∀ sig, parseMethodDescriptor y.desc = some sig → As.length = sig.parameters.length := fun sig h => by
    have h2 := hd.2.2
    rw [h] at h2
    exact (Option.some.inj h2).symm
  subst hst
  refine va_calli (va_runS (As := As) (rest := rest) ⟨hx, hb, hml, hown, hT⟩ (hM H.size) ⟨⟨rfl, rfl, hR.1, hR.2, hws, List.mem_cons_self, hcb, hT _ hini, ⟨hd.1, hd.2.1⟩, hlen, hT _ hlink⟩, hT _ hstat⟩ ⟨x_blind hok, fun U hU hW => ⟨rfl, x_pre hok hK hP hD hS hA hE isC hC hCn U hU hW⟩⟩ rfl rfl hsize rfl (lv_room hW) hdg hcs) hS (fun q _ h => hF q h) hF (fun r1 u t H1 locs1 ht hvm hw hB hz hk hS1 => ?_)
  subst hw
  obtain ⟨hP2, hD2⟩ := x_join hP hD hS hA isC isR isN hC hRr hn hdis hNn hN ht hB hk
  exact kk H1 locs1 hP2 hD2 hS1
theorem xcNI {p : Program} {l : Launch} {e : Env} {R : Room} {s : State} {m : MethodId} {args : Array Value} {below : List Frame} {meth : Method} {c : Code} {H : Heap} {locs : List Loc} {cells slots : Nat} {Q : State → Prop} {cc : ByteArray} {nL : Nat} {A : Nat → Prop} {own : String} {pc index : Nat} {ls : Array Slot} {st rest As : List Value} {y : MethodName} {bytes : ByteArray} {maxL fr lo : Nat} {D : va_G} {tys : List (ClassId × FieldType)} {E : (Nat → Prop) → State → Heap → Prop} {ws wc wc' ws' : va_W} {ret : FieldType} {r : Int32} {host : String} (hx : p.tables.exec = Jvm.exec) (hb : c.code = cc) (hml : c.maxLocals = nL) (hown : s.vm.findClass own = some m.cls) (hT : ∀ w ∈ gw_tbl, w.before args s = true) (hM : xI l y bytes maxL ret fr lo D tys E As wc r wc')
    (hlink : (Cond.methodLinkNest own index y host).before args s = true) (hstat : Cond.static y ∈ gw_tbl) (hini : Cond.initialized y.cls ∈ gw_tbl) (hcode : Cond.code y bytes maxL (some ret) ∈ gw_tbl) (hd : y.cls ≠ "java/lang/invoke/MethodHandle" ∧ y.cls ≠ "java/lang/invoke/VarHandle" ∧ (parseMethodDescriptor y.desc).map (fun d => d.parameters.length) = some As.length) (hR : fr + 1 ≤ R.frames ∧ 8 + (maxL + 11) + lo ≤ R.locals)
    (hok : xOk E) (hE : E A s s.heap) (hA : ∀ q, s.heap.size ≤ q → A q) (hK : va_K D classes tys s) (hP : va_P D classes ws H) (hD : va_D A ws) (hS : va_S A s.heap H locs) (isC isR isN : List Nat) (hC : isC.map (fun i => ws[i]?) = wc.map some) (hCn : va_nd isC = true) (hRr : isR.map (fun i => ws[i]?) = (isR.filterMap (fun i => ws[i]?)).map some) (hn : va_nd isR = true) (hdis : isR.all (fun i => !isC.contains i) = true) (hNn : va_nd isN = true) (hN : isN.map (fun i => (isR.filterMap (fun i => ws[i]?) ++ wc')[i]?) = ws'.map some)
     (hsize : ls.size = nL) (hst : st = As.reverse ++ rest) (hW : (rest.map fun v => v.category).sum ≤ 8) (hcs : cells ≤ R.cells ∧ slots ≤ R.slots) (hdg : decode cc pc = .ok (.invokestatic index, 3))
    (kk : ∀ (H1 : Heap) (locs1 : List Loc), va_P D classes ws' H1 → va_D A ws' → va_S A s.heap H1 locs1 → W p l e R s m args below meth c H1 locs1 cells slots Q (F0 m (pc + 3) ls (.int r :: rest))) : W p l e R s m args below meth c H locs cells slots Q (F0 m pc ls st) := by
  have hF := va_free hD hS hA isC hC
  have hpay := tb_pay hT
  have hcb := hT _ hcode
  have hws : ∀ w ∈ (Cond.code y bytes maxL (some ret) :: gw_tbl), ∀ (a' : Array Value) (U : State), s.WarmedH U.vm → w.before a' U = true := by
    intro w hw
    rcases List.mem_cons.mp hw with rfl | hw
    · exact hpay _ hcode
    · exact hpay w hw
  have hlen : ∀ sig, parseMethodDescriptor y.desc = some sig → As.length = sig.parameters.length := fun sig h => by
    have h2 := hd.2.2
    rw [h] at h2
    exact (Option.some.inj h2).symm
  subst hst
  refine va_calli (va_runSN (As := As) (rest := rest) ⟨hx, hb, hml, hown, hT⟩ (hM H.size) ⟨⟨⟨rfl, rfl, hR.1, hR.2, hws, List.mem_cons_self⟩, hcb, hT _ hini, ⟨hd.1, hd.2.1⟩, hlen, hlink⟩, hT _ hstat, trivial⟩ ⟨x_blind hok, fun U hU hW => ⟨rfl, x_pre hok hK hP hD hS hA hE isC hC hCn U hU hW⟩⟩ rfl rfl hsize rfl (lv_room hW) hdg hcs) hS (fun q _ h => hF q h) hF (fun r1 u t H1 locs1 ht hvm hw hB hz hk hS1 => ?_)
  subst hw
  obtain ⟨hP2, hD2⟩ := x_join hP hD hS hA isC isR isN hC hRr hn hdis hNn hN ht hB hk
  exact kk H1 locs1 hP2 hD2 hS1
theorem xcVL {p : Program} {l : Launch} {e : Env} {R : Room} {s : State} {m : MethodId} {args : Array Value} {below : List Frame} {meth : Method} {c : Code} {H : Heap} {locs : List Loc} {cells slots : Nat} {Q : State → Prop} {cc : ByteArray} {nL : Nat} {A : Nat → Prop} {own : String} {pc index : Nat} {ls : Array Slot} {st rest As : List Value} {y : MethodName} {bytes : ByteArray} {maxL fr lo : Nat} {D : va_G} {tys : List (ClassId × FieldType)} {E : (Nat → Prop) → State → Heap → Prop} {ws wc wc' ws' : va_W} {ret : FieldType} {r : Int64} {b : Nat} {ci : Nat} {fs : List Value} {q : vw_C} (hx : p.tables.exec = Jvm.exec) (hb : c.code = cc) (hml : c.maxLocals = nL) (hown : s.vm.findClass own = some m.cls) (hT : ∀ w ∈ gw_tbl, w.before args s = true) (hM : xL l y bytes maxL ret fr lo D tys E (.ref b :: As) wc r wc')
    (hlink : Cond.methodLink own index y ∈ gw_tbl) (hinst : Cond.instanceMethod y ∈ gw_tbl) (hsel : Cond.selects y.cls y y ∈ gw_tbl) (hini : Cond.initialized y.cls ∈ gw_tbl) (hcode : Cond.code y bytes maxL (some ret) ∈ gw_tbl) (hd : y.cls ≠ "java/lang/invoke/MethodHandle" ∧ y.cls ≠ "java/lang/invoke/VarHandle" ∧ (parseMethodDescriptor y.desc).map (fun d => d.parameters.length) = some As.length) (hR : fr + 1 ≤ R.frames ∧ 8 + (maxL + 11) + lo ≤ R.locals)
    (hok : xOk E) (hE : E A s s.heap) (hA : ∀ q, s.heap.size ≤ q → A q) (hK : va_K D classes tys s) (hP : va_P D classes ws H) (hD : va_D A ws) (hS : va_S A s.heap H locs) (isC isR isN : List Nat) (hC : isC.map (fun i => ws[i]?) = wc.map some) (hCn : va_nd isC = true) (hRr : isR.map (fun i => ws[i]?) = (isR.filterMap (fun i => ws[i]?)).map some) (hn : va_nd isR = true) (hdis : isR.all (fun i => !isC.contains i) = true) (hNn : va_nd isN = true) (hN : isN.map (fun i => (isR.filterMap (fun i => ws[i]?) ++ wc')[i]?) = ws'.map some)
    (hrec : wc[0]? = some (b, .inr (ci, fs))) (hcl : classes[ci]? = some q) (hq : q.1 = y.cls) (hsize : ls.size = nL) (hst : st = As.reverse ++ .ref b :: rest) (hW : (rest.map fun v => v.category).sum ≤ 8) (hcs : cells ≤ R.cells ∧ slots ≤ R.slots) (hdg : decode cc pc = .ok (.invokevirtual index, 3))
    (kk : ∀ (H1 : Heap) (locs1 : List Loc), va_P D classes ws' H1 → va_D A ws' → va_S A s.heap H1 locs1 → W p l e R s m args below meth c H1 locs1 cells slots Q (F0 m (pc + 3) ls (.long r :: rest))) : W p l e R s m args below meth c H locs cells slots Q (F0 m pc ls st) := by
  have hF := va_free hD hS hA isC hC
  have hpay := tb_pay hT
  have hcb := hT _ hcode
  have hws : ∀ w ∈ (Cond.code y bytes maxL (some ret) :: gw_tbl), ∀ (a' : Array Value) (U : State), s.WarmedH U.vm → w.before a' U = true := by
    intro w hw
    rcases List.mem_cons.mp hw with rfl | hw
    · exact hpay _ hcode
    · exact hpay w hw
  have hlen : ∀ sig, parseMethodDescriptor y.desc = some sig → As.length = sig.parameters.length := fun sig h => by
    have h2 := hd.2.2
    rw [h] at h2
    exact (Option.some.inj h2).symm
  have hPc : va_P D classes wc H := x_sub hP isC hC
  have hrv := va_recv hK hPc hcl hrec
  rw [hq] at hrv
  subst hst
  refine va_calll (va_runV (As := As) (rest := rest) ⟨hx, hb, hml, hown, hT⟩ (hM H.size) ⟨⟨rfl, rfl, hR.1, hR.2, hws, List.mem_cons_self, hcb, hT _ hini, ⟨hd.1, hd.2.1⟩, hlen, hT _ hlink⟩, hT _ hinst, hT _ hsel⟩ ⟨x_blind hok, hrv, fun U hU hW => ⟨rfl, x_pre hok hK hP hD hS hA hE isC hC hCn U hU hW⟩⟩ rfl rfl hsize rfl (lv_room hW) hdg hcs) hS (fun q _ h => hF q h) hF (fun r1 u t H1 locs1 ht hvm hw hB hz hk hS1 => ?_)
  subst hw
  obtain ⟨hP2, hD2⟩ := x_join hP hD hS hA isC isR isN hC hRr hn hdis hNn hN ht hB hk
  exact kk H1 locs1 hP2 hD2 hS1
theorem xcSL {p : Program} {l : Launch} {e : Env} {R : Room} {s : State} {m : MethodId} {args : Array Value} {below : List Frame} {meth : Method} {c : Code} {H : Heap} {locs : List Loc} {cells slots : Nat} {Q : State → Prop} {cc : ByteArray} {nL : Nat} {A : Nat → Prop} {own : String} {pc index : Nat} {ls : Array Slot} {st rest As : List Value} {y : MethodName} {bytes : ByteArray} {maxL fr lo : Nat} {D : va_G} {tys : List (ClassId × FieldType)} {E : (Nat → Prop) → State → Heap → Prop} {ws wc wc' ws' : va_W} {ret : FieldType} {r : Int64} (hx : p.tables.exec = Jvm.exec) (hb : c.code = cc) (hml : c.maxLocals = nL) (hown : s.vm.findClass own = some m.cls) (hT : ∀ w ∈ gw_tbl, w.before args s = true) (hM : xL l y bytes maxL ret fr lo D tys E As wc r wc')
    (hlink : Cond.methodLink own index y ∈ gw_tbl) (hstat : Cond.static y ∈ gw_tbl) (hini : Cond.initialized y.cls ∈ gw_tbl) (hcode : Cond.code y bytes maxL (some ret) ∈ gw_tbl) (hd : y.cls ≠ "java/lang/invoke/MethodHandle" ∧ y.cls ≠ "java/lang/invoke/VarHandle" ∧ (parseMethodDescriptor y.desc).map (fun d => d.parameters.length) = some As.length) (hR : fr + 1 ≤ R.frames ∧ 8 + (maxL + 11) + lo ≤ R.locals)
    (hok : xOk E) (hE : E A s s.heap) (hA : ∀ q, s.heap.size ≤ q → A q) (hK : va_K D classes tys s) (hP : va_P D classes ws H) (hD : va_D A ws) (hS : va_S A s.heap H locs) (isC isR isN : List Nat) (hC : isC.map (fun i => ws[i]?) = wc.map some) (hCn : va_nd isC = true) (hRr : isR.map (fun i => ws[i]?) = (isR.filterMap (fun i => ws[i]?)).map some) (hn : va_nd isR = true) (hdis : isR.all (fun i => !isC.contains i) = true) (hNn : va_nd isN = true) (hN : isN.map (fun i => (isR.filterMap (fun i => ws[i]?) ++ wc')[i]?) = ws'.map some)
     (hsize : ls.size = nL) (hst : st = As.reverse ++ rest) (hW : (rest.map fun v => v.category).sum ≤ 8) (hcs : cells ≤ R.cells ∧ slots ≤ R.slots) (hdg : decode cc pc = .ok (.invokestatic index, 3))
    (kk : ∀ (H1 : Heap) (locs1 : List Loc), va_P D classes ws' H1 → va_D A ws' → va_S A s.heap H1 locs1 → W p l e R s m args below meth c H1 locs1 cells slots Q (F0 m (pc + 3) ls (.long r :: rest))) : W p l e R s m args below meth c H locs cells slots Q (F0 m pc ls st) := by
  have hF := va_free hD hS hA isC hC
  have hpay := tb_pay hT
  have hcb := hT _ hcode
  have hws : ∀ w ∈ (Cond.code y bytes maxL (some ret) :: gw_tbl), ∀ (a' : Array Value) (U : State), s.WarmedH U.vm → w.before a' U = true := by
    intro w hw
    rcases List.mem_cons.mp hw with rfl | hw
    · exact hpay _ hcode
    · exact hpay w hw
  have hlen : ∀ sig, parseMethodDescriptor y.desc = some sig → As.length = sig.parameters.length := fun sig h => by
    have h2 := hd.2.2
    rw [h] at h2
    exact (Option.some.inj h2).symm
  subst hst
  refine va_calll (va_runS (As := As) (rest := rest) ⟨hx, hb, hml, hown, hT⟩ (hM H.size) ⟨⟨rfl, rfl, hR.1, hR.2, hws, List.mem_cons_self, hcb, hT _ hini, ⟨hd.1, hd.2.1⟩, hlen, hT _ hlink⟩, hT _ hstat⟩ ⟨x_blind hok, fun U hU hW => ⟨rfl, x_pre hok hK hP hD hS hA hE isC hC hCn U hU hW⟩⟩ rfl rfl hsize rfl (lv_room hW) hdg hcs) hS (fun q _ h => hF q h) hF (fun r1 u t H1 locs1 ht hvm hw hB hz hk hS1 => ?_)
  subst hw
  obtain ⟨hP2, hD2⟩ := x_join hP hD hS hA isC isR isN hC hRr hn hdis hNn hN ht hB hk
  exact kk H1 locs1 hP2 hD2 hS1
theorem xcVV {p : Program} {l : Launch} {e : Env} {R : Room} {s : State} {m : MethodId} {args : Array Value} {below : List Frame} {meth : Method} {c : Code} {H : Heap} {locs : List Loc} {cells slots : Nat} {Q : State → Prop} {cc : ByteArray} {nL : Nat} {A : Nat → Prop} {own : String} {pc index : Nat} {ls : Array Slot} {st rest As : List Value} {y : MethodName} {bytes : ByteArray} {maxL fr lo : Nat} {D : va_G} {tys : List (ClassId × FieldType)} {E : (Nat → Prop) → State → Heap → Prop} {ws wc wc' ws' : va_W} {b : Nat} {ci : Nat} {fs : List Value} {q : vw_C} (hx : p.tables.exec = Jvm.exec) (hb : c.code = cc) (hml : c.maxLocals = nL) (hown : s.vm.findClass own = some m.cls) (hT : ∀ w ∈ gw_tbl, w.before args s = true) (hM : xV l y bytes maxL fr lo D tys E (.ref b :: As) wc wc')
    (hlink : Cond.methodLink own index y ∈ gw_tbl) (hinst : Cond.instanceMethod y ∈ gw_tbl) (hsel : Cond.selects y.cls y y ∈ gw_tbl) (hini : Cond.initialized y.cls ∈ gw_tbl) (hcode : Cond.code y bytes maxL none ∈ gw_tbl) (hd : y.cls ≠ "java/lang/invoke/MethodHandle" ∧ y.cls ≠ "java/lang/invoke/VarHandle" ∧ (parseMethodDescriptor y.desc).map (fun d => d.parameters.length) = some As.length) (hR : fr + 1 ≤ R.frames ∧ 8 + (maxL + 11) + lo ≤ R.locals)
    (hok : xOk E) (hE : E A s s.heap) (hA : ∀ q, s.heap.size ≤ q → A q) (hK : va_K D classes tys s) (hP : va_P D classes ws H) (hD : va_D A ws) (hS : va_S A s.heap H locs) (isC isR isN : List Nat) (hC : isC.map (fun i => ws[i]?) = wc.map some) (hCn : va_nd isC = true) (hRr : isR.map (fun i => ws[i]?) = (isR.filterMap (fun i => ws[i]?)).map some) (hn : va_nd isR = true) (hdis : isR.all (fun i => !isC.contains i) = true) (hNn : va_nd isN = true) (hN : isN.map (fun i => (isR.filterMap (fun i => ws[i]?) ++ wc')[i]?) = ws'.map some)
    (hrec : wc[0]? = some (b, .inr (ci, fs))) (hcl : classes[ci]? = some q) (hq : q.1 = y.cls) (hsize : ls.size = nL) (hst : st = As.reverse ++ .ref b :: rest) (hW : (rest.map fun v => v.category).sum ≤ 8) (hcs : cells ≤ R.cells ∧ slots ≤ R.slots) (hdg : decode cc pc = .ok (.invokevirtual index, 3))
    (kk : ∀ (H1 : Heap) (locs1 : List Loc), va_P D classes ws' H1 → va_D A ws' → va_S A s.heap H1 locs1 → W p l e R s m args below meth c H1 locs1 cells slots Q (F0 m (pc + 3) ls rest)) : W p l e R s m args below meth c H locs cells slots Q (F0 m pc ls st) := by
  have hF := va_free hD hS hA isC hC
  have hpay := tb_pay hT
  have hcb := hT _ hcode
  have hws : ∀ w ∈ (Cond.code y bytes maxL none :: gw_tbl), ∀ (a' : Array Value) (U : State), s.WarmedH U.vm → w.before a' U = true := by
    intro w hw
    rcases List.mem_cons.mp hw with rfl | hw
    · exact hpay _ hcode
    · exact hpay w hw
  have hlen : ∀ sig, parseMethodDescriptor y.desc = some sig → As.length = sig.parameters.length := fun sig h => by
    have h2 := hd.2.2
    rw [h] at h2
    exact (Option.some.inj h2).symm
  have hPc : va_P D classes wc H := x_sub hP isC hC
  have hrv := va_recv hK hPc hcl hrec
  rw [hq] at hrv
  subst hst
  refine va_callv (va_runV (As := As) (rest := rest) ⟨hx, hb, hml, hown, hT⟩ (hM H.size) ⟨⟨rfl, rfl, hR.1, hR.2, hws, List.mem_cons_self, hcb, hT _ hini, ⟨hd.1, hd.2.1⟩, hlen, hT _ hlink⟩, hT _ hinst, hT _ hsel⟩ ⟨x_blind hok, hrv, fun U hU hW => ⟨rfl, x_pre hok hK hP hD hS hA hE isC hC hCn U hU hW⟩⟩ rfl rfl hsize rfl (lv_room hW) hdg hcs) hS (fun q _ h => hF q h) hF (fun u t H1 locs1 ht hvm hw hB hz hk hS1 => ?_)
  obtain ⟨hP2, hD2⟩ := x_join hP hD hS hA isC isR isN hC hRr hn hdis hNn hN ht hB hk
  exact kk H1 locs1 hP2 hD2 hS1
theorem xcTI {p : Program} {l : Launch} {e : Env} {R : Room} {s : State} {m : MethodId} {args : Array Value} {below : List Frame} {meth : Method} {c : Code} {H : Heap} {locs : List Loc} {cells slots : Nat} {Q : State → Prop} {cc : ByteArray} {nL : Nat} {A : Nat → Prop} {own : String} {pc index : Nat} {ls : Array Slot} {st rest As : List Value} {y : MethodName} {bytes : ByteArray} {maxL fr lo : Nat} {D : va_G} {tys : List (ClassId × FieldType)} {E : (Nat → Prop) → State → Heap → Prop} {ws wc wc' ws' : va_W} {ret : FieldType} {r : Int32} {b : Nat} (hx : p.tables.exec = Jvm.exec) (hb : c.code = cc) (hml : c.maxLocals = nL) (hown : s.vm.findClass own = some m.cls) (hT : ∀ w ∈ gw_tbl, w.before args s = true) (hM : xI l y bytes maxL ret fr lo D tys E (.ref b :: As) wc r wc')
    (hlink : Cond.methodLink own index y ∈ gw_tbl) (hinst : Cond.instanceMethod y ∈ gw_tbl) (hsel : Cond.selects y.cls y y ∈ gw_tbl) (hini : Cond.initialized y.cls ∈ gw_tbl) (hcode : Cond.code y bytes maxL (some ret) ∈ gw_tbl) (hd : y.cls ≠ "java/lang/invoke/MethodHandle" ∧ y.cls ≠ "java/lang/invoke/VarHandle" ∧ (parseMethodDescriptor y.desc).map (fun d => d.parameters.length) = some As.length) (hR : fr + 1 ≤ R.frames ∧ 8 + (maxL + 11) + lo ≤ R.locals)
    (hok : xOk E) (hE : E A s s.heap) (hA : ∀ q, s.heap.size ≤ q → A q) (hK : va_K D classes tys s) (hP : va_P D classes ws H) (hD : va_D A ws) (hS : va_S A s.heap H locs) (isC isR isN : List Nat) (hC : isC.map (fun i => ws[i]?) = wc.map some) (hCn : va_nd isC = true) (hRr : isR.map (fun i => ws[i]?) = (isR.filterMap (fun i => ws[i]?)).map some) (hn : va_nd isR = true) (hdis : isR.all (fun i => !isC.contains i) = true) (hNn : va_nd isN = true) (hN : isN.map (fun i => (isR.filterMap (fun i => ws[i]?) ++ wc')[i]?) = ws'.map some)
    (hrv : ∃ cell : Cell, H[b]? = some cell ∧ cell.vm.isStatics = false ∧ s.vm.findClass y.cls = some cell.cls) (hsize : ls.size = nL) (hst : st = As.reverse ++ .ref b :: rest) (hW : (rest.map fun v => v.category).sum ≤ 8) (hcs : cells ≤ R.cells ∧ slots ≤ R.slots) (hdg : decode cc pc = .ok (.invokevirtual index, 3))
    (kk : ∀ (H1 : Heap) (locs1 : List Loc), va_P D classes ws' H1 → va_D A ws' → va_S A s.heap H1 locs1 → W p l e R s m args below meth c H1 locs1 cells slots Q (F0 m (pc + 3) ls (.int r :: rest))) : W p l e R s m args below meth c H locs cells slots Q (F0 m pc ls st) := by
  have hF := va_free hD hS hA isC hC
  have hpay := tb_pay hT
  have hcb := hT _ hcode
  have hws : ∀ w ∈ (Cond.code y bytes maxL (some ret) :: gw_tbl), ∀ (a' : Array Value) (U : State), s.WarmedH U.vm → w.before a' U = true := by
    intro w hw
    rcases List.mem_cons.mp hw with rfl | hw
    · exact hpay _ hcode
    · exact hpay w hw
  have hlen : ∀ sig, parseMethodDescriptor y.desc = some sig → As.length = sig.parameters.length := fun sig h => by
    have h2 := hd.2.2
    rw [h] at h2
    exact (Option.some.inj h2).symm
  subst hst
  refine va_calli (va_runV (As := As) (rest := rest) ⟨hx, hb, hml, hown, hT⟩ (hM H.size) ⟨⟨rfl, rfl, hR.1, hR.2, hws, List.mem_cons_self, hcb, hT _ hini, ⟨hd.1, hd.2.1⟩, hlen, hT _ hlink⟩, hT _ hinst, hT _ hsel⟩ ⟨x_blind hok, hrv, fun U hU hW => ⟨rfl, x_pre hok hK hP hD hS hA hE isC hC hCn U hU hW⟩⟩ rfl rfl hsize rfl (lv_room hW) hdg hcs) hS (fun q _ h => hF q h) hF (fun r1 u t H1 locs1 ht hvm hw hB hz hk hS1 => ?_)
  subst hw
  obtain ⟨hP2, hD2⟩ := x_join hP hD hS hA isC isR isN hC hRr hn hdis hNn hN ht hB hk
  exact kk H1 locs1 hP2 hD2 hS1
-- what stands beside the worlds: static tables, the text of the kinds' letters, words that only a warmed machine keeps
def xEv (tL tG tS tV : Nat) (A : Nat → Prop) (U : State) (H : Heap) : Prop :=
  va_Z "HalfToTheLeft" "LEAST_SETTING" "[I" (.ref tL) A U H ∧ va_T .int tL 3 (fun k => .int (s_LEAST_SETTING k)) A U H ∧ va_Z "HalfToTheLeft" "GREATEST_SETTING" "[I" (.ref tG) A U H ∧ va_T .int tG 3 (fun k => .int (s_GREATEST_SETTING k)) A U H ∧ va_Z "java/lang/String" "COMPACT_STRINGS" "Z" (.int 1) A U H ∧
  va_O "java/lang/String" tS A U H ∧ va_OF "java/lang/String" "coder" "B" (.int 0) tS A U H ∧ va_OF "java/lang/String" "value" "[B" (.ref tV) tS A U H ∧ va_T .byte tV 7 (fun k => .int (s_text k)) A U H ∧ vk_R "HalfToTheLeft$Letters" 46 "hbrdnps" tS U ∧
  va_Nw (Cond.methodLinkNest "HalfToTheLeft$Letters" 82 ⟨"HalfToTheLeft", "outside", "(III)I"⟩ "HalfToTheLeft") U ∧ va_Nw (Cond.fieldLinkNest "HalfToTheLeft$Letters" 75 "HalfToTheLeft" "LEAST_SETTING" "[I" "HalfToTheLeft") U ∧ va_Nw (Cond.fieldLinkNest "HalfToTheLeft$Letters" 79 "HalfToTheLeft" "GREATEST_SETTING" "[I" "HalfToTheLeft") U
theorem xEv_ok (tL tG tS tV : Nat) : xOk (xEv tL tG tS tV) := by
  refine ⟨fun A u U H h q => ?_, fun A U H H1 q hq => ?_, fun A B U H q hAB => ?_⟩
  · have hv : u.vm.Alike U.vm := by
      rcases h with h | h
      · rw [h]; exact Vm.Alike.refl _
      · exact h.alike
    obtain ⟨a1, a2, a3, a4, a5, a6, a7, a8, a9, a10, a11, a12, a13⟩ := q
    refine ⟨a1.moved hv, a2.moved hv, a3.moved hv, a4.moved hv, a5.moved hv, a6.moved hv, a7.moved hv, a8.moved hv, a9.moved hv, ?_, ?_, ?_, ?_⟩
    · rcases h with h | h
      · exact vk_R.same h.symm a10
      · exact vk_R.warm h a10
    · rcases h with h | h
      · exact va_Nw.same rfl h a11
      · exact va_Nw.warmM h a11
    · rcases h with h | h
      · exact va_Nw.same rfl h a12
      · exact va_Nw.warmF h a12
    · rcases h with h | h
      · exact va_Nw.same rfl h a13
      · exact va_Nw.warmF h a13
  · obtain ⟨a1, a2, a3, a4, a5, a6, a7, a8, a9, a10⟩ := q
    exact ⟨a1.kept hq, a2.kept hq, a3.kept hq, a4.kept hq, a5.kept hq, a6.kept hq, a7.kept hq, a8.kept hq, a9.kept hq, a10⟩
  · obtain ⟨a1, a2, a3, a4, a5, a6, a7, a8, a9, a10⟩ := q
    exact ⟨a1.narrow hAB, a2.narrow hAB, a3.narrow hAB, a4.narrow hAB, a5.narrow hAB, a6.narrow hAB, a7.narrow hAB, a8.narrow hAB, a9.narrow hAB, a10⟩
theorem x_rec {t : Nat} {A : Nat → Prop} {s : State} {H : Heap} {locs : List Loc} (hE : va_O "java/lang/String" t A s s.heap) (hS : va_S A s.heap H locs) : ∃ cell : Cell, H[t]? = some cell ∧ cell.vm.isStatics = false ∧ s.vm.findClass "java/lang/String" = some cell.cls := by
  obtain ⟨cell, h1, h2, h3, -⟩ := hE.kept hS.2.1
  exact ⟨cell, h1, h2, h3⟩
-- single instructions, in the shape that the functions have
theorem x_remE (x y : Int32) : x - x / y * y = x % y := by
  apply Int32.toInt_inj.mp
  have h : ((x % y).toInt).bmod (2 ^ 32) = (x % y).toInt := Int32.toInt_bmod _
  rw [← h, Int32.toInt_sub, Int32.toInt_mul, Int32.toInt_div, Int32.toInt_mod, Int.tmod_def]
  simp [Int.mul_comm]
theorem x_remEL (x y : Int64) : x - x / y * y = x % y := by
  apply Int64.toInt_inj.mp
  have h : ((x % y).toInt).bmod (2 ^ 64) = (x % y).toInt := Int64.toInt_bmod _
  rw [← h, Int64.toInt_sub, Int64.toInt_mul, Int64.toInt_div, Int64.toInt_mod, Int.tmod_def]
  simp [Int.mul_comm]
theorem x_cpy {n : Int32} {a b : Nat} (h : ¬ (n < 0 ∨ a < n.toNatClampNeg)) (hab : a ≤ b) : (0 : Int32).toNatClampNeg + n.toNatClampNeg ≤ b := by
  have h2 : ¬ a < n.toNatClampNeg := fun z => h (Or.inr z)
  have h3 : (0 : Int32).toNatClampNeg = 0 := by decide +kernel
  omega
theorem x_narZ {v : Int32} (h : ¬ ¬ (v = 0 ∨ v = 1)) : narrow .boolean (.int v) = .int v := by
  rcases Decidable.of_not_not h with rfl | rfl <;> rfl
theorem x_fitZ {v : Int32} (h : ¬ ¬ (v = 0 ∨ v = 1)) : fits .boolean (.int v) = true := by
  rcases Decidable.of_not_not h with rfl | rfl <;> rfl
theorem x_narC {v : Int32} (h : ¬ ¬ vp_nar .char v = v) : narrow .char (.int v) = .int v := congrArg Value.int (Decidable.of_not_not h)
section XR
variable {p : Program} {l : Launch} {e : Env} {R : Room} {s : State} {m : MethodId} {args : Array Value} {below : List Frame} {meth : Method} {c : Code} {H H0 : Heap} {locs : List Loc} {cells slots : Nat} {Q : State → Prop} {cc : ByteArray} {A : Nat → Prop} {pc : Nat} {ls : Array Slot} {rest : List Value} {D : va_G} {tys : List (ClassId × FieldType)} {ws : va_W} {a : Nat}
theorem x_idiv (hexec : p.tables.exec = Jvm.exec) (hb : c.code = cc) {x y : Int32} (hdg : decode cc pc = .ok (.idiv, 1)) (hne : ¬ y = 0) (k : W p l e R s m args below meth c H locs cells slots Q (F0 m (pc + 1) ls (.int (x / y) :: rest))) : W p l e R s m args below meth c H locs cells slots Q (F0 m pc ls (.int y :: .int x :: rest)) := lv_idiv hexec hb hdg hne k
theorem x_irem (hexec : p.tables.exec = Jvm.exec) (hb : c.code = cc) {x y : Int32} (hdg : decode cc pc = .ok (.irem, 1)) (hne : ¬ y = 0) (k : W p l e R s m args below meth c H locs cells slots Q (F0 m (pc + 1) ls (.int (x % y) :: rest))) : W p l e R s m args below meth c H locs cells slots Q (F0 m pc ls (.int y :: .int x :: rest)) := lv_irem hexec hb hdg hne (by rw [x_remE]; exact k)
theorem x_ldiv (hexec : p.tables.exec = Jvm.exec) (hb : c.code = cc) {x y : Int64} (hdg : decode cc pc = .ok (.ldiv, 1)) (hne : ¬ y = 0) (k : W p l e R s m args below meth c H locs cells slots Q (F0 m (pc + 1) ls (.long (x / y) :: rest))) : W p l e R s m args below meth c H locs cells slots Q (F0 m pc ls (.long y :: .long x :: rest)) := lv_ldiv hexec hb hdg hne k
theorem x_lrem (hexec : p.tables.exec = Jvm.exec) (hb : c.code = cc) {x y : Int64} (hdg : decode cc pc = .ok (.lrem, 1)) (hne : ¬ y = 0) (k : W p l e R s m args below meth c H locs cells slots Q (F0 m (pc + 1) ls (.long (x % y) :: rest))) : W p l e R s m args below meth c H locs cells slots Q (F0 m pc ls (.long y :: .long x :: rest)) := lv_lrem hexec hb hdg hne (by rw [x_remEL]; exact k)
theorem x_iald (hexec : p.tables.exec = Jvm.exec) (hb : c.code = cc) (hK : va_K D classes tys s) (hP : va_P D classes ws H) (q0 t0 : Nat) {cA : ClassId} {n : Nat} {f : Nat → Int32} (ha : ws[q0]? = some (a, .inl (cA, n, .inl f))) (ht : tys[t0]? = some (cA, .int)) {i : Int32} {j : Nat} (hj : i.toNatClampNeg = j) (hin : vp_in i n) (hdg : decode cc pc = .ok (.iaload, 1))
    (kk : W p l e R s m args below meth c H locs cells slots Q (F0 m (pc + 1) ls (.int (f j) :: rest))) : W p l e R s m args below meth c H locs cells slots Q (F0 m pc ls (.int i :: .ref a :: rest)) := va_iald hexec hb hK hP q0 t0 ha ht hin hdg (by rw [hj]; exact kk)
theorem x_lald (hexec : p.tables.exec = Jvm.exec) (hb : c.code = cc) (hK : va_K D classes tys s) (hP : va_P D classes ws H) (q0 t0 : Nat) {cA : ClassId} {n : Nat} {f : Nat → Int64} (ha : ws[q0]? = some (a, .inl (cA, n, .inr (.inl f)))) (ht : tys[t0]? = some (cA, .long)) {i : Int32} {j : Nat} (hj : i.toNatClampNeg = j) (hin : vp_in i n) (hdg : decode cc pc = .ok (.laload, 1))
    (kk : W p l e R s m args below meth c H locs cells slots Q (F0 m (pc + 1) ls (.long (f j) :: rest))) : W p l e R s m args below meth c H locs cells slots Q (F0 m pc ls (.int i :: .ref a :: rest)) := va_lald hexec hb hK hP q0 t0 ha ht hin hdg (by rw [hj]; exact kk)
theorem x_cald (hexec : p.tables.exec = Jvm.exec) (hb : c.code = cc) (hK : va_K D classes tys s) (hP : va_P D classes ws H) (q0 t0 : Nat) {cA : ClassId} {n : Nat} {f : Nat → Int32} (ha : ws[q0]? = some (a, .inl (cA, n, .inl f))) (ht : tys[t0]? = some (cA, .char)) {i : Int32} {j : Nat} (hj : i.toNatClampNeg = j) (hin : vp_in i n) (hdg : decode cc pc = .ok (.caload, 1))
    (kk : W p l e R s m args below meth c H locs cells slots Q (F0 m (pc + 1) ls (.int (f j) :: rest))) : W p l e R s m args below meth c H locs cells slots Q (F0 m pc ls (.int i :: .ref a :: rest)) := va_cald hexec hb hK hP q0 t0 ha ht hin hdg (by rw [hj]; exact kk)
theorem x_iast (hexec : p.tables.exec = Jvm.exec) (hb : c.code = cc) (hK : va_K D classes tys s) (hP : va_P D classes ws H) (hD : va_D A ws) (hS : va_S A H0 H locs) (q0 t0 : Nat) {cA : ClassId} {n : Nat} {f : Nat → Int32} (ha : ws[q0]? = some (a, .inl (cA, n, .inl f))) (ht : tys[t0]? = some (cA, .int)) {i : Int32} {x : Int32} {j : Nat} (hj : i.toNatClampNeg = j) (hin : vp_in i n) (hdg : decode cc pc = .ok (.iastore, 1))
    (kk : ∀ (H1 : Heap) (locs1 : List Loc), va_P D classes (ws.set q0 (a, .inl (cA, n, .inl (upd f j x)))) H1 → va_D A (ws.set q0 (a, .inl (cA, n, .inl (upd f j x)))) → va_S A H0 H1 locs1 → W p l e R s m args below meth c H1 locs1 cells slots Q (F0 m (pc + 1) ls rest)) : W p l e R s m args below meth c H locs cells slots Q (F0 m pc ls (.int x :: .int i :: .ref a :: rest)) := va_iast hexec hb hK hP hD hS q0 t0 ha ht hin hdg (by rw [hj]; exact kk)
theorem x_last (hexec : p.tables.exec = Jvm.exec) (hb : c.code = cc) (hK : va_K D classes tys s) (hP : va_P D classes ws H) (hD : va_D A ws) (hS : va_S A H0 H locs) (q0 t0 : Nat) {cA : ClassId} {n : Nat} {f : Nat → Int64} (ha : ws[q0]? = some (a, .inl (cA, n, .inr (.inl f)))) (ht : tys[t0]? = some (cA, .long)) {i : Int32} {x : Int64} {j : Nat} (hj : i.toNatClampNeg = j) (hin : vp_in i n) (hdg : decode cc pc = .ok (.lastore, 1))
    (kk : ∀ (H1 : Heap) (locs1 : List Loc), va_P D classes (ws.set q0 (a, .inl (cA, n, .inr (.inl (vp_updL f j x))))) H1 → va_D A (ws.set q0 (a, .inl (cA, n, .inr (.inl (vp_updL f j x))))) → va_S A H0 H1 locs1 → W p l e R s m args below meth c H1 locs1 cells slots Q (F0 m (pc + 1) ls rest)) : W p l e R s m args below meth c H locs cells slots Q (F0 m pc ls (.long x :: .int i :: .ref a :: rest)) := va_last hexec hb hK hP hD hS q0 t0 ha ht hin hdg (by rw [hj]; exact kk)
theorem x_cast (hexec : p.tables.exec = Jvm.exec) (hb : c.code = cc) (hK : va_K D classes tys s) (hP : va_P D classes ws H) (hD : va_D A ws) (hS : va_S A H0 H locs) (q0 t0 : Nat) {cA : ClassId} {n : Nat} {f : Nat → Int32} (ha : ws[q0]? = some (a, .inl (cA, n, .inl f))) (ht : tys[t0]? = some (cA, .char)) {i : Int32} {x : Int32} {j : Nat} (hj : i.toNatClampNeg = j) (hin : vp_in i n) (hdg : decode cc pc = .ok (.castore, 1))
    (kk : ∀ (H1 : Heap) (locs1 : List Loc), va_P D classes (ws.set q0 (a, .inl (cA, n, .inl (upd f j (vp_nar .char x))))) H1 → va_D A (ws.set q0 (a, .inl (cA, n, .inl (upd f j (vp_nar .char x))))) → va_S A H0 H1 locs1 → W p l e R s m args below meth c H1 locs1 cells slots Q (F0 m (pc + 1) ls rest)) : W p l e R s m args below meth c H locs cells slots Q (F0 m pc ls (.int x :: .int i :: .ref a :: rest)) := va_cast hexec hb hK hP hD hS q0 t0 ha ht hin hdg (by rw [hj]; exact kk)
theorem x_copyi (hexec : p.tables.exec = Jvm.exec) (hb : c.code = cc) (hml : c.maxLocals = ls.size) {own : String} {index : Nat} (hown : s.vm.findClass own = some m.cls) (hlink : (Cond.methodLink own index arraycopyName).before args s = true) (hnat : (Cond.native arraycopyName).before args s = true) (hstat : (Cond.static arraycopyName).before args s = true) (hini : (Cond.initialized "java/lang/System").before args s = true)
    (hK : va_K D classes tys s) (hP : va_P D classes ws H) (hD : va_D A ws) (hS : va_S A H0 H locs) (q0 q1 t0 t1 : Nat) {a0 : Nat} {c0 c1 : ClassId} {n0 n1 : Nat} {f g : Nat → Int32} {ty : FieldType} (ha0 : ws[q0]? = some (a0, .inl (c0, n0, .inl f))) (ha1 : ws[q1]? = some (a, .inl (c1, n1, .inl g))) (ht0 : tys[t0]? = some (c0, ty)) (ht1 : tys[t1]? = some (c1, ty)) (hprim : refKind ty = false)
    {sp dp n : Int32} {j : Nat} (h1 : ¬ sp < 0) (h2 : ¬ dp < 0) (h3 : ¬ n < 0) (h4 : sp.toNatClampNeg + n.toNatClampNeg ≤ n0) (h5 : dp.toNatClampNeg + n.toNatClampNeg ≤ n1) (hj : n.toNatClampNeg = j) (hfit : ∀ i, i < n.toNatClampNeg → fits ty (.int (f (sp.toNatClampNeg + i))) = true)
    (hframes : 1 ≤ R.frames) (hlocals : (rest.map fun v => v.category).sum + (nativeFrameWords "java/lang/System" "arraycopy" 5 + 11) ≤ R.locals) (hdg : decode cc pc = .ok (.invokestatic index, 3))
    (kk : ∀ (H1 : Heap) (locs1 : List Loc), va_P D classes (ws.set q1 (a, .inl (c1, n1, .inl (va_cpy f g sp.toNatClampNeg dp.toNatClampNeg j)))) H1 → va_D A (ws.set q1 (a, .inl (c1, n1, .inl (va_cpy f g sp.toNatClampNeg dp.toNatClampNeg j)))) → va_S A H0 H1 locs1 → W p l e R s m args below meth c H1 locs1 cells slots Q (F0 m (pc + 3) ls rest)) : W p l e R s m args below meth c H locs cells slots Q (F0 m pc ls (.int n :: .int dp :: .ref a :: .int sp :: .ref a0 :: rest)) := by
  subst hj
  exact va_copyi hexec hb hml hown hlink hnat hstat hini hK hP hD hS q0 q1 t0 t1 ha0 ha1 ht0 ht1 hprim h1 h2 h3 h4 h5 hfit hframes hlocals hdg kk
theorem x_copyl (hexec : p.tables.exec = Jvm.exec) (hb : c.code = cc) (hml : c.maxLocals = ls.size) {own : String} {index : Nat} (hown : s.vm.findClass own = some m.cls) (hlink : (Cond.methodLink own index arraycopyName).before args s = true) (hnat : (Cond.native arraycopyName).before args s = true) (hstat : (Cond.static arraycopyName).before args s = true) (hini : (Cond.initialized "java/lang/System").before args s = true)
    (hK : va_K D classes tys s) (hP : va_P D classes ws H) (hD : va_D A ws) (hS : va_S A H0 H locs) (q0 q1 t0 t1 : Nat) {a0 : Nat} {c0 c1 : ClassId} {n0 n1 : Nat} {f g : Nat → Int64} {ty : FieldType} (ha0 : ws[q0]? = some (a0, .inl (c0, n0, .inr (.inl f)))) (ha1 : ws[q1]? = some (a, .inl (c1, n1, .inr (.inl g)))) (ht0 : tys[t0]? = some (c0, ty)) (ht1 : tys[t1]? = some (c1, ty)) (hprim : refKind ty = false)
    {sp dp n : Int32} {j : Nat} (h1 : ¬ sp < 0) (h2 : ¬ dp < 0) (h3 : ¬ n < 0) (h4 : sp.toNatClampNeg + n.toNatClampNeg ≤ n0) (h5 : dp.toNatClampNeg + n.toNatClampNeg ≤ n1) (hj : n.toNatClampNeg = j) (hfit : ∀ i, i < n.toNatClampNeg → fits ty (.long (f (sp.toNatClampNeg + i))) = true)
    (hframes : 1 ≤ R.frames) (hlocals : (rest.map fun v => v.category).sum + (nativeFrameWords "java/lang/System" "arraycopy" 5 + 11) ≤ R.locals) (hdg : decode cc pc = .ok (.invokestatic index, 3))
    (kk : ∀ (H1 : Heap) (locs1 : List Loc), va_P D classes (ws.set q1 (a, .inl (c1, n1, .inr (.inl (va_cpy f g sp.toNatClampNeg dp.toNatClampNeg j))))) H1 → va_D A (ws.set q1 (a, .inl (c1, n1, .inr (.inl (va_cpy f g sp.toNatClampNeg dp.toNatClampNeg j))))) → va_S A H0 H1 locs1 → W p l e R s m args below meth c H1 locs1 cells slots Q (F0 m (pc + 3) ls rest)) : W p l e R s m args below meth c H locs cells slots Q (F0 m pc ls (.int n :: .int dp :: .ref a :: .int sp :: .ref a0 :: rest)) := by
  subst hj
  exact va_copyl hexec hb hml hown hlink hnat hstat hini hK hP hD hS q0 q1 t0 t1 ha0 ha1 ht0 ht1 hprim h1 h2 h3 h4 h5 hfit hframes hlocals hdg kk
end XR
