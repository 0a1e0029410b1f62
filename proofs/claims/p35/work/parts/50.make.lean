/-! My own rows: constructors, as contracts whose world behind is told by a predicate; arrays made; places of the script. -/
def xN (l : Launch) (y : MethodName) (b : ByteArray) (fr lo mc ms : Nat) (D : va_G) (tys : List (ClassId × FieldType)) (h : Nat) (ws : va_W) (Post : va_W → Prop) : Prop :=
  ∀ sz : Nat, Met l y (.code y b 1 none :: gw_tbl) { frames := fr, cells := mc, slots := ms, locals := lo } (va_Pc [.ref h] (xPre D tys ws sz xE0)) (va_Qv (fun w : va_W => Post w) (fun (w : va_W) t => xBack D tys w (va_A ws sz) t) (va_A ws sz)) mc ms (va_A ws sz)
theorem xN_of {l : Launch} {y : MethodName} {b : ByteArray} {fr lo mc ms : Nat} {D : va_G} {tys : List (ClassId × FieldType)} {h : Nat} {ws : va_W} {Post : va_W → Prop} (hy : plainName y.cls = true)
    (body : ∀ (p : Program) (e : Env) (s : State) (m : MethodId) (args : Array Value) (below : List Frame) (meth : Method) (c : Code) (A : Nat → Prop) (Q : State → Prop), p.tables.exec = Jvm.exec → c.code = b → c.maxLocals = 1 → s.vm.findClass y.cls = some m.cls → (∀ w ∈ gw_tbl, w.before args s = true) → meth.name = y.name → (∀ q, s.heap.size ≤ q → A q) →
      va_P D classes ws s.heap → va_D A ws → va_K D classes tys s → va_S A s.heap s.heap [] →
      (∀ (ws' : va_W) (H : Heap) (locs : List Loc) (pc : Nat) (ls : Array Slot), decode b pc = .ok (.return_, 1) → Post ws' → va_P D classes ws' H → va_D A ws' → va_S A s.heap H locs → W p l e { frames := fr, cells := mc, slots := ms, locals := lo } s m args below meth c H locs mc ms Q (F0 m pc ls [])) →
      ∀ ls : Array Slot, lv_has ls 1 [(0, .ref h)] → W p l e { frames := fr, cells := mc, slots := ms, locals := lo } s m args below meth c s.heap [] 0 0 Q (F0 m 0 ls [])) : xN l y b fr lo mc ms D tys h ws Post := by
  intro sz
  refine Met.ofW (cc := b) (maxL := 1) (ret := none) hy rfl ?_
  intro p e s m args below meth c s₁ B hml hv
  obtain ⟨rfl, hsz, hP, hK, hD0, -⟩ := hv
  have hts := atoms_spec (ws := .code y b 1 none :: gw_tbl) B.pre
  have hlocks := B.notSynchronized
  have hin : meth.name = y.name := (name_of_methodNamed B.named B.method).1
  subst hsz
  have hD := hD0.self (sz := s.heap.size)
  generalize hAe : va_A ws s.heap.size = A at hD ⊢
  have hA : ∀ q : Nat, s.heap.size ≤ q → A q := fun q h => by rw [← hAe]; exact Or.inr h
  have hl := lv_entry [.ref h] (n := 1) (Nat.le_of_ble_eq_true rfl)
  rw [lg_entry_eq]
  exact body p e s m _ below meth c A _ B.exec B.bytes hml (findClass_of_methodNamed B.named) (fun w h => hts w (List.mem_cons_of_mem _ h)) hin hA hP hD hK va_S.rf (fun ws' H locs pc ls hdg hw hP hD hS => W.vret B.exec B.bytes B.returns (fun t ht hW => ⟨⟨ws', rfl, hw, by rw [ht]; exact hP, va_K.moved hW.alike hK, hD⟩, hS.F ht⟩) hS.2.2 hdg) _ hl
theorem xcN {p : Program} {l : Launch} {e : Env} {R : Room} {s : State} {m : MethodId} {args : Array Value} {below : List Frame} {meth : Method} {c : Code} {H : Heap} {locs : List Loc} {cells slots : Nat} {Q : State → Prop} {cc : ByteArray} {nL : Nat} {A : Nat → Prop} {own : String} {pc index : Nat} {ls : Array Slot} {st rest : List Value} {y : MethodName} {bytes : ByteArray} {fr lo mc ms : Nat} {D : va_G} {tys : List (ClassId × FieldType)} {ws wc : va_W} {Post : va_W → Prop} {b : Nat} (hx : p.tables.exec = Jvm.exec) (hb : c.code = cc) (hml : c.maxLocals = nL) (hown : s.vm.findClass own = some m.cls) (hT : ∀ w ∈ gw_tbl, w.before args s = true) (hM : xN l y bytes fr lo mc ms D tys b wc Post)
    (hlink : Cond.methodLink own index y ∈ gw_tbl) (hinst : Cond.instanceMethod y ∈ gw_tbl) (hini : Cond.initialized y.cls ∈ gw_tbl) (hcode : Cond.code y bytes 1 none ∈ gw_tbl) (hy : y.name = "<init>") (hd : y.cls ≠ "java/lang/invoke/MethodHandle" ∧ y.cls ≠ "java/lang/invoke/VarHandle" ∧ (parseMethodDescriptor y.desc).map (fun d => d.parameters.length) = some 0) (hR : fr + 1 ≤ R.frames ∧ 8 + (1 + 11) + lo ≤ R.locals)
    (hA : ∀ q, s.heap.size ≤ q → A q) (hK : va_K D classes tys s) (hP : va_P D classes ws H) (hD : va_D A ws) (hS : va_S A s.heap H locs) (isC isR : List Nat) (hC : isC.map (fun i => ws[i]?) = wc.map some) (hCn : va_nd isC = true) (hRr : isR.map (fun i => ws[i]?) = (isR.filterMap (fun i => ws[i]?)).map some) (hn : va_nd isR = true) (hdis : isR.all (fun i => !isC.contains i) = true)
    (hsize : ls.size = nL) (hst : st = .ref b :: rest) (hW : (rest.map fun v => v.category).sum ≤ 8) (hcs : cells + mc ≤ R.cells ∧ slots + ms ≤ R.slots) (hdg : decode cc pc = .ok (.invokespecial index, 3))
    (kk : ∀ (wc' : va_W) (H1 : Heap) (locs1 : List Loc), Post wc' → va_P D classes (isR.filterMap (fun i => ws[i]?) ++ wc') H1 → va_D A (isR.filterMap (fun i => ws[i]?) ++ wc') → va_S A s.heap H1 locs1 → W p l e R s m args below meth c H1 locs1 (cells + mc) (slots + ms) Q (F0 m (pc + 3) ls rest)) : W p l e R s m args below meth c H locs cells slots Q (F0 m pc ls st) := by
  have hF := va_free hD hS hA isC hC
  have hpay := tb_pay hT
  have hcb := hT _ hcode
  have hws : ∀ w ∈ (Cond.code y bytes 1 none :: gw_tbl), ∀ (a' : Array Value) (U : State), s.WarmedH U.vm → w.before a' U = true := by
    intro w hw
    rcases List.mem_cons.mp hw with rfl | hw
    · exact hpay _ hcode
    · exact hpay w hw
  have hlen : ∀ sig, parseMethodDescriptor y.desc = some sig → ([] : List Value).length = sig.parameters.length := fun sig h => by
    have h2 := hd.2.2
    rw [h] at h2
    exact (Option.some.inj h2).symm
  subst hst
  refine va_callv (va_runI (As := []) (rest := rest) ⟨hx, hb, hml, hown, hT⟩ (hM H.size) ⟨⟨rfl, rfl, hR.1, hR.2, hws, List.mem_cons_self, hcb, hT _ hini, ⟨hd.1, hd.2.1⟩, hlen, hT _ hlink⟩, hy, hT _ hinst⟩ ⟨x_blind xE0_ok, fun U hU hW => ⟨rfl, x_pre xE0_ok hK hP hD hS hA trivial isC hC hCn U hU hW⟩⟩ rfl rfl hsize rfl (lv_room hW) hdg hcs) hS (fun q _ h => hF q h) hF (fun u t H1 locs1 ht hvm hw hB hz hk hS1 => ?_)
  obtain ⟨hP1, -, hD1⟩ := hB
  rw [ht] at hP1
  obtain ⟨h1, h2⟩ := va_join hP hD isC isR hC hRr hn (fun i hi => by simpa using List.all_eq_true.mp hdis i hi) hk hF hP1 hD1
  exact kk u H1 locs1 hw h1 h2 hS1
section XM
variable {p : Program} {l : Launch} {e : Env} {R : Room} {s : State} {m : MethodId} {args : Array Value} {below : List Frame} {meth : Method} {c : Code} {H H0 : Heap} {locs : List Loc} {cells slots : Nat} {Q : State → Prop} {cc : ByteArray} {A : Nat → Prop} {pc : Nat} {ls : Array Slot} {rest : List Value} {D : va_G} {cI cJ cC : ClassId} {ws : va_W}
theorem x_newi (hexec : p.tables.exec = Jvm.exec) (hb : c.code = cc) (harr : (Cond.arrayClass .int).before args s = true) (hK : va_K D classes (tyK cI cJ cC) s) (hP : va_P D classes ws H) (hD : va_D A ws) (hS : va_S A H0 H locs) (hA : ∀ q, H0.size ≤ q → A q) {n : Int32} {N : Nat} (hn : ¬ n < 0) (hN : n.toNatClampNeg = N) (hbytes : N * componentBytes .int ≤ 536870912) (hcells : cells + 1 ≤ R.cells) (hslots : slots + N ≤ R.slots) (hdg : decode cc pc = .ok (.newarray .int, 2))
    (kk : ∀ (q : Nat) (H1 : Heap), va_P D classes (ws ++ [(q, .inl (cI, (N, .inl fun _ => 0)))]) H1 → va_D A (ws ++ [(q, .inl (cI, (N, .inl fun _ => 0)))]) → va_S A H0 H1 locs → W p l e R s m args below meth c H1 locs (cells + 1) (slots + N) Q (F0 m (pc + 2) ls (.ref q :: rest))) : W p l e R s m args below meth c H locs cells slots Q (F0 m pc ls (.int n :: rest)) := by
  refine va_newa (atype := .int) (ty := .int) (a0 := (N, .inl fun _ => 0)) hexec hb harr rfl hK hP hD hS hA (fun cA => rfl) hn hN hbytes hcells hslots hdg (fun q cA H1 hK1 hP1 hD1 hS1 => ?_)
  have h1 : s.vm.findClass ("[" ++ FieldType.int.toString) = some cA := (hK1.2 3 (cA, .int) rfl).2
  have h2 : s.vm.findClass ("[" ++ FieldType.int.toString) = some cI := (hK.2 0 (cI, .int) rfl).2
  obtain rfl : cI = cA := Option.some.inj (h2.symm.trans h1)
  exact kk q H1 hP1 hD1 hS1
theorem x_newl (hexec : p.tables.exec = Jvm.exec) (hb : c.code = cc) (harr : (Cond.arrayClass .long).before args s = true) (hK : va_K D classes (tyK cI cJ cC) s) (hP : va_P D classes ws H) (hD : va_D A ws) (hS : va_S A H0 H locs) (hA : ∀ q, H0.size ≤ q → A q) {n : Int32} {N : Nat} (hn : ¬ n < 0) (hN : n.toNatClampNeg = N) (hbytes : N * componentBytes .long ≤ 536870912) (hcells : cells + 1 ≤ R.cells) (hslots : slots + N ≤ R.slots) (hdg : decode cc pc = .ok (.newarray .long, 2))
    (kk : ∀ (q : Nat) (H1 : Heap), va_P D classes (ws ++ [(q, .inl (cJ, (N, .inr (.inl fun _ => 0))))]) H1 → va_D A (ws ++ [(q, .inl (cJ, (N, .inr (.inl fun _ => 0))))]) → va_S A H0 H1 locs → W p l e R s m args below meth c H1 locs (cells + 1) (slots + N) Q (F0 m (pc + 2) ls (.ref q :: rest))) : W p l e R s m args below meth c H locs cells slots Q (F0 m pc ls (.int n :: rest)) := by
  refine va_newa (atype := .long) (ty := .long) (a0 := (N, .inr (.inl fun _ => 0))) hexec hb harr rfl hK hP hD hS hA (fun cA => rfl) hn hN hbytes hcells hslots hdg (fun q cA H1 hK1 hP1 hD1 hS1 => ?_)
  have h1 : s.vm.findClass ("[" ++ FieldType.long.toString) = some cA := (hK1.2 3 (cA, .long) rfl).2
  have h2 : s.vm.findClass ("[" ++ FieldType.long.toString) = some cJ := (hK.2 1 (cJ, .long) rfl).2
  obtain rfl : cJ = cA := Option.some.inj (h2.symm.trans h1)
  exact kk q H1 hP1 hD1 hS1
theorem x_newc (hexec : p.tables.exec = Jvm.exec) (hb : c.code = cc) (harr : (Cond.arrayClass .char).before args s = true) (hK : va_K D classes (tyK cI cJ cC) s) (hP : va_P D classes ws H) (hD : va_D A ws) (hS : va_S A H0 H locs) (hA : ∀ q, H0.size ≤ q → A q) {n : Int32} {N : Nat} (hn : ¬ n < 0) (hN : n.toNatClampNeg = N) (hbytes : N * componentBytes .char ≤ 536870912) (hcells : cells + 1 ≤ R.cells) (hslots : slots + N ≤ R.slots) (hdg : decode cc pc = .ok (.newarray .char, 2))
    (kk : ∀ (q : Nat) (H1 : Heap), va_P D classes (ws ++ [(q, .inl (cC, (N, .inl fun _ => 0)))]) H1 → va_D A (ws ++ [(q, .inl (cC, (N, .inl fun _ => 0)))]) → va_S A H0 H1 locs → W p l e R s m args below meth c H1 locs (cells + 1) (slots + N) Q (F0 m (pc + 2) ls (.ref q :: rest))) : W p l e R s m args below meth c H locs cells slots Q (F0 m pc ls (.int n :: rest)) := by
  refine va_newa (atype := .char) (ty := .char) (a0 := (N, .inl fun _ => 0)) hexec hb harr rfl hK hP hD hS hA (fun cA => rfl) hn hN hbytes hcells hslots hdg (fun q cA H1 hK1 hP1 hD1 hS1 => ?_)
  have h1 : s.vm.findClass ("[" ++ FieldType.char.toString) = some cA := (hK1.2 3 (cA, .char) rfl).2
  have h2 : s.vm.findClass ("[" ++ FieldType.char.toString) = some cC := (hK.2 2 (cC, .char) rfl).2
  obtain rfl : cC = cA := Option.some.inj (h2.symm.trans h1)
  exact kk q H1 hP1 hD1 hS1
end XM
-- places of the script
theorem lx_in1 {i L : Nat} (h : i + 4 ≤ L) (hL : L ≤ 2048) : vp_in (nI i + 1) L := by
  rw [lI 1, nI_add]
  exact vp_in_nI (by omega) (by omega)
theorem lx_in2 {i L : Nat} (h : i + 4 ≤ L) (hL : L ≤ 2048) : vp_in (nI i + 2) L := by
  rw [lI 2, nI_add]
  exact vp_in_nI (by omega) (by omega)
theorem lx_in3 {i L : Nat} (h : i + 4 ≤ L) (hL : L ≤ 2048) : vp_in (nI i + 3) L := by
  rw [lI 3, nI_add]
  exact vp_in_nI (by omega) (by omega)
theorem lx_go {i L : Nat} (hi : i ≤ L) (hL : L ≤ 2048) (h : ¬ Int32.ofNat L - 4 < nI i) : i + 4 ≤ L := by
  have h1 : (Int32.ofNat L - 4).toInt = (L : Int) - 4 := pk_sub_toInt (a := L) (b := 4) (by omega) (by omega)
  have h2 : (nI i).toInt = (i : Int) := nI_toInt (by omega)
  rw [Int32.lt_iff_toInt_lt, h1, h2] at h
  omega
theorem lx_cmp {x y : Int64} (h : x = y) : lg_cmp x y = 0 := (lg_cmp_eq x y).mpr h
-- a call out of a large world: what comes back is put where it was
def lx_put : va_W → List Nat → va_W → va_W
  | ws, [], _ => ws
  | ws, _ :: _, [] => ws
  | ws, i :: is, c :: cs => lx_put (ws.set i c) is cs
theorem lx_put_at : ∀ (is : List Nat) (ws cs : va_W) (k : Nat) (q : Nat × va_E), cs.length = is.length → (lx_put ws is cs)[k]? = some q → (∃ j : Nat, is[j]? = some k ∧ cs[j]? = some q) ∨ (k ∉ is ∧ ws[k]? = some q)
  | [], ws, cs, k, q, _, h => Or.inr ⟨List.not_mem_nil, by cases cs <;> exact h⟩
  | i :: is, ws, [], k, q, hl, _ => by simp at hl
  | i :: is, ws, c :: cs, k, q, hl, h => by
    have hl' : cs.length = is.length := by simpa using hl
    rcases lx_put_at is (ws.set i c) cs k q hl' h with ⟨j, h1, h2⟩ | ⟨h1, h2⟩
    · exact Or.inl ⟨j + 1, h1, h2⟩
    · by_cases hk : i = k
      · subst hk
        by_cases hi : i < ws.length
        · rw [List.getElem?_set_self hi] at h2
          exact Or.inl ⟨0, rfl, h2⟩
        · rw [List.getElem?_eq_none (by rw [List.length_set]; omega)] at h2
          cases h2
      · rw [List.getElem?_set_ne hk] at h2
        exact Or.inr ⟨fun z => by rcases List.mem_cons.mp z with z | z; exact hk z.symm; exact h1 z, h2⟩
theorem lx_join {ws wc wc' : va_W} {D : va_G} {H H1 : Heap} {A : Nat → Prop} (hP : va_P D classes ws H) (hD : va_D A ws) (isC : List Nat) (hC : isC.map (fun i => ws[i]?) = wc.map some) (hlen : wc'.length = isC.length) (hF : ∀ q, va_A wc H.size q → A q) (hP1 : va_P D classes wc' H1) (hD1 : va_D (va_A wc H.size) wc') (hk : ∀ q : Nat, q < H.size → ¬ va_A wc H.size q → H1[q]? = H[q]?) : va_P D classes (lx_put ws isC wc') H1 ∧ va_D A (lx_put ws isC wc') := by
  have hno : ∀ (k : Nat) (q : Nat × va_E), k ∉ isC → ws[k]? = some q → ¬ va_A wc H.size q.1 := by
    intro k q hk hq hz
    rcases hz with ⟨j, e, hj⟩ | hz
    · have h1 : (isC.map (fun i => ws[i]?))[j]? = some (some (q.1, e)) := by rw [hC, List.getElem?_map, hj]; rfl
      rw [List.getElem?_map] at h1
      cases hi : isC[j]? with
      | none => rw [hi] at h1; cases h1
      | some i =>
        rw [hi] at h1
        have h2 : ws[i]? = some (q.1, e) := Option.some.inj h1
        have h3 := hD.1 i k (q.1, e) q h2 hq rfl
        exact hk (h3 ▸ List.mem_of_getElem? hi)
    · exact absurd ((hP k q hq).lt) (Nat.not_lt.mpr hz)
  refine ⟨?_, ?_, ?_⟩
  · intro k q hq
    rcases lx_put_at isC ws wc' k q hlen hq with ⟨j, -, h2⟩ | ⟨h1, h2⟩
    · exact hP1 j q h2
    · exact (hP k q h2).kept (hk q.1 ((hP k q h2).lt) (hno k q h1 h2))
  · intro i j p q hp hq he
    rcases lx_put_at isC ws wc' i p hlen hp with ⟨a, a1, a2⟩ | ⟨a1, a2⟩ <;> rcases lx_put_at isC ws wc' j q hlen hq with ⟨b, b1, b2⟩ | ⟨b1, b2⟩
    · have := hD1.1 a b p q a2 b2 he
      subst this
      exact Option.some.inj (a1.symm.trans b1)
    · exact absurd (he ▸ hD1.2 a p a2) (hno j q b1 b2)
    · exact absurd (he.symm ▸ hD1.2 b q b2) (hno i p a1 a2)
    · exact hD.1 i j p q a2 b2 he
  · intro k q hq
    rcases lx_put_at isC ws wc' k q hlen hq with ⟨j, -, h2⟩ | ⟨-, h2⟩
    · exact hF _ (hD1.2 j q h2)
    · exact hD.2 k q h2
theorem xwVI {p : Program} {l : Launch} {e : Env} {R : Room} {s : State} {m : MethodId} {args : Array Value} {below : List Frame} {meth : Method} {c : Code} {H : Heap} {locs : List Loc} {cells slots : Nat} {Q : State → Prop} {cc : ByteArray} {nL : Nat} {A : Nat → Prop} {own : String} {pc index : Nat} {ls : Array Slot} {st rest As : List Value} {y : MethodName} {bytes : ByteArray} {maxL fr lo : Nat} {D : va_G} {tys : List (ClassId × FieldType)} {E : (Nat → Prop) → State → Heap → Prop} {ws wc wc' ws' : va_W} {ret : FieldType} {r : Int32} {b : Nat} {ci : Nat} {fs : List Value} {q : vw_C} (hx : p.tables.exec = Jvm.exec) (hb : c.code = cc) (hml : c.maxLocals = nL) (hown : s.vm.findClass own = some m.cls) (hT : ∀ w ∈ gw_tbl, w.before args s = true) (hM : xI l y bytes maxL ret fr lo D tys E (.ref b :: As) wc r wc')
    (hlink : Cond.methodLink own index y ∈ gw_tbl) (hinst : Cond.instanceMethod y ∈ gw_tbl) (hsel : Cond.selects y.cls y y ∈ gw_tbl) (hini : Cond.initialized y.cls ∈ gw_tbl) (hcode : Cond.code y bytes maxL (some ret) ∈ gw_tbl) (hd : y.cls ≠ "java/lang/invoke/MethodHandle" ∧ y.cls ≠ "java/lang/invoke/VarHandle" ∧ (parseMethodDescriptor y.desc).map (fun d => d.parameters.length) = some As.length) (hR : fr + 1 ≤ R.frames ∧ 8 + (maxL + 11) + lo ≤ R.locals)
    (hok : xOk E) (hE : E A s s.heap) (hA : ∀ q, s.heap.size ≤ q → A q) (hK : va_K D classes tys s) (hP : va_P D classes ws H) (hD : va_D A ws) (hS : va_S A s.heap H locs) (isC : List Nat) (hC : isC.map (fun i => ws[i]?) = wc.map some) (hCn : va_nd isC = true) (hlC : wc'.length = isC.length) (hN : lx_put ws isC wc' = ws')
    (hrec : wc[0]? = some (b, .inr (ci, fs))) (hcl : classes[ci]? = some q) (hq : q.1 = y.cls) (hsize : ls.size = nL) (hst : st = As.reverse ++ .ref b :: rest) (hW : (rest.map fun v => v.category).sum ≤ 8) (hcs : cells ≤ R.cells ∧ slots ≤ R.slots) (hdg : decode cc pc = .ok (.invokevirtual index, 3))
    (kk : ∀ (H1 : Heap) (locs1 : List Loc), va_P D classes ws' H1 → va_D A ws' → va_S A s.heap H1 locs1 → W p l e R s m args below meth c H1 locs1 cells slots Q (F0 m (pc + 3) ls (.int r :: rest))) : W p l e R s m args below meth c H locs cells slots Q (F0 m pc ls st) := by
  have hF := va_free hD hS hA isC hC
  have hpay := tb_pay hT
  have hcb := hT _ hcode
  have hws : ∀ w ∈ (Cond.code y bytes maxL (some ret) :: gw_tbl), ∀ (a' : Array Value) (U : State), s.WarmedH U.vm → w.before a' U = true := by
    intro w hw
    rcases List.mem_cons.mp hw with rfl | hw
    · exact hpay _ hcode
    · exact hpay w hw
  have hlen : ∀ sig, parseMethodDescriptor y.desc = some sig → As.length = sig.parameters.length := fun sig h => by
    have h2 := hd.2.2
    rw [h] at h2
    exact (Option.some.inj h2).symm
  have hPc : va_P D classes wc H := x_sub hP isC hC
  have hrv := va_recv hK hPc hcl hrec
  rw [hq] at hrv
  subst hst
  refine va_calli (va_runV (As := As) (rest := rest) ⟨hx, hb, hml, hown, hT⟩ (hM H.size) ⟨⟨rfl, rfl, hR.1, hR.2, hws, List.mem_cons_self, hcb, hT _ hini, ⟨hd.1, hd.2.1⟩, hlen, hT _ hlink⟩, hT _ hinst, hT _ hsel⟩ ⟨x_blind hok, hrv, fun U hU hW => ⟨rfl, x_pre hok hK hP hD hS hA hE isC hC hCn U hU hW⟩⟩ rfl rfl hsize rfl (lv_room hW) hdg hcs) hS (fun q _ h => hF q h) hF (fun r1 u t H1 locs1 ht hvm hw hB hz hk hS1 => ?_)
  subst hw
  obtain ⟨hP1, -, hD1⟩ := hB
  rw [ht] at hP1
  obtain ⟨hP2, hD2⟩ := lx_join hP hD isC hC hlC hF hP1 hD1 hk
  rw [hN] at hP2 hD2
  exact kk H1 locs1 hP2 hD2 hS1
theorem xwVL {p : Program} {l : Launch} {e : Env} {R : Room} {s : State} {m : MethodId} {args : Array Value} {below : List Frame} {meth : Method} {c : Code} {H : Heap} {locs : List Loc} {cells slots : Nat} {Q : State → Prop} {cc : ByteArray} {nL : Nat} {A : Nat → Prop} {own : String} {pc index : Nat} {ls : Array Slot} {st rest As : List Value} {y : MethodName} {bytes : ByteArray} {maxL fr lo : Nat} {D : va_G} {tys : List (ClassId × FieldType)} {E : (Nat → Prop) → State → Heap → Prop} {ws wc wc' ws' : va_W} {ret : FieldType} {r : Int64} {b : Nat} {ci : Nat} {fs : List Value} {q : vw_C} (hx : p.tables.exec = Jvm.exec) (hb : c.code = cc) (hml : c.maxLocals = nL) (hown : s.vm.findClass own = some m.cls) (hT : ∀ w ∈ gw_tbl, w.before args s = true) (hM : xL l y bytes maxL ret fr lo D tys E (.ref b :: As) wc r wc')
    (hlink : Cond.methodLink own index y ∈ gw_tbl) (hinst : Cond.instanceMethod y ∈ gw_tbl) (hsel : Cond.selects y.cls y y ∈ gw_tbl) (hini : Cond.initialized y.cls ∈ gw_tbl) (hcode : Cond.code y bytes maxL (some ret) ∈ gw_tbl) (hd : y.cls ≠ "java/lang/invoke/MethodHandle" ∧ y.cls ≠ "java/lang/invoke/VarHandle" ∧ (parseMethodDescriptor y.desc).map (fun d => d.parameters.length) = some As.length) (hR : fr + 1 ≤ R.frames ∧ 8 + (maxL + 11) + lo ≤ R.locals)
    (hok : xOk E) (hE : E A s s.heap) (hA : ∀ q, s.heap.size ≤ q → A q) (hK : va_K D classes tys s) (hP : va_P D classes ws H) (hD : va_D A ws) (hS : va_S A s.heap H locs) (isC : List Nat) (hC : isC.map (fun i => ws[i]?) = wc.map some) (hCn : va_nd isC = true) (hlC : wc'.length = isC.length) (hN : lx_put ws isC wc' = ws')
    (hrec : wc[0]? = some (b, .inr (ci, fs))) (hcl : classes[ci]? = some q) (hq : q.1 = y.cls) (hsize : ls.size = nL) (hst : st = As.reverse ++ .ref b :: rest) (hW : (rest.map fun v => v.category).sum ≤ 8) (hcs : cells ≤ R.cells ∧ slots ≤ R.slots) (hdg : decode cc pc = .ok (.invokevirtual index, 3))
    (kk : ∀ (H1 : Heap) (locs1 : List Loc), va_P D classes ws' H1 → va_D A ws' → va_S A s.heap H1 locs1 → W p l e R s m args below meth c H1 locs1 cells slots Q (F0 m (pc + 3) ls (.long r :: rest))) : W p l e R s m args below meth c H locs cells slots Q (F0 m pc ls st) := by
  have hF := va_free hD hS hA isC hC
  have hpay := tb_pay hT
  have hcb := hT _ hcode
  have hws : ∀ w ∈ (Cond.code y bytes maxL (some ret) :: gw_tbl), ∀ (a' : Array Value) (U : State), s.WarmedH U.vm → w.before a' U = true := by
    intro w hw
    rcases List.mem_cons.mp hw with rfl | hw
    · exact hpay _ hcode
    · exact hpay w hw
  have hlen : ∀ sig, parseMethodDescriptor y.desc = some sig → As.length = sig.parameters.length := fun sig h => by
    have h2 := hd.2.2
    rw [h] at h2
    exact (Option.some.inj h2).symm
  have hPc : va_P D classes wc H := x_sub hP isC hC
  have hrv := va_recv hK hPc hcl hrec
  rw [hq] at hrv
  subst hst
  refine va_calll (va_runV (As := As) (rest := rest) ⟨hx, hb, hml, hown, hT⟩ (hM H.size) ⟨⟨rfl, rfl, hR.1, hR.2, hws, List.mem_cons_self, hcb, hT _ hini, ⟨hd.1, hd.2.1⟩, hlen, hT _ hlink⟩, hT _ hinst, hT _ hsel⟩ ⟨x_blind hok, hrv, fun U hU hW => ⟨rfl, x_pre hok hK hP hD hS hA hE isC hC hCn U hU hW⟩⟩ rfl rfl hsize rfl (lv_room hW) hdg hcs) hS (fun q _ h => hF q h) hF (fun r1 u t H1 locs1 ht hvm hw hB hz hk hS1 => ?_)
  subst hw
  obtain ⟨hP1, -, hD1⟩ := hB
  rw [ht] at hP1
  obtain ⟨hP2, hD2⟩ := lx_join hP hD isC hC hlC hF hP1 hD1 hk
  rw [hN] at hP2 hD2
  exact kk H1 locs1 hP2 hD2 hS1
