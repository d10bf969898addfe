/-! 'throw new NoSuchElementException(text)' in a launch without stack traces: the class's own constructor calls up by entry 13 (the library's law for such a throw knows entry 7 only; its law for any entry is for launches with stack traces) -/
def nseC : String := "java/util/NoSuchElementException"
def nseU : List String := ["java/lang/RuntimeException", "java/lang/Exception"]
def nseB : ByteArray := ⟨#[0x2a, 0x2b, 0xb7, 0x00, 0x0d, 0xb1]⟩
theorem nseB_0 : decode nseB 0 = .ok (.aload_n 0, 1) := by decide +kernel
theorem nseB_1 : decode nseB 1 = .ok (.aload_n 1, 1) := by decide +kernel
theorem nseB_2 : decode nseB 2 = .ok (.invokespecial 13, 3) := by decide +kernel
theorem nseB_5 : decode nseB 5 = .ok (.return_, 1) := by decide +kernel
/-! the constructor of an exception with a text, in a launch without stack traces, word by word: what it asks of the tables, of its object's fields, of the statics of Throwable; then its walk -/
section OxCtor
variable {p : Program} {l : Launch} {e : Env} {R : Room} {s : State} {m₀ : MethodId} {args : Array Value} {below : List Frame} {meth : Method} {c : Code} {W : State} {cells slots : Nat}
variable {own cls : String} {names : List String} {ic ix : Nat} {rx : ByteArray} {cX : ClassId} {kX : Class}
/-- a word that holds, in the longer form -/
theorem ox_h {w : Cond} (h : w.before args s = true) : w.holds args s none s [] = true := h
/-- a method of Throwable that the class leaves as it is -/
theorem ox_sel {y : MethodName} {mi : MethodId} (ha : l.admits e) (hc : s.vm.findClass cls = some cX) (hy : s.methodNamed? y = some mi) (hn : y.cls ≠ "java/lang/invoke/MethodHandle" ∧ y.cls ≠ "java/lang/invoke/VarHandle")
    (hw : (Cond.selects cls y y).before args s = true) : selectMethod e.platform s.vm cX mi = .method mi := by
  rcases Cond.selects_spec (ox_h hw) with ⟨c2, r2, m2, q1, q2, q3, q4, _⟩
  have e1 : c2 = cX := Option.some.inj (q1.symm.trans hc)
  have e2 : m2 = mi := Option.some.inj (q3.symm.trans hy)
  have e3 : r2 = mi := Option.some.inj (q2.symm.trans (State.methodFound?_of_named hy hn))
  subst e1 e2 e3
  exact (Launch.admits_selectMethod ha _ _ _).trans q4
/-- a field in a new object of the class: it takes what its type takes, it holds its type's first value, its slot has a name -/
def ox_F (s : State) (cX : ClassId) (kX : Class) (f : Field) : Prop :=
  (∀ v, fits f.type v = true → Takes s (freshCell cX kX) f v) ∧ (freshCell cX kX).slots[f.slot]? = some (defaultValue f.type) ∧ ∃ d : Class × Field, Jmm.declares? s.vm f.slot (cX + 1) cX = some d ∧ d.2.name = f.name
theorem ox_of {nm ds : String} {c1 i1 : Nat} {k1 : Class} {f : Field} (hc : s.vm.findClass cls = some cX) (hk : s.vm.classes[cX]? = some kX) (ho : kX.kind = .ordinary) (hf : s.fieldFound? Bundle.tN nm ds = some (c1, k1, i1, f))
    (hw : (Cond.lays cls Bundle.tN nm ds).before args s = true) : ox_F s cX kX f :=
  have q := Cond.laysAt hc hk hf (ox_h hw)
  ⟨fun _ hv => Takes.of_laid hk ho q.1 hv, fresh_default q.1, q.2⟩
theorem ox_ne {f g : Field} (hf : ox_F s cX kX f) (hg : ox_F s cX kX g) {nf ng : String} (ef : f.name = nf) (eg : g.name = ng) (h : nf ≠ ng) : f.slot ≠ g.slot := by
  rcases hf.2.2 with ⟨d, d1, d2⟩
  rcases hg.2.2 with ⟨d', d3, d4⟩
  exact Cond.laysApart d1 d3 d2 d4 (by rw [ef, eg]; exact h)
/-- an old cell, while nothing old is written -/
theorem ox_still (X : Stand p l e R s m₀ args below meth c W [] cells slots) {q : Addr} {x : Cell} (hx : s.heap[q]? = some x) : ∃ x' : Cell, W.heap[q]? = some x' ∧ x'.vm = x.vm ∧ ∀ i : Nat, x'.slots[i]? = x.slots[i]? := by
  rcases X.same.2.2.2.2.2 q x hx with ⟨x', h1, h2, _, h4⟩
  have same_vm := congrArg Cell.vm h2
  exact ⟨x', h1, same_vm, fun i => h4 i (fun hh => nomatch hh)⟩
/-- the two statics of Throwable, as the constructor finds them -/
theorem ox_two {T : ThrowableC} {Z : Init0T} (X : Stand p l e R s m₀ args below meth c W [] cells slots) (L : T.Links e.platform s) (Y : Bundle.Ties T Z s)
    (hU : (Cond.isRef (.static Bundle.tN "UNASSIGNED_STACK" Bundle.steD)).before args s = true) (hN : (Cond.isRef (.static Bundle.tN "SUPPRESSED_SENTINEL" Bundle.listD)).before args s = true) :
    ∃ (u n : RefV) (x : Cell), T.aS < s.heap.size ∧ W.heap[T.aS]? = some x ∧ x.vm ≠ .unknown ∧ x.slots[T.fUnassigned.slot]? = some u.v ∧ x.slots[T.fSentinel.slot]? = some n.v := by
  rcases Y.statics with ⟨y, hy, hst⟩
  rcases ox_still X hy with ⟨x, hx, hv, hs⟩
  rcases Cond.staticRefV Y.unassigned L.unassignedStatic L.statics hy hst (ox_h hU) with ⟨u, hu⟩
  rcases Cond.staticRefV Y.sentinel L.sentinelStatic L.statics hy hst (ox_h hN) with ⟨n, hn⟩
  refine ⟨u, n, x, (Array.getElem?_eq_some_iff.mp hy).1, hx, fun hq => ?_, (hs _).trans hu, (hs _).trans hn⟩
  rw [← hv, hq] at hst
  cases hst
/-- the object's backtrace is still null where the constructor would fill it in -/
theorem ox_skip {T : ThrowableC} {Z : Init0T} {pl : Platform} {a : Addr} {u n : RefV} {th : ThreadId} (hpl : pl.magicAccessors = ({} : Platform).magicAccessors) (L : T.Links pl s) (Y : Bundle.Ties T Z s)
    (hc : s.vm.findClass cls = some cX) (hk : s.vm.classes[cX]? = some kX) (ho : kX.kind = .ordinary) (fC : ox_F s cX kX T.fCause) (fS : ox_F s cX kX T.fStack) (fP : ox_F s cX kX T.fSupp)
    (w1 : (Cond.fieldLink Bundle.tN 198 Bundle.tN "backtrace" "Ljava/lang/Object;").before args s = true) (w2 : (Cond.lays Bundle.tN Bundle.tN "backtrace" "Ljava/lang/Object;").before args s = true) (w3 : (Cond.lays cls Bundle.tN "backtrace" "Ljava/lang/Object;").before args s = true) :
    SkipFacts T pl s (fun t => t) u ((preparedCellV T.toThrowableT (freshCell cX kX) a u n).withEntry th) := by
  rcases Cond.ownField (t := .object "java/lang/Object") Y.found L.cls (by decide +kernel) (ox_h w1) (ox_h w2) pl hpl with ⟨ci, i, f, k1, k2, k3, k4, _, k5, k6, k7⟩
  have fB : ox_F s cX kX f := ox_of hc hk ho k7 w3
  have z : (freshCell cX kX).slots[f.slot]? = some .null := by rw [fB.2.1, k6]; rfl
  have z1 : ((freshCell cX kX).setSlot T.fCause.slot (.ref a)).slots[f.slot]? = some .null := (Array.getElem?_setIfInBounds_ne (ox_ne fC fB Y.causeName k5 (by decide))).trans z
  have z2 : (((freshCell cX kX).setSlot T.fCause.slot (.ref a)).setSlot T.fStack.slot u.v).slots[f.slot]? = some .null := (Array.getElem?_setIfInBounds_ne (ox_ne fS fB Y.stackName k5 (by decide))).trans z1
  exact ⟨⟨ci, i, f⟩, ⟨k1, k2, k3, k4⟩, (Array.getElem?_setIfInBounds_ne (ox_ne fP fB Y.suppName k5 (by decide))).trans z2, fun _ _ => rfl⟩
/-- the first two words of the chain are the class's own constructor -/
theorem ox_first : ∀ w ∈ [Cond.instanceMethod (Bundle.initS cls), Cond.code (Bundle.initS cls) rx 2 none], w ∈ Bundle.chainSAtomsX cls ix rx names := by
  intro w hw
  have q : ∀ y : String, w ∈ Bundle.passSAtoms cls y ix rx := fun y => by
    rcases List.mem_cons.mp hw with rfl | hw
    · exact List.mem_cons_self
    · exact List.mem_cons_of_mem _ (by rw [List.mem_singleton.mp hw]; exact List.mem_cons_self)
  cases names with
  | nil => exact q _
  | cons y r => exact List.mem_append_left _ (q y)
set_option maxHeartbeats 1000000 in
/-- invokespecial of the constructor, then athrow: the new object leaves the method -/
theorem ox_throw (X : Stand p l e R s m₀ args below meth c W [] cells slots) (hexec : p.tables.exec = Jvm.exec) (htr : e.platform.stackTraces = false)
    (x0 : decode rx 0 = .ok (.aload_n 0, 1)) (x1 : decode rx 1 = .ok (.aload_n 1, 1)) (x2 : decode rx 2 = .ok (.invokespecial ix, 3)) (x5 : decode rx 5 = .ok (.return_, 1))
    (hown : s.vm.findClass own = some m₀.cls) (hcls : Bundle.fit cls = true) (hnames : ∀ n ∈ names, Bundle.fit n = true) (h : ∀ w ∈ Bundle.ownAtomsX own ic cls ix rx names, w.before args s = true)
    (hc : s.vm.findClass cls = some cX) (hk : s.vm.classes[cX]? = some kX) {a b : Addr} (hcell : W.heap[a]? = some (freshCell cX kX)) (hnew : s.heap.size ≤ a)
    {g : JFrame} (hg : g.method = m₀) (hsize : g.locals.size = c.maxLocals) (hlocked : g.locked = none) (hentered : g.entered = []) {rest : List Value} (hstack : g.stack = .ref b :: .ref a :: .ref a :: rest)
    (hd : decode c.code g.pc = .ok (.invokespecial ic, 3)) (hd' : decode c.code (g.pc + 3) = .ok (.athrow, 1)) (hout : ∀ x ∈ c.exceptionTable.toList, covers x (g.pc + 3) = false)
    (r1 : names.length + 3 < R.frames) (r2 : 2 * g.monitorRoom + ((Value.ref a :: rest).map fun v => v.category).sum + (13 * (names.length + 1) + 42) ≤ R.locals) (hlocks : meth.locks = false) :
    ∃ U : State, Steps p.tables e below (W.setTop g) U ∧ U.status = .running ∧ Ended U below (.threw a) ∧ s.WarmedH U.vm ∧ s.sameButNew ({ U with vm := s.vm } : State) [] cells slots ∧
      ∃ ce : Cell, U.heap[a]? = some ce ∧ ce.vm = .none ∧ s.vm.findClass cls = some ce.cls := by
  have hpl : e.platform.magicAccessors = ({} : Platform).magicAccessors := by rw [X.admits.platform]
  -- the words, group by group
  have t1 : ∀ w ∈ Bundle.throwableAtoms, w.before args s = true := fun w q => h w (by simp [Bundle.ownAtomsX, q])
  have t2 : ∀ w ∈ Bundle.throwableSAtoms, w.before args s = true := fun w q => h w (by simp [Bundle.ownAtomsX, q])
  have t3 : ∀ w ∈ Bundle.chainSAtomsX cls ix rx names, w.before args s = true := fun w q => h w (by simp [Bundle.ownAtomsX, q])
  have t4 := fun (n d : String) (q : Cond.lays cls Bundle.tN n d ∈ Bundle.ownAtomsX own ic cls ix rx names) => h _ q
  -- Throwable, its constructors, those between
  rcases ThrowableC.of_atoms (args := args) (by rw [X.admits.platform]) (by rw [X.admits.platform]) hpl t1 with ⟨T, Z', L, _, Y⟩
  rcases Init0T.ofS_atoms (args := args) hpl L Y t2 with ⟨Z, M, hZ, hM, top⟩
  rcases Bundle.chainSX (args := args) hpl top x0 x1 x2 x5 names cls hcls hnames t3 with ⟨P, Ps, len, hP, hPs, named, up, ups⟩
  -- the object
  have ho : kX.kind = .ordinary := by
    rcases Cond.instantiable_spec (ox_h (h (.instantiable cls 6) (by simp [Bundle.ownAtomsX]))) with ⟨c1, k1, q1, q2, q3, _⟩
    have e1 : c1 = cX := Option.some.inj (q1.symm.trans hc)
    subst e1
    have e2 : k1 = kX := Option.some.inj (q2.symm.trans hk)
    subst e2
    exact q3
  have fC : ox_F s cX kX T.fCause := ox_of hc hk ho Y.cause (t4 _ _ (by simp [Bundle.ownAtomsX]))
  have fS : ox_F s cX kX T.fStack := ox_of hc hk ho Y.stack (t4 _ _ (by simp [Bundle.ownAtomsX]))
  have fP : ox_F s cX kX T.fSupp := ox_of hc hk ho Y.supp (t4 _ _ (by simp [Bundle.ownAtomsX]))
  have fM : ox_F s cX kX T.fMsg := Y.msg.elim (fun _ q => ox_of hc hk ho q (t4 _ _ (by simp [Bundle.ownAtomsX])))
  -- the statics
  rcases ox_two X L Y (h _ (by simp [Bundle.ownAtomsX])) (h _ (by simp [Bundle.ownAtomsX])) with ⟨u, n, x, old, hx, known, hu, hn⟩
  have skip : SkipFacts T e.platform s (fun t => t) u ((preparedCellV T.toThrowableT (freshCell cX kX) a u n).withEntry W.cur) :=
    ox_skip hpl L Y hc hk ho fC fS fP (h _ (by simp [Bundle.ownAtomsX])) (h _ (by simp [Bundle.ownAtomsX])) (t4 _ _ (by simp [Bundle.ownAtomsX]))
  -- the walk
  rcases Steps.initColdS (tb := p.tables) (e := e) (below := below) (s := s) (U := W) (args := args) X.here hexec X.warmed hpl hown (t := Bundle.initS cls) rfl rfl (Bundle.fit_spec hcls).2 (h (.methodLink own ic (Bundle.initS cls)) (by simp [Bundle.ownAtomsX]))
    (t3 _ (ox_first _ List.mem_cons_self)) (t3 _ (ox_first _ (List.mem_cons_of_mem _ List.mem_cons_self))) (f := g) hg (a := a) (msg := .ref b) (rest := .ref a :: rest) hstack hd with ⟨tm, _, _, _, vm₁, hn1, _, _, _, _, _, _, _, warm, enter⟩
  have etm : tm = P.m := Option.some.inj (hn1.symm.trans named)
  subst etm
  rcases (X.noted warm).ctorMessageOffV hexec (g := { g with stack := .ref a :: rest }) hg hsize T L Z hZ M hM (P :: Ps) (List.forall_mem_cons.mpr ⟨hP, hPs⟩) ⟨up, ups⟩ (u0 := u) (sen := n) (self := a) (msg := .ref b) rfl
    (cell := freshCell cX kX) (cellS := x) hcell (fun _ q => by cases q) (fun q => by cases q) rfl rfl (ox_sel X.admits hc Y.fill0 (by decide) (h _ (by simp [Bundle.ownAtomsX]))) (ox_sel X.admits hc Y.fill (by decide) (h _ (by simp [Bundle.ownAtomsX])))
    hx (Nat.ne_of_lt (Nat.lt_of_lt_of_le old hnew)) known hu hn (fC.1 _ (by rw [Y.causeType]; rfl)) (fS.1 _ (by rw [Y.stackType]; exact fits_refV_array _ u)) (fP.1 _ (by rw [Y.suppType]; exact fits_refV_object _ n)) (fM.1 _ (by rw [Y.msgType]; rfl))
    Y.objLocals skip htr [] hd (by rw [List.length_cons, len]; exact r1) (by rw [List.length_cons, len]; exact r2) with ⟨vm₂, X₂, made⟩
  rcases X₂.athrowLeaves hexec (g := { g with stack := .ref a :: rest, pc := g.pc + 3 }) hg hlocked hentered hout (a := a) (rest := rest) rfl hd' hlocks with ⟨b1, b2, b3, b4, b5⟩
  have lt : a < ((W.setVm vm₁).setVm vm₂).heap.size := (Array.getElem?_eq_some_iff.mp hcell).1
  have mine : ∀ z ∈ ([⟨a, T.fCause.slot⟩, ⟨a, T.fStack.slot⟩, ⟨a, T.fSupp.slot⟩, ⟨a, T.fStack.slot⟩, ⟨a, T.fMsg.slot⟩] : List Loc), z.base = a := by simp
  refine ⟨_, enter _ (fun acts => ?_), b2, b3, b4, b5.weaken (fun z hz hlt => ?_) (Nat.le_refl _) (Nat.le_refl _), _, heapAt_setCell_self (s := (W.setVm vm₁).setVm vm₂) (plainBareV T.toThrowableT (freshCell cX kX) a u n (.ref b)) lt, rfl, hc⟩
  · rw [doInvoke_state]
    exact made _ b1
  · rw [mine z (by simpa using hz)] at hlt
    exact absurd hlt (Nat.not_lt.mpr hnew)
end OxCtor
section NseThrow
variable {p : Program} {l : Launch} {e : Env} {R : Room} {s : State} {m : MethodId} {args : Array Value} {below : List Frame} {meth : Method} {c : Code} {H : Heap} {locs : List Loc} {cells slots : Nat} {Q : State → Prop}
variable {mc ms : Nat} {free : Addr → Prop} {A0 A1 : Nat → Prop} {H0 : Heap} {a : Array Value} {ls : Array Slot} {st0 rest : List Value}
variable {Qc : Array Value → State → Outcome → State → Prop} {XC : String → State → State → Prop}
theorem nse_throw {cc : ByteArray} {pc : Nat} (hexec : p.tables.exec = Jvm.exec) (hb : c.code = cc) (hl : l.stackTraces = false) {own cls text : String} {names : List String} {ik is ic ix mc ms sa : Nat} {rx : ByteArray} {A : Nat → Prop}
    (x0 : decode rx 0 = .ok (.aload_n 0, 1)) (x1 : decode rx 1 = .ok (.aload_n 1, 1)) (x2 : decode rx 2 = .ok (.invokespecial ix, 3)) (x5 : decode rx 5 = .ok (.return_, 1))
    (hown : s.vm.findClass own = some m.cls) (hcls : Bundle.fit cls = true) (hnames : ∀ n ∈ names, Bundle.fit n = true)
    (hk : (Cond.classLink own ik cls).before args s = true) (hini : (Cond.initialized cls).before args s = true) (hstr : vk_R own is text sa s) (hat : ∀ w ∈ (Bundle.ownAtomsX own ic cls ix rx names).filter vx_no, w.before args s = true)
    (hgood : ∀ w ∈ Cond.classLink own ik cls :: Cond.initialized cls :: (Bundle.ownAtomsX own ic cls ix rx names).filter vx_no, vx_ot w = true)
    (hU : vx_Zq Bundle.tN "UNASSIGNED_STACK" Bundle.steD A s s.heap) (hN : vx_Zq Bundle.tN "SUPPRESSED_SENTINEL" Bundle.listD A s s.heap) (hS : va_S A s.heap H locs) (hsize : ls.size = c.maxLocals)
    (d0 : decode cc pc = .ok (.new ik, 3)) (d3 : decode cc (pc + 3) = .ok (.dup, 1)) (d4 : decode cc (pc + 4) = .ok (.ldc is, 2)) (d6 : decode cc (pc + 6) = .ok (.invokespecial ic, 3)) (d9 : decode cc (pc + 9) = .ok (.athrow, 1))
    (hout : ∀ x ∈ c.exceptionTable.toList, covers x (pc + 9) = false)
    (hRframes : names.length + 3 < R.frames) (hRlocals : (rest.map fun v => v.category).sum + (13 * (names.length + 1) + 43) ≤ R.locals) (hRcells : cells + 1 ≤ R.cells) (hRslots : slots + 6 ≤ R.slots) (hlocks : meth.locks = false)
    (hx : ∀ t : State, s.vm.Alike t.vm → H.size ≤ t.heap.size → (∀ q : Nat, q < H.size → t.heap[q]? = H[q]?) → XC cls s t)
    (hf : ∀ z ∈ locs, free z.base) (hc : cells + 1 ≤ mc) (hs : slots + 6 ≤ ms) :
    W p l e R s m args below meth c H locs cells slots (vx_MQ below Qc XC args s mc ms free) (F0 m pc ls rest) := by
  intro T hT X
  have htr : e.platform.stackTraces = false := (show e.platform.stackTraces = l.stackTraces by rw [X.admits.platform]).trans hl
  have Y := vx_rebase X (R' := { frames := R.frames, locals := R.locals, cells := 1, slots := 6 }) (Nat.le_refl _) (Nat.le_refl _) hRcells hRslots
  obtain ⟨s', hA⟩ : ∃ z, z = (T.setVm s.vm).setFrames (.invoking m args :: below) := ⟨_, rfl⟩
  rw [← hA] at Y
  have hvm : s'.vm = s.vm := by rw [hA]; rfl
  have hhp : s'.heap = H := by rw [hA]; exact hT
  have hW0 : s.WarmedH s'.vm := by rw [hvm]; exact State.WarmedH.refl s
  have hat' : ∀ w ∈ (Bundle.ownAtomsX own ic cls ix rx names).filter vx_no, w.before args s' = true := fun w hw => vx_ot_at hW0 hvm.symm (hgood w (List.mem_cons_of_mem _ (List.mem_cons_of_mem _ hw))) (hat w hw)
  have hk' : (Cond.classLink own ik cls).before args s' = true := vx_ot_at hW0 hvm.symm (hgood _ List.mem_cons_self) hk
  have hini' : (Cond.initialized cls).before args s' = true := vx_ot_at hW0 hvm.symm (hgood _ (List.mem_cons_of_mem _ List.mem_cons_self)) hini
  have hU' : vx_Zq Bundle.tN "UNASSIGNED_STACK" Bundle.steD A s' s'.heap := by rw [hhp]; exact vx_Zq.moved hW0.alike (hU.kept hS.2.1)
  have hN' : vx_Zq Bundle.tN "SUPPRESSED_SENTINEL" Bundle.listD A s' s'.heap := by rw [hhp]; exact vx_Zq.moved hW0.alike (hN.kept hS.2.1)
  have h : ∀ w ∈ Bundle.ownAtomsX own ic cls ix rx names, w.before args s' = true := vx_own hat' (vx_isRefq hU'.1) (vx_isRefq hN'.1) hU'.2.word hN'.2.word
  have hown' : s'.vm.findClass own = some m.cls := by rw [hvm]; exact hown
  have hins : (Cond.instantiable cls 6).before args s' = true := h _ (by simp [Bundle.ownAtomsX])
  obtain ⟨vm₁, cX, kX, hfX, hkX, -, -, X₁, st1⟩ := Y.newCold hexec (own := own) (C := cls) (index := ik) (n := 6) hown' hk' hins hini'
    (g := F0 m pc ls rest) rfl (by rw [hb]; exact d0) (Nat.le_refl _) (Nat.le_refl _)
  generalize hT1 : (T.setVm vm₁).pushCell { cls := cX, slots := kX.instanceTypes.map defaultValue, vm := .none } = T1 at X₁ st1
  have hcat : (Value.ref T.heap.size).category = 1 := rfl
  have hcellA : T1.heap[T.heap.size]? = some (freshCell cX kX) := by rw [← hT1]; exact State.heap_pushCell_size _ _
  have d3' : decode c.code (pc + 3) = .ok (.dup, 1) := by rw [hb]; exact d3
  have d4' : decode c.code (pc + 4) = .ok (.ldc is, 2) := by rw [hb]; exact d4
  have hstr' : vk_R own is text sa s' := vk_R.warm hW0 hstr
  obtain ⟨U, hsteps, hrun, hend, hW, hsame, ce, hce, hOv, hOc⟩ := ox_throw X₁ hexec htr x0 x1 x2 x5 (own := own) (cls := cls) (names := names) (ic := ic) hown' hcls hnames h hfX hkX hcellA (by rw [hhp, hT]; exact Nat.le_refl _) (b := sa)
    (g := { method := m, pc := pc + 6, locals := ls, stack := .ref sa :: .ref T.heap.size :: .ref T.heap.size :: rest, locked := none }) rfl hsize rfl rfl (rest := rest) rfl
    (by rw [hb]; exact d6) (by rw [hb]; exact d9) hout hRframes (by simp only [List.map_cons, List.sum_cons, hcat]; omega) hlocks
  obtain ⟨f1, f2⟩ := vx_frame hsame
  rw [hhp] at f1 f2
  have hWs : s.WarmedH U.vm := State.WarmedH.trans hW0 hW
  have hcl : s.vm.findClass cls = some ce.cls := by
    have h9 := hOc
    rw [hvm] at h9
    exact h9
  have hall : s.sameButNew ({ U with vm := s.vm } : State) locs mc ms := by
    subst hA
    obtain ⟨e1, e2⟩ := hsame
    rw [State.setFrames_setFrames] at e1
    have h2 : (T.setVm s.vm).sameButNew ({ U with vm := s.vm } : State) [] (0 + 1) (0 + 6) := ⟨e1, e2⟩
    have h3 := X.same.trans h2
    rw [List.append_nil] at h3
    exact h3.mono hc hs
  refine ⟨U, ?_, .threw T.heap.size, hrun, hend, Or.inr ⟨T.heap.size, rfl, cls, ce, locs, hx U hWs.alike f1 (fun q hq => f2 q hq (fun z hz => nomatch hz)), hce, hOv, hcl, hWs, hall, hf⟩⟩
  refine st1 _ ?_
  show Steps p.tables e below (T1.setTop { method := m, pc := pc + 3, locals := ls, stack := .ref T.heap.size :: rest, locked := none }) _
  jvm_step X₁.here [X₁.here.top, hexec, d3', Value.category]
  exact X₁.ldcString hexec (own := own) (text := text) (index := is) (a := sa) hown' hstr'.1 hstr'.2
    (g := { method := m, pc := pc + 4, locals := ls, stack := .ref T.heap.size :: .ref T.heap.size :: rest, locked := none }) rfl d4' _ hsteps
end NseThrow
/-! what a throw of tower asks of the tables and of the statics -/
def nseX : String := "no such tower, or nothing such of it"
def nseT : List Cond := (Bundle.ownAtomsX RX9 167 nseC 13 nseB nseU).filter vx_no
def nseN : List Cond := nseT.filter (fun w => !goodWord w)
def nseP (w : Cond) : Bool := match w with
  | .declares _ => true
  | .castable _ _ => true
  | _ => false
theorem nse_g0 : ∀ w ∈ nseT.filter goodWord, w ∈ lw_tbl := by decide +kernel
theorem nse_g : ∀ w ∈ nseT.filter goodWord, w ∈ bigW := fun w h => List.mem_filter.mpr ⟨nse_g0 w h, (List.mem_filter.mp h).2⟩
theorem nse_n : ∀ w ∈ nseN, w ∈ lw_tbl ∧ nseP w = true := by decide +kernel
theorem nse_c : Cond.castable nseC nseC ∈ nseN := by decide +kernel
theorem nse_o : ∀ w ∈ Cond.classLink RX9 163 nseC :: Cond.initialized nseC :: nseT, vx_ot w = true := by decide +kernel
theorem nse_k : Cond.classLink RX9 163 nseC ∈ bigW ∧ Cond.initialized nseC ∈ bigW := ⟨List.mem_filter.mpr ⟨by decide +kernel, rfl⟩, List.mem_filter.mpr ⟨by decide +kernel, rfl⟩⟩
theorem nse_warm {w : Cond} (h : nseP w = true) {s U : State} (hW : s.WarmedH U.vm) (hw : va_Nw w s) : va_Nw w U := by
  cases w <;> first | exact va_Nw.warmD hW hw | exact va_Nw.warmC hW hw | (simp [nseP] at h; done)
theorem nse_tab {w : Cond} (h : nseP w = true) : w.onTables = true := by
  cases w <;> first | rfl | (simp [nseP] at h; done)
def XW (A : Nat → Prop) (sa : Nat) (U : State) : Prop := vx_Zq Bundle.tN "UNASSIGNED_STACK" Bundle.steD A U U.heap ∧ vx_Zq Bundle.tN "SUPPRESSED_SENTINEL" Bundle.listD A U U.heap ∧ vk_R RX9 165 nseX sa U ∧ ∀ w ∈ nseN, va_Nw w U
theorem XW.call {A B : Nat → Prop} {sa : Nat} {s U : State} {H : Heap} {locs : List Loc} (h : XW A sa s) (hS : va_S A s.heap H locs) (hF : ∀ q, B q → A q) (hU : U.heap = H) (hwm : s.WarmedH U.vm) : XW B sa U := by
  obtain ⟨h1, h2, h3, h4⟩ := h
  refine ⟨?_, ?_, vk_R.warm hwm h3, fun w hw => nse_warm (nse_n w hw).2 hwm (h4 w hw)⟩
  · rw [hU]; exact ((h1.kept (H1 := H) (fun a q1 q2 => hS.2.1 a q1 q2)).narrow hF).moved hwm.alike
  · rw [hU]; exact ((h2.kept (H1 := H) (fun a q1 q2 => hS.2.1 a q1 q2)).narrow hF).moved hwm.alike
theorem XW.same {A : Nat → Prop} {sa : Nat} {U : State} {g : JFrame} {mk : MethodId} {a : Array Value} (h : XW A sa U) : XW A sa (U.calling g mk a) :=
  ⟨vx_Zq.moved (u := U) (U := U.calling g mk a) (Vm.Alike.refl U.vm) h.1, vx_Zq.moved (u := U) (U := U.calling g mk a) (Vm.Alike.refl U.vm) h.2.1, vk_R.same (u := U) (U := U.calling g mk a) rfl h.2.2.1, fun w hw => va_Nw.same (nse_tab (nse_n w hw).2) (u := U) (U := U.calling g mk a) rfl (h.2.2.2 w hw)⟩
def PreX (D : va_G) (cy : Nat → Nat) (σ : St) (sz sa : Nat) (U : State) : Prop := PreC D cy σ sz U ∧ XW (va_A (pool cy σ) sz) sa U
theorem PreX.blind {D : va_G} {cy : Nat → Nat} {σ : St} {sz sa : Nat} {av : List Value} : FrameBlind (va_Pc av (PreX D cy σ sz sa)) := by
  intro a U g mk q
  have h1 := PreC.blind (D := D) (cy := cy) (σ := σ) (sz := sz) (av := av) a U g mk ⟨q.1, q.2.1⟩
  exact ⟨h1.1, h1.2, q.2.2.same⟩
def rmT : Room := { frames := 6, cells := 1, slots := 6, locals := 384 }
def QT : Array Value → State → Outcome → State → Prop := va_Qi (fun (_ : Int32) (_ : Unit) => False) (fun _ _ => True) (fun _ => False)
def XTw (D : va_G) (cy : Nat → Nat) (σ : St) (sz : Nat) : String → State → State → Prop := vx_X (fun (_ : Unit) => True) (fun E _ t => E = nseC ∧ va_P D vwCl (pool cy σ) t.heap) (va_A (pool cy σ) sz)
/-- tower throws: no such tower, or nothing such of it -/
theorem tow_x (l : Launch) (hst : l.stackTraces = false) {D : va_G} {cy : Nat → Nat} {σ : St} {sz sa x a1 : Nat} {v w b : Int32} (h1 : gR 9 8 σ x = some a1) (hO : isO 7 σ a1 = true) (h2 : fX7_hasTower σ a1 v = some (b, σ)) (h3 : b = 0 ∨ w < 0 ∨ ¬ w ≤ 5) :
    vx_Met l yX9_tower (wsOf mX9_tower) rmT (va_Pc [.ref x, .int v, .int w] (PreX D cy σ sz sa)) QT (XTw D cy σ sz) 1 6 (va_A (pool cy σ) sz) := by
  refine vx_ofW (cc := cX9_tower) (maxL := 3) (ret := some .int) (by decide +kernel) rfl ?_
  intro p e s m args below meth c s₁ B hml ht hv
  obtain ⟨rfl, ⟨hsz, hP, hD0, hok, hWd⟩, hX⟩ := hv
  have hts := atoms_spec (ws := wsOf mX9_tower) B.pre
  have hown : s.vm.findClass RX9 = some m.cls := findClass_of_methodNamed B.named
  subst hsz
  have hD := hD0.self (sz := s.heap.size)
  have hl := lv_entry [.ref x, .int v, .int w] (n := 3) (Nat.le_of_ble_eq_true rfl)
  rw [lg_entry_eq]
  have hw : ∀ w ∈ bigW, w.before _ s = true := fun w q => hts w (List.mem_cons_of_mem _ q)
  have hA : ∀ q, s.heap.size ≤ q → va_A (pool cy σ) s.heap.size q := fun q hq => Or.inr hq
  have hH : Hd D cy (va_A (pool cy σ) s.heap.size) σ s s.heap [] := ⟨hP, hD, va_S.rf, hok⟩
  have key : ∀ (H : Heap) (locs : List Loc) (ls : Array Slot), Hd D cy (va_A (pool cy σ) s.heap.size) σ s H locs → lv_has ls 3 (lv_args 0 [.ref x, .int v, .int w]) →
      W p l e (headSpec (wsOf mX9_tower) rmT).room s m [Value.ref x, .int v, .int w].toArray below meth c H locs 0 0 (vx_MQ below QT (XTw D cy σ s.heap.size) [Value.ref x, .int v, .int w].toArray s 1 6 (va_A (pool cy σ) s.heap.size)) (F0 m 20 ls []) := by
    intro H locs ls hH hl
    refine nse_throw (own := RX9) (cls := nseC) (text := nseX) (names := nseU) (ik := 163) (is := 165) (ic := 167) (ix := 13) (rx := nseB) (sa := sa) (A := va_A (pool cy σ) s.heap.size) B.exec B.bytes hst nseB_0 nseB_1 nseB_2 nseB_5 hown (by decide +kernel) (by decide +kernel)
      (hw _ nse_k.1) (hw _ nse_k.2) hX.2.2.1 ?_ nse_o hX.1 hX.2.1 hH.2.2.1 (hl.1.trans hml.symm) dX9_tower_20 dX9_tower_23 dX9_tower_24 dX9_tower_26 dX9_tower_29 (fun x hx => (ht x hx).elim) (by decide) (by decide) (by decide) (by decide) B.notSynchronized ?_ hH.2.2.1.2.2 (by decide) (by decide)
    · exact vx_hat (B := nseN) (fun w q => hw w (nse_g w q)) (fun w q => q) (fun w q => va_Nw.use (nse_tab (nse_n w q).2) (hX.2.2.2 w q))
    · intro t hal hsz hk
      refine ⟨(), trivial, ⟨rfl, hH.1.kept (fun k q hq => hk _ (hH.1 k q hq).lt)⟩, Nat.le_trans hH.2.2.1.1 hsz, fun q q1 q2 => ?_⟩
      rw [hk q (Nat.lt_of_lt_of_le q1 hH.2.2.1.1)]
      exact hH.2.2.1.2.1 q q1 q2
  refine lv_aload_n B.exec B.bytes dX9_tower_0 rfl (lv_at hl 0 rfl) ?_
  obtain ⟨fs, g1, g2⟩ := gV_spec (gR_spec h1)
  obtain ⟨C, T, N, ty, hC, hk, hwf, hT, -, -⟩ := lF_X9_55
  refine va_get (D := D) (ci := 9) (v := .ref a1) (C := C) (T := T) (N := N) B.exec B.bytes hts (fun w q => List.mem_cons_of_mem _ (hC.2.1 w q)) hown hWd.1 (hH.at (rd_obj hWd g1)) 0 rfl hC.1 8 hk (hw _ hwf) (fun x q => by rw [hT] at q; exact q) g2 dX9_tower_1 ?_
  refine lv_iload_n B.exec B.bytes dX9_tower_4 rfl (lv_at hl 1 rfl) ?_
  have hL := lV_X9_160
  have hcb := hL.1
  refine callQ (F := fun r t => r = vI b ∧ t = σ) (va_runV (C := RX7) (b := a1) (As := [.int v]) (rest := []) ⟨B.exec, B.bytes, hml, hown, hts⟩ (gX7_hasTower σ a1 v b σ h2 l D cy s.heap.size) ⟨callB_of 1 hts (goodCons hcb.2.1) rfl rfl rfl (hw _ hcb.2.2.1) (hw _ hL.2.1) hcb.2.2.2.1 ⟨by decide, by decide⟩, hw _ hL.2.2.1, hw _ hL.2.2.2.1⟩ ⟨PreC.blind, (by obtain ⟨fs, q1⟩ := isO_spec hO; obtain ⟨T, N, hcl⟩ := hL.2.2.2.2; exact va_recv hWd.1 (hH.at (rd_obj hWd q1)) hcl (q0 := 0) rfl), fun U hU hWm => ⟨rfl, hH.pre hWd hA hU hWm⟩⟩ rfl rfl hl.1 rfl (lv_room (by decide)) dX9_tower_5 ⟨by decide, by decide⟩) hH hA (fun r u H1 locs1 hr hH1 => ?_)
  obtain ⟨rfl, hu⟩ := hr
  rw [hu] at hH1
  show W p l e _ s m _ below meth c H1 locs1 0 0 _ (F0 m 8 _ [.int b])
  refine lv_if_eq (tgt := 20) B.exec B.bytes dX9_tower_8 (by decide) (fun _ => key H1 locs1 _ hH1 hl) (fun z => ?_)
  refine lv_iload_n B.exec B.bytes dX9_tower_11 rfl (lv_at hl 2 rfl) ?_
  refine lv_if_lt (tgt := 20) B.exec B.bytes dX9_tower_12 (by decide) (fun _ => key H1 locs1 _ hH1 hl) (fun z2 => ?_)
  refine lv_iload_n B.exec B.bytes dX9_tower_15 rfl (lv_at hl 2 rfl) ?_
  refine lv_iconst B.exec B.bytes dX9_tower_16 kI_5 ?_
  refine lv_icmp_le (tgt := 30) B.exec B.bytes dX9_tower_17 (by decide) (fun z3 => ?_) (fun _ => key H1 locs1 _ hH1 hl)
  rcases h3 with q | q | q
  · exact absurd q z
  · exact absurd q z2
  · exact absurd z3 q
