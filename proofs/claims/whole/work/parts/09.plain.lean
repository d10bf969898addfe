/-! contracts of methods that no native row stands for (plainFor): Math's too -/
theorem CT.ofAWF {Y : MI} {av : List Value} {σ : St} {F : Option Value → St → Prop} {lv : List (Nat × Value)} (hy : plainFor Y.2.1 = true) (hn : (lg_sl av).length ≤ Y.2.2.1) (hlv : lv_args 0 av = lv)
    (h : AW Y 0 0 0 lv [] σ F) : CT Y av σ F := by
  intro l D cy sz
  have code_of : ∀ (a : Array Value) (s : State) (m : MethodId), (headSpec (wsOf Y) (rmOf Y)).pre.before a s = true → s.methodNamed? Y.2.1 = some m →
      ∃ mt cd, s.vm.method? m = some mt ∧ mt.code = some cd ∧ cd.code = Y.1 ∧ cd.maxLocals = Y.2.2.1 ∧ mt.sig.returnType = Y.2.2.2.1 ∧ mt.locks = false := by
    intro a s m hb hm
    have q := Cond.code_spec hm (atoms_spec (ws := wsOf Y) hb (.code Y.2.1 Y.1 Y.2.2.1 Y.2.2.2.1) List.mem_cons_self)
    rcases q with ⟨mt, cd, q1, q2, q3, q4, q5, q6, _⟩
    exact ⟨mt, cd, q1, q2, q3, q4, q5, q6⟩
  refine MetFree.of_bodySF hy code_of ?_
  intro p e s m args below meth c s₁ B hml hv _
  obtain ⟨rfl, hsz, hP, hD0, hok, hWd⟩ := hv
  have hts := atoms_spec (ws := wsOf Y) B.pre
  have hown : s.vm.findClass Y.2.1.cls = some m.cls := findClass_of_methodNamed B.named
  subst hsz
  have hD := hD0.self (sz := s.heap.size)
  have hl := lv_entry av (n := Y.2.2.1) hn
  rw [hlv] at hl
  have walk := h l p e s m av.toArray below meth c _ D cy s.heap [] _ ⟨B.exec, B.bytes, hml, hown, hts, B.returns, B.notSynchronized, fun q hq => Or.inr hq, (name_of_methodNamed B.named B.method).1⟩ hWd ⟨hP, hD, va_S.rf, hok⟩ hl
  have start : s₁.heap = s.heap := by rw [B.state]; rfl
  rcases walk s₁ start (Stand.of_body B) with ⟨t, steps, o, run, ended, post⟩
  rw [← lg_entry_eq] at steps
  exact ⟨t, o, steps, run, ended, post⟩
theorem CE.ofGEF {α : Type} {em : α → Option Value} {Y : MI} {av : List Value} {σ : St} {E : Option (α × St)} {lv : List (Nat × Value)} (hy : plainFor Y.2.1 = true) (hn : (lg_sl av).length ≤ Y.2.2.1) (hlv : lv_args 0 av = lv) (h : GE em Y 0 0 0 lv [] σ E) : CE em Y av σ E := fun x s' he => CT.ofAWF hy hn hlv (h x s' he)
theorem CE.none {α : Type} {em : α → Option Value} {Y : MI} {av : List Value} {σ : St} : CE em Y av σ (Option.none : Option (α × St)) := fun x s' he => by cases he
/-- a switch with two cases -/
theorem GE.lsw2 {α : Type} {em : α → Option Value} {Y : MI} {k n pc : Nat} {lv : List (Nat × Value)} {rest : List Value} {σ : St} {x c1 c2 : Int32} {dflt a1 o1 a2 o2 : Int} {len t1 t2 td : Nat} {E1 E2 Ed : Option (α × St)} (hd : decode Y.1 pc = .ok (.lookupswitch dflt #[(a1, o1), (a2, o2)], len)) (hc1 : c1.toInt = a1) (hc2 : c2.toInt = a2) (hlt : decide (a1 < a2) = true) (ht1 : (pc : Int) + o1 = (t1 : Int)) (ht2 : (pc : Int) + o2 = (t2 : Int)) (htd : (pc : Int) + dflt = (td : Int)) (h1 : GE em Y k n t1 lv rest σ E1) (h2 : GE em Y k n t2 lv rest σ E2) (h3 : GE em Y k n td lv rest σ Ed) : GE em Y k n pc lv (.int x :: rest) σ (if x = c1 then E1 else if x = c2 then E2 else Ed) := by
  intro x9 s9 he9 l p e s m args below meth c A D cy H locs ls hF hW hH hl
  have hp : (((#[(a1, o1), (a2, o2)] : Array (Int × Int)).toList.zip ((#[(a1, o1), (a2, o2)] : Array (Int × Int)).toList.drop 1)).all (fun (a, next) => a.1 < next.1)) = true := by
    simpa using hlt
  by_cases e1 : x = c1
  · rw [if_pos e1] at he9
    refine lv_lookup hF.1 hF.2.1 hd hp (off := o1) ?_ ht1 (h1 x9 s9 he9 l p e s m args below meth c A D cy H locs ls hF hW hH hl)
    rw [e1, hc1]
    exact if_pos rfl
  · rw [if_neg e1] at he9
    by_cases e2 : x = c2
    · rw [if_pos e2] at he9
      refine lv_lookup hF.1 hF.2.1 hd hp (off := o2) ?_ ht2 (h2 x9 s9 he9 l p e s m args below meth c A D cy H locs ls hF hW hH hl)
      refine (lv_osw e1 hc1).trans ?_
      rw [e2, hc2]
      exact if_pos rfl
    · rw [if_neg e2] at he9
      refine lv_lookup hF.1 hF.2.1 hd hp (off := dflt) ?_ htd (h3 x9 s9 he9 l p e s m args below meth c A D cy H locs ls hF hW hH hl)
      exact (lv_osw e1 hc1).trans (lv_osw e2 hc2)
/-- System.arraycopy of ints; the first row may be one that is never written -/
def cpr (σ : St) (a0 : Nat) (sp : Int32) (a1 : Nat) (dp z : Int32) : Option St := match rd σ a0, σ.2.2 a1 with
  | some (.inl (0, n0, .inl f)), some (.inl (0, n1, .inl g)) => if 0 ≤ sp.toInt ∧ 0 ≤ dp.toInt ∧ 0 ≤ z.toInt ∧ sp.toInt + z.toInt ≤ n0 ∧ dp.toInt + z.toInt ≤ n1 then some (σ.1, σ.2.1, up σ.2.2 a1 (.inl (0, n1, .inl (va_cpy f g sp.toNatClampNeg dp.toNatClampNeg z.toNatClampNeg)))) else none
  | _, _ => none
theorem cpr_spec {σ s' : St} {a0 a1 : Nat} {sp dp z : Int32} (h : cpr σ a0 sp a1 dp z = some s') : ∃ n0 f n1 g, rd σ a0 = some (.inl (0, n0, .inl f)) ∧ σ.2.2 a1 = some (.inl (0, n1, .inl g)) ∧ (0 ≤ sp.toInt ∧ 0 ≤ dp.toInt ∧ 0 ≤ z.toInt ∧ sp.toInt + z.toInt ≤ n0 ∧ dp.toInt + z.toInt ≤ n1) ∧ s' = (σ.1, σ.2.1, up σ.2.2 a1 (.inl (0, n1, .inl (va_cpy f g sp.toNatClampNeg dp.toNatClampNeg z.toNatClampNeg)))) := by
  unfold cpr at h
  split at h
  · rename_i n0 f n1 g h1 h2
    by_cases hc : 0 ≤ sp.toInt ∧ 0 ≤ dp.toInt ∧ 0 ≤ z.toInt ∧ sp.toInt + z.toInt ≤ n0 ∧ dp.toInt + z.toInt ≤ n1
    · rw [if_pos hc] at h
      exact ⟨n0, f, n1, g, h1, h2, hc, (Option.some.inj h).symm⟩
    · rw [if_neg hc] at h; cases h
  · cases h
theorem AW.cpr {Y : MI} {k n pc : Nat} {lv : List (Nat × Value)} {rest : List Value} {σ s9 : St} {F : Option Value → St → Prop} {idx a0 a1 : Nat} {sp dp z : Int32} (hd : decode Y.1 pc = .ok (.invokestatic idx, 3)) (hL : Cond.methodLink Y.2.1.cls idx arraycopyName ∈ bigW) (hr : 1 ≤ Y.2.2.2.2.2.2) (hs : (rest.map fun v => v.category).sum ≤ 8) (h1 : cpr σ a0 sp a1 dp z = some s9) (h : AW Y k n (pc + 3) lv rest s9 F) : AW Y k n pc lv (.int z :: .int dp :: .ref a1 :: .int sp :: .ref a0 :: rest) σ F := by
  intro l p e s m args below meth c A D cy H locs ls hF hW hH hl T hT X
  obtain ⟨n0, f, n1, g, e0, e1, ⟨b1, b2, b3, b4, b5⟩, rfl⟩ := cpr_spec h1
  obtain ⟨f1, f2, f3, f4, f5, f6, f7, f8, f9⟩ := id hF
  have hw : ∀ w ∈ bigW, w.before args s = true := fun w q => f5 w (List.mem_cons_of_mem _ q)
  obtain ⟨q1, hq'⟩ := va_pl_get (X := []) (f := cF cy σ.2.2) (hH.2.2.2 a1 _ e1)
  have hq2 : (pool cy σ)[q1]? = some (a1, .inl (cy 0, n1, .inl g)) := by rw [show (pool cy σ)[q1]? = _ from hq', cF_at e1]; rfl
  have c1 := clampI b1
  have c2 := clampI b2
  have c3 := clampI b3
  have hsrc : ∃ cs : Cell, H[a0]? = some cs ∧ s.isArrayOf cs .int ∧ cs.vm ≠ .unknown ∧ n0 ≤ cs.slots.size ∧ ∀ j, j < n0 → cs.slots[j]? = some (.int (f j)) := by
    rcases rd_or e0 with e0 | e0
    · refine ⟨vp_cell (cy 0) (n0, .inl f), hH.at e0 0 _ rfl, (hW.1.2 0 _ rfl).1 n0 (fun j => .int (f j)), (fun q => by cases q), ?_, fun j hj => ?_⟩
      · show n0 ≤ (arrV (cy 0) n0 (fun j => .int (f j))).slots.size
        rw [arrV_size]; exact Nat.le_refl _
      · show (arrV (cy 0) n0 (fun j => .int (f j))).slots[j]? = _
        exact arrV_read _ _ hj
    · obtain ⟨cs, g1, g2, g3, g4, g5, g6, g7⟩ := hW.2.2.1 _ _ e0
      exact ⟨cs, by rw [hH.2.2.1.2.1 a0 (Array.getElem?_eq_some_iff.mp g1).1 g7]; exact g1, g2, g3, g4, g6⟩
  obtain ⟨cs, hc0, ⟨hs6, k0, hk0, cm0, hkk0⟩, hs3, hs4, hs5⟩ := hsrc
  have hc1 : H[a1]? = some (vp_cell (cy 0) (n1, .inl g)) := hH.1 q1 _ hq2
  have hA1 : A a1 := hH.2.1.2 q1 _ hq2
  obtain ⟨-, k1, hk1, cm1, hkk1⟩ := (hW.1.2 0 _ rfl).1 n1 (fun j => .int (g j))
  obtain ⟨vm', X', step⟩ := X.arraycopy f1 f4 (hw _ hL) (hw _ nativ) (hw _ nativS) (hw _ nativI) (src := a0) (dst := a1) (cs := cs) (cd := vp_cell (cy 0) (n1, .inl g)) (srcPos := sp) (destPos := dp) (n := z) (by rw [hT]; exact hc0) (by rw [hT]; exact hc1)
    hs6 (fun _ h => by cases h) hs3 (fun h => by cases h) hk0 hk1 hkk0 hkk1 (by simp [refKind]) (nlt0 b1) (nlt0 b2) (nlt0 b3)
    (by omega)
    (by show ¬ _ > ((arrV (cy 0) n1 (fun j => .int (g j))).slots.size : Int); rw [arrV_size]; omega)
    (fun vm₁ _ i hi => by
      have e : cs.slots.getD (sp.toNatClampNeg + i) .null = .int (f (sp.toNatClampNeg + i)) := by
        rw [Array.getD_eq_getD_getElem?, hs5 _ (by omega)]
        rfl
      rw [e]
      exact ⟨rfl, trivial⟩)
    (g := F0 m pc ls (.int z :: .int dp :: .ref a1 :: .int sp :: .ref a0 :: rest)) rfl (by rw [f3]; exact hl.1) (rest := rest) rfl (by rw [f2]; exact hd) hr (by have := nativW; show 2 * 0 + _ + _ ≤ 64 * Y.2.2.2.2.2.2; omega)
  have ec : copied cs (vp_cell (cy 0) (n1, .inl g)) sp dp z = vp_cell (cy 0) (n1, .inl (va_cpy f g sp.toNatClampNeg dp.toNatClampNeg z.toNatClampNeg)) := va_copiedX (fun y => .int y) cs (cy 0) f g hs5 (by omega)
  rw [ec] at X' step
  have hlt : a1 < H.size := (Array.getElem?_eq_some_iff.mp hc1).1
  have hheap : ((T.setVm vm').setCell a1 (vp_cell (cy 0) (n1, .inl (va_cpy f g sp.toNatClampNeg dp.toNatClampNeg z.toNatClampNeg)))).heap = H.setIfInBounds a1 (vp_cell (cy 0) (n1, .inl (va_cpy f g sp.toNatClampNeg dp.toNatClampNeg z.toNatClampNeg))) := by rw [← hT]; rfl
  have oq : ∀ q : Nat, q ≠ a1 → (H.setIfInBounds a1 (vp_cell (cy 0) (n1, .inl (va_cpy f g sp.toNatClampNeg dp.toNatClampNeg z.toNatClampNeg))))[q]? = H[q]? := fun q hq => by simp [Array.getElem?_setIfInBounds, Ne.symm hq]
  have hS1 : ∀ L : List Loc, (∀ q ∈ L, q.base = a1) → va_S A s.heap (H.setIfInBounds a1 (vp_cell (cy 0) (n1, .inl (va_cpy f g sp.toNatClampNeg dp.toNatClampNeg z.toNatClampNeg)))) (locs ++ L) := fun L hL => ⟨by simp; exact hH.2.2.1.1, fun q g1 g2 => by rw [oq q (fun e => g2 (by rw [e]; exact hA1))]; exact hH.2.2.1.2.1 q g1 g2, fun q hq => by
    rcases List.mem_append.mp hq with h | h
    · exact hH.2.2.1.2.2 q h
    · rw [hL q h]; exact hA1⟩
  obtain ⟨t2, a2, b2⟩ := h l p e s m args below meth c A D cy _ _ ls hF hW (Hd.set (e := .inl (0, n1, .inl (va_cpy f g sp.toNatClampNeg dp.toNatClampNeg z.toNatClampNeg))) e1 hH.2.2.2 hH.2.1 hq' (hH.1.set hH.2.1 hq2 (show (H.setIfInBounds a1 _)[a1]? = some _ by simp [Array.getElem?_setIfInBounds, hlt]) oq) (hH.2.1.set hq2) (hS1 _ (fun q hq => by obtain ⟨y, -, hy⟩ := List.mem_map.mp hq; rw [← hy]))) hl _ hheap X'
  exact ⟨t2, step t2 a2, b2⟩
theorem GE.cpr {α : Type} {em : α → Option Value} {Y : MI} {k n pc : Nat} {lv : List (Nat × Value)} {rest : List Value} {σ : St} {idx a0 a1 : Nat} {sp dp z : Int32} {K : St → Option (α × St)} (hd : decode Y.1 pc = .ok (.invokestatic idx, 3)) (hL : Cond.methodLink Y.2.1.cls idx arraycopyName ∈ bigW) (hr : 1 ≤ Y.2.2.2.2.2.2) (hs : (rest.map fun v => v.category).sum ≤ 8) (h : ∀ t, GE em Y k n (pc + 3) lv rest t (K t)) : GE em Y k n pc lv (.int z :: .int dp :: .ref a1 :: .int sp :: .ref a0 :: rest) σ ((cpr σ a0 sp a1 dp z).bind K) := by
  intro x9 s9 he9
  obtain ⟨t, h1, h2⟩ := bind_some he9
  exact AW.cpr hd hL hr hs h1 (h t x9 s9 h2)
