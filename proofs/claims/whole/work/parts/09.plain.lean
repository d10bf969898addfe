/-! contracts of methods that no native row stands for (plainFor): Math's too -/
theorem ofWF {l : Launch} {y : MethodName} {ws ws' : List Cond} {rm : Room} {Pc : Array Value → State → Prop} {Qc : Array Value → State → Outcome → State → Prop} {mc ms : Nat} {free : Addr → Prop} {cc : ByteArray} {maxL : Nat} {ret : Option FieldType}
    (hy : plainFor y = true) (hw : ws = Cond.code y cc maxL ret :: ws')
    (body : ∀ p e s m args below meth c s₁, BodyLoose p l y (headSpec ws rm) cc maxL ret e s m args below meth c s₁ → c.maxLocals = maxL → Pc args s →
      W p l e (headSpec ws rm).room s m args below meth c s.heap [] 0 0 (MQ below Qc args s mc ms free) (entryFrame m args maxL)) : Met l y ws rm Pc Qc mc ms free := by
  refine MetFree.of_bodySF (code := cc) (maxLocals := maxL) (ret := ret) hy (fun args s m h hn => ?_) (fun p e s m args below meth c s₁ B hml hP _ => ?_)
  · obtain ⟨meth, c, h1, h2, h3, h4, h5, h6, -, -⟩ := Cond.code_spec hn (atoms_spec (ws := ws) h _ (by rw [hw]; exact List.mem_cons_self))
    exact ⟨meth, c, h1, h2, h3, h4, h5, h6⟩
  · obtain ⟨t, a1, o, b1, b2, b3⟩ := body p e s m args below meth c s₁ B hml hP s₁ (by rw [B.state]; rfl) (Stand.of_body B)
    exact ⟨t, o, a1, b1, b2, ⟨b3.1, b3.2⟩⟩
theorem CT.ofAWF {Y : MI} {av : List Value} {σ : St} {F : Option Value → St → Prop} {lv : List (Nat × Value)} (hy : plainFor Y.2.1 = true) (hn : (lg_sl av).length ≤ Y.2.2.1) (hlv : lv_args 0 av = lv)
    (h : AW Y 0 0 0 lv [] σ F) : CT Y av σ F := by
  intro l D cy sz
  refine ofWF (cc := Y.1) (maxL := Y.2.2.1) (ret := Y.2.2.2.1) hy rfl ?_
  intro p e s m args below meth c s₁ B hml hv
  obtain ⟨rfl, hsz, hP, hD0, hok, hWd⟩ := hv
  have hts := atoms_spec (ws := wsOf Y) B.pre
  have hown : s.vm.findClass Y.2.1.cls = some m.cls := findClass_of_methodNamed B.named
  subst hsz
  have hD := hD0.self (sz := s.heap.size)
  have hl := lv_entry av (n := Y.2.2.1) hn
  rw [hlv] at hl
  rw [lg_entry_eq]
  exact h l p e s m av.toArray below meth c _ D cy s.heap [] _ ⟨B.exec, B.bytes, hml, hown, hts, B.returns, B.notSynchronized, fun q hq => Or.inr hq, (name_of_methodNamed B.named B.method).1⟩ hWd ⟨hP, hD, va_S.rf, hok⟩ hl
theorem CE.ofGEF {α : Type} {em : α → Option Value} {Y : MI} {av : List Value} {σ : St} {E : Option (α × St)} {lv : List (Nat × Value)} (hy : plainFor Y.2.1 = true) (hn : (lg_sl av).length ≤ Y.2.2.1) (hlv : lv_args 0 av = lv) (h : GE em Y 0 0 0 lv [] σ E) : CE em Y av σ E := fun x s' he => CT.ofAWF hy hn hlv (h x s' he)
