
/-- the machine at a place does what E says: if E answers, the walk ends with that answer and that store -/
def GE {α : Type} (em : α → Option Value) (Y : MI) (k n pc : Nat) (lv : List (Nat × Value)) (st : List Value) (σ : St) (E : Option (α × St)) : Prop :=
  ∀ (x : α) (s' : St), E = some (x, s') → AW Y k n pc lv st σ (fun r t => r = em x ∧ t = s')
def CE {α : Type} (em : α → Option Value) (Y : MI) (av : List Value) (σ : St) (E : Option (α × St)) : Prop :=
  ∀ (x : α) (s' : St), E = some (x, s') → CT Y av σ (fun r t => r = em x ∧ t = s')
def vI (x : Int32) : Option Value := some (.int x)
def vL (x : Int64) : Option Value := some (.long x)
def vU (_ : Unit) : Option Value := none
def vQ (x : Option Nat) : Option Value := some (va_rf x)
theorem CE.ofGE {α : Type} {em : α → Option Value} {Y : MI} {av : List Value} {σ : St} {E : Option (α × St)} {lv : List (Nat × Value)} (hy : plainName Y.2.1.cls = true) (hn : (lg_sl av).length ≤ Y.2.2.1) (hlv : lv_args 0 av = lv) (h : GE em Y 0 0 0 lv [] σ E) : CE em Y av σ E := fun x s' he => CT.ofAW hy hn hlv (h x s' he)
theorem GE.none {α : Type} {em : α → Option Value} {Y : MI} {k n pc : Nat} {lv : List (Nat × Value)} {st : List Value} {σ : St} : GE em Y k n pc lv st σ (Option.none : Option (α × St)) := fun x s' he => by cases he
theorem GE.eq {α : Type} {em : α → Option Value} {Y : MI} {k n pc : Nat} {lv : List (Nat × Value)} {st : List Value} {σ : St} {E E2 : Option (α × St)} (e : E = E2) (h : GE em Y k n pc lv st σ E2) : GE em Y k n pc lv st σ E := e ▸ h
theorem GE.sub {α : Type} {em : α → Option Value} {Y : MI} {k n pc : Nat} {lv lv' : List (Nat × Value)} {st : List Value} {σ : St} {E : Option (α × St)} (ks : List Nat) (hl : lv_pick lv ks = lv') (h : GE em Y k n pc lv' st σ E) : GE em Y k n pc lv st σ E := by
  intro x s' he l p e s m args below meth c A D cy H locs ls hF hW hH hl9
  exact h x s' he l p e s m args below meth c A D cy H locs ls hF hW hH (lv_sub hl9 ks hl)
theorem AW.sub {Y : MI} {k n pc : Nat} {lv lv' : List (Nat × Value)} {st : List Value} {σ : St} {F : Option Value → St → Prop} (ks : List Nat) (hl : lv_pick lv ks = lv') (h : AW Y k n pc lv' st σ F) : AW Y k n pc lv st σ F := by
  intro l p e s m args below meth c A D cy H locs ls hF hW hH hl9
  exact h l p e s m args below meth c A D cy H locs ls hF hW hH (lv_sub hl9 ks hl)

theorem AW.iload_n {Y : MI} {k n pc : Nat} {lv : List (Nat × Value)} {rest : List Value} {σ : St} {F : Option Value → St → Prop} {kk : Fin 4} {i : Nat} {x : Int32} (j : Nat) (hd : decode Y.1 pc = .ok (.iload_n kk, 1)) (hi : (kk : Nat) = i) (hj : lv[j]? = some (i, .int x)) (h : AW Y k n (pc + 1) lv (.int x :: rest) σ F) : AW Y k n pc lv (rest) σ F := by
  intro l p e s m args below meth c A D cy H locs ls hF hW hH hl
  exact lv_iload_n hF.1 hF.2.1 hd hi (lv_at hl j hj) (h l p e s m args below meth c A D cy H locs ls hF hW hH hl)
theorem GE.iload_n {α : Type} {em : α → Option Value} {E : Option (α × St)} {Y : MI} {k n pc : Nat} {lv : List (Nat × Value)} {rest : List Value} {σ : St} {kk : Fin 4} {i : Nat} {x : Int32} (j : Nat) (hd : decode Y.1 pc = .ok (.iload_n kk, 1)) (hi : (kk : Nat) = i) (hj : lv[j]? = some (i, .int x)) (h : GE em Y k n (pc + 1) lv (.int x :: rest) σ E) : GE em Y k n pc lv (rest) σ E := fun x9 s9 he9 => AW.iload_n j hd hi hj (h x9 s9 he9)
theorem AW.iload {Y : MI} {k n pc : Nat} {lv : List (Nat × Value)} {rest : List Value} {σ : St} {F : Option Value → St → Prop} {i : Nat} {x : Int32} (j : Nat) (hd : decode Y.1 pc = .ok (.iload i, 2)) (hj : lv[j]? = some (i, .int x)) (h : AW Y k n (pc + 2) lv (.int x :: rest) σ F) : AW Y k n pc lv (rest) σ F := by
  intro l p e s m args below meth c A D cy H locs ls hF hW hH hl
  exact lv_iload hF.1 hF.2.1 hd (lv_at hl j hj) (h l p e s m args below meth c A D cy H locs ls hF hW hH hl)
theorem GE.iload {α : Type} {em : α → Option Value} {E : Option (α × St)} {Y : MI} {k n pc : Nat} {lv : List (Nat × Value)} {rest : List Value} {σ : St} {i : Nat} {x : Int32} (j : Nat) (hd : decode Y.1 pc = .ok (.iload i, 2)) (hj : lv[j]? = some (i, .int x)) (h : GE em Y k n (pc + 2) lv (.int x :: rest) σ E) : GE em Y k n pc lv (rest) σ E := fun x9 s9 he9 => AW.iload j hd hj (h x9 s9 he9)
theorem AW.lload_n {Y : MI} {k n pc : Nat} {lv : List (Nat × Value)} {rest : List Value} {σ : St} {F : Option Value → St → Prop} {kk : Fin 4} {i : Nat} {x : Int64} (j : Nat) (hd : decode Y.1 pc = .ok (.lload_n kk, 1)) (hi : (kk : Nat) = i) (hj : lv[j]? = some (i, .long x)) (h : AW Y k n (pc + 1) lv (.long x :: rest) σ F) : AW Y k n pc lv (rest) σ F := by
  intro l p e s m args below meth c A D cy H locs ls hF hW hH hl
  exact lv_lload_n hF.1 hF.2.1 hd hi (lv_at hl j hj) (h l p e s m args below meth c A D cy H locs ls hF hW hH hl)
theorem GE.lload_n {α : Type} {em : α → Option Value} {E : Option (α × St)} {Y : MI} {k n pc : Nat} {lv : List (Nat × Value)} {rest : List Value} {σ : St} {kk : Fin 4} {i : Nat} {x : Int64} (j : Nat) (hd : decode Y.1 pc = .ok (.lload_n kk, 1)) (hi : (kk : Nat) = i) (hj : lv[j]? = some (i, .long x)) (h : GE em Y k n (pc + 1) lv (.long x :: rest) σ E) : GE em Y k n pc lv (rest) σ E := fun x9 s9 he9 => AW.lload_n j hd hi hj (h x9 s9 he9)
theorem AW.lload {Y : MI} {k n pc : Nat} {lv : List (Nat × Value)} {rest : List Value} {σ : St} {F : Option Value → St → Prop} {i : Nat} {x : Int64} (j : Nat) (hd : decode Y.1 pc = .ok (.lload i, 2)) (hj : lv[j]? = some (i, .long x)) (h : AW Y k n (pc + 2) lv (.long x :: rest) σ F) : AW Y k n pc lv (rest) σ F := by
  intro l p e s m args below meth c A D cy H locs ls hF hW hH hl
  exact lv_lload hF.1 hF.2.1 hd (lv_at hl j hj) (h l p e s m args below meth c A D cy H locs ls hF hW hH hl)
theorem GE.lload {α : Type} {em : α → Option Value} {E : Option (α × St)} {Y : MI} {k n pc : Nat} {lv : List (Nat × Value)} {rest : List Value} {σ : St} {i : Nat} {x : Int64} (j : Nat) (hd : decode Y.1 pc = .ok (.lload i, 2)) (hj : lv[j]? = some (i, .long x)) (h : GE em Y k n (pc + 2) lv (.long x :: rest) σ E) : GE em Y k n pc lv (rest) σ E := fun x9 s9 he9 => AW.lload j hd hj (h x9 s9 he9)
theorem AW.aload_n {Y : MI} {k n pc : Nat} {lv : List (Nat × Value)} {rest : List Value} {σ : St} {F : Option Value → St → Prop} {kk : Fin 4} {i x : Nat} (j : Nat) (hd : decode Y.1 pc = .ok (.aload_n kk, 1)) (hi : (kk : Nat) = i) (hj : lv[j]? = some (i, .ref x)) (h : AW Y k n (pc + 1) lv (.ref x :: rest) σ F) : AW Y k n pc lv (rest) σ F := by
  intro l p e s m args below meth c A D cy H locs ls hF hW hH hl
  exact lv_aload_n hF.1 hF.2.1 hd hi (lv_at hl j hj) (h l p e s m args below meth c A D cy H locs ls hF hW hH hl)
theorem GE.aload_n {α : Type} {em : α → Option Value} {E : Option (α × St)} {Y : MI} {k n pc : Nat} {lv : List (Nat × Value)} {rest : List Value} {σ : St} {kk : Fin 4} {i x : Nat} (j : Nat) (hd : decode Y.1 pc = .ok (.aload_n kk, 1)) (hi : (kk : Nat) = i) (hj : lv[j]? = some (i, .ref x)) (h : GE em Y k n (pc + 1) lv (.ref x :: rest) σ E) : GE em Y k n pc lv (rest) σ E := fun x9 s9 he9 => AW.aload_n j hd hi hj (h x9 s9 he9)
theorem AW.aload {Y : MI} {k n pc : Nat} {lv : List (Nat × Value)} {rest : List Value} {σ : St} {F : Option Value → St → Prop} {i x : Nat} (j : Nat) (hd : decode Y.1 pc = .ok (.aload i, 2)) (hj : lv[j]? = some (i, .ref x)) (h : AW Y k n (pc + 2) lv (.ref x :: rest) σ F) : AW Y k n pc lv (rest) σ F := by
  intro l p e s m args below meth c A D cy H locs ls hF hW hH hl
  exact lv_aload hF.1 hF.2.1 hd (lv_at hl j hj) (h l p e s m args below meth c A D cy H locs ls hF hW hH hl)
theorem GE.aload {α : Type} {em : α → Option Value} {E : Option (α × St)} {Y : MI} {k n pc : Nat} {lv : List (Nat × Value)} {rest : List Value} {σ : St} {i x : Nat} (j : Nat) (hd : decode Y.1 pc = .ok (.aload i, 2)) (hj : lv[j]? = some (i, .ref x)) (h : GE em Y k n (pc + 2) lv (.ref x :: rest) σ E) : GE em Y k n pc lv (rest) σ E := fun x9 s9 he9 => AW.aload j hd hj (h x9 s9 he9)
theorem AW.aloadq_n {Y : MI} {k n pc : Nat} {lv : List (Nat × Value)} {rest : List Value} {σ : St} {F : Option Value → St → Prop} {kk : Fin 4} {i : Nat} {x : Option Nat} (j : Nat) (hd : decode Y.1 pc = .ok (.aload_n kk, 1)) (hi : (kk : Nat) = i) (hj : lv[j]? = some (i, va_rf x)) (h : AW Y k n (pc + 1) lv (va_rf x :: rest) σ F) : AW Y k n pc lv rest σ F := by
  cases x with
  | some q => exact AW.aload_n j hd hi hj h
  | none =>
    intro l p e s m args below meth c A D cy H locs ls hF hW hH hl
    exact lv_aload_nN hF.1 hF.2.1 hd hi (lv_at hl j hj) (h l p e s m args below meth c A D cy H locs ls hF hW hH hl)
theorem GE.aloadq_n {α : Type} {em : α → Option Value} {E : Option (α × St)} {Y : MI} {k n pc : Nat} {lv : List (Nat × Value)} {rest : List Value} {σ : St} {kk : Fin 4} {i : Nat} {x : Option Nat} (j : Nat) (hd : decode Y.1 pc = .ok (.aload_n kk, 1)) (hi : (kk : Nat) = i) (hj : lv[j]? = some (i, va_rf x)) (h : GE em Y k n (pc + 1) lv (va_rf x :: rest) σ E) : GE em Y k n pc lv rest σ E := fun x9 s9 he9 => AW.aloadq_n j hd hi hj (h x9 s9 he9)
theorem AW.aloadq {Y : MI} {k n pc : Nat} {lv : List (Nat × Value)} {rest : List Value} {σ : St} {F : Option Value → St → Prop} {i : Nat} {x : Option Nat} (j : Nat) (hd : decode Y.1 pc = .ok (.aload i, 2)) (hj : lv[j]? = some (i, va_rf x)) (h : AW Y k n (pc + 2) lv (va_rf x :: rest) σ F) : AW Y k n pc lv rest σ F := by
  cases x with
  | some q => exact AW.aload j hd hj h
  | none =>
    intro l p e s m args below meth c A D cy H locs ls hF hW hH hl
    exact lv_aloadN hF.1 hF.2.1 hd (lv_at hl j hj) (h l p e s m args below meth c A D cy H locs ls hF hW hH hl)
theorem GE.aloadq {α : Type} {em : α → Option Value} {E : Option (α × St)} {Y : MI} {k n pc : Nat} {lv : List (Nat × Value)} {rest : List Value} {σ : St} {i : Nat} {x : Option Nat} (j : Nat) (hd : decode Y.1 pc = .ok (.aload i, 2)) (hj : lv[j]? = some (i, va_rf x)) (h : GE em Y k n (pc + 2) lv (va_rf x :: rest) σ E) : GE em Y k n pc lv rest σ E := fun x9 s9 he9 => AW.aloadq j hd hj (h x9 s9 he9)
theorem AW.istore_n {Y : MI} {k n pc : Nat} {lv : List (Nat × Value)} {rest : List Value} {σ : St} {F : Option Value → St → Prop} {kk : Fin 4} {i : Nat} {x : Int32} {lv' : List (Nat × Value)} (hd : decode Y.1 pc = .ok (.istore_n kk, 1)) (hi : (kk : Nat) = i) (hn : i < Y.2.2.1) (ks : List Nat) (hk : lv_pick ((i, .int x) :: lv.filter (fun q => !(q.1 == i) && !(q.1 + 1 == i && q.2.category == 2))) ks = lv') (h : AW Y k n (pc + 1) lv' rest σ F) : AW Y k n pc lv (.int x :: rest) σ F := by
  intro l p e s m args below meth c A D cy H locs ls hF hW hH hl
  exact lv_istore_n hF.1 hF.2.1 hd hi hl hn rfl (fun ls hl => h l p e s m args below meth c A D cy H locs ls hF hW hH (lv_sub hl ks hk))
theorem GE.istore_n {α : Type} {em : α → Option Value} {E : Option (α × St)} {Y : MI} {k n pc : Nat} {lv : List (Nat × Value)} {rest : List Value} {σ : St} {kk : Fin 4} {i : Nat} {x : Int32} {lv' : List (Nat × Value)} (hd : decode Y.1 pc = .ok (.istore_n kk, 1)) (hi : (kk : Nat) = i) (hn : i < Y.2.2.1) (ks : List Nat) (hk : lv_pick ((i, .int x) :: lv.filter (fun q => !(q.1 == i) && !(q.1 + 1 == i && q.2.category == 2))) ks = lv') (h : GE em Y k n (pc + 1) lv' rest σ E) : GE em Y k n pc lv (.int x :: rest) σ E := fun x9 s9 he9 => AW.istore_n hd hi hn ks hk (h x9 s9 he9)
theorem AW.istore {Y : MI} {k n pc : Nat} {lv : List (Nat × Value)} {rest : List Value} {σ : St} {F : Option Value → St → Prop} {i : Nat} {x : Int32} {lv' : List (Nat × Value)} (hd : decode Y.1 pc = .ok (.istore i, 2))  (hn : i < Y.2.2.1) (ks : List Nat) (hk : lv_pick ((i, .int x) :: lv.filter (fun q => !(q.1 == i) && !(q.1 + 1 == i && q.2.category == 2))) ks = lv') (h : AW Y k n (pc + 2) lv' rest σ F) : AW Y k n pc lv (.int x :: rest) σ F := by
  intro l p e s m args below meth c A D cy H locs ls hF hW hH hl
  exact lv_istore hF.1 hF.2.1 hd  hl hn rfl (fun ls hl => h l p e s m args below meth c A D cy H locs ls hF hW hH (lv_sub hl ks hk))
theorem GE.istore {α : Type} {em : α → Option Value} {E : Option (α × St)} {Y : MI} {k n pc : Nat} {lv : List (Nat × Value)} {rest : List Value} {σ : St} {i : Nat} {x : Int32} {lv' : List (Nat × Value)} (hd : decode Y.1 pc = .ok (.istore i, 2))  (hn : i < Y.2.2.1) (ks : List Nat) (hk : lv_pick ((i, .int x) :: lv.filter (fun q => !(q.1 == i) && !(q.1 + 1 == i && q.2.category == 2))) ks = lv') (h : GE em Y k n (pc + 2) lv' rest σ E) : GE em Y k n pc lv (.int x :: rest) σ E := fun x9 s9 he9 => AW.istore hd  hn ks hk (h x9 s9 he9)
theorem AW.astore_n {Y : MI} {k n pc : Nat} {lv : List (Nat × Value)} {rest : List Value} {σ : St} {F : Option Value → St → Prop} {kk : Fin 4} {i x : Nat} {lv' : List (Nat × Value)} (hd : decode Y.1 pc = .ok (.astore_n kk, 1)) (hi : (kk : Nat) = i) (hn : i < Y.2.2.1) (ks : List Nat) (hk : lv_pick ((i, .ref x) :: lv.filter (fun q => !(q.1 == i) && !(q.1 + 1 == i && q.2.category == 2))) ks = lv') (h : AW Y k n (pc + 1) lv' rest σ F) : AW Y k n pc lv (.ref x :: rest) σ F := by
  intro l p e s m args below meth c A D cy H locs ls hF hW hH hl
  exact lv_astore_n hF.1 hF.2.1 hd hi hl hn rfl (fun ls hl => h l p e s m args below meth c A D cy H locs ls hF hW hH (lv_sub hl ks hk))
theorem GE.astore_n {α : Type} {em : α → Option Value} {E : Option (α × St)} {Y : MI} {k n pc : Nat} {lv : List (Nat × Value)} {rest : List Value} {σ : St} {kk : Fin 4} {i x : Nat} {lv' : List (Nat × Value)} (hd : decode Y.1 pc = .ok (.astore_n kk, 1)) (hi : (kk : Nat) = i) (hn : i < Y.2.2.1) (ks : List Nat) (hk : lv_pick ((i, .ref x) :: lv.filter (fun q => !(q.1 == i) && !(q.1 + 1 == i && q.2.category == 2))) ks = lv') (h : GE em Y k n (pc + 1) lv' rest σ E) : GE em Y k n pc lv (.ref x :: rest) σ E := fun x9 s9 he9 => AW.astore_n hd hi hn ks hk (h x9 s9 he9)
theorem AW.astore {Y : MI} {k n pc : Nat} {lv : List (Nat × Value)} {rest : List Value} {σ : St} {F : Option Value → St → Prop} {i x : Nat} {lv' : List (Nat × Value)} (hd : decode Y.1 pc = .ok (.astore i, 2))  (hn : i < Y.2.2.1) (ks : List Nat) (hk : lv_pick ((i, .ref x) :: lv.filter (fun q => !(q.1 == i) && !(q.1 + 1 == i && q.2.category == 2))) ks = lv') (h : AW Y k n (pc + 2) lv' rest σ F) : AW Y k n pc lv (.ref x :: rest) σ F := by
  intro l p e s m args below meth c A D cy H locs ls hF hW hH hl
  exact lv_astore hF.1 hF.2.1 hd  hl hn rfl (fun ls hl => h l p e s m args below meth c A D cy H locs ls hF hW hH (lv_sub hl ks hk))
theorem GE.astore {α : Type} {em : α → Option Value} {E : Option (α × St)} {Y : MI} {k n pc : Nat} {lv : List (Nat × Value)} {rest : List Value} {σ : St} {i x : Nat} {lv' : List (Nat × Value)} (hd : decode Y.1 pc = .ok (.astore i, 2))  (hn : i < Y.2.2.1) (ks : List Nat) (hk : lv_pick ((i, .ref x) :: lv.filter (fun q => !(q.1 == i) && !(q.1 + 1 == i && q.2.category == 2))) ks = lv') (h : GE em Y k n (pc + 2) lv' rest σ E) : GE em Y k n pc lv (.ref x :: rest) σ E := fun x9 s9 he9 => AW.astore hd  hn ks hk (h x9 s9 he9)
theorem AW.lstore {Y : MI} {k n pc : Nat} {lv : List (Nat × Value)} {rest : List Value} {σ : St} {F : Option Value → St → Prop} {i : Nat} {x : Int64} {lv' : List (Nat × Value)} (hd : decode Y.1 pc = .ok (.lstore i, 2))  (hn : i + 1 < Y.2.2.1) (ks : List Nat) (hk : lv_pick ((i, .long x) :: lv.filter (fun q => !(q.1 == i) && (!(q.1 == i + 1) && !(q.1 + 1 == i && q.2.category == 2)))) ks = lv') (h : AW Y k n (pc + 2) lv' rest σ F) : AW Y k n pc lv (.long x :: rest) σ F := by
  intro l p e s m args below meth c A D cy H locs ls hF hW hH hl
  exact lv_lstore hF.1 hF.2.1 hd  hl hn rfl (fun ls hl => h l p e s m args below meth c A D cy H locs ls hF hW hH (lv_sub hl ks hk))
theorem GE.lstore {α : Type} {em : α → Option Value} {E : Option (α × St)} {Y : MI} {k n pc : Nat} {lv : List (Nat × Value)} {rest : List Value} {σ : St} {i : Nat} {x : Int64} {lv' : List (Nat × Value)} (hd : decode Y.1 pc = .ok (.lstore i, 2))  (hn : i + 1 < Y.2.2.1) (ks : List Nat) (hk : lv_pick ((i, .long x) :: lv.filter (fun q => !(q.1 == i) && (!(q.1 == i + 1) && !(q.1 + 1 == i && q.2.category == 2)))) ks = lv') (h : GE em Y k n (pc + 2) lv' rest σ E) : GE em Y k n pc lv (.long x :: rest) σ E := fun x9 s9 he9 => AW.lstore hd  hn ks hk (h x9 s9 he9)
theorem AW.iinc {Y : MI} {k n pc : Nat} {lv : List (Nat × Value)} {rest : List Value} {σ : St} {F : Option Value → St → Prop} {i : Nat} {d : Int} {x v : Int32} {lv' : List (Nat × Value)} (j : Nat) (hd : decode Y.1 pc = .ok (.iinc i d, 3)) (hj : lv[j]? = some (i, .int x)) (hv : Int32.ofInt d = v) (hn : i < Y.2.2.1) (ks : List Nat) (hk : lv_pick ((i, .int (x + v)) :: lv.filter (fun q => !(q.1 == i) && !(q.1 + 1 == i && q.2.category == 2))) ks = lv') (h : AW Y k n (pc + 3) lv' rest σ F) : AW Y k n pc lv rest σ F := by
  intro l p e s m args below meth c A D cy H locs ls hF hW hH hl
  exact lv_iinc (v := x + v) hF.1 hF.2.1 hd hl hj (by rw [hv]) hn rfl (fun ls hl => h l p e s m args below meth c A D cy H locs ls hF hW hH (lv_sub hl ks hk))
theorem GE.iinc {α : Type} {em : α → Option Value} {E : Option (α × St)} {Y : MI} {k n pc : Nat} {lv : List (Nat × Value)} {rest : List Value} {σ : St} {i : Nat} {d : Int} {x v : Int32} {lv' : List (Nat × Value)} (j : Nat) (hd : decode Y.1 pc = .ok (.iinc i d, 3)) (hj : lv[j]? = some (i, .int x)) (hv : Int32.ofInt d = v) (hn : i < Y.2.2.1) (ks : List Nat) (hk : lv_pick ((i, .int (x + v)) :: lv.filter (fun q => !(q.1 == i) && !(q.1 + 1 == i && q.2.category == 2))) ks = lv') (h : GE em Y k n (pc + 3) lv' rest σ E) : GE em Y k n pc lv rest σ E := fun x9 s9 he9 => AW.iinc j hd hj hv hn ks hk (h x9 s9 he9)
theorem AW.iconst {Y : MI} {k n pc : Nat} {lv : List (Nat × Value)} {rest : List Value} {σ : St} {F : Option Value → St → Prop} {d : Int} {v : Int32} (hd : decode Y.1 pc = .ok (.iconst d, 1)) (hv : Int32.ofInt d = v) (h : AW Y k n (pc + 1) lv (.int v :: rest) σ F) : AW Y k n pc lv (rest) σ F := by
  intro l p e s m args below meth c A D cy H locs ls hF hW hH hl
  exact lv_iconst hF.1 hF.2.1 hd hv (h l p e s m args below meth c A D cy H locs ls hF hW hH hl)
theorem GE.iconst {α : Type} {em : α → Option Value} {E : Option (α × St)} {Y : MI} {k n pc : Nat} {lv : List (Nat × Value)} {rest : List Value} {σ : St} {d : Int} {v : Int32} (hd : decode Y.1 pc = .ok (.iconst d, 1)) (hv : Int32.ofInt d = v) (h : GE em Y k n (pc + 1) lv (.int v :: rest) σ E) : GE em Y k n pc lv (rest) σ E := fun x9 s9 he9 => AW.iconst hd hv (h x9 s9 he9)
theorem AW.bipush {Y : MI} {k n pc : Nat} {lv : List (Nat × Value)} {rest : List Value} {σ : St} {F : Option Value → St → Prop} {d : Int} {v : Int32} (hd : decode Y.1 pc = .ok (.bipush d, 2)) (hv : (Int8.ofInt d).toInt32 = v) (h : AW Y k n (pc + 2) lv (.int v :: rest) σ F) : AW Y k n pc lv (rest) σ F := by
  intro l p e s m args below meth c A D cy H locs ls hF hW hH hl
  exact lv_bipush hF.1 hF.2.1 hd hv (h l p e s m args below meth c A D cy H locs ls hF hW hH hl)
theorem GE.bipush {α : Type} {em : α → Option Value} {E : Option (α × St)} {Y : MI} {k n pc : Nat} {lv : List (Nat × Value)} {rest : List Value} {σ : St} {d : Int} {v : Int32} (hd : decode Y.1 pc = .ok (.bipush d, 2)) (hv : (Int8.ofInt d).toInt32 = v) (h : GE em Y k n (pc + 2) lv (.int v :: rest) σ E) : GE em Y k n pc lv (rest) σ E := fun x9 s9 he9 => AW.bipush hd hv (h x9 s9 he9)
theorem AW.sipush {Y : MI} {k n pc : Nat} {lv : List (Nat × Value)} {rest : List Value} {σ : St} {F : Option Value → St → Prop} {d : Int} {v : Int32} (hd : decode Y.1 pc = .ok (.sipush d, 3)) (hv : (Int16.ofInt d).toInt32 = v) (h : AW Y k n (pc + 3) lv (.int v :: rest) σ F) : AW Y k n pc lv (rest) σ F := by
  intro l p e s m args below meth c A D cy H locs ls hF hW hH hl
  exact lv_sipush hF.1 hF.2.1 hd hv (h l p e s m args below meth c A D cy H locs ls hF hW hH hl)
theorem GE.sipush {α : Type} {em : α → Option Value} {E : Option (α × St)} {Y : MI} {k n pc : Nat} {lv : List (Nat × Value)} {rest : List Value} {σ : St} {d : Int} {v : Int32} (hd : decode Y.1 pc = .ok (.sipush d, 3)) (hv : (Int16.ofInt d).toInt32 = v) (h : GE em Y k n (pc + 3) lv (.int v :: rest) σ E) : GE em Y k n pc lv (rest) σ E := fun x9 s9 he9 => AW.sipush hd hv (h x9 s9 he9)
theorem AW.lconst {Y : MI} {k n pc : Nat} {lv : List (Nat × Value)} {rest : List Value} {σ : St} {F : Option Value → St → Prop} {d : Fin 2} {v : Int64} (hd : decode Y.1 pc = .ok (.lconst d, 1)) (hv : Int64.ofNat (d : Nat) = v) (h : AW Y k n (pc + 1) lv (.long v :: rest) σ F) : AW Y k n pc lv (rest) σ F := by
  intro l p e s m args below meth c A D cy H locs ls hF hW hH hl
  exact lv_lconst hF.1 hF.2.1 hd hv (h l p e s m args below meth c A D cy H locs ls hF hW hH hl)
theorem GE.lconst {α : Type} {em : α → Option Value} {E : Option (α × St)} {Y : MI} {k n pc : Nat} {lv : List (Nat × Value)} {rest : List Value} {σ : St} {d : Fin 2} {v : Int64} (hd : decode Y.1 pc = .ok (.lconst d, 1)) (hv : Int64.ofNat (d : Nat) = v) (h : GE em Y k n (pc + 1) lv (.long v :: rest) σ E) : GE em Y k n pc lv (rest) σ E := fun x9 s9 he9 => AW.lconst hd hv (h x9 s9 he9)
theorem AW.ldc {Y : MI} {k n pc : Nat} {lv : List (Nat × Value)} {rest : List Value} {σ : St} {F : Option Value → St → Prop} {idx : Nat} {v : Int32} (hd : decode Y.1 pc = .ok (.ldc idx, 2)) (hw : Cond.constant Y.2.1.cls idx v ∈ bigW) (h : AW Y k n (pc + 2) lv (.int v :: rest) σ F) : AW Y k n pc lv rest σ F := by
  intro l p e s m args below meth c A D cy H locs ls hF hW hH hl
  exact lv_ldc hF.1 hF.2.1 hF.2.2.2.1 (hF.2.2.2.2.1 _ (List.mem_cons_of_mem _ hw)) hd (h l p e s m args below meth c A D cy H locs ls hF hW hH hl)
theorem GE.ldc {α : Type} {em : α → Option Value} {E : Option (α × St)} {Y : MI} {k n pc : Nat} {lv : List (Nat × Value)} {rest : List Value} {σ : St} {idx : Nat} {v : Int32} (hd : decode Y.1 pc = .ok (.ldc idx, 2)) (hw : Cond.constant Y.2.1.cls idx v ∈ bigW) (h : GE em Y k n (pc + 2) lv (.int v :: rest) σ E) : GE em Y k n pc lv rest σ E := fun x9 s9 he9 => AW.ldc hd hw (h x9 s9 he9)
theorem AW.ldcw {Y : MI} {k n pc : Nat} {lv : List (Nat × Value)} {rest : List Value} {σ : St} {F : Option Value → St → Prop} {idx : Nat} {v : Int32} (hd : decode Y.1 pc = .ok (.ldc_w idx, 3)) (hw : Cond.constant Y.2.1.cls idx v ∈ bigW) (h : AW Y k n (pc + 3) lv (.int v :: rest) σ F) : AW Y k n pc lv rest σ F := by
  intro l p e s m args below meth c A D cy H locs ls hF hW hH hl
  exact lv_ldcw hF.1 hF.2.1 hF.2.2.2.1 (hF.2.2.2.2.1 _ (List.mem_cons_of_mem _ hw)) hd (h l p e s m args below meth c A D cy H locs ls hF hW hH hl)
theorem GE.ldcw {α : Type} {em : α → Option Value} {E : Option (α × St)} {Y : MI} {k n pc : Nat} {lv : List (Nat × Value)} {rest : List Value} {σ : St} {idx : Nat} {v : Int32} (hd : decode Y.1 pc = .ok (.ldc_w idx, 3)) (hw : Cond.constant Y.2.1.cls idx v ∈ bigW) (h : GE em Y k n (pc + 3) lv (.int v :: rest) σ E) : GE em Y k n pc lv rest σ E := fun x9 s9 he9 => AW.ldcw hd hw (h x9 s9 he9)
theorem AW.ldc2 {Y : MI} {k n pc : Nat} {lv : List (Nat × Value)} {rest : List Value} {σ : St} {F : Option Value → St → Prop} {idx : Nat} {v : Int64} (hd : decode Y.1 pc = .ok (.ldc2_w idx, 3)) (hw : Cond.constantLong Y.2.1.cls idx v ∈ bigW) (h : AW Y k n (pc + 3) lv (.long v :: rest) σ F) : AW Y k n pc lv rest σ F := by
  intro l p e s m args below meth c A D cy H locs ls hF hW hH hl
  exact lv_ldc2 hF.1 hF.2.1 hF.2.2.2.1 (hF.2.2.2.2.1 _ (List.mem_cons_of_mem _ hw)) hd (h l p e s m args below meth c A D cy H locs ls hF hW hH hl)
theorem GE.ldc2 {α : Type} {em : α → Option Value} {E : Option (α × St)} {Y : MI} {k n pc : Nat} {lv : List (Nat × Value)} {rest : List Value} {σ : St} {idx : Nat} {v : Int64} (hd : decode Y.1 pc = .ok (.ldc2_w idx, 3)) (hw : Cond.constantLong Y.2.1.cls idx v ∈ bigW) (h : GE em Y k n (pc + 3) lv (.long v :: rest) σ E) : GE em Y k n pc lv rest σ E := fun x9 s9 he9 => AW.ldc2 hd hw (h x9 s9 he9)
theorem AW.iadd {Y : MI} {k n pc : Nat} {lv : List (Nat × Value)} {rest : List Value} {σ : St} {F : Option Value → St → Prop} {x y : Int32} (hd : decode Y.1 pc = .ok (.iadd, 1))  (h : AW Y k n (pc + 1) lv (.int (x + y) :: rest) σ F) : AW Y k n pc lv (.int y :: .int x :: rest) σ F := by
  intro l p e s m args below meth c A D cy H locs ls hF hW hH hl
  exact lv_iadd hF.1 hF.2.1 hd  (h l p e s m args below meth c A D cy H locs ls hF hW hH hl)
theorem GE.iadd {α : Type} {em : α → Option Value} {E : Option (α × St)} {Y : MI} {k n pc : Nat} {lv : List (Nat × Value)} {rest : List Value} {σ : St} {x y : Int32} (hd : decode Y.1 pc = .ok (.iadd, 1))  (h : GE em Y k n (pc + 1) lv (.int (x + y) :: rest) σ E) : GE em Y k n pc lv (.int y :: .int x :: rest) σ E := fun x9 s9 he9 => AW.iadd hd  (h x9 s9 he9)
theorem AW.isub {Y : MI} {k n pc : Nat} {lv : List (Nat × Value)} {rest : List Value} {σ : St} {F : Option Value → St → Prop} {x y : Int32} (hd : decode Y.1 pc = .ok (.isub, 1))  (h : AW Y k n (pc + 1) lv (.int (x - y) :: rest) σ F) : AW Y k n pc lv (.int y :: .int x :: rest) σ F := by
  intro l p e s m args below meth c A D cy H locs ls hF hW hH hl
  exact lv_isub hF.1 hF.2.1 hd  (h l p e s m args below meth c A D cy H locs ls hF hW hH hl)
theorem GE.isub {α : Type} {em : α → Option Value} {E : Option (α × St)} {Y : MI} {k n pc : Nat} {lv : List (Nat × Value)} {rest : List Value} {σ : St} {x y : Int32} (hd : decode Y.1 pc = .ok (.isub, 1))  (h : GE em Y k n (pc + 1) lv (.int (x - y) :: rest) σ E) : GE em Y k n pc lv (.int y :: .int x :: rest) σ E := fun x9 s9 he9 => AW.isub hd  (h x9 s9 he9)
theorem AW.imul {Y : MI} {k n pc : Nat} {lv : List (Nat × Value)} {rest : List Value} {σ : St} {F : Option Value → St → Prop} {x y : Int32} (hd : decode Y.1 pc = .ok (.imul, 1))  (h : AW Y k n (pc + 1) lv (.int (x * y) :: rest) σ F) : AW Y k n pc lv (.int y :: .int x :: rest) σ F := by
  intro l p e s m args below meth c A D cy H locs ls hF hW hH hl
  exact lv_imul hF.1 hF.2.1 hd  (h l p e s m args below meth c A D cy H locs ls hF hW hH hl)
theorem GE.imul {α : Type} {em : α → Option Value} {E : Option (α × St)} {Y : MI} {k n pc : Nat} {lv : List (Nat × Value)} {rest : List Value} {σ : St} {x y : Int32} (hd : decode Y.1 pc = .ok (.imul, 1))  (h : GE em Y k n (pc + 1) lv (.int (x * y) :: rest) σ E) : GE em Y k n pc lv (.int y :: .int x :: rest) σ E := fun x9 s9 he9 => AW.imul hd  (h x9 s9 he9)
theorem AW.iand {Y : MI} {k n pc : Nat} {lv : List (Nat × Value)} {rest : List Value} {σ : St} {F : Option Value → St → Prop} {x y : Int32} (hd : decode Y.1 pc = .ok (.iand, 1))  (h : AW Y k n (pc + 1) lv (.int (x &&& y) :: rest) σ F) : AW Y k n pc lv (.int y :: .int x :: rest) σ F := by
  intro l p e s m args below meth c A D cy H locs ls hF hW hH hl
  exact lv_iand hF.1 hF.2.1 hd  (h l p e s m args below meth c A D cy H locs ls hF hW hH hl)
theorem GE.iand {α : Type} {em : α → Option Value} {E : Option (α × St)} {Y : MI} {k n pc : Nat} {lv : List (Nat × Value)} {rest : List Value} {σ : St} {x y : Int32} (hd : decode Y.1 pc = .ok (.iand, 1))  (h : GE em Y k n (pc + 1) lv (.int (x &&& y) :: rest) σ E) : GE em Y k n pc lv (.int y :: .int x :: rest) σ E := fun x9 s9 he9 => AW.iand hd  (h x9 s9 he9)
theorem AW.ior {Y : MI} {k n pc : Nat} {lv : List (Nat × Value)} {rest : List Value} {σ : St} {F : Option Value → St → Prop} {x y : Int32} (hd : decode Y.1 pc = .ok (.ior, 1))  (h : AW Y k n (pc + 1) lv (.int (x ||| y) :: rest) σ F) : AW Y k n pc lv (.int y :: .int x :: rest) σ F := by
  intro l p e s m args below meth c A D cy H locs ls hF hW hH hl
  exact lv_ior hF.1 hF.2.1 hd  (h l p e s m args below meth c A D cy H locs ls hF hW hH hl)
theorem GE.ior {α : Type} {em : α → Option Value} {E : Option (α × St)} {Y : MI} {k n pc : Nat} {lv : List (Nat × Value)} {rest : List Value} {σ : St} {x y : Int32} (hd : decode Y.1 pc = .ok (.ior, 1))  (h : GE em Y k n (pc + 1) lv (.int (x ||| y) :: rest) σ E) : GE em Y k n pc lv (.int y :: .int x :: rest) σ E := fun x9 s9 he9 => AW.ior hd  (h x9 s9 he9)
theorem AW.ixor {Y : MI} {k n pc : Nat} {lv : List (Nat × Value)} {rest : List Value} {σ : St} {F : Option Value → St → Prop} {x y : Int32} (hd : decode Y.1 pc = .ok (.ixor, 1))  (h : AW Y k n (pc + 1) lv (.int (x ^^^ y) :: rest) σ F) : AW Y k n pc lv (.int y :: .int x :: rest) σ F := by
  intro l p e s m args below meth c A D cy H locs ls hF hW hH hl
  exact lv_ixor hF.1 hF.2.1 hd  (h l p e s m args below meth c A D cy H locs ls hF hW hH hl)
theorem GE.ixor {α : Type} {em : α → Option Value} {E : Option (α × St)} {Y : MI} {k n pc : Nat} {lv : List (Nat × Value)} {rest : List Value} {σ : St} {x y : Int32} (hd : decode Y.1 pc = .ok (.ixor, 1))  (h : GE em Y k n (pc + 1) lv (.int (x ^^^ y) :: rest) σ E) : GE em Y k n pc lv (.int y :: .int x :: rest) σ E := fun x9 s9 he9 => AW.ixor hd  (h x9 s9 he9)
theorem AW.ishl {Y : MI} {k n pc : Nat} {lv : List (Nat × Value)} {rest : List Value} {σ : St} {F : Option Value → St → Prop} {x y : Int32} (hd : decode Y.1 pc = .ok (.ishl, 1))  (h : AW Y k n (pc + 1) lv (.int (x <<< (y &&& 31)) :: rest) σ F) : AW Y k n pc lv (.int y :: .int x :: rest) σ F := by
  intro l p e s m args below meth c A D cy H locs ls hF hW hH hl
  exact lv_ishl hF.1 hF.2.1 hd  (h l p e s m args below meth c A D cy H locs ls hF hW hH hl)
theorem GE.ishl {α : Type} {em : α → Option Value} {E : Option (α × St)} {Y : MI} {k n pc : Nat} {lv : List (Nat × Value)} {rest : List Value} {σ : St} {x y : Int32} (hd : decode Y.1 pc = .ok (.ishl, 1))  (h : GE em Y k n (pc + 1) lv (.int (x <<< (y &&& 31)) :: rest) σ E) : GE em Y k n pc lv (.int y :: .int x :: rest) σ E := fun x9 s9 he9 => AW.ishl hd  (h x9 s9 he9)
theorem AW.ishr {Y : MI} {k n pc : Nat} {lv : List (Nat × Value)} {rest : List Value} {σ : St} {F : Option Value → St → Prop} {x y : Int32} (hd : decode Y.1 pc = .ok (.ishr, 1))  (h : AW Y k n (pc + 1) lv (.int (x >>> (y &&& 31)) :: rest) σ F) : AW Y k n pc lv (.int y :: .int x :: rest) σ F := by
  intro l p e s m args below meth c A D cy H locs ls hF hW hH hl
  exact lv_ishr hF.1 hF.2.1 hd  (h l p e s m args below meth c A D cy H locs ls hF hW hH hl)
theorem GE.ishr {α : Type} {em : α → Option Value} {E : Option (α × St)} {Y : MI} {k n pc : Nat} {lv : List (Nat × Value)} {rest : List Value} {σ : St} {x y : Int32} (hd : decode Y.1 pc = .ok (.ishr, 1))  (h : GE em Y k n (pc + 1) lv (.int (x >>> (y &&& 31)) :: rest) σ E) : GE em Y k n pc lv (.int y :: .int x :: rest) σ E := fun x9 s9 he9 => AW.ishr hd  (h x9 s9 he9)
theorem AW.ladd {Y : MI} {k n pc : Nat} {lv : List (Nat × Value)} {rest : List Value} {σ : St} {F : Option Value → St → Prop} {x y : Int64} (hd : decode Y.1 pc = .ok (.ladd, 1))  (h : AW Y k n (pc + 1) lv (.long (x + y) :: rest) σ F) : AW Y k n pc lv (.long y :: .long x :: rest) σ F := by
  intro l p e s m args below meth c A D cy H locs ls hF hW hH hl
  exact lv_ladd hF.1 hF.2.1 hd  (h l p e s m args below meth c A D cy H locs ls hF hW hH hl)
theorem GE.ladd {α : Type} {em : α → Option Value} {E : Option (α × St)} {Y : MI} {k n pc : Nat} {lv : List (Nat × Value)} {rest : List Value} {σ : St} {x y : Int64} (hd : decode Y.1 pc = .ok (.ladd, 1))  (h : GE em Y k n (pc + 1) lv (.long (x + y) :: rest) σ E) : GE em Y k n pc lv (.long y :: .long x :: rest) σ E := fun x9 s9 he9 => AW.ladd hd  (h x9 s9 he9)
theorem AW.lsub {Y : MI} {k n pc : Nat} {lv : List (Nat × Value)} {rest : List Value} {σ : St} {F : Option Value → St → Prop} {x y : Int64} (hd : decode Y.1 pc = .ok (.lsub, 1))  (h : AW Y k n (pc + 1) lv (.long (x - y) :: rest) σ F) : AW Y k n pc lv (.long y :: .long x :: rest) σ F := by
  intro l p e s m args below meth c A D cy H locs ls hF hW hH hl
  exact lv_lsub hF.1 hF.2.1 hd  (h l p e s m args below meth c A D cy H locs ls hF hW hH hl)
theorem GE.lsub {α : Type} {em : α → Option Value} {E : Option (α × St)} {Y : MI} {k n pc : Nat} {lv : List (Nat × Value)} {rest : List Value} {σ : St} {x y : Int64} (hd : decode Y.1 pc = .ok (.lsub, 1))  (h : GE em Y k n (pc + 1) lv (.long (x - y) :: rest) σ E) : GE em Y k n pc lv (.long y :: .long x :: rest) σ E := fun x9 s9 he9 => AW.lsub hd  (h x9 s9 he9)
theorem AW.lmul {Y : MI} {k n pc : Nat} {lv : List (Nat × Value)} {rest : List Value} {σ : St} {F : Option Value → St → Prop} {x y : Int64} (hd : decode Y.1 pc = .ok (.lmul, 1))  (h : AW Y k n (pc + 1) lv (.long (x * y) :: rest) σ F) : AW Y k n pc lv (.long y :: .long x :: rest) σ F := by
  intro l p e s m args below meth c A D cy H locs ls hF hW hH hl
  exact lv_lmul hF.1 hF.2.1 hd  (h l p e s m args below meth c A D cy H locs ls hF hW hH hl)
theorem GE.lmul {α : Type} {em : α → Option Value} {E : Option (α × St)} {Y : MI} {k n pc : Nat} {lv : List (Nat × Value)} {rest : List Value} {σ : St} {x y : Int64} (hd : decode Y.1 pc = .ok (.lmul, 1))  (h : GE em Y k n (pc + 1) lv (.long (x * y) :: rest) σ E) : GE em Y k n pc lv (.long y :: .long x :: rest) σ E := fun x9 s9 he9 => AW.lmul hd  (h x9 s9 he9)
theorem AW.land {Y : MI} {k n pc : Nat} {lv : List (Nat × Value)} {rest : List Value} {σ : St} {F : Option Value → St → Prop} {x y : Int64} (hd : decode Y.1 pc = .ok (.land, 1))  (h : AW Y k n (pc + 1) lv (.long (x &&& y) :: rest) σ F) : AW Y k n pc lv (.long y :: .long x :: rest) σ F := by
  intro l p e s m args below meth c A D cy H locs ls hF hW hH hl
  exact lv_land hF.1 hF.2.1 hd  (h l p e s m args below meth c A D cy H locs ls hF hW hH hl)
theorem GE.land {α : Type} {em : α → Option Value} {E : Option (α × St)} {Y : MI} {k n pc : Nat} {lv : List (Nat × Value)} {rest : List Value} {σ : St} {x y : Int64} (hd : decode Y.1 pc = .ok (.land, 1))  (h : GE em Y k n (pc + 1) lv (.long (x &&& y) :: rest) σ E) : GE em Y k n pc lv (.long y :: .long x :: rest) σ E := fun x9 s9 he9 => AW.land hd  (h x9 s9 he9)
theorem AW.lor {Y : MI} {k n pc : Nat} {lv : List (Nat × Value)} {rest : List Value} {σ : St} {F : Option Value → St → Prop} {x y : Int64} (hd : decode Y.1 pc = .ok (.lor, 1))  (h : AW Y k n (pc + 1) lv (.long (x ||| y) :: rest) σ F) : AW Y k n pc lv (.long y :: .long x :: rest) σ F := by
  intro l p e s m args below meth c A D cy H locs ls hF hW hH hl
  exact lv_lor hF.1 hF.2.1 hd  (h l p e s m args below meth c A D cy H locs ls hF hW hH hl)
theorem GE.lor {α : Type} {em : α → Option Value} {E : Option (α × St)} {Y : MI} {k n pc : Nat} {lv : List (Nat × Value)} {rest : List Value} {σ : St} {x y : Int64} (hd : decode Y.1 pc = .ok (.lor, 1))  (h : GE em Y k n (pc + 1) lv (.long (x ||| y) :: rest) σ E) : GE em Y k n pc lv (.long y :: .long x :: rest) σ E := fun x9 s9 he9 => AW.lor hd  (h x9 s9 he9)
theorem AW.ineg {Y : MI} {k n pc : Nat} {lv : List (Nat × Value)} {rest : List Value} {σ : St} {F : Option Value → St → Prop} {x : Int32} (hd : decode Y.1 pc = .ok (.ineg, 1))  (h : AW Y k n (pc + 1) lv (.int (-x) :: rest) σ F) : AW Y k n pc lv (.int x :: rest) σ F := by
  intro l p e s m args below meth c A D cy H locs ls hF hW hH hl
  exact lv_ineg hF.1 hF.2.1 hd  (h l p e s m args below meth c A D cy H locs ls hF hW hH hl)
theorem GE.ineg {α : Type} {em : α → Option Value} {E : Option (α × St)} {Y : MI} {k n pc : Nat} {lv : List (Nat × Value)} {rest : List Value} {σ : St} {x : Int32} (hd : decode Y.1 pc = .ok (.ineg, 1))  (h : GE em Y k n (pc + 1) lv (.int (-x) :: rest) σ E) : GE em Y k n pc lv (.int x :: rest) σ E := fun x9 s9 he9 => AW.ineg hd  (h x9 s9 he9)
theorem AW.iushr {Y : MI} {k n pc : Nat} {lv : List (Nat × Value)} {rest : List Value} {σ : St} {F : Option Value → St → Prop} {x y : Int32} (hd : decode Y.1 pc = .ok (.iushr, 1))  (h : AW Y k n (pc + 1) lv (.int ((x.toUInt32 >>> (y.toUInt32 &&& Int32.toUInt32 31)).toInt32) :: rest) σ F) : AW Y k n pc lv (.int y :: .int x :: rest) σ F := by
  intro l p e s m args below meth c A D cy H locs ls hF hW hH hl
  exact lv_iushr hF.1 hF.2.1 hd rfl (h l p e s m args below meth c A D cy H locs ls hF hW hH hl)
theorem GE.iushr {α : Type} {em : α → Option Value} {E : Option (α × St)} {Y : MI} {k n pc : Nat} {lv : List (Nat × Value)} {rest : List Value} {σ : St} {x y : Int32} (hd : decode Y.1 pc = .ok (.iushr, 1))  (h : GE em Y k n (pc + 1) lv (.int ((x.toUInt32 >>> (y.toUInt32 &&& Int32.toUInt32 31)).toInt32) :: rest) σ E) : GE em Y k n pc lv (.int y :: .int x :: rest) σ E := fun x9 s9 he9 => AW.iushr hd  (h x9 s9 he9)
theorem AW.lushr {Y : MI} {k n pc : Nat} {lv : List (Nat × Value)} {rest : List Value} {σ : St} {F : Option Value → St → Prop} {x : Int64} {y : Int32} (hd : decode Y.1 pc = .ok (.lushr, 1))  (h : AW Y k n (pc + 1) lv (.long ((x.toUInt64 >>> (y.toInt64.toUInt64 &&& Int64.toUInt64 63)).toInt64) :: rest) σ F) : AW Y k n pc lv (.int y :: .long x :: rest) σ F := by
  intro l p e s m args below meth c A D cy H locs ls hF hW hH hl
  exact lv_lushr hF.1 hF.2.1 hd rfl (h l p e s m args below meth c A D cy H locs ls hF hW hH hl)
theorem GE.lushr {α : Type} {em : α → Option Value} {E : Option (α × St)} {Y : MI} {k n pc : Nat} {lv : List (Nat × Value)} {rest : List Value} {σ : St} {x : Int64} {y : Int32} (hd : decode Y.1 pc = .ok (.lushr, 1))  (h : GE em Y k n (pc + 1) lv (.long ((x.toUInt64 >>> (y.toInt64.toUInt64 &&& Int64.toUInt64 63)).toInt64) :: rest) σ E) : GE em Y k n pc lv (.int y :: .long x :: rest) σ E := fun x9 s9 he9 => AW.lushr hd  (h x9 s9 he9)
theorem AW.lshl {Y : MI} {k n pc : Nat} {lv : List (Nat × Value)} {rest : List Value} {σ : St} {F : Option Value → St → Prop} {x : Int64} {y : Int32} (hd : decode Y.1 pc = .ok (.lshl, 1))  (h : AW Y k n (pc + 1) lv (.long (x <<< (y.toInt64 &&& 63)) :: rest) σ F) : AW Y k n pc lv (.int y :: .long x :: rest) σ F := by
  intro l p e s m args below meth c A D cy H locs ls hF hW hH hl
  exact lv_lshl hF.1 hF.2.1 hd rfl (h l p e s m args below meth c A D cy H locs ls hF hW hH hl)
theorem GE.lshl {α : Type} {em : α → Option Value} {E : Option (α × St)} {Y : MI} {k n pc : Nat} {lv : List (Nat × Value)} {rest : List Value} {σ : St} {x : Int64} {y : Int32} (hd : decode Y.1 pc = .ok (.lshl, 1))  (h : GE em Y k n (pc + 1) lv (.long (x <<< (y.toInt64 &&& 63)) :: rest) σ E) : GE em Y k n pc lv (.int y :: .long x :: rest) σ E := fun x9 s9 he9 => AW.lshl hd  (h x9 s9 he9)
theorem AW.i2l {Y : MI} {k n pc : Nat} {lv : List (Nat × Value)} {rest : List Value} {σ : St} {F : Option Value → St → Prop} {x : Int32} (hd : decode Y.1 pc = .ok (.i2l, 1))  (h : AW Y k n (pc + 1) lv (.long x.toInt64 :: rest) σ F) : AW Y k n pc lv (.int x :: rest) σ F := by
  intro l p e s m args below meth c A D cy H locs ls hF hW hH hl
  exact lv_i2l hF.1 hF.2.1 hd rfl (h l p e s m args below meth c A D cy H locs ls hF hW hH hl)
theorem GE.i2l {α : Type} {em : α → Option Value} {E : Option (α × St)} {Y : MI} {k n pc : Nat} {lv : List (Nat × Value)} {rest : List Value} {σ : St} {x : Int32} (hd : decode Y.1 pc = .ok (.i2l, 1))  (h : GE em Y k n (pc + 1) lv (.long x.toInt64 :: rest) σ E) : GE em Y k n pc lv (.int x :: rest) σ E := fun x9 s9 he9 => AW.i2l hd  (h x9 s9 he9)
theorem AW.l2i {Y : MI} {k n pc : Nat} {lv : List (Nat × Value)} {rest : List Value} {σ : St} {F : Option Value → St → Prop} {x : Int64} (hd : decode Y.1 pc = .ok (.l2i, 1))  (h : AW Y k n (pc + 1) lv (.int x.toInt32 :: rest) σ F) : AW Y k n pc lv (.long x :: rest) σ F := by
  intro l p e s m args below meth c A D cy H locs ls hF hW hH hl
  exact lv_l2i hF.1 hF.2.1 hd rfl (h l p e s m args below meth c A D cy H locs ls hF hW hH hl)
theorem GE.l2i {α : Type} {em : α → Option Value} {E : Option (α × St)} {Y : MI} {k n pc : Nat} {lv : List (Nat × Value)} {rest : List Value} {σ : St} {x : Int64} (hd : decode Y.1 pc = .ok (.l2i, 1))  (h : GE em Y k n (pc + 1) lv (.int x.toInt32 :: rest) σ E) : GE em Y k n pc lv (.long x :: rest) σ E := fun x9 s9 he9 => AW.l2i hd  (h x9 s9 he9)
theorem AW.lcmp {Y : MI} {k n pc : Nat} {lv : List (Nat × Value)} {rest : List Value} {σ : St} {F : Option Value → St → Prop} {x y : Int64} (hd : decode Y.1 pc = .ok (.lcmp, 1))  (h : AW Y k n (pc + 1) lv (.int (lg_cmp x y) :: rest) σ F) : AW Y k n pc lv (.long y :: .long x :: rest) σ F := by
  intro l p e s m args below meth c A D cy H locs ls hF hW hH hl
  exact W.lcmp hF.1 hF.2.1 hd  (h l p e s m args below meth c A D cy H locs ls hF hW hH hl)
theorem GE.lcmp {α : Type} {em : α → Option Value} {E : Option (α × St)} {Y : MI} {k n pc : Nat} {lv : List (Nat × Value)} {rest : List Value} {σ : St} {x y : Int64} (hd : decode Y.1 pc = .ok (.lcmp, 1))  (h : GE em Y k n (pc + 1) lv (.int (lg_cmp x y) :: rest) σ E) : GE em Y k n pc lv (.long y :: .long x :: rest) σ E := fun x9 s9 he9 => AW.lcmp hd  (h x9 s9 he9)
theorem AW.dup {Y : MI} {k n pc : Nat} {lv : List (Nat × Value)} {rest : List Value} {σ : St} {F : Option Value → St → Prop} {va : Value} (hd : decode Y.1 pc = .ok (.dup, 1)) (hc : va.category = 1) (h : AW Y k n (pc + 1) lv (va :: va :: rest) σ F) : AW Y k n pc lv (va :: rest) σ F := by
  intro l p e s m args below meth c A D cy H locs ls hF hW hH hl
  exact lv_dup hF.1 hF.2.1 hd hc (h l p e s m args below meth c A D cy H locs ls hF hW hH hl)
theorem GE.dup {α : Type} {em : α → Option Value} {E : Option (α × St)} {Y : MI} {k n pc : Nat} {lv : List (Nat × Value)} {rest : List Value} {σ : St} {va : Value} (hd : decode Y.1 pc = .ok (.dup, 1)) (hc : va.category = 1) (h : GE em Y k n (pc + 1) lv (va :: va :: rest) σ E) : GE em Y k n pc lv (va :: rest) σ E := fun x9 s9 he9 => AW.dup hd hc (h x9 s9 he9)
theorem AW.dup2 {Y : MI} {k n pc : Nat} {lv : List (Nat × Value)} {rest : List Value} {σ : St} {F : Option Value → St → Prop} {va vb : Value} (hd : decode Y.1 pc = .ok (.dup2, 1)) (hc : va.category = 1) (hc2 : vb.category = 1) (h : AW Y k n (pc + 1) lv (va :: vb :: va :: vb :: rest) σ F) : AW Y k n pc lv (va :: vb :: rest) σ F := by
  intro l p e s m args below meth c A D cy H locs ls hF hW hH hl
  exact lv_dup2_11 hF.1 hF.2.1 hd hc hc2 (h l p e s m args below meth c A D cy H locs ls hF hW hH hl)
theorem GE.dup2 {α : Type} {em : α → Option Value} {E : Option (α × St)} {Y : MI} {k n pc : Nat} {lv : List (Nat × Value)} {rest : List Value} {σ : St} {va vb : Value} (hd : decode Y.1 pc = .ok (.dup2, 1)) (hc : va.category = 1) (hc2 : vb.category = 1) (h : GE em Y k n (pc + 1) lv (va :: vb :: va :: vb :: rest) σ E) : GE em Y k n pc lv (va :: vb :: rest) σ E := fun x9 s9 he9 => AW.dup2 hd hc hc2 (h x9 s9 he9)
theorem AW.pop {Y : MI} {k n pc : Nat} {lv : List (Nat × Value)} {rest : List Value} {σ : St} {F : Option Value → St → Prop} {va : Value} (hd : decode Y.1 pc = .ok (.pop, 1)) (hc : va.category = 1) (h : AW Y k n (pc + 1) lv (rest) σ F) : AW Y k n pc lv (va :: rest) σ F := by
  intro l p e s m args below meth c A D cy H locs ls hF hW hH hl
  exact lv_pop hF.1 hF.2.1 hd hc (h l p e s m args below meth c A D cy H locs ls hF hW hH hl)
theorem GE.pop {α : Type} {em : α → Option Value} {E : Option (α × St)} {Y : MI} {k n pc : Nat} {lv : List (Nat × Value)} {rest : List Value} {σ : St} {va : Value} (hd : decode Y.1 pc = .ok (.pop, 1)) (hc : va.category = 1) (h : GE em Y k n (pc + 1) lv (rest) σ E) : GE em Y k n pc lv (va :: rest) σ E := fun x9 s9 he9 => AW.pop hd hc (h x9 s9 he9)
theorem AW.null {Y : MI} {k n pc : Nat} {lv : List (Nat × Value)} {rest : List Value} {σ : St} {F : Option Value → St → Prop}  (hd : decode Y.1 pc = .ok (.aconst_null, 1))  (h : AW Y k n (pc + 1) lv (.null :: rest) σ F) : AW Y k n pc lv (rest) σ F := by
  intro l p e s m args below meth c A D cy H locs ls hF hW hH hl
  exact lv_null hF.1 hF.2.1 hd  (h l p e s m args below meth c A D cy H locs ls hF hW hH hl)
theorem GE.null {α : Type} {em : α → Option Value} {E : Option (α × St)} {Y : MI} {k n pc : Nat} {lv : List (Nat × Value)} {rest : List Value} {σ : St}  (hd : decode Y.1 pc = .ok (.aconst_null, 1))  (h : GE em Y k n (pc + 1) lv (.null :: rest) σ E) : GE em Y k n pc lv (rest) σ E := fun x9 s9 he9 => AW.null hd  (h x9 s9 he9)
theorem AW.idiv {Y : MI} {k n pc : Nat} {lv : List (Nat × Value)} {rest : List Value} {σ : St} {F : Option Value → St → Prop} {x y : Int32} (hd : decode Y.1 pc = .ok (.idiv, 1)) (hy : ¬ y = 0) (h : AW Y k n (pc + 1) lv (.int (x / y) :: rest) σ F) : AW Y k n pc lv (.int y :: .int x :: rest) σ F := by
  intro l p e s m args below meth c A D cy H locs ls hF hW hH hl
  exact lv_idiv hF.1 hF.2.1 hd hy (h l p e s m args below meth c A D cy H locs ls hF hW hH hl)
theorem GE.idiv {α : Type} {em : α → Option Value} {E : Option (α × St)} {Y : MI} {k n pc : Nat} {lv : List (Nat × Value)} {rest : List Value} {σ : St} {x y : Int32} (hd : decode Y.1 pc = .ok (.idiv, 1)) (h : GE em Y k n (pc + 1) lv (.int (x / y) :: rest) σ E) : GE em Y k n pc lv (.int y :: .int x :: rest) σ (if y = 0 then Option.none else E) := by
  intro x9 s9 he9
  by_cases hy : y = 0
  · rw [if_pos hy] at he9; cases he9
  · rw [if_neg hy] at he9
    exact AW.idiv hd hy (h x9 s9 he9)
theorem AW.irem {Y : MI} {k n pc : Nat} {lv : List (Nat × Value)} {rest : List Value} {σ : St} {F : Option Value → St → Prop} {x y : Int32} (hd : decode Y.1 pc = .ok (.irem, 1)) (hy : ¬ y = 0) (h : AW Y k n (pc + 1) lv (.int (x - x / y * y) :: rest) σ F) : AW Y k n pc lv (.int y :: .int x :: rest) σ F := by
  intro l p e s m args below meth c A D cy H locs ls hF hW hH hl
  exact lv_irem hF.1 hF.2.1 hd hy (h l p e s m args below meth c A D cy H locs ls hF hW hH hl)
theorem GE.irem {α : Type} {em : α → Option Value} {E : Option (α × St)} {Y : MI} {k n pc : Nat} {lv : List (Nat × Value)} {rest : List Value} {σ : St} {x y : Int32} (hd : decode Y.1 pc = .ok (.irem, 1)) (h : GE em Y k n (pc + 1) lv (.int (x - x / y * y) :: rest) σ E) : GE em Y k n pc lv (.int y :: .int x :: rest) σ (if y = 0 then Option.none else E) := by
  intro x9 s9 he9
  by_cases hy : y = 0
  · rw [if_pos hy] at he9; cases he9
  · rw [if_neg hy] at he9
    exact AW.irem hd hy (h x9 s9 he9)
theorem AW.ldiv {Y : MI} {k n pc : Nat} {lv : List (Nat × Value)} {rest : List Value} {σ : St} {F : Option Value → St → Prop} {x y : Int64} (hd : decode Y.1 pc = .ok (.ldiv, 1)) (hy : ¬ y = 0) (h : AW Y k n (pc + 1) lv (.long (x / y) :: rest) σ F) : AW Y k n pc lv (.long y :: .long x :: rest) σ F := by
  intro l p e s m args below meth c A D cy H locs ls hF hW hH hl
  exact lv_ldiv hF.1 hF.2.1 hd hy (h l p e s m args below meth c A D cy H locs ls hF hW hH hl)
theorem GE.ldiv {α : Type} {em : α → Option Value} {E : Option (α × St)} {Y : MI} {k n pc : Nat} {lv : List (Nat × Value)} {rest : List Value} {σ : St} {x y : Int64} (hd : decode Y.1 pc = .ok (.ldiv, 1)) (h : GE em Y k n (pc + 1) lv (.long (x / y) :: rest) σ E) : GE em Y k n pc lv (.long y :: .long x :: rest) σ (if y = 0 then Option.none else E) := by
  intro x9 s9 he9
  by_cases hy : y = 0
  · rw [if_pos hy] at he9; cases he9
  · rw [if_neg hy] at he9
    exact AW.ldiv hd hy (h x9 s9 he9)
theorem AW.lrem {Y : MI} {k n pc : Nat} {lv : List (Nat × Value)} {rest : List Value} {σ : St} {F : Option Value → St → Prop} {x y : Int64} (hd : decode Y.1 pc = .ok (.lrem, 1)) (hy : ¬ y = 0) (h : AW Y k n (pc + 1) lv (.long (x - x / y * y) :: rest) σ F) : AW Y k n pc lv (.long y :: .long x :: rest) σ F := by
  intro l p e s m args below meth c A D cy H locs ls hF hW hH hl
  exact lv_lrem hF.1 hF.2.1 hd hy (h l p e s m args below meth c A D cy H locs ls hF hW hH hl)
theorem GE.lrem {α : Type} {em : α → Option Value} {E : Option (α × St)} {Y : MI} {k n pc : Nat} {lv : List (Nat × Value)} {rest : List Value} {σ : St} {x y : Int64} (hd : decode Y.1 pc = .ok (.lrem, 1)) (h : GE em Y k n (pc + 1) lv (.long (x - x / y * y) :: rest) σ E) : GE em Y k n pc lv (.long y :: .long x :: rest) σ (if y = 0 then Option.none else E) := by
  intro x9 s9 he9
  by_cases hy : y = 0
  · rw [if_pos hy] at he9; cases he9
  · rw [if_neg hy] at he9
    exact AW.lrem hd hy (h x9 s9 he9)
theorem AW.goto {Y : MI} {k n pc : Nat} {lv : List (Nat × Value)} {rest : List Value} {σ : St} {F : Option Value → St → Prop} {off : Int} {tgt : Nat} (hd : decode Y.1 pc = .ok (.goto off, 3)) (ht : (pc : Int) + off = (tgt : Int)) (h : AW Y k n tgt lv rest σ F) : AW Y k n pc lv rest σ F := by
  intro l p e s m args below meth c A D cy H locs ls hF hW hH hl
  exact lv_goto hF.1 hF.2.1 hd ht (h l p e s m args below meth c A D cy H locs ls hF hW hH hl)
theorem GE.goto {α : Type} {em : α → Option Value} {E : Option (α × St)} {Y : MI} {k n pc : Nat} {lv : List (Nat × Value)} {rest : List Value} {σ : St} {off : Int} {tgt : Nat} (hd : decode Y.1 pc = .ok (.goto off, 3)) (ht : (pc : Int) + off = (tgt : Int)) (h : GE em Y k n tgt lv rest σ E) : GE em Y k n pc lv rest σ E := fun x9 s9 he9 => AW.goto hd ht (h x9 s9 he9)
theorem GE.if_eq {α : Type} {em : α → Option Value} {E1 E2 : Option (α × St)} {Y : MI} {k n pc : Nat} {lv : List (Nat × Value)} {rest : List Value} {σ : St} {x : Int32} {off : Int} {tgt : Nat} (hd : decode Y.1 pc = .ok (.ifCond .eq off, 3)) (ht : (pc : Int) + off = (tgt : Int)) (h1 : GE em Y k n tgt lv rest σ E1) (h2 : GE em Y k n (pc + 3) lv rest σ E2) : GE em Y k n pc lv (.int x :: rest) σ (if x = 0 then E1 else E2) := by
  intro x9 s9 he9 l p e s m args below meth c A D cy H locs ls hF hW hH hl
  refine lv_if_eq hF.1 hF.2.1 hd ht (fun hc => ?_) (fun hc => ?_)
  · rw [if_pos hc] at he9
    exact h1 x9 s9 he9 l p e s m args below meth c A D cy H locs ls hF hW hH hl
  · rw [if_neg hc] at he9
    exact h2 x9 s9 he9 l p e s m args below meth c A D cy H locs ls hF hW hH hl
theorem AW.if_eq {Y : MI} {k n pc : Nat} {lv : List (Nat × Value)} {rest : List Value} {σ : St} {F : Option Value → St → Prop} {x : Int32} {off : Int} {tgt : Nat} (hd : decode Y.1 pc = .ok (.ifCond .eq off, 3)) (ht : (pc : Int) + off = (tgt : Int)) (h1 : x = 0 → AW Y k n tgt lv rest σ F) (h2 : ¬ x = 0 → AW Y k n (pc + 3) lv rest σ F) : AW Y k n pc lv (.int x :: rest) σ F := by
  intro l p e s m args below meth c A D cy H locs ls hF hW hH hl
  exact lv_if_eq hF.1 hF.2.1 hd ht (fun hc => h1 hc l p e s m args below meth c A D cy H locs ls hF hW hH hl) (fun hc => h2 hc l p e s m args below meth c A D cy H locs ls hF hW hH hl)
theorem GE.icmp_eq {α : Type} {em : α → Option Value} {E1 E2 : Option (α × St)} {Y : MI} {k n pc : Nat} {lv : List (Nat × Value)} {rest : List Value} {σ : St} {x y : Int32} {off : Int} {tgt : Nat} (hd : decode Y.1 pc = .ok (.if_icmp .eq off, 3)) (ht : (pc : Int) + off = (tgt : Int)) (h1 : GE em Y k n tgt lv rest σ E1) (h2 : GE em Y k n (pc + 3) lv rest σ E2) : GE em Y k n pc lv (.int y :: .int x :: rest) σ (if x = y then E1 else E2) := by
  intro x9 s9 he9 l p e s m args below meth c A D cy H locs ls hF hW hH hl
  refine lv_icmp_eq hF.1 hF.2.1 hd ht (fun hc => ?_) (fun hc => ?_)
  · rw [if_pos hc] at he9
    exact h1 x9 s9 he9 l p e s m args below meth c A D cy H locs ls hF hW hH hl
  · rw [if_neg hc] at he9
    exact h2 x9 s9 he9 l p e s m args below meth c A D cy H locs ls hF hW hH hl
theorem AW.icmp_eq {Y : MI} {k n pc : Nat} {lv : List (Nat × Value)} {rest : List Value} {σ : St} {F : Option Value → St → Prop} {x y : Int32} {off : Int} {tgt : Nat} (hd : decode Y.1 pc = .ok (.if_icmp .eq off, 3)) (ht : (pc : Int) + off = (tgt : Int)) (h1 : x = y → AW Y k n tgt lv rest σ F) (h2 : ¬ x = y → AW Y k n (pc + 3) lv rest σ F) : AW Y k n pc lv (.int y :: .int x :: rest) σ F := by
  intro l p e s m args below meth c A D cy H locs ls hF hW hH hl
  exact lv_icmp_eq hF.1 hF.2.1 hd ht (fun hc => h1 hc l p e s m args below meth c A D cy H locs ls hF hW hH hl) (fun hc => h2 hc l p e s m args below meth c A D cy H locs ls hF hW hH hl)
theorem GE.if_ne {α : Type} {em : α → Option Value} {E1 E2 : Option (α × St)} {Y : MI} {k n pc : Nat} {lv : List (Nat × Value)} {rest : List Value} {σ : St} {x : Int32} {off : Int} {tgt : Nat} (hd : decode Y.1 pc = .ok (.ifCond .ne off, 3)) (ht : (pc : Int) + off = (tgt : Int)) (h1 : GE em Y k n tgt lv rest σ E1) (h2 : GE em Y k n (pc + 3) lv rest σ E2) : GE em Y k n pc lv (.int x :: rest) σ (if x = 0 then E2 else E1) := by
  intro x9 s9 he9 l p e s m args below meth c A D cy H locs ls hF hW hH hl
  refine lv_if_ne hF.1 hF.2.1 hd ht (fun hc => ?_) (fun hc => ?_)
  · rw [if_neg hc] at he9
    exact h1 x9 s9 he9 l p e s m args below meth c A D cy H locs ls hF hW hH hl
  · rw [if_pos hc] at he9
    exact h2 x9 s9 he9 l p e s m args below meth c A D cy H locs ls hF hW hH hl
theorem AW.if_ne {Y : MI} {k n pc : Nat} {lv : List (Nat × Value)} {rest : List Value} {σ : St} {F : Option Value → St → Prop} {x : Int32} {off : Int} {tgt : Nat} (hd : decode Y.1 pc = .ok (.ifCond .ne off, 3)) (ht : (pc : Int) + off = (tgt : Int)) (h1 : ¬ x = 0 → AW Y k n tgt lv rest σ F) (h2 : x = 0 → AW Y k n (pc + 3) lv rest σ F) : AW Y k n pc lv (.int x :: rest) σ F := by
  intro l p e s m args below meth c A D cy H locs ls hF hW hH hl
  exact lv_if_ne hF.1 hF.2.1 hd ht (fun hc => h1 hc l p e s m args below meth c A D cy H locs ls hF hW hH hl) (fun hc => h2 hc l p e s m args below meth c A D cy H locs ls hF hW hH hl)
theorem GE.icmp_ne {α : Type} {em : α → Option Value} {E1 E2 : Option (α × St)} {Y : MI} {k n pc : Nat} {lv : List (Nat × Value)} {rest : List Value} {σ : St} {x y : Int32} {off : Int} {tgt : Nat} (hd : decode Y.1 pc = .ok (.if_icmp .ne off, 3)) (ht : (pc : Int) + off = (tgt : Int)) (h1 : GE em Y k n tgt lv rest σ E1) (h2 : GE em Y k n (pc + 3) lv rest σ E2) : GE em Y k n pc lv (.int y :: .int x :: rest) σ (if x = y then E2 else E1) := by
  intro x9 s9 he9 l p e s m args below meth c A D cy H locs ls hF hW hH hl
  refine lv_icmp_ne hF.1 hF.2.1 hd ht (fun hc => ?_) (fun hc => ?_)
  · rw [if_neg hc] at he9
    exact h1 x9 s9 he9 l p e s m args below meth c A D cy H locs ls hF hW hH hl
  · rw [if_pos hc] at he9
    exact h2 x9 s9 he9 l p e s m args below meth c A D cy H locs ls hF hW hH hl
theorem AW.icmp_ne {Y : MI} {k n pc : Nat} {lv : List (Nat × Value)} {rest : List Value} {σ : St} {F : Option Value → St → Prop} {x y : Int32} {off : Int} {tgt : Nat} (hd : decode Y.1 pc = .ok (.if_icmp .ne off, 3)) (ht : (pc : Int) + off = (tgt : Int)) (h1 : ¬ x = y → AW Y k n tgt lv rest σ F) (h2 : x = y → AW Y k n (pc + 3) lv rest σ F) : AW Y k n pc lv (.int y :: .int x :: rest) σ F := by
  intro l p e s m args below meth c A D cy H locs ls hF hW hH hl
  exact lv_icmp_ne hF.1 hF.2.1 hd ht (fun hc => h1 hc l p e s m args below meth c A D cy H locs ls hF hW hH hl) (fun hc => h2 hc l p e s m args below meth c A D cy H locs ls hF hW hH hl)
theorem GE.if_lt {α : Type} {em : α → Option Value} {E1 E2 : Option (α × St)} {Y : MI} {k n pc : Nat} {lv : List (Nat × Value)} {rest : List Value} {σ : St} {x : Int32} {off : Int} {tgt : Nat} (hd : decode Y.1 pc = .ok (.ifCond .lt off, 3)) (ht : (pc : Int) + off = (tgt : Int)) (h1 : GE em Y k n tgt lv rest σ E1) (h2 : GE em Y k n (pc + 3) lv rest σ E2) : GE em Y k n pc lv (.int x :: rest) σ (if x < 0 then E1 else E2) := by
  intro x9 s9 he9 l p e s m args below meth c A D cy H locs ls hF hW hH hl
  refine lv_if_lt hF.1 hF.2.1 hd ht (fun hc => ?_) (fun hc => ?_)
  · rw [if_pos hc] at he9
    exact h1 x9 s9 he9 l p e s m args below meth c A D cy H locs ls hF hW hH hl
  · rw [if_neg hc] at he9
    exact h2 x9 s9 he9 l p e s m args below meth c A D cy H locs ls hF hW hH hl
theorem AW.if_lt {Y : MI} {k n pc : Nat} {lv : List (Nat × Value)} {rest : List Value} {σ : St} {F : Option Value → St → Prop} {x : Int32} {off : Int} {tgt : Nat} (hd : decode Y.1 pc = .ok (.ifCond .lt off, 3)) (ht : (pc : Int) + off = (tgt : Int)) (h1 : x < 0 → AW Y k n tgt lv rest σ F) (h2 : ¬ x < 0 → AW Y k n (pc + 3) lv rest σ F) : AW Y k n pc lv (.int x :: rest) σ F := by
  intro l p e s m args below meth c A D cy H locs ls hF hW hH hl
  exact lv_if_lt hF.1 hF.2.1 hd ht (fun hc => h1 hc l p e s m args below meth c A D cy H locs ls hF hW hH hl) (fun hc => h2 hc l p e s m args below meth c A D cy H locs ls hF hW hH hl)
theorem GE.icmp_lt {α : Type} {em : α → Option Value} {E1 E2 : Option (α × St)} {Y : MI} {k n pc : Nat} {lv : List (Nat × Value)} {rest : List Value} {σ : St} {x y : Int32} {off : Int} {tgt : Nat} (hd : decode Y.1 pc = .ok (.if_icmp .lt off, 3)) (ht : (pc : Int) + off = (tgt : Int)) (h1 : GE em Y k n tgt lv rest σ E1) (h2 : GE em Y k n (pc + 3) lv rest σ E2) : GE em Y k n pc lv (.int y :: .int x :: rest) σ (if x < y then E1 else E2) := by
  intro x9 s9 he9 l p e s m args below meth c A D cy H locs ls hF hW hH hl
  refine lv_icmp_lt hF.1 hF.2.1 hd ht (fun hc => ?_) (fun hc => ?_)
  · rw [if_pos hc] at he9
    exact h1 x9 s9 he9 l p e s m args below meth c A D cy H locs ls hF hW hH hl
  · rw [if_neg hc] at he9
    exact h2 x9 s9 he9 l p e s m args below meth c A D cy H locs ls hF hW hH hl
theorem AW.icmp_lt {Y : MI} {k n pc : Nat} {lv : List (Nat × Value)} {rest : List Value} {σ : St} {F : Option Value → St → Prop} {x y : Int32} {off : Int} {tgt : Nat} (hd : decode Y.1 pc = .ok (.if_icmp .lt off, 3)) (ht : (pc : Int) + off = (tgt : Int)) (h1 : x < y → AW Y k n tgt lv rest σ F) (h2 : ¬ x < y → AW Y k n (pc + 3) lv rest σ F) : AW Y k n pc lv (.int y :: .int x :: rest) σ F := by
  intro l p e s m args below meth c A D cy H locs ls hF hW hH hl
  exact lv_icmp_lt hF.1 hF.2.1 hd ht (fun hc => h1 hc l p e s m args below meth c A D cy H locs ls hF hW hH hl) (fun hc => h2 hc l p e s m args below meth c A D cy H locs ls hF hW hH hl)
theorem GE.if_ge {α : Type} {em : α → Option Value} {E1 E2 : Option (α × St)} {Y : MI} {k n pc : Nat} {lv : List (Nat × Value)} {rest : List Value} {σ : St} {x : Int32} {off : Int} {tgt : Nat} (hd : decode Y.1 pc = .ok (.ifCond .ge off, 3)) (ht : (pc : Int) + off = (tgt : Int)) (h1 : GE em Y k n tgt lv rest σ E1) (h2 : GE em Y k n (pc + 3) lv rest σ E2) : GE em Y k n pc lv (.int x :: rest) σ (if 0 ≤ x then E1 else E2) := by
  intro x9 s9 he9 l p e s m args below meth c A D cy H locs ls hF hW hH hl
  refine lv_if_ge hF.1 hF.2.1 hd ht (fun hc => ?_) (fun hc => ?_)
  · rw [if_pos hc] at he9
    exact h1 x9 s9 he9 l p e s m args below meth c A D cy H locs ls hF hW hH hl
  · rw [if_neg hc] at he9
    exact h2 x9 s9 he9 l p e s m args below meth c A D cy H locs ls hF hW hH hl
theorem AW.if_ge {Y : MI} {k n pc : Nat} {lv : List (Nat × Value)} {rest : List Value} {σ : St} {F : Option Value → St → Prop} {x : Int32} {off : Int} {tgt : Nat} (hd : decode Y.1 pc = .ok (.ifCond .ge off, 3)) (ht : (pc : Int) + off = (tgt : Int)) (h1 : 0 ≤ x → AW Y k n tgt lv rest σ F) (h2 : ¬ 0 ≤ x → AW Y k n (pc + 3) lv rest σ F) : AW Y k n pc lv (.int x :: rest) σ F := by
  intro l p e s m args below meth c A D cy H locs ls hF hW hH hl
  exact lv_if_ge hF.1 hF.2.1 hd ht (fun hc => h1 hc l p e s m args below meth c A D cy H locs ls hF hW hH hl) (fun hc => h2 hc l p e s m args below meth c A D cy H locs ls hF hW hH hl)
theorem GE.icmp_ge {α : Type} {em : α → Option Value} {E1 E2 : Option (α × St)} {Y : MI} {k n pc : Nat} {lv : List (Nat × Value)} {rest : List Value} {σ : St} {x y : Int32} {off : Int} {tgt : Nat} (hd : decode Y.1 pc = .ok (.if_icmp .ge off, 3)) (ht : (pc : Int) + off = (tgt : Int)) (h1 : GE em Y k n tgt lv rest σ E1) (h2 : GE em Y k n (pc + 3) lv rest σ E2) : GE em Y k n pc lv (.int y :: .int x :: rest) σ (if y ≤ x then E1 else E2) := by
  intro x9 s9 he9 l p e s m args below meth c A D cy H locs ls hF hW hH hl
  refine lv_icmp_ge hF.1 hF.2.1 hd ht (fun hc => ?_) (fun hc => ?_)
  · rw [if_pos hc] at he9
    exact h1 x9 s9 he9 l p e s m args below meth c A D cy H locs ls hF hW hH hl
  · rw [if_neg hc] at he9
    exact h2 x9 s9 he9 l p e s m args below meth c A D cy H locs ls hF hW hH hl
theorem AW.icmp_ge {Y : MI} {k n pc : Nat} {lv : List (Nat × Value)} {rest : List Value} {σ : St} {F : Option Value → St → Prop} {x y : Int32} {off : Int} {tgt : Nat} (hd : decode Y.1 pc = .ok (.if_icmp .ge off, 3)) (ht : (pc : Int) + off = (tgt : Int)) (h1 : y ≤ x → AW Y k n tgt lv rest σ F) (h2 : ¬ y ≤ x → AW Y k n (pc + 3) lv rest σ F) : AW Y k n pc lv (.int y :: .int x :: rest) σ F := by
  intro l p e s m args below meth c A D cy H locs ls hF hW hH hl
  exact lv_icmp_ge hF.1 hF.2.1 hd ht (fun hc => h1 hc l p e s m args below meth c A D cy H locs ls hF hW hH hl) (fun hc => h2 hc l p e s m args below meth c A D cy H locs ls hF hW hH hl)
theorem GE.if_gt {α : Type} {em : α → Option Value} {E1 E2 : Option (α × St)} {Y : MI} {k n pc : Nat} {lv : List (Nat × Value)} {rest : List Value} {σ : St} {x : Int32} {off : Int} {tgt : Nat} (hd : decode Y.1 pc = .ok (.ifCond .gt off, 3)) (ht : (pc : Int) + off = (tgt : Int)) (h1 : GE em Y k n tgt lv rest σ E1) (h2 : GE em Y k n (pc + 3) lv rest σ E2) : GE em Y k n pc lv (.int x :: rest) σ (if 0 < x then E1 else E2) := by
  intro x9 s9 he9 l p e s m args below meth c A D cy H locs ls hF hW hH hl
  refine lv_if_gt hF.1 hF.2.1 hd ht (fun hc => ?_) (fun hc => ?_)
  · rw [if_pos hc] at he9
    exact h1 x9 s9 he9 l p e s m args below meth c A D cy H locs ls hF hW hH hl
  · rw [if_neg hc] at he9
    exact h2 x9 s9 he9 l p e s m args below meth c A D cy H locs ls hF hW hH hl
theorem AW.if_gt {Y : MI} {k n pc : Nat} {lv : List (Nat × Value)} {rest : List Value} {σ : St} {F : Option Value → St → Prop} {x : Int32} {off : Int} {tgt : Nat} (hd : decode Y.1 pc = .ok (.ifCond .gt off, 3)) (ht : (pc : Int) + off = (tgt : Int)) (h1 : 0 < x → AW Y k n tgt lv rest σ F) (h2 : ¬ 0 < x → AW Y k n (pc + 3) lv rest σ F) : AW Y k n pc lv (.int x :: rest) σ F := by
  intro l p e s m args below meth c A D cy H locs ls hF hW hH hl
  exact lv_if_gt hF.1 hF.2.1 hd ht (fun hc => h1 hc l p e s m args below meth c A D cy H locs ls hF hW hH hl) (fun hc => h2 hc l p e s m args below meth c A D cy H locs ls hF hW hH hl)
theorem GE.icmp_gt {α : Type} {em : α → Option Value} {E1 E2 : Option (α × St)} {Y : MI} {k n pc : Nat} {lv : List (Nat × Value)} {rest : List Value} {σ : St} {x y : Int32} {off : Int} {tgt : Nat} (hd : decode Y.1 pc = .ok (.if_icmp .gt off, 3)) (ht : (pc : Int) + off = (tgt : Int)) (h1 : GE em Y k n tgt lv rest σ E1) (h2 : GE em Y k n (pc + 3) lv rest σ E2) : GE em Y k n pc lv (.int y :: .int x :: rest) σ (if y < x then E1 else E2) := by
  intro x9 s9 he9 l p e s m args below meth c A D cy H locs ls hF hW hH hl
  refine lv_icmp_gt hF.1 hF.2.1 hd ht (fun hc => ?_) (fun hc => ?_)
  · rw [if_pos hc] at he9
    exact h1 x9 s9 he9 l p e s m args below meth c A D cy H locs ls hF hW hH hl
  · rw [if_neg hc] at he9
    exact h2 x9 s9 he9 l p e s m args below meth c A D cy H locs ls hF hW hH hl
theorem AW.icmp_gt {Y : MI} {k n pc : Nat} {lv : List (Nat × Value)} {rest : List Value} {σ : St} {F : Option Value → St → Prop} {x y : Int32} {off : Int} {tgt : Nat} (hd : decode Y.1 pc = .ok (.if_icmp .gt off, 3)) (ht : (pc : Int) + off = (tgt : Int)) (h1 : y < x → AW Y k n tgt lv rest σ F) (h2 : ¬ y < x → AW Y k n (pc + 3) lv rest σ F) : AW Y k n pc lv (.int y :: .int x :: rest) σ F := by
  intro l p e s m args below meth c A D cy H locs ls hF hW hH hl
  exact lv_icmp_gt hF.1 hF.2.1 hd ht (fun hc => h1 hc l p e s m args below meth c A D cy H locs ls hF hW hH hl) (fun hc => h2 hc l p e s m args below meth c A D cy H locs ls hF hW hH hl)
theorem GE.if_le {α : Type} {em : α → Option Value} {E1 E2 : Option (α × St)} {Y : MI} {k n pc : Nat} {lv : List (Nat × Value)} {rest : List Value} {σ : St} {x : Int32} {off : Int} {tgt : Nat} (hd : decode Y.1 pc = .ok (.ifCond .le off, 3)) (ht : (pc : Int) + off = (tgt : Int)) (h1 : GE em Y k n tgt lv rest σ E1) (h2 : GE em Y k n (pc + 3) lv rest σ E2) : GE em Y k n pc lv (.int x :: rest) σ (if x ≤ 0 then E1 else E2) := by
  intro x9 s9 he9 l p e s m args below meth c A D cy H locs ls hF hW hH hl
  refine lv_if_le hF.1 hF.2.1 hd ht (fun hc => ?_) (fun hc => ?_)
  · rw [if_pos hc] at he9
    exact h1 x9 s9 he9 l p e s m args below meth c A D cy H locs ls hF hW hH hl
  · rw [if_neg hc] at he9
    exact h2 x9 s9 he9 l p e s m args below meth c A D cy H locs ls hF hW hH hl
theorem AW.if_le {Y : MI} {k n pc : Nat} {lv : List (Nat × Value)} {rest : List Value} {σ : St} {F : Option Value → St → Prop} {x : Int32} {off : Int} {tgt : Nat} (hd : decode Y.1 pc = .ok (.ifCond .le off, 3)) (ht : (pc : Int) + off = (tgt : Int)) (h1 : x ≤ 0 → AW Y k n tgt lv rest σ F) (h2 : ¬ x ≤ 0 → AW Y k n (pc + 3) lv rest σ F) : AW Y k n pc lv (.int x :: rest) σ F := by
  intro l p e s m args below meth c A D cy H locs ls hF hW hH hl
  exact lv_if_le hF.1 hF.2.1 hd ht (fun hc => h1 hc l p e s m args below meth c A D cy H locs ls hF hW hH hl) (fun hc => h2 hc l p e s m args below meth c A D cy H locs ls hF hW hH hl)
theorem GE.icmp_le {α : Type} {em : α → Option Value} {E1 E2 : Option (α × St)} {Y : MI} {k n pc : Nat} {lv : List (Nat × Value)} {rest : List Value} {σ : St} {x y : Int32} {off : Int} {tgt : Nat} (hd : decode Y.1 pc = .ok (.if_icmp .le off, 3)) (ht : (pc : Int) + off = (tgt : Int)) (h1 : GE em Y k n tgt lv rest σ E1) (h2 : GE em Y k n (pc + 3) lv rest σ E2) : GE em Y k n pc lv (.int y :: .int x :: rest) σ (if x ≤ y then E1 else E2) := by
  intro x9 s9 he9 l p e s m args below meth c A D cy H locs ls hF hW hH hl
  refine lv_icmp_le hF.1 hF.2.1 hd ht (fun hc => ?_) (fun hc => ?_)
  · rw [if_pos hc] at he9
    exact h1 x9 s9 he9 l p e s m args below meth c A D cy H locs ls hF hW hH hl
  · rw [if_neg hc] at he9
    exact h2 x9 s9 he9 l p e s m args below meth c A D cy H locs ls hF hW hH hl
theorem AW.icmp_le {Y : MI} {k n pc : Nat} {lv : List (Nat × Value)} {rest : List Value} {σ : St} {F : Option Value → St → Prop} {x y : Int32} {off : Int} {tgt : Nat} (hd : decode Y.1 pc = .ok (.if_icmp .le off, 3)) (ht : (pc : Int) + off = (tgt : Int)) (h1 : x ≤ y → AW Y k n tgt lv rest σ F) (h2 : ¬ x ≤ y → AW Y k n (pc + 3) lv rest σ F) : AW Y k n pc lv (.int y :: .int x :: rest) σ F := by
  intro l p e s m args below meth c A D cy H locs ls hF hW hH hl
  exact lv_icmp_le hF.1 hF.2.1 hd ht (fun hc => h1 hc l p e s m args below meth c A D cy H locs ls hF hW hH hl) (fun hc => h2 hc l p e s m args below meth c A D cy H locs ls hF hW hH hl)
theorem AW.iret {Y : MI} {k n pc : Nat} {lv : List (Nat × Value)} {σ : St} {F : Option Value → St → Prop} {x : Int32} (hd : decode Y.1 pc = .ok (.ireturn, 1)) (hr : Y.2.2.2.1 = some .int) (hk : k ≤ Y.2.2.2.2.1) (hn : n ≤ Y.2.2.2.2.2.1)  (h : F (vI x) σ) : AW Y k n pc lv ([.int x]) σ F := by
  intro l p e s m args below meth c A D cy H locs ls hF hW hH hl
  refine W.widen hk hn ?_
  obtain ⟨f1, f2, f3, f4, f5, f6, f7, f8, f9⟩ := hF
  exact W.iret f1 f2 (f6.trans hr)  (fun t ht hW2 => ⟨⟨vI x, σ.2, rfl, h, by rw [ht]; exact hH.1, hH.2.1, hH.2.2.2⟩, hH.2.2.1.F ht⟩) hH.2.2.1.2.2 hd (hlocks := f7)
theorem AW.zret {Y : MI} {k n pc : Nat} {lv : List (Nat × Value)} {σ : St} {F : Option Value → St → Prop} {x : Int32} (hd : decode Y.1 pc = .ok (.ireturn, 1)) (hr : Y.2.2.2.1 = some .boolean) (hk : k ≤ Y.2.2.2.2.1) (hn : n ≤ Y.2.2.2.2.2.1) (hz : x = 0 ∨ x = 1) (h : F (vI x) σ) : AW Y k n pc lv ([.int x]) σ F := by
  intro l p e s m args below meth c A D cy H locs ls hF hW hH hl
  refine W.widen hk hn ?_
  obtain ⟨f1, f2, f3, f4, f5, f6, f7, f8, f9⟩ := hF
  exact W.zret f1 f2 (f6.trans hr) (by rcases hz with rfl | rfl <;> decide) (fun t ht hW2 => ⟨⟨vI x, σ.2, rfl, h, by rw [ht]; exact hH.1, hH.2.1, hH.2.2.2⟩, hH.2.2.1.F ht⟩) hH.2.2.1.2.2 hd (hlocks := f7)
theorem AW.lret {Y : MI} {k n pc : Nat} {lv : List (Nat × Value)} {σ : St} {F : Option Value → St → Prop} {x : Int64} (hd : decode Y.1 pc = .ok (.lreturn, 1)) (hr : Y.2.2.2.1 = some .long) (hk : k ≤ Y.2.2.2.2.1) (hn : n ≤ Y.2.2.2.2.2.1)  (h : F (vL x) σ) : AW Y k n pc lv ([.long x]) σ F := by
  intro l p e s m args below meth c A D cy H locs ls hF hW hH hl
  refine W.widen hk hn ?_
  obtain ⟨f1, f2, f3, f4, f5, f6, f7, f8, f9⟩ := hF
  exact W.lret f1 f2 (f6.trans hr)  (fun t ht hW2 => ⟨⟨vL x, σ.2, rfl, h, by rw [ht]; exact hH.1, hH.2.1, hH.2.2.2⟩, hH.2.2.1.F ht⟩) hH.2.2.1.2.2 hd (hlocks := f7)
theorem AW.vret {Y : MI} {k n pc : Nat} {lv : List (Nat × Value)} {σ : St} {F : Option Value → St → Prop} {x : Unit} (hd : decode Y.1 pc = .ok (.return_, 1)) (hr : Y.2.2.2.1 = Option.none) (hk : k ≤ Y.2.2.2.2.1) (hn : n ≤ Y.2.2.2.2.2.1)  (h : F (vU x) σ) : AW Y k n pc lv ([]) σ F := by
  intro l p e s m args below meth c A D cy H locs ls hF hW hH hl
  refine W.widen hk hn ?_
  obtain ⟨f1, f2, f3, f4, f5, f6, f7, f8, f9⟩ := hF
  exact W.vret f1 f2 (f6.trans hr)  (fun t ht hW2 => ⟨⟨vU x, σ.2, rfl, h, by rw [ht]; exact hH.1, hH.2.1, hH.2.2.2⟩, hH.2.2.1.F ht⟩) hH.2.2.1.2.2 hd (hlocks := f7)
theorem AW.aret {Y : MI} {k n pc : Nat} {lv : List (Nat × Value)} {σ : St} {F : Option Value → St → Prop} {x : Option Nat} (hd : decode Y.1 pc = .ok (.areturn, 1)) {C : String} (hr : Y.2.2.2.1 = some (.object C)) (hk : k ≤ Y.2.2.2.2.1) (hn : n ≤ Y.2.2.2.2.2.1) (h : F (vQ x) σ) : AW Y k n pc lv ([va_rf x]) σ F := by
  intro l p e s m args below meth c A D cy H locs ls hF hW hH hl
  refine W.widen hk hn ?_
  obtain ⟨f1, f2, f3, f4, f5, f6, f7, f8, f9⟩ := hF
  exact W.aret f1 f2 (f6.trans hr) (Or.inl ⟨C, rfl⟩) (va_rf_or x) (fun t ht hW2 => ⟨⟨vQ x, σ.2, rfl, h, by rw [ht]; exact hH.1, hH.2.1, hH.2.2.2⟩, hH.2.2.1.F ht⟩) hH.2.2.1.2.2 hd (hlocks := f7)
theorem GE.iret {Y : MI} {k n pc : Nat} {lv : List (Nat × Value)} {σ : St} {x : Int32} (hd : decode Y.1 pc = .ok (.ireturn, 1)) (hr : Y.2.2.2.1 = some .int) (hk : k ≤ Y.2.2.2.2.1) (hn : n ≤ Y.2.2.2.2.2.1) : GE vI Y k n pc lv ([.int x]) σ (some (x, σ)) := by
  intro x9 s9 he9
  cases he9
  exact AW.iret hd hr hk hn ⟨rfl, rfl⟩
theorem GE.zret {Y : MI} {k n pc : Nat} {lv : List (Nat × Value)} {σ : St} {x : Int32} (hd : decode Y.1 pc = .ok (.ireturn, 1)) (hr : Y.2.2.2.1 = some .boolean) (hk : k ≤ Y.2.2.2.2.1) (hn : n ≤ Y.2.2.2.2.2.1) : GE vI Y k n pc lv ([.int x]) σ (if x = 0 ∨ x = 1 then some (x, σ) else Option.none) := by
  intro x9 s9 he9
  by_cases hz : x = 0 ∨ x = 1
  · rw [if_pos hz] at he9
    cases he9
    exact AW.zret hd hr hk hn hz ⟨rfl, rfl⟩
  · rw [if_neg hz] at he9; cases he9
theorem GE.lret {Y : MI} {k n pc : Nat} {lv : List (Nat × Value)} {σ : St} {x : Int64} (hd : decode Y.1 pc = .ok (.lreturn, 1)) (hr : Y.2.2.2.1 = some .long) (hk : k ≤ Y.2.2.2.2.1) (hn : n ≤ Y.2.2.2.2.2.1) : GE vL Y k n pc lv ([.long x]) σ (some (x, σ)) := by
  intro x9 s9 he9
  cases he9
  exact AW.lret hd hr hk hn ⟨rfl, rfl⟩
theorem GE.vret {Y : MI} {k n pc : Nat} {lv : List (Nat × Value)} {σ : St} {x : Unit} (hd : decode Y.1 pc = .ok (.return_, 1)) (hr : Y.2.2.2.1 = Option.none) (hk : k ≤ Y.2.2.2.2.1) (hn : n ≤ Y.2.2.2.2.2.1) : GE vU Y k n pc lv ([]) σ (some (x, σ)) := by
  intro x9 s9 he9
  cases he9
  exact AW.vret hd hr hk hn ⟨rfl, rfl⟩
theorem GE.aret {Y : MI} {k n pc : Nat} {lv : List (Nat × Value)} {σ : St} {x : Option Nat} (hd : decode Y.1 pc = .ok (.areturn, 1)) {C : String} (hr : Y.2.2.2.1 = some (.object C)) (hk : k ≤ Y.2.2.2.2.1) (hn : n ≤ Y.2.2.2.2.2.1) : GE vQ Y k n pc lv ([va_rf x]) σ (some (x, σ)) := by
  intro x9 s9 he9
  cases he9
  exact AW.aret hd hr hk hn ⟨rfl, rfl⟩
