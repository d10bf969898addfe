
/-! A clean walk over a store: the machine, the tables and the frame are packed away once; each instruction is a rule. -/
/-- a cell: an array (number of its kind in aTy, its size and row) or an object (number of its class, fields) -/
abbrev aE : Type := (Nat × vp_A) ⊕ (Nat × List Value)
def cE (cy : Nat → Nat) (e : aE) : va_E := match e with
  | .inl x => .inl (cy x.1, x.2)
  | .inr q => .inr q
/-- what is never written: the places of the statics' rows, what old cells hold -/
abbrev Rm : Type := (Nat → Nat) × (Nat → Option aE)
/-- a store: what is never written; the cells made; what they hold -/
abbrev St : Type := Rm × List Nat × (Nat → Option aE)
def cF (cy : Nat → Nat) (f : Nat → Option aE) : Nat → va_E := fun a => match f a with
  | some e => cE cy e
  | none => .inr (0, [])
def up (f : Nat → Option aE) (a : Nat) (e : aE) : Nat → Option aE := fun b => if b = a then some e else f b
theorem up_s (f : Nat → Option aE) (a : Nat) (e : aE) : up f a e a = some e := by simp [up]
theorem up_n (f : Nat → Option aE) {a b : Nat} (e : aE) (h : b ≠ a) : up f a e b = f b := by simp [up, h]
theorem up_u (f : Nat → Option aE) (a : Nat) (e e2 : aE) : up (up f a e) a e2 = up f a e2 := by
  funext b; simp only [up]; split <;> rfl
theorem cF_up (cy : Nat → Nat) (f : Nat → Option aE) (a : Nat) (e : aE) : cF cy (up f a e) = va_up (cF cy f) a (cE cy e) := by
  funext b
  by_cases h : b = a
  · subst h; simp [cF, up, va_up]
  · simp [cF, up, va_up, h]
theorem cF_at {cy : Nat → Nat} {f : Nat → Option aE} {a : Nat} {e : aE} (h : f a = some e) : cF cy f a = cE cy e := by simp [cF, h]
abbrev pool (cy : Nat → Nat) (σ : St) : va_W := va_pl σ.2.1 (cF cy σ.2.2)
def rd (σ : St) (a : Nat) : Option aE := match σ.2.2 a with
  | some e => some e
  | none => σ.1.2 a
theorem rd_of {σ : St} {a : Nat} {e : aE} (h : σ.2.2 a = some e) : rd σ a = some e := by simp [rd, h]
def okL (σ : St) : Prop := ∀ a e, σ.2.2 a = some e → a ∈ σ.2.1
def bigW : List Cond := lw_tbl.filter goodWord
def nestB (w : Cond) : Bool := match w with
  | .methodLinkNest _ _ _ _ => true
  | _ => false
def nestW : List Cond := lw_tbl.filter nestB
theorem bg (i : Nat) {w : Cond} (h : lw_tbl[i]? = some w) (hg : goodWord w = true) : w ∈ bigW := List.mem_filter.mpr ⟨List.mem_of_getElem? h, hg⟩
theorem bn (i : Nat) {w : Cond} (h : lw_tbl[i]? = some w) (hg : nestB w = true) : w ∈ nestW := List.mem_filter.mpr ⟨List.mem_of_getElem? h, hg⟩
theorem bigW_good : ∀ w ∈ bigW, w ∈ bigW ∧ ((w.onTables && w.keeps) = true ∨ ∃ ty, w = .arrayClass ty) := fun _ h => ⟨h, good_of_word (List.mem_filter.mp h).2⟩
theorem goodCons {c0 c1 : Cond} (h : c1 ∈ bigW) : GoodIn (c0 :: bigW) (c1 :: bigW) := fun w hw => by
  have hb : w ∈ bigW := (List.mem_cons.mp hw).elim (fun e => e ▸ h) id
  exact ⟨List.mem_cons_of_mem _ hb, (bigW_good w hb).2⟩
def tyL (cy : Nat → Nat) : List (ClassId × FieldType) := [(cy 0, .int), (cy 1, .boolean), (cy 2, .object "BlindSpots$Law"), (cy 3, .long), (cy 4, .char)]
def zN : List (String × String × String) := [("BlindSpots$LandReader", "RULE_LETTERS", "[C"), ("BlindSpots$LandReader", "RULE_LEAST", "[I"), ("BlindSpots$LandReader", "RULE_MOST", "[I"), ("BlindSpots$LandReader", "RULE_FIRST", "[I"), ("BlindSpots$LandReader", "TOWER_LETTERS", "[C"), ("BlindSpots$LandReader", "TOWER_LEAST", "[I"), ("BlindSpots$LandReader", "TOWER_MOST", "[I"), ("BlindSpots$LandReader", "TOWER_FIRST", "[I")]
/-- a row that is never written: ints or chars -/
def roT (e : aE) (a : Nat) (A : Nat → Prop) (s : State) : Prop := match e with
  | .inl (0, z, .inl f) => va_T .int a z (fun j => .int (f j)) A s s.heap
  | .inl (4, z, .inl f) => va_T .char a z (fun j => .int (f j)) A s s.heap
  | _ => False
theorem roT.out {e : aE} {a : Nat} {A : Nat → Prop} {s : State} (h : roT e a A s) : ¬ A a := by
  unfold roT at h
  split at h
  · exact va_T.out h
  · exact va_T.out h
  · exact h.elim
theorem roT.lt {e : aE} {a : Nat} {A : Nat → Prop} {s : State} (h : roT e a A s) : a < s.heap.size := by
  unfold roT at h
  split at h
  · obtain ⟨cell, h1, -⟩ := h; exact (Array.getElem?_eq_some_iff.mp h1).1
  · obtain ⟨cell, h1, -⟩ := h; exact (Array.getElem?_eq_some_iff.mp h1).1
  · exact h.elim
/-- what is fixed in a walk: classes, nest words, what is never written -/
def Wd (D : va_G) (cy : Nat → Nat) (A : Nat → Prop) (Z : Rm) (s : State) : Prop :=
  va_K D vwCl (tyL cy) s ∧ (∀ w ∈ nestW, va_Nw w s) ∧ (∀ a e, Z.2 a = some e → roT e a A s) ∧ (∀ j q, zN[j]? = some q → va_Z q.1 q.2.1 q.2.2 (.ref (Z.1 j)) A s s.heap) ∧ va_AO "BlindSpots$Law" s
/-- what moves: the heap holds the store -/
def Hd (D : va_G) (cy : Nat → Nat) (A : Nat → Prop) (σ : St) (s : State) (H : Heap) (locs : List Loc) : Prop :=
  va_P D vwCl (pool cy σ) H ∧ va_D A (pool cy σ) ∧ va_S A s.heap H locs ∧ okL σ
def QQ (D : va_G) (cy : Nat → Nat) (A : Nat → Prop) (Z : Rm) (F : Option Value → St → Prop) : Array Value → State → Outcome → State → Prop := fun _ st oc t =>
  (∃ (r : Option Value) (u : List Nat × (Nat → Option aE)), oc = .returned r ∧ F r (Z, u) ∧ va_P D vwCl (pool cy (Z, u)) t.heap ∧ va_D A (pool cy (Z, u)) ∧ okL (Z, u)) ∧ va_F A st t
/-- a method: its code, name, locals, answer's type; cells and slots that it makes at most, its rank (frames below it) -/
abbrev MI : Type := ByteArray × MethodName × Nat × Option FieldType × Nat × Nat × Nat
def rmOf (Y : MI) : Room := { frames := Y.2.2.2.2.2.2, cells := Y.2.2.2.2.1, slots := Y.2.2.2.2.2.1, locals := 64 * Y.2.2.2.2.2.2 }
def wsOf (Y : MI) : List Cond := .code Y.2.1 Y.1 Y.2.2.1 Y.2.2.2.1 :: bigW
def Fx (Y : MI) (p : Program) (s : State) (m : MethodId) (args : Array Value) (meth : Method) (c : Code) (A : Nat → Prop) : Prop :=
  p.tables.exec = Jvm.exec ∧ c.code = Y.1 ∧ c.maxLocals = Y.2.2.1 ∧ s.vm.findClass Y.2.1.cls = some m.cls ∧ (∀ w ∈ wsOf Y, w.before args s = true) ∧ meth.sig.returnType = Y.2.2.2.1 ∧ meth.locks = false ∧ (∀ q, s.heap.size ≤ q → A q) ∧ meth.name = Y.2.1.name
def AW (Y : MI) (k n pc : Nat) (lv : List (Nat × Value)) (st : List Value) (σ : St) (F : Option Value → St → Prop) : Prop :=
  ∀ (l : Launch) (p : Program) (e : Env) (s : State) (m : MethodId) (args : Array Value) (below : List Frame) (meth : Method) (c : Code) (A : Nat → Prop) (D : va_G) (cy : Nat → Nat) (H : Heap) (locs : List Loc) (ls : Array Slot),
    Fx Y p s m args meth c A → Wd D cy A σ.1 s → Hd D cy A σ s H locs → lv_has ls Y.2.2.1 lv →
    W p l e (rmOf Y) s m args below meth c H locs k n (MQ below (QQ D cy A σ.1 F) args s Y.2.2.2.2.1 Y.2.2.2.2.2.1 A) (F0 m pc ls st)
/-- a contract: from the words av and the store σ the method returns with F -/
def PreC (D : va_G) (cy : Nat → Nat) (σ : St) (sz : Nat) (U : State) : Prop :=
  U.heap.size = sz ∧ va_P D vwCl (pool cy σ) U.heap ∧ va_D (fun _ => True) (pool cy σ) ∧ okL σ ∧ Wd D cy (va_A (pool cy σ) sz) σ.1 U
def CT (Y : MI) (av : List Value) (σ : St) (F : Option Value → St → Prop) : Prop :=
  ∀ (l : Launch) (D : va_G) (cy : Nat → Nat) (sz : Nat), Met l Y.2.1 (wsOf Y) (rmOf Y) (va_Pc av (PreC D cy σ sz)) (QQ D cy (va_A (pool cy σ) sz) σ.1 F) Y.2.2.2.2.1 Y.2.2.2.2.2.1 (va_A (pool cy σ) sz)
theorem CT.ofAW {Y : MI} {av : List Value} {σ : St} {F : Option Value → St → Prop} {lv : List (Nat × Value)} (hy : plainName Y.2.1.cls = true) (hn : (lg_sl av).length ≤ Y.2.2.1) (hlv : lv_args 0 av = lv)
    (h : AW Y 0 0 0 lv [] σ F) : CT Y av σ F := by
  intro l D cy sz
  refine Met.ofW (cc := Y.1) (maxL := Y.2.2.1) (ret := Y.2.2.2.1) hy rfl ?_
  intro p e s m args below meth c s₁ B hml hv
  obtain ⟨rfl, hsz, hP, hD0, hok, hWd⟩ := hv
  have hts := atoms_spec (ws := wsOf Y) B.pre
  have hown : s.vm.findClass Y.2.1.cls = some m.cls := findClass_of_methodNamed B.named
  subst hsz
  have hD := hD0.self (sz := s.heap.size)
  have hl := lv_entry av (n := Y.2.2.1) hn
  rw [hlv] at hl
  rw [lg_entry_eq]
  exact h l p e s m av.toArray below meth c _ D cy s.heap [] _ ⟨B.exec, B.bytes, hml, hown, hts, B.returns, B.notSynchronized, fun q hq => Or.inr hq, (name_of_methodNamed B.named B.method).1⟩ hWd ⟨hP, hD, va_S.rf, hok⟩ hl
/-- the cell that the store knows lies in the heap -/
theorem Hd.at {D : va_G} {cy : Nat → Nat} {A : Nat → Prop} {σ : St} {s : State} {H : Heap} {locs : List Loc} (hH : Hd D cy A σ s H locs) {a : Nat} {e : aE} (h : σ.2.2 a = some e) : va_P D vwCl [(a, cE cy e)] H := by
  have key : va_at D vwCl (a, cE cy e) H := by
    obtain ⟨k, hk⟩ := va_pl_get (X := []) (f := cF cy σ.2.2) (hH.2.2.2 a e h)
    have h1 := hH.1 k _ hk
    rw [cF_at h] at h1
    exact h1
  intro k q hk
  match k, hk with
  | 0, hk => cases hk; exact key
  | k + 1, hk => simp at hk
theorem rd_or {σ : St} {a : Nat} {e : aE} (h : rd σ a = some e) : σ.2.2 a = some e ∨ σ.1.2 a = some e := by
  cases hf : σ.2.2 a with
  | some e2 => left; simpa [rd, hf] using h
  | none => right; simpa [rd, hf] using h
theorem rd_obj {D : va_G} {cy : Nat → Nat} {A : Nat → Prop} {σ : St} {s : State} {a : Nat} {q : Nat × List Value} (hW : Wd D cy A σ.1 s) (h : rd σ a = some (.inr q)) : σ.2.2 a = some (.inr q) := by
  rcases rd_or h with h1 | h1
  · exact h1
  · exact (hW.2.2.1 a _ h1).elim
theorem nest_warm {w : Cond} (h : nestB w = true) {s U : State} (hW : s.WarmedH U.vm) (hw : va_Nw w s) : va_Nw w U := by
  cases w <;> first | exact va_Nw.warmM hW hw | (simp [nestB] at h; done)
theorem nest_tab {w : Cond} (h : nestB w = true) : w.onTables = true := by
  cases w <;> first | rfl | (simp [nestB] at h; done)
theorem Wd.call {D : va_G} {cy : Nat → Nat} {A : Nat → Prop} {Z : Rm} {s U : State} {H : Heap} {locs : List Loc} {ws : va_W} (hW : Wd D cy A Z s) (hS : va_S A s.heap H locs) (hF : ∀ q, va_A ws H.size q → A q) (hU : U.heap = H) (hwm : s.WarmedH U.vm) : Wd D cy (va_A ws H.size) Z U := by
  obtain ⟨hK, hN, hO, hZ, hAO⟩ := hW
  refine ⟨va_K.moved hwm.alike hK, fun w hw => nest_warm (List.mem_filter.mp hw).2 hwm (hN w hw), fun a e ha => ?_, fun j q hj => ?_, hAO.moved hwm.alike⟩
  · have h1 := hO a e ha
    unfold roT at h1 ⊢
    split at h1
    · rw [hU]; exact ((h1.kept (H1 := H) (fun a h1 h2 => hS.2.1 a h1 h2)).narrow hF).moved hwm.alike
    · rw [hU]; exact ((h1.kept (H1 := H) (fun a h1 h2 => hS.2.1 a h1 h2)).narrow hF).moved hwm.alike
    · exact h1.elim
  · have h1 := (hZ j q hj).kept (H1 := H) (fun a h1 h2 => hS.2.1 a h1 h2)
    rw [hU]
    exact (h1.narrow hF).moved hwm.alike
theorem roT_same {e : aE} {b : Nat} {A : Nat → Prop} {U : State} {g : JFrame} {mk : MethodId} {a : Array Value} (h : roT e b A U) : roT e b A (U.calling g mk a) := by
  unfold roT at h ⊢
  split at h
  · exact va_T.moved (u := U) (U := U.calling g mk a) (Vm.Alike.refl U.vm) h
  · exact va_T.moved (u := U) (U := U.calling g mk a) (Vm.Alike.refl U.vm) h
  · exact h.elim
theorem PreC.blind {D : va_G} {cy : Nat → Nat} {σ : St} {sz : Nat} {av : List Value} : FrameBlind (va_Pc av (PreC D cy σ sz)) := by
  intro a U g mk q
  obtain ⟨q0, q1, qP, qD, qo, qK, qN, qO, qZ, qA⟩ := q
  exact ⟨q0, q1, qP, qD, qo, va_K.moved (u := U) (U := U.calling g mk a) (Vm.Alike.refl U.vm) qK, fun w hw => va_Nw.same (nest_tab (List.mem_filter.mp hw).2) (u := U) (U := U.calling g mk a) rfl (qN w hw), fun b9 e9 hb9 => roT_same (qO b9 e9 hb9), fun j q hj => va_Z.moved (u := U) (U := U.calling g mk a) (Vm.Alike.refl U.vm) (qZ j q hj), va_AO.moved (u := U) (U := U.calling g mk a) (Vm.Alike.refl U.vm) qA⟩
theorem Hd.free {D : va_G} {cy : Nat → Nat} {A : Nat → Prop} {σ : St} {s : State} {H : Heap} {locs : List Loc} (hH : Hd D cy A σ s H locs) (hA : ∀ q, s.heap.size ≤ q → A q) : ∀ q, va_A (pool cy σ) H.size q → A q := by
  intro q h
  rcases h with ⟨k, e, h⟩ | h
  · exact hH.2.1.2 k (q, e) h
  · exact hA q (Nat.le_trans hH.2.2.1.1 h)
theorem Hd.pre {D : va_G} {cy : Nat → Nat} {A : Nat → Prop} {σ : St} {s U : State} {H : Heap} {locs : List Loc} (hW : Wd D cy A σ.1 s) (hH : Hd D cy A σ s H locs) (hA : ∀ q, s.heap.size ≤ q → A q) (hU : U.heap = H) (hwm : s.WarmedH U.vm) : PreC D cy σ H.size U :=
  ⟨by rw [hU], by rw [hU]; exact hH.1, hH.2.1.weaken (fun _ _ _ _ => trivial), hH.2.2.2, hW.call hH.2.2.1 (hH.free hA) hU hwm⟩
/-- behind a call, whatever is returned -/
theorem callQ {p : Program} {l : Launch} {e : Env} {R : Room} {s : State} {m : MethodId} {args : Array Value} {below : List Frame} {meth : Method} {c : Code} {H : Heap} {locs : List Loc} {k n mc ms : Nat} {Q : State → Prop} {pc : Nat} {ls : Array Slot} {rest st0 : List Value} {a : Array Value} {A : Nat → Prop} {D : va_G} {cy : Nat → Nat} {σ : St} {F : Option Value → St → Prop}
    (hr : va_Run p l e R s m args below meth c H locs k n mc ms (F0 m pc ls st0) rest (QQ D cy (va_A (pool cy σ) H.size) σ.1 F a) (va_A (pool cy σ) H.size)) (hH : Hd D cy A σ s H locs) (hA : ∀ q, s.heap.size ≤ q → A q)
    (kk : ∀ (r : Option Value) (u : List Nat × (Nat → Option aE)) (H1 : Heap) (locs1 : List Loc), F r (σ.1, u) → Hd D cy A (σ.1, u) s H1 locs1 → W p l e R s m args below meth c H1 locs1 (k + mc) (n + ms) Q (F0 m (pc + 3) ls (r.toList ++ rest))) : W p l e R s m args below meth c H locs k n Q (F0 m pc ls st0) := by
  have hf := hH.free hA
  intro T hT X
  obtain ⟨v, st₀, t, T', L, h0, X', hL, e1, e2, ⟨⟨r, u, hv, hp, hP1, hD1, hok⟩, hz, hk⟩, st⟩ := hr T hT X
  cases hv
  rw [h0] at hz hk
  have hS := hH.2.2.1
  obtain ⟨t2, a1, b1⟩ := kk v u T'.heap (locs ++ L) hp ⟨by rw [e1]; exact hP1, hD1.weaken (fun _ q _ h => hf q.1 h), ⟨Nat.le_trans hS.1 (by rw [e1]; exact hz), fun q h1 h2 => by rw [e1, hk q (Nat.lt_of_lt_of_le h1 hS.1) (fun z => h2 (hf q z))]; exact hS.2.1 q h1 h2, fun q hq => by
      rcases List.mem_append.mp hq with h | h
      · exact hS.2.2 q h
      · exact hf _ (hL q h)⟩, hok⟩ T' rfl X'
  exact ⟨t2, st t2 a1, b1⟩
/-- a write to a cell of the store -/
theorem Hd.set {D : va_G} {cy : Nat → Nat} {A : Nat → Prop} {σ : St} {s : State} {H1 : Heap} {locs1 : List Loc} {k a : Nat} {e0 e : aE} (h0 : σ.2.2 a = some e0) (hok : okL σ) (hD0 : va_D A (pool cy σ)) (hk : (pool cy σ)[k]? = some (a, cF cy σ.2.2 a)) (hP : va_P D vwCl ((pool cy σ).set k (a, cE cy e)) H1) (hD : va_D A ((pool cy σ).set k (a, cE cy e))) (hS : va_S A s.heap H1 locs1) : Hd D cy A (σ.1, σ.2.1, up σ.2.2 a e) s H1 locs1 := by
  have hL := hok a e0 h0
  have he : (pool cy σ).set k (a, cE cy e) = pool cy (σ.1, σ.2.1, up σ.2.2 a e) := by
    have := va_pl_set (X := []) (L := σ.2.1) (f := cF cy σ.2.2) (e := cE cy e) hD0 hL hk
    simp only [List.nil_append] at this
    rw [this, pool, cF_up]
  rw [he] at hP hD
  refine ⟨hP, hD, hS, fun b e2 hb => ?_⟩
  by_cases hba : b = a
  · rw [hba]; exact hL
  · exact hok b e2 (by rw [← hb]; exact (up_n _ _ hba).symm)
