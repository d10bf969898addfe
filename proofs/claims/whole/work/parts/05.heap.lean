
/-- a class of the worlds: its number, name, fields, their types; its words lie in the tables -/
def CLs (ci : Nat) (C : String) (T : u_T) (N : Nat) (ty : Nat → FieldType) : Prop :=
  vwCl[ci]? = some (C, T, N) ∧ (∀ w ∈ u_ws C T N, w ∈ bigW) ∧ (∀ k, k < N → parseFieldDescriptor (T k).2.2.1 = some (ty k)) ∧ ∀ a, a < N → ∀ b, b < N → a ≠ b → (T a).2.1 ≠ (T b).2.1
/-- a place of a constant pool names a field -/
def FLk (own : String) (idx ci kf : Nat) (fin : Bool) (fty : FieldType) : Prop :=
  ∃ C T N ty, CLs ci C T N ty ∧ kf < N ∧ Cond.fieldLink own idx C (T kf).2.1 (T kf).2.2.1 ∈ bigW ∧ (T kf).1 = C ∧ (T kf).2.2.2 = fin ∧ ty kf = fty
abbrev inb (i : Int32) (n : Nat) : Prop := 0 ≤ i.toInt ∧ i.toInt < n
def gV (ci kf : Nat) (σ : St) (a : Nat) : Option Value := match rd σ a with
  | some (.inr q) => if q.1 = ci then q.2[kf]? else none
  | _ => none
def gI (ci kf : Nat) (σ : St) (a : Nat) : Option Int32 := match gV ci kf σ a with
  | some (.int x) => some x
  | _ => none
def gL (ci kf : Nat) (σ : St) (a : Nat) : Option Int64 := match gV ci kf σ a with
  | some (.long x) => some x
  | _ => none
def gR (ci kf : Nat) (σ : St) (a : Nat) : Option Nat := match gV ci kf σ a with
  | some (.ref x) => some x
  | _ => none
def isO (ci : Nat) (σ : St) (a : Nat) : Bool := match rd σ a with
  | some (.inr q) => q.1 == ci
  | _ => false
def pV (ci kf : Nat) (σ : St) (a : Nat) (v : Value) : Option St := match σ.2.2 a with
  | some (.inr q) => if q.1 = ci ∧ kf < q.2.length then some (σ.1, σ.2.1, up σ.2.2 a (.inr (q.1, q.2.set kf v))) else none
  | _ => none
def aN (σ : St) (a : Nat) : Option Int32 := match rd σ a with
  | some (.inl q) => if q.1 < 5 then some (Int32.ofNat q.2.1) else none
  | _ => none
def aI (t : Nat) (σ : St) (a : Nat) (i : Int32) : Option Int32 := match rd σ a with
  | some (.inl (u, z, .inl f)) => if u = t ∧ inb i z then some (f i.toNatClampNeg) else none
  | _ => none
def aL (σ : St) (a : Nat) (i : Int32) : Option Int64 := match rd σ a with
  | some (.inl (u, z, .inr (.inl f))) => if u = 3 ∧ inb i z then some (f i.toNatClampNeg) else none
  | _ => none
def aQ (σ : St) (a : Nat) (i : Int32) : Option (Option Nat) := match rd σ a with
  | some (.inl (u, z, .inr (.inr (.inr (.inr f))))) => if u = 2 ∧ inb i z then some (f i.toNatClampNeg) else none
  | _ => none
def sI (t : Nat) (σ : St) (a : Nat) (i x : Int32) : Option St := match σ.2.2 a with
  | some (.inl (u, z, .inl f)) => if u = t ∧ inb i z then some (σ.1, σ.2.1, up σ.2.2 a (.inl (u, z, .inl (upd f i.toNatClampNeg x)))) else none
  | _ => none
def sL (σ : St) (a : Nat) (i : Int32) (x : Int64) : Option St := match σ.2.2 a with
  | some (.inl (u, z, .inr (.inl f))) => if u = 3 ∧ inb i z then some (σ.1, σ.2.1, up σ.2.2 a (.inl (u, z, .inr (.inl (vp_updL f i.toNatClampNeg x))))) else none
  | _ => none
def zB (x : Int32) : Bool := x == 0 || x == 1
theorem zB_or {x : Int32} (h : zB x = true) : x = 0 ∨ x = 1 := by simpa [zB] using h
theorem gV_spec {ci kf : Nat} {σ : St} {a : Nat} {v : Value} (h : gV ci kf σ a = some v) : ∃ fs, rd σ a = some (.inr (ci, fs)) ∧ fs[kf]? = some v := by
  unfold gV at h
  split at h
  · rename_i q hq
    by_cases hc : q.1 = ci
    · rw [if_pos hc] at h
      exact ⟨q.2, by rw [hq, ← hc], h⟩
    · rw [if_neg hc] at h; cases h
  · cases h
theorem gI_spec {ci kf : Nat} {σ : St} {a : Nat} {x : Int32} (h : gI ci kf σ a = some x) : gV ci kf σ a = some (.int x) := by
  unfold gI at h
  split at h
  · rename_i q hq; cases h; exact hq
  · cases h
theorem gL_spec {ci kf : Nat} {σ : St} {a : Nat} {x : Int64} (h : gL ci kf σ a = some x) : gV ci kf σ a = some (.long x) := by
  unfold gL at h
  split at h
  · rename_i q hq; cases h; exact hq
  · cases h
theorem gR_spec {ci kf : Nat} {σ : St} {a x : Nat} (h : gR ci kf σ a = some x) : gV ci kf σ a = some (.ref x) := by
  unfold gR at h
  split at h
  · rename_i q hq; cases h; exact hq
  · cases h
theorem isO_spec {ci : Nat} {σ : St} {a : Nat} (h : isO ci σ a = true) : ∃ fs, rd σ a = some (.inr (ci, fs)) := by
  unfold isO at h
  split at h
  · rename_i q hq
    have : q.1 = ci := by simpa using h
    exact ⟨q.2, by rw [hq, ← this]⟩
  · cases h
theorem pV_spec {ci kf : Nat} {σ s' : St} {a : Nat} {v : Value} (h : pV ci kf σ a v = some s') : ∃ fs, σ.2.2 a = some (.inr (ci, fs)) ∧ kf < fs.length ∧ s' = (σ.1, σ.2.1, up σ.2.2 a (.inr (ci, fs.set kf v))) := by
  unfold pV at h
  split at h
  · rename_i q hq
    by_cases hc : q.1 = ci ∧ kf < q.2.length
    · rw [if_pos hc] at h
      obtain ⟨rfl, h2⟩ := hc
      exact ⟨q.2, hq, h2, (Option.some.inj h).symm⟩
    · rw [if_neg hc] at h; cases h
  · cases h
theorem bind_some {α β : Type} {x : Option α} {K : α → Option β} {y : β} (h : x.bind K = some y) : ∃ z, x = some z ∧ K z = some y := by
  cases x with
  | none => cases h
  | some z => exact ⟨z, rfl, h⟩
theorem AW.get {Y : MI} {k n pc : Nat} {lv : List (Nat × Value)} {rest : List Value} {σ : St} {F : Option Value → St → Prop} {idx ci kf a : Nat} {fin : Bool} {fty : FieldType} {v : Value} (hd : decode Y.1 pc = .ok (.getfield idx, 3)) (hf : FLk Y.2.1.cls idx ci kf fin fty) (hv : gV ci kf σ a = some v) (h : AW Y k n (pc + 3) lv (v :: rest) σ F) : AW Y k n pc lv (.ref a :: rest) σ F := by
  intro l p e s m args below meth c A D cy H locs ls hF hW hH hl
  obtain ⟨fs, h1, h2⟩ := gV_spec hv
  obtain ⟨C, T, N, ty, hC, hk, hw, hT, -, -⟩ := hf
  exact va_get (D := D) (ci := ci) (v := v) (C := C) (T := T) (N := N) hF.1 hF.2.1 hF.2.2.2.2.1 (fun w q => List.mem_cons_of_mem _ (hC.2.1 w q)) hF.2.2.2.1 hW.1 (hH.at (rd_obj hW h1)) 0 rfl hC.1 kf hk (hF.2.2.2.2.1 _ (List.mem_cons_of_mem _ hw)) (fun x q => by rw [hT] at q; exact q) h2 hd (h l p e s m args below meth c A D cy H locs ls hF hW hH hl)
theorem AW.put {Y : MI} {k n pc : Nat} {lv : List (Nat × Value)} {rest : List Value} {σ : St} {F : Option Value → St → Prop} {idx ci kf a : Nat} {fty : FieldType} {v : Value} {s' : St} (hd : decode Y.1 pc = .ok (.putfield idx, 3)) (hf : FLk Y.2.1.cls idx ci kf false fty) (hn : narrow fty v = v) (hft : fits fty v = true) (hv : pV ci kf σ a v = some s') (h : AW Y k n (pc + 3) lv rest s' F) : AW Y k n pc lv (v :: .ref a :: rest) σ F := by
  intro l p e s m args below meth c A D cy H locs ls hF hW hH hl
  obtain ⟨fs, h1, h2, rfl⟩ := pV_spec hv
  obtain ⟨C, T, N, ty, hC, hk, hw, hT, hfin, hty⟩ := hf
  obtain ⟨q0, hq⟩ := va_pl_get (X := []) (f := cF cy σ.2.2) (hH.2.2.2 a _ h1)
  have hq1 : (pool cy σ)[q0]? = some (a, .inr (ci, fs)) := by rw [show (pool cy σ)[q0]? = _ from hq, cF_at h1]; rfl
  exact va_put (D := D) (ci := ci) (v := v) (ty := fty) (C := C) (T := T) (N := N) hF.1 hF.2.1 hF.2.2.2.2.1 (fun w q => List.mem_cons_of_mem _ (hC.2.1 w q)) ty hC.2.2.1 hC.2.2.2 hF.2.2.2.1 hW.1 hH.1 hH.2.1 hH.2.2.1 q0 hq1 hC.1 kf hk (hF.2.2.2.2.1 _ (List.mem_cons_of_mem _ hw)) (fun x q => by rw [hT] at q; exact q) hfin (by rw [← hty]; exact hC.2.2.1 kf hk) hn hft h2 hd (fun H1 locs1 hP1 hD1 hS1 => h l p e s m args below meth c A D cy H1 locs1 ls hF hW (Hd.set (e := .inr (ci, fs.set kf v)) h1 hH.2.2.2 hH.2.1 hq hP1 hD1 hS1) hl)
theorem AW.putF {Y : MI} {k n pc : Nat} {lv : List (Nat × Value)} {rest : List Value} {σ : St} {F : Option Value → St → Prop} {idx ci kf a : Nat} {fty : FieldType} {v : Value} {s' : St} (hd : decode Y.1 pc = .ok (.putfield idx, 3)) (hf : FLk Y.2.1.cls idx ci kf true fty) (hi : Y.2.1.name = "<init>") (ho : ∀ C T N, vwCl[ci]? = some (C, T, N) → C = Y.2.1.cls) (hn : narrow fty v = v) (hft : fits fty v = true) (hv : pV ci kf σ a v = some s') (h : AW Y k n (pc + 3) lv rest s' F) : AW Y k n pc lv (v :: .ref a :: rest) σ F := by
  intro l p e s m args below meth c A D cy H locs ls hF hW hH hl
  obtain ⟨fs, h1, h2, rfl⟩ := pV_spec hv
  obtain ⟨C, T, N, ty, hC, hk, hw, hT, hfin, hty⟩ := hf
  obtain ⟨q0, hq⟩ := va_pl_get (X := []) (f := cF cy σ.2.2) (hH.2.2.2 a _ h1)
  have hq1 : (pool cy σ)[q0]? = some (a, .inr (ci, fs)) := by rw [show (pool cy σ)[q0]? = _ from hq, cF_at h1]; rfl
  obtain ⟨f1, f2, f3, f4, f5, f6, f7, f8, f9⟩ := id hF
  exact va_putF (D := D) (ci := ci) (v := v) (ty := fty) (C := C) (T := T) (N := N) hF.1 hF.2.1 hF.2.2.2.2.1 (fun w q => List.mem_cons_of_mem _ (hC.2.1 w q)) ty hC.2.2.1 hC.2.2.2 hF.2.2.2.1 hW.1 hH.1 hH.2.1 hH.2.2.1 q0 hq1 hC.1 kf hk (hF.2.2.2.2.1 _ (List.mem_cons_of_mem _ hw)) (fun x q => by rw [hT] at q; exact q) hfin (f9.trans hi) (hT.trans (ho C T N hC.1)) (by rw [← hty]; exact hC.2.2.1 kf hk) hn hft h2 hd (fun H1 locs1 hP1 hD1 hS1 => h l p e s m args below meth c A D cy H1 locs1 ls hF hW (Hd.set (e := .inr (ci, fs.set kf v)) h1 hH.2.2.2 hH.2.1 hq hP1 hD1 hS1) hl)

theorem GE.gI {α : Type} {em : α → Option Value} {Y : MI} {k n pc : Nat} {lv : List (Nat × Value)} {rest : List Value} {σ : St} {idx ci kf a : Nat} {fin : Bool} {fty : FieldType} {K : Int32 → Option (α × St)} (hd : decode Y.1 pc = .ok (.getfield idx, 3)) (hf : FLk Y.2.1.cls idx ci kf fin fty) (h : ∀ x, GE em Y k n (pc + 3) lv (.int x :: rest) σ (K x)) : GE em Y k n pc lv (.ref a :: rest) σ ((gI ci kf σ a).bind K) := by
  intro x9 s9 he9
  obtain ⟨z, h1, h2⟩ := bind_some he9
  exact AW.get hd hf (gI_spec h1) (h z x9 s9 h2)
theorem GE.gL {α : Type} {em : α → Option Value} {Y : MI} {k n pc : Nat} {lv : List (Nat × Value)} {rest : List Value} {σ : St} {idx ci kf a : Nat} {fin : Bool} {fty : FieldType} {K : Int64 → Option (α × St)} (hd : decode Y.1 pc = .ok (.getfield idx, 3)) (hf : FLk Y.2.1.cls idx ci kf fin fty) (h : ∀ x, GE em Y k n (pc + 3) lv (.long x :: rest) σ (K x)) : GE em Y k n pc lv (.ref a :: rest) σ ((gL ci kf σ a).bind K) := by
  intro x9 s9 he9
  obtain ⟨z, h1, h2⟩ := bind_some he9
  exact AW.get hd hf (gL_spec h1) (h z x9 s9 h2)
theorem GE.gR {α : Type} {em : α → Option Value} {Y : MI} {k n pc : Nat} {lv : List (Nat × Value)} {rest : List Value} {σ : St} {idx ci kf a : Nat} {fin : Bool} {fty : FieldType} {K : Nat → Option (α × St)} (hd : decode Y.1 pc = .ok (.getfield idx, 3)) (hf : FLk Y.2.1.cls idx ci kf fin fty) (h : ∀ x, GE em Y k n (pc + 3) lv (.ref x :: rest) σ (K x)) : GE em Y k n pc lv (.ref a :: rest) σ ((gR ci kf σ a).bind K) := by
  intro x9 s9 he9
  obtain ⟨z, h1, h2⟩ := bind_some he9
  exact AW.get hd hf (gR_spec h1) (h z x9 s9 h2)
theorem GE.pI {α : Type} {em : α → Option Value} {Y : MI} {k n pc : Nat} {lv : List (Nat × Value)} {rest : List Value} {σ : St} {idx ci kf a : Nat} {K : St → Option (α × St)} {x : Int32} (hd : decode Y.1 pc = .ok (.putfield idx, 3)) (hf : FLk Y.2.1.cls idx ci kf false .int) (h : ∀ t, GE em Y k n (pc + 3) lv rest t (K t)) : GE em Y k n pc lv (.int x :: .ref a :: rest) σ ((pV ci kf σ a (.int x)).bind K) := by
  intro x9 s9 he9
  obtain ⟨z, h1, h2⟩ := bind_some he9
  exact AW.put hd hf rfl rfl h1 (h z x9 s9 h2)
theorem GE.pZ {α : Type} {em : α → Option Value} {Y : MI} {k n pc : Nat} {lv : List (Nat × Value)} {rest : List Value} {σ : St} {idx ci kf a : Nat} {K : St → Option (α × St)} {x : Int32} (hd : decode Y.1 pc = .ok (.putfield idx, 3)) (hf : FLk Y.2.1.cls idx ci kf false .boolean) (h : ∀ t, GE em Y k n (pc + 3) lv rest t (K t)) : GE em Y k n pc lv (.int x :: .ref a :: rest) σ (if zB x = true then (pV ci kf σ a (.int x)).bind K else Option.none) := by
  intro x9 s9 he9
  by_cases hz : zB x = true
  · rw [if_pos hz] at he9
    obtain ⟨z, h1, h2⟩ := bind_some he9
    exact AW.put hd hf (by rcases zB_or hz with rfl | rfl <;> decide) (by rcases zB_or hz with rfl | rfl <;> decide) h1 (h z x9 s9 h2)
  · rw [if_neg hz] at he9; cases he9
theorem GE.pL {α : Type} {em : α → Option Value} {Y : MI} {k n pc : Nat} {lv : List (Nat × Value)} {rest : List Value} {σ : St} {idx ci kf a : Nat} {K : St → Option (α × St)} {x : Int64} (hd : decode Y.1 pc = .ok (.putfield idx, 3)) (hf : FLk Y.2.1.cls idx ci kf false .long) (h : ∀ t, GE em Y k n (pc + 3) lv rest t (K t)) : GE em Y k n pc lv (.long x :: .ref a :: rest) σ ((pV ci kf σ a (.long x)).bind K) := by
  intro x9 s9 he9
  obtain ⟨z, h1, h2⟩ := bind_some he9
  exact AW.put hd hf rfl rfl h1 (h z x9 s9 h2)
theorem inb_in {i : Int32} {z : Nat} (h : inb i z) : vp_in i z := vp_in_iff.mpr h
theorem aI_spec {t : Nat} {σ : St} {a : Nat} {i x : Int32} (h : aI t σ a i = some x) : ∃ z f, rd σ a = some (.inl (t, z, .inl f)) ∧ inb i z ∧ x = f i.toNatClampNeg := by
  unfold aI at h
  split at h
  · rename_i u z f hq
    by_cases hc : u = t ∧ inb i z
    · rw [if_pos hc] at h
      obtain ⟨rfl, h2⟩ := hc
      exact ⟨z, f, hq, h2, (Option.some.inj h).symm⟩
    · rw [if_neg hc] at h; cases h
  · cases h
theorem aL_spec {σ : St} {a : Nat} {i : Int32} {x : Int64} (h : aL σ a i = some x) : ∃ z f, rd σ a = some (.inl (3, z, .inr (.inl f))) ∧ inb i z ∧ x = f i.toNatClampNeg := by
  unfold aL at h
  split at h
  · rename_i u z f hq
    by_cases hc : u = 3 ∧ inb i z
    · rw [if_pos hc] at h
      obtain ⟨rfl, h2⟩ := hc
      exact ⟨z, f, hq, h2, (Option.some.inj h).symm⟩
    · rw [if_neg hc] at h; cases h
  · cases h
theorem aQ_spec {σ : St} {a : Nat} {i : Int32} {x : Option Nat} (h : aQ σ a i = some x) : ∃ z f, rd σ a = some (.inl (2, z, .inr (.inr (.inr (.inr f))))) ∧ inb i z ∧ x = f i.toNatClampNeg := by
  unfold aQ at h
  split at h
  · rename_i u z f hq
    by_cases hc : u = 2 ∧ inb i z
    · rw [if_pos hc] at h
      obtain ⟨rfl, h2⟩ := hc
      exact ⟨z, f, hq, h2, (Option.some.inj h).symm⟩
    · rw [if_neg hc] at h; cases h
  · cases h
theorem aN_spec {σ : St} {a : Nat} {x : Int32} (h : aN σ a = some x) : ∃ t z, rd σ a = some (.inl (t, z)) ∧ t < 5 ∧ x = Int32.ofNat z.1 := by
  unfold aN at h
  split at h
  · rename_i q hq
    by_cases hc : q.1 < 5
    · rw [if_pos hc] at h
      exact ⟨q.1, q.2, hq, hc, (Option.some.inj h).symm⟩
    · rw [if_neg hc] at h; cases h
  · cases h
theorem sI_spec {t : Nat} {σ s' : St} {a : Nat} {i x : Int32} (h : sI t σ a i x = some s') : ∃ z f, σ.2.2 a = some (.inl (t, z, .inl f)) ∧ inb i z ∧ s' = (σ.1, σ.2.1, up σ.2.2 a (.inl (t, z, .inl (upd f i.toNatClampNeg x)))) := by
  unfold sI at h
  split at h
  · rename_i u z f hq
    by_cases hc : u = t ∧ inb i z
    · rw [if_pos hc] at h
      obtain ⟨rfl, h2⟩ := hc
      exact ⟨z, f, hq, h2, (Option.some.inj h).symm⟩
    · rw [if_neg hc] at h; cases h
  · cases h
theorem sL_spec {σ s' : St} {a : Nat} {i : Int32} {x : Int64} (h : sL σ a i x = some s') : ∃ z f, σ.2.2 a = some (.inl (3, z, .inr (.inl f))) ∧ inb i z ∧ s' = (σ.1, σ.2.1, up σ.2.2 a (.inl (3, z, .inr (.inl (vp_updL f i.toNatClampNeg x))))) := by
  unfold sL at h
  split at h
  · rename_i u z f hq
    by_cases hc : u = 3 ∧ inb i z
    · rw [if_pos hc] at h
      obtain ⟨rfl, h2⟩ := hc
      exact ⟨z, f, hq, h2, (Option.some.inj h).symm⟩
    · rw [if_neg hc] at h; cases h
  · cases h
theorem vp_nar_z {x : Int32} (h : zB x = true) : vp_nar .boolean x = x := by
  rcases zB_or h with rfl | rfl <;> decide

theorem GE.iald {α : Type} {em : α → Option Value} {Y : MI} {k n pc : Nat} {lv : List (Nat × Value)} {rest : List Value} {σ : St} {a : Nat} {i : Int32} {K : Int32 → Option (α × St)} (hd : decode Y.1 pc = .ok (.iaload, 1)) (h : ∀ x, GE em Y k n (pc + 1) lv (.int x :: rest) σ (K x)) : GE em Y k n pc lv (.int i :: .ref a :: rest) σ ((aI 0 σ a i).bind K) := by
  intro x9 s9 he9 l p e s m args below meth c A D cy H locs ls hF hW hH hl
  obtain ⟨z, h1, h2⟩ := bind_some he9
  obtain ⟨z2, f, h3, h4, rfl⟩ := aI_spec h1
  rcases rd_or h3 with h3 | h3
  · exact va_iald hF.1 hF.2.1 hW.1 (hH.at h3) 0 0 rfl rfl (inb_in h4) hd (h _ x9 s9 h2 l p e s m args below meth c A D cy H locs ls hF hW hH hl)
  · exact va_ti hF.1 hF.2.1 (hW.2.2.1 _ _ h3) hH.2.2.1 (inb_in h4) rfl hd (h _ x9 s9 h2 l p e s m args below meth c A D cy H locs ls hF hW hH hl)
theorem GE.zald {α : Type} {em : α → Option Value} {Y : MI} {k n pc : Nat} {lv : List (Nat × Value)} {rest : List Value} {σ : St} {a : Nat} {i : Int32} {K : Int32 → Option (α × St)} (hd : decode Y.1 pc = .ok (.baload, 1)) (h : ∀ x, GE em Y k n (pc + 1) lv (.int x :: rest) σ (K x)) : GE em Y k n pc lv (.int i :: .ref a :: rest) σ ((aI 1 σ a i).bind K) := by
  intro x9 s9 he9 l p e s m args below meth c A D cy H locs ls hF hW hH hl
  obtain ⟨z, h1, h2⟩ := bind_some he9
  obtain ⟨z2, f, h3, h4, rfl⟩ := aI_spec h1
  rcases rd_or h3 with h3 | h3
  · exact va_zald hF.1 hF.2.1 hW.1 (hH.at h3) 0 1 rfl rfl (inb_in h4) hd (h _ x9 s9 h2 l p e s m args below meth c A D cy H locs ls hF hW hH hl)
  · exact (hW.2.2.1 _ _ h3).elim
theorem GE.cald {α : Type} {em : α → Option Value} {Y : MI} {k n pc : Nat} {lv : List (Nat × Value)} {rest : List Value} {σ : St} {a : Nat} {i : Int32} {K : Int32 → Option (α × St)} (hd : decode Y.1 pc = .ok (.caload, 1)) (h : ∀ x, GE em Y k n (pc + 1) lv (.int x :: rest) σ (K x)) : GE em Y k n pc lv (.int i :: .ref a :: rest) σ ((aI 4 σ a i).bind K) := by
  intro x9 s9 he9 l p e s m args below meth c A D cy H locs ls hF hW hH hl
  obtain ⟨z, h1, h2⟩ := bind_some he9
  obtain ⟨z2, f, h3, h4, rfl⟩ := aI_spec h1
  rcases rd_or h3 with h3 | h3
  · exact va_cald hF.1 hF.2.1 hW.1 (hH.at h3) 0 4 rfl rfl (inb_in h4) hd (h _ x9 s9 h2 l p e s m args below meth c A D cy H locs ls hF hW hH hl)
  · exact va_tc hF.1 hF.2.1 (hW.2.2.1 _ _ h3) hH.2.2.1 (inb_in h4) rfl hd (h _ x9 s9 h2 l p e s m args below meth c A D cy H locs ls hF hW hH hl)
theorem GE.lald {α : Type} {em : α → Option Value} {Y : MI} {k n pc : Nat} {lv : List (Nat × Value)} {rest : List Value} {σ : St} {a : Nat} {i : Int32} {K : Int64 → Option (α × St)} (hd : decode Y.1 pc = .ok (.laload, 1)) (h : ∀ x, GE em Y k n (pc + 1) lv (.long x :: rest) σ (K x)) : GE em Y k n pc lv (.int i :: .ref a :: rest) σ ((aL σ a i).bind K) := by
  intro x9 s9 he9 l p e s m args below meth c A D cy H locs ls hF hW hH hl
  obtain ⟨z, h1, h2⟩ := bind_some he9
  obtain ⟨z2, f, h3, h4, rfl⟩ := aL_spec h1
  rcases rd_or h3 with h3 | h3
  · exact va_lald hF.1 hF.2.1 hW.1 (hH.at h3) 0 3 rfl rfl (inb_in h4) hd (h _ x9 s9 h2 l p e s m args below meth c A D cy H locs ls hF hW hH hl)
  · exact (hW.2.2.1 _ _ h3).elim
theorem GE.aald {α : Type} {em : α → Option Value} {Y : MI} {k n pc : Nat} {lv : List (Nat × Value)} {rest : List Value} {σ : St} {a : Nat} {i : Int32} {K : (Option Nat) → Option (α × St)} (hd : decode Y.1 pc = .ok (.aaload, 1)) (h : ∀ x, GE em Y k n (pc + 1) lv (va_rf x :: rest) σ (K x)) : GE em Y k n pc lv (.int i :: .ref a :: rest) σ ((aQ σ a i).bind K) := by
  intro x9 s9 he9 l p e s m args below meth c A D cy H locs ls hF hW hH hl
  obtain ⟨z, h1, h2⟩ := bind_some he9
  obtain ⟨z2, f, h3, h4, rfl⟩ := aQ_spec h1
  rcases rd_or h3 with h3 | h3
  · exact va_aldq hF.1 hF.2.1 hW.1 (hH.at h3) 0 2 rfl rfl (inb_in h4) hd (h _ x9 s9 h2 l p e s m args below meth c A D cy H locs ls hF hW hH hl)
  · exact (hW.2.2.1 _ _ h3).elim
theorem AW.alen {Y : MI} {k n pc : Nat} {lv : List (Nat × Value)} {rest : List Value} {σ : St} {F : Option Value → St → Prop} {a : Nat} {x : Int32} (hd : decode Y.1 pc = .ok (.arraylength, 1)) (h1 : aN σ a = some x) (h : AW Y k n (pc + 1) lv (.int x :: rest) σ F) : AW Y k n pc lv (.ref a :: rest) σ F := by
  intro l p e s m args below meth c A D cy H locs ls hF hW hH hl
  obtain ⟨t, z2, h3, h4, rfl⟩ := aN_spec h1
  rcases rd_or h3 with h3 | h3
  · have key : ∃ ty, (tyL cy)[t]? = some (cy t, ty) := by
      rcases (show t = 0 ∨ t = 1 ∨ t = 2 ∨ t = 3 ∨ t = 4 by omega) with rfl | rfl | rfl | rfl | rfl <;> exact ⟨_, rfl⟩
    obtain ⟨ty, hty⟩ := key
    exact va_alen hF.1 hF.2.1 hW.1 (hH.at h3) 0 t rfl hty rfl hd (h l p e s m args below meth c A D cy H locs ls hF hW hH hl)
  · have hr := hW.2.2.1 _ _ h3
    unfold roT at hr
    split at hr
    · rename_i e; cases e; exact va_tlen hF.1 hF.2.1 hr hH.2.2.1 rfl hd (h l p e s m args below meth c A D cy H locs ls hF hW hH hl)
    · rename_i e; cases e; exact va_tlen hF.1 hF.2.1 hr hH.2.2.1 rfl hd (h l p e s m args below meth c A D cy H locs ls hF hW hH hl)
    · exact hr.elim
theorem GE.alen {α : Type} {em : α → Option Value} {Y : MI} {k n pc : Nat} {lv : List (Nat × Value)} {rest : List Value} {σ : St} {a : Nat} {K : Int32 → Option (α × St)} (hd : decode Y.1 pc = .ok (.arraylength, 1)) (h : ∀ x, GE em Y k n (pc + 1) lv (.int x :: rest) σ (K x)) : GE em Y k n pc lv (.ref a :: rest) σ ((aN σ a).bind K) := by
  intro x9 s9 he9
  obtain ⟨z, h1, h2⟩ := bind_some he9
  exact AW.alen hd h1 (h z x9 s9 h2)
theorem GE.iast {α : Type} {em : α → Option Value} {Y : MI} {k n pc : Nat} {lv : List (Nat × Value)} {rest : List Value} {σ : St} {a : Nat} {i : Int32} {x : Int32} {K : St → Option (α × St)} (hd : decode Y.1 pc = .ok (.iastore, 1)) (h : ∀ t, GE em Y k n (pc + 1) lv rest t (K t)) : GE em Y k n pc lv (.int x :: .int i :: .ref a :: rest) σ ((sI 0 σ a i x).bind K) := by
  intro x9 s9 he9 l p e s m args below meth c A D cy H locs ls hF hW hH hl
  obtain ⟨z, h1, h2⟩ := bind_some he9
  obtain ⟨z2, f, h3, h4, rfl⟩ := sI_spec h1
  obtain ⟨q0, hq⟩ := va_pl_get (X := []) (f := cF cy σ.2.2) (hH.2.2.2 a _ h3)
  have hq1 : (pool cy σ)[q0]? = some (a, cE cy (.inl (0, z2, .inl f))) := by rw [show (pool cy σ)[q0]? = _ from hq, cF_at h3]
  refine va_iast (a := a) (x := x) hF.1 hF.2.1 hW.1 hH.1 hH.2.1 hH.2.2.1 q0 0 hq1 rfl (inb_in h4) hd (fun H1 locs1 hP1 hD1 hS1 => ?_)
  exact h _ x9 s9 h2 l p e s m args below meth c A D cy H1 locs1 ls hF hW (Hd.set (e := .inl (0, z2, .inl (upd f i.toNatClampNeg x))) h3 hH.2.2.2 hH.2.1 hq hP1 hD1 hS1) hl
theorem GE.zast {α : Type} {em : α → Option Value} {Y : MI} {k n pc : Nat} {lv : List (Nat × Value)} {rest : List Value} {σ : St} {a : Nat} {i : Int32} {x : Int32} {K : St → Option (α × St)} (hd : decode Y.1 pc = .ok (.bastore, 1)) (h : ∀ t, GE em Y k n (pc + 1) lv rest t (K t)) : GE em Y k n pc lv (.int x :: .int i :: .ref a :: rest) σ (if zB x = true then (sI 1 σ a i x).bind K else Option.none) := by
  intro x9 s9 he9 l p e s m args below meth c A D cy H locs ls hF hW hH hl
  by_cases hz : zB x = true
  case neg => rw [if_neg hz] at he9; cases he9
  rw [if_pos hz] at he9
  obtain ⟨z, h1, h2⟩ := bind_some he9
  obtain ⟨z2, f, h3, h4, rfl⟩ := sI_spec h1
  obtain ⟨q0, hq⟩ := va_pl_get (X := []) (f := cF cy σ.2.2) (hH.2.2.2 a _ h3)
  have hq1 : (pool cy σ)[q0]? = some (a, cE cy (.inl (1, z2, .inl f))) := by rw [show (pool cy σ)[q0]? = _ from hq, cF_at h3]
  refine va_zast (a := a) (x := x) hF.1 hF.2.1 hW.1 hH.1 hH.2.1 hH.2.2.1 q0 1 hq1 rfl (inb_in h4) hd (fun H1 locs1 hP1 hD1 hS1 => ?_)
  rw [vp_nar_z hz] at hP1 hD1; exact h _ x9 s9 h2 l p e s m args below meth c A D cy H1 locs1 ls hF hW (Hd.set (e := .inl (1, z2, .inl (upd f i.toNatClampNeg x))) h3 hH.2.2.2 hH.2.1 hq hP1 hD1 hS1) hl
theorem GE.last {α : Type} {em : α → Option Value} {Y : MI} {k n pc : Nat} {lv : List (Nat × Value)} {rest : List Value} {σ : St} {a : Nat} {i : Int32} {x : Int64} {K : St → Option (α × St)} (hd : decode Y.1 pc = .ok (.lastore, 1)) (h : ∀ t, GE em Y k n (pc + 1) lv rest t (K t)) : GE em Y k n pc lv (.long x :: .int i :: .ref a :: rest) σ ((sL σ a i x).bind K) := by
  intro x9 s9 he9 l p e s m args below meth c A D cy H locs ls hF hW hH hl
  obtain ⟨z, h1, h2⟩ := bind_some he9
  obtain ⟨z2, f, h3, h4, rfl⟩ := sL_spec h1
  obtain ⟨q0, hq⟩ := va_pl_get (X := []) (f := cF cy σ.2.2) (hH.2.2.2 a _ h3)
  have hq1 : (pool cy σ)[q0]? = some (a, cE cy (.inl (3, z2, .inr (.inl f)))) := by rw [show (pool cy σ)[q0]? = _ from hq, cF_at h3]
  refine va_last (a := a) (x := x) hF.1 hF.2.1 hW.1 hH.1 hH.2.1 hH.2.2.1 q0 3 hq1 rfl (inb_in h4) hd (fun H1 locs1 hP1 hD1 hS1 => ?_)
  exact h _ x9 s9 h2 l p e s m args below meth c A D cy H1 locs1 ls hF hW (Hd.set (e := .inl (3, z2, .inr (.inl (vp_updL f i.toNatClampNeg x)))) h3 hH.2.2.2 hH.2.1 hq hP1 hD1 hS1) hl

/-- a place of a constant pool names a method; by a virtual call on the class C, a static call, a static call of a nest mate -/
def MLb (Yc : MI) (na : Nat) : Prop := wsOf Yc = Cond.code Yc.2.1 Yc.1 Yc.2.2.1 Yc.2.2.2.1 :: bigW ∧ Cond.code Yc.2.1 Yc.1 Yc.2.2.1 Yc.2.2.2.1 ∈ bigW ∧ Cond.initialized Yc.2.1.cls ∈ bigW ∧ (Yc.2.1.cls ≠ "java/lang/invoke/MethodHandle" ∧ Yc.2.1.cls ≠ "java/lang/invoke/VarHandle" ∧ (parseMethodDescriptor Yc.2.1.desc).map (fun d => d.parameters.length) = some na) ∧ Yc.2.2.1 ≤ 45
def MLv (own : String) (idx : Nat) (Yc : MI) (ci na : Nat) : Prop := MLb Yc na ∧ Cond.methodLink own idx Yc.2.1 ∈ bigW ∧ Cond.instanceMethod Yc.2.1 ∈ bigW ∧ Cond.selects Yc.2.1.cls Yc.2.1 Yc.2.1 ∈ bigW ∧ ∃ T N, vwCl[ci]? = some (Yc.2.1.cls, T, N)
def MLs (own : String) (idx : Nat) (Yc : MI) (na : Nat) : Prop := MLb Yc na ∧ Cond.methodLink own idx Yc.2.1 ∈ bigW ∧ Cond.static Yc.2.1 ∈ bigW
def MLn (own : String) (idx : Nat) (Yc : MI) (na : Nat) : Prop := MLb Yc na ∧ (∃ host, Cond.methodLinkNest own idx Yc.2.1 host ∈ nestW) ∧ Cond.static Yc.2.1 ∈ bigW
/-- room for a call: the ranks fall; what the callee makes has room -/
def Rok (Y Yc : MI) (k n : Nat) (rest : List Value) : Prop := Yc.2.2.2.2.2.2 + 1 ≤ Y.2.2.2.2.2.2 ∧ k + Yc.2.2.2.2.1 ≤ Y.2.2.2.2.1 ∧ n + Yc.2.2.2.2.2.1 ≤ Y.2.2.2.2.2.1 ∧ (rest.map fun v => v.category).sum ≤ 8
theorem Rok.room {Y Yc : MI} {k n na : Nat} {rest : List Value} (h : Rok Y Yc k n rest) (hb : MLb Yc na) : (rmOf Yc).frames + 1 ≤ (rmOf Y).frames ∧ 8 + (Yc.2.2.1 + 11) + (rmOf Yc).locals ≤ (rmOf Y).locals := by
  have h1 := h.1
  have h2 := hb.2.2.2.2
  refine ⟨h1, ?_⟩
  show 8 + (Yc.2.2.1 + 11) + 64 * Yc.2.2.2.2.2.2 ≤ 64 * Y.2.2.2.2.2.2
  omega

theorem AW.callv {Y : MI} {k n pc : Nat} {lv : List (Nat × Value)} {rest : List Value} {σ : St} {F : Option Value → St → Prop} {Yc : MI} {idx na b ci : Nat} {As : List Value} {F2 : Option Value → St → Prop} (hd : decode Y.1 pc = .ok (.invokevirtual idx, 3)) (hL : MLv Y.2.1.cls idx Yc ci na) (hna : As.length = na) (hR : Rok Y Yc k n rest) (hO : isO ci σ b = true) (hc : CT Yc (.ref b :: As) σ F2) (h : ∀ r t, F2 r t → t.1 = σ.1 → AW Y (k + Yc.2.2.2.2.1) (n + Yc.2.2.2.2.2.1) (pc + 3) lv (r.toList ++ rest) t F) : AW Y k n pc lv (As.reverse ++ .ref b :: rest) σ F := by
  intro l p e s m args below meth c A D cy H locs ls hF hW hH hl
  obtain ⟨f1, f2, f3, f4, f5, f6, f7, f8, f9⟩ := id hF
  have hcb := hL.1
  have hG : GoodIn (wsOf Y) (wsOf Yc) := goodCons hcb.2.1
  have hw : ∀ w ∈ bigW, w.before args s = true := fun w q => f5 w (List.mem_cons_of_mem _ q)
  refine callQ (F := F2) (va_runV (C := Yc.2.1.cls) (b := b) (As := As) (rest := rest) ⟨f1, f2, f3, f4, f5⟩ (hc l D cy H.size) ⟨callB_of na f5 hG rfl rfl rfl (hw _ hcb.2.2.1) (hw _ hL.2.1) hcb.2.2.2.1 (hR.room hcb), hw _ hL.2.2.1, hw _ hL.2.2.2.1⟩ ⟨PreC.blind, (by obtain ⟨fs, h1⟩ := isO_spec hO; obtain ⟨T, N, hcl⟩ := hL.2.2.2.2; exact va_recv hW.1 (hH.at (rd_obj hW h1)) hcl (q0 := 0) rfl), fun U hU hWm => ⟨rfl, hH.pre hW f8 hU hWm⟩⟩ rfl hna hl.1 rfl (lv_room hR.2.2.2) hd ⟨hR.2.1, hR.2.2.1⟩) hH f8 (fun r u H1 locs1 hr hH1 => ?_)
  exact h r (σ.1, u) hr rfl l p e s m args below meth c A D cy H1 locs1 ls hF hW hH1 hl
theorem GE.callv {α : Type} {em : α → Option Value} {Y : MI} {k n pc : Nat} {lv : List (Nat × Value)} {rest : List Value} {σ : St} {Yc : MI} {idx na b ci : Nat} {As : List Value} {β : Type} {em2 : β → Option Value} {E2 : Option (β × St)} {K : β → St → Option (α × St)} (hd : decode Y.1 pc = .ok (.invokevirtual idx, 3)) (hL : MLv Y.2.1.cls idx Yc ci na) (hna : As.length = na) (hR : Rok Y Yc k n rest) (hc : CE em2 Yc (.ref b :: As) σ E2) (h : ∀ x t, GE em Y (k + Yc.2.2.2.2.1) (n + Yc.2.2.2.2.2.1) (pc + 3) lv ((em2 x).toList ++ rest) t (K x t)) : GE em Y k n pc lv (As.reverse ++ .ref b :: rest) σ (if isO ci σ b = true then E2.bind (fun q => K q.1 q.2) else Option.none) := by
  intro x9 s9 he9
  by_cases hO : isO ci σ b = true
  case neg => rw [if_neg hO] at he9; cases he9
  rw [if_pos hO] at he9
  obtain ⟨z, h1, h2⟩ := bind_some he9
  refine AW.callv hd hL hna hR hO (hc z.1 z.2 h1) (fun r t hr ht => ?_)
  obtain ⟨rfl, rfl⟩ := hr
  exact h z.1 z.2 x9 s9 h2
theorem AW.calls {Y : MI} {k n pc : Nat} {lv : List (Nat × Value)} {rest : List Value} {σ : St} {F : Option Value → St → Prop} {Yc : MI} {idx na : Nat} {As : List Value} {F2 : Option Value → St → Prop} (hd : decode Y.1 pc = .ok (.invokestatic idx, 3)) (hL : MLs Y.2.1.cls idx Yc na) (hna : As.length = na) (hR : Rok Y Yc k n rest) (hc : CT Yc (As) σ F2) (h : ∀ r t, F2 r t → t.1 = σ.1 → AW Y (k + Yc.2.2.2.2.1) (n + Yc.2.2.2.2.2.1) (pc + 3) lv (r.toList ++ rest) t F) : AW Y k n pc lv (As.reverse ++ rest) σ F := by
  intro l p e s m args below meth c A D cy H locs ls hF hW hH hl
  obtain ⟨f1, f2, f3, f4, f5, f6, f7, f8, f9⟩ := id hF
  have hcb := hL.1
  have hG : GoodIn (wsOf Y) (wsOf Yc) := goodCons hcb.2.1
  have hw : ∀ w ∈ bigW, w.before args s = true := fun w q => f5 w (List.mem_cons_of_mem _ q)
  refine callQ (F := F2) (va_runS (As := As) (rest := rest) ⟨f1, f2, f3, f4, f5⟩ (hc l D cy H.size) ⟨callB_of na f5 hG rfl rfl rfl (hw _ hcb.2.2.1) (hw _ hL.2.1) hcb.2.2.2.1 (hR.room hcb), hw _ hL.2.2⟩ ⟨PreC.blind, fun U hU hWm => ⟨rfl, hH.pre hW f8 hU hWm⟩⟩ rfl hna hl.1 rfl (lv_room hR.2.2.2) hd ⟨hR.2.1, hR.2.2.1⟩) hH f8 (fun r u H1 locs1 hr hH1 => ?_)
  exact h r (σ.1, u) hr rfl l p e s m args below meth c A D cy H1 locs1 ls hF hW hH1 hl
theorem GE.calls {α : Type} {em : α → Option Value} {Y : MI} {k n pc : Nat} {lv : List (Nat × Value)} {rest : List Value} {σ : St} {Yc : MI} {idx na : Nat} {As : List Value} {β : Type} {em2 : β → Option Value} {E2 : Option (β × St)} {K : β → St → Option (α × St)} (hd : decode Y.1 pc = .ok (.invokestatic idx, 3)) (hL : MLs Y.2.1.cls idx Yc na) (hna : As.length = na) (hR : Rok Y Yc k n rest) (hc : CE em2 Yc (As) σ E2) (h : ∀ x t, GE em Y (k + Yc.2.2.2.2.1) (n + Yc.2.2.2.2.2.1) (pc + 3) lv ((em2 x).toList ++ rest) t (K x t)) : GE em Y k n pc lv (As.reverse ++ rest) σ (E2.bind (fun q => K q.1 q.2)) := by
  intro x9 s9 he9
  obtain ⟨z, h1, h2⟩ := bind_some he9
  refine AW.calls hd hL hna hR (hc z.1 z.2 h1) (fun r t hr ht => ?_)
  obtain ⟨rfl, rfl⟩ := hr
  exact h z.1 z.2 x9 s9 h2
theorem AW.calln {Y : MI} {k n pc : Nat} {lv : List (Nat × Value)} {rest : List Value} {σ : St} {F : Option Value → St → Prop} {Yc : MI} {idx na : Nat} {As : List Value} {F2 : Option Value → St → Prop} (hd : decode Y.1 pc = .ok (.invokestatic idx, 3)) (hL : MLn Y.2.1.cls idx Yc na) (hna : As.length = na) (hR : Rok Y Yc k n rest) (hc : CT Yc (As) σ F2) (h : ∀ r t, F2 r t → t.1 = σ.1 → AW Y (k + Yc.2.2.2.2.1) (n + Yc.2.2.2.2.2.1) (pc + 3) lv (r.toList ++ rest) t F) : AW Y k n pc lv (As.reverse ++ rest) σ F := by
  intro l p e s m args below meth c A D cy H locs ls hF hW hH hl
  obtain ⟨f1, f2, f3, f4, f5, f6, f7, f8, f9⟩ := id hF
  have hcb := hL.1
  have hG : GoodIn (wsOf Y) (wsOf Yc) := goodCons hcb.2.1
  have hw : ∀ w ∈ bigW, w.before args s = true := fun w q => f5 w (List.mem_cons_of_mem _ q)
  refine callQ (F := F2) (va_runSN (host := hL.2.1.choose) (As := As) (rest := rest) ⟨f1, f2, f3, f4, f5⟩ (hc l D cy H.size) ⟨va_cnB na f5 hG rfl rfl rfl (hW.2.1 _ hL.2.1.choose_spec) (hw _ hcb.2.2.1) hcb.2.2.2.1 (hR.room hcb), hw _ hL.2.2, trivial⟩ ⟨PreC.blind, fun U hU hWm => ⟨rfl, hH.pre hW f8 hU hWm⟩⟩ rfl hna hl.1 rfl (lv_room hR.2.2.2) hd ⟨hR.2.1, hR.2.2.1⟩) hH f8 (fun r u H1 locs1 hr hH1 => ?_)
  exact h r (σ.1, u) hr rfl l p e s m args below meth c A D cy H1 locs1 ls hF hW hH1 hl
theorem GE.calln {α : Type} {em : α → Option Value} {Y : MI} {k n pc : Nat} {lv : List (Nat × Value)} {rest : List Value} {σ : St} {Yc : MI} {idx na : Nat} {As : List Value} {β : Type} {em2 : β → Option Value} {E2 : Option (β × St)} {K : β → St → Option (α × St)} (hd : decode Y.1 pc = .ok (.invokestatic idx, 3)) (hL : MLn Y.2.1.cls idx Yc na) (hna : As.length = na) (hR : Rok Y Yc k n rest) (hc : CE em2 Yc (As) σ E2) (h : ∀ x t, GE em Y (k + Yc.2.2.2.2.1) (n + Yc.2.2.2.2.2.1) (pc + 3) lv ((em2 x).toList ++ rest) t (K x t)) : GE em Y k n pc lv (As.reverse ++ rest) σ (E2.bind (fun q => K q.1 q.2)) := by
  intro x9 s9 he9
  obtain ⟨z, h1, h2⟩ := bind_some he9
  refine AW.calln hd hL hna hR (hc z.1 z.2 h1) (fun r t hr ht => ?_)
  obtain ⟨rfl, rfl⟩ := hr
  exact h z.1 z.2 x9 s9 h2
