
/-! making cells -/
def nf (σ : St) (q : Nat) : Prop := q ∉ σ.2.1 ∧ σ.2.2 q = none ∧ σ.1.2 q = none
def nw (σ : St) (q : Nat) (e : aE) : St := (σ.1, σ.2.1 ++ [q], up σ.2.2 q e)
theorem pool_nw {cy : Nat → Nat} {σ : St} {q : Nat} {e : aE} (h : q ∉ σ.2.1) : pool cy (nw σ q e) = pool cy σ ++ [(q, cE cy e)] := by
  show va_pl (σ.2.1 ++ [q]) (cF cy (up σ.2.2 q e)) = _
  rw [cF_up]
  exact (va_pl_push h).symm
theorem Hd.made {D : va_G} {cy : Nat → Nat} {A : Nat → Prop} {σ : St} {s : State} {H1 : Heap} {locs : List Loc} {q : Nat} {e : aE} (hW : Wd D cy A σ.1 s) (hok : okL σ) (hP : va_P D vwCl (pool cy σ ++ [(q, cE cy e)]) H1) (hD : va_D A (pool cy σ ++ [(q, cE cy e)])) (hS : va_S A s.heap H1 locs) : nf σ q ∧ Hd D cy A (nw σ q e) s H1 locs := by
  have hq : (pool cy σ ++ [(q, cE cy e)])[(pool cy σ).length]? = some (q, cE cy e) := by simp
  have hn : q ∉ σ.2.1 := by
    intro hin
    obtain ⟨j, hj⟩ := va_pl_get (X := []) (f := cF cy σ.2.2) hin
    have hj1 : (pool cy σ)[j]? = some (q, cF cy σ.2.2 q) := hj
    have hlt : j < (pool cy σ).length := (List.getElem?_eq_some_iff.mp hj1).1
    have hj2 : (pool cy σ ++ [(q, cE cy e)])[j]? = some (q, cF cy σ.2.2 q) := by rw [List.getElem?_append_left hlt]; exact hj1
    have := hD.1 j _ _ _ hj2 hq rfl
    omega
  have hA : A q := hD.2 _ _ hq
  have hf : σ.2.2 q = none := by
    cases hz : σ.2.2 q with
    | none => rfl
    | some x => exact absurd (hok q x hz) hn
  have hz : σ.1.2 q = none := by
    cases hz : σ.1.2 q with
    | none => rfl
    | some x => exact absurd hA (hW.2.2.1 q x hz).out
  refine ⟨⟨hn, hf, hz⟩, by rw [pool_nw hn]; exact hP, by rw [pool_nw hn]; exact hD, hS, fun b x hb => ?_⟩
  by_cases h : b = q
  · exact List.mem_append_right _ (by rw [h]; exact List.mem_singleton.mpr rfl)
  · exact List.mem_append_left _ (hok b x (by rw [← hb]; exact (up_n _ _ h).symm))
theorem AW.new {Y : MI} {k n pc : Nat} {lv : List (Nat × Value)} {rest : List Value} {σ : St} {F : Option Value → St → Prop} {idx ci N : Nat} {C : String} {T : u_T} {ty : Nat → FieldType} {fs : List Value} (hd : decode Y.1 pc = .ok (.new idx, 3)) (hC : CLs ci C T N ty) (h1 : Cond.classLink Y.2.1.cls idx C ∈ bigW) (h2 : Cond.instantiable C N ∈ bigW) (h3 : Cond.initialized C ∈ bigW) (hfs : ∀ j, j < N → defaultValue (ty j) = vp_V fs j) (hk : k + 1 ≤ Y.2.2.2.2.1) (hn : n + N ≤ Y.2.2.2.2.2.1) (h : ∀ q, nf σ q → AW Y (k + 1) (n + N) (pc + 3) lv (.ref q :: rest) (nw σ q (.inr (ci, fs))) F) : AW Y k n pc lv rest σ F := by
  intro l p e s m args below meth c A D cy H locs ls hF hW hH hl
  obtain ⟨f1, f2, f3, f4, f5, f6, f7, f8, f9⟩ := id hF
  have hw : ∀ w ∈ bigW, w.before args s = true := fun w q => f5 w (List.mem_cons_of_mem _ q)
  refine va_new (ci := ci) (fs := fs) (C := C) (T := T) (N := N) f1 f2 f5 (fun w q => List.mem_cons_of_mem _ (hC.2.1 w q)) ty hC.2.2.1 f4 (hw _ h1) (hw _ h2) (hw _ h3) hW.1 hH.1 hH.2.1 hH.2.2.1 f8 hC.1 hfs hk hn hd (fun q H1 hP1 hD1 hS1 => ?_)
  obtain ⟨g1, g2⟩ := Hd.made (e := .inr (ci, fs)) hW hH.2.2.2 hP1 hD1 hS1
  exact h q g1 l p e s m args below meth c A D cy H1 locs ls hF hW g2 hl
theorem same_arr {D : va_G} {cy : Nat → Nat} {s : State} {cA : ClassId} {t : Nat} {ty : FieldType} (h0 : (tyL cy)[t]? = some (cy t, ty)) (hK : va_K D vwCl (tyL cy ++ [(cA, ty)]) s) : cA = cy t := by
  have hl : t < (tyL cy).length := (List.getElem?_eq_some_iff.mp h0).1
  have h1 := (hK.2 t (cy t, ty) (by rw [List.getElem?_append_left hl]; exact h0)).2
  have h2 := (hK.2 (tyL cy).length (cA, ty) (by simp)).2
  cases ty with
  | object C =>
    obtain ⟨-, -, -, -, -, e1⟩ := h1
    obtain ⟨-, -, -, -, -, e2⟩ := h2
    exact Option.some.inj (e2.symm.trans e1)
  | _ => exact Option.some.inj ((show s.vm.findClass _ = some cA from h2).symm.trans h1)

theorem AW.newI {Y : MI} {k n pc : Nat} {lv : List (Nat × Value)} {rest : List Value} {σ : St} {F : Option Value → St → Prop} {z : Int32} {N : Nat} (hd : decode Y.1 pc = .ok (.newarray .int, 2)) (hw0 : Cond.arrayClass .int ∈ bigW) (hz : ¬ z < 0) (hN : z.toNatClampNeg = N) (hb : N * componentBytes .int ≤ 536870912) (hk : k + 1 ≤ Y.2.2.2.2.1) (hn : n + N ≤ Y.2.2.2.2.2.1) (h : ∀ q, nf σ q → AW Y (k + 1) (n + N) (pc + 2) lv (.ref q :: rest) (nw σ q (.inl (0, N, .inl (fun _ => 0)))) F) : AW Y k n pc lv (.int z :: rest) σ F := by
  intro l p e s m args below meth c A D cy H locs ls hF hW hH hl
  obtain ⟨f1, f2, f3, f4, f5, f6, f7, f8, f9⟩ := id hF
  have hw : ∀ w ∈ bigW, w.before args s = true := fun w q => f5 w (List.mem_cons_of_mem _ q)
  refine va_newa (atype := .int) (ty := .int) (a0 := (N, .inl (fun _ => 0))) f1 f2 (hw _ hw0) rfl hW.1 hH.1 hH.2.1 hH.2.2.1 f8 (fun cA => rfl) hz hN hb hk hn hd (fun q cA H1 hK1 hP1 hD1 hS1 => ?_)
  have e0 := same_arr (t := 0) rfl hK1
  subst e0
  obtain ⟨g1, g2⟩ := Hd.made (e := .inl (0, N, .inl (fun _ => 0))) hW hH.2.2.2 hP1 hD1 hS1
  exact h q g1 l p e s m args below meth c A D cy H1 locs ls hF hW g2 hl
theorem AW.newZ {Y : MI} {k n pc : Nat} {lv : List (Nat × Value)} {rest : List Value} {σ : St} {F : Option Value → St → Prop} {z : Int32} {N : Nat} (hd : decode Y.1 pc = .ok (.newarray .boolean, 2)) (hw0 : Cond.arrayClass .boolean ∈ bigW) (hz : ¬ z < 0) (hN : z.toNatClampNeg = N) (hb : N * componentBytes .boolean ≤ 536870912) (hk : k + 1 ≤ Y.2.2.2.2.1) (hn : n + N ≤ Y.2.2.2.2.2.1) (h : ∀ q, nf σ q → AW Y (k + 1) (n + N) (pc + 2) lv (.ref q :: rest) (nw σ q (.inl (1, N, .inl (fun _ => 0)))) F) : AW Y k n pc lv (.int z :: rest) σ F := by
  intro l p e s m args below meth c A D cy H locs ls hF hW hH hl
  obtain ⟨f1, f2, f3, f4, f5, f6, f7, f8, f9⟩ := id hF
  have hw : ∀ w ∈ bigW, w.before args s = true := fun w q => f5 w (List.mem_cons_of_mem _ q)
  refine va_newa (atype := .boolean) (ty := .boolean) (a0 := (N, .inl (fun _ => 0))) f1 f2 (hw _ hw0) rfl hW.1 hH.1 hH.2.1 hH.2.2.1 f8 (fun cA => rfl) hz hN hb hk hn hd (fun q cA H1 hK1 hP1 hD1 hS1 => ?_)
  have e0 := same_arr (t := 1) rfl hK1
  subst e0
  obtain ⟨g1, g2⟩ := Hd.made (e := .inl (1, N, .inl (fun _ => 0))) hW hH.2.2.2 hP1 hD1 hS1
  exact h q g1 l p e s m args below meth c A D cy H1 locs ls hF hW g2 hl
theorem AW.newL {Y : MI} {k n pc : Nat} {lv : List (Nat × Value)} {rest : List Value} {σ : St} {F : Option Value → St → Prop} {z : Int32} {N : Nat} (hd : decode Y.1 pc = .ok (.newarray .long, 2)) (hw0 : Cond.arrayClass .long ∈ bigW) (hz : ¬ z < 0) (hN : z.toNatClampNeg = N) (hb : N * componentBytes .long ≤ 536870912) (hk : k + 1 ≤ Y.2.2.2.2.1) (hn : n + N ≤ Y.2.2.2.2.2.1) (h : ∀ q, nf σ q → AW Y (k + 1) (n + N) (pc + 2) lv (.ref q :: rest) (nw σ q (.inl (3, N, .inr (.inl (fun _ => 0))))) F) : AW Y k n pc lv (.int z :: rest) σ F := by
  intro l p e s m args below meth c A D cy H locs ls hF hW hH hl
  obtain ⟨f1, f2, f3, f4, f5, f6, f7, f8, f9⟩ := id hF
  have hw : ∀ w ∈ bigW, w.before args s = true := fun w q => f5 w (List.mem_cons_of_mem _ q)
  refine va_newa (atype := .long) (ty := .long) (a0 := (N, .inr (.inl (fun _ => 0)))) f1 f2 (hw _ hw0) rfl hW.1 hH.1 hH.2.1 hH.2.2.1 f8 (fun cA => rfl) hz hN hb hk hn hd (fun q cA H1 hK1 hP1 hD1 hS1 => ?_)
  have e0 := same_arr (t := 3) rfl hK1
  subst e0
  obtain ⟨g1, g2⟩ := Hd.made (e := .inl (3, N, .inr (.inl (fun _ => 0)))) hW hH.2.2.2 hP1 hD1 hS1
  exact h q g1 l p e s m args below meth c A D cy H1 locs ls hF hW g2 hl
theorem AW.newQ {Y : MI} {k n pc : Nat} {lv : List (Nat × Value)} {rest : List Value} {σ : St} {F : Option Value → St → Prop} {z : Int32} {N idx : Nat} (hd : decode Y.1 pc = .ok (.anewarray idx, 3)) (h1 : Cond.classLink Y.2.1.cls idx "BlindSpots$Law" ∈ bigW) (hz : ¬ z < 0) (hN : z.toNatClampNeg = N) (hb : N * 4 ≤ 536870912) (hk : k + 1 ≤ Y.2.2.2.2.1) (hn : n + N ≤ Y.2.2.2.2.2.1) (h : ∀ q, nf σ q → AW Y (k + 1) (n + N) (pc + 3) lv (.ref q :: rest) (nw σ q (.inl (2, N, .inr (.inr (.inr (.inr (fun _ => none))))))) F) : AW Y k n pc lv (.int z :: rest) σ F := by
  intro l p e s m args below meth c A D cy H locs ls hF hW hH hl
  obtain ⟨f1, f2, f3, f4, f5, f6, f7, f8, f9⟩ := id hF
  have hw : ∀ w ∈ bigW, w.before args s = true := fun w q => f5 w (List.mem_cons_of_mem _ q)
  refine va_newq f1 f2 f4 (hw _ h1) hW.2.2.2.2 hW.1 hH.1 hH.2.1 hH.2.2.1 f8 hz hN hb hk hn hd (fun q cA H1 hK1 hP1 hD1 hS1 => ?_)
  have e0 := same_arr (t := 2) rfl hK1
  subst e0
  obtain ⟨g1, g2⟩ := Hd.made (e := .inl (2, N, .inr (.inr (.inr (.inr (fun _ => none)))))) hW hH.2.2.2 hP1 hD1 hS1
  exact h q g1 l p e s m args below meth c A D cy H1 locs ls hF hW g2 hl
theorem AW.objInit {Y : MI} {k n pc : Nat} {lv : List (Nat × Value)} {rest : List Value} {σ : St} {F : Option Value → St → Prop} {idx a : Nat} (hd : decode Y.1 pc = .ok (.invokespecial idx, 3)) (h1 : Cond.methodLink Y.2.1.cls idx Lib.objectInit ∈ bigW) (h2 : Cond.instanceMethod Lib.objectInit ∈ bigW) (h3 : Cond.code Lib.objectInit ⟨#[0xb1]⟩ 1 none ∈ bigW) (hr : 1 ≤ Y.2.2.2.2.2.2) (hs : (rest.map fun v => v.category).sum ≤ 8) (h : AW Y k n (pc + 3) lv rest σ F) : AW Y k n pc lv (.ref a :: rest) σ F := by
  intro l p e s m args below meth c A D cy H locs ls hF hW hH hl
  obtain ⟨f1, f2, f3, f4, f5, f6, f7, f8, f9⟩ := id hF
  have hw : ∀ w ∈ bigW, w.before args s = true := fun w q => f5 w (List.mem_cons_of_mem _ q)
  exact W.objInit f1 f2 f4 (hw _ h1) (hw _ h2) (hw _ h3) rfl (by rw [f3]; exact hl.1) rfl hd hr (by show 2 * 0 + _ + 12 ≤ 64 * Y.2.2.2.2.2.2; omega) (h l p e s m args below meth c A D cy H locs ls hF hW hH hl)
def MLi (own : String) (idx : Nat) (Yc : MI) (na : Nat) : Prop := MLb Yc na ∧ (Cond.methodLink own idx Yc.2.1 ∈ bigW ∨ ∃ host, Cond.methodLinkNest own idx Yc.2.1 host ∈ nestW) ∧ Cond.instanceMethod Yc.2.1 ∈ bigW ∧ Yc.2.1.name = "<init>" ∧ Yc.2.2.2.1 = none
theorem AW.calli {Y : MI} {k n pc : Nat} {lv : List (Nat × Value)} {rest : List Value} {σ : St} {F : Option Value → St → Prop} {Yc : MI} {idx na b : Nat} (As : List Value) {F2 : Option Value → St → Prop} (hd : decode Y.1 pc = .ok (.invokespecial idx, 3)) (hL : MLi Y.2.1.cls idx Yc na) (hna : As.length = na) (hR : Rok Y Yc k n rest) (hc : CT Yc (.ref b :: As) σ F2) (h : ∀ r t, F2 r t → t.1 = σ.1 → AW Y (k + Yc.2.2.2.2.1) (n + Yc.2.2.2.2.2.1) (pc + 3) lv (r.toList ++ rest) t F) : AW Y k n pc lv (As.reverse ++ .ref b :: rest) σ F := by
  intro l p e s m args below meth c A D cy H locs ls hF hW hH hl
  obtain ⟨f1, f2, f3, f4, f5, f6, f7, f8, f9⟩ := id hF
  obtain ⟨hcb, hlk, hin, hnm, hrt⟩ := hL
  have hG : GoodIn (wsOf Y) (wsOf Yc) := goodCons hcb.2.1
  have hw : ∀ w ∈ bigW, w.before args s = true := fun w q => f5 w (List.mem_cons_of_mem _ q)
  have hwc : wsOf Yc = Cond.code Yc.2.1 Yc.1 Yc.2.2.1 none :: bigW := by unfold wsOf; rw [hrt]
  rcases hlk with hlk | ⟨host, hlk⟩
  · refine callQ (F := F2) (va_runI (As := As) (rest := rest) ⟨f1, f2, f3, f4, f5⟩ (hc l D cy H.size) ⟨callB_of na f5 hG hwc rfl rfl (hw _ hcb.2.2.1) (hw _ hlk) hcb.2.2.2.1 (hR.room hcb), hnm, hw _ hin⟩ ⟨PreC.blind, fun U hU hWm => ⟨rfl, hH.pre hW f8 hU hWm⟩⟩ rfl hna hl.1 rfl (lv_room hR.2.2.2) hd ⟨hR.2.1, hR.2.2.1⟩) hH f8 (fun r u H1 locs1 hr hH1 => ?_)
    exact h r (σ.1, u) hr rfl l p e s m args below meth c A D cy H1 locs1 ls hF hW hH1 hl
  · refine callQ (F := F2) (va_runIN (host := host) (As := As) (rest := rest) ⟨f1, f2, f3, f4, f5⟩ (hc l D cy H.size) ⟨va_cnB na f5 hG hwc rfl rfl (hW.2.1 _ hlk) (hw _ hcb.2.2.1) hcb.2.2.2.1 (hR.room hcb), hnm, hw _ hin⟩ ⟨PreC.blind, fun U hU hWm => ⟨rfl, hH.pre hW f8 hU hWm⟩⟩ rfl hna hl.1 rfl (lv_room hR.2.2.2) hd ⟨hR.2.1, hR.2.2.1⟩) hH f8 (fun r u H1 locs1 hr hH1 => ?_)
    exact h r (σ.1, u) hr rfl l p e s m args below meth c A D cy H1 locs1 ls hF hW hH1 hl
/-- a law laid into the row of laws -/
def sQ (σ : St) (a : Nat) (i : Int32) (v : Nat) : Option St := match σ.2.2 a, σ.2.2 v with
  | some (.inl (u, z, .inr (.inr (.inr (.inr f))))), some (.inr w) => if u = 2 ∧ w.1 = 3 ∧ inb i z then some (σ.1, σ.2.1, up σ.2.2 a (.inl (u, z, .inr (.inr (.inr (.inr (va_up f i.toNatClampNeg (some v)))))))) else none
  | _, _ => none
theorem AW.aast {Y : MI} {k n pc : Nat} {lv : List (Nat × Value)} {rest : List Value} {σ : St} {F : Option Value → St → Prop} {a v : Nat} {i : Int32} {s' : St} (hd : decode Y.1 pc = .ok (.aastore, 1)) (hs : sQ σ a i v = some s') (h : AW Y k n (pc + 1) lv rest s' F) : AW Y k n pc lv (.ref v :: .int i :: .ref a :: rest) σ F := by
  intro l p e s m args below meth c A D cy H locs ls hF hW hH hl
  unfold sQ at hs
  split at hs
  · rename_i u z f w h1 h2
    by_cases hc : u = 2 ∧ w.1 = 3 ∧ inb i z
    · rw [if_pos hc] at hs
      obtain ⟨rfl, hw3, hi⟩ := hc
      obtain rfl := (Option.some.inj hs).symm
      obtain ⟨q0, hq⟩ := va_pl_get (X := []) (f := cF cy σ.2.2) (hH.2.2.2 a _ h1)
      obtain ⟨q1, hq'⟩ := va_pl_get (X := []) (f := cF cy σ.2.2) (hH.2.2.2 v _ h2)
      have hq1 : (pool cy σ)[q0]? = some (a, .inl (cy 2, z, .inr (.inr (.inr (.inr f))))) := by rw [show (pool cy σ)[q0]? = _ from hq, cF_at h1]; rfl
      have hq2 : (pool cy σ)[q1]? = some (v, .inr (3, w.2)) := by rw [show (pool cy σ)[q1]? = _ from hq', cF_at h2, ← hw3]; rfl
      refine va_astq (r := (RX3, TX3, 2)) hF.1 hF.2.1 hW.1 hH.1 hH.2.1 hH.2.2.1 q0 2 q1 3 hq1 rfl hq2 rfl (inb_in hi) hd (fun H1 locs1 hP1 hD1 hS1 => ?_)
      exact h l p e s m args below meth c A D cy H1 locs1 ls hF hW (Hd.set (e := .inl (2, z, .inr (.inr (.inr (.inr (va_up f i.toNatClampNeg (some v))))))) h1 hH.2.2.2 hH.2.1 hq hP1 hD1 hS1) hl
    · rw [if_neg hc] at hs; cases hs
  · cases hs

theorem AW.at {Y : MI} {k n pc k2 n2 : Nat} {lv : List (Nat × Value)} {st st2 : List Value} {σ : St} {F : Option Value → St → Prop} (h1 : st = st2) (h2 : k = k2) (h3 : n = n2) (h : AW Y k2 n2 pc lv st2 σ F) : AW Y k n pc lv st σ F := by
  subst h1; subst h2; subst h3; exact h
theorem AW.widen {Y : MI} {k n pc k2 n2 : Nat} {lv : List (Nat × Value)} {st : List Value} {σ : St} {F : Option Value → St → Prop} (h1 : k ≤ k2) (h2 : n ≤ n2) (h : AW Y k2 n2 pc lv st σ F) : AW Y k n pc lv st σ F := by
  intro l p e s m args below meth c A D cy H locs ls hF hW hH hl
  exact W.widen h1 h2 (h l p e s m args below meth c A D cy H locs ls hF hW hH hl)
theorem AW.aretI {Y : MI} {k n pc : Nat} {lv : List (Nat × Value)} {σ : St} {F : Option Value → St → Prop} {x : Option Nat} (hd : decode Y.1 pc = .ok (.areturn, 1)) {C : FieldType} (hr : Y.2.2.2.1 = some (.array C)) (hk : k ≤ Y.2.2.2.2.1) (hn : n ≤ Y.2.2.2.2.2.1) (h : F (vQ x) σ) : AW Y k n pc lv ([va_rf x]) σ F := by
  intro l p e s m args below meth c A D cy H locs ls hF hW hH hl
  refine W.widen hk hn ?_
  obtain ⟨f1, f2, f3, f4, f5, f6, f7, f8, f9⟩ := hF
  exact W.aret f1 f2 (f6.trans hr) (Or.inr ⟨C, rfl⟩) (va_rf_or x) (fun t ht hW2 => ⟨⟨vQ x, σ.2, rfl, h, by rw [ht]; exact hH.1, hH.2.1, hH.2.2.2⟩, hH.2.2.1.F ht⟩) hH.2.2.1.2.2 hd (hlocks := f7)

