/-! the law's helper: tower, with the throw caught -/
def ltH : List (Nat × Nat × Nat × Nat) := [(0, 10, 13, 13)]
def wsL : List Cond := Cond.codeWith yL_tower cL_tower 5 (some .int) ltH :: bigW
def rmL : Room := { frames := 7, cells := 1, slots := 6, locals := 512 }
theorem ltCd : Cond.codeWith yL_tower cL_tower 5 (some .int) ltH ∈ bigW := List.mem_filter.mpr ⟨by decide +kernel, rfl⟩
theorem ltK : Cond.classLink RL 13 nseC ∈ bigW := List.mem_filter.mpr ⟨by decide +kernel, rfl⟩
theorem lV_L_7 : MLv RL 7 mX9_tower 9 2 := ⟨bX9_tower, List.mem_filter.mpr ⟨by decide +kernel, rfl⟩, List.mem_filter.mpr ⟨by decide +kernel, rfl⟩, List.mem_filter.mpr ⟨by decide +kernel, rfl⟩, ⟨_, _, rfl⟩⟩
def LT (l : Launch) (D : va_G) (cy : Nat → Nat) (σ : St) (sz sa : Nat) (av : List Value) (F : Option Value → St → Prop) : Prop := Met l yL_tower wsL rmL (va_Pc av (PreX D cy σ sz sa)) (QQ D cy (va_A (pool cy σ) sz) σ.1 F) 1 6 (va_A (pool cy σ) sz)
/-- it answers: the answer goes to the row's first place -/
theorem lt_a (l : Launch) {D : va_G} {cy : Nat → Nat} {σ t t2 : St} {sz sa x ou : Nat} {v w r : Int32} (hO : isO 9 σ x = true) (h1 : fX9_tower σ x v w = some (r, t)) (h2 : sL t ou 0 r.toInt64 = some t2) : LT l D cy σ sz sa [.ref x, .int v, .int w, .ref ou] (fun q u => q = vI 0 ∧ u = t2) := by
  refine va_MetW (hh := ltH) (cc := cL_tower) (maxL := 5) (ret := some .int) (by decide +kernel) rfl ?_
  intro p e s m args below meth c s₁ B hml hv
  obtain ⟨rfl, ⟨hsz, hP, hD0, hok, hWd⟩, hX⟩ := hv
  have hts := atoms_spec (ws := wsL) B.pre
  have hown : s.vm.findClass RL = some m.cls := findClass_of_methodNamed B.named
  subst hsz
  have hD := hD0.self (sz := s.heap.size)
  have hl := lv_entry [.ref x, .int v, .int w, .ref ou] (n := 5) (Nat.le_of_ble_eq_true rfl)
  rw [lg_entry_eq]
  have hw : ∀ w ∈ bigW, w.before _ s = true := fun w q => hts w (List.mem_cons_of_mem _ q)
  have hA : ∀ q, s.heap.size ≤ q → va_A (pool cy σ) s.heap.size q := fun q hq => Or.inr hq
  have hH : Hd D cy (va_A (pool cy σ) s.heap.size) σ s s.heap [] := ⟨hP, hD, va_S.rf, hok⟩
  refine lv_aload_n B.exec B.bytes dL_tower_0 rfl (lv_at hl 3 rfl) ?_
  refine lv_iconst B.exec B.bytes dL_tower_1 kI_0 ?_
  refine lv_aload_n B.exec B.bytes dL_tower_2 rfl (lv_at hl 0 rfl) ?_
  refine lv_iload_n B.exec B.bytes dL_tower_3 rfl (lv_at hl 1 rfl) ?_
  refine lv_iload_n B.exec B.bytes dL_tower_4 rfl (lv_at hl 2 rfl) ?_
  have hL := lV_L_7
  have hcb := hL.1
  refine callQ (F := fun q u => q = vI r ∧ u = t) (va_runV (C := RX9) (b := x) (As := [.int v, .int w]) (rest := [.int 0, .ref ou]) ⟨B.exec, B.bytes, hml, hown, hts⟩ (gX9_tower σ x v w r t h1 l D cy s.heap.size) ⟨callB_of 2 hts (goodCons hcb.2.1) rfl rfl rfl (hw _ hcb.2.2.1) (hw _ hL.2.1) hcb.2.2.2.1 ⟨by decide, by decide⟩, hw _ hL.2.2.1, hw _ hL.2.2.2.1⟩ ⟨PreC.blind, (by obtain ⟨fs, q1⟩ := isO_spec hO; obtain ⟨T, N, hcl⟩ := hL.2.2.2.2; exact va_recv hWd.1 (hH.at (rd_obj hWd q1)) hcl (q0 := 0) rfl), fun U hU hWm => ⟨rfl, hH.pre hWd hA hU hWm⟩⟩ rfl rfl hl.1 rfl (lv_room (Nat.le_of_ble_eq_true rfl)) dL_tower_5 ⟨by decide, by decide⟩) hH hA (fun q u H1 locs1 hr hH1 => ?_)
  obtain ⟨rfl, hu⟩ := hr
  rw [hu] at hH1
  show W p l e _ s m _ below meth c H1 locs1 0 0 _ (F0 m 8 _ [.int r, .int 0, .ref ou])
  refine lv_i2l B.exec B.bytes dL_tower_8 rfl ?_
  obtain ⟨z2, f, h3, h4, rfl⟩ := sL_spec h2
  obtain ⟨q0, hq⟩ := va_pl_get (X := []) (f := cF cy t.2.2) (hH1.2.2.2 ou _ h3)
  have hq1 : (pool cy t)[q0]? = some (ou, cE cy (.inl (3, z2, .inr (.inl f)))) := by rw [show (pool cy t)[q0]? = _ from hq, cF_at h3]
  refine va_last (a := ou) (x := r.toInt64) B.exec B.bytes hWd.1 hH1.1 hH1.2.1 hH1.2.2.1 q0 3 hq1 rfl (inb_in h4) dL_tower_9 (fun H2 locs2 hP2 hD2 hS2 => ?_)
  have hH2 := Hd.set (e := .inl (3, z2, .inr (.inl (vp_updL f (0 : Int32).toNatClampNeg r.toInt64)))) h3 hH1.2.2.2 hH1.2.1 hq hP2 hD2 hS2
  refine lv_goto (tgt := 17) B.exec B.bytes dL_tower_10 (by decide) ?_
  refine lv_iconst B.exec B.bytes dL_tower_17 kI_0 ?_
  refine W.widen (k := 1) (n := 6) (by decide) (by decide) ?_
  have ht1 : σ.1 = t.1 := by rw [← hu]
  exact W.iret B.exec B.bytes B.returns (fun u hu2 hW2 => ⟨⟨vI 0, (t.2.1, up t.2.2 ou (.inl (3, z2, .inr (.inl (vp_updL f (0 : Int32).toNatClampNeg r.toInt64))))), rfl, ⟨rfl, by rw [ht1]⟩, by rw [hu2]; exact hH2.1, hH2.2.1, hH2.2.2.2⟩, hH2.2.2.1.F hu2⟩) hH2.2.2.1.2.2 dL_tower_18 (hlocks := B.notSynchronized)
/-- it throws: the throw is caught, nothing is changed -/
theorem lt_b (l : Launch) (hst : l.stackTraces = false) {D : va_G} {cy : Nat → Nat} {σ : St} {sz sa x ou a1 : Nat} {v w b : Int32} (hO : isO 9 σ x = true) (h1 : gR 9 8 σ x = some a1) (hO7 : isO 7 σ a1 = true) (h2 : fX7_hasTower σ a1 v = some (b, σ)) (h3 : b = 0 ∨ w < 0 ∨ ¬ w ≤ 5) : LT l D cy σ sz sa [.ref x, .int v, .int w, .ref ou] (fun q u => q = vI 1 ∧ u = σ) := by
  refine va_MetW (hh := ltH) (cc := cL_tower) (maxL := 5) (ret := some .int) (by decide +kernel) rfl ?_
  intro p e s m args below meth c s₁ B hml hv
  obtain ⟨rfl, ⟨hsz, hP, hD0, hok, hWd⟩, hX⟩ := hv
  have hts := atoms_spec (ws := wsL) B.pre
  have hown : s.vm.findClass RL = some m.cls := findClass_of_methodNamed B.named
  subst hsz
  have hD := hD0.self (sz := s.heap.size)
  have hl := lv_entry [.ref x, .int v, .int w, .ref ou] (n := 5) (Nat.le_of_ble_eq_true rfl)
  rw [lg_entry_eq]
  have hw : ∀ w ∈ bigW, w.before _ s = true := fun w q => hts w (List.mem_cons_of_mem _ q)
  have hA : ∀ q, s.heap.size ≤ q → va_A (pool cy σ) s.heap.size q := fun q hq => Or.inr hq
  have hH : Hd D cy (va_A (pool cy σ) s.heap.size) σ s s.heap [] := ⟨hP, hD, va_S.rf, hok⟩
  have htab : c.exceptionTable.toList = tableOf ltH := vx_table (x := yL_tower) B (hts _ List.mem_cons_self)
  refine lv_aload_n B.exec B.bytes dL_tower_0 rfl (lv_at hl 3 rfl) ?_
  refine lv_iconst B.exec B.bytes dL_tower_1 kI_0 ?_
  refine lv_aload_n B.exec B.bytes dL_tower_2 rfl (lv_at hl 0 rfl) ?_
  refine lv_iload_n B.exec B.bytes dL_tower_3 rfl (lv_at hl 1 rfl) ?_
  refine lv_iload_n B.exec B.bytes dL_tower_4 rfl (lv_at hl 2 rfl) ?_
  have hL := lV_L_7
  have hcb := hL.1
  have hXs : ∀ (U : State), U.heap = s.heap → s.WarmedH U.vm → PreX D cy σ s.heap.size sa U := fun U hU hWm => ⟨hH.pre hWd hA hU hWm, hX.call (locs := []) va_S.rf (fun _ h => h) hU hWm⟩
  refine vx_calli (A0 := va_A (pool cy σ) s.heap.size) (H0 := s.heap) (vx_runV (C := RX9) (b := x) (As := [.int v, .int w]) (rest := [.int 0, .ref ou]) ⟨B.exec, B.bytes, hml, hown, hts⟩ (tow_x l hst (sa := sa) (D := D) (cy := cy) (sz := s.heap.size) h1 hO7 h2 h3) ⟨callB_of 2 hts (goodCons hcb.2.1) rfl rfl rfl (hw _ hcb.2.2.1) (hw _ hL.2.1) hcb.2.2.2.1 ⟨by decide, by decide⟩, hw _ hL.2.2.1, hw _ hL.2.2.2.1⟩ ⟨PreX.blind, (by obtain ⟨fs, q1⟩ := isO_spec hO; obtain ⟨T, N, hcl⟩ := hL.2.2.2.2; exact va_recv hWd.1 (hH.at (rd_obj hWd q1)) hcl (q0 := 0) rfl), fun U hU hWm => ⟨rfl, hXs U hU hWm⟩⟩ rfl rfl hl.1 rfl (lv_room (Nat.le_of_ble_eq_true rfl)) dL_tower_5 ⟨by decide, by decide⟩) hH.2.2.1 (fun _ _ h => h.elim) (fun _ h => h) (fun _ _ h => h) ?_ ?_
  · intro E ce q9 u t H1 locs1 hth hal _ hB hsz hk hS hce hcv hcl
    obtain ⟨rfl, hP1⟩ := hB
    have hH1 : Hd D cy (va_A (pool cy σ) s.heap.size) σ s H1 locs1 := ⟨by rw [← hth]; exact hP1, hD, hS, hok⟩
    refine vx_catch (own := RL) (name := nseC) (E := nseC) hown [] { startPc := 0, endPc := 10, handlerPc := 13, catchType := 13 } [] (htab.trans rfl) (fun z hz => nomatch hz) (by decide) (by decide) (hw _ ltK) (va_Nw.use rfl (hX.2.2.2 _ nse_c)) hce hcv hcl ?_
    refine lv_astore B.exec B.bytes dL_tower_13 hl (by decide) rfl (fun ls hl2 => ?_)
    refine lv_iconst B.exec B.bytes dL_tower_15 kI_1 ?_
    exact W.iret B.exec B.bytes B.returns (fun u2 hu2 hW2 => ⟨⟨vI 1, σ.2, rfl, ⟨rfl, rfl⟩, by rw [hu2]; exact hH1.1, hH1.2.1, hH1.2.2.2⟩, hH1.2.2.1.F hu2⟩) hH1.2.2.1.2.2 dL_tower_16 (hlocks := B.notSynchronized)
  · intro r u t H1 locs1 _ _ hp
    exact hp.elim
