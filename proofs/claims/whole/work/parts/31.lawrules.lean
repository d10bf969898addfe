theorem kI_6 : Int32.ofInt (6) = (6 : Int32) := by decide

/-- the law's walk: the script xs of L ints at b -/
def LW (b L : Nat) (xs : Nat → Int32) (k n pc : Nat) (lv : List (Nat × Value)) (st : List Value) (σ : St) : Prop :=
  ∀ (p : Program) (l : { l : Launch // l.stackTraces = false }) (e : Env) (s : State) (m : MethodId) (below : List Frame) (meth : Method) (c : Code) (D : va_G) (cy : Nat → Nat) (H : Heap) (locs : List Loc) (ls : Array Slot),
    lw_At p s m meth c b L xs → Wd D cy (fun q => s.heap.size ≤ q) σ.1 s → Hd D cy (fun q => s.heap.size ≤ q) σ s H locs → lv_has ls 7 lv →
    W p l.1 e room_1 s m #[Value.ref b] below meth c H locs k n (lw_Z below #[Value.ref b] s) (F0 m pc ls st)
theorem lw_w {p : Program} {s : State} {m : MethodId} {meth : Method} {c : Code} {b L : Nat} {xs : Nat → Int32} (C0 : lw_At p s m meth c b L xs) : ∀ w ∈ bigW, w.before #[Value.ref b] s = true := fun w h => C0.2.2.2.2.2.1 w (List.mem_filter.mp h).1
theorem lw_w2 {p : Program} {s : State} {m : MethodId} {meth : Method} {c : Code} {b L : Nat} {xs : Nat → Int32} (C0 : lw_At p s m meth c b L xs) : ∀ w ∈ lw_tbl, w.before #[Value.ref b] s = true := C0.2.2.2.2.2.1

theorem LW.iload {b L : Nat} {xs : Nat → Int32} {k n pc : Nat} {lv : List (Nat × Value)} {rest : List Value} {σ : St} {i : Nat} {x : Int32} (j : Nat) (hd : decode cL_law pc = .ok (.iload i, 2)) (hj : lv[j]? = some (i, .int x)) (h : LW b L xs k n (pc + 2) lv (.int x :: rest) σ) : LW b L xs k n pc lv (rest) σ := by
  intro p l e s m below meth c D cy H locs ls C0 hW hH hl
  exact lv_iload C0.1 C0.2.1 hd (lv_at hl j hj) (h p l e s m below meth c D cy H locs ls C0 hW hH hl)
theorem LW.aload_n {b L : Nat} {xs : Nat → Int32} {k n pc : Nat} {lv : List (Nat × Value)} {rest : List Value} {σ : St} {kk : Fin 4} {i x : Nat} (j : Nat) (hd : decode cL_law pc = .ok (.aload_n kk, 1)) (hi : (kk : Nat) = i) (hj : lv[j]? = some (i, .ref x)) (h : LW b L xs k n (pc + 1) lv (.ref x :: rest) σ) : LW b L xs k n pc lv (rest) σ := by
  intro p l e s m below meth c D cy H locs ls C0 hW hH hl
  exact lv_aload_n C0.1 C0.2.1 hd hi (lv_at hl j hj) (h p l e s m below meth c D cy H locs ls C0 hW hH hl)
theorem LW.iconst {b L : Nat} {xs : Nat → Int32} {k n pc : Nat} {lv : List (Nat × Value)} {rest : List Value} {σ : St} {d : Int} {v : Int32} (hd : decode cL_law pc = .ok (.iconst d, 1)) (hv : Int32.ofInt d = v) (h : LW b L xs k n (pc + 1) lv (.int v :: rest) σ) : LW b L xs k n pc lv (rest) σ := by
  intro p l e s m below meth c D cy H locs ls C0 hW hH hl
  exact lv_iconst C0.1 C0.2.1 hd hv (h p l e s m below meth c D cy H locs ls C0 hW hH hl)
theorem LW.bipush {b L : Nat} {xs : Nat → Int32} {k n pc : Nat} {lv : List (Nat × Value)} {rest : List Value} {σ : St} {d : Int} {v : Int32} (hd : decode cL_law pc = .ok (.bipush d, 2)) (hv : (Int8.ofInt d).toInt32 = v) (h : LW b L xs k n (pc + 2) lv (.int v :: rest) σ) : LW b L xs k n pc lv (rest) σ := by
  intro p l e s m below meth c D cy H locs ls C0 hW hH hl
  exact lv_bipush C0.1 C0.2.1 hd hv (h p l e s m below meth c D cy H locs ls C0 hW hH hl)
theorem LW.iadd {b L : Nat} {xs : Nat → Int32} {k n pc : Nat} {lv : List (Nat × Value)} {rest : List Value} {σ : St} {x y : Int32} (hd : decode cL_law pc = .ok (.iadd, 1))  (h : LW b L xs k n (pc + 1) lv (.int (x + y) :: rest) σ) : LW b L xs k n pc lv (.int y :: .int x :: rest) σ := by
  intro p l e s m below meth c D cy H locs ls C0 hW hH hl
  exact lv_iadd C0.1 C0.2.1 hd  (h p l e s m below meth c D cy H locs ls C0 hW hH hl)
theorem LW.isub {b L : Nat} {xs : Nat → Int32} {k n pc : Nat} {lv : List (Nat × Value)} {rest : List Value} {σ : St} {x y : Int32} (hd : decode cL_law pc = .ok (.isub, 1))  (h : LW b L xs k n (pc + 1) lv (.int (x - y) :: rest) σ) : LW b L xs k n pc lv (.int y :: .int x :: rest) σ := by
  intro p l e s m below meth c D cy H locs ls C0 hW hH hl
  exact lv_isub C0.1 C0.2.1 hd  (h p l e s m below meth c D cy H locs ls C0 hW hH hl)
theorem LW.iand {b L : Nat} {xs : Nat → Int32} {k n pc : Nat} {lv : List (Nat × Value)} {rest : List Value} {σ : St} {x y : Int32} (hd : decode cL_law pc = .ok (.iand, 1))  (h : LW b L xs k n (pc + 1) lv (.int (x &&& y) :: rest) σ) : LW b L xs k n pc lv (.int y :: .int x :: rest) σ := by
  intro p l e s m below meth c D cy H locs ls C0 hW hH hl
  exact lv_iand C0.1 C0.2.1 hd  (h p l e s m below meth c D cy H locs ls C0 hW hH hl)
theorem LW.land {b L : Nat} {xs : Nat → Int32} {k n pc : Nat} {lv : List (Nat × Value)} {rest : List Value} {σ : St} {x y : Int64} (hd : decode cL_law pc = .ok (.land, 1))  (h : LW b L xs k n (pc + 1) lv (.long (x &&& y) :: rest) σ) : LW b L xs k n pc lv (.long y :: .long x :: rest) σ := by
  intro p l e s m below meth c D cy H locs ls C0 hW hH hl
  exact lv_land C0.1 C0.2.1 hd  (h p l e s m below meth c D cy H locs ls C0 hW hH hl)
theorem LW.lor {b L : Nat} {xs : Nat → Int32} {k n pc : Nat} {lv : List (Nat × Value)} {rest : List Value} {σ : St} {x y : Int64} (hd : decode cL_law pc = .ok (.lor, 1))  (h : LW b L xs k n (pc + 1) lv (.long (x ||| y) :: rest) σ) : LW b L xs k n pc lv (.long y :: .long x :: rest) σ := by
  intro p l e s m below meth c D cy H locs ls C0 hW hH hl
  exact lv_lor C0.1 C0.2.1 hd  (h p l e s m below meth c D cy H locs ls C0 hW hH hl)
theorem LW.i2l {b L : Nat} {xs : Nat → Int32} {k n pc : Nat} {lv : List (Nat × Value)} {rest : List Value} {σ : St} {x : Int32} (hd : decode cL_law pc = .ok (.i2l, 1))  (h : LW b L xs k n (pc + 1) lv (.long x.toInt64 :: rest) σ) : LW b L xs k n pc lv (.int x :: rest) σ := by
  intro p l e s m below meth c D cy H locs ls C0 hW hH hl
  exact lv_i2l C0.1 C0.2.1 hd rfl (h p l e s m below meth c D cy H locs ls C0 hW hH hl)
theorem LW.lshl {b L : Nat} {xs : Nat → Int32} {k n pc : Nat} {lv : List (Nat × Value)} {rest : List Value} {σ : St} {x : Int64} {y : Int32} (hd : decode cL_law pc = .ok (.lshl, 1))  (h : LW b L xs k n (pc + 1) lv (.long (x <<< (y.toInt64 &&& 63)) :: rest) σ) : LW b L xs k n pc lv (.int y :: .long x :: rest) σ := by
  intro p l e s m below meth c D cy H locs ls C0 hW hH hl
  exact lv_lshl C0.1 C0.2.1 hd rfl (h p l e s m below meth c D cy H locs ls C0 hW hH hl)
theorem LW.lcmp {b L : Nat} {xs : Nat → Int32} {k n pc : Nat} {lv : List (Nat × Value)} {rest : List Value} {σ : St} {x y : Int64} (hd : decode cL_law pc = .ok (.lcmp, 1))  (h : LW b L xs k n (pc + 1) lv (.int (lg_cmp x y) :: rest) σ) : LW b L xs k n pc lv (.long y :: .long x :: rest) σ := by
  intro p l e s m below meth c D cy H locs ls C0 hW hH hl
  exact W.lcmp C0.1 C0.2.1 hd  (h p l e s m below meth c D cy H locs ls C0 hW hH hl)
theorem LW.dup {b L : Nat} {xs : Nat → Int32} {k n pc : Nat} {lv : List (Nat × Value)} {rest : List Value} {σ : St} {va : Value} (hd : decode cL_law pc = .ok (.dup, 1)) (hc : va.category = 1) (h : LW b L xs k n (pc + 1) lv (va :: va :: rest) σ) : LW b L xs k n pc lv (va :: rest) σ := by
  intro p l e s m below meth c D cy H locs ls C0 hW hH hl
  exact lv_dup C0.1 C0.2.1 hd hc (h p l e s m below meth c D cy H locs ls C0 hW hH hl)
theorem LW.ldc2 {b L : Nat} {xs : Nat → Int32} {k n pc : Nat} {lv : List (Nat × Value)} {rest : List Value} {σ : St} {idx : Nat} {v : Int64} (hd : decode cL_law pc = .ok (.ldc2_w idx, 3)) (hw : Cond.constantLong R_law idx v ∈ bigW) (h : LW b L xs k n (pc + 3) lv (.long v :: rest) σ) : LW b L xs k n pc lv rest σ := by
  intro p l e s m below meth c D cy H locs ls C0 hW hH hl
  exact lv_ldc2 C0.1 C0.2.1 C0.2.2.2.2.1 (lw_w C0 _ hw) hd (h p l e s m below meth c D cy H locs ls C0 hW hH hl)
theorem LW.goto {b L : Nat} {xs : Nat → Int32} {k n pc : Nat} {lv : List (Nat × Value)} {rest : List Value} {σ : St} {off : Int} {tgt : Nat} (hd : decode cL_law pc = .ok (.goto off, 3)) (ht : (pc : Int) + off = (tgt : Int)) (h : LW b L xs k n tgt lv rest σ) : LW b L xs k n pc lv rest σ := by
  intro p l e s m below meth c D cy H locs ls C0 hW hH hl
  exact lv_goto C0.1 C0.2.1 hd ht (h p l e s m below meth c D cy H locs ls C0 hW hH hl)
theorem LW.sld {b L : Nat} {xs : Nat → Int32} {k n pc : Nat} {lv : List (Nat × Value)} {rest : List Value} {σ : St} {i : Int32} (hd : decode cL_law pc = .ok (.iaload, 1)) (hi : vp_in i L) (h : LW b L xs k n (pc + 1) lv (.int (xs i.toNatClampNeg) :: rest) σ) : LW b L xs k n pc lv (.int i :: .ref b :: rest) σ := by
  intro p l e s m below meth c D cy H locs ls C0 hW hH hl
  exact va_sld C0.1 C0.2.1 C0.2.2.2.2.2.2.1 C0.2.2.2.2.2.2.2.1 (Nat.not_le.mpr C0.2.2.2.2.2.2.2.1) hH.2.2.1 hi hd (h p l e s m below meth c D cy H locs ls C0 hW hH hl)
theorem LW.slen {b L : Nat} {xs : Nat → Int32} {k n pc : Nat} {lv : List (Nat × Value)} {rest : List Value} {σ : St} (hd : decode cL_law pc = .ok (.arraylength, 1)) (h : LW b L xs k n (pc + 1) lv (.int (nI L) :: rest) σ) : LW b L xs k n pc lv (.ref b :: rest) σ := by
  intro p l e s m below meth c D cy H locs ls C0 hW hH hl
  exact va_slen C0.1 C0.2.1 C0.2.2.2.2.2.2.1 C0.2.2.2.2.2.2.2.1 (Nat.not_le.mpr C0.2.2.2.2.2.2.2.1) hH.2.2.1 hd (h p l e s m below meth c D cy H locs ls C0 hW hH hl)
theorem LW.lald {b L : Nat} {xs : Nat → Int32} {k n pc : Nat} {lv : List (Nat × Value)} {rest : List Value} {σ : St} {a z : Nat} {i : Int32} {f : Nat → Int64} (hd : decode cL_law pc = .ok (.laload, 1)) (h1 : σ.2.2 a = some (.inl (3, z, .inr (.inl f)))) (hi : inb i z) (h : LW b L xs k n (pc + 1) lv (.long (f i.toNatClampNeg) :: rest) σ) : LW b L xs k n pc lv (.int i :: .ref a :: rest) σ := by
  intro p l e s m below meth c D cy H locs ls C0 hW hH hl
  exact va_lald C0.1 C0.2.1 hW.1 (hH.at h1) 0 3 rfl rfl (inb_in hi) hd (h p l e s m below meth c D cy H locs ls C0 hW hH hl)
theorem LW.icmp_eqT {b L : Nat} {xs : Nat → Int32} {k n pc : Nat} {lv : List (Nat × Value)} {rest : List Value} {σ : St} {x y : Int32} {off : Int} {tgt : Nat} (hd : decode cL_law pc = .ok (.if_icmp .eq off, 3)) (ht : (pc : Int) + off = (tgt : Int)) (hxy : x = y) (h : LW b L xs k n tgt lv rest σ) : LW b L xs k n pc lv (.int y :: .int x :: rest) σ := by
  intro p l e s m below meth c D cy H locs ls C0 hW hH hl
  exact lv_icmp_eq C0.1 C0.2.1 hd ht (fun _ => h p l e s m below meth c D cy H locs ls C0 hW hH hl) (fun q => absurd hxy q)
theorem LW.istore {b L : Nat} {xs : Nat → Int32} {k n pc : Nat} {lv : List (Nat × Value)} {rest : List Value} {σ : St} {i : Nat} {x : Int32} {lv' : List (Nat × Value)} (hd : decode cL_law pc = .ok (.istore i, 2)) (hn : i < 7) (ks : List Nat) (hk : lv_pick ((i, .int x) :: lv.filter (fun q => !(q.1 == i) && !(q.1 + 1 == i && q.2.category == 2))) ks = lv') (h : LW b L xs k n (pc + 2) lv' rest σ) : LW b L xs k n pc lv (.int x :: rest) σ := by
  intro p l e s m below meth c D cy H locs ls C0 hW hH hl
  exact lv_istore C0.1 C0.2.1 hd hl hn rfl (fun ls hl => h p l e s m below meth c D cy H locs ls C0 hW hH (lv_sub hl ks hk))
theorem LW.astore_n {b L : Nat} {xs : Nat → Int32} {k n pc : Nat} {lv : List (Nat × Value)} {rest : List Value} {σ : St} {kk : Fin 4} {i x : Nat} {lv' : List (Nat × Value)} (hd : decode cL_law pc = .ok (.astore_n kk, 1)) (hi : (kk : Nat) = i) (hn : i < 7) (ks : List Nat) (hk : lv_pick ((i, .ref x) :: lv.filter (fun q => !(q.1 == i) && !(q.1 + 1 == i && q.2.category == 2))) ks = lv') (h : LW b L xs k n (pc + 1) lv' rest σ) : LW b L xs k n pc lv (.ref x :: rest) σ := by
  intro p l e s m below meth c D cy H locs ls C0 hW hH hl
  exact lv_astore_n C0.1 C0.2.1 hd hi hl hn rfl (fun ls hl => h p l e s m below meth c D cy H locs ls C0 hW hH (lv_sub hl ks hk))
theorem LW.iinc {b L : Nat} {xs : Nat → Int32} {k n pc : Nat} {lv : List (Nat × Value)} {rest : List Value} {σ : St} {i : Nat} {d : Int} {x v : Int32} {lv' : List (Nat × Value)} (j : Nat) (hd : decode cL_law pc = .ok (.iinc i d, 3)) (hj : lv[j]? = some (i, .int x)) (hv : Int32.ofInt d = v) (hn : i < 7) (ks : List Nat) (hk : lv_pick ((i, .int (x + v)) :: lv.filter (fun q => !(q.1 == i) && !(q.1 + 1 == i && q.2.category == 2))) ks = lv') (h : LW b L xs k n (pc + 3) lv' rest σ) : LW b L xs k n pc lv rest σ := by
  intro p l e s m below meth c D cy H locs ls C0 hW hH hl
  exact lv_iinc (v := x + v) C0.1 C0.2.1 hd hl hj (by rw [hv]) hn rfl (fun ls hl => h p l e s m below meth c D cy H locs ls C0 hW hH (lv_sub hl ks hk))
theorem LW.sub {b L : Nat} {xs : Nat → Int32} {k n pc : Nat} {lv : List (Nat × Value)} {rest : List Value} {σ : St} {lv' : List (Nat × Value)} (ks : List Nat) (hk : lv_pick lv ks = lv') (h : LW b L xs k n pc lv' rest σ) : LW b L xs k n pc lv rest σ := by
  intro p l e s m below meth c D cy H locs ls C0 hW hH hl
  exact h p l e s m below meth c D cy H locs ls C0 hW hH (lv_sub hl ks hk)
theorem LW.widen {b L : Nat} {xs : Nat → Int32} {k n pc : Nat} {lv : List (Nat × Value)} {rest : List Value} {σ : St} {k2 n2 : Nat} (h1 : k ≤ k2) (h2 : n ≤ n2) (h : LW b L xs k2 n2 pc lv rest σ) : LW b L xs k n pc lv rest σ := by
  intro p l e s m below meth c D cy H locs ls C0 hW hH hl
  exact W.widen h1 h2 (h p l e s m below meth c D cy H locs ls C0 hW hH hl)
theorem LW.at {b L : Nat} {xs : Nat → Int32} {k n pc k2 n2 : Nat} {lv : List (Nat × Value)} {st st2 : List Value} {σ : St} (h1 : st = st2) (h2 : k = k2) (h3 : n = n2) (h : LW b L xs k2 n2 pc lv st2 σ) : LW b L xs k n pc lv st σ := by
  subst h1; subst h2; subst h3; exact h
/-- room for a call out of the law -/
def Rlw (Yc : MI) (k n : Nat) (rest : List Value) : Prop := Yc.2.2.2.2.2.2 ≤ 1000 ∧ k + Yc.2.2.2.2.1 ≤ 600128 ∧ n + Yc.2.2.2.2.2.1 ≤ 7301098 ∧ (rest.map fun v => v.category).sum ≤ 8
theorem Rlw.room {Yc : MI} {k n na : Nat} {rest : List Value} (h : Rlw Yc k n rest) (hb : MLb Yc na) : (rmOf Yc).frames + 1 ≤ room_1.frames ∧ 8 + (Yc.2.2.1 + 11) + (rmOf Yc).locals ≤ room_1.locals := by
  have h1 := h.1
  have h2 := hb.2.2.2.2
  refine ⟨?_, ?_⟩
  · show Yc.2.2.2.2.2.2 + 1 ≤ 2048; omega
  · show 8 + (Yc.2.2.1 + 11) + 64 * Yc.2.2.2.2.2.2 ≤ 84000; omega
theorem lw_goodIn {c1 : Cond} (h : c1 ∈ bigW) : GoodIn lw_tbl (c1 :: bigW) := fun w hw => by
  have hb : w ∈ bigW := (List.mem_cons.mp hw).elim (fun e => e ▸ h) id
  exact ⟨(List.mem_filter.mp hb).1, (bigW_good w hb).2⟩
theorem LW.callv {b L : Nat} {xs : Nat → Int32} {k n pc : Nat} {lv : List (Nat × Value)} {rest : List Value} {σ : St} {Yc : MI} {idx na a ci : Nat} (As : List Value) {F2 : Option Value → St → Prop} (hd : decode cL_law pc = .ok (.invokevirtual idx, 3)) (hL : MLv R_law idx Yc ci na) (hna : As.length = na) (hR : Rlw Yc k n rest) (hO : isO ci σ a = true) (hc : CT Yc (.ref a :: As) σ F2) (h : ∀ r t, F2 r t → LW b L xs (k + Yc.2.2.2.2.1) (n + Yc.2.2.2.2.2.1) (pc + 3) lv (r.toList ++ rest) t) : LW b L xs k n pc lv (As.reverse ++ .ref a :: rest) σ := by
  intro p l e s m below meth c D cy H locs ls C0 hW hH hl
  have hcb := hL.1
  have f5 := lw_w2 C0
  have hw := lw_w C0
  refine callQ (F := F2) (va_runV (C := Yc.2.1.cls) (b := a) (As := As) (rest := rest) ⟨C0.1, C0.2.1, C0.2.2.2.1, C0.2.2.2.2.1, f5⟩ (hc l.1 D cy H.size) ⟨callB_of na f5 (lw_goodIn hcb.2.1) rfl rfl rfl (hw _ hcb.2.2.1) (hw _ hL.2.1) hcb.2.2.2.1 (hR.room hcb), hw _ hL.2.2.1, hw _ hL.2.2.2.1⟩ ⟨PreC.blind, (by obtain ⟨fs, h1⟩ := isO_spec hO; obtain ⟨T, N, hcl⟩ := hL.2.2.2.2; exact va_recv hW.1 (hH.at (rd_obj hW h1)) hcl (q0 := 0) rfl), fun U hU hWm => ⟨rfl, hH.pre hW (fun _ h => h) hU hWm⟩⟩ rfl hna hl.1 rfl (lv_room hR.2.2.2) hd ⟨hR.2.1, hR.2.2.1⟩) hH (fun _ h => h) (fun r u H1 locs1 hr hH1 => ?_)
  exact h r (σ.1, u) hr p l e s m below meth c D cy H1 locs1 ls C0 hW hH1 hl
theorem LW.calli {b L : Nat} {xs : Nat → Int32} {k n pc : Nat} {lv : List (Nat × Value)} {rest : List Value} {σ : St} {Yc : MI} {idx na a : Nat} (As : List Value) {F2 : Option Value → St → Prop} (hd : decode cL_law pc = .ok (.invokespecial idx, 3)) (hL : MLi R_law idx Yc na) (hna : As.length = na) (hR : Rlw Yc k n rest) (hc : CT Yc (.ref a :: As) σ F2) (h : ∀ r t, F2 r t → LW b L xs (k + Yc.2.2.2.2.1) (n + Yc.2.2.2.2.2.1) (pc + 3) lv (r.toList ++ rest) t) : LW b L xs k n pc lv (As.reverse ++ .ref a :: rest) σ := by
  intro p l e s m below meth c D cy H locs ls C0 hW hH hl
  obtain ⟨hcb, hlk, hin, hnm, hrt⟩ := hL
  have f5 := lw_w2 C0
  have hw := lw_w C0
  have hwc : wsOf Yc = Cond.code Yc.2.1 Yc.1 Yc.2.2.1 none :: bigW := by unfold wsOf; rw [hrt]
  have pre : PreS s H (va_Pc (.ref a :: As) (PreC D cy σ H.size)) (.ref a :: As) := ⟨PreC.blind, fun U hU hWm => ⟨rfl, hH.pre hW (fun _ h => h) hU hWm⟩⟩
  rcases hlk with hlk | ⟨host, hlk⟩
  · refine callQ (F := F2) (va_runI (As := As) (rest := rest) ⟨C0.1, C0.2.1, C0.2.2.2.1, C0.2.2.2.2.1, f5⟩ (hc l.1 D cy H.size) ⟨callB_of na f5 (lw_goodIn hcb.2.1) hwc rfl rfl (hw _ hcb.2.2.1) (hw _ hlk) hcb.2.2.2.1 (hR.room hcb), hnm, hw _ hin⟩ pre rfl hna hl.1 rfl (lv_room hR.2.2.2) hd ⟨hR.2.1, hR.2.2.1⟩) hH (fun _ h => h) (fun r u H1 locs1 hr hH1 => ?_)
    exact h r (σ.1, u) hr p l e s m below meth c D cy H1 locs1 ls C0 hW hH1 hl
  · refine callQ (F := F2) (va_runIN (host := host) (As := As) (rest := rest) ⟨C0.1, C0.2.1, C0.2.2.2.1, C0.2.2.2.2.1, f5⟩ (hc l.1 D cy H.size) ⟨va_cnB na f5 (lw_goodIn hcb.2.1) hwc rfl rfl (hW.2.1 _ hlk) (hw _ hcb.2.2.1) hcb.2.2.2.1 (hR.room hcb), hnm, hw _ hin⟩ pre rfl hna hl.1 rfl (lv_room hR.2.2.2) hd ⟨hR.2.1, hR.2.2.1⟩) hH (fun _ h => h) (fun r u H1 locs1 hr hH1 => ?_)
    exact h r (σ.1, u) hr p l e s m below meth c D cy H1 locs1 ls C0 hW hH1 hl
theorem LW.new {b L : Nat} {xs : Nat → Int32} {k n pc : Nat} {lv : List (Nat × Value)} {rest : List Value} {σ : St} {idx ci N : Nat} {C : String} {T : u_T} {ty : Nat → FieldType} {fs : List Value} (hd : decode cL_law pc = .ok (.new idx, 3)) (hC : CLs ci C T N ty) (h1 : Cond.classLink R_law idx C ∈ bigW) (h2 : Cond.instantiable C N ∈ bigW) (h3 : Cond.initialized C ∈ bigW) (hfs : ∀ j, j < N → defaultValue (ty j) = vp_V fs j) (hk : k + 1 ≤ 600128) (hn : n + N ≤ 7301098) (h : ∀ q, nf σ q → LW b L xs (k + 1) (n + N) (pc + 3) lv (.ref q :: rest) (nw σ q (.inr (ci, fs)))) : LW b L xs k n pc lv rest σ := by
  intro p l e s m below meth c D cy H locs ls C0 hW hH hl
  have hw := lw_w C0
  refine va_new (ci := ci) (fs := fs) (C := C) (T := T) (N := N) C0.1 C0.2.1 (lw_w2 C0) (fun w q => (List.mem_filter.mp (hC.2.1 w q)).1) ty hC.2.2.1 C0.2.2.2.2.1 (hw _ h1) (hw _ h2) (hw _ h3) hW.1 hH.1 hH.2.1 hH.2.2.1 (fun _ h => h) hC.1 hfs hk hn hd (fun q H1 hP1 hD1 hS1 => ?_)
  obtain ⟨g1, g2⟩ := Hd.made (e := .inr (ci, fs)) hW hH.2.2.2 hP1 hD1 hS1
  exact h q g1 p l e s m below meth c D cy H1 locs ls C0 hW g2 hl
theorem LW.newL {b L : Nat} {xs : Nat → Int32} {k n pc : Nat} {lv : List (Nat × Value)} {rest : List Value} {σ : St} {z : Int32} {N : Nat} (hd : decode cL_law pc = .ok (.newarray .long, 2)) (hw0 : Cond.arrayClass .long ∈ bigW) (hz : ¬ z < 0) (hN : z.toNatClampNeg = N) (hb : N * componentBytes .long ≤ 536870912) (hk : k + 1 ≤ 600128) (hn : n + N ≤ 7301098) (h : ∀ q, nf σ q → LW b L xs (k + 1) (n + N) (pc + 2) lv (.ref q :: rest) (nw σ q (.inl (3, N, .inr (.inl (fun _ => 0)))))) : LW b L xs k n pc lv (.int z :: rest) σ := by
  intro p l e s m below meth c D cy H locs ls C0 hW hH hl
  have hw := lw_w C0
  refine va_newa (atype := .long) (ty := .long) (a0 := (N, .inr (.inl (fun _ => 0)))) C0.1 C0.2.1 (hw _ hw0) rfl hW.1 hH.1 hH.2.1 hH.2.2.1 (fun _ h => h) (fun cA => rfl) hz hN hb hk hn hd (fun q cA H1 hK1 hP1 hD1 hS1 => ?_)
  have e0 := same_arr (t := 3) rfl hK1
  subst e0
  obtain ⟨g1, g2⟩ := Hd.made (e := .inl (3, N, .inr (.inl (fun _ => 0)))) hW hH.2.2.2 hP1 hD1 hS1
  exact h q g1 p l e s m below meth c D cy H1 locs ls C0 hW g2 hl
/-- the law's end -/
theorem LW.ret {b L : Nat} {xs : Nat → Int32} {k n pc : Nat} {lv : List (Nat × Value)} {rest : List Value} {σ : St} (hd : decode cL_law pc = .ok (.ireturn, 1)) (hk : k ≤ 600128) (hn : n ≤ 7301098) : LW b L xs k n pc lv [.int 1] σ := by
  intro p l e s m below meth c D cy H locs ls C0 hW hH hl
  refine va_forget hH.2.2.1.2.2 ?_
  refine W.widen hk hn ?_
  exact lw_ret C0.1 C0.2.1 C0.2.2.1 C0.2.2.2.2.2.2.2.2.1 hd
theorem LW.tsw {b L : Nat} {xs : Nat → Int32} {k n pc : Nat} {lv : List (Nat × Value)} {rest : List Value} {σ : St} {x : Int32} {dflt lo hi : Int} {offs : Array Int} {len tgd : Nat} (hd : decode cL_law pc = .ok (.tableswitch dflt lo hi offs, len)) (ht : (pc : Int) + dflt = (tgd : Int)) (h1 : LW b L xs k n tgd lv rest σ) (h2 : ∀ (j : Nat) (off : Int), x.toInt = lo + j → offs[j]? = some off → ∃ tgt : Nat, (pc : Int) + off = (tgt : Int) ∧ LW b L xs k n tgt lv rest σ) (hs : hi + 1 = lo + offs.size) : LW b L xs k n pc lv (.int x :: rest) σ := by
  intro p l e s m below meth c D cy H locs ls C0 hW hH hl
  by_cases hc : x.toInt < lo ∨ hi < x.toInt
  · exact lv_tableOut C0.1 C0.2.1 hd hc ht (h1 p l e s m below meth c D cy H locs ls C0 hW hH hl)
  · have hj : (x.toInt - lo).toNat < offs.size := by omega
    obtain ⟨tgt, ht2, hg⟩ := h2 (x.toInt - lo).toNat (offs[(x.toInt - lo).toNat]'hj) (by omega) (Array.getElem?_eq_getElem hj)
    exact lv_tableIn C0.1 C0.2.1 hd (by omega) (by omega) (Array.getElem?_eq_getElem hj) ht2 (hg p l e s m below meth c D cy H locs ls C0 hW hH hl)
theorem LW.icmp_gt {b L : Nat} {xs : Nat → Int32} {k n pc : Nat} {lv : List (Nat × Value)} {rest : List Value} {σ : St} {x y : Int32} {off : Int} {tgt : Nat} (hd : decode cL_law pc = .ok (.if_icmp .gt off, 3)) (ht : (pc : Int) + off = (tgt : Int)) (h1 : y < x → LW b L xs k n tgt lv rest σ) (h2 : ¬ y < x → LW b L xs k n (pc + 3) lv rest σ) : LW b L xs k n pc lv (.int y :: .int x :: rest) σ := by
  intro p l e s m below meth c D cy H locs ls C0 hW hH hl
  exact lv_icmp_gt C0.1 C0.2.1 hd ht (fun q => h1 q p l e s m below meth c D cy H locs ls C0 hW hH hl) (fun q => h2 q p l e s m below meth c D cy H locs ls C0 hW hH hl)
theorem LW.if_eq {b L : Nat} {xs : Nat → Int32} {k n pc : Nat} {lv : List (Nat × Value)} {rest : List Value} {σ : St} {x : Int32} {off : Int} {tgt : Nat} (hd : decode cL_law pc = .ok (.ifCond .eq off, 3)) (ht : (pc : Int) + off = (tgt : Int)) (h1 : x = 0 → LW b L xs k n tgt lv rest σ) (h2 : ¬ x = 0 → LW b L xs k n (pc + 3) lv rest σ) : LW b L xs k n pc lv (.int x :: rest) σ := by
  intro p l e s m below meth c D cy H locs ls C0 hW hH hl
  exact lv_if_eq C0.1 C0.2.1 hd ht (fun q => h1 q p l e s m below meth c D cy H locs ls C0 hW hH hl) (fun q => h2 q p l e s m below meth c D cy H locs ls C0 hW hH hl)
theorem LW.if_ne {b L : Nat} {xs : Nat → Int32} {k n pc : Nat} {lv : List (Nat × Value)} {rest : List Value} {σ : St} {x : Int32} {off : Int} {tgt : Nat} (hd : decode cL_law pc = .ok (.ifCond .ne off, 3)) (ht : (pc : Int) + off = (tgt : Int)) (h1 : ¬ x = 0 → LW b L xs k n tgt lv rest σ) (h2 : x = 0 → LW b L xs k n (pc + 3) lv rest σ) : LW b L xs k n pc lv (.int x :: rest) σ := by
  intro p l e s m below meth c D cy H locs ls C0 hW hH hl
  exact lv_if_ne C0.1 C0.2.1 hd ht (fun q => h1 q p l e s m below meth c D cy H locs ls C0 hW hH hl) (fun q => h2 q p l e s m below meth c D cy H locs ls C0 hW hH hl)
