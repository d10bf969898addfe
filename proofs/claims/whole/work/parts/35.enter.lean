theorem lG_L_8 : Cond.classLink RL 8 RX9 ∈ bigW := b1 20 (by decide +kernel) rfl
theorem lI_X9 : Cond.instantiable RX9 16 ∈ bigW := b1 21 (by decide +kernel) rfl
theorem lZ_X9 : Cond.initialized RX9 ∈ bigW := b1 1 (by decide +kernel) rfl
theorem lD_X9 : ∀ j, j < 16 → defaultValue (tyX9 j) = vp_V [.null, .null, .null, .null, .int 0, .int 0, .int 0, .null, .null, .null, .null, .null, .null, .null, .null, .long 0] j := by decide +kernel
theorem lG_L_16 : Cond.classLink RL 16 RX10 ∈ bigW := b5 66 (by decide +kernel) rfl
theorem lI_X10 : Cond.instantiable RX10 46 ∈ bigW := b5 67 (by decide +kernel) rfl
theorem lZ_X10 : Cond.initialized RX10 ∈ bigW := b1 10 (by decide +kernel) rfl
theorem lD_X10 : ∀ j, j < 46 → defaultValue (tyX10 j) = vp_V [.int 0, .null, .int 0, .int 0, .int 0, .int 0, .null, .null, .null, .null, .null, .null, .null, .int 0, .int 0, .null, .null, .null, .null, .null, .null, .int 0, .int 0, .null, .null, .null, .int 0, .int 0, .null, .null, .int 0, .int 0, .null, .int 0, .long 0, .null, .null, .null, .null, .null, .int 0, .null, .null, .int 0, .null, .int 0] j := by decide +kernel
theorem lV_L_15 : MLi RL 15 mX9_init 0 := ⟨bX9_init, Or.inl (b1 22 (by decide +kernel) rfl), b1 23 (by decide +kernel) rfl, rfl, rfl⟩
theorem lV_L_18 : MLi RL 18 mX10_init 0 := ⟨bX10_init, Or.inl (b5 68 (by decide +kernel) rfl), b5 69 (by decide +kernel) rfl, rfl, rfl⟩
theorem lA_long : Cond.arrayClass .long ∈ bigW := b7 213 (by decide +kernel) rfl

/-- both objects as they are made -/
def initOK (Rel : Nat → Nat → Nat → St → Prop) : Prop := ∀ Z : Rm, zOK Z → ∀ q1, nf (Z, [], fun _ => none) q1 → wX9_init (nw (Z, [], fun _ => none) q1 (.inr (9, [.null, .null, .null, .null, .int 0, .int 0, .int 0, .null, .null, .null, .null, .null, .null, .null, .null, .long 0]))) q1 (fun t1 => ∀ q2, nf t1 q2 → wX10_init (nw t1 q2 (.inr (10, [.int 0, .null, .int 0, .int 0, .int 0, .int 0, .null, .null, .null, .null, .null, .null, .null, .int 0, .int 0, .null, .null, .null, .null, .null, .null, .int 0, .int 0, .null, .null, .null, .int 0, .int 0, .null, .null, .int 0, .int 0, .null, .int 0, .long 0, .null, .null, .null, .null, .null, .int 0, .null, .null, .int 0, .null, .int 0]))) q2 (fun t2 => ∀ q3, nf t2 q3 → Rel q1 q2 q3 (nw t2 q3 (.inl (3, 1, .inr (.inl (fun _ => 0)))))))
set_option maxHeartbeats 4000000 in
set_option maxRecDepth 100000 in
theorem law_enter {Rel : Nat → Nat → Nat → St → Prop} (hS : AllSteps Rel) (hI : initOK Rel) {p : Program} {e : Env} {s : State} {m : MethodId} {below : List Frame} {meth : Method} {c : Code} (l : Launch) (hst : l.stackTraces = false) {b L : Nat} {xs : Nat → Int32} (hL : L ≤ 384) (C0 : lw_At p s m meth c b L xs) : W p l e room_1 s m #[Value.ref b] below meth c s.heap [] 0 0 (lw_Z below #[Value.ref b] s) (entryFrame m ([Value.ref b] : List Value).toArray 7) := by
  obtain ⟨D, cy, Z, hW, hz⟩ := law_world C0
  have key : LW b L xs 0 0 0 [(0, .ref b)] [] (Z, [], fun _ => none) := by
    refine LW.new (fs := [.null, .null, .null, .null, .int 0, .int 0, .int 0, .null, .null, .null, .null, .null, .null, .null, .null, .long 0]) dL_law_0 clX9 lG_L_8 lI_X9 lZ_X9 lD_X9 (by decide) (by decide) (fun q1 hq1 => ?_)
    refine LW.dup dL_law_3 rfl ?_
    refine LW.calli [] (rest := [.ref q1]) dL_law_4 lV_L_15 rfl ⟨by decide, by decide, by decide, Nat.le_of_ble_eq_true rfl⟩ (gX9_init _ q1 _ (hI Z hz q1 hq1)) (fun r9 t1 h9 => ?_)
    obtain ⟨rfl, h9⟩ := h9
    refine LW.at (st2 := [.ref q1]) (k2 := 45) (n2 := 2880) rfl rfl rfl ?_
    refine LW.astore_n (lv' := [(0, .ref b), (1, .ref q1)]) dL_law_7 rfl (by decide) [1, 0] rfl ?_
    refine LW.new (fs := [.int 0, .null, .int 0, .int 0, .int 0, .int 0, .null, .null, .null, .null, .null, .null, .null, .int 0, .int 0, .null, .null, .null, .null, .null, .null, .int 0, .int 0, .null, .null, .null, .int 0, .int 0, .null, .null, .int 0, .int 0, .null, .int 0, .long 0, .null, .null, .null, .null, .null, .int 0, .null, .null, .int 0, .null, .int 0]) dL_law_8 clX10 lG_L_16 lI_X10 lZ_X10 lD_X10 (by decide) (by decide) (fun q2 hq2 => ?_)
    refine LW.dup dL_law_11 rfl ?_
    refine LW.calli [] (rest := [.ref q2]) dL_law_12 lV_L_18 rfl ⟨by decide, by decide, by decide, Nat.le_of_ble_eq_true rfl⟩ (gX10_init _ q2 _ (h9 q2 hq2)) (fun r9 t2 h9 => ?_)
    obtain ⟨rfl, h9⟩ := h9
    refine LW.at (st2 := [.ref q2]) (k2 := 74) (n2 := 20148) rfl rfl rfl ?_
    refine LW.astore_n (lv' := [(0, .ref b), (1, .ref q1), (2, .ref q2)]) dL_law_15 rfl (by decide) [1, 2, 0] rfl ?_
    refine LW.iconst dL_law_16 kI_1 ?_
    refine LW.newL (N := 1) dL_law_17 lA_long (by decide) (by decide) (by decide) (by decide) (by decide) (fun q3 hq3 => ?_)
    refine LW.astore_n (lv' := [(0, .ref b), (1, .ref q1), (2, .ref q2), (3, .ref q3)]) dL_law_19 rfl (by decide) [1, 2, 3, 0] rfl ?_
    refine LW.iconst dL_law_20 kI_0 ?_
    refine LW.istore (lv' := [(0, .ref b), (1, .ref q1), (2, .ref q2), (3, .ref q3), (4, .int (nI (6 * 0)))]) dL_law_21 (by decide) [1, 2, 3, 4, 0] rfl ?_
    exact law_loop hS hL 64 0 _ (by omega) (by omega) (h9 q3 hq3)
  have hl := lv_entry ([.ref b]) (n := 7) (Nat.le_of_ble_eq_true rfl)
  rw [lg_entry_eq]
  refine key p ⟨l, hst⟩ e s m below meth c D cy s.heap [] _ C0 hW ⟨fun k q h => by simp [pool, va_pl] at h, ⟨fun i j p q h => by simp [pool, va_pl] at h, fun k q h => by simp [pool, va_pl] at h⟩, va_S.rf, fun a e h => by cases h⟩ hl

