def fJ6_bitCount_0f7a4 (σ : St) (px0 : Int32) : Option (Int32 × St) :=
  nam (px0 - (((Int32.toUInt32 px0 >>> (Int32.toUInt32 1 &&& Int32.toUInt32 31)).toInt32) &&& 1431655765) : Int32) (fun x1 =>
  nam ((x1 &&& 858993459) + (((Int32.toUInt32 x1 >>> (Int32.toUInt32 2 &&& Int32.toUInt32 31)).toInt32) &&& 858993459) : Int32) (fun x2 =>
  nam ((x2 + ((Int32.toUInt32 x2 >>> (Int32.toUInt32 4 &&& Int32.toUInt32 31)).toInt32)) &&& 252645135 : Int32) (fun x3 =>
  nam (x3 + ((Int32.toUInt32 x3 >>> (Int32.toUInt32 8 &&& Int32.toUInt32 31)).toInt32) : Int32) (fun x4 =>
  nam (x4 + ((Int32.toUInt32 x4 >>> (Int32.toUInt32 16 &&& Int32.toUInt32 31)).toInt32) : Int32) (fun x5 =>
  some (x5 &&& 63, σ))))))
set_option maxHeartbeats 4000000 in
set_option maxRecDepth 100000 in
theorem gJ6_bitCount_0f7a4 (σ : St) (px0 : Int32) : CE vI mJ6_bitCount_0f7a4 [.int px0] σ (fJ6_bitCount_0f7a4 σ px0) := by
  refine CE.ofGEF (lv := [(0, .int px0)]) (by decide +kernel) (Nat.le_of_ble_eq_true rfl) rfl ?_
  unfold fJ6_bitCount_0f7a4
  refine GE.iload_n 0 dJ6_bitCount_0f7a4_0 rfl rfl ?_
  refine GE.iload_n 0 dJ6_bitCount_0f7a4_1 rfl rfl ?_
  refine GE.iconst dJ6_bitCount_0f7a4_2 kI_1 ?_
  refine GE.iushr dJ6_bitCount_0f7a4_3 ?_
  refine GE.ldcw (v := 1431655765) dJ6_bitCount_0f7a4_4 lK_J6_265 ?_
  refine GE.iand dJ6_bitCount_0f7a4_7 ?_
  refine GE.isub dJ6_bitCount_0f7a4_8 ?_
  refine GE.nami (fun x1 => ?_)
  refine GE.istore_n (lv' := [(0, .int x1)]) dJ6_bitCount_0f7a4_9 rfl (by decide) [0] rfl ?_
  refine GE.iload_n 0 dJ6_bitCount_0f7a4_10 rfl rfl ?_
  refine GE.ldcw (v := 858993459) dJ6_bitCount_0f7a4_11 lK_J6_266 ?_
  refine GE.iand dJ6_bitCount_0f7a4_14 ?_
  refine GE.iload_n 0 dJ6_bitCount_0f7a4_15 rfl rfl ?_
  refine GE.iconst dJ6_bitCount_0f7a4_16 kI_2 ?_
  refine GE.iushr dJ6_bitCount_0f7a4_17 ?_
  refine GE.ldcw (v := 858993459) dJ6_bitCount_0f7a4_18 lK_J6_266 ?_
  refine GE.iand dJ6_bitCount_0f7a4_21 ?_
  refine GE.iadd dJ6_bitCount_0f7a4_22 ?_
  refine GE.nami (fun x2 => ?_)
  refine GE.istore_n (lv' := [(0, .int x2)]) dJ6_bitCount_0f7a4_23 rfl (by decide) [0] rfl ?_
  refine GE.iload_n 0 dJ6_bitCount_0f7a4_24 rfl rfl ?_
  refine GE.iload_n 0 dJ6_bitCount_0f7a4_25 rfl rfl ?_
  refine GE.iconst dJ6_bitCount_0f7a4_26 kI_4 ?_
  refine GE.iushr dJ6_bitCount_0f7a4_27 ?_
  refine GE.iadd dJ6_bitCount_0f7a4_28 ?_
  refine GE.ldcw (v := 252645135) dJ6_bitCount_0f7a4_29 lK_J6_267 ?_
  refine GE.iand dJ6_bitCount_0f7a4_32 ?_
  refine GE.nami (fun x3 => ?_)
  refine GE.istore_n (lv' := [(0, .int x3)]) dJ6_bitCount_0f7a4_33 rfl (by decide) [0] rfl ?_
  refine GE.iload_n 0 dJ6_bitCount_0f7a4_34 rfl rfl ?_
  refine GE.iload_n 0 dJ6_bitCount_0f7a4_35 rfl rfl ?_
  refine GE.bipush dJ6_bitCount_0f7a4_36 kB_8 ?_
  refine GE.iushr dJ6_bitCount_0f7a4_38 ?_
  refine GE.iadd dJ6_bitCount_0f7a4_39 ?_
  refine GE.nami (fun x4 => ?_)
  refine GE.istore_n (lv' := [(0, .int x4)]) dJ6_bitCount_0f7a4_40 rfl (by decide) [0] rfl ?_
  refine GE.iload_n 0 dJ6_bitCount_0f7a4_41 rfl rfl ?_
  refine GE.iload_n 0 dJ6_bitCount_0f7a4_42 rfl rfl ?_
  refine GE.bipush dJ6_bitCount_0f7a4_43 kB_16 ?_
  refine GE.iushr dJ6_bitCount_0f7a4_45 ?_
  refine GE.iadd dJ6_bitCount_0f7a4_46 ?_
  refine GE.nami (fun x5 => ?_)
  refine GE.istore_n (lv' := [(0, .int x5)]) dJ6_bitCount_0f7a4_47 rfl (by decide) [0] rfl ?_
  refine GE.iload_n 0 dJ6_bitCount_0f7a4_48 rfl rfl ?_
  refine GE.bipush dJ6_bitCount_0f7a4_49 kB_63 ?_
  refine GE.iand dJ6_bitCount_0f7a4_51 ?_
  exact GE.iret dJ6_bitCount_0f7a4_52 rfl (Nat.le_refl _) (Nat.le_refl _)
def fJ9_min_7cf53 (σ : St) (px0 : Int32) (px1 : Int32) : Option (Int32 × St) :=
  if px1 < px0 then
    some (px1, σ)
  else
    some (px0, σ)
set_option maxHeartbeats 4000000 in
set_option maxRecDepth 100000 in
theorem gJ9_min_7cf53 (σ : St) (px0 : Int32) (px1 : Int32) : CE vI mJ9_min_7cf53 [.int px0, .int px1] σ (fJ9_min_7cf53 σ px0 px1) := by
  refine CE.ofGEF (lv := [(0, .int px0), (1, .int px1)]) (by decide +kernel) (Nat.le_of_ble_eq_true rfl) rfl ?_
  unfold fJ9_min_7cf53
  refine GE.iload_n 0 dJ9_min_7cf53_0 rfl rfl ?_
  refine GE.iload_n 1 dJ9_min_7cf53_1 rfl rfl ?_
  refine GE.icmp_gt (tgt := 9) dJ9_min_7cf53_2 (by decide) ?_ ?_
  · refine GE.iload_n 1 dJ9_min_7cf53_9 rfl rfl ?_
    exact GE.iret dJ9_min_7cf53_10 rfl (Nat.le_refl _) (Nat.le_refl _)
  · refine GE.iload_n 0 dJ9_min_7cf53_5 rfl rfl ?_
    refine GE.goto (tgt := 10) dJ9_min_7cf53_6 (by decide) ?_
    exact GE.iret dJ9_min_7cf53_10 rfl (Nat.le_refl _) (Nat.le_refl _)
def fJ7_fill_53178 (σ : St) (pa0 : Nat) (px1 : Int32) : Option (Unit × St) :=
  (aN σ pa0).bind fun x1 =>
  lo2 (fun l4 (x2 : Int32) (t3 : St) =>
    if x1 ≤ x2 then
    some ((), t3)
  else
    (sI 0 t3 pa0 x2 px1).bind (fun t5 =>
    l4 (x2 + 1) t5)) FU 0 σ
set_option maxHeartbeats 4000000 in
set_option maxRecDepth 100000 in
theorem gJ7_fill_53178 (σ : St) (pa0 : Nat) (px1 : Int32) : CE vU mJ7_fill_53178 [.ref pa0, .int px1] σ (fJ7_fill_53178 σ pa0 px1) := by
  refine CE.ofGEF (lv := [(0, .ref pa0), (1, .int px1)]) (by decide +kernel) (Nat.le_of_ble_eq_true rfl) rfl ?_
  unfold fJ7_fill_53178
  refine GE.iconst dJ7_fill_53178_0 kI_0 ?_
  refine GE.istore_n (lv' := [(0, .ref pa0), (1, .int px1), (2, .int 0)]) dJ7_fill_53178_1 rfl (by decide) [1, 2, 0] rfl ?_
  refine GE.aload_n 0 dJ7_fill_53178_2 rfl rfl ?_
  refine GE.alen dJ7_fill_53178_3 (fun x1 => ?_)
  refine GE.istore_n (lv' := [(0, .ref pa0), (1, .int px1), (2, .int 0), (3, .int x1)]) dJ7_fill_53178_4 rfl (by decide) [1, 2, 3, 0] rfl ?_
  refine (GE.lo2 (fun (x2 : Int32) (t3 : St) => [(0, .ref pa0), (1, .int px1), (2, .int x2), (3, .int x1)]) (fun (x2 : Int32) (t3 : St) => []) (fun (x2 : Int32) (t3 : St) => t3) (fun l4 hl4 x2 t3 => ?_) FU 0 σ)
  refine GE.iload_n 2 dJ7_fill_53178_5 rfl rfl ?_
  refine GE.iload_n 3 dJ7_fill_53178_6 rfl rfl ?_
  refine GE.icmp_ge (tgt := 20) dJ7_fill_53178_7 (by decide) ?_ ?_
  · exact GE.vret (x := ()) dJ7_fill_53178_20 rfl (Nat.le_refl _) (Nat.le_refl _)
  · refine GE.aload_n 0 dJ7_fill_53178_10 rfl rfl ?_
    refine GE.iload_n 2 dJ7_fill_53178_11 rfl rfl ?_
    refine GE.iload_n 1 dJ7_fill_53178_12 rfl rfl ?_
    refine GE.iast dJ7_fill_53178_13 (fun t5 => ?_)
    refine GE.iinc (lv' := [(0, .ref pa0), (1, .int px1), (2, .int (x2 + 1)), (3, .int x1)]) 2 dJ7_fill_53178_14 rfl kI_1 (by decide) [1, 2, 0, 3] rfl ?_
    refine GE.goto (tgt := 5) dJ7_fill_53178_17 (by decide) ?_
    exact hl4 (x2 + 1) t5
def fJ9_abs_0f7a4 (σ : St) (px0 : Int32) : Option (Int32 × St) :=
  if 0 ≤ px0 then
    some (px0, σ)
  else
    some (-px0, σ)
set_option maxHeartbeats 4000000 in
set_option maxRecDepth 100000 in
theorem gJ9_abs_0f7a4 (σ : St) (px0 : Int32) : CE vI mJ9_abs_0f7a4 [.int px0] σ (fJ9_abs_0f7a4 σ px0) := by
  refine CE.ofGEF (lv := [(0, .int px0)]) (by decide +kernel) (Nat.le_of_ble_eq_true rfl) rfl ?_
  unfold fJ9_abs_0f7a4
  refine GE.iload_n 0 dJ9_abs_0f7a4_0 rfl rfl ?_
  refine GE.if_ge (tgt := 9) dJ9_abs_0f7a4_1 (by decide) ?_ ?_
  · refine GE.iload_n 0 dJ9_abs_0f7a4_9 rfl rfl ?_
    exact GE.iret dJ9_abs_0f7a4_10 rfl (Nat.le_refl _) (Nat.le_refl _)
  · refine GE.iload_n 0 dJ9_abs_0f7a4_4 rfl rfl ?_
    refine GE.ineg dJ9_abs_0f7a4_5 ?_
    refine GE.goto (tgt := 10) dJ9_abs_0f7a4_6 (by decide) ?_
    exact GE.iret dJ9_abs_0f7a4_10 rfl (Nat.le_refl _) (Nat.le_refl _)
def fJ9_floorDiv_7cf53 (σ : St) (px0 : Int32) (px1 : Int32) : Option (Int32 × St) :=
  if px1 = 0 then none else
  nam (px0 / px1 : Int32) (fun x1 =>
  if 0 ≤ px0 ^^^ px1 then
    some (x1, σ)
  else
    if x1 * px1 = px0 then
      some (x1, σ)
    else
      some (x1 - 1, σ))
set_option maxHeartbeats 4000000 in
set_option maxRecDepth 100000 in
theorem gJ9_floorDiv_7cf53 (σ : St) (px0 : Int32) (px1 : Int32) : CE vI mJ9_floorDiv_7cf53 [.int px0, .int px1] σ (fJ9_floorDiv_7cf53 σ px0 px1) := by
  refine CE.ofGEF (lv := [(0, .int px0), (1, .int px1)]) (by decide +kernel) (Nat.le_of_ble_eq_true rfl) rfl ?_
  unfold fJ9_floorDiv_7cf53
  refine GE.iload_n 0 dJ9_floorDiv_7cf53_0 rfl rfl ?_
  refine GE.iload_n 1 dJ9_floorDiv_7cf53_1 rfl rfl ?_
  refine GE.idiv dJ9_floorDiv_7cf53_2 ?_
  refine GE.nami (fun x1 => ?_)
  refine GE.istore_n (lv' := [(0, .int px0), (1, .int px1), (2, .int x1)]) dJ9_floorDiv_7cf53_3 rfl (by decide) [1, 2, 0] rfl ?_
  refine GE.iload_n 0 dJ9_floorDiv_7cf53_4 rfl rfl ?_
  refine GE.iload_n 1 dJ9_floorDiv_7cf53_5 rfl rfl ?_
  refine GE.ixor dJ9_floorDiv_7cf53_6 ?_
  refine GE.if_ge (tgt := 21) dJ9_floorDiv_7cf53_7 (by decide) ?_ ?_
  · refine GE.iload_n 2 dJ9_floorDiv_7cf53_21 rfl rfl ?_
    exact GE.iret dJ9_floorDiv_7cf53_22 rfl (Nat.le_refl _) (Nat.le_refl _)
  · refine GE.iload_n 2 dJ9_floorDiv_7cf53_10 rfl rfl ?_
    refine GE.iload_n 1 dJ9_floorDiv_7cf53_11 rfl rfl ?_
    refine GE.imul dJ9_floorDiv_7cf53_12 ?_
    refine GE.iload_n 0 dJ9_floorDiv_7cf53_13 rfl rfl ?_
    refine GE.icmp_eq (tgt := 21) dJ9_floorDiv_7cf53_14 (by decide) ?_ ?_
    · refine GE.iload_n 2 dJ9_floorDiv_7cf53_21 rfl rfl ?_
      exact GE.iret dJ9_floorDiv_7cf53_22 rfl (Nat.le_refl _) (Nat.le_refl _)
    · refine GE.iload_n 2 dJ9_floorDiv_7cf53_17 rfl rfl ?_
      refine GE.iconst dJ9_floorDiv_7cf53_18 kI_1 ?_
      refine GE.isub dJ9_floorDiv_7cf53_19 ?_
      exact GE.iret dJ9_floorDiv_7cf53_20 rfl (Nat.le_refl _) (Nat.le_refl _)
def fJ9_max_7cf53 (σ : St) (px0 : Int32) (px1 : Int32) : Option (Int32 × St) :=
  if px0 < px1 then
    some (px1, σ)
  else
    some (px0, σ)
set_option maxHeartbeats 4000000 in
set_option maxRecDepth 100000 in
theorem gJ9_max_7cf53 (σ : St) (px0 : Int32) (px1 : Int32) : CE vI mJ9_max_7cf53 [.int px0, .int px1] σ (fJ9_max_7cf53 σ px0 px1) := by
  refine CE.ofGEF (lv := [(0, .int px0), (1, .int px1)]) (by decide +kernel) (Nat.le_of_ble_eq_true rfl) rfl ?_
  unfold fJ9_max_7cf53
  refine GE.iload_n 0 dJ9_max_7cf53_0 rfl rfl ?_
  refine GE.iload_n 1 dJ9_max_7cf53_1 rfl rfl ?_
  refine GE.icmp_lt (tgt := 9) dJ9_max_7cf53_2 (by decide) ?_ ?_
  · refine GE.iload_n 1 dJ9_max_7cf53_9 rfl rfl ?_
    exact GE.iret dJ9_max_7cf53_10 rfl (Nat.le_refl _) (Nat.le_refl _)
  · refine GE.iload_n 0 dJ9_max_7cf53_5 rfl rfl ?_
    refine GE.goto (tgt := 10) dJ9_max_7cf53_6 (by decide) ?_
    exact GE.iret dJ9_max_7cf53_10 rfl (Nat.le_refl _) (Nat.le_refl _)
def fJ9_max_f86c9 (σ : St) (px0 : Int64) (px2 : Int64) : Option (Int64 × St) :=
  if lg_cmp px0 px2 < 0 then
    some (px2, σ)
  else
    some (px0, σ)
set_option maxHeartbeats 4000000 in
set_option maxRecDepth 100000 in
theorem gJ9_max_f86c9 (σ : St) (px0 : Int64) (px2 : Int64) : CE vL mJ9_max_f86c9 [.long px0, .long px2] σ (fJ9_max_f86c9 σ px0 px2) := by
  refine CE.ofGEF (lv := [(0, .long px0), (2, .long px2)]) (by decide +kernel) (Nat.le_of_ble_eq_true rfl) rfl ?_
  unfold fJ9_max_f86c9
  refine GE.lload_n 0 dJ9_max_f86c9_0 rfl rfl ?_
  refine GE.lload_n 1 dJ9_max_f86c9_1 rfl rfl ?_
  refine GE.lcmp dJ9_max_f86c9_2 ?_
  refine GE.if_lt (tgt := 10) dJ9_max_f86c9_3 (by decide) ?_ ?_
  · refine GE.lload_n 1 dJ9_max_f86c9_10 rfl rfl ?_
    exact GE.lret dJ9_max_f86c9_11 rfl (Nat.le_refl _) (Nat.le_refl _)
  · refine GE.lload_n 0 dJ9_max_f86c9_6 rfl rfl ?_
    refine GE.goto (tgt := 11) dJ9_max_f86c9_7 (by decide) ?_
    exact GE.lret dJ9_max_f86c9_11 rfl (Nat.le_refl _) (Nat.le_refl _)
def fJ9_min_f86c9 (σ : St) (px0 : Int64) (px2 : Int64) : Option (Int64 × St) :=
  if 0 < lg_cmp px0 px2 then
    some (px2, σ)
  else
    some (px0, σ)
set_option maxHeartbeats 4000000 in
set_option maxRecDepth 100000 in
theorem gJ9_min_f86c9 (σ : St) (px0 : Int64) (px2 : Int64) : CE vL mJ9_min_f86c9 [.long px0, .long px2] σ (fJ9_min_f86c9 σ px0 px2) := by
  refine CE.ofGEF (lv := [(0, .long px0), (2, .long px2)]) (by decide +kernel) (Nat.le_of_ble_eq_true rfl) rfl ?_
  unfold fJ9_min_f86c9
  refine GE.lload_n 0 dJ9_min_f86c9_0 rfl rfl ?_
  refine GE.lload_n 1 dJ9_min_f86c9_1 rfl rfl ?_
  refine GE.lcmp dJ9_min_f86c9_2 ?_
  refine GE.if_gt (tgt := 10) dJ9_min_f86c9_3 (by decide) ?_ ?_
  · refine GE.lload_n 1 dJ9_min_f86c9_10 rfl rfl ?_
    exact GE.lret dJ9_min_f86c9_11 rfl (Nat.le_refl _) (Nat.le_refl _)
  · refine GE.lload_n 0 dJ9_min_f86c9_6 rfl rfl ?_
    refine GE.goto (tgt := 11) dJ9_min_f86c9_7 (by decide) ?_
    exact GE.lret dJ9_min_f86c9_11 rfl (Nat.le_refl _) (Nat.le_refl _)
def fX7_hasTower (σ : St) (a0 : Nat) (px1 : Int32) : Option (Int32 × St) :=
  if px1 < 0 then
    some (0, σ)
  else
    (gI 7 3 σ a0).bind fun x1 =>
    if x1 ≤ px1 then
      some (0, σ)
    else
      some (1, σ)
set_option maxHeartbeats 4000000 in
set_option maxRecDepth 100000 in
theorem gX7_hasTower (σ : St) (a0 : Nat) (px1 : Int32) : CE vI mX7_hasTower [.ref a0, .int px1] σ (fX7_hasTower σ a0 px1) := by
  refine CE.ofGEF (lv := [(0, .ref a0), (1, .int px1)]) (by decide +kernel) (Nat.le_of_ble_eq_true rfl) rfl ?_
  unfold fX7_hasTower
  refine GE.iload_n 1 dX7_hasTower_0 rfl rfl ?_
  refine GE.if_lt (tgt := 16) dX7_hasTower_1 (by decide) ?_ ?_
  · refine GE.iconst dX7_hasTower_16 kI_0 ?_
    exact GE.zretk dX7_hasTower_17 rfl (Nat.le_refl _) (Nat.le_refl _) (by decide)
  · refine GE.iload_n 1 dX7_hasTower_4 rfl rfl ?_
    refine GE.aload_n 0 dX7_hasTower_5 rfl rfl ?_
    refine GE.gI dX7_hasTower_6 lF_X7_21 (fun x1 => ?_)
    refine GE.icmp_ge (tgt := 16) dX7_hasTower_9 (by decide) ?_ ?_
    · refine GE.iconst dX7_hasTower_16 kI_0 ?_
      exact GE.zretk dX7_hasTower_17 rfl (Nat.le_refl _) (Nat.le_refl _) (by decide)
    · refine GE.iconst dX7_hasTower_12 kI_1 ?_
      refine GE.goto (tgt := 17) dX7_hasTower_13 (by decide) ?_
      exact GE.zretk dX7_hasTower_17 rfl (Nat.le_refl _) (Nat.le_refl _) (by decide)
def fX3_held (σ : St) (px0 : Int64) : Option (Int32 × St) :=
  if lg_cmp px0 1000000 ≤ 0 then
    if 0 ≤ lg_cmp px0 ((-1000000)) then
      some (Int64.toInt32 px0, σ)
    else
      some ((-1000000), σ)
  else
    some (1000000, σ)
set_option maxHeartbeats 4000000 in
set_option maxRecDepth 100000 in
theorem gX3_held (σ : St) (px0 : Int64) : CE vI mX3_held [.long px0] σ (fX3_held σ px0) := by
  refine CE.ofGEF (lv := [(0, .long px0)]) (by decide +kernel) (Nat.le_of_ble_eq_true rfl) rfl ?_
  unfold fX3_held
  refine GE.lload_n 0 dX3_held_0 rfl rfl ?_
  refine GE.ldc2 (v := 1000000) dX3_held_1 lKL_X3_26 ?_
  refine GE.lcmp dX3_held_4 ?_
  refine GE.if_le (tgt := 13) dX3_held_5 (by decide) ?_ ?_
  · refine GE.lload_n 0 dX3_held_13 rfl rfl ?_
    refine GE.ldc2 (v := (-1000000)) dX3_held_14 lKL_X3_29 ?_
    refine GE.lcmp dX3_held_17 ?_
    refine GE.if_ge (tgt := 26) dX3_held_18 (by decide) ?_ ?_
    · refine GE.lload_n 0 dX3_held_26 rfl rfl ?_
      refine GE.l2i dX3_held_27 ?_
      exact GE.iret dX3_held_28 rfl (Nat.le_refl _) (Nat.le_refl _)
    · refine GE.ldc (v := (-1000000)) dX3_held_21 lK_X3_31 ?_
      refine GE.goto (tgt := 28) dX3_held_23 (by decide) ?_
      exact GE.iret dX3_held_28 rfl (Nat.le_refl _) (Nat.le_refl _)
  · refine GE.ldc (v := 1000000) dX3_held_8 lK_X3_28 ?_
    refine GE.goto (tgt := 28) dX3_held_10 (by decide) ?_
    exact GE.iret dX3_held_28 rfl (Nat.le_refl _) (Nat.le_refl _)
def fX3_join (σ : St) (px0 : Int32) (px1 : Int32) (px2 : Int32) : Option (Int32 × St) :=
  tbs px0 38 [some (px1 &&& px2, σ),
    some (px1 ||| px2, σ),
    some (px1 ||| px2, σ),
    some (px1 ||| px2, σ),
    bd (fX3_held σ ((Int32.toInt64 px1) * (Int32.toInt64 px2))) (fun x1 t2 =>
      some (x1, t2)),
    bd (fX3_held σ ((Int32.toInt64 px1) + (Int32.toInt64 px2))) (fun x3 t4 =>
      some (x3, t4)),
    some (px1 ||| px2, σ),
    bd (fX3_held σ ((Int32.toInt64 px1) - (Int32.toInt64 px2))) (fun x5 t6 =>
      some (x5, t6)),
    some (px1 ||| px2, σ),
    if px2 = 0 then
        some (0, σ)
      else
        if px2 = 0 then none else
        some (px1 / px2, σ),
    some (px1 ||| px2, σ),
    some (px1 ||| px2, σ),
    some (px1 ||| px2, σ),
    some (px1 ||| px2, σ),
    some (px1 ||| px2, σ),
    some (px1 ||| px2, σ),
    some (px1 ||| px2, σ),
    some (px1 ||| px2, σ),
    some (px1 ||| px2, σ),
    some (px1 ||| px2, σ),
    some (px1 ||| px2, σ),
    some (px1 ||| px2, σ),
    if px2 ≤ px1 then
        some (0, σ)
      else
        some (1, σ),
    if px1 = px2 then
        some (1, σ)
      else
        some (0, σ),
    if px1 ≤ px2 then
        some (0, σ)
      else
        some (1, σ)] (some (px1 ||| px2, σ))
set_option maxHeartbeats 4000000 in
set_option maxRecDepth 100000 in
theorem gX3_join (σ : St) (px0 : Int32) (px1 : Int32) (px2 : Int32) : CE vI mX3_join [.int px0, .int px1, .int px2] σ (fX3_join σ px0 px1 px2) := by
  refine CE.ofGEF (lv := [(0, .int px0), (1, .int px1), (2, .int px2)]) (by decide +kernel) (Nat.le_of_ble_eq_true rfl) rfl ?_
  unfold fX3_join
  refine GE.iload_n 0 dX3_join_0 rfl rfl ?_
  refine GE.tsw (tgd := 192) dX3_join_1 rfl rfl (by decide) ?_ ?_
  · refine GE.iload_n 1 dX3_join_192 rfl rfl ?_
    refine GE.iload_n 2 dX3_join_193 rfl rfl ?_
    refine GE.ior dX3_join_194 ?_
    exact GE.iret dX3_join_195 rfl (Nat.le_refl _) (Nat.le_refl _)
  · intro j9 E9 o9 hE9 ho9
    match j9, hE9, ho9 with
    | 0, hE9, ho9 =>
      cases hE9; cases ho9
      refine ⟨188, by decide, ?_⟩
      refine GE.iload_n 1 dX3_join_188 rfl rfl ?_
      refine GE.iload_n 2 dX3_join_189 rfl rfl ?_
      refine GE.iand dX3_join_190 ?_
      exact GE.iret dX3_join_191 rfl (Nat.le_refl _) (Nat.le_refl _)
    | 1, hE9, ho9 =>
      cases hE9; cases ho9
      refine ⟨192, by decide, ?_⟩
      refine GE.iload_n 1 dX3_join_192 rfl rfl ?_
      refine GE.iload_n 2 dX3_join_193 rfl rfl ?_
      refine GE.ior dX3_join_194 ?_
      exact GE.iret dX3_join_195 rfl (Nat.le_refl _) (Nat.le_refl _)
    | 2, hE9, ho9 =>
      cases hE9; cases ho9
      refine ⟨192, by decide, ?_⟩
      refine GE.iload_n 1 dX3_join_192 rfl rfl ?_
      refine GE.iload_n 2 dX3_join_193 rfl rfl ?_
      refine GE.ior dX3_join_194 ?_
      exact GE.iret dX3_join_195 rfl (Nat.le_refl _) (Nat.le_refl _)
    | 3, hE9, ho9 =>
      cases hE9; cases ho9
      refine ⟨192, by decide, ?_⟩
      refine GE.iload_n 1 dX3_join_192 rfl rfl ?_
      refine GE.iload_n 2 dX3_join_193 rfl rfl ?_
      refine GE.ior dX3_join_194 ?_
      exact GE.iret dX3_join_195 rfl (Nat.le_refl _) (Nat.le_refl _)
    | 4, hE9, ho9 =>
      cases hE9; cases ho9
      refine ⟨134, by decide, ?_⟩
      refine GE.iload_n 1 dX3_join_134 rfl rfl ?_
      refine GE.i2l dX3_join_135 ?_
      refine GE.iload_n 2 dX3_join_136 rfl rfl ?_
      refine GE.i2l dX3_join_137 ?_
      refine GE.lmul dX3_join_138 ?_
      refine GE.callsI [.long ((Int32.toInt64 px1) * (Int32.toInt64 px2))] dX3_join_139 (lT_X3_22) rfl ⟨rfl, rfl⟩ (rokb rfl) (gX3_held σ ((Int32.toInt64 px1) * (Int32.toInt64 px2))) (fun x1 t2 => ?_)
      exact GE.iret dX3_join_142 rfl (Nat.le_refl _) (Nat.le_refl _)
    | 5, hE9, ho9 =>
      cases hE9; cases ho9
      refine ⟨116, by decide, ?_⟩
      refine GE.iload_n 1 dX3_join_116 rfl rfl ?_
      refine GE.i2l dX3_join_117 ?_
      refine GE.iload_n 2 dX3_join_118 rfl rfl ?_
      refine GE.i2l dX3_join_119 ?_
      refine GE.ladd dX3_join_120 ?_
      refine GE.callsI [.long ((Int32.toInt64 px1) + (Int32.toInt64 px2))] dX3_join_121 (lT_X3_22) rfl ⟨rfl, rfl⟩ (rokb rfl) (gX3_held σ ((Int32.toInt64 px1) + (Int32.toInt64 px2))) (fun x3 t4 => ?_)
      exact GE.iret dX3_join_124 rfl (Nat.le_refl _) (Nat.le_refl _)
    | 6, hE9, ho9 =>
      cases hE9; cases ho9
      refine ⟨192, by decide, ?_⟩
      refine GE.iload_n 1 dX3_join_192 rfl rfl ?_
      refine GE.iload_n 2 dX3_join_193 rfl rfl ?_
      refine GE.ior dX3_join_194 ?_
      exact GE.iret dX3_join_195 rfl (Nat.le_refl _) (Nat.le_refl _)
    | 7, hE9, ho9 =>
      cases hE9; cases ho9
      refine ⟨125, by decide, ?_⟩
      refine GE.iload_n 1 dX3_join_125 rfl rfl ?_
      refine GE.i2l dX3_join_126 ?_
      refine GE.iload_n 2 dX3_join_127 rfl rfl ?_
      refine GE.i2l dX3_join_128 ?_
      refine GE.lsub dX3_join_129 ?_
      refine GE.callsI [.long ((Int32.toInt64 px1) - (Int32.toInt64 px2))] dX3_join_130 (lT_X3_22) rfl ⟨rfl, rfl⟩ (rokb rfl) (gX3_held σ ((Int32.toInt64 px1) - (Int32.toInt64 px2))) (fun x5 t6 => ?_)
      exact GE.iret dX3_join_133 rfl (Nat.le_refl _) (Nat.le_refl _)
    | 8, hE9, ho9 =>
      cases hE9; cases ho9
      refine ⟨192, by decide, ?_⟩
      refine GE.iload_n 1 dX3_join_192 rfl rfl ?_
      refine GE.iload_n 2 dX3_join_193 rfl rfl ?_
      refine GE.ior dX3_join_194 ?_
      exact GE.iret dX3_join_195 rfl (Nat.le_refl _) (Nat.le_refl _)
    | 9, hE9, ho9 =>
      cases hE9; cases ho9
      refine ⟨143, by decide, ?_⟩
      refine GE.iload_n 2 dX3_join_143 rfl rfl ?_
      refine GE.if_ne (tgt := 151) dX3_join_144 (by decide) ?_ ?_
      · refine GE.iload_n 1 dX3_join_151 rfl rfl ?_
        refine GE.iload_n 2 dX3_join_152 rfl rfl ?_
        refine GE.idiv dX3_join_153 ?_
        exact GE.iret dX3_join_154 rfl (Nat.le_refl _) (Nat.le_refl _)
      · refine GE.iconst dX3_join_147 kI_0 ?_
        refine GE.goto (tgt := 154) dX3_join_148 (by decide) ?_
        exact GE.iret dX3_join_154 rfl (Nat.le_refl _) (Nat.le_refl _)
    | 10, hE9, ho9 =>
      cases hE9; cases ho9
      refine ⟨192, by decide, ?_⟩
      refine GE.iload_n 1 dX3_join_192 rfl rfl ?_
      refine GE.iload_n 2 dX3_join_193 rfl rfl ?_
      refine GE.ior dX3_join_194 ?_
      exact GE.iret dX3_join_195 rfl (Nat.le_refl _) (Nat.le_refl _)
    | 11, hE9, ho9 =>
      cases hE9; cases ho9
      refine ⟨192, by decide, ?_⟩
      refine GE.iload_n 1 dX3_join_192 rfl rfl ?_
      refine GE.iload_n 2 dX3_join_193 rfl rfl ?_
      refine GE.ior dX3_join_194 ?_
      exact GE.iret dX3_join_195 rfl (Nat.le_refl _) (Nat.le_refl _)
    | 12, hE9, ho9 =>
      cases hE9; cases ho9
      refine ⟨192, by decide, ?_⟩
      refine GE.iload_n 1 dX3_join_192 rfl rfl ?_
      refine GE.iload_n 2 dX3_join_193 rfl rfl ?_
      refine GE.ior dX3_join_194 ?_
      exact GE.iret dX3_join_195 rfl (Nat.le_refl _) (Nat.le_refl _)
    | 13, hE9, ho9 =>
      cases hE9; cases ho9
      refine ⟨192, by decide, ?_⟩
      refine GE.iload_n 1 dX3_join_192 rfl rfl ?_
      refine GE.iload_n 2 dX3_join_193 rfl rfl ?_
      refine GE.ior dX3_join_194 ?_
      exact GE.iret dX3_join_195 rfl (Nat.le_refl _) (Nat.le_refl _)
    | 14, hE9, ho9 =>
      cases hE9; cases ho9
      refine ⟨192, by decide, ?_⟩
      refine GE.iload_n 1 dX3_join_192 rfl rfl ?_
      refine GE.iload_n 2 dX3_join_193 rfl rfl ?_
      refine GE.ior dX3_join_194 ?_
      exact GE.iret dX3_join_195 rfl (Nat.le_refl _) (Nat.le_refl _)
    | 15, hE9, ho9 =>
      cases hE9; cases ho9
      refine ⟨192, by decide, ?_⟩
      refine GE.iload_n 1 dX3_join_192 rfl rfl ?_
      refine GE.iload_n 2 dX3_join_193 rfl rfl ?_
      refine GE.ior dX3_join_194 ?_
      exact GE.iret dX3_join_195 rfl (Nat.le_refl _) (Nat.le_refl _)
    | 16, hE9, ho9 =>
      cases hE9; cases ho9
      refine ⟨192, by decide, ?_⟩
      refine GE.iload_n 1 dX3_join_192 rfl rfl ?_
      refine GE.iload_n 2 dX3_join_193 rfl rfl ?_
      refine GE.ior dX3_join_194 ?_
      exact GE.iret dX3_join_195 rfl (Nat.le_refl _) (Nat.le_refl _)
    | 17, hE9, ho9 =>
      cases hE9; cases ho9
      refine ⟨192, by decide, ?_⟩
      refine GE.iload_n 1 dX3_join_192 rfl rfl ?_
      refine GE.iload_n 2 dX3_join_193 rfl rfl ?_
      refine GE.ior dX3_join_194 ?_
      exact GE.iret dX3_join_195 rfl (Nat.le_refl _) (Nat.le_refl _)
    | 18, hE9, ho9 =>
      cases hE9; cases ho9
      refine ⟨192, by decide, ?_⟩
      refine GE.iload_n 1 dX3_join_192 rfl rfl ?_
      refine GE.iload_n 2 dX3_join_193 rfl rfl ?_
      refine GE.ior dX3_join_194 ?_
      exact GE.iret dX3_join_195 rfl (Nat.le_refl _) (Nat.le_refl _)
    | 19, hE9, ho9 =>
      cases hE9; cases ho9
      refine ⟨192, by decide, ?_⟩
      refine GE.iload_n 1 dX3_join_192 rfl rfl ?_
      refine GE.iload_n 2 dX3_join_193 rfl rfl ?_
      refine GE.ior dX3_join_194 ?_
      exact GE.iret dX3_join_195 rfl (Nat.le_refl _) (Nat.le_refl _)
    | 20, hE9, ho9 =>
      cases hE9; cases ho9
      refine ⟨192, by decide, ?_⟩
      refine GE.iload_n 1 dX3_join_192 rfl rfl ?_
      refine GE.iload_n 2 dX3_join_193 rfl rfl ?_
      refine GE.ior dX3_join_194 ?_
      exact GE.iret dX3_join_195 rfl (Nat.le_refl _) (Nat.le_refl _)
    | 21, hE9, ho9 =>
      cases hE9; cases ho9
      refine ⟨192, by decide, ?_⟩
      refine GE.iload_n 1 dX3_join_192 rfl rfl ?_
      refine GE.iload_n 2 dX3_join_193 rfl rfl ?_
      refine GE.ior dX3_join_194 ?_
      exact GE.iret dX3_join_195 rfl (Nat.le_refl _) (Nat.le_refl _)
    | 22, hE9, ho9 =>
      cases hE9; cases ho9
      refine ⟨166, by decide, ?_⟩
      refine GE.iload_n 1 dX3_join_166 rfl rfl ?_
      refine GE.iload_n 2 dX3_join_167 rfl rfl ?_
      refine GE.icmp_ge (tgt := 175) dX3_join_168 (by decide) ?_ ?_
      · refine GE.iconst dX3_join_175 kI_0 ?_
        exact GE.iret dX3_join_176 rfl (Nat.le_refl _) (Nat.le_refl _)
      · refine GE.iconst dX3_join_171 kI_1 ?_
        refine GE.goto (tgt := 176) dX3_join_172 (by decide) ?_
        exact GE.iret dX3_join_176 rfl (Nat.le_refl _) (Nat.le_refl _)
    | 23, hE9, ho9 =>
      cases hE9; cases ho9
      refine ⟨155, by decide, ?_⟩
      refine GE.iload_n 1 dX3_join_155 rfl rfl ?_
      refine GE.iload_n 2 dX3_join_156 rfl rfl ?_
      refine GE.icmp_ne (tgt := 164) dX3_join_157 (by decide) ?_ ?_
      · refine GE.iconst dX3_join_164 kI_0 ?_
        exact GE.iret dX3_join_165 rfl (Nat.le_refl _) (Nat.le_refl _)
      · refine GE.iconst dX3_join_160 kI_1 ?_
        refine GE.goto (tgt := 165) dX3_join_161 (by decide) ?_
        exact GE.iret dX3_join_165 rfl (Nat.le_refl _) (Nat.le_refl _)
    | 24, hE9, ho9 =>
      cases hE9; cases ho9
      refine ⟨177, by decide, ?_⟩
      refine GE.iload_n 1 dX3_join_177 rfl rfl ?_
      refine GE.iload_n 2 dX3_join_178 rfl rfl ?_
      refine GE.icmp_le (tgt := 186) dX3_join_179 (by decide) ?_ ?_
      · refine GE.iconst dX3_join_186 kI_0 ?_
        exact GE.iret dX3_join_187 rfl (Nat.le_refl _) (Nat.le_refl _)
      · refine GE.iconst dX3_join_182 kI_1 ?_
        refine GE.goto (tgt := 187) dX3_join_183 (by decide) ?_
        exact GE.iret dX3_join_187 rfl (Nat.le_refl _) (Nat.le_refl _)
    | j9 + 25, hE9, ho9 => cases hE9
def fX3_worth (σ : St) (a0 : Nat) (pa1 : Nat) : Option (Int32 × St) :=
  lo4 (fun l5 (x1 : Int32) (x2 : Int32) (x3 : Int32) (t4 : St) =>
    (gR 3 0 t4 a0).bind fun a6 =>
  (aN t4 a6).bind fun x7 =>
  if x7 ≤ x3 then
    some (0, t4)
  else
    (gR 3 0 t4 a0).bind fun a8 =>
    (aI 0 t4 a8 x3).bind fun x9 =>
    nam (x9 &&& 255 : Int32) (fun x10 =>
    (gR 3 0 t4 a0).bind fun a11 =>
    (aI 0 t4 a11 x3).bind fun x12 =>
    nam (x12 >>> (8 &&& 31) : Int32) (fun x13 =>
    jo3 (fun (x14 : Int32) (x15 : Int32) (t16 : St) =>
      l5 x14 x15 (x3 + 1) t16) (fun j17 =>
      if x1 = 0 then
        if x10 = 59 then
          if x2 ≤ 0 then
            some (0, t4)
          else
            (gR 3 1 t4 a0).bind fun a45 =>
            (aI 0 t4 a45 (x2 - 1)).bind fun x46 =>
            some (x46, t4)
        else
          if x10 = 63 then
            jo1 (fun (v40 : Int32) =>
              j17 v40 0 t4) (fun j41 =>
              jo1 (fun (u41 : Unit) =>
                j41 0) (fun j42 =>
                if x2 ≤ 0 then
                  j42 () 
                else
                  (gR 3 1 t4 a0).bind fun a43 =>
                  (aI 0 t4 a43 (x2 - 1)).bind fun x44 =>
                  if x44 = 0 then
                    j41 1
                  else
                    j42 () ))
          else
            jo1 (fun (u17 : Unit) =>
              if 40 ≤ x2 then
                j17 x1 x2 t4
              else
                if x13 < 0 then
                  j17 x1 x2 t4
                else
                  jo1 (fun (u18 : Unit) =>
                    (gR 3 1 t4 a0).bind fun a20 =>
                    jo3 (fun (v21 : Int32) (v22 : Int32) (v23 : Nat) =>
                      (sI 0 t4 v23 v22 v21).bind (fun t25 =>
                      j17 x1 (x2 + 1) t25)) (fun j24 =>
                      if x10 = 35 then
                        j24 x13 x2 a20
                      else
                        (aI 0 t4 pa1 x13).bind fun x26 =>
                        j24 x26 x2 a20)) (fun j19 =>
                    if x10 = 35 then
                      j19 () 
                    else
                      (aN t4 pa1).bind fun x27 =>
                      if x27 ≤ x13 then
                        j17 x1 x2 t4
                      else
                        j19 () )) (fun j18 =>
              if x10 = 35 then
                j18 () 
              else
                if x10 = 64 then
                  j18 () 
                else
                  if x10 = 33 then
                    if x2 ≤ 0 then
                      j17 x1 x2 t4
                    else
                      (gR 3 1 t4 a0).bind fun a36 =>
                      (gR 3 1 t4 a0).bind fun a37 =>
                      (aI 0 t4 a37 (x2 - 1)).bind fun x38 =>
                      (sI 0 t4 a36 (x2 - 1) (1 - x38)).bind (fun t39 =>
                      j17 x1 x2 t39)
                  else
                    if x2 ≤ 1 then
                      j17 x1 x2 t4
                    else
                      (gR 3 1 t4 a0).bind fun a28 =>
                      (gR 3 1 t4 a0).bind fun a29 =>
                      (aI 0 t4 a29 (x2 - 2)).bind fun x30 =>
                      (gR 3 1 t4 a0).bind fun a31 =>
                      (aI 0 t4 a31 (x2 - 1)).bind fun x32 =>
                      bd (fX3_join t4 x10 x30 x32) (fun x33 t34 =>
                      (sI 0 t34 a28 (x2 - 2) x33).bind (fun t35 =>
                      j17 x1 (x2 + (-1)) t35)))
      else
        jo1 (fun (v47 : Int32) =>
          j17 v47 x2 t4) (fun j48 =>
          if x10 = 59 then
            j48 0
          else
            j48 1))))) FU 0 0 0 σ
set_option maxHeartbeats 4000000 in
set_option maxRecDepth 100000 in
theorem gX3_worth (σ : St) (a0 : Nat) (pa1 : Nat) : CE vI mX3_worth [.ref a0, .ref pa1] σ (fX3_worth σ a0 pa1) := by
  refine CE.ofGEF (lv := [(0, .ref a0), (1, .ref pa1)]) (by decide +kernel) (Nat.le_of_ble_eq_true rfl) rfl ?_
  unfold fX3_worth
  refine GE.iconst dX3_worth_0 kI_0 ?_
  refine GE.istore_n (lv' := [(0, .ref a0), (1, .ref pa1), (2, .int 0)]) dX3_worth_1 rfl (by decide) [1, 2, 0] rfl ?_
  refine GE.iconst dX3_worth_2 kI_0 ?_
  refine GE.istore_n (lv' := [(0, .ref a0), (1, .ref pa1), (2, .int 0), (3, .int 0)]) dX3_worth_3 rfl (by decide) [1, 2, 3, 0] rfl ?_
  refine GE.iconst dX3_worth_4 kI_0 ?_
  refine GE.istore (lv' := [(0, .ref a0), (1, .ref pa1), (2, .int 0), (3, .int 0), (4, .int 0)]) dX3_worth_5 (by decide) [1, 2, 3, 4, 0] rfl ?_
  refine (GE.lo4 (fun (x1 : Int32) (x2 : Int32) (x3 : Int32) (t4 : St) => [(0, .ref a0), (1, .ref pa1), (2, .int x1), (3, .int x2), (4, .int x3)]) (fun (x1 : Int32) (x2 : Int32) (x3 : Int32) (t4 : St) => []) (fun (x1 : Int32) (x2 : Int32) (x3 : Int32) (t4 : St) => t4) (fun l5 hl5 x1 x2 x3 t4 => ?_) FU 0 0 0 σ)
  refine GE.iload 4 dX3_worth_7 rfl ?_
  refine GE.aload_n 0 dX3_worth_9 rfl rfl ?_
  refine GE.gR dX3_worth_10 lF_X3_15 (fun a6 => ?_)
  refine GE.alen dX3_worth_13 (fun x7 => ?_)
  refine GE.icmp_ge (tgt := 261) dX3_worth_14 (by decide) ?_ ?_
  · refine GE.iconst dX3_worth_261 kI_0 ?_
    exact GE.iret dX3_worth_262 rfl (Nat.le_refl _) (Nat.le_refl _)
  · refine GE.aload_n 0 dX3_worth_17 rfl rfl ?_
    refine GE.gR dX3_worth_18 lF_X3_15 (fun a8 => ?_)
    refine GE.iload 4 dX3_worth_21 rfl ?_
    refine GE.iald dX3_worth_23 (fun x9 => ?_)
    refine GE.sipush dX3_worth_24 kS_255 ?_
    refine GE.iand dX3_worth_27 ?_
    refine GE.nami (fun x10 => ?_)
    refine GE.istore (lv' := [(0, .ref a0), (1, .ref pa1), (2, .int x1), (3, .int x2), (4, .int x3), (5, .int x10)]) dX3_worth_28 (by decide) [1, 2, 3, 4, 5, 0] rfl ?_
    refine GE.aload_n 0 dX3_worth_30 rfl rfl ?_
    refine GE.gR dX3_worth_31 lF_X3_15 (fun a11 => ?_)
    refine GE.iload 4 dX3_worth_34 rfl ?_
    refine GE.iald dX3_worth_36 (fun x12 => ?_)
    refine GE.bipush dX3_worth_37 kB_8 ?_
    refine GE.ishr dX3_worth_39 ?_
    refine GE.nami (fun x13 => ?_)
    refine GE.istore (lv' := [(0, .ref a0), (1, .ref pa1), (2, .int x1), (3, .int x2), (4, .int x3), (5, .int x10), (6, .int x13)]) dX3_worth_40 (by decide) [1, 2, 3, 4, 5, 6, 0] rfl ?_
    refine GE.iload_n 2 dX3_worth_42 rfl rfl ?_
    refine GE.jo3 255 (fun (x14 : Int32) (x15 : Int32) (t16 : St) => [(0, .ref a0), (1, .ref pa1), (2, .int x14), (3, .int x15), (4, .int x3)]) (fun (x14 : Int32) (x15 : Int32) (t16 : St) => []) (fun (x14 : Int32) (x15 : Int32) (t16 : St) => t16) (fun x14 x15 t16 => ?_) (fun j17 hj17 => ?_)
    · refine GE.iinc (lv' := [(0, .ref a0), (1, .ref pa1), (2, .int x14), (3, .int x15), (4, .int (x3 + 1))]) 4 dX3_worth_255 rfl kI_1 (by decide) [1, 2, 3, 4, 0] rfl ?_
      refine GE.goto (tgt := 7) dX3_worth_258 (by decide) ?_
      exact hl5 x14 x15 (x3 + 1) t16
    · refine GE.if_eq (tgt := 62) dX3_worth_43 (by decide) ?_ ?_
      · refine GE.iload 5 dX3_worth_62 rfl ?_
        refine GE.bipush dX3_worth_64 kB_59 ?_
        refine GE.icmp_ne (tgt := 86) dX3_worth_66 (by decide) ?_ ?_
        · refine GE.iload 5 dX3_worth_86 rfl ?_
          refine GE.bipush dX3_worth_88 kB_63 ?_
          refine GE.icmp_ne (tgt := 119) dX3_worth_90 (by decide) ?_ ?_
          · refine GE.iload 5 dX3_worth_119 rfl ?_
            refine GE.bipush dX3_worth_121 kB_35 ?_
            refine GE.jo1 133 (fun (u17 : Unit) => [(0, .ref a0), (1, .ref pa1), (2, .int x1), (3, .int x2), (4, .int x3), (5, .int x10), (6, .int x13)]) (fun (u17 : Unit) => []) (fun (u17 : Unit) => t4) (fun u17 => ?_) (fun j18 hj18 => ?_)
            · refine GE.iload_n 3 dX3_worth_133 rfl rfl ?_
              refine GE.bipush dX3_worth_134 kB_40 ?_
              refine GE.icmp_ge (tgt := 255) dX3_worth_136 (by decide) ?_ ?_
              · exact GE.sub [0, 1, 2, 3, 4] rfl (hj17 x1 x2 t4)
              · refine GE.iload 6 dX3_worth_139 rfl ?_
                refine GE.if_lt (tgt := 255) dX3_worth_141 (by decide) ?_ ?_
                · exact GE.sub [0, 1, 2, 3, 4] rfl (hj17 x1 x2 t4)
                · refine GE.iload 5 dX3_worth_144 rfl ?_
                  refine GE.bipush dX3_worth_146 kB_35 ?_
                  refine GE.jo1 158 (fun (u18 : Unit) => [(0, .ref a0), (1, .ref pa1), (2, .int x1), (3, .int x2), (4, .int x3), (5, .int x10), (6, .int x13)]) (fun (u18 : Unit) => []) (fun (u18 : Unit) => t4) (fun u18 => ?_) (fun j19 hj19 => ?_)
                  · refine GE.aload_n 0 dX3_worth_158 rfl rfl ?_
                    refine GE.gR dX3_worth_159 lF_X3_11 (fun a20 => ?_)
                    refine GE.iload_n 3 dX3_worth_162 rfl rfl ?_
                    refine GE.iload 5 dX3_worth_163 rfl ?_
                    refine GE.bipush dX3_worth_165 kB_35 ?_
                    refine GE.jo3 179 (fun (v21 : Int32) (v22 : Int32) (v23 : Nat) => [(0, .ref a0), (1, .ref pa1), (2, .int x1), (3, .int x2), (4, .int x3)]) (fun (v21 : Int32) (v22 : Int32) (v23 : Nat) => [.int v21, .int v22, .ref v23]) (fun (v21 : Int32) (v22 : Int32) (v23 : Nat) => t4) (fun v21 v22 v23 => ?_) (fun j24 hj24 => ?_)
                    · refine GE.iast dX3_worth_179 (fun t25 => ?_)
                      refine GE.iinc (lv' := [(0, .ref a0), (1, .ref pa1), (2, .int x1), (3, .int (x2 + 1)), (4, .int x3)]) 3 dX3_worth_180 rfl kI_1 (by decide) [1, 2, 3, 0, 4] rfl ?_
                      refine GE.goto (tgt := 255) dX3_worth_183 (by decide) ?_
                      exact hj17 x1 (x2 + 1) t25
                    · refine GE.icmp_ne (tgt := 175) dX3_worth_167 (by decide) ?_ ?_
                      · refine GE.aload_n 1 dX3_worth_175 rfl rfl ?_
                        refine GE.iload 6 dX3_worth_176 rfl ?_
                        refine GE.iald dX3_worth_178 (fun x26 => ?_)
                        exact GE.sub [0, 1, 2, 3, 4] rfl (hj24 x26 x2 a20)
                      · refine GE.iload 6 dX3_worth_170 rfl ?_
                        refine GE.goto (tgt := 179) dX3_worth_172 (by decide) ?_
                        exact GE.sub [0, 1, 2, 3, 4] rfl (hj24 x13 x2 a20)
                  · refine GE.icmp_eq (tgt := 158) dX3_worth_148 (by decide) ?_ ?_
                    · exact hj19 () 
                    · refine GE.iload 6 dX3_worth_151 rfl ?_
                      refine GE.aload_n 1 dX3_worth_153 rfl rfl ?_
                      refine GE.alen dX3_worth_154 (fun x27 => ?_)
                      refine GE.icmp_ge (tgt := 255) dX3_worth_155 (by decide) ?_ ?_
                      · exact GE.sub [0, 1, 2, 3, 4] rfl (hj17 x1 x2 t4)
                      · exact hj19 () 
            · refine GE.icmp_eq (tgt := 133) dX3_worth_123 (by decide) ?_ ?_
              · exact hj18 () 
              · refine GE.iload 5 dX3_worth_126 rfl ?_
                refine GE.bipush dX3_worth_128 kB_64 ?_
                refine GE.icmp_ne (tgt := 186) dX3_worth_130 (by decide) ?_ ?_
                · refine GE.iload 5 dX3_worth_186 rfl ?_
                  refine GE.bipush dX3_worth_188 kB_33 ?_
                  refine GE.icmp_ne (tgt := 218) dX3_worth_190 (by decide) ?_ ?_
                  · refine GE.iload_n 3 dX3_worth_218 rfl rfl ?_
                    refine GE.iconst dX3_worth_219 kI_1 ?_
                    refine GE.icmp_le (tgt := 255) dX3_worth_220 (by decide) ?_ ?_
                    · exact GE.sub [0, 1, 2, 3, 4] rfl (hj17 x1 x2 t4)
                    · refine GE.aload_n 0 dX3_worth_223 rfl rfl ?_
                      refine GE.gR dX3_worth_224 lF_X3_11 (fun a28 => ?_)
                      refine GE.iload_n 3 dX3_worth_227 rfl rfl ?_
                      refine GE.iconst dX3_worth_228 kI_2 ?_
                      refine GE.isub dX3_worth_229 ?_
                      refine GE.iload 5 dX3_worth_230 rfl ?_
                      refine GE.aload_n 0 dX3_worth_232 rfl rfl ?_
                      refine GE.gR dX3_worth_233 lF_X3_11 (fun a29 => ?_)
                      refine GE.iload_n 3 dX3_worth_236 rfl rfl ?_
                      refine GE.iconst dX3_worth_237 kI_2 ?_
                      refine GE.isub dX3_worth_238 ?_
                      refine GE.iald dX3_worth_239 (fun x30 => ?_)
                      refine GE.aload_n 0 dX3_worth_240 rfl rfl ?_
                      refine GE.gR dX3_worth_241 lF_X3_11 (fun a31 => ?_)
                      refine GE.iload_n 3 dX3_worth_244 rfl rfl ?_
                      refine GE.iconst dX3_worth_245 kI_1 ?_
                      refine GE.isub dX3_worth_246 ?_
                      refine GE.iald dX3_worth_247 (fun x32 => ?_)
                      refine GE.callsI [.int x10, .int x30, .int x32] dX3_worth_248 (lT_X3_18) rfl ⟨rfl, rfl⟩ (rokb rfl) (gX3_join t4 x10 x30 x32) (fun x33 t34 => ?_)
                      refine GE.iast dX3_worth_251 (fun t35 => ?_)
                      refine GE.iinc (lv' := [(0, .ref a0), (1, .ref pa1), (2, .int x1), (3, .int (x2 + (-1))), (4, .int x3), (5, .int x10), (6, .int x13)]) 3 dX3_worth_252 rfl kI_m1 (by decide) [1, 2, 3, 0, 4, 5, 6] rfl ?_
                      exact GE.sub [0, 1, 2, 3, 4] rfl (hj17 x1 (x2 + (-1)) t35)
                  · refine GE.iload_n 3 dX3_worth_193 rfl rfl ?_
                    refine GE.if_le (tgt := 255) dX3_worth_194 (by decide) ?_ ?_
                    · exact GE.sub [0, 1, 2, 3, 4] rfl (hj17 x1 x2 t4)
                    · refine GE.aload_n 0 dX3_worth_197 rfl rfl ?_
                      refine GE.gR dX3_worth_198 lF_X3_11 (fun a36 => ?_)
                      refine GE.iload_n 3 dX3_worth_201 rfl rfl ?_
                      refine GE.iconst dX3_worth_202 kI_1 ?_
                      refine GE.isub dX3_worth_203 ?_
                      refine GE.iconst dX3_worth_204 kI_1 ?_
                      refine GE.aload_n 0 dX3_worth_205 rfl rfl ?_
                      refine GE.gR dX3_worth_206 lF_X3_11 (fun a37 => ?_)
                      refine GE.iload_n 3 dX3_worth_209 rfl rfl ?_
                      refine GE.iconst dX3_worth_210 kI_1 ?_
                      refine GE.isub dX3_worth_211 ?_
                      refine GE.iald dX3_worth_212 (fun x38 => ?_)
                      refine GE.isub dX3_worth_213 ?_
                      refine GE.iast dX3_worth_214 (fun t39 => ?_)
                      refine GE.goto (tgt := 255) dX3_worth_215 (by decide) ?_
                      exact GE.sub [0, 1, 2, 3, 4] rfl (hj17 x1 x2 t39)
                · exact hj18 () 
          · refine GE.iload_n 3 dX3_worth_93 rfl rfl ?_
            refine GE.jo1 113 (fun (v40 : Int32) => [(0, .ref a0), (1, .ref pa1), (4, .int x3)]) (fun (v40 : Int32) => [.int v40]) (fun (v40 : Int32) => t4) (fun v40 => ?_) (fun j41 hj41 => ?_)
            · refine GE.istore_n (lv' := [(0, .ref a0), (1, .ref pa1), (2, .int v40), (4, .int x3)]) dX3_worth_113 rfl (by decide) [1, 2, 0, 3] rfl ?_
              refine GE.iconst dX3_worth_114 kI_0 ?_
              refine GE.istore_n (lv' := [(0, .ref a0), (1, .ref pa1), (2, .int v40), (3, .int 0), (4, .int x3)]) dX3_worth_115 rfl (by decide) [1, 2, 3, 0, 4] rfl ?_
              refine GE.goto (tgt := 255) dX3_worth_116 (by decide) ?_
              exact hj17 v40 0 t4
            · refine GE.jo1 112 (fun (u41 : Unit) => [(0, .ref a0), (1, .ref pa1), (4, .int x3)]) (fun (u41 : Unit) => []) (fun (u41 : Unit) => t4) (fun u41 => ?_) (fun j42 hj42 => ?_)
              · refine GE.iconst dX3_worth_112 kI_0 ?_
                exact hj41 0
              · refine GE.if_le (tgt := 112) dX3_worth_94 (by decide) ?_ ?_
                · exact GE.sub [0, 1, 4] rfl (hj42 () )
                · refine GE.aload_n 0 dX3_worth_97 rfl rfl ?_
                  refine GE.gR dX3_worth_98 lF_X3_11 (fun a43 => ?_)
                  refine GE.iload_n 3 dX3_worth_101 rfl rfl ?_
                  refine GE.iconst dX3_worth_102 kI_1 ?_
                  refine GE.isub dX3_worth_103 ?_
                  refine GE.iald dX3_worth_104 (fun x44 => ?_)
                  refine GE.if_ne (tgt := 112) dX3_worth_105 (by decide) ?_ ?_
                  · exact GE.sub [0, 1, 4] rfl (hj42 () )
                  · refine GE.iconst dX3_worth_108 kI_1 ?_
                    refine GE.goto (tgt := 113) dX3_worth_109 (by decide) ?_
                    exact GE.sub [0, 1, 4] rfl (hj41 1)
        · refine GE.iload_n 3 dX3_worth_69 rfl rfl ?_
          refine GE.if_le (tgt := 84) dX3_worth_70 (by decide) ?_ ?_
          · refine GE.iconst dX3_worth_84 kI_0 ?_
            exact GE.iret dX3_worth_85 rfl (Nat.le_refl _) (Nat.le_refl _)
          · refine GE.aload_n 0 dX3_worth_73 rfl rfl ?_
            refine GE.gR dX3_worth_74 lF_X3_11 (fun a45 => ?_)
            refine GE.iload_n 3 dX3_worth_77 rfl rfl ?_
            refine GE.iconst dX3_worth_78 kI_1 ?_
            refine GE.isub dX3_worth_79 ?_
            refine GE.iald dX3_worth_80 (fun x46 => ?_)
            refine GE.goto (tgt := 85) dX3_worth_81 (by decide) ?_
            exact GE.iret dX3_worth_85 rfl (Nat.le_refl _) (Nat.le_refl _)
      · refine GE.iload 5 dX3_worth_46 rfl ?_
        refine GE.bipush dX3_worth_48 kB_59 ?_
        refine GE.jo1 58 (fun (v47 : Int32) => [(0, .ref a0), (1, .ref pa1), (3, .int x2), (4, .int x3)]) (fun (v47 : Int32) => [.int v47]) (fun (v47 : Int32) => t4) (fun v47 => ?_) (fun j48 hj48 => ?_)
        · refine GE.istore_n (lv' := [(0, .ref a0), (1, .ref pa1), (2, .int v47), (3, .int x2), (4, .int x3)]) dX3_worth_58 rfl (by decide) [1, 2, 0, 3, 4] rfl ?_
          refine GE.goto (tgt := 255) dX3_worth_59 (by decide) ?_
          exact hj17 v47 x2 t4
        · refine GE.icmp_eq (tgt := 57) dX3_worth_50 (by decide) ?_ ?_
          · refine GE.iconst dX3_worth_57 kI_0 ?_
            exact GE.sub [0, 1, 3, 4] rfl (hj48 0)
          · refine GE.iconst dX3_worth_53 kI_1 ?_
            refine GE.goto (tgt := 58) dX3_worth_54 (by decide) ?_
            exact GE.sub [0, 1, 3, 4] rfl (hj48 1)
def fX9_within (σ : St) (px0 : Int32) (px1 : Int32) (px2 : Int32) : Option (Int32 × St) :=
  bd (fJ9_min_7cf53 σ px2 px0) (fun x1 t2 =>
  bd (fJ9_max_7cf53 t2 px1 x1) (fun x3 t4 =>
  some (x3, t4)))
set_option maxHeartbeats 4000000 in
set_option maxRecDepth 100000 in
theorem gX9_within (σ : St) (px0 : Int32) (px1 : Int32) (px2 : Int32) : CE vI mX9_within [.int px0, .int px1, .int px2] σ (fX9_within σ px0 px1 px2) := by
  refine CE.ofGEF (lv := [(0, .int px0), (1, .int px1), (2, .int px2)]) (by decide +kernel) (Nat.le_of_ble_eq_true rfl) rfl ?_
  unfold fX9_within
  refine GE.iload_n 1 dX9_within_0 rfl rfl ?_
  refine GE.iload_n 2 dX9_within_1 rfl rfl ?_
  refine GE.iload_n 0 dX9_within_2 rfl rfl ?_
  refine GE.callsI [.int px2, .int px0] dX9_within_3 (lT_X9_230) rfl ⟨rfl, rfl⟩ (rokb rfl) (gJ9_min_7cf53 σ px2 px0) (fun x1 t2 => ?_)
  refine GE.callsI [.int px1, .int x1] dX9_within_6 (lT_X9_240) rfl ⟨rfl, rfl⟩ (rokb rfl) (gJ9_max_7cf53 t2 px1 x1) (fun x3 t4 => ?_)
  exact GE.iret dX9_within_9 rfl (Nat.le_refl _) (Nat.le_refl _)
def fX7_reach (σ : St) (a0 : Nat) (px1 : Int32) (pq2 : Option Nat) : Option (Int32 × St) :=
  nn pq2 (
    (gR 7 12 σ a0).bind fun a2 =>
    (aI 0 σ a2 px1).bind fun x3 =>
    some (x3, σ)) (fun a1 =>
    (gR 7 13 σ a0).bind fun a4 =>
    (gR 7 12 σ a0).bind fun a5 =>
    (aI 0 σ a5 px1).bind fun x6 =>
    (sI 0 σ a4 0 x6).bind (fun t7 =>
    (gR 7 13 t7 a0).bind fun a8 =>
    (gI 7 4 t7 a0).bind fun x9 =>
    (sI 0 t7 a8 1 x9).bind (fun t10 =>
    (gR 7 13 t10 a0).bind fun a11 =>
    (gI 7 6 t10 a0).bind fun x12 =>
    if 24 = 0 then none else
    (sI 0 t10 a11 2 (x12 - x12 / 24 * 24)).bind (fun t13 =>
    (gR 7 13 t13 a0).bind fun a14 =>
    (gR 7 9 t13 a0).bind fun a15 =>
    (gR 7 10 t13 a0).bind fun a16 =>
    (aI 0 t13 a16 px1).bind fun x17 =>
    (aI 0 t13 a15 x17).bind fun x18 =>
    (sI 0 t13 a14 3 x18).bind (fun t19 =>
    (gR 7 13 t19 a0).bind fun a20 =>
    (gR 7 11 t19 a0).bind fun a21 =>
    (aI 0 t19 a21 px1).bind fun x22 =>
    (sI 0 t19 a20 4 x22).bind (fun t23 =>
    (gR 7 13 t23 a0).bind fun a24 =>
    (gI 7 3 t23 a0).bind fun x25 =>
    (sI 0 t23 a24 5 x25).bind (fun t26 =>
    (gR 7 13 t26 a0).bind fun a27 =>
    bo 3 t26 a1 (fX3_worth t26 a1 a27) (fun x28 t29 =>
    bd (fX9_within t29 x28 0 9) (fun x30 t31 =>
    some (x30, t31))))))))))
set_option maxHeartbeats 4000000 in
set_option maxRecDepth 100000 in
theorem gX7_reach (σ : St) (a0 : Nat) (px1 : Int32) (pq2 : Option Nat) : CE vI mX7_reach [.ref a0, .int px1, va_rf pq2] σ (fX7_reach σ a0 px1 pq2) := by
  refine CE.ofGEF (lv := [(0, .ref a0), (1, .int px1), (2, va_rf pq2)]) (by decide +kernel) (by cases pq2 <;> exact Nat.le_of_ble_eq_true rfl) rfl ?_
  unfold fX7_reach
  refine GE.aloadq_n 2 dX7_reach_0 rfl rfl ?_
  refine GE.ifnn (tgt := 11) dX7_reach_1 (by decide) (fun hq => ?_) (fun a1 hq => ?_)
  · subst hq
    refine GE.sub (lv' := [(0, .ref a0), (1, .int px1)]) [0, 1] rfl ?_
    refine GE.aload_n 0 dX7_reach_4 rfl rfl ?_
    refine GE.gR dX7_reach_5 lF_X7_49 (fun a2 => ?_)
    refine GE.iload_n 1 dX7_reach_8 rfl rfl ?_
    refine GE.iald dX7_reach_9 (fun x3 => ?_)
    exact GE.iret dX7_reach_10 rfl (Nat.le_refl _) (Nat.le_refl _)
  · subst hq
    refine GE.sub (lv' := [(0, .ref a0), (1, .int px1), (2, .ref a1)]) [0, 1, 2] rfl ?_
    refine GE.aload_n 0 dX7_reach_11 rfl rfl ?_
    refine GE.gR dX7_reach_12 lF_X7_54 (fun a4 => ?_)
    refine GE.iconst dX7_reach_15 kI_0 ?_
    refine GE.aload_n 0 dX7_reach_16 rfl rfl ?_
    refine GE.gR dX7_reach_17 lF_X7_49 (fun a5 => ?_)
    refine GE.iload_n 1 dX7_reach_20 rfl rfl ?_
    refine GE.iald dX7_reach_21 (fun x6 => ?_)
    refine GE.iast dX7_reach_22 (fun t7 => ?_)
    refine GE.aload_n 0 dX7_reach_23 rfl rfl ?_
    refine GE.gR dX7_reach_24 lF_X7_54 (fun a8 => ?_)
    refine GE.iconst dX7_reach_27 kI_1 ?_
    refine GE.aload_n 0 dX7_reach_28 rfl rfl ?_
    refine GE.gI dX7_reach_29 lF_X7_24 (fun x9 => ?_)
    refine GE.iast dX7_reach_32 (fun t10 => ?_)
    refine GE.aload_n 0 dX7_reach_33 rfl rfl ?_
    refine GE.gR dX7_reach_34 lF_X7_54 (fun a11 => ?_)
    refine GE.iconst dX7_reach_37 kI_2 ?_
    refine GE.aload_n 0 dX7_reach_38 rfl rfl ?_
    refine GE.gI dX7_reach_39 lF_X7_30 (fun x12 => ?_)
    refine GE.bipush dX7_reach_42 kB_24 ?_
    refine GE.irem dX7_reach_44 ?_
    refine GE.iast dX7_reach_45 (fun t13 => ?_)
    refine GE.aload_n 0 dX7_reach_46 rfl rfl ?_
    refine GE.gR dX7_reach_47 lF_X7_54 (fun a14 => ?_)
    refine GE.iconst dX7_reach_50 kI_3 ?_
    refine GE.aload_n 0 dX7_reach_51 rfl rfl ?_
    refine GE.gR dX7_reach_52 lF_X7_39 (fun a15 => ?_)
    refine GE.aload_n 0 dX7_reach_55 rfl rfl ?_
    refine GE.gR dX7_reach_56 lF_X7_43 (fun a16 => ?_)
    refine GE.iload_n 1 dX7_reach_59 rfl rfl ?_
    refine GE.iald dX7_reach_60 (fun x17 => ?_)
    refine GE.iald dX7_reach_61 (fun x18 => ?_)
    refine GE.iast dX7_reach_62 (fun t19 => ?_)
    refine GE.aload_n 0 dX7_reach_63 rfl rfl ?_
    refine GE.gR dX7_reach_64 lF_X7_54 (fun a20 => ?_)
    refine GE.iconst dX7_reach_67 kI_4 ?_
    refine GE.aload_n 0 dX7_reach_68 rfl rfl ?_
    refine GE.gR dX7_reach_69 lF_X7_46 (fun a21 => ?_)
    refine GE.iload_n 1 dX7_reach_72 rfl rfl ?_
    refine GE.iald dX7_reach_73 (fun x22 => ?_)
    refine GE.iast dX7_reach_74 (fun t23 => ?_)
    refine GE.aload_n 0 dX7_reach_75 rfl rfl ?_
    refine GE.gR dX7_reach_76 lF_X7_54 (fun a24 => ?_)
    refine GE.iconst dX7_reach_79 kI_5 ?_
    refine GE.aload_n 0 dX7_reach_80 rfl rfl ?_
    refine GE.gI dX7_reach_81 lF_X7_21 (fun x25 => ?_)
    refine GE.iast dX7_reach_84 (fun t26 => ?_)
    refine GE.aload_n 2 dX7_reach_85 rfl rfl ?_
    refine GE.aload_n 0 dX7_reach_86 rfl rfl ?_
    refine GE.gR dX7_reach_87 lF_X7_54 (fun a27 => ?_)
    refine GE.callvI [.ref a27] dX7_reach_90 (lV_X7_67) rfl ⟨rfl, rfl⟩ (rokb rfl) (gX3_worth t26 a1 a27) (fun x28 t29 => ?_)
    refine GE.iconst dX7_reach_93 kI_0 ?_
    refine GE.bipush dX7_reach_94 kB_9 ?_
    refine GE.callnI [.int x28, .int 0, .int 9] dX7_reach_96 (lN_X7_71) rfl ⟨rfl, rfl⟩ (rokb rfl) (gX9_within t29 x28 0 9) (fun x30 t31 => ?_)
    exact GE.iret dX7_reach_99 rfl (Nat.le_refl _) (Nat.le_refl _)
def fX7_eye (σ : St) (a0 : Nat) (px1 : Int32) : Option (Int32 × St) :=
  (gR 7 9 σ a0).bind fun a1 =>
  (gR 7 10 σ a0).bind fun a2 =>
  (aI 0 σ a2 px1).bind fun x3 =>
  (aI 0 σ a1 x3).bind fun x4 =>
  (gR 7 11 σ a0).bind fun a5 =>
  (aI 0 σ a5 px1).bind fun x6 =>
  some (x4 + x6, σ)
set_option maxHeartbeats 4000000 in
set_option maxRecDepth 100000 in
theorem gX7_eye (σ : St) (a0 : Nat) (px1 : Int32) : CE vI mX7_eye [.ref a0, .int px1] σ (fX7_eye σ a0 px1) := by
  refine CE.ofGEF (lv := [(0, .ref a0), (1, .int px1)]) (by decide +kernel) (Nat.le_of_ble_eq_true rfl) rfl ?_
  unfold fX7_eye
  refine GE.aload_n 0 dX7_eye_0 rfl rfl ?_
  refine GE.gR dX7_eye_1 lF_X7_39 (fun a1 => ?_)
  refine GE.aload_n 0 dX7_eye_4 rfl rfl ?_
  refine GE.gR dX7_eye_5 lF_X7_43 (fun a2 => ?_)
  refine GE.iload_n 1 dX7_eye_8 rfl rfl ?_
  refine GE.iald dX7_eye_9 (fun x3 => ?_)
  refine GE.iald dX7_eye_10 (fun x4 => ?_)
  refine GE.aload_n 0 dX7_eye_11 rfl rfl ?_
  refine GE.gR dX7_eye_12 lF_X7_46 (fun a5 => ?_)
  refine GE.iload_n 1 dX7_eye_15 rfl rfl ?_
  refine GE.iald dX7_eye_16 (fun x6 => ?_)
  refine GE.iadd dX7_eye_17 ?_
  exact GE.iret dX7_eye_18 rfl (Nat.le_refl _) (Nat.le_refl _)
def fX7_hasCell (σ : St) (a0 : Nat) (px1 : Int32) : Option (Int32 × St) :=
  if px1 < 0 then
    some (0, σ)
  else
    (gI 7 2 σ a0).bind fun x1 =>
    if x1 ≤ px1 then
      some (0, σ)
    else
      some (1, σ)
set_option maxHeartbeats 4000000 in
set_option maxRecDepth 100000 in
theorem gX7_hasCell (σ : St) (a0 : Nat) (px1 : Int32) : CE vI mX7_hasCell [.ref a0, .int px1] σ (fX7_hasCell σ a0 px1) := by
  refine CE.ofGEF (lv := [(0, .ref a0), (1, .int px1)]) (by decide +kernel) (Nat.le_of_ble_eq_true rfl) rfl ?_
  unfold fX7_hasCell
  refine GE.iload_n 1 dX7_hasCell_0 rfl rfl ?_
  refine GE.if_lt (tgt := 16) dX7_hasCell_1 (by decide) ?_ ?_
  · refine GE.iconst dX7_hasCell_16 kI_0 ?_
    exact GE.zretk dX7_hasCell_17 rfl (Nat.le_refl _) (Nat.le_refl _) (by decide)
  · refine GE.iload_n 1 dX7_hasCell_4 rfl rfl ?_
    refine GE.aload_n 0 dX7_hasCell_5 rfl rfl ?_
    refine GE.gI dX7_hasCell_6 lF_X7_18 (fun x1 => ?_)
    refine GE.icmp_ge (tgt := 16) dX7_hasCell_9 (by decide) ?_ ?_
    · refine GE.iconst dX7_hasCell_16 kI_0 ?_
      exact GE.zretk dX7_hasCell_17 rfl (Nat.le_refl _) (Nat.le_refl _) (by decide)
    · refine GE.iconst dX7_hasCell_12 kI_1 ?_
      refine GE.goto (tgt := 17) dX7_hasCell_13 (by decide) ?_
      exact GE.zretk dX7_hasCell_17 rfl (Nat.le_refl _) (Nat.le_refl _) (by decide)
def fX7_isClear (σ : St) (a0 : Nat) (px1 : Int32) (px2 : Int32) (px3 : Int32) (px4 : Int32) : Option (Int32 × St) :=
  (gR 7 9 σ a0).bind fun a1 =>
  (aI 0 σ a1 px4).bind fun x2 =>
  (gI 7 4 σ a0).bind fun x3 =>
  if x2 < x3 then
    some (0, σ)
  else
    (gI 7 0 σ a0).bind fun x4 =>
    if 1 ≤ x4 then
      (gI 7 0 σ a0).bind fun x5 =>
      if x5 = 0 then none else
      nam (px1 - px1 / x5 * x5 : Int32) (fun x6 =>
      (gI 7 0 σ a0).bind fun x7 =>
      if x7 = 0 then none else
      nam (px1 / x7 : Int32) (fun x8 =>
      (gI 7 0 σ a0).bind fun x9 =>
      if x9 = 0 then none else
      nam ((px4 - px4 / x9 * x9) - x6 : Int32) (fun x10 =>
      (gI 7 0 σ a0).bind fun x11 =>
      if x11 = 0 then none else
      nam ((px4 / x11) - x8 : Int32) (fun x12 =>
      bd (fJ9_abs_0f7a4 σ x10) (fun x13 t14 =>
      bd (fJ9_abs_0f7a4 t14 x12) (fun x15 t16 =>
      bd (fJ9_max_7cf53 t16 x13 x15) (fun x17 t18 =>
      if x17 ≤ px3 then
        lo2 (fun l21 (x19 : Int32) (t20 : St) =>
          if x17 ≤ x19 then
          some (1, t20)
        else
          if 2 * x17 = 0 then none else
          nam (((2 * ((x6 * x17) + (x19 * x10))) + x17) / (2 * x17) : Int32) (fun x22 =>
          if 2 * x17 = 0 then none else
          nam (((2 * ((x8 * x17) + (x19 * x12))) + x17) / (2 * x17) : Int32) (fun x23 =>
          (gI 7 0 t20 a0).bind fun x24 =>
          nam ((x23 * x24) + x22 : Int32) (fun x25 =>
          bo 7 t20 a0 (fX7_hasCell t20 a0 x25) (fun x26 t27 =>
          jo1 (fun (u27 : Unit) =>
            l21 (x19 + 1) t27) (fun j28 =>
            if x26 = 0 then
              j28 () 
            else
              (gR 7 9 t27 a0).bind fun a29 =>
              (aI 0 t27 a29 x25).bind fun x30 =>
              if x30 * x17 ≤ (px2 * x17) + (x19 * (x2 - px2)) then
                j28 () 
              else
                some (0, t27))))))) FU 1 t18
      else
        some (0, t18))))))))
    else
      some (0, σ)
set_option maxHeartbeats 4000000 in
set_option maxRecDepth 100000 in
theorem gX7_isClear (σ : St) (a0 : Nat) (px1 : Int32) (px2 : Int32) (px3 : Int32) (px4 : Int32) : CE vI mX7_isClear [.ref a0, .int px1, .int px2, .int px3, .int px4] σ (fX7_isClear σ a0 px1 px2 px3 px4) := by
  refine CE.ofGEF (lv := [(0, .ref a0), (1, .int px1), (2, .int px2), (3, .int px3), (4, .int px4)]) (by decide +kernel) (Nat.le_of_ble_eq_true rfl) rfl ?_
  unfold fX7_isClear
  refine GE.aload_n 0 dX7_isClear_0 rfl rfl ?_
  refine GE.gR dX7_isClear_1 lF_X7_39 (fun a1 => ?_)
  refine GE.iload 4 dX7_isClear_4 rfl ?_
  refine GE.iald dX7_isClear_6 (fun x2 => ?_)
  refine GE.istore (lv' := [(0, .ref a0), (1, .int px1), (2, .int px2), (3, .int px3), (4, .int px4), (5, .int x2)]) dX7_isClear_7 (by decide) [1, 2, 3, 4, 5, 0] rfl ?_
  refine GE.iload 5 dX7_isClear_9 rfl ?_
  refine GE.aload_n 0 dX7_isClear_11 rfl rfl ?_
  refine GE.gI dX7_isClear_12 lF_X7_24 (fun x3 => ?_)
  refine GE.icmp_lt (tgt := 26) dX7_isClear_15 (by decide) ?_ ?_
  · refine GE.iconst dX7_isClear_26 kI_0 ?_
    exact GE.zretk dX7_isClear_27 rfl (Nat.le_refl _) (Nat.le_refl _) (by decide)
  · refine GE.aload_n 0 dX7_isClear_18 rfl rfl ?_
    refine GE.gI dX7_isClear_19 lF_X7_11 (fun x4 => ?_)
    refine GE.iconst dX7_isClear_22 kI_1 ?_
    refine GE.icmp_ge (tgt := 28) dX7_isClear_23 (by decide) ?_ ?_
    · refine GE.iload_n 1 dX7_isClear_28 rfl rfl ?_
      refine GE.aload_n 0 dX7_isClear_29 rfl rfl ?_
      refine GE.gI dX7_isClear_30 lF_X7_11 (fun x5 => ?_)
      refine GE.irem dX7_isClear_33 ?_
      refine GE.nami (fun x6 => ?_)
      refine GE.istore (lv' := [(0, .ref a0), (1, .int px1), (2, .int px2), (3, .int px3), (4, .int px4), (5, .int x2), (6, .int x6)]) dX7_isClear_34 (by decide) [1, 2, 3, 4, 5, 6, 0] rfl ?_
      refine GE.iload_n 1 dX7_isClear_36 rfl rfl ?_
      refine GE.aload_n 0 dX7_isClear_37 rfl rfl ?_
      refine GE.gI dX7_isClear_38 lF_X7_11 (fun x7 => ?_)
      refine GE.idiv dX7_isClear_41 ?_
      refine GE.nami (fun x8 => ?_)
      refine GE.istore (lv' := [(0, .ref a0), (1, .int px1), (2, .int px2), (3, .int px3), (4, .int px4), (5, .int x2), (6, .int x6), (7, .int x8)]) dX7_isClear_42 (by decide) [1, 2, 3, 4, 5, 6, 7, 0] rfl ?_
      refine GE.iload 4 dX7_isClear_44 rfl ?_
      refine GE.aload_n 0 dX7_isClear_46 rfl rfl ?_
      refine GE.gI dX7_isClear_47 lF_X7_11 (fun x9 => ?_)
      refine GE.irem dX7_isClear_50 ?_
      refine GE.iload 6 dX7_isClear_51 rfl ?_
      refine GE.isub dX7_isClear_53 ?_
      refine GE.nami (fun x10 => ?_)
      refine GE.istore (lv' := [(0, .ref a0), (1, .int px1), (2, .int px2), (3, .int px3), (4, .int px4), (5, .int x2), (6, .int x6), (7, .int x8), (8, .int x10)]) dX7_isClear_54 (by decide) [1, 2, 3, 4, 5, 6, 7, 8, 0] rfl ?_
      refine GE.iload 4 dX7_isClear_56 rfl ?_
      refine GE.aload_n 0 dX7_isClear_58 rfl rfl ?_
      refine GE.gI dX7_isClear_59 lF_X7_11 (fun x11 => ?_)
      refine GE.idiv dX7_isClear_62 ?_
      refine GE.iload 7 dX7_isClear_63 rfl ?_
      refine GE.isub dX7_isClear_65 ?_
      refine GE.nami (fun x12 => ?_)
      refine GE.istore (lv' := [(0, .ref a0), (1, .int px1), (2, .int px2), (3, .int px3), (4, .int px4), (5, .int x2), (6, .int x6), (7, .int x8), (8, .int x10), (9, .int x12)]) dX7_isClear_66 (by decide) [1, 2, 3, 4, 5, 6, 7, 8, 9, 0] rfl ?_
      refine GE.iload 8 dX7_isClear_68 rfl ?_
      refine GE.callsI [.int x10] dX7_isClear_70 (lT_X7_90) rfl ⟨rfl, rfl⟩ (rokb rfl) (gJ9_abs_0f7a4 σ x10) (fun x13 t14 => ?_)
      refine GE.iload 9 dX7_isClear_73 rfl ?_
      refine GE.callsI [.int x12] dX7_isClear_75 (lT_X7_90) rfl ⟨rfl, rfl⟩ (rokb rfl) (gJ9_abs_0f7a4 t14 x12) (fun x15 t16 => ?_)
      refine GE.callsI [.int x13, .int x15] dX7_isClear_78 (lT_X7_95) rfl ⟨rfl, rfl⟩ (rokb rfl) (gJ9_max_7cf53 t16 x13 x15) (fun x17 t18 => ?_)
      refine GE.istore (lv' := [(0, .ref a0), (1, .int px1), (2, .int px2), (3, .int px3), (4, .int px4), (5, .int x2), (6, .int x6), (7, .int x8), (8, .int x10), (9, .int x12), (10, .int x17)]) dX7_isClear_81 (by decide) [1, 2, 3, 4, 5, 6, 7, 8, 9, 10, 0] rfl ?_
      refine GE.iload 10 dX7_isClear_83 rfl ?_
      refine GE.iload_n 3 dX7_isClear_85 rfl rfl ?_
      refine GE.icmp_le (tgt := 91) dX7_isClear_86 (by decide) ?_ ?_
      · refine GE.iconst dX7_isClear_91 kI_1 ?_
        refine GE.istore (lv' := [(0, .ref a0), (1, .int px1), (2, .int px2), (3, .int px3), (4, .int px4), (5, .int x2), (6, .int x6), (7, .int x8), (8, .int x10), (9, .int x12), (10, .int x17), (11, .int 1)]) dX7_isClear_92 (by decide) [1, 2, 3, 4, 5, 6, 7, 8, 9, 10, 11, 0] rfl ?_
        refine GE.sub [0, 2, 5, 6, 7, 8, 9, 10, 11] rfl (GE.lo2 (fun (x19 : Int32) (t20 : St) => [(0, .ref a0), (2, .int px2), (5, .int x2), (6, .int x6), (7, .int x8), (8, .int x10), (9, .int x12), (10, .int x17), (11, .int x19)]) (fun (x19 : Int32) (t20 : St) => []) (fun (x19 : Int32) (t20 : St) => t20) (fun l21 hl21 x19 t20 => ?_) FU 1 t18)
        refine GE.iload 8 dX7_isClear_94 rfl ?_
        refine GE.iload 7 dX7_isClear_96 rfl ?_
        refine GE.icmp_ge (tgt := 201) dX7_isClear_98 (by decide) ?_ ?_
        · refine GE.iconst dX7_isClear_201 kI_1 ?_
          exact GE.zretk dX7_isClear_202 rfl (Nat.le_refl _) (Nat.le_refl _) (by decide)
        · refine GE.iconst dX7_isClear_101 kI_2 ?_
          refine GE.iload 3 dX7_isClear_102 rfl ?_
          refine GE.iload 7 dX7_isClear_104 rfl ?_
          refine GE.imul dX7_isClear_106 ?_
          refine GE.iload 8 dX7_isClear_107 rfl ?_
          refine GE.iload 5 dX7_isClear_109 rfl ?_
          refine GE.imul dX7_isClear_111 ?_
          refine GE.iadd dX7_isClear_112 ?_
          refine GE.imul dX7_isClear_113 ?_
          refine GE.iload 7 dX7_isClear_114 rfl ?_
          refine GE.iadd dX7_isClear_116 ?_
          refine GE.iconst dX7_isClear_117 kI_2 ?_
          refine GE.iload 7 dX7_isClear_118 rfl ?_
          refine GE.imul dX7_isClear_120 ?_
          refine GE.idiv dX7_isClear_121 ?_
          refine GE.nami (fun x22 => ?_)
          refine GE.istore (lv' := [(0, .ref a0), (2, .int px2), (5, .int x2), (6, .int x6), (7, .int x8), (8, .int x10), (9, .int x12), (10, .int x17), (11, .int x19), (12, .int x22)]) dX7_isClear_122 (by decide) [1, 2, 3, 4, 5, 6, 7, 8, 9, 0] rfl ?_
          refine GE.iconst dX7_isClear_124 kI_2 ?_
          refine GE.iload 4 dX7_isClear_125 rfl ?_
          refine GE.iload 7 dX7_isClear_127 rfl ?_
          refine GE.imul dX7_isClear_129 ?_
          refine GE.iload 8 dX7_isClear_130 rfl ?_
          refine GE.iload 6 dX7_isClear_132 rfl ?_
          refine GE.imul dX7_isClear_134 ?_
          refine GE.iadd dX7_isClear_135 ?_
          refine GE.imul dX7_isClear_136 ?_
          refine GE.iload 7 dX7_isClear_137 rfl ?_
          refine GE.iadd dX7_isClear_139 ?_
          refine GE.iconst dX7_isClear_140 kI_2 ?_
          refine GE.iload 7 dX7_isClear_141 rfl ?_
          refine GE.imul dX7_isClear_143 ?_
          refine GE.idiv dX7_isClear_144 ?_
          refine GE.nami (fun x23 => ?_)
          refine GE.istore (lv' := [(0, .ref a0), (2, .int px2), (5, .int x2), (6, .int x6), (7, .int x8), (8, .int x10), (9, .int x12), (10, .int x17), (11, .int x19), (12, .int x22), (13, .int x23)]) dX7_isClear_145 (by decide) [1, 2, 3, 4, 5, 6, 7, 8, 9, 10, 0] rfl ?_
          refine GE.iload 10 dX7_isClear_147 rfl ?_
          refine GE.aload_n 0 dX7_isClear_149 rfl rfl ?_
          refine GE.gI dX7_isClear_150 lF_X7_11 (fun x24 => ?_)
          refine GE.imul dX7_isClear_153 ?_
          refine GE.iload 9 dX7_isClear_154 rfl ?_
          refine GE.iadd dX7_isClear_156 ?_
          refine GE.nami (fun x25 => ?_)
          refine GE.istore (lv' := [(0, .ref a0), (2, .int px2), (5, .int x2), (6, .int x6), (7, .int x8), (8, .int x10), (9, .int x12), (10, .int x17), (11, .int x19), (12, .int x22), (13, .int x23), (14, .int x25)]) dX7_isClear_157 (by decide) [1, 2, 3, 4, 5, 6, 7, 8, 9, 10, 11, 0] rfl ?_
          refine GE.aload_n 0 dX7_isClear_159 rfl rfl ?_
          refine GE.iload 11 dX7_isClear_160 rfl ?_
          refine GE.callvI [.int x25] dX7_isClear_162 (lV_X7_99) rfl ⟨rfl, rfl⟩ (rokb rfl) (gX7_hasCell t20 a0 x25) (fun x26 t27 => ?_)
          refine GE.jo1 195 (fun (u27 : Unit) => [(0, .ref a0), (2, .int px2), (5, .int x2), (6, .int x6), (7, .int x8), (8, .int x10), (9, .int x12), (10, .int x17), (11, .int x19)]) (fun (u27 : Unit) => []) (fun (u27 : Unit) => t27) (fun u27 => ?_) (fun j28 hj28 => ?_)
          · refine GE.iinc (lv' := [(0, .ref a0), (2, .int px2), (5, .int x2), (6, .int x6), (7, .int x8), (8, .int x10), (9, .int x12), (10, .int x17), (11, .int (x19 + 1))]) 8 dX7_isClear_195 rfl kI_1 (by decide) [1, 2, 3, 4, 5, 6, 7, 8, 0] rfl ?_
            refine GE.goto (tgt := 94) dX7_isClear_198 (by decide) ?_
            exact hl21 (x19 + 1) t27
          · refine GE.if_eq (tgt := 195) dX7_isClear_165 (by decide) ?_ ?_
            · exact GE.sub [0, 1, 2, 3, 4, 5, 6, 7, 8] rfl (hj28 () )
            · refine GE.aload_n 0 dX7_isClear_168 rfl rfl ?_
              refine GE.gR dX7_isClear_169 lF_X7_39 (fun a29 => ?_)
              refine GE.iload 11 dX7_isClear_172 rfl ?_
              refine GE.iald dX7_isClear_174 (fun x30 => ?_)
              refine GE.iload 7 dX7_isClear_175 rfl ?_
              refine GE.imul dX7_isClear_177 ?_
              refine GE.iload_n 1 dX7_isClear_178 rfl rfl ?_
              refine GE.iload 7 dX7_isClear_179 rfl ?_
              refine GE.imul dX7_isClear_181 ?_
              refine GE.iload 8 dX7_isClear_182 rfl ?_
              refine GE.iload 2 dX7_isClear_184 rfl ?_
              refine GE.iload_n 1 dX7_isClear_186 rfl rfl ?_
              refine GE.isub dX7_isClear_187 ?_
              refine GE.imul dX7_isClear_188 ?_
              refine GE.iadd dX7_isClear_189 ?_
              refine GE.icmp_le (tgt := 195) dX7_isClear_190 (by decide) ?_ ?_
              · exact GE.sub [0, 1, 2, 3, 4, 5, 6, 7, 8] rfl (hj28 () )
              · refine GE.iconst dX7_isClear_193 kI_0 ?_
                exact GE.zretk dX7_isClear_194 rfl (Nat.le_refl _) (Nat.le_refl _) (by decide)
      · refine GE.iconst dX7_isClear_89 kI_0 ?_
        exact GE.zretk dX7_isClear_90 rfl (Nat.le_refl _) (Nat.le_refl _) (by decide)
    · refine GE.iconst dX7_isClear_26 kI_0 ?_
      exact GE.zretk dX7_isClear_27 rfl (Nat.le_refl _) (Nat.le_refl _) (by decide)
def fX7_sightFrom (σ : St) (a0 : Nat) (px1 : Int32) (px2 : Int32) (px3 : Int32) : Option (Int32 × St) :=
  lo3 (fun l4 (x1 : Int32) (x2 : Int32) (t3 : St) =>
    (gI 7 2 t3 a0).bind fun x5 =>
  if x5 ≤ x2 then
    some (x1, t3)
  else
    bo 7 t3 a0 (fX7_isClear t3 a0 px1 px2 px3 x2) (fun x6 t7 =>
    jo1 (fun (x8 : Int32) =>
      l4 x8 (x2 + 1) t7) (fun j9 =>
      if x6 = 0 then
        j9 x1
      else
        nam (x1 ||| (1 <<< (x2 &&& 31)) : Int32) (fun x10 =>
        j9 x10)))) FU 0 0 σ
set_option maxHeartbeats 4000000 in
set_option maxRecDepth 100000 in
theorem gX7_sightFrom (σ : St) (a0 : Nat) (px1 : Int32) (px2 : Int32) (px3 : Int32) : CE vI mX7_sightFrom [.ref a0, .int px1, .int px2, .int px3] σ (fX7_sightFrom σ a0 px1 px2 px3) := by
  refine CE.ofGEF (lv := [(0, .ref a0), (1, .int px1), (2, .int px2), (3, .int px3)]) (by decide +kernel) (Nat.le_of_ble_eq_true rfl) rfl ?_
  unfold fX7_sightFrom
  refine GE.iconst dX7_sightFrom_0 kI_0 ?_
  refine GE.istore (lv' := [(0, .ref a0), (1, .int px1), (2, .int px2), (3, .int px3), (4, .int 0)]) dX7_sightFrom_1 (by decide) [1, 2, 3, 4, 0] rfl ?_
  refine GE.iconst dX7_sightFrom_3 kI_0 ?_
  refine GE.istore (lv' := [(0, .ref a0), (1, .int px1), (2, .int px2), (3, .int px3), (4, .int 0), (5, .int 0)]) dX7_sightFrom_4 (by decide) [1, 2, 3, 4, 5, 0] rfl ?_
  refine (GE.lo3 (fun (x1 : Int32) (x2 : Int32) (t3 : St) => [(0, .ref a0), (1, .int px1), (2, .int px2), (3, .int px3), (4, .int x1), (5, .int x2)]) (fun (x1 : Int32) (x2 : Int32) (t3 : St) => []) (fun (x1 : Int32) (x2 : Int32) (t3 : St) => t3) (fun l4 hl4 x1 x2 t3 => ?_) FU 0 0 σ)
  refine GE.iload 5 dX7_sightFrom_6 rfl ?_
  refine GE.aload_n 0 dX7_sightFrom_8 rfl rfl ?_
  refine GE.gI dX7_sightFrom_9 lF_X7_18 (fun x5 => ?_)
  refine GE.icmp_ge (tgt := 42) dX7_sightFrom_12 (by decide) ?_ ?_
  · refine GE.iload 4 dX7_sightFrom_42 rfl ?_
    exact GE.iret dX7_sightFrom_44 rfl (Nat.le_refl _) (Nat.le_refl _)
  · refine GE.aload_n 0 dX7_sightFrom_15 rfl rfl ?_
    refine GE.iload_n 1 dX7_sightFrom_16 rfl rfl ?_
    refine GE.iload_n 2 dX7_sightFrom_17 rfl rfl ?_
    refine GE.iload_n 3 dX7_sightFrom_18 rfl rfl ?_
    refine GE.iload 5 dX7_sightFrom_19 rfl ?_
    refine GE.callvI [.int px1, .int px2, .int px3, .int x2] dX7_sightFrom_21 (lV_X7_83) rfl ⟨rfl, rfl⟩ (rokb rfl) (gX7_isClear t3 a0 px1 px2 px3 x2) (fun x6 t7 => ?_)
    refine GE.jo1 36 (fun (x8 : Int32) => [(0, .ref a0), (1, .int px1), (2, .int px2), (3, .int px3), (4, .int x8), (5, .int x2)]) (fun (x8 : Int32) => []) (fun (x8 : Int32) => t7) (fun x8 => ?_) (fun j9 hj9 => ?_)
    · refine GE.iinc (lv' := [(0, .ref a0), (1, .int px1), (2, .int px2), (3, .int px3), (4, .int x8), (5, .int (x2 + 1))]) 5 dX7_sightFrom_36 rfl kI_1 (by decide) [1, 2, 3, 4, 5, 0] rfl ?_
      refine GE.goto (tgt := 6) dX7_sightFrom_39 (by decide) ?_
      exact hl4 x8 (x2 + 1) t7
    · refine GE.if_eq (tgt := 36) dX7_sightFrom_24 (by decide) ?_ ?_
      · exact hj9 x1
      · refine GE.iload 4 dX7_sightFrom_27 rfl ?_
        refine GE.iconst dX7_sightFrom_29 kI_1 ?_
        refine GE.iload 5 dX7_sightFrom_30 rfl ?_
        refine GE.ishl dX7_sightFrom_32 ?_
        refine GE.ior dX7_sightFrom_33 ?_
        refine GE.nami (fun x10 => ?_)
        refine GE.istore (lv' := [(0, .ref a0), (1, .int px1), (2, .int px2), (3, .int px3), (4, .int x10), (5, .int x2)]) dX7_sightFrom_34 (by decide) [1, 2, 3, 4, 0, 5] rfl ?_
        exact hj9 x10
def fX7_sight (σ : St) (a0 : Nat) (px1 : Int32) (pq2 : Option Nat) : Option (Int32 × St) :=
  (gR 7 10 σ a0).bind fun a1 =>
  (aI 0 σ a1 px1).bind fun x2 =>
  bo 7 σ a0 (fX7_eye σ a0 px1) (fun x3 t4 =>
  bo 7 t4 a0 (fX7_reach t4 a0 px1 pq2) (fun x5 t6 =>
  bo 7 t6 a0 (fX7_sightFrom t6 a0 x2 x3 x5) (fun x7 t8 =>
  some (x7, t8))))
set_option maxHeartbeats 4000000 in
set_option maxRecDepth 100000 in
theorem gX7_sight (σ : St) (a0 : Nat) (px1 : Int32) (pq2 : Option Nat) : CE vI mX7_sight [.ref a0, .int px1, va_rf pq2] σ (fX7_sight σ a0 px1 pq2) := by
  refine CE.ofGEF (lv := [(0, .ref a0), (1, .int px1), (2, va_rf pq2)]) (by decide +kernel) (by cases pq2 <;> exact Nat.le_of_ble_eq_true rfl) rfl ?_
  unfold fX7_sight
  refine GE.aload_n 0 dX7_sight_0 rfl rfl ?_
  refine GE.aload_n 0 dX7_sight_1 rfl rfl ?_
  refine GE.gR dX7_sight_2 lF_X7_43 (fun a1 => ?_)
  refine GE.iload_n 1 dX7_sight_5 rfl rfl ?_
  refine GE.iald dX7_sight_6 (fun x2 => ?_)
  refine GE.aload_n 0 dX7_sight_7 rfl rfl ?_
  refine GE.iload_n 1 dX7_sight_8 rfl rfl ?_
  refine GE.callvI [.int px1] dX7_sight_9 (lV_X7_75) rfl ⟨rfl, rfl⟩ (rokb rfl) (gX7_eye σ a0 px1) (fun x3 t4 => ?_)
  refine GE.aload_n 0 dX7_sight_12 rfl rfl ?_
  refine GE.iload_n 1 dX7_sight_13 rfl rfl ?_
  refine GE.aloadq_n 2 dX7_sight_14 rfl rfl ?_
  refine GE.callvI [.int px1, va_rf pq2] dX7_sight_15 (lV_X7_79) rfl ⟨rfl, rfl⟩ (rokb rfl) (gX7_reach t4 a0 px1 pq2) (fun x5 t6 => ?_)
  refine GE.callvI [.int x2, .int x3, .int x5] dX7_sight_18 (lV_X7_87) rfl ⟨rfl, rfl⟩ (rokb rfl) (gX7_sightFrom t6 a0 x2 x3 x5) (fun x7 t8 => ?_)
  exact GE.iret dX7_sight_21 rfl (Nat.le_refl _) (Nat.le_refl _)
def fX9_ruling (σ : St) (a0 : Nat) : Option ((Option Nat) × St) :=
  (gI 9 5 σ a0).bind fun x1 =>
  if x1 < 0 then
    some (none, σ)
  else
    (gI 9 5 σ a0).bind fun x2 =>
    (gI 9 4 σ a0).bind fun x3 =>
    if x3 ≤ x2 then
      some (none, σ)
    else
      (gR 9 3 σ a0).bind fun a4 =>
      (gI 9 5 σ a0).bind fun x5 =>
      (aQ σ a4 x5).bind fun q6 =>
      some (q6, σ)
set_option maxHeartbeats 4000000 in
set_option maxRecDepth 100000 in
theorem gX9_ruling (σ : St) (a0 : Nat) : CE vQ mX9_ruling [.ref a0] σ (fX9_ruling σ a0) := by
  refine CE.ofGEF (lv := [(0, .ref a0)]) (by decide +kernel) (Nat.le_of_ble_eq_true rfl) rfl ?_
  unfold fX9_ruling
  refine GE.aload_n 0 dX9_ruling_0 rfl rfl ?_
  refine GE.gI dX9_ruling_1 lF_X9_42 (fun x1 => ?_)
  refine GE.if_lt (tgt := 30) dX9_ruling_4 (by decide) ?_ ?_
  · refine GE.null dX9_ruling_30 ?_
    exact GE.aret (x := none) dX9_ruling_31 rfl (Nat.le_refl _) (Nat.le_refl _)
  · refine GE.aload_n 0 dX9_ruling_7 rfl rfl ?_
    refine GE.gI dX9_ruling_8 lF_X9_42 (fun x2 => ?_)
    refine GE.aload_n 0 dX9_ruling_11 rfl rfl ?_
    refine GE.gI dX9_ruling_12 lF_X9_38 (fun x3 => ?_)
    refine GE.icmp_ge (tgt := 30) dX9_ruling_15 (by decide) ?_ ?_
    · refine GE.null dX9_ruling_30 ?_
      exact GE.aret (x := none) dX9_ruling_31 rfl (Nat.le_refl _) (Nat.le_refl _)
    · refine GE.aload_n 0 dX9_ruling_18 rfl rfl ?_
      refine GE.gR dX9_ruling_19 lF_X9_34 (fun a4 => ?_)
      refine GE.aload_n 0 dX9_ruling_22 rfl rfl ?_
      refine GE.gI dX9_ruling_23 lF_X9_42 (fun x5 => ?_)
      refine GE.aald dX9_ruling_26 (fun q6 => ?_)
      refine GE.goto (tgt := 31) dX9_ruling_27 (by decide) ?_
      exact GE.aret (x := q6) dX9_ruling_31 rfl (Nat.le_refl _) (Nat.le_refl _)
def fX9_tower (σ : St) (a0 : Nat) (px1 : Int32) (px2 : Int32) : Option (Int32 × St) :=
  (gR 9 8 σ a0).bind fun a1 =>
  bo 7 σ a1 (fX7_hasTower σ a1 px1) (fun x2 t3 =>
  if x2 = 0 then
    none
  else
    if px2 < 0 then
      none
    else
      if px2 ≤ 5 then
        tbs px2 0 [(gR 9 8 t3 a0).bind fun a11 =>
            (gR 7 10 t3 a11).bind fun a12 =>
            (aI 0 t3 a12 px1).bind fun x13 =>
            some (x13, t3),
          (gR 9 8 t3 a0).bind fun a14 =>
            (gR 7 11 t3 a14).bind fun a15 =>
            (aI 0 t3 a15 px1).bind fun x16 =>
            some (x16, t3),
          (gR 9 8 t3 a0).bind fun a17 =>
            (gR 7 12 t3 a17).bind fun a18 =>
            (aI 0 t3 a18 px1).bind fun x19 =>
            some (x19, t3),
          (gR 9 8 t3 a0).bind fun a20 =>
            bo 9 t3 a0 (fX9_ruling t3 a0) (fun q21 t22 =>
            bo 7 t22 a20 (fX7_reach t22 a20 px1 q21) (fun x23 t24 =>
            some (x23, t24))),
          (gR 9 8 t3 a0).bind fun a25 =>
            (gI 7 7 t3 a25).bind fun x26 =>
            some ((x26 >>> (px1 &&& 31)) &&& 1, t3)] ((gR 9 8 t3 a0).bind fun a4 =>
          bo 9 t3 a0 (fX9_ruling t3 a0) (fun q5 t6 =>
          bo 7 t6 a4 (fX7_sight t6 a4 px1 q5) (fun x7 t8 =>
          bd (fJ6_bitCount_0f7a4 t8 x7) (fun x9 t10 =>
          some (x9, t10)))))
      else
        none)
set_option maxHeartbeats 4000000 in
set_option maxRecDepth 100000 in
theorem gX9_tower (σ : St) (a0 : Nat) (px1 : Int32) (px2 : Int32) : CE vI mX9_tower [.ref a0, .int px1, .int px2] σ (fX9_tower σ a0 px1 px2) := by
  refine CE.ofGEF (lv := [(0, .ref a0), (1, .int px1), (2, .int px2)]) (by decide +kernel) (Nat.le_of_ble_eq_true rfl) rfl ?_
  unfold fX9_tower
  refine GE.aload_n 0 dX9_tower_0 rfl rfl ?_
  refine GE.gR dX9_tower_1 lF_X9_55 (fun a1 => ?_)
  refine GE.iload_n 1 dX9_tower_4 rfl rfl ?_
  refine GE.callvI [.int px1] dX9_tower_5 (lV_X9_160) rfl ⟨rfl, rfl⟩ (rokb rfl) (gX7_hasTower σ a1 px1) (fun x2 t3 => ?_)
  refine GE.if_eq (tgt := 20) dX9_tower_8 (by decide) ?_ ?_
  · exact GE.none
  · refine GE.iload_n 2 dX9_tower_11 rfl rfl ?_
    refine GE.if_lt (tgt := 20) dX9_tower_12 (by decide) ?_ ?_
    · exact GE.none
    · refine GE.iload_n 2 dX9_tower_15 rfl rfl ?_
      refine GE.iconst dX9_tower_16 kI_5 ?_
      refine GE.icmp_le (tgt := 30) dX9_tower_17 (by decide) ?_ ?_
      · refine GE.iload_n 2 dX9_tower_30 rfl rfl ?_
        refine GE.tsw (tgd := 119) dX9_tower_31 rfl rfl (by decide) ?_ ?_
        · refine GE.aload_n 0 dX9_tower_119 rfl rfl ?_
          refine GE.gR dX9_tower_120 lF_X9_55 (fun a4 => ?_)
          refine GE.iload_n 1 dX9_tower_123 rfl rfl ?_
          refine GE.aload_n 0 dX9_tower_124 rfl rfl ?_
          refine GE.callvQ [] dX9_tower_125 (lV_X9_179) rfl ⟨rfl, rfl⟩ (rokb rfl) (gX9_ruling t3 a0) (fun q5 t6 => ?_)
          refine GE.callvI [.int px1, va_rf q5] dX9_tower_128 (lV_X9_189) rfl ⟨rfl, rfl⟩ (rokb rfl) (gX7_sight t6 a4 px1 q5) (fun x7 t8 => ?_)
          refine GE.callsI [.int x7] dX9_tower_131 (lT_X9_192) rfl ⟨rfl, rfl⟩ (rokb rfl) (gJ6_bitCount_0f7a4 t8 x7) (fun x9 t10 => ?_)
          exact GE.iret dX9_tower_134 rfl (Nat.le_refl _) (Nat.le_refl _)
        · intro j9 E9 o9 hE9 ho9
          match j9, hE9, ho9 with
          | 0, hE9, ho9 =>
            cases hE9; cases ho9
            refine ⟨64, by decide, ?_⟩
            refine GE.aload_n 0 dX9_tower_64 rfl rfl ?_
            refine GE.gR dX9_tower_65 lF_X9_55 (fun a11 => ?_)
            refine GE.gR dX9_tower_68 lF_X9_170 (fun a12 => ?_)
            refine GE.iload_n 1 dX9_tower_71 rfl rfl ?_
            refine GE.iald dX9_tower_72 (fun x13 => ?_)
            exact GE.iret dX9_tower_73 rfl (Nat.le_refl _) (Nat.le_refl _)
          | 1, hE9, ho9 =>
            cases hE9; cases ho9
            refine ⟨74, by decide, ?_⟩
            refine GE.aload_n 0 dX9_tower_74 rfl rfl ?_
            refine GE.gR dX9_tower_75 lF_X9_55 (fun a14 => ?_)
            refine GE.gR dX9_tower_78 lF_X9_173 (fun a15 => ?_)
            refine GE.iload_n 1 dX9_tower_81 rfl rfl ?_
            refine GE.iald dX9_tower_82 (fun x16 => ?_)
            exact GE.iret dX9_tower_83 rfl (Nat.le_refl _) (Nat.le_refl _)
          | 2, hE9, ho9 =>
            cases hE9; cases ho9
            refine ⟨84, by decide, ?_⟩
            refine GE.aload_n 0 dX9_tower_84 rfl rfl ?_
            refine GE.gR dX9_tower_85 lF_X9_55 (fun a17 => ?_)
            refine GE.gR dX9_tower_88 lF_X9_176 (fun a18 => ?_)
            refine GE.iload_n 1 dX9_tower_91 rfl rfl ?_
            refine GE.iald dX9_tower_92 (fun x19 => ?_)
            exact GE.iret dX9_tower_93 rfl (Nat.le_refl _) (Nat.le_refl _)
          | 3, hE9, ho9 =>
            cases hE9; cases ho9
            refine ⟨94, by decide, ?_⟩
            refine GE.aload_n 0 dX9_tower_94 rfl rfl ?_
            refine GE.gR dX9_tower_95 lF_X9_55 (fun a20 => ?_)
            refine GE.iload_n 1 dX9_tower_98 rfl rfl ?_
            refine GE.aload_n 0 dX9_tower_99 rfl rfl ?_
            refine GE.callvQ [] dX9_tower_100 (lV_X9_179) rfl ⟨rfl, rfl⟩ (rokb rfl) (gX9_ruling t3 a0) (fun q21 t22 => ?_)
            refine GE.callvI [.int px1, va_rf q21] dX9_tower_103 (lV_X9_182) rfl ⟨rfl, rfl⟩ (rokb rfl) (gX7_reach t22 a20 px1 q21) (fun x23 t24 => ?_)
            exact GE.iret dX9_tower_106 rfl (Nat.le_refl _) (Nat.le_refl _)
          | 4, hE9, ho9 =>
            cases hE9; cases ho9
            refine ⟨107, by decide, ?_⟩
            refine GE.aload_n 0 dX9_tower_107 rfl rfl ?_
            refine GE.gR dX9_tower_108 lF_X9_55 (fun a25 => ?_)
            refine GE.gI dX9_tower_111 lF_X9_186 (fun x26 => ?_)
            refine GE.iload_n 1 dX9_tower_114 rfl rfl ?_
            refine GE.ishr dX9_tower_115 ?_
            refine GE.iconst dX9_tower_116 kI_1 ?_
            refine GE.iand dX9_tower_117 ?_
            exact GE.iret dX9_tower_118 rfl (Nat.le_refl _) (Nat.le_refl _)
          | j9 + 5, hE9, ho9 => cases hE9
      · exact GE.none
def fX10_in (σ : St) (px0 : Int32) (px1 : Int32) (px2 : Int32) : Option (Int32 × St) :=
  if px0 < px1 then
    some (0, σ)
  else
    if px2 < px0 then
      some (0, σ)
    else
      some (1, σ)
set_option maxHeartbeats 4000000 in
set_option maxRecDepth 100000 in
theorem gX10_in (σ : St) (px0 : Int32) (px1 : Int32) (px2 : Int32) : CE vI mX10_in [.int px0, .int px1, .int px2] σ (fX10_in σ px0 px1 px2) := by
  refine CE.ofGEF (lv := [(0, .int px0), (1, .int px1), (2, .int px2)]) (by decide +kernel) (Nat.le_of_ble_eq_true rfl) rfl ?_
  unfold fX10_in
  refine GE.iload_n 0 dX10_in_0 rfl rfl ?_
  refine GE.iload_n 1 dX10_in_1 rfl rfl ?_
  refine GE.icmp_lt (tgt := 14) dX10_in_2 (by decide) ?_ ?_
  · refine GE.iconst dX10_in_14 kI_0 ?_
    exact GE.zretk dX10_in_15 rfl (Nat.le_refl _) (Nat.le_refl _) (by decide)
  · refine GE.iload_n 0 dX10_in_5 rfl rfl ?_
    refine GE.iload_n 2 dX10_in_6 rfl rfl ?_
    refine GE.icmp_gt (tgt := 14) dX10_in_7 (by decide) ?_ ?_
    · refine GE.iconst dX10_in_14 kI_0 ?_
      exact GE.zretk dX10_in_15 rfl (Nat.le_refl _) (Nat.le_refl _) (by decide)
    · refine GE.iconst dX10_in_10 kI_1 ?_
      refine GE.goto (tgt := 15) dX10_in_11 (by decide) ?_
      exact GE.zretk dX10_in_15 rfl (Nat.le_refl _) (Nat.le_refl _) (by decide)
def fX10_isCell (σ : St) (a0 : Nat) (px1 : Int32) : Option (Int32 × St) :=
  (gI 10 26 σ a0).bind fun x1 =>
  bd (fX10_in σ px1 0 (x1 - 1)) (fun x2 t3 =>
  if x2 = 0 ∨ x2 = 1 then some (x2, t3) else none)
set_option maxHeartbeats 4000000 in
set_option maxRecDepth 100000 in
theorem gX10_isCell (σ : St) (a0 : Nat) (px1 : Int32) : CE vI mX10_isCell [.ref a0, .int px1] σ (fX10_isCell σ a0 px1) := by
  refine CE.ofGEF (lv := [(0, .ref a0), (1, .int px1)]) (by decide +kernel) (Nat.le_of_ble_eq_true rfl) rfl ?_
  unfold fX10_isCell
  refine GE.iload_n 1 dX10_isCell_0 rfl rfl ?_
  refine GE.iconst dX10_isCell_1 kI_0 ?_
  refine GE.aload_n 0 dX10_isCell_2 rfl rfl ?_
  refine GE.gI dX10_isCell_3 lF_X10_264 (fun x1 => ?_)
  refine GE.iconst dX10_isCell_6 kI_1 ?_
  refine GE.isub dX10_isCell_7 ?_
  refine GE.callsI [.int px1, .int 0, .int (x1 - 1)] dX10_isCell_8 (lT_X10_217) rfl ⟨rfl, rfl⟩ (rokb rfl) (gX10_in σ px1 0 (x1 - 1)) (fun x2 t3 => ?_)
  exact GE.zret dX10_isCell_11 rfl (Nat.le_refl _) (Nat.le_refl _)
def fX10_firstSpot (σ : St) (a0 : Nat) (px1 : Int32) : Option (Int32 × St) :=
  (gR 10 23 σ a0).bind fun a1 =>
  (aI 0 σ a1 0).bind fun x2 =>
  (gR 10 25 σ a0).bind fun a3 =>
  (aI 0 σ a3 ((4 * px1) + 1)).bind fun x4 =>
  (gR 10 25 σ a0).bind fun a5 =>
  (aI 0 σ a5 ((4 * px1) + 0)).bind fun x6 =>
  some ((x2 * x4) + x6, σ)
set_option maxHeartbeats 4000000 in
set_option maxRecDepth 100000 in
theorem gX10_firstSpot (σ : St) (a0 : Nat) (px1 : Int32) : CE vI mX10_firstSpot [.ref a0, .int px1] σ (fX10_firstSpot σ a0 px1) := by
  refine CE.ofGEF (lv := [(0, .ref a0), (1, .int px1)]) (by decide +kernel) (Nat.le_of_ble_eq_true rfl) rfl ?_
  unfold fX10_firstSpot
  refine GE.aload_n 0 dX10_firstSpot_0 rfl rfl ?_
  refine GE.gR dX10_firstSpot_1 lF_X10_52 (fun a1 => ?_)
  refine GE.iconst dX10_firstSpot_4 kI_0 ?_
  refine GE.iald dX10_firstSpot_5 (fun x2 => ?_)
  refine GE.aload_n 0 dX10_firstSpot_6 rfl rfl ?_
  refine GE.gR dX10_firstSpot_7 lF_X10_58 (fun a3 => ?_)
  refine GE.iconst dX10_firstSpot_10 kI_4 ?_
  refine GE.iload_n 1 dX10_firstSpot_11 rfl rfl ?_
  refine GE.imul dX10_firstSpot_12 ?_
  refine GE.iconst dX10_firstSpot_13 kI_1 ?_
  refine GE.iadd dX10_firstSpot_14 ?_
  refine GE.iald dX10_firstSpot_15 (fun x4 => ?_)
  refine GE.imul dX10_firstSpot_16 ?_
  refine GE.aload_n 0 dX10_firstSpot_17 rfl rfl ?_
  refine GE.gR dX10_firstSpot_18 lF_X10_58 (fun a5 => ?_)
  refine GE.iconst dX10_firstSpot_21 kI_4 ?_
  refine GE.iload_n 1 dX10_firstSpot_22 rfl rfl ?_
  refine GE.imul dX10_firstSpot_23 ?_
  refine GE.iconst dX10_firstSpot_24 kI_0 ?_
  refine GE.iadd dX10_firstSpot_25 ?_
  refine GE.iald dX10_firstSpot_26 (fun x6 => ?_)
  refine GE.iadd dX10_firstSpot_27 ?_
  exact GE.iret dX10_firstSpot_28 rfl (Nat.le_refl _) (Nat.le_refl _)
def fX10_acrossOf (σ : St) (a0 : Nat) (px1 : Int32) : Option (Int32 × St) :=
  (gR 10 23 σ a0).bind fun a1 =>
  (aI 0 σ a1 0).bind fun x2 =>
  if x2 = 0 then none else
  some (px1 - px1 / x2 * x2, σ)
set_option maxHeartbeats 4000000 in
set_option maxRecDepth 100000 in
theorem gX10_acrossOf (σ : St) (a0 : Nat) (px1 : Int32) : CE vI mX10_acrossOf [.ref a0, .int px1] σ (fX10_acrossOf σ a0 px1) := by
  refine CE.ofGEF (lv := [(0, .ref a0), (1, .int px1)]) (by decide +kernel) (Nat.le_of_ble_eq_true rfl) rfl ?_
  unfold fX10_acrossOf
  refine GE.iload_n 1 dX10_acrossOf_0 rfl rfl ?_
  refine GE.aload_n 0 dX10_acrossOf_1 rfl rfl ?_
  refine GE.gR dX10_acrossOf_2 lF_X10_52 (fun a1 => ?_)
  refine GE.iconst dX10_acrossOf_5 kI_0 ?_
  refine GE.iald dX10_acrossOf_6 (fun x2 => ?_)
  refine GE.irem dX10_acrossOf_7 ?_
  exact GE.iret dX10_acrossOf_8 rfl (Nat.le_refl _) (Nat.le_refl _)
def fX10_downOf (σ : St) (a0 : Nat) (px1 : Int32) : Option (Int32 × St) :=
  (gR 10 23 σ a0).bind fun a1 =>
  (aI 0 σ a1 0).bind fun x2 =>
  if x2 = 0 then none else
  some (px1 / x2, σ)
set_option maxHeartbeats 4000000 in
set_option maxRecDepth 100000 in
theorem gX10_downOf (σ : St) (a0 : Nat) (px1 : Int32) : CE vI mX10_downOf [.ref a0, .int px1] σ (fX10_downOf σ a0 px1) := by
  refine CE.ofGEF (lv := [(0, .ref a0), (1, .int px1)]) (by decide +kernel) (Nat.le_of_ble_eq_true rfl) rfl ?_
  unfold fX10_downOf
  refine GE.iload_n 1 dX10_downOf_0 rfl rfl ?_
  refine GE.aload_n 0 dX10_downOf_1 rfl rfl ?_
  refine GE.gR dX10_downOf_2 lF_X10_52 (fun a1 => ?_)
  refine GE.iconst dX10_downOf_5 kI_0 ?_
  refine GE.iald dX10_downOf_6 (fun x2 => ?_)
  refine GE.idiv dX10_downOf_7 ?_
  exact GE.iret dX10_downOf_8 rfl (Nat.le_refl _) (Nat.le_refl _)
def fX10_stepped (σ : St) (px0 : Int32) (px1 : Int32) (px2 : Int32) : Option (Int32 × St) :=
  bd (fJ9_floorDiv_7cf53 σ (((2 * px1) * px0) + px2) (2 * px2)) (fun x1 t2 =>
  some (x1, t2))
set_option maxHeartbeats 4000000 in
set_option maxRecDepth 100000 in
theorem gX10_stepped (σ : St) (px0 : Int32) (px1 : Int32) (px2 : Int32) : CE vI mX10_stepped [.int px0, .int px1, .int px2] σ (fX10_stepped σ px0 px1 px2) := by
  refine CE.ofGEF (lv := [(0, .int px0), (1, .int px1), (2, .int px2)]) (by decide +kernel) (Nat.le_of_ble_eq_true rfl) rfl ?_
  unfold fX10_stepped
  refine GE.iconst dX10_stepped_0 kI_2 ?_
  refine GE.iload_n 1 dX10_stepped_1 rfl rfl ?_
  refine GE.imul dX10_stepped_2 ?_
  refine GE.iload_n 0 dX10_stepped_3 rfl rfl ?_
  refine GE.imul dX10_stepped_4 ?_
  refine GE.iload_n 2 dX10_stepped_5 rfl rfl ?_
  refine GE.iadd dX10_stepped_6 ?_
  refine GE.iconst dX10_stepped_7 kI_2 ?_
  refine GE.iload_n 2 dX10_stepped_8 rfl rfl ?_
  refine GE.imul dX10_stepped_9 ?_
  refine GE.callsI [.int (((2 * px1) * px0) + px2), .int (2 * px2)] dX10_stepped_10 (lT_X10_289) rfl ⟨rfl, rfl⟩ (rokb rfl) (gJ9_floorDiv_7cf53 σ (((2 * px1) * px0) + px2) (2 * px2)) (fun x1 t2 => ?_)
  exact GE.iret dX10_stepped_13 rfl (Nat.le_refl _) (Nat.le_refl _)
def fX10_isSeen (σ : St) (a0 : Nat) (pa1 : Nat) (px2 : Int32) (px3 : Int32) (px4 : Int32) (px5 : Int32) (px6 : Int32) : Option (Int32 × St) :=
  bo 10 σ a0 (fX10_acrossOf σ a0 px6) (fun x1 t2 =>
  bo 10 t2 a0 (fX10_acrossOf t2 a0 px2) (fun x3 t4 =>
  nam (x1 - x3 : Int32) (fun x5 =>
  bo 10 t4 a0 (fX10_downOf t4 a0 px6) (fun x6 t7 =>
  bo 10 t7 a0 (fX10_downOf t7 a0 px2) (fun x8 t9 =>
  nam (x6 - x8 : Int32) (fun x10 =>
  bd (fJ9_abs_0f7a4 t9 x5) (fun x11 t12 =>
  bd (fJ9_abs_0f7a4 t12 x10) (fun x13 t14 =>
  bd (fJ9_max_7cf53 t14 x11 x13) (fun x15 t16 =>
  (aI 0 t16 pa1 px6).bind fun x17 =>
  jo1 (fun (v18 : Int32) =>
    lo3 (fun l23 (x20 : Int32) (x21 : Int32) (t22 : St) =>
      if x15 ≤ x21 then
      if x20 = 0 ∨ x20 = 1 then some (x20, t22) else none
    else
      if x20 = 0 then
        if x20 = 0 ∨ x20 = 1 then some (x20, t22) else none
      else
        (gR 10 23 t22 a0).bind fun a24 =>
        (aI 0 t22 a24 0).bind fun x25 =>
        bo 10 t22 a0 (fX10_downOf t22 a0 px2) (fun x26 t27 =>
        bd (fX10_stepped t27 x10 x21 x15) (fun x28 t29 =>
        bo 10 t29 a0 (fX10_acrossOf t29 a0 px2) (fun x30 t31 =>
        bd (fX10_stepped t31 x5 x21 x15) (fun x32 t33 =>
        nam (((x25 * (x26 + x28)) + x30) + x32 : Int32) (fun x34 =>
        (aI 0 t33 pa1 x34).bind fun x35 =>
        (aI 0 t33 pa1 px6).bind fun x36 =>
        jo1 (fun (v37 : Int32) =>
          l23 v37 (x21 + 1) t33) (fun j38 =>
          if (px3 * x15) + (x21 * (x36 - px3)) < x35 * x15 then
            j38 0
          else
            j38 1))))))) FU v18 1 t16) (fun j19 =>
    jo1 (fun (u38 : Unit) =>
      j19 0) (fun j39 =>
      if x17 < px5 then
        j39 () 
      else
        if px4 < x15 then
          j39 () 
        else
          j19 1)))))))))))
set_option maxHeartbeats 4000000 in
set_option maxRecDepth 100000 in
theorem gX10_isSeen (σ : St) (a0 : Nat) (pa1 : Nat) (px2 : Int32) (px3 : Int32) (px4 : Int32) (px5 : Int32) (px6 : Int32) : CE vI mX10_isSeen [.ref a0, .ref pa1, .int px2, .int px3, .int px4, .int px5, .int px6] σ (fX10_isSeen σ a0 pa1 px2 px3 px4 px5 px6) := by
  refine CE.ofGEF (lv := [(0, .ref a0), (1, .ref pa1), (2, .int px2), (3, .int px3), (4, .int px4), (5, .int px5), (6, .int px6)]) (by decide +kernel) (Nat.le_of_ble_eq_true rfl) rfl ?_
  unfold fX10_isSeen
  refine GE.aload_n 0 dX10_isSeen_0 rfl rfl ?_
  refine GE.iload 6 dX10_isSeen_1 rfl ?_
  refine GE.callvI [.int px6] dX10_isSeen_3 (lV_X10_292) rfl ⟨rfl, rfl⟩ (rokb rfl) (gX10_acrossOf σ a0 px6) (fun x1 t2 => ?_)
  refine GE.aload_n 0 dX10_isSeen_6 rfl rfl ?_
  refine GE.iload_n 2 dX10_isSeen_7 rfl rfl ?_
  refine GE.callvI [.int px2] dX10_isSeen_8 (lV_X10_292) rfl ⟨rfl, rfl⟩ (rokb rfl) (gX10_acrossOf t2 a0 px2) (fun x3 t4 => ?_)
  refine GE.isub dX10_isSeen_11 ?_
  refine GE.nami (fun x5 => ?_)
  refine GE.istore (lv' := [(0, .ref a0), (1, .ref pa1), (2, .int px2), (3, .int px3), (4, .int px4), (5, .int px5), (6, .int px6), (7, .int x5)]) dX10_isSeen_12 (by decide) [1, 2, 3, 4, 5, 6, 7, 0] rfl ?_
  refine GE.aload_n 0 dX10_isSeen_14 rfl rfl ?_
  refine GE.iload 6 dX10_isSeen_15 rfl ?_
  refine GE.callvI [.int px6] dX10_isSeen_17 (lV_X10_295) rfl ⟨rfl, rfl⟩ (rokb rfl) (gX10_downOf t4 a0 px6) (fun x6 t7 => ?_)
  refine GE.aload_n 0 dX10_isSeen_20 rfl rfl ?_
  refine GE.iload_n 2 dX10_isSeen_21 rfl rfl ?_
  refine GE.callvI [.int px2] dX10_isSeen_22 (lV_X10_295) rfl ⟨rfl, rfl⟩ (rokb rfl) (gX10_downOf t7 a0 px2) (fun x8 t9 => ?_)
  refine GE.isub dX10_isSeen_25 ?_
  refine GE.nami (fun x10 => ?_)
  refine GE.istore (lv' := [(0, .ref a0), (1, .ref pa1), (2, .int px2), (3, .int px3), (4, .int px4), (5, .int px5), (6, .int px6), (7, .int x5), (8, .int x10)]) dX10_isSeen_26 (by decide) [1, 2, 3, 4, 5, 6, 7, 8, 0] rfl ?_
  refine GE.iload 7 dX10_isSeen_28 rfl ?_
  refine GE.callsI [.int x5] dX10_isSeen_30 (lT_X10_298) rfl ⟨rfl, rfl⟩ (rokb rfl) (gJ9_abs_0f7a4 t9 x5) (fun x11 t12 => ?_)
  refine GE.iload 8 dX10_isSeen_33 rfl ?_
  refine GE.callsI [.int x10] dX10_isSeen_35 (lT_X10_298) rfl ⟨rfl, rfl⟩ (rokb rfl) (gJ9_abs_0f7a4 t12 x10) (fun x13 t14 => ?_)
  refine GE.callsI [.int x11, .int x13] dX10_isSeen_38 (lT_X10_301) rfl ⟨rfl, rfl⟩ (rokb rfl) (gJ9_max_7cf53 t14 x11 x13) (fun x15 t16 => ?_)
  refine GE.istore (lv' := [(0, .ref a0), (1, .ref pa1), (2, .int px2), (3, .int px3), (4, .int px4), (5, .int px5), (6, .int px6), (7, .int x5), (8, .int x10), (9, .int x15)]) dX10_isSeen_41 (by decide) [1, 2, 3, 4, 5, 6, 7, 8, 9, 0] rfl ?_
  refine GE.aload_n 1 dX10_isSeen_43 rfl rfl ?_
  refine GE.iload 6 dX10_isSeen_44 rfl ?_
  refine GE.iald dX10_isSeen_46 (fun x17 => ?_)
  refine GE.iload 5 dX10_isSeen_47 rfl ?_
  refine GE.jo1 64 (fun (v18 : Int32) => [(0, .ref a0), (1, .ref pa1), (2, .int px2), (3, .int px3), (6, .int px6), (7, .int x5), (8, .int x10), (9, .int x15)]) (fun (v18 : Int32) => [.int v18]) (fun (v18 : Int32) => t16) (fun v18 => ?_) (fun j19 hj19 => ?_)
  · refine GE.istore (lv' := [(0, .ref a0), (1, .ref pa1), (2, .int px2), (3, .int px3), (6, .int px6), (7, .int x5), (8, .int x10), (9, .int x15), (10, .int v18)]) dX10_isSeen_64 (by decide) [1, 2, 3, 4, 5, 6, 7, 8, 0] rfl ?_
    refine GE.iconst dX10_isSeen_66 kI_1 ?_
    refine GE.istore (lv' := [(0, .ref a0), (1, .ref pa1), (2, .int px2), (3, .int px3), (6, .int px6), (7, .int x5), (8, .int x10), (9, .int x15), (10, .int v18), (11, .int 1)]) dX10_isSeen_67 (by decide) [1, 2, 3, 4, 5, 6, 7, 8, 9, 0] rfl ?_
    refine (GE.lo3 (fun (x20 : Int32) (x21 : Int32) (t22 : St) => [(0, .ref a0), (1, .ref pa1), (2, .int px2), (3, .int px3), (6, .int px6), (7, .int x5), (8, .int x10), (9, .int x15), (10, .int x20), (11, .int x21)]) (fun (x20 : Int32) (x21 : Int32) (t22 : St) => []) (fun (x20 : Int32) (x21 : Int32) (t22 : St) => t22) (fun l23 hl23 x20 x21 t22 => ?_) FU v18 1 t16)
    refine GE.iload 9 dX10_isSeen_69 rfl ?_
    refine GE.iload 7 dX10_isSeen_71 rfl ?_
    refine GE.icmp_ge (tgt := 158) dX10_isSeen_73 (by decide) ?_ ?_
    · refine GE.iload 8 dX10_isSeen_158 rfl ?_
      exact GE.zret dX10_isSeen_160 rfl (Nat.le_refl _) (Nat.le_refl _)
    · refine GE.iload 8 dX10_isSeen_76 rfl ?_
      refine GE.if_eq (tgt := 158) dX10_isSeen_78 (by decide) ?_ ?_
      · refine GE.iload 8 dX10_isSeen_158 rfl ?_
        exact GE.zret dX10_isSeen_160 rfl (Nat.le_refl _) (Nat.le_refl _)
      · refine GE.aload_n 0 dX10_isSeen_81 rfl rfl ?_
        refine GE.gR dX10_isSeen_82 lF_X10_52 (fun a24 => ?_)
        refine GE.iconst dX10_isSeen_85 kI_0 ?_
        refine GE.iald dX10_isSeen_86 (fun x25 => ?_)
        refine GE.aload_n 0 dX10_isSeen_87 rfl rfl ?_
        refine GE.iload_n 2 dX10_isSeen_88 rfl rfl ?_
        refine GE.callvI [.int px2] dX10_isSeen_89 (lV_X10_295) rfl ⟨rfl, rfl⟩ (rokb rfl) (gX10_downOf t22 a0 px2) (fun x26 t27 => ?_)
        refine GE.iload 6 dX10_isSeen_92 rfl ?_
        refine GE.iload 9 dX10_isSeen_94 rfl ?_
        refine GE.iload 7 dX10_isSeen_96 rfl ?_
        refine GE.callsI [.int x10, .int x21, .int x15] dX10_isSeen_98 (lT_X10_303) rfl ⟨rfl, rfl⟩ (rokb rfl) (gX10_stepped t27 x10 x21 x15) (fun x28 t29 => ?_)
        refine GE.iadd dX10_isSeen_101 ?_
        refine GE.imul dX10_isSeen_102 ?_
        refine GE.aload_n 0 dX10_isSeen_103 rfl rfl ?_
        refine GE.iload_n 2 dX10_isSeen_104 rfl rfl ?_
        refine GE.callvI [.int px2] dX10_isSeen_105 (lV_X10_292) rfl ⟨rfl, rfl⟩ (rokb rfl) (gX10_acrossOf t29 a0 px2) (fun x30 t31 => ?_)
        refine GE.iadd dX10_isSeen_108 ?_
        refine GE.iload 5 dX10_isSeen_109 rfl ?_
        refine GE.iload 9 dX10_isSeen_111 rfl ?_
        refine GE.iload 7 dX10_isSeen_113 rfl ?_
        refine GE.callsI [.int x5, .int x21, .int x15] dX10_isSeen_115 (lT_X10_303) rfl ⟨rfl, rfl⟩ (rokb rfl) (gX10_stepped t31 x5 x21 x15) (fun x32 t33 => ?_)
        refine GE.iadd dX10_isSeen_118 ?_
        refine GE.nami (fun x34 => ?_)
        refine GE.istore (lv' := [(0, .ref a0), (1, .ref pa1), (2, .int px2), (3, .int px3), (6, .int px6), (7, .int x5), (8, .int x10), (9, .int x15), (10, .int x20), (11, .int x21), (12, .int x34)]) dX10_isSeen_119 (by decide) [1, 2, 3, 4, 5, 6, 7, 8, 9, 10, 0] rfl ?_
        refine GE.aload_n 1 dX10_isSeen_121 rfl rfl ?_
        refine GE.iload 10 dX10_isSeen_122 rfl ?_
        refine GE.iald dX10_isSeen_124 (fun x35 => ?_)
        refine GE.iload 7 dX10_isSeen_125 rfl ?_
        refine GE.imul dX10_isSeen_127 ?_
        refine GE.iload_n 3 dX10_isSeen_128 rfl rfl ?_
        refine GE.iload 7 dX10_isSeen_129 rfl ?_
        refine GE.imul dX10_isSeen_131 ?_
        refine GE.iload 9 dX10_isSeen_132 rfl ?_
        refine GE.aload_n 1 dX10_isSeen_134 rfl rfl ?_
        refine GE.iload 4 dX10_isSeen_135 rfl ?_
        refine GE.iald dX10_isSeen_137 (fun x36 => ?_)
        refine GE.iload_n 3 dX10_isSeen_138 rfl rfl ?_
        refine GE.isub dX10_isSeen_139 ?_
        refine GE.imul dX10_isSeen_140 ?_
        refine GE.iadd dX10_isSeen_141 ?_
        refine GE.jo1 150 (fun (v37 : Int32) => [(0, .ref a0), (1, .ref pa1), (2, .int px2), (3, .int px3), (6, .int px6), (7, .int x5), (8, .int x10), (9, .int x15), (11, .int x21)]) (fun (v37 : Int32) => [.int v37]) (fun (v37 : Int32) => t33) (fun v37 => ?_) (fun j38 hj38 => ?_)
        · refine GE.istore (lv' := [(0, .ref a0), (1, .ref pa1), (2, .int px2), (3, .int px3), (6, .int px6), (7, .int x5), (8, .int x10), (9, .int x15), (10, .int v37), (11, .int x21)]) dX10_isSeen_150 (by decide) [1, 2, 3, 4, 5, 6, 7, 8, 0, 9] rfl ?_
          refine GE.iinc (lv' := [(0, .ref a0), (1, .ref pa1), (2, .int px2), (3, .int px3), (6, .int px6), (7, .int x5), (8, .int x10), (9, .int x15), (10, .int v37), (11, .int (x21 + 1))]) 9 dX10_isSeen_152 rfl kI_1 (by decide) [1, 2, 3, 4, 5, 6, 7, 8, 9, 0] rfl ?_
          refine GE.goto (tgt := 69) dX10_isSeen_155 (by decide) ?_
          exact hl23 v37 (x21 + 1) t33
        · refine GE.icmp_gt (tgt := 149) dX10_isSeen_142 (by decide) ?_ ?_
          · refine GE.iconst dX10_isSeen_149 kI_0 ?_
            exact GE.sub [0, 1, 2, 3, 4, 5, 6, 7, 9] rfl (hj38 0)
          · refine GE.iconst dX10_isSeen_145 kI_1 ?_
            refine GE.goto (tgt := 150) dX10_isSeen_146 (by decide) ?_
            exact GE.sub [0, 1, 2, 3, 4, 5, 6, 7, 9] rfl (hj38 1)
  · refine GE.jo1 63 (fun (u38 : Unit) => [(0, .ref a0), (1, .ref pa1), (2, .int px2), (3, .int px3), (6, .int px6), (7, .int x5), (8, .int x10), (9, .int x15)]) (fun (u38 : Unit) => []) (fun (u38 : Unit) => t16) (fun u38 => ?_) (fun j39 hj39 => ?_)
    · refine GE.iconst dX10_isSeen_63 kI_0 ?_
      exact hj19 0
    · refine GE.icmp_lt (tgt := 63) dX10_isSeen_49 (by decide) ?_ ?_
      · exact GE.sub [0, 1, 2, 3, 6, 7, 8, 9] rfl (hj39 () )
      · refine GE.iload 9 dX10_isSeen_52 rfl ?_
        refine GE.iload 4 dX10_isSeen_54 rfl ?_
        refine GE.icmp_gt (tgt := 63) dX10_isSeen_56 (by decide) ?_ ?_
        · exact GE.sub [0, 1, 2, 3, 6, 7, 8, 9] rfl (hj39 () )
        · refine GE.iconst dX10_isSeen_59 kI_1 ?_
          refine GE.goto (tgt := 64) dX10_isSeen_60 (by decide) ?_
          exact GE.sub [0, 1, 2, 3, 6, 7, 8, 9] rfl (hj19 1)
