def fX9_dig (σ : St) (a0 : Nat) (px1 : Int32) : Option (Int32 × St) :=
  bo 9 σ a0 (fX9_reshape σ a0 px1 ((-1)) 0) (fun x1 t2 =>
  some (x1, t2))
set_option maxHeartbeats 4000000 in
set_option maxRecDepth 100000 in
theorem gX9_dig (σ : St) (a0 : Nat) (px1 : Int32) : CE vI mX9_dig [.ref a0, .int px1] σ (fX9_dig σ a0 px1) := by
  refine CE.ofGEF (lv := [(0, .ref a0), (1, .int px1)]) (by decide +kernel) (Nat.le_of_ble_eq_true rfl) rfl ?_
  unfold fX9_dig
  refine GE.aload_n 0 dX9_dig_0 rfl rfl ?_
  refine GE.iload_n 1 dX9_dig_1 rfl rfl ?_
  refine GE.iconst dX9_dig_2 kI_m1 ?_
  refine GE.iconst dX9_dig_3 kI_0 ?_
  refine GE.callvI [.int px1, .int ((-1)), .int 0] dX9_dig_4 (lV_X9_217) rfl ⟨rfl, rfl⟩ (rokb rfl) (gX9_reshape σ a0 px1 ((-1)) 0) (fun x1 t2 => ?_)
  exact GE.iret dX9_dig_7 rfl (Nat.le_refl _) (Nat.le_refl _)
def fX9_end (σ : St) (a0 : Nat) (px1 : Int32) : Option (Int32 × St) :=
  if px1 < 0 then
    some (0, σ)
  else
    (gR 9 0 σ a0).bind fun a1 =>
    (gI 8 1 σ a1).bind fun x2 =>
    if px1 ≤ x2 then
      (gR 9 0 σ a0).bind fun a3 =>
      (pV 8 1 σ a3 (.int px1)).bind (fun t4 =>
      some (1, t4))
    else
      some (0, σ)
set_option maxHeartbeats 4000000 in
set_option maxRecDepth 100000 in
theorem gX9_end (σ : St) (a0 : Nat) (px1 : Int32) : CE vI mX9_end [.ref a0, .int px1] σ (fX9_end σ a0 px1) := by
  refine CE.ofGEF (lv := [(0, .ref a0), (1, .int px1)]) (by decide +kernel) (Nat.le_of_ble_eq_true rfl) rfl ?_
  unfold fX9_end
  refine GE.iload_n 1 dX9_end_0 rfl rfl ?_
  refine GE.if_lt (tgt := 15) dX9_end_1 (by decide) ?_ ?_
  · refine GE.iconst dX9_end_15 kI_0 ?_
    exact GE.zretk dX9_end_16 rfl (Nat.le_refl _) (Nat.le_refl _) (by decide)
  · refine GE.iload_n 1 dX9_end_4 rfl rfl ?_
    refine GE.aload_n 0 dX9_end_5 rfl rfl ?_
    refine GE.gR dX9_end_6 lF_X9_10 (fun a1 => ?_)
    refine GE.gI dX9_end_9 lF_X9_101 (fun x2 => ?_)
    refine GE.icmp_le (tgt := 17) dX9_end_12 (by decide) ?_ ?_
    · refine GE.aload_n 0 dX9_end_17 rfl rfl ?_
      refine GE.gR dX9_end_18 lF_X9_10 (fun a3 => ?_)
      refine GE.iload_n 1 dX9_end_21 rfl rfl ?_
      refine GE.pI dX9_end_22 lF_X9_101 (fun t4 => ?_)
      refine GE.iconst dX9_end_25 kI_1 ?_
      exact GE.zretk dX9_end_26 rfl (Nat.le_refl _) (Nat.le_refl _) (by decide)
    · refine GE.iconst dX9_end_15 kI_0 ?_
      exact GE.zretk dX9_end_16 rfl (Nat.le_refl _) (Nat.le_refl _) (by decide)
def fX7_allTowers (σ : St) (a0 : Nat) : Option (Int32 × St) :=
  (gI 7 3 σ a0).bind fun x1 =>
  some ((1 <<< (x1 &&& 31)) - 1, σ)
set_option maxHeartbeats 4000000 in
set_option maxRecDepth 100000 in
theorem gX7_allTowers (σ : St) (a0 : Nat) : CE vI mX7_allTowers [.ref a0] σ (fX7_allTowers σ a0) := by
  refine CE.ofGEF (lv := [(0, .ref a0)]) (by decide +kernel) (Nat.le_of_ble_eq_true rfl) rfl ?_
  unfold fX7_allTowers
  refine GE.iconst dX7_allTowers_0 kI_1 ?_
  refine GE.aload_n 0 dX7_allTowers_1 rfl rfl ?_
  refine GE.gI dX7_allTowers_2 lF_X7_21 (fun x1 => ?_)
  refine GE.ishl dX7_allTowers_5 ?_
  refine GE.iconst dX7_allTowers_6 kI_1 ?_
  refine GE.isub dX7_allTowers_7 ?_
  exact GE.iret dX7_allTowers_8 rfl (Nat.le_refl _) (Nat.le_refl _)
def fX7_unionOfSights (σ : St) (a0 : Nat) (px1 : Int32) (pq2 : Option Nat) : Option (Int32 × St) :=
  lo3 (fun l4 (x1 : Int32) (x2 : Int32) (t3 : St) =>
    (gI 7 3 t3 a0).bind fun x5 =>
  if x5 ≤ x2 then
    some (x1, t3)
  else
    jo2 (fun (x6 : Int32) (t7 : St) =>
      l4 x6 (x2 + 1) t7) (fun j8 =>
      if (px1 >>> (x2 &&& 31)) &&& 1 = 1 then
        bo 7 t3 a0 (fX7_sight t3 a0 x2 pq2) (fun x9 t10 =>
        nam (x1 ||| x9 : Int32) (fun x11 =>
        j8 x11 t10))
      else
        j8 x1 t3)) FU 0 0 σ
set_option maxHeartbeats 4000000 in
set_option maxRecDepth 100000 in
theorem gX7_unionOfSights (σ : St) (a0 : Nat) (px1 : Int32) (pq2 : Option Nat) : CE vI mX7_unionOfSights [.ref a0, .int px1, va_rf pq2] σ (fX7_unionOfSights σ a0 px1 pq2) := by
  refine CE.ofGEF (lv := [(0, .ref a0), (1, .int px1), (2, va_rf pq2)]) (by decide +kernel) (by cases pq2 <;> exact Nat.le_of_ble_eq_true rfl) rfl ?_
  unfold fX7_unionOfSights
  refine GE.iconst dX7_unionOfSights_0 kI_0 ?_
  refine GE.istore_n (lv' := [(0, .ref a0), (1, .int px1), (2, va_rf pq2), (3, .int 0)]) dX7_unionOfSights_1 rfl (by decide) [1, 2, 3, 0] (by cases pq2 <;> rfl) ?_
  refine GE.iconst dX7_unionOfSights_2 kI_0 ?_
  refine GE.istore (lv' := [(0, .ref a0), (1, .int px1), (2, va_rf pq2), (3, .int 0), (4, .int 0)]) dX7_unionOfSights_3 (by decide) [1, 2, 3, 4, 0] rfl ?_
  refine (GE.lo3 (fun (x1 : Int32) (x2 : Int32) (t3 : St) => [(0, .ref a0), (1, .int px1), (2, va_rf pq2), (3, .int x1), (4, .int x2)]) (fun (x1 : Int32) (x2 : Int32) (t3 : St) => []) (fun (x1 : Int32) (x2 : Int32) (t3 : St) => t3) (fun l4 hl4 x1 x2 t3 => ?_) FU 0 0 σ)
  refine GE.iload 4 dX7_unionOfSights_5 rfl ?_
  refine GE.aload_n 0 dX7_unionOfSights_7 rfl rfl ?_
  refine GE.gI dX7_unionOfSights_8 lF_X7_21 (fun x5 => ?_)
  refine GE.icmp_ge (tgt := 40) dX7_unionOfSights_11 (by decide) ?_ ?_
  · refine GE.iload_n 3 dX7_unionOfSights_40 rfl rfl ?_
    exact GE.iret dX7_unionOfSights_41 rfl (Nat.le_refl _) (Nat.le_refl _)
  · refine GE.iload_n 1 dX7_unionOfSights_14 rfl rfl ?_
    refine GE.iload 4 dX7_unionOfSights_15 rfl ?_
    refine GE.ishr dX7_unionOfSights_17 ?_
    refine GE.iconst dX7_unionOfSights_18 kI_1 ?_
    refine GE.iand dX7_unionOfSights_19 ?_
    refine GE.iconst dX7_unionOfSights_20 kI_1 ?_
    refine GE.jo2 34 (fun (x6 : Int32) (t7 : St) => [(0, .ref a0), (1, .int px1), (2, va_rf pq2), (3, .int x6), (4, .int x2)]) (fun (x6 : Int32) (t7 : St) => []) (fun (x6 : Int32) (t7 : St) => t7) (fun x6 t7 => ?_) (fun j8 hj8 => ?_)
    · refine GE.iinc (lv' := [(0, .ref a0), (1, .int px1), (2, va_rf pq2), (3, .int x6), (4, .int (x2 + 1))]) 4 dX7_unionOfSights_34 rfl kI_1 (by decide) [1, 2, 3, 4, 0] rfl ?_
      refine GE.goto (tgt := 5) dX7_unionOfSights_37 (by decide) ?_
      exact hl4 x6 (x2 + 1) t7
    · refine GE.icmp_ne (tgt := 34) dX7_unionOfSights_21 (by decide) ?_ ?_
      · exact hj8 x1 t3
      · refine GE.iload_n 3 dX7_unionOfSights_24 rfl rfl ?_
        refine GE.aload_n 0 dX7_unionOfSights_25 rfl rfl ?_
        refine GE.iload 4 dX7_unionOfSights_26 rfl ?_
        refine GE.aloadq_n 2 dX7_unionOfSights_28 rfl rfl ?_
        refine GE.callvI [.int x2, va_rf pq2] dX7_unionOfSights_29 (lV_X7_103) rfl ⟨rfl, rfl⟩ (rokb rfl) (gX7_sight t3 a0 x2 pq2) (fun x9 t10 => ?_)
        refine GE.ior dX7_unionOfSights_32 ?_
        refine GE.nami (fun x11 => ?_)
        refine GE.istore_n (lv' := [(0, .ref a0), (1, .int px1), (2, va_rf pq2), (3, .int x11), (4, .int x2)]) dX7_unionOfSights_33 rfl (by decide) [1, 2, 3, 0, 4] (by cases pq2 <;> rfl) ?_
        exact hj8 x11 t10
def fX9_noLand (σ : St) (a0 : Nat) : Option (Int32 × St) :=
  (gR 9 8 σ a0).bind fun a1 =>
  (gI 7 2 σ a1).bind fun x2 =>
  if x2 = 0 then
    some (1, σ)
  else
    some (0, σ)
set_option maxHeartbeats 4000000 in
set_option maxRecDepth 100000 in
theorem gX9_noLand (σ : St) (a0 : Nat) : CE vI mX9_noLand [.ref a0] σ (fX9_noLand σ a0) := by
  refine CE.ofGEF (lv := [(0, .ref a0)]) (by decide +kernel) (Nat.le_of_ble_eq_true rfl) rfl ?_
  unfold fX9_noLand
  refine GE.aload_n 0 dX9_noLand_0 rfl rfl ?_
  refine GE.gR dX9_noLand_1 lF_X9_55 (fun a1 => ?_)
  refine GE.gI dX9_noLand_4 lF_X9_130 (fun x2 => ?_)
  refine GE.if_ne (tgt := 14) dX9_noLand_7 (by decide) ?_ ?_
  · refine GE.iconst dX9_noLand_14 kI_0 ?_
    exact GE.zretk dX9_noLand_15 rfl (Nat.le_refl _) (Nat.le_refl _) (by decide)
  · refine GE.iconst dX9_noLand_10 kI_1 ?_
    refine GE.goto (tgt := 15) dX9_noLand_11 (by decide) ?_
    exact GE.zretk dX9_noLand_15 rfl (Nat.le_refl _) (Nat.le_refl _) (by decide)
def fX9_enough (σ : St) (a0 : Nat) : Option (Int32 × St) :=
  bo 9 σ a0 (fX9_noLand σ a0) (fun x1 t2 =>
  if x1 = 0 then
    (gR 9 8 t2 a0).bind fun a3 =>
    bo 7 t2 a3 (fX7_allTowers t2 a3) (fun x4 t5 =>
    (gR 9 8 t5 a0).bind fun a6 =>
    bo 9 t5 a0 (fX9_ruling t5 a0) (fun q7 t8 =>
    bo 7 t8 a6 (fX7_unionOfSights t8 a6 x4 q7) (fun x9 t10 =>
    lo3 (fun l14 (x11 : Int32) (x12 : Int32) (t13 : St) =>
      if x4 ≤ x12 then
      some (x11, t13)
    else
      bd (fJ6_bitCount_0f7a4 t13 x12) (fun x15 t16 =>
      bd (fJ6_bitCount_0f7a4 t16 x11) (fun x17 t18 =>
      jo2 (fun (x19 : Int32) (t20 : St) =>
        l14 x19 (x12 + 1) t20) (fun j21 =>
        if x17 ≤ x15 then
          j21 x11 t18
        else
          (gR 9 8 t18 a0).bind fun a22 =>
          bo 9 t18 a0 (fX9_ruling t18 a0) (fun q23 t24 =>
          bo 7 t24 a22 (fX7_unionOfSights t24 a22 x12 q23) (fun x25 t26 =>
          if x25 = x9 then
            j21 x12 t26
          else
            j21 x11 t26)))))) FU x4 0 t10)))
  else
    some ((-1), t2))
set_option maxHeartbeats 4000000 in
set_option maxRecDepth 100000 in
theorem gX9_enough (σ : St) (a0 : Nat) : CE vI mX9_enough [.ref a0] σ (fX9_enough σ a0) := by
  refine CE.ofGEF (lv := [(0, .ref a0)]) (by decide +kernel) (Nat.le_of_ble_eq_true rfl) rfl ?_
  unfold fX9_enough
  refine GE.aload_n 0 dX9_enough_0 rfl rfl ?_
  refine GE.callvI [] dX9_enough_1 (lV_X9_137) rfl ⟨rfl, rfl⟩ (rokb rfl) (gX9_noLand σ a0) (fun x1 t2 => ?_)
  refine GE.if_eq (tgt := 9) dX9_enough_4 (by decide) ?_ ?_
  · refine GE.aload_n 0 dX9_enough_9 rfl rfl ?_
    refine GE.gR dX9_enough_10 lF_X9_55 (fun a3 => ?_)
    refine GE.callvI [] dX9_enough_13 (lV_X9_263) rfl ⟨rfl, rfl⟩ (rokb rfl) (gX7_allTowers t2 a3) (fun x4 t5 => ?_)
    refine GE.istore_n (lv' := [(0, .ref a0), (1, .int x4)]) dX9_enough_16 rfl (by decide) [1, 0] rfl ?_
    refine GE.aload_n 0 dX9_enough_17 rfl rfl ?_
    refine GE.gR dX9_enough_18 lF_X9_55 (fun a6 => ?_)
    refine GE.iload_n 1 dX9_enough_21 rfl rfl ?_
    refine GE.aload_n 0 dX9_enough_22 rfl rfl ?_
    refine GE.callvQ [] dX9_enough_23 (lV_X9_179) rfl ⟨rfl, rfl⟩ (rokb rfl) (gX9_ruling t5 a0) (fun q7 t8 => ?_)
    refine GE.callvI [.int x4, va_rf q7] dX9_enough_26 (lV_X9_266) rfl ⟨rfl, rfl⟩ (rokb rfl) (gX7_unionOfSights t8 a6 x4 q7) (fun x9 t10 => ?_)
    refine GE.istore_n (lv' := [(0, .ref a0), (1, .int x4), (2, .int x9)]) dX9_enough_29 rfl (by decide) [1, 2, 0] rfl ?_
    refine GE.iload_n 1 dX9_enough_30 rfl rfl ?_
    refine GE.istore_n (lv' := [(0, .ref a0), (1, .int x4), (2, .int x9), (3, .int x4)]) dX9_enough_31 rfl (by decide) [1, 2, 3, 0] rfl ?_
    refine GE.iconst dX9_enough_32 kI_0 ?_
    refine GE.istore (lv' := [(0, .ref a0), (1, .int x4), (2, .int x9), (3, .int x4), (4, .int 0)]) dX9_enough_33 (by decide) [1, 2, 3, 4, 0] rfl ?_
    refine (GE.lo3 (fun (x11 : Int32) (x12 : Int32) (t13 : St) => [(0, .ref a0), (1, .int x4), (2, .int x9), (3, .int x11), (4, .int x12)]) (fun (x11 : Int32) (x12 : Int32) (t13 : St) => []) (fun (x11 : Int32) (x12 : Int32) (t13 : St) => t13) (fun l14 hl14 x11 x12 t13 => ?_) FU x4 0 t10)
    refine GE.iload 4 dX9_enough_35 rfl ?_
    refine GE.iload_n 1 dX9_enough_37 rfl rfl ?_
    refine GE.icmp_ge (tgt := 79) dX9_enough_38 (by decide) ?_ ?_
    · refine GE.iload_n 3 dX9_enough_79 rfl rfl ?_
      exact GE.iret dX9_enough_80 rfl (Nat.le_refl _) (Nat.le_refl _)
    · refine GE.iload 4 dX9_enough_41 rfl ?_
      refine GE.callsI [.int x12] dX9_enough_43 (lT_X9_192) rfl ⟨rfl, rfl⟩ (rokb rfl) (gJ6_bitCount_0f7a4 t13 x12) (fun x15 t16 => ?_)
      refine GE.iload_n 3 dX9_enough_46 rfl rfl ?_
      refine GE.callsI [.int x11] dX9_enough_47 (lT_X9_192) rfl ⟨rfl, rfl⟩ (rokb rfl) (gJ6_bitCount_0f7a4 t16 x11) (fun x17 t18 => ?_)
      refine GE.jo2 73 (fun (x19 : Int32) (t20 : St) => [(0, .ref a0), (1, .int x4), (2, .int x9), (3, .int x19), (4, .int x12)]) (fun (x19 : Int32) (t20 : St) => []) (fun (x19 : Int32) (t20 : St) => t20) (fun x19 t20 => ?_) (fun j21 hj21 => ?_)
      · refine GE.iinc (lv' := [(0, .ref a0), (1, .int x4), (2, .int x9), (3, .int x19), (4, .int (x12 + 1))]) 4 dX9_enough_73 rfl kI_1 (by decide) [1, 2, 3, 4, 0] rfl ?_
        refine GE.goto (tgt := 35) dX9_enough_76 (by decide) ?_
        exact hl14 x19 (x12 + 1) t20
      · refine GE.icmp_ge (tgt := 73) dX9_enough_50 (by decide) ?_ ?_
        · exact hj21 x11 t18
        · refine GE.aload_n 0 dX9_enough_53 rfl rfl ?_
          refine GE.gR dX9_enough_54 lF_X9_55 (fun a22 => ?_)
          refine GE.iload 4 dX9_enough_57 rfl ?_
          refine GE.aload_n 0 dX9_enough_59 rfl rfl ?_
          refine GE.callvQ [] dX9_enough_60 (lV_X9_179) rfl ⟨rfl, rfl⟩ (rokb rfl) (gX9_ruling t18 a0) (fun q23 t24 => ?_)
          refine GE.callvI [.int x12, va_rf q23] dX9_enough_63 (lV_X9_266) rfl ⟨rfl, rfl⟩ (rokb rfl) (gX7_unionOfSights t24 a22 x12 q23) (fun x25 t26 => ?_)
          refine GE.iload_n 2 dX9_enough_66 rfl rfl ?_
          refine GE.icmp_ne (tgt := 73) dX9_enough_67 (by decide) ?_ ?_
          · exact hj21 x11 t26
          · refine GE.iload 4 dX9_enough_70 rfl ?_
            refine GE.istore_n (lv' := [(0, .ref a0), (1, .int x4), (2, .int x9), (3, .int x12), (4, .int x12)]) dX9_enough_72 rfl (by decide) [1, 2, 3, 0, 4] rfl ?_
            exact hj21 x12 t26
  · refine GE.iconst dX9_enough_7 kI_m1 ?_
    exact GE.iret dX9_enough_8 rfl (Nat.le_refl _) (Nat.le_refl _)
def fX2_placeOf (σ : St) (px0 : Int32) (pa1 : Nat) : Option (Int32 × St) :=
  lo1 (fun l2 (x1 : Int32) =>
    (aN σ pa1).bind fun x3 =>
  if x3 ≤ x1 then
    some ((-1), σ)
  else
    (aI 4 σ pa1 x1).bind fun x4 =>
    if x4 = px0 then
      some (x1, σ)
    else
      l2 (x1 + 1)) FU 0
set_option maxHeartbeats 4000000 in
set_option maxRecDepth 100000 in
theorem gX2_placeOf (σ : St) (px0 : Int32) (pa1 : Nat) : CE vI mX2_placeOf [.int px0, .ref pa1] σ (fX2_placeOf σ px0 pa1) := by
  refine CE.ofGEF (lv := [(0, .int px0), (1, .ref pa1)]) (by decide +kernel) (Nat.le_of_ble_eq_true rfl) rfl ?_
  unfold fX2_placeOf
  refine GE.iconst dX2_placeOf_0 kI_0 ?_
  refine GE.istore_n (lv' := [(0, .int px0), (1, .ref pa1), (2, .int 0)]) dX2_placeOf_1 rfl (by decide) [1, 2, 0] rfl ?_
  refine (GE.lo1 (fun (x1 : Int32) => [(0, .int px0), (1, .ref pa1), (2, .int x1)]) (fun (x1 : Int32) => []) (fun (x1 : Int32) => σ) (fun l2 hl2 x1 => ?_) FU 0)
  refine GE.iload_n 2 dX2_placeOf_2 rfl rfl ?_
  refine GE.aload_n 1 dX2_placeOf_3 rfl rfl ?_
  refine GE.alen dX2_placeOf_4 (fun x3 => ?_)
  refine GE.icmp_ge (tgt := 23) dX2_placeOf_5 (by decide) ?_ ?_
  · refine GE.iconst dX2_placeOf_23 kI_m1 ?_
    exact GE.iret dX2_placeOf_24 rfl (Nat.le_refl _) (Nat.le_refl _)
  · refine GE.aload_n 1 dX2_placeOf_8 rfl rfl ?_
    refine GE.iload_n 2 dX2_placeOf_9 rfl rfl ?_
    refine GE.cald dX2_placeOf_10 (fun x4 => ?_)
    refine GE.iload_n 0 dX2_placeOf_11 rfl rfl ?_
    refine GE.icmp_ne (tgt := 17) dX2_placeOf_12 (by decide) ?_ ?_
    · refine GE.iinc (lv' := [(0, .int px0), (1, .ref pa1), (2, .int (x1 + 1))]) 2 dX2_placeOf_17 rfl kI_1 (by decide) [1, 2, 0] rfl ?_
      refine GE.goto (tgt := 2) dX2_placeOf_20 (by decide) ?_
      exact hl2 (x1 + 1)
    · refine GE.iload_n 2 dX2_placeOf_15 rfl rfl ?_
      exact GE.iret dX2_placeOf_16 rfl (Nat.le_refl _) (Nat.le_refl _)
def fX8_fail (σ : St) (a0 : Nat) : Option (Unit × St) :=
  (gI 8 2 σ a0).bind fun x1 =>
  if x1 = (-1) then
    (gI 8 3 σ a0).bind fun x2 =>
    (pV 8 2 σ a0 (.int x2)).bind (fun t3 =>
    some ((), t3))
  else
    some ((), σ)
set_option maxHeartbeats 4000000 in
set_option maxRecDepth 100000 in
theorem gX8_fail (σ : St) (a0 : Nat) : CE vU mX8_fail [.ref a0] σ (fX8_fail σ a0) := by
  refine CE.ofGEF (lv := [(0, .ref a0)]) (by decide +kernel) (Nat.le_of_ble_eq_true rfl) rfl ?_
  unfold fX8_fail
  refine GE.aload_n 0 dX8_fail_0 rfl rfl ?_
  refine GE.gI dX8_fail_1 lF_X8_19 (fun x1 => ?_)
  refine GE.iconst dX8_fail_4 kI_m1 ?_
  refine GE.icmp_ne (tgt := 16) dX8_fail_5 (by decide) ?_ ?_
  · exact GE.vret (x := ()) dX8_fail_16 rfl (Nat.le_refl _) (Nat.le_refl _)
  · refine GE.aload_n 0 dX8_fail_8 rfl rfl ?_
    refine GE.aload_n 0 dX8_fail_9 rfl rfl ?_
    refine GE.gI dX8_fail_10 lF_X8_22 (fun x2 => ?_)
    refine GE.pI dX8_fail_13 lF_X8_19 (fun t3 => ?_)
    exact GE.vret (x := ()) dX8_fail_16 rfl (Nat.le_refl _) (Nat.le_refl _)
def fX8_isDigit (σ : St) (px0 : Int32) : Option (Int32 × St) :=
  if px0 < 48 then
    some (0, σ)
  else
    if 57 < px0 then
      some (0, σ)
    else
      some (1, σ)
set_option maxHeartbeats 4000000 in
set_option maxRecDepth 100000 in
theorem gX8_isDigit (σ : St) (px0 : Int32) : CE vI mX8_isDigit [.int px0] σ (fX8_isDigit σ px0) := by
  refine CE.ofGEF (lv := [(0, .int px0)]) (by decide +kernel) (Nat.le_of_ble_eq_true rfl) rfl ?_
  unfold fX8_isDigit
  refine GE.iload_n 0 dX8_isDigit_0 rfl rfl ?_
  refine GE.bipush dX8_isDigit_1 kB_48 ?_
  refine GE.icmp_lt (tgt := 16) dX8_isDigit_3 (by decide) ?_ ?_
  · refine GE.iconst dX8_isDigit_16 kI_0 ?_
    exact GE.zretk dX8_isDigit_17 rfl (Nat.le_refl _) (Nat.le_refl _) (by decide)
  · refine GE.iload_n 0 dX8_isDigit_6 rfl rfl ?_
    refine GE.bipush dX8_isDigit_7 kB_57 ?_
    refine GE.icmp_gt (tgt := 16) dX8_isDigit_9 (by decide) ?_ ?_
    · refine GE.iconst dX8_isDigit_16 kI_0 ?_
      exact GE.zretk dX8_isDigit_17 rfl (Nat.le_refl _) (Nat.le_refl _) (by decide)
    · refine GE.iconst dX8_isDigit_12 kI_1 ?_
      refine GE.goto (tgt := 17) dX8_isDigit_13 (by decide) ?_
      exact GE.zretk dX8_isDigit_17 rfl (Nat.le_refl _) (Nat.le_refl _) (by decide)
def fX8_peek (σ : St) (a0 : Nat) : Option (Int32 × St) :=
  (gI 8 2 σ a0).bind fun x1 =>
  if x1 = (-1) then
    (gI 8 3 σ a0).bind fun x2 =>
    lo2 (fun l5 (x3 : Int32) (t4 : St) =>
      (gI 8 1 t4 a0).bind fun x6 =>
    jo1 (fun (u6 : Unit) =>
      (gI 8 3 t4 a0).bind fun x8 =>
      (gI 8 1 t4 a0).bind fun x9 =>
      if x9 ≤ x8 then
        some ((-1), t4)
      else
        (gR 8 0 t4 a0).bind fun a10 =>
        (gI 8 3 t4 a0).bind fun x11 =>
        (aI 0 t4 a10 x11).bind fun x12 =>
        some (x12, t4)) (fun j7 =>
      if x6 ≤ x3 then
        j7 () 
      else
        (gR 8 0 t4 a0).bind fun a13 =>
        (aI 0 t4 a13 x3).bind fun x14 =>
        if x14 = 32 then
          (pV 8 3 t4 a0 (.int (x3 + 1))).bind (fun t15 =>
          l5 (x3 + 1) t15)
        else
          j7 () )) FU x2 σ
  else
    some ((-1), σ)
set_option maxHeartbeats 4000000 in
set_option maxRecDepth 100000 in
theorem gX8_peek (σ : St) (a0 : Nat) : CE vI mX8_peek [.ref a0] σ (fX8_peek σ a0) := by
  refine CE.ofGEF (lv := [(0, .ref a0)]) (by decide +kernel) (Nat.le_of_ble_eq_true rfl) rfl ?_
  unfold fX8_peek
  refine GE.aload_n 0 dX8_peek_0 rfl rfl ?_
  refine GE.gI dX8_peek_1 lF_X8_19 (fun x1 => ?_)
  refine GE.iconst dX8_peek_4 kI_m1 ?_
  refine GE.icmp_eq (tgt := 10) dX8_peek_5 (by decide) ?_ ?_
  · refine GE.aload_n 0 dX8_peek_10 rfl rfl ?_
    refine GE.gI dX8_peek_11 lF_X8_22 (fun x2 => ?_)
    refine GE.istore_n (lv' := [(0, .ref a0), (1, .int x2)]) dX8_peek_14 rfl (by decide) [1, 0] rfl ?_
    refine (GE.lo2 (fun (x3 : Int32) (t4 : St) => [(0, .ref a0), (1, .int x3)]) (fun (x3 : Int32) (t4 : St) => []) (fun (x3 : Int32) (t4 : St) => t4) (fun l5 hl5 x3 t4 => ?_) FU x2 σ)
    refine GE.iload_n 1 dX8_peek_15 rfl rfl ?_
    refine GE.aload_n 0 dX8_peek_16 rfl rfl ?_
    refine GE.gI dX8_peek_17 lF_X8_15 (fun x6 => ?_)
    refine GE.jo1 47 (fun (u6 : Unit) => [(0, .ref a0)]) (fun (u6 : Unit) => []) (fun (u6 : Unit) => t4) (fun u6 => ?_) (fun j7 hj7 => ?_)
    · refine GE.aload_n 0 dX8_peek_47 rfl rfl ?_
      refine GE.gI dX8_peek_48 lF_X8_22 (fun x8 => ?_)
      refine GE.aload_n 0 dX8_peek_51 rfl rfl ?_
      refine GE.gI dX8_peek_52 lF_X8_15 (fun x9 => ?_)
      refine GE.icmp_ge (tgt := 70) dX8_peek_55 (by decide) ?_ ?_
      · refine GE.iconst dX8_peek_70 kI_m1 ?_
        exact GE.iret dX8_peek_71 rfl (Nat.le_refl _) (Nat.le_refl _)
      · refine GE.aload_n 0 dX8_peek_58 rfl rfl ?_
        refine GE.gR dX8_peek_59 lF_X8_11 (fun a10 => ?_)
        refine GE.aload_n 0 dX8_peek_62 rfl rfl ?_
        refine GE.gI dX8_peek_63 lF_X8_22 (fun x11 => ?_)
        refine GE.iald dX8_peek_66 (fun x12 => ?_)
        refine GE.goto (tgt := 71) dX8_peek_67 (by decide) ?_
        exact GE.iret dX8_peek_71 rfl (Nat.le_refl _) (Nat.le_refl _)
    · refine GE.icmp_ge (tgt := 47) dX8_peek_20 (by decide) ?_ ?_
      · exact GE.sub [0] rfl (hj7 () )
      · refine GE.aload_n 0 dX8_peek_23 rfl rfl ?_
        refine GE.gR dX8_peek_24 lF_X8_11 (fun a13 => ?_)
        refine GE.iload_n 1 dX8_peek_27 rfl rfl ?_
        refine GE.iald dX8_peek_28 (fun x14 => ?_)
        refine GE.bipush dX8_peek_29 kB_32 ?_
        refine GE.icmp_ne (tgt := 47) dX8_peek_31 (by decide) ?_ ?_
        · exact GE.sub [0] rfl (hj7 () )
        · refine GE.aload_n 0 dX8_peek_34 rfl rfl ?_
          refine GE.iload_n 1 dX8_peek_35 rfl rfl ?_
          refine GE.iconst dX8_peek_36 kI_1 ?_
          refine GE.iadd dX8_peek_37 ?_
          refine GE.pI dX8_peek_38 lF_X8_22 (fun t15 => ?_)
          refine GE.iinc (lv' := [(0, .ref a0), (1, .int (x3 + 1))]) 1 dX8_peek_41 rfl kI_1 (by decide) [1, 0] rfl ?_
          refine GE.goto (tgt := 15) dX8_peek_44 (by decide) ?_
          exact hl5 (x3 + 1) t15
  · refine GE.iconst dX8_peek_8 kI_m1 ?_
    exact GE.iret dX8_peek_9 rfl (Nat.le_refl _) (Nat.le_refl _)
def fX8_number (σ : St) (a0 : Nat) (px1 : Int32) : Option (Int32 × St) :=
  bo 8 σ a0 (fX8_peek σ a0) (fun x1 t2 =>
  bd (fX8_isDigit t2 x1) (fun x3 t4 =>
  if x3 = 0 then
    bo 8 t4 a0 (fX8_fail t4 a0) (fun w33 t34 =>
    some (0, t34))
  else
    lo3 (fun l8 (x5 : Int32) (x6 : Int32) (t7 : St) =>
      jo1 (fun (t9 : St) =>
      (gI 8 3 t9 a0).bind fun x11 =>
      (gI 8 1 t9 a0).bind fun x12 =>
      if x12 ≤ x11 then
        some (x5, t9)
      else
        (gR 8 0 t9 a0).bind fun a13 =>
        (gI 8 3 t9 a0).bind fun x14 =>
        (aI 0 t9 a13 x14).bind fun x15 =>
        bd (fX8_isDigit t9 x15) (fun x16 t17 =>
        if x16 = 0 then
          some (x5, t17)
        else
          bo 8 t17 a0 (fX8_fail t17 a0) (fun w18 t19 =>
          some (x5, t19)))) (fun j10 =>
      if px1 ≤ x6 then
        j10 t7
      else
        (gI 8 3 t7 a0).bind fun x20 =>
        (gI 8 1 t7 a0).bind fun x21 =>
        if x21 ≤ x20 then
          j10 t7
        else
          (gR 8 0 t7 a0).bind fun a22 =>
          (gI 8 3 t7 a0).bind fun x23 =>
          (aI 0 t7 a22 x23).bind fun x24 =>
          bd (fX8_isDigit t7 x24) (fun x25 t26 =>
          if x25 = 0 then
            j10 t26
          else
            (gR 8 0 t26 a0).bind fun a27 =>
            (gI 8 3 t26 a0).bind fun x28 =>
            (aI 0 t26 a27 x28).bind fun x29 =>
            nam (((x5 * 10) + x29) - 48 : Int32) (fun x30 =>
            (gI 8 3 t26 a0).bind fun x31 =>
            (pV 8 3 t26 a0 (.int (x31 + 1))).bind (fun t32 =>
            l8 x30 (x6 + 1) t32))))) FU 0 0 t4))
set_option maxHeartbeats 4000000 in
set_option maxRecDepth 100000 in
theorem gX8_number (σ : St) (a0 : Nat) (px1 : Int32) : CE vI mX8_number [.ref a0, .int px1] σ (fX8_number σ a0 px1) := by
  refine CE.ofGEF (lv := [(0, .ref a0), (1, .int px1)]) (by decide +kernel) (Nat.le_of_ble_eq_true rfl) rfl ?_
  unfold fX8_number
  refine GE.aload_n 0 dX8_number_0 rfl rfl ?_
  refine GE.callvI [] dX8_number_1 (lV_X8_25) rfl ⟨rfl, rfl⟩ (rokb rfl) (gX8_peek σ a0) (fun x1 t2 => ?_)
  refine GE.callsI [.int x1] dX8_number_4 (lT_X8_35) rfl ⟨rfl, rfl⟩ (rokb rfl) (gX8_isDigit t2 x1) (fun x3 t4 => ?_)
  refine GE.if_ne (tgt := 16) dX8_number_7 (by decide) ?_ ?_
  · refine GE.iconst dX8_number_16 kI_0 ?_
    refine GE.istore_n (lv' := [(0, .ref a0), (1, .int px1), (2, .int 0)]) dX8_number_17 rfl (by decide) [1, 2, 0] rfl ?_
    refine GE.iconst dX8_number_18 kI_0 ?_
    refine GE.istore_n (lv' := [(0, .ref a0), (1, .int px1), (2, .int 0), (3, .int 0)]) dX8_number_19 rfl (by decide) [1, 2, 3, 0] rfl ?_
    refine (GE.lo3 (fun (x5 : Int32) (x6 : Int32) (t7 : St) => [(0, .ref a0), (1, .int px1), (2, .int x5), (3, .int x6)]) (fun (x5 : Int32) (x6 : Int32) (t7 : St) => []) (fun (x5 : Int32) (x6 : Int32) (t7 : St) => t7) (fun l8 hl8 x5 x6 t7 => ?_) FU 0 0 t4)
    refine GE.iload_n 3 dX8_number_20 rfl rfl ?_
    refine GE.iload_n 1 dX8_number_21 rfl rfl ?_
    refine GE.jo1 85 (fun (t9 : St) => [(0, .ref a0), (2, .int x5)]) (fun (t9 : St) => []) (fun (t9 : St) => t9) (fun t9 => ?_) (fun j10 hj10 => ?_)
    · refine GE.aload_n 0 dX8_number_85 rfl rfl ?_
      refine GE.gI dX8_number_86 lF_X8_22 (fun x11 => ?_)
      refine GE.aload_n 0 dX8_number_89 rfl rfl ?_
      refine GE.gI dX8_number_90 lF_X8_15 (fun x12 => ?_)
      refine GE.icmp_ge (tgt := 115) dX8_number_93 (by decide) ?_ ?_
      · refine GE.iload_n 1 dX8_number_115 rfl rfl ?_
        exact GE.iret dX8_number_116 rfl (Nat.le_refl _) (Nat.le_refl _)
      · refine GE.aload_n 0 dX8_number_96 rfl rfl ?_
        refine GE.gR dX8_number_97 lF_X8_11 (fun a13 => ?_)
        refine GE.aload_n 0 dX8_number_100 rfl rfl ?_
        refine GE.gI dX8_number_101 lF_X8_22 (fun x14 => ?_)
        refine GE.iald dX8_number_104 (fun x15 => ?_)
        refine GE.callsI [.int x15] dX8_number_105 (lT_X8_35) rfl ⟨rfl, rfl⟩ (rokb rfl) (gX8_isDigit t9 x15) (fun x16 t17 => ?_)
        refine GE.if_eq (tgt := 115) dX8_number_108 (by decide) ?_ ?_
        · refine GE.iload_n 1 dX8_number_115 rfl rfl ?_
          exact GE.iret dX8_number_116 rfl (Nat.le_refl _) (Nat.le_refl _)
        · refine GE.aload_n 0 dX8_number_111 rfl rfl ?_
          refine GE.callvU [] dX8_number_112 (lV_X8_32) rfl ⟨rfl, rfl⟩ (rokb rfl) (gX8_fail t17 a0) (fun w18 t19 => ?_)
          refine GE.iload_n 1 dX8_number_115 rfl rfl ?_
          exact GE.iret dX8_number_116 rfl (Nat.le_refl _) (Nat.le_refl _)
    · refine GE.icmp_ge (tgt := 85) dX8_number_22 (by decide) ?_ ?_
      · exact GE.sub [0, 2] rfl (hj10 t7)
      · refine GE.aload_n 0 dX8_number_25 rfl rfl ?_
        refine GE.gI dX8_number_26 lF_X8_22 (fun x20 => ?_)
        refine GE.aload_n 0 dX8_number_29 rfl rfl ?_
        refine GE.gI dX8_number_30 lF_X8_15 (fun x21 => ?_)
        refine GE.icmp_ge (tgt := 85) dX8_number_33 (by decide) ?_ ?_
        · exact GE.sub [0, 2] rfl (hj10 t7)
        · refine GE.aload_n 0 dX8_number_36 rfl rfl ?_
          refine GE.gR dX8_number_37 lF_X8_11 (fun a22 => ?_)
          refine GE.aload_n 0 dX8_number_40 rfl rfl ?_
          refine GE.gI dX8_number_41 lF_X8_22 (fun x23 => ?_)
          refine GE.iald dX8_number_44 (fun x24 => ?_)
          refine GE.callsI [.int x24] dX8_number_45 (lT_X8_35) rfl ⟨rfl, rfl⟩ (rokb rfl) (gX8_isDigit t7 x24) (fun x25 t26 => ?_)
          refine GE.if_eq (tgt := 85) dX8_number_48 (by decide) ?_ ?_
          · exact GE.sub [0, 2] rfl (hj10 t26)
          · refine GE.iload_n 2 dX8_number_51 rfl rfl ?_
            refine GE.bipush dX8_number_52 kB_10 ?_
            refine GE.imul dX8_number_54 ?_
            refine GE.aload_n 0 dX8_number_55 rfl rfl ?_
            refine GE.gR dX8_number_56 lF_X8_11 (fun a27 => ?_)
            refine GE.aload_n 0 dX8_number_59 rfl rfl ?_
            refine GE.gI dX8_number_60 lF_X8_22 (fun x28 => ?_)
            refine GE.iald dX8_number_63 (fun x29 => ?_)
            refine GE.iadd dX8_number_64 ?_
            refine GE.bipush dX8_number_65 kB_48 ?_
            refine GE.isub dX8_number_67 ?_
            refine GE.nami (fun x30 => ?_)
            refine GE.istore_n (lv' := [(0, .ref a0), (1, .int px1), (2, .int x30), (3, .int x6)]) dX8_number_68 rfl (by decide) [1, 2, 0, 3] rfl ?_
            refine GE.aload_n 0 dX8_number_69 rfl rfl ?_
            refine GE.dup dX8_number_70 rfl ?_
            refine GE.gI dX8_number_71 lF_X8_22 (fun x31 => ?_)
            refine GE.iconst dX8_number_74 kI_1 ?_
            refine GE.iadd dX8_number_75 ?_
            refine GE.pI dX8_number_76 lF_X8_22 (fun t32 => ?_)
            refine GE.iinc (lv' := [(0, .ref a0), (1, .int px1), (2, .int x30), (3, .int (x6 + 1))]) 3 dX8_number_79 rfl kI_1 (by decide) [1, 2, 3, 0] rfl ?_
            refine GE.goto (tgt := 20) dX8_number_82 (by decide) ?_
            exact hl8 x30 (x6 + 1) t32
  · refine GE.aload_n 0 dX8_number_10 rfl rfl ?_
    refine GE.callvU [] dX8_number_11 (lV_X8_32) rfl ⟨rfl, rfl⟩ (rokb rfl) (gX8_fail t4 a0) (fun w33 t34 => ?_)
    refine GE.iconst dX8_number_14 kI_0 ?_
    exact GE.iret dX8_number_15 rfl (Nat.le_refl _) (Nat.le_refl _)
def fX8_bounded (σ : St) (a0 : Nat) (px1 : Int32) (px2 : Int32) : Option (Int32 × St) :=
  bo 8 σ a0 (fX8_number σ a0 2) (fun x1 t2 =>
  (gI 8 2 t2 a0).bind fun x3 =>
  if x3 = (-1) then
    jo1 (fun (u3 : Unit) =>
      (gI 8 3 t2 a0).bind fun x5 =>
      (pV 8 2 t2 a0 (.int (x5 - 1))).bind (fun t6 =>
      some (x1, t6))) (fun j4 =>
      if x1 < px1 then
        j4 () 
      else
        if x1 ≤ px2 then
          some (x1, t2)
        else
          j4 () )
  else
    some (x1, t2))
set_option maxHeartbeats 4000000 in
set_option maxRecDepth 100000 in
theorem gX8_bounded (σ : St) (a0 : Nat) (px1 : Int32) (px2 : Int32) : CE vI mX8_bounded [.ref a0, .int px1, .int px2] σ (fX8_bounded σ a0 px1 px2) := by
  refine CE.ofGEF (lv := [(0, .ref a0), (1, .int px1), (2, .int px2)]) (by decide +kernel) (Nat.le_of_ble_eq_true rfl) rfl ?_
  unfold fX8_bounded
  refine GE.aload_n 0 dX8_bounded_0 rfl rfl ?_
  refine GE.iconst dX8_bounded_1 kI_2 ?_
  refine GE.callvI [.int 2] dX8_bounded_2 (lV_X8_39) rfl ⟨rfl, rfl⟩ (rokb rfl) (gX8_number σ a0 2) (fun x1 t2 => ?_)
  refine GE.istore_n (lv' := [(0, .ref a0), (1, .int px1), (2, .int px2), (3, .int x1)]) dX8_bounded_5 rfl (by decide) [1, 2, 3, 0] rfl ?_
  refine GE.aload_n 0 dX8_bounded_6 rfl rfl ?_
  refine GE.gI dX8_bounded_7 lF_X8_19 (fun x3 => ?_)
  refine GE.iconst dX8_bounded_10 kI_m1 ?_
  refine GE.icmp_ne (tgt := 34) dX8_bounded_11 (by decide) ?_ ?_
  · refine GE.iload_n 3 dX8_bounded_34 rfl rfl ?_
    exact GE.iret dX8_bounded_35 rfl (Nat.le_refl _) (Nat.le_refl _)
  · refine GE.iload_n 3 dX8_bounded_14 rfl rfl ?_
    refine GE.iload_n 1 dX8_bounded_15 rfl rfl ?_
    refine GE.jo1 24 (fun (u3 : Unit) => [(0, .ref a0), (3, .int x1)]) (fun (u3 : Unit) => []) (fun (u3 : Unit) => t2) (fun u3 => ?_) (fun j4 hj4 => ?_)
    · refine GE.aload_n 0 dX8_bounded_24 rfl rfl ?_
      refine GE.aload_n 0 dX8_bounded_25 rfl rfl ?_
      refine GE.gI dX8_bounded_26 lF_X8_22 (fun x5 => ?_)
      refine GE.iconst dX8_bounded_29 kI_1 ?_
      refine GE.isub dX8_bounded_30 ?_
      refine GE.pI dX8_bounded_31 lF_X8_19 (fun t6 => ?_)
      refine GE.iload_n 1 dX8_bounded_34 rfl rfl ?_
      exact GE.iret dX8_bounded_35 rfl (Nat.le_refl _) (Nat.le_refl _)
    · refine GE.icmp_lt (tgt := 24) dX8_bounded_16 (by decide) ?_ ?_
      · exact GE.sub [0, 3] rfl (hj4 () )
      · refine GE.iload_n 3 dX8_bounded_19 rfl rfl ?_
        refine GE.iload_n 2 dX8_bounded_20 rfl rfl ?_
        refine GE.icmp_le (tgt := 34) dX8_bounded_21 (by decide) ?_ ?_
        · refine GE.iload_n 3 dX8_bounded_34 rfl rfl ?_
          exact GE.iret dX8_bounded_35 rfl (Nat.le_refl _) (Nat.le_refl _)
        · exact GE.sub [0, 3] rfl (hj4 () )
def fX8_step (σ : St) (a0 : Nat) : Option (Unit × St) :=
  (gI 8 3 σ a0).bind fun x1 =>
  (gI 8 1 σ a0).bind fun x2 =>
  if x2 ≤ x1 then
    some ((), σ)
  else
    (gI 8 3 σ a0).bind fun x3 =>
    (pV 8 3 σ a0 (.int (x3 + 1))).bind (fun t4 =>
    some ((), t4))
set_option maxHeartbeats 4000000 in
set_option maxRecDepth 100000 in
theorem gX8_step (σ : St) (a0 : Nat) : CE vU mX8_step [.ref a0] σ (fX8_step σ a0) := by
  refine CE.ofGEF (lv := [(0, .ref a0)]) (by decide +kernel) (Nat.le_of_ble_eq_true rfl) rfl ?_
  unfold fX8_step
  refine GE.aload_n 0 dX8_step_0 rfl rfl ?_
  refine GE.gI dX8_step_1 lF_X8_22 (fun x1 => ?_)
  refine GE.aload_n 0 dX8_step_4 rfl rfl ?_
  refine GE.gI dX8_step_5 lF_X8_15 (fun x2 => ?_)
  refine GE.icmp_ge (tgt := 21) dX8_step_8 (by decide) ?_ ?_
  · exact GE.vret (x := ()) dX8_step_21 rfl (Nat.le_refl _) (Nat.le_refl _)
  · refine GE.aload_n 0 dX8_step_11 rfl rfl ?_
    refine GE.dup dX8_step_12 rfl ?_
    refine GE.gI dX8_step_13 lF_X8_22 (fun x3 => ?_)
    refine GE.iconst dX8_step_16 kI_1 ?_
    refine GE.iadd dX8_step_17 ?_
    refine GE.pI dX8_step_18 lF_X8_22 (fun t4 => ?_)
    exact GE.vret (x := ()) dX8_step_21 rfl (Nat.le_refl _) (Nat.le_refl _)
def fX2_items (σ : St) (a0 : Nat) (pa1 : Nat) (pa2 : Nat) (pa3 : Nat) (pa4 : Nat) (px5 : Int32) : Option (Unit × St) :=
  lo3 (fun l4 (x1 : Int32) (x2 : Int32) (t3 : St) =>
    if 4 < x2 then
    some ((), t3)
  else
    (gR 2 0 t3 a0).bind fun a5 =>
    bo 8 t3 a5 (fX8_peek t3 a5) (fun x6 t7 =>
    if x6 = (-1) then
      some ((), t7)
    else
      (gR 2 0 t7 a0).bind fun a8 =>
      bo 8 t7 a8 (fX8_peek t7 a8) (fun x9 t10 =>
      if x9 = 59 then
        some ((), t10)
      else
        (gR 2 0 t10 a0).bind fun a11 =>
        bo 8 t10 a11 (fX8_peek t10 a11) (fun x12 t13 =>
        bd (fX2_placeOf t13 x12 pa1) (fun x14 t15 =>
        jo2 (fun (x16 : Int32) (t17 : St) =>
          l4 x16 (x2 + 1) t17) (fun j18 =>
          jo1 (fun (u18 : Unit) =>
            (gR 2 0 t15 a0).bind fun a20 =>
            bo 8 t15 a20 (fX8_fail t15 a20) (fun w21 t22 =>
            j18 x1 t22)) (fun j19 =>
            if x14 = (-1) then
              j19 () 
            else
              if (x1 >>> (x14 &&& 31)) &&& 1 = 1 then
                j19 () 
              else
                nam (x1 ||| (1 <<< (x14 &&& 31)) : Int32) (fun x23 =>
                (gR 2 0 t15 a0).bind fun a24 =>
                bo 8 t15 a24 (fX8_step t15 a24) (fun w25 t26 =>
                (gR 2 0 t26 a0).bind fun a27 =>
                (aI 0 t26 pa2 x14).bind fun x28 =>
                (aI 0 t26 pa3 x14).bind fun x29 =>
                bo 8 t26 a27 (fX8_bounded t26 a27 x28 x29) (fun x30 t31 =>
                (sI 0 t31 pa4 (px5 + x14) x30).bind (fun t32 =>
                j18 x23 t32))))))))))) FU 0 0 σ
set_option maxHeartbeats 4000000 in
set_option maxRecDepth 100000 in
theorem gX2_items (σ : St) (a0 : Nat) (pa1 : Nat) (pa2 : Nat) (pa3 : Nat) (pa4 : Nat) (px5 : Int32) : CE vU mX2_items [.ref a0, .ref pa1, .ref pa2, .ref pa3, .ref pa4, .int px5] σ (fX2_items σ a0 pa1 pa2 pa3 pa4 px5) := by
  refine CE.ofGEF (lv := [(0, .ref a0), (1, .ref pa1), (2, .ref pa2), (3, .ref pa3), (4, .ref pa4), (5, .int px5)]) (by decide +kernel) (Nat.le_of_ble_eq_true rfl) rfl ?_
  unfold fX2_items
  refine GE.iconst dX2_items_0 kI_0 ?_
  refine GE.istore (lv' := [(0, .ref a0), (1, .ref pa1), (2, .ref pa2), (3, .ref pa3), (4, .ref pa4), (5, .int px5), (6, .int 0)]) dX2_items_1 (by decide) [1, 2, 3, 4, 5, 6, 0] rfl ?_
  refine GE.iconst dX2_items_3 kI_0 ?_
  refine GE.istore (lv' := [(0, .ref a0), (1, .ref pa1), (2, .ref pa2), (3, .ref pa3), (4, .ref pa4), (5, .int px5), (6, .int 0), (7, .int 0)]) dX2_items_4 (by decide) [1, 2, 3, 4, 5, 6, 7, 0] rfl ?_
  refine (GE.lo3 (fun (x1 : Int32) (x2 : Int32) (t3 : St) => [(0, .ref a0), (1, .ref pa1), (2, .ref pa2), (3, .ref pa3), (4, .ref pa4), (5, .int px5), (6, .int x1), (7, .int x2)]) (fun (x1 : Int32) (x2 : Int32) (t3 : St) => []) (fun (x1 : Int32) (x2 : Int32) (t3 : St) => t3) (fun l4 hl4 x1 x2 t3 => ?_) FU 0 0 σ)
  refine GE.iload 7 dX2_items_6 rfl ?_
  refine GE.iconst dX2_items_8 kI_4 ?_
  refine GE.icmp_gt (tgt := 120) dX2_items_9 (by decide) ?_ ?_
  · exact GE.vret (x := ()) dX2_items_120 rfl (Nat.le_refl _) (Nat.le_refl _)
  · refine GE.aload_n 0 dX2_items_12 rfl rfl ?_
    refine GE.gR dX2_items_13 lF_X2_37 (fun a5 => ?_)
    refine GE.callvI [] dX2_items_16 (lV_X2_47) rfl ⟨rfl, rfl⟩ (rokb rfl) (gX8_peek t3 a5) (fun x6 t7 => ?_)
    refine GE.iconst dX2_items_19 kI_m1 ?_
    refine GE.icmp_eq (tgt := 120) dX2_items_20 (by decide) ?_ ?_
    · exact GE.vret (x := ()) dX2_items_120 rfl (Nat.le_refl _) (Nat.le_refl _)
    · refine GE.aload_n 0 dX2_items_23 rfl rfl ?_
      refine GE.gR dX2_items_24 lF_X2_37 (fun a8 => ?_)
      refine GE.callvI [] dX2_items_27 (lV_X2_47) rfl ⟨rfl, rfl⟩ (rokb rfl) (gX8_peek t7 a8) (fun x9 t10 => ?_)
      refine GE.bipush dX2_items_30 kB_59 ?_
      refine GE.icmp_eq (tgt := 120) dX2_items_32 (by decide) ?_ ?_
      · exact GE.vret (x := ()) dX2_items_120 rfl (Nat.le_refl _) (Nat.le_refl _)
      · refine GE.aload_n 0 dX2_items_35 rfl rfl ?_
        refine GE.gR dX2_items_36 lF_X2_37 (fun a11 => ?_)
        refine GE.callvI [] dX2_items_39 (lV_X2_47) rfl ⟨rfl, rfl⟩ (rokb rfl) (gX8_peek t10 a11) (fun x12 t13 => ?_)
        refine GE.aload_n 1 dX2_items_42 rfl rfl ?_
        refine GE.callsI [.int x12, .ref pa1] dX2_items_43 (lT_X2_126) rfl ⟨rfl, rfl⟩ (rokb rfl) (gX2_placeOf t13 x12 pa1) (fun x14 t15 => ?_)
        refine GE.istore (lv' := [(0, .ref a0), (1, .ref pa1), (2, .ref pa2), (3, .ref pa3), (4, .ref pa4), (5, .int px5), (6, .int x1), (7, .int x2), (8, .int x14)]) dX2_items_46 (by decide) [1, 2, 3, 4, 5, 6, 7, 8, 0] rfl ?_
        refine GE.iload 8 dX2_items_48 rfl ?_
        refine GE.iconst dX2_items_50 kI_m1 ?_
        refine GE.jo2 114 (fun (x16 : Int32) (t17 : St) => [(0, .ref a0), (1, .ref pa1), (2, .ref pa2), (3, .ref pa3), (4, .ref pa4), (5, .int px5), (6, .int x16), (7, .int x2)]) (fun (x16 : Int32) (t17 : St) => []) (fun (x16 : Int32) (t17 : St) => t17) (fun x16 t17 => ?_) (fun j18 hj18 => ?_)
        · refine GE.iinc (lv' := [(0, .ref a0), (1, .ref pa1), (2, .ref pa2), (3, .ref pa3), (4, .ref pa4), (5, .int px5), (6, .int x16), (7, .int (x2 + 1))]) 7 dX2_items_114 rfl kI_1 (by decide) [1, 2, 3, 4, 5, 6, 7, 0] rfl ?_
          refine GE.goto (tgt := 6) dX2_items_117 (by decide) ?_
          exact hl4 x16 (x2 + 1) t17
        · refine GE.jo1 65 (fun (u18 : Unit) => [(0, .ref a0), (1, .ref pa1), (2, .ref pa2), (3, .ref pa3), (4, .ref pa4), (5, .int px5), (6, .int x1), (7, .int x2)]) (fun (u18 : Unit) => []) (fun (u18 : Unit) => t15) (fun u18 => ?_) (fun j19 hj19 => ?_)
          · refine GE.aload_n 0 dX2_items_65 rfl rfl ?_
            refine GE.gR dX2_items_66 lF_X2_37 (fun a20 => ?_)
            refine GE.callvU [] dX2_items_69 (lV_X2_56) rfl ⟨rfl, rfl⟩ (rokb rfl) (gX8_fail t15 a20) (fun w21 t22 => ?_)
            refine GE.goto (tgt := 114) dX2_items_72 (by decide) ?_
            exact hj18 x1 t22
          · refine GE.icmp_eq (tgt := 65) dX2_items_51 (by decide) ?_ ?_
            · exact GE.sub [0, 1, 2, 3, 4, 5, 6, 7] rfl (hj19 () )
            · refine GE.iload 6 dX2_items_54 rfl ?_
              refine GE.iload 8 dX2_items_56 rfl ?_
              refine GE.ishr dX2_items_58 ?_
              refine GE.iconst dX2_items_59 kI_1 ?_
              refine GE.iand dX2_items_60 ?_
              refine GE.iconst dX2_items_61 kI_1 ?_
              refine GE.icmp_ne (tgt := 75) dX2_items_62 (by decide) ?_ ?_
              · refine GE.iload 6 dX2_items_75 rfl ?_
                refine GE.iconst dX2_items_77 kI_1 ?_
                refine GE.iload 8 dX2_items_78 rfl ?_
                refine GE.ishl dX2_items_80 ?_
                refine GE.ior dX2_items_81 ?_
                refine GE.nami (fun x23 => ?_)
                refine GE.istore (lv' := [(0, .ref a0), (1, .ref pa1), (2, .ref pa2), (3, .ref pa3), (4, .ref pa4), (5, .int px5), (6, .int x23), (7, .int x2), (8, .int x14)]) dX2_items_82 (by decide) [1, 2, 3, 4, 5, 6, 0, 7, 8] rfl ?_
                refine GE.aload_n 0 dX2_items_84 rfl rfl ?_
                refine GE.gR dX2_items_85 lF_X2_37 (fun a24 => ?_)
                refine GE.callvU [] dX2_items_88 (lV_X2_53) rfl ⟨rfl, rfl⟩ (rokb rfl) (gX8_step t15 a24) (fun w25 t26 => ?_)
                refine GE.aload 4 dX2_items_91 rfl ?_
                refine GE.iload 5 dX2_items_93 rfl ?_
                refine GE.iload 8 dX2_items_95 rfl ?_
                refine GE.iadd dX2_items_97 ?_
                refine GE.aload_n 0 dX2_items_98 rfl rfl ?_
                refine GE.gR dX2_items_99 lF_X2_37 (fun a27 => ?_)
                refine GE.aload_n 2 dX2_items_102 rfl rfl ?_
                refine GE.iload 8 dX2_items_103 rfl ?_
                refine GE.iald dX2_items_105 (fun x28 => ?_)
                refine GE.aload_n 3 dX2_items_106 rfl rfl ?_
                refine GE.iload 8 dX2_items_107 rfl ?_
                refine GE.iald dX2_items_109 (fun x29 => ?_)
                refine GE.callvI [.int x28, .int x29] dX2_items_110 (lV_X2_130) rfl ⟨rfl, rfl⟩ (rokb rfl) (gX8_bounded t26 a27 x28 x29) (fun x30 t31 => ?_)
                refine GE.iast dX2_items_113 (fun t32 => ?_)
                exact GE.sub [0, 1, 2, 3, 4, 5, 6, 7] rfl (hj18 x23 t32)
              · exact GE.sub [0, 1, 2, 3, 4, 5, 6, 7] rfl (hj19 () )
def fX2_row (σ : St) (a0 : Nat) : Option (Unit × St) :=
  lo3 (fun l4 (x1 : Int32) (x2 : Int32) (t3 : St) =>
    jo1 (fun (t5 : St) =>
    (gI 2 7 t5 a0).bind fun x7 =>
    bd (fJ9_max_7cf53 t5 x7 x1) (fun x8 t9 =>
    (pV 2 7 t9 a0 (.int x8)).bind (fun t10 =>
    some ((), t10)))) (fun j6 =>
    if 6 < x2 then
      j6 t3
    else
      (gR 2 0 t3 a0).bind fun a11 =>
      bo 8 t3 a11 (fX8_peek t3 a11) (fun x12 t13 =>
      bd (fX8_isDigit t13 x12) (fun x14 t15 =>
      if x14 = 0 then
        j6 t15
      else
        jo2 (fun (x16 : Int32) (t17 : St) =>
          l4 x16 (x2 + 1) t17) (fun j18 =>
          if 6 ≤ x1 then
            (gR 2 0 t15 a0).bind fun a19 =>
            bo 8 t15 a19 (fX8_fail t15 a19) (fun w20 t21 =>
            j18 x1 t21)
          else
            (gR 2 3 t15 a0).bind fun a22 =>
            (gI 2 6 t15 a0).bind fun x23 =>
            (gR 2 0 t15 a0).bind fun a24 =>
            bo 8 t15 a24 (fX8_peek t15 a24) (fun x25 t26 =>
            (sI 0 t26 a22 ((x23 * 6) + x1) (x25 - 48)).bind (fun t27 =>
            (gR 2 0 t27 a0).bind fun a28 =>
            bo 8 t27 a28 (fX8_step t27 a28) (fun w29 t30 =>
            j18 (x1 + 1) t30)))))))) FU 0 0 σ
set_option maxHeartbeats 4000000 in
set_option maxRecDepth 100000 in
theorem gX2_row (σ : St) (a0 : Nat) : CE vU mX2_row [.ref a0] σ (fX2_row σ a0) := by
  refine CE.ofGEF (lv := [(0, .ref a0)]) (by decide +kernel) (Nat.le_of_ble_eq_true rfl) rfl ?_
  unfold fX2_row
  refine GE.iconst dX2_row_0 kI_0 ?_
  refine GE.istore_n (lv' := [(0, .ref a0), (1, .int 0)]) dX2_row_1 rfl (by decide) [1, 0] rfl ?_
  refine GE.iconst dX2_row_2 kI_0 ?_
  refine GE.istore_n (lv' := [(0, .ref a0), (1, .int 0), (2, .int 0)]) dX2_row_3 rfl (by decide) [1, 2, 0] rfl ?_
  refine (GE.lo3 (fun (x1 : Int32) (x2 : Int32) (t3 : St) => [(0, .ref a0), (1, .int x1), (2, .int x2)]) (fun (x1 : Int32) (x2 : Int32) (t3 : St) => []) (fun (x1 : Int32) (x2 : Int32) (t3 : St) => t3) (fun l4 hl4 x1 x2 t3 => ?_) FU 0 0 σ)
  refine GE.iload_n 2 dX2_row_4 rfl rfl ?_
  refine GE.bipush dX2_row_5 kB_6 ?_
  refine GE.jo1 79 (fun (t5 : St) => [(0, .ref a0), (1, .int x1)]) (fun (t5 : St) => []) (fun (t5 : St) => t5) (fun t5 => ?_) (fun j6 hj6 => ?_)
  · refine GE.aload_n 0 dX2_row_79 rfl rfl ?_
    refine GE.aload_n 0 dX2_row_80 rfl rfl ?_
    refine GE.gI dX2_row_81 lF_X2_34 (fun x7 => ?_)
    refine GE.iload_n 1 dX2_row_84 rfl rfl ?_
    refine GE.callsI [.int x7, .int x1] dX2_row_85 (lT_X2_120) rfl ⟨rfl, rfl⟩ (rokb rfl) (gJ9_max_7cf53 t5 x7 x1) (fun x8 t9 => ?_)
    refine GE.pI dX2_row_88 lF_X2_34 (fun t10 => ?_)
    exact GE.vret (x := ()) dX2_row_91 rfl (Nat.le_refl _) (Nat.le_refl _)
  · refine GE.icmp_gt (tgt := 79) dX2_row_7 (by decide) ?_ ?_
    · exact GE.sub [0, 1] rfl (hj6 t3)
    · refine GE.aload_n 0 dX2_row_10 rfl rfl ?_
      refine GE.gR dX2_row_11 lF_X2_37 (fun a11 => ?_)
      refine GE.callvI [] dX2_row_14 (lV_X2_47) rfl ⟨rfl, rfl⟩ (rokb rfl) (gX8_peek t3 a11) (fun x12 t13 => ?_)
      refine GE.callsI [.int x12] dX2_row_17 (lT_X2_116) rfl ⟨rfl, rfl⟩ (rokb rfl) (gX8_isDigit t13 x12) (fun x14 t15 => ?_)
      refine GE.if_eq (tgt := 79) dX2_row_20 (by decide) ?_ ?_
      · exact GE.sub [0, 1] rfl (hj6 t15)
      · refine GE.iload_n 1 dX2_row_23 rfl rfl ?_
        refine GE.bipush dX2_row_24 kB_6 ?_
        refine GE.jo2 73 (fun (x16 : Int32) (t17 : St) => [(0, .ref a0), (1, .int x16), (2, .int x2)]) (fun (x16 : Int32) (t17 : St) => []) (fun (x16 : Int32) (t17 : St) => t17) (fun x16 t17 => ?_) (fun j18 hj18 => ?_)
        · refine GE.iinc (lv' := [(0, .ref a0), (1, .int x16), (2, .int (x2 + 1))]) 2 dX2_row_73 rfl kI_1 (by decide) [1, 2, 0] rfl ?_
          refine GE.goto (tgt := 4) dX2_row_76 (by decide) ?_
          exact hl4 x16 (x2 + 1) t17
        · refine GE.icmp_ge (tgt := 66) dX2_row_26 (by decide) ?_ ?_
          · refine GE.aload_n 0 dX2_row_66 rfl rfl ?_
            refine GE.gR dX2_row_67 lF_X2_37 (fun a19 => ?_)
            refine GE.callvU [] dX2_row_70 (lV_X2_56) rfl ⟨rfl, rfl⟩ (rokb rfl) (gX8_fail t15 a19) (fun w20 t21 => ?_)
            exact hj18 x1 t21
          · refine GE.aload_n 0 dX2_row_29 rfl rfl ?_
            refine GE.gR dX2_row_30 lF_X2_20 (fun a22 => ?_)
            refine GE.aload_n 0 dX2_row_33 rfl rfl ?_
            refine GE.gI dX2_row_34 lF_X2_31 (fun x23 => ?_)
            refine GE.bipush dX2_row_37 kB_6 ?_
            refine GE.imul dX2_row_39 ?_
            refine GE.iload_n 1 dX2_row_40 rfl rfl ?_
            refine GE.iadd dX2_row_41 ?_
            refine GE.aload_n 0 dX2_row_42 rfl rfl ?_
            refine GE.gR dX2_row_43 lF_X2_37 (fun a24 => ?_)
            refine GE.callvI [] dX2_row_46 (lV_X2_47) rfl ⟨rfl, rfl⟩ (rokb rfl) (gX8_peek t15 a24) (fun x25 t26 => ?_)
            refine GE.bipush dX2_row_49 kB_48 ?_
            refine GE.isub dX2_row_51 ?_
            refine GE.iast dX2_row_52 (fun t27 => ?_)
            refine GE.iinc (lv' := [(0, .ref a0), (1, .int (x1 + 1)), (2, .int x2)]) 1 dX2_row_53 rfl kI_1 (by decide) [1, 0, 2] rfl ?_
            refine GE.aload_n 0 dX2_row_56 rfl rfl ?_
            refine GE.gR dX2_row_57 lF_X2_37 (fun a28 => ?_)
            refine GE.callvU [] dX2_row_60 (lV_X2_53) rfl ⟨rfl, rfl⟩ (rokb rfl) (gX8_step t27 a28) (fun w29 t30 => ?_)
            refine GE.goto (tgt := 73) dX2_row_63 (by decide) ?_
            exact hj18 (x1 + 1) t30
def fX2_clause (σ : St) (a0 : Nat) : Option (Unit × St) :=
  (gR 2 0 σ a0).bind fun a1 =>
  bo 8 σ a1 (fX8_peek σ a1) (fun x2 t3 =>
  jo1 (fun (u3 : Unit) =>
    jo1 (fun (u4 : Unit) =>
      jo1 (fun (u5 : Unit) =>
        (gR 2 0 t3 a0).bind fun a7 =>
        bo 8 t3 a7 (fX8_fail t3 a7) (fun w8 t9 =>
        some ((), t9))) (fun j6 =>
        if x2 = 114 then
          (gI 2 6 t3 a0).bind fun x10 =>
          if 5 ≤ x10 then
            j6 () 
          else
            (gR 2 0 t3 a0).bind fun a11 =>
            bo 8 t3 a11 (fX8_step t3 a11) (fun w12 t13 =>
            bo 2 t13 a0 (fX2_row t13 a0) (fun w14 t15 =>
            (gI 2 6 t15 a0).bind fun x16 =>
            (pV 2 6 t15 a0 (.int (x16 + 1))).bind (fun t17 =>
            some ((), t17))))
        else
          j6 () )) (fun j5 =>
      if x2 = 116 then
        (gI 2 5 t3 a0).bind fun x18 =>
        if 4 ≤ x18 then
          j5 () 
        else
          (gI 2 5 t3 a0).bind fun x19 =>
          nam (x19 * 4 : Int32) (fun x20 =>
          (gI 2 5 t3 a0).bind fun x21 =>
          (pV 2 5 t3 a0 (.int (x21 + 1))).bind (fun t22 =>
          (gR 2 0 t22 a0).bind fun a23 =>
          bo 8 t22 a23 (fX8_step t22 a23) (fun w24 t25 =>
          (gR 2 2 t25 a0).bind fun a26 =>
          (cpr t25 (t25.1.1 7) 0 a26 x20 4).bind (fun t27 =>
          (gR 2 2 t27 a0).bind fun a28 =>
          bo 2 t27 a0 (fX2_items t27 a0 (t27.1.1 4) (t27.1.1 5) (t27.1.1 6) a28 x20) (fun w29 t30 =>
          some ((), t30))))))
      else
        j5 () )) (fun j4 =>
    if x2 = 115 then
      (gI 2 4 t3 a0).bind fun x31 =>
      if x31 = 0 then
        if zB 1 = true then (pV 2 4 t3 a0 (.int 1)).bind (fun t32 =>
        (gR 2 0 t32 a0).bind fun a33 =>
        bo 8 t32 a33 (fX8_step t32 a33) (fun w34 t35 =>
        (gR 2 1 t35 a0).bind fun a36 =>
        bo 2 t35 a0 (fX2_items t35 a0 (t35.1.1 0) (t35.1.1 1) (t35.1.1 2) a36 0) (fun w37 t38 =>
        some ((), t38)))) else none
      else
        j4 () 
    else
      j4 () ))
set_option maxHeartbeats 4000000 in
set_option maxRecDepth 100000 in
theorem gX2_clause (σ : St) (a0 : Nat) : CE vU mX2_clause [.ref a0] σ (fX2_clause σ a0) := by
  refine CE.ofGEF (lv := [(0, .ref a0)]) (by decide +kernel) (Nat.le_of_ble_eq_true rfl) rfl ?_
  unfold fX2_clause
  refine GE.aload_n 0 dX2_clause_0 rfl rfl ?_
  refine GE.gR dX2_clause_1 lF_X2_37 (fun a1 => ?_)
  refine GE.callvI [] dX2_clause_4 (lV_X2_47) rfl ⟨rfl, rfl⟩ (rokb rfl) (gX8_peek σ a1) (fun x2 t3 => ?_)
  refine GE.istore_n (lv' := [(0, .ref a0), (1, .int x2)]) dX2_clause_7 rfl (by decide) [1, 0] rfl ?_
  refine GE.iload_n 1 dX2_clause_8 rfl rfl ?_
  refine GE.bipush dX2_clause_9 kB_115 ?_
  refine GE.jo1 54 (fun (u3 : Unit) => [(0, .ref a0), (1, .int x2)]) (fun (u3 : Unit) => []) (fun (u3 : Unit) => t3) (fun u3 => ?_) (fun j4 hj4 => ?_)
  · refine GE.iload_n 1 dX2_clause_54 rfl rfl ?_
    refine GE.bipush dX2_clause_55 kB_116 ?_
    refine GE.jo1 126 (fun (u4 : Unit) => [(0, .ref a0), (1, .int x2)]) (fun (u4 : Unit) => []) (fun (u4 : Unit) => t3) (fun u4 => ?_) (fun j5 hj5 => ?_)
    · refine GE.iload_n 1 dX2_clause_126 rfl rfl ?_
      refine GE.bipush dX2_clause_127 kB_114 ?_
      refine GE.jo1 164 (fun (u5 : Unit) => [(0, .ref a0)]) (fun (u5 : Unit) => []) (fun (u5 : Unit) => t3) (fun u5 => ?_) (fun j6 hj6 => ?_)
      · refine GE.aload_n 0 dX2_clause_164 rfl rfl ?_
        refine GE.gR dX2_clause_165 lF_X2_37 (fun a7 => ?_)
        refine GE.callvU [] dX2_clause_168 (lV_X2_56) rfl ⟨rfl, rfl⟩ (rokb rfl) (gX8_fail t3 a7) (fun w8 t9 => ?_)
        exact GE.vret (x := ()) dX2_clause_171 rfl (Nat.le_refl _) (Nat.le_refl _)
      · refine GE.icmp_ne (tgt := 164) dX2_clause_129 (by decide) ?_ ?_
        · exact GE.sub [0] rfl (hj6 () )
        · refine GE.aload_n 0 dX2_clause_132 rfl rfl ?_
          refine GE.gI dX2_clause_133 lF_X2_31 (fun x10 => ?_)
          refine GE.iconst dX2_clause_136 kI_5 ?_
          refine GE.icmp_ge (tgt := 164) dX2_clause_137 (by decide) ?_ ?_
          · exact GE.sub [0] rfl (hj6 () )
          · refine GE.aload_n 0 dX2_clause_140 rfl rfl ?_
            refine GE.gR dX2_clause_141 lF_X2_37 (fun a11 => ?_)
            refine GE.callvU [] dX2_clause_144 (lV_X2_53) rfl ⟨rfl, rfl⟩ (rokb rfl) (gX8_step t3 a11) (fun w12 t13 => ?_)
            refine GE.aload_n 0 dX2_clause_147 rfl rfl ?_
            refine GE.callvU [] dX2_clause_148 (lV_X2_113) rfl ⟨rfl, rfl⟩ (rokb rfl) (gX2_row t13 a0) (fun w14 t15 => ?_)
            refine GE.aload_n 0 dX2_clause_151 rfl rfl ?_
            refine GE.dup dX2_clause_152 rfl ?_
            refine GE.gI dX2_clause_153 lF_X2_31 (fun x16 => ?_)
            refine GE.iconst dX2_clause_156 kI_1 ?_
            refine GE.iadd dX2_clause_157 ?_
            refine GE.pI dX2_clause_158 lF_X2_31 (fun t17 => ?_)
            refine GE.goto (tgt := 171) dX2_clause_161 (by decide) ?_
            exact GE.vret (x := ()) dX2_clause_171 rfl (Nat.le_refl _) (Nat.le_refl _)
    · refine GE.icmp_ne (tgt := 126) dX2_clause_57 (by decide) ?_ ?_
      · exact hj5 () 
      · refine GE.aload_n 0 dX2_clause_60 rfl rfl ?_
        refine GE.gI dX2_clause_61 lF_X2_27 (fun x18 => ?_)
        refine GE.iconst dX2_clause_64 kI_4 ?_
        refine GE.icmp_ge (tgt := 126) dX2_clause_65 (by decide) ?_ ?_
        · exact hj5 () 
        · refine GE.aload_n 0 dX2_clause_68 rfl rfl ?_
          refine GE.gI dX2_clause_69 lF_X2_27 (fun x19 => ?_)
          refine GE.iconst dX2_clause_72 kI_4 ?_
          refine GE.imul dX2_clause_73 ?_
          refine GE.nami (fun x20 => ?_)
          refine GE.istore_n (lv' := [(0, .ref a0), (1, .int x2), (2, .int x20)]) dX2_clause_74 rfl (by decide) [1, 2, 0] rfl ?_
          refine GE.aload_n 0 dX2_clause_75 rfl rfl ?_
          refine GE.dup dX2_clause_76 rfl ?_
          refine GE.gI dX2_clause_77 lF_X2_27 (fun x21 => ?_)
          refine GE.iconst dX2_clause_80 kI_1 ?_
          refine GE.iadd dX2_clause_81 ?_
          refine GE.pI dX2_clause_82 lF_X2_27 (fun t22 => ?_)
          refine GE.aload_n 0 dX2_clause_85 rfl rfl ?_
          refine GE.gR dX2_clause_86 lF_X2_37 (fun a23 => ?_)
          refine GE.callvU [] dX2_clause_89 (lV_X2_53) rfl ⟨rfl, rfl⟩ (rokb rfl) (gX8_step t22 a23) (fun w24 t25 => ?_)
          refine GE.gst (j := 7) dX2_clause_92 rfl lS_X2_101 ?_
          refine GE.iconst dX2_clause_95 kI_0 ?_
          refine GE.aload_n 0 dX2_clause_96 rfl rfl ?_
          refine GE.gR dX2_clause_97 lF_X2_17 (fun a26 => ?_)
          refine GE.iload_n 2 dX2_clause_100 rfl rfl ?_
          refine GE.iconst dX2_clause_101 kI_4 ?_
          refine GE.cpr dX2_clause_102 lC_X2_81 (Nat.le_of_ble_eq_true rfl) (Nat.le_of_ble_eq_true rfl) (fun t27 => ?_)
          refine GE.aload_n 0 dX2_clause_105 rfl rfl ?_
          refine GE.gst (j := 4) dX2_clause_106 rfl lS_X2_104 ?_
          refine GE.gst (j := 5) dX2_clause_109 rfl lS_X2_107 ?_
          refine GE.gst (j := 6) dX2_clause_112 rfl lS_X2_110 ?_
          refine GE.aload_n 0 dX2_clause_115 rfl rfl ?_
          refine GE.gR dX2_clause_116 lF_X2_17 (fun a28 => ?_)
          refine GE.iload_n 2 dX2_clause_119 rfl rfl ?_
          refine GE.callvU [.ref (t27.1.1 4), .ref (t27.1.1 5), .ref (t27.1.1 6), .ref a28, .int x20] dX2_clause_120 (lV_X2_97) rfl ⟨rfl, rfl⟩ (rokb rfl) (gX2_items t27 a0 (t27.1.1 4) (t27.1.1 5) (t27.1.1 6) a28 x20) (fun w29 t30 => ?_)
          refine GE.goto (tgt := 171) dX2_clause_123 (by decide) ?_
          exact GE.vret (x := ()) dX2_clause_171 rfl (Nat.le_refl _) (Nat.le_refl _)
  · refine GE.icmp_ne (tgt := 54) dX2_clause_11 (by decide) ?_ ?_
    · exact hj4 () 
    · refine GE.aload_n 0 dX2_clause_14 rfl rfl ?_
      refine GE.gI dX2_clause_15 lF_X2_23 (fun x31 => ?_)
      refine GE.if_ne (tgt := 54) dX2_clause_18 (by decide) ?_ ?_
      · exact hj4 () 
      · refine GE.aload_n 0 dX2_clause_21 rfl rfl ?_
        refine GE.iconst dX2_clause_22 kI_1 ?_
        refine GE.pZ dX2_clause_23 lF_X2_23 (fun t32 => ?_)
        refine GE.aload_n 0 dX2_clause_26 rfl rfl ?_
        refine GE.gR dX2_clause_27 lF_X2_37 (fun a33 => ?_)
        refine GE.callvU [] dX2_clause_30 (lV_X2_53) rfl ⟨rfl, rfl⟩ (rokb rfl) (gX8_step t32 a33) (fun w34 t35 => ?_)
        refine GE.aload_n 0 dX2_clause_33 rfl rfl ?_
        refine GE.gst (j := 0) dX2_clause_34 rfl lS_X2_87 ?_
        refine GE.gst (j := 1) dX2_clause_37 rfl lS_X2_91 ?_
        refine GE.gst (j := 2) dX2_clause_40 rfl lS_X2_94 ?_
        refine GE.aload_n 0 dX2_clause_43 rfl rfl ?_
        refine GE.gR dX2_clause_44 lF_X2_11 (fun a36 => ?_)
        refine GE.iconst dX2_clause_47 kI_0 ?_
        refine GE.callvU [.ref (t35.1.1 0), .ref (t35.1.1 1), .ref (t35.1.1 2), .ref a36, .int 0] dX2_clause_48 (lV_X2_97) rfl ⟨rfl, rfl⟩ (rokb rfl) (gX2_items t35 a0 (t35.1.1 0) (t35.1.1 1) (t35.1.1 2) a36 0) (fun w37 t38 => ?_)
        refine GE.goto (tgt := 171) dX2_clause_51 (by decide) ?_
        exact GE.vret (x := ()) dX2_clause_171 rfl (Nat.le_refl _) (Nat.le_refl _)
def fX2_fitsTogether (σ : St) (a0 : Nat) : Option (Int32 × St) :=
  (gI 2 5 σ a0).bind fun x1 =>
  if x1 = 0 then
    some (0, σ)
  else
    (gI 2 6 σ a0).bind fun x2 =>
    (gR 2 1 σ a0).bind fun a3 =>
    (aI 0 σ a3 1).bind fun x4 =>
    if x4 < x2 then
      some (0, σ)
    else
      (gI 2 7 σ a0).bind fun x5 =>
      (gR 2 1 σ a0).bind fun a6 =>
      (aI 0 σ a6 0).bind fun x7 =>
      if x5 ≤ x7 then
        lo1 (fun l9 (x8 : Int32) =>
          (gI 2 5 σ a0).bind fun x10 =>
        if x10 ≤ x8 then
          some (1, σ)
        else
          (gR 2 2 σ a0).bind fun a11 =>
          (aI 0 σ a11 (x8 * 4)).bind fun x12 =>
          (gR 2 1 σ a0).bind fun a13 =>
          (aI 0 σ a13 0).bind fun x14 =>
          if x14 ≤ x12 then
            some (0, σ)
          else
            (gR 2 2 σ a0).bind fun a15 =>
            (aI 0 σ a15 ((x8 * 4) + 1)).bind fun x16 =>
            (gR 2 1 σ a0).bind fun a17 =>
            (aI 0 σ a17 1).bind fun x18 =>
            if x16 < x18 then
              l9 (x8 + 1)
            else
              some (0, σ)) FU 0
      else
        some (0, σ)
set_option maxHeartbeats 4000000 in
set_option maxRecDepth 100000 in
theorem gX2_fitsTogether (σ : St) (a0 : Nat) : CE vI mX2_fitsTogether [.ref a0] σ (fX2_fitsTogether σ a0) := by
  refine CE.ofGEF (lv := [(0, .ref a0)]) (by decide +kernel) (Nat.le_of_ble_eq_true rfl) rfl ?_
  unfold fX2_fitsTogether
  refine GE.aload_n 0 dX2_fitsTogether_0 rfl rfl ?_
  refine GE.gI dX2_fitsTogether_1 lF_X2_27 (fun x1 => ?_)
  refine GE.if_eq (tgt := 33) dX2_fitsTogether_4 (by decide) ?_ ?_
  · refine GE.iconst dX2_fitsTogether_33 kI_0 ?_
    exact GE.zretk dX2_fitsTogether_34 rfl (Nat.le_refl _) (Nat.le_refl _) (by decide)
  · refine GE.aload_n 0 dX2_fitsTogether_7 rfl rfl ?_
    refine GE.gI dX2_fitsTogether_8 lF_X2_31 (fun x2 => ?_)
    refine GE.aload_n 0 dX2_fitsTogether_11 rfl rfl ?_
    refine GE.gR dX2_fitsTogether_12 lF_X2_11 (fun a3 => ?_)
    refine GE.iconst dX2_fitsTogether_15 kI_1 ?_
    refine GE.iald dX2_fitsTogether_16 (fun x4 => ?_)
    refine GE.icmp_gt (tgt := 33) dX2_fitsTogether_17 (by decide) ?_ ?_
    · refine GE.iconst dX2_fitsTogether_33 kI_0 ?_
      exact GE.zretk dX2_fitsTogether_34 rfl (Nat.le_refl _) (Nat.le_refl _) (by decide)
    · refine GE.aload_n 0 dX2_fitsTogether_20 rfl rfl ?_
      refine GE.gI dX2_fitsTogether_21 lF_X2_34 (fun x5 => ?_)
      refine GE.aload_n 0 dX2_fitsTogether_24 rfl rfl ?_
      refine GE.gR dX2_fitsTogether_25 lF_X2_11 (fun a6 => ?_)
      refine GE.iconst dX2_fitsTogether_28 kI_0 ?_
      refine GE.iald dX2_fitsTogether_29 (fun x7 => ?_)
      refine GE.icmp_le (tgt := 35) dX2_fitsTogether_30 (by decide) ?_ ?_
      · refine GE.iconst dX2_fitsTogether_35 kI_0 ?_
        refine GE.istore_n (lv' := [(0, .ref a0), (1, .int 0)]) dX2_fitsTogether_36 rfl (by decide) [1, 0] rfl ?_
        refine (GE.lo1 (fun (x8 : Int32) => [(0, .ref a0), (1, .int x8)]) (fun (x8 : Int32) => []) (fun (x8 : Int32) => σ) (fun l9 hl9 x8 => ?_) FU 0)
        refine GE.iload_n 1 dX2_fitsTogether_37 rfl rfl ?_
        refine GE.aload_n 0 dX2_fitsTogether_38 rfl rfl ?_
        refine GE.gI dX2_fitsTogether_39 lF_X2_27 (fun x10 => ?_)
        refine GE.icmp_ge (tgt := 89) dX2_fitsTogether_42 (by decide) ?_ ?_
        · refine GE.iconst dX2_fitsTogether_89 kI_1 ?_
          exact GE.zretk dX2_fitsTogether_90 rfl (Nat.le_refl _) (Nat.le_refl _) (by decide)
        · refine GE.aload_n 0 dX2_fitsTogether_45 rfl rfl ?_
          refine GE.gR dX2_fitsTogether_46 lF_X2_17 (fun a11 => ?_)
          refine GE.iload_n 1 dX2_fitsTogether_49 rfl rfl ?_
          refine GE.iconst dX2_fitsTogether_50 kI_4 ?_
          refine GE.imul dX2_fitsTogether_51 ?_
          refine GE.iald dX2_fitsTogether_52 (fun x12 => ?_)
          refine GE.aload_n 0 dX2_fitsTogether_53 rfl rfl ?_
          refine GE.gR dX2_fitsTogether_54 lF_X2_11 (fun a13 => ?_)
          refine GE.iconst dX2_fitsTogether_57 kI_0 ?_
          refine GE.iald dX2_fitsTogether_58 (fun x14 => ?_)
          refine GE.icmp_ge (tgt := 81) dX2_fitsTogether_59 (by decide) ?_ ?_
          · refine GE.iconst dX2_fitsTogether_81 kI_0 ?_
            exact GE.zretk dX2_fitsTogether_82 rfl (Nat.le_refl _) (Nat.le_refl _) (by decide)
          · refine GE.aload_n 0 dX2_fitsTogether_62 rfl rfl ?_
            refine GE.gR dX2_fitsTogether_63 lF_X2_17 (fun a15 => ?_)
            refine GE.iload_n 1 dX2_fitsTogether_66 rfl rfl ?_
            refine GE.iconst dX2_fitsTogether_67 kI_4 ?_
            refine GE.imul dX2_fitsTogether_68 ?_
            refine GE.iconst dX2_fitsTogether_69 kI_1 ?_
            refine GE.iadd dX2_fitsTogether_70 ?_
            refine GE.iald dX2_fitsTogether_71 (fun x16 => ?_)
            refine GE.aload_n 0 dX2_fitsTogether_72 rfl rfl ?_
            refine GE.gR dX2_fitsTogether_73 lF_X2_11 (fun a17 => ?_)
            refine GE.iconst dX2_fitsTogether_76 kI_1 ?_
            refine GE.iald dX2_fitsTogether_77 (fun x18 => ?_)
            refine GE.icmp_lt (tgt := 83) dX2_fitsTogether_78 (by decide) ?_ ?_
            · refine GE.iinc (lv' := [(0, .ref a0), (1, .int (x8 + 1))]) 1 dX2_fitsTogether_83 rfl kI_1 (by decide) [1, 0] rfl ?_
              refine GE.goto (tgt := 37) dX2_fitsTogether_86 (by decide) ?_
              exact hl9 (x8 + 1)
            · refine GE.iconst dX2_fitsTogether_81 kI_0 ?_
              exact GE.zretk dX2_fitsTogether_82 rfl (Nat.le_refl _) (Nat.le_refl _) (by decide)
      · refine GE.iconst dX2_fitsTogether_33 kI_0 ?_
        exact GE.zretk dX2_fitsTogether_34 rfl (Nat.le_refl _) (Nat.le_refl _) (by decide)
def fX8_rewind (σ : St) (a0 : Nat) : Option (Unit × St) :=
  (pV 8 3 σ a0 (.int 0)).bind (fun t1 =>
  (pV 8 2 t1 a0 (.int ((-1)))).bind (fun t2 =>
  some ((), t2)))
set_option maxHeartbeats 4000000 in
set_option maxRecDepth 100000 in
theorem gX8_rewind (σ : St) (a0 : Nat) : CE vU mX8_rewind [.ref a0] σ (fX8_rewind σ a0) := by
  refine CE.ofGEF (lv := [(0, .ref a0)]) (by decide +kernel) (Nat.le_of_ble_eq_true rfl) rfl ?_
  unfold fX8_rewind
  refine GE.aload_n 0 dX8_rewind_0 rfl rfl ?_
  refine GE.iconst dX8_rewind_1 kI_0 ?_
  refine GE.pI dX8_rewind_2 lF_X8_22 (fun t1 => ?_)
  refine GE.aload_n 0 dX8_rewind_5 rfl rfl ?_
  refine GE.iconst dX8_rewind_6 kI_m1 ?_
  refine GE.pI dX8_rewind_7 lF_X8_19 (fun t2 => ?_)
  exact GE.vret (x := ()) dX8_rewind_10 rfl (Nat.le_refl _) (Nat.le_refl _)
def fX2_forget (σ : St) (a0 : Nat) : Option (Unit × St) :=
  (gR 2 0 σ a0).bind fun a1 =>
  bo 8 σ a1 (fX8_rewind σ a1) (fun w2 t3 =>
  if zB 0 = true then (pV 2 4 t3 a0 (.int 0)).bind (fun t4 =>
  (pV 2 5 t4 a0 (.int 0)).bind (fun t5 =>
  (pV 2 6 t5 a0 (.int 0)).bind (fun t6 =>
  (pV 2 7 t6 a0 (.int 0)).bind (fun t7 =>
  (gR 2 3 t7 a0).bind fun a8 =>
  bd (fJ7_fill_53178 t7 a8 0) (fun w9 t10 =>
  (gR 2 1 t10 a0).bind fun a11 =>
  (cpr t10 (t10.1.1 3) 0 a11 0 4).bind (fun t12 =>
  some ((), t12))))))) else none)
set_option maxHeartbeats 4000000 in
set_option maxRecDepth 100000 in
theorem gX2_forget (σ : St) (a0 : Nat) : CE vU mX2_forget [.ref a0] σ (fX2_forget σ a0) := by
  refine CE.ofGEF (lv := [(0, .ref a0)]) (by decide +kernel) (Nat.le_of_ble_eq_true rfl) rfl ?_
  unfold fX2_forget
  refine GE.aload_n 0 dX2_forget_0 rfl rfl ?_
  refine GE.gR dX2_forget_1 lF_X2_37 (fun a1 => ?_)
  refine GE.callvU [] dX2_forget_4 (lV_X2_69) rfl ⟨rfl, rfl⟩ (rokb rfl) (gX8_rewind σ a1) (fun w2 t3 => ?_)
  refine GE.aload_n 0 dX2_forget_7 rfl rfl ?_
  refine GE.iconst dX2_forget_8 kI_0 ?_
  refine GE.pZ dX2_forget_9 lF_X2_23 (fun t4 => ?_)
  refine GE.aload_n 0 dX2_forget_12 rfl rfl ?_
  refine GE.iconst dX2_forget_13 kI_0 ?_
  refine GE.pI dX2_forget_14 lF_X2_27 (fun t5 => ?_)
  refine GE.aload_n 0 dX2_forget_17 rfl rfl ?_
  refine GE.iconst dX2_forget_18 kI_0 ?_
  refine GE.pI dX2_forget_19 lF_X2_31 (fun t6 => ?_)
  refine GE.aload_n 0 dX2_forget_22 rfl rfl ?_
  refine GE.iconst dX2_forget_23 kI_0 ?_
  refine GE.pI dX2_forget_24 lF_X2_34 (fun t7 => ?_)
  refine GE.aload_n 0 dX2_forget_27 rfl rfl ?_
  refine GE.gR dX2_forget_28 lF_X2_20 (fun a8 => ?_)
  refine GE.iconst dX2_forget_31 kI_0 ?_
  refine GE.callsU [.ref a8, .int 0] dX2_forget_32 (lT_X2_72) rfl ⟨rfl, rfl⟩ (rokb rfl) (gJ7_fill_53178 t7 a8 0) (fun w9 t10 => ?_)
  refine GE.gst (j := 3) dX2_forget_35 rfl lS_X2_78 ?_
  refine GE.iconst dX2_forget_38 kI_0 ?_
  refine GE.aload_n 0 dX2_forget_39 rfl rfl ?_
  refine GE.gR dX2_forget_40 lF_X2_11 (fun a11 => ?_)
  refine GE.iconst dX2_forget_43 kI_0 ?_
  refine GE.iconst dX2_forget_44 kI_4 ?_
  refine GE.cpr dX2_forget_45 lC_X2_81 (Nat.le_of_ble_eq_true rfl) (Nat.le_of_ble_eq_true rfl) (fun t12 => ?_)
  exact GE.vret (x := ()) dX2_forget_48 rfl (Nat.le_refl _) (Nat.le_refl _)
def fX2_read (σ : St) (a0 : Nat) : Option (Int32 × St) :=
  bo 2 σ a0 (fX2_forget σ a0) (fun w1 t2 =>
  lo3 (fun l6 (x3 : Int32) (x4 : Int32) (t5 : St) =>
    jo1 (fun (u6 : Unit) =>
    (gR 2 0 t5 a0).bind fun a8 =>
    bo 8 t5 a8 (fX8_peek t5 a8) (fun x9 t10 =>
    jo1 (fun (t11 : St) =>
      (gR 2 0 t11 a0).bind fun a13 =>
      (gI 8 2 t11 a13).bind fun x14 =>
      jo1 (fun (t15 : St) =>
        (gR 2 0 t15 a0).bind fun a17 =>
        (gI 8 2 t15 a17).bind fun x18 =>
        some (x18, t15)) (fun j16 =>
        if x14 = (-1) then
          bo 2 t11 a0 (fX2_fitsTogether t11 a0) (fun x19 t20 =>
          if x19 = 0 then
            (gR 2 0 t20 a0).bind fun a21 =>
            (gI 8 1 t20 a21).bind fun x22 =>
            some (x22, t20)
          else
            j16 t20)
        else
          j16 t11)) (fun j12 =>
      if x9 = (-1) then
        j12 t10
      else
        (gR 2 0 t10 a0).bind fun a23 =>
        bo 8 t10 a23 (fX8_fail t10 a23) (fun w24 t25 =>
        j12 t25)))) (fun j7 =>
    if 11 ≤ x4 then
      j7 () 
    else
      if x3 = 0 then
        j7 () 
      else
        bo 2 t5 a0 (fX2_clause t5 a0) (fun w26 t27 =>
        (gR 2 0 t27 a0).bind fun a28 =>
        bo 8 t27 a28 (fX8_peek t27 a28) (fun x29 t30 =>
        jo1 (fun (v31 : Int32) =>
          jo1 (fun (t33 : St) =>
            l6 v31 (x4 + 1) t33) (fun j34 =>
            if v31 = 0 then
              j34 t30
            else
              (gR 2 0 t30 a0).bind fun a35 =>
              bo 8 t30 a35 (fX8_step t30 a35) (fun w36 t37 =>
              j34 t37))) (fun j32 =>
          if x29 = 59 then
            j32 1
          else
            j32 0))))) FU 1 0 t2)
set_option maxHeartbeats 4000000 in
set_option maxRecDepth 100000 in
theorem gX2_read (σ : St) (a0 : Nat) : CE vI mX2_read [.ref a0] σ (fX2_read σ a0) := by
  refine CE.ofGEF (lv := [(0, .ref a0)]) (by decide +kernel) (Nat.le_of_ble_eq_true rfl) rfl ?_
  unfold fX2_read
  refine GE.aload_n 0 dX2_read_0 rfl rfl ?_
  refine GE.callvU [] dX2_read_1 (lV_X2_41) rfl ⟨rfl, rfl⟩ (rokb rfl) (gX2_forget σ a0) (fun w1 t2 => ?_)
  refine GE.iconst dX2_read_4 kI_1 ?_
  refine GE.istore_n (lv' := [(0, .ref a0), (1, .int 1)]) dX2_read_5 rfl (by decide) [1, 0] rfl ?_
  refine GE.iconst dX2_read_6 kI_0 ?_
  refine GE.istore_n (lv' := [(0, .ref a0), (1, .int 1), (2, .int 0)]) dX2_read_7 rfl (by decide) [1, 2, 0] rfl ?_
  refine (GE.lo3 (fun (x3 : Int32) (x4 : Int32) (t5 : St) => [(0, .ref a0), (1, .int x3), (2, .int x4)]) (fun (x3 : Int32) (x4 : Int32) (t5 : St) => []) (fun (x3 : Int32) (x4 : Int32) (t5 : St) => t5) (fun l6 hl6 x3 x4 t5 => ?_) FU 1 0 t2)
  refine GE.iload_n 2 dX2_read_8 rfl rfl ?_
  refine GE.bipush dX2_read_9 kB_11 ?_
  refine GE.jo1 57 (fun (u6 : Unit) => [(0, .ref a0)]) (fun (u6 : Unit) => []) (fun (u6 : Unit) => t5) (fun u6 => ?_) (fun j7 hj7 => ?_)
  · refine GE.aload_n 0 dX2_read_57 rfl rfl ?_
    refine GE.gR dX2_read_58 lF_X2_37 (fun a8 => ?_)
    refine GE.callvI [] dX2_read_61 (lV_X2_47) rfl ⟨rfl, rfl⟩ (rokb rfl) (gX8_peek t5 a8) (fun x9 t10 => ?_)
    refine GE.iconst dX2_read_64 kI_m1 ?_
    refine GE.jo1 75 (fun (t11 : St) => [(0, .ref a0)]) (fun (t11 : St) => []) (fun (t11 : St) => t11) (fun t11 => ?_) (fun j12 hj12 => ?_)
    · refine GE.aload_n 0 dX2_read_75 rfl rfl ?_
      refine GE.gR dX2_read_76 lF_X2_37 (fun a13 => ?_)
      refine GE.gI dX2_read_79 lF_X2_59 (fun x14 => ?_)
      refine GE.iconst dX2_read_82 kI_m1 ?_
      refine GE.jo1 101 (fun (t15 : St) => [(0, .ref a0)]) (fun (t15 : St) => []) (fun (t15 : St) => t15) (fun t15 => ?_) (fun j16 hj16 => ?_)
      · refine GE.aload_n 0 dX2_read_101 rfl rfl ?_
        refine GE.gR dX2_read_102 lF_X2_37 (fun a17 => ?_)
        refine GE.gI dX2_read_105 lF_X2_59 (fun x18 => ?_)
        exact GE.iret dX2_read_108 rfl (Nat.le_refl _) (Nat.le_refl _)
      · refine GE.icmp_ne (tgt := 101) dX2_read_83 (by decide) ?_ ?_
        · exact hj16 t11
        · refine GE.aload_n 0 dX2_read_86 rfl rfl ?_
          refine GE.callvI [] dX2_read_87 (lV_X2_62) rfl ⟨rfl, rfl⟩ (rokb rfl) (gX2_fitsTogether t11 a0) (fun x19 t20 => ?_)
          refine GE.if_ne (tgt := 101) dX2_read_90 (by decide) ?_ ?_
          · exact hj16 t20
          · refine GE.aload_n 0 dX2_read_93 rfl rfl ?_
            refine GE.gR dX2_read_94 lF_X2_37 (fun a21 => ?_)
            refine GE.gI dX2_read_97 lF_X2_66 (fun x22 => ?_)
            exact GE.iret dX2_read_100 rfl (Nat.le_refl _) (Nat.le_refl _)
    · refine GE.icmp_eq (tgt := 75) dX2_read_65 (by decide) ?_ ?_
      · exact hj12 t10
      · refine GE.aload_n 0 dX2_read_68 rfl rfl ?_
        refine GE.gR dX2_read_69 lF_X2_37 (fun a23 => ?_)
        refine GE.callvU [] dX2_read_72 (lV_X2_56) rfl ⟨rfl, rfl⟩ (rokb rfl) (gX8_fail t10 a23) (fun w24 t25 => ?_)
        exact hj12 t25
  · refine GE.icmp_ge (tgt := 57) dX2_read_11 (by decide) ?_ ?_
    · exact GE.sub [0] rfl (hj7 () )
    · refine GE.iload_n 1 dX2_read_14 rfl rfl ?_
      refine GE.if_eq (tgt := 57) dX2_read_15 (by decide) ?_ ?_
      · exact GE.sub [0] rfl (hj7 () )
      · refine GE.aload_n 0 dX2_read_18 rfl rfl ?_
        refine GE.callvU [] dX2_read_19 (lV_X2_44) rfl ⟨rfl, rfl⟩ (rokb rfl) (gX2_clause t5 a0) (fun w26 t27 => ?_)
        refine GE.aload_n 0 dX2_read_22 rfl rfl ?_
        refine GE.gR dX2_read_23 lF_X2_37 (fun a28 => ?_)
        refine GE.callvI [] dX2_read_26 (lV_X2_47) rfl ⟨rfl, rfl⟩ (rokb rfl) (gX8_peek t27 a28) (fun x29 t30 => ?_)
        refine GE.bipush dX2_read_29 kB_59 ?_
        refine GE.jo1 39 (fun (v31 : Int32) => [(0, .ref a0), (2, .int x4)]) (fun (v31 : Int32) => [.int v31]) (fun (v31 : Int32) => t30) (fun v31 => ?_) (fun j32 hj32 => ?_)
        · refine GE.istore_n (lv' := [(0, .ref a0), (1, .int v31), (2, .int x4)]) dX2_read_39 rfl (by decide) [1, 0, 2] rfl ?_
          refine GE.iload_n 1 dX2_read_40 rfl rfl ?_
          refine GE.jo1 51 (fun (t33 : St) => [(0, .ref a0), (1, .int v31), (2, .int x4)]) (fun (t33 : St) => []) (fun (t33 : St) => t33) (fun t33 => ?_) (fun j34 hj34 => ?_)
          · refine GE.iinc (lv' := [(0, .ref a0), (1, .int v31), (2, .int (x4 + 1))]) 2 dX2_read_51 rfl kI_1 (by decide) [1, 2, 0] rfl ?_
            refine GE.goto (tgt := 8) dX2_read_54 (by decide) ?_
            exact hl6 v31 (x4 + 1) t33
          · refine GE.if_eq (tgt := 51) dX2_read_41 (by decide) ?_ ?_
            · exact hj34 t30
            · refine GE.aload_n 0 dX2_read_44 rfl rfl ?_
              refine GE.gR dX2_read_45 lF_X2_37 (fun a35 => ?_)
              refine GE.callvU [] dX2_read_48 (lV_X2_53) rfl ⟨rfl, rfl⟩ (rokb rfl) (gX8_step t30 a35) (fun w36 t37 => ?_)
              exact hj34 t37
        · refine GE.icmp_ne (tgt := 38) dX2_read_31 (by decide) ?_ ?_
          · refine GE.iconst dX2_read_38 kI_0 ?_
            exact GE.sub [0, 2] rfl (hj32 0)
          · refine GE.iconst dX2_read_34 kI_1 ?_
            refine GE.goto (tgt := 39) dX2_read_35 (by decide) ?_
            exact GE.sub [0, 2] rfl (hj32 1)
def fX4_compares (σ : St) (px0 : Int32) : Option (Int32 × St) :=
  if px0 = 61 then
    some (1, σ)
  else
    if px0 = 60 then
      some (1, σ)
    else
      if px0 = 62 then
        some (1, σ)
      else
        some (0, σ)
set_option maxHeartbeats 4000000 in
set_option maxRecDepth 100000 in
theorem gX4_compares (σ : St) (px0 : Int32) : CE vI mX4_compares [.int px0] σ (fX4_compares σ px0) := by
  refine CE.ofGEF (lv := [(0, .int px0)]) (by decide +kernel) (Nat.le_of_ble_eq_true rfl) rfl ?_
  unfold fX4_compares
  refine GE.iload_n 0 dX4_compares_0 rfl rfl ?_
  refine GE.bipush dX4_compares_1 kB_61 ?_
  refine GE.icmp_eq (tgt := 18) dX4_compares_3 (by decide) ?_ ?_
  · refine GE.iconst dX4_compares_18 kI_1 ?_
    refine GE.goto (tgt := 23) dX4_compares_19 (by decide) ?_
    exact GE.zretk dX4_compares_23 rfl (Nat.le_refl _) (Nat.le_refl _) (by decide)
  · refine GE.iload_n 0 dX4_compares_6 rfl rfl ?_
    refine GE.bipush dX4_compares_7 kB_60 ?_
    refine GE.icmp_eq (tgt := 18) dX4_compares_9 (by decide) ?_ ?_
    · refine GE.iconst dX4_compares_18 kI_1 ?_
      refine GE.goto (tgt := 23) dX4_compares_19 (by decide) ?_
      exact GE.zretk dX4_compares_23 rfl (Nat.le_refl _) (Nat.le_refl _) (by decide)
    · refine GE.iload_n 0 dX4_compares_12 rfl rfl ?_
      refine GE.bipush dX4_compares_13 kB_62 ?_
      refine GE.icmp_ne (tgt := 22) dX4_compares_15 (by decide) ?_ ?_
      · refine GE.iconst dX4_compares_22 kI_0 ?_
        exact GE.zretk dX4_compares_23 rfl (Nat.le_refl _) (Nat.le_refl _) (by decide)
      · refine GE.iconst dX4_compares_18 kI_1 ?_
        refine GE.goto (tgt := 23) dX4_compares_19 (by decide) ?_
        exact GE.zretk dX4_compares_23 rfl (Nat.le_refl _) (Nat.le_refl _) (by decide)
def fX4_put (σ : St) (a0 : Nat) (px1 : Int32) (px2 : Int32) : Option (Unit × St) :=
  (gI 4 2 σ a0).bind fun x1 =>
  (gR 4 1 σ a0).bind fun a2 =>
  (aN σ a2).bind fun x3 =>
  if x3 ≤ x1 then
    some ((), σ)
  else
    (gR 4 1 σ a0).bind fun a4 =>
    (gI 4 2 σ a0).bind fun x5 =>
    (sI 0 σ a4 x5 ((px2 <<< (8 &&& 31)) ||| px1)).bind (fun t6 =>
    (gI 4 2 t6 a0).bind fun x7 =>
    (pV 4 2 t6 a0 (.int (x7 + 1))).bind (fun t8 =>
    some ((), t8)))
set_option maxHeartbeats 4000000 in
set_option maxRecDepth 100000 in
theorem gX4_put (σ : St) (a0 : Nat) (px1 : Int32) (px2 : Int32) : CE vU mX4_put [.ref a0, .int px1, .int px2] σ (fX4_put σ a0 px1 px2) := by
  refine CE.ofGEF (lv := [(0, .ref a0), (1, .int px1), (2, .int px2)]) (by decide +kernel) (Nat.le_of_ble_eq_true rfl) rfl ?_
  unfold fX4_put
  refine GE.aload_n 0 dX4_put_0 rfl rfl ?_
  refine GE.gI dX4_put_1 lF_X4_17 (fun x1 => ?_)
  refine GE.aload_n 0 dX4_put_4 rfl rfl ?_
  refine GE.gR dX4_put_5 lF_X4_11 (fun a2 => ?_)
  refine GE.alen dX4_put_8 (fun x3 => ?_)
  refine GE.icmp_ge (tgt := 37) dX4_put_9 (by decide) ?_ ?_
  · exact GE.vret (x := ()) dX4_put_37 rfl (Nat.le_refl _) (Nat.le_refl _)
  · refine GE.aload_n 0 dX4_put_12 rfl rfl ?_
    refine GE.gR dX4_put_13 lF_X4_11 (fun a4 => ?_)
    refine GE.aload_n 0 dX4_put_16 rfl rfl ?_
    refine GE.gI dX4_put_17 lF_X4_17 (fun x5 => ?_)
    refine GE.iload_n 2 dX4_put_20 rfl rfl ?_
    refine GE.bipush dX4_put_21 kB_8 ?_
    refine GE.ishl dX4_put_23 ?_
    refine GE.iload_n 1 dX4_put_24 rfl rfl ?_
    refine GE.ior dX4_put_25 ?_
    refine GE.iast dX4_put_26 (fun t6 => ?_)
    refine GE.aload_n 0 dX4_put_27 rfl rfl ?_
    refine GE.dup dX4_put_28 rfl ?_
    refine GE.gI dX4_put_29 lF_X4_17 (fun x7 => ?_)
    refine GE.iconst dX4_put_32 kI_1 ?_
    refine GE.iadd dX4_put_33 ?_
    refine GE.pI dX4_put_34 lF_X4_17 (fun t8 => ?_)
    exact GE.vret (x := ()) dX4_put_37 rfl (Nat.le_refl _) (Nat.le_refl _)
def fX4_enter (σ : St) (a0 : Nat) (px1 : Int32) : Option (Int32 × St) :=
  if px1 < 6 then
    (gR 4 0 σ a0).bind fun a1 =>
    bo 8 σ a1 (fX8_step σ a1) (fun w2 t3 =>
    some (1, t3))
  else
    (gR 4 0 σ a0).bind fun a4 =>
    bo 8 σ a4 (fX8_fail σ a4) (fun w5 t6 =>
    some (0, t6))
set_option maxHeartbeats 4000000 in
set_option maxRecDepth 100000 in
theorem gX4_enter (σ : St) (a0 : Nat) (px1 : Int32) : CE vI mX4_enter [.ref a0, .int px1] σ (fX4_enter σ a0 px1) := by
  refine CE.ofGEF (lv := [(0, .ref a0), (1, .int px1)]) (by decide +kernel) (Nat.le_of_ble_eq_true rfl) rfl ?_
  unfold fX4_enter
  refine GE.iload_n 1 dX4_enter_0 rfl rfl ?_
  refine GE.bipush dX4_enter_1 kB_6 ?_
  refine GE.icmp_lt (tgt := 15) dX4_enter_3 (by decide) ?_ ?_
  · refine GE.aload_n 0 dX4_enter_15 rfl rfl ?_
    refine GE.gR dX4_enter_16 lF_X4_21 (fun a1 => ?_)
    refine GE.callvU [] dX4_enter_19 (lV_X4_35) rfl ⟨rfl, rfl⟩ (rokb rfl) (gX8_step σ a1) (fun w2 t3 => ?_)
    refine GE.iconst dX4_enter_22 kI_1 ?_
    exact GE.zretk dX4_enter_23 rfl (Nat.le_refl _) (Nat.le_refl _) (by decide)
  · refine GE.aload_n 0 dX4_enter_6 rfl rfl ?_
    refine GE.gR dX4_enter_7 lF_X4_21 (fun a4 => ?_)
    refine GE.callvU [] dX4_enter_10 (lV_X4_38) rfl ⟨rfl, rfl⟩ (rokb rfl) (gX8_fail σ a4) (fun w5 t6 => ?_)
    refine GE.iconst dX4_enter_13 kI_0 ?_
    exact GE.zretk dX4_enter_14 rfl (Nat.le_refl _) (Nat.le_refl _) (by decide)
def fX3_letterOf (σ : St) (px0 : Int32) : Option (Int32 × St) :=
  tbs px0 102 [some (1, σ),
    some (3, σ),
    some (2, σ),
    some ((-1), σ),
    some ((-1), σ),
    some ((-1), σ),
    some (0, σ),
    some (4, σ),
    some (5, σ)] (some ((-1), σ))
set_option maxHeartbeats 4000000 in
set_option maxRecDepth 100000 in
theorem gX3_letterOf (σ : St) (px0 : Int32) : CE vI mX3_letterOf [.int px0] σ (fX3_letterOf σ px0) := by
  refine CE.ofGEF (lv := [(0, .int px0)]) (by decide +kernel) (Nat.le_of_ble_eq_true rfl) rfl ?_
  unfold fX3_letterOf
  refine GE.iload_n 0 dX3_letterOf_0 rfl rfl ?_
  refine GE.tsw (tgd := 64) dX3_letterOf_1 rfl rfl (by decide) ?_ ?_
  · refine GE.iconst dX3_letterOf_64 kI_m1 ?_
    exact GE.iret dX3_letterOf_65 rfl (Nat.le_refl _) (Nat.le_refl _)
  · intro j9 E9 o9 hE9 ho9
    match j9, hE9, ho9 with
    | 0, hE9, ho9 =>
      cases hE9; cases ho9
      refine ⟨54, by decide, ?_⟩
      refine GE.iconst dX3_letterOf_54 kI_1 ?_
      exact GE.iret dX3_letterOf_55 rfl (Nat.le_refl _) (Nat.le_refl _)
    | 1, hE9, ho9 =>
      cases hE9; cases ho9
      refine ⟨58, by decide, ?_⟩
      refine GE.iconst dX3_letterOf_58 kI_3 ?_
      exact GE.iret dX3_letterOf_59 rfl (Nat.le_refl _) (Nat.le_refl _)
    | 2, hE9, ho9 =>
      cases hE9; cases ho9
      refine ⟨56, by decide, ?_⟩
      refine GE.iconst dX3_letterOf_56 kI_2 ?_
      exact GE.iret dX3_letterOf_57 rfl (Nat.le_refl _) (Nat.le_refl _)
    | 3, hE9, ho9 =>
      cases hE9; cases ho9
      refine ⟨64, by decide, ?_⟩
      refine GE.iconst dX3_letterOf_64 kI_m1 ?_
      exact GE.iret dX3_letterOf_65 rfl (Nat.le_refl _) (Nat.le_refl _)
    | 4, hE9, ho9 =>
      cases hE9; cases ho9
      refine ⟨64, by decide, ?_⟩
      refine GE.iconst dX3_letterOf_64 kI_m1 ?_
      exact GE.iret dX3_letterOf_65 rfl (Nat.le_refl _) (Nat.le_refl _)
    | 5, hE9, ho9 =>
      cases hE9; cases ho9
      refine ⟨64, by decide, ?_⟩
      refine GE.iconst dX3_letterOf_64 kI_m1 ?_
      exact GE.iret dX3_letterOf_65 rfl (Nat.le_refl _) (Nat.le_refl _)
    | 6, hE9, ho9 =>
      cases hE9; cases ho9
      refine ⟨52, by decide, ?_⟩
      refine GE.iconst dX3_letterOf_52 kI_0 ?_
      exact GE.iret dX3_letterOf_53 rfl (Nat.le_refl _) (Nat.le_refl _)
    | 7, hE9, ho9 =>
      cases hE9; cases ho9
      refine ⟨60, by decide, ?_⟩
      refine GE.iconst dX3_letterOf_60 kI_4 ?_
      exact GE.iret dX3_letterOf_61 rfl (Nat.le_refl _) (Nat.le_refl _)
    | 8, hE9, ho9 =>
      cases hE9; cases ho9
      refine ⟨62, by decide, ?_⟩
      refine GE.iconst dX3_letterOf_62 kI_5 ?_
      exact GE.iret dX3_letterOf_63 rfl (Nat.le_refl _) (Nat.le_refl _)
    | j9 + 9, hE9, ho9 => cases hE9
def fX8_expect (σ : St) (a0 : Nat) (px1 : Int32) : Option (Unit × St) :=
  bo 8 σ a0 (fX8_peek σ a0) (fun x1 t2 =>
  if x1 = px1 then
    bo 8 t2 a0 (fX8_step t2 a0) (fun w5 t6 =>
    some ((), t6))
  else
    bo 8 t2 a0 (fX8_fail t2 a0) (fun w3 t4 =>
    some ((), t4)))
set_option maxHeartbeats 4000000 in
set_option maxRecDepth 100000 in
theorem gX8_expect (σ : St) (a0 : Nat) (px1 : Int32) : CE vU mX8_expect [.ref a0, .int px1] σ (fX8_expect σ a0 px1) := by
  refine CE.ofGEF (lv := [(0, .ref a0), (1, .int px1)]) (by decide +kernel) (Nat.le_of_ble_eq_true rfl) rfl ?_
  unfold fX8_expect
  refine GE.aload_n 0 dX8_expect_0 rfl rfl ?_
  refine GE.callvI [] dX8_expect_1 (lV_X8_25) rfl ⟨rfl, rfl⟩ (rokb rfl) (gX8_peek σ a0) (fun x1 t2 => ?_)
  refine GE.iload_n 1 dX8_expect_4 rfl rfl ?_
  refine GE.icmp_ne (tgt := 15) dX8_expect_5 (by decide) ?_ ?_
  · refine GE.aload_n 0 dX8_expect_15 rfl rfl ?_
    refine GE.callvU [] dX8_expect_16 (lV_X8_32) rfl ⟨rfl, rfl⟩ (rokb rfl) (gX8_fail t2 a0) (fun w3 t4 => ?_)
    exact GE.vret (x := ()) dX8_expect_19 rfl (Nat.le_refl _) (Nat.le_refl _)
  · refine GE.aload_n 0 dX8_expect_8 rfl rfl ?_
    refine GE.callvU [] dX8_expect_9 (lV_X8_29) rfl ⟨rfl, rfl⟩ (rokb rfl) (gX8_step t2 a0) (fun w5 t6 => ?_)
    refine GE.goto (tgt := 19) dX8_expect_12 (by decide) ?_
    exact GE.vret (x := ()) dX8_expect_19 rfl (Nat.le_refl _) (Nat.le_refl _)
def fX8_append (σ : St) (a0 : Nat) (px1 : Int32) : Option (Unit × St) :=
  lo2 (fun l3 (x1 : Int32) (t2 : St) =>
    if x1 < 0 then
    some ((), t2)
  else
    nam (((Int32.toUInt32 px1 >>> (Int32.toUInt32 x1 &&& Int32.toUInt32 31)).toInt32) &&& 255 : Int32) (fun x4 =>
    jo1 (fun (t5 : St) =>
      l3 (x1 + (-8)) t5) (fun j6 =>
      if x4 = 0 then
        j6 t2
      else
        (gI 8 1 t2 a0).bind fun x7 =>
        if 240 ≤ x7 then
          j6 t2
        else
          (gR 8 0 t2 a0).bind fun a8 =>
          (gI 8 1 t2 a0).bind fun x9 =>
          (sI 0 t2 a8 x9 x4).bind (fun t10 =>
          (gI 8 1 t10 a0).bind fun x11 =>
          (pV 8 1 t10 a0 (.int (x11 + 1))).bind (fun t12 =>
          j6 t12))))) FU 24 σ
set_option maxHeartbeats 4000000 in
set_option maxRecDepth 100000 in
theorem gX8_append (σ : St) (a0 : Nat) (px1 : Int32) : CE vU mX8_append [.ref a0, .int px1] σ (fX8_append σ a0 px1) := by
  refine CE.ofGEF (lv := [(0, .ref a0), (1, .int px1)]) (by decide +kernel) (Nat.le_of_ble_eq_true rfl) rfl ?_
  unfold fX8_append
  refine GE.bipush dX8_append_0 kB_24 ?_
  refine GE.istore_n (lv' := [(0, .ref a0), (1, .int px1), (2, .int 24)]) dX8_append_2 rfl (by decide) [1, 2, 0] rfl ?_
  refine (GE.lo2 (fun (x1 : Int32) (t2 : St) => [(0, .ref a0), (1, .int px1), (2, .int x1)]) (fun (x1 : Int32) (t2 : St) => []) (fun (x1 : Int32) (t2 : St) => t2) (fun l3 hl3 x1 t2 => ?_) FU 24 σ)
  refine GE.iload_n 2 dX8_append_3 rfl rfl ?_
  refine GE.if_lt (tgt := 55) dX8_append_4 (by decide) ?_ ?_
  · exact GE.vret (x := ()) dX8_append_55 rfl (Nat.le_refl _) (Nat.le_refl _)
  · refine GE.iload_n 1 dX8_append_7 rfl rfl ?_
    refine GE.iload_n 2 dX8_append_8 rfl rfl ?_
    refine GE.iushr dX8_append_9 ?_
    refine GE.sipush dX8_append_10 kS_255 ?_
    refine GE.iand dX8_append_13 ?_
    refine GE.nami (fun x4 => ?_)
    refine GE.istore_n (lv' := [(0, .ref a0), (1, .int px1), (2, .int x1), (3, .int x4)]) dX8_append_14 rfl (by decide) [1, 2, 3, 0] rfl ?_
    refine GE.iload_n 3 dX8_append_15 rfl rfl ?_
    refine GE.jo1 49 (fun (t5 : St) => [(0, .ref a0), (1, .int px1), (2, .int x1)]) (fun (t5 : St) => []) (fun (t5 : St) => t5) (fun t5 => ?_) (fun j6 hj6 => ?_)
    · refine GE.iinc (lv' := [(0, .ref a0), (1, .int px1), (2, .int (x1 + (-8)))]) 2 dX8_append_49 rfl kI_m8 (by decide) [1, 2, 0] rfl ?_
      refine GE.goto (tgt := 3) dX8_append_52 (by decide) ?_
      exact hl3 (x1 + (-8)) t5
    · refine GE.if_eq (tgt := 49) dX8_append_16 (by decide) ?_ ?_
      · exact GE.sub [0, 1, 2] rfl (hj6 t2)
      · refine GE.aload_n 0 dX8_append_19 rfl rfl ?_
        refine GE.gI dX8_append_20 lF_X8_15 (fun x7 => ?_)
        refine GE.sipush dX8_append_23 kS_240 ?_
        refine GE.icmp_ge (tgt := 49) dX8_append_26 (by decide) ?_ ?_
        · exact GE.sub [0, 1, 2] rfl (hj6 t2)
        · refine GE.aload_n 0 dX8_append_29 rfl rfl ?_
          refine GE.gR dX8_append_30 lF_X8_11 (fun a8 => ?_)
          refine GE.aload_n 0 dX8_append_33 rfl rfl ?_
          refine GE.gI dX8_append_34 lF_X8_15 (fun x9 => ?_)
          refine GE.iload_n 3 dX8_append_37 rfl rfl ?_
          refine GE.iast dX8_append_38 (fun t10 => ?_)
          refine GE.aload_n 0 dX8_append_39 rfl rfl ?_
          refine GE.dup dX8_append_40 rfl ?_
          refine GE.gI dX8_append_41 lF_X8_15 (fun x11 => ?_)
          refine GE.iconst dX8_append_44 kI_1 ?_
          refine GE.iadd dX8_append_45 ?_
          refine GE.pI dX8_append_46 lF_X8_15 (fun t12 => ?_)
          exact GE.sub [0, 1, 2] rfl (hj6 t12)
def fX8_bytesIn (σ : St) (px0 : Int32) : Option (Int32 × St) :=
  lo2 (fun l3 (x1 : Int32) (x2 : Int32) =>
    if x2 < 0 then
    some (x1, σ)
  else
    jo1 (fun (x4 : Int32) =>
      l3 x4 (x2 + (-8))) (fun j5 =>
      if ((Int32.toUInt32 px0 >>> (Int32.toUInt32 x2 &&& Int32.toUInt32 31)).toInt32) &&& 255 = 0 then
        j5 x1
      else
        j5 (x1 + 1))) FU 0 24
set_option maxHeartbeats 4000000 in
set_option maxRecDepth 100000 in
theorem gX8_bytesIn (σ : St) (px0 : Int32) : CE vI mX8_bytesIn [.int px0] σ (fX8_bytesIn σ px0) := by
  refine CE.ofGEF (lv := [(0, .int px0)]) (by decide +kernel) (Nat.le_of_ble_eq_true rfl) rfl ?_
  unfold fX8_bytesIn
  refine GE.iconst dX8_bytesIn_0 kI_0 ?_
  refine GE.istore_n (lv' := [(0, .int px0), (1, .int 0)]) dX8_bytesIn_1 rfl (by decide) [1, 0] rfl ?_
  refine GE.bipush dX8_bytesIn_2 kB_24 ?_
  refine GE.istore_n (lv' := [(0, .int px0), (1, .int 0), (2, .int 24)]) dX8_bytesIn_4 rfl (by decide) [1, 2, 0] rfl ?_
  refine (GE.lo2 (fun (x1 : Int32) (x2 : Int32) => [(0, .int px0), (1, .int x1), (2, .int x2)]) (fun (x1 : Int32) (x2 : Int32) => []) (fun (x1 : Int32) (x2 : Int32) => σ) (fun l3 hl3 x1 x2 => ?_) FU 0 24)
  refine GE.iload_n 2 dX8_bytesIn_5 rfl rfl ?_
  refine GE.if_lt (tgt := 28) dX8_bytesIn_6 (by decide) ?_ ?_
  · refine GE.iload_n 1 dX8_bytesIn_28 rfl rfl ?_
    exact GE.iret dX8_bytesIn_29 rfl (Nat.le_refl _) (Nat.le_refl _)
  · refine GE.iload_n 0 dX8_bytesIn_9 rfl rfl ?_
    refine GE.iload_n 2 dX8_bytesIn_10 rfl rfl ?_
    refine GE.iushr dX8_bytesIn_11 ?_
    refine GE.sipush dX8_bytesIn_12 kS_255 ?_
    refine GE.iand dX8_bytesIn_15 ?_
    refine GE.jo1 22 (fun (x4 : Int32) => [(0, .int px0), (1, .int x4), (2, .int x2)]) (fun (x4 : Int32) => []) (fun (x4 : Int32) => σ) (fun x4 => ?_) (fun j5 hj5 => ?_)
    · refine GE.iinc (lv' := [(0, .int px0), (1, .int x4), (2, .int (x2 + (-8)))]) 2 dX8_bytesIn_22 rfl kI_m8 (by decide) [1, 2, 0] rfl ?_
      refine GE.goto (tgt := 5) dX8_bytesIn_25 (by decide) ?_
      exact hl3 x4 (x2 + (-8))
    · refine GE.if_eq (tgt := 22) dX8_bytesIn_16 (by decide) ?_ ?_
      · exact hj5 x1
      · refine GE.iinc (lv' := [(0, .int px0), (1, .int (x1 + 1)), (2, .int x2)]) 1 dX8_bytesIn_19 rfl kI_1 (by decide) [1, 0, 2] rfl ?_
        exact hj5 (x1 + 1)
def fX9_feed (σ : St) (a0 : Nat) (px1 : Int32) (px2 : Int32) (px3 : Int32) (px4 : Int32) (px5 : Int32) : Option (Int32 × St) :=
  bd (fX8_bytesIn σ px1) (fun x1 t2 =>
  bd (fX8_bytesIn t2 px2) (fun x3 t4 =>
  bd (fX8_bytesIn t4 px3) (fun x5 t6 =>
  bd (fX8_bytesIn t6 px4) (fun x7 t8 =>
  bd (fX8_bytesIn t8 px5) (fun x9 t10 =>
  nam ((((x1 + x3) + x5) + x7) + x9 : Int32) (fun x11 =>
  (gR 9 0 t10 a0).bind fun a12 =>
  (gI 8 1 t10 a12).bind fun x13 =>
  if x13 + x11 ≤ 240 then
    (gR 9 0 t10 a0).bind fun a14 =>
    bo 8 t10 a14 (fX8_append t10 a14 px1) (fun w15 t16 =>
    (gR 9 0 t16 a0).bind fun a17 =>
    bo 8 t16 a17 (fX8_append t16 a17 px2) (fun w18 t19 =>
    (gR 9 0 t19 a0).bind fun a20 =>
    bo 8 t19 a20 (fX8_append t19 a20 px3) (fun w21 t22 =>
    (gR 9 0 t22 a0).bind fun a23 =>
    bo 8 t22 a23 (fX8_append t22 a23 px4) (fun w24 t25 =>
    (gR 9 0 t25 a0).bind fun a26 =>
    bo 8 t25 a26 (fX8_append t25 a26 px5) (fun w27 t28 =>
    (gR 9 0 t28 a0).bind fun a29 =>
    (gI 8 1 t28 a29).bind fun x30 =>
    some (x30, t28))))))
  else
    some ((-1), t10)))))))
set_option maxHeartbeats 4000000 in
set_option maxRecDepth 100000 in
theorem gX9_feed (σ : St) (a0 : Nat) (px1 : Int32) (px2 : Int32) (px3 : Int32) (px4 : Int32) (px5 : Int32) : CE vI mX9_feed [.ref a0, .int px1, .int px2, .int px3, .int px4, .int px5] σ (fX9_feed σ a0 px1 px2 px3 px4 px5) := by
  refine CE.ofGEF (lv := [(0, .ref a0), (1, .int px1), (2, .int px2), (3, .int px3), (4, .int px4), (5, .int px5)]) (by decide +kernel) (Nat.le_of_ble_eq_true rfl) rfl ?_
  unfold fX9_feed
  refine GE.iload_n 1 dX9_feed_0 rfl rfl ?_
  refine GE.callsI [.int px1] dX9_feed_1 (lT_X9_97) rfl ⟨rfl, rfl⟩ (rokb rfl) (gX8_bytesIn σ px1) (fun x1 t2 => ?_)
  refine GE.iload_n 2 dX9_feed_4 rfl rfl ?_
  refine GE.callsI [.int px2] dX9_feed_5 (lT_X9_97) rfl ⟨rfl, rfl⟩ (rokb rfl) (gX8_bytesIn t2 px2) (fun x3 t4 => ?_)
  refine GE.iadd dX9_feed_8 ?_
  refine GE.iload_n 3 dX9_feed_9 rfl rfl ?_
  refine GE.callsI [.int px3] dX9_feed_10 (lT_X9_97) rfl ⟨rfl, rfl⟩ (rokb rfl) (gX8_bytesIn t4 px3) (fun x5 t6 => ?_)
  refine GE.iadd dX9_feed_13 ?_
  refine GE.iload 4 dX9_feed_14 rfl ?_
  refine GE.callsI [.int px4] dX9_feed_16 (lT_X9_97) rfl ⟨rfl, rfl⟩ (rokb rfl) (gX8_bytesIn t6 px4) (fun x7 t8 => ?_)
  refine GE.iadd dX9_feed_19 ?_
  refine GE.iload 5 dX9_feed_20 rfl ?_
  refine GE.callsI [.int px5] dX9_feed_22 (lT_X9_97) rfl ⟨rfl, rfl⟩ (rokb rfl) (gX8_bytesIn t8 px5) (fun x9 t10 => ?_)
  refine GE.iadd dX9_feed_25 ?_
  refine GE.nami (fun x11 => ?_)
  refine GE.istore (lv' := [(0, .ref a0), (1, .int px1), (2, .int px2), (3, .int px3), (4, .int px4), (5, .int px5), (6, .int x11)]) dX9_feed_26 (by decide) [1, 2, 3, 4, 5, 6, 0] rfl ?_
  refine GE.aload_n 0 dX9_feed_28 rfl rfl ?_
  refine GE.gR dX9_feed_29 lF_X9_10 (fun a12 => ?_)
  refine GE.gI dX9_feed_32 lF_X9_101 (fun x13 => ?_)
  refine GE.iload 6 dX9_feed_35 rfl ?_
  refine GE.iadd dX9_feed_37 ?_
  refine GE.sipush dX9_feed_38 kS_240 ?_
  refine GE.icmp_le (tgt := 46) dX9_feed_41 (by decide) ?_ ?_
  · refine GE.aload_n 0 dX9_feed_46 rfl rfl ?_
    refine GE.gR dX9_feed_47 lF_X9_10 (fun a14 => ?_)
    refine GE.iload_n 1 dX9_feed_50 rfl rfl ?_
    refine GE.callvU [.int px1] dX9_feed_51 (lV_X9_104) rfl ⟨rfl, rfl⟩ (rokb rfl) (gX8_append t10 a14 px1) (fun w15 t16 => ?_)
    refine GE.aload_n 0 dX9_feed_54 rfl rfl ?_
    refine GE.gR dX9_feed_55 lF_X9_10 (fun a17 => ?_)
    refine GE.iload_n 2 dX9_feed_58 rfl rfl ?_
    refine GE.callvU [.int px2] dX9_feed_59 (lV_X9_104) rfl ⟨rfl, rfl⟩ (rokb rfl) (gX8_append t16 a17 px2) (fun w18 t19 => ?_)
    refine GE.aload_n 0 dX9_feed_62 rfl rfl ?_
    refine GE.gR dX9_feed_63 lF_X9_10 (fun a20 => ?_)
    refine GE.iload_n 3 dX9_feed_66 rfl rfl ?_
    refine GE.callvU [.int px3] dX9_feed_67 (lV_X9_104) rfl ⟨rfl, rfl⟩ (rokb rfl) (gX8_append t19 a20 px3) (fun w21 t22 => ?_)
    refine GE.aload_n 0 dX9_feed_70 rfl rfl ?_
    refine GE.gR dX9_feed_71 lF_X9_10 (fun a23 => ?_)
    refine GE.iload 4 dX9_feed_74 rfl ?_
    refine GE.callvU [.int px4] dX9_feed_76 (lV_X9_104) rfl ⟨rfl, rfl⟩ (rokb rfl) (gX8_append t22 a23 px4) (fun w24 t25 => ?_)
    refine GE.aload_n 0 dX9_feed_79 rfl rfl ?_
    refine GE.gR dX9_feed_80 lF_X9_10 (fun a26 => ?_)
    refine GE.iload 5 dX9_feed_83 rfl ?_
    refine GE.callvU [.int px5] dX9_feed_85 (lV_X9_104) rfl ⟨rfl, rfl⟩ (rokb rfl) (gX8_append t25 a26 px5) (fun w27 t28 => ?_)
    refine GE.aload_n 0 dX9_feed_88 rfl rfl ?_
    refine GE.gR dX9_feed_89 lF_X9_10 (fun a29 => ?_)
    refine GE.gI dX9_feed_92 lF_X9_101 (fun x30 => ?_)
    exact GE.iret dX9_feed_95 rfl (Nat.le_refl _) (Nat.le_refl _)
  · refine GE.iconst dX9_feed_44 kI_m1 ?_
    exact GE.iret dX9_feed_45 rfl (Nat.le_refl _) (Nat.le_refl _)
def fX9_fog (σ : St) (a0 : Nat) (px1 : Int32) : Option (Int32 × St) :=
  bo 9 σ a0 (fX9_noLand σ a0) (fun x1 t2 =>
  if x1 = 0 then
    jo1 (fun (u2 : Unit) =>
      bo 9 t2 a0 (fX9_refuse t2 a0 1) (fun x4 t5 =>
      some (x4, t5))) (fun j3 =>
      if px1 < 0 then
        j3 () 
      else
        if px1 ≤ 9 then
          (gR 9 8 t2 a0).bind fun a6 =>
          (gI 7 4 t2 a6).bind fun x7 =>
          if x7 = px1 then
            bo 9 t2 a0 (fX9_refuse t2 a0 2) (fun x16 t17 =>
            some (x16, t17))
          else
            (gR 9 11 t2 a0).bind fun a8 =>
            (gR 9 8 t2 a0).bind fun a9 =>
            bo 5 t2 a8 (fX5_keep t2 a8 a9) (fun w10 t11 =>
            (gR 9 8 t11 a0).bind fun a12 =>
            (gI 7 4 t11 a12).bind fun x13 =>
            (gR 9 8 t11 a0).bind fun a14 =>
            (pV 7 4 t11 a14 (.int px1)).bind (fun t15 =>
            some (x13, t15)))
        else
          j3 () )
  else
    bo 9 t2 a0 (fX9_refuse t2 a0 0) (fun x18 t19 =>
    some (x18, t19)))
set_option maxHeartbeats 4000000 in
set_option maxRecDepth 100000 in
theorem gX9_fog (σ : St) (a0 : Nat) (px1 : Int32) : CE vI mX9_fog [.ref a0, .int px1] σ (fX9_fog σ a0 px1) := by
  refine CE.ofGEF (lv := [(0, .ref a0), (1, .int px1)]) (by decide +kernel) (Nat.le_of_ble_eq_true rfl) rfl ?_
  unfold fX9_fog
  refine GE.aload_n 0 dX9_fog_0 rfl rfl ?_
  refine GE.callvI [] dX9_fog_1 (lV_X9_137) rfl ⟨rfl, rfl⟩ (rokb rfl) (gX9_noLand σ a0) (fun x1 t2 => ?_)
  refine GE.if_eq (tgt := 13) dX9_fog_4 (by decide) ?_ ?_
  · refine GE.iload_n 1 dX9_fog_13 rfl rfl ?_
    refine GE.jo1 23 (fun (u2 : Unit) => [(0, .ref a0)]) (fun (u2 : Unit) => []) (fun (u2 : Unit) => t2) (fun u2 => ?_) (fun j3 hj3 => ?_)
    · refine GE.aload_n 0 dX9_fog_23 rfl rfl ?_
      refine GE.iconst dX9_fog_24 kI_1 ?_
      refine GE.callvI [.int 1] dX9_fog_25 (lV_X9_197) rfl ⟨rfl, rfl⟩ (rokb rfl) (gX9_refuse t2 a0 1) (fun x4 t5 => ?_)
      exact GE.iret dX9_fog_28 rfl (Nat.le_refl _) (Nat.le_refl _)
    · refine GE.if_lt (tgt := 23) dX9_fog_14 (by decide) ?_ ?_
      · exact GE.sub [0] rfl (hj3 () )
      · refine GE.iload_n 1 dX9_fog_17 rfl rfl ?_
        refine GE.bipush dX9_fog_18 kB_9 ?_
        refine GE.icmp_le (tgt := 29) dX9_fog_20 (by decide) ?_ ?_
        · refine GE.aload_n 0 dX9_fog_29 rfl rfl ?_
          refine GE.gR dX9_fog_30 lF_X9_55 (fun a6 => ?_)
          refine GE.gI dX9_fog_33 lF_X9_150 (fun x7 => ?_)
          refine GE.iload_n 1 dX9_fog_36 rfl rfl ?_
          refine GE.icmp_ne (tgt := 46) dX9_fog_37 (by decide) ?_ ?_
          · refine GE.aload_n 0 dX9_fog_46 rfl rfl ?_
            refine GE.gR dX9_fog_47 lF_X9_68 (fun a8 => ?_)
            refine GE.aload_n 0 dX9_fog_50 rfl rfl ?_
            refine GE.gR dX9_fog_51 lF_X9_55 (fun a9 => ?_)
            refine GE.callvU [.ref a9] dX9_fog_54 (lV_X9_203) rfl ⟨rfl, rfl⟩ (rokb rfl) (gX5_keep t2 a8 a9) (fun w10 t11 => ?_)
            refine GE.aload_n 0 dX9_fog_57 rfl rfl ?_
            refine GE.gR dX9_fog_58 lF_X9_55 (fun a12 => ?_)
            refine GE.gI dX9_fog_61 lF_X9_150 (fun x13 => ?_)
            refine GE.istore_n (lv' := [(0, .ref a0), (1, .int px1), (2, .int x13)]) dX9_fog_64 rfl (by decide) [1, 2, 0] rfl ?_
            refine GE.aload_n 0 dX9_fog_65 rfl rfl ?_
            refine GE.gR dX9_fog_66 lF_X9_55 (fun a14 => ?_)
            refine GE.iload_n 1 dX9_fog_69 rfl rfl ?_
            refine GE.pI dX9_fog_70 lF_X9_150 (fun t15 => ?_)
            refine GE.iload_n 2 dX9_fog_73 rfl rfl ?_
            exact GE.iret dX9_fog_74 rfl (Nat.le_refl _) (Nat.le_refl _)
          · refine GE.aload_n 0 dX9_fog_40 rfl rfl ?_
            refine GE.iconst dX9_fog_41 kI_2 ?_
            refine GE.callvI [.int 2] dX9_fog_42 (lV_X9_197) rfl ⟨rfl, rfl⟩ (rokb rfl) (gX9_refuse t2 a0 2) (fun x16 t17 => ?_)
            exact GE.iret dX9_fog_45 rfl (Nat.le_refl _) (Nat.le_refl _)
        · exact GE.sub [0] rfl (hj3 () )
  · refine GE.aload_n 0 dX9_fog_7 rfl rfl ?_
    refine GE.iconst dX9_fog_8 kI_0 ?_
    refine GE.callvI [.int 0] dX9_fog_9 (lV_X9_197) rfl ⟨rfl, rfl⟩ (rokb rfl) (gX9_refuse t2 a0 0) (fun x18 t19 => ?_)
    exact GE.iret dX9_fog_12 rfl (Nat.le_refl _) (Nat.le_refl _)
