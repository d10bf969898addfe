def fX10_fog (σ : St) (a0 : Nat) (px1 : Int32) : Option (Int32 × St) :=
  (gI 10 26 σ a0).bind fun x1 =>
  jo3 (fun (v2 : Int32) (v3 : Nat) (t4 : St) =>
    bo 10 t4 v3 (fX10_isRefused t4 v3 v2) (fun x6 t7 =>
    if x6 = 0 then
      bo 10 t7 a0 (fX10_keep t7 a0) (fun w8 t9 =>
      (gR 10 28 t9 a0).bind fun a10 =>
      (aI 0 t9 a10 39).bind fun x11 =>
      (gR 10 28 t9 a0).bind fun a12 =>
      (sI 0 t9 a12 39 px1).bind (fun t13 =>
      some (x11, t13)))
    else
      some ((-1), t7))) (fun j5 =>
    if x1 = 0 then
      j5 0 a0 σ
    else
      bd (fX10_in σ px1 0 9) (fun x14 t15 =>
      if x14 = 0 then
        j5 1 a0 t15
      else
        (gR 10 28 t15 a0).bind fun a16 =>
        (aI 0 t15 a16 39).bind fun x17 =>
        if x17 = px1 then
          j5 2 a0 t15
        else
          j5 ((-1)) a0 t15))
set_option maxHeartbeats 4000000 in
set_option maxRecDepth 100000 in
theorem gX10_fog (σ : St) (a0 : Nat) (px1 : Int32) : CE vI mX10_fog [.ref a0, .int px1] σ (fX10_fog σ a0 px1) := by
  refine CE.ofGEF (lv := [(0, .ref a0), (1, .int px1)]) (by decide +kernel) (Nat.le_of_ble_eq_true rfl) rfl ?_
  unfold fX10_fog
  refine GE.aload_n 0 dX10_fog_0 rfl rfl ?_
  refine GE.aload_n 0 dX10_fog_1 rfl rfl ?_
  refine GE.gI dX10_fog_2 lF_X10_264 (fun x1 => ?_)
  refine GE.jo3 42 (fun (v2 : Int32) (v3 : Nat) (t4 : St) => [(0, .ref a0), (1, .int px1)]) (fun (v2 : Int32) (v3 : Nat) (t4 : St) => [.int v2, .ref v3]) (fun (v2 : Int32) (v3 : Nat) (t4 : St) => t4) (fun v2 v3 t4 => ?_) (fun j5 hj5 => ?_)
  · refine GE.callvI [.int v2] dX10_fog_42 (lV_X10_354) rfl ⟨rfl, rfl⟩ (rokb rfl) (gX10_isRefused t4 v3 v2) (fun x6 t7 => ?_)
    refine GE.if_eq (tgt := 50) dX10_fog_45 (by decide) ?_ ?_
    · refine GE.aload_n 0 dX10_fog_50 rfl rfl ?_
      refine GE.callvU [] dX10_fog_51 (lV_X10_357) rfl ⟨rfl, rfl⟩ (rokb rfl) (gX10_keep t7 a0) (fun w8 t9 => ?_)
      refine GE.aload_n 0 dX10_fog_54 rfl rfl ?_
      refine GE.gR dX10_fog_55 lF_X10_61 (fun a10 => ?_)
      refine GE.bipush dX10_fog_58 kB_39 ?_
      refine GE.iald dX10_fog_60 (fun x11 => ?_)
      refine GE.istore_n (lv' := [(0, .ref a0), (1, .int px1), (2, .int x11)]) dX10_fog_61 rfl (by decide) [1, 2, 0] rfl ?_
      refine GE.aload_n 0 dX10_fog_62 rfl rfl ?_
      refine GE.gR dX10_fog_63 lF_X10_61 (fun a12 => ?_)
      refine GE.bipush dX10_fog_66 kB_39 ?_
      refine GE.iload_n 1 dX10_fog_68 rfl rfl ?_
      refine GE.iast dX10_fog_69 (fun t13 => ?_)
      refine GE.iload_n 2 dX10_fog_70 rfl rfl ?_
      exact GE.iret dX10_fog_71 rfl (Nat.le_refl _) (Nat.le_refl _)
    · refine GE.iconst dX10_fog_48 kI_m1 ?_
      exact GE.iret dX10_fog_49 rfl (Nat.le_refl _) (Nat.le_refl _)
  · refine GE.if_ne (tgt := 12) dX10_fog_5 (by decide) ?_ ?_
    · refine GE.iload_n 1 dX10_fog_12 rfl rfl ?_
      refine GE.iconst dX10_fog_13 kI_0 ?_
      refine GE.bipush dX10_fog_14 kB_9 ?_
      refine GE.callsI [.int px1, .int 0, .int 9] dX10_fog_16 (lT_X10_217) rfl ⟨rfl, rfl⟩ (rokb rfl) (gX10_in σ px1 0 9) (fun x14 t15 => ?_)
      refine GE.if_ne (tgt := 26) dX10_fog_19 (by decide) ?_ ?_
      · refine GE.aload_n 0 dX10_fog_26 rfl rfl ?_
        refine GE.gR dX10_fog_27 lF_X10_61 (fun a16 => ?_)
        refine GE.bipush dX10_fog_30 kB_39 ?_
        refine GE.iald dX10_fog_32 (fun x17 => ?_)
        refine GE.iload_n 1 dX10_fog_33 rfl rfl ?_
        refine GE.icmp_ne (tgt := 41) dX10_fog_34 (by decide) ?_ ?_
        · refine GE.iconst dX10_fog_41 kI_m1 ?_
          exact hj5 ((-1)) a0 t15
        · refine GE.iconst dX10_fog_37 kI_2 ?_
          refine GE.goto (tgt := 42) dX10_fog_38 (by decide) ?_
          exact hj5 2 a0 t15
      · refine GE.iconst dX10_fog_22 kI_1 ?_
        refine GE.goto (tgt := 42) dX10_fog_23 (by decide) ?_
        exact hj5 1 a0 t15
    · refine GE.iconst dX10_fog_8 kI_0 ?_
      refine GE.goto (tgt := 42) dX10_fog_9 (by decide) ?_
      exact hj5 0 a0 σ
def fX10_isTower (σ : St) (a0 : Nat) (px1 : Int32) : Option (Int32 × St) :=
  (gI 10 27 σ a0).bind fun x1 =>
  bd (fX10_in σ px1 0 (x1 - 1)) (fun x2 t3 =>
  if x2 = 0 ∨ x2 = 1 then some (x2, t3) else none)
set_option maxHeartbeats 4000000 in
set_option maxRecDepth 100000 in
theorem gX10_isTower (σ : St) (a0 : Nat) (px1 : Int32) : CE vI mX10_isTower [.ref a0, .int px1] σ (fX10_isTower σ a0 px1) := by
  refine CE.ofGEF (lv := [(0, .ref a0), (1, .int px1)]) (by decide +kernel) (Nat.le_of_ble_eq_true rfl) rfl ?_
  unfold fX10_isTower
  refine GE.iload_n 1 dX10_isTower_0 rfl rfl ?_
  refine GE.iconst dX10_isTower_1 kI_0 ?_
  refine GE.aload_n 0 dX10_isTower_2 rfl rfl ?_
  refine GE.gI dX10_isTower_3 lF_X10_261 (fun x1 => ?_)
  refine GE.iconst dX10_isTower_6 kI_1 ?_
  refine GE.isub dX10_isTower_7 ?_
  refine GE.callsI [.int px1, .int 0, .int (x1 - 1)] dX10_isTower_8 (lT_X10_217) rfl ⟨rfl, rfl⟩ (rokb rfl) (gX10_in σ px1 0 (x1 - 1)) (fun x2 t3 => ?_)
  exact GE.zret dX10_isTower_11 rfl (Nat.le_refl _) (Nat.le_refl _)
def fX10_areTwo (σ : St) (a0 : Nat) (px1 : Int32) (px2 : Int32) : Option (Int32 × St) :=
  bo 10 σ a0 (fX10_isTower σ a0 px1) (fun x1 t2 =>
  if x1 = 0 then
    some (0, t2)
  else
    bo 10 t2 a0 (fX10_isTower t2 a0 px2) (fun x3 t4 =>
    if x3 = 0 then
      some (0, t4)
    else
      if px1 = px2 then
        some (0, t4)
      else
        some (1, t4)))
set_option maxHeartbeats 4000000 in
set_option maxRecDepth 100000 in
theorem gX10_areTwo (σ : St) (a0 : Nat) (px1 : Int32) (px2 : Int32) : CE vI mX10_areTwo [.ref a0, .int px1, .int px2] σ (fX10_areTwo σ a0 px1 px2) := by
  refine CE.ofGEF (lv := [(0, .ref a0), (1, .int px1), (2, .int px2)]) (by decide +kernel) (Nat.le_of_ble_eq_true rfl) rfl ?_
  unfold fX10_areTwo
  refine GE.aload_n 0 dX10_areTwo_0 rfl rfl ?_
  refine GE.iload_n 1 dX10_areTwo_1 rfl rfl ?_
  refine GE.callvI [.int px1] dX10_areTwo_2 (lV_X10_340) rfl ⟨rfl, rfl⟩ (rokb rfl) (gX10_isTower σ a0 px1) (fun x1 t2 => ?_)
  refine GE.if_eq (tgt := 25) dX10_areTwo_5 (by decide) ?_ ?_
  · refine GE.iconst dX10_areTwo_25 kI_0 ?_
    exact GE.zretk dX10_areTwo_26 rfl (Nat.le_refl _) (Nat.le_refl _) (by decide)
  · refine GE.aload_n 0 dX10_areTwo_8 rfl rfl ?_
    refine GE.iload_n 2 dX10_areTwo_9 rfl rfl ?_
    refine GE.callvI [.int px2] dX10_areTwo_10 (lV_X10_340) rfl ⟨rfl, rfl⟩ (rokb rfl) (gX10_isTower t2 a0 px2) (fun x3 t4 => ?_)
    refine GE.if_eq (tgt := 25) dX10_areTwo_13 (by decide) ?_ ?_
    · refine GE.iconst dX10_areTwo_25 kI_0 ?_
      exact GE.zretk dX10_areTwo_26 rfl (Nat.le_refl _) (Nat.le_refl _) (by decide)
    · refine GE.iload_n 1 dX10_areTwo_16 rfl rfl ?_
      refine GE.iload_n 2 dX10_areTwo_17 rfl rfl ?_
      refine GE.icmp_eq (tgt := 25) dX10_areTwo_18 (by decide) ?_ ?_
      · refine GE.iconst dX10_areTwo_25 kI_0 ?_
        exact GE.zretk dX10_areTwo_26 rfl (Nat.le_refl _) (Nat.le_refl _) (by decide)
      · refine GE.iconst dX10_areTwo_21 kI_1 ?_
        refine GE.goto (tgt := 26) dX10_areTwo_22 (by decide) ?_
        exact GE.zretk dX10_areTwo_26 rfl (Nat.le_refl _) (Nat.le_refl _) (by decide)
def fX10_gameOf (σ : St) (a0 : Nat) (px1 : Int32) (px2 : Int32) (px3 : Int32) (px4 : Int32) : Option (Int32 × St) :=
  (gR 10 28 σ a0).bind fun a1 =>
  (aI 0 σ a1 (34 + px1)).bind fun x2 =>
  (gR 10 28 σ a0).bind fun a3 =>
  (aI 0 σ a3 (34 + px2)).bind fun x4 =>
  (gR 10 28 σ a0).bind fun a5 =>
  bd (fJ9_min_7cf53 σ 9 (x2 + px3)) (fun x6 t7 =>
  (sI 0 t7 a5 (34 + px1) x6).bind (fun t8 =>
  (gR 10 28 t8 a0).bind fun a9 =>
  bd (fJ9_min_7cf53 t8 9 (x4 + px4)) (fun x10 t11 =>
  (sI 0 t11 a9 (34 + px2) x10).bind (fun t12 =>
  bo 10 t12 a0 (fX10_seenBy t12 a0 px1) (fun x13 t14 =>
  bo 10 t14 a0 (fX10_seenBy t14 a0 px2) (fun x15 t16 =>
  bd (fJ6_bitCount_0f7a4 t16 (x13 &&& (x15 ^^^ ((-1))))) (fun x17 t18 =>
  (gR 10 28 t18 a0).bind fun a19 =>
  (sI 0 t18 a19 (34 + px1) x2).bind (fun t20 =>
  (gR 10 28 t20 a0).bind fun a21 =>
  (sI 0 t20 a21 (34 + px2) x4).bind (fun t22 =>
  some (x17 - px3, t22))))))))))
set_option maxHeartbeats 4000000 in
set_option maxRecDepth 100000 in
theorem gX10_gameOf (σ : St) (a0 : Nat) (px1 : Int32) (px2 : Int32) (px3 : Int32) (px4 : Int32) : CE vI mX10_gameOf [.ref a0, .int px1, .int px2, .int px3, .int px4] σ (fX10_gameOf σ a0 px1 px2 px3 px4) := by
  refine CE.ofGEF (lv := [(0, .ref a0), (1, .int px1), (2, .int px2), (3, .int px3), (4, .int px4)]) (by decide +kernel) (Nat.le_of_ble_eq_true rfl) rfl ?_
  unfold fX10_gameOf
  refine GE.aload_n 0 dX10_gameOf_0 rfl rfl ?_
  refine GE.gR dX10_gameOf_1 lF_X10_61 (fun a1 => ?_)
  refine GE.bipush dX10_gameOf_4 kB_34 ?_
  refine GE.iload_n 1 dX10_gameOf_6 rfl rfl ?_
  refine GE.iadd dX10_gameOf_7 ?_
  refine GE.iald dX10_gameOf_8 (fun x2 => ?_)
  refine GE.istore (lv' := [(0, .ref a0), (1, .int px1), (2, .int px2), (3, .int px3), (4, .int px4), (5, .int x2)]) dX10_gameOf_9 (by decide) [1, 2, 3, 4, 5, 0] rfl ?_
  refine GE.aload_n 0 dX10_gameOf_11 rfl rfl ?_
  refine GE.gR dX10_gameOf_12 lF_X10_61 (fun a3 => ?_)
  refine GE.bipush dX10_gameOf_15 kB_34 ?_
  refine GE.iload_n 2 dX10_gameOf_17 rfl rfl ?_
  refine GE.iadd dX10_gameOf_18 ?_
  refine GE.iald dX10_gameOf_19 (fun x4 => ?_)
  refine GE.istore (lv' := [(0, .ref a0), (1, .int px1), (2, .int px2), (3, .int px3), (4, .int px4), (5, .int x2), (6, .int x4)]) dX10_gameOf_20 (by decide) [1, 2, 3, 4, 5, 6, 0] rfl ?_
  refine GE.aload_n 0 dX10_gameOf_22 rfl rfl ?_
  refine GE.gR dX10_gameOf_23 lF_X10_61 (fun a5 => ?_)
  refine GE.bipush dX10_gameOf_26 kB_34 ?_
  refine GE.iload_n 1 dX10_gameOf_28 rfl rfl ?_
  refine GE.iadd dX10_gameOf_29 ?_
  refine GE.bipush dX10_gameOf_30 kB_9 ?_
  refine GE.iload 5 dX10_gameOf_32 rfl ?_
  refine GE.iload_n 3 dX10_gameOf_34 rfl rfl ?_
  refine GE.iadd dX10_gameOf_35 ?_
  refine GE.callsI [.int 9, .int (x2 + px3)] dX10_gameOf_36 (lT_X10_309) rfl ⟨rfl, rfl⟩ (rokb rfl) (gJ9_min_7cf53 σ 9 (x2 + px3)) (fun x6 t7 => ?_)
  refine GE.iast dX10_gameOf_39 (fun t8 => ?_)
  refine GE.aload_n 0 dX10_gameOf_40 rfl rfl ?_
  refine GE.gR dX10_gameOf_41 lF_X10_61 (fun a9 => ?_)
  refine GE.bipush dX10_gameOf_44 kB_34 ?_
  refine GE.iload_n 2 dX10_gameOf_46 rfl rfl ?_
  refine GE.iadd dX10_gameOf_47 ?_
  refine GE.bipush dX10_gameOf_48 kB_9 ?_
  refine GE.iload 6 dX10_gameOf_50 rfl ?_
  refine GE.iload 4 dX10_gameOf_52 rfl ?_
  refine GE.iadd dX10_gameOf_54 ?_
  refine GE.callsI [.int 9, .int (x4 + px4)] dX10_gameOf_55 (lT_X10_309) rfl ⟨rfl, rfl⟩ (rokb rfl) (gJ9_min_7cf53 t8 9 (x4 + px4)) (fun x10 t11 => ?_)
  refine GE.iast dX10_gameOf_58 (fun t12 => ?_)
  refine GE.aload_n 0 dX10_gameOf_59 rfl rfl ?_
  refine GE.iload_n 1 dX10_gameOf_60 rfl rfl ?_
  refine GE.callvI [.int px1] dX10_gameOf_61 (lV_X10_328) rfl ⟨rfl, rfl⟩ (rokb rfl) (gX10_seenBy t12 a0 px1) (fun x13 t14 => ?_)
  refine GE.aload_n 0 dX10_gameOf_64 rfl rfl ?_
  refine GE.iload_n 2 dX10_gameOf_65 rfl rfl ?_
  refine GE.callvI [.int px2] dX10_gameOf_66 (lV_X10_328) rfl ⟨rfl, rfl⟩ (rokb rfl) (gX10_seenBy t14 a0 px2) (fun x15 t16 => ?_)
  refine GE.iconst dX10_gameOf_69 kI_m1 ?_
  refine GE.ixor dX10_gameOf_70 ?_
  refine GE.iand dX10_gameOf_71 ?_
  refine GE.callsI [.int (x13 &&& (x15 ^^^ ((-1))))] dX10_gameOf_72 (lT_X10_343) rfl ⟨rfl, rfl⟩ (rokb rfl) (gJ6_bitCount_0f7a4 t16 (x13 &&& (x15 ^^^ ((-1))))) (fun x17 t18 => ?_)
  refine GE.istore (lv' := [(0, .ref a0), (1, .int px1), (2, .int px2), (3, .int px3), (4, .int px4), (5, .int x2), (6, .int x4), (7, .int x17)]) dX10_gameOf_75 (by decide) [1, 2, 3, 4, 5, 6, 7, 0] rfl ?_
  refine GE.aload_n 0 dX10_gameOf_77 rfl rfl ?_
  refine GE.gR dX10_gameOf_78 lF_X10_61 (fun a19 => ?_)
  refine GE.bipush dX10_gameOf_81 kB_34 ?_
  refine GE.iload_n 1 dX10_gameOf_83 rfl rfl ?_
  refine GE.iadd dX10_gameOf_84 ?_
  refine GE.iload 5 dX10_gameOf_85 rfl ?_
  refine GE.iast dX10_gameOf_87 (fun t20 => ?_)
  refine GE.aload_n 0 dX10_gameOf_88 rfl rfl ?_
  refine GE.gR dX10_gameOf_89 lF_X10_61 (fun a21 => ?_)
  refine GE.bipush dX10_gameOf_92 kB_34 ?_
  refine GE.iload_n 2 dX10_gameOf_94 rfl rfl ?_
  refine GE.iadd dX10_gameOf_95 ?_
  refine GE.iload 6 dX10_gameOf_96 rfl ?_
  refine GE.iast dX10_gameOf_98 (fun t22 => ?_)
  refine GE.iload 7 dX10_gameOf_99 rfl ?_
  refine GE.iload_n 3 dX10_gameOf_101 rfl rfl ?_
  refine GE.isub dX10_gameOf_102 ?_
  exact GE.iret dX10_gameOf_103 rfl (Nat.le_refl _) (Nat.le_refl _)
def fX10_game (σ : St) (a0 : Nat) (px1 : Int32) (px2 : Int32) (px3 : Int32) (px4 : Int32) (px5 : Int32) : Option (Int32 × St) :=
  bo 10 σ a0 (fX10_areTwo σ a0 px1 px2) (fun x1 t2 =>
  if x1 = 0 then
    some ((-1000000), t2)
  else
    bd (fX10_in t2 px3 0 3) (fun x3 t4 =>
    if x3 = 0 then
      some ((-1000000), t4)
    else
      bd (fX10_in t4 px4 0 3) (fun x5 t6 =>
      if x5 = 0 then
        some ((-1000000), t6)
      else
        bd (fX10_in t6 px5 0 1) (fun x7 t8 =>
        if x7 = 0 then
          some ((-1000000), t8)
        else
          if px5 = 0 then
            bo 10 t8 a0 (fX10_gameOf t8 a0 px1 px2 px3 px4) (fun x11 t12 =>
            some (x11, t12))
          else
            bo 10 t8 a0 (fX10_gameOf t8 a0 px2 px1 px4 px3) (fun x9 t10 =>
            some (x9, t10))))))
set_option maxHeartbeats 4000000 in
set_option maxRecDepth 100000 in
theorem gX10_game (σ : St) (a0 : Nat) (px1 : Int32) (px2 : Int32) (px3 : Int32) (px4 : Int32) (px5 : Int32) : CE vI mX10_game [.ref a0, .int px1, .int px2, .int px3, .int px4, .int px5] σ (fX10_game σ a0 px1 px2 px3 px4 px5) := by
  refine CE.ofGEF (lv := [(0, .ref a0), (1, .int px1), (2, .int px2), (3, .int px3), (4, .int px4), (5, .int px5)]) (by decide +kernel) (Nat.le_of_ble_eq_true rfl) rfl ?_
  unfold fX10_game
  refine GE.aload_n 0 dX10_game_0 rfl rfl ?_
  refine GE.iload_n 1 dX10_game_1 rfl rfl ?_
  refine GE.iload_n 2 dX10_game_2 rfl rfl ?_
  refine GE.callvI [.int px1, .int px2] dX10_game_3 (lV_X10_401) rfl ⟨rfl, rfl⟩ (rokb rfl) (gX10_areTwo σ a0 px1 px2) (fun x1 t2 => ?_)
  refine GE.if_eq (tgt := 38) dX10_game_6 (by decide) ?_ ?_
  · refine GE.ldcw (v := (-1000000)) dX10_game_38 lK_X10_404 ?_
    exact GE.iret dX10_game_41 rfl (Nat.le_refl _) (Nat.le_refl _)
  · refine GE.iload_n 3 dX10_game_9 rfl rfl ?_
    refine GE.iconst dX10_game_10 kI_0 ?_
    refine GE.iconst dX10_game_11 kI_3 ?_
    refine GE.callsI [.int px3, .int 0, .int 3] dX10_game_12 (lT_X10_217) rfl ⟨rfl, rfl⟩ (rokb rfl) (gX10_in t2 px3 0 3) (fun x3 t4 => ?_)
    refine GE.if_eq (tgt := 38) dX10_game_15 (by decide) ?_ ?_
    · refine GE.ldcw (v := (-1000000)) dX10_game_38 lK_X10_404 ?_
      exact GE.iret dX10_game_41 rfl (Nat.le_refl _) (Nat.le_refl _)
    · refine GE.iload 4 dX10_game_18 rfl ?_
      refine GE.iconst dX10_game_20 kI_0 ?_
      refine GE.iconst dX10_game_21 kI_3 ?_
      refine GE.callsI [.int px4, .int 0, .int 3] dX10_game_22 (lT_X10_217) rfl ⟨rfl, rfl⟩ (rokb rfl) (gX10_in t4 px4 0 3) (fun x5 t6 => ?_)
      refine GE.if_eq (tgt := 38) dX10_game_25 (by decide) ?_ ?_
      · refine GE.ldcw (v := (-1000000)) dX10_game_38 lK_X10_404 ?_
        exact GE.iret dX10_game_41 rfl (Nat.le_refl _) (Nat.le_refl _)
      · refine GE.iload 5 dX10_game_28 rfl ?_
        refine GE.iconst dX10_game_30 kI_0 ?_
        refine GE.iconst dX10_game_31 kI_1 ?_
        refine GE.callsI [.int px5, .int 0, .int 1] dX10_game_32 (lT_X10_217) rfl ⟨rfl, rfl⟩ (rokb rfl) (gX10_in t6 px5 0 1) (fun x7 t8 => ?_)
        refine GE.if_ne (tgt := 42) dX10_game_35 (by decide) ?_ ?_
        · refine GE.iload 5 dX10_game_42 rfl ?_
          refine GE.if_ne (tgt := 59) dX10_game_44 (by decide) ?_ ?_
          · refine GE.aload_n 0 dX10_game_59 rfl rfl ?_
            refine GE.iload_n 2 dX10_game_60 rfl rfl ?_
            refine GE.iload_n 1 dX10_game_61 rfl rfl ?_
            refine GE.iload 4 dX10_game_62 rfl ?_
            refine GE.iload_n 3 dX10_game_64 rfl rfl ?_
            refine GE.callvI [.int px2, .int px1, .int px4, .int px3] dX10_game_65 (lV_X10_405) rfl ⟨rfl, rfl⟩ (rokb rfl) (gX10_gameOf t8 a0 px2 px1 px4 px3) (fun x9 t10 => ?_)
            exact GE.iret dX10_game_68 rfl (Nat.le_refl _) (Nat.le_refl _)
          · refine GE.aload_n 0 dX10_game_47 rfl rfl ?_
            refine GE.iload_n 1 dX10_game_48 rfl rfl ?_
            refine GE.iload_n 2 dX10_game_49 rfl rfl ?_
            refine GE.iload_n 3 dX10_game_50 rfl rfl ?_
            refine GE.iload 4 dX10_game_51 rfl ?_
            refine GE.callvI [.int px1, .int px2, .int px3, .int px4] dX10_game_53 (lV_X10_405) rfl ⟨rfl, rfl⟩ (rokb rfl) (gX10_gameOf t8 a0 px1 px2 px3 px4) (fun x11 t12 => ?_)
            refine GE.goto (tgt := 68) dX10_game_56 (by decide) ?_
            exact GE.iret dX10_game_68 rfl (Nat.le_refl _) (Nat.le_refl _)
        · refine GE.ldcw (v := (-1000000)) dX10_game_38 lK_X10_404 ?_
          exact GE.iret dX10_game_41 rfl (Nat.le_refl _) (Nat.le_refl _)
def fX10_give (σ : St) (a0 : Nat) (px1 : Int32) : Option (Int32 × St) :=
  (gI 10 26 σ a0).bind fun x1 =>
  jo3 (fun (v2 : Int32) (v3 : Nat) (t4 : St) =>
    bo 10 t4 v3 (fX10_isRefused t4 v3 v2) (fun x6 t7 =>
    if x6 = 0 then
      bo 10 t7 a0 (fX10_keep t7 a0) (fun w8 t9 =>
      (gR 10 28 t9 a0).bind fun a10 =>
      (aI 0 t9 a10 40).bind fun x11 =>
      (sI 0 t9 a10 40 (x11 + px1)).bind (fun t12 =>
      (gR 10 28 t12 a0).bind fun a13 =>
      (aI 0 t12 a13 40).bind fun x14 =>
      some (x14, t12)))
    else
      some ((-1), t7))) (fun j5 =>
    if x1 = 0 then
      j5 0 a0 σ
    else
      bd (fX10_in σ px1 1 50) (fun x15 t16 =>
      jo1 (fun (v17 : Nat) =>
        j5 1 v17 t16) (fun j18 =>
        if x15 = 0 then
          j18 a0
        else
          (gR 10 28 t16 a0).bind fun a19 =>
          (aI 0 t16 a19 40).bind fun x20 =>
          if x20 + px1 ≤ 999 then
            j5 ((-1)) a0 t16
          else
            j18 a0)))
set_option maxHeartbeats 4000000 in
set_option maxRecDepth 100000 in
theorem gX10_give (σ : St) (a0 : Nat) (px1 : Int32) : CE vI mX10_give [.ref a0, .int px1] σ (fX10_give σ a0 px1) := by
  refine CE.ofGEF (lv := [(0, .ref a0), (1, .int px1)]) (by decide +kernel) (Nat.le_of_ble_eq_true rfl) rfl ?_
  unfold fX10_give
  refine GE.aload_n 0 dX10_give_0 rfl rfl ?_
  refine GE.aload_n 0 dX10_give_1 rfl rfl ?_
  refine GE.gI dX10_give_2 lF_X10_264 (fun x1 => ?_)
  refine GE.jo3 42 (fun (v2 : Int32) (v3 : Nat) (t4 : St) => [(0, .ref a0), (1, .int px1)]) (fun (v2 : Int32) (v3 : Nat) (t4 : St) => [.int v2, .ref v3]) (fun (v2 : Int32) (v3 : Nat) (t4 : St) => t4) (fun v2 v3 t4 => ?_) (fun j5 hj5 => ?_)
  · refine GE.callvI [.int v2] dX10_give_42 (lV_X10_354) rfl ⟨rfl, rfl⟩ (rokb rfl) (gX10_isRefused t4 v3 v2) (fun x6 t7 => ?_)
    refine GE.if_eq (tgt := 50) dX10_give_45 (by decide) ?_ ?_
    · refine GE.aload_n 0 dX10_give_50 rfl rfl ?_
      refine GE.callvU [] dX10_give_51 (lV_X10_357) rfl ⟨rfl, rfl⟩ (rokb rfl) (gX10_keep t7 a0) (fun w8 t9 => ?_)
      refine GE.aload_n 0 dX10_give_54 rfl rfl ?_
      refine GE.gR dX10_give_55 lF_X10_61 (fun a10 => ?_)
      refine GE.bipush dX10_give_58 kB_40 ?_
      refine GE.dup2 dX10_give_60 rfl rfl ?_
      refine GE.iald dX10_give_61 (fun x11 => ?_)
      refine GE.iload_n 1 dX10_give_62 rfl rfl ?_
      refine GE.iadd dX10_give_63 ?_
      refine GE.iast dX10_give_64 (fun t12 => ?_)
      refine GE.aload_n 0 dX10_give_65 rfl rfl ?_
      refine GE.gR dX10_give_66 lF_X10_61 (fun a13 => ?_)
      refine GE.bipush dX10_give_69 kB_40 ?_
      refine GE.iald dX10_give_71 (fun x14 => ?_)
      exact GE.iret dX10_give_72 rfl (Nat.le_refl _) (Nat.le_refl _)
    · refine GE.iconst dX10_give_48 kI_m1 ?_
      exact GE.iret dX10_give_49 rfl (Nat.le_refl _) (Nat.le_refl _)
  · refine GE.if_ne (tgt := 12) dX10_give_5 (by decide) ?_ ?_
    · refine GE.iload_n 1 dX10_give_12 rfl rfl ?_
      refine GE.iconst dX10_give_13 kI_1 ?_
      refine GE.bipush dX10_give_14 kB_50 ?_
      refine GE.callsI [.int px1, .int 1, .int 50] dX10_give_16 (lT_X10_217) rfl ⟨rfl, rfl⟩ (rokb rfl) (gX10_in σ px1 1 50) (fun x15 t16 => ?_)
      refine GE.jo1 37 (fun (v17 : Nat) => [(0, .ref a0), (1, .int px1)]) (fun (v17 : Nat) => [.ref v17]) (fun (v17 : Nat) => t16) (fun v17 => ?_) (fun j18 hj18 => ?_)
      · refine GE.iconst dX10_give_37 kI_1 ?_
        refine GE.goto (tgt := 42) dX10_give_38 (by decide) ?_
        exact hj5 1 v17 t16
      · refine GE.if_eq (tgt := 37) dX10_give_19 (by decide) ?_ ?_
        · exact hj18 a0
        · refine GE.aload_n 0 dX10_give_22 rfl rfl ?_
          refine GE.gR dX10_give_23 lF_X10_61 (fun a19 => ?_)
          refine GE.bipush dX10_give_26 kB_40 ?_
          refine GE.iald dX10_give_28 (fun x20 => ?_)
          refine GE.iload_n 1 dX10_give_29 rfl rfl ?_
          refine GE.iadd dX10_give_30 ?_
          refine GE.sipush dX10_give_31 kS_999 ?_
          refine GE.icmp_le (tgt := 41) dX10_give_34 (by decide) ?_ ?_
          · refine GE.iconst dX10_give_41 kI_m1 ?_
            exact hj5 ((-1)) a0 t16
          · exact hj18 a0
    · refine GE.iconst dX10_give_8 kI_0 ?_
      refine GE.goto (tgt := 42) dX10_give_9 (by decide) ?_
      exact hj5 0 a0 σ
def fX10_given (σ : St) (a0 : Nat) (px1 : Int32) (px2 : Int32) (px3 : Int32) : Option (Int32 × St) :=
  bo 10 σ a0 (fX10_isTower σ a0 px1) (fun x1 t2 =>
  if x1 = 0 then
    some ((-1), t2)
  else
    bo 10 t2 a0 (fX10_isCell t2 a0 px2) (fun x3 t4 =>
    if x3 = 0 then
      some ((-1), t4)
    else
      (gI 10 40 t4 a0).bind fun x5 =>
      if x5 = 10 then
        some ((-1), t4)
      else
        (gR 10 37 t4 a0).bind fun a6 =>
        (gI 10 40 t4 a0).bind fun x7 =>
        (sI 0 t4 a6 x7 px1).bind (fun t8 =>
        (gR 10 38 t8 a0).bind fun a9 =>
        (gI 10 40 t8 a0).bind fun x10 =>
        (sI 0 t8 a9 x10 px2).bind (fun t11 =>
        (gR 10 39 t11 a0).bind fun a12 =>
        (gI 10 40 t11 a0).bind fun x13 =>
        if zB px3 = true then (sI 1 t11 a12 x13 px3).bind (fun t14 =>
        (gI 10 40 t14 a0).bind fun x15 =>
        (pV 10 40 t14 a0 (.int (x15 + 1))).bind (fun t16 =>
        (gI 10 40 t16 a0).bind fun x17 =>
        some (x17, t16))) else none))))
set_option maxHeartbeats 4000000 in
set_option maxRecDepth 100000 in
theorem gX10_given (σ : St) (a0 : Nat) (px1 : Int32) (px2 : Int32) (px3 : Int32) : CE vI mX10_given [.ref a0, .int px1, .int px2, .int px3] σ (fX10_given σ a0 px1 px2 px3) := by
  refine CE.ofGEF (lv := [(0, .ref a0), (1, .int px1), (2, .int px2), (3, .int px3)]) (by decide +kernel) (Nat.le_of_ble_eq_true rfl) rfl ?_
  unfold fX10_given
  refine GE.aload_n 0 dX10_given_0 rfl rfl ?_
  refine GE.iload_n 1 dX10_given_1 rfl rfl ?_
  refine GE.callvI [.int px1] dX10_given_2 (lV_X10_340) rfl ⟨rfl, rfl⟩ (rokb rfl) (gX10_isTower σ a0 px1) (fun x1 t2 => ?_)
  refine GE.if_eq (tgt := 25) dX10_given_5 (by decide) ?_ ?_
  · refine GE.iconst dX10_given_25 kI_m1 ?_
    exact GE.iret dX10_given_26 rfl (Nat.le_refl _) (Nat.le_refl _)
  · refine GE.aload_n 0 dX10_given_8 rfl rfl ?_
    refine GE.iload_n 2 dX10_given_9 rfl rfl ?_
    refine GE.callvI [.int px2] dX10_given_10 (lV_X10_337) rfl ⟨rfl, rfl⟩ (rokb rfl) (gX10_isCell t2 a0 px2) (fun x3 t4 => ?_)
    refine GE.if_eq (tgt := 25) dX10_given_13 (by decide) ?_ ?_
    · refine GE.iconst dX10_given_25 kI_m1 ?_
      exact GE.iret dX10_given_26 rfl (Nat.le_refl _) (Nat.le_refl _)
    · refine GE.aload_n 0 dX10_given_16 rfl rfl ?_
      refine GE.gI dX10_given_17 lF_X10_270 (fun x5 => ?_)
      refine GE.bipush dX10_given_20 kB_10 ?_
      refine GE.icmp_ne (tgt := 27) dX10_given_22 (by decide) ?_ ?_
      · refine GE.aload_n 0 dX10_given_27 rfl rfl ?_
        refine GE.gR dX10_given_28 lF_X10_83 (fun a6 => ?_)
        refine GE.aload_n 0 dX10_given_31 rfl rfl ?_
        refine GE.gI dX10_given_32 lF_X10_270 (fun x7 => ?_)
        refine GE.iload_n 1 dX10_given_35 rfl rfl ?_
        refine GE.iast dX10_given_36 (fun t8 => ?_)
        refine GE.aload_n 0 dX10_given_37 rfl rfl ?_
        refine GE.gR dX10_given_38 lF_X10_86 (fun a9 => ?_)
        refine GE.aload_n 0 dX10_given_41 rfl rfl ?_
        refine GE.gI dX10_given_42 lF_X10_270 (fun x10 => ?_)
        refine GE.iload_n 2 dX10_given_45 rfl rfl ?_
        refine GE.iast dX10_given_46 (fun t11 => ?_)
        refine GE.aload_n 0 dX10_given_47 rfl rfl ?_
        refine GE.gR dX10_given_48 lF_X10_89 (fun a12 => ?_)
        refine GE.aload_n 0 dX10_given_51 rfl rfl ?_
        refine GE.gI dX10_given_52 lF_X10_270 (fun x13 => ?_)
        refine GE.iload_n 3 dX10_given_55 rfl rfl ?_
        refine GE.zast dX10_given_56 (fun t14 => ?_)
        refine GE.aload_n 0 dX10_given_57 rfl rfl ?_
        refine GE.dup dX10_given_58 rfl ?_
        refine GE.gI dX10_given_59 lF_X10_270 (fun x15 => ?_)
        refine GE.iconst dX10_given_62 kI_1 ?_
        refine GE.iadd dX10_given_63 ?_
        refine GE.pI dX10_given_64 lF_X10_270 (fun t16 => ?_)
        refine GE.aload_n 0 dX10_given_67 rfl rfl ?_
        refine GE.gI dX10_given_68 lF_X10_270 (fun x17 => ?_)
        exact GE.iret dX10_given_71 rfl (Nat.le_refl _) (Nat.le_refl _)
      · refine GE.iconst dX10_given_25 kI_m1 ?_
        exact GE.iret dX10_given_26 rfl (Nat.le_refl _) (Nat.le_refl _)
def fX10_heap (σ : St) (a0 : Nat) (px1 : Int32) : Option (Int32 × St) :=
  bo 10 σ a0 (fX10_heapBy σ a0 px1 9 1) (fun x1 t2 =>
  some (x1, t2))
set_option maxHeartbeats 4000000 in
set_option maxRecDepth 100000 in
theorem gX10_heap (σ : St) (a0 : Nat) (px1 : Int32) : CE vI mX10_heap [.ref a0, .int px1] σ (fX10_heap σ a0 px1) := by
  refine CE.ofGEF (lv := [(0, .ref a0), (1, .int px1)]) (by decide +kernel) (Nat.le_of_ble_eq_true rfl) rfl ?_
  unfold fX10_heap
  refine GE.aload_n 0 dX10_heap_0 rfl rfl ?_
  refine GE.iload_n 1 dX10_heap_1 rfl rfl ?_
  refine GE.bipush dX10_heap_2 kB_9 ?_
  refine GE.iconst dX10_heap_4 kI_1 ?_
  refine GE.callvI [.int px1, .int 9, .int 1] dX10_heap_5 (lV_X10_363) rfl ⟨rfl, rfl⟩ (rokb rfl) (gX10_heapBy σ a0 px1 9 1) (fun x1 t2 => ?_)
  exact GE.iret dX10_heap_8 rfl (Nat.le_refl _) (Nat.le_refl _)
def fX10_whole (σ : St) (a0 : Nat) : Option (Int32 × St) :=
  (gI 10 26 σ a0).bind fun x1 =>
  some ((1 <<< (x1 &&& 31)) - 1, σ)
set_option maxHeartbeats 4000000 in
set_option maxRecDepth 100000 in
theorem gX10_whole (σ : St) (a0 : Nat) : CE vI mX10_whole [.ref a0] σ (fX10_whole σ a0) := by
  refine CE.ofGEF (lv := [(0, .ref a0)]) (by decide +kernel) (Nat.le_of_ble_eq_true rfl) rfl ?_
  unfold fX10_whole
  refine GE.iconst dX10_whole_0 kI_1 ?_
  refine GE.aload_n 0 dX10_whole_1 rfl rfl ?_
  refine GE.gI dX10_whole_2 lF_X10_264 (fun x1 => ?_)
  refine GE.ishl dX10_whole_5 ?_
  refine GE.iconst dX10_whole_6 kI_1 ?_
  refine GE.isub dX10_whole_7 ?_
  exact GE.iret dX10_whole_8 rfl (Nat.le_refl _) (Nat.le_refl _)
def fX10_heard (σ : St) (a0 : Nat) (px1 : Int32) (px2 : Int32) : Option (Int32 × St) :=
  bo 10 σ a0 (fX10_isTower σ a0 px1) (fun x1 t2 =>
  if x1 = 0 then
    some ((-1), t2)
  else
    bo 10 t2 a0 (fX10_whole t2 a0) (fun x3 t4 =>
    bd (fX10_in t4 px2 0 x3) (fun x5 t6 =>
    if x5 = 0 then
      some ((-1), t6)
    else
      (gI 10 43 t6 a0).bind fun x7 =>
      if x7 = 10 then
        some ((-1), t6)
      else
        (gR 10 41 t6 a0).bind fun a8 =>
        (gI 10 43 t6 a0).bind fun x9 =>
        (sI 0 t6 a8 x9 px1).bind (fun t10 =>
        (gR 10 42 t10 a0).bind fun a11 =>
        (gI 10 43 t10 a0).bind fun x12 =>
        (sI 0 t10 a11 x12 px2).bind (fun t13 =>
        (gI 10 43 t13 a0).bind fun x14 =>
        (pV 10 43 t13 a0 (.int (x14 + 1))).bind (fun t15 =>
        (gI 10 43 t15 a0).bind fun x16 =>
        some (x16, t15)))))))
set_option maxHeartbeats 4000000 in
set_option maxRecDepth 100000 in
theorem gX10_heard (σ : St) (a0 : Nat) (px1 : Int32) (px2 : Int32) : CE vI mX10_heard [.ref a0, .int px1, .int px2] σ (fX10_heard σ a0 px1 px2) := by
  refine CE.ofGEF (lv := [(0, .ref a0), (1, .int px1), (2, .int px2)]) (by decide +kernel) (Nat.le_of_ble_eq_true rfl) rfl ?_
  unfold fX10_heard
  refine GE.aload_n 0 dX10_heard_0 rfl rfl ?_
  refine GE.iload_n 1 dX10_heard_1 rfl rfl ?_
  refine GE.callvI [.int px1] dX10_heard_2 (lV_X10_340) rfl ⟨rfl, rfl⟩ (rokb rfl) (gX10_isTower σ a0 px1) (fun x1 t2 => ?_)
  refine GE.if_eq (tgt := 29) dX10_heard_5 (by decide) ?_ ?_
  · refine GE.iconst dX10_heard_29 kI_m1 ?_
    exact GE.iret dX10_heard_30 rfl (Nat.le_refl _) (Nat.le_refl _)
  · refine GE.iload_n 2 dX10_heard_8 rfl rfl ?_
    refine GE.iconst dX10_heard_9 kI_0 ?_
    refine GE.aload_n 0 dX10_heard_10 rfl rfl ?_
    refine GE.callvI [] dX10_heard_11 (lV_X10_331) rfl ⟨rfl, rfl⟩ (rokb rfl) (gX10_whole t2 a0) (fun x3 t4 => ?_)
    refine GE.callsI [.int px2, .int 0, .int x3] dX10_heard_14 (lT_X10_217) rfl ⟨rfl, rfl⟩ (rokb rfl) (gX10_in t4 px2 0 x3) (fun x5 t6 => ?_)
    refine GE.if_eq (tgt := 29) dX10_heard_17 (by decide) ?_ ?_
    · refine GE.iconst dX10_heard_29 kI_m1 ?_
      exact GE.iret dX10_heard_30 rfl (Nat.le_refl _) (Nat.le_refl _)
    · refine GE.aload_n 0 dX10_heard_20 rfl rfl ?_
      refine GE.gI dX10_heard_21 lF_X10_273 (fun x7 => ?_)
      refine GE.bipush dX10_heard_24 kB_10 ?_
      refine GE.icmp_ne (tgt := 31) dX10_heard_26 (by decide) ?_ ?_
      · refine GE.aload_n 0 dX10_heard_31 rfl rfl ?_
        refine GE.gR dX10_heard_32 lF_X10_93 (fun a8 => ?_)
        refine GE.aload_n 0 dX10_heard_35 rfl rfl ?_
        refine GE.gI dX10_heard_36 lF_X10_273 (fun x9 => ?_)
        refine GE.iload_n 1 dX10_heard_39 rfl rfl ?_
        refine GE.iast dX10_heard_40 (fun t10 => ?_)
        refine GE.aload_n 0 dX10_heard_41 rfl rfl ?_
        refine GE.gR dX10_heard_42 lF_X10_96 (fun a11 => ?_)
        refine GE.aload_n 0 dX10_heard_45 rfl rfl ?_
        refine GE.gI dX10_heard_46 lF_X10_273 (fun x12 => ?_)
        refine GE.iload_n 2 dX10_heard_49 rfl rfl ?_
        refine GE.iast dX10_heard_50 (fun t13 => ?_)
        refine GE.aload_n 0 dX10_heard_51 rfl rfl ?_
        refine GE.dup dX10_heard_52 rfl ?_
        refine GE.gI dX10_heard_53 lF_X10_273 (fun x14 => ?_)
        refine GE.iconst dX10_heard_56 kI_1 ?_
        refine GE.iadd dX10_heard_57 ?_
        refine GE.pI dX10_heard_58 lF_X10_273 (fun t15 => ?_)
        refine GE.aload_n 0 dX10_heard_61 rfl rfl ?_
        refine GE.gI dX10_heard_62 lF_X10_273 (fun x16 => ?_)
        exact GE.iret dX10_heard_65 rfl (Nat.le_refl _) (Nat.le_refl _)
      · refine GE.iconst dX10_heard_29 kI_m1 ?_
        exact GE.iret dX10_heard_30 rfl (Nat.le_refl _) (Nat.le_refl _)
def fX10_height (σ : St) (a0 : Nat) (px1 : Int32) : Option (Int32 × St) :=
  bo 10 σ a0 (fX10_isCell σ a0 px1) (fun x1 t2 =>
  if x1 = 0 then
    some ((-1), t2)
  else
    (gR 10 28 t2 a0).bind fun a3 =>
    (aI 0 t2 a3 (0 + px1)).bind fun x4 =>
    some (x4, t2))
set_option maxHeartbeats 4000000 in
set_option maxRecDepth 100000 in
theorem gX10_height (σ : St) (a0 : Nat) (px1 : Int32) : CE vI mX10_height [.ref a0, .int px1] σ (fX10_height σ a0 px1) := by
  refine CE.ofGEF (lv := [(0, .ref a0), (1, .int px1)]) (by decide +kernel) (Nat.le_of_ble_eq_true rfl) rfl ?_
  unfold fX10_height
  refine GE.aload_n 0 dX10_height_0 rfl rfl ?_
  refine GE.iload_n 1 dX10_height_1 rfl rfl ?_
  refine GE.callvI [.int px1] dX10_height_2 (lV_X10_337) rfl ⟨rfl, rfl⟩ (rokb rfl) (gX10_isCell σ a0 px1) (fun x1 t2 => ?_)
  refine GE.if_eq (tgt := 19) dX10_height_5 (by decide) ?_ ?_
  · refine GE.iconst dX10_height_19 kI_m1 ?_
    exact GE.iret dX10_height_20 rfl (Nat.le_refl _) (Nat.le_refl _)
  · refine GE.aload_n 0 dX10_height_8 rfl rfl ?_
    refine GE.gR dX10_height_9 lF_X10_61 (fun a3 => ?_)
    refine GE.iconst dX10_height_12 kI_0 ?_
    refine GE.iload_n 1 dX10_height_13 rfl rfl ?_
    refine GE.iadd dX10_height_14 ?_
    refine GE.iald dX10_height_15 (fun x4 => ?_)
    refine GE.goto (tgt := 20) dX10_height_16 (by decide) ?_
    exact GE.iret dX10_height_20 rfl (Nat.le_refl _) (Nat.le_refl _)
def fX10_areHours (σ : St) (a0 : Nat) (px1 : Int32) : Option (Int32 × St) :=
  bd (fX10_in σ px1 1 60) (fun x1 t2 =>
  if x1 = 0 then
    some (0, t2)
  else
    (gR 10 28 t2 a0).bind fun a3 =>
    (aI 0 t2 a3 41).bind fun x4 =>
    if 9999 < x4 + px1 then
      some (0, t2)
    else
      some (1, t2))
set_option maxHeartbeats 4000000 in
set_option maxRecDepth 100000 in
theorem gX10_areHours (σ : St) (a0 : Nat) (px1 : Int32) : CE vI mX10_areHours [.ref a0, .int px1] σ (fX10_areHours σ a0 px1) := by
  refine CE.ofGEF (lv := [(0, .ref a0), (1, .int px1)]) (by decide +kernel) (Nat.le_of_ble_eq_true rfl) rfl ?_
  unfold fX10_areHours
  refine GE.iload_n 1 dX10_areHours_0 rfl rfl ?_
  refine GE.iconst dX10_areHours_1 kI_1 ?_
  refine GE.bipush dX10_areHours_2 kB_60 ?_
  refine GE.callsI [.int px1, .int 1, .int 60] dX10_areHours_4 (lT_X10_217) rfl ⟨rfl, rfl⟩ (rokb rfl) (gX10_in σ px1 1 60) (fun x1 t2 => ?_)
  refine GE.if_eq (tgt := 29) dX10_areHours_7 (by decide) ?_ ?_
  · refine GE.iconst dX10_areHours_29 kI_0 ?_
    exact GE.zretk dX10_areHours_30 rfl (Nat.le_refl _) (Nat.le_refl _) (by decide)
  · refine GE.aload_n 0 dX10_areHours_10 rfl rfl ?_
    refine GE.gR dX10_areHours_11 lF_X10_61 (fun a3 => ?_)
    refine GE.bipush dX10_areHours_14 kB_41 ?_
    refine GE.iald dX10_areHours_16 (fun x4 => ?_)
    refine GE.iload_n 1 dX10_areHours_17 rfl rfl ?_
    refine GE.iadd dX10_areHours_18 ?_
    refine GE.sipush dX10_areHours_19 kS_9999 ?_
    refine GE.icmp_gt (tgt := 29) dX10_areHours_22 (by decide) ?_ ?_
    · refine GE.iconst dX10_areHours_29 kI_0 ?_
      exact GE.zretk dX10_areHours_30 rfl (Nat.le_refl _) (Nat.le_refl _) (by decide)
    · refine GE.iconst dX10_areHours_25 kI_1 ?_
      refine GE.goto (tgt := 30) dX10_areHours_26 (by decide) ?_
      exact GE.zretk dX10_areHours_30 rfl (Nat.le_refl _) (Nat.le_refl _) (by decide)
def fX10_hid (σ : St) (a0 : Nat) : Option (Int32 × St) :=
  bo 10 σ a0 (fX10_whole σ a0) (fun x1 t2 =>
  bo 10 t2 a0 (fX10_seenByAll t2 a0) (fun x3 t4 =>
  some (x1 &&& (x3 ^^^ ((-1))), t4)))
set_option maxHeartbeats 4000000 in
set_option maxRecDepth 100000 in
theorem gX10_hid (σ : St) (a0 : Nat) : CE vI mX10_hid [.ref a0] σ (fX10_hid σ a0) := by
  refine CE.ofGEF (lv := [(0, .ref a0)]) (by decide +kernel) (Nat.le_of_ble_eq_true rfl) rfl ?_
  unfold fX10_hid
  refine GE.aload_n 0 dX10_hid_0 rfl rfl ?_
  refine GE.callvI [] dX10_hid_1 (lV_X10_331) rfl ⟨rfl, rfl⟩ (rokb rfl) (gX10_whole σ a0) (fun x1 t2 => ?_)
  refine GE.aload_n 0 dX10_hid_4 rfl rfl ?_
  refine GE.callvI [] dX10_hid_5 (lV_X10_334) rfl ⟨rfl, rfl⟩ (rokb rfl) (gX10_seenByAll t2 a0) (fun x3 t4 => ?_)
  refine GE.iconst dX10_hid_8 kI_m1 ?_
  refine GE.ixor dX10_hid_9 ?_
  refine GE.iand dX10_hid_10 ?_
  exact GE.iret dX10_hid_11 rfl (Nat.le_refl _) (Nat.le_refl _)
def fX10_passHour (σ : St) (a0 : Nat) : Option (Unit × St) :=
  (gR 10 28 σ a0).bind fun a1 =>
  (aI 0 σ a1 42).bind fun x2 =>
  jo1 (fun (t3 : St) =>
    (gR 10 28 t3 a0).bind fun a5 =>
    (aI 0 t3 a5 42).bind fun x6 =>
    nam (43 + (3 * x6) : Int32) (fun x7 =>
    (gR 10 28 t3 a0).bind fun a8 =>
    bo 10 t3 a0 (fX10_hid t3 a0) (fun x9 t10 =>
    bd (fJ6_bitCount_0f7a4 t10 x9) (fun x11 t12 =>
    (sI 0 t12 a8 x7 x11).bind (fun t13 =>
    (gR 10 28 t13 a0).bind fun a14 =>
    (gR 10 28 t13 a0).bind fun a15 =>
    (aI 0 t13 a15 38).bind fun x16 =>
    (sI 0 t13 a14 (x7 + 1) x16).bind (fun t17 =>
    (gR 10 28 t17 a0).bind fun a18 =>
    (gR 10 28 t17 a0).bind fun a19 =>
    (aI 0 t17 a19 39).bind fun x20 =>
    (sI 0 t17 a18 (x7 + 2) x20).bind (fun t21 =>
    (gR 10 28 t21 a0).bind fun a22 =>
    (aI 0 t21 a22 42).bind fun x23 =>
    (sI 0 t21 a22 42 (x23 + 1)).bind (fun t24 =>
    (gR 10 28 t24 a0).bind fun a25 =>
    (gR 10 28 t24 a0).bind fun a26 =>
    (aI 0 t24 a26 39).bind fun x27 =>
    bd (fJ9_max_7cf53 t24 0 (x27 - 1)) (fun x28 t29 =>
    (sI 0 t29 a25 39 x28).bind (fun t30 =>
    (gR 10 28 t30 a0).bind fun a31 =>
    (gR 10 28 t30 a0).bind fun a32 =>
    (aI 0 t30 a32 40).bind fun x33 =>
    bd (fJ9_min_7cf53 t30 999 (x33 + 1)) (fun x34 t35 =>
    (sI 0 t35 a31 40 x34).bind (fun t36 =>
    (gR 10 28 t36 a0).bind fun a37 =>
    (aI 0 t36 a37 41).bind fun x38 =>
    (sI 0 t36 a37 41 (x38 + 1)).bind (fun t39 =>
    some ((), t39)))))))))))))) (fun j4 =>
    if x2 = 60 then
      lo2 (fun l42 (x40 : Int32) (t41 : St) =>
        if 180 ≤ x40 then
        (gR 10 28 t41 a0).bind fun a43 =>
        (aI 0 t41 a43 42).bind fun x44 =>
        (sI 0 t41 a43 42 (x44 - 1)).bind (fun t45 =>
        j4 t45)
      else
        (gR 10 28 t41 a0).bind fun a46 =>
        (gR 10 28 t41 a0).bind fun a47 =>
        (aI 0 t41 a47 (43 + x40)).bind fun x48 =>
        (sI 0 t41 a46 ((43 + x40) - 3) x48).bind (fun t49 =>
        l42 (x40 + 1) t49)) FU 3 σ
    else
      j4 σ)
set_option maxHeartbeats 4000000 in
set_option maxRecDepth 100000 in
theorem gX10_passHour (σ : St) (a0 : Nat) : CE vU mX10_passHour [.ref a0] σ (fX10_passHour σ a0) := by
  refine CE.ofGEF (lv := [(0, .ref a0)]) (by decide +kernel) (Nat.le_of_ble_eq_true rfl) rfl ?_
  unfold fX10_passHour
  refine GE.aload_n 0 dX10_passHour_0 rfl rfl ?_
  refine GE.gR dX10_passHour_1 lF_X10_61 (fun a1 => ?_)
  refine GE.bipush dX10_passHour_4 kB_42 ?_
  refine GE.iald dX10_passHour_6 (fun x2 => ?_)
  refine GE.bipush dX10_passHour_7 kB_60 ?_
  refine GE.jo1 58 (fun (t3 : St) => [(0, .ref a0)]) (fun (t3 : St) => []) (fun (t3 : St) => t3) (fun t3 => ?_) (fun j4 hj4 => ?_)
  · refine GE.bipush dX10_passHour_58 kB_43 ?_
    refine GE.iconst dX10_passHour_60 kI_3 ?_
    refine GE.aload_n 0 dX10_passHour_61 rfl rfl ?_
    refine GE.gR dX10_passHour_62 lF_X10_61 (fun a5 => ?_)
    refine GE.bipush dX10_passHour_65 kB_42 ?_
    refine GE.iald dX10_passHour_67 (fun x6 => ?_)
    refine GE.imul dX10_passHour_68 ?_
    refine GE.iadd dX10_passHour_69 ?_
    refine GE.nami (fun x7 => ?_)
    refine GE.istore_n (lv' := [(0, .ref a0), (1, .int x7)]) dX10_passHour_70 rfl (by decide) [1, 0] rfl ?_
    refine GE.aload_n 0 dX10_passHour_71 rfl rfl ?_
    refine GE.gR dX10_passHour_72 lF_X10_61 (fun a8 => ?_)
    refine GE.iload_n 1 dX10_passHour_75 rfl rfl ?_
    refine GE.aload_n 0 dX10_passHour_76 rfl rfl ?_
    refine GE.callvI [] dX10_passHour_77 (lV_X10_348) rfl ⟨rfl, rfl⟩ (rokb rfl) (gX10_hid t3 a0) (fun x9 t10 => ?_)
    refine GE.callsI [.int x9] dX10_passHour_80 (lT_X10_343) rfl ⟨rfl, rfl⟩ (rokb rfl) (gJ6_bitCount_0f7a4 t10 x9) (fun x11 t12 => ?_)
    refine GE.iast dX10_passHour_83 (fun t13 => ?_)
    refine GE.aload_n 0 dX10_passHour_84 rfl rfl ?_
    refine GE.gR dX10_passHour_85 lF_X10_61 (fun a14 => ?_)
    refine GE.iload_n 1 dX10_passHour_88 rfl rfl ?_
    refine GE.iconst dX10_passHour_89 kI_1 ?_
    refine GE.iadd dX10_passHour_90 ?_
    refine GE.aload_n 0 dX10_passHour_91 rfl rfl ?_
    refine GE.gR dX10_passHour_92 lF_X10_61 (fun a15 => ?_)
    refine GE.bipush dX10_passHour_95 kB_38 ?_
    refine GE.iald dX10_passHour_97 (fun x16 => ?_)
    refine GE.iast dX10_passHour_98 (fun t17 => ?_)
    refine GE.aload_n 0 dX10_passHour_99 rfl rfl ?_
    refine GE.gR dX10_passHour_100 lF_X10_61 (fun a18 => ?_)
    refine GE.iload_n 1 dX10_passHour_103 rfl rfl ?_
    refine GE.iconst dX10_passHour_104 kI_2 ?_
    refine GE.iadd dX10_passHour_105 ?_
    refine GE.aload_n 0 dX10_passHour_106 rfl rfl ?_
    refine GE.gR dX10_passHour_107 lF_X10_61 (fun a19 => ?_)
    refine GE.bipush dX10_passHour_110 kB_39 ?_
    refine GE.iald dX10_passHour_112 (fun x20 => ?_)
    refine GE.iast dX10_passHour_113 (fun t21 => ?_)
    refine GE.aload_n 0 dX10_passHour_114 rfl rfl ?_
    refine GE.gR dX10_passHour_115 lF_X10_61 (fun a22 => ?_)
    refine GE.bipush dX10_passHour_118 kB_42 ?_
    refine GE.dup2 dX10_passHour_120 rfl rfl ?_
    refine GE.iald dX10_passHour_121 (fun x23 => ?_)
    refine GE.iconst dX10_passHour_122 kI_1 ?_
    refine GE.iadd dX10_passHour_123 ?_
    refine GE.iast dX10_passHour_124 (fun t24 => ?_)
    refine GE.aload_n 0 dX10_passHour_125 rfl rfl ?_
    refine GE.gR dX10_passHour_126 lF_X10_61 (fun a25 => ?_)
    refine GE.bipush dX10_passHour_129 kB_39 ?_
    refine GE.iconst dX10_passHour_131 kI_0 ?_
    refine GE.aload_n 0 dX10_passHour_132 rfl rfl ?_
    refine GE.gR dX10_passHour_133 lF_X10_61 (fun a26 => ?_)
    refine GE.bipush dX10_passHour_136 kB_39 ?_
    refine GE.iald dX10_passHour_138 (fun x27 => ?_)
    refine GE.iconst dX10_passHour_139 kI_1 ?_
    refine GE.isub dX10_passHour_140 ?_
    refine GE.callsI [.int 0, .int (x27 - 1)] dX10_passHour_141 (lT_X10_301) rfl ⟨rfl, rfl⟩ (rokb rfl) (gJ9_max_7cf53 t24 0 (x27 - 1)) (fun x28 t29 => ?_)
    refine GE.iast dX10_passHour_144 (fun t30 => ?_)
    refine GE.aload_n 0 dX10_passHour_145 rfl rfl ?_
    refine GE.gR dX10_passHour_146 lF_X10_61 (fun a31 => ?_)
    refine GE.bipush dX10_passHour_149 kB_40 ?_
    refine GE.sipush dX10_passHour_151 kS_999 ?_
    refine GE.aload_n 0 dX10_passHour_154 rfl rfl ?_
    refine GE.gR dX10_passHour_155 lF_X10_61 (fun a32 => ?_)
    refine GE.bipush dX10_passHour_158 kB_40 ?_
    refine GE.iald dX10_passHour_160 (fun x33 => ?_)
    refine GE.iconst dX10_passHour_161 kI_1 ?_
    refine GE.iadd dX10_passHour_162 ?_
    refine GE.callsI [.int 999, .int (x33 + 1)] dX10_passHour_163 (lT_X10_309) rfl ⟨rfl, rfl⟩ (rokb rfl) (gJ9_min_7cf53 t30 999 (x33 + 1)) (fun x34 t35 => ?_)
    refine GE.iast dX10_passHour_166 (fun t36 => ?_)
    refine GE.aload_n 0 dX10_passHour_167 rfl rfl ?_
    refine GE.gR dX10_passHour_168 lF_X10_61 (fun a37 => ?_)
    refine GE.bipush dX10_passHour_171 kB_41 ?_
    refine GE.dup2 dX10_passHour_173 rfl rfl ?_
    refine GE.iald dX10_passHour_174 (fun x38 => ?_)
    refine GE.iconst dX10_passHour_175 kI_1 ?_
    refine GE.iadd dX10_passHour_176 ?_
    refine GE.iast dX10_passHour_177 (fun t39 => ?_)
    exact GE.vret (x := ()) dX10_passHour_178 rfl (Nat.le_refl _) (Nat.le_refl _)
  · refine GE.icmp_ne (tgt := 58) dX10_passHour_9 (by decide) ?_ ?_
    · exact hj4 σ
    · refine GE.iconst dX10_passHour_12 kI_3 ?_
      refine GE.istore_n (lv' := [(0, .ref a0), (1, .int 3)]) dX10_passHour_13 rfl (by decide) [1, 0] rfl ?_
      refine (GE.lo2 (fun (x40 : Int32) (t41 : St) => [(0, .ref a0), (1, .int x40)]) (fun (x40 : Int32) (t41 : St) => []) (fun (x40 : Int32) (t41 : St) => t41) (fun l42 hl42 x40 t41 => ?_) FU 3 σ)
      refine GE.iload_n 1 dX10_passHour_14 rfl rfl ?_
      refine GE.sipush dX10_passHour_15 kS_180 ?_
      refine GE.icmp_ge (tgt := 47) dX10_passHour_18 (by decide) ?_ ?_
      · refine GE.aload_n 0 dX10_passHour_47 rfl rfl ?_
        refine GE.gR dX10_passHour_48 lF_X10_61 (fun a43 => ?_)
        refine GE.bipush dX10_passHour_51 kB_42 ?_
        refine GE.dup2 dX10_passHour_53 rfl rfl ?_
        refine GE.iald dX10_passHour_54 (fun x44 => ?_)
        refine GE.iconst dX10_passHour_55 kI_1 ?_
        refine GE.isub dX10_passHour_56 ?_
        refine GE.iast dX10_passHour_57 (fun t45 => ?_)
        exact GE.sub [0] rfl (hj4 t45)
      · refine GE.aload_n 0 dX10_passHour_21 rfl rfl ?_
        refine GE.gR dX10_passHour_22 lF_X10_61 (fun a46 => ?_)
        refine GE.bipush dX10_passHour_25 kB_43 ?_
        refine GE.iload_n 1 dX10_passHour_27 rfl rfl ?_
        refine GE.iadd dX10_passHour_28 ?_
        refine GE.iconst dX10_passHour_29 kI_3 ?_
        refine GE.isub dX10_passHour_30 ?_
        refine GE.aload_n 0 dX10_passHour_31 rfl rfl ?_
        refine GE.gR dX10_passHour_32 lF_X10_61 (fun a47 => ?_)
        refine GE.bipush dX10_passHour_35 kB_43 ?_
        refine GE.iload_n 1 dX10_passHour_37 rfl rfl ?_
        refine GE.iadd dX10_passHour_38 ?_
        refine GE.iald dX10_passHour_39 (fun x48 => ?_)
        refine GE.iast dX10_passHour_40 (fun t49 => ?_)
        refine GE.iinc (lv' := [(0, .ref a0), (1, .int (x40 + 1))]) 1 dX10_passHour_41 rfl kI_1 (by decide) [1, 0] rfl ?_
        refine GE.goto (tgt := 14) dX10_passHour_44 (by decide) ?_
        exact hl42 (x40 + 1) t49
def fX10_hours (σ : St) (a0 : Nat) (px1 : Int32) : Option (Int32 × St) :=
  (gI 10 26 σ a0).bind fun x1 =>
  jo3 (fun (v2 : Int32) (v3 : Nat) (t4 : St) =>
    bo 10 t4 v3 (fX10_isRefused t4 v3 v2) (fun x6 t7 =>
    if x6 = 0 then
      lo2 (fun l10 (x8 : Int32) (t9 : St) =>
        if px1 ≤ x8 then
        (gR 10 28 t9 a0).bind fun a11 =>
        (aI 0 t9 a11 41).bind fun x12 =>
        some (x12, t9)
      else
        bo 10 t9 a0 (fX10_keep t9 a0) (fun w13 t14 =>
        bo 10 t14 a0 (fX10_passHour t14 a0) (fun w15 t16 =>
        l10 (x8 + 1) t16))) FU 0 t7
    else
      some ((-1), t7))) (fun j5 =>
    if x1 = 0 then
      j5 0 a0 σ
    else
      bd (fX10_in σ px1 1 60) (fun x17 t18 =>
      if x17 = 0 then
        j5 1 a0 t18
      else
        bo 10 t18 a0 (fX10_areHours t18 a0 px1) (fun x19 t20 =>
        if x19 = 0 then
          j5 4 a0 t20
        else
          j5 ((-1)) a0 t20)))
set_option maxHeartbeats 4000000 in
set_option maxRecDepth 100000 in
theorem gX10_hours (σ : St) (a0 : Nat) (px1 : Int32) : CE vI mX10_hours [.ref a0, .int px1] σ (fX10_hours σ a0 px1) := by
  refine CE.ofGEF (lv := [(0, .ref a0), (1, .int px1)]) (by decide +kernel) (Nat.le_of_ble_eq_true rfl) rfl ?_
  unfold fX10_hours
  refine GE.aload_n 0 dX10_hours_0 rfl rfl ?_
  refine GE.aload_n 0 dX10_hours_1 rfl rfl ?_
  refine GE.gI dX10_hours_2 lF_X10_264 (fun x1 => ?_)
  refine GE.jo3 39 (fun (v2 : Int32) (v3 : Nat) (t4 : St) => [(0, .ref a0), (1, .int px1)]) (fun (v2 : Int32) (v3 : Nat) (t4 : St) => [.int v2, .ref v3]) (fun (v2 : Int32) (v3 : Nat) (t4 : St) => t4) (fun v2 v3 t4 => ?_) (fun j5 hj5 => ?_)
  · refine GE.callvI [.int v2] dX10_hours_39 (lV_X10_354) rfl ⟨rfl, rfl⟩ (rokb rfl) (gX10_isRefused t4 v3 v2) (fun x6 t7 => ?_)
    refine GE.if_eq (tgt := 47) dX10_hours_42 (by decide) ?_ ?_
    · refine GE.iconst dX10_hours_47 kI_0 ?_
      refine GE.istore_n (lv' := [(0, .ref a0), (1, .int px1), (2, .int 0)]) dX10_hours_48 rfl (by decide) [1, 2, 0] rfl ?_
      refine (GE.lo2 (fun (x8 : Int32) (t9 : St) => [(0, .ref a0), (1, .int px1), (2, .int x8)]) (fun (x8 : Int32) (t9 : St) => []) (fun (x8 : Int32) (t9 : St) => t9) (fun l10 hl10 x8 t9 => ?_) FU 0 t7)
      refine GE.iload_n 2 dX10_hours_49 rfl rfl ?_
      refine GE.iload_n 1 dX10_hours_50 rfl rfl ?_
      refine GE.icmp_ge (tgt := 68) dX10_hours_51 (by decide) ?_ ?_
      · refine GE.aload_n 0 dX10_hours_68 rfl rfl ?_
        refine GE.gR dX10_hours_69 lF_X10_61 (fun a11 => ?_)
        refine GE.bipush dX10_hours_72 kB_41 ?_
        refine GE.iald dX10_hours_74 (fun x12 => ?_)
        exact GE.iret dX10_hours_75 rfl (Nat.le_refl _) (Nat.le_refl _)
      · refine GE.aload_n 0 dX10_hours_54 rfl rfl ?_
        refine GE.callvU [] dX10_hours_55 (lV_X10_357) rfl ⟨rfl, rfl⟩ (rokb rfl) (gX10_keep t9 a0) (fun w13 t14 => ?_)
        refine GE.aload_n 0 dX10_hours_58 rfl rfl ?_
        refine GE.callvU [] dX10_hours_59 (lV_X10_360) rfl ⟨rfl, rfl⟩ (rokb rfl) (gX10_passHour t14 a0) (fun w15 t16 => ?_)
        refine GE.iinc (lv' := [(0, .ref a0), (1, .int px1), (2, .int (x8 + 1))]) 2 dX10_hours_62 rfl kI_1 (by decide) [1, 2, 0] rfl ?_
        refine GE.goto (tgt := 49) dX10_hours_65 (by decide) ?_
        exact hl10 (x8 + 1) t16
    · refine GE.iconst dX10_hours_45 kI_m1 ?_
      exact GE.iret dX10_hours_46 rfl (Nat.le_refl _) (Nat.le_refl _)
  · refine GE.if_ne (tgt := 12) dX10_hours_5 (by decide) ?_ ?_
    · refine GE.iload_n 1 dX10_hours_12 rfl rfl ?_
      refine GE.iconst dX10_hours_13 kI_1 ?_
      refine GE.bipush dX10_hours_14 kB_60 ?_
      refine GE.callsI [.int px1, .int 1, .int 60] dX10_hours_16 (lT_X10_217) rfl ⟨rfl, rfl⟩ (rokb rfl) (gX10_in σ px1 1 60) (fun x17 t18 => ?_)
      refine GE.if_ne (tgt := 26) dX10_hours_19 (by decide) ?_ ?_
      · refine GE.aload_n 0 dX10_hours_26 rfl rfl ?_
        refine GE.iload_n 1 dX10_hours_27 rfl rfl ?_
        refine GE.callvI [.int px1] dX10_hours_28 (lV_X10_351) rfl ⟨rfl, rfl⟩ (rokb rfl) (gX10_areHours t18 a0 px1) (fun x19 t20 => ?_)
        refine GE.if_ne (tgt := 38) dX10_hours_31 (by decide) ?_ ?_
        · refine GE.iconst dX10_hours_38 kI_m1 ?_
          exact hj5 ((-1)) a0 t20
        · refine GE.iconst dX10_hours_34 kI_4 ?_
          refine GE.goto (tgt := 39) dX10_hours_35 (by decide) ?_
          exact hj5 4 a0 t20
      · refine GE.iconst dX10_hours_22 kI_1 ?_
        refine GE.goto (tgt := 39) dX10_hours_23 (by decide) ?_
        exact hj5 1 a0 t18
    · refine GE.iconst dX10_hours_8 kI_0 ?_
      refine GE.goto (tgt := 39) dX10_hours_9 (by decide) ?_
      exact hj5 0 a0 σ
def fX10_image (σ : St) (a0 : Nat) : Option (Int32 × St) :=
  (gI 10 26 σ a0).bind fun x1 =>
  if x1 = 0 then
    some ((-1), σ)
  else
    lo2 (fun l4 (x2 : Int32) (t3 : St) =>
      if 223 ≤ x2 then
      if zB 1 = true then (pV 10 45 t3 a0 (.int 1)).bind (fun t5 =>
      (gR 10 28 t5 a0).bind fun a6 =>
      (aI 0 t5 a6 41).bind fun x7 =>
      some (x7, t5)) else none
    else
      (gR 10 44 t3 a0).bind fun a8 =>
      (gR 10 28 t3 a0).bind fun a9 =>
      (aI 0 t3 a9 x2).bind fun x10 =>
      (sI 0 t3 a8 x2 x10).bind (fun t11 =>
      l4 (x2 + 1) t11)) FU 0 σ
set_option maxHeartbeats 4000000 in
set_option maxRecDepth 100000 in
theorem gX10_image (σ : St) (a0 : Nat) : CE vI mX10_image [.ref a0] σ (fX10_image σ a0) := by
  refine CE.ofGEF (lv := [(0, .ref a0)]) (by decide +kernel) (Nat.le_of_ble_eq_true rfl) rfl ?_
  unfold fX10_image
  refine GE.aload_n 0 dX10_image_0 rfl rfl ?_
  refine GE.gI dX10_image_1 lF_X10_264 (fun x1 => ?_)
  refine GE.if_ne (tgt := 9) dX10_image_4 (by decide) ?_ ?_
  · refine GE.iconst dX10_image_9 kI_0 ?_
    refine GE.istore_n (lv' := [(0, .ref a0), (1, .int 0)]) dX10_image_10 rfl (by decide) [1, 0] rfl ?_
    refine (GE.lo2 (fun (x2 : Int32) (t3 : St) => [(0, .ref a0), (1, .int x2)]) (fun (x2 : Int32) (t3 : St) => []) (fun (x2 : Int32) (t3 : St) => t3) (fun l4 hl4 x2 t3 => ?_) FU 0 σ)
    refine GE.iload_n 1 dX10_image_11 rfl rfl ?_
    refine GE.sipush dX10_image_12 kS_223 ?_
    refine GE.icmp_ge (tgt := 36) dX10_image_15 (by decide) ?_ ?_
    · refine GE.aload_n 0 dX10_image_36 rfl rfl ?_
      refine GE.iconst dX10_image_37 kI_1 ?_
      refine GE.pZ dX10_image_38 lF_X10_279 (fun t5 => ?_)
      refine GE.aload_n 0 dX10_image_41 rfl rfl ?_
      refine GE.gR dX10_image_42 lF_X10_61 (fun a6 => ?_)
      refine GE.bipush dX10_image_45 kB_41 ?_
      refine GE.iald dX10_image_47 (fun x7 => ?_)
      exact GE.iret dX10_image_48 rfl (Nat.le_refl _) (Nat.le_refl _)
    · refine GE.aload_n 0 dX10_image_18 rfl rfl ?_
      refine GE.gR dX10_image_19 lF_X10_99 (fun a8 => ?_)
      refine GE.iload_n 1 dX10_image_22 rfl rfl ?_
      refine GE.aload_n 0 dX10_image_23 rfl rfl ?_
      refine GE.gR dX10_image_24 lF_X10_61 (fun a9 => ?_)
      refine GE.iload_n 1 dX10_image_27 rfl rfl ?_
      refine GE.iald dX10_image_28 (fun x10 => ?_)
      refine GE.iast dX10_image_29 (fun t11 => ?_)
      refine GE.iinc (lv' := [(0, .ref a0), (1, .int (x2 + 1))]) 1 dX10_image_30 rfl kI_1 (by decide) [1, 0] rfl ?_
      refine GE.goto (tgt := 11) dX10_image_33 (by decide) ?_
      exact hl4 (x2 + 1) t11
  · refine GE.iconst dX10_image_7 kI_m1 ?_
    exact GE.iret dX10_image_8 rfl (Nat.le_refl _) (Nat.le_refl _)
def fX10_law (σ : St) (a0 : Nat) (px1 : Int32) : Option (Int32 × St) :=
  (gI 10 13 σ a0).bind fun x1 =>
  bd (fX10_in σ px1 ((-1)) (x1 - 1)) (fun x2 t3 =>
  if x2 = 0 then
    some (0, t3)
  else
    (pV 10 30 t3 a0 (.int px1)).bind (fun t4 =>
    some (1, t4)))
set_option maxHeartbeats 4000000 in
set_option maxRecDepth 100000 in
theorem gX10_law (σ : St) (a0 : Nat) (px1 : Int32) : CE vI mX10_law [.ref a0, .int px1] σ (fX10_law σ a0 px1) := by
  refine CE.ofGEF (lv := [(0, .ref a0), (1, .int px1)]) (by decide +kernel) (Nat.le_of_ble_eq_true rfl) rfl ?_
  unfold fX10_law
  refine GE.iload_n 1 dX10_law_0 rfl rfl ?_
  refine GE.iconst dX10_law_1 kI_m1 ?_
  refine GE.aload_n 0 dX10_law_2 rfl rfl ?_
  refine GE.gI dX10_law_3 lF_X10_286 (fun x1 => ?_)
  refine GE.iconst dX10_law_6 kI_1 ?_
  refine GE.isub dX10_law_7 ?_
  refine GE.callsI [.int px1, .int ((-1)), .int (x1 - 1)] dX10_law_8 (lT_X10_217) rfl ⟨rfl, rfl⟩ (rokb rfl) (gX10_in σ px1 ((-1)) (x1 - 1)) (fun x2 t3 => ?_)
  refine GE.if_ne (tgt := 16) dX10_law_11 (by decide) ?_ ?_
  · refine GE.aload_n 0 dX10_law_16 rfl rfl ?_
    refine GE.iload_n 1 dX10_law_17 rfl rfl ?_
    refine GE.pI dX10_law_18 lF_X10_67 (fun t4 => ?_)
    refine GE.iconst dX10_law_21 kI_1 ?_
    exact GE.zretk dX10_law_22 rfl (Nat.le_refl _) (Nat.le_refl _) (by decide)
  · refine GE.iconst dX10_law_14 kI_0 ?_
    exact GE.zretk dX10_law_15 rfl (Nat.le_refl _) (Nat.le_refl _) (by decide)
def fX10_log (σ : St) (a0 : Nat) (px1 : Int32) (px2 : Int32) : Option (Int32 × St) :=
  (gR 10 28 σ a0).bind fun a1 =>
  (aI 0 σ a1 42).bind fun x2 =>
  bd (fX10_in σ px1 0 (x2 - 1)) (fun x3 t4 =>
  if x3 = 0 then
    some ((-1), t4)
  else
    bd (fX10_in t4 px2 0 2) (fun x5 t6 =>
    if x5 = 0 then
      some ((-1), t6)
    else
      (gR 10 28 t6 a0).bind fun a7 =>
      (gR 10 28 t6 a0).bind fun a8 =>
      (aI 0 t6 a8 42).bind fun x9 =>
      (aI 0 t6 a7 ((43 + (3 * ((x9 - 1) - px1))) + px2)).bind fun x10 =>
      some (x10, t6)))
set_option maxHeartbeats 4000000 in
set_option maxRecDepth 100000 in
theorem gX10_log (σ : St) (a0 : Nat) (px1 : Int32) (px2 : Int32) : CE vI mX10_log [.ref a0, .int px1, .int px2] σ (fX10_log σ a0 px1 px2) := by
  refine CE.ofGEF (lv := [(0, .ref a0), (1, .int px1), (2, .int px2)]) (by decide +kernel) (Nat.le_of_ble_eq_true rfl) rfl ?_
  unfold fX10_log
  refine GE.iload_n 1 dX10_log_0 rfl rfl ?_
  refine GE.iconst dX10_log_1 kI_0 ?_
  refine GE.aload_n 0 dX10_log_2 rfl rfl ?_
  refine GE.gR dX10_log_3 lF_X10_61 (fun a1 => ?_)
  refine GE.bipush dX10_log_6 kB_42 ?_
  refine GE.iald dX10_log_8 (fun x2 => ?_)
  refine GE.iconst dX10_log_9 kI_1 ?_
  refine GE.isub dX10_log_10 ?_
  refine GE.callsI [.int px1, .int 0, .int (x2 - 1)] dX10_log_11 (lT_X10_217) rfl ⟨rfl, rfl⟩ (rokb rfl) (gX10_in σ px1 0 (x2 - 1)) (fun x3 t4 => ?_)
  refine GE.if_eq (tgt := 52) dX10_log_14 (by decide) ?_ ?_
  · refine GE.iconst dX10_log_52 kI_m1 ?_
    exact GE.iret dX10_log_53 rfl (Nat.le_refl _) (Nat.le_refl _)
  · refine GE.iload_n 2 dX10_log_17 rfl rfl ?_
    refine GE.iconst dX10_log_18 kI_0 ?_
    refine GE.iconst dX10_log_19 kI_2 ?_
    refine GE.callsI [.int px2, .int 0, .int 2] dX10_log_20 (lT_X10_217) rfl ⟨rfl, rfl⟩ (rokb rfl) (gX10_in t4 px2 0 2) (fun x5 t6 => ?_)
    refine GE.if_eq (tgt := 52) dX10_log_23 (by decide) ?_ ?_
    · refine GE.iconst dX10_log_52 kI_m1 ?_
      exact GE.iret dX10_log_53 rfl (Nat.le_refl _) (Nat.le_refl _)
    · refine GE.aload_n 0 dX10_log_26 rfl rfl ?_
      refine GE.gR dX10_log_27 lF_X10_61 (fun a7 => ?_)
      refine GE.bipush dX10_log_30 kB_43 ?_
      refine GE.iconst dX10_log_32 kI_3 ?_
      refine GE.aload_n 0 dX10_log_33 rfl rfl ?_
      refine GE.gR dX10_log_34 lF_X10_61 (fun a8 => ?_)
      refine GE.bipush dX10_log_37 kB_42 ?_
      refine GE.iald dX10_log_39 (fun x9 => ?_)
      refine GE.iconst dX10_log_40 kI_1 ?_
      refine GE.isub dX10_log_41 ?_
      refine GE.iload_n 1 dX10_log_42 rfl rfl ?_
      refine GE.isub dX10_log_43 ?_
      refine GE.imul dX10_log_44 ?_
      refine GE.iadd dX10_log_45 ?_
      refine GE.iload_n 2 dX10_log_46 rfl rfl ?_
      refine GE.iadd dX10_log_47 ?_
      refine GE.iald dX10_log_48 (fun x10 => ?_)
      refine GE.goto (tgt := 53) dX10_log_49 (by decide) ?_
      exact GE.iret dX10_log_53 rfl (Nat.le_refl _) (Nat.le_refl _)
def fX10_aloneOf (σ : St) (a0 : Nat) (px1 : Int32) : Option (Int32 × St) :=
  bo 10 σ a0 (fX10_seenBy σ a0 px1) (fun x1 t2 =>
  lo3 (fun l6 (x3 : Int32) (x4 : Int32) (t5 : St) =>
    (gI 10 27 t5 a0).bind fun x7 =>
  if x7 ≤ x4 then
    some (x3, t5)
  else
    jo3 (fun (v8 : Int32) (v9 : Int32) (t10 : St) =>
      nam (v9 &&& v8 : Int32) (fun x12 =>
      l6 x12 (x4 + 1) t10)) (fun j11 =>
      if x4 = px1 then
        bo 10 t5 a0 (fX10_whole t5 a0) (fun x15 t16 =>
        j11 x15 x3 t16)
      else
        bo 10 t5 a0 (fX10_seenBy t5 a0 x4) (fun x13 t14 =>
        j11 (x13 ^^^ ((-1))) x3 t14))) FU x1 0 t2)
set_option maxHeartbeats 4000000 in
set_option maxRecDepth 100000 in
theorem gX10_aloneOf (σ : St) (a0 : Nat) (px1 : Int32) : CE vI mX10_aloneOf [.ref a0, .int px1] σ (fX10_aloneOf σ a0 px1) := by
  refine CE.ofGEF (lv := [(0, .ref a0), (1, .int px1)]) (by decide +kernel) (Nat.le_of_ble_eq_true rfl) rfl ?_
  unfold fX10_aloneOf
  refine GE.aload_n 0 dX10_aloneOf_0 rfl rfl ?_
  refine GE.iload_n 1 dX10_aloneOf_1 rfl rfl ?_
  refine GE.callvI [.int px1] dX10_aloneOf_2 (lV_X10_328) rfl ⟨rfl, rfl⟩ (rokb rfl) (gX10_seenBy σ a0 px1) (fun x1 t2 => ?_)
  refine GE.istore_n (lv' := [(0, .ref a0), (1, .int px1), (2, .int x1)]) dX10_aloneOf_5 rfl (by decide) [1, 2, 0] rfl ?_
  refine GE.iconst dX10_aloneOf_6 kI_0 ?_
  refine GE.istore_n (lv' := [(0, .ref a0), (1, .int px1), (2, .int x1), (3, .int 0)]) dX10_aloneOf_7 rfl (by decide) [1, 2, 3, 0] rfl ?_
  refine (GE.lo3 (fun (x3 : Int32) (x4 : Int32) (t5 : St) => [(0, .ref a0), (1, .int px1), (2, .int x3), (3, .int x4)]) (fun (x3 : Int32) (x4 : Int32) (t5 : St) => []) (fun (x3 : Int32) (x4 : Int32) (t5 : St) => t5) (fun l6 hl6 x3 x4 t5 => ?_) FU x1 0 t2)
  refine GE.iload_n 3 dX10_aloneOf_8 rfl rfl ?_
  refine GE.aload_n 0 dX10_aloneOf_9 rfl rfl ?_
  refine GE.gI dX10_aloneOf_10 lF_X10_261 (fun x7 => ?_)
  refine GE.icmp_ge (tgt := 44) dX10_aloneOf_13 (by decide) ?_ ?_
  · refine GE.iload_n 2 dX10_aloneOf_44 rfl rfl ?_
    exact GE.iret dX10_aloneOf_45 rfl (Nat.le_refl _) (Nat.le_refl _)
  · refine GE.iload_n 2 dX10_aloneOf_16 rfl rfl ?_
    refine GE.iload_n 3 dX10_aloneOf_17 rfl rfl ?_
    refine GE.iload_n 1 dX10_aloneOf_18 rfl rfl ?_
    refine GE.jo3 36 (fun (v8 : Int32) (v9 : Int32) (t10 : St) => [(0, .ref a0), (1, .int px1), (3, .int x4)]) (fun (v8 : Int32) (v9 : Int32) (t10 : St) => [.int v8, .int v9]) (fun (v8 : Int32) (v9 : Int32) (t10 : St) => t10) (fun v8 v9 t10 => ?_) (fun j11 hj11 => ?_)
    · refine GE.iand dX10_aloneOf_36 ?_
      refine GE.nami (fun x12 => ?_)
      refine GE.istore_n (lv' := [(0, .ref a0), (1, .int px1), (2, .int x12), (3, .int x4)]) dX10_aloneOf_37 rfl (by decide) [1, 2, 0, 3] rfl ?_
      refine GE.iinc (lv' := [(0, .ref a0), (1, .int px1), (2, .int x12), (3, .int (x4 + 1))]) 3 dX10_aloneOf_38 rfl kI_1 (by decide) [1, 2, 3, 0] rfl ?_
      refine GE.goto (tgt := 8) dX10_aloneOf_41 (by decide) ?_
      exact hl6 x12 (x4 + 1) t10
    · refine GE.icmp_ne (tgt := 29) dX10_aloneOf_19 (by decide) ?_ ?_
      · refine GE.aload_n 0 dX10_aloneOf_29 rfl rfl ?_
        refine GE.iload_n 3 dX10_aloneOf_30 rfl rfl ?_
        refine GE.callvI [.int x4] dX10_aloneOf_31 (lV_X10_328) rfl ⟨rfl, rfl⟩ (rokb rfl) (gX10_seenBy t5 a0 x4) (fun x13 t14 => ?_)
        refine GE.iconst dX10_aloneOf_34 kI_m1 ?_
        refine GE.ixor dX10_aloneOf_35 ?_
        exact GE.sub [0, 1, 3] rfl (hj11 (x13 ^^^ ((-1))) x3 t14)
      · refine GE.aload_n 0 dX10_aloneOf_22 rfl rfl ?_
        refine GE.callvI [] dX10_aloneOf_23 (lV_X10_331) rfl ⟨rfl, rfl⟩ (rokb rfl) (gX10_whole t5 a0) (fun x15 t16 => ?_)
        refine GE.goto (tgt := 36) dX10_aloneOf_26 (by decide) ?_
        exact GE.sub [0, 1, 3] rfl (hj11 x15 x3 t16)
def fX10_blindOf (σ : St) (a0 : Nat) (px1 : Int32) : Option (Int32 × St) :=
  bo 10 σ a0 (fX10_whole σ a0) (fun x1 t2 =>
  bo 10 t2 a0 (fX10_seenBy t2 a0 px1) (fun x3 t4 =>
  some (x1 &&& (x3 ^^^ ((-1))), t4)))
set_option maxHeartbeats 4000000 in
set_option maxRecDepth 100000 in
theorem gX10_blindOf (σ : St) (a0 : Nat) (px1 : Int32) : CE vI mX10_blindOf [.ref a0, .int px1] σ (fX10_blindOf σ a0 px1) := by
  refine CE.ofGEF (lv := [(0, .ref a0), (1, .int px1)]) (by decide +kernel) (Nat.le_of_ble_eq_true rfl) rfl ?_
  unfold fX10_blindOf
  refine GE.aload_n 0 dX10_blindOf_0 rfl rfl ?_
  refine GE.callvI [] dX10_blindOf_1 (lV_X10_331) rfl ⟨rfl, rfl⟩ (rokb rfl) (gX10_whole σ a0) (fun x1 t2 => ?_)
  refine GE.aload_n 0 dX10_blindOf_4 rfl rfl ?_
  refine GE.iload_n 1 dX10_blindOf_5 rfl rfl ?_
  refine GE.callvI [.int px1] dX10_blindOf_6 (lV_X10_328) rfl ⟨rfl, rfl⟩ (rokb rfl) (gX10_seenBy t2 a0 px1) (fun x3 t4 => ?_)
  refine GE.iconst dX10_blindOf_9 kI_m1 ?_
  refine GE.ixor dX10_blindOf_10 ?_
  refine GE.iand dX10_blindOf_11 ?_
  exact GE.iret dX10_blindOf_12 rfl (Nat.le_refl _) (Nat.le_refl _)
def fX10_map (σ : St) (a0 : Nat) (px1 : Int32) (px2 : Int32) : Option (Int32 × St) :=
  bo 10 σ a0 (fX10_isTower σ a0 px1) (fun x1 t2 =>
  if x1 = 0 then
    some ((-1), t2)
  else
    bd (fX10_in t2 px2 0 2) (fun x3 t4 =>
    if x3 = 0 then
      some ((-1), t4)
    else
      if px2 = 0 then
        bo 10 t4 a0 (fX10_blindOf t4 a0 px1) (fun x5 t6 =>
        some (x5, t6))
      else if px2 = 1 then
        (gR 10 28 t4 a0).bind fun a7 =>
        (aI 0 t4 a7 38).bind fun x8 =>
        bd (fX10_has t4 x8 px1) (fun x9 t10 =>
        if x9 = 0 then
          bo 10 t10 a0 (fX10_blindOf t10 a0 px1) (fun x11 t12 =>
          some (x11, t12))
        else
          bo 10 t10 a0 (fX10_seenBy t10 a0 px1) (fun x13 t14 =>
          some (x13, t14)))
      else
        bo 10 t4 a0 (fX10_aloneOf t4 a0 px1) (fun x15 t16 =>
        some (x15, t16))))
set_option maxHeartbeats 4000000 in
set_option maxRecDepth 100000 in
theorem gX10_map (σ : St) (a0 : Nat) (px1 : Int32) (px2 : Int32) : CE vI mX10_map [.ref a0, .int px1, .int px2] σ (fX10_map σ a0 px1 px2) := by
  refine CE.ofGEF (lv := [(0, .ref a0), (1, .int px1), (2, .int px2)]) (by decide +kernel) (Nat.le_of_ble_eq_true rfl) rfl ?_
  unfold fX10_map
  refine GE.aload_n 0 dX10_map_0 rfl rfl ?_
  refine GE.iload_n 1 dX10_map_1 rfl rfl ?_
  refine GE.callvI [.int px1] dX10_map_2 (lV_X10_340) rfl ⟨rfl, rfl⟩ (rokb rfl) (gX10_isTower σ a0 px1) (fun x1 t2 => ?_)
  refine GE.if_eq (tgt := 17) dX10_map_5 (by decide) ?_ ?_
  · refine GE.iconst dX10_map_17 kI_m1 ?_
    exact GE.iret dX10_map_18 rfl (Nat.le_refl _) (Nat.le_refl _)
  · refine GE.iload_n 2 dX10_map_8 rfl rfl ?_
    refine GE.iconst dX10_map_9 kI_0 ?_
    refine GE.iconst dX10_map_10 kI_2 ?_
    refine GE.callsI [.int px2, .int 0, .int 2] dX10_map_11 (lT_X10_217) rfl ⟨rfl, rfl⟩ (rokb rfl) (gX10_in t2 px2 0 2) (fun x3 t4 => ?_)
    refine GE.if_ne (tgt := 19) dX10_map_14 (by decide) ?_ ?_
    · refine GE.iload_n 2 dX10_map_19 rfl rfl ?_
      refine GE.lsw2 (t1 := 48) (t2 := 54) (td := 82) dX10_map_20 (c1 := 0) (c2 := 1) (by decide) (by decide) (by decide) (by decide) (by decide) (by decide) ?_ ?_ ?_
      · refine GE.aload_n 0 dX10_map_48 rfl rfl ?_
        refine GE.iload_n 1 dX10_map_49 rfl rfl ?_
        refine GE.callvI [.int px1] dX10_map_50 (lV_X10_380) rfl ⟨rfl, rfl⟩ (rokb rfl) (gX10_blindOf t4 a0 px1) (fun x5 t6 => ?_)
        exact GE.iret dX10_map_53 rfl (Nat.le_refl _) (Nat.le_refl _)
      · refine GE.aload_n 0 dX10_map_54 rfl rfl ?_
        refine GE.gR dX10_map_55 lF_X10_61 (fun a7 => ?_)
        refine GE.bipush dX10_map_58 kB_38 ?_
        refine GE.iald dX10_map_60 (fun x8 => ?_)
        refine GE.iload_n 1 dX10_map_61 rfl rfl ?_
        refine GE.callsI [.int x8, .int px1] dX10_map_62 (lT_X10_228) rfl ⟨rfl, rfl⟩ (rokb rfl) (gX10_has t4 x8 px1) (fun x9 t10 => ?_)
        refine GE.if_eq (tgt := 76) dX10_map_65 (by decide) ?_ ?_
        · refine GE.aload_n 0 dX10_map_76 rfl rfl ?_
          refine GE.iload_n 1 dX10_map_77 rfl rfl ?_
          refine GE.callvI [.int px1] dX10_map_78 (lV_X10_380) rfl ⟨rfl, rfl⟩ (rokb rfl) (gX10_blindOf t10 a0 px1) (fun x11 t12 => ?_)
          exact GE.iret dX10_map_81 rfl (Nat.le_refl _) (Nat.le_refl _)
        · refine GE.aload_n 0 dX10_map_68 rfl rfl ?_
          refine GE.iload_n 1 dX10_map_69 rfl rfl ?_
          refine GE.callvI [.int px1] dX10_map_70 (lV_X10_328) rfl ⟨rfl, rfl⟩ (rokb rfl) (gX10_seenBy t10 a0 px1) (fun x13 t14 => ?_)
          refine GE.goto (tgt := 81) dX10_map_73 (by decide) ?_
          exact GE.iret dX10_map_81 rfl (Nat.le_refl _) (Nat.le_refl _)
      · refine GE.aload_n 0 dX10_map_82 rfl rfl ?_
        refine GE.iload_n 1 dX10_map_83 rfl rfl ?_
        refine GE.callvI [.int px1] dX10_map_84 (lV_X10_383) rfl ⟨rfl, rfl⟩ (rokb rfl) (gX10_aloneOf t4 a0 px1) (fun x15 t16 => ?_)
        exact GE.iret dX10_map_87 rfl (Nat.le_refl _) (Nat.le_refl _)
    · refine GE.iconst dX10_map_17 kI_m1 ?_
      exact GE.iret dX10_map_18 rfl (Nat.le_refl _) (Nat.le_refl _)
def fX10_mast (σ : St) (a0 : Nat) (px1 : Int32) : Option (Int32 × St) :=
  bo 10 σ a0 (fX10_isTower σ a0 px1) (fun x1 t2 =>
  jo2 (fun (v3 : Int32) (v4 : Nat) =>
    bo 10 t2 v4 (fX10_isRefused t2 v4 v3) (fun x6 t7 =>
    if x6 = 0 then
      bo 10 t7 a0 (fX10_keep t7 a0) (fun w8 t9 =>
      (gR 10 28 t9 a0).bind fun a10 =>
      (aI 0 t9 a10 40).bind fun x11 =>
      (sI 0 t9 a10 40 (x11 - 2)).bind (fun t12 =>
      (gR 10 28 t12 a0).bind fun a13 =>
      (aI 0 t12 a13 (34 + px1)).bind fun x14 =>
      (sI 0 t12 a13 (34 + px1) (x14 + 1)).bind (fun t15 =>
      (gR 10 28 t15 a0).bind fun a16 =>
      (aI 0 t15 a16 (34 + px1)).bind fun x17 =>
      some (x17, t15))))
    else
      some ((-1), t7))) (fun j5 =>
    if x1 = 0 then
      j5 0 a0
    else
      (gR 10 28 t2 a0).bind fun a18 =>
      (aI 0 t2 a18 (34 + px1)).bind fun x19 =>
      if x19 = 9 then
        j5 2 a0
      else
        (gR 10 28 t2 a0).bind fun a20 =>
        (aI 0 t2 a20 40).bind fun x21 =>
        if 2 ≤ x21 then
          j5 ((-1)) a0
        else
          j5 3 a0))
set_option maxHeartbeats 4000000 in
set_option maxRecDepth 100000 in
theorem gX10_mast (σ : St) (a0 : Nat) (px1 : Int32) : CE vI mX10_mast [.ref a0, .int px1] σ (fX10_mast σ a0 px1) := by
  refine CE.ofGEF (lv := [(0, .ref a0), (1, .int px1)]) (by decide +kernel) (Nat.le_of_ble_eq_true rfl) rfl ?_
  unfold fX10_mast
  refine GE.aload_n 0 dX10_mast_0 rfl rfl ?_
  refine GE.aload_n 0 dX10_mast_1 rfl rfl ?_
  refine GE.iload_n 1 dX10_mast_2 rfl rfl ?_
  refine GE.callvI [.int px1] dX10_mast_3 (lV_X10_340) rfl ⟨rfl, rfl⟩ (rokb rfl) (gX10_isTower σ a0 px1) (fun x1 t2 => ?_)
  refine GE.jo2 47 (fun (v3 : Int32) (v4 : Nat) => [(0, .ref a0), (1, .int px1)]) (fun (v3 : Int32) (v4 : Nat) => [.int v3, .ref v4]) (fun (v3 : Int32) (v4 : Nat) => t2) (fun v3 v4 => ?_) (fun j5 hj5 => ?_)
  · refine GE.callvI [.int v3] dX10_mast_47 (lV_X10_354) rfl ⟨rfl, rfl⟩ (rokb rfl) (gX10_isRefused t2 v4 v3) (fun x6 t7 => ?_)
    refine GE.if_eq (tgt := 55) dX10_mast_50 (by decide) ?_ ?_
    · refine GE.aload_n 0 dX10_mast_55 rfl rfl ?_
      refine GE.callvU [] dX10_mast_56 (lV_X10_357) rfl ⟨rfl, rfl⟩ (rokb rfl) (gX10_keep t7 a0) (fun w8 t9 => ?_)
      refine GE.aload_n 0 dX10_mast_59 rfl rfl ?_
      refine GE.gR dX10_mast_60 lF_X10_61 (fun a10 => ?_)
      refine GE.bipush dX10_mast_63 kB_40 ?_
      refine GE.dup2 dX10_mast_65 rfl rfl ?_
      refine GE.iald dX10_mast_66 (fun x11 => ?_)
      refine GE.iconst dX10_mast_67 kI_2 ?_
      refine GE.isub dX10_mast_68 ?_
      refine GE.iast dX10_mast_69 (fun t12 => ?_)
      refine GE.aload_n 0 dX10_mast_70 rfl rfl ?_
      refine GE.gR dX10_mast_71 lF_X10_61 (fun a13 => ?_)
      refine GE.bipush dX10_mast_74 kB_34 ?_
      refine GE.iload_n 1 dX10_mast_76 rfl rfl ?_
      refine GE.iadd dX10_mast_77 ?_
      refine GE.dup2 dX10_mast_78 rfl rfl ?_
      refine GE.iald dX10_mast_79 (fun x14 => ?_)
      refine GE.iconst dX10_mast_80 kI_1 ?_
      refine GE.iadd dX10_mast_81 ?_
      refine GE.iast dX10_mast_82 (fun t15 => ?_)
      refine GE.aload_n 0 dX10_mast_83 rfl rfl ?_
      refine GE.gR dX10_mast_84 lF_X10_61 (fun a16 => ?_)
      refine GE.bipush dX10_mast_87 kB_34 ?_
      refine GE.iload_n 1 dX10_mast_89 rfl rfl ?_
      refine GE.iadd dX10_mast_90 ?_
      refine GE.iald dX10_mast_91 (fun x17 => ?_)
      exact GE.iret dX10_mast_92 rfl (Nat.le_refl _) (Nat.le_refl _)
    · refine GE.iconst dX10_mast_53 kI_m1 ?_
      exact GE.iret dX10_mast_54 rfl (Nat.le_refl _) (Nat.le_refl _)
  · refine GE.if_ne (tgt := 13) dX10_mast_6 (by decide) ?_ ?_
    · refine GE.aload_n 0 dX10_mast_13 rfl rfl ?_
      refine GE.gR dX10_mast_14 lF_X10_61 (fun a18 => ?_)
      refine GE.bipush dX10_mast_17 kB_34 ?_
      refine GE.iload_n 1 dX10_mast_19 rfl rfl ?_
      refine GE.iadd dX10_mast_20 ?_
      refine GE.iald dX10_mast_21 (fun x19 => ?_)
      refine GE.bipush dX10_mast_22 kB_9 ?_
      refine GE.icmp_ne (tgt := 31) dX10_mast_24 (by decide) ?_ ?_
      · refine GE.aload_n 0 dX10_mast_31 rfl rfl ?_
        refine GE.gR dX10_mast_32 lF_X10_61 (fun a20 => ?_)
        refine GE.bipush dX10_mast_35 kB_40 ?_
        refine GE.iald dX10_mast_37 (fun x21 => ?_)
        refine GE.iconst dX10_mast_38 kI_2 ?_
        refine GE.icmp_ge (tgt := 46) dX10_mast_39 (by decide) ?_ ?_
        · refine GE.iconst dX10_mast_46 kI_m1 ?_
          exact hj5 ((-1)) a0
        · refine GE.iconst dX10_mast_42 kI_3 ?_
          refine GE.goto (tgt := 47) dX10_mast_43 (by decide) ?_
          exact hj5 3 a0
      · refine GE.iconst dX10_mast_27 kI_2 ?_
        refine GE.goto (tgt := 47) dX10_mast_28 (by decide) ?_
        exact hj5 2 a0
    · refine GE.iconst dX10_mast_9 kI_0 ?_
      refine GE.goto (tgt := 47) dX10_mast_10 (by decide) ?_
      exact hj5 0 a0
def fX10_mist (σ : St) (a0 : Nat) (px1 : Int32) : Option (Int32 × St) :=
  bd (fX10_in σ px1 0 9) (fun x1 t2 =>
  if x1 = 0 then
    some (0, t2)
  else
    (gI 10 31 t2 a0).bind fun x3 =>
    if px1 = x3 then
      some (0, t2)
    else
      (pV 10 31 t2 a0 (.int px1)).bind (fun t4 =>
      some (1, t4)))
set_option maxHeartbeats 4000000 in
set_option maxRecDepth 100000 in
theorem gX10_mist (σ : St) (a0 : Nat) (px1 : Int32) : CE vI mX10_mist [.ref a0, .int px1] σ (fX10_mist σ a0 px1) := by
  refine CE.ofGEF (lv := [(0, .ref a0), (1, .int px1)]) (by decide +kernel) (Nat.le_of_ble_eq_true rfl) rfl ?_
  unfold fX10_mist
  refine GE.iload_n 1 dX10_mist_0 rfl rfl ?_
  refine GE.iconst dX10_mist_1 kI_0 ?_
  refine GE.bipush dX10_mist_2 kB_9 ?_
  refine GE.callsI [.int px1, .int 0, .int 9] dX10_mist_4 (lT_X10_217) rfl ⟨rfl, rfl⟩ (rokb rfl) (gX10_in σ px1 0 9) (fun x1 t2 => ?_)
  refine GE.if_eq (tgt := 18) dX10_mist_7 (by decide) ?_ ?_
  · refine GE.iconst dX10_mist_18 kI_0 ?_
    exact GE.zretk dX10_mist_19 rfl (Nat.le_refl _) (Nat.le_refl _) (by decide)
  · refine GE.iload_n 1 dX10_mist_10 rfl rfl ?_
    refine GE.aload_n 0 dX10_mist_11 rfl rfl ?_
    refine GE.gI dX10_mist_12 lF_X10_71 (fun x3 => ?_)
    refine GE.icmp_ne (tgt := 20) dX10_mist_15 (by decide) ?_ ?_
    · refine GE.aload_n 0 dX10_mist_20 rfl rfl ?_
      refine GE.iload_n 1 dX10_mist_21 rfl rfl ?_
      refine GE.pI dX10_mist_22 lF_X10_71 (fun t4 => ?_)
      refine GE.iconst dX10_mist_25 kI_1 ?_
      exact GE.zretk dX10_mist_26 rfl (Nat.le_refl _) (Nat.le_refl _) (by decide)
    · refine GE.iconst dX10_mist_18 kI_0 ?_
      exact GE.zretk dX10_mist_19 rfl (Nat.le_refl _) (Nat.le_refl _) (by decide)
def fX10_falseOnes (σ : St) (a0 : Nat) : Option (Int32 × St) :=
  lo3 (fun l4 (x1 : Int32) (x2 : Int32) (t3 : St) =>
    (gI 10 43 t3 a0).bind fun x5 =>
  if x5 ≤ x2 then
    some (x1, t3)
  else
    (gR 10 42 t3 a0).bind fun a6 =>
    (aI 0 t3 a6 x2).bind fun x7 =>
    (gR 10 41 t3 a0).bind fun a8 =>
    (aI 0 t3 a8 x2).bind fun x9 =>
    bo 10 t3 a0 (fX10_blindOf t3 a0 x9) (fun x10 t11 =>
    jo2 (fun (v12 : Int32) (v13 : Int32) =>
      nam (v13 ||| v12 : Int32) (fun x15 =>
      l4 x15 (x2 + 1) t11)) (fun j14 =>
      if x7 = x10 then
        j14 0 x1
      else
        (gR 10 41 t11 a0).bind fun a16 =>
        (aI 0 t11 a16 x2).bind fun x17 =>
        j14 (1 <<< (x17 &&& 31)) x1))) FU 0 0 σ
set_option maxHeartbeats 4000000 in
set_option maxRecDepth 100000 in
theorem gX10_falseOnes (σ : St) (a0 : Nat) : CE vI mX10_falseOnes [.ref a0] σ (fX10_falseOnes σ a0) := by
  refine CE.ofGEF (lv := [(0, .ref a0)]) (by decide +kernel) (Nat.le_of_ble_eq_true rfl) rfl ?_
  unfold fX10_falseOnes
  refine GE.iconst dX10_falseOnes_0 kI_0 ?_
  refine GE.istore_n (lv' := [(0, .ref a0), (1, .int 0)]) dX10_falseOnes_1 rfl (by decide) [1, 0] rfl ?_
  refine GE.iconst dX10_falseOnes_2 kI_0 ?_
  refine GE.istore_n (lv' := [(0, .ref a0), (1, .int 0), (2, .int 0)]) dX10_falseOnes_3 rfl (by decide) [1, 2, 0] rfl ?_
  refine (GE.lo3 (fun (x1 : Int32) (x2 : Int32) (t3 : St) => [(0, .ref a0), (1, .int x1), (2, .int x2)]) (fun (x1 : Int32) (x2 : Int32) (t3 : St) => []) (fun (x1 : Int32) (x2 : Int32) (t3 : St) => t3) (fun l4 hl4 x1 x2 t3 => ?_) FU 0 0 σ)
  refine GE.iload_n 2 dX10_falseOnes_4 rfl rfl ?_
  refine GE.aload_n 0 dX10_falseOnes_5 rfl rfl ?_
  refine GE.gI dX10_falseOnes_6 lF_X10_273 (fun x5 => ?_)
  refine GE.icmp_ge (tgt := 52) dX10_falseOnes_9 (by decide) ?_ ?_
  · refine GE.iload_n 1 dX10_falseOnes_52 rfl rfl ?_
    exact GE.iret dX10_falseOnes_53 rfl (Nat.le_refl _) (Nat.le_refl _)
  · refine GE.iload_n 1 dX10_falseOnes_12 rfl rfl ?_
    refine GE.aload_n 0 dX10_falseOnes_13 rfl rfl ?_
    refine GE.gR dX10_falseOnes_14 lF_X10_96 (fun a6 => ?_)
    refine GE.iload_n 2 dX10_falseOnes_17 rfl rfl ?_
    refine GE.iald dX10_falseOnes_18 (fun x7 => ?_)
    refine GE.aload_n 0 dX10_falseOnes_19 rfl rfl ?_
    refine GE.aload_n 0 dX10_falseOnes_20 rfl rfl ?_
    refine GE.gR dX10_falseOnes_21 lF_X10_93 (fun a8 => ?_)
    refine GE.iload_n 2 dX10_falseOnes_24 rfl rfl ?_
    refine GE.iald dX10_falseOnes_25 (fun x9 => ?_)
    refine GE.callvI [.int x9] dX10_falseOnes_26 (lV_X10_380) rfl ⟨rfl, rfl⟩ (rokb rfl) (gX10_blindOf t3 a0 x9) (fun x10 t11 => ?_)
    refine GE.jo2 44 (fun (v12 : Int32) (v13 : Int32) => [(0, .ref a0), (2, .int x2)]) (fun (v12 : Int32) (v13 : Int32) => [.int v12, .int v13]) (fun (v12 : Int32) (v13 : Int32) => t11) (fun v12 v13 => ?_) (fun j14 hj14 => ?_)
    · refine GE.ior dX10_falseOnes_44 ?_
      refine GE.nami (fun x15 => ?_)
      refine GE.istore_n (lv' := [(0, .ref a0), (1, .int x15), (2, .int x2)]) dX10_falseOnes_45 rfl (by decide) [1, 0, 2] rfl ?_
      refine GE.iinc (lv' := [(0, .ref a0), (1, .int x15), (2, .int (x2 + 1))]) 2 dX10_falseOnes_46 rfl kI_1 (by decide) [1, 2, 0] rfl ?_
      refine GE.goto (tgt := 4) dX10_falseOnes_49 (by decide) ?_
      exact hl4 x15 (x2 + 1) t11
    · refine GE.icmp_ne (tgt := 36) dX10_falseOnes_29 (by decide) ?_ ?_
      · refine GE.iconst dX10_falseOnes_36 kI_1 ?_
        refine GE.aload_n 0 dX10_falseOnes_37 rfl rfl ?_
        refine GE.gR dX10_falseOnes_38 lF_X10_93 (fun a16 => ?_)
        refine GE.iload_n 2 dX10_falseOnes_41 rfl rfl ?_
        refine GE.iald dX10_falseOnes_42 (fun x17 => ?_)
        refine GE.ishl dX10_falseOnes_43 ?_
        exact GE.sub [0, 2] rfl (hj14 (1 <<< (x17 &&& 31)) x1)
      · refine GE.iconst dX10_falseOnes_32 kI_0 ?_
        refine GE.goto (tgt := 44) dX10_falseOnes_33 (by decide) ?_
        exact GE.sub [0, 2] rfl (hj14 0 x1)
def fX10_areBeside (σ : St) (a0 : Nat) (px1 : Int32) (px2 : Int32) : Option (Int32 × St) :=
  bo 10 σ a0 (fX10_acrossOf σ a0 px1) (fun x1 t2 =>
  bo 10 t2 a0 (fX10_acrossOf t2 a0 px2) (fun x3 t4 =>
  bd (fJ9_abs_0f7a4 t4 (x1 - x3)) (fun x5 t6 =>
  bo 10 t6 a0 (fX10_downOf t6 a0 px1) (fun x7 t8 =>
  bo 10 t8 a0 (fX10_downOf t8 a0 px2) (fun x9 t10 =>
  bd (fJ9_abs_0f7a4 t10 (x7 - x9)) (fun x11 t12 =>
  if x5 + x11 = 1 then
    some (1, t12)
  else
    some (0, t12)))))))
set_option maxHeartbeats 4000000 in
set_option maxRecDepth 100000 in
theorem gX10_areBeside (σ : St) (a0 : Nat) (px1 : Int32) (px2 : Int32) : CE vI mX10_areBeside [.ref a0, .int px1, .int px2] σ (fX10_areBeside σ a0 px1 px2) := by
  refine CE.ofGEF (lv := [(0, .ref a0), (1, .int px1), (2, .int px2)]) (by decide +kernel) (Nat.le_of_ble_eq_true rfl) rfl ?_
  unfold fX10_areBeside
  refine GE.aload_n 0 dX10_areBeside_0 rfl rfl ?_
  refine GE.iload_n 1 dX10_areBeside_1 rfl rfl ?_
  refine GE.callvI [.int px1] dX10_areBeside_2 (lV_X10_292) rfl ⟨rfl, rfl⟩ (rokb rfl) (gX10_acrossOf σ a0 px1) (fun x1 t2 => ?_)
  refine GE.aload_n 0 dX10_areBeside_5 rfl rfl ?_
  refine GE.iload_n 2 dX10_areBeside_6 rfl rfl ?_
  refine GE.callvI [.int px2] dX10_areBeside_7 (lV_X10_292) rfl ⟨rfl, rfl⟩ (rokb rfl) (gX10_acrossOf t2 a0 px2) (fun x3 t4 => ?_)
  refine GE.isub dX10_areBeside_10 ?_
  refine GE.callsI [.int (x1 - x3)] dX10_areBeside_11 (lT_X10_298) rfl ⟨rfl, rfl⟩ (rokb rfl) (gJ9_abs_0f7a4 t4 (x1 - x3)) (fun x5 t6 => ?_)
  refine GE.aload_n 0 dX10_areBeside_14 rfl rfl ?_
  refine GE.iload_n 1 dX10_areBeside_15 rfl rfl ?_
  refine GE.callvI [.int px1] dX10_areBeside_16 (lV_X10_295) rfl ⟨rfl, rfl⟩ (rokb rfl) (gX10_downOf t6 a0 px1) (fun x7 t8 => ?_)
  refine GE.aload_n 0 dX10_areBeside_19 rfl rfl ?_
  refine GE.iload_n 2 dX10_areBeside_20 rfl rfl ?_
  refine GE.callvI [.int px2] dX10_areBeside_21 (lV_X10_295) rfl ⟨rfl, rfl⟩ (rokb rfl) (gX10_downOf t8 a0 px2) (fun x9 t10 => ?_)
  refine GE.isub dX10_areBeside_24 ?_
  refine GE.callsI [.int (x7 - x9)] dX10_areBeside_25 (lT_X10_298) rfl ⟨rfl, rfl⟩ (rokb rfl) (gJ9_abs_0f7a4 t10 (x7 - x9)) (fun x11 t12 => ?_)
  refine GE.iadd dX10_areBeside_28 ?_
  refine GE.iconst dX10_areBeside_29 kI_1 ?_
  refine GE.icmp_ne (tgt := 37) dX10_areBeside_30 (by decide) ?_ ?_
  · refine GE.iconst dX10_areBeside_37 kI_0 ?_
    exact GE.zretk dX10_areBeside_38 rfl (Nat.le_refl _) (Nat.le_refl _) (by decide)
  · refine GE.iconst dX10_areBeside_33 kI_1 ?_
    refine GE.goto (tgt := 38) dX10_areBeside_34 (by decide) ?_
    exact GE.zretk dX10_areBeside_38 rfl (Nat.le_refl _) (Nat.le_refl _) (by decide)
def fX10_flat (σ : St) (a0 : Nat) : Option (Int32 × St) :=
  lo3 (fun l4 (x1 : Int32) (x2 : Int32) (t3 : St) =>
    (gI 10 26 t3 a0).bind fun x5 =>
  if x5 ≤ x2 then
    some (x1, t3)
  else
    lo3 (fun l9 (x6 : Int32) (x7 : Int32) (t8 : St) =>
      (gI 10 26 t8 a0).bind fun x10 =>
    if x10 ≤ x7 then
      jo2 (fun (v11 : Int32) (v12 : Int32) =>
        nam (v12 + v11 : Int32) (fun x14 =>
        l4 x14 (x2 + 1) t8)) (fun j13 =>
        if x6 = 0 then
          j13 0 x1
        else
          j13 1 x1)
    else
      jo2 (fun (v15 : Int32) (t16 : St) =>
        l9 v15 (x7 + 1) t16) (fun j17 =>
        jo1 (fun (t18 : St) =>
          j17 1 t18) (fun j19 =>
          if x6 = 0 then
            bo 10 t8 a0 (fX10_areBeside t8 a0 x2 x7) (fun x20 t21 =>
            jo1 (fun (u21 : Unit) =>
              j17 0 t21) (fun j22 =>
              if x20 = 0 then
                j22 () 
              else
                (gR 10 28 t21 a0).bind fun a23 =>
                (aI 0 t21 a23 (0 + x2)).bind fun x24 =>
                (gR 10 28 t21 a0).bind fun a25 =>
                (aI 0 t21 a25 (0 + x7)).bind fun x26 =>
                if x24 = x26 then
                  j19 t21
                else
                  j22 () ))
          else
            j19 t8))) FU 0 0 t3) FU 0 0 σ
set_option maxHeartbeats 4000000 in
set_option maxRecDepth 100000 in
theorem gX10_flat (σ : St) (a0 : Nat) : CE vI mX10_flat [.ref a0] σ (fX10_flat σ a0) := by
  refine CE.ofGEF (lv := [(0, .ref a0)]) (by decide +kernel) (Nat.le_of_ble_eq_true rfl) rfl ?_
  unfold fX10_flat
  refine GE.iconst dX10_flat_0 kI_0 ?_
  refine GE.istore_n (lv' := [(0, .ref a0), (1, .int 0)]) dX10_flat_1 rfl (by decide) [1, 0] rfl ?_
  refine GE.iconst dX10_flat_2 kI_0 ?_
  refine GE.istore_n (lv' := [(0, .ref a0), (1, .int 0), (2, .int 0)]) dX10_flat_3 rfl (by decide) [1, 2, 0] rfl ?_
  refine (GE.lo3 (fun (x1 : Int32) (x2 : Int32) (t3 : St) => [(0, .ref a0), (1, .int x1), (2, .int x2)]) (fun (x1 : Int32) (x2 : Int32) (t3 : St) => []) (fun (x1 : Int32) (x2 : Int32) (t3 : St) => t3) (fun l4 hl4 x1 x2 t3 => ?_) FU 0 0 σ)
  refine GE.iload_n 2 dX10_flat_4 rfl rfl ?_
  refine GE.aload_n 0 dX10_flat_5 rfl rfl ?_
  refine GE.gI dX10_flat_6 lF_X10_264 (fun x5 => ?_)
  refine GE.icmp_ge (tgt := 90) dX10_flat_9 (by decide) ?_ ?_
  · refine GE.iload_n 1 dX10_flat_90 rfl rfl ?_
    exact GE.iret dX10_flat_91 rfl (Nat.le_refl _) (Nat.le_refl _)
  · refine GE.iconst dX10_flat_12 kI_0 ?_
    refine GE.istore_n (lv' := [(0, .ref a0), (1, .int x1), (2, .int x2), (3, .int 0)]) dX10_flat_13 rfl (by decide) [1, 2, 3, 0] rfl ?_
    refine GE.iconst dX10_flat_14 kI_0 ?_
    refine GE.istore (lv' := [(0, .ref a0), (1, .int x1), (2, .int x2), (3, .int 0), (4, .int 0)]) dX10_flat_15 (by decide) [1, 2, 3, 4, 0] rfl ?_
    refine (GE.lo3 (fun (x6 : Int32) (x7 : Int32) (t8 : St) => [(0, .ref a0), (1, .int x1), (2, .int x2), (3, .int x6), (4, .int x7)]) (fun (x6 : Int32) (x7 : Int32) (t8 : St) => []) (fun (x6 : Int32) (x7 : Int32) (t8 : St) => t8) (fun l9 hl9 x6 x7 t8 => ?_) FU 0 0 t3)
    refine GE.iload 4 dX10_flat_17 rfl ?_
    refine GE.aload_n 0 dX10_flat_19 rfl rfl ?_
    refine GE.gI dX10_flat_20 lF_X10_264 (fun x10 => ?_)
    refine GE.icmp_ge (tgt := 72) dX10_flat_23 (by decide) ?_ ?_
    · refine GE.iload_n 1 dX10_flat_72 rfl rfl ?_
      refine GE.iload_n 3 dX10_flat_73 rfl rfl ?_
      refine GE.jo2 82 (fun (v11 : Int32) (v12 : Int32) => [(0, .ref a0), (2, .int x2)]) (fun (v11 : Int32) (v12 : Int32) => [.int v11, .int v12]) (fun (v11 : Int32) (v12 : Int32) => t8) (fun v11 v12 => ?_) (fun j13 hj13 => ?_)
      · refine GE.iadd dX10_flat_82 ?_
        refine GE.nami (fun x14 => ?_)
        refine GE.istore_n (lv' := [(0, .ref a0), (1, .int x14), (2, .int x2)]) dX10_flat_83 rfl (by decide) [1, 0, 2] rfl ?_
        refine GE.iinc (lv' := [(0, .ref a0), (1, .int x14), (2, .int (x2 + 1))]) 2 dX10_flat_84 rfl kI_1 (by decide) [1, 2, 0] rfl ?_
        refine GE.goto (tgt := 4) dX10_flat_87 (by decide) ?_
        exact hl4 x14 (x2 + 1) t8
      · refine GE.if_eq (tgt := 81) dX10_flat_74 (by decide) ?_ ?_
        · refine GE.iconst dX10_flat_81 kI_0 ?_
          exact GE.sub [0, 2] rfl (hj13 0 x1)
        · refine GE.iconst dX10_flat_77 kI_1 ?_
          refine GE.goto (tgt := 82) dX10_flat_78 (by decide) ?_
          exact GE.sub [0, 2] rfl (hj13 1 x1)
    · refine GE.iload_n 3 dX10_flat_26 rfl rfl ?_
      refine GE.jo2 65 (fun (v15 : Int32) (t16 : St) => [(0, .ref a0), (1, .int x1), (2, .int x2), (4, .int x7)]) (fun (v15 : Int32) (t16 : St) => [.int v15]) (fun (v15 : Int32) (t16 : St) => t16) (fun v15 t16 => ?_) (fun j17 hj17 => ?_)
      · refine GE.istore_n (lv' := [(0, .ref a0), (1, .int x1), (2, .int x2), (3, .int v15), (4, .int x7)]) dX10_flat_65 rfl (by decide) [1, 2, 3, 0, 4] rfl ?_
        refine GE.iinc (lv' := [(0, .ref a0), (1, .int x1), (2, .int x2), (3, .int v15), (4, .int (x7 + 1))]) 4 dX10_flat_66 rfl kI_1 (by decide) [1, 2, 3, 4, 0] rfl ?_
        refine GE.goto (tgt := 17) dX10_flat_69 (by decide) ?_
        exact hl9 v15 (x7 + 1) t16
      · refine GE.jo1 60 (fun (t18 : St) => [(0, .ref a0), (1, .int x1), (2, .int x2), (4, .int x7)]) (fun (t18 : St) => []) (fun (t18 : St) => t18) (fun t18 => ?_) (fun j19 hj19 => ?_)
        · refine GE.iconst dX10_flat_60 kI_1 ?_
          refine GE.goto (tgt := 65) dX10_flat_61 (by decide) ?_
          exact hj17 1 t18
        · refine GE.if_ne (tgt := 60) dX10_flat_27 (by decide) ?_ ?_
          · exact GE.sub [0, 1, 2, 4] rfl (hj19 t8)
          · refine GE.aload_n 0 dX10_flat_30 rfl rfl ?_
            refine GE.iload_n 2 dX10_flat_31 rfl rfl ?_
            refine GE.iload 4 dX10_flat_32 rfl ?_
            refine GE.callvI [.int x2, .int x7] dX10_flat_34 (lV_X10_386) rfl ⟨rfl, rfl⟩ (rokb rfl) (gX10_areBeside t8 a0 x2 x7) (fun x20 t21 => ?_)
            refine GE.jo1 64 (fun (u21 : Unit) => [(0, .ref a0), (1, .int x1), (2, .int x2), (4, .int x7)]) (fun (u21 : Unit) => []) (fun (u21 : Unit) => t21) (fun u21 => ?_) (fun j22 hj22 => ?_)
            · refine GE.iconst dX10_flat_64 kI_0 ?_
              exact hj17 0 t21
            · refine GE.if_eq (tgt := 64) dX10_flat_37 (by decide) ?_ ?_
              · exact GE.sub [0, 1, 2, 4] rfl (hj22 () )
              · refine GE.aload_n 0 dX10_flat_40 rfl rfl ?_
                refine GE.gR dX10_flat_41 lF_X10_61 (fun a23 => ?_)
                refine GE.iconst dX10_flat_44 kI_0 ?_
                refine GE.iload_n 2 dX10_flat_45 rfl rfl ?_
                refine GE.iadd dX10_flat_46 ?_
                refine GE.iald dX10_flat_47 (fun x24 => ?_)
                refine GE.aload_n 0 dX10_flat_48 rfl rfl ?_
                refine GE.gR dX10_flat_49 lF_X10_61 (fun a25 => ?_)
                refine GE.iconst dX10_flat_52 kI_0 ?_
                refine GE.iload 4 dX10_flat_53 rfl ?_
                refine GE.iadd dX10_flat_55 ?_
                refine GE.iald dX10_flat_56 (fun x26 => ?_)
                refine GE.icmp_ne (tgt := 64) dX10_flat_57 (by decide) ?_ ?_
                · exact GE.sub [0, 1, 2, 4] rfl (hj22 () )
                · exact GE.sub [0, 1, 2, 4] rfl (hj19 t21)
def fX10_lost (σ : St) (a0 : Nat) : Option (Int32 × St) :=
  lo2 (fun l3 (x1 : Int32) (x2 : Int32) =>
    (gI 10 26 σ a0).bind fun x4 =>
  if x4 ≤ x2 then
    some (x1, σ)
  else
    (gR 10 28 σ a0).bind fun a5 =>
    (aI 0 σ a5 (0 + x2)).bind fun x6 =>
    (gR 10 28 σ a0).bind fun a7 =>
    (aI 0 σ a7 39).bind fun x8 =>
    jo2 (fun (v9 : Int32) (v10 : Int32) =>
      nam (v10 ||| v9 : Int32) (fun x12 =>
      l3 x12 (x2 + 1))) (fun j11 =>
      if x8 ≤ x6 then
        j11 0 x1
      else
        j11 (1 <<< (x2 &&& 31)) x1)) FU 0 0
set_option maxHeartbeats 4000000 in
set_option maxRecDepth 100000 in
theorem gX10_lost (σ : St) (a0 : Nat) : CE vI mX10_lost [.ref a0] σ (fX10_lost σ a0) := by
  refine CE.ofGEF (lv := [(0, .ref a0)]) (by decide +kernel) (Nat.le_of_ble_eq_true rfl) rfl ?_
  unfold fX10_lost
  refine GE.iconst dX10_lost_0 kI_0 ?_
  refine GE.istore_n (lv' := [(0, .ref a0), (1, .int 0)]) dX10_lost_1 rfl (by decide) [1, 0] rfl ?_
  refine GE.iconst dX10_lost_2 kI_0 ?_
  refine GE.istore_n (lv' := [(0, .ref a0), (1, .int 0), (2, .int 0)]) dX10_lost_3 rfl (by decide) [1, 2, 0] rfl ?_
  refine (GE.lo2 (fun (x1 : Int32) (x2 : Int32) => [(0, .ref a0), (1, .int x1), (2, .int x2)]) (fun (x1 : Int32) (x2 : Int32) => []) (fun (x1 : Int32) (x2 : Int32) => σ) (fun l3 hl3 x1 x2 => ?_) FU 0 0)
  refine GE.iload_n 2 dX10_lost_4 rfl rfl ?_
  refine GE.aload_n 0 dX10_lost_5 rfl rfl ?_
  refine GE.gI dX10_lost_6 lF_X10_264 (fun x4 => ?_)
  refine GE.icmp_ge (tgt := 46) dX10_lost_9 (by decide) ?_ ?_
  · refine GE.iload_n 1 dX10_lost_46 rfl rfl ?_
    exact GE.iret dX10_lost_47 rfl (Nat.le_refl _) (Nat.le_refl _)
  · refine GE.iload_n 1 dX10_lost_12 rfl rfl ?_
    refine GE.aload_n 0 dX10_lost_13 rfl rfl ?_
    refine GE.gR dX10_lost_14 lF_X10_61 (fun a5 => ?_)
    refine GE.iconst dX10_lost_17 kI_0 ?_
    refine GE.iload_n 2 dX10_lost_18 rfl rfl ?_
    refine GE.iadd dX10_lost_19 ?_
    refine GE.iald dX10_lost_20 (fun x6 => ?_)
    refine GE.aload_n 0 dX10_lost_21 rfl rfl ?_
    refine GE.gR dX10_lost_22 lF_X10_61 (fun a7 => ?_)
    refine GE.bipush dX10_lost_25 kB_39 ?_
    refine GE.iald dX10_lost_27 (fun x8 => ?_)
    refine GE.jo2 38 (fun (v9 : Int32) (v10 : Int32) => [(0, .ref a0), (2, .int x2)]) (fun (v9 : Int32) (v10 : Int32) => [.int v9, .int v10]) (fun (v9 : Int32) (v10 : Int32) => σ) (fun v9 v10 => ?_) (fun j11 hj11 => ?_)
    · refine GE.ior dX10_lost_38 ?_
      refine GE.nami (fun x12 => ?_)
      refine GE.istore_n (lv' := [(0, .ref a0), (1, .int x12), (2, .int x2)]) dX10_lost_39 rfl (by decide) [1, 0, 2] rfl ?_
      refine GE.iinc (lv' := [(0, .ref a0), (1, .int x12), (2, .int (x2 + 1))]) 2 dX10_lost_40 rfl kI_1 (by decide) [1, 2, 0] rfl ?_
      refine GE.goto (tgt := 4) dX10_lost_43 (by decide) ?_
      exact hl3 x12 (x2 + 1)
    · refine GE.icmp_ge (tgt := 37) dX10_lost_28 (by decide) ?_ ?_
      · refine GE.iconst dX10_lost_37 kI_0 ?_
        exact GE.sub [0, 2] rfl (hj11 0 x1)
      · refine GE.iconst dX10_lost_31 kI_1 ?_
        refine GE.iload_n 2 dX10_lost_32 rfl rfl ?_
        refine GE.ishl dX10_lost_33 ?_
        refine GE.goto (tgt := 38) dX10_lost_34 (by decide) ?_
        exact GE.sub [0, 2] rfl (hj11 (1 <<< (x2 &&& 31)) x1)
def fX10_mutual (σ : St) (a0 : Nat) : Option (Int32 × St) :=
  lo3 (fun l4 (x1 : Int32) (x2 : Int32) (t3 : St) =>
    (gI 10 27 t3 a0).bind fun x5 =>
  if x5 ≤ x2 then
    some (x1, t3)
  else
    lo3 (fun l9 (x6 : Int32) (x7 : Int32) (t8 : St) =>
      if x2 ≤ x7 then
      l4 x6 (x2 + 1) t8
    else
      (gR 10 28 t8 a0).bind fun a10 =>
      (aI 0 t8 a10 (30 + x7)).bind fun x11 =>
      bo 10 t8 a0 (fX10_seesNow t8 a0 x2 x11) (fun x12 t13 =>
      jo3 (fun (v14 : Int32) (v15 : Int32) (t16 : St) =>
        nam (v15 + v14 : Int32) (fun x18 =>
        l9 x18 (x7 + 1) t16)) (fun j17 =>
        jo2 (fun (v19 : Int32) (t20 : St) =>
          j17 0 v19 t20) (fun j21 =>
          if x12 = 0 then
            j21 x6 t13
          else
            (gR 10 28 t13 a0).bind fun a22 =>
            (aI 0 t13 a22 (30 + x2)).bind fun x23 =>
            bo 10 t13 a0 (fX10_seesNow t13 a0 x7 x23) (fun x24 t25 =>
            if x24 = 0 then
              j21 x6 t25
            else
              j17 1 x6 t25))))) FU x1 0 t3) FU 0 0 σ
set_option maxHeartbeats 4000000 in
set_option maxRecDepth 100000 in
theorem gX10_mutual (σ : St) (a0 : Nat) : CE vI mX10_mutual [.ref a0] σ (fX10_mutual σ a0) := by
  refine CE.ofGEF (lv := [(0, .ref a0)]) (by decide +kernel) (Nat.le_of_ble_eq_true rfl) rfl ?_
  unfold fX10_mutual
  refine GE.iconst dX10_mutual_0 kI_0 ?_
  refine GE.istore_n (lv' := [(0, .ref a0), (1, .int 0)]) dX10_mutual_1 rfl (by decide) [1, 0] rfl ?_
  refine GE.iconst dX10_mutual_2 kI_0 ?_
  refine GE.istore_n (lv' := [(0, .ref a0), (1, .int 0), (2, .int 0)]) dX10_mutual_3 rfl (by decide) [1, 2, 0] rfl ?_
  refine (GE.lo3 (fun (x1 : Int32) (x2 : Int32) (t3 : St) => [(0, .ref a0), (1, .int x1), (2, .int x2)]) (fun (x1 : Int32) (x2 : Int32) (t3 : St) => []) (fun (x1 : Int32) (x2 : Int32) (t3 : St) => t3) (fun l4 hl4 x1 x2 t3 => ?_) FU 0 0 σ)
  refine GE.iload_n 2 dX10_mutual_4 rfl rfl ?_
  refine GE.aload_n 0 dX10_mutual_5 rfl rfl ?_
  refine GE.gI dX10_mutual_6 lF_X10_261 (fun x5 => ?_)
  refine GE.icmp_ge (tgt := 73) dX10_mutual_9 (by decide) ?_ ?_
  · refine GE.iload_n 1 dX10_mutual_73 rfl rfl ?_
    exact GE.iret dX10_mutual_74 rfl (Nat.le_refl _) (Nat.le_refl _)
  · refine GE.iconst dX10_mutual_12 kI_0 ?_
    refine GE.istore_n (lv' := [(0, .ref a0), (1, .int x1), (2, .int x2), (3, .int 0)]) dX10_mutual_13 rfl (by decide) [1, 2, 3, 0] rfl ?_
    refine (GE.lo3 (fun (x6 : Int32) (x7 : Int32) (t8 : St) => [(0, .ref a0), (1, .int x6), (2, .int x2), (3, .int x7)]) (fun (x6 : Int32) (x7 : Int32) (t8 : St) => []) (fun (x6 : Int32) (x7 : Int32) (t8 : St) => t8) (fun l9 hl9 x6 x7 t8 => ?_) FU x1 0 t3)
    refine GE.iload_n 3 dX10_mutual_14 rfl rfl ?_
    refine GE.iload_n 2 dX10_mutual_15 rfl rfl ?_
    refine GE.icmp_ge (tgt := 67) dX10_mutual_16 (by decide) ?_ ?_
    · refine GE.iinc (lv' := [(0, .ref a0), (1, .int x6), (2, .int (x2 + 1)), (3, .int x7)]) 2 dX10_mutual_67 rfl kI_1 (by decide) [1, 2, 0, 3] rfl ?_
      refine GE.goto (tgt := 4) dX10_mutual_70 (by decide) ?_
      exact GE.sub [0, 1, 2] rfl (hl4 x6 (x2 + 1) t8)
    · refine GE.iload_n 1 dX10_mutual_19 rfl rfl ?_
      refine GE.aload_n 0 dX10_mutual_20 rfl rfl ?_
      refine GE.iload_n 2 dX10_mutual_21 rfl rfl ?_
      refine GE.aload_n 0 dX10_mutual_22 rfl rfl ?_
      refine GE.gR dX10_mutual_23 lF_X10_61 (fun a10 => ?_)
      refine GE.bipush dX10_mutual_26 kB_30 ?_
      refine GE.iload_n 3 dX10_mutual_28 rfl rfl ?_
      refine GE.iadd dX10_mutual_29 ?_
      refine GE.iald dX10_mutual_30 (fun x11 => ?_)
      refine GE.callvI [.int x2, .int x11] dX10_mutual_31 (lV_X10_325) rfl ⟨rfl, rfl⟩ (rokb rfl) (gX10_seesNow t8 a0 x2 x11) (fun x12 t13 => ?_)
      refine GE.jo3 59 (fun (v14 : Int32) (v15 : Int32) (t16 : St) => [(0, .ref a0), (2, .int x2), (3, .int x7)]) (fun (v14 : Int32) (v15 : Int32) (t16 : St) => [.int v14, .int v15]) (fun (v14 : Int32) (v15 : Int32) (t16 : St) => t16) (fun v14 v15 t16 => ?_) (fun j17 hj17 => ?_)
      · refine GE.iadd dX10_mutual_59 ?_
        refine GE.nami (fun x18 => ?_)
        refine GE.istore_n (lv' := [(0, .ref a0), (1, .int x18), (2, .int x2), (3, .int x7)]) dX10_mutual_60 rfl (by decide) [1, 0, 2, 3] rfl ?_
        refine GE.iinc (lv' := [(0, .ref a0), (1, .int x18), (2, .int x2), (3, .int (x7 + 1))]) 3 dX10_mutual_61 rfl kI_1 (by decide) [1, 2, 3, 0] rfl ?_
        refine GE.goto (tgt := 14) dX10_mutual_64 (by decide) ?_
        exact hl9 x18 (x7 + 1) t16
      · refine GE.jo2 58 (fun (v19 : Int32) (t20 : St) => [(0, .ref a0), (2, .int x2), (3, .int x7)]) (fun (v19 : Int32) (t20 : St) => [.int v19]) (fun (v19 : Int32) (t20 : St) => t20) (fun v19 t20 => ?_) (fun j21 hj21 => ?_)
        · refine GE.iconst dX10_mutual_58 kI_0 ?_
          exact hj17 0 v19 t20
        · refine GE.if_eq (tgt := 58) dX10_mutual_34 (by decide) ?_ ?_
          · exact GE.sub [0, 2, 3] rfl (hj21 x6 t13)
          · refine GE.aload_n 0 dX10_mutual_37 rfl rfl ?_
            refine GE.iload_n 3 dX10_mutual_38 rfl rfl ?_
            refine GE.aload_n 0 dX10_mutual_39 rfl rfl ?_
            refine GE.gR dX10_mutual_40 lF_X10_61 (fun a22 => ?_)
            refine GE.bipush dX10_mutual_43 kB_30 ?_
            refine GE.iload_n 2 dX10_mutual_45 rfl rfl ?_
            refine GE.iadd dX10_mutual_46 ?_
            refine GE.iald dX10_mutual_47 (fun x23 => ?_)
            refine GE.callvI [.int x7, .int x23] dX10_mutual_48 (lV_X10_325) rfl ⟨rfl, rfl⟩ (rokb rfl) (gX10_seesNow t13 a0 x7 x23) (fun x24 t25 => ?_)
            refine GE.if_eq (tgt := 58) dX10_mutual_51 (by decide) ?_ ?_
            · exact GE.sub [0, 2, 3] rfl (hj21 x6 t25)
            · refine GE.iconst dX10_mutual_54 kI_1 ?_
              refine GE.goto (tgt := 59) dX10_mutual_55 (by decide) ?_
              exact GE.sub [0, 2, 3] rfl (hj17 1 x6 t25)
