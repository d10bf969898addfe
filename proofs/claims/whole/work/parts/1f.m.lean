def fX10_thrown (σ : St) (a0 : Nat) : Option (Int32 × St) :=
  (gI 10 0 σ a0).bind fun x1 =>
  some (x1, σ)
set_option maxHeartbeats 4000000 in
set_option maxRecDepth 100000 in
theorem gX10_thrown (σ : St) (a0 : Nat) : CE vI mX10_thrown [.ref a0] σ (fX10_thrown σ a0) := by
  refine CE.ofGEF (lv := [(0, .ref a0)]) (by decide +kernel) (Nat.le_of_ble_eq_true rfl) rfl ?_
  unfold fX10_thrown
  refine GE.aload_n 0 dX10_thrown_0 rfl rfl ?_
  refine GE.gI dX10_thrown_1 lF_X10_102 (fun x1 => ?_)
  exact GE.iret dX10_thrown_4 rfl (Nat.le_refl _) (Nat.le_refl _)
def fX10_tower (σ : St) (a0 : Nat) (px1 : Int32) (px2 : Int32) : Option (Int32 × St) :=
  bo 10 σ a0 (fX10_isTower σ a0 px1) (fun x1 t2 =>
  jo3 (fun (v3 : Int32) (v4 : Nat) (t5 : St) =>
    (pV 10 0 t5 v4 (.int v3)).bind (fun t7 =>
    (gI 10 0 t7 a0).bind fun x8 =>
    if x8 = 1 then
      some (0, t7)
    else
      tbs px2 0 [(gR 10 28 t7 a0).bind fun a13 =>
          (aI 0 t7 a13 (30 + px1)).bind fun x14 =>
          some (x14, t7),
        (gR 10 28 t7 a0).bind fun a15 =>
          (aI 0 t7 a15 (34 + px1)).bind fun x16 =>
          some (x16, t7),
        (gR 10 25 t7 a0).bind fun a17 =>
          (aI 0 t7 a17 ((4 * px1) + 3)).bind fun x18 =>
          some (x18, t7),
        bo 10 t7 a0 (fX10_reachOf t7 a0 px1) (fun x19 t20 =>
          some (x19, t20)),
        (gR 10 28 t7 a0).bind fun a21 =>
          (aI 0 t7 a21 38).bind fun x22 =>
          some ((x22 >>> (px1 &&& 31)) &&& 1, t7)] (bo 10 t7 a0 (fX10_seenBy t7 a0 px1) (fun x9 t10 =>
        bd (fJ6_bitCount_0f7a4 t10 x9) (fun x11 t12 =>
        some (x11, t12)))))) (fun j6 =>
    jo2 (fun (v23 : Nat) (t24 : St) =>
      j6 1 v23 t24) (fun j25 =>
      if x1 = 0 then
        j25 a0 t2
      else
        bd (fX10_in t2 px2 0 5) (fun x26 t27 =>
        if x26 = 0 then
          j25 a0 t27
        else
          j6 0 a0 t27))))
set_option maxHeartbeats 4000000 in
set_option maxRecDepth 100000 in
theorem gX10_tower (σ : St) (a0 : Nat) (px1 : Int32) (px2 : Int32) : CE vI mX10_tower [.ref a0, .int px1, .int px2] σ (fX10_tower σ a0 px1 px2) := by
  refine CE.ofGEF (lv := [(0, .ref a0), (1, .int px1), (2, .int px2)]) (by decide +kernel) (Nat.le_of_ble_eq_true rfl) rfl ?_
  unfold fX10_tower
  refine GE.aload_n 0 dX10_tower_0 rfl rfl ?_
  refine GE.aload_n 0 dX10_tower_1 rfl rfl ?_
  refine GE.iload_n 1 dX10_tower_2 rfl rfl ?_
  refine GE.callvI [.int px1] dX10_tower_3 (lV_X10_340) rfl ⟨rfl, rfl⟩ (rokb rfl) (gX10_isTower σ a0 px1) (fun x1 t2 => ?_)
  refine GE.jo3 23 (fun (v3 : Int32) (v4 : Nat) (t5 : St) => [(0, .ref a0), (1, .int px1), (2, .int px2)]) (fun (v3 : Int32) (v4 : Nat) (t5 : St) => [.int v3, .ref v4]) (fun (v3 : Int32) (v4 : Nat) (t5 : St) => t5) (fun v3 v4 t5 => ?_) (fun j6 hj6 => ?_)
  · refine GE.pI dX10_tower_23 lF_X10_102 (fun t7 => ?_)
    refine GE.aload_n 0 dX10_tower_26 rfl rfl ?_
    refine GE.gI dX10_tower_27 lF_X10_102 (fun x8 => ?_)
    refine GE.iconst dX10_tower_30 kI_1 ?_
    refine GE.icmp_ne (tgt := 36) dX10_tower_31 (by decide) ?_ ?_
    · refine GE.iload_n 2 dX10_tower_36 rfl rfl ?_
      refine GE.tsw (tgd := 121) dX10_tower_37 rfl rfl (by decide) ?_ ?_
      · refine GE.aload_n 0 dX10_tower_121 rfl rfl ?_
        refine GE.iload_n 1 dX10_tower_122 rfl rfl ?_
        refine GE.callvI [.int px1] dX10_tower_123 (lV_X10_328) rfl ⟨rfl, rfl⟩ (rokb rfl) (gX10_seenBy t7 a0 px1) (fun x9 t10 => ?_)
        refine GE.callsI [.int x9] dX10_tower_126 (lT_X10_343) rfl ⟨rfl, rfl⟩ (rokb rfl) (gJ6_bitCount_0f7a4 t10 x9) (fun x11 t12 => ?_)
        exact GE.iret dX10_tower_129 rfl (Nat.le_refl _) (Nat.le_refl _)
      · intro j9 E9 o9 hE9 ho9
        match j9, hE9, ho9 with
        | 0, hE9, ho9 =>
          cases hE9; cases ho9
          refine ⟨72, by decide, ?_⟩
          refine GE.aload_n 0 dX10_tower_72 rfl rfl ?_
          refine GE.gR dX10_tower_73 lF_X10_61 (fun a13 => ?_)
          refine GE.bipush dX10_tower_76 kB_30 ?_
          refine GE.iload_n 1 dX10_tower_78 rfl rfl ?_
          refine GE.iadd dX10_tower_79 ?_
          refine GE.iald dX10_tower_80 (fun x14 => ?_)
          exact GE.iret dX10_tower_81 rfl (Nat.le_refl _) (Nat.le_refl _)
        | 1, hE9, ho9 =>
          cases hE9; cases ho9
          refine ⟨82, by decide, ?_⟩
          refine GE.aload_n 0 dX10_tower_82 rfl rfl ?_
          refine GE.gR dX10_tower_83 lF_X10_61 (fun a15 => ?_)
          refine GE.bipush dX10_tower_86 kB_34 ?_
          refine GE.iload_n 1 dX10_tower_88 rfl rfl ?_
          refine GE.iadd dX10_tower_89 ?_
          refine GE.iald dX10_tower_90 (fun x16 => ?_)
          exact GE.iret dX10_tower_91 rfl (Nat.le_refl _) (Nat.le_refl _)
        | 2, hE9, ho9 =>
          cases hE9; cases ho9
          refine ⟨92, by decide, ?_⟩
          refine GE.aload_n 0 dX10_tower_92 rfl rfl ?_
          refine GE.gR dX10_tower_93 lF_X10_58 (fun a17 => ?_)
          refine GE.iconst dX10_tower_96 kI_4 ?_
          refine GE.iload_n 1 dX10_tower_97 rfl rfl ?_
          refine GE.imul dX10_tower_98 ?_
          refine GE.iconst dX10_tower_99 kI_3 ?_
          refine GE.iadd dX10_tower_100 ?_
          refine GE.iald dX10_tower_101 (fun x18 => ?_)
          exact GE.iret dX10_tower_102 rfl (Nat.le_refl _) (Nat.le_refl _)
        | 3, hE9, ho9 =>
          cases hE9; cases ho9
          refine ⟨103, by decide, ?_⟩
          refine GE.aload_n 0 dX10_tower_103 rfl rfl ?_
          refine GE.iload_n 1 dX10_tower_104 rfl rfl ?_
          refine GE.callvI [.int px1] dX10_tower_105 (lV_X10_318) rfl ⟨rfl, rfl⟩ (rokb rfl) (gX10_reachOf t7 a0 px1) (fun x19 t20 => ?_)
          exact GE.iret dX10_tower_108 rfl (Nat.le_refl _) (Nat.le_refl _)
        | 4, hE9, ho9 =>
          cases hE9; cases ho9
          refine ⟨109, by decide, ?_⟩
          refine GE.aload_n 0 dX10_tower_109 rfl rfl ?_
          refine GE.gR dX10_tower_110 lF_X10_61 (fun a21 => ?_)
          refine GE.bipush dX10_tower_113 kB_38 ?_
          refine GE.iald dX10_tower_115 (fun x22 => ?_)
          refine GE.iload_n 1 dX10_tower_116 rfl rfl ?_
          refine GE.ishr dX10_tower_117 ?_
          refine GE.iconst dX10_tower_118 kI_1 ?_
          refine GE.iand dX10_tower_119 ?_
          exact GE.iret dX10_tower_120 rfl (Nat.le_refl _) (Nat.le_refl _)
        | j9 + 5, hE9, ho9 => cases hE9
    · refine GE.iconst dX10_tower_34 kI_0 ?_
      exact GE.iret dX10_tower_35 rfl (Nat.le_refl _) (Nat.le_refl _)
  · refine GE.jo2 22 (fun (v23 : Nat) (t24 : St) => [(0, .ref a0), (1, .int px1), (2, .int px2)]) (fun (v23 : Nat) (t24 : St) => [.ref v23]) (fun (v23 : Nat) (t24 : St) => t24) (fun v23 t24 => ?_) (fun j25 hj25 => ?_)
    · refine GE.iconst dX10_tower_22 kI_1 ?_
      exact hj6 1 v23 t24
    · refine GE.if_eq (tgt := 22) dX10_tower_6 (by decide) ?_ ?_
      · exact hj25 a0 t2
      · refine GE.iload_n 2 dX10_tower_9 rfl rfl ?_
        refine GE.iconst dX10_tower_10 kI_0 ?_
        refine GE.iconst dX10_tower_11 kI_5 ?_
        refine GE.callsI [.int px2, .int 0, .int 5] dX10_tower_12 (lT_X10_217) rfl ⟨rfl, rfl⟩ (rokb rfl) (gX10_in t2 px2 0 5) (fun x26 t27 => ?_)
        refine GE.if_eq (tgt := 22) dX10_tower_15 (by decide) ?_ ?_
        · exact hj25 a0 t27
        · refine GE.iconst dX10_tower_18 kI_0 ?_
          refine GE.goto (tgt := 23) dX10_tower_19 (by decide) ?_
          exact hj6 0 a0 t27
def fX10_undo (σ : St) (a0 : Nat) : Option (Int32 × St) :=
  (gI 10 33 σ a0).bind fun x1 =>
  if x1 = 0 then
    some ((-1), σ)
  else
    (gI 10 33 σ a0).bind fun x2 =>
    (pV 10 33 σ a0 (.int (x2 - 1))).bind (fun t3 =>
    lo2 (fun l6 (x4 : Int32) (t5 : St) =>
      if 223 ≤ x4 then
      (gI 10 33 t5 a0).bind fun x7 =>
      some (x7, t5)
    else
      (gR 10 28 t5 a0).bind fun a8 =>
      (gR 10 32 t5 a0).bind fun a9 =>
      (gI 10 33 t5 a0).bind fun x10 =>
      (aI 0 t5 a9 ((223 * x10) + x4)).bind fun x11 =>
      (sI 0 t5 a8 x4 x11).bind (fun t12 =>
      l6 (x4 + 1) t12)) FU 0 t3)
set_option maxHeartbeats 4000000 in
set_option maxRecDepth 100000 in
theorem gX10_undo (σ : St) (a0 : Nat) : CE vI mX10_undo [.ref a0] σ (fX10_undo σ a0) := by
  refine CE.ofGEF (lv := [(0, .ref a0)]) (by decide +kernel) (Nat.le_of_ble_eq_true rfl) rfl ?_
  unfold fX10_undo
  refine GE.aload_n 0 dX10_undo_0 rfl rfl ?_
  refine GE.gI dX10_undo_1 lF_X10_276 (fun x1 => ?_)
  refine GE.if_ne (tgt := 9) dX10_undo_4 (by decide) ?_ ?_
  · refine GE.aload_n 0 dX10_undo_9 rfl rfl ?_
    refine GE.dup dX10_undo_10 rfl ?_
    refine GE.gI dX10_undo_11 lF_X10_276 (fun x2 => ?_)
    refine GE.iconst dX10_undo_14 kI_1 ?_
    refine GE.isub dX10_undo_15 ?_
    refine GE.pI dX10_undo_16 lF_X10_276 (fun t3 => ?_)
    refine GE.iconst dX10_undo_19 kI_0 ?_
    refine GE.istore_n (lv' := [(0, .ref a0), (1, .int 0)]) dX10_undo_20 rfl (by decide) [1, 0] rfl ?_
    refine (GE.lo2 (fun (x4 : Int32) (t5 : St) => [(0, .ref a0), (1, .int x4)]) (fun (x4 : Int32) (t5 : St) => []) (fun (x4 : Int32) (t5 : St) => t5) (fun l6 hl6 x4 t5 => ?_) FU 0 t3)
    refine GE.iload_n 1 dX10_undo_21 rfl rfl ?_
    refine GE.sipush dX10_undo_22 kS_223 ?_
    refine GE.icmp_ge (tgt := 55) dX10_undo_25 (by decide) ?_ ?_
    · refine GE.aload_n 0 dX10_undo_55 rfl rfl ?_
      refine GE.gI dX10_undo_56 lF_X10_276 (fun x7 => ?_)
      exact GE.iret dX10_undo_59 rfl (Nat.le_refl _) (Nat.le_refl _)
    · refine GE.aload_n 0 dX10_undo_28 rfl rfl ?_
      refine GE.gR dX10_undo_29 lF_X10_61 (fun a8 => ?_)
      refine GE.iload_n 1 dX10_undo_32 rfl rfl ?_
      refine GE.aload_n 0 dX10_undo_33 rfl rfl ?_
      refine GE.gR dX10_undo_34 lF_X10_74 (fun a9 => ?_)
      refine GE.sipush dX10_undo_37 kS_223 ?_
      refine GE.aload_n 0 dX10_undo_40 rfl rfl ?_
      refine GE.gI dX10_undo_41 lF_X10_276 (fun x10 => ?_)
      refine GE.imul dX10_undo_44 ?_
      refine GE.iload_n 1 dX10_undo_45 rfl rfl ?_
      refine GE.iadd dX10_undo_46 ?_
      refine GE.iald dX10_undo_47 (fun x11 => ?_)
      refine GE.iast dX10_undo_48 (fun t12 => ?_)
      refine GE.iinc (lv' := [(0, .ref a0), (1, .int (x4 + 1))]) 1 dX10_undo_49 rfl kI_1 (by decide) [1, 0] rfl ?_
      refine GE.goto (tgt := 21) dX10_undo_52 (by decide) ?_
      exact hl6 (x4 + 1) t12
  · refine GE.iconst dX10_undo_7 kI_m1 ?_
    exact GE.iret dX10_undo_8 rfl (Nat.le_refl _) (Nat.le_refl _)
def fX10_watched (σ : St) (a0 : Nat) (px1 : Int32) : Option (Int32 × St) :=
  (gI 10 26 σ a0).bind fun x1 =>
  if x1 = 0 then
    some ((-1), σ)
  else
    bd (fX10_in σ px1 1 4) (fun x2 t3 =>
    if x2 = 0 then
      some ((-1), t3)
    else
      lo3 (fun l7 (x4 : Int32) (x5 : Int32) (t6 : St) =>
        (gI 10 26 t6 a0).bind fun x8 =>
      if x8 ≤ x5 then
        some (x4, t6)
      else
        lo3 (fun l12 (x9 : Int32) (x10 : Int32) (t11 : St) =>
          (gI 10 27 t11 a0).bind fun x13 =>
        if x13 ≤ x10 then
          jo2 (fun (v14 : Int32) (v15 : Int32) =>
            nam (v15 ||| v14 : Int32) (fun x17 =>
            l7 x17 (x5 + 1) t11)) (fun j16 =>
            if x9 < px1 then
              j16 0 x4
            else
              j16 (1 <<< (x5 &&& 31)) x4)
        else
          bo 10 t11 a0 (fX10_seesNow t11 a0 x10 x5) (fun x18 t19 =>
          jo2 (fun (v20 : Int32) (v21 : Int32) =>
            nam (v21 + v20 : Int32) (fun x23 =>
            l12 x23 (x10 + 1) t19)) (fun j22 =>
            if x18 = 0 then
              j22 0 x9
            else
              j22 1 x9))) FU 0 0 t6) FU 0 0 t3)
set_option maxHeartbeats 4000000 in
set_option maxRecDepth 100000 in
theorem gX10_watched (σ : St) (a0 : Nat) (px1 : Int32) : CE vI mX10_watched [.ref a0, .int px1] σ (fX10_watched σ a0 px1) := by
  refine CE.ofGEF (lv := [(0, .ref a0), (1, .int px1)]) (by decide +kernel) (Nat.le_of_ble_eq_true rfl) rfl ?_
  unfold fX10_watched
  refine GE.aload_n 0 dX10_watched_0 rfl rfl ?_
  refine GE.gI dX10_watched_1 lF_X10_264 (fun x1 => ?_)
  refine GE.if_eq (tgt := 16) dX10_watched_4 (by decide) ?_ ?_
  · refine GE.iconst dX10_watched_16 kI_m1 ?_
    exact GE.iret dX10_watched_17 rfl (Nat.le_refl _) (Nat.le_refl _)
  · refine GE.iload_n 1 dX10_watched_7 rfl rfl ?_
    refine GE.iconst dX10_watched_8 kI_1 ?_
    refine GE.iconst dX10_watched_9 kI_4 ?_
    refine GE.callsI [.int px1, .int 1, .int 4] dX10_watched_10 (lT_X10_217) rfl ⟨rfl, rfl⟩ (rokb rfl) (gX10_in σ px1 1 4) (fun x2 t3 => ?_)
    refine GE.if_ne (tgt := 18) dX10_watched_13 (by decide) ?_ ?_
    · refine GE.iconst dX10_watched_18 kI_0 ?_
      refine GE.istore_n (lv' := [(0, .ref a0), (1, .int px1), (2, .int 0)]) dX10_watched_19 rfl (by decide) [1, 2, 0] rfl ?_
      refine GE.iconst dX10_watched_20 kI_0 ?_
      refine GE.istore_n (lv' := [(0, .ref a0), (1, .int px1), (2, .int 0), (3, .int 0)]) dX10_watched_21 rfl (by decide) [1, 2, 3, 0] rfl ?_
      refine (GE.lo3 (fun (x4 : Int32) (x5 : Int32) (t6 : St) => [(0, .ref a0), (1, .int px1), (2, .int x4), (3, .int x5)]) (fun (x4 : Int32) (x5 : Int32) (t6 : St) => []) (fun (x4 : Int32) (x5 : Int32) (t6 : St) => t6) (fun l7 hl7 x4 x5 t6 => ?_) FU 0 0 t3)
      refine GE.iload_n 3 dX10_watched_22 rfl rfl ?_
      refine GE.aload_n 0 dX10_watched_23 rfl rfl ?_
      refine GE.gI dX10_watched_24 lF_X10_264 (fun x8 => ?_)
      refine GE.icmp_ge (tgt := 93) dX10_watched_27 (by decide) ?_ ?_
      · refine GE.iload_n 2 dX10_watched_93 rfl rfl ?_
        exact GE.iret dX10_watched_94 rfl (Nat.le_refl _) (Nat.le_refl _)
      · refine GE.iconst dX10_watched_30 kI_0 ?_
        refine GE.istore (lv' := [(0, .ref a0), (1, .int px1), (2, .int x4), (3, .int x5), (4, .int 0)]) dX10_watched_31 (by decide) [1, 2, 3, 4, 0] rfl ?_
        refine GE.iconst dX10_watched_33 kI_0 ?_
        refine GE.istore (lv' := [(0, .ref a0), (1, .int px1), (2, .int x4), (3, .int x5), (4, .int 0), (5, .int 0)]) dX10_watched_34 (by decide) [1, 2, 3, 4, 5, 0] rfl ?_
        refine (GE.lo3 (fun (x9 : Int32) (x10 : Int32) (t11 : St) => [(0, .ref a0), (1, .int px1), (2, .int x4), (3, .int x5), (4, .int x9), (5, .int x10)]) (fun (x9 : Int32) (x10 : Int32) (t11 : St) => []) (fun (x9 : Int32) (x10 : Int32) (t11 : St) => t11) (fun l12 hl12 x9 x10 t11 => ?_) FU 0 0 t6)
        refine GE.iload 5 dX10_watched_36 rfl ?_
        refine GE.aload_n 0 dX10_watched_38 rfl rfl ?_
        refine GE.gI dX10_watched_39 lF_X10_261 (fun x13 => ?_)
        refine GE.icmp_ge (tgt := 71) dX10_watched_42 (by decide) ?_ ?_
        · refine GE.iload_n 2 dX10_watched_71 rfl rfl ?_
          refine GE.iload 4 dX10_watched_72 rfl ?_
          refine GE.iload_n 1 dX10_watched_74 rfl rfl ?_
          refine GE.jo2 85 (fun (v14 : Int32) (v15 : Int32) => [(0, .ref a0), (1, .int px1), (3, .int x5)]) (fun (v14 : Int32) (v15 : Int32) => [.int v14, .int v15]) (fun (v14 : Int32) (v15 : Int32) => t11) (fun v14 v15 => ?_) (fun j16 hj16 => ?_)
          · refine GE.ior dX10_watched_85 ?_
            refine GE.nami (fun x17 => ?_)
            refine GE.istore_n (lv' := [(0, .ref a0), (1, .int px1), (2, .int x17), (3, .int x5)]) dX10_watched_86 rfl (by decide) [1, 2, 0, 3] rfl ?_
            refine GE.iinc (lv' := [(0, .ref a0), (1, .int px1), (2, .int x17), (3, .int (x5 + 1))]) 3 dX10_watched_87 rfl kI_1 (by decide) [1, 2, 3, 0] rfl ?_
            refine GE.goto (tgt := 22) dX10_watched_90 (by decide) ?_
            exact hl7 x17 (x5 + 1) t11
          · refine GE.icmp_lt (tgt := 84) dX10_watched_75 (by decide) ?_ ?_
            · refine GE.iconst dX10_watched_84 kI_0 ?_
              exact GE.sub [0, 1, 3] rfl (hj16 0 x4)
            · refine GE.iconst dX10_watched_78 kI_1 ?_
              refine GE.iload_n 3 dX10_watched_79 rfl rfl ?_
              refine GE.ishl dX10_watched_80 ?_
              refine GE.goto (tgt := 85) dX10_watched_81 (by decide) ?_
              exact GE.sub [0, 1, 3] rfl (hj16 (1 <<< (x5 &&& 31)) x4)
        · refine GE.iload 4 dX10_watched_45 rfl ?_
          refine GE.aload_n 0 dX10_watched_47 rfl rfl ?_
          refine GE.iload 5 dX10_watched_48 rfl ?_
          refine GE.iload_n 3 dX10_watched_50 rfl rfl ?_
          refine GE.callvI [.int x10, .int x5] dX10_watched_51 (lV_X10_325) rfl ⟨rfl, rfl⟩ (rokb rfl) (gX10_seesNow t11 a0 x10 x5) (fun x18 t19 => ?_)
          refine GE.jo2 62 (fun (v20 : Int32) (v21 : Int32) => [(0, .ref a0), (1, .int px1), (2, .int x4), (3, .int x5), (5, .int x10)]) (fun (v20 : Int32) (v21 : Int32) => [.int v20, .int v21]) (fun (v20 : Int32) (v21 : Int32) => t19) (fun v20 v21 => ?_) (fun j22 hj22 => ?_)
          · refine GE.iadd dX10_watched_62 ?_
            refine GE.nami (fun x23 => ?_)
            refine GE.istore (lv' := [(0, .ref a0), (1, .int px1), (2, .int x4), (3, .int x5), (4, .int x23), (5, .int x10)]) dX10_watched_63 (by decide) [1, 2, 3, 4, 0, 5] rfl ?_
            refine GE.iinc (lv' := [(0, .ref a0), (1, .int px1), (2, .int x4), (3, .int x5), (4, .int x23), (5, .int (x10 + 1))]) 5 dX10_watched_65 rfl kI_1 (by decide) [1, 2, 3, 4, 5, 0] rfl ?_
            refine GE.goto (tgt := 36) dX10_watched_68 (by decide) ?_
            exact hl12 x23 (x10 + 1) t19
          · refine GE.if_eq (tgt := 61) dX10_watched_54 (by decide) ?_ ?_
            · refine GE.iconst dX10_watched_61 kI_0 ?_
              exact GE.sub [0, 1, 2, 3, 5] rfl (hj22 0 x9)
            · refine GE.iconst dX10_watched_57 kI_1 ?_
              refine GE.goto (tgt := 62) dX10_watched_58 (by decide) ?_
              exact GE.sub [0, 1, 2, 3, 5] rfl (hj22 1 x9)
    · refine GE.iconst dX10_watched_16 kI_m1 ?_
      exact GE.iret dX10_watched_17 rfl (Nat.le_refl _) (Nat.le_refl _)
def fX10_way (σ : St) (a0 : Nat) (px1 : Int32) (px2 : Int32) (px3 : Int32) : Option (Int32 × St) :=
  bo 10 σ a0 (fX10_isCell σ a0 px1) (fun x1 t2 =>
  if x1 = 0 then
    some ((-1), t2)
  else
    bo 10 t2 a0 (fX10_isCell t2 a0 px2) (fun x3 t4 =>
    if x3 = 0 then
      some ((-1), t4)
    else
      bd (fX10_in t4 px3 0 1) (fun x5 t6 =>
      if x5 = 0 then
        some ((-1), t6)
      else
        bo 10 t6 a0 (fX10_hid t6 a0) (fun x7 t8 =>
        lo2 (fun l11 (x9 : Int32) (t10 : St) =>
          (gI 10 26 t10 a0).bind fun x12 =>
        if x12 ≤ x9 then
          bo 10 t10 a0 (fX10_layAway t10 a0 px2) (fun w13 t14 =>
          bd (fX10_has t14 x7 px1) (fun x15 t16 =>
          if x15 = 0 then
            some ((-1), t16)
          else
            bd (fX10_has t16 x7 px2) (fun x17 t18 =>
            if x17 = 0 then
              some ((-1), t18)
            else
              (gR 10 36 t18 a0).bind fun a19 =>
              (aI 0 t18 a19 px1).bind fun x20 =>
              if x20 < 1000 then
                if px3 = 0 then
                  (gR 10 36 t18 a0).bind fun a36 =>
                  (aI 0 t18 a36 px1).bind fun x37 =>
                  some (x37 - 1, t18)
                else
                  (gI 10 26 t18 a0).bind fun x21 =>
                  nam (x21 - 1 : Int32) (fun x22 =>
                  lo3 (fun l26 (x23 : Int32) (x24 : Int32) (t25 : St) =>
                    if x24 < 0 then
                    some (x23, t25)
                  else
                    bo 10 t25 a0 (fX10_areBeside t25 a0 px1 x24) (fun x27 t28 =>
                    jo1 (fun (v29 : Int32) =>
                      l26 v29 (x24 + (-1)) t28) (fun j30 =>
                      jo1 (fun (u30 : Unit) =>
                        j30 x23) (fun j31 =>
                        if x27 = 0 then
                          j31 () 
                        else
                          (gR 10 36 t28 a0).bind fun a32 =>
                          (aI 0 t28 a32 x24).bind fun x33 =>
                          (gR 10 36 t28 a0).bind fun a34 =>
                          (aI 0 t28 a34 px1).bind fun x35 =>
                          if x33 = x35 - 1 then
                            j30 x24
                          else
                            j31 () )))) FU ((-1)) x22 t18)
              else
                some ((-1), t18))))
        else
          (gR 10 35 t10 a0).bind fun a38 =>
          bd (fX10_has t10 x7 x9) (fun x39 t40 =>
          jo3 (fun (v41 : Int32) (v42 : Int32) (v43 : Nat) =>
            (sI 0 t40 v43 v42 v41).bind (fun t45 =>
            l11 (x9 + 1) t45)) (fun j44 =>
            if x39 = 0 then
              j44 1000 x9 a38
            else
              j44 1 x9 a38))) FU 0 t8))))
set_option maxHeartbeats 4000000 in
set_option maxRecDepth 100000 in
theorem gX10_way (σ : St) (a0 : Nat) (px1 : Int32) (px2 : Int32) (px3 : Int32) : CE vI mX10_way [.ref a0, .int px1, .int px2, .int px3] σ (fX10_way σ a0 px1 px2 px3) := by
  refine CE.ofGEF (lv := [(0, .ref a0), (1, .int px1), (2, .int px2), (3, .int px3)]) (by decide +kernel) (Nat.le_of_ble_eq_true rfl) rfl ?_
  unfold fX10_way
  refine GE.aload_n 0 dX10_way_0 rfl rfl ?_
  refine GE.iload_n 1 dX10_way_1 rfl rfl ?_
  refine GE.callvI [.int px1] dX10_way_2 (lV_X10_337) rfl ⟨rfl, rfl⟩ (rokb rfl) (gX10_isCell σ a0 px1) (fun x1 t2 => ?_)
  refine GE.if_eq (tgt := 25) dX10_way_5 (by decide) ?_ ?_
  · refine GE.iconst dX10_way_25 kI_m1 ?_
    exact GE.iret dX10_way_26 rfl (Nat.le_refl _) (Nat.le_refl _)
  · refine GE.aload_n 0 dX10_way_8 rfl rfl ?_
    refine GE.iload_n 2 dX10_way_9 rfl rfl ?_
    refine GE.callvI [.int px2] dX10_way_10 (lV_X10_337) rfl ⟨rfl, rfl⟩ (rokb rfl) (gX10_isCell t2 a0 px2) (fun x3 t4 => ?_)
    refine GE.if_eq (tgt := 25) dX10_way_13 (by decide) ?_ ?_
    · refine GE.iconst dX10_way_25 kI_m1 ?_
      exact GE.iret dX10_way_26 rfl (Nat.le_refl _) (Nat.le_refl _)
    · refine GE.iload_n 3 dX10_way_16 rfl rfl ?_
      refine GE.iconst dX10_way_17 kI_0 ?_
      refine GE.iconst dX10_way_18 kI_1 ?_
      refine GE.callsI [.int px3, .int 0, .int 1] dX10_way_19 (lT_X10_217) rfl ⟨rfl, rfl⟩ (rokb rfl) (gX10_in t4 px3 0 1) (fun x5 t6 => ?_)
      refine GE.if_ne (tgt := 27) dX10_way_22 (by decide) ?_ ?_
      · refine GE.aload_n 0 dX10_way_27 rfl rfl ?_
        refine GE.callvI [] dX10_way_28 (lV_X10_348) rfl ⟨rfl, rfl⟩ (rokb rfl) (gX10_hid t6 a0) (fun x7 t8 => ?_)
        refine GE.istore (lv' := [(0, .ref a0), (1, .int px1), (2, .int px2), (3, .int px3), (4, .int x7)]) dX10_way_31 (by decide) [1, 2, 3, 4, 0] rfl ?_
        refine GE.iconst dX10_way_33 kI_0 ?_
        refine GE.istore (lv' := [(0, .ref a0), (1, .int px1), (2, .int px2), (3, .int px3), (4, .int x7), (5, .int 0)]) dX10_way_34 (by decide) [1, 2, 3, 4, 5, 0] rfl ?_
        refine (GE.lo2 (fun (x9 : Int32) (t10 : St) => [(0, .ref a0), (1, .int px1), (2, .int px2), (3, .int px3), (4, .int x7), (5, .int x9)]) (fun (x9 : Int32) (t10 : St) => []) (fun (x9 : Int32) (t10 : St) => t10) (fun l11 hl11 x9 t10 => ?_) FU 0 t8)
        refine GE.iload 5 dX10_way_36 rfl ?_
        refine GE.aload_n 0 dX10_way_38 rfl rfl ?_
        refine GE.gI dX10_way_39 lF_X10_264 (fun x12 => ?_)
        refine GE.icmp_ge (tgt := 75) dX10_way_42 (by decide) ?_ ?_
        · refine GE.aload_n 0 dX10_way_75 rfl rfl ?_
          refine GE.iload_n 2 dX10_way_76 rfl rfl ?_
          refine GE.callvU [.int px2] dX10_way_77 (lV_X10_389) rfl ⟨rfl, rfl⟩ (rokb rfl) (gX10_layAway t10 a0 px2) (fun w13 t14 => ?_)
          refine GE.iload 4 dX10_way_80 rfl ?_
          refine GE.iload_n 1 dX10_way_82 rfl rfl ?_
          refine GE.callsI [.int x7, .int px1] dX10_way_83 (lT_X10_228) rfl ⟨rfl, rfl⟩ (rokb rfl) (gX10_has t14 x7 px1) (fun x15 t16 => ?_)
          refine GE.if_eq (tgt := 110) dX10_way_86 (by decide) ?_ ?_
          · refine GE.iconst dX10_way_110 kI_m1 ?_
            exact GE.iret dX10_way_111 rfl (Nat.le_refl _) (Nat.le_refl _)
          · refine GE.iload 4 dX10_way_89 rfl ?_
            refine GE.iload_n 2 dX10_way_91 rfl rfl ?_
            refine GE.callsI [.int x7, .int px2] dX10_way_92 (lT_X10_228) rfl ⟨rfl, rfl⟩ (rokb rfl) (gX10_has t16 x7 px2) (fun x17 t18 => ?_)
            refine GE.if_eq (tgt := 110) dX10_way_95 (by decide) ?_ ?_
            · refine GE.iconst dX10_way_110 kI_m1 ?_
              exact GE.iret dX10_way_111 rfl (Nat.le_refl _) (Nat.le_refl _)
            · refine GE.aload_n 0 dX10_way_98 rfl rfl ?_
              refine GE.gR dX10_way_99 lF_X10_80 (fun a19 => ?_)
              refine GE.iload_n 1 dX10_way_102 rfl rfl ?_
              refine GE.iald dX10_way_103 (fun x20 => ?_)
              refine GE.sipush dX10_way_104 kS_1000 ?_
              refine GE.icmp_lt (tgt := 112) dX10_way_107 (by decide) ?_ ?_
              · refine GE.iload_n 3 dX10_way_112 rfl rfl ?_
                refine GE.if_ne (tgt := 125) dX10_way_113 (by decide) ?_ ?_
                · refine GE.iconst dX10_way_125 kI_m1 ?_
                  refine GE.istore (lv' := [(0, .ref a0), (1, .int px1), (2, .int px2), (3, .int px3), (4, .int x7), (5, .int ((-1)))]) dX10_way_126 (by decide) [1, 2, 3, 4, 5, 0] rfl ?_
                  refine GE.aload_n 0 dX10_way_128 rfl rfl ?_
                  refine GE.gI dX10_way_129 lF_X10_264 (fun x21 => ?_)
                  refine GE.iconst dX10_way_132 kI_1 ?_
                  refine GE.isub dX10_way_133 ?_
                  refine GE.nami (fun x22 => ?_)
                  refine GE.istore (lv' := [(0, .ref a0), (1, .int px1), (2, .int px2), (3, .int px3), (4, .int x7), (5, .int ((-1))), (6, .int x22)]) dX10_way_134 (by decide) [1, 2, 3, 4, 5, 6, 0] rfl ?_
                  refine GE.sub [0, 1, 5, 6] rfl (GE.lo3 (fun (x23 : Int32) (x24 : Int32) (t25 : St) => [(0, .ref a0), (1, .int px1), (5, .int x23), (6, .int x24)]) (fun (x23 : Int32) (x24 : Int32) (t25 : St) => []) (fun (x23 : Int32) (x24 : Int32) (t25 : St) => t25) (fun l26 hl26 x23 x24 t25 => ?_) FU ((-1)) x22 t18)
                  refine GE.iload 3 dX10_way_136 rfl ?_
                  refine GE.if_lt (tgt := 184) dX10_way_138 (by decide) ?_ ?_
                  · refine GE.iload 2 dX10_way_184 rfl ?_
                    exact GE.iret dX10_way_186 rfl (Nat.le_refl _) (Nat.le_refl _)
                  · refine GE.aload_n 0 dX10_way_141 rfl rfl ?_
                    refine GE.iload_n 1 dX10_way_142 rfl rfl ?_
                    refine GE.iload 3 dX10_way_143 rfl ?_
                    refine GE.callvI [.int px1, .int x24] dX10_way_145 (lV_X10_386) rfl ⟨rfl, rfl⟩ (rokb rfl) (gX10_areBeside t25 a0 px1 x24) (fun x27 t28 => ?_)
                    refine GE.jo1 176 (fun (v29 : Int32) => [(0, .ref a0), (1, .int px1), (6, .int x24)]) (fun (v29 : Int32) => [.int v29]) (fun (v29 : Int32) => t28) (fun v29 => ?_) (fun j30 hj30 => ?_)
                    · refine GE.istore (lv' := [(0, .ref a0), (1, .int px1), (5, .int v29), (6, .int x24)]) dX10_way_176 (by decide) [1, 2, 0, 3] rfl ?_
                      refine GE.iinc (lv' := [(0, .ref a0), (1, .int px1), (5, .int v29), (6, .int (x24 + (-1)))]) 3 dX10_way_178 rfl kI_m1 (by decide) [1, 2, 3, 0] rfl ?_
                      refine GE.goto (tgt := 136) dX10_way_181 (by decide) ?_
                      exact hl26 v29 (x24 + (-1)) t28
                    · refine GE.jo1 174 (fun (u30 : Unit) => [(0, .ref a0), (1, .int px1), (5, .int x23), (6, .int x24)]) (fun (u30 : Unit) => []) (fun (u30 : Unit) => t28) (fun u30 => ?_) (fun j31 hj31 => ?_)
                      · refine GE.iload 2 dX10_way_174 rfl ?_
                        exact GE.sub [0, 1, 3] rfl (hj30 x23)
                      · refine GE.if_eq (tgt := 174) dX10_way_148 (by decide) ?_ ?_
                        · exact hj31 () 
                        · refine GE.aload_n 0 dX10_way_151 rfl rfl ?_
                          refine GE.gR dX10_way_152 lF_X10_80 (fun a32 => ?_)
                          refine GE.iload 3 dX10_way_155 rfl ?_
                          refine GE.iald dX10_way_157 (fun x33 => ?_)
                          refine GE.aload_n 0 dX10_way_158 rfl rfl ?_
                          refine GE.gR dX10_way_159 lF_X10_80 (fun a34 => ?_)
                          refine GE.iload_n 1 dX10_way_162 rfl rfl ?_
                          refine GE.iald dX10_way_163 (fun x35 => ?_)
                          refine GE.iconst dX10_way_164 kI_1 ?_
                          refine GE.isub dX10_way_165 ?_
                          refine GE.icmp_ne (tgt := 174) dX10_way_166 (by decide) ?_ ?_
                          · exact hj31 () 
                          · refine GE.iload 3 dX10_way_169 rfl ?_
                            refine GE.goto (tgt := 176) dX10_way_171 (by decide) ?_
                            exact GE.sub [0, 1, 3] rfl (hj30 x24)
                · refine GE.aload_n 0 dX10_way_116 rfl rfl ?_
                  refine GE.gR dX10_way_117 lF_X10_80 (fun a36 => ?_)
                  refine GE.iload_n 1 dX10_way_120 rfl rfl ?_
                  refine GE.iald dX10_way_121 (fun x37 => ?_)
                  refine GE.iconst dX10_way_122 kI_1 ?_
                  refine GE.isub dX10_way_123 ?_
                  exact GE.iret dX10_way_124 rfl (Nat.le_refl _) (Nat.le_refl _)
              · refine GE.iconst dX10_way_110 kI_m1 ?_
                exact GE.iret dX10_way_111 rfl (Nat.le_refl _) (Nat.le_refl _)
        · refine GE.aload_n 0 dX10_way_45 rfl rfl ?_
          refine GE.gR dX10_way_46 lF_X10_77 (fun a38 => ?_)
          refine GE.iload 5 dX10_way_49 rfl ?_
          refine GE.iload 4 dX10_way_51 rfl ?_
          refine GE.iload 5 dX10_way_53 rfl ?_
          refine GE.callsI [.int x7, .int x9] dX10_way_55 (lT_X10_228) rfl ⟨rfl, rfl⟩ (rokb rfl) (gX10_has t10 x7 x9) (fun x39 t40 => ?_)
          refine GE.jo3 68 (fun (v41 : Int32) (v42 : Int32) (v43 : Nat) => [(0, .ref a0), (1, .int px1), (2, .int px2), (3, .int px3), (4, .int x7), (5, .int x9)]) (fun (v41 : Int32) (v42 : Int32) (v43 : Nat) => [.int v41, .int v42, .ref v43]) (fun (v41 : Int32) (v42 : Int32) (v43 : Nat) => t40) (fun v41 v42 v43 => ?_) (fun j44 hj44 => ?_)
          · refine GE.iast dX10_way_68 (fun t45 => ?_)
            refine GE.iinc (lv' := [(0, .ref a0), (1, .int px1), (2, .int px2), (3, .int px3), (4, .int x7), (5, .int (x9 + 1))]) 5 dX10_way_69 rfl kI_1 (by decide) [1, 2, 3, 4, 5, 0] rfl ?_
            refine GE.goto (tgt := 36) dX10_way_72 (by decide) ?_
            exact hl11 (x9 + 1) t45
          · refine GE.if_eq (tgt := 65) dX10_way_58 (by decide) ?_ ?_
            · refine GE.sipush dX10_way_65 kS_1000 ?_
              exact hj44 1000 x9 a38
            · refine GE.iconst dX10_way_61 kI_1 ?_
              refine GE.goto (tgt := 68) dX10_way_62 (by decide) ?_
              exact hj44 1 x9 a38
      · refine GE.iconst dX10_way_25 kI_m1 ?_
        exact GE.iret dX10_way_26 rfl (Nat.le_refl _) (Nat.le_refl _)
def fX10_draw (σ : St) (a0 : Nat) (px1 : Int32) : Option (Int32 × St) :=
  (gL 10 34 σ a0).bind fun x1 =>
  (pV 10 34 σ a0 (.long ((x1 * 6364136223846793005) + 1442695040888963407))).bind (fun t2 =>
  (gL 10 34 t2 a0).bind fun x3 =>
  if Int32.toInt64 px1 = 0 then none else
  some (Int64.toInt32 (((Int64.toUInt64 x3 >>> ((Int32.toInt64 33).toUInt64 &&& Int64.toUInt64 63)).toInt64) - ((Int64.toUInt64 x3 >>> ((Int32.toInt64 33).toUInt64 &&& Int64.toUInt64 63)).toInt64) / (Int32.toInt64 px1) * (Int32.toInt64 px1)), t2))
set_option maxHeartbeats 4000000 in
set_option maxRecDepth 100000 in
theorem gX10_draw (σ : St) (a0 : Nat) (px1 : Int32) : CE vI mX10_draw [.ref a0, .int px1] σ (fX10_draw σ a0 px1) := by
  refine CE.ofGEF (lv := [(0, .ref a0), (1, .int px1)]) (by decide +kernel) (Nat.le_of_ble_eq_true rfl) rfl ?_
  unfold fX10_draw
  refine GE.aload_n 0 dX10_draw_0 rfl rfl ?_
  refine GE.aload_n 0 dX10_draw_1 rfl rfl ?_
  refine GE.gL dX10_draw_2 lF_X10_366 (fun x1 => ?_)
  refine GE.ldc2 (v := 6364136223846793005) dX10_draw_5 lKL_X10_370 ?_
  refine GE.lmul dX10_draw_8 ?_
  refine GE.ldc2 (v := 1442695040888963407) dX10_draw_9 lKL_X10_372 ?_
  refine GE.ladd dX10_draw_12 ?_
  refine GE.pL dX10_draw_13 lF_X10_366 (fun t2 => ?_)
  refine GE.aload_n 0 dX10_draw_16 rfl rfl ?_
  refine GE.gL dX10_draw_17 lF_X10_366 (fun x3 => ?_)
  refine GE.bipush dX10_draw_20 kB_33 ?_
  refine GE.lushr dX10_draw_22 ?_
  refine GE.iload_n 1 dX10_draw_23 rfl rfl ?_
  refine GE.i2l dX10_draw_24 ?_
  refine GE.lrem dX10_draw_25 ?_
  refine GE.l2i dX10_draw_26 ?_
  exact GE.iret dX10_draw_27 rfl (Nat.le_refl _) (Nat.le_refl _)
def fX10_drawHour (σ : St) (a0 : Nat) : Option (Unit × St) :=
  (gI 10 26 σ a0).bind fun x1 =>
  bo 10 σ a0 (fX10_draw σ a0 x1) (fun x2 t3 =>
  (gR 10 28 t3 a0).bind fun a4 =>
  (gR 10 28 t3 a0).bind fun a5 =>
  (aI 0 t3 a5 (0 + x2)).bind fun x6 =>
  bo 10 t3 a0 (fX10_draw t3 a0 3) (fun x7 t8 =>
  bd (fJ9_min_7cf53 t8 9 ((x6 + x7) - 1)) (fun x9 t10 =>
  bd (fJ9_max_7cf53 t10 0 x9) (fun x11 t12 =>
  (sI 0 t12 a4 (0 + x2) x11).bind (fun t13 =>
  bo 10 t13 a0 (fX10_draw t13 a0 10) (fun x14 t15 =>
  (gI 10 31 t15 a0).bind fun x16 =>
  if x16 ≤ x14 then
    some ((), t15)
  else
    (gR 10 28 t15 a0).bind fun a17 =>
    (gR 10 28 t15 a0).bind fun a18 =>
    (aI 0 t15 a18 39).bind fun x19 =>
    bd (fJ9_min_7cf53 t15 9 (x19 + 2)) (fun x20 t21 =>
    (sI 0 t21 a17 39 x20).bind (fun t22 =>
    some ((), t22)))))))))
set_option maxHeartbeats 4000000 in
set_option maxRecDepth 100000 in
theorem gX10_drawHour (σ : St) (a0 : Nat) : CE vU mX10_drawHour [.ref a0] σ (fX10_drawHour σ a0) := by
  refine CE.ofGEF (lv := [(0, .ref a0)]) (by decide +kernel) (Nat.le_of_ble_eq_true rfl) rfl ?_
  unfold fX10_drawHour
  refine GE.aload_n 0 dX10_drawHour_0 rfl rfl ?_
  refine GE.aload_n 0 dX10_drawHour_1 rfl rfl ?_
  refine GE.gI dX10_drawHour_2 lF_X10_264 (fun x1 => ?_)
  refine GE.callvI [.int x1] dX10_drawHour_5 (lV_X10_374) rfl ⟨rfl, rfl⟩ (rokb rfl) (gX10_draw σ a0 x1) (fun x2 t3 => ?_)
  refine GE.istore_n (lv' := [(0, .ref a0), (1, .int x2)]) dX10_drawHour_8 rfl (by decide) [1, 0] rfl ?_
  refine GE.aload_n 0 dX10_drawHour_9 rfl rfl ?_
  refine GE.gR dX10_drawHour_10 lF_X10_61 (fun a4 => ?_)
  refine GE.iconst dX10_drawHour_13 kI_0 ?_
  refine GE.iload_n 1 dX10_drawHour_14 rfl rfl ?_
  refine GE.iadd dX10_drawHour_15 ?_
  refine GE.iconst dX10_drawHour_16 kI_0 ?_
  refine GE.bipush dX10_drawHour_17 kB_9 ?_
  refine GE.aload_n 0 dX10_drawHour_19 rfl rfl ?_
  refine GE.gR dX10_drawHour_20 lF_X10_61 (fun a5 => ?_)
  refine GE.iconst dX10_drawHour_23 kI_0 ?_
  refine GE.iload_n 1 dX10_drawHour_24 rfl rfl ?_
  refine GE.iadd dX10_drawHour_25 ?_
  refine GE.iald dX10_drawHour_26 (fun x6 => ?_)
  refine GE.aload_n 0 dX10_drawHour_27 rfl rfl ?_
  refine GE.iconst dX10_drawHour_28 kI_3 ?_
  refine GE.callvI [.int 3] dX10_drawHour_29 (lV_X10_374) rfl ⟨rfl, rfl⟩ (rokb rfl) (gX10_draw t3 a0 3) (fun x7 t8 => ?_)
  refine GE.iadd dX10_drawHour_32 ?_
  refine GE.iconst dX10_drawHour_33 kI_1 ?_
  refine GE.isub dX10_drawHour_34 ?_
  refine GE.callsI [.int 9, .int ((x6 + x7) - 1)] dX10_drawHour_35 (lT_X10_309) rfl ⟨rfl, rfl⟩ (rokb rfl) (gJ9_min_7cf53 t8 9 ((x6 + x7) - 1)) (fun x9 t10 => ?_)
  refine GE.callsI [.int 0, .int x9] dX10_drawHour_38 (lT_X10_301) rfl ⟨rfl, rfl⟩ (rokb rfl) (gJ9_max_7cf53 t10 0 x9) (fun x11 t12 => ?_)
  refine GE.iast dX10_drawHour_41 (fun t13 => ?_)
  refine GE.aload_n 0 dX10_drawHour_42 rfl rfl ?_
  refine GE.bipush dX10_drawHour_43 kB_10 ?_
  refine GE.callvI [.int 10] dX10_drawHour_45 (lV_X10_374) rfl ⟨rfl, rfl⟩ (rokb rfl) (gX10_draw t13 a0 10) (fun x14 t15 => ?_)
  refine GE.aload_n 0 dX10_drawHour_48 rfl rfl ?_
  refine GE.gI dX10_drawHour_49 lF_X10_71 (fun x16 => ?_)
  refine GE.icmp_ge (tgt := 76) dX10_drawHour_52 (by decide) ?_ ?_
  · exact GE.vret (x := ()) dX10_drawHour_76 rfl (Nat.le_refl _) (Nat.le_refl _)
  · refine GE.aload_n 0 dX10_drawHour_55 rfl rfl ?_
    refine GE.gR dX10_drawHour_56 lF_X10_61 (fun a17 => ?_)
    refine GE.bipush dX10_drawHour_59 kB_39 ?_
    refine GE.bipush dX10_drawHour_61 kB_9 ?_
    refine GE.aload_n 0 dX10_drawHour_63 rfl rfl ?_
    refine GE.gR dX10_drawHour_64 lF_X10_61 (fun a18 => ?_)
    refine GE.bipush dX10_drawHour_67 kB_39 ?_
    refine GE.iald dX10_drawHour_69 (fun x19 => ?_)
    refine GE.iconst dX10_drawHour_70 kI_2 ?_
    refine GE.iadd dX10_drawHour_71 ?_
    refine GE.callsI [.int 9, .int (x19 + 2)] dX10_drawHour_72 (lT_X10_309) rfl ⟨rfl, rfl⟩ (rokb rfl) (gJ9_min_7cf53 t15 9 (x19 + 2)) (fun x20 t21 => ?_)
    refine GE.iast dX10_drawHour_75 (fun t22 => ?_)
    exact GE.vret (x := ()) dX10_drawHour_76 rfl (Nat.le_refl _) (Nat.le_refl _)
def fX10_years (σ : St) (a0 : Nat) (px1 : Int32) (px2 : Int64) : Option (Int32 × St) :=
  (gI 10 26 σ a0).bind fun x1 =>
  if x1 = 0 then
    some ((-1), σ)
  else
    bo 10 σ a0 (fX10_areHours σ a0 px1) (fun x2 t3 =>
    if x2 = 0 then
      some ((-1), t3)
    else
      (pV 10 34 t3 a0 (.long px2)).bind (fun t4 =>
      lo2 (fun l7 (x5 : Int32) (t6 : St) =>
        if px1 ≤ x5 then
        (gR 10 28 t6 a0).bind fun a8 =>
        (aI 0 t6 a8 41).bind fun x9 =>
        some (x9, t6)
      else
        bo 10 t6 a0 (fX10_keep t6 a0) (fun w10 t11 =>
        bo 10 t11 a0 (fX10_drawHour t11 a0) (fun w12 t13 =>
        bo 10 t13 a0 (fX10_passHour t13 a0) (fun w14 t15 =>
        l7 (x5 + 1) t15)))) FU 0 t4))
set_option maxHeartbeats 4000000 in
set_option maxRecDepth 100000 in
theorem gX10_years (σ : St) (a0 : Nat) (px1 : Int32) (px2 : Int64) : CE vI mX10_years [.ref a0, .int px1, .long px2] σ (fX10_years σ a0 px1 px2) := by
  refine CE.ofGEF (lv := [(0, .ref a0), (1, .int px1), (2, .long px2)]) (by decide +kernel) (Nat.le_of_ble_eq_true rfl) rfl ?_
  unfold fX10_years
  refine GE.aload_n 0 dX10_years_0 rfl rfl ?_
  refine GE.gI dX10_years_1 lF_X10_264 (fun x1 => ?_)
  refine GE.if_eq (tgt := 15) dX10_years_4 (by decide) ?_ ?_
  · refine GE.iconst dX10_years_15 kI_m1 ?_
    exact GE.iret dX10_years_16 rfl (Nat.le_refl _) (Nat.le_refl _)
  · refine GE.aload_n 0 dX10_years_7 rfl rfl ?_
    refine GE.iload_n 1 dX10_years_8 rfl rfl ?_
    refine GE.callvI [.int px1] dX10_years_9 (lV_X10_351) rfl ⟨rfl, rfl⟩ (rokb rfl) (gX10_areHours σ a0 px1) (fun x2 t3 => ?_)
    refine GE.if_ne (tgt := 17) dX10_years_12 (by decide) ?_ ?_
    · refine GE.aload_n 0 dX10_years_17 rfl rfl ?_
      refine GE.lload_n 2 dX10_years_18 rfl rfl ?_
      refine GE.pL dX10_years_19 lF_X10_366 (fun t4 => ?_)
      refine GE.iconst dX10_years_22 kI_0 ?_
      refine GE.istore (lv' := [(0, .ref a0), (1, .int px1), (2, .long px2), (4, .int 0)]) dX10_years_23 (by decide) [1, 2, 3, 0] rfl ?_
      refine GE.sub [0, 1, 3] rfl (GE.lo2 (fun (x5 : Int32) (t6 : St) => [(0, .ref a0), (1, .int px1), (4, .int x5)]) (fun (x5 : Int32) (t6 : St) => []) (fun (x5 : Int32) (t6 : St) => t6) (fun l7 hl7 x5 t6 => ?_) FU 0 t4)
      refine GE.iload 2 dX10_years_25 rfl ?_
      refine GE.iload_n 1 dX10_years_27 rfl rfl ?_
      refine GE.icmp_ge (tgt := 49) dX10_years_28 (by decide) ?_ ?_
      · refine GE.aload_n 0 dX10_years_49 rfl rfl ?_
        refine GE.gR dX10_years_50 lF_X10_61 (fun a8 => ?_)
        refine GE.bipush dX10_years_53 kB_41 ?_
        refine GE.iald dX10_years_55 (fun x9 => ?_)
        exact GE.iret dX10_years_56 rfl (Nat.le_refl _) (Nat.le_refl _)
      · refine GE.aload_n 0 dX10_years_31 rfl rfl ?_
        refine GE.callvU [] dX10_years_32 (lV_X10_357) rfl ⟨rfl, rfl⟩ (rokb rfl) (gX10_keep t6 a0) (fun w10 t11 => ?_)
        refine GE.aload_n 0 dX10_years_35 rfl rfl ?_
        refine GE.callvU [] dX10_years_36 (lV_X10_377) rfl ⟨rfl, rfl⟩ (rokb rfl) (gX10_drawHour t11 a0) (fun w12 t13 => ?_)
        refine GE.aload_n 0 dX10_years_39 rfl rfl ?_
        refine GE.callvU [] dX10_years_40 (lV_X10_360) rfl ⟨rfl, rfl⟩ (rokb rfl) (gX10_passHour t13 a0) (fun w14 t15 => ?_)
        refine GE.iinc (lv' := [(0, .ref a0), (1, .int px1), (4, .int (x5 + 1))]) 2 dX10_years_43 rfl kI_1 (by decide) [1, 2, 0] rfl ?_
        refine GE.goto (tgt := 25) dX10_years_46 (by decide) ?_
        exact hl7 (x5 + 1) t15
    · refine GE.iconst dX10_years_15 kI_m1 ?_
      exact GE.iret dX10_years_16 rfl (Nat.le_refl _) (Nat.le_refl _)
def fX7_beholds (σ : St) (a0 : Nat) (px1 : Int32) (px2 : Int32) (pq3 : Option Nat) : Option (Int32 × St) :=
  (gR 7 10 σ a0).bind fun a1 =>
  (aI 0 σ a1 px1).bind fun x2 =>
  bo 7 σ a0 (fX7_eye σ a0 px1) (fun x3 t4 =>
  bo 7 t4 a0 (fX7_reach t4 a0 px1 pq3) (fun x5 t6 =>
  bo 7 t6 a0 (fX7_isClear t6 a0 x2 x3 x5 px2) (fun x7 t8 =>
  if x7 = 0 ∨ x7 = 1 then some (x7, t8) else none)))
set_option maxHeartbeats 4000000 in
set_option maxRecDepth 100000 in
theorem gX7_beholds (σ : St) (a0 : Nat) (px1 : Int32) (px2 : Int32) (pq3 : Option Nat) : CE vI mX7_beholds [.ref a0, .int px1, .int px2, va_rf pq3] σ (fX7_beholds σ a0 px1 px2 pq3) := by
  refine CE.ofGEF (lv := [(0, .ref a0), (1, .int px1), (2, .int px2), (3, va_rf pq3)]) (by decide +kernel) (by cases pq3 <;> exact Nat.le_of_ble_eq_true rfl) rfl ?_
  unfold fX7_beholds
  refine GE.aload_n 0 dX7_beholds_0 rfl rfl ?_
  refine GE.aload_n 0 dX7_beholds_1 rfl rfl ?_
  refine GE.gR dX7_beholds_2 lF_X7_43 (fun a1 => ?_)
  refine GE.iload_n 1 dX7_beholds_5 rfl rfl ?_
  refine GE.iald dX7_beholds_6 (fun x2 => ?_)
  refine GE.aload_n 0 dX7_beholds_7 rfl rfl ?_
  refine GE.iload_n 1 dX7_beholds_8 rfl rfl ?_
  refine GE.callvI [.int px1] dX7_beholds_9 (lV_X7_75) rfl ⟨rfl, rfl⟩ (rokb rfl) (gX7_eye σ a0 px1) (fun x3 t4 => ?_)
  refine GE.aload_n 0 dX7_beholds_12 rfl rfl ?_
  refine GE.iload_n 1 dX7_beholds_13 rfl rfl ?_
  refine GE.aloadq_n 3 dX7_beholds_14 rfl rfl ?_
  refine GE.callvI [.int px1, va_rf pq3] dX7_beholds_15 (lV_X7_79) rfl ⟨rfl, rfl⟩ (rokb rfl) (gX7_reach t4 a0 px1 pq3) (fun x5 t6 => ?_)
  refine GE.iload_n 2 dX7_beholds_18 rfl rfl ?_
  refine GE.callvI [.int x2, .int x3, .int x5, .int px2] dX7_beholds_19 (lV_X7_83) rfl ⟨rfl, rfl⟩ (rokb rfl) (gX7_isClear t6 a0 x2 x3 x5 px2) (fun x7 t8 => ?_)
  exact GE.zret dX7_beholds_22 rfl (Nat.le_refl _) (Nat.le_refl _)
def fX1_apart (σ : St) (pa0 : Nat) (px1 : Int32) (px2 : Int32) (px3 : Int32) (pq4 : Option Nat) : Option (Int32 × St) :=
  lo3 (fun l4 (x1 : Int32) (x2 : Int32) (t3 : St) =>
    if 9 < x2 then
    bd (fJ9_abs_0f7a4 t3 x1) (fun x5 t6 =>
    some (x5, t6))
  else
    jo2 (fun (x7 : Int32) (t8 : St) =>
      l4 x7 (x2 + 1) t8) (fun j9 =>
      if (px3 >>> (x2 &&& 31)) &&& 1 = 1 then
        (gR 7 9 t3 pa0).bind fun a10 =>
        (sI 0 t3 a10 px2 x2).bind (fun t11 =>
        bo 7 t11 pa0 (fX7_beholds t11 pa0 px1 px2 pq4) (fun x12 t13 =>
        jo2 (fun (v14 : Int32) (v15 : Int32) =>
          nam (v15 + v14 : Int32) (fun x17 =>
          j9 x17 t13)) (fun j16 =>
          if x12 = 0 then
            j16 ((-1)) x1
          else
            j16 1 x1)))
      else
        j9 x1 t3)) FU 0 0 σ
set_option maxHeartbeats 4000000 in
set_option maxRecDepth 100000 in
theorem gX1_apart (σ : St) (pa0 : Nat) (px1 : Int32) (px2 : Int32) (px3 : Int32) (pq4 : Option Nat) : CE vI mX1_apart [.ref pa0, .int px1, .int px2, .int px3, va_rf pq4] σ (fX1_apart σ pa0 px1 px2 px3 pq4) := by
  refine CE.ofGEF (lv := [(0, .ref pa0), (1, .int px1), (2, .int px2), (3, .int px3), (4, va_rf pq4)]) (by decide +kernel) (by cases pq4 <;> exact Nat.le_of_ble_eq_true rfl) rfl ?_
  unfold fX1_apart
  refine GE.iconst dX1_apart_0 kI_0 ?_
  refine GE.istore (lv' := [(0, .ref pa0), (1, .int px1), (2, .int px2), (3, .int px3), (4, va_rf pq4), (5, .int 0)]) dX1_apart_1 (by decide) [1, 2, 3, 4, 5, 0] (by cases pq4 <;> rfl) ?_
  refine GE.iconst dX1_apart_3 kI_0 ?_
  refine GE.istore (lv' := [(0, .ref pa0), (1, .int px1), (2, .int px2), (3, .int px3), (4, va_rf pq4), (5, .int 0), (6, .int 0)]) dX1_apart_4 (by decide) [1, 2, 3, 4, 5, 6, 0] rfl ?_
  refine (GE.lo3 (fun (x1 : Int32) (x2 : Int32) (t3 : St) => [(0, .ref pa0), (1, .int px1), (2, .int px2), (3, .int px3), (4, va_rf pq4), (5, .int x1), (6, .int x2)]) (fun (x1 : Int32) (x2 : Int32) (t3 : St) => []) (fun (x1 : Int32) (x2 : Int32) (t3 : St) => t3) (fun l4 hl4 x1 x2 t3 => ?_) FU 0 0 σ)
  refine GE.iload 6 dX1_apart_6 rfl ?_
  refine GE.bipush dX1_apart_8 kB_9 ?_
  refine GE.icmp_gt (tgt := 58) dX1_apart_10 (by decide) ?_ ?_
  · refine GE.iload 5 dX1_apart_58 rfl ?_
    refine GE.callsI [.int x1] dX1_apart_60 (lT_X1_48) rfl ⟨rfl, rfl⟩ (rokb rfl) (gJ9_abs_0f7a4 t3 x1) (fun x5 t6 => ?_)
    exact GE.iret dX1_apart_63 rfl (Nat.le_refl _) (Nat.le_refl _)
  · refine GE.iload_n 3 dX1_apart_13 rfl rfl ?_
    refine GE.iload 6 dX1_apart_14 rfl ?_
    refine GE.ishr dX1_apart_16 ?_
    refine GE.iconst dX1_apart_17 kI_1 ?_
    refine GE.iand dX1_apart_18 ?_
    refine GE.iconst dX1_apart_19 kI_1 ?_
    refine GE.jo2 52 (fun (x7 : Int32) (t8 : St) => [(0, .ref pa0), (1, .int px1), (2, .int px2), (3, .int px3), (4, va_rf pq4), (5, .int x7), (6, .int x2)]) (fun (x7 : Int32) (t8 : St) => []) (fun (x7 : Int32) (t8 : St) => t8) (fun x7 t8 => ?_) (fun j9 hj9 => ?_)
    · refine GE.iinc (lv' := [(0, .ref pa0), (1, .int px1), (2, .int px2), (3, .int px3), (4, va_rf pq4), (5, .int x7), (6, .int (x2 + 1))]) 6 dX1_apart_52 rfl kI_1 (by decide) [1, 2, 3, 4, 5, 6, 0] rfl ?_
      refine GE.goto (tgt := 6) dX1_apart_55 (by decide) ?_
      exact hl4 x7 (x2 + 1) t8
    · refine GE.icmp_ne (tgt := 52) dX1_apart_20 (by decide) ?_ ?_
      · exact hj9 x1 t3
      · refine GE.aload_n 0 dX1_apart_23 rfl rfl ?_
        refine GE.gR dX1_apart_24 lF_X1_35 (fun a10 => ?_)
        refine GE.iload_n 2 dX1_apart_27 rfl rfl ?_
        refine GE.iload 6 dX1_apart_28 rfl ?_
        refine GE.iast dX1_apart_30 (fun t11 => ?_)
        refine GE.iload 5 dX1_apart_31 rfl ?_
        refine GE.aload_n 0 dX1_apart_33 rfl rfl ?_
        refine GE.iload_n 1 dX1_apart_34 rfl rfl ?_
        refine GE.iload_n 2 dX1_apart_35 rfl rfl ?_
        refine GE.aloadq 4 dX1_apart_36 rfl ?_
        refine GE.callvI [.int px1, .int px2, va_rf pq4] dX1_apart_38 (lV_X1_44) rfl ⟨rfl, rfl⟩ (rokb rfl) (gX7_beholds t11 pa0 px1 px2 pq4) (fun x12 t13 => ?_)
        refine GE.jo2 49 (fun (v14 : Int32) (v15 : Int32) => [(0, .ref pa0), (1, .int px1), (2, .int px2), (3, .int px3), (4, va_rf pq4), (6, .int x2)]) (fun (v14 : Int32) (v15 : Int32) => [.int v14, .int v15]) (fun (v14 : Int32) (v15 : Int32) => t13) (fun v14 v15 => ?_) (fun j16 hj16 => ?_)
        · refine GE.iadd dX1_apart_49 ?_
          refine GE.nami (fun x17 => ?_)
          refine GE.istore (lv' := [(0, .ref pa0), (1, .int px1), (2, .int px2), (3, .int px3), (4, va_rf pq4), (5, .int x17), (6, .int x2)]) dX1_apart_50 (by decide) [1, 2, 3, 4, 5, 0, 6] (by cases pq4 <;> rfl) ?_
          exact hj9 x17 t13
        · refine GE.if_eq (tgt := 48) dX1_apart_41 (by decide) ?_ ?_
          · refine GE.iconst dX1_apart_48 kI_m1 ?_
            exact GE.sub [0, 1, 2, 3, 4, 6] rfl (hj16 ((-1)) x1)
          · refine GE.iconst dX1_apart_44 kI_1 ?_
            refine GE.goto (tgt := 49) dX1_apart_45 (by decide) ?_
            exact GE.sub [0, 1, 2, 3, 4, 6] rfl (hj16 1 x1)
def fX1_fits (σ : St) (a0 : Nat) (pa1 : Nat) (px2 : Int32) (pq3 : Option Nat) : Option (Int32 × St) :=
  lo2 (fun l3 (x1 : Int32) (t2 : St) =>
    (gI 1 3 t2 a0).bind fun x4 =>
  if x4 ≤ x1 then
    some (1, t2)
  else
    (gR 1 1 t2 a0).bind fun a5 =>
    (aI 0 t2 a5 x1).bind fun x6 =>
    jo1 (fun (t7 : St) =>
      l3 (x1 + 1) t7) (fun j8 =>
      if x6 = px2 then
        (gR 1 0 t2 a0).bind fun a9 =>
        (aI 0 t2 a9 x1).bind fun x10 =>
        bo 7 t2 pa1 (fX7_beholds t2 pa1 x10 px2 pq3) (fun x11 t12 =>
        (gR 1 2 t12 a0).bind fun a13 =>
        (aI 1 t12 a13 x1).bind fun x14 =>
        if x11 = x14 then
          j8 t12
        else
          some (0, t12))
      else
        j8 t2)) FU 0 σ
set_option maxHeartbeats 4000000 in
set_option maxRecDepth 100000 in
theorem gX1_fits (σ : St) (a0 : Nat) (pa1 : Nat) (px2 : Int32) (pq3 : Option Nat) : CE vI mX1_fits [.ref a0, .ref pa1, .int px2, va_rf pq3] σ (fX1_fits σ a0 pa1 px2 pq3) := by
  refine CE.ofGEF (lv := [(0, .ref a0), (1, .ref pa1), (2, .int px2), (3, va_rf pq3)]) (by decide +kernel) (by cases pq3 <;> exact Nat.le_of_ble_eq_true rfl) rfl ?_
  unfold fX1_fits
  refine GE.iconst dX1_fits_0 kI_0 ?_
  refine GE.istore (lv' := [(0, .ref a0), (1, .ref pa1), (2, .int px2), (3, va_rf pq3), (4, .int 0)]) dX1_fits_1 (by decide) [1, 2, 3, 4, 0] (by cases pq3 <;> rfl) ?_
  refine (GE.lo2 (fun (x1 : Int32) (t2 : St) => [(0, .ref a0), (1, .ref pa1), (2, .int px2), (3, va_rf pq3), (4, .int x1)]) (fun (x1 : Int32) (t2 : St) => []) (fun (x1 : Int32) (t2 : St) => t2) (fun l3 hl3 x1 t2 => ?_) FU 0 σ)
  refine GE.iload 4 dX1_fits_3 rfl ?_
  refine GE.aload_n 0 dX1_fits_5 rfl rfl ?_
  refine GE.gI dX1_fits_6 lF_X1_22 (fun x4 => ?_)
  refine GE.icmp_ge (tgt := 54) dX1_fits_9 (by decide) ?_ ?_
  · refine GE.iconst dX1_fits_54 kI_1 ?_
    exact GE.zretk dX1_fits_55 rfl (Nat.le_refl _) (Nat.le_refl _) (by decide)
  · refine GE.aload_n 0 dX1_fits_12 rfl rfl ?_
    refine GE.gR dX1_fits_13 lF_X1_15 (fun a5 => ?_)
    refine GE.iload 4 dX1_fits_16 rfl ?_
    refine GE.iald dX1_fits_18 (fun x6 => ?_)
    refine GE.iload_n 2 dX1_fits_19 rfl rfl ?_
    refine GE.jo1 48 (fun (t7 : St) => [(0, .ref a0), (1, .ref pa1), (2, .int px2), (3, va_rf pq3), (4, .int x1)]) (fun (t7 : St) => []) (fun (t7 : St) => t7) (fun t7 => ?_) (fun j8 hj8 => ?_)
    · refine GE.iinc (lv' := [(0, .ref a0), (1, .ref pa1), (2, .int px2), (3, va_rf pq3), (4, .int (x1 + 1))]) 4 dX1_fits_48 rfl kI_1 (by decide) [1, 2, 3, 4, 0] (by cases pq3 <;> rfl) ?_
      refine GE.goto (tgt := 3) dX1_fits_51 (by decide) ?_
      exact hl3 (x1 + 1) t7
    · refine GE.icmp_ne (tgt := 48) dX1_fits_20 (by decide) ?_ ?_
      · exact hj8 t2
      · refine GE.aload_n 1 dX1_fits_23 rfl rfl ?_
        refine GE.aload_n 0 dX1_fits_24 rfl rfl ?_
        refine GE.gR dX1_fits_25 lF_X1_11 (fun a9 => ?_)
        refine GE.iload 4 dX1_fits_28 rfl ?_
        refine GE.iald dX1_fits_30 (fun x10 => ?_)
        refine GE.iload_n 2 dX1_fits_31 rfl rfl ?_
        refine GE.aloadq_n 3 dX1_fits_32 rfl rfl ?_
        refine GE.callvI [.int x10, .int px2, va_rf pq3] dX1_fits_33 (lV_X1_44) rfl ⟨rfl, rfl⟩ (rokb rfl) (gX7_beholds t2 pa1 x10 px2 pq3) (fun x11 t12 => ?_)
        refine GE.aload_n 0 dX1_fits_36 rfl rfl ?_
        refine GE.gR dX1_fits_37 lF_X1_18 (fun a13 => ?_)
        refine GE.iload 4 dX1_fits_40 rfl ?_
        refine GE.zald dX1_fits_42 (fun x14 => ?_)
        refine GE.icmp_eq (tgt := 48) dX1_fits_43 (by decide) ?_ ?_
        · exact hj8 t12
        · refine GE.iconst dX1_fits_46 kI_0 ?_
          exact GE.zretk dX1_fits_47 rfl (Nat.le_refl _) (Nat.le_refl _) (by decide)
def fX1_fitting (σ : St) (a0 : Nat) (pa1 : Nat) (px2 : Int32) (pq3 : Option Nat) : Option (Int32 × St) :=
  lo3 (fun l4 (x1 : Int32) (x2 : Int32) (t3 : St) =>
    if 9 < x2 then
    some (x1, t3)
  else
    (gR 7 9 t3 pa1).bind fun a5 =>
    (sI 0 t3 a5 px2 x2).bind (fun t6 =>
    bo 1 t6 a0 (fX1_fits t6 a0 pa1 px2 pq3) (fun x7 t8 =>
    jo1 (fun (x9 : Int32) =>
      l4 x9 (x2 + 1) t8) (fun j10 =>
      if x7 = 0 then
        j10 x1
      else
        nam (x1 ||| (1 <<< (x2 &&& 31)) : Int32) (fun x11 =>
        j10 x11))))) FU 0 0 σ
set_option maxHeartbeats 4000000 in
set_option maxRecDepth 100000 in
theorem gX1_fitting (σ : St) (a0 : Nat) (pa1 : Nat) (px2 : Int32) (pq3 : Option Nat) : CE vI mX1_fitting [.ref a0, .ref pa1, .int px2, va_rf pq3] σ (fX1_fitting σ a0 pa1 px2 pq3) := by
  refine CE.ofGEF (lv := [(0, .ref a0), (1, .ref pa1), (2, .int px2), (3, va_rf pq3)]) (by decide +kernel) (by cases pq3 <;> exact Nat.le_of_ble_eq_true rfl) rfl ?_
  unfold fX1_fitting
  refine GE.iconst dX1_fitting_0 kI_0 ?_
  refine GE.istore (lv' := [(0, .ref a0), (1, .ref pa1), (2, .int px2), (3, va_rf pq3), (4, .int 0)]) dX1_fitting_1 (by decide) [1, 2, 3, 4, 0] (by cases pq3 <;> rfl) ?_
  refine GE.iconst dX1_fitting_3 kI_0 ?_
  refine GE.istore (lv' := [(0, .ref a0), (1, .ref pa1), (2, .int px2), (3, va_rf pq3), (4, .int 0), (5, .int 0)]) dX1_fitting_4 (by decide) [1, 2, 3, 4, 5, 0] rfl ?_
  refine (GE.lo3 (fun (x1 : Int32) (x2 : Int32) (t3 : St) => [(0, .ref a0), (1, .ref pa1), (2, .int px2), (3, va_rf pq3), (4, .int x1), (5, .int x2)]) (fun (x1 : Int32) (x2 : Int32) (t3 : St) => []) (fun (x1 : Int32) (x2 : Int32) (t3 : St) => t3) (fun l4 hl4 x1 x2 t3 => ?_) FU 0 0 σ)
  refine GE.iload 5 dX1_fitting_6 rfl ?_
  refine GE.bipush dX1_fitting_8 kB_9 ?_
  refine GE.icmp_gt (tgt := 46) dX1_fitting_10 (by decide) ?_ ?_
  · refine GE.iload 4 dX1_fitting_46 rfl ?_
    exact GE.iret dX1_fitting_48 rfl (Nat.le_refl _) (Nat.le_refl _)
  · refine GE.aload_n 1 dX1_fitting_13 rfl rfl ?_
    refine GE.gR dX1_fitting_14 lF_X1_35 (fun a5 => ?_)
    refine GE.iload_n 2 dX1_fitting_17 rfl rfl ?_
    refine GE.iload 5 dX1_fitting_18 rfl ?_
    refine GE.iast dX1_fitting_20 (fun t6 => ?_)
    refine GE.aload_n 0 dX1_fitting_21 rfl rfl ?_
    refine GE.aload_n 1 dX1_fitting_22 rfl rfl ?_
    refine GE.iload_n 2 dX1_fitting_23 rfl rfl ?_
    refine GE.aloadq_n 3 dX1_fitting_24 rfl rfl ?_
    refine GE.callvI [.ref pa1, .int px2, va_rf pq3] dX1_fitting_25 (lV_X1_40) rfl ⟨rfl, rfl⟩ (rokb rfl) (gX1_fits t6 a0 pa1 px2 pq3) (fun x7 t8 => ?_)
    refine GE.jo1 40 (fun (x9 : Int32) => [(0, .ref a0), (1, .ref pa1), (2, .int px2), (3, va_rf pq3), (4, .int x9), (5, .int x2)]) (fun (x9 : Int32) => []) (fun (x9 : Int32) => t8) (fun x9 => ?_) (fun j10 hj10 => ?_)
    · refine GE.iinc (lv' := [(0, .ref a0), (1, .ref pa1), (2, .int px2), (3, va_rf pq3), (4, .int x9), (5, .int (x2 + 1))]) 5 dX1_fitting_40 rfl kI_1 (by decide) [1, 2, 3, 4, 5, 0] rfl ?_
      refine GE.goto (tgt := 6) dX1_fitting_43 (by decide) ?_
      exact hl4 x9 (x2 + 1) t8
    · refine GE.if_eq (tgt := 40) dX1_fitting_28 (by decide) ?_ ?_
      · exact hj10 x1
      · refine GE.iload 4 dX1_fitting_31 rfl ?_
        refine GE.iconst dX1_fitting_33 kI_1 ?_
        refine GE.iload 5 dX1_fitting_34 rfl ?_
        refine GE.ishl dX1_fitting_36 ?_
        refine GE.ior dX1_fitting_37 ?_
        refine GE.nami (fun x11 => ?_)
        refine GE.istore (lv' := [(0, .ref a0), (1, .ref pa1), (2, .int px2), (3, va_rf pq3), (4, .int x11), (5, .int x2)]) dX1_fitting_38 (by decide) [1, 2, 3, 4, 0, 5] (by cases pq3 <;> rfl) ?_
        exact hj10 x11
def fX7_begin (σ : St) (a0 : Nat) (px1 : Int32) (px2 : Int32) (px3 : Int32) : Option (Unit × St) :=
  (pV 7 0 σ a0 (.int px1)).bind (fun t1 =>
  (pV 7 1 t1 a0 (.int px2)).bind (fun t2 =>
  (pV 7 2 t2 a0 (.int (px1 * px2))).bind (fun t3 =>
  (pV 7 3 t3 a0 (.int px3)).bind (fun t4 =>
  (pV 7 6 t4 a0 (.int 0)).bind (fun t5 =>
  (pV 7 7 t5 a0 (.int 0)).bind (fun t6 =>
  (pV 7 8 t6 a0 (.int 0)).bind (fun t7 =>
  some ((), t7))))))))
set_option maxHeartbeats 4000000 in
set_option maxRecDepth 100000 in
theorem gX7_begin (σ : St) (a0 : Nat) (px1 : Int32) (px2 : Int32) (px3 : Int32) : CE vU mX7_begin [.ref a0, .int px1, .int px2, .int px3] σ (fX7_begin σ a0 px1 px2 px3) := by
  refine CE.ofGEF (lv := [(0, .ref a0), (1, .int px1), (2, .int px2), (3, .int px3)]) (by decide +kernel) (Nat.le_of_ble_eq_true rfl) rfl ?_
  unfold fX7_begin
  refine GE.aload_n 0 dX7_begin_0 rfl rfl ?_
  refine GE.iload_n 1 dX7_begin_1 rfl rfl ?_
  refine GE.pI dX7_begin_2 lF_X7_11 (fun t1 => ?_)
  refine GE.aload_n 0 dX7_begin_5 rfl rfl ?_
  refine GE.iload_n 2 dX7_begin_6 rfl rfl ?_
  refine GE.pI dX7_begin_7 lF_X7_15 (fun t2 => ?_)
  refine GE.aload_n 0 dX7_begin_10 rfl rfl ?_
  refine GE.iload_n 1 dX7_begin_11 rfl rfl ?_
  refine GE.iload_n 2 dX7_begin_12 rfl rfl ?_
  refine GE.imul dX7_begin_13 ?_
  refine GE.pI dX7_begin_14 lF_X7_18 (fun t3 => ?_)
  refine GE.aload_n 0 dX7_begin_17 rfl rfl ?_
  refine GE.iload_n 3 dX7_begin_18 rfl rfl ?_
  refine GE.pI dX7_begin_19 lF_X7_21 (fun t4 => ?_)
  refine GE.aload_n 0 dX7_begin_22 rfl rfl ?_
  refine GE.iconst dX7_begin_23 kI_0 ?_
  refine GE.pI dX7_begin_24 lF_X7_30 (fun t5 => ?_)
  refine GE.aload_n 0 dX7_begin_27 rfl rfl ?_
  refine GE.iconst dX7_begin_28 kI_0 ?_
  refine GE.pI dX7_begin_29 lF_X7_33 (fun t6 => ?_)
  refine GE.aload_n 0 dX7_begin_32 rfl rfl ?_
  refine GE.iconst dX7_begin_33 kI_0 ?_
  refine GE.pI dX7_begin_34 lF_X7_36 (fun t7 => ?_)
  exact GE.vret (x := ()) dX7_begin_37 rfl (Nat.le_refl _) (Nat.le_refl _)
def fX7_become (σ : St) (a0 : Nat) (pa1 : Nat) : Option (Unit × St) :=
  (gI 7 0 σ pa1).bind fun x1 =>
  (gI 7 1 σ pa1).bind fun x2 =>
  (gI 7 3 σ pa1).bind fun x3 =>
  bo 7 σ a0 (fX7_begin σ a0 x1 x2 x3) (fun w4 t5 =>
  (gI 7 4 t5 pa1).bind fun x6 =>
  (pV 7 4 t5 a0 (.int x6)).bind (fun t7 =>
  (gI 7 5 t7 pa1).bind fun x8 =>
  (pV 7 5 t7 a0 (.int x8)).bind (fun t9 =>
  (gI 7 6 t9 pa1).bind fun x10 =>
  (pV 7 6 t9 a0 (.int x10)).bind (fun t11 =>
  (gI 7 7 t11 pa1).bind fun x12 =>
  (pV 7 7 t11 a0 (.int x12)).bind (fun t13 =>
  (gI 7 8 t13 pa1).bind fun x14 =>
  (pV 7 8 t13 a0 (.int x14)).bind (fun t15 =>
  (gR 7 9 t15 pa1).bind fun a16 =>
  (gR 7 9 t15 a0).bind fun a17 =>
  (cpr t15 a16 0 a17 0 30).bind (fun t18 =>
  (gR 7 10 t18 pa1).bind fun a19 =>
  (gR 7 10 t18 a0).bind fun a20 =>
  (cpr t18 a19 0 a20 0 4).bind (fun t21 =>
  (gR 7 11 t21 pa1).bind fun a22 =>
  (gR 7 11 t21 a0).bind fun a23 =>
  (cpr t21 a22 0 a23 0 4).bind (fun t24 =>
  (gR 7 12 t24 pa1).bind fun a25 =>
  (gR 7 12 t24 a0).bind fun a26 =>
  (cpr t24 a25 0 a26 0 4).bind (fun t27 =>
  some ((), t27)))))))))))
set_option maxHeartbeats 4000000 in
set_option maxRecDepth 100000 in
theorem gX7_become (σ : St) (a0 : Nat) (pa1 : Nat) : CE vU mX7_become [.ref a0, .ref pa1] σ (fX7_become σ a0 pa1) := by
  refine CE.ofGEF (lv := [(0, .ref a0), (1, .ref pa1)]) (by decide +kernel) (Nat.le_of_ble_eq_true rfl) rfl ?_
  unfold fX7_become
  refine GE.aload_n 0 dX7_become_0 rfl rfl ?_
  refine GE.aload_n 1 dX7_become_1 rfl rfl ?_
  refine GE.gI dX7_become_2 lF_X7_11 (fun x1 => ?_)
  refine GE.aload_n 1 dX7_become_5 rfl rfl ?_
  refine GE.gI dX7_become_6 lF_X7_15 (fun x2 => ?_)
  refine GE.aload_n 1 dX7_become_9 rfl rfl ?_
  refine GE.gI dX7_become_10 lF_X7_21 (fun x3 => ?_)
  refine GE.callvU [.int x1, .int x2, .int x3] dX7_become_13 (lV_X7_57) rfl ⟨rfl, rfl⟩ (rokb rfl) (gX7_begin σ a0 x1 x2 x3) (fun w4 t5 => ?_)
  refine GE.aload_n 0 dX7_become_16 rfl rfl ?_
  refine GE.aload_n 1 dX7_become_17 rfl rfl ?_
  refine GE.gI dX7_become_18 lF_X7_24 (fun x6 => ?_)
  refine GE.pI dX7_become_21 lF_X7_24 (fun t7 => ?_)
  refine GE.aload_n 0 dX7_become_24 rfl rfl ?_
  refine GE.aload_n 1 dX7_become_25 rfl rfl ?_
  refine GE.gI dX7_become_26 lF_X7_27 (fun x8 => ?_)
  refine GE.pI dX7_become_29 lF_X7_27 (fun t9 => ?_)
  refine GE.aload_n 0 dX7_become_32 rfl rfl ?_
  refine GE.aload_n 1 dX7_become_33 rfl rfl ?_
  refine GE.gI dX7_become_34 lF_X7_30 (fun x10 => ?_)
  refine GE.pI dX7_become_37 lF_X7_30 (fun t11 => ?_)
  refine GE.aload_n 0 dX7_become_40 rfl rfl ?_
  refine GE.aload_n 1 dX7_become_41 rfl rfl ?_
  refine GE.gI dX7_become_42 lF_X7_33 (fun x12 => ?_)
  refine GE.pI dX7_become_45 lF_X7_33 (fun t13 => ?_)
  refine GE.aload_n 0 dX7_become_48 rfl rfl ?_
  refine GE.aload_n 1 dX7_become_49 rfl rfl ?_
  refine GE.gI dX7_become_50 lF_X7_36 (fun x14 => ?_)
  refine GE.pI dX7_become_53 lF_X7_36 (fun t15 => ?_)
  refine GE.aload_n 1 dX7_become_56 rfl rfl ?_
  refine GE.gR dX7_become_57 lF_X7_39 (fun a16 => ?_)
  refine GE.iconst dX7_become_60 kI_0 ?_
  refine GE.aload_n 0 dX7_become_61 rfl rfl ?_
  refine GE.gR dX7_become_62 lF_X7_39 (fun a17 => ?_)
  refine GE.iconst dX7_become_65 kI_0 ?_
  refine GE.bipush dX7_become_66 kB_30 ?_
  refine GE.cpr dX7_become_68 lC_X7_61 (Nat.le_of_ble_eq_true rfl) (Nat.le_of_ble_eq_true rfl) (fun t18 => ?_)
  refine GE.aload_n 1 dX7_become_71 rfl rfl ?_
  refine GE.gR dX7_become_72 lF_X7_43 (fun a19 => ?_)
  refine GE.iconst dX7_become_75 kI_0 ?_
  refine GE.aload_n 0 dX7_become_76 rfl rfl ?_
  refine GE.gR dX7_become_77 lF_X7_43 (fun a20 => ?_)
  refine GE.iconst dX7_become_80 kI_0 ?_
  refine GE.iconst dX7_become_81 kI_4 ?_
  refine GE.cpr dX7_become_82 lC_X7_61 (Nat.le_of_ble_eq_true rfl) (Nat.le_of_ble_eq_true rfl) (fun t21 => ?_)
  refine GE.aload_n 1 dX7_become_85 rfl rfl ?_
  refine GE.gR dX7_become_86 lF_X7_46 (fun a22 => ?_)
  refine GE.iconst dX7_become_89 kI_0 ?_
  refine GE.aload_n 0 dX7_become_90 rfl rfl ?_
  refine GE.gR dX7_become_91 lF_X7_46 (fun a23 => ?_)
  refine GE.iconst dX7_become_94 kI_0 ?_
  refine GE.iconst dX7_become_95 kI_4 ?_
  refine GE.cpr dX7_become_96 lC_X7_61 (Nat.le_of_ble_eq_true rfl) (Nat.le_of_ble_eq_true rfl) (fun t24 => ?_)
  refine GE.aload_n 1 dX7_become_99 rfl rfl ?_
  refine GE.gR dX7_become_100 lF_X7_49 (fun a25 => ?_)
  refine GE.iconst dX7_become_103 kI_0 ?_
  refine GE.aload_n 0 dX7_become_104 rfl rfl ?_
  refine GE.gR dX7_become_105 lF_X7_49 (fun a26 => ?_)
  refine GE.iconst dX7_become_108 kI_0 ?_
  refine GE.iconst dX7_become_109 kI_4 ?_
  refine GE.cpr dX7_become_110 lC_X7_61 (Nat.le_of_ble_eq_true rfl) (Nat.le_of_ble_eq_true rfl) (fun t27 => ?_)
  exact GE.vret (x := ()) dX7_become_113 rfl (Nat.le_refl _) (Nat.le_refl _)
def fX9_ask (σ : St) (a0 : Nat) (px1 : Int32) : Option (Int32 × St) :=
  (gR 9 8 σ a0).bind fun a1 =>
  bo 7 σ a1 (fX7_hasCell σ a1 px1) (fun x2 t3 =>
  if x2 = 0 then
    some ((-1), t3)
  else
    (gR 9 10 t3 a0).bind fun a4 =>
    (gR 9 9 t3 a0).bind fun a5 =>
    bo 7 t3 a4 (fX7_become t3 a4 a5) (fun w6 t7 =>
    (gR 9 12 t7 a0).bind fun a8 =>
    (gR 9 10 t7 a0).bind fun a9 =>
    bo 9 t7 a0 (fX9_ruling t7 a0) (fun q10 t11 =>
    bo 1 t11 a8 (fX1_fitting t11 a8 a9 px1 q10) (fun x12 t13 =>
    if x12 = 0 then
      some ((-1), t13)
    else
      lo4 (fun l18 (x14 : Int32) (x15 : Int32) (x16 : Int32) (t17 : St) =>
        (gR 9 10 t17 a0).bind fun a19 =>
      (gI 7 3 t17 a19).bind fun x20 =>
      if x20 ≤ x16 then
        some (x14, t17)
      else
        (gR 9 10 t17 a0).bind fun a21 =>
        bo 9 t17 a0 (fX9_ruling t17 a0) (fun q22 t23 =>
        bd (fX1_apart t23 a21 x16 px1 x12 q22) (fun x24 t25 =>
        jo2 (fun (x26 : Int32) (x27 : Int32) =>
          l18 x26 x27 (x16 + 1) t25) (fun j28 =>
          jo1 (fun (u28 : Unit) =>
            j28 x16 x24) (fun j29 =>
            if x14 = (-1) then
              j29 () 
            else
              if x15 ≤ x24 then
                j28 x14 x15
              else
                j29 () ))))) FU ((-1)) 0 0 t13))))
set_option maxHeartbeats 4000000 in
set_option maxRecDepth 100000 in
theorem gX9_ask (σ : St) (a0 : Nat) (px1 : Int32) : CE vI mX9_ask [.ref a0, .int px1] σ (fX9_ask σ a0 px1) := by
  refine CE.ofGEF (lv := [(0, .ref a0), (1, .int px1)]) (by decide +kernel) (Nat.le_of_ble_eq_true rfl) rfl ?_
  unfold fX9_ask
  refine GE.aload_n 0 dX9_ask_0 rfl rfl ?_
  refine GE.gR dX9_ask_1 lF_X9_55 (fun a1 => ?_)
  refine GE.iload_n 1 dX9_ask_4 rfl rfl ?_
  refine GE.callvI [.int px1] dX9_ask_5 (lV_X9_153) rfl ⟨rfl, rfl⟩ (rokb rfl) (gX7_hasCell σ a1 px1) (fun x2 t3 => ?_)
  refine GE.if_ne (tgt := 13) dX9_ask_8 (by decide) ?_ ?_
  · refine GE.aload_n 0 dX9_ask_13 rfl rfl ?_
    refine GE.gR dX9_ask_14 lF_X9_62 (fun a4 => ?_)
    refine GE.aload_n 0 dX9_ask_17 rfl rfl ?_
    refine GE.gR dX9_ask_18 lF_X9_59 (fun a5 => ?_)
    refine GE.callvU [.ref a5] dX9_ask_21 (lV_X9_123) rfl ⟨rfl, rfl⟩ (rokb rfl) (gX7_become t3 a4 a5) (fun w6 t7 => ?_)
    refine GE.aload_n 0 dX9_ask_24 rfl rfl ?_
    refine GE.gR dX9_ask_25 lF_X9_75 (fun a8 => ?_)
    refine GE.aload_n 0 dX9_ask_28 rfl rfl ?_
    refine GE.gR dX9_ask_29 lF_X9_62 (fun a9 => ?_)
    refine GE.iload_n 1 dX9_ask_32 rfl rfl ?_
    refine GE.aload_n 0 dX9_ask_33 rfl rfl ?_
    refine GE.callvQ [] dX9_ask_34 (lV_X9_179) rfl ⟨rfl, rfl⟩ (rokb rfl) (gX9_ruling t7 a0) (fun q10 t11 => ?_)
    refine GE.callvI [.ref a9, .int px1, va_rf q10] dX9_ask_37 (lV_X9_293) rfl ⟨rfl, rfl⟩ (rokb rfl) (gX1_fitting t11 a8 a9 px1 q10) (fun x12 t13 => ?_)
    refine GE.istore_n (lv' := [(0, .ref a0), (1, .int px1), (2, .int x12)]) dX9_ask_40 rfl (by decide) [1, 2, 0] rfl ?_
    refine GE.iload_n 2 dX9_ask_41 rfl rfl ?_
    refine GE.if_ne (tgt := 47) dX9_ask_42 (by decide) ?_ ?_
    · refine GE.iconst dX9_ask_47 kI_m1 ?_
      refine GE.istore_n (lv' := [(0, .ref a0), (1, .int px1), (2, .int x12), (3, .int ((-1)))]) dX9_ask_48 rfl (by decide) [1, 2, 3, 0] rfl ?_
      refine GE.iconst dX9_ask_49 kI_0 ?_
      refine GE.istore (lv' := [(0, .ref a0), (1, .int px1), (2, .int x12), (3, .int ((-1))), (4, .int 0)]) dX9_ask_50 (by decide) [1, 2, 3, 4, 0] rfl ?_
      refine GE.iconst dX9_ask_52 kI_0 ?_
      refine GE.istore (lv' := [(0, .ref a0), (1, .int px1), (2, .int x12), (3, .int ((-1))), (4, .int 0), (5, .int 0)]) dX9_ask_53 (by decide) [1, 2, 3, 4, 5, 0] rfl ?_
      refine (GE.lo4 (fun (x14 : Int32) (x15 : Int32) (x16 : Int32) (t17 : St) => [(0, .ref a0), (1, .int px1), (2, .int x12), (3, .int x14), (4, .int x15), (5, .int x16)]) (fun (x14 : Int32) (x15 : Int32) (x16 : Int32) (t17 : St) => []) (fun (x14 : Int32) (x15 : Int32) (x16 : Int32) (t17 : St) => t17) (fun l18 hl18 x14 x15 x16 t17 => ?_) FU ((-1)) 0 0 t13)
      refine GE.iload 5 dX9_ask_55 rfl ?_
      refine GE.aload_n 0 dX9_ask_57 rfl rfl ?_
      refine GE.gR dX9_ask_58 lF_X9_62 (fun a19 => ?_)
      refine GE.gI dX9_ask_61 lF_X9_300 (fun x20 => ?_)
      refine GE.icmp_ge (tgt := 109) dX9_ask_64 (by decide) ?_ ?_
      · refine GE.iload_n 3 dX9_ask_109 rfl rfl ?_
        exact GE.iret dX9_ask_110 rfl (Nat.le_refl _) (Nat.le_refl _)
      · refine GE.aload_n 0 dX9_ask_67 rfl rfl ?_
        refine GE.gR dX9_ask_68 lF_X9_62 (fun a21 => ?_)
        refine GE.iload 5 dX9_ask_71 rfl ?_
        refine GE.iload_n 1 dX9_ask_73 rfl rfl ?_
        refine GE.iload_n 2 dX9_ask_74 rfl rfl ?_
        refine GE.aload_n 0 dX9_ask_75 rfl rfl ?_
        refine GE.callvQ [] dX9_ask_76 (lV_X9_179) rfl ⟨rfl, rfl⟩ (rokb rfl) (gX9_ruling t17 a0) (fun q22 t23 => ?_)
        refine GE.callsI [.ref a21, .int x16, .int px1, .int x12, va_rf q22] dX9_ask_79 (lT_X9_303) rfl ⟨rfl, rfl⟩ (rokb rfl) (gX1_apart t23 a21 x16 px1 x12 q22) (fun x24 t25 => ?_)
        refine GE.istore (lv' := [(0, .ref a0), (1, .int px1), (2, .int x12), (3, .int x14), (4, .int x15), (5, .int x16), (6, .int x24)]) dX9_ask_82 (by decide) [1, 2, 3, 4, 5, 6, 0] rfl ?_
        refine GE.iload_n 3 dX9_ask_84 rfl rfl ?_
        refine GE.iconst dX9_ask_85 kI_m1 ?_
        refine GE.jo2 103 (fun (x26 : Int32) (x27 : Int32) => [(0, .ref a0), (1, .int px1), (2, .int x12), (3, .int x26), (4, .int x27), (5, .int x16)]) (fun (x26 : Int32) (x27 : Int32) => []) (fun (x26 : Int32) (x27 : Int32) => t25) (fun x26 x27 => ?_) (fun j28 hj28 => ?_)
        · refine GE.iinc (lv' := [(0, .ref a0), (1, .int px1), (2, .int x12), (3, .int x26), (4, .int x27), (5, .int (x16 + 1))]) 5 dX9_ask_103 rfl kI_1 (by decide) [1, 2, 3, 4, 5, 0] rfl ?_
          refine GE.goto (tgt := 55) dX9_ask_106 (by decide) ?_
          exact hl18 x26 x27 (x16 + 1) t25
        · refine GE.jo1 96 (fun (u28 : Unit) => [(0, .ref a0), (1, .int px1), (2, .int x12), (5, .int x16), (6, .int x24)]) (fun (u28 : Unit) => []) (fun (u28 : Unit) => t25) (fun u28 => ?_) (fun j29 hj29 => ?_)
          · refine GE.iload 3 dX9_ask_96 rfl ?_
            refine GE.istore_n (lv' := [(0, .ref a0), (1, .int px1), (2, .int x12), (3, .int x16), (5, .int x16), (6, .int x24)]) dX9_ask_98 rfl (by decide) [1, 2, 3, 0, 4, 5] rfl ?_
            refine GE.iload 5 dX9_ask_99 rfl ?_
            refine GE.istore (lv' := [(0, .ref a0), (1, .int px1), (2, .int x12), (3, .int x16), (4, .int x24), (5, .int x16), (6, .int x24)]) dX9_ask_101 (by decide) [1, 2, 3, 4, 0, 5, 6] rfl ?_
            exact GE.sub [0, 1, 2, 3, 4, 5] rfl (hj28 x16 x24)
          · refine GE.icmp_eq (tgt := 96) dX9_ask_86 (by decide) ?_ ?_
            · exact GE.sub [0, 1, 2, 5, 6] rfl (hj29 () )
            · refine GE.iload 6 dX9_ask_89 rfl ?_
              refine GE.iload 4 dX9_ask_91 rfl ?_
              refine GE.icmp_ge (tgt := 103) dX9_ask_93 (by decide) ?_ ?_
              · exact GE.sub [0, 1, 2, 3, 4, 5] rfl (hj28 x14 x15)
              · exact GE.sub [0, 1, 2, 5, 6] rfl (hj29 () )
    · refine GE.iconst dX9_ask_45 kI_m1 ?_
      exact GE.iret dX9_ask_46 rfl (Nat.le_refl _) (Nat.le_refl _)
  · refine GE.iconst dX9_ask_11 kI_m1 ?_
    exact GE.iret dX9_ask_12 rfl (Nat.le_refl _) (Nat.le_refl _)
def fX7_load (σ : St) (a0 : Nat) (pa1 : Nat) (px2 : Int32) : Option (Unit × St) :=
  (gR 7 9 σ a0).bind fun a1 =>
  (cpr σ pa1 px2 a1 0 30).bind (fun t2 =>
  (gR 7 10 t2 a0).bind fun a3 =>
  (cpr t2 pa1 (px2 + 30) a3 0 4).bind (fun t4 =>
  (gR 7 11 t4 a0).bind fun a5 =>
  (cpr t4 pa1 ((px2 + 30) + 4) a5 0 4).bind (fun t6 =>
  nam ((px2 + 30) + 8 : Int32) (fun x7 =>
  (aI 0 t6 pa1 x7).bind fun x8 =>
  (pV 7 4 t6 a0 (.int x8)).bind (fun t9 =>
  (aI 0 t9 pa1 (x7 + 1)).bind fun x10 =>
  (pV 7 5 t9 a0 (.int x10)).bind (fun t11 =>
  (aI 0 t11 pa1 (x7 + 2)).bind fun x12 =>
  (pV 7 6 t11 a0 (.int x12)).bind (fun t13 =>
  (aI 0 t13 pa1 (x7 + 3)).bind fun x14 =>
  (pV 7 7 t13 a0 (.int x14)).bind (fun t15 =>
  (aI 0 t15 pa1 (x7 + 4)).bind fun x16 =>
  (pV 7 8 t15 a0 (.int x16)).bind (fun t17 =>
  some ((), t17))))))))))
set_option maxHeartbeats 4000000 in
set_option maxRecDepth 100000 in
theorem gX7_load (σ : St) (a0 : Nat) (pa1 : Nat) (px2 : Int32) : CE vU mX7_load [.ref a0, .ref pa1, .int px2] σ (fX7_load σ a0 pa1 px2) := by
  refine CE.ofGEF (lv := [(0, .ref a0), (1, .ref pa1), (2, .int px2)]) (by decide +kernel) (Nat.le_of_ble_eq_true rfl) rfl ?_
  unfold fX7_load
  refine GE.aload_n 1 dX7_load_0 rfl rfl ?_
  refine GE.iload_n 2 dX7_load_1 rfl rfl ?_
  refine GE.aload_n 0 dX7_load_2 rfl rfl ?_
  refine GE.gR dX7_load_3 lF_X7_39 (fun a1 => ?_)
  refine GE.iconst dX7_load_6 kI_0 ?_
  refine GE.bipush dX7_load_7 kB_30 ?_
  refine GE.cpr dX7_load_9 lC_X7_61 (Nat.le_of_ble_eq_true rfl) (Nat.le_of_ble_eq_true rfl) (fun t2 => ?_)
  refine GE.aload_n 1 dX7_load_12 rfl rfl ?_
  refine GE.iload_n 2 dX7_load_13 rfl rfl ?_
  refine GE.bipush dX7_load_14 kB_30 ?_
  refine GE.iadd dX7_load_16 ?_
  refine GE.aload_n 0 dX7_load_17 rfl rfl ?_
  refine GE.gR dX7_load_18 lF_X7_43 (fun a3 => ?_)
  refine GE.iconst dX7_load_21 kI_0 ?_
  refine GE.iconst dX7_load_22 kI_4 ?_
  refine GE.cpr dX7_load_23 lC_X7_61 (Nat.le_of_ble_eq_true rfl) (Nat.le_of_ble_eq_true rfl) (fun t4 => ?_)
  refine GE.aload_n 1 dX7_load_26 rfl rfl ?_
  refine GE.iload_n 2 dX7_load_27 rfl rfl ?_
  refine GE.bipush dX7_load_28 kB_30 ?_
  refine GE.iadd dX7_load_30 ?_
  refine GE.iconst dX7_load_31 kI_4 ?_
  refine GE.iadd dX7_load_32 ?_
  refine GE.aload_n 0 dX7_load_33 rfl rfl ?_
  refine GE.gR dX7_load_34 lF_X7_46 (fun a5 => ?_)
  refine GE.iconst dX7_load_37 kI_0 ?_
  refine GE.iconst dX7_load_38 kI_4 ?_
  refine GE.cpr dX7_load_39 lC_X7_61 (Nat.le_of_ble_eq_true rfl) (Nat.le_of_ble_eq_true rfl) (fun t6 => ?_)
  refine GE.iload_n 2 dX7_load_42 rfl rfl ?_
  refine GE.bipush dX7_load_43 kB_30 ?_
  refine GE.iadd dX7_load_45 ?_
  refine GE.bipush dX7_load_46 kB_8 ?_
  refine GE.iadd dX7_load_48 ?_
  refine GE.nami (fun x7 => ?_)
  refine GE.istore_n (lv' := [(0, .ref a0), (1, .ref pa1), (2, .int px2), (3, .int x7)]) dX7_load_49 rfl (by decide) [1, 2, 3, 0] rfl ?_
  refine GE.aload_n 0 dX7_load_50 rfl rfl ?_
  refine GE.aload_n 1 dX7_load_51 rfl rfl ?_
  refine GE.iload_n 3 dX7_load_52 rfl rfl ?_
  refine GE.iald dX7_load_53 (fun x8 => ?_)
  refine GE.pI dX7_load_54 lF_X7_24 (fun t9 => ?_)
  refine GE.aload_n 0 dX7_load_57 rfl rfl ?_
  refine GE.aload_n 1 dX7_load_58 rfl rfl ?_
  refine GE.iload_n 3 dX7_load_59 rfl rfl ?_
  refine GE.iconst dX7_load_60 kI_1 ?_
  refine GE.iadd dX7_load_61 ?_
  refine GE.iald dX7_load_62 (fun x10 => ?_)
  refine GE.pI dX7_load_63 lF_X7_27 (fun t11 => ?_)
  refine GE.aload_n 0 dX7_load_66 rfl rfl ?_
  refine GE.aload_n 1 dX7_load_67 rfl rfl ?_
  refine GE.iload_n 3 dX7_load_68 rfl rfl ?_
  refine GE.iconst dX7_load_69 kI_2 ?_
  refine GE.iadd dX7_load_70 ?_
  refine GE.iald dX7_load_71 (fun x12 => ?_)
  refine GE.pI dX7_load_72 lF_X7_30 (fun t13 => ?_)
  refine GE.aload_n 0 dX7_load_75 rfl rfl ?_
  refine GE.aload_n 1 dX7_load_76 rfl rfl ?_
  refine GE.iload_n 3 dX7_load_77 rfl rfl ?_
  refine GE.iconst dX7_load_78 kI_3 ?_
  refine GE.iadd dX7_load_79 ?_
  refine GE.iald dX7_load_80 (fun x14 => ?_)
  refine GE.pI dX7_load_81 lF_X7_33 (fun t15 => ?_)
  refine GE.aload_n 0 dX7_load_84 rfl rfl ?_
  refine GE.aload_n 1 dX7_load_85 rfl rfl ?_
  refine GE.iload_n 3 dX7_load_86 rfl rfl ?_
  refine GE.iconst dX7_load_87 kI_4 ?_
  refine GE.iadd dX7_load_88 ?_
  refine GE.iald dX7_load_89 (fun x16 => ?_)
  refine GE.pI dX7_load_90 lF_X7_36 (fun t17 => ?_)
  exact GE.vret (x := ()) dX7_load_93 rfl (Nat.le_refl _) (Nat.le_refl _)
def fX5_bringBack (σ : St) (a0 : Nat) (pa1 : Nat) : Option (Int32 × St) :=
  (gI 5 6 σ a0).bind fun x1 =>
  if x1 = 0 then
    some (0, σ)
  else
    (gR 5 5 σ a0).bind fun a2 =>
    bo 7 σ pa1 (fX7_load σ pa1 a2 0) (fun w3 t4 =>
    (gR 5 4 t4 a0).bind fun a5 =>
    (gR 5 3 t4 a0).bind fun a6 =>
    (cpr t4 a5 0 a6 0 128).bind (fun t7 =>
    (pV 5 2 t7 a0 (.int 0)).bind (fun t8 =>
    some (1, t8))))
set_option maxHeartbeats 4000000 in
set_option maxRecDepth 100000 in
theorem gX5_bringBack (σ : St) (a0 : Nat) (pa1 : Nat) : CE vI mX5_bringBack [.ref a0, .ref pa1] σ (fX5_bringBack σ a0 pa1) := by
  refine CE.ofGEF (lv := [(0, .ref a0), (1, .ref pa1)]) (by decide +kernel) (Nat.le_of_ble_eq_true rfl) rfl ?_
  unfold fX5_bringBack
  refine GE.aload_n 0 dX5_bringBack_0 rfl rfl ?_
  refine GE.gI dX5_bringBack_1 lF_X5_33 (fun x1 => ?_)
  refine GE.if_ne (tgt := 9) dX5_bringBack_4 (by decide) ?_ ?_
  · refine GE.aload_n 1 dX5_bringBack_9 rfl rfl ?_
    refine GE.aload_n 0 dX5_bringBack_10 rfl rfl ?_
    refine GE.gR dX5_bringBack_11 lF_X5_30 (fun a2 => ?_)
    refine GE.iconst dX5_bringBack_14 kI_0 ?_
    refine GE.callvU [.ref a2, .int 0] dX5_bringBack_15 (lV_X5_47) rfl ⟨rfl, rfl⟩ (rokb rfl) (gX7_load σ pa1 a2 0) (fun w3 t4 => ?_)
    refine GE.aload_n 0 dX5_bringBack_18 rfl rfl ?_
    refine GE.gR dX5_bringBack_19 lF_X5_27 (fun a5 => ?_)
    refine GE.iconst dX5_bringBack_22 kI_0 ?_
    refine GE.aload_n 0 dX5_bringBack_23 rfl rfl ?_
    refine GE.gR dX5_bringBack_24 lF_X5_24 (fun a6 => ?_)
    refine GE.iconst dX5_bringBack_27 kI_0 ?_
    refine GE.sipush dX5_bringBack_28 kS_128 ?_
    refine GE.cpr dX5_bringBack_31 lC_X5_63 (Nat.le_of_ble_eq_true rfl) (Nat.le_of_ble_eq_true rfl) (fun t7 => ?_)
    refine GE.aload_n 0 dX5_bringBack_34 rfl rfl ?_
    refine GE.iconst dX5_bringBack_35 kI_0 ?_
    refine GE.pI dX5_bringBack_36 lF_X5_21 (fun t8 => ?_)
    refine GE.iconst dX5_bringBack_39 kI_1 ?_
    exact GE.zretk dX5_bringBack_40 rfl (Nat.le_refl _) (Nat.le_refl _) (by decide)
  · refine GE.iconst dX5_bringBack_7 kI_0 ?_
    exact GE.zretk dX5_bringBack_8 rfl (Nat.le_refl _) (Nat.le_refl _) (by decide)
def fX9_back (σ : St) (a0 : Nat) : Option (Int32 × St) :=
  (gR 9 11 σ a0).bind fun a1 =>
  (gR 9 8 σ a0).bind fun a2 =>
  bo 5 σ a1 (fX5_bringBack σ a1 a2) (fun x3 t4 =>
  if x3 = 0 then
    some ((-1), t4)
  else
    (gR 9 8 t4 a0).bind fun a5 =>
    (gI 7 6 t4 a5).bind fun x6 =>
    some (x6, t4))
set_option maxHeartbeats 4000000 in
set_option maxRecDepth 100000 in
theorem gX9_back (σ : St) (a0 : Nat) : CE vI mX9_back [.ref a0] σ (fX9_back σ a0) := by
  refine CE.ofGEF (lv := [(0, .ref a0)]) (by decide +kernel) (Nat.le_of_ble_eq_true rfl) rfl ?_
  unfold fX9_back
  refine GE.aload_n 0 dX9_back_0 rfl rfl ?_
  refine GE.gR dX9_back_1 lF_X9_68 (fun a1 => ?_)
  refine GE.aload_n 0 dX9_back_4 rfl rfl ?_
  refine GE.gR dX9_back_5 lF_X9_55 (fun a2 => ?_)
  refine GE.callvI [.ref a2] dX9_back_8 (lV_X9_252) rfl ⟨rfl, rfl⟩ (rokb rfl) (gX5_bringBack σ a1 a2) (fun x3 t4 => ?_)
  refine GE.if_eq (tgt := 24) dX9_back_11 (by decide) ?_ ?_
  · refine GE.iconst dX9_back_24 kI_m1 ?_
    exact GE.iret dX9_back_25 rfl (Nat.le_refl _) (Nat.le_refl _)
  · refine GE.aload_n 0 dX9_back_14 rfl rfl ?_
    refine GE.gR dX9_back_15 lF_X9_55 (fun a5 => ?_)
    refine GE.gI dX9_back_18 lF_X9_200 (fun x6 => ?_)
    refine GE.goto (tgt := 25) dX9_back_21 (by decide) ?_
    exact GE.iret dX9_back_25 rfl (Nat.le_refl _) (Nat.le_refl _)
def fX5_logLength (σ : St) (pa0 : Nat) : Option (Int32 × St) :=
  (gI 7 8 σ pa0).bind fun x1 =>
  bd (fJ9_min_7cf53 σ 60 x1) (fun x2 t3 =>
  some (x2, t3))
set_option maxHeartbeats 4000000 in
set_option maxRecDepth 100000 in
theorem gX5_logLength (σ : St) (pa0 : Nat) : CE vI mX5_logLength [.ref pa0] σ (fX5_logLength σ pa0) := by
  refine CE.ofGEF (lv := [(0, .ref pa0)]) (by decide +kernel) (Nat.le_of_ble_eq_true rfl) rfl ?_
  unfold fX5_logLength
  refine GE.bipush dX5_logLength_0 kB_60 ?_
  refine GE.aload_n 0 dX5_logLength_2 rfl rfl ?_
  refine GE.gI dX5_logLength_3 lF_X5_50 (fun x1 => ?_)
  refine GE.callsI [.int 60, .int x1] dX5_logLength_6 (lT_X5_41) rfl ⟨rfl, rfl⟩ (rokb rfl) (gJ9_min_7cf53 σ 60 x1) (fun x2 t3 => ?_)
  exact GE.iret dX5_logLength_9 rfl (Nat.le_refl _) (Nat.le_refl _)
def fX9_count (σ : St) (a0 : Nat) (px1 : Int32) : Option (Int32 × St) :=
  tbs px1 0 [(gR 9 8 σ a0).bind fun a1 =>
      (gI 7 2 σ a1).bind fun x2 =>
      some (x2, σ),
    (gR 9 8 σ a0).bind fun a3 =>
      (gI 7 3 σ a3).bind fun x4 =>
      some (x4, σ),
    (gI 9 4 σ a0).bind fun x5 =>
      some (x5, σ),
    (gR 9 0 σ a0).bind fun a6 =>
      (gI 8 1 σ a6).bind fun x7 =>
      some (x7, σ),
    (gI 9 5 σ a0).bind fun x8 =>
      some (x8, σ),
    (gR 9 8 σ a0).bind fun a9 =>
      (gI 7 6 σ a9).bind fun x10 =>
      some (x10, σ),
    (gI 9 6 σ a0).bind fun x11 =>
      some (x11, σ),
    (gR 9 12 σ a0).bind fun a12 =>
      (gI 1 3 σ a12).bind fun x13 =>
      some (x13, σ),
    (gR 9 12 σ a0).bind fun a14 =>
      (gI 1 6 σ a14).bind fun x15 =>
      some (x15, σ),
    (gR 9 8 σ a0).bind fun a16 =>
      bd (fX5_logLength σ a16) (fun x17 t18 =>
      some (x17, t18)),
    (gR 9 11 σ a0).bind fun a19 =>
      (gI 5 2 σ a19).bind fun x20 =>
      some (x20, σ)] (some ((-1000000), σ))
set_option maxHeartbeats 4000000 in
set_option maxRecDepth 100000 in
theorem gX9_count (σ : St) (a0 : Nat) (px1 : Int32) : CE vI mX9_count [.ref a0, .int px1] σ (fX9_count σ a0 px1) := by
  refine CE.ofGEF (lv := [(0, .ref a0), (1, .int px1)]) (by decide +kernel) (Nat.le_of_ble_eq_true rfl) rfl ?_
  unfold fX9_count
  refine GE.iload_n 1 dX9_count_0 rfl rfl ?_
  refine GE.tsw (tgd := 139) dX9_count_1 rfl rfl (by decide) ?_ ?_
  · refine GE.ldcw (v := (-1000000)) dX9_count_139 lK_X9_313 ?_
    exact GE.iret dX9_count_142 rfl (Nat.le_refl _) (Nat.le_refl _)
  · intro j9 E9 o9 hE9 ho9
    match j9, hE9, ho9 with
    | 0, hE9, ho9 =>
      cases hE9; cases ho9
      refine ⟨60, by decide, ?_⟩
      refine GE.aload_n 0 dX9_count_60 rfl rfl ?_
      refine GE.gR dX9_count_61 lF_X9_55 (fun a1 => ?_)
      refine GE.gI dX9_count_64 lF_X9_130 (fun x2 => ?_)
      exact GE.iret dX9_count_67 rfl (Nat.le_refl _) (Nat.le_refl _)
    | 1, hE9, ho9 =>
      cases hE9; cases ho9
      refine ⟨68, by decide, ?_⟩
      refine GE.aload_n 0 dX9_count_68 rfl rfl ?_
      refine GE.gR dX9_count_69 lF_X9_55 (fun a3 => ?_)
      refine GE.gI dX9_count_72 lF_X9_300 (fun x4 => ?_)
      exact GE.iret dX9_count_75 rfl (Nat.le_refl _) (Nat.le_refl _)
    | 2, hE9, ho9 =>
      cases hE9; cases ho9
      refine ⟨76, by decide, ?_⟩
      refine GE.aload_n 0 dX9_count_76 rfl rfl ?_
      refine GE.gI dX9_count_77 lF_X9_38 (fun x5 => ?_)
      exact GE.iret dX9_count_80 rfl (Nat.le_refl _) (Nat.le_refl _)
    | 3, hE9, ho9 =>
      cases hE9; cases ho9
      refine ⟨81, by decide, ?_⟩
      refine GE.aload_n 0 dX9_count_81 rfl rfl ?_
      refine GE.gR dX9_count_82 lF_X9_10 (fun a6 => ?_)
      refine GE.gI dX9_count_85 lF_X9_101 (fun x7 => ?_)
      exact GE.iret dX9_count_88 rfl (Nat.le_refl _) (Nat.le_refl _)
    | 4, hE9, ho9 =>
      cases hE9; cases ho9
      refine ⟨89, by decide, ?_⟩
      refine GE.aload_n 0 dX9_count_89 rfl rfl ?_
      refine GE.gI dX9_count_90 lF_X9_42 (fun x8 => ?_)
      exact GE.iret dX9_count_93 rfl (Nat.le_refl _) (Nat.le_refl _)
    | 5, hE9, ho9 =>
      cases hE9; cases ho9
      refine ⟨94, by decide, ?_⟩
      refine GE.aload_n 0 dX9_count_94 rfl rfl ?_
      refine GE.gR dX9_count_95 lF_X9_55 (fun a9 => ?_)
      refine GE.gI dX9_count_98 lF_X9_200 (fun x10 => ?_)
      exact GE.iret dX9_count_101 rfl (Nat.le_refl _) (Nat.le_refl _)
    | 6, hE9, ho9 =>
      cases hE9; cases ho9
      refine ⟨102, by decide, ?_⟩
      refine GE.aload_n 0 dX9_count_102 rfl rfl ?_
      refine GE.gI dX9_count_103 lF_X9_45 (fun x11 => ?_)
      exact GE.iret dX9_count_106 rfl (Nat.le_refl _) (Nat.le_refl _)
    | 7, hE9, ho9 =>
      cases hE9; cases ho9
      refine ⟨107, by decide, ?_⟩
      refine GE.aload_n 0 dX9_count_107 rfl rfl ?_
      refine GE.gR dX9_count_108 lF_X9_75 (fun a12 => ?_)
      refine GE.gI dX9_count_111 lF_X9_361 (fun x13 => ?_)
      exact GE.iret dX9_count_114 rfl (Nat.le_refl _) (Nat.le_refl _)
    | 8, hE9, ho9 =>
      cases hE9; cases ho9
      refine ⟨115, by decide, ?_⟩
      refine GE.aload_n 0 dX9_count_115 rfl rfl ?_
      refine GE.gR dX9_count_116 lF_X9_75 (fun a14 => ?_)
      refine GE.gI dX9_count_119 lF_X9_364 (fun x15 => ?_)
      exact GE.iret dX9_count_122 rfl (Nat.le_refl _) (Nat.le_refl _)
    | 9, hE9, ho9 =>
      cases hE9; cases ho9
      refine ⟨123, by decide, ?_⟩
      refine GE.aload_n 0 dX9_count_123 rfl rfl ?_
      refine GE.gR dX9_count_124 lF_X9_55 (fun a16 => ?_)
      refine GE.callsI [.ref a16] dX9_count_127 (lT_X9_367) rfl ⟨rfl, rfl⟩ (rokb rfl) (gX5_logLength σ a16) (fun x17 t18 => ?_)
      exact GE.iret dX9_count_130 rfl (Nat.le_refl _) (Nat.le_refl _)
    | 10, hE9, ho9 =>
      cases hE9; cases ho9
      refine ⟨131, by decide, ?_⟩
      refine GE.aload_n 0 dX9_count_131 rfl rfl ?_
      refine GE.gR dX9_count_132 lF_X9_68 (fun a19 => ?_)
      refine GE.gI dX9_count_135 lF_X9_370 (fun x20 => ?_)
      exact GE.iret dX9_count_138 rfl (Nat.le_refl _) (Nat.le_refl _)
    | j9 + 11, hE9, ho9 => cases hE9
def fX7_save (σ : St) (a0 : Nat) (pa1 : Nat) (px2 : Int32) : Option (Unit × St) :=
  (gR 7 9 σ a0).bind fun a1 =>
  (cpr σ a1 0 pa1 px2 30).bind (fun t2 =>
  (gR 7 10 t2 a0).bind fun a3 =>
  (cpr t2 a3 0 pa1 (px2 + 30) 4).bind (fun t4 =>
  (gR 7 11 t4 a0).bind fun a5 =>
  (cpr t4 a5 0 pa1 ((px2 + 30) + 4) 4).bind (fun t6 =>
  nam ((px2 + 30) + 8 : Int32) (fun x7 =>
  (gI 7 4 t6 a0).bind fun x8 =>
  (sI 0 t6 pa1 x7 x8).bind (fun t9 =>
  (gI 7 5 t9 a0).bind fun x10 =>
  (sI 0 t9 pa1 (x7 + 1) x10).bind (fun t11 =>
  (gI 7 6 t11 a0).bind fun x12 =>
  (sI 0 t11 pa1 (x7 + 2) x12).bind (fun t13 =>
  (gI 7 7 t13 a0).bind fun x14 =>
  (sI 0 t13 pa1 (x7 + 3) x14).bind (fun t15 =>
  (gI 7 8 t15 a0).bind fun x16 =>
  (sI 0 t15 pa1 (x7 + 4) x16).bind (fun t17 =>
  some ((), t17))))))))))
set_option maxHeartbeats 4000000 in
set_option maxRecDepth 100000 in
theorem gX7_save (σ : St) (a0 : Nat) (pa1 : Nat) (px2 : Int32) : CE vU mX7_save [.ref a0, .ref pa1, .int px2] σ (fX7_save σ a0 pa1 px2) := by
  refine CE.ofGEF (lv := [(0, .ref a0), (1, .ref pa1), (2, .int px2)]) (by decide +kernel) (Nat.le_of_ble_eq_true rfl) rfl ?_
  unfold fX7_save
  refine GE.aload_n 0 dX7_save_0 rfl rfl ?_
  refine GE.gR dX7_save_1 lF_X7_39 (fun a1 => ?_)
  refine GE.iconst dX7_save_4 kI_0 ?_
  refine GE.aload_n 1 dX7_save_5 rfl rfl ?_
  refine GE.iload_n 2 dX7_save_6 rfl rfl ?_
  refine GE.bipush dX7_save_7 kB_30 ?_
  refine GE.cpr dX7_save_9 lC_X7_61 (Nat.le_of_ble_eq_true rfl) (Nat.le_of_ble_eq_true rfl) (fun t2 => ?_)
  refine GE.aload_n 0 dX7_save_12 rfl rfl ?_
  refine GE.gR dX7_save_13 lF_X7_43 (fun a3 => ?_)
  refine GE.iconst dX7_save_16 kI_0 ?_
  refine GE.aload_n 1 dX7_save_17 rfl rfl ?_
  refine GE.iload_n 2 dX7_save_18 rfl rfl ?_
  refine GE.bipush dX7_save_19 kB_30 ?_
  refine GE.iadd dX7_save_21 ?_
  refine GE.iconst dX7_save_22 kI_4 ?_
  refine GE.cpr dX7_save_23 lC_X7_61 (Nat.le_of_ble_eq_true rfl) (Nat.le_of_ble_eq_true rfl) (fun t4 => ?_)
  refine GE.aload_n 0 dX7_save_26 rfl rfl ?_
  refine GE.gR dX7_save_27 lF_X7_46 (fun a5 => ?_)
  refine GE.iconst dX7_save_30 kI_0 ?_
  refine GE.aload_n 1 dX7_save_31 rfl rfl ?_
  refine GE.iload_n 2 dX7_save_32 rfl rfl ?_
  refine GE.bipush dX7_save_33 kB_30 ?_
  refine GE.iadd dX7_save_35 ?_
  refine GE.iconst dX7_save_36 kI_4 ?_
  refine GE.iadd dX7_save_37 ?_
  refine GE.iconst dX7_save_38 kI_4 ?_
  refine GE.cpr dX7_save_39 lC_X7_61 (Nat.le_of_ble_eq_true rfl) (Nat.le_of_ble_eq_true rfl) (fun t6 => ?_)
  refine GE.iload_n 2 dX7_save_42 rfl rfl ?_
  refine GE.bipush dX7_save_43 kB_30 ?_
  refine GE.iadd dX7_save_45 ?_
  refine GE.bipush dX7_save_46 kB_8 ?_
  refine GE.iadd dX7_save_48 ?_
  refine GE.nami (fun x7 => ?_)
  refine GE.istore_n (lv' := [(0, .ref a0), (1, .ref pa1), (2, .int px2), (3, .int x7)]) dX7_save_49 rfl (by decide) [1, 2, 3, 0] rfl ?_
  refine GE.aload_n 1 dX7_save_50 rfl rfl ?_
  refine GE.iload_n 3 dX7_save_51 rfl rfl ?_
  refine GE.aload_n 0 dX7_save_52 rfl rfl ?_
  refine GE.gI dX7_save_53 lF_X7_24 (fun x8 => ?_)
  refine GE.iast dX7_save_56 (fun t9 => ?_)
  refine GE.aload_n 1 dX7_save_57 rfl rfl ?_
  refine GE.iload_n 3 dX7_save_58 rfl rfl ?_
  refine GE.iconst dX7_save_59 kI_1 ?_
  refine GE.iadd dX7_save_60 ?_
  refine GE.aload_n 0 dX7_save_61 rfl rfl ?_
  refine GE.gI dX7_save_62 lF_X7_27 (fun x10 => ?_)
  refine GE.iast dX7_save_65 (fun t11 => ?_)
  refine GE.aload_n 1 dX7_save_66 rfl rfl ?_
  refine GE.iload_n 3 dX7_save_67 rfl rfl ?_
  refine GE.iconst dX7_save_68 kI_2 ?_
  refine GE.iadd dX7_save_69 ?_
  refine GE.aload_n 0 dX7_save_70 rfl rfl ?_
  refine GE.gI dX7_save_71 lF_X7_30 (fun x12 => ?_)
  refine GE.iast dX7_save_74 (fun t13 => ?_)
  refine GE.aload_n 1 dX7_save_75 rfl rfl ?_
  refine GE.iload_n 3 dX7_save_76 rfl rfl ?_
  refine GE.iconst dX7_save_77 kI_3 ?_
  refine GE.iadd dX7_save_78 ?_
  refine GE.aload_n 0 dX7_save_79 rfl rfl ?_
  refine GE.gI dX7_save_80 lF_X7_33 (fun x14 => ?_)
  refine GE.iast dX7_save_83 (fun t15 => ?_)
  refine GE.aload_n 1 dX7_save_84 rfl rfl ?_
  refine GE.iload_n 3 dX7_save_85 rfl rfl ?_
  refine GE.iconst dX7_save_86 kI_4 ?_
  refine GE.iadd dX7_save_87 ?_
  refine GE.aload_n 0 dX7_save_88 rfl rfl ?_
  refine GE.gI dX7_save_89 lF_X7_36 (fun x16 => ?_)
  refine GE.iast dX7_save_92 (fun t17 => ?_)
  exact GE.vret (x := ()) dX7_save_93 rfl (Nat.le_refl _) (Nat.le_refl _)
def fX5_keep (σ : St) (a0 : Nat) (pa1 : Nat) : Option (Unit × St) :=
  (gR 5 0 σ a0).bind fun a1 =>
  (gI 5 1 σ a0).bind fun x2 =>
  bo 7 σ pa1 (fX7_save σ pa1 a1 (x2 * 43)) (fun w3 t4 =>
  (gI 5 1 t4 a0).bind fun x5 =>
  if 40 = 0 then none else
  (pV 5 1 t4 a0 (.int ((x5 + 1) - (x5 + 1) / 40 * 40))).bind (fun t6 =>
  (gI 5 2 t6 a0).bind fun x7 =>
  bd (fJ9_min_7cf53 t6 40 (x7 + 1)) (fun x8 t9 =>
  (pV 5 2 t9 a0 (.int x8)).bind (fun t10 =>
  some ((), t10)))))
set_option maxHeartbeats 4000000 in
set_option maxRecDepth 100000 in
theorem gX5_keep (σ : St) (a0 : Nat) (pa1 : Nat) : CE vU mX5_keep [.ref a0, .ref pa1] σ (fX5_keep σ a0 pa1) := by
  refine CE.ofGEF (lv := [(0, .ref a0), (1, .ref pa1)]) (by decide +kernel) (Nat.le_of_ble_eq_true rfl) rfl ?_
  unfold fX5_keep
  refine GE.aload_n 1 dX5_keep_0 rfl rfl ?_
  refine GE.aload_n 0 dX5_keep_1 rfl rfl ?_
  refine GE.gR dX5_keep_2 lF_X5_13 (fun a1 => ?_)
  refine GE.aload_n 0 dX5_keep_5 rfl rfl ?_
  refine GE.gI dX5_keep_6 lF_X5_17 (fun x2 => ?_)
  refine GE.bipush dX5_keep_9 kB_43 ?_
  refine GE.imul dX5_keep_11 ?_
  refine GE.callvU [.ref a1, .int (x2 * 43)] dX5_keep_12 (lV_X5_37) rfl ⟨rfl, rfl⟩ (rokb rfl) (gX7_save σ pa1 a1 (x2 * 43)) (fun w3 t4 => ?_)
  refine GE.aload_n 0 dX5_keep_15 rfl rfl ?_
  refine GE.aload_n 0 dX5_keep_16 rfl rfl ?_
  refine GE.gI dX5_keep_17 lF_X5_17 (fun x5 => ?_)
  refine GE.iconst dX5_keep_20 kI_1 ?_
  refine GE.iadd dX5_keep_21 ?_
  refine GE.bipush dX5_keep_22 kB_40 ?_
  refine GE.irem dX5_keep_24 ?_
  refine GE.pI dX5_keep_25 lF_X5_17 (fun t6 => ?_)
  refine GE.aload_n 0 dX5_keep_28 rfl rfl ?_
  refine GE.bipush dX5_keep_29 kB_40 ?_
  refine GE.aload_n 0 dX5_keep_31 rfl rfl ?_
  refine GE.gI dX5_keep_32 lF_X5_21 (fun x7 => ?_)
  refine GE.iconst dX5_keep_35 kI_1 ?_
  refine GE.iadd dX5_keep_36 ?_
  refine GE.callsI [.int 40, .int (x7 + 1)] dX5_keep_37 (lT_X5_41) rfl ⟨rfl, rfl⟩ (rokb rfl) (gJ9_min_7cf53 t6 40 (x7 + 1)) (fun x8 t9 => ?_)
  refine GE.pI dX5_keep_40 lF_X5_21 (fun t10 => ?_)
  exact GE.vret (x := ()) dX5_keep_43 rfl (Nat.le_refl _) (Nat.le_refl _)
def fX9_refuse (σ : St) (a0 : Nat) (px1 : Int32) : Option (Int32 × St) :=
  if px1 < 0 then
    some ((-1), σ)
  else
    if 5 ≤ px1 then
      some ((-1), σ)
    else
      (gR 9 7 σ a0).bind fun a1 =>
      (aI 0 σ a1 px1).bind fun x2 =>
      (sI 0 σ a1 px1 (x2 + 1)).bind (fun t3 =>
      some ((-1), t3))
set_option maxHeartbeats 4000000 in
set_option maxRecDepth 100000 in
theorem gX9_refuse (σ : St) (a0 : Nat) (px1 : Int32) : CE vI mX9_refuse [.ref a0, .int px1] σ (fX9_refuse σ a0 px1) := by
  refine CE.ofGEF (lv := [(0, .ref a0), (1, .int px1)]) (by decide +kernel) (Nat.le_of_ble_eq_true rfl) rfl ?_
  unfold fX9_refuse
  refine GE.iload_n 1 dX9_refuse_0 rfl rfl ?_
  refine GE.if_lt (tgt := 19) dX9_refuse_1 (by decide) ?_ ?_
  · refine GE.iconst dX9_refuse_19 kI_m1 ?_
    exact GE.iret dX9_refuse_20 rfl (Nat.le_refl _) (Nat.le_refl _)
  · refine GE.iload_n 1 dX9_refuse_4 rfl rfl ?_
    refine GE.iconst dX9_refuse_5 kI_5 ?_
    refine GE.icmp_ge (tgt := 19) dX9_refuse_6 (by decide) ?_ ?_
    · refine GE.iconst dX9_refuse_19 kI_m1 ?_
      exact GE.iret dX9_refuse_20 rfl (Nat.le_refl _) (Nat.le_refl _)
    · refine GE.aload_n 0 dX9_refuse_9 rfl rfl ?_
      refine GE.gR dX9_refuse_10 lF_X9_48 (fun a1 => ?_)
      refine GE.iload_n 1 dX9_refuse_13 rfl rfl ?_
      refine GE.dup2 dX9_refuse_14 rfl rfl ?_
      refine GE.iald dX9_refuse_15 (fun x2 => ?_)
      refine GE.iconst dX9_refuse_16 kI_1 ?_
      refine GE.iadd dX9_refuse_17 ?_
      refine GE.iast dX9_refuse_18 (fun t3 => ?_)
      refine GE.iconst dX9_refuse_19 kI_m1 ?_
      exact GE.iret dX9_refuse_20 rfl (Nat.le_refl _) (Nat.le_refl _)
def fX9_reshape (σ : St) (a0 : Nat) (px1 : Int32) (px2 : Int32) (px3 : Int32) : Option (Int32 × St) :=
  (gR 9 8 σ a0).bind fun a1 =>
  bo 7 σ a1 (fX7_hasCell σ a1 px1) (fun x2 t3 =>
  if x2 = 0 then
    bo 9 t3 a0 (fX9_refuse t3 a0 0) (fun x27 t28 =>
    some (x27, t28))
  else
    (gR 9 8 t3 a0).bind fun a4 =>
    (gR 7 9 t3 a4).bind fun a5 =>
    (aI 0 t3 a5 px1).bind fun x6 =>
    if x6 = px3 then
      bo 9 t3 a0 (fX9_refuse t3 a0 2) (fun x25 t26 =>
      some (x25, t26))
    else
      (gR 9 8 t3 a0).bind fun a7 =>
      (gI 7 5 t3 a7).bind fun x8 =>
      if 1 ≤ x8 then
        (gR 9 11 t3 a0).bind fun a9 =>
        (gR 9 8 t3 a0).bind fun a10 =>
        bo 5 t3 a9 (fX5_keep t3 a9 a10) (fun w11 t12 =>
        (gR 9 8 t12 a0).bind fun a13 =>
        (gI 7 5 t12 a13).bind fun x14 =>
        (pV 7 5 t12 a13 (.int (x14 - 1))).bind (fun t15 =>
        (gR 9 8 t15 a0).bind fun a16 =>
        (gR 7 9 t15 a16).bind fun a17 =>
        (aI 0 t15 a17 px1).bind fun x18 =>
        (sI 0 t15 a17 px1 (x18 + px2)).bind (fun t19 =>
        (gR 9 8 t19 a0).bind fun a20 =>
        (gR 7 9 t19 a20).bind fun a21 =>
        (aI 0 t19 a21 px1).bind fun x22 =>
        some (x22, t19))))
      else
        bo 9 t3 a0 (fX9_refuse t3 a0 3) (fun x23 t24 =>
        some (x23, t24)))
set_option maxHeartbeats 4000000 in
set_option maxRecDepth 100000 in
theorem gX9_reshape (σ : St) (a0 : Nat) (px1 : Int32) (px2 : Int32) (px3 : Int32) : CE vI mX9_reshape [.ref a0, .int px1, .int px2, .int px3] σ (fX9_reshape σ a0 px1 px2 px3) := by
  refine CE.ofGEF (lv := [(0, .ref a0), (1, .int px1), (2, .int px2), (3, .int px3)]) (by decide +kernel) (Nat.le_of_ble_eq_true rfl) rfl ?_
  unfold fX9_reshape
  refine GE.aload_n 0 dX9_reshape_0 rfl rfl ?_
  refine GE.gR dX9_reshape_1 lF_X9_55 (fun a1 => ?_)
  refine GE.iload_n 1 dX9_reshape_4 rfl rfl ?_
  refine GE.callvI [.int px1] dX9_reshape_5 (lV_X9_153) rfl ⟨rfl, rfl⟩ (rokb rfl) (gX7_hasCell σ a1 px1) (fun x2 t3 => ?_)
  refine GE.if_ne (tgt := 17) dX9_reshape_8 (by decide) ?_ ?_
  · refine GE.aload_n 0 dX9_reshape_17 rfl rfl ?_
    refine GE.gR dX9_reshape_18 lF_X9_55 (fun a4 => ?_)
    refine GE.gR dX9_reshape_21 lF_X9_157 (fun a5 => ?_)
    refine GE.iload_n 1 dX9_reshape_24 rfl rfl ?_
    refine GE.iald dX9_reshape_25 (fun x6 => ?_)
    refine GE.iload_n 3 dX9_reshape_26 rfl rfl ?_
    refine GE.icmp_ne (tgt := 36) dX9_reshape_27 (by decide) ?_ ?_
    · refine GE.aload_n 0 dX9_reshape_36 rfl rfl ?_
      refine GE.gR dX9_reshape_37 lF_X9_55 (fun a7 => ?_)
      refine GE.gI dX9_reshape_40 lF_X9_147 (fun x8 => ?_)
      refine GE.iconst dX9_reshape_43 kI_1 ?_
      refine GE.icmp_ge (tgt := 53) dX9_reshape_44 (by decide) ?_ ?_
      · refine GE.aload_n 0 dX9_reshape_53 rfl rfl ?_
        refine GE.gR dX9_reshape_54 lF_X9_68 (fun a9 => ?_)
        refine GE.aload_n 0 dX9_reshape_57 rfl rfl ?_
        refine GE.gR dX9_reshape_58 lF_X9_55 (fun a10 => ?_)
        refine GE.callvU [.ref a10] dX9_reshape_61 (lV_X9_203) rfl ⟨rfl, rfl⟩ (rokb rfl) (gX5_keep t3 a9 a10) (fun w11 t12 => ?_)
        refine GE.aload_n 0 dX9_reshape_64 rfl rfl ?_
        refine GE.gR dX9_reshape_65 lF_X9_55 (fun a13 => ?_)
        refine GE.dup dX9_reshape_68 rfl ?_
        refine GE.gI dX9_reshape_69 lF_X9_147 (fun x14 => ?_)
        refine GE.iconst dX9_reshape_72 kI_1 ?_
        refine GE.isub dX9_reshape_73 ?_
        refine GE.pI dX9_reshape_74 lF_X9_147 (fun t15 => ?_)
        refine GE.aload_n 0 dX9_reshape_77 rfl rfl ?_
        refine GE.gR dX9_reshape_78 lF_X9_55 (fun a16 => ?_)
        refine GE.gR dX9_reshape_81 lF_X9_157 (fun a17 => ?_)
        refine GE.iload_n 1 dX9_reshape_84 rfl rfl ?_
        refine GE.dup2 dX9_reshape_85 rfl rfl ?_
        refine GE.iald dX9_reshape_86 (fun x18 => ?_)
        refine GE.iload_n 2 dX9_reshape_87 rfl rfl ?_
        refine GE.iadd dX9_reshape_88 ?_
        refine GE.iast dX9_reshape_89 (fun t19 => ?_)
        refine GE.aload_n 0 dX9_reshape_90 rfl rfl ?_
        refine GE.gR dX9_reshape_91 lF_X9_55 (fun a20 => ?_)
        refine GE.gR dX9_reshape_94 lF_X9_157 (fun a21 => ?_)
        refine GE.iload_n 1 dX9_reshape_97 rfl rfl ?_
        refine GE.iald dX9_reshape_98 (fun x22 => ?_)
        exact GE.iret dX9_reshape_99 rfl (Nat.le_refl _) (Nat.le_refl _)
      · refine GE.aload_n 0 dX9_reshape_47 rfl rfl ?_
        refine GE.iconst dX9_reshape_48 kI_3 ?_
        refine GE.callvI [.int 3] dX9_reshape_49 (lV_X9_197) rfl ⟨rfl, rfl⟩ (rokb rfl) (gX9_refuse t3 a0 3) (fun x23 t24 => ?_)
        exact GE.iret dX9_reshape_52 rfl (Nat.le_refl _) (Nat.le_refl _)
    · refine GE.aload_n 0 dX9_reshape_30 rfl rfl ?_
      refine GE.iconst dX9_reshape_31 kI_2 ?_
      refine GE.callvI [.int 2] dX9_reshape_32 (lV_X9_197) rfl ⟨rfl, rfl⟩ (rokb rfl) (gX9_refuse t3 a0 2) (fun x25 t26 => ?_)
      exact GE.iret dX9_reshape_35 rfl (Nat.le_refl _) (Nat.le_refl _)
  · refine GE.aload_n 0 dX9_reshape_11 rfl rfl ?_
    refine GE.iconst dX9_reshape_12 kI_0 ?_
    refine GE.callvI [.int 0] dX9_reshape_13 (lV_X9_197) rfl ⟨rfl, rfl⟩ (rokb rfl) (gX9_refuse t3 a0 0) (fun x27 t28 => ?_)
    exact GE.iret dX9_reshape_16 rfl (Nat.le_refl _) (Nat.le_refl _)
