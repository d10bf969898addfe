def fX10_topCell (σ : St) (a0 : Nat) (px1 : Int32) : Option (Int32 × St) :=
  lo2 (fun l3 (x1 : Int32) (x2 : Int32) =>
    (gI 10 26 σ a0).bind fun x4 =>
  if x4 ≤ x2 then
    some (x1, σ)
  else
    (gR 10 28 σ a0).bind fun a5 =>
    (aI 0 σ a5 (0 + x2)).bind fun x6 =>
    (gR 10 28 σ a0).bind fun a7 =>
    (aI 0 σ a7 (0 + x1)).bind fun x8 =>
    jo1 (fun (v9 : Int32) =>
      l3 v9 (x2 + 1)) (fun j10 =>
      if px1 * x6 ≤ px1 * x8 then
        j10 x1
      else
        j10 x2)) FU 0 1
set_option maxHeartbeats 4000000 in
set_option maxRecDepth 100000 in
theorem gX10_topCell (σ : St) (a0 : Nat) (px1 : Int32) : CE vI mX10_topCell [.ref a0, .int px1] σ (fX10_topCell σ a0 px1) := by
  refine CE.ofGEF (lv := [(0, .ref a0), (1, .int px1)]) (by decide +kernel) (Nat.le_of_ble_eq_true rfl) rfl ?_
  unfold fX10_topCell
  refine GE.iconst dX10_topCell_0 kI_0 ?_
  refine GE.istore_n (lv' := [(0, .ref a0), (1, .int px1), (2, .int 0)]) dX10_topCell_1 rfl (by decide) [1, 2, 0] rfl ?_
  refine GE.iconst dX10_topCell_2 kI_1 ?_
  refine GE.istore_n (lv' := [(0, .ref a0), (1, .int px1), (2, .int 0), (3, .int 1)]) dX10_topCell_3 rfl (by decide) [1, 2, 3, 0] rfl ?_
  refine (GE.lo2 (fun (x1 : Int32) (x2 : Int32) => [(0, .ref a0), (1, .int px1), (2, .int x1), (3, .int x2)]) (fun (x1 : Int32) (x2 : Int32) => []) (fun (x1 : Int32) (x2 : Int32) => σ) (fun l3 hl3 x1 x2 => ?_) FU 0 1)
  refine GE.iload_n 3 dX10_topCell_4 rfl rfl ?_
  refine GE.aload_n 0 dX10_topCell_5 rfl rfl ?_
  refine GE.gI dX10_topCell_6 lF_X10_264 (fun x4 => ?_)
  refine GE.icmp_ge (tgt := 47) dX10_topCell_9 (by decide) ?_ ?_
  · refine GE.iload_n 2 dX10_topCell_47 rfl rfl ?_
    exact GE.iret dX10_topCell_48 rfl (Nat.le_refl _) (Nat.le_refl _)
  · refine GE.iload_n 1 dX10_topCell_12 rfl rfl ?_
    refine GE.aload_n 0 dX10_topCell_13 rfl rfl ?_
    refine GE.gR dX10_topCell_14 lF_X10_61 (fun a5 => ?_)
    refine GE.iconst dX10_topCell_17 kI_0 ?_
    refine GE.iload_n 3 dX10_topCell_18 rfl rfl ?_
    refine GE.iadd dX10_topCell_19 ?_
    refine GE.iald dX10_topCell_20 (fun x6 => ?_)
    refine GE.imul dX10_topCell_21 ?_
    refine GE.iload_n 1 dX10_topCell_22 rfl rfl ?_
    refine GE.aload_n 0 dX10_topCell_23 rfl rfl ?_
    refine GE.gR dX10_topCell_24 lF_X10_61 (fun a7 => ?_)
    refine GE.iconst dX10_topCell_27 kI_0 ?_
    refine GE.iload_n 2 dX10_topCell_28 rfl rfl ?_
    refine GE.iadd dX10_topCell_29 ?_
    refine GE.iald dX10_topCell_30 (fun x8 => ?_)
    refine GE.imul dX10_topCell_31 ?_
    refine GE.jo1 40 (fun (v9 : Int32) => [(0, .ref a0), (1, .int px1), (3, .int x2)]) (fun (v9 : Int32) => [.int v9]) (fun (v9 : Int32) => σ) (fun v9 => ?_) (fun j10 hj10 => ?_)
    · refine GE.istore_n (lv' := [(0, .ref a0), (1, .int px1), (2, .int v9), (3, .int x2)]) dX10_topCell_40 rfl (by decide) [1, 2, 0, 3] rfl ?_
      refine GE.iinc (lv' := [(0, .ref a0), (1, .int px1), (2, .int v9), (3, .int (x2 + 1))]) 3 dX10_topCell_41 rfl kI_1 (by decide) [1, 2, 3, 0] rfl ?_
      refine GE.goto (tgt := 4) dX10_topCell_44 (by decide) ?_
      exact hl3 v9 (x2 + 1)
    · refine GE.icmp_le (tgt := 39) dX10_topCell_32 (by decide) ?_ ?_
      · refine GE.iload_n 2 dX10_topCell_39 rfl rfl ?_
        exact GE.sub [0, 1, 3] rfl (hj10 x1)
      · refine GE.iload_n 3 dX10_topCell_35 rfl rfl ?_
        refine GE.goto (tgt := 40) dX10_topCell_36 (by decide) ?_
        exact GE.sub [0, 1, 3] rfl (hj10 x2)
def fX10_topTower (σ : St) (a0 : Nat) (px1 : Int32) : Option (Int32 × St) :=
  lo3 (fun l4 (x1 : Int32) (x2 : Int32) (t3 : St) =>
    (gI 10 27 t3 a0).bind fun x5 =>
  if x5 ≤ x2 then
    some (x1, t3)
  else
    bo 10 t3 a0 (fX10_seenBy t3 a0 x2) (fun x6 t7 =>
    bd (fJ6_bitCount_0f7a4 t7 x6) (fun x8 t9 =>
    bo 10 t9 a0 (fX10_seenBy t9 a0 x1) (fun x10 t11 =>
    bd (fJ6_bitCount_0f7a4 t11 x10) (fun x12 t13 =>
    jo1 (fun (v14 : Int32) =>
      l4 v14 (x2 + 1) t13) (fun j15 =>
      if px1 * x8 ≤ px1 * x12 then
        j15 x1
      else
        j15 x2)))))) FU 0 1 σ
set_option maxHeartbeats 4000000 in
set_option maxRecDepth 100000 in
theorem gX10_topTower (σ : St) (a0 : Nat) (px1 : Int32) : CE vI mX10_topTower [.ref a0, .int px1] σ (fX10_topTower σ a0 px1) := by
  refine CE.ofGEF (lv := [(0, .ref a0), (1, .int px1)]) (by decide +kernel) (Nat.le_of_ble_eq_true rfl) rfl ?_
  unfold fX10_topTower
  refine GE.iconst dX10_topTower_0 kI_0 ?_
  refine GE.istore_n (lv' := [(0, .ref a0), (1, .int px1), (2, .int 0)]) dX10_topTower_1 rfl (by decide) [1, 2, 0] rfl ?_
  refine GE.iconst dX10_topTower_2 kI_1 ?_
  refine GE.istore_n (lv' := [(0, .ref a0), (1, .int px1), (2, .int 0), (3, .int 1)]) dX10_topTower_3 rfl (by decide) [1, 2, 3, 0] rfl ?_
  refine (GE.lo3 (fun (x1 : Int32) (x2 : Int32) (t3 : St) => [(0, .ref a0), (1, .int px1), (2, .int x1), (3, .int x2)]) (fun (x1 : Int32) (x2 : Int32) (t3 : St) => []) (fun (x1 : Int32) (x2 : Int32) (t3 : St) => t3) (fun l4 hl4 x1 x2 t3 => ?_) FU 0 1 σ)
  refine GE.iload_n 3 dX10_topTower_4 rfl rfl ?_
  refine GE.aload_n 0 dX10_topTower_5 rfl rfl ?_
  refine GE.gI dX10_topTower_6 lF_X10_261 (fun x5 => ?_)
  refine GE.icmp_ge (tgt := 47) dX10_topTower_9 (by decide) ?_ ?_
  · refine GE.iload_n 2 dX10_topTower_47 rfl rfl ?_
    exact GE.iret dX10_topTower_48 rfl (Nat.le_refl _) (Nat.le_refl _)
  · refine GE.iload_n 1 dX10_topTower_12 rfl rfl ?_
    refine GE.aload_n 0 dX10_topTower_13 rfl rfl ?_
    refine GE.iload_n 3 dX10_topTower_14 rfl rfl ?_
    refine GE.callvI [.int x2] dX10_topTower_15 (lV_X10_328) rfl ⟨rfl, rfl⟩ (rokb rfl) (gX10_seenBy t3 a0 x2) (fun x6 t7 => ?_)
    refine GE.callsI [.int x6] dX10_topTower_18 (lT_X10_343) rfl ⟨rfl, rfl⟩ (rokb rfl) (gJ6_bitCount_0f7a4 t7 x6) (fun x8 t9 => ?_)
    refine GE.imul dX10_topTower_21 ?_
    refine GE.iload_n 1 dX10_topTower_22 rfl rfl ?_
    refine GE.aload_n 0 dX10_topTower_23 rfl rfl ?_
    refine GE.iload_n 2 dX10_topTower_24 rfl rfl ?_
    refine GE.callvI [.int x1] dX10_topTower_25 (lV_X10_328) rfl ⟨rfl, rfl⟩ (rokb rfl) (gX10_seenBy t9 a0 x1) (fun x10 t11 => ?_)
    refine GE.callsI [.int x10] dX10_topTower_28 (lT_X10_343) rfl ⟨rfl, rfl⟩ (rokb rfl) (gJ6_bitCount_0f7a4 t11 x10) (fun x12 t13 => ?_)
    refine GE.imul dX10_topTower_31 ?_
    refine GE.jo1 40 (fun (v14 : Int32) => [(0, .ref a0), (1, .int px1), (3, .int x2)]) (fun (v14 : Int32) => [.int v14]) (fun (v14 : Int32) => t13) (fun v14 => ?_) (fun j15 hj15 => ?_)
    · refine GE.istore_n (lv' := [(0, .ref a0), (1, .int px1), (2, .int v14), (3, .int x2)]) dX10_topTower_40 rfl (by decide) [1, 2, 0, 3] rfl ?_
      refine GE.iinc (lv' := [(0, .ref a0), (1, .int px1), (2, .int v14), (3, .int (x2 + 1))]) 3 dX10_topTower_41 rfl kI_1 (by decide) [1, 2, 3, 0] rfl ?_
      refine GE.goto (tgt := 4) dX10_topTower_44 (by decide) ?_
      exact hl4 v14 (x2 + 1) t13
    · refine GE.icmp_le (tgt := 39) dX10_topTower_32 (by decide) ?_ ?_
      · refine GE.iload_n 2 dX10_topTower_39 rfl rfl ?_
        exact GE.sub [0, 1, 3] rfl (hj15 x1)
      · refine GE.iload_n 3 dX10_topTower_35 rfl rfl ?_
        refine GE.goto (tgt := 40) dX10_topTower_36 (by decide) ?_
        exact GE.sub [0, 1, 3] rfl (hj15 x2)
def fX10_most (σ : St) (a0 : Nat) (px1 : Int32) : Option (Int32 × St) :=
  (gI 10 26 σ a0).bind fun x1 =>
  if x1 = 0 then
    some ((-1), σ)
  else
    tbs px1 0 [bo 10 σ a0 (fX10_topCell σ a0 1) (fun x2 t3 =>
        some (x2, t3)),
      bo 10 σ a0 (fX10_topCell σ a0 ((-1))) (fun x4 t5 =>
        some (x4, t5)),
      bo 10 σ a0 (fX10_topTower σ a0 1) (fun x6 t7 =>
        some (x6, t7)),
      bo 10 σ a0 (fX10_topTower σ a0 ((-1))) (fun x8 t9 =>
        some (x8, t9)),
      (gR 10 28 σ a0).bind fun a10 =>
        (aI 0 σ a10 38).bind fun x11 =>
        some (x11, σ),
      bo 10 σ a0 (fX10_flat σ a0) (fun x12 t13 =>
        some (x12, t13)),
      bo 10 σ a0 (fX10_lost σ a0) (fun x14 t15 =>
        some (x14, t15)),
      bo 10 σ a0 (fX10_mutual σ a0) (fun x16 t17 =>
        some (x16, t17)),
      bo 10 σ a0 (fX10_hid σ a0) (fun x18 t19 =>
        some (x18, t19)),
      bo 10 σ a0 (fX10_falseOnes σ a0) (fun x20 t21 =>
        some (x20, t21))] (some ((-1), σ))
set_option maxHeartbeats 4000000 in
set_option maxRecDepth 100000 in
theorem gX10_most (σ : St) (a0 : Nat) (px1 : Int32) : CE vI mX10_most [.ref a0, .int px1] σ (fX10_most σ a0 px1) := by
  refine CE.ofGEF (lv := [(0, .ref a0), (1, .int px1)]) (by decide +kernel) (Nat.le_of_ble_eq_true rfl) rfl ?_
  unfold fX10_most
  refine GE.aload_n 0 dX10_most_0 rfl rfl ?_
  refine GE.gI dX10_most_1 lF_X10_264 (fun x1 => ?_)
  refine GE.if_ne (tgt := 9) dX10_most_4 (by decide) ?_ ?_
  · refine GE.iload_n 1 dX10_most_9 rfl rfl ?_
    refine GE.tsw (tgd := 121) dX10_most_10 rfl rfl (by decide) ?_ ?_
    · refine GE.iconst dX10_most_121 kI_m1 ?_
      exact GE.iret dX10_most_122 rfl (Nat.le_refl _) (Nat.le_refl _)
    · intro j9 E9 o9 hE9 ho9
      match j9, hE9, ho9 with
      | 0, hE9, ho9 =>
        cases hE9; cases ho9
        refine ⟨64, by decide, ?_⟩
        refine GE.aload_n 0 dX10_most_64 rfl rfl ?_
        refine GE.iconst dX10_most_65 kI_1 ?_
        refine GE.callvI [.int 1] dX10_most_66 (lV_X10_422) rfl ⟨rfl, rfl⟩ (rokb rfl) (gX10_topCell σ a0 1) (fun x2 t3 => ?_)
        exact GE.iret dX10_most_69 rfl (Nat.le_refl _) (Nat.le_refl _)
      | 1, hE9, ho9 =>
        cases hE9; cases ho9
        refine ⟨70, by decide, ?_⟩
        refine GE.aload_n 0 dX10_most_70 rfl rfl ?_
        refine GE.iconst dX10_most_71 kI_m1 ?_
        refine GE.callvI [.int ((-1))] dX10_most_72 (lV_X10_422) rfl ⟨rfl, rfl⟩ (rokb rfl) (gX10_topCell σ a0 ((-1))) (fun x4 t5 => ?_)
        exact GE.iret dX10_most_75 rfl (Nat.le_refl _) (Nat.le_refl _)
      | 2, hE9, ho9 =>
        cases hE9; cases ho9
        refine ⟨76, by decide, ?_⟩
        refine GE.aload_n 0 dX10_most_76 rfl rfl ?_
        refine GE.iconst dX10_most_77 kI_1 ?_
        refine GE.callvI [.int 1] dX10_most_78 (lV_X10_425) rfl ⟨rfl, rfl⟩ (rokb rfl) (gX10_topTower σ a0 1) (fun x6 t7 => ?_)
        exact GE.iret dX10_most_81 rfl (Nat.le_refl _) (Nat.le_refl _)
      | 3, hE9, ho9 =>
        cases hE9; cases ho9
        refine ⟨82, by decide, ?_⟩
        refine GE.aload_n 0 dX10_most_82 rfl rfl ?_
        refine GE.iconst dX10_most_83 kI_m1 ?_
        refine GE.callvI [.int ((-1))] dX10_most_84 (lV_X10_425) rfl ⟨rfl, rfl⟩ (rokb rfl) (gX10_topTower σ a0 ((-1))) (fun x8 t9 => ?_)
        exact GE.iret dX10_most_87 rfl (Nat.le_refl _) (Nat.le_refl _)
      | 4, hE9, ho9 =>
        cases hE9; cases ho9
        refine ⟨88, by decide, ?_⟩
        refine GE.aload_n 0 dX10_most_88 rfl rfl ?_
        refine GE.gR dX10_most_89 lF_X10_61 (fun a10 => ?_)
        refine GE.bipush dX10_most_92 kB_38 ?_
        refine GE.iald dX10_most_94 (fun x11 => ?_)
        exact GE.iret dX10_most_95 rfl (Nat.le_refl _) (Nat.le_refl _)
      | 5, hE9, ho9 =>
        cases hE9; cases ho9
        refine ⟨96, by decide, ?_⟩
        refine GE.aload_n 0 dX10_most_96 rfl rfl ?_
        refine GE.callvI [] dX10_most_97 (lV_X10_428) rfl ⟨rfl, rfl⟩ (rokb rfl) (gX10_flat σ a0) (fun x12 t13 => ?_)
        exact GE.iret dX10_most_100 rfl (Nat.le_refl _) (Nat.le_refl _)
      | 6, hE9, ho9 =>
        cases hE9; cases ho9
        refine ⟨101, by decide, ?_⟩
        refine GE.aload_n 0 dX10_most_101 rfl rfl ?_
        refine GE.callvI [] dX10_most_102 (lV_X10_431) rfl ⟨rfl, rfl⟩ (rokb rfl) (gX10_lost σ a0) (fun x14 t15 => ?_)
        exact GE.iret dX10_most_105 rfl (Nat.le_refl _) (Nat.le_refl _)
      | 7, hE9, ho9 =>
        cases hE9; cases ho9
        refine ⟨106, by decide, ?_⟩
        refine GE.aload_n 0 dX10_most_106 rfl rfl ?_
        refine GE.callvI [] dX10_most_107 (lV_X10_434) rfl ⟨rfl, rfl⟩ (rokb rfl) (gX10_mutual σ a0) (fun x16 t17 => ?_)
        exact GE.iret dX10_most_110 rfl (Nat.le_refl _) (Nat.le_refl _)
      | 8, hE9, ho9 =>
        cases hE9; cases ho9
        refine ⟨111, by decide, ?_⟩
        refine GE.aload_n 0 dX10_most_111 rfl rfl ?_
        refine GE.callvI [] dX10_most_112 (lV_X10_348) rfl ⟨rfl, rfl⟩ (rokb rfl) (gX10_hid σ a0) (fun x18 t19 => ?_)
        exact GE.iret dX10_most_115 rfl (Nat.le_refl _) (Nat.le_refl _)
      | 9, hE9, ho9 =>
        cases hE9; cases ho9
        refine ⟨116, by decide, ?_⟩
        refine GE.aload_n 0 dX10_most_116 rfl rfl ?_
        refine GE.callvI [] dX10_most_117 (lV_X10_437) rfl ⟨rfl, rfl⟩ (rokb rfl) (gX10_falseOnes σ a0) (fun x20 t21 => ?_)
        exact GE.iret dX10_most_120 rfl (Nat.le_refl _) (Nat.le_refl _)
      | j9 + 10, hE9, ho9 => cases hE9
  · refine GE.iconst dX10_most_7 kI_m1 ?_
    exact GE.iret dX10_most_8 rfl (Nat.le_refl _) (Nat.le_refl _)
def fX10_moves (σ : St) (a0 : Nat) (px1 : Int32) (px2 : Int32) : Option (Int32 × St) :=
  bo 10 σ a0 (fX10_isTower σ a0 px1) (fun x1 t2 =>
  jo3 (fun (v3 : Int32) (v4 : Nat) (t5 : St) =>
    bo 10 t5 v4 (fX10_isRefused t5 v4 v3) (fun x7 t8 =>
    if x7 = 0 then
      bo 10 t8 a0 (fX10_keep t8 a0) (fun w9 t10 =>
      (gR 10 28 t10 a0).bind fun a11 =>
      (aI 0 t10 a11 (30 + px1)).bind fun x12 =>
      (gR 10 28 t10 a0).bind fun a13 =>
      (aI 0 t10 a13 40).bind fun x14 =>
      (sI 0 t10 a13 40 (x14 - 3)).bind (fun t15 =>
      (gR 10 28 t15 a0).bind fun a16 =>
      (sI 0 t15 a16 (30 + px1) px2).bind (fun t17 =>
      some (x12, t17))))
    else
      some ((-1), t8))) (fun j6 =>
    if x1 = 0 then
      j6 0 a0 t2
    else
      bo 10 t2 a0 (fX10_isCell t2 a0 px2) (fun x18 t19 =>
      if x18 = 0 then
        j6 1 a0 t19
      else
        (gR 10 28 t19 a0).bind fun a20 =>
        (aI 0 t19 a20 (30 + px1)).bind fun x21 =>
        if x21 = px2 then
          j6 2 a0 t19
        else
          (gR 10 28 t19 a0).bind fun a22 =>
          (aI 0 t19 a22 40).bind fun x23 =>
          if 3 ≤ x23 then
            j6 ((-1)) a0 t19
          else
            j6 3 a0 t19)))
set_option maxHeartbeats 4000000 in
set_option maxRecDepth 100000 in
theorem gX10_moves (σ : St) (a0 : Nat) (px1 : Int32) (px2 : Int32) : CE vI mX10_moves [.ref a0, .int px1, .int px2] σ (fX10_moves σ a0 px1 px2) := by
  refine CE.ofGEF (lv := [(0, .ref a0), (1, .int px1), (2, .int px2)]) (by decide +kernel) (Nat.le_of_ble_eq_true rfl) rfl ?_
  unfold fX10_moves
  refine GE.aload_n 0 dX10_moves_0 rfl rfl ?_
  refine GE.aload_n 0 dX10_moves_1 rfl rfl ?_
  refine GE.iload_n 1 dX10_moves_2 rfl rfl ?_
  refine GE.callvI [.int px1] dX10_moves_3 (lV_X10_340) rfl ⟨rfl, rfl⟩ (rokb rfl) (gX10_isTower σ a0 px1) (fun x1 t2 => ?_)
  refine GE.jo3 58 (fun (v3 : Int32) (v4 : Nat) (t5 : St) => [(0, .ref a0), (1, .int px1), (2, .int px2)]) (fun (v3 : Int32) (v4 : Nat) (t5 : St) => [.int v3, .ref v4]) (fun (v3 : Int32) (v4 : Nat) (t5 : St) => t5) (fun v3 v4 t5 => ?_) (fun j6 hj6 => ?_)
  · refine GE.callvI [.int v3] dX10_moves_58 (lV_X10_354) rfl ⟨rfl, rfl⟩ (rokb rfl) (gX10_isRefused t5 v4 v3) (fun x7 t8 => ?_)
    refine GE.if_eq (tgt := 66) dX10_moves_61 (by decide) ?_ ?_
    · refine GE.aload_n 0 dX10_moves_66 rfl rfl ?_
      refine GE.callvU [] dX10_moves_67 (lV_X10_357) rfl ⟨rfl, rfl⟩ (rokb rfl) (gX10_keep t8 a0) (fun w9 t10 => ?_)
      refine GE.aload_n 0 dX10_moves_70 rfl rfl ?_
      refine GE.gR dX10_moves_71 lF_X10_61 (fun a11 => ?_)
      refine GE.bipush dX10_moves_74 kB_30 ?_
      refine GE.iload_n 1 dX10_moves_76 rfl rfl ?_
      refine GE.iadd dX10_moves_77 ?_
      refine GE.iald dX10_moves_78 (fun x12 => ?_)
      refine GE.istore_n (lv' := [(0, .ref a0), (1, .int px1), (2, .int px2), (3, .int x12)]) dX10_moves_79 rfl (by decide) [1, 2, 3, 0] rfl ?_
      refine GE.aload_n 0 dX10_moves_80 rfl rfl ?_
      refine GE.gR dX10_moves_81 lF_X10_61 (fun a13 => ?_)
      refine GE.bipush dX10_moves_84 kB_40 ?_
      refine GE.dup2 dX10_moves_86 rfl rfl ?_
      refine GE.iald dX10_moves_87 (fun x14 => ?_)
      refine GE.iconst dX10_moves_88 kI_3 ?_
      refine GE.isub dX10_moves_89 ?_
      refine GE.iast dX10_moves_90 (fun t15 => ?_)
      refine GE.aload_n 0 dX10_moves_91 rfl rfl ?_
      refine GE.gR dX10_moves_92 lF_X10_61 (fun a16 => ?_)
      refine GE.bipush dX10_moves_95 kB_30 ?_
      refine GE.iload_n 1 dX10_moves_97 rfl rfl ?_
      refine GE.iadd dX10_moves_98 ?_
      refine GE.iload_n 2 dX10_moves_99 rfl rfl ?_
      refine GE.iast dX10_moves_100 (fun t17 => ?_)
      refine GE.iload_n 3 dX10_moves_101 rfl rfl ?_
      exact GE.iret dX10_moves_102 rfl (Nat.le_refl _) (Nat.le_refl _)
    · refine GE.iconst dX10_moves_64 kI_m1 ?_
      exact GE.iret dX10_moves_65 rfl (Nat.le_refl _) (Nat.le_refl _)
  · refine GE.if_ne (tgt := 13) dX10_moves_6 (by decide) ?_ ?_
    · refine GE.aload_n 0 dX10_moves_13 rfl rfl ?_
      refine GE.iload_n 2 dX10_moves_14 rfl rfl ?_
      refine GE.callvI [.int px2] dX10_moves_15 (lV_X10_337) rfl ⟨rfl, rfl⟩ (rokb rfl) (gX10_isCell t2 a0 px2) (fun x18 t19 => ?_)
      refine GE.if_ne (tgt := 25) dX10_moves_18 (by decide) ?_ ?_
      · refine GE.aload_n 0 dX10_moves_25 rfl rfl ?_
        refine GE.gR dX10_moves_26 lF_X10_61 (fun a20 => ?_)
        refine GE.bipush dX10_moves_29 kB_30 ?_
        refine GE.iload_n 1 dX10_moves_31 rfl rfl ?_
        refine GE.iadd dX10_moves_32 ?_
        refine GE.iald dX10_moves_33 (fun x21 => ?_)
        refine GE.iload_n 2 dX10_moves_34 rfl rfl ?_
        refine GE.icmp_ne (tgt := 42) dX10_moves_35 (by decide) ?_ ?_
        · refine GE.aload_n 0 dX10_moves_42 rfl rfl ?_
          refine GE.gR dX10_moves_43 lF_X10_61 (fun a22 => ?_)
          refine GE.bipush dX10_moves_46 kB_40 ?_
          refine GE.iald dX10_moves_48 (fun x23 => ?_)
          refine GE.iconst dX10_moves_49 kI_3 ?_
          refine GE.icmp_ge (tgt := 57) dX10_moves_50 (by decide) ?_ ?_
          · refine GE.iconst dX10_moves_57 kI_m1 ?_
            exact hj6 ((-1)) a0 t19
          · refine GE.iconst dX10_moves_53 kI_3 ?_
            refine GE.goto (tgt := 58) dX10_moves_54 (by decide) ?_
            exact hj6 3 a0 t19
        · refine GE.iconst dX10_moves_38 kI_2 ?_
          refine GE.goto (tgt := 58) dX10_moves_39 (by decide) ?_
          exact hj6 2 a0 t19
      · refine GE.iconst dX10_moves_21 kI_1 ?_
        refine GE.goto (tgt := 58) dX10_moves_22 (by decide) ?_
        exact hj6 1 a0 t19
    · refine GE.iconst dX10_moves_9 kI_0 ?_
      refine GE.goto (tgt := 58) dX10_moves_10 (by decide) ?_
      exact hj6 0 a0 t2
def fX10_oath (σ : St) (a0 : Nat) (px1 : Int32) : Option (Int32 × St) :=
  bo 10 σ a0 (fX10_isTower σ a0 px1) (fun x1 t2 =>
  jo2 (fun (v3 : Int32) (v4 : Nat) =>
    bo 10 t2 v4 (fX10_isRefused t2 v4 v3) (fun x6 t7 =>
    if x6 = 0 then
      bo 10 t7 a0 (fX10_keep t7 a0) (fun w8 t9 =>
      (gR 10 28 t9 a0).bind fun a10 =>
      (aI 0 t9 a10 38).bind fun x11 =>
      (sI 0 t9 a10 38 (x11 ^^^ (1 <<< (px1 &&& 31)))).bind (fun t12 =>
      (gR 10 28 t12 a0).bind fun a13 =>
      (aI 0 t12 a13 38).bind fun x14 =>
      some ((x14 >>> (px1 &&& 31)) &&& 1, t12)))
    else
      some ((-1), t7))) (fun j5 =>
    if x1 = 0 then
      j5 0 a0
    else
      j5 ((-1)) a0))
set_option maxHeartbeats 4000000 in
set_option maxRecDepth 100000 in
theorem gX10_oath (σ : St) (a0 : Nat) (px1 : Int32) : CE vI mX10_oath [.ref a0, .int px1] σ (fX10_oath σ a0 px1) := by
  refine CE.ofGEF (lv := [(0, .ref a0), (1, .int px1)]) (by decide +kernel) (Nat.le_of_ble_eq_true rfl) rfl ?_
  unfold fX10_oath
  refine GE.aload_n 0 dX10_oath_0 rfl rfl ?_
  refine GE.aload_n 0 dX10_oath_1 rfl rfl ?_
  refine GE.iload_n 1 dX10_oath_2 rfl rfl ?_
  refine GE.callvI [.int px1] dX10_oath_3 (lV_X10_340) rfl ⟨rfl, rfl⟩ (rokb rfl) (gX10_isTower σ a0 px1) (fun x1 t2 => ?_)
  refine GE.jo2 14 (fun (v3 : Int32) (v4 : Nat) => [(0, .ref a0), (1, .int px1)]) (fun (v3 : Int32) (v4 : Nat) => [.int v3, .ref v4]) (fun (v3 : Int32) (v4 : Nat) => t2) (fun v3 v4 => ?_) (fun j5 hj5 => ?_)
  · refine GE.callvI [.int v3] dX10_oath_14 (lV_X10_354) rfl ⟨rfl, rfl⟩ (rokb rfl) (gX10_isRefused t2 v4 v3) (fun x6 t7 => ?_)
    refine GE.if_eq (tgt := 22) dX10_oath_17 (by decide) ?_ ?_
    · refine GE.aload_n 0 dX10_oath_22 rfl rfl ?_
      refine GE.callvU [] dX10_oath_23 (lV_X10_357) rfl ⟨rfl, rfl⟩ (rokb rfl) (gX10_keep t7 a0) (fun w8 t9 => ?_)
      refine GE.aload_n 0 dX10_oath_26 rfl rfl ?_
      refine GE.gR dX10_oath_27 lF_X10_61 (fun a10 => ?_)
      refine GE.bipush dX10_oath_30 kB_38 ?_
      refine GE.dup2 dX10_oath_32 rfl rfl ?_
      refine GE.iald dX10_oath_33 (fun x11 => ?_)
      refine GE.iconst dX10_oath_34 kI_1 ?_
      refine GE.iload_n 1 dX10_oath_35 rfl rfl ?_
      refine GE.ishl dX10_oath_36 ?_
      refine GE.ixor dX10_oath_37 ?_
      refine GE.iast dX10_oath_38 (fun t12 => ?_)
      refine GE.aload_n 0 dX10_oath_39 rfl rfl ?_
      refine GE.gR dX10_oath_40 lF_X10_61 (fun a13 => ?_)
      refine GE.bipush dX10_oath_43 kB_38 ?_
      refine GE.iald dX10_oath_45 (fun x14 => ?_)
      refine GE.iload_n 1 dX10_oath_46 rfl rfl ?_
      refine GE.ishr dX10_oath_47 ?_
      refine GE.iconst dX10_oath_48 kI_1 ?_
      refine GE.iand dX10_oath_49 ?_
      exact GE.iret dX10_oath_50 rfl (Nat.le_refl _) (Nat.le_refl _)
    · refine GE.iconst dX10_oath_20 kI_m1 ?_
      exact GE.iret dX10_oath_21 rfl (Nat.le_refl _) (Nat.le_refl _)
  · refine GE.if_ne (tgt := 13) dX10_oath_6 (by decide) ?_ ?_
    · refine GE.iconst dX10_oath_13 kI_m1 ?_
      exact hj5 ((-1)) a0
    · refine GE.iconst dX10_oath_9 kI_0 ?_
      refine GE.goto (tgt := 14) dX10_oath_10 (by decide) ?_
      exact hj5 0 a0
def fX10_isHidNow (σ : St) (a0 : Nat) (px1 : Int32) : Option (Int32 × St) :=
  lo2 (fun l3 (x1 : Int32) (t2 : St) =>
    (gI 10 27 t2 a0).bind fun x4 =>
  if x4 ≤ x1 then
    some (1, t2)
  else
    bo 10 t2 a0 (fX10_seesNow t2 a0 x1 px1) (fun x5 t6 =>
    if x5 = 0 then
      l3 (x1 + 1) t6
    else
      some (0, t6))) FU 0 σ
set_option maxHeartbeats 4000000 in
set_option maxRecDepth 100000 in
theorem gX10_isHidNow (σ : St) (a0 : Nat) (px1 : Int32) : CE vI mX10_isHidNow [.ref a0, .int px1] σ (fX10_isHidNow σ a0 px1) := by
  refine CE.ofGEF (lv := [(0, .ref a0), (1, .int px1)]) (by decide +kernel) (Nat.le_of_ble_eq_true rfl) rfl ?_
  unfold fX10_isHidNow
  refine GE.iconst dX10_isHidNow_0 kI_0 ?_
  refine GE.istore_n (lv' := [(0, .ref a0), (1, .int px1), (2, .int 0)]) dX10_isHidNow_1 rfl (by decide) [1, 2, 0] rfl ?_
  refine (GE.lo2 (fun (x1 : Int32) (t2 : St) => [(0, .ref a0), (1, .int px1), (2, .int x1)]) (fun (x1 : Int32) (t2 : St) => []) (fun (x1 : Int32) (t2 : St) => t2) (fun l3 hl3 x1 t2 => ?_) FU 0 σ)
  refine GE.iload_n 2 dX10_isHidNow_2 rfl rfl ?_
  refine GE.aload_n 0 dX10_isHidNow_3 rfl rfl ?_
  refine GE.gI dX10_isHidNow_4 lF_X10_261 (fun x4 => ?_)
  refine GE.icmp_ge (tgt := 27) dX10_isHidNow_7 (by decide) ?_ ?_
  · refine GE.iconst dX10_isHidNow_27 kI_1 ?_
    exact GE.zretk dX10_isHidNow_28 rfl (Nat.le_refl _) (Nat.le_refl _) (by decide)
  · refine GE.aload_n 0 dX10_isHidNow_10 rfl rfl ?_
    refine GE.iload_n 2 dX10_isHidNow_11 rfl rfl ?_
    refine GE.iload_n 1 dX10_isHidNow_12 rfl rfl ?_
    refine GE.callvI [.int x1, .int px1] dX10_isHidNow_13 (lV_X10_325) rfl ⟨rfl, rfl⟩ (rokb rfl) (gX10_seesNow t2 a0 x1 px1) (fun x5 t6 => ?_)
    refine GE.if_eq (tgt := 21) dX10_isHidNow_16 (by decide) ?_ ?_
    · refine GE.iinc (lv' := [(0, .ref a0), (1, .int px1), (2, .int (x1 + 1))]) 2 dX10_isHidNow_21 rfl kI_1 (by decide) [1, 2, 0] rfl ?_
      refine GE.goto (tgt := 2) dX10_isHidNow_24 (by decide) ?_
      exact hl3 (x1 + 1) t6
    · refine GE.iconst dX10_isHidNow_19 kI_0 ?_
      exact GE.zretk dX10_isHidNow_20 rfl (Nat.le_refl _) (Nat.le_refl _) (by decide)
def fX10_isRest (σ : St) (a0 : Nat) (px1 : Int32) (px2 : Int32) (px3 : Int32) (px4 : Int32) : Option (Int32 × St) :=
  lo2 (fun l3 (x1 : Int32) (t2 : St) =>
    if 4 ≤ x1 then
    some (1, t2)
  else
    bo 10 t2 a0 (fX10_gameOf t2 a0 px1 px2 x1 px4) (fun x4 t5 =>
    bo 10 t5 a0 (fX10_gameOf t5 a0 px1 px2 px3 px4) (fun x6 t7 =>
    if x6 < x4 then
      some (0, t7)
    else
      bo 10 t7 a0 (fX10_gameOf t7 a0 px2 px1 x1 px3) (fun x8 t9 =>
      bo 10 t9 a0 (fX10_gameOf t9 a0 px2 px1 px4 px3) (fun x10 t11 =>
      if x8 ≤ x10 then
        l3 (x1 + 1) t11
      else
        some (0, t11)))))) FU 0 σ
set_option maxHeartbeats 4000000 in
set_option maxRecDepth 100000 in
theorem gX10_isRest (σ : St) (a0 : Nat) (px1 : Int32) (px2 : Int32) (px3 : Int32) (px4 : Int32) : CE vI mX10_isRest [.ref a0, .int px1, .int px2, .int px3, .int px4] σ (fX10_isRest σ a0 px1 px2 px3 px4) := by
  refine CE.ofGEF (lv := [(0, .ref a0), (1, .int px1), (2, .int px2), (3, .int px3), (4, .int px4)]) (by decide +kernel) (Nat.le_of_ble_eq_true rfl) rfl ?_
  unfold fX10_isRest
  refine GE.iconst dX10_isRest_0 kI_0 ?_
  refine GE.istore (lv' := [(0, .ref a0), (1, .int px1), (2, .int px2), (3, .int px3), (4, .int px4), (5, .int 0)]) dX10_isRest_1 (by decide) [1, 2, 3, 4, 5, 0] rfl ?_
  refine (GE.lo2 (fun (x1 : Int32) (t2 : St) => [(0, .ref a0), (1, .int px1), (2, .int px2), (3, .int px3), (4, .int px4), (5, .int x1)]) (fun (x1 : Int32) (t2 : St) => []) (fun (x1 : Int32) (t2 : St) => t2) (fun l3 hl3 x1 t2 => ?_) FU 0 σ)
  refine GE.iload 5 dX10_isRest_3 rfl ?_
  refine GE.iconst dX10_isRest_5 kI_4 ?_
  refine GE.icmp_ge (tgt := 60) dX10_isRest_6 (by decide) ?_ ?_
  · refine GE.iconst dX10_isRest_60 kI_1 ?_
    exact GE.zretk dX10_isRest_61 rfl (Nat.le_refl _) (Nat.le_refl _) (by decide)
  · refine GE.aload_n 0 dX10_isRest_9 rfl rfl ?_
    refine GE.iload_n 1 dX10_isRest_10 rfl rfl ?_
    refine GE.iload_n 2 dX10_isRest_11 rfl rfl ?_
    refine GE.iload 5 dX10_isRest_12 rfl ?_
    refine GE.iload 4 dX10_isRest_14 rfl ?_
    refine GE.callvI [.int px1, .int px2, .int x1, .int px4] dX10_isRest_16 (lV_X10_405) rfl ⟨rfl, rfl⟩ (rokb rfl) (gX10_gameOf t2 a0 px1 px2 x1 px4) (fun x4 t5 => ?_)
    refine GE.aload_n 0 dX10_isRest_19 rfl rfl ?_
    refine GE.iload_n 1 dX10_isRest_20 rfl rfl ?_
    refine GE.iload_n 2 dX10_isRest_21 rfl rfl ?_
    refine GE.iload_n 3 dX10_isRest_22 rfl rfl ?_
    refine GE.iload 4 dX10_isRest_23 rfl ?_
    refine GE.callvI [.int px1, .int px2, .int px3, .int px4] dX10_isRest_25 (lV_X10_405) rfl ⟨rfl, rfl⟩ (rokb rfl) (gX10_gameOf t5 a0 px1 px2 px3 px4) (fun x6 t7 => ?_)
    refine GE.icmp_gt (tgt := 52) dX10_isRest_28 (by decide) ?_ ?_
    · refine GE.iconst dX10_isRest_52 kI_0 ?_
      exact GE.zretk dX10_isRest_53 rfl (Nat.le_refl _) (Nat.le_refl _) (by decide)
    · refine GE.aload_n 0 dX10_isRest_31 rfl rfl ?_
      refine GE.iload_n 2 dX10_isRest_32 rfl rfl ?_
      refine GE.iload_n 1 dX10_isRest_33 rfl rfl ?_
      refine GE.iload 5 dX10_isRest_34 rfl ?_
      refine GE.iload_n 3 dX10_isRest_36 rfl rfl ?_
      refine GE.callvI [.int px2, .int px1, .int x1, .int px3] dX10_isRest_37 (lV_X10_405) rfl ⟨rfl, rfl⟩ (rokb rfl) (gX10_gameOf t7 a0 px2 px1 x1 px3) (fun x8 t9 => ?_)
      refine GE.aload_n 0 dX10_isRest_40 rfl rfl ?_
      refine GE.iload_n 2 dX10_isRest_41 rfl rfl ?_
      refine GE.iload_n 1 dX10_isRest_42 rfl rfl ?_
      refine GE.iload 4 dX10_isRest_43 rfl ?_
      refine GE.iload_n 3 dX10_isRest_45 rfl rfl ?_
      refine GE.callvI [.int px2, .int px1, .int px4, .int px3] dX10_isRest_46 (lV_X10_405) rfl ⟨rfl, rfl⟩ (rokb rfl) (gX10_gameOf t9 a0 px2 px1 px4 px3) (fun x10 t11 => ?_)
      refine GE.icmp_le (tgt := 54) dX10_isRest_49 (by decide) ?_ ?_
      · refine GE.iinc (lv' := [(0, .ref a0), (1, .int px1), (2, .int px2), (3, .int px3), (4, .int px4), (5, .int (x1 + 1))]) 5 dX10_isRest_54 rfl kI_1 (by decide) [1, 2, 3, 4, 5, 0] rfl ?_
        refine GE.goto (tgt := 3) dX10_isRest_57 (by decide) ?_
        exact hl3 (x1 + 1) t11
      · refine GE.iconst dX10_isRest_52 kI_0 ?_
        exact GE.zretk dX10_isRest_53 rfl (Nat.le_refl _) (Nat.le_refl _) (by decide)
def fX10_rests (σ : St) (a0 : Nat) (px1 : Int32) (px2 : Int32) (px3 : Int32) : Option (Int32 × St) :=
  bo 10 σ a0 (fX10_areTwo σ a0 px1 px2) (fun x1 t2 =>
  if x1 = 0 then
    some ((-1), t2)
  else
    if (-1) ≤ px3 then
      lo3 (fun l6 (x3 : Int32) (x4 : Int32) (t5 : St) =>
        if 16 ≤ x4 then
        if px3 = (-1) then
          some (x3, t5)
        else
          some ((-1), t5)
      else
        if 4 = 0 then none else
        if 4 = 0 then none else
        bo 10 t5 a0 (fX10_isRest t5 a0 px1 px2 (x4 / 4) (x4 - x4 / 4 * 4)) (fun x7 t8 =>
        jo1 (fun (x9 : Int32) =>
          l6 x9 (x4 + 1) t8) (fun j10 =>
          if x7 = 0 then
            j10 x3
          else
            if x3 = px3 then
              if 4 = 0 then none else
              if 4 = 0 then none else
              some ((10 * (x4 / 4)) + (x4 - x4 / 4 * 4), t8)
            else
              j10 (x3 + 1)))) FU 0 0 t2
    else
      some ((-1), t2))
set_option maxHeartbeats 4000000 in
set_option maxRecDepth 100000 in
theorem gX10_rests (σ : St) (a0 : Nat) (px1 : Int32) (px2 : Int32) (px3 : Int32) : CE vI mX10_rests [.ref a0, .int px1, .int px2, .int px3] σ (fX10_rests σ a0 px1 px2 px3) := by
  refine CE.ofGEF (lv := [(0, .ref a0), (1, .int px1), (2, .int px2), (3, .int px3)]) (by decide +kernel) (Nat.le_of_ble_eq_true rfl) rfl ?_
  unfold fX10_rests
  refine GE.aload_n 0 dX10_rests_0 rfl rfl ?_
  refine GE.iload_n 1 dX10_rests_1 rfl rfl ?_
  refine GE.iload_n 2 dX10_rests_2 rfl rfl ?_
  refine GE.callvI [.int px1, .int px2] dX10_rests_3 (lV_X10_401) rfl ⟨rfl, rfl⟩ (rokb rfl) (gX10_areTwo σ a0 px1 px2) (fun x1 t2 => ?_)
  refine GE.if_eq (tgt := 14) dX10_rests_6 (by decide) ?_ ?_
  · refine GE.iconst dX10_rests_14 kI_m1 ?_
    exact GE.iret dX10_rests_15 rfl (Nat.le_refl _) (Nat.le_refl _)
  · refine GE.iload_n 3 dX10_rests_9 rfl rfl ?_
    refine GE.iconst dX10_rests_10 kI_m1 ?_
    refine GE.icmp_ge (tgt := 16) dX10_rests_11 (by decide) ?_ ?_
    · refine GE.iconst dX10_rests_16 kI_0 ?_
      refine GE.istore (lv' := [(0, .ref a0), (1, .int px1), (2, .int px2), (3, .int px3), (4, .int 0)]) dX10_rests_17 (by decide) [1, 2, 3, 4, 0] rfl ?_
      refine GE.iconst dX10_rests_19 kI_0 ?_
      refine GE.istore (lv' := [(0, .ref a0), (1, .int px1), (2, .int px2), (3, .int px3), (4, .int 0), (5, .int 0)]) dX10_rests_20 (by decide) [1, 2, 3, 4, 5, 0] rfl ?_
      refine (GE.lo3 (fun (x3 : Int32) (x4 : Int32) (t5 : St) => [(0, .ref a0), (1, .int px1), (2, .int px2), (3, .int px3), (4, .int x3), (5, .int x4)]) (fun (x3 : Int32) (x4 : Int32) (t5 : St) => []) (fun (x3 : Int32) (x4 : Int32) (t5 : St) => t5) (fun l6 hl6 x3 x4 t5 => ?_) FU 0 0 t2)
      refine GE.iload 5 dX10_rests_22 rfl ?_
      refine GE.bipush dX10_rests_24 kB_16 ?_
      refine GE.icmp_ge (tgt := 74) dX10_rests_26 (by decide) ?_ ?_
      · refine GE.iload_n 3 dX10_rests_74 rfl rfl ?_
        refine GE.iconst dX10_rests_75 kI_m1 ?_
        refine GE.icmp_ne (tgt := 84) dX10_rests_76 (by decide) ?_ ?_
        · refine GE.iconst dX10_rests_84 kI_m1 ?_
          exact GE.iret dX10_rests_85 rfl (Nat.le_refl _) (Nat.le_refl _)
        · refine GE.iload 4 dX10_rests_79 rfl ?_
          refine GE.goto (tgt := 85) dX10_rests_81 (by decide) ?_
          exact GE.iret dX10_rests_85 rfl (Nat.le_refl _) (Nat.le_refl _)
      · refine GE.aload_n 0 dX10_rests_29 rfl rfl ?_
        refine GE.iload_n 1 dX10_rests_30 rfl rfl ?_
        refine GE.iload_n 2 dX10_rests_31 rfl rfl ?_
        refine GE.iload 5 dX10_rests_32 rfl ?_
        refine GE.iconst dX10_rests_34 kI_4 ?_
        refine GE.idiv dX10_rests_35 ?_
        refine GE.iload 5 dX10_rests_36 rfl ?_
        refine GE.iconst dX10_rests_38 kI_4 ?_
        refine GE.irem dX10_rests_39 ?_
        refine GE.callvI [.int px1, .int px2, .int (x4 / 4), .int (x4 - x4 / 4 * 4)] dX10_rests_40 (lV_X10_409) rfl ⟨rfl, rfl⟩ (rokb rfl) (gX10_isRest t5 a0 px1 px2 (x4 / 4) (x4 - x4 / 4 * 4)) (fun x7 t8 => ?_)
        refine GE.jo1 68 (fun (x9 : Int32) => [(0, .ref a0), (1, .int px1), (2, .int px2), (3, .int px3), (4, .int x9), (5, .int x4)]) (fun (x9 : Int32) => []) (fun (x9 : Int32) => t8) (fun x9 => ?_) (fun j10 hj10 => ?_)
        · refine GE.iinc (lv' := [(0, .ref a0), (1, .int px1), (2, .int px2), (3, .int px3), (4, .int x9), (5, .int (x4 + 1))]) 5 dX10_rests_68 rfl kI_1 (by decide) [1, 2, 3, 4, 5, 0] rfl ?_
          refine GE.goto (tgt := 22) dX10_rests_71 (by decide) ?_
          exact hl6 x9 (x4 + 1) t8
        · refine GE.if_eq (tgt := 68) dX10_rests_43 (by decide) ?_ ?_
          · exact hj10 x3
          · refine GE.iload 4 dX10_rests_46 rfl ?_
            refine GE.iload_n 3 dX10_rests_48 rfl rfl ?_
            refine GE.icmp_ne (tgt := 65) dX10_rests_49 (by decide) ?_ ?_
            · refine GE.iinc (lv' := [(0, .ref a0), (1, .int px1), (2, .int px2), (3, .int px3), (4, .int (x3 + 1)), (5, .int x4)]) 4 dX10_rests_65 rfl kI_1 (by decide) [1, 2, 3, 4, 0, 5] rfl ?_
              exact hj10 (x3 + 1)
            · refine GE.bipush dX10_rests_52 kB_10 ?_
              refine GE.iload 5 dX10_rests_54 rfl ?_
              refine GE.iconst dX10_rests_56 kI_4 ?_
              refine GE.idiv dX10_rests_57 ?_
              refine GE.imul dX10_rests_58 ?_
              refine GE.iload 5 dX10_rests_59 rfl ?_
              refine GE.iconst dX10_rests_61 kI_4 ?_
              refine GE.irem dX10_rests_62 ?_
              refine GE.iadd dX10_rests_63 ?_
              exact GE.iret dX10_rests_64 rfl (Nat.le_refl _) (Nat.le_refl _)
    · refine GE.iconst dX10_rests_14 kI_m1 ?_
      exact GE.iret dX10_rests_15 rfl (Nat.le_refl _) (Nat.le_refl _)
def fX10_layAway (σ : St) (a0 : Nat) (px1 : Int32) : Option (Unit × St) :=
  lo2 (fun l3 (x1 : Int32) (t2 : St) =>
    (gI 10 26 t2 a0).bind fun x4 =>
  if x4 ≤ x1 then
    lo2 (fun l7 (x5 : Int32) (t6 : St) =>
      if x5 = 0 then
      some ((), t6)
    else
      lo3 (fun l11 (x8 : Int32) (x9 : Int32) (t10 : St) =>
        (gI 10 26 t10 a0).bind fun x12 =>
      (gI 10 26 t10 a0).bind fun x13 =>
      if x12 * x13 ≤ x9 then
        l7 x8 t10
      else
        (gI 10 26 t10 a0).bind fun x14 =>
        if x14 = 0 then none else
        nam (x9 / x14 : Int32) (fun x15 =>
        (gI 10 26 t10 a0).bind fun x16 =>
        if x16 = 0 then none else
        nam (x9 - x9 / x16 * x16 : Int32) (fun x17 =>
        bo 10 t10 a0 (fX10_areBeside t10 a0 x15 x17) (fun x18 t19 =>
        jo2 (fun (x20 : Int32) (t21 : St) =>
          l11 x20 (x9 + 1) t21) (fun j22 =>
          if x18 = 0 then
            j22 x8 t19
          else
            (gR 10 36 t19 a0).bind fun a23 =>
            (aI 0 t19 a23 x15).bind fun x24 =>
            if 1000 ≤ x24 then
              j22 x8 t19
            else
              (gR 10 35 t19 a0).bind fun a25 =>
              (aI 0 t19 a25 x17).bind fun x26 =>
              if 1000 ≤ x26 then
                j22 x8 t19
              else
                (gR 10 36 t19 a0).bind fun a27 =>
                (aI 0 t19 a27 x15).bind fun x28 =>
                (gR 10 35 t19 a0).bind fun a29 =>
                (aI 0 t19 a29 x17).bind fun x30 =>
                (gR 10 36 t19 a0).bind fun a31 =>
                (aI 0 t19 a31 x17).bind fun x32 =>
                if x32 ≤ x28 + x30 then
                  j22 x8 t19
                else
                  (gR 10 36 t19 a0).bind fun a33 =>
                  (gR 10 36 t19 a0).bind fun a34 =>
                  (aI 0 t19 a34 x15).bind fun x35 =>
                  (gR 10 35 t19 a0).bind fun a36 =>
                  (aI 0 t19 a36 x17).bind fun x37 =>
                  (sI 0 t19 a33 x17 (x35 + x37)).bind (fun t38 =>
                  j22 1 t38)))))) FU 0 0 t6) FU 1 t2
  else
    (gR 10 36 t2 a0).bind fun a39 =>
    jo3 (fun (v40 : Int32) (v41 : Int32) (v42 : Nat) =>
      (sI 0 t2 v42 v41 v40).bind (fun t44 =>
      l3 (x1 + 1) t44)) (fun j43 =>
      if x1 = px1 then
        (gR 10 35 t2 a0).bind fun a45 =>
        (aI 0 t2 a45 x1).bind fun x46 =>
        j43 x46 x1 a39
      else
        j43 1000 x1 a39)) FU 0 σ
set_option maxHeartbeats 4000000 in
set_option maxRecDepth 100000 in
theorem gX10_layAway (σ : St) (a0 : Nat) (px1 : Int32) : CE vU mX10_layAway [.ref a0, .int px1] σ (fX10_layAway σ a0 px1) := by
  refine CE.ofGEF (lv := [(0, .ref a0), (1, .int px1)]) (by decide +kernel) (Nat.le_of_ble_eq_true rfl) rfl ?_
  unfold fX10_layAway
  refine GE.iconst dX10_layAway_0 kI_0 ?_
  refine GE.istore_n (lv' := [(0, .ref a0), (1, .int px1), (2, .int 0)]) dX10_layAway_1 rfl (by decide) [1, 2, 0] rfl ?_
  refine (GE.lo2 (fun (x1 : Int32) (t2 : St) => [(0, .ref a0), (1, .int px1), (2, .int x1)]) (fun (x1 : Int32) (t2 : St) => []) (fun (x1 : Int32) (t2 : St) => t2) (fun l3 hl3 x1 t2 => ?_) FU 0 σ)
  refine GE.iload_n 2 dX10_layAway_2 rfl rfl ?_
  refine GE.aload_n 0 dX10_layAway_3 rfl rfl ?_
  refine GE.gI dX10_layAway_4 lF_X10_264 (fun x4 => ?_)
  refine GE.icmp_ge (tgt := 39) dX10_layAway_7 (by decide) ?_ ?_
  · refine GE.iconst dX10_layAway_39 kI_1 ?_
    refine GE.istore_n (lv' := [(0, .ref a0), (1, .int px1), (2, .int 1)]) dX10_layAway_40 rfl (by decide) [1, 2, 0] rfl ?_
    refine GE.sub [0, 2] rfl (GE.lo2 (fun (x5 : Int32) (t6 : St) => [(0, .ref a0), (2, .int x5)]) (fun (x5 : Int32) (t6 : St) => []) (fun (x5 : Int32) (t6 : St) => t6) (fun l7 hl7 x5 t6 => ?_) FU 1 t2)
    refine GE.iload_n 1 dX10_layAway_41 rfl rfl ?_
    refine GE.if_eq (tgt := 173) dX10_layAway_42 (by decide) ?_ ?_
    · exact GE.vret (x := ()) dX10_layAway_173 rfl (Nat.le_refl _) (Nat.le_refl _)
    · refine GE.iconst dX10_layAway_45 kI_0 ?_
      refine GE.istore_n (lv' := [(0, .ref a0), (2, .int 0)]) dX10_layAway_46 rfl (by decide) [1, 0] rfl ?_
      refine GE.iconst dX10_layAway_47 kI_0 ?_
      refine GE.istore_n (lv' := [(0, .ref a0), (2, .int 0), (3, .int 0)]) dX10_layAway_48 rfl (by decide) [1, 2, 0] rfl ?_
      refine (GE.lo3 (fun (x8 : Int32) (x9 : Int32) (t10 : St) => [(0, .ref a0), (2, .int x8), (3, .int x9)]) (fun (x8 : Int32) (x9 : Int32) (t10 : St) => []) (fun (x8 : Int32) (x9 : Int32) (t10 : St) => t10) (fun l11 hl11 x8 x9 t10 => ?_) FU 0 0 t6)
      refine GE.iload_n 2 dX10_layAway_49 rfl rfl ?_
      refine GE.aload_n 0 dX10_layAway_50 rfl rfl ?_
      refine GE.gI dX10_layAway_51 lF_X10_264 (fun x12 => ?_)
      refine GE.aload_n 0 dX10_layAway_54 rfl rfl ?_
      refine GE.gI dX10_layAway_55 lF_X10_264 (fun x13 => ?_)
      refine GE.imul dX10_layAway_58 ?_
      refine GE.icmp_ge (tgt := 170) dX10_layAway_59 (by decide) ?_ ?_
      · refine GE.goto (tgt := 41) dX10_layAway_170 (by decide) ?_
        exact GE.sub [0, 1] rfl (hl7 x8 t10)
      · refine GE.iload_n 2 dX10_layAway_62 rfl rfl ?_
        refine GE.aload_n 0 dX10_layAway_63 rfl rfl ?_
        refine GE.gI dX10_layAway_64 lF_X10_264 (fun x14 => ?_)
        refine GE.idiv dX10_layAway_67 ?_
        refine GE.nami (fun x15 => ?_)
        refine GE.istore (lv' := [(0, .ref a0), (2, .int x8), (3, .int x9), (4, .int x15)]) dX10_layAway_68 (by decide) [1, 2, 3, 0] rfl ?_
        refine GE.iload_n 2 dX10_layAway_70 rfl rfl ?_
        refine GE.aload_n 0 dX10_layAway_71 rfl rfl ?_
        refine GE.gI dX10_layAway_72 lF_X10_264 (fun x16 => ?_)
        refine GE.irem dX10_layAway_75 ?_
        refine GE.nami (fun x17 => ?_)
        refine GE.istore (lv' := [(0, .ref a0), (2, .int x8), (3, .int x9), (4, .int x15), (5, .int x17)]) dX10_layAway_76 (by decide) [1, 2, 3, 4, 0] rfl ?_
        refine GE.aload_n 0 dX10_layAway_78 rfl rfl ?_
        refine GE.iload 3 dX10_layAway_79 rfl ?_
        refine GE.iload 4 dX10_layAway_81 rfl ?_
        refine GE.callvI [.int x15, .int x17] dX10_layAway_83 (lV_X10_386) rfl ⟨rfl, rfl⟩ (rokb rfl) (gX10_areBeside t10 a0 x15 x17) (fun x18 t19 => ?_)
        refine GE.jo2 164 (fun (x20 : Int32) (t21 : St) => [(0, .ref a0), (2, .int x20), (3, .int x9)]) (fun (x20 : Int32) (t21 : St) => []) (fun (x20 : Int32) (t21 : St) => t21) (fun x20 t21 => ?_) (fun j22 hj22 => ?_)
        · refine GE.iinc (lv' := [(0, .ref a0), (2, .int x20), (3, .int (x9 + 1))]) 2 dX10_layAway_164 rfl kI_1 (by decide) [1, 2, 0] rfl ?_
          refine GE.goto (tgt := 49) dX10_layAway_167 (by decide) ?_
          exact hl11 x20 (x9 + 1) t21
        · refine GE.if_eq (tgt := 164) dX10_layAway_86 (by decide) ?_ ?_
          · exact GE.sub [0, 1, 2] rfl (hj22 x8 t19)
          · refine GE.aload_n 0 dX10_layAway_89 rfl rfl ?_
            refine GE.gR dX10_layAway_90 lF_X10_80 (fun a23 => ?_)
            refine GE.iload 3 dX10_layAway_93 rfl ?_
            refine GE.iald dX10_layAway_95 (fun x24 => ?_)
            refine GE.sipush dX10_layAway_96 kS_1000 ?_
            refine GE.icmp_ge (tgt := 164) dX10_layAway_99 (by decide) ?_ ?_
            · exact GE.sub [0, 1, 2] rfl (hj22 x8 t19)
            · refine GE.aload_n 0 dX10_layAway_102 rfl rfl ?_
              refine GE.gR dX10_layAway_103 lF_X10_77 (fun a25 => ?_)
              refine GE.iload 4 dX10_layAway_106 rfl ?_
              refine GE.iald dX10_layAway_108 (fun x26 => ?_)
              refine GE.sipush dX10_layAway_109 kS_1000 ?_
              refine GE.icmp_ge (tgt := 164) dX10_layAway_112 (by decide) ?_ ?_
              · exact GE.sub [0, 1, 2] rfl (hj22 x8 t19)
              · refine GE.aload_n 0 dX10_layAway_115 rfl rfl ?_
                refine GE.gR dX10_layAway_116 lF_X10_80 (fun a27 => ?_)
                refine GE.iload 3 dX10_layAway_119 rfl ?_
                refine GE.iald dX10_layAway_121 (fun x28 => ?_)
                refine GE.aload_n 0 dX10_layAway_122 rfl rfl ?_
                refine GE.gR dX10_layAway_123 lF_X10_77 (fun a29 => ?_)
                refine GE.iload 4 dX10_layAway_126 rfl ?_
                refine GE.iald dX10_layAway_128 (fun x30 => ?_)
                refine GE.iadd dX10_layAway_129 ?_
                refine GE.aload_n 0 dX10_layAway_130 rfl rfl ?_
                refine GE.gR dX10_layAway_131 lF_X10_80 (fun a31 => ?_)
                refine GE.iload 4 dX10_layAway_134 rfl ?_
                refine GE.iald dX10_layAway_136 (fun x32 => ?_)
                refine GE.icmp_ge (tgt := 164) dX10_layAway_137 (by decide) ?_ ?_
                · exact GE.sub [0, 1, 2] rfl (hj22 x8 t19)
                · refine GE.aload_n 0 dX10_layAway_140 rfl rfl ?_
                  refine GE.gR dX10_layAway_141 lF_X10_80 (fun a33 => ?_)
                  refine GE.iload 4 dX10_layAway_144 rfl ?_
                  refine GE.aload_n 0 dX10_layAway_146 rfl rfl ?_
                  refine GE.gR dX10_layAway_147 lF_X10_80 (fun a34 => ?_)
                  refine GE.iload 3 dX10_layAway_150 rfl ?_
                  refine GE.iald dX10_layAway_152 (fun x35 => ?_)
                  refine GE.aload_n 0 dX10_layAway_153 rfl rfl ?_
                  refine GE.gR dX10_layAway_154 lF_X10_77 (fun a36 => ?_)
                  refine GE.iload 4 dX10_layAway_157 rfl ?_
                  refine GE.iald dX10_layAway_159 (fun x37 => ?_)
                  refine GE.iadd dX10_layAway_160 ?_
                  refine GE.iast dX10_layAway_161 (fun t38 => ?_)
                  refine GE.iconst dX10_layAway_162 kI_1 ?_
                  refine GE.istore_n (lv' := [(0, .ref a0), (2, .int 1), (3, .int x9), (4, .int x15), (5, .int x17)]) dX10_layAway_163 rfl (by decide) [1, 0, 2, 3, 4] rfl ?_
                  exact GE.sub [0, 1, 2] rfl (hj22 1 t38)
  · refine GE.aload_n 0 dX10_layAway_10 rfl rfl ?_
    refine GE.gR dX10_layAway_11 lF_X10_80 (fun a39 => ?_)
    refine GE.iload_n 2 dX10_layAway_14 rfl rfl ?_
    refine GE.iload_n 2 dX10_layAway_15 rfl rfl ?_
    refine GE.iload_n 1 dX10_layAway_16 rfl rfl ?_
    refine GE.jo3 32 (fun (v40 : Int32) (v41 : Int32) (v42 : Nat) => [(0, .ref a0), (1, .int px1), (2, .int x1)]) (fun (v40 : Int32) (v41 : Int32) (v42 : Nat) => [.int v40, .int v41, .ref v42]) (fun (v40 : Int32) (v41 : Int32) (v42 : Nat) => t2) (fun v40 v41 v42 => ?_) (fun j43 hj43 => ?_)
    · refine GE.iast dX10_layAway_32 (fun t44 => ?_)
      refine GE.iinc (lv' := [(0, .ref a0), (1, .int px1), (2, .int (x1 + 1))]) 2 dX10_layAway_33 rfl kI_1 (by decide) [1, 2, 0] rfl ?_
      refine GE.goto (tgt := 2) dX10_layAway_36 (by decide) ?_
      exact hl3 (x1 + 1) t44
    · refine GE.icmp_ne (tgt := 29) dX10_layAway_17 (by decide) ?_ ?_
      · refine GE.sipush dX10_layAway_29 kS_1000 ?_
        exact hj43 1000 x1 a39
      · refine GE.aload_n 0 dX10_layAway_20 rfl rfl ?_
        refine GE.gR dX10_layAway_21 lF_X10_77 (fun a45 => ?_)
        refine GE.iload_n 2 dX10_layAway_24 rfl rfl ?_
        refine GE.iald dX10_layAway_25 (fun x46 => ?_)
        refine GE.goto (tgt := 32) dX10_layAway_26 (by decide) ?_
        exact hj43 x46 x1 a39
def fX10_risk (σ : St) (a0 : Nat) (px1 : Int32) (px2 : Int32) : Option (Int32 × St) :=
  bo 10 σ a0 (fX10_isCell σ a0 px1) (fun x1 t2 =>
  if x1 = 0 then
    some ((-1), t2)
  else
    bo 10 t2 a0 (fX10_isCell t2 a0 px2) (fun x3 t4 =>
    if x3 = 0 then
      some ((-1), t4)
    else
      bo 10 t4 a0 (fX10_hid t4 a0) (fun x5 t6 =>
      lo2 (fun l9 (x7 : Int32) (t8 : St) =>
        (gI 10 26 t8 a0).bind fun x10 =>
      if x10 ≤ x7 then
        bo 10 t8 a0 (fX10_layAway t8 a0 px1) (fun w11 t12 =>
        (gR 10 36 t12 a0).bind fun a13 =>
        (aI 0 t12 a13 px2).bind fun x14 =>
        some (x14, t12))
      else
        (gR 10 35 t8 a0).bind fun a15 =>
        bd (fX10_has t8 x5 x7) (fun x16 t17 =>
        jo3 (fun (v18 : Int32) (v19 : Int32) (v20 : Nat) =>
          (sI 0 t17 v20 v19 v18).bind (fun t22 =>
          l9 (x7 + 1) t22)) (fun j21 =>
          if x16 = 0 then
            j21 1 x7 a15
          else
            j21 0 x7 a15))) FU 0 t6)))
set_option maxHeartbeats 4000000 in
set_option maxRecDepth 100000 in
theorem gX10_risk (σ : St) (a0 : Nat) (px1 : Int32) (px2 : Int32) : CE vI mX10_risk [.ref a0, .int px1, .int px2] σ (fX10_risk σ a0 px1 px2) := by
  refine CE.ofGEF (lv := [(0, .ref a0), (1, .int px1), (2, .int px2)]) (by decide +kernel) (Nat.le_of_ble_eq_true rfl) rfl ?_
  unfold fX10_risk
  refine GE.aload_n 0 dX10_risk_0 rfl rfl ?_
  refine GE.iload_n 1 dX10_risk_1 rfl rfl ?_
  refine GE.callvI [.int px1] dX10_risk_2 (lV_X10_337) rfl ⟨rfl, rfl⟩ (rokb rfl) (gX10_isCell σ a0 px1) (fun x1 t2 => ?_)
  refine GE.if_eq (tgt := 16) dX10_risk_5 (by decide) ?_ ?_
  · refine GE.iconst dX10_risk_16 kI_m1 ?_
    exact GE.iret dX10_risk_17 rfl (Nat.le_refl _) (Nat.le_refl _)
  · refine GE.aload_n 0 dX10_risk_8 rfl rfl ?_
    refine GE.iload_n 2 dX10_risk_9 rfl rfl ?_
    refine GE.callvI [.int px2] dX10_risk_10 (lV_X10_337) rfl ⟨rfl, rfl⟩ (rokb rfl) (gX10_isCell t2 a0 px2) (fun x3 t4 => ?_)
    refine GE.if_ne (tgt := 18) dX10_risk_13 (by decide) ?_ ?_
    · refine GE.aload_n 0 dX10_risk_18 rfl rfl ?_
      refine GE.callvI [] dX10_risk_19 (lV_X10_348) rfl ⟨rfl, rfl⟩ (rokb rfl) (gX10_hid t4 a0) (fun x5 t6 => ?_)
      refine GE.istore_n (lv' := [(0, .ref a0), (1, .int px1), (2, .int px2), (3, .int x5)]) dX10_risk_22 rfl (by decide) [1, 2, 3, 0] rfl ?_
      refine GE.iconst dX10_risk_23 kI_0 ?_
      refine GE.istore (lv' := [(0, .ref a0), (1, .int px1), (2, .int px2), (3, .int x5), (4, .int 0)]) dX10_risk_24 (by decide) [1, 2, 3, 4, 0] rfl ?_
      refine (GE.lo2 (fun (x7 : Int32) (t8 : St) => [(0, .ref a0), (1, .int px1), (2, .int px2), (3, .int x5), (4, .int x7)]) (fun (x7 : Int32) (t8 : St) => []) (fun (x7 : Int32) (t8 : St) => t8) (fun l9 hl9 x7 t8 => ?_) FU 0 t6)
      refine GE.iload 4 dX10_risk_26 rfl ?_
      refine GE.aload_n 0 dX10_risk_28 rfl rfl ?_
      refine GE.gI dX10_risk_29 lF_X10_264 (fun x10 => ?_)
      refine GE.icmp_ge (tgt := 62) dX10_risk_32 (by decide) ?_ ?_
      · refine GE.aload_n 0 dX10_risk_62 rfl rfl ?_
        refine GE.iload_n 1 dX10_risk_63 rfl rfl ?_
        refine GE.callvU [.int px1] dX10_risk_64 (lV_X10_389) rfl ⟨rfl, rfl⟩ (rokb rfl) (gX10_layAway t8 a0 px1) (fun w11 t12 => ?_)
        refine GE.aload_n 0 dX10_risk_67 rfl rfl ?_
        refine GE.gR dX10_risk_68 lF_X10_80 (fun a13 => ?_)
        refine GE.iload_n 2 dX10_risk_71 rfl rfl ?_
        refine GE.iald dX10_risk_72 (fun x14 => ?_)
        exact GE.iret dX10_risk_73 rfl (Nat.le_refl _) (Nat.le_refl _)
      · refine GE.aload_n 0 dX10_risk_35 rfl rfl ?_
        refine GE.gR dX10_risk_36 lF_X10_77 (fun a15 => ?_)
        refine GE.iload 4 dX10_risk_39 rfl ?_
        refine GE.iload_n 3 dX10_risk_41 rfl rfl ?_
        refine GE.iload 4 dX10_risk_42 rfl ?_
        refine GE.callsI [.int x5, .int x7] dX10_risk_44 (lT_X10_228) rfl ⟨rfl, rfl⟩ (rokb rfl) (gX10_has t8 x5 x7) (fun x16 t17 => ?_)
        refine GE.jo3 55 (fun (v18 : Int32) (v19 : Int32) (v20 : Nat) => [(0, .ref a0), (1, .int px1), (2, .int px2), (3, .int x5), (4, .int x7)]) (fun (v18 : Int32) (v19 : Int32) (v20 : Nat) => [.int v18, .int v19, .ref v20]) (fun (v18 : Int32) (v19 : Int32) (v20 : Nat) => t17) (fun v18 v19 v20 => ?_) (fun j21 hj21 => ?_)
        · refine GE.iast dX10_risk_55 (fun t22 => ?_)
          refine GE.iinc (lv' := [(0, .ref a0), (1, .int px1), (2, .int px2), (3, .int x5), (4, .int (x7 + 1))]) 4 dX10_risk_56 rfl kI_1 (by decide) [1, 2, 3, 4, 0] rfl ?_
          refine GE.goto (tgt := 26) dX10_risk_59 (by decide) ?_
          exact hl9 (x7 + 1) t22
        · refine GE.if_eq (tgt := 54) dX10_risk_47 (by decide) ?_ ?_
          · refine GE.iconst dX10_risk_54 kI_1 ?_
            exact hj21 1 x7 a15
          · refine GE.iconst dX10_risk_50 kI_0 ?_
            refine GE.goto (tgt := 55) dX10_risk_51 (by decide) ?_
            exact hj21 0 x7 a15
    · refine GE.iconst dX10_risk_16 kI_m1 ?_
      exact GE.iret dX10_risk_17 rfl (Nat.le_refl _) (Nat.le_refl _)
def fX10_rule (σ : St) (a0 : Nat) (px1 : Int32) : Option (Int32 × St) :=
  (gI 10 26 σ a0).bind fun x1 =>
  if x1 = 0 then
    some ((-1), σ)
  else
    bd (fX10_in σ px1 0 3) (fun x2 t3 =>
    if x2 = 0 then
      some ((-1), t3)
    else
      if px1 = 2 then
        (gR 10 28 t3 a0).bind fun a8 =>
        (aI 0 t3 a8 40).bind fun x9 =>
        some (x9, t3)
      else
        if px1 = 3 then
          (gR 10 28 t3 a0).bind fun a6 =>
          (aI 0 t3 a6 39).bind fun x7 =>
          some (x7, t3)
        else
          (gR 10 23 t3 a0).bind fun a4 =>
          (aI 0 t3 a4 px1).bind fun x5 =>
          some (x5, t3))
set_option maxHeartbeats 4000000 in
set_option maxRecDepth 100000 in
theorem gX10_rule (σ : St) (a0 : Nat) (px1 : Int32) : CE vI mX10_rule [.ref a0, .int px1] σ (fX10_rule σ a0 px1) := by
  refine CE.ofGEF (lv := [(0, .ref a0), (1, .int px1)]) (by decide +kernel) (Nat.le_of_ble_eq_true rfl) rfl ?_
  unfold fX10_rule
  refine GE.aload_n 0 dX10_rule_0 rfl rfl ?_
  refine GE.gI dX10_rule_1 lF_X10_264 (fun x1 => ?_)
  refine GE.if_eq (tgt := 16) dX10_rule_4 (by decide) ?_ ?_
  · refine GE.iconst dX10_rule_16 kI_m1 ?_
    exact GE.iret dX10_rule_17 rfl (Nat.le_refl _) (Nat.le_refl _)
  · refine GE.iload_n 1 dX10_rule_7 rfl rfl ?_
    refine GE.iconst dX10_rule_8 kI_0 ?_
    refine GE.iconst dX10_rule_9 kI_3 ?_
    refine GE.callsI [.int px1, .int 0, .int 3] dX10_rule_10 (lT_X10_217) rfl ⟨rfl, rfl⟩ (rokb rfl) (gX10_in σ px1 0 3) (fun x2 t3 => ?_)
    refine GE.if_ne (tgt := 18) dX10_rule_13 (by decide) ?_ ?_
    · refine GE.iload_n 1 dX10_rule_18 rfl rfl ?_
      refine GE.iconst dX10_rule_19 kI_2 ?_
      refine GE.icmp_ne (tgt := 33) dX10_rule_20 (by decide) ?_ ?_
      · refine GE.iload_n 1 dX10_rule_33 rfl rfl ?_
        refine GE.iconst dX10_rule_34 kI_3 ?_
        refine GE.icmp_ne (tgt := 48) dX10_rule_35 (by decide) ?_ ?_
        · refine GE.aload_n 0 dX10_rule_48 rfl rfl ?_
          refine GE.gR dX10_rule_49 lF_X10_52 (fun a4 => ?_)
          refine GE.iload_n 1 dX10_rule_52 rfl rfl ?_
          refine GE.iald dX10_rule_53 (fun x5 => ?_)
          exact GE.iret dX10_rule_54 rfl (Nat.le_refl _) (Nat.le_refl _)
        · refine GE.aload_n 0 dX10_rule_38 rfl rfl ?_
          refine GE.gR dX10_rule_39 lF_X10_61 (fun a6 => ?_)
          refine GE.bipush dX10_rule_42 kB_39 ?_
          refine GE.iald dX10_rule_44 (fun x7 => ?_)
          refine GE.goto (tgt := 54) dX10_rule_45 (by decide) ?_
          exact GE.iret dX10_rule_54 rfl (Nat.le_refl _) (Nat.le_refl _)
      · refine GE.aload_n 0 dX10_rule_23 rfl rfl ?_
        refine GE.gR dX10_rule_24 lF_X10_61 (fun a8 => ?_)
        refine GE.bipush dX10_rule_27 kB_40 ?_
        refine GE.iald dX10_rule_29 (fun x9 => ?_)
        refine GE.goto (tgt := 54) dX10_rule_30 (by decide) ?_
        exact GE.iret dX10_rule_54 rfl (Nat.le_refl _) (Nat.le_refl _)
    · refine GE.iconst dX10_rule_16 kI_m1 ?_
      exact GE.iret dX10_rule_17 rfl (Nat.le_refl _) (Nat.le_refl _)
def fX10_sees (σ : St) (a0 : Nat) (px1 : Int32) (px2 : Int32) : Option (Int32 × St) :=
  bo 10 σ a0 (fX10_isTower σ a0 px1) (fun x1 t2 =>
  if x1 = 0 then
    some ((-1), t2)
  else
    bo 10 t2 a0 (fX10_isCell t2 a0 px2) (fun x3 t4 =>
    if x3 = 0 then
      some ((-1), t4)
    else
      bo 10 t4 a0 (fX10_seesNow t4 a0 px1 px2) (fun x5 t6 =>
      if x5 = 0 then
        some (0, t6)
      else
        some (1, t6))))
set_option maxHeartbeats 4000000 in
set_option maxRecDepth 100000 in
theorem gX10_sees (σ : St) (a0 : Nat) (px1 : Int32) (px2 : Int32) : CE vI mX10_sees [.ref a0, .int px1, .int px2] σ (fX10_sees σ a0 px1 px2) := by
  refine CE.ofGEF (lv := [(0, .ref a0), (1, .int px1), (2, .int px2)]) (by decide +kernel) (Nat.le_of_ble_eq_true rfl) rfl ?_
  unfold fX10_sees
  refine GE.aload_n 0 dX10_sees_0 rfl rfl ?_
  refine GE.iload_n 1 dX10_sees_1 rfl rfl ?_
  refine GE.callvI [.int px1] dX10_sees_2 (lV_X10_340) rfl ⟨rfl, rfl⟩ (rokb rfl) (gX10_isTower σ a0 px1) (fun x1 t2 => ?_)
  refine GE.if_eq (tgt := 16) dX10_sees_5 (by decide) ?_ ?_
  · refine GE.iconst dX10_sees_16 kI_m1 ?_
    refine GE.goto (tgt := 34) dX10_sees_17 (by decide) ?_
    exact GE.iret dX10_sees_34 rfl (Nat.le_refl _) (Nat.le_refl _)
  · refine GE.aload_n 0 dX10_sees_8 rfl rfl ?_
    refine GE.iload_n 2 dX10_sees_9 rfl rfl ?_
    refine GE.callvI [.int px2] dX10_sees_10 (lV_X10_337) rfl ⟨rfl, rfl⟩ (rokb rfl) (gX10_isCell t2 a0 px2) (fun x3 t4 => ?_)
    refine GE.if_ne (tgt := 20) dX10_sees_13 (by decide) ?_ ?_
    · refine GE.aload_n 0 dX10_sees_20 rfl rfl ?_
      refine GE.iload_n 1 dX10_sees_21 rfl rfl ?_
      refine GE.iload_n 2 dX10_sees_22 rfl rfl ?_
      refine GE.callvI [.int px1, .int px2] dX10_sees_23 (lV_X10_325) rfl ⟨rfl, rfl⟩ (rokb rfl) (gX10_seesNow t4 a0 px1 px2) (fun x5 t6 => ?_)
      refine GE.if_eq (tgt := 33) dX10_sees_26 (by decide) ?_ ?_
      · refine GE.iconst dX10_sees_33 kI_0 ?_
        exact GE.iret dX10_sees_34 rfl (Nat.le_refl _) (Nat.le_refl _)
      · refine GE.iconst dX10_sees_29 kI_1 ?_
        refine GE.goto (tgt := 34) dX10_sees_30 (by decide) ?_
        exact GE.iret dX10_sees_34 rfl (Nat.le_refl _) (Nat.le_refl _)
    · refine GE.iconst dX10_sees_16 kI_m1 ?_
      refine GE.goto (tgt := 34) dX10_sees_17 (by decide) ?_
      exact GE.iret dX10_sees_34 rfl (Nat.le_refl _) (Nat.le_refl _)
def fX10_shares (σ : St) (a0 : Nat) (px1 : Int32) (px2 : Int32) : Option (Int32 × St) :=
  bo 10 σ a0 (fX10_isTower σ a0 px1) (fun x1 t2 =>
  if x1 = 0 then
    some ((-1), t2)
  else
    bd (fX10_in t2 px2 0 999) (fun x3 t4 =>
    if x3 = 0 then
      some ((-1), t4)
    else
      lo3 (fun l8 (x5 : Int32) (x6 : Int32) (t7 : St) =>
        (gI 10 27 t7 a0).bind fun x9 =>
      if x9 ≤ x6 then
        if x5 = 0 then
          some (0, t7)
        else
          bo 10 t7 a0 (fX10_seenBy t7 a0 px1) (fun x10 t11 =>
          bd (fJ6_bitCount_0f7a4 t11 x10) (fun x12 t13 =>
          if x5 = 0 then none else
          some ((px2 * x12) / x5, t13)))
      else
        bo 10 t7 a0 (fX10_seenBy t7 a0 x6) (fun x14 t15 =>
        bd (fJ6_bitCount_0f7a4 t15 x14) (fun x16 t17 =>
        nam (x5 + x16 : Int32) (fun x18 =>
        l8 x18 (x6 + 1) t17)))) FU 0 0 t4))
set_option maxHeartbeats 4000000 in
set_option maxRecDepth 100000 in
theorem gX10_shares (σ : St) (a0 : Nat) (px1 : Int32) (px2 : Int32) : CE vI mX10_shares [.ref a0, .int px1, .int px2] σ (fX10_shares σ a0 px1 px2) := by
  refine CE.ofGEF (lv := [(0, .ref a0), (1, .int px1), (2, .int px2)]) (by decide +kernel) (Nat.le_of_ble_eq_true rfl) rfl ?_
  unfold fX10_shares
  refine GE.aload_n 0 dX10_shares_0 rfl rfl ?_
  refine GE.iload_n 1 dX10_shares_1 rfl rfl ?_
  refine GE.callvI [.int px1] dX10_shares_2 (lV_X10_340) rfl ⟨rfl, rfl⟩ (rokb rfl) (gX10_isTower σ a0 px1) (fun x1 t2 => ?_)
  refine GE.if_eq (tgt := 19) dX10_shares_5 (by decide) ?_ ?_
  · refine GE.iconst dX10_shares_19 kI_m1 ?_
    exact GE.iret dX10_shares_20 rfl (Nat.le_refl _) (Nat.le_refl _)
  · refine GE.iload_n 2 dX10_shares_8 rfl rfl ?_
    refine GE.iconst dX10_shares_9 kI_0 ?_
    refine GE.sipush dX10_shares_10 kS_999 ?_
    refine GE.callsI [.int px2, .int 0, .int 999] dX10_shares_13 (lT_X10_217) rfl ⟨rfl, rfl⟩ (rokb rfl) (gX10_in t2 px2 0 999) (fun x3 t4 => ?_)
    refine GE.if_ne (tgt := 21) dX10_shares_16 (by decide) ?_ ?_
    · refine GE.iconst dX10_shares_21 kI_0 ?_
      refine GE.istore_n (lv' := [(0, .ref a0), (1, .int px1), (2, .int px2), (3, .int 0)]) dX10_shares_22 rfl (by decide) [1, 2, 3, 0] rfl ?_
      refine GE.iconst dX10_shares_23 kI_0 ?_
      refine GE.istore (lv' := [(0, .ref a0), (1, .int px1), (2, .int px2), (3, .int 0), (4, .int 0)]) dX10_shares_24 (by decide) [1, 2, 3, 4, 0] rfl ?_
      refine (GE.lo3 (fun (x5 : Int32) (x6 : Int32) (t7 : St) => [(0, .ref a0), (1, .int px1), (2, .int px2), (3, .int x5), (4, .int x6)]) (fun (x5 : Int32) (x6 : Int32) (t7 : St) => []) (fun (x5 : Int32) (x6 : Int32) (t7 : St) => t7) (fun l8 hl8 x5 x6 t7 => ?_) FU 0 0 t4)
      refine GE.iload 4 dX10_shares_26 rfl ?_
      refine GE.aload_n 0 dX10_shares_28 rfl rfl ?_
      refine GE.gI dX10_shares_29 lF_X10_261 (fun x9 => ?_)
      refine GE.icmp_ge (tgt := 53) dX10_shares_32 (by decide) ?_ ?_
      · refine GE.iload_n 3 dX10_shares_53 rfl rfl ?_
        refine GE.if_ne (tgt := 61) dX10_shares_54 (by decide) ?_ ?_
        · refine GE.iload_n 2 dX10_shares_61 rfl rfl ?_
          refine GE.aload_n 0 dX10_shares_62 rfl rfl ?_
          refine GE.iload_n 1 dX10_shares_63 rfl rfl ?_
          refine GE.callvI [.int px1] dX10_shares_64 (lV_X10_328) rfl ⟨rfl, rfl⟩ (rokb rfl) (gX10_seenBy t7 a0 px1) (fun x10 t11 => ?_)
          refine GE.callsI [.int x10] dX10_shares_67 (lT_X10_343) rfl ⟨rfl, rfl⟩ (rokb rfl) (gJ6_bitCount_0f7a4 t11 x10) (fun x12 t13 => ?_)
          refine GE.imul dX10_shares_70 ?_
          refine GE.iload_n 3 dX10_shares_71 rfl rfl ?_
          refine GE.idiv dX10_shares_72 ?_
          exact GE.iret dX10_shares_73 rfl (Nat.le_refl _) (Nat.le_refl _)
        · refine GE.iconst dX10_shares_57 kI_0 ?_
          refine GE.goto (tgt := 73) dX10_shares_58 (by decide) ?_
          exact GE.iret dX10_shares_73 rfl (Nat.le_refl _) (Nat.le_refl _)
      · refine GE.iload_n 3 dX10_shares_35 rfl rfl ?_
        refine GE.aload_n 0 dX10_shares_36 rfl rfl ?_
        refine GE.iload 4 dX10_shares_37 rfl ?_
        refine GE.callvI [.int x6] dX10_shares_39 (lV_X10_328) rfl ⟨rfl, rfl⟩ (rokb rfl) (gX10_seenBy t7 a0 x6) (fun x14 t15 => ?_)
        refine GE.callsI [.int x14] dX10_shares_42 (lT_X10_343) rfl ⟨rfl, rfl⟩ (rokb rfl) (gJ6_bitCount_0f7a4 t15 x14) (fun x16 t17 => ?_)
        refine GE.iadd dX10_shares_45 ?_
        refine GE.nami (fun x18 => ?_)
        refine GE.istore_n (lv' := [(0, .ref a0), (1, .int px1), (2, .int px2), (3, .int x18), (4, .int x6)]) dX10_shares_46 rfl (by decide) [1, 2, 3, 0, 4] rfl ?_
        refine GE.iinc (lv' := [(0, .ref a0), (1, .int px1), (2, .int px2), (3, .int x18), (4, .int (x6 + 1))]) 4 dX10_shares_47 rfl kI_1 (by decide) [1, 2, 3, 4, 0] rfl ?_
        refine GE.goto (tgt := 26) dX10_shares_50 (by decide) ?_
        exact hl8 x18 (x6 + 1) t17
    · refine GE.iconst dX10_shares_19 kI_m1 ?_
      exact GE.iret dX10_shares_20 rfl (Nat.le_refl _) (Nat.le_refl _)
def fX10_site (σ : St) (a0 : Nat) (px1 : Int32) (px2 : Int32) (px3 : Int32) : Option (Int32 × St) :=
  (gI 10 26 σ a0).bind fun x1 =>
  if x1 = 0 then
    some ((-1), σ)
  else
    bd (fX10_in σ px1 0 9) (fun x2 t3 =>
    if x2 = 0 then
      some ((-1), t3)
    else
      bd (fX10_in t3 px2 0 9) (fun x4 t5 =>
      if x4 = 0 then
        some ((-1), t5)
      else
        bd (fX10_in t5 px3 0 1) (fun x6 t7 =>
        if x6 = 0 then
          some ((-1), t7)
        else
          bo 10 t7 a0 (fX10_hid t7 a0) (fun x8 t9 =>
          lo4 (fun l14 (x10 : Int32) (x11 : Int32) (x12 : Int32) (t13 : St) =>
            (gI 10 26 t13 a0).bind fun x15 =>
          if x15 ≤ x12 then
            if px3 = 0 then
              some (x10, t13)
            else
              some (x11, t13)
          else
            lo3 (fun l19 (x16 : Int32) (x17 : Int32) (t18 : St) =>
              (gI 10 26 t18 a0).bind fun x20 =>
            if x20 ≤ x17 then
              jo2 (fun (x21 : Int32) (x22 : Int32) =>
                l14 x21 x22 (x12 + 1) t18) (fun j23 =>
                jo1 (fun (u23 : Unit) =>
                  j23 x12 x16) (fun j24 =>
                  if x10 = (-1) then
                    j24 () 
                  else
                    if x11 ≤ x16 then
                      j23 x10 x11
                    else
                      j24 () ))
            else
              bd (fX10_has t18 x8 x17) (fun x25 t26 =>
              jo3 (fun (v27 : Int32) (v28 : Int32) (t29 : St) =>
                nam (v28 + v27 : Int32) (fun x31 =>
                l19 x31 (x17 + 1) t29)) (fun j30 =>
                jo2 (fun (v32 : Int32) (t33 : St) =>
                  j30 0 v32 t33) (fun j34 =>
                  if x25 = 0 then
                    j34 x16 t26
                  else
                    (gR 10 28 t26 a0).bind fun a35 =>
                    (gR 10 28 t26 a0).bind fun a36 =>
                    (aI 0 t26 a36 (0 + x12)).bind fun x37 =>
                    (gR 10 28 t26 a0).bind fun a38 =>
                    (aI 0 t26 a38 39).bind fun x39 =>
                    bo 10 t26 a0 (fX10_isSeen t26 a0 a35 x12 (x37 + px1) px2 x39 x17) (fun x40 t41 =>
                    if x40 = 0 then
                      j30 1 x16 t41
                    else
                      j34 x16 t41))))) FU 0 0 t13) FU ((-1)) 0 0 t9))))
set_option maxHeartbeats 4000000 in
set_option maxRecDepth 100000 in
theorem gX10_site (σ : St) (a0 : Nat) (px1 : Int32) (px2 : Int32) (px3 : Int32) : CE vI mX10_site [.ref a0, .int px1, .int px2, .int px3] σ (fX10_site σ a0 px1 px2 px3) := by
  refine CE.ofGEF (lv := [(0, .ref a0), (1, .int px1), (2, .int px2), (3, .int px3)]) (by decide +kernel) (Nat.le_of_ble_eq_true rfl) rfl ?_
  unfold fX10_site
  refine GE.aload_n 0 dX10_site_0 rfl rfl ?_
  refine GE.gI dX10_site_1 lF_X10_264 (fun x1 => ?_)
  refine GE.if_eq (tgt := 36) dX10_site_4 (by decide) ?_ ?_
  · refine GE.iconst dX10_site_36 kI_m1 ?_
    exact GE.iret dX10_site_37 rfl (Nat.le_refl _) (Nat.le_refl _)
  · refine GE.iload_n 1 dX10_site_7 rfl rfl ?_
    refine GE.iconst dX10_site_8 kI_0 ?_
    refine GE.bipush dX10_site_9 kB_9 ?_
    refine GE.callsI [.int px1, .int 0, .int 9] dX10_site_11 (lT_X10_217) rfl ⟨rfl, rfl⟩ (rokb rfl) (gX10_in σ px1 0 9) (fun x2 t3 => ?_)
    refine GE.if_eq (tgt := 36) dX10_site_14 (by decide) ?_ ?_
    · refine GE.iconst dX10_site_36 kI_m1 ?_
      exact GE.iret dX10_site_37 rfl (Nat.le_refl _) (Nat.le_refl _)
    · refine GE.iload_n 2 dX10_site_17 rfl rfl ?_
      refine GE.iconst dX10_site_18 kI_0 ?_
      refine GE.bipush dX10_site_19 kB_9 ?_
      refine GE.callsI [.int px2, .int 0, .int 9] dX10_site_21 (lT_X10_217) rfl ⟨rfl, rfl⟩ (rokb rfl) (gX10_in t3 px2 0 9) (fun x4 t5 => ?_)
      refine GE.if_eq (tgt := 36) dX10_site_24 (by decide) ?_ ?_
      · refine GE.iconst dX10_site_36 kI_m1 ?_
        exact GE.iret dX10_site_37 rfl (Nat.le_refl _) (Nat.le_refl _)
      · refine GE.iload_n 3 dX10_site_27 rfl rfl ?_
        refine GE.iconst dX10_site_28 kI_0 ?_
        refine GE.iconst dX10_site_29 kI_1 ?_
        refine GE.callsI [.int px3, .int 0, .int 1] dX10_site_30 (lT_X10_217) rfl ⟨rfl, rfl⟩ (rokb rfl) (gX10_in t5 px3 0 1) (fun x6 t7 => ?_)
        refine GE.if_ne (tgt := 38) dX10_site_33 (by decide) ?_ ?_
        · refine GE.aload_n 0 dX10_site_38 rfl rfl ?_
          refine GE.callvI [] dX10_site_39 (lV_X10_348) rfl ⟨rfl, rfl⟩ (rokb rfl) (gX10_hid t7 a0) (fun x8 t9 => ?_)
          refine GE.istore (lv' := [(0, .ref a0), (1, .int px1), (2, .int px2), (3, .int px3), (4, .int x8)]) dX10_site_42 (by decide) [1, 2, 3, 4, 0] rfl ?_
          refine GE.iconst dX10_site_44 kI_m1 ?_
          refine GE.istore (lv' := [(0, .ref a0), (1, .int px1), (2, .int px2), (3, .int px3), (4, .int x8), (5, .int ((-1)))]) dX10_site_45 (by decide) [1, 2, 3, 4, 5, 0] rfl ?_
          refine GE.iconst dX10_site_47 kI_0 ?_
          refine GE.istore (lv' := [(0, .ref a0), (1, .int px1), (2, .int px2), (3, .int px3), (4, .int x8), (5, .int ((-1))), (6, .int 0)]) dX10_site_48 (by decide) [1, 2, 3, 4, 5, 6, 0] rfl ?_
          refine GE.iconst dX10_site_50 kI_0 ?_
          refine GE.istore (lv' := [(0, .ref a0), (1, .int px1), (2, .int px2), (3, .int px3), (4, .int x8), (5, .int ((-1))), (6, .int 0), (7, .int 0)]) dX10_site_51 (by decide) [1, 2, 3, 4, 5, 6, 7, 0] rfl ?_
          refine (GE.lo4 (fun (x10 : Int32) (x11 : Int32) (x12 : Int32) (t13 : St) => [(0, .ref a0), (1, .int px1), (2, .int px2), (3, .int px3), (4, .int x8), (5, .int x10), (6, .int x11), (7, .int x12)]) (fun (x10 : Int32) (x11 : Int32) (x12 : Int32) (t13 : St) => []) (fun (x10 : Int32) (x11 : Int32) (x12 : Int32) (t13 : St) => t13) (fun l14 hl14 x10 x11 x12 t13 => ?_) FU ((-1)) 0 0 t9)
          refine GE.iload 7 dX10_site_53 rfl ?_
          refine GE.aload_n 0 dX10_site_55 rfl rfl ?_
          refine GE.gI dX10_site_56 lF_X10_264 (fun x15 => ?_)
          refine GE.icmp_ge (tgt := 164) dX10_site_59 (by decide) ?_ ?_
          · refine GE.iload_n 3 dX10_site_164 rfl rfl ?_
            refine GE.if_ne (tgt := 173) dX10_site_165 (by decide) ?_ ?_
            · refine GE.iload 6 dX10_site_173 rfl ?_
              exact GE.iret dX10_site_175 rfl (Nat.le_refl _) (Nat.le_refl _)
            · refine GE.iload 5 dX10_site_168 rfl ?_
              refine GE.goto (tgt := 175) dX10_site_170 (by decide) ?_
              exact GE.iret dX10_site_175 rfl (Nat.le_refl _) (Nat.le_refl _)
          · refine GE.iconst dX10_site_62 kI_0 ?_
            refine GE.istore (lv' := [(0, .ref a0), (1, .int px1), (2, .int px2), (3, .int px3), (4, .int x8), (5, .int x10), (6, .int x11), (7, .int x12), (8, .int 0)]) dX10_site_63 (by decide) [1, 2, 3, 4, 5, 6, 7, 8, 0] rfl ?_
            refine GE.iconst dX10_site_65 kI_0 ?_
            refine GE.istore (lv' := [(0, .ref a0), (1, .int px1), (2, .int px2), (3, .int px3), (4, .int x8), (5, .int x10), (6, .int x11), (7, .int x12), (8, .int 0), (9, .int 0)]) dX10_site_66 (by decide) [1, 2, 3, 4, 5, 6, 7, 8, 9, 0] rfl ?_
            refine (GE.lo3 (fun (x16 : Int32) (x17 : Int32) (t18 : St) => [(0, .ref a0), (1, .int px1), (2, .int px2), (3, .int px3), (4, .int x8), (5, .int x10), (6, .int x11), (7, .int x12), (8, .int x16), (9, .int x17)]) (fun (x16 : Int32) (x17 : Int32) (t18 : St) => []) (fun (x16 : Int32) (x17 : Int32) (t18 : St) => t18) (fun l19 hl19 x16 x17 t18 => ?_) FU 0 0 t13)
            refine GE.iload 9 dX10_site_68 rfl ?_
            refine GE.aload_n 0 dX10_site_70 rfl rfl ?_
            refine GE.gI dX10_site_71 lF_X10_264 (fun x20 => ?_)
            refine GE.icmp_ge (tgt := 137) dX10_site_74 (by decide) ?_ ?_
            · refine GE.iload 5 dX10_site_137 rfl ?_
              refine GE.iconst dX10_site_139 kI_m1 ?_
              refine GE.jo2 158 (fun (x21 : Int32) (x22 : Int32) => [(0, .ref a0), (1, .int px1), (2, .int px2), (3, .int px3), (4, .int x8), (5, .int x21), (6, .int x22), (7, .int x12)]) (fun (x21 : Int32) (x22 : Int32) => []) (fun (x21 : Int32) (x22 : Int32) => t18) (fun x21 x22 => ?_) (fun j23 hj23 => ?_)
              · refine GE.iinc (lv' := [(0, .ref a0), (1, .int px1), (2, .int px2), (3, .int px3), (4, .int x8), (5, .int x21), (6, .int x22), (7, .int (x12 + 1))]) 7 dX10_site_158 rfl kI_1 (by decide) [1, 2, 3, 4, 5, 6, 7, 0] rfl ?_
                refine GE.goto (tgt := 53) dX10_site_161 (by decide) ?_
                exact hl14 x21 x22 (x12 + 1) t18
              · refine GE.jo1 150 (fun (u23 : Unit) => [(0, .ref a0), (1, .int px1), (2, .int px2), (3, .int px3), (4, .int x8), (7, .int x12), (8, .int x16)]) (fun (u23 : Unit) => []) (fun (u23 : Unit) => t18) (fun u23 => ?_) (fun j24 hj24 => ?_)
                · refine GE.iload 5 dX10_site_150 rfl ?_
                  refine GE.istore (lv' := [(0, .ref a0), (1, .int px1), (2, .int px2), (3, .int px3), (4, .int x8), (5, .int x12), (7, .int x12), (8, .int x16)]) dX10_site_152 (by decide) [1, 2, 3, 4, 5, 0, 6, 7] rfl ?_
                  refine GE.iload 7 dX10_site_154 rfl ?_
                  refine GE.istore (lv' := [(0, .ref a0), (1, .int px1), (2, .int px2), (3, .int px3), (4, .int x8), (5, .int x12), (6, .int x16), (7, .int x12), (8, .int x16)]) dX10_site_156 (by decide) [1, 2, 3, 4, 5, 6, 0, 7, 8] rfl ?_
                  exact GE.sub [0, 1, 2, 3, 4, 5, 6, 7] rfl (hj23 x12 x16)
                · refine GE.icmp_eq (tgt := 150) dX10_site_140 (by decide) ?_ ?_
                  · exact GE.sub [0, 1, 2, 3, 4, 7, 8] rfl (hj24 () )
                  · refine GE.iload 8 dX10_site_143 rfl ?_
                    refine GE.iload 6 dX10_site_145 rfl ?_
                    refine GE.icmp_ge (tgt := 158) dX10_site_147 (by decide) ?_ ?_
                    · exact GE.sub [0, 1, 2, 3, 4, 5, 6, 7] rfl (hj23 x10 x11)
                    · exact GE.sub [0, 1, 2, 3, 4, 7, 8] rfl (hj24 () )
            · refine GE.iload 8 dX10_site_77 rfl ?_
              refine GE.iload 4 dX10_site_79 rfl ?_
              refine GE.iload 9 dX10_site_81 rfl ?_
              refine GE.callsI [.int x8, .int x17] dX10_site_83 (lT_X10_228) rfl ⟨rfl, rfl⟩ (rokb rfl) (gX10_has t18 x8 x17) (fun x25 t26 => ?_)
              refine GE.jo3 128 (fun (v27 : Int32) (v28 : Int32) (t29 : St) => [(0, .ref a0), (1, .int px1), (2, .int px2), (3, .int px3), (4, .int x8), (5, .int x10), (6, .int x11), (7, .int x12), (9, .int x17)]) (fun (v27 : Int32) (v28 : Int32) (t29 : St) => [.int v27, .int v28]) (fun (v27 : Int32) (v28 : Int32) (t29 : St) => t29) (fun v27 v28 t29 => ?_) (fun j30 hj30 => ?_)
              · refine GE.iadd dX10_site_128 ?_
                refine GE.nami (fun x31 => ?_)
                refine GE.istore (lv' := [(0, .ref a0), (1, .int px1), (2, .int px2), (3, .int px3), (4, .int x8), (5, .int x10), (6, .int x11), (7, .int x12), (8, .int x31), (9, .int x17)]) dX10_site_129 (by decide) [1, 2, 3, 4, 5, 6, 7, 8, 0, 9] rfl ?_
                refine GE.iinc (lv' := [(0, .ref a0), (1, .int px1), (2, .int px2), (3, .int px3), (4, .int x8), (5, .int x10), (6, .int x11), (7, .int x12), (8, .int x31), (9, .int (x17 + 1))]) 9 dX10_site_131 rfl kI_1 (by decide) [1, 2, 3, 4, 5, 6, 7, 8, 9, 0] rfl ?_
                refine GE.goto (tgt := 68) dX10_site_134 (by decide) ?_
                exact hl19 x31 (x17 + 1) t29
              · refine GE.jo2 127 (fun (v32 : Int32) (t33 : St) => [(0, .ref a0), (1, .int px1), (2, .int px2), (3, .int px3), (4, .int x8), (5, .int x10), (6, .int x11), (7, .int x12), (9, .int x17)]) (fun (v32 : Int32) (t33 : St) => [.int v32]) (fun (v32 : Int32) (t33 : St) => t33) (fun v32 t33 => ?_) (fun j34 hj34 => ?_)
                · refine GE.iconst dX10_site_127 kI_0 ?_
                  exact hj30 0 v32 t33
                · refine GE.if_eq (tgt := 127) dX10_site_86 (by decide) ?_ ?_
                  · exact GE.sub [0, 1, 2, 3, 4, 5, 6, 7, 9] rfl (hj34 x16 t26)
                  · refine GE.aload_n 0 dX10_site_89 rfl rfl ?_
                    refine GE.aload_n 0 dX10_site_90 rfl rfl ?_
                    refine GE.gR dX10_site_91 lF_X10_61 (fun a35 => ?_)
                    refine GE.iload 7 dX10_site_94 rfl ?_
                    refine GE.aload_n 0 dX10_site_96 rfl rfl ?_
                    refine GE.gR dX10_site_97 lF_X10_61 (fun a36 => ?_)
                    refine GE.iconst dX10_site_100 kI_0 ?_
                    refine GE.iload 7 dX10_site_101 rfl ?_
                    refine GE.iadd dX10_site_103 ?_
                    refine GE.iald dX10_site_104 (fun x37 => ?_)
                    refine GE.iload_n 1 dX10_site_105 rfl rfl ?_
                    refine GE.iadd dX10_site_106 ?_
                    refine GE.iload_n 2 dX10_site_107 rfl rfl ?_
                    refine GE.aload_n 0 dX10_site_108 rfl rfl ?_
                    refine GE.gR dX10_site_109 lF_X10_61 (fun a38 => ?_)
                    refine GE.bipush dX10_site_112 kB_39 ?_
                    refine GE.iald dX10_site_114 (fun x39 => ?_)
                    refine GE.iload 9 dX10_site_115 rfl ?_
                    refine GE.callvI [.ref a35, .int x12, .int (x37 + px1), .int px2, .int x39, .int x17] dX10_site_117 (lV_X10_321) rfl ⟨rfl, rfl⟩ (rokb rfl) (gX10_isSeen t26 a0 a35 x12 (x37 + px1) px2 x39 x17) (fun x40 t41 => ?_)
                    refine GE.if_ne (tgt := 127) dX10_site_120 (by decide) ?_ ?_
                    · exact GE.sub [0, 1, 2, 3, 4, 5, 6, 7, 9] rfl (hj34 x16 t41)
                    · refine GE.iconst dX10_site_123 kI_1 ?_
                      refine GE.goto (tgt := 128) dX10_site_124 (by decide) ?_
                      exact GE.sub [0, 1, 2, 3, 4, 5, 6, 7, 9] rfl (hj30 1 x16 t41)
        · refine GE.iconst dX10_site_36 kI_m1 ?_
          exact GE.iret dX10_site_37 rfl (Nat.le_refl _) (Nat.le_refl _)
def fX10_status (σ : St) (a0 : Nat) (px1 : Int32) : Option (Int32 × St) :=
  bd (fX10_in σ px1 0 4) (fun x1 t2 =>
  if x1 = 0 then
    some ((-1), t2)
  else
    (gR 10 29 t2 a0).bind fun a3 =>
    (aI 0 t2 a3 px1).bind fun x4 =>
    some (x4, t2))
set_option maxHeartbeats 4000000 in
set_option maxRecDepth 100000 in
theorem gX10_status (σ : St) (a0 : Nat) (px1 : Int32) : CE vI mX10_status [.ref a0, .int px1] σ (fX10_status σ a0 px1) := by
  refine CE.ofGEF (lv := [(0, .ref a0), (1, .int px1)]) (by decide +kernel) (Nat.le_of_ble_eq_true rfl) rfl ?_
  unfold fX10_status
  refine GE.iload_n 1 dX10_status_0 rfl rfl ?_
  refine GE.iconst dX10_status_1 kI_0 ?_
  refine GE.iconst dX10_status_2 kI_4 ?_
  refine GE.callsI [.int px1, .int 0, .int 4] dX10_status_3 (lT_X10_217) rfl ⟨rfl, rfl⟩ (rokb rfl) (gX10_in σ px1 0 4) (fun x1 t2 => ?_)
  refine GE.if_eq (tgt := 18) dX10_status_6 (by decide) ?_ ?_
  · refine GE.iconst dX10_status_18 kI_m1 ?_
    exact GE.iret dX10_status_19 rfl (Nat.le_refl _) (Nat.le_refl _)
  · refine GE.aload_n 0 dX10_status_9 rfl rfl ?_
    refine GE.gR dX10_status_10 lF_X10_64 (fun a3 => ?_)
    refine GE.iload_n 1 dX10_status_13 rfl rfl ?_
    refine GE.iald dX10_status_14 (fun x4 => ?_)
    refine GE.goto (tgt := 19) dX10_status_15 (by decide) ?_
    exact GE.iret dX10_status_19 rfl (Nat.le_refl _) (Nat.le_refl _)
def fX10_takeLand (σ : St) (a0 : Nat) : Option (Int32 × St) :=
  (gI 10 22 σ a0).bind fun x1 =>
  (pV 10 27 σ a0 (.int x1)).bind (fun t2 =>
  lo2 (fun l5 (x3 : Int32) (t4 : St) =>
    if 4 ≤ x3 then
    (gR 10 23 t4 a0).bind fun a6 =>
    (aI 0 t4 a6 0).bind fun x7 =>
    (gR 10 23 t4 a0).bind fun a8 =>
    (aI 0 t4 a8 1).bind fun x9 =>
    (pV 10 26 t4 a0 (.int (x7 * x9))).bind (fun t10 =>
    lo2 (fun l13 (x11 : Int32) (t12 : St) =>
      if 16 ≤ x11 then
      lo2 (fun l16 (x14 : Int32) (t15 : St) =>
        if 223 ≤ x14 then
        lo2 (fun l19 (x17 : Int32) (t18 : St) =>
          if 30 ≤ x17 then
          lo2 (fun l22 (x20 : Int32) (t21 : St) =>
            (gI 10 27 t21 a0).bind fun x23 =>
          if x23 ≤ x20 then
            (gR 10 28 t21 a0).bind fun a24 =>
            (gR 10 23 t21 a0).bind fun a25 =>
            (aI 0 t21 a25 3).bind fun x26 =>
            (sI 0 t21 a24 39 x26).bind (fun t27 =>
            (gR 10 28 t27 a0).bind fun a28 =>
            (gR 10 23 t27 a0).bind fun a29 =>
            (aI 0 t27 a29 2).bind fun x30 =>
            (sI 0 t27 a28 40 x30).bind (fun t31 =>
            (pV 10 40 t31 a0 (.int 0)).bind (fun t32 =>
            (pV 10 43 t32 a0 (.int 0)).bind (fun t33 =>
            (pV 10 33 t33 a0 (.int 0)).bind (fun t34 =>
            if zB 0 = true then (pV 10 45 t34 a0 (.int 0)).bind (fun t35 =>
            (gI 10 26 t35 a0).bind fun x36 =>
            some (x36, t35)) else none)))))
          else
            (gR 10 28 t21 a0).bind fun a37 =>
            bo 10 t21 a0 (fX10_firstSpot t21 a0 x20) (fun x38 t39 =>
            (sI 0 t39 a37 (30 + x20) x38).bind (fun t40 =>
            (gR 10 28 t40 a0).bind fun a41 =>
            (gR 10 25 t40 a0).bind fun a42 =>
            (aI 0 t40 a42 ((4 * x20) + 2)).bind fun x43 =>
            (sI 0 t40 a41 (34 + x20) x43).bind (fun t44 =>
            l22 (x20 + 1) t44)))) FU 0 t18
        else
          (gI 10 26 t18 a0).bind fun x45 =>
          jo1 (fun (v46 : Int32) =>
            (gR 10 24 t18 a0).bind fun a48 =>
            jo3 (fun (v49 : Int32) (v50 : Int32) (v51 : Nat) =>
              (sI 0 t18 v51 v50 v49).bind (fun t53 =>
              (gR 10 28 t53 a0).bind fun a54 =>
              (gR 10 24 t53 a0).bind fun a55 =>
              (aI 0 t53 a55 x17).bind fun x56 =>
              (sI 0 t53 a54 (0 + x17) x56).bind (fun t57 =>
              l19 (x17 + 1) t57))) (fun j52 =>
              if v46 = 0 then
                j52 0 x17 a48
              else
                (gR 10 18 t18 a0).bind fun a58 =>
                (gR 10 23 t18 a0).bind fun a59 =>
                (aI 0 t18 a59 0).bind fun x60 =>
                if x60 = 0 then none else
                (gR 10 23 t18 a0).bind fun a61 =>
                (aI 0 t18 a61 0).bind fun x62 =>
                if x62 = 0 then none else
                (aI 0 t18 a58 ((6 * (x17 / x60)) + (x17 - x17 / x62 * x62))).bind fun x63 =>
                j52 x63 x17 a48)) (fun j47 =>
            jo1 (fun (u63 : Unit) =>
              j47 0) (fun j64 =>
              if x45 ≤ x17 then
                j64 () 
              else
                (gR 10 23 t18 a0).bind fun a65 =>
                (aI 0 t18 a65 0).bind fun x66 =>
                if x66 = 0 then none else
                (gI 10 21 t18 a0).bind fun x67 =>
                if x67 ≤ x17 / x66 then
                  j64 () 
                else
                  j47 1))) FU 0 t15
      else
        (gR 10 28 t15 a0).bind fun a68 =>
        (sI 0 t15 a68 x14 0).bind (fun t69 =>
        l16 (x14 + 1) t69)) FU 0 t12
    else
      (gR 10 25 t12 a0).bind fun a70 =>
      (gR 10 20 t12 a0).bind fun a71 =>
      (aI 0 t12 a71 x11).bind fun x72 =>
      (sI 0 t12 a70 x11 x72).bind (fun t73 =>
      l13 (x11 + 1) t73)) FU 0 t10)
  else
    (gR 10 23 t4 a0).bind fun a74 =>
    (gR 10 17 t4 a0).bind fun a75 =>
    (aI 0 t4 a75 x3).bind fun x76 =>
    (sI 0 t4 a74 x3 x76).bind (fun t77 =>
    l5 (x3 + 1) t77)) FU 0 t2)
set_option maxHeartbeats 4000000 in
set_option maxRecDepth 100000 in
theorem gX10_takeLand (σ : St) (a0 : Nat) : CE vI mX10_takeLand [.ref a0] σ (fX10_takeLand σ a0) := by
  refine CE.ofGEF (lv := [(0, .ref a0)]) (by decide +kernel) (Nat.le_of_ble_eq_true rfl) rfl ?_
  unfold fX10_takeLand
  refine GE.aload_n 0 dX10_takeLand_0 rfl rfl ?_
  refine GE.aload_n 0 dX10_takeLand_1 rfl rfl ?_
  refine GE.gI dX10_takeLand_2 lF_X10_241 (fun x1 => ?_)
  refine GE.pI dX10_takeLand_5 lF_X10_261 (fun t2 => ?_)
  refine GE.iconst dX10_takeLand_8 kI_0 ?_
  refine GE.istore_n (lv' := [(0, .ref a0), (1, .int 0)]) dX10_takeLand_9 rfl (by decide) [1, 0] rfl ?_
  refine (GE.lo2 (fun (x3 : Int32) (t4 : St) => [(0, .ref a0), (1, .int x3)]) (fun (x3 : Int32) (t4 : St) => []) (fun (x3 : Int32) (t4 : St) => t4) (fun l5 hl5 x3 t4 => ?_) FU 0 t2)
  refine GE.iload_n 1 dX10_takeLand_10 rfl rfl ?_
  refine GE.iconst dX10_takeLand_11 kI_4 ?_
  refine GE.icmp_ge (tgt := 33) dX10_takeLand_12 (by decide) ?_ ?_
  · refine GE.aload_n 0 dX10_takeLand_33 rfl rfl ?_
    refine GE.aload_n 0 dX10_takeLand_34 rfl rfl ?_
    refine GE.gR dX10_takeLand_35 lF_X10_52 (fun a6 => ?_)
    refine GE.iconst dX10_takeLand_38 kI_0 ?_
    refine GE.iald dX10_takeLand_39 (fun x7 => ?_)
    refine GE.aload_n 0 dX10_takeLand_40 rfl rfl ?_
    refine GE.gR dX10_takeLand_41 lF_X10_52 (fun a8 => ?_)
    refine GE.iconst dX10_takeLand_44 kI_1 ?_
    refine GE.iald dX10_takeLand_45 (fun x9 => ?_)
    refine GE.imul dX10_takeLand_46 ?_
    refine GE.pI dX10_takeLand_47 lF_X10_264 (fun t10 => ?_)
    refine GE.iconst dX10_takeLand_50 kI_0 ?_
    refine GE.istore_n (lv' := [(0, .ref a0), (1, .int 0)]) dX10_takeLand_51 rfl (by decide) [1, 0] rfl ?_
    refine (GE.lo2 (fun (x11 : Int32) (t12 : St) => [(0, .ref a0), (1, .int x11)]) (fun (x11 : Int32) (t12 : St) => []) (fun (x11 : Int32) (t12 : St) => t12) (fun l13 hl13 x11 t12 => ?_) FU 0 t10)
    refine GE.iload_n 1 dX10_takeLand_52 rfl rfl ?_
    refine GE.bipush dX10_takeLand_53 kB_16 ?_
    refine GE.icmp_ge (tgt := 76) dX10_takeLand_55 (by decide) ?_ ?_
    · refine GE.iconst dX10_takeLand_76 kI_0 ?_
      refine GE.istore_n (lv' := [(0, .ref a0), (1, .int 0)]) dX10_takeLand_77 rfl (by decide) [1, 0] rfl ?_
      refine (GE.lo2 (fun (x14 : Int32) (t15 : St) => [(0, .ref a0), (1, .int x14)]) (fun (x14 : Int32) (t15 : St) => []) (fun (x14 : Int32) (t15 : St) => t15) (fun l16 hl16 x14 t15 => ?_) FU 0 t12)
      refine GE.iload_n 1 dX10_takeLand_78 rfl rfl ?_
      refine GE.sipush dX10_takeLand_79 kS_223 ?_
      refine GE.icmp_ge (tgt := 98) dX10_takeLand_82 (by decide) ?_ ?_
      · refine GE.iconst dX10_takeLand_98 kI_0 ?_
        refine GE.istore_n (lv' := [(0, .ref a0), (1, .int 0)]) dX10_takeLand_99 rfl (by decide) [1, 0] rfl ?_
        refine (GE.lo2 (fun (x17 : Int32) (t18 : St) => [(0, .ref a0), (1, .int x17)]) (fun (x17 : Int32) (t18 : St) => []) (fun (x17 : Int32) (t18 : St) => t18) (fun l19 hl19 x17 t18 => ?_) FU 0 t15)
        refine GE.iload_n 1 dX10_takeLand_100 rfl rfl ?_
        refine GE.bipush dX10_takeLand_101 kB_30 ?_
        refine GE.icmp_ge (tgt := 194) dX10_takeLand_103 (by decide) ?_ ?_
        · refine GE.iconst dX10_takeLand_194 kI_0 ?_
          refine GE.istore_n (lv' := [(0, .ref a0), (1, .int 0)]) dX10_takeLand_195 rfl (by decide) [1, 0] rfl ?_
          refine (GE.lo2 (fun (x20 : Int32) (t21 : St) => [(0, .ref a0), (1, .int x20)]) (fun (x20 : Int32) (t21 : St) => []) (fun (x20 : Int32) (t21 : St) => t21) (fun l22 hl22 x20 t21 => ?_) FU 0 t18)
          refine GE.iload_n 1 dX10_takeLand_196 rfl rfl ?_
          refine GE.aload_n 0 dX10_takeLand_197 rfl rfl ?_
          refine GE.gI dX10_takeLand_198 lF_X10_261 (fun x23 => ?_)
          refine GE.icmp_ge (tgt := 243) dX10_takeLand_201 (by decide) ?_ ?_
          · refine GE.aload_n 0 dX10_takeLand_243 rfl rfl ?_
            refine GE.gR dX10_takeLand_244 lF_X10_61 (fun a24 => ?_)
            refine GE.bipush dX10_takeLand_247 kB_39 ?_
            refine GE.aload_n 0 dX10_takeLand_249 rfl rfl ?_
            refine GE.gR dX10_takeLand_250 lF_X10_52 (fun a25 => ?_)
            refine GE.iconst dX10_takeLand_253 kI_3 ?_
            refine GE.iald dX10_takeLand_254 (fun x26 => ?_)
            refine GE.iast dX10_takeLand_255 (fun t27 => ?_)
            refine GE.aload_n 0 dX10_takeLand_256 rfl rfl ?_
            refine GE.gR dX10_takeLand_257 lF_X10_61 (fun a28 => ?_)
            refine GE.bipush dX10_takeLand_260 kB_40 ?_
            refine GE.aload_n 0 dX10_takeLand_262 rfl rfl ?_
            refine GE.gR dX10_takeLand_263 lF_X10_52 (fun a29 => ?_)
            refine GE.iconst dX10_takeLand_266 kI_2 ?_
            refine GE.iald dX10_takeLand_267 (fun x30 => ?_)
            refine GE.iast dX10_takeLand_268 (fun t31 => ?_)
            refine GE.aload_n 0 dX10_takeLand_269 rfl rfl ?_
            refine GE.iconst dX10_takeLand_270 kI_0 ?_
            refine GE.pI dX10_takeLand_271 lF_X10_270 (fun t32 => ?_)
            refine GE.aload_n 0 dX10_takeLand_274 rfl rfl ?_
            refine GE.iconst dX10_takeLand_275 kI_0 ?_
            refine GE.pI dX10_takeLand_276 lF_X10_273 (fun t33 => ?_)
            refine GE.aload_n 0 dX10_takeLand_279 rfl rfl ?_
            refine GE.iconst dX10_takeLand_280 kI_0 ?_
            refine GE.pI dX10_takeLand_281 lF_X10_276 (fun t34 => ?_)
            refine GE.aload_n 0 dX10_takeLand_284 rfl rfl ?_
            refine GE.iconst dX10_takeLand_285 kI_0 ?_
            refine GE.pZ dX10_takeLand_286 lF_X10_279 (fun t35 => ?_)
            refine GE.aload_n 0 dX10_takeLand_289 rfl rfl ?_
            refine GE.gI dX10_takeLand_290 lF_X10_264 (fun x36 => ?_)
            exact GE.iret dX10_takeLand_293 rfl (Nat.le_refl _) (Nat.le_refl _)
          · refine GE.aload_n 0 dX10_takeLand_204 rfl rfl ?_
            refine GE.gR dX10_takeLand_205 lF_X10_61 (fun a37 => ?_)
            refine GE.bipush dX10_takeLand_208 kB_30 ?_
            refine GE.iload_n 1 dX10_takeLand_210 rfl rfl ?_
            refine GE.iadd dX10_takeLand_211 ?_
            refine GE.aload_n 0 dX10_takeLand_212 rfl rfl ?_
            refine GE.iload_n 1 dX10_takeLand_213 rfl rfl ?_
            refine GE.callvI [.int x20] dX10_takeLand_214 (lV_X10_267) rfl ⟨rfl, rfl⟩ (rokb rfl) (gX10_firstSpot t21 a0 x20) (fun x38 t39 => ?_)
            refine GE.iast dX10_takeLand_217 (fun t40 => ?_)
            refine GE.aload_n 0 dX10_takeLand_218 rfl rfl ?_
            refine GE.gR dX10_takeLand_219 lF_X10_61 (fun a41 => ?_)
            refine GE.bipush dX10_takeLand_222 kB_34 ?_
            refine GE.iload_n 1 dX10_takeLand_224 rfl rfl ?_
            refine GE.iadd dX10_takeLand_225 ?_
            refine GE.aload_n 0 dX10_takeLand_226 rfl rfl ?_
            refine GE.gR dX10_takeLand_227 lF_X10_58 (fun a42 => ?_)
            refine GE.iconst dX10_takeLand_230 kI_4 ?_
            refine GE.iload_n 1 dX10_takeLand_231 rfl rfl ?_
            refine GE.imul dX10_takeLand_232 ?_
            refine GE.iconst dX10_takeLand_233 kI_2 ?_
            refine GE.iadd dX10_takeLand_234 ?_
            refine GE.iald dX10_takeLand_235 (fun x43 => ?_)
            refine GE.iast dX10_takeLand_236 (fun t44 => ?_)
            refine GE.iinc (lv' := [(0, .ref a0), (1, .int (x20 + 1))]) 1 dX10_takeLand_237 rfl kI_1 (by decide) [1, 0] rfl ?_
            refine GE.goto (tgt := 196) dX10_takeLand_240 (by decide) ?_
            exact hl22 (x20 + 1) t44
        · refine GE.iload_n 1 dX10_takeLand_106 rfl rfl ?_
          refine GE.aload_n 0 dX10_takeLand_107 rfl rfl ?_
          refine GE.gI dX10_takeLand_108 lF_X10_264 (fun x45 => ?_)
          refine GE.jo1 134 (fun (v46 : Int32) => [(0, .ref a0), (1, .int x17)]) (fun (v46 : Int32) => [.int v46]) (fun (v46 : Int32) => t18) (fun v46 => ?_) (fun j47 hj47 => ?_)
          · refine GE.istore_n (lv' := [(0, .ref a0), (1, .int x17), (2, .int v46)]) dX10_takeLand_134 rfl (by decide) [1, 2, 0] rfl ?_
            refine GE.aload_n 0 dX10_takeLand_135 rfl rfl ?_
            refine GE.gR dX10_takeLand_136 lF_X10_55 (fun a48 => ?_)
            refine GE.iload_n 1 dX10_takeLand_139 rfl rfl ?_
            refine GE.iload_n 2 dX10_takeLand_140 rfl rfl ?_
            refine GE.jo3 173 (fun (v49 : Int32) (v50 : Int32) (v51 : Nat) => [(0, .ref a0), (1, .int x17)]) (fun (v49 : Int32) (v50 : Int32) (v51 : Nat) => [.int v49, .int v50, .ref v51]) (fun (v49 : Int32) (v50 : Int32) (v51 : Nat) => t18) (fun v49 v50 v51 => ?_) (fun j52 hj52 => ?_)
            · refine GE.iast dX10_takeLand_173 (fun t53 => ?_)
              refine GE.aload_n 0 dX10_takeLand_174 rfl rfl ?_
              refine GE.gR dX10_takeLand_175 lF_X10_61 (fun a54 => ?_)
              refine GE.iconst dX10_takeLand_178 kI_0 ?_
              refine GE.iload_n 1 dX10_takeLand_179 rfl rfl ?_
              refine GE.iadd dX10_takeLand_180 ?_
              refine GE.aload_n 0 dX10_takeLand_181 rfl rfl ?_
              refine GE.gR dX10_takeLand_182 lF_X10_55 (fun a55 => ?_)
              refine GE.iload_n 1 dX10_takeLand_185 rfl rfl ?_
              refine GE.iald dX10_takeLand_186 (fun x56 => ?_)
              refine GE.iast dX10_takeLand_187 (fun t57 => ?_)
              refine GE.iinc (lv' := [(0, .ref a0), (1, .int (x17 + 1))]) 1 dX10_takeLand_188 rfl kI_1 (by decide) [1, 0] rfl ?_
              refine GE.goto (tgt := 100) dX10_takeLand_191 (by decide) ?_
              exact hl19 (x17 + 1) t57
            · refine GE.if_eq (tgt := 172) dX10_takeLand_141 (by decide) ?_ ?_
              · refine GE.iconst dX10_takeLand_172 kI_0 ?_
                exact GE.sub [0, 1] rfl (hj52 0 x17 a48)
              · refine GE.aload_n 0 dX10_takeLand_144 rfl rfl ?_
                refine GE.gR dX10_takeLand_145 lF_X10_43 (fun a58 => ?_)
                refine GE.bipush dX10_takeLand_148 kB_6 ?_
                refine GE.iload_n 1 dX10_takeLand_150 rfl rfl ?_
                refine GE.aload_n 0 dX10_takeLand_151 rfl rfl ?_
                refine GE.gR dX10_takeLand_152 lF_X10_52 (fun a59 => ?_)
                refine GE.iconst dX10_takeLand_155 kI_0 ?_
                refine GE.iald dX10_takeLand_156 (fun x60 => ?_)
                refine GE.idiv dX10_takeLand_157 ?_
                refine GE.imul dX10_takeLand_158 ?_
                refine GE.iload_n 1 dX10_takeLand_159 rfl rfl ?_
                refine GE.aload_n 0 dX10_takeLand_160 rfl rfl ?_
                refine GE.gR dX10_takeLand_161 lF_X10_52 (fun a61 => ?_)
                refine GE.iconst dX10_takeLand_164 kI_0 ?_
                refine GE.iald dX10_takeLand_165 (fun x62 => ?_)
                refine GE.irem dX10_takeLand_166 ?_
                refine GE.iadd dX10_takeLand_167 ?_
                refine GE.iald dX10_takeLand_168 (fun x63 => ?_)
                refine GE.goto (tgt := 173) dX10_takeLand_169 (by decide) ?_
                exact GE.sub [0, 1] rfl (hj52 x63 x17 a48)
          · refine GE.jo1 133 (fun (u63 : Unit) => [(0, .ref a0), (1, .int x17)]) (fun (u63 : Unit) => []) (fun (u63 : Unit) => t18) (fun u63 => ?_) (fun j64 hj64 => ?_)
            · refine GE.iconst dX10_takeLand_133 kI_0 ?_
              exact hj47 0
            · refine GE.icmp_ge (tgt := 133) dX10_takeLand_111 (by decide) ?_ ?_
              · exact hj64 () 
              · refine GE.iload_n 1 dX10_takeLand_114 rfl rfl ?_
                refine GE.aload_n 0 dX10_takeLand_115 rfl rfl ?_
                refine GE.gR dX10_takeLand_116 lF_X10_52 (fun a65 => ?_)
                refine GE.iconst dX10_takeLand_119 kI_0 ?_
                refine GE.iald dX10_takeLand_120 (fun x66 => ?_)
                refine GE.idiv dX10_takeLand_121 ?_
                refine GE.aload_n 0 dX10_takeLand_122 rfl rfl ?_
                refine GE.gI dX10_takeLand_123 lF_X10_238 (fun x67 => ?_)
                refine GE.icmp_ge (tgt := 133) dX10_takeLand_126 (by decide) ?_ ?_
                · exact hj64 () 
                · refine GE.iconst dX10_takeLand_129 kI_1 ?_
                  refine GE.goto (tgt := 134) dX10_takeLand_130 (by decide) ?_
                  exact hj47 1
      · refine GE.aload_n 0 dX10_takeLand_85 rfl rfl ?_
        refine GE.gR dX10_takeLand_86 lF_X10_61 (fun a68 => ?_)
        refine GE.iload_n 1 dX10_takeLand_89 rfl rfl ?_
        refine GE.iconst dX10_takeLand_90 kI_0 ?_
        refine GE.iast dX10_takeLand_91 (fun t69 => ?_)
        refine GE.iinc (lv' := [(0, .ref a0), (1, .int (x14 + 1))]) 1 dX10_takeLand_92 rfl kI_1 (by decide) [1, 0] rfl ?_
        refine GE.goto (tgt := 78) dX10_takeLand_95 (by decide) ?_
        exact hl16 (x14 + 1) t69
    · refine GE.aload_n 0 dX10_takeLand_58 rfl rfl ?_
      refine GE.gR dX10_takeLand_59 lF_X10_58 (fun a70 => ?_)
      refine GE.iload_n 1 dX10_takeLand_62 rfl rfl ?_
      refine GE.aload_n 0 dX10_takeLand_63 rfl rfl ?_
      refine GE.gR dX10_takeLand_64 lF_X10_49 (fun a71 => ?_)
      refine GE.iload_n 1 dX10_takeLand_67 rfl rfl ?_
      refine GE.iald dX10_takeLand_68 (fun x72 => ?_)
      refine GE.iast dX10_takeLand_69 (fun t73 => ?_)
      refine GE.iinc (lv' := [(0, .ref a0), (1, .int (x11 + 1))]) 1 dX10_takeLand_70 rfl kI_1 (by decide) [1, 0] rfl ?_
      refine GE.goto (tgt := 52) dX10_takeLand_73 (by decide) ?_
      exact hl13 (x11 + 1) t73
  · refine GE.aload_n 0 dX10_takeLand_15 rfl rfl ?_
    refine GE.gR dX10_takeLand_16 lF_X10_52 (fun a74 => ?_)
    refine GE.iload_n 1 dX10_takeLand_19 rfl rfl ?_
    refine GE.aload_n 0 dX10_takeLand_20 rfl rfl ?_
    refine GE.gR dX10_takeLand_21 lF_X10_40 (fun a75 => ?_)
    refine GE.iload_n 1 dX10_takeLand_24 rfl rfl ?_
    refine GE.iald dX10_takeLand_25 (fun x76 => ?_)
    refine GE.iast dX10_takeLand_26 (fun t77 => ?_)
    refine GE.iinc (lv' := [(0, .ref a0), (1, .int (x3 + 1))]) 1 dX10_takeLand_27 rfl kI_1 (by decide) [1, 0] rfl ?_
    refine GE.goto (tgt := 10) dX10_takeLand_30 (by decide) ?_
    exact hl5 (x3 + 1) t77
