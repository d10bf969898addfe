def fX10_bad (σ : St) (a0 : Nat) : Option (Unit × St) :=
  (gI 10 4 σ a0).bind fun x1 =>
  if x1 = (-1) then
    (gI 10 3 σ a0).bind fun x4 =>
    (pV 10 4 σ a0 (.int x4)).bind (fun t5 =>
    some ((), t5))
  else
    (gI 10 4 σ a0).bind fun x2 =>
    (pV 10 4 σ a0 (.int x2)).bind (fun t3 =>
    some ((), t3))
set_option maxHeartbeats 4000000 in
set_option maxRecDepth 100000 in
theorem gX10_bad (σ : St) (a0 : Nat) : CE vU mX10_bad [.ref a0] σ (fX10_bad σ a0) := by
  refine CE.ofGEF (lv := [(0, .ref a0)]) (by decide +kernel) (Nat.le_of_ble_eq_true rfl) rfl ?_
  unfold fX10_bad
  refine GE.aload_n 0 dX10_bad_0 rfl rfl ?_
  refine GE.aload_n 0 dX10_bad_1 rfl rfl ?_
  refine GE.gI dX10_bad_2 lF_X10_119 (fun x1 => ?_)
  refine GE.iconst dX10_bad_5 kI_m1 ?_
  refine GE.icmp_ne (tgt := 16) dX10_bad_6 (by decide) ?_ ?_
  · refine GE.aload_n 0 dX10_bad_16 rfl rfl ?_
    refine GE.gI dX10_bad_17 lF_X10_119 (fun x2 => ?_)
    refine GE.pI dX10_bad_20 lF_X10_119 (fun t3 => ?_)
    exact GE.vret (x := ()) dX10_bad_23 rfl (Nat.le_refl _) (Nat.le_refl _)
  · refine GE.aload_n 0 dX10_bad_9 rfl rfl ?_
    refine GE.gI dX10_bad_10 lF_X10_112 (fun x4 => ?_)
    refine GE.goto (tgt := 20) dX10_bad_13 (by decide) ?_
    refine GE.pI dX10_bad_20 lF_X10_119 (fun t5 => ?_)
    exact GE.vret (x := ()) dX10_bad_23 rfl (Nat.le_refl _) (Nat.le_refl _)
def fX10_here (σ : St) (a0 : Nat) : Option (Int32 × St) :=
  (gI 10 3 σ a0).bind fun x1 =>
  (gI 10 2 σ a0).bind fun x2 =>
  if x2 ≤ x1 then
    some ((-1), σ)
  else
    (gR 10 1 σ a0).bind fun a3 =>
    (gI 10 3 σ a0).bind fun x4 =>
    (aI 0 σ a3 x4).bind fun x5 =>
    some (x5, σ)
set_option maxHeartbeats 4000000 in
set_option maxRecDepth 100000 in
theorem gX10_here (σ : St) (a0 : Nat) : CE vI mX10_here [.ref a0] σ (fX10_here σ a0) := by
  refine CE.ofGEF (lv := [(0, .ref a0)]) (by decide +kernel) (Nat.le_of_ble_eq_true rfl) rfl ?_
  unfold fX10_here
  refine GE.aload_n 0 dX10_here_0 rfl rfl ?_
  refine GE.gI dX10_here_1 lF_X10_112 (fun x1 => ?_)
  refine GE.aload_n 0 dX10_here_4 rfl rfl ?_
  refine GE.gI dX10_here_5 lF_X10_109 (fun x2 => ?_)
  refine GE.icmp_ge (tgt := 23) dX10_here_8 (by decide) ?_ ?_
  · refine GE.iconst dX10_here_23 kI_m1 ?_
    exact GE.iret dX10_here_24 rfl (Nat.le_refl _) (Nat.le_refl _)
  · refine GE.aload_n 0 dX10_here_11 rfl rfl ?_
    refine GE.gR dX10_here_12 lF_X10_9 (fun a3 => ?_)
    refine GE.aload_n 0 dX10_here_15 rfl rfl ?_
    refine GE.gI dX10_here_16 lF_X10_112 (fun x4 => ?_)
    refine GE.iald dX10_here_19 (fun x5 => ?_)
    refine GE.goto (tgt := 24) dX10_here_20 (by decide) ?_
    exact GE.iret dX10_here_24 rfl (Nat.le_refl _) (Nat.le_refl _)
def fX10_isDigit (σ : St) (px0 : Int32) : Option (Int32 × St) :=
  if px0 < 48 then
    some (0, σ)
  else
    if 57 < px0 then
      some (0, σ)
    else
      some (1, σ)
set_option maxHeartbeats 4000000 in
set_option maxRecDepth 100000 in
theorem gX10_isDigit (σ : St) (px0 : Int32) : CE vI mX10_isDigit [.int px0] σ (fX10_isDigit σ px0) := by
  refine CE.ofGEF (lv := [(0, .int px0)]) (by decide +kernel) (Nat.le_of_ble_eq_true rfl) rfl ?_
  unfold fX10_isDigit
  refine GE.iload_n 0 dX10_isDigit_0 rfl rfl ?_
  refine GE.bipush dX10_isDigit_1 kB_48 ?_
  refine GE.icmp_lt (tgt := 16) dX10_isDigit_3 (by decide) ?_ ?_
  · refine GE.iconst dX10_isDigit_16 kI_0 ?_
    exact GE.zretk dX10_isDigit_17 rfl (Nat.le_refl _) (Nat.le_refl _) (by decide)
  · refine GE.iload_n 0 dX10_isDigit_6 rfl rfl ?_
    refine GE.bipush dX10_isDigit_7 kB_57 ?_
    refine GE.icmp_gt (tgt := 16) dX10_isDigit_9 (by decide) ?_ ?_
    · refine GE.iconst dX10_isDigit_16 kI_0 ?_
      exact GE.zretk dX10_isDigit_17 rfl (Nat.le_refl _) (Nat.le_refl _) (by decide)
    · refine GE.iconst dX10_isDigit_12 kI_1 ?_
      refine GE.goto (tgt := 17) dX10_isDigit_13 (by decide) ?_
      exact GE.zretk dX10_isDigit_17 rfl (Nat.le_refl _) (Nat.le_refl _) (by decide)
def fX10_look (σ : St) (a0 : Nat) : Option (Int32 × St) :=
  lo1 (fun l2 (t1 : St) =>
    bo 10 t1 a0 (fX10_here t1 a0) (fun x3 t4 =>
  if x3 = 32 then
    (gI 10 3 t4 a0).bind fun x7 =>
    (pV 10 3 t4 a0 (.int (x7 + 1))).bind (fun t8 =>
    l2 t8)
  else
    bo 10 t4 a0 (fX10_here t4 a0) (fun x5 t6 =>
    some (x5, t6)))) FU σ
set_option maxHeartbeats 4000000 in
set_option maxRecDepth 100000 in
theorem gX10_look (σ : St) (a0 : Nat) : CE vI mX10_look [.ref a0] σ (fX10_look σ a0) := by
  refine CE.ofGEF (lv := [(0, .ref a0)]) (by decide +kernel) (Nat.le_of_ble_eq_true rfl) rfl ?_
  unfold fX10_look
  refine (GE.lo1 (fun (t1 : St) => [(0, .ref a0)]) (fun (t1 : St) => []) (fun (t1 : St) => t1) (fun l2 hl2 t1 => ?_) FU σ)
  refine GE.aload_n 0 dX10_look_0 rfl rfl ?_
  refine GE.callvI [] dX10_look_1 (lV_X10_115) rfl ⟨rfl, rfl⟩ (rokb rfl) (gX10_here t1 a0) (fun x3 t4 => ?_)
  refine GE.bipush dX10_look_4 kB_32 ?_
  refine GE.icmp_ne (tgt := 22) dX10_look_6 (by decide) ?_ ?_
  · refine GE.aload_n 0 dX10_look_22 rfl rfl ?_
    refine GE.callvI [] dX10_look_23 (lV_X10_115) rfl ⟨rfl, rfl⟩ (rokb rfl) (gX10_here t4 a0) (fun x5 t6 => ?_)
    exact GE.iret dX10_look_26 rfl (Nat.le_refl _) (Nat.le_refl _)
  · refine GE.aload_n 0 dX10_look_9 rfl rfl ?_
    refine GE.dup dX10_look_10 rfl ?_
    refine GE.gI dX10_look_11 lF_X10_112 (fun x7 => ?_)
    refine GE.iconst dX10_look_14 kI_1 ?_
    refine GE.iadd dX10_look_15 ?_
    refine GE.pI dX10_look_16 lF_X10_112 (fun t8 => ?_)
    refine GE.goto (tgt := 0) dX10_look_19 (by decide) ?_
    exact hl2 t8
def fX10_heightsRead (σ : St) (a0 : Nat) : Option (Unit × St) :=
  lo2 (fun l3 (x1 : Int32) (t2 : St) =>
    if 6 ≤ x1 then
    lo2 (fun l6 (x4 : Int32) (t5 : St) =>
      jo1 (fun (t7 : St) =>
      (gR 10 19 t7 a0).bind fun a9 =>
      (gI 10 21 t7 a0).bind fun x10 =>
      (sI 0 t7 a9 x10 x4).bind (fun t11 =>
      (gI 10 21 t11 a0).bind fun x12 =>
      (pV 10 21 t11 a0 (.int (x12 + 1))).bind (fun t13 =>
      some ((), t13)))) (fun j8 =>
      if 6 ≤ x4 then
        j8 t5
      else
        bo 10 t5 a0 (fX10_look t5 a0) (fun x14 t15 =>
        bd (fX10_isDigit t15 x14) (fun x16 t17 =>
        if x16 = 0 then
          j8 t17
        else
          (gR 10 18 t17 a0).bind fun a18 =>
          (gI 10 21 t17 a0).bind fun x19 =>
          bo 10 t17 a0 (fX10_here t17 a0) (fun x20 t21 =>
          (sI 0 t21 a18 ((6 * x19) + x4) (x20 - 48)).bind (fun t22 =>
          (gI 10 3 t22 a0).bind fun x23 =>
          (pV 10 3 t22 a0 (.int (x23 + 1))).bind (fun t24 =>
          l6 (x4 + 1) t24))))))) FU 0 t2
  else
    (gR 10 18 t2 a0).bind fun a25 =>
    (gI 10 21 t2 a0).bind fun x26 =>
    (sI 0 t2 a25 ((6 * x26) + x1) 0).bind (fun t27 =>
    l3 (x1 + 1) t27)) FU 0 σ
set_option maxHeartbeats 4000000 in
set_option maxRecDepth 100000 in
theorem gX10_heightsRead (σ : St) (a0 : Nat) : CE vU mX10_heightsRead [.ref a0] σ (fX10_heightsRead σ a0) := by
  refine CE.ofGEF (lv := [(0, .ref a0)]) (by decide +kernel) (Nat.le_of_ble_eq_true rfl) rfl ?_
  unfold fX10_heightsRead
  refine GE.iconst dX10_heightsRead_0 kI_0 ?_
  refine GE.istore_n (lv' := [(0, .ref a0), (1, .int 0)]) dX10_heightsRead_1 rfl (by decide) [1, 0] rfl ?_
  refine GE.iconst dX10_heightsRead_2 kI_0 ?_
  refine GE.istore_n (lv' := [(0, .ref a0), (1, .int 0), (2, .int 0)]) dX10_heightsRead_3 rfl (by decide) [1, 2, 0] rfl ?_
  refine (GE.lo2 (fun (x1 : Int32) (t2 : St) => [(0, .ref a0), (1, .int 0), (2, .int x1)]) (fun (x1 : Int32) (t2 : St) => []) (fun (x1 : Int32) (t2 : St) => t2) (fun l3 hl3 x1 t2 => ?_) FU 0 σ)
  refine GE.iload_n 2 dX10_heightsRead_4 rfl rfl ?_
  refine GE.bipush dX10_heightsRead_5 kB_6 ?_
  refine GE.icmp_ge (tgt := 31) dX10_heightsRead_7 (by decide) ?_ ?_
  · refine GE.sub [0, 1] rfl (GE.lo2 (fun (x4 : Int32) (t5 : St) => [(0, .ref a0), (1, .int x4)]) (fun (x4 : Int32) (t5 : St) => []) (fun (x4 : Int32) (t5 : St) => t5) (fun l6 hl6 x4 t5 => ?_) FU 0 t2)
    refine GE.iload_n 1 dX10_heightsRead_31 rfl rfl ?_
    refine GE.bipush dX10_heightsRead_32 kB_6 ?_
    refine GE.jo1 84 (fun (t7 : St) => [(0, .ref a0), (1, .int x4)]) (fun (t7 : St) => []) (fun (t7 : St) => t7) (fun t7 => ?_) (fun j8 hj8 => ?_)
    · refine GE.aload_n 0 dX10_heightsRead_84 rfl rfl ?_
      refine GE.gR dX10_heightsRead_85 lF_X10_46 (fun a9 => ?_)
      refine GE.aload_n 0 dX10_heightsRead_88 rfl rfl ?_
      refine GE.gI dX10_heightsRead_89 lF_X10_238 (fun x10 => ?_)
      refine GE.iload_n 1 dX10_heightsRead_92 rfl rfl ?_
      refine GE.iast dX10_heightsRead_93 (fun t11 => ?_)
      refine GE.aload_n 0 dX10_heightsRead_94 rfl rfl ?_
      refine GE.dup dX10_heightsRead_95 rfl ?_
      refine GE.gI dX10_heightsRead_96 lF_X10_238 (fun x12 => ?_)
      refine GE.iconst dX10_heightsRead_99 kI_1 ?_
      refine GE.iadd dX10_heightsRead_100 ?_
      refine GE.pI dX10_heightsRead_101 lF_X10_238 (fun t13 => ?_)
      exact GE.vret (x := ()) dX10_heightsRead_104 rfl (Nat.le_refl _) (Nat.le_refl _)
    · refine GE.icmp_ge (tgt := 84) dX10_heightsRead_34 (by decide) ?_ ?_
      · exact hj8 t5
      · refine GE.aload_n 0 dX10_heightsRead_37 rfl rfl ?_
        refine GE.callvI [] dX10_heightsRead_38 (lV_X10_131) rfl ⟨rfl, rfl⟩ (rokb rfl) (gX10_look t5 a0) (fun x14 t15 => ?_)
        refine GE.callsI [.int x14] dX10_heightsRead_41 (lT_X10_134) rfl ⟨rfl, rfl⟩ (rokb rfl) (gX10_isDigit t15 x14) (fun x16 t17 => ?_)
        refine GE.if_eq (tgt := 84) dX10_heightsRead_44 (by decide) ?_ ?_
        · exact hj8 t17
        · refine GE.aload_n 0 dX10_heightsRead_47 rfl rfl ?_
          refine GE.gR dX10_heightsRead_48 lF_X10_43 (fun a18 => ?_)
          refine GE.bipush dX10_heightsRead_51 kB_6 ?_
          refine GE.aload_n 0 dX10_heightsRead_53 rfl rfl ?_
          refine GE.gI dX10_heightsRead_54 lF_X10_238 (fun x19 => ?_)
          refine GE.imul dX10_heightsRead_57 ?_
          refine GE.iload_n 1 dX10_heightsRead_58 rfl rfl ?_
          refine GE.iadd dX10_heightsRead_59 ?_
          refine GE.aload_n 0 dX10_heightsRead_60 rfl rfl ?_
          refine GE.callvI [] dX10_heightsRead_61 (lV_X10_115) rfl ⟨rfl, rfl⟩ (rokb rfl) (gX10_here t17 a0) (fun x20 t21 => ?_)
          refine GE.bipush dX10_heightsRead_64 kB_48 ?_
          refine GE.isub dX10_heightsRead_66 ?_
          refine GE.iast dX10_heightsRead_67 (fun t22 => ?_)
          refine GE.iinc (lv' := [(0, .ref a0), (1, .int (x4 + 1))]) 1 dX10_heightsRead_68 rfl kI_1 (by decide) [1, 0] rfl ?_
          refine GE.aload_n 0 dX10_heightsRead_71 rfl rfl ?_
          refine GE.dup dX10_heightsRead_72 rfl ?_
          refine GE.gI dX10_heightsRead_73 lF_X10_112 (fun x23 => ?_)
          refine GE.iconst dX10_heightsRead_76 kI_1 ?_
          refine GE.iadd dX10_heightsRead_77 ?_
          refine GE.pI dX10_heightsRead_78 lF_X10_112 (fun t24 => ?_)
          refine GE.goto (tgt := 31) dX10_heightsRead_81 (by decide) ?_
          exact hl6 (x4 + 1) t24
  · refine GE.aload_n 0 dX10_heightsRead_10 rfl rfl ?_
    refine GE.gR dX10_heightsRead_11 lF_X10_43 (fun a25 => ?_)
    refine GE.bipush dX10_heightsRead_14 kB_6 ?_
    refine GE.aload_n 0 dX10_heightsRead_16 rfl rfl ?_
    refine GE.gI dX10_heightsRead_17 lF_X10_238 (fun x26 => ?_)
    refine GE.imul dX10_heightsRead_20 ?_
    refine GE.iload_n 2 dX10_heightsRead_21 rfl rfl ?_
    refine GE.iadd dX10_heightsRead_22 ?_
    refine GE.iconst dX10_heightsRead_23 kI_0 ?_
    refine GE.iast dX10_heightsRead_24 (fun t27 => ?_)
    refine GE.iinc (lv' := [(0, .ref a0), (1, .int 0), (2, .int (x1 + 1))]) 2 dX10_heightsRead_25 rfl kI_1 (by decide) [1, 2, 0] rfl ?_
    refine GE.goto (tgt := 4) dX10_heightsRead_28 (by decide) ?_
    exact hl3 (x1 + 1) t27
def fX10_isWhole (σ : St) (a0 : Nat) : Option (Int32 × St) :=
  (gI 10 22 σ a0).bind fun x1 =>
  jo1 (fun (v2 : Int32) =>
    lo2 (fun l6 (x4 : Int32) (x5 : Int32) =>
      (gI 10 21 σ a0).bind fun x7 =>
    if x7 ≤ x5 then
      lo2 (fun l10 (x8 : Int32) (x9 : Int32) =>
        (gI 10 22 σ a0).bind fun x11 =>
      if x11 ≤ x9 then
        if x8 = 0 ∨ x8 = 1 then some (x8, σ) else none
      else
        jo1 (fun (v12 : Int32) =>
          l10 v12 (x9 + 1)) (fun j13 =>
          jo1 (fun (u13 : Unit) =>
            j13 0) (fun j14 =>
            if x8 = 0 then
              j14 () 
            else
              (gR 10 20 σ a0).bind fun a15 =>
              (aI 0 σ a15 ((4 * x9) + 0)).bind fun x16 =>
              (gR 10 17 σ a0).bind fun a17 =>
              (aI 0 σ a17 0).bind fun x18 =>
              if x18 ≤ x16 then
                j14 () 
              else
                (gR 10 20 σ a0).bind fun a19 =>
                (aI 0 σ a19 ((4 * x9) + 1)).bind fun x20 =>
                (gR 10 17 σ a0).bind fun a21 =>
                (aI 0 σ a21 1).bind fun x22 =>
                if x22 ≤ x20 then
                  j14 () 
                else
                  j13 1))) FU x4 0
    else
      jo1 (fun (v23 : Int32) =>
        l6 v23 (x5 + 1)) (fun j24 =>
        jo1 (fun (u24 : Unit) =>
          j24 0) (fun j25 =>
          if x4 = 0 then
            j25 () 
          else
            (gR 10 19 σ a0).bind fun a26 =>
            (aI 0 σ a26 x5).bind fun x27 =>
            (gR 10 17 σ a0).bind fun a28 =>
            (aI 0 σ a28 0).bind fun x29 =>
            if x29 < x27 then
              j25 () 
            else
              j24 1))) FU v2 0) (fun j3 =>
    jo1 (fun (u29 : Unit) =>
      j3 0) (fun j30 =>
      if x1 ≤ 0 then
        j30 () 
      else
        (gI 10 21 σ a0).bind fun x31 =>
        (gR 10 17 σ a0).bind fun a32 =>
        (aI 0 σ a32 1).bind fun x33 =>
        if x33 < x31 then
          j30 () 
        else
          j3 1))
set_option maxHeartbeats 4000000 in
set_option maxRecDepth 100000 in
theorem gX10_isWhole (σ : St) (a0 : Nat) : CE vI mX10_isWhole [.ref a0] σ (fX10_isWhole σ a0) := by
  refine CE.ofGEF (lv := [(0, .ref a0)]) (by decide +kernel) (Nat.le_of_ble_eq_true rfl) rfl ?_
  unfold fX10_isWhole
  refine GE.aload_n 0 dX10_isWhole_0 rfl rfl ?_
  refine GE.gI dX10_isWhole_1 lF_X10_241 (fun x1 => ?_)
  refine GE.jo1 25 (fun (v2 : Int32) => [(0, .ref a0)]) (fun (v2 : Int32) => [.int v2]) (fun (v2 : Int32) => σ) (fun v2 => ?_) (fun j3 hj3 => ?_)
  · refine GE.istore_n (lv' := [(0, .ref a0), (1, .int v2)]) dX10_isWhole_25 rfl (by decide) [1, 0] rfl ?_
    refine GE.iconst dX10_isWhole_26 kI_0 ?_
    refine GE.istore_n (lv' := [(0, .ref a0), (1, .int v2), (2, .int 0)]) dX10_isWhole_27 rfl (by decide) [1, 2, 0] rfl ?_
    refine (GE.lo2 (fun (x4 : Int32) (x5 : Int32) => [(0, .ref a0), (1, .int x4), (2, .int x5)]) (fun (x4 : Int32) (x5 : Int32) => []) (fun (x4 : Int32) (x5 : Int32) => σ) (fun l6 hl6 x4 x5 => ?_) FU v2 0)
    refine GE.iload_n 2 dX10_isWhole_28 rfl rfl ?_
    refine GE.aload_n 0 dX10_isWhole_29 rfl rfl ?_
    refine GE.gI dX10_isWhole_30 lF_X10_238 (fun x7 => ?_)
    refine GE.icmp_ge (tgt := 67) dX10_isWhole_33 (by decide) ?_ ?_
    · refine GE.iconst dX10_isWhole_67 kI_0 ?_
      refine GE.istore_n (lv' := [(0, .ref a0), (1, .int x4), (2, .int 0)]) dX10_isWhole_68 rfl (by decide) [1, 2, 0] rfl ?_
      refine (GE.lo2 (fun (x8 : Int32) (x9 : Int32) => [(0, .ref a0), (1, .int x8), (2, .int x9)]) (fun (x8 : Int32) (x9 : Int32) => []) (fun (x8 : Int32) (x9 : Int32) => σ) (fun l10 hl10 x8 x9 => ?_) FU x4 0)
      refine GE.iload_n 2 dX10_isWhole_69 rfl rfl ?_
      refine GE.aload_n 0 dX10_isWhole_70 rfl rfl ?_
      refine GE.gI dX10_isWhole_71 lF_X10_241 (fun x11 => ?_)
      refine GE.icmp_ge (tgt := 131) dX10_isWhole_74 (by decide) ?_ ?_
      · refine GE.iload_n 1 dX10_isWhole_131 rfl rfl ?_
        exact GE.zret dX10_isWhole_132 rfl (Nat.le_refl _) (Nat.le_refl _)
      · refine GE.iload_n 1 dX10_isWhole_77 rfl rfl ?_
        refine GE.jo1 124 (fun (v12 : Int32) => [(0, .ref a0), (2, .int x9)]) (fun (v12 : Int32) => [.int v12]) (fun (v12 : Int32) => σ) (fun v12 => ?_) (fun j13 hj13 => ?_)
        · refine GE.istore_n (lv' := [(0, .ref a0), (1, .int v12), (2, .int x9)]) dX10_isWhole_124 rfl (by decide) [1, 0, 2] rfl ?_
          refine GE.iinc (lv' := [(0, .ref a0), (1, .int v12), (2, .int (x9 + 1))]) 2 dX10_isWhole_125 rfl kI_1 (by decide) [1, 2, 0] rfl ?_
          refine GE.goto (tgt := 69) dX10_isWhole_128 (by decide) ?_
          exact hl10 v12 (x9 + 1)
        · refine GE.jo1 123 (fun (u13 : Unit) => [(0, .ref a0), (2, .int x9)]) (fun (u13 : Unit) => []) (fun (u13 : Unit) => σ) (fun u13 => ?_) (fun j14 hj14 => ?_)
          · refine GE.iconst dX10_isWhole_123 kI_0 ?_
            exact hj13 0
          · refine GE.if_eq (tgt := 123) dX10_isWhole_78 (by decide) ?_ ?_
            · exact GE.sub [0, 2] rfl (hj14 () )
            · refine GE.aload_n 0 dX10_isWhole_81 rfl rfl ?_
              refine GE.gR dX10_isWhole_82 lF_X10_49 (fun a15 => ?_)
              refine GE.iconst dX10_isWhole_85 kI_4 ?_
              refine GE.iload_n 2 dX10_isWhole_86 rfl rfl ?_
              refine GE.imul dX10_isWhole_87 ?_
              refine GE.iconst dX10_isWhole_88 kI_0 ?_
              refine GE.iadd dX10_isWhole_89 ?_
              refine GE.iald dX10_isWhole_90 (fun x16 => ?_)
              refine GE.aload_n 0 dX10_isWhole_91 rfl rfl ?_
              refine GE.gR dX10_isWhole_92 lF_X10_40 (fun a17 => ?_)
              refine GE.iconst dX10_isWhole_95 kI_0 ?_
              refine GE.iald dX10_isWhole_96 (fun x18 => ?_)
              refine GE.icmp_ge (tgt := 123) dX10_isWhole_97 (by decide) ?_ ?_
              · exact GE.sub [0, 2] rfl (hj14 () )
              · refine GE.aload_n 0 dX10_isWhole_100 rfl rfl ?_
                refine GE.gR dX10_isWhole_101 lF_X10_49 (fun a19 => ?_)
                refine GE.iconst dX10_isWhole_104 kI_4 ?_
                refine GE.iload_n 2 dX10_isWhole_105 rfl rfl ?_
                refine GE.imul dX10_isWhole_106 ?_
                refine GE.iconst dX10_isWhole_107 kI_1 ?_
                refine GE.iadd dX10_isWhole_108 ?_
                refine GE.iald dX10_isWhole_109 (fun x20 => ?_)
                refine GE.aload_n 0 dX10_isWhole_110 rfl rfl ?_
                refine GE.gR dX10_isWhole_111 lF_X10_40 (fun a21 => ?_)
                refine GE.iconst dX10_isWhole_114 kI_1 ?_
                refine GE.iald dX10_isWhole_115 (fun x22 => ?_)
                refine GE.icmp_ge (tgt := 123) dX10_isWhole_116 (by decide) ?_ ?_
                · exact GE.sub [0, 2] rfl (hj14 () )
                · refine GE.iconst dX10_isWhole_119 kI_1 ?_
                  refine GE.goto (tgt := 124) dX10_isWhole_120 (by decide) ?_
                  exact GE.sub [0, 2] rfl (hj13 1)
    · refine GE.iload_n 1 dX10_isWhole_36 rfl rfl ?_
      refine GE.jo1 60 (fun (v23 : Int32) => [(0, .ref a0), (2, .int x5)]) (fun (v23 : Int32) => [.int v23]) (fun (v23 : Int32) => σ) (fun v23 => ?_) (fun j24 hj24 => ?_)
      · refine GE.istore_n (lv' := [(0, .ref a0), (1, .int v23), (2, .int x5)]) dX10_isWhole_60 rfl (by decide) [1, 0, 2] rfl ?_
        refine GE.iinc (lv' := [(0, .ref a0), (1, .int v23), (2, .int (x5 + 1))]) 2 dX10_isWhole_61 rfl kI_1 (by decide) [1, 2, 0] rfl ?_
        refine GE.goto (tgt := 28) dX10_isWhole_64 (by decide) ?_
        exact hl6 v23 (x5 + 1)
      · refine GE.jo1 59 (fun (u24 : Unit) => [(0, .ref a0), (2, .int x5)]) (fun (u24 : Unit) => []) (fun (u24 : Unit) => σ) (fun u24 => ?_) (fun j25 hj25 => ?_)
        · refine GE.iconst dX10_isWhole_59 kI_0 ?_
          exact hj24 0
        · refine GE.if_eq (tgt := 59) dX10_isWhole_37 (by decide) ?_ ?_
          · exact GE.sub [0, 2] rfl (hj25 () )
          · refine GE.aload_n 0 dX10_isWhole_40 rfl rfl ?_
            refine GE.gR dX10_isWhole_41 lF_X10_46 (fun a26 => ?_)
            refine GE.iload_n 2 dX10_isWhole_44 rfl rfl ?_
            refine GE.iald dX10_isWhole_45 (fun x27 => ?_)
            refine GE.aload_n 0 dX10_isWhole_46 rfl rfl ?_
            refine GE.gR dX10_isWhole_47 lF_X10_40 (fun a28 => ?_)
            refine GE.iconst dX10_isWhole_50 kI_0 ?_
            refine GE.iald dX10_isWhole_51 (fun x29 => ?_)
            refine GE.icmp_gt (tgt := 59) dX10_isWhole_52 (by decide) ?_ ?_
            · exact GE.sub [0, 2] rfl (hj25 () )
            · refine GE.iconst dX10_isWhole_55 kI_1 ?_
              refine GE.goto (tgt := 60) dX10_isWhole_56 (by decide) ?_
              exact GE.sub [0, 2] rfl (hj24 1)
  · refine GE.jo1 24 (fun (u29 : Unit) => [(0, .ref a0)]) (fun (u29 : Unit) => []) (fun (u29 : Unit) => σ) (fun u29 => ?_) (fun j30 hj30 => ?_)
    · refine GE.iconst dX10_isWhole_24 kI_0 ?_
      exact hj3 0
    · refine GE.if_le (tgt := 24) dX10_isWhole_4 (by decide) ?_ ?_
      · exact hj30 () 
      · refine GE.aload_n 0 dX10_isWhole_7 rfl rfl ?_
        refine GE.gI dX10_isWhole_8 lF_X10_238 (fun x31 => ?_)
        refine GE.aload_n 0 dX10_isWhole_11 rfl rfl ?_
        refine GE.gR dX10_isWhole_12 lF_X10_40 (fun a32 => ?_)
        refine GE.iconst dX10_isWhole_15 kI_1 ?_
        refine GE.iald dX10_isWhole_16 (fun x33 => ?_)
        refine GE.icmp_gt (tgt := 24) dX10_isWhole_17 (by decide) ?_ ?_
        · exact hj30 () 
        · refine GE.iconst dX10_isWhole_20 kI_1 ?_
          refine GE.goto (tgt := 25) dX10_isWhole_21 (by decide) ?_
          exact hj3 1
def fX10_highest (σ : St) (px0 : Int32) (px1 : Int32) : Option (Int32 × St) :=
  if px0 = 115 then
    if px1 = 0 then
      some (6, σ)
    else
      if px1 = 1 then
        some (5, σ)
      else
        if px1 = 2 then
          some (99, σ)
        else
          some (9, σ)
  else
    if px1 = 0 then
      some (5, σ)
    else
      if px1 = 1 then
        some (4, σ)
      else
        some (9, σ)
set_option maxHeartbeats 4000000 in
set_option maxRecDepth 100000 in
theorem gX10_highest (σ : St) (px0 : Int32) (px1 : Int32) : CE vI mX10_highest [.int px0, .int px1] σ (fX10_highest σ px0 px1) := by
  refine CE.ofGEF (lv := [(0, .int px0), (1, .int px1)]) (by decide +kernel) (Nat.le_of_ble_eq_true rfl) rfl ?_
  unfold fX10_highest
  refine GE.iload_n 0 dX10_highest_0 rfl rfl ?_
  refine GE.bipush dX10_highest_1 kB_115 ?_
  refine GE.icmp_ne (tgt := 37) dX10_highest_3 (by decide) ?_ ?_
  · refine GE.iload_n 1 dX10_highest_37 rfl rfl ?_
    refine GE.if_ne (tgt := 45) dX10_highest_38 (by decide) ?_ ?_
    · refine GE.iload_n 1 dX10_highest_45 rfl rfl ?_
      refine GE.iconst dX10_highest_46 kI_1 ?_
      refine GE.icmp_ne (tgt := 54) dX10_highest_47 (by decide) ?_ ?_
      · refine GE.bipush dX10_highest_54 kB_9 ?_
        exact GE.iret dX10_highest_56 rfl (Nat.le_refl _) (Nat.le_refl _)
      · refine GE.iconst dX10_highest_50 kI_4 ?_
        refine GE.goto (tgt := 56) dX10_highest_51 (by decide) ?_
        exact GE.iret dX10_highest_56 rfl (Nat.le_refl _) (Nat.le_refl _)
    · refine GE.iconst dX10_highest_41 kI_5 ?_
      refine GE.goto (tgt := 56) dX10_highest_42 (by decide) ?_
      exact GE.iret dX10_highest_56 rfl (Nat.le_refl _) (Nat.le_refl _)
  · refine GE.iload_n 1 dX10_highest_6 rfl rfl ?_
    refine GE.if_ne (tgt := 15) dX10_highest_7 (by decide) ?_ ?_
    · refine GE.iload_n 1 dX10_highest_15 rfl rfl ?_
      refine GE.iconst dX10_highest_16 kI_1 ?_
      refine GE.icmp_ne (tgt := 24) dX10_highest_17 (by decide) ?_ ?_
      · refine GE.iload_n 1 dX10_highest_24 rfl rfl ?_
        refine GE.iconst dX10_highest_25 kI_2 ?_
        refine GE.icmp_ne (tgt := 34) dX10_highest_26 (by decide) ?_ ?_
        · refine GE.bipush dX10_highest_34 kB_9 ?_
          exact GE.iret dX10_highest_36 rfl (Nat.le_refl _) (Nat.le_refl _)
        · refine GE.bipush dX10_highest_29 kB_99 ?_
          refine GE.goto (tgt := 36) dX10_highest_31 (by decide) ?_
          exact GE.iret dX10_highest_36 rfl (Nat.le_refl _) (Nat.le_refl _)
      · refine GE.iconst dX10_highest_20 kI_5 ?_
        refine GE.goto (tgt := 36) dX10_highest_21 (by decide) ?_
        exact GE.iret dX10_highest_36 rfl (Nat.le_refl _) (Nat.le_refl _)
    · refine GE.bipush dX10_highest_10 kB_6 ?_
      refine GE.goto (tgt := 36) dX10_highest_12 (by decide) ?_
      exact GE.iret dX10_highest_36 rfl (Nat.le_refl _) (Nat.le_refl _)
def fX10_itemOf (σ : St) (px0 : Int32) (px1 : Int32) : Option (Int32 × St) :=
  if px0 = 115 then
    if px1 = 119 then
      some (0, σ)
    else
      if px1 = 104 then
        some (1, σ)
      else
        if px1 = 107 then
          some (2, σ)
        else
          if px1 = 102 then
            some (3, σ)
          else
            some ((-1), σ)
  else
    if px1 = 120 then
      some (0, σ)
    else
      if px1 = 121 then
        some (1, σ)
      else
        if px1 = 109 then
          some (2, σ)
        else
          if px1 = 108 then
            some (3, σ)
          else
            some ((-1), σ)
set_option maxHeartbeats 4000000 in
set_option maxRecDepth 100000 in
theorem gX10_itemOf (σ : St) (px0 : Int32) (px1 : Int32) : CE vI mX10_itemOf [.int px0, .int px1] σ (fX10_itemOf σ px0 px1) := by
  refine CE.ofGEF (lv := [(0, .int px0), (1, .int px1)]) (by decide +kernel) (Nat.le_of_ble_eq_true rfl) rfl ?_
  unfold fX10_itemOf
  refine GE.iload_n 0 dX10_itemOf_0 rfl rfl ?_
  refine GE.bipush dX10_itemOf_1 kB_115 ?_
  refine GE.icmp_ne (tgt := 48) dX10_itemOf_3 (by decide) ?_ ?_
  · refine GE.iload_n 1 dX10_itemOf_48 rfl rfl ?_
    refine GE.bipush dX10_itemOf_49 kB_120 ?_
    refine GE.icmp_ne (tgt := 58) dX10_itemOf_51 (by decide) ?_ ?_
    · refine GE.iload_n 1 dX10_itemOf_58 rfl rfl ?_
      refine GE.bipush dX10_itemOf_59 kB_121 ?_
      refine GE.icmp_ne (tgt := 68) dX10_itemOf_61 (by decide) ?_ ?_
      · refine GE.iload_n 1 dX10_itemOf_68 rfl rfl ?_
        refine GE.bipush dX10_itemOf_69 kB_109 ?_
        refine GE.icmp_ne (tgt := 78) dX10_itemOf_71 (by decide) ?_ ?_
        · refine GE.iload_n 1 dX10_itemOf_78 rfl rfl ?_
          refine GE.bipush dX10_itemOf_79 kB_108 ?_
          refine GE.icmp_ne (tgt := 88) dX10_itemOf_81 (by decide) ?_ ?_
          · refine GE.iconst dX10_itemOf_88 kI_m1 ?_
            exact GE.iret dX10_itemOf_89 rfl (Nat.le_refl _) (Nat.le_refl _)
          · refine GE.iconst dX10_itemOf_84 kI_3 ?_
            refine GE.goto (tgt := 89) dX10_itemOf_85 (by decide) ?_
            exact GE.iret dX10_itemOf_89 rfl (Nat.le_refl _) (Nat.le_refl _)
        · refine GE.iconst dX10_itemOf_74 kI_2 ?_
          refine GE.goto (tgt := 89) dX10_itemOf_75 (by decide) ?_
          exact GE.iret dX10_itemOf_89 rfl (Nat.le_refl _) (Nat.le_refl _)
      · refine GE.iconst dX10_itemOf_64 kI_1 ?_
        refine GE.goto (tgt := 89) dX10_itemOf_65 (by decide) ?_
        exact GE.iret dX10_itemOf_89 rfl (Nat.le_refl _) (Nat.le_refl _)
    · refine GE.iconst dX10_itemOf_54 kI_0 ?_
      refine GE.goto (tgt := 89) dX10_itemOf_55 (by decide) ?_
      exact GE.iret dX10_itemOf_89 rfl (Nat.le_refl _) (Nat.le_refl _)
  · refine GE.iload_n 1 dX10_itemOf_6 rfl rfl ?_
    refine GE.bipush dX10_itemOf_7 kB_119 ?_
    refine GE.icmp_ne (tgt := 16) dX10_itemOf_9 (by decide) ?_ ?_
    · refine GE.iload_n 1 dX10_itemOf_16 rfl rfl ?_
      refine GE.bipush dX10_itemOf_17 kB_104 ?_
      refine GE.icmp_ne (tgt := 26) dX10_itemOf_19 (by decide) ?_ ?_
      · refine GE.iload_n 1 dX10_itemOf_26 rfl rfl ?_
        refine GE.bipush dX10_itemOf_27 kB_107 ?_
        refine GE.icmp_ne (tgt := 36) dX10_itemOf_29 (by decide) ?_ ?_
        · refine GE.iload_n 1 dX10_itemOf_36 rfl rfl ?_
          refine GE.bipush dX10_itemOf_37 kB_102 ?_
          refine GE.icmp_ne (tgt := 46) dX10_itemOf_39 (by decide) ?_ ?_
          · refine GE.iconst dX10_itemOf_46 kI_m1 ?_
            exact GE.iret dX10_itemOf_47 rfl (Nat.le_refl _) (Nat.le_refl _)
          · refine GE.iconst dX10_itemOf_42 kI_3 ?_
            refine GE.goto (tgt := 47) dX10_itemOf_43 (by decide) ?_
            exact GE.iret dX10_itemOf_47 rfl (Nat.le_refl _) (Nat.le_refl _)
        · refine GE.iconst dX10_itemOf_32 kI_2 ?_
          refine GE.goto (tgt := 47) dX10_itemOf_33 (by decide) ?_
          exact GE.iret dX10_itemOf_47 rfl (Nat.le_refl _) (Nat.le_refl _)
      · refine GE.iconst dX10_itemOf_22 kI_1 ?_
        refine GE.goto (tgt := 47) dX10_itemOf_23 (by decide) ?_
        exact GE.iret dX10_itemOf_47 rfl (Nat.le_refl _) (Nat.le_refl _)
    · refine GE.iconst dX10_itemOf_12 kI_0 ?_
      refine GE.goto (tgt := 47) dX10_itemOf_13 (by decide) ?_
      exact GE.iret dX10_itemOf_47 rfl (Nat.le_refl _) (Nat.le_refl _)
def fX10_number (σ : St) (a0 : Nat) (px1 : Int32) (px2 : Int32) : Option (Int32 × St) :=
  bo 10 σ a0 (fX10_look σ a0) (fun x1 t2 =>
  bd (fX10_isDigit t2 x1) (fun x3 t4 =>
  if x3 = 0 then
    bo 10 t4 a0 (fX10_bad t4 a0) (fun w34 t35 =>
    some (px1, t35))
  else
    bo 10 t4 a0 (fX10_here t4 a0) (fun x5 t6 =>
    nam (x5 - 48 : Int32) (fun x7 =>
    (gI 10 3 t6 a0).bind fun x8 =>
    (pV 10 3 t6 a0 (.int (x8 + 1))).bind (fun t9 =>
    bo 10 t9 a0 (fX10_here t9 a0) (fun x10 t11 =>
    bd (fX10_isDigit t11 x10) (fun x12 t13 =>
    jo2 (fun (x14 : Int32) (t15 : St) =>
      bo 10 t15 a0 (fX10_here t15 a0) (fun x17 t18 =>
      bd (fX10_isDigit t18 x17) (fun x19 t20 =>
      if x19 = 0 then
        bd (fX10_in t20 x14 px1 px2) (fun x21 t22 =>
        if x21 = 0 then
          (gI 10 3 t22 a0).bind fun x23 =>
          (pV 10 3 t22 a0 (.int (x23 - 1))).bind (fun t24 =>
          bo 10 t24 a0 (fX10_bad t24 a0) (fun w25 t26 =>
          some (x14, t26)))
        else
          some (x14, t22))
      else
        bo 10 t20 a0 (fX10_bad t20 a0) (fun w27 t28 =>
        some (x14, t28))))) (fun j16 =>
      if x12 = 0 then
        j16 x7 t13
      else
        bo 10 t13 a0 (fX10_here t13 a0) (fun x29 t30 =>
        nam (((10 * x7) + x29) - 48 : Int32) (fun x31 =>
        (gI 10 3 t30 a0).bind fun x32 =>
        (pV 10 3 t30 a0 (.int (x32 + 1))).bind (fun t33 =>
        j16 x31 t33)))))))))))
set_option maxHeartbeats 4000000 in
set_option maxRecDepth 100000 in
theorem gX10_number (σ : St) (a0 : Nat) (px1 : Int32) (px2 : Int32) : CE vI mX10_number [.ref a0, .int px1, .int px2] σ (fX10_number σ a0 px1 px2) := by
  refine CE.ofGEF (lv := [(0, .ref a0), (1, .int px1), (2, .int px2)]) (by decide +kernel) (Nat.le_of_ble_eq_true rfl) rfl ?_
  unfold fX10_number
  refine GE.aload_n 0 dX10_number_0 rfl rfl ?_
  refine GE.callvI [] dX10_number_1 (lV_X10_131) rfl ⟨rfl, rfl⟩ (rokb rfl) (gX10_look σ a0) (fun x1 t2 => ?_)
  refine GE.callsI [.int x1] dX10_number_4 (lT_X10_134) rfl ⟨rfl, rfl⟩ (rokb rfl) (gX10_isDigit t2 x1) (fun x3 t4 => ?_)
  refine GE.if_ne (tgt := 16) dX10_number_7 (by decide) ?_ ?_
  · refine GE.aload_n 0 dX10_number_16 rfl rfl ?_
    refine GE.callvI [] dX10_number_17 (lV_X10_115) rfl ⟨rfl, rfl⟩ (rokb rfl) (gX10_here t4 a0) (fun x5 t6 => ?_)
    refine GE.bipush dX10_number_20 kB_48 ?_
    refine GE.isub dX10_number_22 ?_
    refine GE.nami (fun x7 => ?_)
    refine GE.istore_n (lv' := [(0, .ref a0), (1, .int px1), (2, .int px2), (3, .int x7)]) dX10_number_23 rfl (by decide) [1, 2, 3, 0] rfl ?_
    refine GE.aload_n 0 dX10_number_24 rfl rfl ?_
    refine GE.dup dX10_number_25 rfl ?_
    refine GE.gI dX10_number_26 lF_X10_112 (fun x8 => ?_)
    refine GE.iconst dX10_number_29 kI_1 ?_
    refine GE.iadd dX10_number_30 ?_
    refine GE.pI dX10_number_31 lF_X10_112 (fun t9 => ?_)
    refine GE.aload_n 0 dX10_number_34 rfl rfl ?_
    refine GE.callvI [] dX10_number_35 (lV_X10_115) rfl ⟨rfl, rfl⟩ (rokb rfl) (gX10_here t9 a0) (fun x10 t11 => ?_)
    refine GE.callsI [.int x10] dX10_number_38 (lT_X10_134) rfl ⟨rfl, rfl⟩ (rokb rfl) (gX10_isDigit t11 x10) (fun x12 t13 => ?_)
    refine GE.jo2 67 (fun (x14 : Int32) (t15 : St) => [(0, .ref a0), (1, .int px1), (2, .int px2), (3, .int x14)]) (fun (x14 : Int32) (t15 : St) => []) (fun (x14 : Int32) (t15 : St) => t15) (fun x14 t15 => ?_) (fun j16 hj16 => ?_)
    · refine GE.aload_n 0 dX10_number_67 rfl rfl ?_
      refine GE.callvI [] dX10_number_68 (lV_X10_115) rfl ⟨rfl, rfl⟩ (rokb rfl) (gX10_here t15 a0) (fun x17 t18 => ?_)
      refine GE.callsI [.int x17] dX10_number_71 (lT_X10_134) rfl ⟨rfl, rfl⟩ (rokb rfl) (gX10_isDigit t18 x17) (fun x19 t20 => ?_)
      refine GE.if_eq (tgt := 84) dX10_number_74 (by decide) ?_ ?_
      · refine GE.iload_n 3 dX10_number_84 rfl rfl ?_
        refine GE.iload_n 1 dX10_number_85 rfl rfl ?_
        refine GE.iload_n 2 dX10_number_86 rfl rfl ?_
        refine GE.callsI [.int x14, .int px1, .int px2] dX10_number_87 (lT_X10_217) rfl ⟨rfl, rfl⟩ (rokb rfl) (gX10_in t20 x14 px1 px2) (fun x21 t22 => ?_)
        refine GE.if_ne (tgt := 107) dX10_number_90 (by decide) ?_ ?_
        · refine GE.iload_n 3 dX10_number_107 rfl rfl ?_
          exact GE.iret dX10_number_108 rfl (Nat.le_refl _) (Nat.le_refl _)
        · refine GE.aload_n 0 dX10_number_93 rfl rfl ?_
          refine GE.dup dX10_number_94 rfl ?_
          refine GE.gI dX10_number_95 lF_X10_112 (fun x23 => ?_)
          refine GE.iconst dX10_number_98 kI_1 ?_
          refine GE.isub dX10_number_99 ?_
          refine GE.pI dX10_number_100 lF_X10_112 (fun t24 => ?_)
          refine GE.aload_n 0 dX10_number_103 rfl rfl ?_
          refine GE.callvU [] dX10_number_104 (lV_X10_128) rfl ⟨rfl, rfl⟩ (rokb rfl) (gX10_bad t24 a0) (fun w25 t26 => ?_)
          refine GE.iload_n 3 dX10_number_107 rfl rfl ?_
          exact GE.iret dX10_number_108 rfl (Nat.le_refl _) (Nat.le_refl _)
      · refine GE.aload_n 0 dX10_number_77 rfl rfl ?_
        refine GE.callvU [] dX10_number_78 (lV_X10_128) rfl ⟨rfl, rfl⟩ (rokb rfl) (gX10_bad t20 a0) (fun w27 t28 => ?_)
        refine GE.goto (tgt := 107) dX10_number_81 (by decide) ?_
        refine GE.iload_n 3 dX10_number_107 rfl rfl ?_
        exact GE.iret dX10_number_108 rfl (Nat.le_refl _) (Nat.le_refl _)
    · refine GE.if_eq (tgt := 67) dX10_number_41 (by decide) ?_ ?_
      · exact hj16 x7 t13
      · refine GE.bipush dX10_number_44 kB_10 ?_
        refine GE.iload_n 3 dX10_number_46 rfl rfl ?_
        refine GE.imul dX10_number_47 ?_
        refine GE.aload_n 0 dX10_number_48 rfl rfl ?_
        refine GE.callvI [] dX10_number_49 (lV_X10_115) rfl ⟨rfl, rfl⟩ (rokb rfl) (gX10_here t13 a0) (fun x29 t30 => ?_)
        refine GE.iadd dX10_number_52 ?_
        refine GE.bipush dX10_number_53 kB_48 ?_
        refine GE.isub dX10_number_55 ?_
        refine GE.nami (fun x31 => ?_)
        refine GE.istore_n (lv' := [(0, .ref a0), (1, .int px1), (2, .int px2), (3, .int x31)]) dX10_number_56 rfl (by decide) [1, 2, 3, 0] rfl ?_
        refine GE.aload_n 0 dX10_number_57 rfl rfl ?_
        refine GE.dup dX10_number_58 rfl ?_
        refine GE.gI dX10_number_59 lF_X10_112 (fun x32 => ?_)
        refine GE.iconst dX10_number_62 kI_1 ?_
        refine GE.iadd dX10_number_63 ?_
        refine GE.pI dX10_number_64 lF_X10_112 (fun t33 => ?_)
        exact hj16 x31 t33
  · refine GE.aload_n 0 dX10_number_10 rfl rfl ?_
    refine GE.callvU [] dX10_number_11 (lV_X10_128) rfl ⟨rfl, rfl⟩ (rokb rfl) (gX10_bad t4 a0) (fun w34 t35 => ?_)
    refine GE.iload_n 1 dX10_number_14 rfl rfl ?_
    exact GE.iret dX10_number_15 rfl (Nat.le_refl _) (Nat.le_refl _)
def fX10_usual (σ : St) (px0 : Int32) (px1 : Int32) : Option (Int32 × St) :=
  if px0 = 115 then
    if px1 = 0 then
      some (4, σ)
    else
      if px1 = 1 then
        some (3, σ)
      else
        if px1 = 2 then
          some (20, σ)
        else
          some (0, σ)
  else
    if px1 = 2 then
      some (2, σ)
    else
      if px1 = 3 then
        some (9, σ)
      else
        some (0, σ)
set_option maxHeartbeats 4000000 in
set_option maxRecDepth 100000 in
theorem gX10_usual (σ : St) (px0 : Int32) (px1 : Int32) : CE vI mX10_usual [.int px0, .int px1] σ (fX10_usual σ px0 px1) := by
  refine CE.ofGEF (lv := [(0, .int px0), (1, .int px1)]) (by decide +kernel) (Nat.le_of_ble_eq_true rfl) rfl ?_
  unfold fX10_usual
  refine GE.iload_n 0 dX10_usual_0 rfl rfl ?_
  refine GE.bipush dX10_usual_1 kB_115 ?_
  refine GE.icmp_ne (tgt := 35) dX10_usual_3 (by decide) ?_ ?_
  · refine GE.iload_n 1 dX10_usual_35 rfl rfl ?_
    refine GE.iconst dX10_usual_36 kI_2 ?_
    refine GE.icmp_ne (tgt := 44) dX10_usual_37 (by decide) ?_ ?_
    · refine GE.iload_n 1 dX10_usual_44 rfl rfl ?_
      refine GE.iconst dX10_usual_45 kI_3 ?_
      refine GE.icmp_ne (tgt := 54) dX10_usual_46 (by decide) ?_ ?_
      · refine GE.iconst dX10_usual_54 kI_0 ?_
        exact GE.iret dX10_usual_55 rfl (Nat.le_refl _) (Nat.le_refl _)
      · refine GE.bipush dX10_usual_49 kB_9 ?_
        refine GE.goto (tgt := 55) dX10_usual_51 (by decide) ?_
        exact GE.iret dX10_usual_55 rfl (Nat.le_refl _) (Nat.le_refl _)
    · refine GE.iconst dX10_usual_40 kI_2 ?_
      refine GE.goto (tgt := 55) dX10_usual_41 (by decide) ?_
      exact GE.iret dX10_usual_55 rfl (Nat.le_refl _) (Nat.le_refl _)
  · refine GE.iload_n 1 dX10_usual_6 rfl rfl ?_
    refine GE.if_ne (tgt := 14) dX10_usual_7 (by decide) ?_ ?_
    · refine GE.iload_n 1 dX10_usual_14 rfl rfl ?_
      refine GE.iconst dX10_usual_15 kI_1 ?_
      refine GE.icmp_ne (tgt := 23) dX10_usual_16 (by decide) ?_ ?_
      · refine GE.iload_n 1 dX10_usual_23 rfl rfl ?_
        refine GE.iconst dX10_usual_24 kI_2 ?_
        refine GE.icmp_ne (tgt := 33) dX10_usual_25 (by decide) ?_ ?_
        · refine GE.iconst dX10_usual_33 kI_0 ?_
          exact GE.iret dX10_usual_34 rfl (Nat.le_refl _) (Nat.le_refl _)
        · refine GE.bipush dX10_usual_28 kB_20 ?_
          refine GE.goto (tgt := 34) dX10_usual_30 (by decide) ?_
          exact GE.iret dX10_usual_34 rfl (Nat.le_refl _) (Nat.le_refl _)
      · refine GE.iconst dX10_usual_19 kI_3 ?_
        refine GE.goto (tgt := 34) dX10_usual_20 (by decide) ?_
        exact GE.iret dX10_usual_34 rfl (Nat.le_refl _) (Nat.le_refl _)
    · refine GE.iconst dX10_usual_10 kI_4 ?_
      refine GE.goto (tgt := 34) dX10_usual_11 (by decide) ?_
      exact GE.iret dX10_usual_34 rfl (Nat.le_refl _) (Nat.le_refl _)
def fX10_items (σ : St) (a0 : Nat) (px1 : Int32) (pa2 : Nat) (px3 : Int32) : Option (Unit × St) :=
  lo2 (fun l3 (x1 : Int32) (t2 : St) =>
    if 4 ≤ x1 then
    bo 10 t2 a0 (fX10_look t2 a0) (fun x4 t5 =>
    bd (fX10_itemOf t5 px1 x4) (fun x6 t7 =>
    lo3 (fun l11 (x8 : Int32) (x9 : Int32) (t10 : St) =>
      (gI 10 4 t10 a0).bind fun x12 =>
    if x12 = (-1) then
      if x9 = (-1) then
        some ((), t10)
      else
        bd (fX10_has t10 x8 x9) (fun x13 t14 =>
        if x13 = 0 then
          nam (x8 ||| (1 <<< (x9 &&& 31)) : Int32) (fun x15 =>
          (gI 10 3 t14 a0).bind fun x16 =>
          (pV 10 3 t14 a0 (.int (x16 + 1))).bind (fun t17 =>
          jo4 (fun (v18 : Int32) (v19 : Nat) (v20 : Int32) (v21 : Nat) =>
            bd (fX10_highest t17 px1 x9) (fun x23 t24 =>
            bo 10 t24 v19 (fX10_number t24 v19 v18 x23) (fun x25 t26 =>
            (sI 0 t26 v21 v20 x25).bind (fun t27 =>
            (gI 10 4 t27 a0).bind fun x28 =>
            jo2 (fun (v29 : Int32) (t30 : St) =>
              l11 x15 v29 t30) (fun j31 =>
              if x28 = (-1) then
                bo 10 t27 a0 (fX10_look t27 a0) (fun x32 t33 =>
                bd (fX10_itemOf t33 px1 x32) (fun x34 t35 =>
                j31 x34 t35))
              else
                j31 ((-1)) t27))))) (fun j22 =>
            jo3 (fun (v36 : Nat) (v37 : Int32) (v38 : Nat) =>
              j22 0 v36 v37 v38) (fun j39 =>
              if px1 = 115 then
                if 2 ≤ x9 then
                  j39 a0 (px3 + x9) pa2
                else
                  j22 2 a0 (px3 + x9) pa2
              else
                j39 a0 (px3 + x9) pa2))))
        else
          some ((), t14))
    else
      some ((), t10)) FU 0 x6 t7))
  else
    bd (fX10_usual t2 px1 x1) (fun x40 t41 =>
    (sI 0 t41 pa2 (px3 + x1) x40).bind (fun t42 =>
    l3 (x1 + 1) t42))) FU 0 σ
set_option maxHeartbeats 4000000 in
set_option maxRecDepth 100000 in
theorem gX10_items (σ : St) (a0 : Nat) (px1 : Int32) (pa2 : Nat) (px3 : Int32) : CE vU mX10_items [.ref a0, .int px1, .ref pa2, .int px3] σ (fX10_items σ a0 px1 pa2 px3) := by
  refine CE.ofGEF (lv := [(0, .ref a0), (1, .int px1), (2, .ref pa2), (3, .int px3)]) (by decide +kernel) (Nat.le_of_ble_eq_true rfl) rfl ?_
  unfold fX10_items
  refine GE.iconst dX10_items_0 kI_0 ?_
  refine GE.istore (lv' := [(0, .ref a0), (1, .int px1), (2, .ref pa2), (3, .int px3), (4, .int 0)]) dX10_items_1 (by decide) [1, 2, 3, 4, 0] rfl ?_
  refine (GE.lo2 (fun (x1 : Int32) (t2 : St) => [(0, .ref a0), (1, .int px1), (2, .ref pa2), (3, .int px3), (4, .int x1)]) (fun (x1 : Int32) (t2 : St) => []) (fun (x1 : Int32) (t2 : St) => t2) (fun l3 hl3 x1 t2 => ?_) FU 0 σ)
  refine GE.iload 4 dX10_items_3 rfl ?_
  refine GE.iconst dX10_items_5 kI_4 ?_
  refine GE.icmp_ge (tgt := 27) dX10_items_6 (by decide) ?_ ?_
  · refine GE.iconst dX10_items_27 kI_0 ?_
    refine GE.istore (lv' := [(0, .ref a0), (1, .int px1), (2, .ref pa2), (3, .int px3), (4, .int 0)]) dX10_items_28 (by decide) [1, 2, 3, 4, 0] rfl ?_
    refine GE.iload_n 1 dX10_items_30 rfl rfl ?_
    refine GE.aload_n 0 dX10_items_31 rfl rfl ?_
    refine GE.callvI [] dX10_items_32 (lV_X10_131) rfl ⟨rfl, rfl⟩ (rokb rfl) (gX10_look t2 a0) (fun x4 t5 => ?_)
    refine GE.callsI [.int px1, .int x4] dX10_items_35 (lT_X10_225) rfl ⟨rfl, rfl⟩ (rokb rfl) (gX10_itemOf t5 px1 x4) (fun x6 t7 => ?_)
    refine GE.istore (lv' := [(0, .ref a0), (1, .int px1), (2, .ref pa2), (3, .int px3), (4, .int 0), (5, .int x6)]) dX10_items_38 (by decide) [1, 2, 3, 4, 5, 0] rfl ?_
    refine (GE.lo3 (fun (x8 : Int32) (x9 : Int32) (t10 : St) => [(0, .ref a0), (1, .int px1), (2, .ref pa2), (3, .int px3), (4, .int x8), (5, .int x9)]) (fun (x8 : Int32) (x9 : Int32) (t10 : St) => []) (fun (x8 : Int32) (x9 : Int32) (t10 : St) => t10) (fun l11 hl11 x8 x9 t10 => ?_) FU 0 x6 t7)
    refine GE.aload_n 0 dX10_items_40 rfl rfl ?_
    refine GE.gI dX10_items_41 lF_X10_119 (fun x12 => ?_)
    refine GE.iconst dX10_items_44 kI_m1 ?_
    refine GE.icmp_ne (tgt := 141) dX10_items_45 (by decide) ?_ ?_
    · exact GE.vret (x := ()) dX10_items_141 rfl (Nat.le_refl _) (Nat.le_refl _)
    · refine GE.iload 5 dX10_items_48 rfl ?_
      refine GE.iconst dX10_items_50 kI_m1 ?_
      refine GE.icmp_eq (tgt := 141) dX10_items_51 (by decide) ?_ ?_
      · exact GE.vret (x := ()) dX10_items_141 rfl (Nat.le_refl _) (Nat.le_refl _)
      · refine GE.iload 4 dX10_items_54 rfl ?_
        refine GE.iload 5 dX10_items_56 rfl ?_
        refine GE.callsI [.int x8, .int x9] dX10_items_58 (lT_X10_228) rfl ⟨rfl, rfl⟩ (rokb rfl) (gX10_has t10 x8 x9) (fun x13 t14 => ?_)
        refine GE.if_ne (tgt := 141) dX10_items_61 (by decide) ?_ ?_
        · exact GE.vret (x := ()) dX10_items_141 rfl (Nat.le_refl _) (Nat.le_refl _)
        · refine GE.iload 4 dX10_items_64 rfl ?_
          refine GE.iconst dX10_items_66 kI_1 ?_
          refine GE.iload 5 dX10_items_67 rfl ?_
          refine GE.ishl dX10_items_69 ?_
          refine GE.ior dX10_items_70 ?_
          refine GE.nami (fun x15 => ?_)
          refine GE.istore (lv' := [(0, .ref a0), (1, .int px1), (2, .ref pa2), (3, .int px3), (4, .int x15), (5, .int x9)]) dX10_items_71 (by decide) [1, 2, 3, 4, 0, 5] rfl ?_
          refine GE.aload_n 0 dX10_items_73 rfl rfl ?_
          refine GE.dup dX10_items_74 rfl ?_
          refine GE.gI dX10_items_75 lF_X10_112 (fun x16 => ?_)
          refine GE.iconst dX10_items_78 kI_1 ?_
          refine GE.iadd dX10_items_79 ?_
          refine GE.pI dX10_items_80 lF_X10_112 (fun t17 => ?_)
          refine GE.aload_n 2 dX10_items_83 rfl rfl ?_
          refine GE.iload_n 3 dX10_items_84 rfl rfl ?_
          refine GE.iload 5 dX10_items_85 rfl ?_
          refine GE.iadd dX10_items_87 ?_
          refine GE.aload_n 0 dX10_items_88 rfl rfl ?_
          refine GE.iload_n 1 dX10_items_89 rfl rfl ?_
          refine GE.bipush dX10_items_90 kB_115 ?_
          refine GE.jo4 106 (fun (v18 : Int32) (v19 : Nat) (v20 : Int32) (v21 : Nat) => [(0, .ref a0), (1, .int px1), (2, .ref pa2), (3, .int px3), (4, .int x15), (5, .int x9)]) (fun (v18 : Int32) (v19 : Nat) (v20 : Int32) (v21 : Nat) => [.int v18, .ref v19, .int v20, .ref v21]) (fun (v18 : Int32) (v19 : Nat) (v20 : Int32) (v21 : Nat) => t17) (fun v18 v19 v20 v21 => ?_) (fun j22 hj22 => ?_)
          · refine GE.iload_n 1 dX10_items_106 rfl rfl ?_
            refine GE.iload 5 dX10_items_107 rfl ?_
            refine GE.callsI [.int px1, .int x9] dX10_items_109 (lT_X10_232) rfl ⟨rfl, rfl⟩ (rokb rfl) (gX10_highest t17 px1 x9) (fun x23 t24 => ?_)
            refine GE.callvI [.int v18, .int x23] dX10_items_112 (lV_X10_235) rfl ⟨rfl, rfl⟩ (rokb rfl) (gX10_number t24 v19 v18 x23) (fun x25 t26 => ?_)
            refine GE.iast dX10_items_115 (fun t27 => ?_)
            refine GE.aload_n 0 dX10_items_116 rfl rfl ?_
            refine GE.gI dX10_items_117 lF_X10_119 (fun x28 => ?_)
            refine GE.iconst dX10_items_120 kI_m1 ?_
            refine GE.jo2 136 (fun (v29 : Int32) (t30 : St) => [(0, .ref a0), (1, .int px1), (2, .ref pa2), (3, .int px3), (4, .int x15)]) (fun (v29 : Int32) (t30 : St) => [.int v29]) (fun (v29 : Int32) (t30 : St) => t30) (fun v29 t30 => ?_) (fun j31 hj31 => ?_)
            · refine GE.istore (lv' := [(0, .ref a0), (1, .int px1), (2, .ref pa2), (3, .int px3), (4, .int x15), (5, .int v29)]) dX10_items_136 (by decide) [1, 2, 3, 4, 5, 0] rfl ?_
              refine GE.goto (tgt := 40) dX10_items_138 (by decide) ?_
              exact hl11 x15 v29 t30
            · refine GE.icmp_ne (tgt := 135) dX10_items_121 (by decide) ?_ ?_
              · refine GE.iconst dX10_items_135 kI_m1 ?_
                exact GE.sub [0, 1, 2, 3, 4] rfl (hj31 ((-1)) t27)
              · refine GE.iload_n 1 dX10_items_124 rfl rfl ?_
                refine GE.aload_n 0 dX10_items_125 rfl rfl ?_
                refine GE.callvI [] dX10_items_126 (lV_X10_131) rfl ⟨rfl, rfl⟩ (rokb rfl) (gX10_look t27 a0) (fun x32 t33 => ?_)
                refine GE.callsI [.int px1, .int x32] dX10_items_129 (lT_X10_225) rfl ⟨rfl, rfl⟩ (rokb rfl) (gX10_itemOf t33 px1 x32) (fun x34 t35 => ?_)
                refine GE.goto (tgt := 136) dX10_items_132 (by decide) ?_
                exact GE.sub [0, 1, 2, 3, 4] rfl (hj31 x34 t35)
          · refine GE.jo3 105 (fun (v36 : Nat) (v37 : Int32) (v38 : Nat) => [(0, .ref a0), (1, .int px1), (2, .ref pa2), (3, .int px3), (4, .int x15), (5, .int x9)]) (fun (v36 : Nat) (v37 : Int32) (v38 : Nat) => [.ref v36, .int v37, .ref v38]) (fun (v36 : Nat) (v37 : Int32) (v38 : Nat) => t17) (fun v36 v37 v38 => ?_) (fun j39 hj39 => ?_)
            · refine GE.iconst dX10_items_105 kI_0 ?_
              exact hj22 0 v36 v37 v38
            · refine GE.icmp_ne (tgt := 105) dX10_items_92 (by decide) ?_ ?_
              · exact hj39 a0 (px3 + x9) pa2
              · refine GE.iload 5 dX10_items_95 rfl ?_
                refine GE.iconst dX10_items_97 kI_2 ?_
                refine GE.icmp_ge (tgt := 105) dX10_items_98 (by decide) ?_ ?_
                · exact hj39 a0 (px3 + x9) pa2
                · refine GE.iconst dX10_items_101 kI_2 ?_
                  refine GE.goto (tgt := 106) dX10_items_102 (by decide) ?_
                  exact hj22 2 a0 (px3 + x9) pa2
  · refine GE.aload_n 2 dX10_items_9 rfl rfl ?_
    refine GE.iload_n 3 dX10_items_10 rfl rfl ?_
    refine GE.iload 4 dX10_items_11 rfl ?_
    refine GE.iadd dX10_items_13 ?_
    refine GE.iload_n 1 dX10_items_14 rfl rfl ?_
    refine GE.iload 4 dX10_items_15 rfl ?_
    refine GE.callsI [.int px1, .int x1] dX10_items_17 (lT_X10_221) rfl ⟨rfl, rfl⟩ (rokb rfl) (gX10_usual t2 px1 x1) (fun x40 t41 => ?_)
    refine GE.iast dX10_items_20 (fun t42 => ?_)
    refine GE.iinc (lv' := [(0, .ref a0), (1, .int px1), (2, .ref pa2), (3, .int px3), (4, .int (x1 + 1))]) 4 dX10_items_21 rfl kI_1 (by decide) [1, 2, 3, 4, 0] rfl ?_
    refine GE.goto (tgt := 3) dX10_items_24 (by decide) ?_
    exact hl3 (x1 + 1) t42
def fX10_readLand (σ : St) (a0 : Nat) : Option (Int32 × St) :=
  (pV 10 3 σ a0 (.int 0)).bind (fun t1 =>
  (pV 10 4 t1 a0 (.int ((-1)))).bind (fun t2 =>
  (pV 10 21 t2 a0 (.int 0)).bind (fun t3 =>
  (pV 10 22 t3 a0 (.int 0)).bind (fun t4 =>
  lo2 (fun l7 (x5 : Int32) (t6 : St) =>
    if 4 ≤ x5 then
    lo3 (fun l11 (x8 : Int32) (x9 : Int32) (t10 : St) =>
      jo1 (fun (u11 : Unit) =>
      (gI 10 4 t10 a0).bind fun x13 =>
      if x13 = (-1) then
        bo 10 t10 a0 (fX10_look t10 a0) (fun x15 t16 =>
        jo1 (fun (t17 : St) =>
          bo 10 t17 a0 (fX10_bad t17 a0) (fun w19 t20 =>
          (gI 10 4 t20 a0).bind fun x21 =>
          some (x21, t20))) (fun j18 =>
          if x15 = (-1) then
            bo 10 t16 a0 (fX10_isWhole t16 a0) (fun x22 t23 =>
            if x22 = 0 then
              j18 t23
            else
              (gI 10 4 t23 a0).bind fun x24 =>
              some (x24, t23))
          else
            j18 t16))
      else
        (gI 10 4 t10 a0).bind fun x14 =>
        some (x14, t10)) (fun j12 =>
      if x9 = 0 then
        j12 () 
      else
        (gI 10 4 t10 a0).bind fun x25 =>
        if x25 = (-1) then
          bo 10 t10 a0 (fX10_look t10 a0) (fun x26 t27 =>
          jo2 (fun (x28 : Int32) (t29 : St) =>
            (gI 10 4 t29 a0).bind fun x31 =>
            jo2 (fun (v32 : Int32) (t33 : St) =>
              (gI 10 3 t33 a0).bind fun x35 =>
              jo3 (fun (v36 : Int32) (v37 : Int32) (v38 : Nat) =>
                (pV 10 3 t33 v38 (.int (v37 + v36))).bind (fun t40 =>
                l11 x28 v32 t40)) (fun j39 =>
                if v32 = 0 then
                  j39 0 x35 a0
                else
                  j39 1 x35 a0)) (fun j34 =>
              jo1 (fun (t41 : St) =>
                j34 0 t41) (fun j42 =>
                if x31 = (-1) then
                  bo 10 t29 a0 (fX10_look t29 a0) (fun x43 t44 =>
                  if x43 = 59 then
                    j34 1 t44
                  else
                    j42 t44)
                else
                  j42 t29))) (fun j30 =>
            jo1 (fun (u44 : Unit) =>
              jo1 (fun (u45 : Unit) =>
                jo1 (fun (u46 : Unit) =>
                  bo 10 t27 a0 (fX10_bad t27 a0) (fun w48 t49 =>
                  j30 x8 t49)) (fun j47 =>
                  if x26 = 116 then
                    (gI 10 22 t27 a0).bind fun x50 =>
                    if 4 ≤ x50 then
                      j47 () 
                    else
                      (gI 10 3 t27 a0).bind fun x51 =>
                      (pV 10 3 t27 a0 (.int (x51 + 1))).bind (fun t52 =>
                      (gR 10 20 t52 a0).bind fun a53 =>
                      (gI 10 22 t52 a0).bind fun x54 =>
                      bo 10 t52 a0 (fX10_items t52 a0 x26 a53 (4 * x54)) (fun w55 t56 =>
                      (gI 10 22 t56 a0).bind fun x57 =>
                      (pV 10 22 t56 a0 (.int (x57 + 1))).bind (fun t58 =>
                      j30 x8 t58)))
                  else
                    j47 () )) (fun j46 =>
                if x26 = 114 then
                  (gI 10 21 t27 a0).bind fun x59 =>
                  if 5 ≤ x59 then
                    j46 () 
                  else
                    (gI 10 3 t27 a0).bind fun x60 =>
                    (pV 10 3 t27 a0 (.int (x60 + 1))).bind (fun t61 =>
                    bo 10 t61 a0 (fX10_heightsRead t61 a0) (fun w62 t63 =>
                    j30 x8 t63))
                else
                  j46 () )) (fun j45 =>
              if x26 = 115 then
                if x8 = 0 then
                  (gI 10 3 t27 a0).bind fun x64 =>
                  (pV 10 3 t27 a0 (.int (x64 + 1))).bind (fun t65 =>
                  (gR 10 17 t65 a0).bind fun a66 =>
                  bo 10 t65 a0 (fX10_items t65 a0 x26 a66 0) (fun w67 t68 =>
                  j30 1 t68))
                else
                  j45 () 
              else
                j45 () )))
        else
          j12 () )) FU 0 1 t6
  else
    (gR 10 17 t6 a0).bind fun a69 =>
    bd (fX10_usual t6 115 x5) (fun x70 t71 =>
    (sI 0 t71 a69 x5 x70).bind (fun t72 =>
    l7 (x5 + 1) t72))) FU 0 t4))))
set_option maxHeartbeats 4000000 in
set_option maxRecDepth 100000 in
theorem gX10_readLand (σ : St) (a0 : Nat) : CE vI mX10_readLand [.ref a0] σ (fX10_readLand σ a0) := by
  refine CE.ofGEF (lv := [(0, .ref a0)]) (by decide +kernel) (Nat.le_of_ble_eq_true rfl) rfl ?_
  unfold fX10_readLand
  refine GE.aload_n 0 dX10_readLand_0 rfl rfl ?_
  refine GE.iconst dX10_readLand_1 kI_0 ?_
  refine GE.pI dX10_readLand_2 lF_X10_112 (fun t1 => ?_)
  refine GE.aload_n 0 dX10_readLand_5 rfl rfl ?_
  refine GE.iconst dX10_readLand_6 kI_m1 ?_
  refine GE.pI dX10_readLand_7 lF_X10_119 (fun t2 => ?_)
  refine GE.aload_n 0 dX10_readLand_10 rfl rfl ?_
  refine GE.iconst dX10_readLand_11 kI_0 ?_
  refine GE.pI dX10_readLand_12 lF_X10_238 (fun t3 => ?_)
  refine GE.aload_n 0 dX10_readLand_15 rfl rfl ?_
  refine GE.iconst dX10_readLand_16 kI_0 ?_
  refine GE.pI dX10_readLand_17 lF_X10_241 (fun t4 => ?_)
  refine GE.iconst dX10_readLand_20 kI_0 ?_
  refine GE.istore_n (lv' := [(0, .ref a0), (1, .int 0)]) dX10_readLand_21 rfl (by decide) [1, 0] rfl ?_
  refine GE.iconst dX10_readLand_22 kI_0 ?_
  refine GE.istore_n (lv' := [(0, .ref a0), (1, .int 0), (2, .int 0)]) dX10_readLand_23 rfl (by decide) [1, 2, 0] rfl ?_
  refine (GE.lo2 (fun (x5 : Int32) (t6 : St) => [(0, .ref a0), (1, .int 0), (2, .int x5)]) (fun (x5 : Int32) (t6 : St) => []) (fun (x5 : Int32) (t6 : St) => t6) (fun l7 hl7 x5 t6 => ?_) FU 0 t4)
  refine GE.iload_n 2 dX10_readLand_24 rfl rfl ?_
  refine GE.iconst dX10_readLand_25 kI_4 ?_
  refine GE.icmp_ge (tgt := 47) dX10_readLand_26 (by decide) ?_ ?_
  · refine GE.iconst dX10_readLand_47 kI_1 ?_
    refine GE.istore_n (lv' := [(0, .ref a0), (1, .int 0), (2, .int 1)]) dX10_readLand_48 rfl (by decide) [1, 2, 0] rfl ?_
    refine (GE.lo3 (fun (x8 : Int32) (x9 : Int32) (t10 : St) => [(0, .ref a0), (1, .int x8), (2, .int x9)]) (fun (x8 : Int32) (x9 : Int32) (t10 : St) => []) (fun (x8 : Int32) (x9 : Int32) (t10 : St) => t10) (fun l11 hl11 x8 x9 t10 => ?_) FU 0 1 t6)
    refine GE.iload_n 2 dX10_readLand_49 rfl rfl ?_
    refine GE.jo1 232 (fun (u11 : Unit) => [(0, .ref a0)]) (fun (u11 : Unit) => []) (fun (u11 : Unit) => t10) (fun u11 => ?_) (fun j12 hj12 => ?_)
    · refine GE.aload_n 0 dX10_readLand_232 rfl rfl ?_
      refine GE.gI dX10_readLand_233 lF_X10_119 (fun x13 => ?_)
      refine GE.iconst dX10_readLand_236 kI_m1 ?_
      refine GE.icmp_ne (tgt := 259) dX10_readLand_237 (by decide) ?_ ?_
      · refine GE.aload_n 0 dX10_readLand_259 rfl rfl ?_
        refine GE.gI dX10_readLand_260 lF_X10_119 (fun x14 => ?_)
        exact GE.iret dX10_readLand_263 rfl (Nat.le_refl _) (Nat.le_refl _)
      · refine GE.aload_n 0 dX10_readLand_240 rfl rfl ?_
        refine GE.callvI [] dX10_readLand_241 (lV_X10_131) rfl ⟨rfl, rfl⟩ (rokb rfl) (gX10_look t10 a0) (fun x15 t16 => ?_)
        refine GE.iconst dX10_readLand_244 kI_m1 ?_
        refine GE.jo1 255 (fun (t17 : St) => [(0, .ref a0)]) (fun (t17 : St) => []) (fun (t17 : St) => t17) (fun t17 => ?_) (fun j18 hj18 => ?_)
        · refine GE.aload_n 0 dX10_readLand_255 rfl rfl ?_
          refine GE.callvU [] dX10_readLand_256 (lV_X10_128) rfl ⟨rfl, rfl⟩ (rokb rfl) (gX10_bad t17 a0) (fun w19 t20 => ?_)
          refine GE.aload_n 0 dX10_readLand_259 rfl rfl ?_
          refine GE.gI dX10_readLand_260 lF_X10_119 (fun x21 => ?_)
          exact GE.iret dX10_readLand_263 rfl (Nat.le_refl _) (Nat.le_refl _)
        · refine GE.icmp_ne (tgt := 255) dX10_readLand_245 (by decide) ?_ ?_
          · exact hj18 t16
          · refine GE.aload_n 0 dX10_readLand_248 rfl rfl ?_
            refine GE.callvI [] dX10_readLand_249 (lV_X10_251) rfl ⟨rfl, rfl⟩ (rokb rfl) (gX10_isWhole t16 a0) (fun x22 t23 => ?_)
            refine GE.if_ne (tgt := 259) dX10_readLand_252 (by decide) ?_ ?_
            · refine GE.aload_n 0 dX10_readLand_259 rfl rfl ?_
              refine GE.gI dX10_readLand_260 lF_X10_119 (fun x24 => ?_)
              exact GE.iret dX10_readLand_263 rfl (Nat.le_refl _) (Nat.le_refl _)
            · exact hj18 t23
    · refine GE.if_eq (tgt := 232) dX10_readLand_50 (by decide) ?_ ?_
      · exact GE.sub [0] rfl (hj12 () )
      · refine GE.aload_n 0 dX10_readLand_53 rfl rfl ?_
        refine GE.gI dX10_readLand_54 lF_X10_119 (fun x25 => ?_)
        refine GE.iconst dX10_readLand_57 kI_m1 ?_
        refine GE.icmp_ne (tgt := 232) dX10_readLand_58 (by decide) ?_ ?_
        · exact GE.sub [0] rfl (hj12 () )
        · refine GE.aload_n 0 dX10_readLand_61 rfl rfl ?_
          refine GE.callvI [] dX10_readLand_62 (lV_X10_131) rfl ⟨rfl, rfl⟩ (rokb rfl) (gX10_look t10 a0) (fun x26 t27 => ?_)
          refine GE.istore_n (lv' := [(0, .ref a0), (1, .int x8), (2, .int x9), (3, .int x26)]) dX10_readLand_65 rfl (by decide) [1, 2, 3, 0] rfl ?_
          refine GE.iload_n 3 dX10_readLand_66 rfl rfl ?_
          refine GE.bipush dX10_readLand_67 kB_115 ?_
          refine GE.jo2 188 (fun (x28 : Int32) (t29 : St) => [(0, .ref a0), (1, .int x28)]) (fun (x28 : Int32) (t29 : St) => []) (fun (x28 : Int32) (t29 : St) => t29) (fun x28 t29 => ?_) (fun j30 hj30 => ?_)
          · refine GE.aload_n 0 dX10_readLand_188 rfl rfl ?_
            refine GE.gI dX10_readLand_189 lF_X10_119 (fun x31 => ?_)
            refine GE.iconst dX10_readLand_192 kI_m1 ?_
            refine GE.jo2 210 (fun (v32 : Int32) (t33 : St) => [(0, .ref a0), (1, .int x28)]) (fun (v32 : Int32) (t33 : St) => [.int v32]) (fun (v32 : Int32) (t33 : St) => t33) (fun v32 t33 => ?_) (fun j34 hj34 => ?_)
            · refine GE.istore_n (lv' := [(0, .ref a0), (1, .int x28), (2, .int v32)]) dX10_readLand_210 rfl (by decide) [1, 2, 0] rfl ?_
              refine GE.aload_n 0 dX10_readLand_211 rfl rfl ?_
              refine GE.dup dX10_readLand_212 rfl ?_
              refine GE.gI dX10_readLand_213 lF_X10_112 (fun x35 => ?_)
              refine GE.iload_n 2 dX10_readLand_216 rfl rfl ?_
              refine GE.jo3 225 (fun (v36 : Int32) (v37 : Int32) (v38 : Nat) => [(0, .ref a0), (1, .int x28), (2, .int v32)]) (fun (v36 : Int32) (v37 : Int32) (v38 : Nat) => [.int v36, .int v37, .ref v38]) (fun (v36 : Int32) (v37 : Int32) (v38 : Nat) => t33) (fun v36 v37 v38 => ?_) (fun j39 hj39 => ?_)
              · refine GE.iadd dX10_readLand_225 ?_
                refine GE.pI dX10_readLand_226 lF_X10_112 (fun t40 => ?_)
                refine GE.goto (tgt := 49) dX10_readLand_229 (by decide) ?_
                exact hl11 x28 v32 t40
              · refine GE.if_eq (tgt := 224) dX10_readLand_217 (by decide) ?_ ?_
                · refine GE.iconst dX10_readLand_224 kI_0 ?_
                  exact hj39 0 x35 a0
                · refine GE.iconst dX10_readLand_220 kI_1 ?_
                  refine GE.goto (tgt := 225) dX10_readLand_221 (by decide) ?_
                  exact hj39 1 x35 a0
            · refine GE.jo1 209 (fun (t41 : St) => [(0, .ref a0), (1, .int x28)]) (fun (t41 : St) => []) (fun (t41 : St) => t41) (fun t41 => ?_) (fun j42 hj42 => ?_)
              · refine GE.iconst dX10_readLand_209 kI_0 ?_
                exact hj34 0 t41
              · refine GE.icmp_ne (tgt := 209) dX10_readLand_193 (by decide) ?_ ?_
                · exact hj42 t29
                · refine GE.aload_n 0 dX10_readLand_196 rfl rfl ?_
                  refine GE.callvI [] dX10_readLand_197 (lV_X10_131) rfl ⟨rfl, rfl⟩ (rokb rfl) (gX10_look t29 a0) (fun x43 t44 => ?_)
                  refine GE.bipush dX10_readLand_200 kB_59 ?_
                  refine GE.icmp_ne (tgt := 209) dX10_readLand_202 (by decide) ?_ ?_
                  · exact hj42 t44
                  · refine GE.iconst dX10_readLand_205 kI_1 ?_
                    refine GE.goto (tgt := 210) dX10_readLand_206 (by decide) ?_
                    exact hj34 1 t44
          · refine GE.jo1 101 (fun (u44 : Unit) => [(0, .ref a0), (1, .int x8), (3, .int x26)]) (fun (u44 : Unit) => []) (fun (u44 : Unit) => t27) (fun u44 => ?_) (fun j45 hj45 => ?_)
            · refine GE.iload_n 2 dX10_readLand_101 rfl rfl ?_
              refine GE.bipush dX10_readLand_102 kB_114 ?_
              refine GE.jo1 132 (fun (u45 : Unit) => [(0, .ref a0), (1, .int x8), (3, .int x26)]) (fun (u45 : Unit) => []) (fun (u45 : Unit) => t27) (fun u45 => ?_) (fun j46 hj46 => ?_)
              · refine GE.iload_n 2 dX10_readLand_132 rfl rfl ?_
                refine GE.bipush dX10_readLand_133 kB_116 ?_
                refine GE.jo1 184 (fun (u46 : Unit) => [(0, .ref a0), (1, .int x8)]) (fun (u46 : Unit) => []) (fun (u46 : Unit) => t27) (fun u46 => ?_) (fun j47 hj47 => ?_)
                · refine GE.aload_n 0 dX10_readLand_184 rfl rfl ?_
                  refine GE.callvU [] dX10_readLand_185 (lV_X10_128) rfl ⟨rfl, rfl⟩ (rokb rfl) (gX10_bad t27 a0) (fun w48 t49 => ?_)
                  exact hj30 x8 t49
                · refine GE.icmp_ne (tgt := 184) dX10_readLand_135 (by decide) ?_ ?_
                  · exact GE.sub [0, 1] rfl (hj47 () )
                  · refine GE.aload_n 0 dX10_readLand_138 rfl rfl ?_
                    refine GE.gI dX10_readLand_139 lF_X10_241 (fun x50 => ?_)
                    refine GE.iconst dX10_readLand_142 kI_4 ?_
                    refine GE.icmp_ge (tgt := 184) dX10_readLand_143 (by decide) ?_ ?_
                    · exact GE.sub [0, 1] rfl (hj47 () )
                    · refine GE.aload_n 0 dX10_readLand_146 rfl rfl ?_
                      refine GE.dup dX10_readLand_147 rfl ?_
                      refine GE.gI dX10_readLand_148 lF_X10_112 (fun x51 => ?_)
                      refine GE.iconst dX10_readLand_151 kI_1 ?_
                      refine GE.iadd dX10_readLand_152 ?_
                      refine GE.pI dX10_readLand_153 lF_X10_112 (fun t52 => ?_)
                      refine GE.aload_n 0 dX10_readLand_156 rfl rfl ?_
                      refine GE.iload_n 2 dX10_readLand_157 rfl rfl ?_
                      refine GE.aload_n 0 dX10_readLand_158 rfl rfl ?_
                      refine GE.gR dX10_readLand_159 lF_X10_49 (fun a53 => ?_)
                      refine GE.iconst dX10_readLand_162 kI_4 ?_
                      refine GE.aload_n 0 dX10_readLand_163 rfl rfl ?_
                      refine GE.gI dX10_readLand_164 lF_X10_241 (fun x54 => ?_)
                      refine GE.imul dX10_readLand_167 ?_
                      refine GE.callvU [.int x26, .ref a53, .int (4 * x54)] dX10_readLand_168 (lV_X10_244) rfl ⟨rfl, rfl⟩ (rokb rfl) (gX10_items t52 a0 x26 a53 (4 * x54)) (fun w55 t56 => ?_)
                      refine GE.aload_n 0 dX10_readLand_171 rfl rfl ?_
                      refine GE.dup dX10_readLand_172 rfl ?_
                      refine GE.gI dX10_readLand_173 lF_X10_241 (fun x57 => ?_)
                      refine GE.iconst dX10_readLand_176 kI_1 ?_
                      refine GE.iadd dX10_readLand_177 ?_
                      refine GE.pI dX10_readLand_178 lF_X10_241 (fun t58 => ?_)
                      refine GE.goto (tgt := 188) dX10_readLand_181 (by decide) ?_
                      exact GE.sub [0, 1] rfl (hj30 x8 t58)
              · refine GE.icmp_ne (tgt := 132) dX10_readLand_104 (by decide) ?_ ?_
                · exact hj46 () 
                · refine GE.aload_n 0 dX10_readLand_107 rfl rfl ?_
                  refine GE.gI dX10_readLand_108 lF_X10_238 (fun x59 => ?_)
                  refine GE.iconst dX10_readLand_111 kI_5 ?_
                  refine GE.icmp_ge (tgt := 132) dX10_readLand_112 (by decide) ?_ ?_
                  · exact hj46 () 
                  · refine GE.aload_n 0 dX10_readLand_115 rfl rfl ?_
                    refine GE.dup dX10_readLand_116 rfl ?_
                    refine GE.gI dX10_readLand_117 lF_X10_112 (fun x60 => ?_)
                    refine GE.iconst dX10_readLand_120 kI_1 ?_
                    refine GE.iadd dX10_readLand_121 ?_
                    refine GE.pI dX10_readLand_122 lF_X10_112 (fun t61 => ?_)
                    refine GE.aload_n 0 dX10_readLand_125 rfl rfl ?_
                    refine GE.callvU [] dX10_readLand_126 (lV_X10_248) rfl ⟨rfl, rfl⟩ (rokb rfl) (gX10_heightsRead t61 a0) (fun w62 t63 => ?_)
                    refine GE.goto (tgt := 188) dX10_readLand_129 (by decide) ?_
                    exact GE.sub [0, 1] rfl (hj30 x8 t63)
            · refine GE.icmp_ne (tgt := 101) dX10_readLand_69 (by decide) ?_ ?_
              · exact GE.sub [0, 1, 3] rfl (hj45 () )
              · refine GE.iload_n 1 dX10_readLand_72 rfl rfl ?_
                refine GE.if_ne (tgt := 101) dX10_readLand_73 (by decide) ?_ ?_
                · exact GE.sub [0, 1, 3] rfl (hj45 () )
                · refine GE.iconst dX10_readLand_76 kI_1 ?_
                  refine GE.istore_n (lv' := [(0, .ref a0), (1, .int 1), (2, .int x9), (3, .int x26)]) dX10_readLand_77 rfl (by decide) [1, 0, 2, 3] rfl ?_
                  refine GE.aload_n 0 dX10_readLand_78 rfl rfl ?_
                  refine GE.dup dX10_readLand_79 rfl ?_
                  refine GE.gI dX10_readLand_80 lF_X10_112 (fun x64 => ?_)
                  refine GE.iconst dX10_readLand_83 kI_1 ?_
                  refine GE.iadd dX10_readLand_84 ?_
                  refine GE.pI dX10_readLand_85 lF_X10_112 (fun t65 => ?_)
                  refine GE.aload_n 0 dX10_readLand_88 rfl rfl ?_
                  refine GE.iload_n 3 dX10_readLand_89 rfl rfl ?_
                  refine GE.aload_n 0 dX10_readLand_90 rfl rfl ?_
                  refine GE.gR dX10_readLand_91 lF_X10_40 (fun a66 => ?_)
                  refine GE.iconst dX10_readLand_94 kI_0 ?_
                  refine GE.callvU [.int x26, .ref a66, .int 0] dX10_readLand_95 (lV_X10_244) rfl ⟨rfl, rfl⟩ (rokb rfl) (gX10_items t65 a0 x26 a66 0) (fun w67 t68 => ?_)
                  refine GE.goto (tgt := 188) dX10_readLand_98 (by decide) ?_
                  exact GE.sub [0, 1] rfl (hj30 1 t68)
  · refine GE.aload_n 0 dX10_readLand_29 rfl rfl ?_
    refine GE.gR dX10_readLand_30 lF_X10_40 (fun a69 => ?_)
    refine GE.iload_n 2 dX10_readLand_33 rfl rfl ?_
    refine GE.bipush dX10_readLand_34 kB_115 ?_
    refine GE.iload_n 2 dX10_readLand_36 rfl rfl ?_
    refine GE.callsI [.int 115, .int x5] dX10_readLand_37 (lT_X10_221) rfl ⟨rfl, rfl⟩ (rokb rfl) (gX10_usual t6 115 x5) (fun x70 t71 => ?_)
    refine GE.iast dX10_readLand_40 (fun t72 => ?_)
    refine GE.iinc (lv' := [(0, .ref a0), (1, .int 0), (2, .int (x5 + 1))]) 2 dX10_readLand_41 rfl kI_1 (by decide) [1, 2, 0] rfl ?_
    refine GE.goto (tgt := 24) dX10_readLand_44 (by decide) ?_
    exact hl7 (x5 + 1) t72
def fX10_atEnd (σ : St) (a0 : Nat) : Option (Int32 × St) :=
  (gI 10 4 σ a0).bind fun x1 =>
  if x1 = (-1) then
    bo 10 σ a0 (fX10_look σ a0) (fun x3 t4 =>
    if x3 = (-1) then
      (gI 10 4 t4 a0).bind fun x5 =>
      some (x5, t4)
    else
      bo 10 t4 a0 (fX10_bad t4 a0) (fun w6 t7 =>
      (gI 10 4 t7 a0).bind fun x8 =>
      some (x8, t7)))
  else
    (gI 10 4 σ a0).bind fun x2 =>
    some (x2, σ)
set_option maxHeartbeats 4000000 in
set_option maxRecDepth 100000 in
theorem gX10_atEnd (σ : St) (a0 : Nat) : CE vI mX10_atEnd [.ref a0] σ (fX10_atEnd σ a0) := by
  refine CE.ofGEF (lv := [(0, .ref a0)]) (by decide +kernel) (Nat.le_of_ble_eq_true rfl) rfl ?_
  unfold fX10_atEnd
  refine GE.aload_n 0 dX10_atEnd_0 rfl rfl ?_
  refine GE.gI dX10_atEnd_1 lF_X10_119 (fun x1 => ?_)
  refine GE.iconst dX10_atEnd_4 kI_m1 ?_
  refine GE.icmp_ne (tgt := 20) dX10_atEnd_5 (by decide) ?_ ?_
  · refine GE.aload_n 0 dX10_atEnd_20 rfl rfl ?_
    refine GE.gI dX10_atEnd_21 lF_X10_119 (fun x2 => ?_)
    exact GE.iret dX10_atEnd_24 rfl (Nat.le_refl _) (Nat.le_refl _)
  · refine GE.aload_n 0 dX10_atEnd_8 rfl rfl ?_
    refine GE.callvI [] dX10_atEnd_9 (lV_X10_131) rfl ⟨rfl, rfl⟩ (rokb rfl) (gX10_look σ a0) (fun x3 t4 => ?_)
    refine GE.iconst dX10_atEnd_12 kI_m1 ?_
    refine GE.icmp_eq (tgt := 20) dX10_atEnd_13 (by decide) ?_ ?_
    · refine GE.aload_n 0 dX10_atEnd_20 rfl rfl ?_
      refine GE.gI dX10_atEnd_21 lF_X10_119 (fun x5 => ?_)
      exact GE.iret dX10_atEnd_24 rfl (Nat.le_refl _) (Nat.le_refl _)
    · refine GE.aload_n 0 dX10_atEnd_16 rfl rfl ?_
      refine GE.callvU [] dX10_atEnd_17 (lV_X10_128) rfl ⟨rfl, rfl⟩ (rokb rfl) (gX10_bad t4 a0) (fun w6 t7 => ?_)
      refine GE.aload_n 0 dX10_atEnd_20 rfl rfl ?_
      refine GE.gI dX10_atEnd_21 lF_X10_119 (fun x8 => ?_)
      exact GE.iret dX10_atEnd_24 rfl (Nat.le_refl _) (Nat.le_refl _)
def fX10_isSign (σ : St) (px0 : Int32) : Option (Int32 × St) :=
  if px0 = 61 then
    some (1, σ)
  else
    if px0 = 60 then
      some (1, σ)
    else
      if px0 = 62 then
        some (1, σ)
      else
        some (0, σ)
set_option maxHeartbeats 4000000 in
set_option maxRecDepth 100000 in
theorem gX10_isSign (σ : St) (px0 : Int32) : CE vI mX10_isSign [.int px0] σ (fX10_isSign σ px0) := by
  refine CE.ofGEF (lv := [(0, .int px0)]) (by decide +kernel) (Nat.le_of_ble_eq_true rfl) rfl ?_
  unfold fX10_isSign
  refine GE.iload_n 0 dX10_isSign_0 rfl rfl ?_
  refine GE.bipush dX10_isSign_1 kB_61 ?_
  refine GE.icmp_eq (tgt := 18) dX10_isSign_3 (by decide) ?_ ?_
  · refine GE.iconst dX10_isSign_18 kI_1 ?_
    refine GE.goto (tgt := 23) dX10_isSign_19 (by decide) ?_
    exact GE.zretk dX10_isSign_23 rfl (Nat.le_refl _) (Nat.le_refl _) (by decide)
  · refine GE.iload_n 0 dX10_isSign_6 rfl rfl ?_
    refine GE.bipush dX10_isSign_7 kB_60 ?_
    refine GE.icmp_eq (tgt := 18) dX10_isSign_9 (by decide) ?_ ?_
    · refine GE.iconst dX10_isSign_18 kI_1 ?_
      refine GE.goto (tgt := 23) dX10_isSign_19 (by decide) ?_
      exact GE.zretk dX10_isSign_23 rfl (Nat.le_refl _) (Nat.le_refl _) (by decide)
    · refine GE.iload_n 0 dX10_isSign_12 rfl rfl ?_
      refine GE.bipush dX10_isSign_13 kB_62 ?_
      refine GE.icmp_ne (tgt := 22) dX10_isSign_15 (by decide) ?_ ?_
      · refine GE.iconst dX10_isSign_22 kI_0 ?_
        exact GE.zretk dX10_isSign_23 rfl (Nat.le_refl _) (Nat.le_refl _) (by decide)
      · refine GE.iconst dX10_isSign_18 kI_1 ?_
        refine GE.goto (tgt := 23) dX10_isSign_19 (by decide) ?_
        exact GE.zretk dX10_isSign_23 rfl (Nat.le_refl _) (Nat.le_refl _) (by decide)
def fX10_put (σ : St) (a0 : Nat) (px1 : Int32) (px2 : Int32) : Option (Unit × St) :=
  (gR 10 6 σ a0).bind fun a1 =>
  (gI 10 14 σ a0).bind fun x2 =>
  (gR 10 8 σ a0).bind fun a3 =>
  (gI 10 14 σ a0).bind fun x4 =>
  (aI 0 σ a3 x4).bind fun x5 =>
  (sI 0 σ a1 ((520 * x2) + x5) px1).bind (fun t6 =>
  (gR 10 7 t6 a0).bind fun a7 =>
  (gI 10 14 t6 a0).bind fun x8 =>
  (gR 10 8 t6 a0).bind fun a9 =>
  (gI 10 14 t6 a0).bind fun x10 =>
  (aI 0 t6 a9 x10).bind fun x11 =>
  (sI 0 t6 a7 ((520 * x8) + x11) px2).bind (fun t12 =>
  (gR 10 8 t12 a0).bind fun a13 =>
  (gI 10 14 t12 a0).bind fun x14 =>
  (aI 0 t12 a13 x14).bind fun x15 =>
  (sI 0 t12 a13 x14 (x15 + 1)).bind (fun t16 =>
  some ((), t16))))
set_option maxHeartbeats 4000000 in
set_option maxRecDepth 100000 in
theorem gX10_put (σ : St) (a0 : Nat) (px1 : Int32) (px2 : Int32) : CE vU mX10_put [.ref a0, .int px1, .int px2] σ (fX10_put σ a0 px1 px2) := by
  refine CE.ofGEF (lv := [(0, .ref a0), (1, .int px1), (2, .int px2)]) (by decide +kernel) (Nat.le_of_ble_eq_true rfl) rfl ?_
  unfold fX10_put
  refine GE.aload_n 0 dX10_put_0 rfl rfl ?_
  refine GE.gR dX10_put_1 lF_X10_13 (fun a1 => ?_)
  refine GE.sipush dX10_put_4 kS_520 ?_
  refine GE.aload_n 0 dX10_put_7 rfl rfl ?_
  refine GE.gI dX10_put_8 lF_X10_122 (fun x2 => ?_)
  refine GE.imul dX10_put_11 ?_
  refine GE.aload_n 0 dX10_put_12 rfl rfl ?_
  refine GE.gR dX10_put_13 lF_X10_19 (fun a3 => ?_)
  refine GE.aload_n 0 dX10_put_16 rfl rfl ?_
  refine GE.gI dX10_put_17 lF_X10_122 (fun x4 => ?_)
  refine GE.iald dX10_put_20 (fun x5 => ?_)
  refine GE.iadd dX10_put_21 ?_
  refine GE.iload_n 1 dX10_put_22 rfl rfl ?_
  refine GE.iast dX10_put_23 (fun t6 => ?_)
  refine GE.aload_n 0 dX10_put_24 rfl rfl ?_
  refine GE.gR dX10_put_25 lF_X10_16 (fun a7 => ?_)
  refine GE.sipush dX10_put_28 kS_520 ?_
  refine GE.aload_n 0 dX10_put_31 rfl rfl ?_
  refine GE.gI dX10_put_32 lF_X10_122 (fun x8 => ?_)
  refine GE.imul dX10_put_35 ?_
  refine GE.aload_n 0 dX10_put_36 rfl rfl ?_
  refine GE.gR dX10_put_37 lF_X10_19 (fun a9 => ?_)
  refine GE.aload_n 0 dX10_put_40 rfl rfl ?_
  refine GE.gI dX10_put_41 lF_X10_122 (fun x10 => ?_)
  refine GE.iald dX10_put_44 (fun x11 => ?_)
  refine GE.iadd dX10_put_45 ?_
  refine GE.iload_n 2 dX10_put_46 rfl rfl ?_
  refine GE.iast dX10_put_47 (fun t12 => ?_)
  refine GE.aload_n 0 dX10_put_48 rfl rfl ?_
  refine GE.gR dX10_put_49 lF_X10_19 (fun a13 => ?_)
  refine GE.aload_n 0 dX10_put_52 rfl rfl ?_
  refine GE.gI dX10_put_53 lF_X10_122 (fun x14 => ?_)
  refine GE.dup2 dX10_put_56 rfl rfl ?_
  refine GE.iald dX10_put_57 (fun x15 => ?_)
  refine GE.iconst dX10_put_58 kI_1 ?_
  refine GE.iadd dX10_put_59 ?_
  refine GE.iast dX10_put_60 (fun t16 => ?_)
  exact GE.vret (x := ()) dX10_put_61 rfl (Nat.le_refl _) (Nat.le_refl _)
def fX10_closes (σ : St) (a0 : Nat) (px1 : Int32) : Option (Unit × St) :=
  (gI 10 4 σ a0).bind fun x1 =>
  jo1 (fun (t2 : St) =>
    (gI 10 3 t2 a0).bind fun x4 =>
    (pV 10 3 t2 a0 (.int (x4 + 1))).bind (fun t5 =>
    (gI 10 5 t5 a0).bind fun x6 =>
    (pV 10 5 t5 a0 (.int (x6 - 1))).bind (fun t7 =>
    some ((), t7)))) (fun j3 =>
    if x1 = (-1) then
      bo 10 σ a0 (fX10_look σ a0) (fun x8 t9 =>
      if x8 = px1 then
        j3 t9
      else
        bo 10 t9 a0 (fX10_bad t9 a0) (fun w10 t11 =>
        j3 t11))
    else
      j3 σ)
set_option maxHeartbeats 4000000 in
set_option maxRecDepth 100000 in
theorem gX10_closes (σ : St) (a0 : Nat) (px1 : Int32) : CE vU mX10_closes [.ref a0, .int px1] σ (fX10_closes σ a0 px1) := by
  refine CE.ofGEF (lv := [(0, .ref a0), (1, .int px1)]) (by decide +kernel) (Nat.le_of_ble_eq_true rfl) rfl ?_
  unfold fX10_closes
  refine GE.aload_n 0 dX10_closes_0 rfl rfl ?_
  refine GE.gI dX10_closes_1 lF_X10_119 (fun x1 => ?_)
  refine GE.iconst dX10_closes_4 kI_m1 ?_
  refine GE.jo1 20 (fun (t2 : St) => [(0, .ref a0)]) (fun (t2 : St) => []) (fun (t2 : St) => t2) (fun t2 => ?_) (fun j3 hj3 => ?_)
  · refine GE.aload_n 0 dX10_closes_20 rfl rfl ?_
    refine GE.dup dX10_closes_21 rfl ?_
    refine GE.gI dX10_closes_22 lF_X10_112 (fun x4 => ?_)
    refine GE.iconst dX10_closes_25 kI_1 ?_
    refine GE.iadd dX10_closes_26 ?_
    refine GE.pI dX10_closes_27 lF_X10_112 (fun t5 => ?_)
    refine GE.aload_n 0 dX10_closes_30 rfl rfl ?_
    refine GE.dup dX10_closes_31 rfl ?_
    refine GE.gI dX10_closes_32 lF_X10_125 (fun x6 => ?_)
    refine GE.iconst dX10_closes_35 kI_1 ?_
    refine GE.isub dX10_closes_36 ?_
    refine GE.pI dX10_closes_37 lF_X10_125 (fun t7 => ?_)
    exact GE.vret (x := ()) dX10_closes_40 rfl (Nat.le_refl _) (Nat.le_refl _)
  · refine GE.icmp_ne (tgt := 20) dX10_closes_5 (by decide) ?_ ?_
    · exact GE.sub [0] rfl (hj3 σ)
    · refine GE.aload_n 0 dX10_closes_8 rfl rfl ?_
      refine GE.callvI [] dX10_closes_9 (lV_X10_131) rfl ⟨rfl, rfl⟩ (rokb rfl) (gX10_look σ a0) (fun x8 t9 => ?_)
      refine GE.iload_n 1 dX10_closes_12 rfl rfl ?_
      refine GE.icmp_eq (tgt := 20) dX10_closes_13 (by decide) ?_ ?_
      · exact GE.sub [0] rfl (hj3 t9)
      · refine GE.aload_n 0 dX10_closes_16 rfl rfl ?_
        refine GE.callvU [] dX10_closes_17 (lV_X10_128) rfl ⟨rfl, rfl⟩ (rokb rfl) (gX10_bad t9 a0) (fun w10 t11 => ?_)
        exact GE.sub [0] rfl (hj3 t11)
def fX10_letterOf (σ : St) (px0 : Int32) : Option (Int32 × St) :=
  if px0 = 108 then
    some (0, σ)
  else
    if px0 = 102 then
      some (1, σ)
    else
      if px0 = 104 then
        some (2, σ)
      else
        if px0 = 103 then
          some (3, σ)
        else
          if px0 = 109 then
            some (4, σ)
          else
            if px0 = 110 then
              some (5, σ)
            else
              some ((-1), σ)
set_option maxHeartbeats 4000000 in
set_option maxRecDepth 100000 in
theorem gX10_letterOf (σ : St) (px0 : Int32) : CE vI mX10_letterOf [.int px0] σ (fX10_letterOf σ px0) := by
  refine CE.ofGEF (lv := [(0, .int px0)]) (by decide +kernel) (Nat.le_of_ble_eq_true rfl) rfl ?_
  unfold fX10_letterOf
  refine GE.iload_n 0 dX10_letterOf_0 rfl rfl ?_
  refine GE.bipush dX10_letterOf_1 kB_108 ?_
  refine GE.icmp_ne (tgt := 10) dX10_letterOf_3 (by decide) ?_ ?_
  · refine GE.iload_n 0 dX10_letterOf_10 rfl rfl ?_
    refine GE.bipush dX10_letterOf_11 kB_102 ?_
    refine GE.icmp_ne (tgt := 20) dX10_letterOf_13 (by decide) ?_ ?_
    · refine GE.iload_n 0 dX10_letterOf_20 rfl rfl ?_
      refine GE.bipush dX10_letterOf_21 kB_104 ?_
      refine GE.icmp_ne (tgt := 30) dX10_letterOf_23 (by decide) ?_ ?_
      · refine GE.iload_n 0 dX10_letterOf_30 rfl rfl ?_
        refine GE.bipush dX10_letterOf_31 kB_103 ?_
        refine GE.icmp_ne (tgt := 40) dX10_letterOf_33 (by decide) ?_ ?_
        · refine GE.iload_n 0 dX10_letterOf_40 rfl rfl ?_
          refine GE.bipush dX10_letterOf_41 kB_109 ?_
          refine GE.icmp_ne (tgt := 50) dX10_letterOf_43 (by decide) ?_ ?_
          · refine GE.iload_n 0 dX10_letterOf_50 rfl rfl ?_
            refine GE.bipush dX10_letterOf_51 kB_110 ?_
            refine GE.icmp_ne (tgt := 60) dX10_letterOf_53 (by decide) ?_ ?_
            · refine GE.iconst dX10_letterOf_60 kI_m1 ?_
              exact GE.iret dX10_letterOf_61 rfl (Nat.le_refl _) (Nat.le_refl _)
            · refine GE.iconst dX10_letterOf_56 kI_5 ?_
              refine GE.goto (tgt := 61) dX10_letterOf_57 (by decide) ?_
              exact GE.iret dX10_letterOf_61 rfl (Nat.le_refl _) (Nat.le_refl _)
          · refine GE.iconst dX10_letterOf_46 kI_4 ?_
            refine GE.goto (tgt := 61) dX10_letterOf_47 (by decide) ?_
            exact GE.iret dX10_letterOf_61 rfl (Nat.le_refl _) (Nat.le_refl _)
        · refine GE.iconst dX10_letterOf_36 kI_3 ?_
          refine GE.goto (tgt := 61) dX10_letterOf_37 (by decide) ?_
          exact GE.iret dX10_letterOf_61 rfl (Nat.le_refl _) (Nat.le_refl _)
      · refine GE.iconst dX10_letterOf_26 kI_2 ?_
        refine GE.goto (tgt := 61) dX10_letterOf_27 (by decide) ?_
        exact GE.iret dX10_letterOf_61 rfl (Nat.le_refl _) (Nat.le_refl _)
    · refine GE.iconst dX10_letterOf_16 kI_1 ?_
      refine GE.goto (tgt := 61) dX10_letterOf_17 (by decide) ?_
      exact GE.iret dX10_letterOf_61 rfl (Nat.le_refl _) (Nat.le_refl _)
  · refine GE.iconst dX10_letterOf_6 kI_0 ?_
    refine GE.goto (tgt := 61) dX10_letterOf_7 (by decide) ?_
    exact GE.iret dX10_letterOf_61 rfl (Nat.le_refl _) (Nat.le_refl _)
def fX10_opens (σ : St) (a0 : Nat) : Option (Unit × St) :=
  (gI 10 5 σ a0).bind fun x1 =>
  jo1 (fun (t2 : St) =>
    (gI 10 5 t2 a0).bind fun x4 =>
    (pV 10 5 t2 a0 (.int (x4 + 1))).bind (fun t5 =>
    (gI 10 3 t5 a0).bind fun x6 =>
    (pV 10 3 t5 a0 (.int (x6 + 1))).bind (fun t7 =>
    some ((), t7)))) (fun j3 =>
    if x1 = 6 then
      bo 10 σ a0 (fX10_bad σ a0) (fun w8 t9 =>
      j3 t9)
    else
      j3 σ)
set_option maxHeartbeats 4000000 in
set_option maxRecDepth 100000 in
theorem gX10_opens (σ : St) (a0 : Nat) : CE vU mX10_opens [.ref a0] σ (fX10_opens σ a0) := by
  refine CE.ofGEF (lv := [(0, .ref a0)]) (by decide +kernel) (Nat.le_of_ble_eq_true rfl) rfl ?_
  unfold fX10_opens
  refine GE.aload_n 0 dX10_opens_0 rfl rfl ?_
  refine GE.gI dX10_opens_1 lF_X10_125 (fun x1 => ?_)
  refine GE.bipush dX10_opens_4 kB_6 ?_
  refine GE.jo1 13 (fun (t2 : St) => [(0, .ref a0)]) (fun (t2 : St) => []) (fun (t2 : St) => t2) (fun t2 => ?_) (fun j3 hj3 => ?_)
  · refine GE.aload_n 0 dX10_opens_13 rfl rfl ?_
    refine GE.dup dX10_opens_14 rfl ?_
    refine GE.gI dX10_opens_15 lF_X10_125 (fun x4 => ?_)
    refine GE.iconst dX10_opens_18 kI_1 ?_
    refine GE.iadd dX10_opens_19 ?_
    refine GE.pI dX10_opens_20 lF_X10_125 (fun t5 => ?_)
    refine GE.aload_n 0 dX10_opens_23 rfl rfl ?_
    refine GE.dup dX10_opens_24 rfl ?_
    refine GE.gI dX10_opens_25 lF_X10_112 (fun x6 => ?_)
    refine GE.iconst dX10_opens_28 kI_1 ?_
    refine GE.iadd dX10_opens_29 ?_
    refine GE.pI dX10_opens_30 lF_X10_112 (fun t7 => ?_)
    exact GE.vret (x := ()) dX10_opens_33 rfl (Nat.le_refl _) (Nat.le_refl _)
  · refine GE.icmp_ne (tgt := 13) dX10_opens_6 (by decide) ?_ ?_
    · exact hj3 σ
    · refine GE.aload_n 0 dX10_opens_9 rfl rfl ?_
      refine GE.callvU [] dX10_opens_10 (lV_X10_128) rfl ⟨rfl, rfl⟩ (rokb rfl) (gX10_bad σ a0) (fun w8 t9 => ?_)
      exact hj3 t9
def fX10_plainNumber (σ : St) (a0 : Nat) : Option (Int32 × St) :=
  lo3 (fun l4 (x1 : Int32) (x2 : Int32) (t3 : St) =>
    jo1 (fun (t5 : St) =>
    bo 10 t5 a0 (fX10_here t5 a0) (fun x7 t8 =>
    bd (fX10_isDigit t8 x7) (fun x9 t10 =>
    if x9 = 0 then
      some (x1, t10)
    else
      bo 10 t10 a0 (fX10_bad t10 a0) (fun w11 t12 =>
      some (x1, t12))))) (fun j6 =>
    if 4 ≤ x2 then
      j6 t3
    else
      bo 10 t3 a0 (fX10_here t3 a0) (fun x13 t14 =>
      bd (fX10_isDigit t14 x13) (fun x15 t16 =>
      if x15 = 0 then
        j6 t16
      else
        bo 10 t16 a0 (fX10_here t16 a0) (fun x17 t18 =>
        nam (((10 * x1) + x17) - 48 : Int32) (fun x19 =>
        (gI 10 3 t18 a0).bind fun x20 =>
        (pV 10 3 t18 a0 (.int (x20 + 1))).bind (fun t21 =>
        l4 x19 (x2 + 1) t21))))))) FU 0 0 σ
set_option maxHeartbeats 4000000 in
set_option maxRecDepth 100000 in
theorem gX10_plainNumber (σ : St) (a0 : Nat) : CE vI mX10_plainNumber [.ref a0] σ (fX10_plainNumber σ a0) := by
  refine CE.ofGEF (lv := [(0, .ref a0)]) (by decide +kernel) (Nat.le_of_ble_eq_true rfl) rfl ?_
  unfold fX10_plainNumber
  refine GE.iconst dX10_plainNumber_0 kI_0 ?_
  refine GE.istore_n (lv' := [(0, .ref a0), (1, .int 0)]) dX10_plainNumber_1 rfl (by decide) [1, 0] rfl ?_
  refine GE.iconst dX10_plainNumber_2 kI_0 ?_
  refine GE.istore_n (lv' := [(0, .ref a0), (1, .int 0), (2, .int 0)]) dX10_plainNumber_3 rfl (by decide) [1, 2, 0] rfl ?_
  refine (GE.lo3 (fun (x1 : Int32) (x2 : Int32) (t3 : St) => [(0, .ref a0), (1, .int x1), (2, .int x2)]) (fun (x1 : Int32) (x2 : Int32) (t3 : St) => []) (fun (x1 : Int32) (x2 : Int32) (t3 : St) => t3) (fun l4 hl4 x1 x2 t3 => ?_) FU 0 0 σ)
  refine GE.iload_n 2 dX10_plainNumber_4 rfl rfl ?_
  refine GE.iconst dX10_plainNumber_5 kI_4 ?_
  refine GE.jo1 48 (fun (t5 : St) => [(0, .ref a0), (1, .int x1)]) (fun (t5 : St) => []) (fun (t5 : St) => t5) (fun t5 => ?_) (fun j6 hj6 => ?_)
  · refine GE.aload_n 0 dX10_plainNumber_48 rfl rfl ?_
    refine GE.callvI [] dX10_plainNumber_49 (lV_X10_115) rfl ⟨rfl, rfl⟩ (rokb rfl) (gX10_here t5 a0) (fun x7 t8 => ?_)
    refine GE.callsI [.int x7] dX10_plainNumber_52 (lT_X10_134) rfl ⟨rfl, rfl⟩ (rokb rfl) (gX10_isDigit t8 x7) (fun x9 t10 => ?_)
    refine GE.if_eq (tgt := 62) dX10_plainNumber_55 (by decide) ?_ ?_
    · refine GE.iload_n 1 dX10_plainNumber_62 rfl rfl ?_
      exact GE.iret dX10_plainNumber_63 rfl (Nat.le_refl _) (Nat.le_refl _)
    · refine GE.aload_n 0 dX10_plainNumber_58 rfl rfl ?_
      refine GE.callvU [] dX10_plainNumber_59 (lV_X10_128) rfl ⟨rfl, rfl⟩ (rokb rfl) (gX10_bad t10 a0) (fun w11 t12 => ?_)
      refine GE.iload_n 1 dX10_plainNumber_62 rfl rfl ?_
      exact GE.iret dX10_plainNumber_63 rfl (Nat.le_refl _) (Nat.le_refl _)
  · refine GE.icmp_ge (tgt := 48) dX10_plainNumber_6 (by decide) ?_ ?_
    · exact GE.sub [0, 1] rfl (hj6 t3)
    · refine GE.aload_n 0 dX10_plainNumber_9 rfl rfl ?_
      refine GE.callvI [] dX10_plainNumber_10 (lV_X10_115) rfl ⟨rfl, rfl⟩ (rokb rfl) (gX10_here t3 a0) (fun x13 t14 => ?_)
      refine GE.callsI [.int x13] dX10_plainNumber_13 (lT_X10_134) rfl ⟨rfl, rfl⟩ (rokb rfl) (gX10_isDigit t14 x13) (fun x15 t16 => ?_)
      refine GE.if_eq (tgt := 48) dX10_plainNumber_16 (by decide) ?_ ?_
      · exact GE.sub [0, 1] rfl (hj6 t16)
      · refine GE.bipush dX10_plainNumber_19 kB_10 ?_
        refine GE.iload_n 1 dX10_plainNumber_21 rfl rfl ?_
        refine GE.imul dX10_plainNumber_22 ?_
        refine GE.aload_n 0 dX10_plainNumber_23 rfl rfl ?_
        refine GE.callvI [] dX10_plainNumber_24 (lV_X10_115) rfl ⟨rfl, rfl⟩ (rokb rfl) (gX10_here t16 a0) (fun x17 t18 => ?_)
        refine GE.iadd dX10_plainNumber_27 ?_
        refine GE.bipush dX10_plainNumber_28 kB_48 ?_
        refine GE.isub dX10_plainNumber_30 ?_
        refine GE.nami (fun x19 => ?_)
        refine GE.istore_n (lv' := [(0, .ref a0), (1, .int x19), (2, .int x2)]) dX10_plainNumber_31 rfl (by decide) [1, 0, 2] rfl ?_
        refine GE.aload_n 0 dX10_plainNumber_32 rfl rfl ?_
        refine GE.dup dX10_plainNumber_33 rfl ?_
        refine GE.gI dX10_plainNumber_34 lF_X10_112 (fun x20 => ?_)
        refine GE.iconst dX10_plainNumber_37 kI_1 ?_
        refine GE.iadd dX10_plainNumber_38 ?_
        refine GE.pI dX10_plainNumber_39 lF_X10_112 (fun t21 => ?_)
        refine GE.iinc (lv' := [(0, .ref a0), (1, .int x19), (2, .int (x2 + 1))]) 2 dX10_plainNumber_42 rfl kI_1 (by decide) [1, 2, 0] rfl ?_
        refine GE.goto (tgt := 4) dX10_plainNumber_45 (by decide) ?_
        exact hl4 x19 (x2 + 1) t21
def fX10_open (σ : St) (a0 : Nat) (px1 : Int32) : Option (Unit × St) :=
  (pV 10 14 σ a0 (.int px1)).bind (fun t1 =>
  (pV 10 3 t1 a0 (.int 0)).bind (fun t2 =>
  (pV 10 4 t2 a0 (.int ((-1)))).bind (fun t3 =>
  (pV 10 5 t3 a0 (.int 0)).bind (fun t4 =>
  (gR 10 8 t4 a0).bind fun a5 =>
  (sI 0 t4 a5 px1 0).bind (fun t6 =>
  (gR 10 9 t6 a0).bind fun a7 =>
  (sI 0 t6 a7 px1 0).bind (fun t8 =>
  some ((), t8)))))))
set_option maxHeartbeats 4000000 in
set_option maxRecDepth 100000 in
theorem gX10_open (σ : St) (a0 : Nat) (px1 : Int32) : CE vU mX10_open [.ref a0, .int px1] σ (fX10_open σ a0 px1) := by
  refine CE.ofGEF (lv := [(0, .ref a0), (1, .int px1)]) (by decide +kernel) (Nat.le_of_ble_eq_true rfl) rfl ?_
  unfold fX10_open
  refine GE.aload_n 0 dX10_open_0 rfl rfl ?_
  refine GE.iload_n 1 dX10_open_1 rfl rfl ?_
  refine GE.pI dX10_open_2 lF_X10_122 (fun t1 => ?_)
  refine GE.aload_n 0 dX10_open_5 rfl rfl ?_
  refine GE.iconst dX10_open_6 kI_0 ?_
  refine GE.pI dX10_open_7 lF_X10_112 (fun t2 => ?_)
  refine GE.aload_n 0 dX10_open_10 rfl rfl ?_
  refine GE.iconst dX10_open_11 kI_m1 ?_
  refine GE.pI dX10_open_12 lF_X10_119 (fun t3 => ?_)
  refine GE.aload_n 0 dX10_open_15 rfl rfl ?_
  refine GE.iconst dX10_open_16 kI_0 ?_
  refine GE.pI dX10_open_17 lF_X10_125 (fun t4 => ?_)
  refine GE.aload_n 0 dX10_open_20 rfl rfl ?_
  refine GE.gR dX10_open_21 lF_X10_19 (fun a5 => ?_)
  refine GE.iload_n 1 dX10_open_24 rfl rfl ?_
  refine GE.iconst dX10_open_25 kI_0 ?_
  refine GE.iast dX10_open_26 (fun t6 => ?_)
  refine GE.aload_n 0 dX10_open_27 rfl rfl ?_
  refine GE.gR dX10_open_28 lF_X10_22 (fun a7 => ?_)
  refine GE.iload_n 1 dX10_open_31 rfl rfl ?_
  refine GE.iconst dX10_open_32 kI_0 ?_
  refine GE.iast dX10_open_33 (fun t8 => ?_)
  exact GE.vret (x := ()) dX10_open_34 rfl (Nat.le_refl _) (Nat.le_refl _)
def fX10_byteOf (σ : St) (px0 : Int32) (px1 : Int32) (px2 : Int32) (px3 : Int32) (px4 : Int32) (px5 : Int32) : Option (Int32 × St) :=
  jo1 (fun (v1 : Int32) =>
    if 4 = 0 then none else
    some ((v1 >>> ((24 - (8 * (px5 - px5 / 4 * 4))) &&& 31)) &&& 255, σ)) (fun j2 =>
    if 4 ≤ px5 then
      if 8 ≤ px5 then
        if 12 ≤ px5 then
          if 16 ≤ px5 then
            j2 px4
          else
            j2 px3
        else
          j2 px2
      else
        j2 px1
    else
      j2 px0)
set_option maxHeartbeats 4000000 in
set_option maxRecDepth 100000 in
theorem gX10_byteOf (σ : St) (px0 : Int32) (px1 : Int32) (px2 : Int32) (px3 : Int32) (px4 : Int32) (px5 : Int32) : CE vI mX10_byteOf [.int px0, .int px1, .int px2, .int px3, .int px4, .int px5] σ (fX10_byteOf σ px0 px1 px2 px3 px4 px5) := by
  refine CE.ofGEF (lv := [(0, .int px0), (1, .int px1), (2, .int px2), (3, .int px3), (4, .int px4), (5, .int px5)]) (by decide +kernel) (Nat.le_of_ble_eq_true rfl) rfl ?_
  unfold fX10_byteOf
  refine GE.iload 5 dX10_byteOf_0 rfl ?_
  refine GE.iconst dX10_byteOf_2 kI_4 ?_
  refine GE.jo1 45 (fun (v1 : Int32) => [(5, .int px5)]) (fun (v1 : Int32) => [.int v1]) (fun (v1 : Int32) => σ) (fun v1 => ?_) (fun j2 hj2 => ?_)
  · refine GE.istore (lv' := [(5, .int px5), (6, .int v1)]) dX10_byteOf_45 (by decide) [1, 0] rfl ?_
    refine GE.iload 1 dX10_byteOf_47 rfl ?_
    refine GE.bipush dX10_byteOf_49 kB_24 ?_
    refine GE.bipush dX10_byteOf_51 kB_8 ?_
    refine GE.iload 0 dX10_byteOf_53 rfl ?_
    refine GE.iconst dX10_byteOf_55 kI_4 ?_
    refine GE.irem dX10_byteOf_56 ?_
    refine GE.imul dX10_byteOf_57 ?_
    refine GE.isub dX10_byteOf_58 ?_
    refine GE.ishr dX10_byteOf_59 ?_
    refine GE.sipush dX10_byteOf_60 kS_255 ?_
    refine GE.iand dX10_byteOf_63 ?_
    exact GE.iret dX10_byteOf_64 rfl (Nat.le_refl _) (Nat.le_refl _)
  · refine GE.icmp_ge (tgt := 10) dX10_byteOf_3 (by decide) ?_ ?_
    · refine GE.iload 5 dX10_byteOf_10 rfl ?_
      refine GE.bipush dX10_byteOf_12 kB_8 ?_
      refine GE.icmp_ge (tgt := 21) dX10_byteOf_14 (by decide) ?_ ?_
      · refine GE.iload 5 dX10_byteOf_21 rfl ?_
        refine GE.bipush dX10_byteOf_23 kB_12 ?_
        refine GE.icmp_ge (tgt := 32) dX10_byteOf_25 (by decide) ?_ ?_
        · refine GE.iload 5 dX10_byteOf_32 rfl ?_
          refine GE.bipush dX10_byteOf_34 kB_16 ?_
          refine GE.icmp_ge (tgt := 43) dX10_byteOf_36 (by decide) ?_ ?_
          · refine GE.iload 4 dX10_byteOf_43 rfl ?_
            exact GE.sub [5] rfl (hj2 px4)
          · refine GE.iload_n 3 dX10_byteOf_39 rfl rfl ?_
            refine GE.goto (tgt := 45) dX10_byteOf_40 (by decide) ?_
            exact GE.sub [5] rfl (hj2 px3)
        · refine GE.iload_n 2 dX10_byteOf_28 rfl rfl ?_
          refine GE.goto (tgt := 45) dX10_byteOf_29 (by decide) ?_
          exact GE.sub [5] rfl (hj2 px2)
      · refine GE.iload_n 1 dX10_byteOf_17 rfl rfl ?_
        refine GE.goto (tgt := 45) dX10_byteOf_18 (by decide) ?_
        exact GE.sub [5] rfl (hj2 px1)
    · refine GE.iload_n 0 dX10_byteOf_6 rfl rfl ?_
      refine GE.goto (tgt := 45) dX10_byteOf_7 (by decide) ?_
      exact GE.sub [5] rfl (hj2 px0)
def fX10_feed (σ : St) (a0 : Nat) (px1 : Int32) (px2 : Int32) (px3 : Int32) (px4 : Int32) (px5 : Int32) : Option (Int32 × St) :=
  lo3 (fun l4 (x1 : Int32) (x2 : Int32) (t3 : St) =>
    if 20 ≤ x2 then
    (gI 10 2 t3 a0).bind fun x5 =>
    if x5 + x1 ≤ 240 then
      lo2 (fun l8 (x6 : Int32) (t7 : St) =>
        if 20 ≤ x6 then
        (gI 10 2 t7 a0).bind fun x9 =>
        some (x9, t7)
      else
        bd (fX10_byteOf t7 px1 px2 px3 px4 px5 x6) (fun x10 t11 =>
        jo1 (fun (t12 : St) =>
          l8 (x6 + 1) t12) (fun j13 =>
          if x10 = 0 then
            j13 t11
          else
            (gR 10 1 t11 a0).bind fun a14 =>
            (gI 10 2 t11 a0).bind fun x15 =>
            (sI 0 t11 a14 x15 x10).bind (fun t16 =>
            (gI 10 2 t16 a0).bind fun x17 =>
            (pV 10 2 t16 a0 (.int (x17 + 1))).bind (fun t18 =>
            j13 t18))))) FU 0 t3
    else
      some ((-1), t3)
  else
    bd (fX10_byteOf t3 px1 px2 px3 px4 px5 x2) (fun x19 t20 =>
    jo2 (fun (v21 : Int32) (v22 : Int32) =>
      nam (v22 + v21 : Int32) (fun x24 =>
      l4 x24 (x2 + 1) t20)) (fun j23 =>
      if x19 = 0 then
        j23 0 x1
      else
        j23 1 x1))) FU 0 0 σ
set_option maxHeartbeats 4000000 in
set_option maxRecDepth 100000 in
theorem gX10_feed (σ : St) (a0 : Nat) (px1 : Int32) (px2 : Int32) (px3 : Int32) (px4 : Int32) (px5 : Int32) : CE vI mX10_feed [.ref a0, .int px1, .int px2, .int px3, .int px4, .int px5] σ (fX10_feed σ a0 px1 px2 px3 px4 px5) := by
  refine CE.ofGEF (lv := [(0, .ref a0), (1, .int px1), (2, .int px2), (3, .int px3), (4, .int px4), (5, .int px5)]) (by decide +kernel) (Nat.le_of_ble_eq_true rfl) rfl ?_
  unfold fX10_feed
  refine GE.iconst dX10_feed_0 kI_0 ?_
  refine GE.istore (lv' := [(0, .ref a0), (1, .int px1), (2, .int px2), (3, .int px3), (4, .int px4), (5, .int px5), (6, .int 0)]) dX10_feed_1 (by decide) [1, 2, 3, 4, 5, 6, 0] rfl ?_
  refine GE.iconst dX10_feed_3 kI_0 ?_
  refine GE.istore (lv' := [(0, .ref a0), (1, .int px1), (2, .int px2), (3, .int px3), (4, .int px4), (5, .int px5), (6, .int 0), (7, .int 0)]) dX10_feed_4 (by decide) [1, 2, 3, 4, 5, 6, 7, 0] rfl ?_
  refine (GE.lo3 (fun (x1 : Int32) (x2 : Int32) (t3 : St) => [(0, .ref a0), (1, .int px1), (2, .int px2), (3, .int px3), (4, .int px4), (5, .int px5), (6, .int x1), (7, .int x2)]) (fun (x1 : Int32) (x2 : Int32) (t3 : St) => []) (fun (x1 : Int32) (x2 : Int32) (t3 : St) => t3) (fun l4 hl4 x1 x2 t3 => ?_) FU 0 0 σ)
  refine GE.iload 7 dX10_feed_6 rfl ?_
  refine GE.bipush dX10_feed_8 kB_20 ?_
  refine GE.icmp_ge (tgt := 44) dX10_feed_10 (by decide) ?_ ?_
  · refine GE.aload_n 0 dX10_feed_44 rfl rfl ?_
    refine GE.gI dX10_feed_45 lF_X10_109 (fun x5 => ?_)
    refine GE.iload 6 dX10_feed_48 rfl ?_
    refine GE.iadd dX10_feed_50 ?_
    refine GE.sipush dX10_feed_51 kS_240 ?_
    refine GE.icmp_le (tgt := 59) dX10_feed_54 (by decide) ?_ ?_
    · refine GE.iconst dX10_feed_59 kI_0 ?_
      refine GE.istore (lv' := [(0, .ref a0), (1, .int px1), (2, .int px2), (3, .int px3), (4, .int px4), (5, .int px5), (6, .int x1), (7, .int 0)]) dX10_feed_60 (by decide) [1, 2, 3, 4, 5, 6, 7, 0] rfl ?_
      refine GE.sub [0, 1, 2, 3, 4, 5, 7] rfl (GE.lo2 (fun (x6 : Int32) (t7 : St) => [(0, .ref a0), (1, .int px1), (2, .int px2), (3, .int px3), (4, .int px4), (5, .int px5), (7, .int x6)]) (fun (x6 : Int32) (t7 : St) => []) (fun (x6 : Int32) (t7 : St) => t7) (fun l8 hl8 x6 t7 => ?_) FU 0 t3)
      refine GE.iload 6 dX10_feed_62 rfl ?_
      refine GE.bipush dX10_feed_64 kB_20 ?_
      refine GE.icmp_ge (tgt := 115) dX10_feed_66 (by decide) ?_ ?_
      · refine GE.aload_n 0 dX10_feed_115 rfl rfl ?_
        refine GE.gI dX10_feed_116 lF_X10_109 (fun x9 => ?_)
        exact GE.iret dX10_feed_119 rfl (Nat.le_refl _) (Nat.le_refl _)
      · refine GE.iload_n 1 dX10_feed_69 rfl rfl ?_
        refine GE.iload_n 2 dX10_feed_70 rfl rfl ?_
        refine GE.iload_n 3 dX10_feed_71 rfl rfl ?_
        refine GE.iload 4 dX10_feed_72 rfl ?_
        refine GE.iload 5 dX10_feed_74 rfl ?_
        refine GE.iload 6 dX10_feed_76 rfl ?_
        refine GE.callsI [.int px1, .int px2, .int px3, .int px4, .int px5, .int x6] dX10_feed_78 (lT_X10_105) rfl ⟨rfl, rfl⟩ (rokb rfl) (gX10_byteOf t7 px1 px2 px3 px4 px5 x6) (fun x10 t11 => ?_)
        refine GE.istore (lv' := [(0, .ref a0), (1, .int px1), (2, .int px2), (3, .int px3), (4, .int px4), (5, .int px5), (7, .int x6), (8, .int x10)]) dX10_feed_81 (by decide) [1, 2, 3, 4, 5, 6, 7, 0] rfl ?_
        refine GE.iload 7 dX10_feed_83 rfl ?_
        refine GE.jo1 109 (fun (t12 : St) => [(0, .ref a0), (1, .int px1), (2, .int px2), (3, .int px3), (4, .int px4), (5, .int px5), (7, .int x6)]) (fun (t12 : St) => []) (fun (t12 : St) => t12) (fun t12 => ?_) (fun j13 hj13 => ?_)
        · refine GE.iinc (lv' := [(0, .ref a0), (1, .int px1), (2, .int px2), (3, .int px3), (4, .int px4), (5, .int px5), (7, .int (x6 + 1))]) 6 dX10_feed_109 rfl kI_1 (by decide) [1, 2, 3, 4, 5, 6, 0] rfl ?_
          refine GE.goto (tgt := 62) dX10_feed_112 (by decide) ?_
          exact hl8 (x6 + 1) t12
        · refine GE.if_eq (tgt := 109) dX10_feed_85 (by decide) ?_ ?_
          · exact GE.sub [0, 1, 2, 3, 4, 5, 6] rfl (hj13 t11)
          · refine GE.aload_n 0 dX10_feed_88 rfl rfl ?_
            refine GE.gR dX10_feed_89 lF_X10_9 (fun a14 => ?_)
            refine GE.aload_n 0 dX10_feed_92 rfl rfl ?_
            refine GE.gI dX10_feed_93 lF_X10_109 (fun x15 => ?_)
            refine GE.iload 7 dX10_feed_96 rfl ?_
            refine GE.iast dX10_feed_98 (fun t16 => ?_)
            refine GE.aload_n 0 dX10_feed_99 rfl rfl ?_
            refine GE.dup dX10_feed_100 rfl ?_
            refine GE.gI dX10_feed_101 lF_X10_109 (fun x17 => ?_)
            refine GE.iconst dX10_feed_104 kI_1 ?_
            refine GE.iadd dX10_feed_105 ?_
            refine GE.pI dX10_feed_106 lF_X10_109 (fun t18 => ?_)
            exact GE.sub [0, 1, 2, 3, 4, 5, 6] rfl (hj13 t18)
    · refine GE.iconst dX10_feed_57 kI_m1 ?_
      exact GE.iret dX10_feed_58 rfl (Nat.le_refl _) (Nat.le_refl _)
  · refine GE.iload 6 dX10_feed_13 rfl ?_
    refine GE.iload_n 1 dX10_feed_15 rfl rfl ?_
    refine GE.iload_n 2 dX10_feed_16 rfl rfl ?_
    refine GE.iload_n 3 dX10_feed_17 rfl rfl ?_
    refine GE.iload 4 dX10_feed_18 rfl ?_
    refine GE.iload 5 dX10_feed_20 rfl ?_
    refine GE.iload 7 dX10_feed_22 rfl ?_
    refine GE.callsI [.int px1, .int px2, .int px3, .int px4, .int px5, .int x2] dX10_feed_24 (lT_X10_105) rfl ⟨rfl, rfl⟩ (rokb rfl) (gX10_byteOf t3 px1 px2 px3 px4 px5 x2) (fun x19 t20 => ?_)
    refine GE.jo2 35 (fun (v21 : Int32) (v22 : Int32) => [(0, .ref a0), (1, .int px1), (2, .int px2), (3, .int px3), (4, .int px4), (5, .int px5), (7, .int x2)]) (fun (v21 : Int32) (v22 : Int32) => [.int v21, .int v22]) (fun (v21 : Int32) (v22 : Int32) => t20) (fun v21 v22 => ?_) (fun j23 hj23 => ?_)
    · refine GE.iadd dX10_feed_35 ?_
      refine GE.nami (fun x24 => ?_)
      refine GE.istore (lv' := [(0, .ref a0), (1, .int px1), (2, .int px2), (3, .int px3), (4, .int px4), (5, .int px5), (6, .int x24), (7, .int x2)]) dX10_feed_36 (by decide) [1, 2, 3, 4, 5, 6, 0, 7] rfl ?_
      refine GE.iinc (lv' := [(0, .ref a0), (1, .int px1), (2, .int px2), (3, .int px3), (4, .int px4), (5, .int px5), (6, .int x24), (7, .int (x2 + 1))]) 7 dX10_feed_38 rfl kI_1 (by decide) [1, 2, 3, 4, 5, 6, 7, 0] rfl ?_
      refine GE.goto (tgt := 6) dX10_feed_41 (by decide) ?_
      exact hl4 x24 (x2 + 1) t20
    · refine GE.if_eq (tgt := 34) dX10_feed_27 (by decide) ?_ ?_
      · refine GE.iconst dX10_feed_34 kI_0 ?_
        exact GE.sub [0, 1, 2, 3, 4, 5, 7] rfl (hj23 0 x1)
      · refine GE.iconst dX10_feed_30 kI_1 ?_
        refine GE.goto (tgt := 35) dX10_feed_31 (by decide) ?_
        exact GE.sub [0, 1, 2, 3, 4, 5, 7] rfl (hj23 1 x1)
