def fX9_status (σ : St) (a0 : Nat) (px1 : Int32) : Option (Int32 × St) :=
  if px1 < 0 then
    some ((-1), σ)
  else
    if 5 ≤ px1 then
      some ((-1), σ)
    else
      (gR 9 7 σ a0).bind fun a1 =>
      (aI 0 σ a1 px1).bind fun x2 =>
      some (x2, σ)
set_option maxHeartbeats 4000000 in
set_option maxRecDepth 100000 in
theorem gX9_status (σ : St) (a0 : Nat) (px1 : Int32) : CE vI mX9_status [.ref a0, .int px1] σ (fX9_status σ a0 px1) := by
  refine CE.ofGEF (lv := [(0, .ref a0), (1, .int px1)]) (by decide +kernel) (Nat.le_of_ble_eq_true rfl) rfl ?_
  unfold fX9_status
  refine GE.iload_n 1 dX9_status_0 rfl rfl ?_
  refine GE.if_lt (tgt := 18) dX9_status_1 (by decide) ?_ ?_
  · refine GE.iconst dX9_status_18 kI_m1 ?_
    exact GE.iret dX9_status_19 rfl (Nat.le_refl _) (Nat.le_refl _)
  · refine GE.iload_n 1 dX9_status_4 rfl rfl ?_
    refine GE.iconst dX9_status_5 kI_5 ?_
    refine GE.icmp_ge (tgt := 18) dX9_status_6 (by decide) ?_ ?_
    · refine GE.iconst dX9_status_18 kI_m1 ?_
      exact GE.iret dX9_status_19 rfl (Nat.le_refl _) (Nat.le_refl _)
    · refine GE.aload_n 0 dX9_status_9 rfl rfl ?_
      refine GE.gR dX9_status_10 lF_X9_48 (fun a1 => ?_)
      refine GE.iload_n 1 dX9_status_13 rfl rfl ?_
      refine GE.iald dX9_status_14 (fun x2 => ?_)
      refine GE.goto (tgt := 19) dX9_status_15 (by decide) ?_
      exact GE.iret dX9_status_19 rfl (Nat.le_refl _) (Nat.le_refl _)
def fX1_forget (σ : St) (a0 : Nat) : Option (Unit × St) :=
  (pV 1 3 σ a0 (.int 0)).bind (fun t1 =>
  (pV 1 6 t1 a0 (.int 0)).bind (fun t2 =>
  some ((), t2)))
set_option maxHeartbeats 4000000 in
set_option maxRecDepth 100000 in
theorem gX1_forget (σ : St) (a0 : Nat) : CE vU mX1_forget [.ref a0] σ (fX1_forget σ a0) := by
  refine CE.ofGEF (lv := [(0, .ref a0)]) (by decide +kernel) (Nat.le_of_ble_eq_true rfl) rfl ?_
  unfold fX1_forget
  refine GE.aload_n 0 dX1_forget_0 rfl rfl ?_
  refine GE.iconst dX1_forget_1 kI_0 ?_
  refine GE.pI dX1_forget_2 lF_X1_22 (fun t1 => ?_)
  refine GE.aload_n 0 dX1_forget_5 rfl rfl ?_
  refine GE.iconst dX1_forget_6 kI_0 ?_
  refine GE.pI dX1_forget_7 lF_X1_32 (fun t2 => ?_)
  exact GE.vret (x := ()) dX1_forget_10 rfl (Nat.le_refl _) (Nat.le_refl _)
def fX2_lay (σ : St) (a0 : Nat) (pa1 : Nat) : Option (Unit × St) :=
  (gR 2 1 σ a0).bind fun a1 =>
  (aI 0 σ a1 0).bind fun x2 =>
  (gR 2 1 σ a0).bind fun a3 =>
  (aI 0 σ a3 1).bind fun x4 =>
  (gI 2 5 σ a0).bind fun x5 =>
  bo 7 σ pa1 (fX7_begin σ pa1 x2 x4 x5) (fun w6 t7 =>
  (gR 2 1 t7 a0).bind fun a8 =>
  (aI 0 t7 a8 2).bind fun x9 =>
  (pV 7 5 t7 pa1 (.int x9)).bind (fun t10 =>
  (gR 2 1 t10 a0).bind fun a11 =>
  (aI 0 t10 a11 3).bind fun x12 =>
  (pV 7 4 t10 pa1 (.int x12)).bind (fun t13 =>
  lo2 (fun l16 (x14 : Int32) (t15 : St) =>
    (gI 7 1 t15 pa1).bind fun x17 =>
  if x17 ≤ x14 then
    lo2 (fun l20 (x18 : Int32) (t19 : St) =>
      (gI 2 5 t19 a0).bind fun x21 =>
    if x21 ≤ x18 then
      some ((), t19)
    else
      nam (x18 * 4 : Int32) (fun x22 =>
      (gR 7 10 t19 pa1).bind fun a23 =>
      (gR 2 2 t19 a0).bind fun a24 =>
      (aI 0 t19 a24 (x22 + 1)).bind fun x25 =>
      (gI 7 0 t19 pa1).bind fun x26 =>
      (gR 2 2 t19 a0).bind fun a27 =>
      (aI 0 t19 a27 x22).bind fun x28 =>
      (sI 0 t19 a23 x18 ((x25 * x26) + x28)).bind (fun t29 =>
      (gR 7 11 t29 pa1).bind fun a30 =>
      (gR 2 2 t29 a0).bind fun a31 =>
      (aI 0 t29 a31 (x22 + 2)).bind fun x32 =>
      (sI 0 t29 a30 x18 x32).bind (fun t33 =>
      (gR 7 12 t33 pa1).bind fun a34 =>
      (gR 2 2 t33 a0).bind fun a35 =>
      (aI 0 t33 a35 (x22 + 3)).bind fun x36 =>
      (sI 0 t33 a34 x18 x36).bind (fun t37 =>
      l20 (x18 + 1) t37))))) FU 0 t15
  else
    (gR 2 3 t15 a0).bind fun a38 =>
    (gR 7 9 t15 pa1).bind fun a39 =>
    (gI 7 0 t15 pa1).bind fun x40 =>
    (gI 7 0 t15 pa1).bind fun x41 =>
    (cpr t15 a38 (x14 * 6) a39 (x14 * x40) x41).bind (fun t42 =>
    l16 (x14 + 1) t42)) FU 0 t13)))
set_option maxHeartbeats 4000000 in
set_option maxRecDepth 100000 in
theorem gX2_lay (σ : St) (a0 : Nat) (pa1 : Nat) : CE vU mX2_lay [.ref a0, .ref pa1] σ (fX2_lay σ a0 pa1) := by
  refine CE.ofGEF (lv := [(0, .ref a0), (1, .ref pa1)]) (by decide +kernel) (Nat.le_of_ble_eq_true rfl) rfl ?_
  unfold fX2_lay
  refine GE.aload_n 1 dX2_lay_0 rfl rfl ?_
  refine GE.aload_n 0 dX2_lay_1 rfl rfl ?_
  refine GE.gR dX2_lay_2 lF_X2_11 (fun a1 => ?_)
  refine GE.iconst dX2_lay_5 kI_0 ?_
  refine GE.iald dX2_lay_6 (fun x2 => ?_)
  refine GE.aload_n 0 dX2_lay_7 rfl rfl ?_
  refine GE.gR dX2_lay_8 lF_X2_11 (fun a3 => ?_)
  refine GE.iconst dX2_lay_11 kI_1 ?_
  refine GE.iald dX2_lay_12 (fun x4 => ?_)
  refine GE.aload_n 0 dX2_lay_13 rfl rfl ?_
  refine GE.gI dX2_lay_14 lF_X2_27 (fun x5 => ?_)
  refine GE.callvU [.int x2, .int x4, .int x5] dX2_lay_17 (lV_X2_133) rfl ⟨rfl, rfl⟩ (rokb rfl) (gX7_begin σ pa1 x2 x4 x5) (fun w6 t7 => ?_)
  refine GE.aload_n 1 dX2_lay_20 rfl rfl ?_
  refine GE.aload_n 0 dX2_lay_21 rfl rfl ?_
  refine GE.gR dX2_lay_22 lF_X2_11 (fun a8 => ?_)
  refine GE.iconst dX2_lay_25 kI_2 ?_
  refine GE.iald dX2_lay_26 (fun x9 => ?_)
  refine GE.pI dX2_lay_27 lF_X2_137 (fun t10 => ?_)
  refine GE.aload_n 1 dX2_lay_30 rfl rfl ?_
  refine GE.aload_n 0 dX2_lay_31 rfl rfl ?_
  refine GE.gR dX2_lay_32 lF_X2_11 (fun a11 => ?_)
  refine GE.iconst dX2_lay_35 kI_3 ?_
  refine GE.iald dX2_lay_36 (fun x12 => ?_)
  refine GE.pI dX2_lay_37 lF_X2_140 (fun t13 => ?_)
  refine GE.iconst dX2_lay_40 kI_0 ?_
  refine GE.istore_n (lv' := [(0, .ref a0), (1, .ref pa1), (2, .int 0)]) dX2_lay_41 rfl (by decide) [1, 2, 0] rfl ?_
  refine (GE.lo2 (fun (x14 : Int32) (t15 : St) => [(0, .ref a0), (1, .ref pa1), (2, .int x14)]) (fun (x14 : Int32) (t15 : St) => []) (fun (x14 : Int32) (t15 : St) => t15) (fun l16 hl16 x14 t15 => ?_) FU 0 t13)
  refine GE.iload_n 2 dX2_lay_42 rfl rfl ?_
  refine GE.aload_n 1 dX2_lay_43 rfl rfl ?_
  refine GE.gI dX2_lay_44 lF_X2_143 (fun x17 => ?_)
  refine GE.icmp_ge (tgt := 81) dX2_lay_47 (by decide) ?_ ?_
  · refine GE.iconst dX2_lay_81 kI_0 ?_
    refine GE.istore_n (lv' := [(0, .ref a0), (1, .ref pa1), (2, .int 0)]) dX2_lay_82 rfl (by decide) [1, 2, 0] rfl ?_
    refine (GE.lo2 (fun (x18 : Int32) (t19 : St) => [(0, .ref a0), (1, .ref pa1), (2, .int x18)]) (fun (x18 : Int32) (t19 : St) => []) (fun (x18 : Int32) (t19 : St) => t19) (fun l20 hl20 x18 t19 => ?_) FU 0 t15)
    refine GE.iload_n 2 dX2_lay_83 rfl rfl ?_
    refine GE.aload_n 0 dX2_lay_84 rfl rfl ?_
    refine GE.gI dX2_lay_85 lF_X2_27 (fun x21 => ?_)
    refine GE.icmp_ge (tgt := 155) dX2_lay_88 (by decide) ?_ ?_
    · exact GE.vret (x := ()) dX2_lay_155 rfl (Nat.le_refl _) (Nat.le_refl _)
    · refine GE.iload_n 2 dX2_lay_91 rfl rfl ?_
      refine GE.iconst dX2_lay_92 kI_4 ?_
      refine GE.imul dX2_lay_93 ?_
      refine GE.nami (fun x22 => ?_)
      refine GE.istore_n (lv' := [(0, .ref a0), (1, .ref pa1), (2, .int x18), (3, .int x22)]) dX2_lay_94 rfl (by decide) [1, 2, 3, 0] rfl ?_
      refine GE.aload_n 1 dX2_lay_95 rfl rfl ?_
      refine GE.gR dX2_lay_96 lF_X2_150 (fun a23 => ?_)
      refine GE.iload_n 2 dX2_lay_99 rfl rfl ?_
      refine GE.aload_n 0 dX2_lay_100 rfl rfl ?_
      refine GE.gR dX2_lay_101 lF_X2_17 (fun a24 => ?_)
      refine GE.iload_n 3 dX2_lay_104 rfl rfl ?_
      refine GE.iconst dX2_lay_105 kI_1 ?_
      refine GE.iadd dX2_lay_106 ?_
      refine GE.iald dX2_lay_107 (fun x25 => ?_)
      refine GE.aload_n 1 dX2_lay_108 rfl rfl ?_
      refine GE.gI dX2_lay_109 lF_X2_147 (fun x26 => ?_)
      refine GE.imul dX2_lay_112 ?_
      refine GE.aload_n 0 dX2_lay_113 rfl rfl ?_
      refine GE.gR dX2_lay_114 lF_X2_17 (fun a27 => ?_)
      refine GE.iload_n 3 dX2_lay_117 rfl rfl ?_
      refine GE.iald dX2_lay_118 (fun x28 => ?_)
      refine GE.iadd dX2_lay_119 ?_
      refine GE.iast dX2_lay_120 (fun t29 => ?_)
      refine GE.aload_n 1 dX2_lay_121 rfl rfl ?_
      refine GE.gR dX2_lay_122 lF_X2_153 (fun a30 => ?_)
      refine GE.iload_n 2 dX2_lay_125 rfl rfl ?_
      refine GE.aload_n 0 dX2_lay_126 rfl rfl ?_
      refine GE.gR dX2_lay_127 lF_X2_17 (fun a31 => ?_)
      refine GE.iload_n 3 dX2_lay_130 rfl rfl ?_
      refine GE.iconst dX2_lay_131 kI_2 ?_
      refine GE.iadd dX2_lay_132 ?_
      refine GE.iald dX2_lay_133 (fun x32 => ?_)
      refine GE.iast dX2_lay_134 (fun t33 => ?_)
      refine GE.aload_n 1 dX2_lay_135 rfl rfl ?_
      refine GE.gR dX2_lay_136 lF_X2_156 (fun a34 => ?_)
      refine GE.iload_n 2 dX2_lay_139 rfl rfl ?_
      refine GE.aload_n 0 dX2_lay_140 rfl rfl ?_
      refine GE.gR dX2_lay_141 lF_X2_17 (fun a35 => ?_)
      refine GE.iload_n 3 dX2_lay_144 rfl rfl ?_
      refine GE.iconst dX2_lay_145 kI_3 ?_
      refine GE.iadd dX2_lay_146 ?_
      refine GE.iald dX2_lay_147 (fun x36 => ?_)
      refine GE.iast dX2_lay_148 (fun t37 => ?_)
      refine GE.iinc (lv' := [(0, .ref a0), (1, .ref pa1), (2, .int (x18 + 1)), (3, .int x22)]) 2 dX2_lay_149 rfl kI_1 (by decide) [1, 2, 0, 3] rfl ?_
      refine GE.goto (tgt := 83) dX2_lay_152 (by decide) ?_
      exact GE.sub [0, 1, 2] rfl (hl20 (x18 + 1) t37)
  · refine GE.aload_n 0 dX2_lay_50 rfl rfl ?_
    refine GE.gR dX2_lay_51 lF_X2_20 (fun a38 => ?_)
    refine GE.iload_n 2 dX2_lay_54 rfl rfl ?_
    refine GE.bipush dX2_lay_55 kB_6 ?_
    refine GE.imul dX2_lay_57 ?_
    refine GE.aload_n 1 dX2_lay_58 rfl rfl ?_
    refine GE.gR dX2_lay_59 lF_X2_144 (fun a39 => ?_)
    refine GE.iload_n 2 dX2_lay_62 rfl rfl ?_
    refine GE.aload_n 1 dX2_lay_63 rfl rfl ?_
    refine GE.gI dX2_lay_64 lF_X2_147 (fun x40 => ?_)
    refine GE.imul dX2_lay_67 ?_
    refine GE.aload_n 1 dX2_lay_68 rfl rfl ?_
    refine GE.gI dX2_lay_69 lF_X2_147 (fun x41 => ?_)
    refine GE.cpr dX2_lay_72 lC_X2_81 (Nat.le_of_ble_eq_true rfl) (Nat.le_of_ble_eq_true rfl) (fun t42 => ?_)
    refine GE.iinc (lv' := [(0, .ref a0), (1, .ref pa1), (2, .int (x14 + 1))]) 2 dX2_lay_75 rfl kI_1 (by decide) [1, 2, 0] rfl ?_
    refine GE.goto (tgt := 42) dX2_lay_78 (by decide) ?_
    exact hl16 (x14 + 1) t42
def fX5_forget (σ : St) (a0 : Nat) : Option (Unit × St) :=
  (pV 5 2 σ a0 (.int 0)).bind (fun t1 =>
  if zB 0 = true then (pV 5 6 t1 a0 (.int 0)).bind (fun t2 =>
  some ((), t2)) else none)
set_option maxHeartbeats 4000000 in
set_option maxRecDepth 100000 in
theorem gX5_forget (σ : St) (a0 : Nat) : CE vU mX5_forget [.ref a0] σ (fX5_forget σ a0) := by
  refine CE.ofGEF (lv := [(0, .ref a0)]) (by decide +kernel) (Nat.le_of_ble_eq_true rfl) rfl ?_
  unfold fX5_forget
  refine GE.aload_n 0 dX5_forget_0 rfl rfl ?_
  refine GE.iconst dX5_forget_1 kI_0 ?_
  refine GE.pI dX5_forget_2 lF_X5_21 (fun t1 => ?_)
  refine GE.aload_n 0 dX5_forget_5 rfl rfl ?_
  refine GE.iconst dX5_forget_6 kI_0 ?_
  refine GE.pZ dX5_forget_7 lF_X5_33 (fun t2 => ?_)
  exact GE.vret (x := ()) dX5_forget_10 rfl (Nat.le_refl _) (Nat.le_refl _)
def fX9_takeLand (σ : St) (a0 : Nat) : Option (Int32 × St) :=
  (gR 9 1 σ a0).bind fun a1 =>
  bo 2 σ a1 (fX2_read σ a1) (fun x2 t3 =>
  if x2 = (-1) then
    (gR 9 1 t3 a0).bind fun a4 =>
    (gR 9 9 t3 a0).bind fun a5 =>
    bo 2 t3 a4 (fX2_lay t3 a4 a5) (fun w6 t7 =>
    (gR 9 8 t7 a0).bind fun a8 =>
    (gR 9 9 t7 a0).bind fun a9 =>
    bo 7 t7 a8 (fX7_become t7 a8 a9) (fun w10 t11 =>
    (gR 9 11 t11 a0).bind fun a12 =>
    bo 5 t11 a12 (fX5_forget t11 a12) (fun w13 t14 =>
    (gR 9 12 t14 a0).bind fun a15 =>
    bo 1 t14 a15 (fX1_forget t14 a15) (fun w16 t17 =>
    (gR 9 0 t17 a0).bind fun a18 =>
    (pV 8 1 t17 a18 (.int 0)).bind (fun t19 =>
    (gR 9 8 t19 a0).bind fun a20 =>
    (gI 7 2 t19 a20).bind fun x21 =>
    some (x21, t19))))))
  else
    some ((-1), t3))
set_option maxHeartbeats 4000000 in
set_option maxRecDepth 100000 in
theorem gX9_takeLand (σ : St) (a0 : Nat) : CE vI mX9_takeLand [.ref a0] σ (fX9_takeLand σ a0) := by
  refine CE.ofGEF (lv := [(0, .ref a0)]) (by decide +kernel) (Nat.le_of_ble_eq_true rfl) rfl ?_
  unfold fX9_takeLand
  refine GE.aload_n 0 dX9_takeLand_0 rfl rfl ?_
  refine GE.gR dX9_takeLand_1 lF_X9_21 (fun a1 => ?_)
  refine GE.callvI [] dX9_takeLand_4 (lV_X9_108) rfl ⟨rfl, rfl⟩ (rokb rfl) (gX2_read σ a1) (fun x2 t3 => ?_)
  refine GE.iconst dX9_takeLand_7 kI_m1 ?_
  refine GE.icmp_eq (tgt := 13) dX9_takeLand_8 (by decide) ?_ ?_
  · refine GE.aload_n 0 dX9_takeLand_13 rfl rfl ?_
    refine GE.gR dX9_takeLand_14 lF_X9_21 (fun a4 => ?_)
    refine GE.aload_n 0 dX9_takeLand_17 rfl rfl ?_
    refine GE.gR dX9_takeLand_18 lF_X9_59 (fun a5 => ?_)
    refine GE.callvU [.ref a5] dX9_takeLand_21 (lV_X9_119) rfl ⟨rfl, rfl⟩ (rokb rfl) (gX2_lay t3 a4 a5) (fun w6 t7 => ?_)
    refine GE.aload_n 0 dX9_takeLand_24 rfl rfl ?_
    refine GE.gR dX9_takeLand_25 lF_X9_55 (fun a8 => ?_)
    refine GE.aload_n 0 dX9_takeLand_28 rfl rfl ?_
    refine GE.gR dX9_takeLand_29 lF_X9_59 (fun a9 => ?_)
    refine GE.callvU [.ref a9] dX9_takeLand_32 (lV_X9_123) rfl ⟨rfl, rfl⟩ (rokb rfl) (gX7_become t7 a8 a9) (fun w10 t11 => ?_)
    refine GE.aload_n 0 dX9_takeLand_35 rfl rfl ?_
    refine GE.gR dX9_takeLand_36 lF_X9_68 (fun a12 => ?_)
    refine GE.callvU [] dX9_takeLand_39 (lV_X9_126) rfl ⟨rfl, rfl⟩ (rokb rfl) (gX5_forget t11 a12) (fun w13 t14 => ?_)
    refine GE.aload_n 0 dX9_takeLand_42 rfl rfl ?_
    refine GE.gR dX9_takeLand_43 lF_X9_75 (fun a15 => ?_)
    refine GE.callvU [] dX9_takeLand_46 (lV_X9_129) rfl ⟨rfl, rfl⟩ (rokb rfl) (gX1_forget t14 a15) (fun w16 t17 => ?_)
    refine GE.aload_n 0 dX9_takeLand_49 rfl rfl ?_
    refine GE.gR dX9_takeLand_50 lF_X9_10 (fun a18 => ?_)
    refine GE.iconst dX9_takeLand_53 kI_0 ?_
    refine GE.pI dX9_takeLand_54 lF_X9_101 (fun t19 => ?_)
    refine GE.aload_n 0 dX9_takeLand_57 rfl rfl ?_
    refine GE.gR dX9_takeLand_58 lF_X9_55 (fun a20 => ?_)
    refine GE.gI dX9_takeLand_61 lF_X9_130 (fun x21 => ?_)
    exact GE.iret dX9_takeLand_64 rfl (Nat.le_refl _) (Nat.le_refl _)
  · refine GE.iconst dX9_takeLand_11 kI_m1 ?_
    exact GE.iret dX9_takeLand_12 rfl (Nat.le_refl _) (Nat.le_refl _)
def fX5_takeBack (σ : St) (a0 : Nat) (pa1 : Nat) : Option (Int32 × St) :=
  (gI 5 2 σ a0).bind fun x1 =>
  if x1 = 0 then
    some ((-1), σ)
  else
    (gI 5 1 σ a0).bind fun x2 =>
    if 40 = 0 then none else
    (pV 5 1 σ a0 (.int (((x2 + 40) - 1) - ((x2 + 40) - 1) / 40 * 40))).bind (fun t3 =>
    (gI 5 2 t3 a0).bind fun x4 =>
    (pV 5 2 t3 a0 (.int (x4 - 1))).bind (fun t5 =>
    (gR 5 0 t5 a0).bind fun a6 =>
    (gI 5 1 t5 a0).bind fun x7 =>
    bo 7 t5 pa1 (fX7_load t5 pa1 a6 (x7 * 43)) (fun w8 t9 =>
    (gI 5 2 t9 a0).bind fun x10 =>
    some (x10, t9))))
set_option maxHeartbeats 4000000 in
set_option maxRecDepth 100000 in
theorem gX5_takeBack (σ : St) (a0 : Nat) (pa1 : Nat) : CE vI mX5_takeBack [.ref a0, .ref pa1] σ (fX5_takeBack σ a0 pa1) := by
  refine CE.ofGEF (lv := [(0, .ref a0), (1, .ref pa1)]) (by decide +kernel) (Nat.le_of_ble_eq_true rfl) rfl ?_
  unfold fX5_takeBack
  refine GE.aload_n 0 dX5_takeBack_0 rfl rfl ?_
  refine GE.gI dX5_takeBack_1 lF_X5_21 (fun x1 => ?_)
  refine GE.if_ne (tgt := 9) dX5_takeBack_4 (by decide) ?_ ?_
  · refine GE.aload_n 0 dX5_takeBack_9 rfl rfl ?_
    refine GE.aload_n 0 dX5_takeBack_10 rfl rfl ?_
    refine GE.gI dX5_takeBack_11 lF_X5_17 (fun x2 => ?_)
    refine GE.bipush dX5_takeBack_14 kB_40 ?_
    refine GE.iadd dX5_takeBack_16 ?_
    refine GE.iconst dX5_takeBack_17 kI_1 ?_
    refine GE.isub dX5_takeBack_18 ?_
    refine GE.bipush dX5_takeBack_19 kB_40 ?_
    refine GE.irem dX5_takeBack_21 ?_
    refine GE.pI dX5_takeBack_22 lF_X5_17 (fun t3 => ?_)
    refine GE.aload_n 0 dX5_takeBack_25 rfl rfl ?_
    refine GE.dup dX5_takeBack_26 rfl ?_
    refine GE.gI dX5_takeBack_27 lF_X5_21 (fun x4 => ?_)
    refine GE.iconst dX5_takeBack_30 kI_1 ?_
    refine GE.isub dX5_takeBack_31 ?_
    refine GE.pI dX5_takeBack_32 lF_X5_21 (fun t5 => ?_)
    refine GE.aload_n 1 dX5_takeBack_35 rfl rfl ?_
    refine GE.aload_n 0 dX5_takeBack_36 rfl rfl ?_
    refine GE.gR dX5_takeBack_37 lF_X5_13 (fun a6 => ?_)
    refine GE.aload_n 0 dX5_takeBack_40 rfl rfl ?_
    refine GE.gI dX5_takeBack_41 lF_X5_17 (fun x7 => ?_)
    refine GE.bipush dX5_takeBack_44 kB_43 ?_
    refine GE.imul dX5_takeBack_46 ?_
    refine GE.callvU [.ref a6, .int (x7 * 43)] dX5_takeBack_47 (lV_X5_47) rfl ⟨rfl, rfl⟩ (rokb rfl) (gX7_load t5 pa1 a6 (x7 * 43)) (fun w8 t9 => ?_)
    refine GE.aload_n 0 dX5_takeBack_50 rfl rfl ?_
    refine GE.gI dX5_takeBack_51 lF_X5_21 (fun x10 => ?_)
    exact GE.iret dX5_takeBack_54 rfl (Nat.le_refl _) (Nat.le_refl _)
  · refine GE.iconst dX5_takeBack_7 kI_m1 ?_
    exact GE.iret dX5_takeBack_8 rfl (Nat.le_refl _) (Nat.le_refl _)
def fX9_undo (σ : St) (a0 : Nat) : Option (Int32 × St) :=
  (gR 9 11 σ a0).bind fun a1 =>
  (gR 9 8 σ a0).bind fun a2 =>
  bo 5 σ a1 (fX5_takeBack σ a1 a2) (fun x3 t4 =>
  some (x3, t4))
set_option maxHeartbeats 4000000 in
set_option maxRecDepth 100000 in
theorem gX9_undo (σ : St) (a0 : Nat) : CE vI mX9_undo [.ref a0] σ (fX9_undo σ a0) := by
  refine CE.ofGEF (lv := [(0, .ref a0)]) (by decide +kernel) (Nat.le_of_ble_eq_true rfl) rfl ?_
  unfold fX9_undo
  refine GE.aload_n 0 dX9_undo_0 rfl rfl ?_
  refine GE.gR dX9_undo_1 lF_X9_68 (fun a1 => ?_)
  refine GE.aload_n 0 dX9_undo_4 rfl rfl ?_
  refine GE.gR dX9_undo_5 lF_X9_55 (fun a2 => ?_)
  refine GE.callvI [.ref a2] dX9_undo_8 (lV_X9_243) rfl ⟨rfl, rfl⟩ (rokb rfl) (gX5_takeBack σ a1 a2) (fun x3 t4 => ?_)
  exact GE.iret dX9_undo_11 rfl (Nat.le_refl _) (Nat.le_refl _)
def fX7_seenBy (σ : St) (a0 : Nat) (px1 : Int32) (pq2 : Option Nat) : Option (Int32 × St) :=
  lo6 (fun l7 (x1 : Int32) (x2 : Int32) (x3 : Int32) (x4 : Int32) (x5 : Int32) (t6 : St) =>
    (gI 7 3 t6 a0).bind fun x8 =>
  if x8 ≤ x5 then
    if px1 = 1 then
      some (x1, t6)
    else
      if px1 = 2 then
        some (x2, t6)
      else
        if px1 = 3 then
          some (x3, t6)
        else
          some (x4, t6)
  else
    bo 7 t6 a0 (fX7_sight t6 a0 x5 pq2) (fun x9 t10 =>
    nam (x4 ||| (x3 &&& x9) : Int32) (fun x11 =>
    nam (x3 ||| (x2 &&& x9) : Int32) (fun x12 =>
    nam (x2 ||| (x1 &&& x9) : Int32) (fun x13 =>
    nam (x1 ||| x9 : Int32) (fun x14 =>
    l7 x14 x13 x12 x11 (x5 + 1) t10)))))) FU 0 0 0 0 0 σ
set_option maxHeartbeats 4000000 in
set_option maxRecDepth 100000 in
theorem gX7_seenBy (σ : St) (a0 : Nat) (px1 : Int32) (pq2 : Option Nat) : CE vI mX7_seenBy [.ref a0, .int px1, va_rf pq2] σ (fX7_seenBy σ a0 px1 pq2) := by
  refine CE.ofGEF (lv := [(0, .ref a0), (1, .int px1), (2, va_rf pq2)]) (by decide +kernel) (by cases pq2 <;> exact Nat.le_of_ble_eq_true rfl) rfl ?_
  unfold fX7_seenBy
  refine GE.iconst dX7_seenBy_0 kI_0 ?_
  refine GE.istore_n (lv' := [(0, .ref a0), (1, .int px1), (2, va_rf pq2), (3, .int 0)]) dX7_seenBy_1 rfl (by decide) [1, 2, 3, 0] (by cases pq2 <;> rfl) ?_
  refine GE.iconst dX7_seenBy_2 kI_0 ?_
  refine GE.istore (lv' := [(0, .ref a0), (1, .int px1), (2, va_rf pq2), (3, .int 0), (4, .int 0)]) dX7_seenBy_3 (by decide) [1, 2, 3, 4, 0] rfl ?_
  refine GE.iconst dX7_seenBy_5 kI_0 ?_
  refine GE.istore (lv' := [(0, .ref a0), (1, .int px1), (2, va_rf pq2), (3, .int 0), (4, .int 0), (5, .int 0)]) dX7_seenBy_6 (by decide) [1, 2, 3, 4, 5, 0] rfl ?_
  refine GE.iconst dX7_seenBy_8 kI_0 ?_
  refine GE.istore (lv' := [(0, .ref a0), (1, .int px1), (2, va_rf pq2), (3, .int 0), (4, .int 0), (5, .int 0), (6, .int 0)]) dX7_seenBy_9 (by decide) [1, 2, 3, 4, 5, 6, 0] rfl ?_
  refine GE.iconst dX7_seenBy_11 kI_0 ?_
  refine GE.istore (lv' := [(0, .ref a0), (1, .int px1), (2, va_rf pq2), (3, .int 0), (4, .int 0), (5, .int 0), (6, .int 0), (7, .int 0)]) dX7_seenBy_12 (by decide) [1, 2, 3, 4, 5, 6, 7, 0] rfl ?_
  refine (GE.lo6 (fun (x1 : Int32) (x2 : Int32) (x3 : Int32) (x4 : Int32) (x5 : Int32) (t6 : St) => [(0, .ref a0), (1, .int px1), (2, va_rf pq2), (3, .int x1), (4, .int x2), (5, .int x3), (6, .int x4), (7, .int x5)]) (fun (x1 : Int32) (x2 : Int32) (x3 : Int32) (x4 : Int32) (x5 : Int32) (t6 : St) => []) (fun (x1 : Int32) (x2 : Int32) (x3 : Int32) (x4 : Int32) (x5 : Int32) (t6 : St) => t6) (fun l7 hl7 x1 x2 x3 x4 x5 t6 => ?_) FU 0 0 0 0 0 σ)
  refine GE.iload 7 dX7_seenBy_14 rfl ?_
  refine GE.aload_n 0 dX7_seenBy_16 rfl rfl ?_
  refine GE.gI dX7_seenBy_17 lF_X7_21 (fun x8 => ?_)
  refine GE.icmp_ge (tgt := 72) dX7_seenBy_20 (by decide) ?_ ?_
  · refine GE.iload_n 1 dX7_seenBy_72 rfl rfl ?_
    refine GE.iconst dX7_seenBy_73 kI_1 ?_
    refine GE.icmp_ne (tgt := 81) dX7_seenBy_74 (by decide) ?_ ?_
    · refine GE.iload_n 1 dX7_seenBy_81 rfl rfl ?_
      refine GE.iconst dX7_seenBy_82 kI_2 ?_
      refine GE.icmp_ne (tgt := 91) dX7_seenBy_83 (by decide) ?_ ?_
      · refine GE.iload_n 1 dX7_seenBy_91 rfl rfl ?_
        refine GE.iconst dX7_seenBy_92 kI_3 ?_
        refine GE.icmp_ne (tgt := 101) dX7_seenBy_93 (by decide) ?_ ?_
        · refine GE.iload 6 dX7_seenBy_101 rfl ?_
          exact GE.iret dX7_seenBy_103 rfl (Nat.le_refl _) (Nat.le_refl _)
        · refine GE.iload 5 dX7_seenBy_96 rfl ?_
          refine GE.goto (tgt := 103) dX7_seenBy_98 (by decide) ?_
          exact GE.iret dX7_seenBy_103 rfl (Nat.le_refl _) (Nat.le_refl _)
      · refine GE.iload 4 dX7_seenBy_86 rfl ?_
        refine GE.goto (tgt := 103) dX7_seenBy_88 (by decide) ?_
        exact GE.iret dX7_seenBy_103 rfl (Nat.le_refl _) (Nat.le_refl _)
    · refine GE.iload_n 3 dX7_seenBy_77 rfl rfl ?_
      refine GE.goto (tgt := 103) dX7_seenBy_78 (by decide) ?_
      exact GE.iret dX7_seenBy_103 rfl (Nat.le_refl _) (Nat.le_refl _)
  · refine GE.aload_n 0 dX7_seenBy_23 rfl rfl ?_
    refine GE.iload 7 dX7_seenBy_24 rfl ?_
    refine GE.aloadq_n 2 dX7_seenBy_26 rfl rfl ?_
    refine GE.callvI [.int x5, va_rf pq2] dX7_seenBy_27 (lV_X7_103) rfl ⟨rfl, rfl⟩ (rokb rfl) (gX7_sight t6 a0 x5 pq2) (fun x9 t10 => ?_)
    refine GE.istore (lv' := [(0, .ref a0), (1, .int px1), (2, va_rf pq2), (3, .int x1), (4, .int x2), (5, .int x3), (6, .int x4), (7, .int x5), (8, .int x9)]) dX7_seenBy_30 (by decide) [1, 2, 3, 4, 5, 6, 7, 8, 0] rfl ?_
    refine GE.iload 6 dX7_seenBy_32 rfl ?_
    refine GE.iload 5 dX7_seenBy_34 rfl ?_
    refine GE.iload 8 dX7_seenBy_36 rfl ?_
    refine GE.iand dX7_seenBy_38 ?_
    refine GE.ior dX7_seenBy_39 ?_
    refine GE.nami (fun x11 => ?_)
    refine GE.istore (lv' := [(0, .ref a0), (1, .int px1), (2, va_rf pq2), (3, .int x1), (4, .int x2), (5, .int x3), (6, .int x11), (7, .int x5), (8, .int x9)]) dX7_seenBy_40 (by decide) [1, 2, 3, 4, 5, 6, 0, 7, 8] rfl ?_
    refine GE.iload 5 dX7_seenBy_42 rfl ?_
    refine GE.iload 4 dX7_seenBy_44 rfl ?_
    refine GE.iload 8 dX7_seenBy_46 rfl ?_
    refine GE.iand dX7_seenBy_48 ?_
    refine GE.ior dX7_seenBy_49 ?_
    refine GE.nami (fun x12 => ?_)
    refine GE.istore (lv' := [(0, .ref a0), (1, .int px1), (2, va_rf pq2), (3, .int x1), (4, .int x2), (5, .int x12), (6, .int x11), (7, .int x5), (8, .int x9)]) dX7_seenBy_50 (by decide) [1, 2, 3, 4, 5, 0, 6, 7, 8] rfl ?_
    refine GE.iload 4 dX7_seenBy_52 rfl ?_
    refine GE.iload_n 3 dX7_seenBy_54 rfl rfl ?_
    refine GE.iload 8 dX7_seenBy_55 rfl ?_
    refine GE.iand dX7_seenBy_57 ?_
    refine GE.ior dX7_seenBy_58 ?_
    refine GE.nami (fun x13 => ?_)
    refine GE.istore (lv' := [(0, .ref a0), (1, .int px1), (2, va_rf pq2), (3, .int x1), (4, .int x13), (5, .int x12), (6, .int x11), (7, .int x5), (8, .int x9)]) dX7_seenBy_59 (by decide) [1, 2, 3, 4, 0, 5, 6, 7, 8] rfl ?_
    refine GE.iload_n 3 dX7_seenBy_61 rfl rfl ?_
    refine GE.iload 8 dX7_seenBy_62 rfl ?_
    refine GE.ior dX7_seenBy_64 ?_
    refine GE.nami (fun x14 => ?_)
    refine GE.istore_n (lv' := [(0, .ref a0), (1, .int px1), (2, va_rf pq2), (3, .int x14), (4, .int x13), (5, .int x12), (6, .int x11), (7, .int x5), (8, .int x9)]) dX7_seenBy_65 rfl (by decide) [1, 2, 3, 0, 4, 5, 6, 7, 8] (by cases pq2 <;> rfl) ?_
    refine GE.iinc (lv' := [(0, .ref a0), (1, .int px1), (2, va_rf pq2), (3, .int x14), (4, .int x13), (5, .int x12), (6, .int x11), (7, .int (x5 + 1)), (8, .int x9)]) 7 dX7_seenBy_66 rfl kI_1 (by decide) [1, 2, 3, 4, 5, 6, 7, 0, 8] rfl ?_
    refine GE.goto (tgt := 14) dX7_seenBy_69 (by decide) ?_
    exact GE.sub [0, 1, 2, 3, 4, 5, 6, 7] rfl (hl7 x14 x13 x12 x11 (x5 + 1) t10)
def fX9_watched (σ : St) (a0 : Nat) (px1 : Int32) : Option (Int32 × St) :=
  bo 9 σ a0 (fX9_noLand σ a0) (fun x1 t2 =>
  if x1 = 0 then
    if px1 < 1 then
      some ((-1), t2)
    else
      if px1 ≤ 4 then
        (gR 9 8 t2 a0).bind fun a3 =>
        bo 9 t2 a0 (fX9_ruling t2 a0) (fun q4 t5 =>
        bo 7 t5 a3 (fX7_seenBy t5 a3 px1 q4) (fun x6 t7 =>
        some (x6, t7)))
      else
        some ((-1), t2)
  else
    some ((-1), t2))
set_option maxHeartbeats 4000000 in
set_option maxRecDepth 100000 in
theorem gX9_watched (σ : St) (a0 : Nat) (px1 : Int32) : CE vI mX9_watched [.ref a0, .int px1] σ (fX9_watched σ a0 px1) := by
  refine CE.ofGEF (lv := [(0, .ref a0), (1, .int px1)]) (by decide +kernel) (Nat.le_of_ble_eq_true rfl) rfl ?_
  unfold fX9_watched
  refine GE.aload_n 0 dX9_watched_0 rfl rfl ?_
  refine GE.callvI [] dX9_watched_1 (lV_X9_137) rfl ⟨rfl, rfl⟩ (rokb rfl) (gX9_noLand σ a0) (fun x1 t2 => ?_)
  refine GE.if_ne (tgt := 17) dX9_watched_4 (by decide) ?_ ?_
  · refine GE.iconst dX9_watched_17 kI_m1 ?_
    exact GE.iret dX9_watched_18 rfl (Nat.le_refl _) (Nat.le_refl _)
  · refine GE.iload_n 1 dX9_watched_7 rfl rfl ?_
    refine GE.iconst dX9_watched_8 kI_1 ?_
    refine GE.icmp_lt (tgt := 17) dX9_watched_9 (by decide) ?_ ?_
    · refine GE.iconst dX9_watched_17 kI_m1 ?_
      exact GE.iret dX9_watched_18 rfl (Nat.le_refl _) (Nat.le_refl _)
    · refine GE.iload_n 1 dX9_watched_12 rfl rfl ?_
      refine GE.iconst dX9_watched_13 kI_4 ?_
      refine GE.icmp_le (tgt := 19) dX9_watched_14 (by decide) ?_ ?_
      · refine GE.aload_n 0 dX9_watched_19 rfl rfl ?_
        refine GE.gR dX9_watched_20 lF_X9_55 (fun a3 => ?_)
        refine GE.iload_n 1 dX9_watched_23 rfl rfl ?_
        refine GE.aload_n 0 dX9_watched_24 rfl rfl ?_
        refine GE.callvQ [] dX9_watched_25 (lV_X9_179) rfl ⟨rfl, rfl⟩ (rokb rfl) (gX9_ruling t2 a0) (fun q4 t5 => ?_)
        refine GE.callvI [.int px1, va_rf q4] dX9_watched_28 (lV_X9_286) rfl ⟨rfl, rfl⟩ (rokb rfl) (gX7_seenBy t5 a3 px1 q4) (fun x6 t7 => ?_)
        exact GE.iret dX9_watched_31 rfl (Nat.le_refl _) (Nat.le_refl _)
      · refine GE.iconst dX9_watched_17 kI_m1 ?_
        exact GE.iret dX9_watched_18 rfl (Nat.le_refl _) (Nat.le_refl _)
def fX6_firstStep (σ : St) (a0 : Nat) (pa1 : Nat) (px2 : Int32) : Option (Int32 × St) :=
  (gR 6 0 σ a0).bind fun a1 =>
  (aI 0 σ a1 px2).bind fun x2 =>
  if x2 < 1000 then
    lo2 (fun l5 (x3 : Int32) (t4 : St) =>
      if 4 ≤ x3 then
      some ((-1), t4)
    else
      bo 7 t4 pa1 (fX7_beside t4 pa1 px2 x3) (fun x6 t7 =>
      bo 7 t7 pa1 (fX7_hasCell t7 pa1 x6) (fun x8 t9 =>
      jo1 (fun (u9 : Unit) =>
        l5 (x3 + 1) t9) (fun j10 =>
        if x8 = 0 then
          j10 () 
        else
          (gR 6 0 t9 a0).bind fun a11 =>
          (aI 0 t9 a11 x6).bind fun x12 =>
          (gR 6 0 t9 a0).bind fun a13 =>
          (aI 0 t9 a13 px2).bind fun x14 =>
          if x12 = x14 - 1 then
            some (x6, t9)
          else
            j10 () )))) FU 0 σ
  else
    some ((-1), σ)
set_option maxHeartbeats 4000000 in
set_option maxRecDepth 100000 in
theorem gX6_firstStep (σ : St) (a0 : Nat) (pa1 : Nat) (px2 : Int32) : CE vI mX6_firstStep [.ref a0, .ref pa1, .int px2] σ (fX6_firstStep σ a0 pa1 px2) := by
  refine CE.ofGEF (lv := [(0, .ref a0), (1, .ref pa1), (2, .int px2)]) (by decide +kernel) (Nat.le_of_ble_eq_true rfl) rfl ?_
  unfold fX6_firstStep
  refine GE.aload_n 0 dX6_firstStep_0 rfl rfl ?_
  refine GE.gR dX6_firstStep_1 lF_X6_11 (fun a1 => ?_)
  refine GE.iload_n 2 dX6_firstStep_4 rfl rfl ?_
  refine GE.iald dX6_firstStep_5 (fun x2 => ?_)
  refine GE.sipush dX6_firstStep_6 kS_1000 ?_
  refine GE.icmp_lt (tgt := 14) dX6_firstStep_9 (by decide) ?_ ?_
  · refine GE.iconst dX6_firstStep_14 kI_0 ?_
    refine GE.istore_n (lv' := [(0, .ref a0), (1, .ref pa1), (2, .int px2), (3, .int 0)]) dX6_firstStep_15 rfl (by decide) [1, 2, 3, 0] rfl ?_
    refine (GE.lo2 (fun (x3 : Int32) (t4 : St) => [(0, .ref a0), (1, .ref pa1), (2, .int px2), (3, .int x3)]) (fun (x3 : Int32) (t4 : St) => []) (fun (x3 : Int32) (t4 : St) => t4) (fun l5 hl5 x3 t4 => ?_) FU 0 σ)
    refine GE.iload_n 3 dX6_firstStep_16 rfl rfl ?_
    refine GE.iconst dX6_firstStep_17 kI_4 ?_
    refine GE.icmp_ge (tgt := 65) dX6_firstStep_18 (by decide) ?_ ?_
    · refine GE.iconst dX6_firstStep_65 kI_m1 ?_
      exact GE.iret dX6_firstStep_66 rfl (Nat.le_refl _) (Nat.le_refl _)
    · refine GE.aload_n 1 dX6_firstStep_21 rfl rfl ?_
      refine GE.iload_n 2 dX6_firstStep_22 rfl rfl ?_
      refine GE.iload_n 3 dX6_firstStep_23 rfl rfl ?_
      refine GE.callvI [.int px2, .int x3] dX6_firstStep_24 (lV_X6_31) rfl ⟨rfl, rfl⟩ (rokb rfl) (gX7_beside t4 pa1 px2 x3) (fun x6 t7 => ?_)
      refine GE.istore (lv' := [(0, .ref a0), (1, .ref pa1), (2, .int px2), (3, .int x3), (4, .int x6)]) dX6_firstStep_27 (by decide) [1, 2, 3, 4, 0] rfl ?_
      refine GE.aload_n 1 dX6_firstStep_29 rfl rfl ?_
      refine GE.iload 4 dX6_firstStep_30 rfl ?_
      refine GE.callvI [.int x6] dX6_firstStep_32 (lV_X6_35) rfl ⟨rfl, rfl⟩ (rokb rfl) (gX7_hasCell t7 pa1 x6) (fun x8 t9 => ?_)
      refine GE.jo1 59 (fun (u9 : Unit) => [(0, .ref a0), (1, .ref pa1), (2, .int px2), (3, .int x3)]) (fun (u9 : Unit) => []) (fun (u9 : Unit) => t9) (fun u9 => ?_) (fun j10 hj10 => ?_)
      · refine GE.iinc (lv' := [(0, .ref a0), (1, .ref pa1), (2, .int px2), (3, .int (x3 + 1))]) 3 dX6_firstStep_59 rfl kI_1 (by decide) [1, 2, 3, 0] rfl ?_
        refine GE.goto (tgt := 16) dX6_firstStep_62 (by decide) ?_
        exact hl5 (x3 + 1) t9
      · refine GE.if_eq (tgt := 59) dX6_firstStep_35 (by decide) ?_ ?_
        · exact GE.sub [0, 1, 2, 3] rfl (hj10 () )
        · refine GE.aload_n 0 dX6_firstStep_38 rfl rfl ?_
          refine GE.gR dX6_firstStep_39 lF_X6_11 (fun a11 => ?_)
          refine GE.iload 4 dX6_firstStep_42 rfl ?_
          refine GE.iald dX6_firstStep_44 (fun x12 => ?_)
          refine GE.aload_n 0 dX6_firstStep_45 rfl rfl ?_
          refine GE.gR dX6_firstStep_46 lF_X6_11 (fun a13 => ?_)
          refine GE.iload_n 2 dX6_firstStep_49 rfl rfl ?_
          refine GE.iald dX6_firstStep_50 (fun x14 => ?_)
          refine GE.iconst dX6_firstStep_51 kI_1 ?_
          refine GE.isub dX6_firstStep_52 ?_
          refine GE.icmp_ne (tgt := 59) dX6_firstStep_53 (by decide) ?_ ?_
          · exact GE.sub [0, 1, 2, 3] rfl (hj10 () )
          · refine GE.iload 4 dX6_firstStep_56 rfl ?_
            exact GE.iret dX6_firstStep_58 rfl (Nat.le_refl _) (Nat.le_refl _)
  · refine GE.iconst dX6_firstStep_12 kI_m1 ?_
    exact GE.iret dX6_firstStep_13 rfl (Nat.le_refl _) (Nat.le_refl _)
def fX6_steps (σ : St) (a0 : Nat) (px1 : Int32) : Option (Int32 × St) :=
  (gR 6 0 σ a0).bind fun a1 =>
  (aI 0 σ a1 px1).bind fun x2 =>
  if 1000 ≤ x2 then
    some ((-1), σ)
  else
    (gR 6 0 σ a0).bind fun a3 =>
    (aI 0 σ a3 px1).bind fun x4 =>
    some (x4 - 1, σ)
set_option maxHeartbeats 4000000 in
set_option maxRecDepth 100000 in
theorem gX6_steps (σ : St) (a0 : Nat) (px1 : Int32) : CE vI mX6_steps [.ref a0, .int px1] σ (fX6_steps σ a0 px1) := by
  refine CE.ofGEF (lv := [(0, .ref a0), (1, .int px1)]) (by decide +kernel) (Nat.le_of_ble_eq_true rfl) rfl ?_
  unfold fX6_steps
  refine GE.aload_n 0 dX6_steps_0 rfl rfl ?_
  refine GE.gR dX6_steps_1 lF_X6_11 (fun a1 => ?_)
  refine GE.iload_n 1 dX6_steps_4 rfl rfl ?_
  refine GE.iald dX6_steps_5 (fun x2 => ?_)
  refine GE.sipush dX6_steps_6 kS_1000 ?_
  refine GE.icmp_ge (tgt := 23) dX6_steps_9 (by decide) ?_ ?_
  · refine GE.iconst dX6_steps_23 kI_m1 ?_
    exact GE.iret dX6_steps_24 rfl (Nat.le_refl _) (Nat.le_refl _)
  · refine GE.aload_n 0 dX6_steps_12 rfl rfl ?_
    refine GE.gR dX6_steps_13 lF_X6_11 (fun a3 => ?_)
    refine GE.iload_n 1 dX6_steps_16 rfl rfl ?_
    refine GE.iald dX6_steps_17 (fun x4 => ?_)
    refine GE.iconst dX6_steps_18 kI_1 ?_
    refine GE.isub dX6_steps_19 ?_
    refine GE.goto (tgt := 24) dX6_steps_20 (by decide) ?_
    exact GE.iret dX6_steps_24 rfl (Nat.le_refl _) (Nat.le_refl _)
def fX9_way (σ : St) (a0 : Nat) (px1 : Int32) (px2 : Int32) (px3 : Int32) : Option (Int32 × St) :=
  (gR 9 8 σ a0).bind fun a1 =>
  bo 7 σ a1 (fX7_hasCell σ a1 px1) (fun x2 t3 =>
  if x2 = 0 then
    some ((-1), t3)
  else
    (gR 9 8 t3 a0).bind fun a4 =>
    bo 7 t3 a4 (fX7_hasCell t3 a4 px2) (fun x5 t6 =>
    if x5 = 0 then
      some ((-1), t6)
    else
      if px3 < 0 then
        some ((-1), t6)
      else
        if px3 ≤ 1 then
          (gR 9 13 t6 a0).bind fun a7 =>
          (gR 9 8 t6 a0).bind fun a8 =>
          (gR 9 8 t6 a0).bind fun a9 =>
          bo 9 t6 a0 (fX9_ruling t6 a0) (fun q10 t11 =>
          bo 7 t11 a9 (fX7_hidden t11 a9 q10) (fun x12 t13 =>
          bo 6 t13 a7 (fX6_measure t13 a7 a8 px2 x12 1 1000) (fun w14 t15 =>
          if px3 = 0 then
            (gR 9 13 t15 a0).bind fun a20 =>
            bo 6 t15 a20 (fX6_steps t15 a20 px1) (fun x21 t22 =>
            some (x21, t22))
          else
            (gR 9 13 t15 a0).bind fun a16 =>
            (gR 9 8 t15 a0).bind fun a17 =>
            bo 6 t15 a16 (fX6_firstStep t15 a16 a17 px1) (fun x18 t19 =>
            some (x18, t19)))))
        else
          some ((-1), t6)))
set_option maxHeartbeats 4000000 in
set_option maxRecDepth 100000 in
theorem gX9_way (σ : St) (a0 : Nat) (px1 : Int32) (px2 : Int32) (px3 : Int32) : CE vI mX9_way [.ref a0, .int px1, .int px2, .int px3] σ (fX9_way σ a0 px1 px2 px3) := by
  refine CE.ofGEF (lv := [(0, .ref a0), (1, .int px1), (2, .int px2), (3, .int px3)]) (by decide +kernel) (Nat.le_of_ble_eq_true rfl) rfl ?_
  unfold fX9_way
  refine GE.aload_n 0 dX9_way_0 rfl rfl ?_
  refine GE.gR dX9_way_1 lF_X9_55 (fun a1 => ?_)
  refine GE.iload_n 1 dX9_way_4 rfl rfl ?_
  refine GE.callvI [.int px1] dX9_way_5 (lV_X9_153) rfl ⟨rfl, rfl⟩ (rokb rfl) (gX7_hasCell σ a1 px1) (fun x2 t3 => ?_)
  refine GE.if_eq (tgt := 31) dX9_way_8 (by decide) ?_ ?_
  · refine GE.iconst dX9_way_31 kI_m1 ?_
    exact GE.iret dX9_way_32 rfl (Nat.le_refl _) (Nat.le_refl _)
  · refine GE.aload_n 0 dX9_way_11 rfl rfl ?_
    refine GE.gR dX9_way_12 lF_X9_55 (fun a4 => ?_)
    refine GE.iload_n 2 dX9_way_15 rfl rfl ?_
    refine GE.callvI [.int px2] dX9_way_16 (lV_X9_153) rfl ⟨rfl, rfl⟩ (rokb rfl) (gX7_hasCell t3 a4 px2) (fun x5 t6 => ?_)
    refine GE.if_eq (tgt := 31) dX9_way_19 (by decide) ?_ ?_
    · refine GE.iconst dX9_way_31 kI_m1 ?_
      exact GE.iret dX9_way_32 rfl (Nat.le_refl _) (Nat.le_refl _)
    · refine GE.iload_n 3 dX9_way_22 rfl rfl ?_
      refine GE.if_lt (tgt := 31) dX9_way_23 (by decide) ?_ ?_
      · refine GE.iconst dX9_way_31 kI_m1 ?_
        exact GE.iret dX9_way_32 rfl (Nat.le_refl _) (Nat.le_refl _)
      · refine GE.iload_n 3 dX9_way_26 rfl rfl ?_
        refine GE.iconst dX9_way_27 kI_1 ?_
        refine GE.icmp_le (tgt := 33) dX9_way_28 (by decide) ?_ ?_
        · refine GE.aload_n 0 dX9_way_33 rfl rfl ?_
          refine GE.gR dX9_way_34 lF_X9_82 (fun a7 => ?_)
          refine GE.aload_n 0 dX9_way_37 rfl rfl ?_
          refine GE.gR dX9_way_38 lF_X9_55 (fun a8 => ?_)
          refine GE.iload_n 2 dX9_way_41 rfl rfl ?_
          refine GE.aload_n 0 dX9_way_42 rfl rfl ?_
          refine GE.gR dX9_way_43 lF_X9_55 (fun a9 => ?_)
          refine GE.aload_n 0 dX9_way_46 rfl rfl ?_
          refine GE.callvQ [] dX9_way_47 (lV_X9_179) rfl ⟨rfl, rfl⟩ (rokb rfl) (gX9_ruling t6 a0) (fun q10 t11 => ?_)
          refine GE.callvI [va_rf q10] dX9_way_50 (lV_X9_209) rfl ⟨rfl, rfl⟩ (rokb rfl) (gX7_hidden t11 a9 q10) (fun x12 t13 => ?_)
          refine GE.iconst dX9_way_53 kI_1 ?_
          refine GE.sipush dX9_way_54 kS_1000 ?_
          refine GE.callvU [.ref a8, .int px2, .int x12, .int 1, .int 1000] dX9_way_57 (lV_X9_269) rfl ⟨rfl, rfl⟩ (rokb rfl) (gX6_measure t13 a7 a8 px2 x12 1 1000) (fun w14 t15 => ?_)
          refine GE.iload_n 3 dX9_way_60 rfl rfl ?_
          refine GE.if_ne (tgt := 75) dX9_way_61 (by decide) ?_ ?_
          · refine GE.aload_n 0 dX9_way_75 rfl rfl ?_
            refine GE.gR dX9_way_76 lF_X9_82 (fun a16 => ?_)
            refine GE.aload_n 0 dX9_way_79 rfl rfl ?_
            refine GE.gR dX9_way_80 lF_X9_55 (fun a17 => ?_)
            refine GE.iload_n 1 dX9_way_83 rfl rfl ?_
            refine GE.callvI [.ref a17, .int px1] dX9_way_84 (lV_X9_276) rfl ⟨rfl, rfl⟩ (rokb rfl) (gX6_firstStep t15 a16 a17 px1) (fun x18 t19 => ?_)
            exact GE.iret dX9_way_87 rfl (Nat.le_refl _) (Nat.le_refl _)
          · refine GE.aload_n 0 dX9_way_64 rfl rfl ?_
            refine GE.gR dX9_way_65 lF_X9_82 (fun a20 => ?_)
            refine GE.iload_n 1 dX9_way_68 rfl rfl ?_
            refine GE.callvI [.int px1] dX9_way_69 (lV_X9_273) rfl ⟨rfl, rfl⟩ (rokb rfl) (gX6_steps t15 a20 px1) (fun x21 t22 => ?_)
            refine GE.goto (tgt := 87) dX9_way_72 (by decide) ?_
            exact GE.iret dX9_way_87 rfl (Nat.le_refl _) (Nat.le_refl _)
        · refine GE.iconst dX9_way_31 kI_m1 ?_
          exact GE.iret dX9_way_32 rfl (Nat.le_refl _) (Nat.le_refl _)
def fX9_draw (σ : St) (a0 : Nat) (px1 : Int32) : Option (Int32 × St) :=
  (gL 9 15 σ a0).bind fun x1 =>
  (pV 9 15 σ a0 (.long ((x1 * 6364136223846793005) + 1442695040888963407))).bind (fun t2 =>
  if 1 ≤ px1 then
    (gL 9 15 t2 a0).bind fun x3 =>
    if Int32.toInt64 px1 = 0 then none else
    some (Int64.toInt32 (((Int64.toUInt64 x3 >>> ((Int32.toInt64 33).toUInt64 &&& Int64.toUInt64 63)).toInt64) - ((Int64.toUInt64 x3 >>> ((Int32.toInt64 33).toUInt64 &&& Int64.toUInt64 63)).toInt64) / (Int32.toInt64 px1) * (Int32.toInt64 px1)), t2)
  else
    some (0, t2))
set_option maxHeartbeats 4000000 in
set_option maxRecDepth 100000 in
theorem gX9_draw (σ : St) (a0 : Nat) (px1 : Int32) : CE vI mX9_draw [.ref a0, .int px1] σ (fX9_draw σ a0 px1) := by
  refine CE.ofGEF (lv := [(0, .ref a0), (1, .int px1)]) (by decide +kernel) (Nat.le_of_ble_eq_true rfl) rfl ?_
  unfold fX9_draw
  refine GE.aload_n 0 dX9_draw_0 rfl rfl ?_
  refine GE.aload_n 0 dX9_draw_1 rfl rfl ?_
  refine GE.gL dX9_draw_2 lF_X9_93 (fun x1 => ?_)
  refine GE.ldc2 (v := 6364136223846793005) dX9_draw_5 lKL_X9_236 ?_
  refine GE.lmul dX9_draw_8 ?_
  refine GE.ldc2 (v := 1442695040888963407) dX9_draw_9 lKL_X9_238 ?_
  refine GE.ladd dX9_draw_12 ?_
  refine GE.pL dX9_draw_13 lF_X9_93 (fun t2 => ?_)
  refine GE.iload_n 1 dX9_draw_16 rfl rfl ?_
  refine GE.iconst dX9_draw_17 kI_1 ?_
  refine GE.icmp_ge (tgt := 25) dX9_draw_18 (by decide) ?_ ?_
  · refine GE.aload_n 0 dX9_draw_25 rfl rfl ?_
    refine GE.gL dX9_draw_26 lF_X9_93 (fun x3 => ?_)
    refine GE.bipush dX9_draw_29 kB_33 ?_
    refine GE.lushr dX9_draw_31 ?_
    refine GE.iload_n 1 dX9_draw_32 rfl rfl ?_
    refine GE.i2l dX9_draw_33 ?_
    refine GE.lrem dX9_draw_34 ?_
    refine GE.l2i dX9_draw_35 ?_
    exact GE.iret dX9_draw_36 rfl (Nat.le_refl _) (Nat.le_refl _)
  · refine GE.iconst dX9_draw_21 kI_0 ?_
    refine GE.goto (tgt := 36) dX9_draw_22 (by decide) ?_
    exact GE.iret dX9_draw_36 rfl (Nat.le_refl _) (Nat.le_refl _)
def fX9_changeByDraws (σ : St) (a0 : Nat) : Option (Unit × St) :=
  (gR 9 8 σ a0).bind fun a1 =>
  (gI 7 2 σ a1).bind fun x2 =>
  bo 9 σ a0 (fX9_draw σ a0 x2) (fun x3 t4 =>
  bo 9 t4 a0 (fX9_draw t4 a0 3) (fun x5 t6 =>
  nam (x5 - 1 : Int32) (fun x7 =>
  (gR 9 8 t6 a0).bind fun a8 =>
  bo 7 t6 a8 (fX7_hasCell t6 a8 x3) (fun x9 t10 =>
  jo1 (fun (t11 : St) =>
    bo 9 t11 a0 (fX9_draw t11 a0 10) (fun x13 t14 =>
    (gI 9 6 t14 a0).bind fun x15 =>
    if x15 ≤ x13 then
      some ((), t14)
    else
      (gR 9 8 t14 a0).bind fun a16 =>
      (gR 9 8 t14 a0).bind fun a17 =>
      (gI 7 4 t14 a17).bind fun x18 =>
      bd (fJ9_min_7cf53 t14 9 (x18 + 2)) (fun x19 t20 =>
      (pV 7 4 t20 a16 (.int x19)).bind (fun t21 =>
      some ((), t21))))) (fun j12 =>
    if x9 = 0 then
      j12 t10
    else
      (gR 9 8 t10 a0).bind fun a22 =>
      (gR 7 9 t10 a22).bind fun a23 =>
      (gR 9 8 t10 a0).bind fun a24 =>
      (gR 7 9 t10 a24).bind fun a25 =>
      (aI 0 t10 a25 x3).bind fun x26 =>
      bd (fX9_within t10 (x26 + x7) 0 9) (fun x27 t28 =>
      (sI 0 t28 a23 x3 x27).bind (fun t29 =>
      j12 t29)))))))
set_option maxHeartbeats 4000000 in
set_option maxRecDepth 100000 in
theorem gX9_changeByDraws (σ : St) (a0 : Nat) : CE vU mX9_changeByDraws [.ref a0] σ (fX9_changeByDraws σ a0) := by
  refine CE.ofGEF (lv := [(0, .ref a0)]) (by decide +kernel) (Nat.le_of_ble_eq_true rfl) rfl ?_
  unfold fX9_changeByDraws
  refine GE.aload_n 0 dX9_changeByDraws_0 rfl rfl ?_
  refine GE.aload_n 0 dX9_changeByDraws_1 rfl rfl ?_
  refine GE.gR dX9_changeByDraws_2 lF_X9_55 (fun a1 => ?_)
  refine GE.gI dX9_changeByDraws_5 lF_X9_130 (fun x2 => ?_)
  refine GE.callvI [.int x2] dX9_changeByDraws_8 (lV_X9_224) rfl ⟨rfl, rfl⟩ (rokb rfl) (gX9_draw σ a0 x2) (fun x3 t4 => ?_)
  refine GE.istore_n (lv' := [(0, .ref a0), (1, .int x3)]) dX9_changeByDraws_11 rfl (by decide) [1, 0] rfl ?_
  refine GE.aload_n 0 dX9_changeByDraws_12 rfl rfl ?_
  refine GE.iconst dX9_changeByDraws_13 kI_3 ?_
  refine GE.callvI [.int 3] dX9_changeByDraws_14 (lV_X9_224) rfl ⟨rfl, rfl⟩ (rokb rfl) (gX9_draw t4 a0 3) (fun x5 t6 => ?_)
  refine GE.iconst dX9_changeByDraws_17 kI_1 ?_
  refine GE.isub dX9_changeByDraws_18 ?_
  refine GE.nami (fun x7 => ?_)
  refine GE.istore_n (lv' := [(0, .ref a0), (1, .int x3), (2, .int x7)]) dX9_changeByDraws_19 rfl (by decide) [1, 2, 0] rfl ?_
  refine GE.aload_n 0 dX9_changeByDraws_20 rfl rfl ?_
  refine GE.gR dX9_changeByDraws_21 lF_X9_55 (fun a8 => ?_)
  refine GE.iload_n 1 dX9_changeByDraws_24 rfl rfl ?_
  refine GE.callvI [.int x3] dX9_changeByDraws_25 (lV_X9_153) rfl ⟨rfl, rfl⟩ (rokb rfl) (gX7_hasCell t6 a8 x3) (fun x9 t10 => ?_)
  refine GE.jo1 57 (fun (t11 : St) => [(0, .ref a0)]) (fun (t11 : St) => []) (fun (t11 : St) => t11) (fun t11 => ?_) (fun j12 hj12 => ?_)
  · refine GE.aload_n 0 dX9_changeByDraws_57 rfl rfl ?_
    refine GE.bipush dX9_changeByDraws_58 kB_10 ?_
    refine GE.callvI [.int 10] dX9_changeByDraws_60 (lV_X9_224) rfl ⟨rfl, rfl⟩ (rokb rfl) (gX9_draw t11 a0 10) (fun x13 t14 => ?_)
    refine GE.aload_n 0 dX9_changeByDraws_63 rfl rfl ?_
    refine GE.gI dX9_changeByDraws_64 lF_X9_45 (fun x15 => ?_)
    refine GE.icmp_ge (tgt := 91) dX9_changeByDraws_67 (by decide) ?_ ?_
    · exact GE.vret (x := ()) dX9_changeByDraws_91 rfl (Nat.le_refl _) (Nat.le_refl _)
    · refine GE.aload_n 0 dX9_changeByDraws_70 rfl rfl ?_
      refine GE.gR dX9_changeByDraws_71 lF_X9_55 (fun a16 => ?_)
      refine GE.bipush dX9_changeByDraws_74 kB_9 ?_
      refine GE.aload_n 0 dX9_changeByDraws_76 rfl rfl ?_
      refine GE.gR dX9_changeByDraws_77 lF_X9_55 (fun a17 => ?_)
      refine GE.gI dX9_changeByDraws_80 lF_X9_150 (fun x18 => ?_)
      refine GE.iconst dX9_changeByDraws_83 kI_2 ?_
      refine GE.iadd dX9_changeByDraws_84 ?_
      refine GE.callsI [.int 9, .int (x18 + 2)] dX9_changeByDraws_85 (lT_X9_230) rfl ⟨rfl, rfl⟩ (rokb rfl) (gJ9_min_7cf53 t14 9 (x18 + 2)) (fun x19 t20 => ?_)
      refine GE.pI dX9_changeByDraws_88 lF_X9_150 (fun t21 => ?_)
      exact GE.vret (x := ()) dX9_changeByDraws_91 rfl (Nat.le_refl _) (Nat.le_refl _)
  · refine GE.if_eq (tgt := 57) dX9_changeByDraws_28 (by decide) ?_ ?_
    · exact GE.sub [0] rfl (hj12 t10)
    · refine GE.aload_n 0 dX9_changeByDraws_31 rfl rfl ?_
      refine GE.gR dX9_changeByDraws_32 lF_X9_55 (fun a22 => ?_)
      refine GE.gR dX9_changeByDraws_35 lF_X9_157 (fun a23 => ?_)
      refine GE.iload_n 1 dX9_changeByDraws_38 rfl rfl ?_
      refine GE.aload_n 0 dX9_changeByDraws_39 rfl rfl ?_
      refine GE.gR dX9_changeByDraws_40 lF_X9_55 (fun a24 => ?_)
      refine GE.gR dX9_changeByDraws_43 lF_X9_157 (fun a25 => ?_)
      refine GE.iload_n 1 dX9_changeByDraws_46 rfl rfl ?_
      refine GE.iald dX9_changeByDraws_47 (fun x26 => ?_)
      refine GE.iload_n 2 dX9_changeByDraws_48 rfl rfl ?_
      refine GE.iadd dX9_changeByDraws_49 ?_
      refine GE.iconst dX9_changeByDraws_50 kI_0 ?_
      refine GE.bipush dX9_changeByDraws_51 kB_9 ?_
      refine GE.callsI [.int (x26 + x7), .int 0, .int 9] dX9_changeByDraws_53 (lT_X9_227) rfl ⟨rfl, rfl⟩ (rokb rfl) (gX9_within t10 (x26 + x7) 0 9) (fun x27 t28 => ?_)
      refine GE.iast dX9_changeByDraws_56 (fun t29 => ?_)
      exact GE.sub [0] rfl (hj12 t29)
def fX9_years (σ : St) (a0 : Nat) (px1 : Int32) (px2 : Int64) : Option (Int32 × St) :=
  bo 9 σ a0 (fX9_noLand σ a0) (fun x1 t2 =>
  if x1 = 0 then
    if px1 < 1 then
      some ((-1), t2)
    else
      if 60 < px1 then
        some ((-1), t2)
      else
        (gR 9 8 t2 a0).bind fun a3 =>
        (gI 7 6 t2 a3).bind fun x4 =>
        if x4 + px1 ≤ 9999 then
          (pV 9 15 t2 a0 (.long px2)).bind (fun t5 =>
          lo2 (fun l8 (x6 : Int32) (t7 : St) =>
            if px1 ≤ x6 then
            (gR 9 8 t7 a0).bind fun a9 =>
            (gI 7 6 t7 a9).bind fun x10 =>
            some (x10, t7)
          else
            (gR 9 11 t7 a0).bind fun a11 =>
            (gR 9 8 t7 a0).bind fun a12 =>
            bo 5 t7 a11 (fX5_keep t7 a11 a12) (fun w13 t14 =>
            bo 9 t14 a0 (fX9_changeByDraws t14 a0) (fun w15 t16 =>
            bo 9 t16 a0 (fX9_passHour t16 a0) (fun w17 t18 =>
            l8 (x6 + 1) t18)))) FU 0 t5)
        else
          some ((-1), t2)
  else
    some ((-1), t2))
set_option maxHeartbeats 4000000 in
set_option maxRecDepth 100000 in
theorem gX9_years (σ : St) (a0 : Nat) (px1 : Int32) (px2 : Int64) : CE vI mX9_years [.ref a0, .int px1, .long px2] σ (fX9_years σ a0 px1 px2) := by
  refine CE.ofGEF (lv := [(0, .ref a0), (1, .int px1), (2, .long px2)]) (by decide +kernel) (Nat.le_of_ble_eq_true rfl) rfl ?_
  unfold fX9_years
  refine GE.aload_n 0 dX9_years_0 rfl rfl ?_
  refine GE.callvI [] dX9_years_1 (lV_X9_137) rfl ⟨rfl, rfl⟩ (rokb rfl) (gX9_noLand σ a0) (fun x1 t2 => ?_)
  refine GE.if_ne (tgt := 33) dX9_years_4 (by decide) ?_ ?_
  · refine GE.iconst dX9_years_33 kI_m1 ?_
    exact GE.iret dX9_years_34 rfl (Nat.le_refl _) (Nat.le_refl _)
  · refine GE.iload_n 1 dX9_years_7 rfl rfl ?_
    refine GE.iconst dX9_years_8 kI_1 ?_
    refine GE.icmp_lt (tgt := 33) dX9_years_9 (by decide) ?_ ?_
    · refine GE.iconst dX9_years_33 kI_m1 ?_
      exact GE.iret dX9_years_34 rfl (Nat.le_refl _) (Nat.le_refl _)
    · refine GE.iload_n 1 dX9_years_12 rfl rfl ?_
      refine GE.bipush dX9_years_13 kB_60 ?_
      refine GE.icmp_gt (tgt := 33) dX9_years_15 (by decide) ?_ ?_
      · refine GE.iconst dX9_years_33 kI_m1 ?_
        exact GE.iret dX9_years_34 rfl (Nat.le_refl _) (Nat.le_refl _)
      · refine GE.aload_n 0 dX9_years_18 rfl rfl ?_
        refine GE.gR dX9_years_19 lF_X9_55 (fun a3 => ?_)
        refine GE.gI dX9_years_22 lF_X9_200 (fun x4 => ?_)
        refine GE.iload_n 1 dX9_years_25 rfl rfl ?_
        refine GE.iadd dX9_years_26 ?_
        refine GE.sipush dX9_years_27 kS_9999 ?_
        refine GE.icmp_le (tgt := 35) dX9_years_30 (by decide) ?_ ?_
        · refine GE.aload_n 0 dX9_years_35 rfl rfl ?_
          refine GE.lload_n 2 dX9_years_36 rfl rfl ?_
          refine GE.pL dX9_years_37 lF_X9_93 (fun t5 => ?_)
          refine GE.iconst dX9_years_40 kI_0 ?_
          refine GE.istore (lv' := [(0, .ref a0), (1, .int px1), (2, .long px2), (4, .int 0)]) dX9_years_41 (by decide) [1, 2, 3, 0] rfl ?_
          refine GE.sub [0, 1, 3] rfl (GE.lo2 (fun (x6 : Int32) (t7 : St) => [(0, .ref a0), (1, .int px1), (4, .int x6)]) (fun (x6 : Int32) (t7 : St) => []) (fun (x6 : Int32) (t7 : St) => t7) (fun l8 hl8 x6 t7 => ?_) FU 0 t5)
          refine GE.iload 2 dX9_years_43 rfl ?_
          refine GE.iload_n 1 dX9_years_45 rfl rfl ?_
          refine GE.icmp_ge (tgt := 74) dX9_years_46 (by decide) ?_ ?_
          · refine GE.aload_n 0 dX9_years_74 rfl rfl ?_
            refine GE.gR dX9_years_75 lF_X9_55 (fun a9 => ?_)
            refine GE.gI dX9_years_78 lF_X9_200 (fun x10 => ?_)
            exact GE.iret dX9_years_81 rfl (Nat.le_refl _) (Nat.le_refl _)
          · refine GE.aload_n 0 dX9_years_49 rfl rfl ?_
            refine GE.gR dX9_years_50 lF_X9_68 (fun a11 => ?_)
            refine GE.aload_n 0 dX9_years_53 rfl rfl ?_
            refine GE.gR dX9_years_54 lF_X9_55 (fun a12 => ?_)
            refine GE.callvU [.ref a12] dX9_years_57 (lV_X9_203) rfl ⟨rfl, rfl⟩ (rokb rfl) (gX5_keep t7 a11 a12) (fun w13 t14 => ?_)
            refine GE.aload_n 0 dX9_years_60 rfl rfl ?_
            refine GE.callvU [] dX9_years_61 (lV_X9_221) rfl ⟨rfl, rfl⟩ (rokb rfl) (gX9_changeByDraws t14 a0) (fun w15 t16 => ?_)
            refine GE.aload_n 0 dX9_years_64 rfl rfl ?_
            refine GE.callvU [] dX9_years_65 (lV_X9_206) rfl ⟨rfl, rfl⟩ (rokb rfl) (gX9_passHour t16 a0) (fun w17 t18 => ?_)
            refine GE.iinc (lv' := [(0, .ref a0), (1, .int px1), (4, .int (x6 + 1))]) 2 dX9_years_68 rfl kI_1 (by decide) [1, 2, 0] rfl ?_
            refine GE.goto (tgt := 43) dX9_years_71 (by decide) ?_
            exact hl8 (x6 + 1) t18
        · refine GE.iconst dX9_years_33 kI_m1 ?_
          exact GE.iret dX9_years_34 rfl (Nat.le_refl _) (Nat.le_refl _)
