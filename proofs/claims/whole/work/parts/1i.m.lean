def fX7_highest (σ : St) (a0 : Nat) (px1 : Int32) : Option (Int32 × St) :=
  lo2 (fun l3 (x1 : Int32) (x2 : Int32) =>
    (gI 7 2 σ a0).bind fun x4 =>
  if x4 ≤ x2 then
    some (x1, σ)
  else
    (gR 7 9 σ a0).bind fun a5 =>
    (aI 0 σ a5 x2).bind fun x6 =>
    (gR 7 9 σ a0).bind fun a7 =>
    (aI 0 σ a7 x1).bind fun x8 =>
    jo1 (fun (x9 : Int32) =>
      l3 x9 (x2 + 1)) (fun j10 =>
      if px1 * x6 ≤ px1 * x8 then
        j10 x1
      else
        j10 x2)) FU 0 1
set_option maxHeartbeats 4000000 in
set_option maxRecDepth 100000 in
theorem gX7_highest (σ : St) (a0 : Nat) (px1 : Int32) : CE vI mX7_highest [.ref a0, .int px1] σ (fX7_highest σ a0 px1) := by
  refine CE.ofGEF (lv := [(0, .ref a0), (1, .int px1)]) (by decide +kernel) (Nat.le_of_ble_eq_true rfl) rfl ?_
  unfold fX7_highest
  refine GE.iconst dX7_highest_0 kI_0 ?_
  refine GE.istore_n (lv' := [(0, .ref a0), (1, .int px1), (2, .int 0)]) dX7_highest_1 rfl (by decide) [1, 2, 0] rfl ?_
  refine GE.iconst dX7_highest_2 kI_1 ?_
  refine GE.istore_n (lv' := [(0, .ref a0), (1, .int px1), (2, .int 0), (3, .int 1)]) dX7_highest_3 rfl (by decide) [1, 2, 3, 0] rfl ?_
  refine (GE.lo2 (fun (x1 : Int32) (x2 : Int32) => [(0, .ref a0), (1, .int px1), (2, .int x1), (3, .int x2)]) (fun (x1 : Int32) (x2 : Int32) => []) (fun (x1 : Int32) (x2 : Int32) => σ) (fun l3 hl3 x1 x2 => ?_) FU 0 1)
  refine GE.iload_n 3 dX7_highest_4 rfl rfl ?_
  refine GE.aload_n 0 dX7_highest_5 rfl rfl ?_
  refine GE.gI dX7_highest_6 lF_X7_18 (fun x4 => ?_)
  refine GE.icmp_ge (tgt := 39) dX7_highest_9 (by decide) ?_ ?_
  · refine GE.iload_n 2 dX7_highest_39 rfl rfl ?_
    exact GE.iret dX7_highest_40 rfl (Nat.le_refl _) (Nat.le_refl _)
  · refine GE.iload_n 1 dX7_highest_12 rfl rfl ?_
    refine GE.aload_n 0 dX7_highest_13 rfl rfl ?_
    refine GE.gR dX7_highest_14 lF_X7_39 (fun a5 => ?_)
    refine GE.iload_n 3 dX7_highest_17 rfl rfl ?_
    refine GE.iald dX7_highest_18 (fun x6 => ?_)
    refine GE.imul dX7_highest_19 ?_
    refine GE.iload_n 1 dX7_highest_20 rfl rfl ?_
    refine GE.aload_n 0 dX7_highest_21 rfl rfl ?_
    refine GE.gR dX7_highest_22 lF_X7_39 (fun a7 => ?_)
    refine GE.iload_n 2 dX7_highest_25 rfl rfl ?_
    refine GE.iald dX7_highest_26 (fun x8 => ?_)
    refine GE.imul dX7_highest_27 ?_
    refine GE.jo1 33 (fun (x9 : Int32) => [(0, .ref a0), (1, .int px1), (2, .int x9), (3, .int x2)]) (fun (x9 : Int32) => []) (fun (x9 : Int32) => σ) (fun x9 => ?_) (fun j10 hj10 => ?_)
    · refine GE.iinc (lv' := [(0, .ref a0), (1, .int px1), (2, .int x9), (3, .int (x2 + 1))]) 3 dX7_highest_33 rfl kI_1 (by decide) [1, 2, 3, 0] rfl ?_
      refine GE.goto (tgt := 4) dX7_highest_36 (by decide) ?_
      exact hl3 x9 (x2 + 1)
    · refine GE.icmp_le (tgt := 33) dX7_highest_28 (by decide) ?_ ?_
      · exact hj10 x1
      · refine GE.iload_n 3 dX7_highest_31 rfl rfl ?_
        refine GE.istore_n (lv' := [(0, .ref a0), (1, .int px1), (2, .int x2), (3, .int x2)]) dX7_highest_32 rfl (by decide) [1, 2, 0, 3] rfl ?_
        exact hj10 x2
def fX7_lost (σ : St) (a0 : Nat) : Option (Int32 × St) :=
  lo2 (fun l3 (x1 : Int32) (x2 : Int32) =>
    (gI 7 2 σ a0).bind fun x4 =>
  if x4 ≤ x2 then
    some (x1, σ)
  else
    (gR 7 9 σ a0).bind fun a5 =>
    (aI 0 σ a5 x2).bind fun x6 =>
    (gI 7 4 σ a0).bind fun x7 =>
    jo1 (fun (x8 : Int32) =>
      l3 x8 (x2 + 1)) (fun j9 =>
      if x7 ≤ x6 then
        j9 x1
      else
        nam (x1 ||| (1 <<< (x2 &&& 31)) : Int32) (fun x10 =>
        j9 x10))) FU 0 0
set_option maxHeartbeats 4000000 in
set_option maxRecDepth 100000 in
theorem gX7_lost (σ : St) (a0 : Nat) : CE vI mX7_lost [.ref a0] σ (fX7_lost σ a0) := by
  refine CE.ofGEF (lv := [(0, .ref a0)]) (by decide +kernel) (Nat.le_of_ble_eq_true rfl) rfl ?_
  unfold fX7_lost
  refine GE.iconst dX7_lost_0 kI_0 ?_
  refine GE.istore_n (lv' := [(0, .ref a0), (1, .int 0)]) dX7_lost_1 rfl (by decide) [1, 0] rfl ?_
  refine GE.iconst dX7_lost_2 kI_0 ?_
  refine GE.istore_n (lv' := [(0, .ref a0), (1, .int 0), (2, .int 0)]) dX7_lost_3 rfl (by decide) [1, 2, 0] rfl ?_
  refine (GE.lo2 (fun (x1 : Int32) (x2 : Int32) => [(0, .ref a0), (1, .int x1), (2, .int x2)]) (fun (x1 : Int32) (x2 : Int32) => []) (fun (x1 : Int32) (x2 : Int32) => σ) (fun l3 hl3 x1 x2 => ?_) FU 0 0)
  refine GE.iload_n 2 dX7_lost_4 rfl rfl ?_
  refine GE.aload_n 0 dX7_lost_5 rfl rfl ?_
  refine GE.gI dX7_lost_6 lF_X7_18 (fun x4 => ?_)
  refine GE.icmp_ge (tgt := 37) dX7_lost_9 (by decide) ?_ ?_
  · refine GE.iload_n 1 dX7_lost_37 rfl rfl ?_
    exact GE.iret dX7_lost_38 rfl (Nat.le_refl _) (Nat.le_refl _)
  · refine GE.aload_n 0 dX7_lost_12 rfl rfl ?_
    refine GE.gR dX7_lost_13 lF_X7_39 (fun a5 => ?_)
    refine GE.iload_n 2 dX7_lost_16 rfl rfl ?_
    refine GE.iald dX7_lost_17 (fun x6 => ?_)
    refine GE.aload_n 0 dX7_lost_18 rfl rfl ?_
    refine GE.gI dX7_lost_19 lF_X7_24 (fun x7 => ?_)
    refine GE.jo1 31 (fun (x8 : Int32) => [(0, .ref a0), (1, .int x8), (2, .int x2)]) (fun (x8 : Int32) => []) (fun (x8 : Int32) => σ) (fun x8 => ?_) (fun j9 hj9 => ?_)
    · refine GE.iinc (lv' := [(0, .ref a0), (1, .int x8), (2, .int (x2 + 1))]) 2 dX7_lost_31 rfl kI_1 (by decide) [1, 2, 0] rfl ?_
      refine GE.goto (tgt := 4) dX7_lost_34 (by decide) ?_
      exact hl3 x8 (x2 + 1)
    · refine GE.icmp_ge (tgt := 31) dX7_lost_22 (by decide) ?_ ?_
      · exact hj9 x1
      · refine GE.iload_n 1 dX7_lost_25 rfl rfl ?_
        refine GE.iconst dX7_lost_26 kI_1 ?_
        refine GE.iload_n 2 dX7_lost_27 rfl rfl ?_
        refine GE.ishl dX7_lost_28 ?_
        refine GE.ior dX7_lost_29 ?_
        refine GE.nami (fun x10 => ?_)
        refine GE.istore_n (lv' := [(0, .ref a0), (1, .int x10), (2, .int x2)]) dX7_lost_30 rfl (by decide) [1, 0, 2] rfl ?_
        exact hj9 x10
def fX7_mutual (σ : St) (a0 : Nat) (pq1 : Option Nat) : Option (Int32 × St) :=
  lo3 (fun l4 (x1 : Int32) (x2 : Int32) (t3 : St) =>
    (gI 7 3 t3 a0).bind fun x5 =>
  if x5 ≤ x2 then
    some (x1, t3)
  else
    nam (x2 + 1 : Int32) (fun x6 =>
    lo3 (fun l10 (x7 : Int32) (x8 : Int32) (t9 : St) =>
      (gI 7 3 t9 a0).bind fun x11 =>
    if x11 ≤ x8 then
      l4 x7 (x2 + 1) t9
    else
      (gR 7 10 t9 a0).bind fun a12 =>
      (aI 0 t9 a12 x8).bind fun x13 =>
      bo 7 t9 a0 (fX7_beholds t9 a0 x2 x13 pq1) (fun x14 t15 =>
      jo2 (fun (x16 : Int32) (t17 : St) =>
        l10 x16 (x8 + 1) t17) (fun j18 =>
        if x14 = 0 then
          j18 x7 t15
        else
          (gR 7 10 t15 a0).bind fun a19 =>
          (aI 0 t15 a19 x2).bind fun x20 =>
          bo 7 t15 a0 (fX7_beholds t15 a0 x8 x20 pq1) (fun x21 t22 =>
          if x21 = 0 then
            j18 x7 t22
          else
            j18 (x7 + 1) t22)))) FU x1 x6 t3)) FU 0 0 σ
set_option maxHeartbeats 4000000 in
set_option maxRecDepth 100000 in
theorem gX7_mutual (σ : St) (a0 : Nat) (pq1 : Option Nat) : CE vI mX7_mutual [.ref a0, va_rf pq1] σ (fX7_mutual σ a0 pq1) := by
  refine CE.ofGEF (lv := [(0, .ref a0), (1, va_rf pq1)]) (by decide +kernel) (by cases pq1 <;> exact Nat.le_of_ble_eq_true rfl) rfl ?_
  unfold fX7_mutual
  refine GE.iconst dX7_mutual_0 kI_0 ?_
  refine GE.istore_n (lv' := [(0, .ref a0), (1, va_rf pq1), (2, .int 0)]) dX7_mutual_1 rfl (by decide) [1, 2, 0] (by cases pq1 <;> rfl) ?_
  refine GE.iconst dX7_mutual_2 kI_0 ?_
  refine GE.istore_n (lv' := [(0, .ref a0), (1, va_rf pq1), (2, .int 0), (3, .int 0)]) dX7_mutual_3 rfl (by decide) [1, 2, 3, 0] rfl ?_
  refine (GE.lo3 (fun (x1 : Int32) (x2 : Int32) (t3 : St) => [(0, .ref a0), (1, va_rf pq1), (2, .int x1), (3, .int x2)]) (fun (x1 : Int32) (x2 : Int32) (t3 : St) => []) (fun (x1 : Int32) (x2 : Int32) (t3 : St) => t3) (fun l4 hl4 x1 x2 t3 => ?_) FU 0 0 σ)
  refine GE.iload_n 3 dX7_mutual_4 rfl rfl ?_
  refine GE.aload_n 0 dX7_mutual_5 rfl rfl ?_
  refine GE.gI dX7_mutual_6 lF_X7_21 (fun x5 => ?_)
  refine GE.icmp_ge (tgt := 73) dX7_mutual_9 (by decide) ?_ ?_
  · refine GE.iload_n 2 dX7_mutual_73 rfl rfl ?_
    exact GE.iret dX7_mutual_74 rfl (Nat.le_refl _) (Nat.le_refl _)
  · refine GE.iload_n 3 dX7_mutual_12 rfl rfl ?_
    refine GE.iconst dX7_mutual_13 kI_1 ?_
    refine GE.iadd dX7_mutual_14 ?_
    refine GE.nami (fun x6 => ?_)
    refine GE.istore (lv' := [(0, .ref a0), (1, va_rf pq1), (2, .int x1), (3, .int x2), (4, .int x6)]) dX7_mutual_15 (by decide) [1, 2, 3, 4, 0] rfl ?_
    refine (GE.lo3 (fun (x7 : Int32) (x8 : Int32) (t9 : St) => [(0, .ref a0), (1, va_rf pq1), (2, .int x7), (3, .int x2), (4, .int x8)]) (fun (x7 : Int32) (x8 : Int32) (t9 : St) => []) (fun (x7 : Int32) (x8 : Int32) (t9 : St) => t9) (fun l10 hl10 x7 x8 t9 => ?_) FU x1 x6 t3)
    refine GE.iload 4 dX7_mutual_17 rfl ?_
    refine GE.aload_n 0 dX7_mutual_19 rfl rfl ?_
    refine GE.gI dX7_mutual_20 lF_X7_21 (fun x11 => ?_)
    refine GE.icmp_ge (tgt := 67) dX7_mutual_23 (by decide) ?_ ?_
    · refine GE.iinc (lv' := [(0, .ref a0), (1, va_rf pq1), (2, .int x7), (3, .int (x2 + 1)), (4, .int x8)]) 3 dX7_mutual_67 rfl kI_1 (by decide) [1, 2, 3, 0, 4] rfl ?_
      refine GE.goto (tgt := 4) dX7_mutual_70 (by decide) ?_
      exact GE.sub [0, 1, 2, 3] rfl (hl4 x7 (x2 + 1) t9)
    · refine GE.aload_n 0 dX7_mutual_26 rfl rfl ?_
      refine GE.iload_n 3 dX7_mutual_27 rfl rfl ?_
      refine GE.aload_n 0 dX7_mutual_28 rfl rfl ?_
      refine GE.gR dX7_mutual_29 lF_X7_43 (fun a12 => ?_)
      refine GE.iload 4 dX7_mutual_32 rfl ?_
      refine GE.iald dX7_mutual_34 (fun x13 => ?_)
      refine GE.aloadq_n 1 dX7_mutual_35 rfl rfl ?_
      refine GE.callvI [.int x2, .int x13, va_rf pq1] dX7_mutual_36 (lV_X7_110) rfl ⟨rfl, rfl⟩ (rokb rfl) (gX7_beholds t9 a0 x2 x13 pq1) (fun x14 t15 => ?_)
      refine GE.jo2 61 (fun (x16 : Int32) (t17 : St) => [(0, .ref a0), (1, va_rf pq1), (2, .int x16), (3, .int x2), (4, .int x8)]) (fun (x16 : Int32) (t17 : St) => []) (fun (x16 : Int32) (t17 : St) => t17) (fun x16 t17 => ?_) (fun j18 hj18 => ?_)
      · refine GE.iinc (lv' := [(0, .ref a0), (1, va_rf pq1), (2, .int x16), (3, .int x2), (4, .int (x8 + 1))]) 4 dX7_mutual_61 rfl kI_1 (by decide) [1, 2, 3, 4, 0] rfl ?_
        refine GE.goto (tgt := 17) dX7_mutual_64 (by decide) ?_
        exact hl10 x16 (x8 + 1) t17
      · refine GE.if_eq (tgt := 61) dX7_mutual_39 (by decide) ?_ ?_
        · exact hj18 x7 t15
        · refine GE.aload_n 0 dX7_mutual_42 rfl rfl ?_
          refine GE.iload 4 dX7_mutual_43 rfl ?_
          refine GE.aload_n 0 dX7_mutual_45 rfl rfl ?_
          refine GE.gR dX7_mutual_46 lF_X7_43 (fun a19 => ?_)
          refine GE.iload_n 3 dX7_mutual_49 rfl rfl ?_
          refine GE.iald dX7_mutual_50 (fun x20 => ?_)
          refine GE.aloadq_n 1 dX7_mutual_51 rfl rfl ?_
          refine GE.callvI [.int x8, .int x20, va_rf pq1] dX7_mutual_52 (lV_X7_110) rfl ⟨rfl, rfl⟩ (rokb rfl) (gX7_beholds t15 a0 x8 x20 pq1) (fun x21 t22 => ?_)
          refine GE.if_eq (tgt := 61) dX7_mutual_55 (by decide) ?_ ?_
          · exact hj18 x7 t22
          · refine GE.iinc (lv' := [(0, .ref a0), (1, va_rf pq1), (2, .int (x7 + 1)), (3, .int x2), (4, .int x8)]) 2 dX7_mutual_58 rfl kI_1 (by decide) [1, 2, 0, 3, 4] (by cases pq1 <;> rfl) ?_
            exact hj18 (x7 + 1) t22
def fX7_sharpest (σ : St) (a0 : Nat) (px1 : Int32) (pq2 : Option Nat) : Option (Int32 × St) :=
  lo4 (fun l5 (x1 : Int32) (x2 : Int32) (x3 : Int32) (t4 : St) =>
    (gI 7 3 t4 a0).bind fun x6 =>
  if x6 ≤ x3 then
    some (x1, t4)
  else
    bo 7 t4 a0 (fX7_sight t4 a0 x3 pq2) (fun x7 t8 =>
    bd (fJ6_bitCount_0f7a4 t8 x7) (fun x9 t10 =>
    nam (px1 * x9 : Int32) (fun x11 =>
    jo2 (fun (x12 : Int32) (x13 : Int32) =>
      l5 x12 x13 (x3 + 1) t10) (fun j14 =>
      jo1 (fun (u14 : Unit) =>
        j14 x3 x11) (fun j15 =>
        if x1 = (-1) then
          j15 () 
        else
          if x11 ≤ x2 then
            j14 x1 x2
          else
            j15 () )))))) FU ((-1)) 0 0 σ
set_option maxHeartbeats 4000000 in
set_option maxRecDepth 100000 in
theorem gX7_sharpest (σ : St) (a0 : Nat) (px1 : Int32) (pq2 : Option Nat) : CE vI mX7_sharpest [.ref a0, .int px1, va_rf pq2] σ (fX7_sharpest σ a0 px1 pq2) := by
  refine CE.ofGEF (lv := [(0, .ref a0), (1, .int px1), (2, va_rf pq2)]) (by decide +kernel) (by cases pq2 <;> exact Nat.le_of_ble_eq_true rfl) rfl ?_
  unfold fX7_sharpest
  refine GE.iconst dX7_sharpest_0 kI_m1 ?_
  refine GE.istore_n (lv' := [(0, .ref a0), (1, .int px1), (2, va_rf pq2), (3, .int ((-1)))]) dX7_sharpest_1 rfl (by decide) [1, 2, 3, 0] (by cases pq2 <;> rfl) ?_
  refine GE.iconst dX7_sharpest_2 kI_0 ?_
  refine GE.istore (lv' := [(0, .ref a0), (1, .int px1), (2, va_rf pq2), (3, .int ((-1))), (4, .int 0)]) dX7_sharpest_3 (by decide) [1, 2, 3, 4, 0] rfl ?_
  refine GE.iconst dX7_sharpest_5 kI_0 ?_
  refine GE.istore (lv' := [(0, .ref a0), (1, .int px1), (2, va_rf pq2), (3, .int ((-1))), (4, .int 0), (5, .int 0)]) dX7_sharpest_6 (by decide) [1, 2, 3, 4, 5, 0] rfl ?_
  refine (GE.lo4 (fun (x1 : Int32) (x2 : Int32) (x3 : Int32) (t4 : St) => [(0, .ref a0), (1, .int px1), (2, va_rf pq2), (3, .int x1), (4, .int x2), (5, .int x3)]) (fun (x1 : Int32) (x2 : Int32) (x3 : Int32) (t4 : St) => []) (fun (x1 : Int32) (x2 : Int32) (x3 : Int32) (t4 : St) => t4) (fun l5 hl5 x1 x2 x3 t4 => ?_) FU ((-1)) 0 0 σ)
  refine GE.iload 5 dX7_sharpest_8 rfl ?_
  refine GE.aload_n 0 dX7_sharpest_10 rfl rfl ?_
  refine GE.gI dX7_sharpest_11 lF_X7_21 (fun x6 => ?_)
  refine GE.icmp_ge (tgt := 56) dX7_sharpest_14 (by decide) ?_ ?_
  · refine GE.iload_n 3 dX7_sharpest_56 rfl rfl ?_
    exact GE.iret dX7_sharpest_57 rfl (Nat.le_refl _) (Nat.le_refl _)
  · refine GE.iload_n 1 dX7_sharpest_17 rfl rfl ?_
    refine GE.aload_n 0 dX7_sharpest_18 rfl rfl ?_
    refine GE.iload 5 dX7_sharpest_19 rfl ?_
    refine GE.aloadq_n 2 dX7_sharpest_21 rfl rfl ?_
    refine GE.callvI [.int x3, va_rf pq2] dX7_sharpest_22 (lV_X7_103) rfl ⟨rfl, rfl⟩ (rokb rfl) (gX7_sight t4 a0 x3 pq2) (fun x7 t8 => ?_)
    refine GE.callsI [.int x7] dX7_sharpest_25 (lT_X7_114) rfl ⟨rfl, rfl⟩ (rokb rfl) (gJ6_bitCount_0f7a4 t8 x7) (fun x9 t10 => ?_)
    refine GE.imul dX7_sharpest_28 ?_
    refine GE.nami (fun x11 => ?_)
    refine GE.istore (lv' := [(0, .ref a0), (1, .int px1), (2, va_rf pq2), (3, .int x1), (4, .int x2), (5, .int x3), (6, .int x11)]) dX7_sharpest_29 (by decide) [1, 2, 3, 4, 5, 6, 0] rfl ?_
    refine GE.iload_n 3 dX7_sharpest_31 rfl rfl ?_
    refine GE.iconst dX7_sharpest_32 kI_m1 ?_
    refine GE.jo2 50 (fun (x12 : Int32) (x13 : Int32) => [(0, .ref a0), (1, .int px1), (2, va_rf pq2), (3, .int x12), (4, .int x13), (5, .int x3)]) (fun (x12 : Int32) (x13 : Int32) => []) (fun (x12 : Int32) (x13 : Int32) => t10) (fun x12 x13 => ?_) (fun j14 hj14 => ?_)
    · refine GE.iinc (lv' := [(0, .ref a0), (1, .int px1), (2, va_rf pq2), (3, .int x12), (4, .int x13), (5, .int (x3 + 1))]) 5 dX7_sharpest_50 rfl kI_1 (by decide) [1, 2, 3, 4, 5, 0] rfl ?_
      refine GE.goto (tgt := 8) dX7_sharpest_53 (by decide) ?_
      exact hl5 x12 x13 (x3 + 1) t10
    · refine GE.jo1 43 (fun (u14 : Unit) => [(0, .ref a0), (1, .int px1), (2, va_rf pq2), (5, .int x3), (6, .int x11)]) (fun (u14 : Unit) => []) (fun (u14 : Unit) => t10) (fun u14 => ?_) (fun j15 hj15 => ?_)
      · refine GE.iload 3 dX7_sharpest_43 rfl ?_
        refine GE.istore_n (lv' := [(0, .ref a0), (1, .int px1), (2, va_rf pq2), (3, .int x3), (5, .int x3), (6, .int x11)]) dX7_sharpest_45 rfl (by decide) [1, 2, 3, 0, 4, 5] (by cases pq2 <;> rfl) ?_
        refine GE.iload 5 dX7_sharpest_46 rfl ?_
        refine GE.istore (lv' := [(0, .ref a0), (1, .int px1), (2, va_rf pq2), (3, .int x3), (4, .int x11), (5, .int x3), (6, .int x11)]) dX7_sharpest_48 (by decide) [1, 2, 3, 4, 0, 5, 6] rfl ?_
        exact GE.sub [0, 1, 2, 3, 4, 5] rfl (hj14 x3 x11)
      · refine GE.icmp_eq (tgt := 43) dX7_sharpest_33 (by decide) ?_ ?_
        · exact GE.sub [0, 1, 2, 5, 6] rfl (hj15 () )
        · refine GE.iload 6 dX7_sharpest_36 rfl ?_
          refine GE.iload 4 dX7_sharpest_38 rfl ?_
          refine GE.icmp_le (tgt := 50) dX7_sharpest_40 (by decide) ?_ ?_
          · exact GE.sub [0, 1, 2, 3, 4, 5] rfl (hj14 x1 x2)
          · exact GE.sub [0, 1, 2, 5, 6] rfl (hj15 () )
def fX9_most (σ : St) (a0 : Nat) (px1 : Int32) : Option (Int32 × St) :=
  bo 9 σ a0 (fX9_noLand σ a0) (fun x1 t2 =>
  if x1 = 0 then
    tbs px1 0 [(gR 9 8 t2 a0).bind fun a3 =>
        bo 7 t2 a3 (fX7_highest t2 a3 1) (fun x4 t5 =>
        some (x4, t5)),
      (gR 9 8 t2 a0).bind fun a6 =>
        bo 7 t2 a6 (fX7_highest t2 a6 ((-1))) (fun x7 t8 =>
        some (x7, t8)),
      (gR 9 8 t2 a0).bind fun a9 =>
        bo 9 t2 a0 (fX9_ruling t2 a0) (fun q10 t11 =>
        bo 7 t11 a9 (fX7_sharpest t11 a9 1 q10) (fun x12 t13 =>
        some (x12, t13))),
      (gR 9 8 t2 a0).bind fun a14 =>
        bo 9 t2 a0 (fX9_ruling t2 a0) (fun q15 t16 =>
        bo 7 t16 a14 (fX7_sharpest t16 a14 ((-1)) q15) (fun x17 t18 =>
        some (x17, t18))),
      (gR 9 8 t2 a0).bind fun a19 =>
        (gI 7 7 t2 a19).bind fun x20 =>
        some (x20, t2),
      (gR 9 8 t2 a0).bind fun a21 =>
        bo 7 t2 a21 (fX7_flat t2 a21) (fun x22 t23 =>
        some (x22, t23)),
      (gR 9 8 t2 a0).bind fun a24 =>
        bo 7 t2 a24 (fX7_lost t2 a24) (fun x25 t26 =>
        some (x25, t26)),
      (gR 9 8 t2 a0).bind fun a27 =>
        bo 9 t2 a0 (fX9_ruling t2 a0) (fun q28 t29 =>
        bo 7 t29 a27 (fX7_mutual t29 a27 q28) (fun x30 t31 =>
        some (x30, t31))),
      (gR 9 8 t2 a0).bind fun a32 =>
        bo 9 t2 a0 (fX9_ruling t2 a0) (fun q33 t34 =>
        bo 7 t34 a32 (fX7_hidden t34 a32 q33) (fun x35 t36 =>
        some (x35, t36))),
      (gR 9 12 t2 a0).bind fun a37 =>
        (gR 9 8 t2 a0).bind fun a38 =>
        bo 9 t2 a0 (fX9_ruling t2 a0) (fun q39 t40 =>
        bo 1 t40 a37 (fX1_falseTowers t40 a37 a38 q39) (fun x41 t42 =>
        some (x41, t42)))] (some ((-1), t2))
  else
    some ((-1), t2))
set_option maxHeartbeats 4000000 in
set_option maxRecDepth 100000 in
theorem gX9_most (σ : St) (a0 : Nat) (px1 : Int32) : CE vI mX9_most [.ref a0, .int px1] σ (fX9_most σ a0 px1) := by
  refine CE.ofGEF (lv := [(0, .ref a0), (1, .int px1)]) (by decide +kernel) (Nat.le_of_ble_eq_true rfl) rfl ?_
  unfold fX9_most
  refine GE.aload_n 0 dX9_most_0 rfl rfl ?_
  refine GE.callvI [] dX9_most_1 (lV_X9_137) rfl ⟨rfl, rfl⟩ (rokb rfl) (gX9_noLand σ a0) (fun x1 t2 => ?_)
  refine GE.if_eq (tgt := 9) dX9_most_4 (by decide) ?_ ?_
  · refine GE.iload_n 1 dX9_most_9 rfl rfl ?_
    refine GE.tsw (tgd := 172) dX9_most_10 rfl rfl (by decide) ?_ ?_
    · refine GE.iconst dX9_most_172 kI_m1 ?_
      exact GE.iret dX9_most_173 rfl (Nat.le_refl _) (Nat.le_refl _)
    · intro j9 E9 o9 hE9 ho9
      match j9, hE9, ho9 with
      | 0, hE9, ho9 =>
        cases hE9; cases ho9
        refine ⟨64, by decide, ?_⟩
        refine GE.aload_n 0 dX9_most_64 rfl rfl ?_
        refine GE.gR dX9_most_65 lF_X9_55 (fun a3 => ?_)
        refine GE.iconst dX9_most_68 kI_1 ?_
        refine GE.callvI [.int 1] dX9_most_69 (lV_X9_342) rfl ⟨rfl, rfl⟩ (rokb rfl) (gX7_highest t2 a3 1) (fun x4 t5 => ?_)
        exact GE.iret dX9_most_72 rfl (Nat.le_refl _) (Nat.le_refl _)
      | 1, hE9, ho9 =>
        cases hE9; cases ho9
        refine ⟨73, by decide, ?_⟩
        refine GE.aload_n 0 dX9_most_73 rfl rfl ?_
        refine GE.gR dX9_most_74 lF_X9_55 (fun a6 => ?_)
        refine GE.iconst dX9_most_77 kI_m1 ?_
        refine GE.callvI [.int ((-1))] dX9_most_78 (lV_X9_342) rfl ⟨rfl, rfl⟩ (rokb rfl) (gX7_highest t2 a6 ((-1))) (fun x7 t8 => ?_)
        exact GE.iret dX9_most_81 rfl (Nat.le_refl _) (Nat.le_refl _)
      | 2, hE9, ho9 =>
        cases hE9; cases ho9
        refine ⟨82, by decide, ?_⟩
        refine GE.aload_n 0 dX9_most_82 rfl rfl ?_
        refine GE.gR dX9_most_83 lF_X9_55 (fun a9 => ?_)
        refine GE.iconst dX9_most_86 kI_1 ?_
        refine GE.aload_n 0 dX9_most_87 rfl rfl ?_
        refine GE.callvQ [] dX9_most_88 (lV_X9_179) rfl ⟨rfl, rfl⟩ (rokb rfl) (gX9_ruling t2 a0) (fun q10 t11 => ?_)
        refine GE.callvI [.int 1, va_rf q10] dX9_most_91 (lV_X9_345) rfl ⟨rfl, rfl⟩ (rokb rfl) (gX7_sharpest t11 a9 1 q10) (fun x12 t13 => ?_)
        exact GE.iret dX9_most_94 rfl (Nat.le_refl _) (Nat.le_refl _)
      | 3, hE9, ho9 =>
        cases hE9; cases ho9
        refine ⟨95, by decide, ?_⟩
        refine GE.aload_n 0 dX9_most_95 rfl rfl ?_
        refine GE.gR dX9_most_96 lF_X9_55 (fun a14 => ?_)
        refine GE.iconst dX9_most_99 kI_m1 ?_
        refine GE.aload_n 0 dX9_most_100 rfl rfl ?_
        refine GE.callvQ [] dX9_most_101 (lV_X9_179) rfl ⟨rfl, rfl⟩ (rokb rfl) (gX9_ruling t2 a0) (fun q15 t16 => ?_)
        refine GE.callvI [.int ((-1)), va_rf q15] dX9_most_104 (lV_X9_345) rfl ⟨rfl, rfl⟩ (rokb rfl) (gX7_sharpest t16 a14 ((-1)) q15) (fun x17 t18 => ?_)
        exact GE.iret dX9_most_107 rfl (Nat.le_refl _) (Nat.le_refl _)
      | 4, hE9, ho9 =>
        cases hE9; cases ho9
        refine ⟨108, by decide, ?_⟩
        refine GE.aload_n 0 dX9_most_108 rfl rfl ?_
        refine GE.gR dX9_most_109 lF_X9_55 (fun a19 => ?_)
        refine GE.gI dX9_most_112 lF_X9_186 (fun x20 => ?_)
        exact GE.iret dX9_most_115 rfl (Nat.le_refl _) (Nat.le_refl _)
      | 5, hE9, ho9 =>
        cases hE9; cases ho9
        refine ⟨116, by decide, ?_⟩
        refine GE.aload_n 0 dX9_most_116 rfl rfl ?_
        refine GE.gR dX9_most_117 lF_X9_55 (fun a21 => ?_)
        refine GE.callvI [] dX9_most_120 (lV_X9_348) rfl ⟨rfl, rfl⟩ (rokb rfl) (gX7_flat t2 a21) (fun x22 t23 => ?_)
        exact GE.iret dX9_most_123 rfl (Nat.le_refl _) (Nat.le_refl _)
      | 6, hE9, ho9 =>
        cases hE9; cases ho9
        refine ⟨124, by decide, ?_⟩
        refine GE.aload_n 0 dX9_most_124 rfl rfl ?_
        refine GE.gR dX9_most_125 lF_X9_55 (fun a24 => ?_)
        refine GE.callvI [] dX9_most_128 (lV_X9_351) rfl ⟨rfl, rfl⟩ (rokb rfl) (gX7_lost t2 a24) (fun x25 t26 => ?_)
        exact GE.iret dX9_most_131 rfl (Nat.le_refl _) (Nat.le_refl _)
      | 7, hE9, ho9 =>
        cases hE9; cases ho9
        refine ⟨132, by decide, ?_⟩
        refine GE.aload_n 0 dX9_most_132 rfl rfl ?_
        refine GE.gR dX9_most_133 lF_X9_55 (fun a27 => ?_)
        refine GE.aload_n 0 dX9_most_136 rfl rfl ?_
        refine GE.callvQ [] dX9_most_137 (lV_X9_179) rfl ⟨rfl, rfl⟩ (rokb rfl) (gX9_ruling t2 a0) (fun q28 t29 => ?_)
        refine GE.callvI [va_rf q28] dX9_most_140 (lV_X9_354) rfl ⟨rfl, rfl⟩ (rokb rfl) (gX7_mutual t29 a27 q28) (fun x30 t31 => ?_)
        exact GE.iret dX9_most_143 rfl (Nat.le_refl _) (Nat.le_refl _)
      | 8, hE9, ho9 =>
        cases hE9; cases ho9
        refine ⟨144, by decide, ?_⟩
        refine GE.aload_n 0 dX9_most_144 rfl rfl ?_
        refine GE.gR dX9_most_145 lF_X9_55 (fun a32 => ?_)
        refine GE.aload_n 0 dX9_most_148 rfl rfl ?_
        refine GE.callvQ [] dX9_most_149 (lV_X9_179) rfl ⟨rfl, rfl⟩ (rokb rfl) (gX9_ruling t2 a0) (fun q33 t34 => ?_)
        refine GE.callvI [va_rf q33] dX9_most_152 (lV_X9_209) rfl ⟨rfl, rfl⟩ (rokb rfl) (gX7_hidden t34 a32 q33) (fun x35 t36 => ?_)
        exact GE.iret dX9_most_155 rfl (Nat.le_refl _) (Nat.le_refl _)
      | 9, hE9, ho9 =>
        cases hE9; cases ho9
        refine ⟨156, by decide, ?_⟩
        refine GE.aload_n 0 dX9_most_156 rfl rfl ?_
        refine GE.gR dX9_most_157 lF_X9_75 (fun a37 => ?_)
        refine GE.aload_n 0 dX9_most_160 rfl rfl ?_
        refine GE.gR dX9_most_161 lF_X9_55 (fun a38 => ?_)
        refine GE.aload_n 0 dX9_most_164 rfl rfl ?_
        refine GE.callvQ [] dX9_most_165 (lV_X9_179) rfl ⟨rfl, rfl⟩ (rokb rfl) (gX9_ruling t2 a0) (fun q39 t40 => ?_)
        refine GE.callvI [.ref a38, va_rf q39] dX9_most_168 (lV_X9_357) rfl ⟨rfl, rfl⟩ (rokb rfl) (gX1_falseTowers t40 a37 a38 q39) (fun x41 t42 => ?_)
        exact GE.iret dX9_most_171 rfl (Nat.le_refl _) (Nat.le_refl _)
      | j9 + 10, hE9, ho9 => cases hE9
  · refine GE.iconst dX9_most_7 kI_m1 ?_
    exact GE.iret dX9_most_8 rfl (Nat.le_refl _) (Nat.le_refl _)
def fX9_moves (σ : St) (a0 : Nat) (px1 : Int32) (px2 : Int32) : Option (Int32 × St) :=
  (gR 9 8 σ a0).bind fun a1 =>
  bo 7 σ a1 (fX7_hasTower σ a1 px1) (fun x2 t3 =>
  if x2 = 0 then
    bo 9 t3 a0 (fX9_refuse t3 a0 0) (fun x31 t32 =>
    some (x31, t32))
  else
    (gR 9 8 t3 a0).bind fun a4 =>
    bo 7 t3 a4 (fX7_hasCell t3 a4 px2) (fun x5 t6 =>
    if x5 = 0 then
      bo 9 t6 a0 (fX9_refuse t6 a0 1) (fun x29 t30 =>
      some (x29, t30))
    else
      (gR 9 8 t6 a0).bind fun a7 =>
      (gR 7 10 t6 a7).bind fun a8 =>
      (aI 0 t6 a8 px1).bind fun x9 =>
      if x9 = px2 then
        bo 9 t6 a0 (fX9_refuse t6 a0 2) (fun x27 t28 =>
        some (x27, t28))
      else
        (gR 9 8 t6 a0).bind fun a10 =>
        (gI 7 5 t6 a10).bind fun x11 =>
        if 3 ≤ x11 then
          (gR 9 11 t6 a0).bind fun a12 =>
          (gR 9 8 t6 a0).bind fun a13 =>
          bo 5 t6 a12 (fX5_keep t6 a12 a13) (fun w14 t15 =>
          (gR 9 8 t15 a0).bind fun a16 =>
          (gR 7 10 t15 a16).bind fun a17 =>
          (aI 0 t15 a17 px1).bind fun x18 =>
          (gR 9 8 t15 a0).bind fun a19 =>
          (gI 7 5 t15 a19).bind fun x20 =>
          (pV 7 5 t15 a19 (.int (x20 - 3))).bind (fun t21 =>
          (gR 9 8 t21 a0).bind fun a22 =>
          (gR 7 10 t21 a22).bind fun a23 =>
          (sI 0 t21 a23 px1 px2).bind (fun t24 =>
          some (x18, t24))))
        else
          bo 9 t6 a0 (fX9_refuse t6 a0 3) (fun x25 t26 =>
          some (x25, t26))))
set_option maxHeartbeats 4000000 in
set_option maxRecDepth 100000 in
theorem gX9_moves (σ : St) (a0 : Nat) (px1 : Int32) (px2 : Int32) : CE vI mX9_moves [.ref a0, .int px1, .int px2] σ (fX9_moves σ a0 px1 px2) := by
  refine CE.ofGEF (lv := [(0, .ref a0), (1, .int px1), (2, .int px2)]) (by decide +kernel) (Nat.le_of_ble_eq_true rfl) rfl ?_
  unfold fX9_moves
  refine GE.aload_n 0 dX9_moves_0 rfl rfl ?_
  refine GE.gR dX9_moves_1 lF_X9_55 (fun a1 => ?_)
  refine GE.iload_n 1 dX9_moves_4 rfl rfl ?_
  refine GE.callvI [.int px1] dX9_moves_5 (lV_X9_160) rfl ⟨rfl, rfl⟩ (rokb rfl) (gX7_hasTower σ a1 px1) (fun x2 t3 => ?_)
  refine GE.if_ne (tgt := 17) dX9_moves_8 (by decide) ?_ ?_
  · refine GE.aload_n 0 dX9_moves_17 rfl rfl ?_
    refine GE.gR dX9_moves_18 lF_X9_55 (fun a4 => ?_)
    refine GE.iload_n 2 dX9_moves_21 rfl rfl ?_
    refine GE.callvI [.int px2] dX9_moves_22 (lV_X9_153) rfl ⟨rfl, rfl⟩ (rokb rfl) (gX7_hasCell t3 a4 px2) (fun x5 t6 => ?_)
    refine GE.if_ne (tgt := 34) dX9_moves_25 (by decide) ?_ ?_
    · refine GE.aload_n 0 dX9_moves_34 rfl rfl ?_
      refine GE.gR dX9_moves_35 lF_X9_55 (fun a7 => ?_)
      refine GE.gR dX9_moves_38 lF_X9_170 (fun a8 => ?_)
      refine GE.iload_n 1 dX9_moves_41 rfl rfl ?_
      refine GE.iald dX9_moves_42 (fun x9 => ?_)
      refine GE.iload_n 2 dX9_moves_43 rfl rfl ?_
      refine GE.icmp_ne (tgt := 53) dX9_moves_44 (by decide) ?_ ?_
      · refine GE.aload_n 0 dX9_moves_53 rfl rfl ?_
        refine GE.gR dX9_moves_54 lF_X9_55 (fun a10 => ?_)
        refine GE.gI dX9_moves_57 lF_X9_147 (fun x11 => ?_)
        refine GE.iconst dX9_moves_60 kI_3 ?_
        refine GE.icmp_ge (tgt := 70) dX9_moves_61 (by decide) ?_ ?_
        · refine GE.aload_n 0 dX9_moves_70 rfl rfl ?_
          refine GE.gR dX9_moves_71 lF_X9_68 (fun a12 => ?_)
          refine GE.aload_n 0 dX9_moves_74 rfl rfl ?_
          refine GE.gR dX9_moves_75 lF_X9_55 (fun a13 => ?_)
          refine GE.callvU [.ref a13] dX9_moves_78 (lV_X9_203) rfl ⟨rfl, rfl⟩ (rokb rfl) (gX5_keep t6 a12 a13) (fun w14 t15 => ?_)
          refine GE.aload_n 0 dX9_moves_81 rfl rfl ?_
          refine GE.gR dX9_moves_82 lF_X9_55 (fun a16 => ?_)
          refine GE.gR dX9_moves_85 lF_X9_170 (fun a17 => ?_)
          refine GE.iload_n 1 dX9_moves_88 rfl rfl ?_
          refine GE.iald dX9_moves_89 (fun x18 => ?_)
          refine GE.istore_n (lv' := [(0, .ref a0), (1, .int px1), (2, .int px2), (3, .int x18)]) dX9_moves_90 rfl (by decide) [1, 2, 3, 0] rfl ?_
          refine GE.aload_n 0 dX9_moves_91 rfl rfl ?_
          refine GE.gR dX9_moves_92 lF_X9_55 (fun a19 => ?_)
          refine GE.dup dX9_moves_95 rfl ?_
          refine GE.gI dX9_moves_96 lF_X9_147 (fun x20 => ?_)
          refine GE.iconst dX9_moves_99 kI_3 ?_
          refine GE.isub dX9_moves_100 ?_
          refine GE.pI dX9_moves_101 lF_X9_147 (fun t21 => ?_)
          refine GE.aload_n 0 dX9_moves_104 rfl rfl ?_
          refine GE.gR dX9_moves_105 lF_X9_55 (fun a22 => ?_)
          refine GE.gR dX9_moves_108 lF_X9_170 (fun a23 => ?_)
          refine GE.iload_n 1 dX9_moves_111 rfl rfl ?_
          refine GE.iload_n 2 dX9_moves_112 rfl rfl ?_
          refine GE.iast dX9_moves_113 (fun t24 => ?_)
          refine GE.iload_n 3 dX9_moves_114 rfl rfl ?_
          exact GE.iret dX9_moves_115 rfl (Nat.le_refl _) (Nat.le_refl _)
        · refine GE.aload_n 0 dX9_moves_64 rfl rfl ?_
          refine GE.iconst dX9_moves_65 kI_3 ?_
          refine GE.callvI [.int 3] dX9_moves_66 (lV_X9_197) rfl ⟨rfl, rfl⟩ (rokb rfl) (gX9_refuse t6 a0 3) (fun x25 t26 => ?_)
          exact GE.iret dX9_moves_69 rfl (Nat.le_refl _) (Nat.le_refl _)
      · refine GE.aload_n 0 dX9_moves_47 rfl rfl ?_
        refine GE.iconst dX9_moves_48 kI_2 ?_
        refine GE.callvI [.int 2] dX9_moves_49 (lV_X9_197) rfl ⟨rfl, rfl⟩ (rokb rfl) (gX9_refuse t6 a0 2) (fun x27 t28 => ?_)
        exact GE.iret dX9_moves_52 rfl (Nat.le_refl _) (Nat.le_refl _)
    · refine GE.aload_n 0 dX9_moves_28 rfl rfl ?_
      refine GE.iconst dX9_moves_29 kI_1 ?_
      refine GE.callvI [.int 1] dX9_moves_30 (lV_X9_197) rfl ⟨rfl, rfl⟩ (rokb rfl) (gX9_refuse t6 a0 1) (fun x29 t30 => ?_)
      exact GE.iret dX9_moves_33 rfl (Nat.le_refl _) (Nat.le_refl _)
  · refine GE.aload_n 0 dX9_moves_11 rfl rfl ?_
    refine GE.iconst dX9_moves_12 kI_0 ?_
    refine GE.callvI [.int 0] dX9_moves_13 (lV_X9_197) rfl ⟨rfl, rfl⟩ (rokb rfl) (gX9_refuse t3 a0 0) (fun x31 t32 => ?_)
    exact GE.iret dX9_moves_16 rfl (Nat.le_refl _) (Nat.le_refl _)
def fX9_oath (σ : St) (a0 : Nat) (px1 : Int32) : Option (Int32 × St) :=
  (gR 9 8 σ a0).bind fun a1 =>
  bo 7 σ a1 (fX7_hasTower σ a1 px1) (fun x2 t3 =>
  if x2 = 0 then
    bo 9 t3 a0 (fX9_refuse t3 a0 0) (fun x13 t14 =>
    some (x13, t14))
  else
    (gR 9 11 t3 a0).bind fun a4 =>
    (gR 9 8 t3 a0).bind fun a5 =>
    bo 5 t3 a4 (fX5_keep t3 a4 a5) (fun w6 t7 =>
    (gR 9 8 t7 a0).bind fun a8 =>
    (gI 7 7 t7 a8).bind fun x9 =>
    (pV 7 7 t7 a8 (.int (x9 ^^^ (1 <<< (px1 &&& 31))))).bind (fun t10 =>
    (gR 9 8 t10 a0).bind fun a11 =>
    (gI 7 7 t10 a11).bind fun x12 =>
    some ((x12 >>> (px1 &&& 31)) &&& 1, t10))))
set_option maxHeartbeats 4000000 in
set_option maxRecDepth 100000 in
theorem gX9_oath (σ : St) (a0 : Nat) (px1 : Int32) : CE vI mX9_oath [.ref a0, .int px1] σ (fX9_oath σ a0 px1) := by
  refine CE.ofGEF (lv := [(0, .ref a0), (1, .int px1)]) (by decide +kernel) (Nat.le_of_ble_eq_true rfl) rfl ?_
  unfold fX9_oath
  refine GE.aload_n 0 dX9_oath_0 rfl rfl ?_
  refine GE.gR dX9_oath_1 lF_X9_55 (fun a1 => ?_)
  refine GE.iload_n 1 dX9_oath_4 rfl rfl ?_
  refine GE.callvI [.int px1] dX9_oath_5 (lV_X9_160) rfl ⟨rfl, rfl⟩ (rokb rfl) (gX7_hasTower σ a1 px1) (fun x2 t3 => ?_)
  refine GE.if_ne (tgt := 17) dX9_oath_8 (by decide) ?_ ?_
  · refine GE.aload_n 0 dX9_oath_17 rfl rfl ?_
    refine GE.gR dX9_oath_18 lF_X9_68 (fun a4 => ?_)
    refine GE.aload_n 0 dX9_oath_21 rfl rfl ?_
    refine GE.gR dX9_oath_22 lF_X9_55 (fun a5 => ?_)
    refine GE.callvU [.ref a5] dX9_oath_25 (lV_X9_203) rfl ⟨rfl, rfl⟩ (rokb rfl) (gX5_keep t3 a4 a5) (fun w6 t7 => ?_)
    refine GE.aload_n 0 dX9_oath_28 rfl rfl ?_
    refine GE.gR dX9_oath_29 lF_X9_55 (fun a8 => ?_)
    refine GE.dup dX9_oath_32 rfl ?_
    refine GE.gI dX9_oath_33 lF_X9_186 (fun x9 => ?_)
    refine GE.iconst dX9_oath_36 kI_1 ?_
    refine GE.iload_n 1 dX9_oath_37 rfl rfl ?_
    refine GE.ishl dX9_oath_38 ?_
    refine GE.ixor dX9_oath_39 ?_
    refine GE.pI dX9_oath_40 lF_X9_186 (fun t10 => ?_)
    refine GE.aload_n 0 dX9_oath_43 rfl rfl ?_
    refine GE.gR dX9_oath_44 lF_X9_55 (fun a11 => ?_)
    refine GE.gI dX9_oath_47 lF_X9_186 (fun x12 => ?_)
    refine GE.iload_n 1 dX9_oath_50 rfl rfl ?_
    refine GE.ishr dX9_oath_51 ?_
    refine GE.iconst dX9_oath_52 kI_1 ?_
    refine GE.iand dX9_oath_53 ?_
    exact GE.iret dX9_oath_54 rfl (Nat.le_refl _) (Nat.le_refl _)
  · refine GE.aload_n 0 dX9_oath_11 rfl rfl ?_
    refine GE.iconst dX9_oath_12 kI_0 ?_
    refine GE.callvI [.int 0] dX9_oath_13 (lV_X9_197) rfl ⟨rfl, rfl⟩ (rokb rfl) (gX9_refuse t3 a0 0) (fun x13 t14 => ?_)
    exact GE.iret dX9_oath_16 rfl (Nat.le_refl _) (Nat.le_refl _)
def fX7_isSeen (σ : St) (a0 : Nat) (px1 : Int32) (pq2 : Option Nat) : Option (Int32 × St) :=
  lo2 (fun l3 (x1 : Int32) (t2 : St) =>
    (gI 7 3 t2 a0).bind fun x4 =>
  if x4 ≤ x1 then
    some (0, t2)
  else
    bo 7 t2 a0 (fX7_beholds t2 a0 x1 px1 pq2) (fun x5 t6 =>
    if x5 = 0 then
      l3 (x1 + 1) t6
    else
      some (1, t6))) FU 0 σ
set_option maxHeartbeats 4000000 in
set_option maxRecDepth 100000 in
theorem gX7_isSeen (σ : St) (a0 : Nat) (px1 : Int32) (pq2 : Option Nat) : CE vI mX7_isSeen [.ref a0, .int px1, va_rf pq2] σ (fX7_isSeen σ a0 px1 pq2) := by
  refine CE.ofGEF (lv := [(0, .ref a0), (1, .int px1), (2, va_rf pq2)]) (by decide +kernel) (by cases pq2 <;> exact Nat.le_of_ble_eq_true rfl) rfl ?_
  unfold fX7_isSeen
  refine GE.iconst dX7_isSeen_0 kI_0 ?_
  refine GE.istore_n (lv' := [(0, .ref a0), (1, .int px1), (2, va_rf pq2), (3, .int 0)]) dX7_isSeen_1 rfl (by decide) [1, 2, 3, 0] (by cases pq2 <;> rfl) ?_
  refine (GE.lo2 (fun (x1 : Int32) (t2 : St) => [(0, .ref a0), (1, .int px1), (2, va_rf pq2), (3, .int x1)]) (fun (x1 : Int32) (t2 : St) => []) (fun (x1 : Int32) (t2 : St) => t2) (fun l3 hl3 x1 t2 => ?_) FU 0 σ)
  refine GE.iload_n 3 dX7_isSeen_2 rfl rfl ?_
  refine GE.aload_n 0 dX7_isSeen_3 rfl rfl ?_
  refine GE.gI dX7_isSeen_4 lF_X7_21 (fun x4 => ?_)
  refine GE.icmp_ge (tgt := 28) dX7_isSeen_7 (by decide) ?_ ?_
  · refine GE.iconst dX7_isSeen_28 kI_0 ?_
    exact GE.zretk dX7_isSeen_29 rfl (Nat.le_refl _) (Nat.le_refl _) (by decide)
  · refine GE.aload_n 0 dX7_isSeen_10 rfl rfl ?_
    refine GE.iload_n 3 dX7_isSeen_11 rfl rfl ?_
    refine GE.iload_n 1 dX7_isSeen_12 rfl rfl ?_
    refine GE.aloadq_n 2 dX7_isSeen_13 rfl rfl ?_
    refine GE.callvI [.int x1, .int px1, va_rf pq2] dX7_isSeen_14 (lV_X7_110) rfl ⟨rfl, rfl⟩ (rokb rfl) (gX7_beholds t2 a0 x1 px1 pq2) (fun x5 t6 => ?_)
    refine GE.if_eq (tgt := 22) dX7_isSeen_17 (by decide) ?_ ?_
    · refine GE.iinc (lv' := [(0, .ref a0), (1, .int px1), (2, va_rf pq2), (3, .int (x1 + 1))]) 3 dX7_isSeen_22 rfl kI_1 (by decide) [1, 2, 3, 0] (by cases pq2 <;> rfl) ?_
      refine GE.goto (tgt := 2) dX7_isSeen_25 (by decide) ?_
      exact hl3 (x1 + 1) t6
    · refine GE.iconst dX7_isSeen_20 kI_1 ?_
      exact GE.zretk dX7_isSeen_21 rfl (Nat.le_refl _) (Nat.le_refl _) (by decide)
def fX9_fogsThatHide (σ : St) (a0 : Nat) (px1 : Int32) (px2 : Int32) : Option (Int32 × St) :=
  (gR 9 10 σ a0).bind fun a1 =>
  (gR 9 8 σ a0).bind fun a2 =>
  bo 7 σ a1 (fX7_become σ a1 a2) (fun w3 t4 =>
  (gR 9 10 t4 a0).bind fun a5 =>
  (gR 9 8 t4 a0).bind fun a6 =>
  (gI 7 6 t4 a6).bind fun x7 =>
  (pV 7 6 t4 a5 (.int (x7 + px2))).bind (fun t8 =>
  (gR 9 8 t8 a0).bind fun a9 =>
  (gI 7 4 t8 a9).bind fun x10 =>
  bd (fJ9_max_7cf53 t8 0 (x10 - px2)) (fun x11 t12 =>
  lo3 (fun l16 (x13 : Int32) (x14 : Int32) (t15 : St) =>
    (gR 9 8 t15 a0).bind fun a17 =>
  (gI 7 4 t15 a17).bind fun x18 =>
  bd (fJ9_min_7cf53 t15 9 (x18 + px2)) (fun x19 t20 =>
  if x19 < x14 then
    some (x13, t20)
  else
    (gR 9 10 t20 a0).bind fun a21 =>
    (pV 7 4 t20 a21 (.int x14)).bind (fun t22 =>
    (gR 9 10 t22 a0).bind fun a23 =>
    bo 9 t22 a0 (fX9_ruling t22 a0) (fun q24 t25 =>
    bo 7 t25 a23 (fX7_isSeen t25 a23 px1 q24) (fun x26 t27 =>
    jo1 (fun (x28 : Int32) =>
      l16 x28 (x14 + 1) t27) (fun j29 =>
      if x26 = 0 then
        nam (x13 ||| (1 <<< (x14 &&& 31)) : Int32) (fun x30 =>
        j29 x30)
      else
        j29 x13)))))) FU 0 x11 t12)))
set_option maxHeartbeats 4000000 in
set_option maxRecDepth 100000 in
theorem gX9_fogsThatHide (σ : St) (a0 : Nat) (px1 : Int32) (px2 : Int32) : CE vI mX9_fogsThatHide [.ref a0, .int px1, .int px2] σ (fX9_fogsThatHide σ a0 px1 px2) := by
  refine CE.ofGEF (lv := [(0, .ref a0), (1, .int px1), (2, .int px2)]) (by decide +kernel) (Nat.le_of_ble_eq_true rfl) rfl ?_
  unfold fX9_fogsThatHide
  refine GE.aload_n 0 dX9_fogsThatHide_0 rfl rfl ?_
  refine GE.gR dX9_fogsThatHide_1 lF_X9_62 (fun a1 => ?_)
  refine GE.aload_n 0 dX9_fogsThatHide_4 rfl rfl ?_
  refine GE.gR dX9_fogsThatHide_5 lF_X9_55 (fun a2 => ?_)
  refine GE.callvU [.ref a2] dX9_fogsThatHide_8 (lV_X9_123) rfl ⟨rfl, rfl⟩ (rokb rfl) (gX7_become σ a1 a2) (fun w3 t4 => ?_)
  refine GE.aload_n 0 dX9_fogsThatHide_11 rfl rfl ?_
  refine GE.gR dX9_fogsThatHide_12 lF_X9_62 (fun a5 => ?_)
  refine GE.aload_n 0 dX9_fogsThatHide_15 rfl rfl ?_
  refine GE.gR dX9_fogsThatHide_16 lF_X9_55 (fun a6 => ?_)
  refine GE.gI dX9_fogsThatHide_19 lF_X9_200 (fun x7 => ?_)
  refine GE.iload_n 2 dX9_fogsThatHide_22 rfl rfl ?_
  refine GE.iadd dX9_fogsThatHide_23 ?_
  refine GE.pI dX9_fogsThatHide_24 lF_X9_200 (fun t8 => ?_)
  refine GE.iconst dX9_fogsThatHide_27 kI_0 ?_
  refine GE.istore_n (lv' := [(0, .ref a0), (1, .int px1), (2, .int px2), (3, .int 0)]) dX9_fogsThatHide_28 rfl (by decide) [1, 2, 3, 0] rfl ?_
  refine GE.iconst dX9_fogsThatHide_29 kI_0 ?_
  refine GE.aload_n 0 dX9_fogsThatHide_30 rfl rfl ?_
  refine GE.gR dX9_fogsThatHide_31 lF_X9_55 (fun a9 => ?_)
  refine GE.gI dX9_fogsThatHide_34 lF_X9_150 (fun x10 => ?_)
  refine GE.iload_n 2 dX9_fogsThatHide_37 rfl rfl ?_
  refine GE.isub dX9_fogsThatHide_38 ?_
  refine GE.callsI [.int 0, .int (x10 - px2)] dX9_fogsThatHide_39 (lT_X9_240) rfl ⟨rfl, rfl⟩ (rokb rfl) (gJ9_max_7cf53 t8 0 (x10 - px2)) (fun x11 t12 => ?_)
  refine GE.istore (lv' := [(0, .ref a0), (1, .int px1), (2, .int px2), (3, .int 0), (4, .int x11)]) dX9_fogsThatHide_42 (by decide) [1, 2, 3, 4, 0] rfl ?_
  refine (GE.lo3 (fun (x13 : Int32) (x14 : Int32) (t15 : St) => [(0, .ref a0), (1, .int px1), (2, .int px2), (3, .int x13), (4, .int x14)]) (fun (x13 : Int32) (x14 : Int32) (t15 : St) => []) (fun (x13 : Int32) (x14 : Int32) (t15 : St) => t15) (fun l16 hl16 x13 x14 t15 => ?_) FU 0 x11 t12)
  refine GE.iload 4 dX9_fogsThatHide_44 rfl ?_
  refine GE.bipush dX9_fogsThatHide_46 kB_9 ?_
  refine GE.aload_n 0 dX9_fogsThatHide_48 rfl rfl ?_
  refine GE.gR dX9_fogsThatHide_49 lF_X9_55 (fun a17 => ?_)
  refine GE.gI dX9_fogsThatHide_52 lF_X9_150 (fun x18 => ?_)
  refine GE.iload_n 2 dX9_fogsThatHide_55 rfl rfl ?_
  refine GE.iadd dX9_fogsThatHide_56 ?_
  refine GE.callsI [.int 9, .int (x18 + px2)] dX9_fogsThatHide_57 (lT_X9_230) rfl ⟨rfl, rfl⟩ (rokb rfl) (gJ9_min_7cf53 t15 9 (x18 + px2)) (fun x19 t20 => ?_)
  refine GE.icmp_gt (tgt := 100) dX9_fogsThatHide_60 (by decide) ?_ ?_
  · refine GE.iload_n 3 dX9_fogsThatHide_100 rfl rfl ?_
    exact GE.iret dX9_fogsThatHide_101 rfl (Nat.le_refl _) (Nat.le_refl _)
  · refine GE.aload_n 0 dX9_fogsThatHide_63 rfl rfl ?_
    refine GE.gR dX9_fogsThatHide_64 lF_X9_62 (fun a21 => ?_)
    refine GE.iload 4 dX9_fogsThatHide_67 rfl ?_
    refine GE.pI dX9_fogsThatHide_69 lF_X9_150 (fun t22 => ?_)
    refine GE.aload_n 0 dX9_fogsThatHide_72 rfl rfl ?_
    refine GE.gR dX9_fogsThatHide_73 lF_X9_62 (fun a23 => ?_)
    refine GE.iload_n 1 dX9_fogsThatHide_76 rfl rfl ?_
    refine GE.aload_n 0 dX9_fogsThatHide_77 rfl rfl ?_
    refine GE.callvQ [] dX9_fogsThatHide_78 (lV_X9_179) rfl ⟨rfl, rfl⟩ (rokb rfl) (gX9_ruling t22 a0) (fun q24 t25 => ?_)
    refine GE.callvI [.int px1, va_rf q24] dX9_fogsThatHide_81 (lV_X9_336) rfl ⟨rfl, rfl⟩ (rokb rfl) (gX7_isSeen t25 a23 px1 q24) (fun x26 t27 => ?_)
    refine GE.jo1 94 (fun (x28 : Int32) => [(0, .ref a0), (1, .int px1), (2, .int px2), (3, .int x28), (4, .int x14)]) (fun (x28 : Int32) => []) (fun (x28 : Int32) => t27) (fun x28 => ?_) (fun j29 hj29 => ?_)
    · refine GE.iinc (lv' := [(0, .ref a0), (1, .int px1), (2, .int px2), (3, .int x28), (4, .int (x14 + 1))]) 4 dX9_fogsThatHide_94 rfl kI_1 (by decide) [1, 2, 3, 4, 0] rfl ?_
      refine GE.goto (tgt := 44) dX9_fogsThatHide_97 (by decide) ?_
      exact hl16 x28 (x14 + 1) t27
    · refine GE.if_ne (tgt := 94) dX9_fogsThatHide_84 (by decide) ?_ ?_
      · exact hj29 x13
      · refine GE.iload_n 3 dX9_fogsThatHide_87 rfl rfl ?_
        refine GE.iconst dX9_fogsThatHide_88 kI_1 ?_
        refine GE.iload 4 dX9_fogsThatHide_89 rfl ?_
        refine GE.ishl dX9_fogsThatHide_91 ?_
        refine GE.ior dX9_fogsThatHide_92 ?_
        refine GE.nami (fun x30 => ?_)
        refine GE.istore_n (lv' := [(0, .ref a0), (1, .int px1), (2, .int px2), (3, .int x30), (4, .int x14)]) dX9_fogsThatHide_93 rfl (by decide) [1, 2, 3, 0, 4] rfl ?_
        exact hj29 x30
def fX0_isRest (σ : St) (a0 : Nat) (px1 : Int32) (px2 : Int32) : Option (Int32 × St) :=
  lo2 (fun l3 (x1 : Int32) (t2 : St) =>
    if 3 < x1 then
    some (1, t2)
  else
    bo 0 t2 a0 (fX0_gainOfOne t2 a0 x1 px2) (fun x4 t5 =>
    bo 0 t5 a0 (fX0_gainOfOne t5 a0 px1 px2) (fun x6 t7 =>
    if x6 < x4 then
      some (0, t7)
    else
      bo 0 t7 a0 (fX0_gainOfOther t7 a0 px1 x1) (fun x8 t9 =>
      bo 0 t9 a0 (fX0_gainOfOther t9 a0 px1 px2) (fun x10 t11 =>
      if x8 ≤ x10 then
        l3 (x1 + 1) t11
      else
        some (0, t11)))))) FU 0 σ
set_option maxHeartbeats 4000000 in
set_option maxRecDepth 100000 in
theorem gX0_isRest (σ : St) (a0 : Nat) (px1 : Int32) (px2 : Int32) : CE vI mX0_isRest [.ref a0, .int px1, .int px2] σ (fX0_isRest σ a0 px1 px2) := by
  refine CE.ofGEF (lv := [(0, .ref a0), (1, .int px1), (2, .int px2)]) (by decide +kernel) (Nat.le_of_ble_eq_true rfl) rfl ?_
  unfold fX0_isRest
  refine GE.iconst dX0_isRest_0 kI_0 ?_
  refine GE.istore_n (lv' := [(0, .ref a0), (1, .int px1), (2, .int px2), (3, .int 0)]) dX0_isRest_1 rfl (by decide) [1, 2, 3, 0] rfl ?_
  refine (GE.lo2 (fun (x1 : Int32) (t2 : St) => [(0, .ref a0), (1, .int px1), (2, .int px2), (3, .int x1)]) (fun (x1 : Int32) (t2 : St) => []) (fun (x1 : Int32) (t2 : St) => t2) (fun l3 hl3 x1 t2 => ?_) FU 0 σ)
  refine GE.iload_n 3 dX0_isRest_2 rfl rfl ?_
  refine GE.iconst dX0_isRest_3 kI_3 ?_
  refine GE.icmp_gt (tgt := 45) dX0_isRest_4 (by decide) ?_ ?_
  · refine GE.iconst dX0_isRest_45 kI_1 ?_
    exact GE.zretk dX0_isRest_46 rfl (Nat.le_refl _) (Nat.le_refl _) (by decide)
  · refine GE.aload_n 0 dX0_isRest_7 rfl rfl ?_
    refine GE.iload_n 3 dX0_isRest_8 rfl rfl ?_
    refine GE.iload_n 2 dX0_isRest_9 rfl rfl ?_
    refine GE.callvI [.int x1, .int px2] dX0_isRest_10 (lV_X0_43) rfl ⟨rfl, rfl⟩ (rokb rfl) (gX0_gainOfOne t2 a0 x1 px2) (fun x4 t5 => ?_)
    refine GE.aload_n 0 dX0_isRest_13 rfl rfl ?_
    refine GE.iload_n 1 dX0_isRest_14 rfl rfl ?_
    refine GE.iload_n 2 dX0_isRest_15 rfl rfl ?_
    refine GE.callvI [.int px1, .int px2] dX0_isRest_16 (lV_X0_43) rfl ⟨rfl, rfl⟩ (rokb rfl) (gX0_gainOfOne t5 a0 px1 px2) (fun x6 t7 => ?_)
    refine GE.icmp_gt (tgt := 37) dX0_isRest_19 (by decide) ?_ ?_
    · refine GE.iconst dX0_isRest_37 kI_0 ?_
      exact GE.zretk dX0_isRest_38 rfl (Nat.le_refl _) (Nat.le_refl _) (by decide)
    · refine GE.aload_n 0 dX0_isRest_22 rfl rfl ?_
      refine GE.iload_n 1 dX0_isRest_23 rfl rfl ?_
      refine GE.iload_n 3 dX0_isRest_24 rfl rfl ?_
      refine GE.callvI [.int px1, .int x1] dX0_isRest_25 (lV_X0_46) rfl ⟨rfl, rfl⟩ (rokb rfl) (gX0_gainOfOther t7 a0 px1 x1) (fun x8 t9 => ?_)
      refine GE.aload_n 0 dX0_isRest_28 rfl rfl ?_
      refine GE.iload_n 1 dX0_isRest_29 rfl rfl ?_
      refine GE.iload_n 2 dX0_isRest_30 rfl rfl ?_
      refine GE.callvI [.int px1, .int px2] dX0_isRest_31 (lV_X0_46) rfl ⟨rfl, rfl⟩ (rokb rfl) (gX0_gainOfOther t9 a0 px1 px2) (fun x10 t11 => ?_)
      refine GE.icmp_le (tgt := 39) dX0_isRest_34 (by decide) ?_ ?_
      · refine GE.iinc (lv' := [(0, .ref a0), (1, .int px1), (2, .int px2), (3, .int (x1 + 1))]) 3 dX0_isRest_39 rfl kI_1 (by decide) [1, 2, 3, 0] rfl ?_
        refine GE.goto (tgt := 2) dX0_isRest_42 (by decide) ?_
        exact hl3 (x1 + 1) t11
      · refine GE.iconst dX0_isRest_37 kI_0 ?_
        exact GE.zretk dX0_isRest_38 rfl (Nat.le_refl _) (Nat.le_refl _) (by decide)
def fX0_restAt (σ : St) (a0 : Nat) (px1 : Int32) : Option (Int32 × St) :=
  lo3 (fun l4 (x1 : Int32) (x2 : Int32) (t3 : St) =>
    if 3 < x2 then
    if px1 = (-1) then
      some (x1, t3)
    else
      some ((-1), t3)
  else
    lo3 (fun l8 (x5 : Int32) (x6 : Int32) (t7 : St) =>
      if 3 < x6 then
      l4 x5 (x2 + 1) t7
    else
      bo 0 t7 a0 (fX0_isRest t7 a0 x2 x6) (fun x9 t10 =>
      jo1 (fun (x11 : Int32) =>
        l8 x11 (x6 + 1) t10) (fun j12 =>
        if x9 = 0 then
          j12 x5
        else
          if x5 = px1 then
            some ((10 * x2) + x6, t10)
          else
            j12 (x5 + 1)))) FU x1 0 t3) FU 0 0 σ
set_option maxHeartbeats 4000000 in
set_option maxRecDepth 100000 in
theorem gX0_restAt (σ : St) (a0 : Nat) (px1 : Int32) : CE vI mX0_restAt [.ref a0, .int px1] σ (fX0_restAt σ a0 px1) := by
  refine CE.ofGEF (lv := [(0, .ref a0), (1, .int px1)]) (by decide +kernel) (Nat.le_of_ble_eq_true rfl) rfl ?_
  unfold fX0_restAt
  refine GE.iconst dX0_restAt_0 kI_0 ?_
  refine GE.istore_n (lv' := [(0, .ref a0), (1, .int px1), (2, .int 0)]) dX0_restAt_1 rfl (by decide) [1, 2, 0] rfl ?_
  refine GE.iconst dX0_restAt_2 kI_0 ?_
  refine GE.istore_n (lv' := [(0, .ref a0), (1, .int px1), (2, .int 0), (3, .int 0)]) dX0_restAt_3 rfl (by decide) [1, 2, 3, 0] rfl ?_
  refine (GE.lo3 (fun (x1 : Int32) (x2 : Int32) (t3 : St) => [(0, .ref a0), (1, .int px1), (2, .int x1), (3, .int x2)]) (fun (x1 : Int32) (x2 : Int32) (t3 : St) => []) (fun (x1 : Int32) (x2 : Int32) (t3 : St) => t3) (fun l4 hl4 x1 x2 t3 => ?_) FU 0 0 σ)
  refine GE.iload_n 3 dX0_restAt_4 rfl rfl ?_
  refine GE.iconst dX0_restAt_5 kI_3 ?_
  refine GE.icmp_gt (tgt := 56) dX0_restAt_6 (by decide) ?_ ?_
  · refine GE.iload_n 1 dX0_restAt_56 rfl rfl ?_
    refine GE.iconst dX0_restAt_57 kI_m1 ?_
    refine GE.icmp_ne (tgt := 65) dX0_restAt_58 (by decide) ?_ ?_
    · refine GE.iconst dX0_restAt_65 kI_m1 ?_
      exact GE.iret dX0_restAt_66 rfl (Nat.le_refl _) (Nat.le_refl _)
    · refine GE.iload_n 2 dX0_restAt_61 rfl rfl ?_
      refine GE.goto (tgt := 66) dX0_restAt_62 (by decide) ?_
      exact GE.iret dX0_restAt_66 rfl (Nat.le_refl _) (Nat.le_refl _)
  · refine GE.iconst dX0_restAt_9 kI_0 ?_
    refine GE.istore (lv' := [(0, .ref a0), (1, .int px1), (2, .int x1), (3, .int x2), (4, .int 0)]) dX0_restAt_10 (by decide) [1, 2, 3, 4, 0] rfl ?_
    refine (GE.lo3 (fun (x5 : Int32) (x6 : Int32) (t7 : St) => [(0, .ref a0), (1, .int px1), (2, .int x5), (3, .int x2), (4, .int x6)]) (fun (x5 : Int32) (x6 : Int32) (t7 : St) => []) (fun (x5 : Int32) (x6 : Int32) (t7 : St) => t7) (fun l8 hl8 x5 x6 t7 => ?_) FU x1 0 t3)
    refine GE.iload 4 dX0_restAt_12 rfl ?_
    refine GE.iconst dX0_restAt_14 kI_3 ?_
    refine GE.icmp_gt (tgt := 50) dX0_restAt_15 (by decide) ?_ ?_
    · refine GE.iinc (lv' := [(0, .ref a0), (1, .int px1), (2, .int x5), (3, .int (x2 + 1)), (4, .int x6)]) 3 dX0_restAt_50 rfl kI_1 (by decide) [1, 2, 3, 0, 4] rfl ?_
      refine GE.goto (tgt := 4) dX0_restAt_53 (by decide) ?_
      exact GE.sub [0, 1, 2, 3] rfl (hl4 x5 (x2 + 1) t7)
    · refine GE.aload_n 0 dX0_restAt_18 rfl rfl ?_
      refine GE.iload_n 3 dX0_restAt_19 rfl rfl ?_
      refine GE.iload 4 dX0_restAt_20 rfl ?_
      refine GE.callvI [.int x2, .int x6] dX0_restAt_22 (lV_X0_39) rfl ⟨rfl, rfl⟩ (rokb rfl) (gX0_isRest t7 a0 x2 x6) (fun x9 t10 => ?_)
      refine GE.jo1 44 (fun (x11 : Int32) => [(0, .ref a0), (1, .int px1), (2, .int x11), (3, .int x2), (4, .int x6)]) (fun (x11 : Int32) => []) (fun (x11 : Int32) => t10) (fun x11 => ?_) (fun j12 hj12 => ?_)
      · refine GE.iinc (lv' := [(0, .ref a0), (1, .int px1), (2, .int x11), (3, .int x2), (4, .int (x6 + 1))]) 4 dX0_restAt_44 rfl kI_1 (by decide) [1, 2, 3, 4, 0] rfl ?_
        refine GE.goto (tgt := 12) dX0_restAt_47 (by decide) ?_
        exact hl8 x11 (x6 + 1) t10
      · refine GE.if_eq (tgt := 44) dX0_restAt_25 (by decide) ?_ ?_
        · exact hj12 x5
        · refine GE.iload_n 2 dX0_restAt_28 rfl rfl ?_
          refine GE.iload_n 1 dX0_restAt_29 rfl rfl ?_
          refine GE.icmp_ne (tgt := 41) dX0_restAt_30 (by decide) ?_ ?_
          · refine GE.iinc (lv' := [(0, .ref a0), (1, .int px1), (2, .int (x5 + 1)), (3, .int x2), (4, .int x6)]) 2 dX0_restAt_41 rfl kI_1 (by decide) [1, 2, 0, 3, 4] rfl ?_
            exact hj12 (x5 + 1)
          · refine GE.bipush dX0_restAt_33 kB_10 ?_
            refine GE.iload_n 3 dX0_restAt_35 rfl rfl ?_
            refine GE.imul dX0_restAt_36 ?_
            refine GE.iload 4 dX0_restAt_37 rfl ?_
            refine GE.iadd dX0_restAt_39 ?_
            exact GE.iret dX0_restAt_40 rfl (Nat.le_refl _) (Nat.le_refl _)
def fX9_rests (σ : St) (a0 : Nat) (px1 : Int32) (px2 : Int32) (px3 : Int32) : Option (Int32 × St) :=
  (gR 9 8 σ a0).bind fun a1 =>
  bo 7 σ a1 (fX7_hasTower σ a1 px1) (fun x2 t3 =>
  if x2 = 0 then
    some ((-1), t3)
  else
    (gR 9 8 t3 a0).bind fun a4 =>
    bo 7 t3 a4 (fX7_hasTower t3 a4 px2) (fun x5 t6 =>
    if x5 = 0 then
      some ((-1), t6)
    else
      if px1 = px2 then
        some ((-1), t6)
      else
        (gR 9 10 t6 a0).bind fun a7 =>
        (gR 9 8 t6 a0).bind fun a8 =>
        bo 7 t6 a7 (fX7_become t6 a7 a8) (fun w9 t10 =>
        (gR 9 14 t10 a0).bind fun a11 =>
        (gR 9 10 t10 a0).bind fun a12 =>
        bo 9 t10 a0 (fX9_ruling t10 a0) (fun q13 t14 =>
        bo 0 t14 a11 (fX0_prepare t14 a11 a12 px1 px2 q13) (fun w15 t16 =>
        (gR 9 14 t16 a0).bind fun a17 =>
        bo 0 t16 a17 (fX0_restAt t16 a17 px3) (fun x18 t19 =>
        some (x18, t19)))))))
set_option maxHeartbeats 4000000 in
set_option maxRecDepth 100000 in
theorem gX9_rests (σ : St) (a0 : Nat) (px1 : Int32) (px2 : Int32) (px3 : Int32) : CE vI mX9_rests [.ref a0, .int px1, .int px2, .int px3] σ (fX9_rests σ a0 px1 px2 px3) := by
  refine CE.ofGEF (lv := [(0, .ref a0), (1, .int px1), (2, .int px2), (3, .int px3)]) (by decide +kernel) (Nat.le_of_ble_eq_true rfl) rfl ?_
  unfold fX9_rests
  refine GE.aload_n 0 dX9_rests_0 rfl rfl ?_
  refine GE.gR dX9_rests_1 lF_X9_55 (fun a1 => ?_)
  refine GE.iload_n 1 dX9_rests_4 rfl rfl ?_
  refine GE.callvI [.int px1] dX9_rests_5 (lV_X9_160) rfl ⟨rfl, rfl⟩ (rokb rfl) (gX7_hasTower σ a1 px1) (fun x2 t3 => ?_)
  refine GE.if_eq (tgt := 27) dX9_rests_8 (by decide) ?_ ?_
  · refine GE.iconst dX9_rests_27 kI_m1 ?_
    exact GE.iret dX9_rests_28 rfl (Nat.le_refl _) (Nat.le_refl _)
  · refine GE.aload_n 0 dX9_rests_11 rfl rfl ?_
    refine GE.gR dX9_rests_12 lF_X9_55 (fun a4 => ?_)
    refine GE.iload_n 2 dX9_rests_15 rfl rfl ?_
    refine GE.callvI [.int px2] dX9_rests_16 (lV_X9_160) rfl ⟨rfl, rfl⟩ (rokb rfl) (gX7_hasTower t3 a4 px2) (fun x5 t6 => ?_)
    refine GE.if_eq (tgt := 27) dX9_rests_19 (by decide) ?_ ?_
    · refine GE.iconst dX9_rests_27 kI_m1 ?_
      exact GE.iret dX9_rests_28 rfl (Nat.le_refl _) (Nat.le_refl _)
    · refine GE.iload_n 1 dX9_rests_22 rfl rfl ?_
      refine GE.iload_n 2 dX9_rests_23 rfl rfl ?_
      refine GE.icmp_ne (tgt := 29) dX9_rests_24 (by decide) ?_ ?_
      · refine GE.aload_n 0 dX9_rests_29 rfl rfl ?_
        refine GE.gR dX9_rests_30 lF_X9_62 (fun a7 => ?_)
        refine GE.aload_n 0 dX9_rests_33 rfl rfl ?_
        refine GE.gR dX9_rests_34 lF_X9_55 (fun a8 => ?_)
        refine GE.callvU [.ref a8] dX9_rests_37 (lV_X9_123) rfl ⟨rfl, rfl⟩ (rokb rfl) (gX7_become t6 a7 a8) (fun w9 t10 => ?_)
        refine GE.aload_n 0 dX9_rests_40 rfl rfl ?_
        refine GE.gR dX9_rests_41 lF_X9_89 (fun a11 => ?_)
        refine GE.aload_n 0 dX9_rests_44 rfl rfl ?_
        refine GE.gR dX9_rests_45 lF_X9_62 (fun a12 => ?_)
        refine GE.iload_n 1 dX9_rests_48 rfl rfl ?_
        refine GE.iload_n 2 dX9_rests_49 rfl rfl ?_
        refine GE.aload_n 0 dX9_rests_50 rfl rfl ?_
        refine GE.callvQ [] dX9_rests_51 (lV_X9_179) rfl ⟨rfl, rfl⟩ (rokb rfl) (gX9_ruling t10 a0) (fun q13 t14 => ?_)
        refine GE.callvU [.ref a12, .int px1, .int px2, va_rf q13] dX9_rests_54 (lV_X9_314) rfl ⟨rfl, rfl⟩ (rokb rfl) (gX0_prepare t14 a11 a12 px1 px2 q13) (fun w15 t16 => ?_)
        refine GE.aload_n 0 dX9_rests_57 rfl rfl ?_
        refine GE.gR dX9_rests_58 lF_X9_89 (fun a17 => ?_)
        refine GE.iload_n 3 dX9_rests_61 rfl rfl ?_
        refine GE.callvI [.int px3] dX9_rests_62 (lV_X9_324) rfl ⟨rfl, rfl⟩ (rokb rfl) (gX0_restAt t16 a17 px3) (fun x18 t19 => ?_)
        exact GE.iret dX9_rests_65 rfl (Nat.le_refl _) (Nat.le_refl _)
      · refine GE.iconst dX9_rests_27 kI_m1 ?_
        exact GE.iret dX9_rests_28 rfl (Nat.le_refl _) (Nat.le_refl _)
def fX6_leastBeside (σ : St) (a0 : Nat) (pa1 : Nat) (px2 : Int32) : Option (Int32 × St) :=
  lo3 (fun l4 (x1 : Int32) (x2 : Int32) (t3 : St) =>
    if 4 ≤ x2 then
    some (x1, t3)
  else
    bo 7 t3 pa1 (fX7_beside t3 pa1 px2 x2) (fun x5 t6 =>
    bo 7 t6 pa1 (fX7_hasCell t6 pa1 x5) (fun x7 t8 =>
    jo2 (fun (x9 : Int32) (t10 : St) =>
      l4 x9 (x2 + 1) t10) (fun j11 =>
      if x7 = 0 then
        j11 x1 t8
      else
        (gR 6 0 t8 a0).bind fun a12 =>
        (aI 0 t8 a12 x5).bind fun x13 =>
        bd (fJ9_min_7cf53 t8 x1 x13) (fun x14 t15 =>
        j11 x14 t15))))) FU 1000 0 σ
set_option maxHeartbeats 4000000 in
set_option maxRecDepth 100000 in
theorem gX6_leastBeside (σ : St) (a0 : Nat) (pa1 : Nat) (px2 : Int32) : CE vI mX6_leastBeside [.ref a0, .ref pa1, .int px2] σ (fX6_leastBeside σ a0 pa1 px2) := by
  refine CE.ofGEF (lv := [(0, .ref a0), (1, .ref pa1), (2, .int px2)]) (by decide +kernel) (Nat.le_of_ble_eq_true rfl) rfl ?_
  unfold fX6_leastBeside
  refine GE.sipush dX6_leastBeside_0 kS_1000 ?_
  refine GE.istore_n (lv' := [(0, .ref a0), (1, .ref pa1), (2, .int px2), (3, .int 1000)]) dX6_leastBeside_3 rfl (by decide) [1, 2, 3, 0] rfl ?_
  refine GE.iconst dX6_leastBeside_4 kI_0 ?_
  refine GE.istore (lv' := [(0, .ref a0), (1, .ref pa1), (2, .int px2), (3, .int 1000), (4, .int 0)]) dX6_leastBeside_5 (by decide) [1, 2, 3, 4, 0] rfl ?_
  refine (GE.lo3 (fun (x1 : Int32) (x2 : Int32) (t3 : St) => [(0, .ref a0), (1, .ref pa1), (2, .int px2), (3, .int x1), (4, .int x2)]) (fun (x1 : Int32) (x2 : Int32) (t3 : St) => []) (fun (x1 : Int32) (x2 : Int32) (t3 : St) => t3) (fun l4 hl4 x1 x2 t3 => ?_) FU 1000 0 σ)
  refine GE.iload 4 dX6_leastBeside_7 rfl ?_
  refine GE.iconst dX6_leastBeside_9 kI_4 ?_
  refine GE.icmp_ge (tgt := 49) dX6_leastBeside_10 (by decide) ?_ ?_
  · refine GE.iload_n 3 dX6_leastBeside_49 rfl rfl ?_
    exact GE.iret dX6_leastBeside_50 rfl (Nat.le_refl _) (Nat.le_refl _)
  · refine GE.aload_n 1 dX6_leastBeside_13 rfl rfl ?_
    refine GE.iload_n 2 dX6_leastBeside_14 rfl rfl ?_
    refine GE.iload 4 dX6_leastBeside_15 rfl ?_
    refine GE.callvI [.int px2, .int x2] dX6_leastBeside_17 (lV_X6_31) rfl ⟨rfl, rfl⟩ (rokb rfl) (gX7_beside t3 pa1 px2 x2) (fun x5 t6 => ?_)
    refine GE.istore (lv' := [(0, .ref a0), (1, .ref pa1), (2, .int px2), (3, .int x1), (4, .int x2), (5, .int x5)]) dX6_leastBeside_20 (by decide) [1, 2, 3, 4, 5, 0] rfl ?_
    refine GE.aload_n 1 dX6_leastBeside_22 rfl rfl ?_
    refine GE.iload 5 dX6_leastBeside_23 rfl ?_
    refine GE.callvI [.int x5] dX6_leastBeside_25 (lV_X6_35) rfl ⟨rfl, rfl⟩ (rokb rfl) (gX7_hasCell t6 pa1 x5) (fun x7 t8 => ?_)
    refine GE.jo2 43 (fun (x9 : Int32) (t10 : St) => [(0, .ref a0), (1, .ref pa1), (2, .int px2), (3, .int x9), (4, .int x2)]) (fun (x9 : Int32) (t10 : St) => []) (fun (x9 : Int32) (t10 : St) => t10) (fun x9 t10 => ?_) (fun j11 hj11 => ?_)
    · refine GE.iinc (lv' := [(0, .ref a0), (1, .ref pa1), (2, .int px2), (3, .int x9), (4, .int (x2 + 1))]) 4 dX6_leastBeside_43 rfl kI_1 (by decide) [1, 2, 3, 4, 0] rfl ?_
      refine GE.goto (tgt := 7) dX6_leastBeside_46 (by decide) ?_
      exact hl4 x9 (x2 + 1) t10
    · refine GE.if_eq (tgt := 43) dX6_leastBeside_28 (by decide) ?_ ?_
      · exact GE.sub [0, 1, 2, 3, 4] rfl (hj11 x1 t8)
      · refine GE.iload_n 3 dX6_leastBeside_31 rfl rfl ?_
        refine GE.aload_n 0 dX6_leastBeside_32 rfl rfl ?_
        refine GE.gR dX6_leastBeside_33 lF_X6_11 (fun a12 => ?_)
        refine GE.iload 5 dX6_leastBeside_36 rfl ?_
        refine GE.iald dX6_leastBeside_38 (fun x13 => ?_)
        refine GE.callsI [.int x1, .int x13] dX6_leastBeside_39 (lT_X6_39) rfl ⟨rfl, rfl⟩ (rokb rfl) (gJ9_min_7cf53 t8 x1 x13) (fun x14 t15 => ?_)
        refine GE.istore_n (lv' := [(0, .ref a0), (1, .ref pa1), (2, .int px2), (3, .int x14), (4, .int x2), (5, .int x5)]) dX6_leastBeside_42 rfl (by decide) [1, 2, 3, 0, 4, 5] rfl ?_
        exact GE.sub [0, 1, 2, 3, 4] rfl (hj11 x14 t15)
def fX6_measure (σ : St) (a0 : Nat) (pa1 : Nat) (px2 : Int32) (px3 : Int32) (px4 : Int32) (px5 : Int32) : Option (Unit × St) :=
  (gR 6 0 σ a0).bind fun a1 =>
  bd (fJ7_fill_53178 σ a1 1000) (fun w2 t3 =>
  (gR 6 0 t3 a0).bind fun a4 =>
  jo3 (fun (v5 : Int32) (v6 : Int32) (v7 : Nat) =>
    (sI 0 t3 v7 v6 v5).bind (fun t9 =>
    lo3 (fun l13 (x10 : Int32) (x11 : Int32) (t12 : St) =>
      (gI 7 2 t12 pa1).bind fun x14 =>
    if x14 ≤ x11 then
      some ((), t12)
    else
      if x10 = 0 then
        some ((), t12)
      else
        lo3 (fun l18 (x15 : Int32) (x16 : Int32) (t17 : St) =>
          (gI 7 2 t17 pa1).bind fun x19 =>
        if x19 ≤ x16 then
          l13 x15 (x11 + 1) t17
        else
          jo1 (fun (v20 : Int32) =>
            bo 6 t17 a0 (fX6_leastBeside t17 a0 pa1 x16) (fun x22 t23 =>
            nam (v20 + x22 : Int32) (fun x24 =>
            (gR 6 0 t23 a0).bind fun a25 =>
            (aI 0 t23 a25 x16).bind fun x26 =>
            jo2 (fun (x27 : Int32) (t28 : St) =>
              l18 x27 (x16 + 1) t28) (fun j29 =>
              if x26 ≤ x24 then
                j29 x15 t23
              else
                (gR 6 0 t23 a0).bind fun a30 =>
                (sI 0 t23 a30 x16 x24).bind (fun t31 =>
                j29 1 t31))))) (fun j21 =>
            if (px3 >>> (x16 &&& 31)) &&& 1 = 1 then
              j21 px4
            else
              j21 px5)) FU 0 0 t12) FU 1 0 t9)) (fun j8 =>
    if (px3 >>> (px2 &&& 31)) &&& 1 = 1 then
      j8 px4 px2 a4
    else
      j8 px5 px2 a4))
set_option maxHeartbeats 4000000 in
set_option maxRecDepth 100000 in
theorem gX6_measure (σ : St) (a0 : Nat) (pa1 : Nat) (px2 : Int32) (px3 : Int32) (px4 : Int32) (px5 : Int32) : CE vU mX6_measure [.ref a0, .ref pa1, .int px2, .int px3, .int px4, .int px5] σ (fX6_measure σ a0 pa1 px2 px3 px4 px5) := by
  refine CE.ofGEF (lv := [(0, .ref a0), (1, .ref pa1), (2, .int px2), (3, .int px3), (4, .int px4), (5, .int px5)]) (by decide +kernel) (Nat.le_of_ble_eq_true rfl) rfl ?_
  unfold fX6_measure
  refine GE.aload_n 0 dX6_measure_0 rfl rfl ?_
  refine GE.gR dX6_measure_1 lF_X6_11 (fun a1 => ?_)
  refine GE.sipush dX6_measure_4 kS_1000 ?_
  refine GE.callsU [.ref a1, .int 1000] dX6_measure_7 (lT_X6_17) rfl ⟨rfl, rfl⟩ (rokb rfl) (gJ7_fill_53178 σ a1 1000) (fun w2 t3 => ?_)
  refine GE.aload_n 0 dX6_measure_10 rfl rfl ?_
  refine GE.gR dX6_measure_11 lF_X6_11 (fun a4 => ?_)
  refine GE.iload_n 2 dX6_measure_14 rfl rfl ?_
  refine GE.iload_n 3 dX6_measure_15 rfl rfl ?_
  refine GE.iload_n 2 dX6_measure_16 rfl rfl ?_
  refine GE.ishr dX6_measure_17 ?_
  refine GE.iconst dX6_measure_18 kI_1 ?_
  refine GE.iand dX6_measure_19 ?_
  refine GE.iconst dX6_measure_20 kI_1 ?_
  refine GE.jo3 31 (fun (v5 : Int32) (v6 : Int32) (v7 : Nat) => [(0, .ref a0), (1, .ref pa1), (3, .int px3), (4, .int px4), (5, .int px5)]) (fun (v5 : Int32) (v6 : Int32) (v7 : Nat) => [.int v5, .int v6, .ref v7]) (fun (v5 : Int32) (v6 : Int32) (v7 : Nat) => t3) (fun v5 v6 v7 => ?_) (fun j8 hj8 => ?_)
  · refine GE.iast dX6_measure_31 (fun t9 => ?_)
    refine GE.iconst dX6_measure_32 kI_1 ?_
    refine GE.istore (lv' := [(0, .ref a0), (1, .ref pa1), (3, .int px3), (4, .int px4), (5, .int px5), (6, .int 1)]) dX6_measure_33 (by decide) [1, 2, 3, 4, 5, 0] rfl ?_
    refine GE.iconst dX6_measure_35 kI_0 ?_
    refine GE.istore (lv' := [(0, .ref a0), (1, .ref pa1), (3, .int px3), (4, .int px4), (5, .int px5), (6, .int 1), (7, .int 0)]) dX6_measure_36 (by decide) [1, 2, 3, 4, 5, 6, 0] rfl ?_
    refine (GE.lo3 (fun (x10 : Int32) (x11 : Int32) (t12 : St) => [(0, .ref a0), (1, .ref pa1), (3, .int px3), (4, .int px4), (5, .int px5), (6, .int x10), (7, .int x11)]) (fun (x10 : Int32) (x11 : Int32) (t12 : St) => []) (fun (x10 : Int32) (x11 : Int32) (t12 : St) => t12) (fun l13 hl13 x10 x11 t12 => ?_) FU 1 0 t9)
    refine GE.iload 6 dX6_measure_38 rfl ?_
    refine GE.aload_n 1 dX6_measure_40 rfl rfl ?_
    refine GE.gI dX6_measure_41 lF_X6_23 (fun x14 => ?_)
    refine GE.icmp_ge (tgt := 134) dX6_measure_44 (by decide) ?_ ?_
    · exact GE.vret (x := ()) dX6_measure_134 rfl (Nat.le_refl _) (Nat.le_refl _)
    · refine GE.iload 5 dX6_measure_47 rfl ?_
      refine GE.if_eq (tgt := 134) dX6_measure_49 (by decide) ?_ ?_
      · exact GE.vret (x := ()) dX6_measure_134 rfl (Nat.le_refl _) (Nat.le_refl _)
      · refine GE.iconst dX6_measure_52 kI_0 ?_
        refine GE.istore (lv' := [(0, .ref a0), (1, .ref pa1), (3, .int px3), (4, .int px4), (5, .int px5), (6, .int 0), (7, .int x11)]) dX6_measure_53 (by decide) [1, 2, 3, 4, 5, 0, 6] rfl ?_
        refine GE.iconst dX6_measure_55 kI_0 ?_
        refine GE.istore (lv' := [(0, .ref a0), (1, .ref pa1), (3, .int px3), (4, .int px4), (5, .int px5), (6, .int 0), (7, .int x11), (8, .int 0)]) dX6_measure_56 (by decide) [1, 2, 3, 4, 5, 6, 7, 0] rfl ?_
        refine (GE.lo3 (fun (x15 : Int32) (x16 : Int32) (t17 : St) => [(0, .ref a0), (1, .ref pa1), (3, .int px3), (4, .int px4), (5, .int px5), (6, .int x15), (7, .int x11), (8, .int x16)]) (fun (x15 : Int32) (x16 : Int32) (t17 : St) => []) (fun (x15 : Int32) (x16 : Int32) (t17 : St) => t17) (fun l18 hl18 x15 x16 t17 => ?_) FU 0 0 t12)
        refine GE.iload 7 dX6_measure_58 rfl ?_
        refine GE.aload_n 1 dX6_measure_60 rfl rfl ?_
        refine GE.gI dX6_measure_61 lF_X6_23 (fun x19 => ?_)
        refine GE.icmp_ge (tgt := 128) dX6_measure_64 (by decide) ?_ ?_
        · refine GE.iinc (lv' := [(0, .ref a0), (1, .ref pa1), (3, .int px3), (4, .int px4), (5, .int px5), (6, .int x15), (7, .int (x11 + 1)), (8, .int x16)]) 6 dX6_measure_128 rfl kI_1 (by decide) [1, 2, 3, 4, 5, 6, 0, 7] rfl ?_
          refine GE.goto (tgt := 38) dX6_measure_131 (by decide) ?_
          exact GE.sub [0, 1, 2, 3, 4, 5, 6] rfl (hl13 x15 (x11 + 1) t17)
        · refine GE.iload_n 2 dX6_measure_67 rfl rfl ?_
          refine GE.iload 7 dX6_measure_68 rfl ?_
          refine GE.ishr dX6_measure_70 ?_
          refine GE.iconst dX6_measure_71 kI_1 ?_
          refine GE.iand dX6_measure_72 ?_
          refine GE.iconst dX6_measure_73 kI_1 ?_
          refine GE.jo1 84 (fun (v20 : Int32) => [(0, .ref a0), (1, .ref pa1), (3, .int px3), (4, .int px4), (5, .int px5), (6, .int x15), (7, .int x11), (8, .int x16)]) (fun (v20 : Int32) => [.int v20]) (fun (v20 : Int32) => t17) (fun v20 => ?_) (fun j21 hj21 => ?_)
          · refine GE.istore (lv' := [(0, .ref a0), (1, .ref pa1), (3, .int px3), (4, .int px4), (5, .int px5), (6, .int x15), (7, .int x11), (8, .int x16), (9, .int v20)]) dX6_measure_84 (by decide) [1, 2, 3, 4, 5, 6, 7, 8, 0] rfl ?_
            refine GE.iload 8 dX6_measure_86 rfl ?_
            refine GE.aload_n 0 dX6_measure_88 rfl rfl ?_
            refine GE.aload_n 1 dX6_measure_89 rfl rfl ?_
            refine GE.iload 7 dX6_measure_90 rfl ?_
            refine GE.callvI [.ref pa1, .int x16] dX6_measure_92 (lV_X6_27) rfl ⟨rfl, rfl⟩ (rokb rfl) (gX6_leastBeside t17 a0 pa1 x16) (fun x22 t23 => ?_)
            refine GE.iadd dX6_measure_95 ?_
            refine GE.nami (fun x24 => ?_)
            refine GE.istore (lv' := [(0, .ref a0), (1, .ref pa1), (3, .int px3), (4, .int px4), (5, .int px5), (6, .int x15), (7, .int x11), (8, .int x16), (9, .int v20), (10, .int x24)]) dX6_measure_96 (by decide) [1, 2, 3, 4, 5, 6, 7, 8, 9, 0] rfl ?_
            refine GE.iload 9 dX6_measure_98 rfl ?_
            refine GE.aload_n 0 dX6_measure_100 rfl rfl ?_
            refine GE.gR dX6_measure_101 lF_X6_11 (fun a25 => ?_)
            refine GE.iload 7 dX6_measure_104 rfl ?_
            refine GE.iald dX6_measure_106 (fun x26 => ?_)
            refine GE.jo2 122 (fun (x27 : Int32) (t28 : St) => [(0, .ref a0), (1, .ref pa1), (3, .int px3), (4, .int px4), (5, .int px5), (6, .int x27), (7, .int x11), (8, .int x16)]) (fun (x27 : Int32) (t28 : St) => []) (fun (x27 : Int32) (t28 : St) => t28) (fun x27 t28 => ?_) (fun j29 hj29 => ?_)
            · refine GE.iinc (lv' := [(0, .ref a0), (1, .ref pa1), (3, .int px3), (4, .int px4), (5, .int px5), (6, .int x27), (7, .int x11), (8, .int (x16 + 1))]) 7 dX6_measure_122 rfl kI_1 (by decide) [1, 2, 3, 4, 5, 6, 7, 0] rfl ?_
              refine GE.goto (tgt := 58) dX6_measure_125 (by decide) ?_
              exact hl18 x27 (x16 + 1) t28
            · refine GE.icmp_ge (tgt := 122) dX6_measure_107 (by decide) ?_ ?_
              · exact GE.sub [0, 1, 2, 3, 4, 5, 6, 7] rfl (hj29 x15 t23)
              · refine GE.aload_n 0 dX6_measure_110 rfl rfl ?_
                refine GE.gR dX6_measure_111 lF_X6_11 (fun a30 => ?_)
                refine GE.iload 7 dX6_measure_114 rfl ?_
                refine GE.iload 9 dX6_measure_116 rfl ?_
                refine GE.iast dX6_measure_118 (fun t31 => ?_)
                refine GE.iconst dX6_measure_119 kI_1 ?_
                refine GE.istore (lv' := [(0, .ref a0), (1, .ref pa1), (3, .int px3), (4, .int px4), (5, .int px5), (6, .int 1), (7, .int x11), (8, .int x16), (9, .int v20), (10, .int x24)]) dX6_measure_120 (by decide) [1, 2, 3, 4, 5, 0, 6, 7, 8, 9] rfl ?_
                exact GE.sub [0, 1, 2, 3, 4, 5, 6, 7] rfl (hj29 1 t31)
          · refine GE.icmp_ne (tgt := 82) dX6_measure_74 (by decide) ?_ ?_
            · refine GE.iload 4 dX6_measure_82 rfl ?_
              exact hj21 px5
            · refine GE.iload 3 dX6_measure_77 rfl ?_
              refine GE.goto (tgt := 84) dX6_measure_79 (by decide) ?_
              exact hj21 px4
  · refine GE.icmp_ne (tgt := 29) dX6_measure_21 (by decide) ?_ ?_
    · refine GE.iload 5 dX6_measure_29 rfl ?_
      exact GE.sub [0, 1, 3, 4, 5] rfl (hj8 px5 px2 a4)
    · refine GE.iload 4 dX6_measure_24 rfl ?_
      refine GE.goto (tgt := 31) dX6_measure_26 (by decide) ?_
      exact GE.sub [0, 1, 3, 4, 5] rfl (hj8 px4 px2 a4)
def fX6_toll (σ : St) (a0 : Nat) (px1 : Int32) : Option (Int32 × St) :=
  (gR 6 0 σ a0).bind fun a1 =>
  (aI 0 σ a1 px1).bind fun x2 =>
  some (x2, σ)
set_option maxHeartbeats 4000000 in
set_option maxRecDepth 100000 in
theorem gX6_toll (σ : St) (a0 : Nat) (px1 : Int32) : CE vI mX6_toll [.ref a0, .int px1] σ (fX6_toll σ a0 px1) := by
  refine CE.ofGEF (lv := [(0, .ref a0), (1, .int px1)]) (by decide +kernel) (Nat.le_of_ble_eq_true rfl) rfl ?_
  unfold fX6_toll
  refine GE.aload_n 0 dX6_toll_0 rfl rfl ?_
  refine GE.gR dX6_toll_1 lF_X6_11 (fun a1 => ?_)
  refine GE.iload_n 1 dX6_toll_4 rfl rfl ?_
  refine GE.iald dX6_toll_5 (fun x2 => ?_)
  exact GE.iret dX6_toll_6 rfl (Nat.le_refl _) (Nat.le_refl _)
def fX9_risk (σ : St) (a0 : Nat) (px1 : Int32) (px2 : Int32) : Option (Int32 × St) :=
  (gR 9 8 σ a0).bind fun a1 =>
  bo 7 σ a1 (fX7_hasCell σ a1 px1) (fun x2 t3 =>
  if x2 = 0 then
    some ((-1), t3)
  else
    (gR 9 8 t3 a0).bind fun a4 =>
    bo 7 t3 a4 (fX7_hasCell t3 a4 px2) (fun x5 t6 =>
    if x5 = 0 then
      some ((-1), t6)
    else
      (gR 9 13 t6 a0).bind fun a7 =>
      (gR 9 8 t6 a0).bind fun a8 =>
      (gR 9 8 t6 a0).bind fun a9 =>
      bo 9 t6 a0 (fX9_ruling t6 a0) (fun q10 t11 =>
      bo 7 t11 a9 (fX7_hidden t11 a9 q10) (fun x12 t13 =>
      bo 6 t13 a7 (fX6_measure t13 a7 a8 px2 x12 0 1) (fun w14 t15 =>
      (gR 9 13 t15 a0).bind fun a16 =>
      bo 6 t15 a16 (fX6_toll t15 a16 px1) (fun x17 t18 =>
      some (x17, t18)))))))
set_option maxHeartbeats 4000000 in
set_option maxRecDepth 100000 in
theorem gX9_risk (σ : St) (a0 : Nat) (px1 : Int32) (px2 : Int32) : CE vI mX9_risk [.ref a0, .int px1, .int px2] σ (fX9_risk σ a0 px1 px2) := by
  refine CE.ofGEF (lv := [(0, .ref a0), (1, .int px1), (2, .int px2)]) (by decide +kernel) (Nat.le_of_ble_eq_true rfl) rfl ?_
  unfold fX9_risk
  refine GE.aload_n 0 dX9_risk_0 rfl rfl ?_
  refine GE.gR dX9_risk_1 lF_X9_55 (fun a1 => ?_)
  refine GE.iload_n 1 dX9_risk_4 rfl rfl ?_
  refine GE.callvI [.int px1] dX9_risk_5 (lV_X9_153) rfl ⟨rfl, rfl⟩ (rokb rfl) (gX7_hasCell σ a1 px1) (fun x2 t3 => ?_)
  refine GE.if_eq (tgt := 22) dX9_risk_8 (by decide) ?_ ?_
  · refine GE.iconst dX9_risk_22 kI_m1 ?_
    exact GE.iret dX9_risk_23 rfl (Nat.le_refl _) (Nat.le_refl _)
  · refine GE.aload_n 0 dX9_risk_11 rfl rfl ?_
    refine GE.gR dX9_risk_12 lF_X9_55 (fun a4 => ?_)
    refine GE.iload_n 2 dX9_risk_15 rfl rfl ?_
    refine GE.callvI [.int px2] dX9_risk_16 (lV_X9_153) rfl ⟨rfl, rfl⟩ (rokb rfl) (gX7_hasCell t3 a4 px2) (fun x5 t6 => ?_)
    refine GE.if_ne (tgt := 24) dX9_risk_19 (by decide) ?_ ?_
    · refine GE.aload_n 0 dX9_risk_24 rfl rfl ?_
      refine GE.gR dX9_risk_25 lF_X9_82 (fun a7 => ?_)
      refine GE.aload_n 0 dX9_risk_28 rfl rfl ?_
      refine GE.gR dX9_risk_29 lF_X9_55 (fun a8 => ?_)
      refine GE.iload_n 2 dX9_risk_32 rfl rfl ?_
      refine GE.aload_n 0 dX9_risk_33 rfl rfl ?_
      refine GE.gR dX9_risk_34 lF_X9_55 (fun a9 => ?_)
      refine GE.aload_n 0 dX9_risk_37 rfl rfl ?_
      refine GE.callvQ [] dX9_risk_38 (lV_X9_179) rfl ⟨rfl, rfl⟩ (rokb rfl) (gX9_ruling t6 a0) (fun q10 t11 => ?_)
      refine GE.callvI [va_rf q10] dX9_risk_41 (lV_X9_209) rfl ⟨rfl, rfl⟩ (rokb rfl) (gX7_hidden t11 a9 q10) (fun x12 t13 => ?_)
      refine GE.iconst dX9_risk_44 kI_0 ?_
      refine GE.iconst dX9_risk_45 kI_1 ?_
      refine GE.callvU [.ref a8, .int px2, .int x12, .int 0, .int 1] dX9_risk_46 (lV_X9_269) rfl ⟨rfl, rfl⟩ (rokb rfl) (gX6_measure t13 a7 a8 px2 x12 0 1) (fun w14 t15 => ?_)
      refine GE.aload_n 0 dX9_risk_49 rfl rfl ?_
      refine GE.gR dX9_risk_50 lF_X9_82 (fun a16 => ?_)
      refine GE.iload_n 1 dX9_risk_53 rfl rfl ?_
      refine GE.callvI [.int px1] dX9_risk_54 (lV_X9_280) rfl ⟨rfl, rfl⟩ (rokb rfl) (gX6_toll t15 a16 px1) (fun x17 t18 => ?_)
      exact GE.iret dX9_risk_57 rfl (Nat.le_refl _) (Nat.le_refl _)
    · refine GE.iconst dX9_risk_22 kI_m1 ?_
      exact GE.iret dX9_risk_23 rfl (Nat.le_refl _) (Nat.le_refl _)
def fX9_rule (σ : St) (a0 : Nat) (px1 : Int32) : Option (Int32 × St) :=
  bo 9 σ a0 (fX9_noLand σ a0) (fun x1 t2 =>
  if x1 = 0 then
    tbs px1 0 [(gR 9 8 t2 a0).bind fun a3 =>
        (gI 7 0 t2 a3).bind fun x4 =>
        some (x4, t2),
      (gR 9 8 t2 a0).bind fun a5 =>
        (gI 7 1 t2 a5).bind fun x6 =>
        some (x6, t2),
      (gR 9 8 t2 a0).bind fun a7 =>
        (gI 7 5 t2 a7).bind fun x8 =>
        some (x8, t2),
      (gR 9 8 t2 a0).bind fun a9 =>
        (gI 7 4 t2 a9).bind fun x10 =>
        some (x10, t2)] (some ((-1), t2))
  else
    some ((-1), t2))
set_option maxHeartbeats 4000000 in
set_option maxRecDepth 100000 in
theorem gX9_rule (σ : St) (a0 : Nat) (px1 : Int32) : CE vI mX9_rule [.ref a0, .int px1] σ (fX9_rule σ a0 px1) := by
  refine CE.ofGEF (lv := [(0, .ref a0), (1, .int px1)]) (by decide +kernel) (Nat.le_of_ble_eq_true rfl) rfl ?_
  unfold fX9_rule
  refine GE.aload_n 0 dX9_rule_0 rfl rfl ?_
  refine GE.callvI [] dX9_rule_1 (lV_X9_137) rfl ⟨rfl, rfl⟩ (rokb rfl) (gX9_noLand σ a0) (fun x1 t2 => ?_)
  refine GE.if_eq (tgt := 9) dX9_rule_4 (by decide) ?_ ?_
  · refine GE.iload_n 1 dX9_rule_9 rfl rfl ?_
    refine GE.tsw (tgd := 72) dX9_rule_10 rfl rfl (by decide) ?_ ?_
    · refine GE.iconst dX9_rule_72 kI_m1 ?_
      exact GE.iret dX9_rule_73 rfl (Nat.le_refl _) (Nat.le_refl _)
    · intro j9 E9 o9 hE9 ho9
      match j9, hE9, ho9 with
      | 0, hE9, ho9 =>
        cases hE9; cases ho9
        refine ⟨40, by decide, ?_⟩
        refine GE.aload_n 0 dX9_rule_40 rfl rfl ?_
        refine GE.gR dX9_rule_41 lF_X9_55 (fun a3 => ?_)
        refine GE.gI dX9_rule_44 lF_X9_141 (fun x4 => ?_)
        exact GE.iret dX9_rule_47 rfl (Nat.le_refl _) (Nat.le_refl _)
      | 1, hE9, ho9 =>
        cases hE9; cases ho9
        refine ⟨48, by decide, ?_⟩
        refine GE.aload_n 0 dX9_rule_48 rfl rfl ?_
        refine GE.gR dX9_rule_49 lF_X9_55 (fun a5 => ?_)
        refine GE.gI dX9_rule_52 lF_X9_144 (fun x6 => ?_)
        exact GE.iret dX9_rule_55 rfl (Nat.le_refl _) (Nat.le_refl _)
      | 2, hE9, ho9 =>
        cases hE9; cases ho9
        refine ⟨56, by decide, ?_⟩
        refine GE.aload_n 0 dX9_rule_56 rfl rfl ?_
        refine GE.gR dX9_rule_57 lF_X9_55 (fun a7 => ?_)
        refine GE.gI dX9_rule_60 lF_X9_147 (fun x8 => ?_)
        exact GE.iret dX9_rule_63 rfl (Nat.le_refl _) (Nat.le_refl _)
      | 3, hE9, ho9 =>
        cases hE9; cases ho9
        refine ⟨64, by decide, ?_⟩
        refine GE.aload_n 0 dX9_rule_64 rfl rfl ?_
        refine GE.gR dX9_rule_65 lF_X9_55 (fun a9 => ?_)
        refine GE.gI dX9_rule_68 lF_X9_150 (fun x10 => ?_)
        exact GE.iret dX9_rule_71 rfl (Nat.le_refl _) (Nat.le_refl _)
      | j9 + 4, hE9, ho9 => cases hE9
  · refine GE.iconst dX9_rule_7 kI_m1 ?_
    exact GE.iret dX9_rule_8 rfl (Nat.le_refl _) (Nat.le_refl _)
def fX9_sees (σ : St) (a0 : Nat) (px1 : Int32) (px2 : Int32) : Option (Int32 × St) :=
  (gR 9 8 σ a0).bind fun a1 =>
  bo 7 σ a1 (fX7_hasTower σ a1 px1) (fun x2 t3 =>
  if x2 = 0 then
    some ((-1), t3)
  else
    (gR 9 8 t3 a0).bind fun a4 =>
    bo 7 t3 a4 (fX7_hasCell t3 a4 px2) (fun x5 t6 =>
    if x5 = 0 then
      some ((-1), t6)
    else
      (gR 9 8 t6 a0).bind fun a7 =>
      bo 9 t6 a0 (fX9_ruling t6 a0) (fun q8 t9 =>
      bo 7 t9 a7 (fX7_beholds t9 a7 px1 px2 q8) (fun x10 t11 =>
      if x10 = 0 then
        some (0, t11)
      else
        some (1, t11)))))
set_option maxHeartbeats 4000000 in
set_option maxRecDepth 100000 in
theorem gX9_sees (σ : St) (a0 : Nat) (px1 : Int32) (px2 : Int32) : CE vI mX9_sees [.ref a0, .int px1, .int px2] σ (fX9_sees σ a0 px1 px2) := by
  refine CE.ofGEF (lv := [(0, .ref a0), (1, .int px1), (2, .int px2)]) (by decide +kernel) (Nat.le_of_ble_eq_true rfl) rfl ?_
  unfold fX9_sees
  refine GE.aload_n 0 dX9_sees_0 rfl rfl ?_
  refine GE.gR dX9_sees_1 lF_X9_55 (fun a1 => ?_)
  refine GE.iload_n 1 dX9_sees_4 rfl rfl ?_
  refine GE.callvI [.int px1] dX9_sees_5 (lV_X9_160) rfl ⟨rfl, rfl⟩ (rokb rfl) (gX7_hasTower σ a1 px1) (fun x2 t3 => ?_)
  refine GE.if_eq (tgt := 22) dX9_sees_8 (by decide) ?_ ?_
  · refine GE.iconst dX9_sees_22 kI_m1 ?_
    exact GE.iret dX9_sees_23 rfl (Nat.le_refl _) (Nat.le_refl _)
  · refine GE.aload_n 0 dX9_sees_11 rfl rfl ?_
    refine GE.gR dX9_sees_12 lF_X9_55 (fun a4 => ?_)
    refine GE.iload_n 2 dX9_sees_15 rfl rfl ?_
    refine GE.callvI [.int px2] dX9_sees_16 (lV_X9_153) rfl ⟨rfl, rfl⟩ (rokb rfl) (gX7_hasCell t3 a4 px2) (fun x5 t6 => ?_)
    refine GE.if_ne (tgt := 24) dX9_sees_19 (by decide) ?_ ?_
    · refine GE.aload_n 0 dX9_sees_24 rfl rfl ?_
      refine GE.gR dX9_sees_25 lF_X9_55 (fun a7 => ?_)
      refine GE.iload_n 1 dX9_sees_28 rfl rfl ?_
      refine GE.iload_n 2 dX9_sees_29 rfl rfl ?_
      refine GE.aload_n 0 dX9_sees_30 rfl rfl ?_
      refine GE.callvQ [] dX9_sees_31 (lV_X9_179) rfl ⟨rfl, rfl⟩ (rokb rfl) (gX9_ruling t6 a0) (fun q8 t9 => ?_)
      refine GE.callvI [.int px1, .int px2, va_rf q8] dX9_sees_34 (lV_X9_256) rfl ⟨rfl, rfl⟩ (rokb rfl) (gX7_beholds t9 a7 px1 px2 q8) (fun x10 t11 => ?_)
      refine GE.if_eq (tgt := 44) dX9_sees_37 (by decide) ?_ ?_
      · refine GE.iconst dX9_sees_44 kI_0 ?_
        exact GE.iret dX9_sees_45 rfl (Nat.le_refl _) (Nat.le_refl _)
      · refine GE.iconst dX9_sees_40 kI_1 ?_
        refine GE.goto (tgt := 45) dX9_sees_41 (by decide) ?_
        exact GE.iret dX9_sees_45 rfl (Nat.le_refl _) (Nat.le_refl _)
    · refine GE.iconst dX9_sees_22 kI_m1 ?_
      exact GE.iret dX9_sees_23 rfl (Nat.le_refl _) (Nat.le_refl _)
def fX9_shares (σ : St) (a0 : Nat) (px1 : Int32) (px2 : Int32) : Option (Int32 × St) :=
  (gR 9 8 σ a0).bind fun a1 =>
  bo 7 σ a1 (fX7_hasTower σ a1 px1) (fun x2 t3 =>
  if x2 = 0 then
    some ((-1), t3)
  else
    if px2 < 0 then
      some ((-1), t3)
    else
      if px2 ≤ 999 then
        (gR 9 8 t3 a0).bind fun a4 =>
        bo 9 t3 a0 (fX9_ruling t3 a0) (fun q5 t6 =>
        bo 7 t6 a4 (fX7_sight t6 a4 px1 q5) (fun x7 t8 =>
        bd (fJ6_bitCount_0f7a4 t8 x7) (fun x9 t10 =>
        lo3 (fun l14 (x11 : Int32) (x12 : Int32) (t13 : St) =>
          (gR 9 8 t13 a0).bind fun a15 =>
        (gI 7 3 t13 a15).bind fun x16 =>
        if x16 ≤ x12 then
          if x11 = 0 then
            some (0, t13)
          else
            if x11 = 0 then none else
            some ((px2 * x9) / x11, t13)
        else
          (gR 9 8 t13 a0).bind fun a17 =>
          bo 9 t13 a0 (fX9_ruling t13 a0) (fun q18 t19 =>
          bo 7 t19 a17 (fX7_sight t19 a17 x12 q18) (fun x20 t21 =>
          bd (fJ6_bitCount_0f7a4 t21 x20) (fun x22 t23 =>
          nam (x11 + x22 : Int32) (fun x24 =>
          l14 x24 (x12 + 1) t23))))) FU 0 0 t10)))
      else
        some ((-1), t3))
set_option maxHeartbeats 4000000 in
set_option maxRecDepth 100000 in
theorem gX9_shares (σ : St) (a0 : Nat) (px1 : Int32) (px2 : Int32) : CE vI mX9_shares [.ref a0, .int px1, .int px2] σ (fX9_shares σ a0 px1 px2) := by
  refine CE.ofGEF (lv := [(0, .ref a0), (1, .int px1), (2, .int px2)]) (by decide +kernel) (Nat.le_of_ble_eq_true rfl) rfl ?_
  unfold fX9_shares
  refine GE.aload_n 0 dX9_shares_0 rfl rfl ?_
  refine GE.gR dX9_shares_1 lF_X9_55 (fun a1 => ?_)
  refine GE.iload_n 1 dX9_shares_4 rfl rfl ?_
  refine GE.callvI [.int px1] dX9_shares_5 (lV_X9_160) rfl ⟨rfl, rfl⟩ (rokb rfl) (gX7_hasTower σ a1 px1) (fun x2 t3 => ?_)
  refine GE.if_eq (tgt := 22) dX9_shares_8 (by decide) ?_ ?_
  · refine GE.iconst dX9_shares_22 kI_m1 ?_
    exact GE.iret dX9_shares_23 rfl (Nat.le_refl _) (Nat.le_refl _)
  · refine GE.iload_n 2 dX9_shares_11 rfl rfl ?_
    refine GE.if_lt (tgt := 22) dX9_shares_12 (by decide) ?_ ?_
    · refine GE.iconst dX9_shares_22 kI_m1 ?_
      exact GE.iret dX9_shares_23 rfl (Nat.le_refl _) (Nat.le_refl _)
    · refine GE.iload_n 2 dX9_shares_15 rfl rfl ?_
      refine GE.sipush dX9_shares_16 kS_999 ?_
      refine GE.icmp_le (tgt := 24) dX9_shares_19 (by decide) ?_ ?_
      · refine GE.aload_n 0 dX9_shares_24 rfl rfl ?_
        refine GE.gR dX9_shares_25 lF_X9_55 (fun a4 => ?_)
        refine GE.iload_n 1 dX9_shares_28 rfl rfl ?_
        refine GE.aload_n 0 dX9_shares_29 rfl rfl ?_
        refine GE.callvQ [] dX9_shares_30 (lV_X9_179) rfl ⟨rfl, rfl⟩ (rokb rfl) (gX9_ruling t3 a0) (fun q5 t6 => ?_)
        refine GE.callvI [.int px1, va_rf q5] dX9_shares_33 (lV_X9_189) rfl ⟨rfl, rfl⟩ (rokb rfl) (gX7_sight t6 a4 px1 q5) (fun x7 t8 => ?_)
        refine GE.callsI [.int x7] dX9_shares_36 (lT_X9_192) rfl ⟨rfl, rfl⟩ (rokb rfl) (gJ6_bitCount_0f7a4 t8 x7) (fun x9 t10 => ?_)
        refine GE.istore_n (lv' := [(0, .ref a0), (1, .int px1), (2, .int px2), (3, .int x9)]) dX9_shares_39 rfl (by decide) [1, 2, 3, 0] rfl ?_
        refine GE.iconst dX9_shares_40 kI_0 ?_
        refine GE.istore (lv' := [(0, .ref a0), (1, .int px1), (2, .int px2), (3, .int x9), (4, .int 0)]) dX9_shares_41 (by decide) [1, 2, 3, 4, 0] rfl ?_
        refine GE.iconst dX9_shares_43 kI_0 ?_
        refine GE.istore (lv' := [(0, .ref a0), (1, .int px1), (2, .int px2), (3, .int x9), (4, .int 0), (5, .int 0)]) dX9_shares_44 (by decide) [1, 2, 3, 4, 5, 0] rfl ?_
        refine GE.sub [0, 2, 3, 4, 5] rfl (GE.lo3 (fun (x11 : Int32) (x12 : Int32) (t13 : St) => [(0, .ref a0), (2, .int px2), (3, .int x9), (4, .int x11), (5, .int x12)]) (fun (x11 : Int32) (x12 : Int32) (t13 : St) => []) (fun (x11 : Int32) (x12 : Int32) (t13 : St) => t13) (fun l14 hl14 x11 x12 t13 => ?_) FU 0 0 t10)
        refine GE.iload 4 dX9_shares_46 rfl ?_
        refine GE.aload_n 0 dX9_shares_48 rfl rfl ?_
        refine GE.gR dX9_shares_49 lF_X9_55 (fun a15 => ?_)
        refine GE.gI dX9_shares_52 lF_X9_300 (fun x16 => ?_)
        refine GE.icmp_ge (tgt := 85) dX9_shares_55 (by decide) ?_ ?_
        · refine GE.iload 3 dX9_shares_85 rfl ?_
          refine GE.if_ne (tgt := 94) dX9_shares_87 (by decide) ?_ ?_
          · refine GE.iload_n 1 dX9_shares_94 rfl rfl ?_
            refine GE.iload_n 2 dX9_shares_95 rfl rfl ?_
            refine GE.imul dX9_shares_96 ?_
            refine GE.iload 3 dX9_shares_97 rfl ?_
            refine GE.idiv dX9_shares_99 ?_
            exact GE.iret dX9_shares_100 rfl (Nat.le_refl _) (Nat.le_refl _)
          · refine GE.iconst dX9_shares_90 kI_0 ?_
            refine GE.goto (tgt := 100) dX9_shares_91 (by decide) ?_
            exact GE.iret dX9_shares_100 rfl (Nat.le_refl _) (Nat.le_refl _)
        · refine GE.iload 3 dX9_shares_58 rfl ?_
          refine GE.aload_n 0 dX9_shares_60 rfl rfl ?_
          refine GE.gR dX9_shares_61 lF_X9_55 (fun a17 => ?_)
          refine GE.iload 4 dX9_shares_64 rfl ?_
          refine GE.aload_n 0 dX9_shares_66 rfl rfl ?_
          refine GE.callvQ [] dX9_shares_67 (lV_X9_179) rfl ⟨rfl, rfl⟩ (rokb rfl) (gX9_ruling t13 a0) (fun q18 t19 => ?_)
          refine GE.callvI [.int x12, va_rf q18] dX9_shares_70 (lV_X9_189) rfl ⟨rfl, rfl⟩ (rokb rfl) (gX7_sight t19 a17 x12 q18) (fun x20 t21 => ?_)
          refine GE.callsI [.int x20] dX9_shares_73 (lT_X9_192) rfl ⟨rfl, rfl⟩ (rokb rfl) (gJ6_bitCount_0f7a4 t21 x20) (fun x22 t23 => ?_)
          refine GE.iadd dX9_shares_76 ?_
          refine GE.nami (fun x24 => ?_)
          refine GE.istore (lv' := [(0, .ref a0), (2, .int px2), (3, .int x9), (4, .int x24), (5, .int x12)]) dX9_shares_77 (by decide) [1, 2, 3, 0, 4] rfl ?_
          refine GE.iinc (lv' := [(0, .ref a0), (2, .int px2), (3, .int x9), (4, .int x24), (5, .int (x12 + 1))]) 4 dX9_shares_79 rfl kI_1 (by decide) [1, 2, 3, 4, 0] rfl ?_
          refine GE.goto (tgt := 46) dX9_shares_82 (by decide) ?_
          exact hl14 x24 (x12 + 1) t23
      · refine GE.iconst dX9_shares_22 kI_m1 ?_
        exact GE.iret dX9_shares_23 rfl (Nat.le_refl _) (Nat.le_refl _)
def fX9_site (σ : St) (a0 : Nat) (px1 : Int32) (px2 : Int32) (px3 : Int32) : Option (Int32 × St) :=
  bo 9 σ a0 (fX9_noLand σ a0) (fun x1 t2 =>
  if x1 = 0 then
    if px1 < 0 then
      some ((-1), t2)
    else
      if 9 < px1 then
        some ((-1), t2)
      else
        if px2 < 0 then
          some ((-1), t2)
        else
          if 9 < px2 then
            some ((-1), t2)
          else
            if px3 < 0 then
              some ((-1), t2)
            else
              if px3 ≤ 1 then
                (gR 9 8 t2 a0).bind fun a3 =>
                bo 9 t2 a0 (fX9_ruling t2 a0) (fun q4 t5 =>
                bo 7 t5 a3 (fX7_hidden t5 a3 q4) (fun x6 t7 =>
                lo4 (fun l12 (x8 : Int32) (x9 : Int32) (x10 : Int32) (t11 : St) =>
                  (gR 9 8 t11 a0).bind fun a13 =>
                (gI 7 2 t11 a13).bind fun x14 =>
                if x14 ≤ x10 then
                  if px3 = 0 then
                    some (x8, t11)
                  else
                    some (x9, t11)
                else
                  (gR 9 8 t11 a0).bind fun a15 =>
                  (gR 9 8 t11 a0).bind fun a16 =>
                  (gR 7 9 t11 a16).bind fun a17 =>
                  (aI 0 t11 a17 x10).bind fun x18 =>
                  bo 7 t11 a15 (fX7_sightFrom t11 a15 x10 (x18 + px1) px2) (fun x19 t20 =>
                  bd (fJ6_bitCount_0f7a4 t20 (x6 &&& (x19 ^^^ ((-1))))) (fun x21 t22 =>
                  jo2 (fun (x23 : Int32) (x24 : Int32) =>
                    l12 x23 x24 (x10 + 1) t22) (fun j25 =>
                    jo1 (fun (u25 : Unit) =>
                      j25 x10 x21) (fun j26 =>
                      if x8 = (-1) then
                        j26 () 
                      else
                        if x9 ≤ x21 then
                          j25 x8 x9
                        else
                          j26 () ))))) FU ((-1)) 0 0 t7))
              else
                some ((-1), t2)
  else
    some ((-1), t2))
set_option maxHeartbeats 4000000 in
set_option maxRecDepth 100000 in
theorem gX9_site (σ : St) (a0 : Nat) (px1 : Int32) (px2 : Int32) (px3 : Int32) : CE vI mX9_site [.ref a0, .int px1, .int px2, .int px3] σ (fX9_site σ a0 px1 px2 px3) := by
  refine CE.ofGEF (lv := [(0, .ref a0), (1, .int px1), (2, .int px2), (3, .int px3)]) (by decide +kernel) (Nat.le_of_ble_eq_true rfl) rfl ?_
  unfold fX9_site
  refine GE.aload_n 0 dX9_site_0 rfl rfl ?_
  refine GE.callvI [] dX9_site_1 (lV_X9_137) rfl ⟨rfl, rfl⟩ (rokb rfl) (gX9_noLand σ a0) (fun x1 t2 => ?_)
  refine GE.if_ne (tgt := 36) dX9_site_4 (by decide) ?_ ?_
  · refine GE.iconst dX9_site_36 kI_m1 ?_
    exact GE.iret dX9_site_37 rfl (Nat.le_refl _) (Nat.le_refl _)
  · refine GE.iload_n 1 dX9_site_7 rfl rfl ?_
    refine GE.if_lt (tgt := 36) dX9_site_8 (by decide) ?_ ?_
    · refine GE.iconst dX9_site_36 kI_m1 ?_
      exact GE.iret dX9_site_37 rfl (Nat.le_refl _) (Nat.le_refl _)
    · refine GE.iload_n 1 dX9_site_11 rfl rfl ?_
      refine GE.bipush dX9_site_12 kB_9 ?_
      refine GE.icmp_gt (tgt := 36) dX9_site_14 (by decide) ?_ ?_
      · refine GE.iconst dX9_site_36 kI_m1 ?_
        exact GE.iret dX9_site_37 rfl (Nat.le_refl _) (Nat.le_refl _)
      · refine GE.iload_n 2 dX9_site_17 rfl rfl ?_
        refine GE.if_lt (tgt := 36) dX9_site_18 (by decide) ?_ ?_
        · refine GE.iconst dX9_site_36 kI_m1 ?_
          exact GE.iret dX9_site_37 rfl (Nat.le_refl _) (Nat.le_refl _)
        · refine GE.iload_n 2 dX9_site_21 rfl rfl ?_
          refine GE.bipush dX9_site_22 kB_9 ?_
          refine GE.icmp_gt (tgt := 36) dX9_site_24 (by decide) ?_ ?_
          · refine GE.iconst dX9_site_36 kI_m1 ?_
            exact GE.iret dX9_site_37 rfl (Nat.le_refl _) (Nat.le_refl _)
          · refine GE.iload_n 3 dX9_site_27 rfl rfl ?_
            refine GE.if_lt (tgt := 36) dX9_site_28 (by decide) ?_ ?_
            · refine GE.iconst dX9_site_36 kI_m1 ?_
              exact GE.iret dX9_site_37 rfl (Nat.le_refl _) (Nat.le_refl _)
            · refine GE.iload_n 3 dX9_site_31 rfl rfl ?_
              refine GE.iconst dX9_site_32 kI_1 ?_
              refine GE.icmp_le (tgt := 38) dX9_site_33 (by decide) ?_ ?_
              · refine GE.aload_n 0 dX9_site_38 rfl rfl ?_
                refine GE.gR dX9_site_39 lF_X9_55 (fun a3 => ?_)
                refine GE.aload_n 0 dX9_site_42 rfl rfl ?_
                refine GE.callvQ [] dX9_site_43 (lV_X9_179) rfl ⟨rfl, rfl⟩ (rokb rfl) (gX9_ruling t2 a0) (fun q4 t5 => ?_)
                refine GE.callvI [va_rf q4] dX9_site_46 (lV_X9_209) rfl ⟨rfl, rfl⟩ (rokb rfl) (gX7_hidden t5 a3 q4) (fun x6 t7 => ?_)
                refine GE.istore (lv' := [(0, .ref a0), (1, .int px1), (2, .int px2), (3, .int px3), (4, .int x6)]) dX9_site_49 (by decide) [1, 2, 3, 4, 0] rfl ?_
                refine GE.iconst dX9_site_51 kI_m1 ?_
                refine GE.istore (lv' := [(0, .ref a0), (1, .int px1), (2, .int px2), (3, .int px3), (4, .int x6), (5, .int ((-1)))]) dX9_site_52 (by decide) [1, 2, 3, 4, 5, 0] rfl ?_
                refine GE.iconst dX9_site_54 kI_0 ?_
                refine GE.istore (lv' := [(0, .ref a0), (1, .int px1), (2, .int px2), (3, .int px3), (4, .int x6), (5, .int ((-1))), (6, .int 0)]) dX9_site_55 (by decide) [1, 2, 3, 4, 5, 6, 0] rfl ?_
                refine GE.iconst dX9_site_57 kI_0 ?_
                refine GE.istore (lv' := [(0, .ref a0), (1, .int px1), (2, .int px2), (3, .int px3), (4, .int x6), (5, .int ((-1))), (6, .int 0), (7, .int 0)]) dX9_site_58 (by decide) [1, 2, 3, 4, 5, 6, 7, 0] rfl ?_
                refine (GE.lo4 (fun (x8 : Int32) (x9 : Int32) (x10 : Int32) (t11 : St) => [(0, .ref a0), (1, .int px1), (2, .int px2), (3, .int px3), (4, .int x6), (5, .int x8), (6, .int x9), (7, .int x10)]) (fun (x8 : Int32) (x9 : Int32) (x10 : Int32) (t11 : St) => []) (fun (x8 : Int32) (x9 : Int32) (x10 : Int32) (t11 : St) => t11) (fun l12 hl12 x8 x9 x10 t11 => ?_) FU ((-1)) 0 0 t7)
                refine GE.iload 7 dX9_site_60 rfl ?_
                refine GE.aload_n 0 dX9_site_62 rfl rfl ?_
                refine GE.gR dX9_site_63 lF_X9_55 (fun a13 => ?_)
                refine GE.gI dX9_site_66 lF_X9_130 (fun x14 => ?_)
                refine GE.icmp_ge (tgt := 135) dX9_site_69 (by decide) ?_ ?_
                · refine GE.iload_n 3 dX9_site_135 rfl rfl ?_
                  refine GE.if_ne (tgt := 144) dX9_site_136 (by decide) ?_ ?_
                  · refine GE.iload 6 dX9_site_144 rfl ?_
                    exact GE.iret dX9_site_146 rfl (Nat.le_refl _) (Nat.le_refl _)
                  · refine GE.iload 5 dX9_site_139 rfl ?_
                    refine GE.goto (tgt := 146) dX9_site_141 (by decide) ?_
                    exact GE.iret dX9_site_146 rfl (Nat.le_refl _) (Nat.le_refl _)
                · refine GE.aload_n 0 dX9_site_72 rfl rfl ?_
                  refine GE.gR dX9_site_73 lF_X9_55 (fun a15 => ?_)
                  refine GE.iload 7 dX9_site_76 rfl ?_
                  refine GE.aload_n 0 dX9_site_78 rfl rfl ?_
                  refine GE.gR dX9_site_79 lF_X9_55 (fun a16 => ?_)
                  refine GE.gR dX9_site_82 lF_X9_157 (fun a17 => ?_)
                  refine GE.iload 7 dX9_site_85 rfl ?_
                  refine GE.iald dX9_site_87 (fun x18 => ?_)
                  refine GE.iload_n 1 dX9_site_88 rfl rfl ?_
                  refine GE.iadd dX9_site_89 ?_
                  refine GE.iload_n 2 dX9_site_90 rfl rfl ?_
                  refine GE.callvI [.int x10, .int (x18 + px1), .int px2] dX9_site_91 (lV_X9_283) rfl ⟨rfl, rfl⟩ (rokb rfl) (gX7_sightFrom t11 a15 x10 (x18 + px1) px2) (fun x19 t20 => ?_)
                  refine GE.istore (lv' := [(0, .ref a0), (1, .int px1), (2, .int px2), (3, .int px3), (4, .int x6), (5, .int x8), (6, .int x9), (7, .int x10), (8, .int x19)]) dX9_site_94 (by decide) [1, 2, 3, 4, 5, 6, 7, 8, 0] rfl ?_
                  refine GE.iload 4 dX9_site_96 rfl ?_
                  refine GE.iload 8 dX9_site_98 rfl ?_
                  refine GE.iconst dX9_site_100 kI_m1 ?_
                  refine GE.ixor dX9_site_101 ?_
                  refine GE.iand dX9_site_102 ?_
                  refine GE.callsI [.int (x6 &&& (x19 ^^^ ((-1))))] dX9_site_103 (lT_X9_192) rfl ⟨rfl, rfl⟩ (rokb rfl) (gJ6_bitCount_0f7a4 t20 (x6 &&& (x19 ^^^ ((-1))))) (fun x21 t22 => ?_)
                  refine GE.istore (lv' := [(0, .ref a0), (1, .int px1), (2, .int px2), (3, .int px3), (4, .int x6), (5, .int x8), (6, .int x9), (7, .int x10), (8, .int x19), (9, .int x21)]) dX9_site_106 (by decide) [1, 2, 3, 4, 5, 6, 7, 8, 9, 0] rfl ?_
                  refine GE.iload 5 dX9_site_108 rfl ?_
                  refine GE.iconst dX9_site_110 kI_m1 ?_
                  refine GE.jo2 129 (fun (x23 : Int32) (x24 : Int32) => [(0, .ref a0), (1, .int px1), (2, .int px2), (3, .int px3), (4, .int x6), (5, .int x23), (6, .int x24), (7, .int x10)]) (fun (x23 : Int32) (x24 : Int32) => []) (fun (x23 : Int32) (x24 : Int32) => t22) (fun x23 x24 => ?_) (fun j25 hj25 => ?_)
                  · refine GE.iinc (lv' := [(0, .ref a0), (1, .int px1), (2, .int px2), (3, .int px3), (4, .int x6), (5, .int x23), (6, .int x24), (7, .int (x10 + 1))]) 7 dX9_site_129 rfl kI_1 (by decide) [1, 2, 3, 4, 5, 6, 7, 0] rfl ?_
                    refine GE.goto (tgt := 60) dX9_site_132 (by decide) ?_
                    exact hl12 x23 x24 (x10 + 1) t22
                  · refine GE.jo1 121 (fun (u25 : Unit) => [(0, .ref a0), (1, .int px1), (2, .int px2), (3, .int px3), (4, .int x6), (7, .int x10), (9, .int x21)]) (fun (u25 : Unit) => []) (fun (u25 : Unit) => t22) (fun u25 => ?_) (fun j26 hj26 => ?_)
                    · refine GE.iload 5 dX9_site_121 rfl ?_
                      refine GE.istore (lv' := [(0, .ref a0), (1, .int px1), (2, .int px2), (3, .int px3), (4, .int x6), (5, .int x10), (7, .int x10), (9, .int x21)]) dX9_site_123 (by decide) [1, 2, 3, 4, 5, 0, 6, 7] rfl ?_
                      refine GE.iload 7 dX9_site_125 rfl ?_
                      refine GE.istore (lv' := [(0, .ref a0), (1, .int px1), (2, .int px2), (3, .int px3), (4, .int x6), (5, .int x10), (6, .int x21), (7, .int x10), (9, .int x21)]) dX9_site_127 (by decide) [1, 2, 3, 4, 5, 6, 0, 7, 8] rfl ?_
                      exact GE.sub [0, 1, 2, 3, 4, 5, 6, 7] rfl (hj25 x10 x21)
                    · refine GE.icmp_eq (tgt := 121) dX9_site_111 (by decide) ?_ ?_
                      · exact GE.sub [0, 1, 2, 3, 4, 7, 9] rfl (hj26 () )
                      · refine GE.iload 9 dX9_site_114 rfl ?_
                        refine GE.iload 6 dX9_site_116 rfl ?_
                        refine GE.icmp_ge (tgt := 129) dX9_site_118 (by decide) ?_ ?_
                        · exact GE.sub [0, 1, 2, 3, 4, 5, 6, 7] rfl (hj25 x8 x9)
                        · exact GE.sub [0, 1, 2, 3, 4, 7, 9] rfl (hj26 () )
              · refine GE.iconst dX9_site_36 kI_m1 ?_
                exact GE.iret dX9_site_37 rfl (Nat.le_refl _) (Nat.le_refl _)
