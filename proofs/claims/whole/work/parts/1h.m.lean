def fX0_gainOfOne (σ : St) (a0 : Nat) (px1 : Int32) (px2 : Int32) : Option (Int32 × St) :=
  (gR 0 0 σ a0).bind fun a1 =>
  (aI 0 σ a1 px1).bind fun x2 =>
  (gR 0 1 σ a0).bind fun a3 =>
  (aI 0 σ a3 px2).bind fun x4 =>
  bd (fJ6_bitCount_0f7a4 σ (x2 &&& (x4 ^^^ ((-1))))) (fun x5 t6 =>
  some (x5 - px1, t6))
set_option maxHeartbeats 4000000 in
set_option maxRecDepth 100000 in
theorem gX0_gainOfOne (σ : St) (a0 : Nat) (px1 : Int32) (px2 : Int32) : CE vI mX0_gainOfOne [.ref a0, .int px1, .int px2] σ (fX0_gainOfOne σ a0 px1 px2) := by
  refine CE.ofGEF (lv := [(0, .ref a0), (1, .int px1), (2, .int px2)]) (by decide +kernel) (Nat.le_of_ble_eq_true rfl) rfl ?_
  unfold fX0_gainOfOne
  refine GE.aload_n 0 dX0_gainOfOne_0 rfl rfl ?_
  refine GE.gR dX0_gainOfOne_1 lF_X0_11 (fun a1 => ?_)
  refine GE.iload_n 1 dX0_gainOfOne_4 rfl rfl ?_
  refine GE.iald dX0_gainOfOne_5 (fun x2 => ?_)
  refine GE.aload_n 0 dX0_gainOfOne_6 rfl rfl ?_
  refine GE.gR dX0_gainOfOne_7 lF_X0_15 (fun a3 => ?_)
  refine GE.iload_n 2 dX0_gainOfOne_10 rfl rfl ?_
  refine GE.iald dX0_gainOfOne_11 (fun x4 => ?_)
  refine GE.iconst dX0_gainOfOne_12 kI_m1 ?_
  refine GE.ixor dX0_gainOfOne_13 ?_
  refine GE.iand dX0_gainOfOne_14 ?_
  refine GE.callsI [.int (x2 &&& (x4 ^^^ ((-1))))] dX0_gainOfOne_15 (lT_X0_33) rfl ⟨rfl, rfl⟩ (rokb rfl) (gJ6_bitCount_0f7a4 σ (x2 &&& (x4 ^^^ ((-1))))) (fun x5 t6 => ?_)
  refine GE.iload_n 1 dX0_gainOfOne_18 rfl rfl ?_
  refine GE.isub dX0_gainOfOne_19 ?_
  exact GE.iret dX0_gainOfOne_20 rfl (Nat.le_refl _) (Nat.le_refl _)
def fX0_gainOfOther (σ : St) (a0 : Nat) (px1 : Int32) (px2 : Int32) : Option (Int32 × St) :=
  (gR 0 1 σ a0).bind fun a1 =>
  (aI 0 σ a1 px2).bind fun x2 =>
  (gR 0 0 σ a0).bind fun a3 =>
  (aI 0 σ a3 px1).bind fun x4 =>
  bd (fJ6_bitCount_0f7a4 σ (x2 &&& (x4 ^^^ ((-1))))) (fun x5 t6 =>
  some (x5 - px2, t6))
set_option maxHeartbeats 4000000 in
set_option maxRecDepth 100000 in
theorem gX0_gainOfOther (σ : St) (a0 : Nat) (px1 : Int32) (px2 : Int32) : CE vI mX0_gainOfOther [.ref a0, .int px1, .int px2] σ (fX0_gainOfOther σ a0 px1 px2) := by
  refine CE.ofGEF (lv := [(0, .ref a0), (1, .int px1), (2, .int px2)]) (by decide +kernel) (Nat.le_of_ble_eq_true rfl) rfl ?_
  unfold fX0_gainOfOther
  refine GE.aload_n 0 dX0_gainOfOther_0 rfl rfl ?_
  refine GE.gR dX0_gainOfOther_1 lF_X0_15 (fun a1 => ?_)
  refine GE.iload_n 2 dX0_gainOfOther_4 rfl rfl ?_
  refine GE.iald dX0_gainOfOther_5 (fun x2 => ?_)
  refine GE.aload_n 0 dX0_gainOfOther_6 rfl rfl ?_
  refine GE.gR dX0_gainOfOther_7 lF_X0_11 (fun a3 => ?_)
  refine GE.iload_n 1 dX0_gainOfOther_10 rfl rfl ?_
  refine GE.iald dX0_gainOfOther_11 (fun x4 => ?_)
  refine GE.iconst dX0_gainOfOther_12 kI_m1 ?_
  refine GE.ixor dX0_gainOfOther_13 ?_
  refine GE.iand dX0_gainOfOther_14 ?_
  refine GE.callsI [.int (x2 &&& (x4 ^^^ ((-1))))] dX0_gainOfOther_15 (lT_X0_33) rfl ⟨rfl, rfl⟩ (rokb rfl) (gJ6_bitCount_0f7a4 σ (x2 &&& (x4 ^^^ ((-1))))) (fun x5 t6 => ?_)
  refine GE.iload_n 2 dX0_gainOfOther_18 rfl rfl ?_
  refine GE.isub dX0_gainOfOther_19 ?_
  exact GE.iret dX0_gainOfOther_20 rfl (Nat.le_refl _) (Nat.le_refl _)
def fX0_mayRaise (σ : St) (px0 : Int32) : Option (Int32 × St) :=
  if px0 < 0 then
    some (0, σ)
  else
    if 3 < px0 then
      some (0, σ)
    else
      some (1, σ)
set_option maxHeartbeats 4000000 in
set_option maxRecDepth 100000 in
theorem gX0_mayRaise (σ : St) (px0 : Int32) : CE vI mX0_mayRaise [.int px0] σ (fX0_mayRaise σ px0) := by
  refine CE.ofGEF (lv := [(0, .int px0)]) (by decide +kernel) (Nat.le_of_ble_eq_true rfl) rfl ?_
  unfold fX0_mayRaise
  refine GE.iload_n 0 dX0_mayRaise_0 rfl rfl ?_
  refine GE.if_lt (tgt := 13) dX0_mayRaise_1 (by decide) ?_ ?_
  · refine GE.iconst dX0_mayRaise_13 kI_0 ?_
    exact GE.zretk dX0_mayRaise_14 rfl (Nat.le_refl _) (Nat.le_refl _) (by decide)
  · refine GE.iload_n 0 dX0_mayRaise_4 rfl rfl ?_
    refine GE.iconst dX0_mayRaise_5 kI_3 ?_
    refine GE.icmp_gt (tgt := 13) dX0_mayRaise_6 (by decide) ?_ ?_
    · refine GE.iconst dX0_mayRaise_13 kI_0 ?_
      exact GE.zretk dX0_mayRaise_14 rfl (Nat.le_refl _) (Nat.le_refl _) (by decide)
    · refine GE.iconst dX0_mayRaise_9 kI_1 ?_
      refine GE.goto (tgt := 14) dX0_mayRaise_10 (by decide) ?_
      exact GE.zretk dX0_mayRaise_14 rfl (Nat.le_refl _) (Nat.le_refl _) (by decide)
def fX0_prepare (σ : St) (a0 : Nat) (pa1 : Nat) (px2 : Int32) (px3 : Int32) (pq4 : Option Nat) : Option (Unit × St) :=
  (gR 7 11 σ pa1).bind fun a1 =>
  (aI 0 σ a1 px2).bind fun x2 =>
  (gR 7 11 σ pa1).bind fun a3 =>
  (aI 0 σ a3 px3).bind fun x4 =>
  lo2 (fun l7 (x5 : Int32) (t6 : St) =>
    if 3 < x5 then
    some ((), t6)
  else
    (gR 7 11 t6 pa1).bind fun a8 =>
    bd (fJ9_min_7cf53 t6 9 (x2 + x5)) (fun x9 t10 =>
    (sI 0 t10 a8 px2 x9).bind (fun t11 =>
    (gR 7 11 t11 pa1).bind fun a12 =>
    bd (fJ9_min_7cf53 t11 9 (x4 + x5)) (fun x13 t14 =>
    (sI 0 t14 a12 px3 x13).bind (fun t15 =>
    (gR 0 0 t15 a0).bind fun a16 =>
    bo 7 t15 pa1 (fX7_sight t15 pa1 px2 pq4) (fun x17 t18 =>
    (sI 0 t18 a16 x5 x17).bind (fun t19 =>
    (gR 0 1 t19 a0).bind fun a20 =>
    bo 7 t19 pa1 (fX7_sight t19 pa1 px3 pq4) (fun x21 t22 =>
    (sI 0 t22 a20 x5 x21).bind (fun t23 =>
    l7 (x5 + 1) t23))))))))) FU 0 σ
set_option maxHeartbeats 4000000 in
set_option maxRecDepth 100000 in
theorem gX0_prepare (σ : St) (a0 : Nat) (pa1 : Nat) (px2 : Int32) (px3 : Int32) (pq4 : Option Nat) : CE vU mX0_prepare [.ref a0, .ref pa1, .int px2, .int px3, va_rf pq4] σ (fX0_prepare σ a0 pa1 px2 px3 pq4) := by
  refine CE.ofGEF (lv := [(0, .ref a0), (1, .ref pa1), (2, .int px2), (3, .int px3), (4, va_rf pq4)]) (by decide +kernel) (by cases pq4 <;> exact Nat.le_of_ble_eq_true rfl) rfl ?_
  unfold fX0_prepare
  refine GE.aload_n 1 dX0_prepare_0 rfl rfl ?_
  refine GE.gR dX0_prepare_1 lF_X0_18 (fun a1 => ?_)
  refine GE.iload_n 2 dX0_prepare_4 rfl rfl ?_
  refine GE.iald dX0_prepare_5 (fun x2 => ?_)
  refine GE.istore (lv' := [(0, .ref a0), (1, .ref pa1), (2, .int px2), (3, .int px3), (4, va_rf pq4), (5, .int x2)]) dX0_prepare_6 (by decide) [1, 2, 3, 4, 5, 0] (by cases pq4 <;> rfl) ?_
  refine GE.aload_n 1 dX0_prepare_8 rfl rfl ?_
  refine GE.gR dX0_prepare_9 lF_X0_18 (fun a3 => ?_)
  refine GE.iload_n 3 dX0_prepare_12 rfl rfl ?_
  refine GE.iald dX0_prepare_13 (fun x4 => ?_)
  refine GE.istore (lv' := [(0, .ref a0), (1, .ref pa1), (2, .int px2), (3, .int px3), (4, va_rf pq4), (5, .int x2), (6, .int x4)]) dX0_prepare_14 (by decide) [1, 2, 3, 4, 5, 6, 0] rfl ?_
  refine GE.iconst dX0_prepare_16 kI_0 ?_
  refine GE.istore (lv' := [(0, .ref a0), (1, .ref pa1), (2, .int px2), (3, .int px3), (4, va_rf pq4), (5, .int x2), (6, .int x4), (7, .int 0)]) dX0_prepare_17 (by decide) [1, 2, 3, 4, 5, 6, 7, 0] rfl ?_
  refine (GE.lo2 (fun (x5 : Int32) (t6 : St) => [(0, .ref a0), (1, .ref pa1), (2, .int px2), (3, .int px3), (4, va_rf pq4), (5, .int x2), (6, .int x4), (7, .int x5)]) (fun (x5 : Int32) (t6 : St) => []) (fun (x5 : Int32) (t6 : St) => t6) (fun l7 hl7 x5 t6 => ?_) FU 0 σ)
  refine GE.iload 7 dX0_prepare_19 rfl ?_
  refine GE.iconst dX0_prepare_21 kI_3 ?_
  refine GE.icmp_gt (tgt := 91) dX0_prepare_22 (by decide) ?_ ?_
  · exact GE.vret (x := ()) dX0_prepare_91 rfl (Nat.le_refl _) (Nat.le_refl _)
  · refine GE.aload_n 1 dX0_prepare_25 rfl rfl ?_
    refine GE.gR dX0_prepare_26 lF_X0_18 (fun a8 => ?_)
    refine GE.iload_n 2 dX0_prepare_29 rfl rfl ?_
    refine GE.bipush dX0_prepare_30 kB_9 ?_
    refine GE.iload 5 dX0_prepare_32 rfl ?_
    refine GE.iload 7 dX0_prepare_34 rfl ?_
    refine GE.iadd dX0_prepare_36 ?_
    refine GE.callsI [.int 9, .int (x2 + x5)] dX0_prepare_37 (lT_X0_23) rfl ⟨rfl, rfl⟩ (rokb rfl) (gJ9_min_7cf53 t6 9 (x2 + x5)) (fun x9 t10 => ?_)
    refine GE.iast dX0_prepare_40 (fun t11 => ?_)
    refine GE.aload_n 1 dX0_prepare_41 rfl rfl ?_
    refine GE.gR dX0_prepare_42 lF_X0_18 (fun a12 => ?_)
    refine GE.iload_n 3 dX0_prepare_45 rfl rfl ?_
    refine GE.bipush dX0_prepare_46 kB_9 ?_
    refine GE.iload 6 dX0_prepare_48 rfl ?_
    refine GE.iload 7 dX0_prepare_50 rfl ?_
    refine GE.iadd dX0_prepare_52 ?_
    refine GE.callsI [.int 9, .int (x4 + x5)] dX0_prepare_53 (lT_X0_23) rfl ⟨rfl, rfl⟩ (rokb rfl) (gJ9_min_7cf53 t11 9 (x4 + x5)) (fun x13 t14 => ?_)
    refine GE.iast dX0_prepare_56 (fun t15 => ?_)
    refine GE.aload_n 0 dX0_prepare_57 rfl rfl ?_
    refine GE.gR dX0_prepare_58 lF_X0_11 (fun a16 => ?_)
    refine GE.iload 7 dX0_prepare_61 rfl ?_
    refine GE.aload_n 1 dX0_prepare_63 rfl rfl ?_
    refine GE.iload_n 2 dX0_prepare_64 rfl rfl ?_
    refine GE.aloadq 4 dX0_prepare_65 rfl ?_
    refine GE.callvI [.int px2, va_rf pq4] dX0_prepare_67 (lV_X0_29) rfl ⟨rfl, rfl⟩ (rokb rfl) (gX7_sight t15 pa1 px2 pq4) (fun x17 t18 => ?_)
    refine GE.iast dX0_prepare_70 (fun t19 => ?_)
    refine GE.aload_n 0 dX0_prepare_71 rfl rfl ?_
    refine GE.gR dX0_prepare_72 lF_X0_15 (fun a20 => ?_)
    refine GE.iload 7 dX0_prepare_75 rfl ?_
    refine GE.aload_n 1 dX0_prepare_77 rfl rfl ?_
    refine GE.iload_n 3 dX0_prepare_78 rfl rfl ?_
    refine GE.aloadq 4 dX0_prepare_79 rfl ?_
    refine GE.callvI [.int px3, va_rf pq4] dX0_prepare_81 (lV_X0_29) rfl ⟨rfl, rfl⟩ (rokb rfl) (gX7_sight t19 pa1 px3 pq4) (fun x21 t22 => ?_)
    refine GE.iast dX0_prepare_84 (fun t23 => ?_)
    refine GE.iinc (lv' := [(0, .ref a0), (1, .ref pa1), (2, .int px2), (3, .int px3), (4, va_rf pq4), (5, .int x2), (6, .int x4), (7, .int (x5 + 1))]) 7 dX0_prepare_85 rfl kI_1 (by decide) [1, 2, 3, 4, 5, 6, 7, 0] rfl ?_
    refine GE.goto (tgt := 19) dX0_prepare_88 (by decide) ?_
    exact hl7 (x5 + 1) t23
def fX9_game (σ : St) (a0 : Nat) (px1 : Int32) (px2 : Int32) (px3 : Int32) (px4 : Int32) (px5 : Int32) : Option (Int32 × St) :=
  (gR 9 8 σ a0).bind fun a1 =>
  bo 7 σ a1 (fX7_hasTower σ a1 px1) (fun x2 t3 =>
  if x2 = 0 then
    some ((-1000000), t3)
  else
    (gR 9 8 t3 a0).bind fun a4 =>
    bo 7 t3 a4 (fX7_hasTower t3 a4 px2) (fun x5 t6 =>
    if x5 = 0 then
      some ((-1000000), t6)
    else
      if px1 = px2 then
        some ((-1000000), t6)
      else
        bd (fX0_mayRaise t6 px3) (fun x7 t8 =>
        if x7 = 0 then
          some ((-1000000), t8)
        else
          bd (fX0_mayRaise t8 px4) (fun x9 t10 =>
          if x9 = 0 then
            some ((-1000000), t10)
          else
            if px5 < 0 then
              some ((-1000000), t10)
            else
              if px5 ≤ 1 then
                (gR 9 10 t10 a0).bind fun a11 =>
                (gR 9 8 t10 a0).bind fun a12 =>
                bo 7 t10 a11 (fX7_become t10 a11 a12) (fun w13 t14 =>
                (gR 9 14 t14 a0).bind fun a15 =>
                (gR 9 10 t14 a0).bind fun a16 =>
                bo 9 t14 a0 (fX9_ruling t14 a0) (fun q17 t18 =>
                bo 0 t18 a15 (fX0_prepare t18 a15 a16 px1 px2 q17) (fun w19 t20 =>
                if px5 = 0 then
                  (gR 9 14 t20 a0).bind fun a24 =>
                  bo 0 t20 a24 (fX0_gainOfOne t20 a24 px3 px4) (fun x25 t26 =>
                  some (x25, t26))
                else
                  (gR 9 14 t20 a0).bind fun a21 =>
                  bo 0 t20 a21 (fX0_gainOfOther t20 a21 px3 px4) (fun x22 t23 =>
                  some (x22, t23)))))
              else
                some ((-1000000), t10)))))
set_option maxHeartbeats 4000000 in
set_option maxRecDepth 100000 in
theorem gX9_game (σ : St) (a0 : Nat) (px1 : Int32) (px2 : Int32) (px3 : Int32) (px4 : Int32) (px5 : Int32) : CE vI mX9_game [.ref a0, .int px1, .int px2, .int px3, .int px4, .int px5] σ (fX9_game σ a0 px1 px2 px3 px4 px5) := by
  refine CE.ofGEF (lv := [(0, .ref a0), (1, .int px1), (2, .int px2), (3, .int px3), (4, .int px4), (5, .int px5)]) (by decide +kernel) (Nat.le_of_ble_eq_true rfl) rfl ?_
  unfold fX9_game
  refine GE.aload_n 0 dX9_game_0 rfl rfl ?_
  refine GE.gR dX9_game_1 lF_X9_55 (fun a1 => ?_)
  refine GE.iload_n 1 dX9_game_4 rfl rfl ?_
  refine GE.callvI [.int px1] dX9_game_5 (lV_X9_160) rfl ⟨rfl, rfl⟩ (rokb rfl) (gX7_hasTower σ a1 px1) (fun x2 t3 => ?_)
  refine GE.if_eq (tgt := 53) dX9_game_8 (by decide) ?_ ?_
  · refine GE.ldcw (v := (-1000000)) dX9_game_53 lK_X9_313 ?_
    exact GE.iret dX9_game_56 rfl (Nat.le_refl _) (Nat.le_refl _)
  · refine GE.aload_n 0 dX9_game_11 rfl rfl ?_
    refine GE.gR dX9_game_12 lF_X9_55 (fun a4 => ?_)
    refine GE.iload_n 2 dX9_game_15 rfl rfl ?_
    refine GE.callvI [.int px2] dX9_game_16 (lV_X9_160) rfl ⟨rfl, rfl⟩ (rokb rfl) (gX7_hasTower t3 a4 px2) (fun x5 t6 => ?_)
    refine GE.if_eq (tgt := 53) dX9_game_19 (by decide) ?_ ?_
    · refine GE.ldcw (v := (-1000000)) dX9_game_53 lK_X9_313 ?_
      exact GE.iret dX9_game_56 rfl (Nat.le_refl _) (Nat.le_refl _)
    · refine GE.iload_n 1 dX9_game_22 rfl rfl ?_
      refine GE.iload_n 2 dX9_game_23 rfl rfl ?_
      refine GE.icmp_eq (tgt := 53) dX9_game_24 (by decide) ?_ ?_
      · refine GE.ldcw (v := (-1000000)) dX9_game_53 lK_X9_313 ?_
        exact GE.iret dX9_game_56 rfl (Nat.le_refl _) (Nat.le_refl _)
      · refine GE.iload_n 3 dX9_game_27 rfl rfl ?_
        refine GE.callsI [.int px3] dX9_game_28 (lT_X9_310) rfl ⟨rfl, rfl⟩ (rokb rfl) (gX0_mayRaise t6 px3) (fun x7 t8 => ?_)
        refine GE.if_eq (tgt := 53) dX9_game_31 (by decide) ?_ ?_
        · refine GE.ldcw (v := (-1000000)) dX9_game_53 lK_X9_313 ?_
          exact GE.iret dX9_game_56 rfl (Nat.le_refl _) (Nat.le_refl _)
        · refine GE.iload 4 dX9_game_34 rfl ?_
          refine GE.callsI [.int px4] dX9_game_36 (lT_X9_310) rfl ⟨rfl, rfl⟩ (rokb rfl) (gX0_mayRaise t8 px4) (fun x9 t10 => ?_)
          refine GE.if_eq (tgt := 53) dX9_game_39 (by decide) ?_ ?_
          · refine GE.ldcw (v := (-1000000)) dX9_game_53 lK_X9_313 ?_
            exact GE.iret dX9_game_56 rfl (Nat.le_refl _) (Nat.le_refl _)
          · refine GE.iload 5 dX9_game_42 rfl ?_
            refine GE.if_lt (tgt := 53) dX9_game_44 (by decide) ?_ ?_
            · refine GE.ldcw (v := (-1000000)) dX9_game_53 lK_X9_313 ?_
              exact GE.iret dX9_game_56 rfl (Nat.le_refl _) (Nat.le_refl _)
            · refine GE.iload 5 dX9_game_47 rfl ?_
              refine GE.iconst dX9_game_49 kI_1 ?_
              refine GE.icmp_le (tgt := 57) dX9_game_50 (by decide) ?_ ?_
              · refine GE.aload_n 0 dX9_game_57 rfl rfl ?_
                refine GE.gR dX9_game_58 lF_X9_62 (fun a11 => ?_)
                refine GE.aload_n 0 dX9_game_61 rfl rfl ?_
                refine GE.gR dX9_game_62 lF_X9_55 (fun a12 => ?_)
                refine GE.callvU [.ref a12] dX9_game_65 (lV_X9_123) rfl ⟨rfl, rfl⟩ (rokb rfl) (gX7_become t10 a11 a12) (fun w13 t14 => ?_)
                refine GE.aload_n 0 dX9_game_68 rfl rfl ?_
                refine GE.gR dX9_game_69 lF_X9_89 (fun a15 => ?_)
                refine GE.aload_n 0 dX9_game_72 rfl rfl ?_
                refine GE.gR dX9_game_73 lF_X9_62 (fun a16 => ?_)
                refine GE.iload_n 1 dX9_game_76 rfl rfl ?_
                refine GE.iload_n 2 dX9_game_77 rfl rfl ?_
                refine GE.aload_n 0 dX9_game_78 rfl rfl ?_
                refine GE.callvQ [] dX9_game_79 (lV_X9_179) rfl ⟨rfl, rfl⟩ (rokb rfl) (gX9_ruling t14 a0) (fun q17 t18 => ?_)
                refine GE.callvU [.ref a16, .int px1, .int px2, va_rf q17] dX9_game_82 (lV_X9_314) rfl ⟨rfl, rfl⟩ (rokb rfl) (gX0_prepare t18 a15 a16 px1 px2 q17) (fun w19 t20 => ?_)
                refine GE.iload 5 dX9_game_85 rfl ?_
                refine GE.if_ne (tgt := 103) dX9_game_87 (by decide) ?_ ?_
                · refine GE.aload_n 0 dX9_game_103 rfl rfl ?_
                  refine GE.gR dX9_game_104 lF_X9_89 (fun a21 => ?_)
                  refine GE.iload_n 3 dX9_game_107 rfl rfl ?_
                  refine GE.iload 4 dX9_game_108 rfl ?_
                  refine GE.callvI [.int px3, .int px4] dX9_game_110 (lV_X9_321) rfl ⟨rfl, rfl⟩ (rokb rfl) (gX0_gainOfOther t20 a21 px3 px4) (fun x22 t23 => ?_)
                  exact GE.iret dX9_game_113 rfl (Nat.le_refl _) (Nat.le_refl _)
                · refine GE.aload_n 0 dX9_game_90 rfl rfl ?_
                  refine GE.gR dX9_game_91 lF_X9_89 (fun a24 => ?_)
                  refine GE.iload_n 3 dX9_game_94 rfl rfl ?_
                  refine GE.iload 4 dX9_game_95 rfl ?_
                  refine GE.callvI [.int px3, .int px4] dX9_game_97 (lV_X9_318) rfl ⟨rfl, rfl⟩ (rokb rfl) (gX0_gainOfOne t20 a24 px3 px4) (fun x25 t26 => ?_)
                  refine GE.goto (tgt := 113) dX9_game_100 (by decide) ?_
                  exact GE.iret dX9_game_113 rfl (Nat.le_refl _) (Nat.le_refl _)
              · refine GE.ldcw (v := (-1000000)) dX9_game_53 lK_X9_313 ?_
                exact GE.iret dX9_game_56 rfl (Nat.le_refl _) (Nat.le_refl _)
def fX9_give (σ : St) (a0 : Nat) (px1 : Int32) : Option (Int32 × St) :=
  bo 9 σ a0 (fX9_noLand σ a0) (fun x1 t2 =>
  if x1 = 0 then
    jo1 (fun (u2 : Unit) =>
      bo 9 t2 a0 (fX9_refuse t2 a0 1) (fun x4 t5 =>
      some (x4, t5))) (fun j3 =>
      if px1 < 1 then
        j3 () 
      else
        if 50 < px1 then
          j3 () 
        else
          (gR 9 8 t2 a0).bind fun a6 =>
          (gI 7 5 t2 a6).bind fun x7 =>
          if x7 + px1 ≤ 999 then
            (gR 9 11 t2 a0).bind fun a8 =>
            (gR 9 8 t2 a0).bind fun a9 =>
            bo 5 t2 a8 (fX5_keep t2 a8 a9) (fun w10 t11 =>
            (gR 9 8 t11 a0).bind fun a12 =>
            (gI 7 5 t11 a12).bind fun x13 =>
            (pV 7 5 t11 a12 (.int (x13 + px1))).bind (fun t14 =>
            (gR 9 8 t14 a0).bind fun a15 =>
            (gI 7 5 t14 a15).bind fun x16 =>
            some (x16, t14)))
          else
            j3 () )
  else
    bo 9 t2 a0 (fX9_refuse t2 a0 0) (fun x17 t18 =>
    some (x17, t18)))
set_option maxHeartbeats 4000000 in
set_option maxRecDepth 100000 in
theorem gX9_give (σ : St) (a0 : Nat) (px1 : Int32) : CE vI mX9_give [.ref a0, .int px1] σ (fX9_give σ a0 px1) := by
  refine CE.ofGEF (lv := [(0, .ref a0), (1, .int px1)]) (by decide +kernel) (Nat.le_of_ble_eq_true rfl) rfl ?_
  unfold fX9_give
  refine GE.aload_n 0 dX9_give_0 rfl rfl ?_
  refine GE.callvI [] dX9_give_1 (lV_X9_137) rfl ⟨rfl, rfl⟩ (rokb rfl) (gX9_noLand σ a0) (fun x1 t2 => ?_)
  refine GE.if_eq (tgt := 13) dX9_give_4 (by decide) ?_ ?_
  · refine GE.iload_n 1 dX9_give_13 rfl rfl ?_
    refine GE.iconst dX9_give_14 kI_1 ?_
    refine GE.jo1 39 (fun (u2 : Unit) => [(0, .ref a0)]) (fun (u2 : Unit) => []) (fun (u2 : Unit) => t2) (fun u2 => ?_) (fun j3 hj3 => ?_)
    · refine GE.aload_n 0 dX9_give_39 rfl rfl ?_
      refine GE.iconst dX9_give_40 kI_1 ?_
      refine GE.callvI [.int 1] dX9_give_41 (lV_X9_197) rfl ⟨rfl, rfl⟩ (rokb rfl) (gX9_refuse t2 a0 1) (fun x4 t5 => ?_)
      exact GE.iret dX9_give_44 rfl (Nat.le_refl _) (Nat.le_refl _)
    · refine GE.icmp_lt (tgt := 39) dX9_give_15 (by decide) ?_ ?_
      · exact GE.sub [0] rfl (hj3 () )
      · refine GE.iload_n 1 dX9_give_18 rfl rfl ?_
        refine GE.bipush dX9_give_19 kB_50 ?_
        refine GE.icmp_gt (tgt := 39) dX9_give_21 (by decide) ?_ ?_
        · exact GE.sub [0] rfl (hj3 () )
        · refine GE.aload_n 0 dX9_give_24 rfl rfl ?_
          refine GE.gR dX9_give_25 lF_X9_55 (fun a6 => ?_)
          refine GE.gI dX9_give_28 lF_X9_147 (fun x7 => ?_)
          refine GE.iload_n 1 dX9_give_31 rfl rfl ?_
          refine GE.iadd dX9_give_32 ?_
          refine GE.sipush dX9_give_33 kS_999 ?_
          refine GE.icmp_le (tgt := 45) dX9_give_36 (by decide) ?_ ?_
          · refine GE.aload_n 0 dX9_give_45 rfl rfl ?_
            refine GE.gR dX9_give_46 lF_X9_68 (fun a8 => ?_)
            refine GE.aload_n 0 dX9_give_49 rfl rfl ?_
            refine GE.gR dX9_give_50 lF_X9_55 (fun a9 => ?_)
            refine GE.callvU [.ref a9] dX9_give_53 (lV_X9_203) rfl ⟨rfl, rfl⟩ (rokb rfl) (gX5_keep t2 a8 a9) (fun w10 t11 => ?_)
            refine GE.aload_n 0 dX9_give_56 rfl rfl ?_
            refine GE.gR dX9_give_57 lF_X9_55 (fun a12 => ?_)
            refine GE.dup dX9_give_60 rfl ?_
            refine GE.gI dX9_give_61 lF_X9_147 (fun x13 => ?_)
            refine GE.iload_n 1 dX9_give_64 rfl rfl ?_
            refine GE.iadd dX9_give_65 ?_
            refine GE.pI dX9_give_66 lF_X9_147 (fun t14 => ?_)
            refine GE.aload_n 0 dX9_give_69 rfl rfl ?_
            refine GE.gR dX9_give_70 lF_X9_55 (fun a15 => ?_)
            refine GE.gI dX9_give_73 lF_X9_147 (fun x16 => ?_)
            exact GE.iret dX9_give_76 rfl (Nat.le_refl _) (Nat.le_refl _)
          · exact GE.sub [0] rfl (hj3 () )
  · refine GE.aload_n 0 dX9_give_7 rfl rfl ?_
    refine GE.iconst dX9_give_8 kI_0 ?_
    refine GE.callvI [.int 0] dX9_give_9 (lV_X9_197) rfl ⟨rfl, rfl⟩ (rokb rfl) (gX9_refuse t2 a0 0) (fun x17 t18 => ?_)
    exact GE.iret dX9_give_12 rfl (Nat.le_refl _) (Nat.le_refl _)
def fX1_addGiven (σ : St) (a0 : Nat) (px1 : Int32) (px2 : Int32) (px3 : Int32) : Option (Int32 × St) :=
  (gI 1 3 σ a0).bind fun x1 =>
  if x1 < 10 then
    (gR 1 0 σ a0).bind fun a2 =>
    (gI 1 3 σ a0).bind fun x3 =>
    (sI 0 σ a2 x3 px1).bind (fun t4 =>
    (gR 1 1 t4 a0).bind fun a5 =>
    (gI 1 3 t4 a0).bind fun x6 =>
    (sI 0 t4 a5 x6 px2).bind (fun t7 =>
    (gR 1 2 t7 a0).bind fun a8 =>
    (gI 1 3 t7 a0).bind fun x9 =>
    if zB px3 = true then (sI 1 t7 a8 x9 px3).bind (fun t10 =>
    (gI 1 3 t10 a0).bind fun x11 =>
    (pV 1 3 t10 a0 (.int (x11 + 1))).bind (fun t12 =>
    (gI 1 3 t12 a0).bind fun x13 =>
    some (x13, t12))) else none))
  else
    some ((-1), σ)
set_option maxHeartbeats 4000000 in
set_option maxRecDepth 100000 in
theorem gX1_addGiven (σ : St) (a0 : Nat) (px1 : Int32) (px2 : Int32) (px3 : Int32) : CE vI mX1_addGiven [.ref a0, .int px1, .int px2, .int px3] σ (fX1_addGiven σ a0 px1 px2 px3) := by
  refine CE.ofGEF (lv := [(0, .ref a0), (1, .int px1), (2, .int px2), (3, .int px3)]) (by decide +kernel) (Nat.le_of_ble_eq_true rfl) rfl ?_
  unfold fX1_addGiven
  refine GE.aload_n 0 dX1_addGiven_0 rfl rfl ?_
  refine GE.gI dX1_addGiven_1 lF_X1_22 (fun x1 => ?_)
  refine GE.bipush dX1_addGiven_4 kB_10 ?_
  refine GE.icmp_lt (tgt := 11) dX1_addGiven_6 (by decide) ?_ ?_
  · refine GE.aload_n 0 dX1_addGiven_11 rfl rfl ?_
    refine GE.gR dX1_addGiven_12 lF_X1_11 (fun a2 => ?_)
    refine GE.aload_n 0 dX1_addGiven_15 rfl rfl ?_
    refine GE.gI dX1_addGiven_16 lF_X1_22 (fun x3 => ?_)
    refine GE.iload_n 1 dX1_addGiven_19 rfl rfl ?_
    refine GE.iast dX1_addGiven_20 (fun t4 => ?_)
    refine GE.aload_n 0 dX1_addGiven_21 rfl rfl ?_
    refine GE.gR dX1_addGiven_22 lF_X1_15 (fun a5 => ?_)
    refine GE.aload_n 0 dX1_addGiven_25 rfl rfl ?_
    refine GE.gI dX1_addGiven_26 lF_X1_22 (fun x6 => ?_)
    refine GE.iload_n 2 dX1_addGiven_29 rfl rfl ?_
    refine GE.iast dX1_addGiven_30 (fun t7 => ?_)
    refine GE.aload_n 0 dX1_addGiven_31 rfl rfl ?_
    refine GE.gR dX1_addGiven_32 lF_X1_18 (fun a8 => ?_)
    refine GE.aload_n 0 dX1_addGiven_35 rfl rfl ?_
    refine GE.gI dX1_addGiven_36 lF_X1_22 (fun x9 => ?_)
    refine GE.iload_n 3 dX1_addGiven_39 rfl rfl ?_
    refine GE.zast dX1_addGiven_40 (fun t10 => ?_)
    refine GE.aload_n 0 dX1_addGiven_41 rfl rfl ?_
    refine GE.dup dX1_addGiven_42 rfl ?_
    refine GE.gI dX1_addGiven_43 lF_X1_22 (fun x11 => ?_)
    refine GE.iconst dX1_addGiven_46 kI_1 ?_
    refine GE.iadd dX1_addGiven_47 ?_
    refine GE.pI dX1_addGiven_48 lF_X1_22 (fun t12 => ?_)
    refine GE.aload_n 0 dX1_addGiven_51 rfl rfl ?_
    refine GE.gI dX1_addGiven_52 lF_X1_22 (fun x13 => ?_)
    exact GE.iret dX1_addGiven_55 rfl (Nat.le_refl _) (Nat.le_refl _)
  · refine GE.iconst dX1_addGiven_9 kI_m1 ?_
    exact GE.iret dX1_addGiven_10 rfl (Nat.le_refl _) (Nat.le_refl _)
def fX9_given (σ : St) (a0 : Nat) (px1 : Int32) (px2 : Int32) (px3 : Int32) : Option (Int32 × St) :=
  (gR 9 8 σ a0).bind fun a1 =>
  bo 7 σ a1 (fX7_hasTower σ a1 px1) (fun x2 t3 =>
  if x2 = 0 then
    some ((-1), t3)
  else
    (gR 9 8 t3 a0).bind fun a4 =>
    bo 7 t3 a4 (fX7_hasCell t3 a4 px2) (fun x5 t6 =>
    if x5 = 0 then
      some ((-1), t6)
    else
      (gR 9 12 t6 a0).bind fun a7 =>
      bo 1 t6 a7 (fX1_addGiven t6 a7 px1 px2 px3) (fun x8 t9 =>
      some (x8, t9))))
set_option maxHeartbeats 4000000 in
set_option maxRecDepth 100000 in
theorem gX9_given (σ : St) (a0 : Nat) (px1 : Int32) (px2 : Int32) (px3 : Int32) : CE vI mX9_given [.ref a0, .int px1, .int px2, .int px3] σ (fX9_given σ a0 px1 px2 px3) := by
  refine CE.ofGEF (lv := [(0, .ref a0), (1, .int px1), (2, .int px2), (3, .int px3)]) (by decide +kernel) (Nat.le_of_ble_eq_true rfl) rfl ?_
  unfold fX9_given
  refine GE.aload_n 0 dX9_given_0 rfl rfl ?_
  refine GE.gR dX9_given_1 lF_X9_55 (fun a1 => ?_)
  refine GE.iload_n 1 dX9_given_4 rfl rfl ?_
  refine GE.callvI [.int px1] dX9_given_5 (lV_X9_160) rfl ⟨rfl, rfl⟩ (rokb rfl) (gX7_hasTower σ a1 px1) (fun x2 t3 => ?_)
  refine GE.if_eq (tgt := 22) dX9_given_8 (by decide) ?_ ?_
  · refine GE.iconst dX9_given_22 kI_m1 ?_
    exact GE.iret dX9_given_23 rfl (Nat.le_refl _) (Nat.le_refl _)
  · refine GE.aload_n 0 dX9_given_11 rfl rfl ?_
    refine GE.gR dX9_given_12 lF_X9_55 (fun a4 => ?_)
    refine GE.iload_n 2 dX9_given_15 rfl rfl ?_
    refine GE.callvI [.int px2] dX9_given_16 (lV_X9_153) rfl ⟨rfl, rfl⟩ (rokb rfl) (gX7_hasCell t3 a4 px2) (fun x5 t6 => ?_)
    refine GE.if_ne (tgt := 24) dX9_given_19 (by decide) ?_ ?_
    · refine GE.aload_n 0 dX9_given_24 rfl rfl ?_
      refine GE.gR dX9_given_25 lF_X9_75 (fun a7 => ?_)
      refine GE.iload_n 1 dX9_given_28 rfl rfl ?_
      refine GE.iload_n 2 dX9_given_29 rfl rfl ?_
      refine GE.iload_n 3 dX9_given_30 rfl rfl ?_
      refine GE.callvI [.int px1, .int px2, .int px3] dX9_given_31 (lV_X9_289) rfl ⟨rfl, rfl⟩ (rokb rfl) (gX1_addGiven t6 a7 px1 px2 px3) (fun x8 t9 => ?_)
      exact GE.iret dX9_given_34 rfl (Nat.le_refl _) (Nat.le_refl _)
    · refine GE.iconst dX9_given_22 kI_m1 ?_
      exact GE.iret dX9_given_23 rfl (Nat.le_refl _) (Nat.le_refl _)
def fX9_heap (σ : St) (a0 : Nat) (px1 : Int32) : Option (Int32 × St) :=
  bo 9 σ a0 (fX9_reshape σ a0 px1 1 9) (fun x1 t2 =>
  some (x1, t2))
set_option maxHeartbeats 4000000 in
set_option maxRecDepth 100000 in
theorem gX9_heap (σ : St) (a0 : Nat) (px1 : Int32) : CE vI mX9_heap [.ref a0, .int px1] σ (fX9_heap σ a0 px1) := by
  refine CE.ofGEF (lv := [(0, .ref a0), (1, .int px1)]) (by decide +kernel) (Nat.le_of_ble_eq_true rfl) rfl ?_
  unfold fX9_heap
  refine GE.aload_n 0 dX9_heap_0 rfl rfl ?_
  refine GE.iload_n 1 dX9_heap_1 rfl rfl ?_
  refine GE.iconst dX9_heap_2 kI_1 ?_
  refine GE.bipush dX9_heap_3 kB_9 ?_
  refine GE.callvI [.int px1, .int 1, .int 9] dX9_heap_5 (lV_X9_217) rfl ⟨rfl, rfl⟩ (rokb rfl) (gX9_reshape σ a0 px1 1 9) (fun x1 t2 => ?_)
  exact GE.iret dX9_heap_8 rfl (Nat.le_refl _) (Nat.le_refl _)
def fX1_addHeard (σ : St) (a0 : Nat) (px1 : Int32) (px2 : Int32) : Option (Int32 × St) :=
  (gI 1 6 σ a0).bind fun x1 =>
  if x1 < 10 then
    (gR 1 4 σ a0).bind fun a2 =>
    (gI 1 6 σ a0).bind fun x3 =>
    (sI 0 σ a2 x3 px1).bind (fun t4 =>
    (gR 1 5 t4 a0).bind fun a5 =>
    (gI 1 6 t4 a0).bind fun x6 =>
    (sI 0 t4 a5 x6 px2).bind (fun t7 =>
    (gI 1 6 t7 a0).bind fun x8 =>
    (pV 1 6 t7 a0 (.int (x8 + 1))).bind (fun t9 =>
    (gI 1 6 t9 a0).bind fun x10 =>
    some (x10, t9))))
  else
    some ((-1), σ)
set_option maxHeartbeats 4000000 in
set_option maxRecDepth 100000 in
theorem gX1_addHeard (σ : St) (a0 : Nat) (px1 : Int32) (px2 : Int32) : CE vI mX1_addHeard [.ref a0, .int px1, .int px2] σ (fX1_addHeard σ a0 px1 px2) := by
  refine CE.ofGEF (lv := [(0, .ref a0), (1, .int px1), (2, .int px2)]) (by decide +kernel) (Nat.le_of_ble_eq_true rfl) rfl ?_
  unfold fX1_addHeard
  refine GE.aload_n 0 dX1_addHeard_0 rfl rfl ?_
  refine GE.gI dX1_addHeard_1 lF_X1_32 (fun x1 => ?_)
  refine GE.bipush dX1_addHeard_4 kB_10 ?_
  refine GE.icmp_lt (tgt := 11) dX1_addHeard_6 (by decide) ?_ ?_
  · refine GE.aload_n 0 dX1_addHeard_11 rfl rfl ?_
    refine GE.gR dX1_addHeard_12 lF_X1_26 (fun a2 => ?_)
    refine GE.aload_n 0 dX1_addHeard_15 rfl rfl ?_
    refine GE.gI dX1_addHeard_16 lF_X1_32 (fun x3 => ?_)
    refine GE.iload_n 1 dX1_addHeard_19 rfl rfl ?_
    refine GE.iast dX1_addHeard_20 (fun t4 => ?_)
    refine GE.aload_n 0 dX1_addHeard_21 rfl rfl ?_
    refine GE.gR dX1_addHeard_22 lF_X1_29 (fun a5 => ?_)
    refine GE.aload_n 0 dX1_addHeard_25 rfl rfl ?_
    refine GE.gI dX1_addHeard_26 lF_X1_32 (fun x6 => ?_)
    refine GE.iload_n 2 dX1_addHeard_29 rfl rfl ?_
    refine GE.iast dX1_addHeard_30 (fun t7 => ?_)
    refine GE.aload_n 0 dX1_addHeard_31 rfl rfl ?_
    refine GE.dup dX1_addHeard_32 rfl ?_
    refine GE.gI dX1_addHeard_33 lF_X1_32 (fun x8 => ?_)
    refine GE.iconst dX1_addHeard_36 kI_1 ?_
    refine GE.iadd dX1_addHeard_37 ?_
    refine GE.pI dX1_addHeard_38 lF_X1_32 (fun t9 => ?_)
    refine GE.aload_n 0 dX1_addHeard_41 rfl rfl ?_
    refine GE.gI dX1_addHeard_42 lF_X1_32 (fun x10 => ?_)
    exact GE.iret dX1_addHeard_45 rfl (Nat.le_refl _) (Nat.le_refl _)
  · refine GE.iconst dX1_addHeard_9 kI_m1 ?_
    exact GE.iret dX1_addHeard_10 rfl (Nat.le_refl _) (Nat.le_refl _)
def fX7_allCells (σ : St) (a0 : Nat) : Option (Int32 × St) :=
  (gI 7 2 σ a0).bind fun x1 =>
  some ((1 <<< (x1 &&& 31)) - 1, σ)
set_option maxHeartbeats 4000000 in
set_option maxRecDepth 100000 in
theorem gX7_allCells (σ : St) (a0 : Nat) : CE vI mX7_allCells [.ref a0] σ (fX7_allCells σ a0) := by
  refine CE.ofGEF (lv := [(0, .ref a0)]) (by decide +kernel) (Nat.le_of_ble_eq_true rfl) rfl ?_
  unfold fX7_allCells
  refine GE.iconst dX7_allCells_0 kI_1 ?_
  refine GE.aload_n 0 dX7_allCells_1 rfl rfl ?_
  refine GE.gI dX7_allCells_2 lF_X7_18 (fun x1 => ?_)
  refine GE.ishl dX7_allCells_5 ?_
  refine GE.iconst dX7_allCells_6 kI_1 ?_
  refine GE.isub dX7_allCells_7 ?_
  exact GE.iret dX7_allCells_8 rfl (Nat.le_refl _) (Nat.le_refl _)
def fX9_heard (σ : St) (a0 : Nat) (px1 : Int32) (px2 : Int32) : Option (Int32 × St) :=
  (gR 9 8 σ a0).bind fun a1 =>
  bo 7 σ a1 (fX7_hasTower σ a1 px1) (fun x2 t3 =>
  if x2 = 0 then
    some ((-1), t3)
  else
    (gR 9 8 t3 a0).bind fun a4 =>
    bo 7 t3 a4 (fX7_allCells t3 a4) (fun x5 t6 =>
    if px2 &&& (x5 ^^^ ((-1))) = 0 then
      (gR 9 12 t6 a0).bind fun a7 =>
      bo 1 t6 a7 (fX1_addHeard t6 a7 px1 px2) (fun x8 t9 =>
      some (x8, t9))
    else
      some ((-1), t6)))
set_option maxHeartbeats 4000000 in
set_option maxRecDepth 100000 in
theorem gX9_heard (σ : St) (a0 : Nat) (px1 : Int32) (px2 : Int32) : CE vI mX9_heard [.ref a0, .int px1, .int px2] σ (fX9_heard σ a0 px1 px2) := by
  refine CE.ofGEF (lv := [(0, .ref a0), (1, .int px1), (2, .int px2)]) (by decide +kernel) (Nat.le_of_ble_eq_true rfl) rfl ?_
  unfold fX9_heard
  refine GE.aload_n 0 dX9_heard_0 rfl rfl ?_
  refine GE.gR dX9_heard_1 lF_X9_55 (fun a1 => ?_)
  refine GE.iload_n 1 dX9_heard_4 rfl rfl ?_
  refine GE.callvI [.int px1] dX9_heard_5 (lV_X9_160) rfl ⟨rfl, rfl⟩ (rokb rfl) (gX7_hasTower σ a1 px1) (fun x2 t3 => ?_)
  refine GE.if_eq (tgt := 25) dX9_heard_8 (by decide) ?_ ?_
  · refine GE.iconst dX9_heard_25 kI_m1 ?_
    exact GE.iret dX9_heard_26 rfl (Nat.le_refl _) (Nat.le_refl _)
  · refine GE.iload_n 2 dX9_heard_11 rfl rfl ?_
    refine GE.aload_n 0 dX9_heard_12 rfl rfl ?_
    refine GE.gR dX9_heard_13 lF_X9_55 (fun a4 => ?_)
    refine GE.callvI [] dX9_heard_16 (lV_X9_260) rfl ⟨rfl, rfl⟩ (rokb rfl) (gX7_allCells t3 a4) (fun x5 t6 => ?_)
    refine GE.iconst dX9_heard_19 kI_m1 ?_
    refine GE.ixor dX9_heard_20 ?_
    refine GE.iand dX9_heard_21 ?_
    refine GE.if_eq (tgt := 27) dX9_heard_22 (by decide) ?_ ?_
    · refine GE.aload_n 0 dX9_heard_27 rfl rfl ?_
      refine GE.gR dX9_heard_28 lF_X9_75 (fun a7 => ?_)
      refine GE.iload_n 1 dX9_heard_31 rfl rfl ?_
      refine GE.iload_n 2 dX9_heard_32 rfl rfl ?_
      refine GE.callvI [.int px1, .int px2] dX9_heard_33 (lV_X9_307) rfl ⟨rfl, rfl⟩ (rokb rfl) (gX1_addHeard t6 a7 px1 px2) (fun x8 t9 => ?_)
      exact GE.iret dX9_heard_36 rfl (Nat.le_refl _) (Nat.le_refl _)
    · refine GE.iconst dX9_heard_25 kI_m1 ?_
      exact GE.iret dX9_heard_26 rfl (Nat.le_refl _) (Nat.le_refl _)
def fX9_height (σ : St) (a0 : Nat) (px1 : Int32) : Option (Int32 × St) :=
  (gR 9 8 σ a0).bind fun a1 =>
  bo 7 σ a1 (fX7_hasCell σ a1 px1) (fun x2 t3 =>
  if x2 = 0 then
    some ((-1), t3)
  else
    (gR 9 8 t3 a0).bind fun a4 =>
    (gR 7 9 t3 a4).bind fun a5 =>
    (aI 0 t3 a5 px1).bind fun x6 =>
    some (x6, t3))
set_option maxHeartbeats 4000000 in
set_option maxRecDepth 100000 in
theorem gX9_height (σ : St) (a0 : Nat) (px1 : Int32) : CE vI mX9_height [.ref a0, .int px1] σ (fX9_height σ a0 px1) := by
  refine CE.ofGEF (lv := [(0, .ref a0), (1, .int px1)]) (by decide +kernel) (Nat.le_of_ble_eq_true rfl) rfl ?_
  unfold fX9_height
  refine GE.aload_n 0 dX9_height_0 rfl rfl ?_
  refine GE.gR dX9_height_1 lF_X9_55 (fun a1 => ?_)
  refine GE.iload_n 1 dX9_height_4 rfl rfl ?_
  refine GE.callvI [.int px1] dX9_height_5 (lV_X9_153) rfl ⟨rfl, rfl⟩ (rokb rfl) (gX7_hasCell σ a1 px1) (fun x2 t3 => ?_)
  refine GE.if_eq (tgt := 23) dX9_height_8 (by decide) ?_ ?_
  · refine GE.iconst dX9_height_23 kI_m1 ?_
    exact GE.iret dX9_height_24 rfl (Nat.le_refl _) (Nat.le_refl _)
  · refine GE.aload_n 0 dX9_height_11 rfl rfl ?_
    refine GE.gR dX9_height_12 lF_X9_55 (fun a4 => ?_)
    refine GE.gR dX9_height_15 lF_X9_157 (fun a5 => ?_)
    refine GE.iload_n 1 dX9_height_18 rfl rfl ?_
    refine GE.iald dX9_height_19 (fun x6 => ?_)
    refine GE.goto (tgt := 24) dX9_height_20 (by decide) ?_
    exact GE.iret dX9_height_24 rfl (Nat.le_refl _) (Nat.le_refl _)
def fX9_bitAt (σ : St) (px0 : Int32) (px1 : Int32) : Option (Int32 × St) :=
  lo2 (fun l3 (x1 : Int32) (x2 : Int32) =>
    if 9 < x2 then
    some ((-1), σ)
  else
    jo1 (fun (x4 : Int32) =>
      l3 x4 (x2 + 1)) (fun j5 =>
      if (px0 >>> (x2 &&& 31)) &&& 1 = 1 then
        if x1 = 0 then
          some (x2, σ)
        else
          j5 (x1 + (-1))
      else
        j5 x1)) FU px1 0
set_option maxHeartbeats 4000000 in
set_option maxRecDepth 100000 in
theorem gX9_bitAt (σ : St) (px0 : Int32) (px1 : Int32) : CE vI mX9_bitAt [.int px0, .int px1] σ (fX9_bitAt σ px0 px1) := by
  refine CE.ofGEF (lv := [(0, .int px0), (1, .int px1)]) (by decide +kernel) (Nat.le_of_ble_eq_true rfl) rfl ?_
  unfold fX9_bitAt
  refine GE.iload_n 1 dX9_bitAt_0 rfl rfl ?_
  refine GE.istore_n (lv' := [(0, .int px0), (1, .int px1), (2, .int px1)]) dX9_bitAt_1 rfl (by decide) [1, 2, 0] rfl ?_
  refine GE.iconst dX9_bitAt_2 kI_0 ?_
  refine GE.istore_n (lv' := [(0, .int px0), (1, .int px1), (2, .int px1), (3, .int 0)]) dX9_bitAt_3 rfl (by decide) [1, 2, 3, 0] rfl ?_
  refine GE.sub [0, 2, 3] rfl (GE.lo2 (fun (x1 : Int32) (x2 : Int32) => [(0, .int px0), (2, .int x1), (3, .int x2)]) (fun (x1 : Int32) (x2 : Int32) => []) (fun (x1 : Int32) (x2 : Int32) => σ) (fun l3 hl3 x1 x2 => ?_) FU px1 0)
  refine GE.iload_n 2 dX9_bitAt_4 rfl rfl ?_
  refine GE.bipush dX9_bitAt_5 kB_9 ?_
  refine GE.icmp_gt (tgt := 34) dX9_bitAt_7 (by decide) ?_ ?_
  · refine GE.iconst dX9_bitAt_34 kI_m1 ?_
    exact GE.iret dX9_bitAt_35 rfl (Nat.le_refl _) (Nat.le_refl _)
  · refine GE.iload_n 0 dX9_bitAt_10 rfl rfl ?_
    refine GE.iload_n 2 dX9_bitAt_11 rfl rfl ?_
    refine GE.ishr dX9_bitAt_12 ?_
    refine GE.iconst dX9_bitAt_13 kI_1 ?_
    refine GE.iand dX9_bitAt_14 ?_
    refine GE.iconst dX9_bitAt_15 kI_1 ?_
    refine GE.jo1 28 (fun (x4 : Int32) => [(0, .int px0), (2, .int x4), (3, .int x2)]) (fun (x4 : Int32) => []) (fun (x4 : Int32) => σ) (fun x4 => ?_) (fun j5 hj5 => ?_)
    · refine GE.iinc (lv' := [(0, .int px0), (2, .int x4), (3, .int (x2 + 1))]) 2 dX9_bitAt_28 rfl kI_1 (by decide) [1, 2, 0] rfl ?_
      refine GE.goto (tgt := 4) dX9_bitAt_31 (by decide) ?_
      exact hl3 x4 (x2 + 1)
    · refine GE.icmp_ne (tgt := 28) dX9_bitAt_16 (by decide) ?_ ?_
      · exact hj5 x1
      · refine GE.iload_n 1 dX9_bitAt_19 rfl rfl ?_
        refine GE.if_ne (tgt := 25) dX9_bitAt_20 (by decide) ?_ ?_
        · refine GE.iinc (lv' := [(0, .int px0), (2, .int (x1 + (-1))), (3, .int x2)]) 1 dX9_bitAt_25 rfl kI_m1 (by decide) [1, 0, 2] rfl ?_
          exact hj5 (x1 + (-1))
        · refine GE.iload_n 2 dX9_bitAt_23 rfl rfl ?_
          exact GE.iret dX9_bitAt_24 rfl (Nat.le_refl _) (Nat.le_refl _)
def fX9_heights (σ : St) (a0 : Nat) (px1 : Int32) (px2 : Int32) : Option (Int32 × St) :=
  (gR 9 8 σ a0).bind fun a1 =>
  bo 7 σ a1 (fX7_hasCell σ a1 px1) (fun x2 t3 =>
  if x2 = 0 then
    some ((-1), t3)
  else
    (gR 9 10 t3 a0).bind fun a4 =>
    (gR 9 9 t3 a0).bind fun a5 =>
    bo 7 t3 a4 (fX7_become t3 a4 a5) (fun w6 t7 =>
    (gR 9 12 t7 a0).bind fun a8 =>
    (gR 9 10 t7 a0).bind fun a9 =>
    bo 9 t7 a0 (fX9_ruling t7 a0) (fun q10 t11 =>
    bo 1 t11 a8 (fX1_fitting t11 a8 a9 px1 q10) (fun x12 t13 =>
    if px2 = (-1) then
      bd (fJ6_bitCount_0f7a4 t13 x12) (fun x16 t17 =>
      some (x16, t17))
    else
      bd (fX9_bitAt t13 x12 px2) (fun x14 t15 =>
      some (x14, t15))))))
set_option maxHeartbeats 4000000 in
set_option maxRecDepth 100000 in
theorem gX9_heights (σ : St) (a0 : Nat) (px1 : Int32) (px2 : Int32) : CE vI mX9_heights [.ref a0, .int px1, .int px2] σ (fX9_heights σ a0 px1 px2) := by
  refine CE.ofGEF (lv := [(0, .ref a0), (1, .int px1), (2, .int px2)]) (by decide +kernel) (Nat.le_of_ble_eq_true rfl) rfl ?_
  unfold fX9_heights
  refine GE.aload_n 0 dX9_heights_0 rfl rfl ?_
  refine GE.gR dX9_heights_1 lF_X9_55 (fun a1 => ?_)
  refine GE.iload_n 1 dX9_heights_4 rfl rfl ?_
  refine GE.callvI [.int px1] dX9_heights_5 (lV_X9_153) rfl ⟨rfl, rfl⟩ (rokb rfl) (gX7_hasCell σ a1 px1) (fun x2 t3 => ?_)
  refine GE.if_ne (tgt := 13) dX9_heights_8 (by decide) ?_ ?_
  · refine GE.aload_n 0 dX9_heights_13 rfl rfl ?_
    refine GE.gR dX9_heights_14 lF_X9_62 (fun a4 => ?_)
    refine GE.aload_n 0 dX9_heights_17 rfl rfl ?_
    refine GE.gR dX9_heights_18 lF_X9_59 (fun a5 => ?_)
    refine GE.callvU [.ref a5] dX9_heights_21 (lV_X9_123) rfl ⟨rfl, rfl⟩ (rokb rfl) (gX7_become t3 a4 a5) (fun w6 t7 => ?_)
    refine GE.aload_n 0 dX9_heights_24 rfl rfl ?_
    refine GE.gR dX9_heights_25 lF_X9_75 (fun a8 => ?_)
    refine GE.aload_n 0 dX9_heights_28 rfl rfl ?_
    refine GE.gR dX9_heights_29 lF_X9_62 (fun a9 => ?_)
    refine GE.iload_n 1 dX9_heights_32 rfl rfl ?_
    refine GE.aload_n 0 dX9_heights_33 rfl rfl ?_
    refine GE.callvQ [] dX9_heights_34 (lV_X9_179) rfl ⟨rfl, rfl⟩ (rokb rfl) (gX9_ruling t7 a0) (fun q10 t11 => ?_)
    refine GE.callvI [.ref a9, .int px1, va_rf q10] dX9_heights_37 (lV_X9_293) rfl ⟨rfl, rfl⟩ (rokb rfl) (gX1_fitting t11 a8 a9 px1 q10) (fun x12 t13 => ?_)
    refine GE.istore_n (lv' := [(0, .ref a0), (1, .int px1), (2, .int px2), (3, .int x12)]) dX9_heights_40 rfl (by decide) [1, 2, 3, 0] rfl ?_
    refine GE.iload_n 2 dX9_heights_41 rfl rfl ?_
    refine GE.iconst dX9_heights_42 kI_m1 ?_
    refine GE.icmp_ne (tgt := 53) dX9_heights_43 (by decide) ?_ ?_
    · refine GE.iload_n 3 dX9_heights_53 rfl rfl ?_
      refine GE.iload_n 2 dX9_heights_54 rfl rfl ?_
      refine GE.callsI [.int x12, .int px2] dX9_heights_55 (lT_X9_297) rfl ⟨rfl, rfl⟩ (rokb rfl) (gX9_bitAt t13 x12 px2) (fun x14 t15 => ?_)
      exact GE.iret dX9_heights_58 rfl (Nat.le_refl _) (Nat.le_refl _)
    · refine GE.iload_n 3 dX9_heights_46 rfl rfl ?_
      refine GE.callsI [.int x12] dX9_heights_47 (lT_X9_192) rfl ⟨rfl, rfl⟩ (rokb rfl) (gJ6_bitCount_0f7a4 t13 x12) (fun x16 t17 => ?_)
      refine GE.goto (tgt := 58) dX9_heights_50 (by decide) ?_
      exact GE.iret dX9_heights_58 rfl (Nat.le_refl _) (Nat.le_refl _)
  · refine GE.iconst dX9_heights_11 kI_m1 ?_
    exact GE.iret dX9_heights_12 rfl (Nat.le_refl _) (Nat.le_refl _)
def fX5_write (σ : St) (a0 : Nat) (pa1 : Nat) (px2 : Int32) : Option (Unit × St) :=
  (gR 5 3 σ a0).bind fun a1 =>
  (gI 7 8 σ pa1).bind fun x2 =>
  if 128 = 0 then none else
  (gI 7 7 σ pa1).bind fun x3 =>
  (gI 7 4 σ pa1).bind fun x4 =>
  (sI 0 σ a1 (x2 - x2 / 128 * 128) (((px2 <<< (8 &&& 31)) ||| (x3 <<< (4 &&& 31))) ||| x4)).bind (fun t5 =>
  (gI 7 8 t5 pa1).bind fun x6 =>
  (pV 7 8 t5 pa1 (.int (x6 + 1))).bind (fun t7 =>
  some ((), t7)))
set_option maxHeartbeats 4000000 in
set_option maxRecDepth 100000 in
theorem gX5_write (σ : St) (a0 : Nat) (pa1 : Nat) (px2 : Int32) : CE vU mX5_write [.ref a0, .ref pa1, .int px2] σ (fX5_write σ a0 pa1 px2) := by
  refine CE.ofGEF (lv := [(0, .ref a0), (1, .ref pa1), (2, .int px2)]) (by decide +kernel) (Nat.le_of_ble_eq_true rfl) rfl ?_
  unfold fX5_write
  refine GE.aload_n 0 dX5_write_0 rfl rfl ?_
  refine GE.gR dX5_write_1 lF_X5_24 (fun a1 => ?_)
  refine GE.aload_n 1 dX5_write_4 rfl rfl ?_
  refine GE.gI dX5_write_5 lF_X5_50 (fun x2 => ?_)
  refine GE.sipush dX5_write_8 kS_128 ?_
  refine GE.irem dX5_write_11 ?_
  refine GE.iload_n 2 dX5_write_12 rfl rfl ?_
  refine GE.bipush dX5_write_13 kB_8 ?_
  refine GE.ishl dX5_write_15 ?_
  refine GE.aload_n 1 dX5_write_16 rfl rfl ?_
  refine GE.gI dX5_write_17 lF_X5_53 (fun x3 => ?_)
  refine GE.iconst dX5_write_20 kI_4 ?_
  refine GE.ishl dX5_write_21 ?_
  refine GE.ior dX5_write_22 ?_
  refine GE.aload_n 1 dX5_write_23 rfl rfl ?_
  refine GE.gI dX5_write_24 lF_X5_56 (fun x4 => ?_)
  refine GE.ior dX5_write_27 ?_
  refine GE.iast dX5_write_28 (fun t5 => ?_)
  refine GE.aload_n 1 dX5_write_29 rfl rfl ?_
  refine GE.dup dX5_write_30 rfl ?_
  refine GE.gI dX5_write_31 lF_X5_50 (fun x6 => ?_)
  refine GE.iconst dX5_write_34 kI_1 ?_
  refine GE.iadd dX5_write_35 ?_
  refine GE.pI dX5_write_36 lF_X5_50 (fun t7 => ?_)
  exact GE.vret (x := ()) dX5_write_39 rfl (Nat.le_refl _) (Nat.le_refl _)
def fX7_hidden (σ : St) (a0 : Nat) (pq1 : Option Nat) : Option (Int32 × St) :=
  bo 7 σ a0 (fX7_allCells σ a0) (fun x1 t2 =>
  lo3 (fun l6 (x3 : Int32) (x4 : Int32) (t5 : St) =>
    (gI 7 3 t5 a0).bind fun x7 =>
  if x7 ≤ x4 then
    some (x3, t5)
  else
    bo 7 t5 a0 (fX7_sight t5 a0 x4 pq1) (fun x8 t9 =>
    nam (x3 &&& (x8 ^^^ ((-1))) : Int32) (fun x10 =>
    l6 x10 (x4 + 1) t9))) FU x1 0 t2)
set_option maxHeartbeats 4000000 in
set_option maxRecDepth 100000 in
theorem gX7_hidden (σ : St) (a0 : Nat) (pq1 : Option Nat) : CE vI mX7_hidden [.ref a0, va_rf pq1] σ (fX7_hidden σ a0 pq1) := by
  refine CE.ofGEF (lv := [(0, .ref a0), (1, va_rf pq1)]) (by decide +kernel) (by cases pq1 <;> exact Nat.le_of_ble_eq_true rfl) rfl ?_
  unfold fX7_hidden
  refine GE.aload_n 0 dX7_hidden_0 rfl rfl ?_
  refine GE.callvI [] dX7_hidden_1 (lV_X7_106) rfl ⟨rfl, rfl⟩ (rokb rfl) (gX7_allCells σ a0) (fun x1 t2 => ?_)
  refine GE.istore_n (lv' := [(0, .ref a0), (1, va_rf pq1), (2, .int x1)]) dX7_hidden_4 rfl (by decide) [1, 2, 0] (by cases pq1 <;> rfl) ?_
  refine GE.iconst dX7_hidden_5 kI_0 ?_
  refine GE.istore_n (lv' := [(0, .ref a0), (1, va_rf pq1), (2, .int x1), (3, .int 0)]) dX7_hidden_6 rfl (by decide) [1, 2, 3, 0] rfl ?_
  refine (GE.lo3 (fun (x3 : Int32) (x4 : Int32) (t5 : St) => [(0, .ref a0), (1, va_rf pq1), (2, .int x3), (3, .int x4)]) (fun (x3 : Int32) (x4 : Int32) (t5 : St) => []) (fun (x3 : Int32) (x4 : Int32) (t5 : St) => t5) (fun l6 hl6 x3 x4 t5 => ?_) FU x1 0 t2)
  refine GE.iload_n 3 dX7_hidden_7 rfl rfl ?_
  refine GE.aload_n 0 dX7_hidden_8 rfl rfl ?_
  refine GE.gI dX7_hidden_9 lF_X7_21 (fun x7 => ?_)
  refine GE.icmp_ge (tgt := 32) dX7_hidden_12 (by decide) ?_ ?_
  · refine GE.iload_n 2 dX7_hidden_32 rfl rfl ?_
    exact GE.iret dX7_hidden_33 rfl (Nat.le_refl _) (Nat.le_refl _)
  · refine GE.iload_n 2 dX7_hidden_15 rfl rfl ?_
    refine GE.aload_n 0 dX7_hidden_16 rfl rfl ?_
    refine GE.iload_n 3 dX7_hidden_17 rfl rfl ?_
    refine GE.aloadq_n 1 dX7_hidden_18 rfl rfl ?_
    refine GE.callvI [.int x4, va_rf pq1] dX7_hidden_19 (lV_X7_103) rfl ⟨rfl, rfl⟩ (rokb rfl) (gX7_sight t5 a0 x4 pq1) (fun x8 t9 => ?_)
    refine GE.iconst dX7_hidden_22 kI_m1 ?_
    refine GE.ixor dX7_hidden_23 ?_
    refine GE.iand dX7_hidden_24 ?_
    refine GE.nami (fun x10 => ?_)
    refine GE.istore_n (lv' := [(0, .ref a0), (1, va_rf pq1), (2, .int x10), (3, .int x4)]) dX7_hidden_25 rfl (by decide) [1, 2, 0, 3] (by cases pq1 <;> rfl) ?_
    refine GE.iinc (lv' := [(0, .ref a0), (1, va_rf pq1), (2, .int x10), (3, .int (x4 + 1))]) 3 dX7_hidden_26 rfl kI_1 (by decide) [1, 2, 3, 0] rfl ?_
    refine GE.goto (tgt := 7) dX7_hidden_29 (by decide) ?_
    exact hl6 x10 (x4 + 1) t9
def fX9_passHour (σ : St) (a0 : Nat) : Option (Unit × St) :=
  (gR 9 11 σ a0).bind fun a1 =>
  (gR 9 8 σ a0).bind fun a2 =>
  (gR 9 8 σ a0).bind fun a3 =>
  bo 9 σ a0 (fX9_ruling σ a0) (fun q4 t5 =>
  bo 7 t5 a3 (fX7_hidden t5 a3 q4) (fun x6 t7 =>
  bd (fJ6_bitCount_0f7a4 t7 x6) (fun x8 t9 =>
  bo 5 t9 a1 (fX5_write t9 a1 a2 x8) (fun w10 t11 =>
  (gR 9 8 t11 a0).bind fun a12 =>
  (gI 7 4 t11 a12).bind fun x13 =>
  jo1 (fun (t14 : St) =>
    (gR 9 8 t14 a0).bind fun a16 =>
    (gI 7 5 t14 a16).bind fun x17 =>
    jo1 (fun (t18 : St) =>
      (gR 9 8 t18 a0).bind fun a20 =>
      (gI 7 6 t18 a20).bind fun x21 =>
      (pV 7 6 t18 a20 (.int (x21 + 1))).bind (fun t22 =>
      some ((), t22))) (fun j19 =>
      if 999 ≤ x17 then
        j19 t14
      else
        (gR 9 8 t14 a0).bind fun a23 =>
        (gI 7 5 t14 a23).bind fun x24 =>
        (pV 7 5 t14 a23 (.int (x24 + 1))).bind (fun t25 =>
        j19 t25))) (fun j15 =>
    if x13 ≤ 0 then
      j15 t11
    else
      (gR 9 8 t11 a0).bind fun a26 =>
      (gI 7 4 t11 a26).bind fun x27 =>
      (pV 7 4 t11 a26 (.int (x27 - 1))).bind (fun t28 =>
      j15 t28))))))
set_option maxHeartbeats 4000000 in
set_option maxRecDepth 100000 in
theorem gX9_passHour (σ : St) (a0 : Nat) : CE vU mX9_passHour [.ref a0] σ (fX9_passHour σ a0) := by
  refine CE.ofGEF (lv := [(0, .ref a0)]) (by decide +kernel) (Nat.le_of_ble_eq_true rfl) rfl ?_
  unfold fX9_passHour
  refine GE.aload_n 0 dX9_passHour_0 rfl rfl ?_
  refine GE.gR dX9_passHour_1 lF_X9_68 (fun a1 => ?_)
  refine GE.aload_n 0 dX9_passHour_4 rfl rfl ?_
  refine GE.gR dX9_passHour_5 lF_X9_55 (fun a2 => ?_)
  refine GE.aload_n 0 dX9_passHour_8 rfl rfl ?_
  refine GE.gR dX9_passHour_9 lF_X9_55 (fun a3 => ?_)
  refine GE.aload_n 0 dX9_passHour_12 rfl rfl ?_
  refine GE.callvQ [] dX9_passHour_13 (lV_X9_179) rfl ⟨rfl, rfl⟩ (rokb rfl) (gX9_ruling σ a0) (fun q4 t5 => ?_)
  refine GE.callvI [va_rf q4] dX9_passHour_16 (lV_X9_209) rfl ⟨rfl, rfl⟩ (rokb rfl) (gX7_hidden t5 a3 q4) (fun x6 t7 => ?_)
  refine GE.callsI [.int x6] dX9_passHour_19 (lT_X9_192) rfl ⟨rfl, rfl⟩ (rokb rfl) (gJ6_bitCount_0f7a4 t7 x6) (fun x8 t9 => ?_)
  refine GE.callvU [.ref a2, .int x8] dX9_passHour_22 (lV_X9_213) rfl ⟨rfl, rfl⟩ (rokb rfl) (gX5_write t9 a1 a2 x8) (fun w10 t11 => ?_)
  refine GE.aload_n 0 dX9_passHour_25 rfl rfl ?_
  refine GE.gR dX9_passHour_26 lF_X9_55 (fun a12 => ?_)
  refine GE.gI dX9_passHour_29 lF_X9_150 (fun x13 => ?_)
  refine GE.jo1 48 (fun (t14 : St) => [(0, .ref a0)]) (fun (t14 : St) => []) (fun (t14 : St) => t14) (fun t14 => ?_) (fun j15 hj15 => ?_)
  · refine GE.aload_n 0 dX9_passHour_48 rfl rfl ?_
    refine GE.gR dX9_passHour_49 lF_X9_55 (fun a16 => ?_)
    refine GE.gI dX9_passHour_52 lF_X9_147 (fun x17 => ?_)
    refine GE.sipush dX9_passHour_55 kS_999 ?_
    refine GE.jo1 74 (fun (t18 : St) => [(0, .ref a0)]) (fun (t18 : St) => []) (fun (t18 : St) => t18) (fun t18 => ?_) (fun j19 hj19 => ?_)
    · refine GE.aload_n 0 dX9_passHour_74 rfl rfl ?_
      refine GE.gR dX9_passHour_75 lF_X9_55 (fun a20 => ?_)
      refine GE.dup dX9_passHour_78 rfl ?_
      refine GE.gI dX9_passHour_79 lF_X9_200 (fun x21 => ?_)
      refine GE.iconst dX9_passHour_82 kI_1 ?_
      refine GE.iadd dX9_passHour_83 ?_
      refine GE.pI dX9_passHour_84 lF_X9_200 (fun t22 => ?_)
      exact GE.vret (x := ()) dX9_passHour_87 rfl (Nat.le_refl _) (Nat.le_refl _)
    · refine GE.icmp_ge (tgt := 74) dX9_passHour_58 (by decide) ?_ ?_
      · exact hj19 t14
      · refine GE.aload_n 0 dX9_passHour_61 rfl rfl ?_
        refine GE.gR dX9_passHour_62 lF_X9_55 (fun a23 => ?_)
        refine GE.dup dX9_passHour_65 rfl ?_
        refine GE.gI dX9_passHour_66 lF_X9_147 (fun x24 => ?_)
        refine GE.iconst dX9_passHour_69 kI_1 ?_
        refine GE.iadd dX9_passHour_70 ?_
        refine GE.pI dX9_passHour_71 lF_X9_147 (fun t25 => ?_)
        exact hj19 t25
  · refine GE.if_le (tgt := 48) dX9_passHour_32 (by decide) ?_ ?_
    · exact hj15 t11
    · refine GE.aload_n 0 dX9_passHour_35 rfl rfl ?_
      refine GE.gR dX9_passHour_36 lF_X9_55 (fun a26 => ?_)
      refine GE.dup dX9_passHour_39 rfl ?_
      refine GE.gI dX9_passHour_40 lF_X9_150 (fun x27 => ?_)
      refine GE.iconst dX9_passHour_43 kI_1 ?_
      refine GE.isub dX9_passHour_44 ?_
      refine GE.pI dX9_passHour_45 lF_X9_150 (fun t28 => ?_)
      exact hj15 t28
def fX9_hours (σ : St) (a0 : Nat) (px1 : Int32) : Option (Int32 × St) :=
  bo 9 σ a0 (fX9_noLand σ a0) (fun x1 t2 =>
  if x1 = 0 then
    jo1 (fun (u2 : Unit) =>
      bo 9 t2 a0 (fX9_refuse t2 a0 1) (fun x4 t5 =>
      some (x4, t5))) (fun j3 =>
      if px1 < 1 then
        j3 () 
      else
        if px1 ≤ 60 then
          (gR 9 8 t2 a0).bind fun a6 =>
          (gI 7 6 t2 a6).bind fun x7 =>
          if x7 + px1 ≤ 9999 then
            lo2 (fun l10 (x8 : Int32) (t9 : St) =>
              if px1 ≤ x8 then
              (gR 9 8 t9 a0).bind fun a11 =>
              (gI 7 6 t9 a11).bind fun x12 =>
              some (x12, t9)
            else
              (gR 9 11 t9 a0).bind fun a13 =>
              (gR 9 8 t9 a0).bind fun a14 =>
              bo 5 t9 a13 (fX5_keep t9 a13 a14) (fun w15 t16 =>
              bo 9 t16 a0 (fX9_passHour t16 a0) (fun w17 t18 =>
              l10 (x8 + 1) t18))) FU 0 t2
          else
            bo 9 t2 a0 (fX9_refuse t2 a0 4) (fun x19 t20 =>
            some (x19, t20))
        else
          j3 () )
  else
    bo 9 t2 a0 (fX9_refuse t2 a0 0) (fun x21 t22 =>
    some (x21, t22)))
set_option maxHeartbeats 4000000 in
set_option maxRecDepth 100000 in
theorem gX9_hours (σ : St) (a0 : Nat) (px1 : Int32) : CE vI mX9_hours [.ref a0, .int px1] σ (fX9_hours σ a0 px1) := by
  refine CE.ofGEF (lv := [(0, .ref a0), (1, .int px1)]) (by decide +kernel) (Nat.le_of_ble_eq_true rfl) rfl ?_
  unfold fX9_hours
  refine GE.aload_n 0 dX9_hours_0 rfl rfl ?_
  refine GE.callvI [] dX9_hours_1 (lV_X9_137) rfl ⟨rfl, rfl⟩ (rokb rfl) (gX9_noLand σ a0) (fun x1 t2 => ?_)
  refine GE.if_eq (tgt := 13) dX9_hours_4 (by decide) ?_ ?_
  · refine GE.iload_n 1 dX9_hours_13 rfl rfl ?_
    refine GE.iconst dX9_hours_14 kI_1 ?_
    refine GE.jo1 24 (fun (u2 : Unit) => [(0, .ref a0)]) (fun (u2 : Unit) => []) (fun (u2 : Unit) => t2) (fun u2 => ?_) (fun j3 hj3 => ?_)
    · refine GE.aload_n 0 dX9_hours_24 rfl rfl ?_
      refine GE.iconst dX9_hours_25 kI_1 ?_
      refine GE.callvI [.int 1] dX9_hours_26 (lV_X9_197) rfl ⟨rfl, rfl⟩ (rokb rfl) (gX9_refuse t2 a0 1) (fun x4 t5 => ?_)
      exact GE.iret dX9_hours_29 rfl (Nat.le_refl _) (Nat.le_refl _)
    · refine GE.icmp_lt (tgt := 24) dX9_hours_15 (by decide) ?_ ?_
      · exact GE.sub [0] rfl (hj3 () )
      · refine GE.iload_n 1 dX9_hours_18 rfl rfl ?_
        refine GE.bipush dX9_hours_19 kB_60 ?_
        refine GE.icmp_le (tgt := 30) dX9_hours_21 (by decide) ?_ ?_
        · refine GE.aload_n 0 dX9_hours_30 rfl rfl ?_
          refine GE.gR dX9_hours_31 lF_X9_55 (fun a6 => ?_)
          refine GE.gI dX9_hours_34 lF_X9_200 (fun x7 => ?_)
          refine GE.iload_n 1 dX9_hours_37 rfl rfl ?_
          refine GE.iadd dX9_hours_38 ?_
          refine GE.sipush dX9_hours_39 kS_9999 ?_
          refine GE.icmp_le (tgt := 51) dX9_hours_42 (by decide) ?_ ?_
          · refine GE.iconst dX9_hours_51 kI_0 ?_
            refine GE.istore_n (lv' := [(0, .ref a0), (1, .int px1), (2, .int 0)]) dX9_hours_52 rfl (by decide) [1, 2, 0] rfl ?_
            refine (GE.lo2 (fun (x8 : Int32) (t9 : St) => [(0, .ref a0), (1, .int px1), (2, .int x8)]) (fun (x8 : Int32) (t9 : St) => []) (fun (x8 : Int32) (t9 : St) => t9) (fun l10 hl10 x8 t9 => ?_) FU 0 t2)
            refine GE.iload_n 2 dX9_hours_53 rfl rfl ?_
            refine GE.iload_n 1 dX9_hours_54 rfl rfl ?_
            refine GE.icmp_ge (tgt := 79) dX9_hours_55 (by decide) ?_ ?_
            · refine GE.aload_n 0 dX9_hours_79 rfl rfl ?_
              refine GE.gR dX9_hours_80 lF_X9_55 (fun a11 => ?_)
              refine GE.gI dX9_hours_83 lF_X9_200 (fun x12 => ?_)
              exact GE.iret dX9_hours_86 rfl (Nat.le_refl _) (Nat.le_refl _)
            · refine GE.aload_n 0 dX9_hours_58 rfl rfl ?_
              refine GE.gR dX9_hours_59 lF_X9_68 (fun a13 => ?_)
              refine GE.aload_n 0 dX9_hours_62 rfl rfl ?_
              refine GE.gR dX9_hours_63 lF_X9_55 (fun a14 => ?_)
              refine GE.callvU [.ref a14] dX9_hours_66 (lV_X9_203) rfl ⟨rfl, rfl⟩ (rokb rfl) (gX5_keep t9 a13 a14) (fun w15 t16 => ?_)
              refine GE.aload_n 0 dX9_hours_69 rfl rfl ?_
              refine GE.callvU [] dX9_hours_70 (lV_X9_206) rfl ⟨rfl, rfl⟩ (rokb rfl) (gX9_passHour t16 a0) (fun w17 t18 => ?_)
              refine GE.iinc (lv' := [(0, .ref a0), (1, .int px1), (2, .int (x8 + 1))]) 2 dX9_hours_73 rfl kI_1 (by decide) [1, 2, 0] rfl ?_
              refine GE.goto (tgt := 53) dX9_hours_76 (by decide) ?_
              exact hl10 (x8 + 1) t18
          · refine GE.aload_n 0 dX9_hours_45 rfl rfl ?_
            refine GE.iconst dX9_hours_46 kI_4 ?_
            refine GE.callvI [.int 4] dX9_hours_47 (lV_X9_197) rfl ⟨rfl, rfl⟩ (rokb rfl) (gX9_refuse t2 a0 4) (fun x19 t20 => ?_)
            exact GE.iret dX9_hours_50 rfl (Nat.le_refl _) (Nat.le_refl _)
        · exact GE.sub [0] rfl (hj3 () )
  · refine GE.aload_n 0 dX9_hours_7 rfl rfl ?_
    refine GE.iconst dX9_hours_8 kI_0 ?_
    refine GE.callvI [.int 0] dX9_hours_9 (lV_X9_197) rfl ⟨rfl, rfl⟩ (rokb rfl) (gX9_refuse t2 a0 0) (fun x21 t22 => ?_)
    exact GE.iret dX9_hours_12 rfl (Nat.le_refl _) (Nat.le_refl _)
def fX5_draw (σ : St) (a0 : Nat) (pa1 : Nat) : Option (Unit × St) :=
  (gR 5 5 σ a0).bind fun a1 =>
  bo 7 σ pa1 (fX7_save σ pa1 a1 0) (fun w2 t3 =>
  (gR 5 3 t3 a0).bind fun a4 =>
  (gR 5 4 t3 a0).bind fun a5 =>
  (cpr t3 a4 0 a5 0 128).bind (fun t6 =>
  if zB 1 = true then (pV 5 6 t6 a0 (.int 1)).bind (fun t7 =>
  some ((), t7)) else none))
set_option maxHeartbeats 4000000 in
set_option maxRecDepth 100000 in
theorem gX5_draw (σ : St) (a0 : Nat) (pa1 : Nat) : CE vU mX5_draw [.ref a0, .ref pa1] σ (fX5_draw σ a0 pa1) := by
  refine CE.ofGEF (lv := [(0, .ref a0), (1, .ref pa1)]) (by decide +kernel) (Nat.le_of_ble_eq_true rfl) rfl ?_
  unfold fX5_draw
  refine GE.aload_n 1 dX5_draw_0 rfl rfl ?_
  refine GE.aload_n 0 dX5_draw_1 rfl rfl ?_
  refine GE.gR dX5_draw_2 lF_X5_30 (fun a1 => ?_)
  refine GE.iconst dX5_draw_5 kI_0 ?_
  refine GE.callvU [.ref a1, .int 0] dX5_draw_6 (lV_X5_37) rfl ⟨rfl, rfl⟩ (rokb rfl) (gX7_save σ pa1 a1 0) (fun w2 t3 => ?_)
  refine GE.aload_n 0 dX5_draw_9 rfl rfl ?_
  refine GE.gR dX5_draw_10 lF_X5_24 (fun a4 => ?_)
  refine GE.iconst dX5_draw_13 kI_0 ?_
  refine GE.aload_n 0 dX5_draw_14 rfl rfl ?_
  refine GE.gR dX5_draw_15 lF_X5_27 (fun a5 => ?_)
  refine GE.iconst dX5_draw_18 kI_0 ?_
  refine GE.sipush dX5_draw_19 kS_128 ?_
  refine GE.cpr dX5_draw_22 lC_X5_63 (Nat.le_of_ble_eq_true rfl) (Nat.le_of_ble_eq_true rfl) (fun t6 => ?_)
  refine GE.aload_n 0 dX5_draw_25 rfl rfl ?_
  refine GE.iconst dX5_draw_26 kI_1 ?_
  refine GE.pZ dX5_draw_27 lF_X5_33 (fun t7 => ?_)
  exact GE.vret (x := ()) dX5_draw_30 rfl (Nat.le_refl _) (Nat.le_refl _)
def fX9_image (σ : St) (a0 : Nat) : Option (Int32 × St) :=
  bo 9 σ a0 (fX9_noLand σ a0) (fun x1 t2 =>
  if x1 = 0 then
    (gR 9 11 t2 a0).bind fun a3 =>
    (gR 9 8 t2 a0).bind fun a4 =>
    bo 5 t2 a3 (fX5_draw t2 a3 a4) (fun w5 t6 =>
    (gR 9 8 t6 a0).bind fun a7 =>
    (gI 7 6 t6 a7).bind fun x8 =>
    some (x8, t6))
  else
    some ((-1), t2))
set_option maxHeartbeats 4000000 in
set_option maxRecDepth 100000 in
theorem gX9_image (σ : St) (a0 : Nat) : CE vI mX9_image [.ref a0] σ (fX9_image σ a0) := by
  refine CE.ofGEF (lv := [(0, .ref a0)]) (by decide +kernel) (Nat.le_of_ble_eq_true rfl) rfl ?_
  unfold fX9_image
  refine GE.aload_n 0 dX9_image_0 rfl rfl ?_
  refine GE.callvI [] dX9_image_1 (lV_X9_137) rfl ⟨rfl, rfl⟩ (rokb rfl) (gX9_noLand σ a0) (fun x1 t2 => ?_)
  refine GE.if_eq (tgt := 9) dX9_image_4 (by decide) ?_ ?_
  · refine GE.aload_n 0 dX9_image_9 rfl rfl ?_
    refine GE.gR dX9_image_10 lF_X9_68 (fun a3 => ?_)
    refine GE.aload_n 0 dX9_image_13 rfl rfl ?_
    refine GE.gR dX9_image_14 lF_X9_55 (fun a4 => ?_)
    refine GE.callvU [.ref a4] dX9_image_17 (lV_X9_250) rfl ⟨rfl, rfl⟩ (rokb rfl) (gX5_draw t2 a3 a4) (fun w5 t6 => ?_)
    refine GE.aload_n 0 dX9_image_20 rfl rfl ?_
    refine GE.gR dX9_image_21 lF_X9_55 (fun a7 => ?_)
    refine GE.gI dX9_image_24 lF_X9_200 (fun x8 => ?_)
    exact GE.iret dX9_image_27 rfl (Nat.le_refl _) (Nat.le_refl _)
  · refine GE.iconst dX9_image_7 kI_m1 ?_
    exact GE.iret dX9_image_8 rfl (Nat.le_refl _) (Nat.le_refl _)
def fX9_law (σ : St) (a0 : Nat) (px1 : Int32) : Option (Int32 × St) :=
  if px1 < (-1) then
    some (0, σ)
  else
    (gI 9 4 σ a0).bind fun x1 =>
    if px1 < x1 then
      (pV 9 5 σ a0 (.int px1)).bind (fun t2 =>
      some (1, t2))
    else
      some (0, σ)
set_option maxHeartbeats 4000000 in
set_option maxRecDepth 100000 in
theorem gX9_law (σ : St) (a0 : Nat) (px1 : Int32) : CE vI mX9_law [.ref a0, .int px1] σ (fX9_law σ a0 px1) := by
  refine CE.ofGEF (lv := [(0, .ref a0), (1, .int px1)]) (by decide +kernel) (Nat.le_of_ble_eq_true rfl) rfl ?_
  unfold fX9_law
  refine GE.iload_n 1 dX9_law_0 rfl rfl ?_
  refine GE.iconst dX9_law_1 kI_m1 ?_
  refine GE.icmp_lt (tgt := 13) dX9_law_2 (by decide) ?_ ?_
  · refine GE.iconst dX9_law_13 kI_0 ?_
    exact GE.zretk dX9_law_14 rfl (Nat.le_refl _) (Nat.le_refl _) (by decide)
  · refine GE.iload_n 1 dX9_law_5 rfl rfl ?_
    refine GE.aload_n 0 dX9_law_6 rfl rfl ?_
    refine GE.gI dX9_law_7 lF_X9_38 (fun x1 => ?_)
    refine GE.icmp_lt (tgt := 15) dX9_law_10 (by decide) ?_ ?_
    · refine GE.aload_n 0 dX9_law_15 rfl rfl ?_
      refine GE.iload_n 1 dX9_law_16 rfl rfl ?_
      refine GE.pI dX9_law_17 lF_X9_42 (fun t2 => ?_)
      refine GE.iconst dX9_law_20 kI_1 ?_
      exact GE.zretk dX9_law_21 rfl (Nat.le_refl _) (Nat.le_refl _) (by decide)
    · refine GE.iconst dX9_law_13 kI_0 ?_
      exact GE.zretk dX9_law_14 rfl (Nat.le_refl _) (Nat.le_refl _) (by decide)
def fX5_read (σ : St) (a0 : Nat) (pa1 : Nat) (px2 : Int32) (px3 : Int32) : Option (Int32 × St) :=
  if px2 < 0 then
    some ((-1), σ)
  else
    bd (fX5_logLength σ pa1) (fun x1 t2 =>
    if px2 < x1 then
      (gR 5 3 t2 a0).bind fun a3 =>
      (gI 7 8 t2 pa1).bind fun x4 =>
      if 128 = 0 then none else
      (aI 0 t2 a3 (((x4 - 1) - px2) - ((x4 - 1) - px2) / 128 * 128)).bind fun x5 =>
      tbs px3 0 [some (x5 >>> (8 &&& 31), t2),
        some ((x5 >>> (4 &&& 31)) &&& 15, t2),
        some (x5 &&& 15, t2)] (some ((-1), t2))
    else
      some ((-1), t2))
set_option maxHeartbeats 4000000 in
set_option maxRecDepth 100000 in
theorem gX5_read (σ : St) (a0 : Nat) (pa1 : Nat) (px2 : Int32) (px3 : Int32) : CE vI mX5_read [.ref a0, .ref pa1, .int px2, .int px3] σ (fX5_read σ a0 pa1 px2 px3) := by
  refine CE.ofGEF (lv := [(0, .ref a0), (1, .ref pa1), (2, .int px2), (3, .int px3)]) (by decide +kernel) (Nat.le_of_ble_eq_true rfl) rfl ?_
  unfold fX5_read
  refine GE.iload_n 2 dX5_read_0 rfl rfl ?_
  refine GE.if_lt (tgt := 12) dX5_read_1 (by decide) ?_ ?_
  · refine GE.iconst dX5_read_12 kI_m1 ?_
    exact GE.iret dX5_read_13 rfl (Nat.le_refl _) (Nat.le_refl _)
  · refine GE.iload_n 2 dX5_read_4 rfl rfl ?_
    refine GE.aload_n 1 dX5_read_5 rfl rfl ?_
    refine GE.callsI [.ref pa1] dX5_read_6 (lT_X5_59) rfl ⟨rfl, rfl⟩ (rokb rfl) (gX5_logLength σ pa1) (fun x1 t2 => ?_)
    refine GE.icmp_lt (tgt := 14) dX5_read_9 (by decide) ?_ ?_
    · refine GE.aload_n 0 dX5_read_14 rfl rfl ?_
      refine GE.gR dX5_read_15 lF_X5_24 (fun a3 => ?_)
      refine GE.aload_n 1 dX5_read_18 rfl rfl ?_
      refine GE.gI dX5_read_19 lF_X5_50 (fun x4 => ?_)
      refine GE.iconst dX5_read_22 kI_1 ?_
      refine GE.isub dX5_read_23 ?_
      refine GE.iload_n 2 dX5_read_24 rfl rfl ?_
      refine GE.isub dX5_read_25 ?_
      refine GE.sipush dX5_read_26 kS_128 ?_
      refine GE.irem dX5_read_29 ?_
      refine GE.iald dX5_read_30 (fun x5 => ?_)
      refine GE.istore (lv' := [(0, .ref a0), (1, .ref pa1), (2, .int px2), (3, .int px3), (4, .int x5)]) dX5_read_31 (by decide) [1, 2, 3, 4, 0] rfl ?_
      refine GE.iload_n 3 dX5_read_33 rfl rfl ?_
      refine GE.tsw (tgd := 80) dX5_read_34 rfl rfl (by decide) ?_ ?_
      · refine GE.iconst dX5_read_80 kI_m1 ?_
        exact GE.iret dX5_read_81 rfl (Nat.le_refl _) (Nat.le_refl _)
      · intro j9 E9 o9 hE9 ho9
        match j9, hE9, ho9 with
        | 0, hE9, ho9 =>
          cases hE9; cases ho9
          refine ⟨60, by decide, ?_⟩
          refine GE.iload 4 dX5_read_60 rfl ?_
          refine GE.bipush dX5_read_62 kB_8 ?_
          refine GE.ishr dX5_read_64 ?_
          exact GE.iret dX5_read_65 rfl (Nat.le_refl _) (Nat.le_refl _)
        | 1, hE9, ho9 =>
          cases hE9; cases ho9
          refine ⟨66, by decide, ?_⟩
          refine GE.iload 4 dX5_read_66 rfl ?_
          refine GE.iconst dX5_read_68 kI_4 ?_
          refine GE.ishr dX5_read_69 ?_
          refine GE.bipush dX5_read_70 kB_15 ?_
          refine GE.iand dX5_read_72 ?_
          exact GE.iret dX5_read_73 rfl (Nat.le_refl _) (Nat.le_refl _)
        | 2, hE9, ho9 =>
          cases hE9; cases ho9
          refine ⟨74, by decide, ?_⟩
          refine GE.iload 4 dX5_read_74 rfl ?_
          refine GE.bipush dX5_read_76 kB_15 ?_
          refine GE.iand dX5_read_78 ?_
          exact GE.iret dX5_read_79 rfl (Nat.le_refl _) (Nat.le_refl _)
        | j9 + 3, hE9, ho9 => cases hE9
    · refine GE.iconst dX5_read_12 kI_m1 ?_
      exact GE.iret dX5_read_13 rfl (Nat.le_refl _) (Nat.le_refl _)
def fX9_log (σ : St) (a0 : Nat) (px1 : Int32) (px2 : Int32) : Option (Int32 × St) :=
  (gR 9 11 σ a0).bind fun a1 =>
  (gR 9 8 σ a0).bind fun a2 =>
  bo 5 σ a1 (fX5_read σ a1 a2 px1 px2) (fun x3 t4 =>
  some (x3, t4))
set_option maxHeartbeats 4000000 in
set_option maxRecDepth 100000 in
theorem gX9_log (σ : St) (a0 : Nat) (px1 : Int32) (px2 : Int32) : CE vI mX9_log [.ref a0, .int px1, .int px2] σ (fX9_log σ a0 px1 px2) := by
  refine CE.ofGEF (lv := [(0, .ref a0), (1, .int px1), (2, .int px2)]) (by decide +kernel) (Nat.le_of_ble_eq_true rfl) rfl ?_
  unfold fX9_log
  refine GE.aload_n 0 dX9_log_0 rfl rfl ?_
  refine GE.gR dX9_log_1 lF_X9_68 (fun a1 => ?_)
  refine GE.aload_n 0 dX9_log_4 rfl rfl ?_
  refine GE.gR dX9_log_5 lF_X9_55 (fun a2 => ?_)
  refine GE.iload_n 1 dX9_log_8 rfl rfl ?_
  refine GE.iload_n 2 dX9_log_9 rfl rfl ?_
  refine GE.callvI [.ref a2, .int px1, .int px2] dX9_log_10 (lV_X9_247) rfl ⟨rfl, rfl⟩ (rokb rfl) (gX5_read σ a1 a2 px1 px2) (fun x3 t4 => ?_)
  exact GE.iret dX9_log_13 rfl (Nat.le_refl _) (Nat.le_refl _)
def fX9_map (σ : St) (a0 : Nat) (px1 : Int32) (px2 : Int32) : Option (Int32 × St) :=
  (gR 9 8 σ a0).bind fun a1 =>
  bo 7 σ a1 (fX7_hasTower σ a1 px1) (fun x2 t3 =>
  if x2 = 0 then
    some ((-1), t3)
  else
    (gR 9 8 t3 a0).bind fun a4 =>
    bo 9 t3 a0 (fX9_ruling t3 a0) (fun q5 t6 =>
    bo 7 t6 a4 (fX7_sight t6 a4 px1 q5) (fun x7 t8 =>
    (gR 9 8 t8 a0).bind fun a9 =>
    bo 7 t8 a9 (fX7_allCells t8 a9) (fun x10 t11 =>
    nam (x10 &&& (x7 ^^^ ((-1))) : Int32) (fun x12 =>
    tbs px2 0 [some (x12, t11),
      (gR 9 8 t11 a0).bind fun a13 =>
        (gI 7 7 t11 a13).bind fun x14 =>
        if (x14 >>> (px1 &&& 31)) &&& 1 = 1 then
          some (x7, t11)
        else
          some (x12, t11),
      (gR 9 8 t11 a0).bind fun a15 =>
        (gR 9 8 t11 a0).bind fun a16 =>
        bo 7 t11 a16 (fX7_allTowers t11 a16) (fun x17 t18 =>
        bo 9 t18 a0 (fX9_ruling t18 a0) (fun q19 t20 =>
        bo 7 t20 a15 (fX7_unionOfSights t20 a15 (x17 &&& ((1 <<< (px1 &&& 31)) ^^^ ((-1)))) q19) (fun x21 t22 =>
        some (x7 &&& (x21 ^^^ ((-1))), t22))))] (some ((-1), t11)))))))
set_option maxHeartbeats 4000000 in
set_option maxRecDepth 100000 in
theorem gX9_map (σ : St) (a0 : Nat) (px1 : Int32) (px2 : Int32) : CE vI mX9_map [.ref a0, .int px1, .int px2] σ (fX9_map σ a0 px1 px2) := by
  refine CE.ofGEF (lv := [(0, .ref a0), (1, .int px1), (2, .int px2)]) (by decide +kernel) (Nat.le_of_ble_eq_true rfl) rfl ?_
  unfold fX9_map
  refine GE.aload_n 0 dX9_map_0 rfl rfl ?_
  refine GE.gR dX9_map_1 lF_X9_55 (fun a1 => ?_)
  refine GE.iload_n 1 dX9_map_4 rfl rfl ?_
  refine GE.callvI [.int px1] dX9_map_5 (lV_X9_160) rfl ⟨rfl, rfl⟩ (rokb rfl) (gX7_hasTower σ a1 px1) (fun x2 t3 => ?_)
  refine GE.if_ne (tgt := 13) dX9_map_8 (by decide) ?_ ?_
  · refine GE.aload_n 0 dX9_map_13 rfl rfl ?_
    refine GE.gR dX9_map_14 lF_X9_55 (fun a4 => ?_)
    refine GE.iload_n 1 dX9_map_17 rfl rfl ?_
    refine GE.aload_n 0 dX9_map_18 rfl rfl ?_
    refine GE.callvQ [] dX9_map_19 (lV_X9_179) rfl ⟨rfl, rfl⟩ (rokb rfl) (gX9_ruling t3 a0) (fun q5 t6 => ?_)
    refine GE.callvI [.int px1, va_rf q5] dX9_map_22 (lV_X9_189) rfl ⟨rfl, rfl⟩ (rokb rfl) (gX7_sight t6 a4 px1 q5) (fun x7 t8 => ?_)
    refine GE.istore_n (lv' := [(0, .ref a0), (1, .int px1), (2, .int px2), (3, .int x7)]) dX9_map_25 rfl (by decide) [1, 2, 3, 0] rfl ?_
    refine GE.aload_n 0 dX9_map_26 rfl rfl ?_
    refine GE.gR dX9_map_27 lF_X9_55 (fun a9 => ?_)
    refine GE.callvI [] dX9_map_30 (lV_X9_260) rfl ⟨rfl, rfl⟩ (rokb rfl) (gX7_allCells t8 a9) (fun x10 t11 => ?_)
    refine GE.iload_n 3 dX9_map_33 rfl rfl ?_
    refine GE.iconst dX9_map_34 kI_m1 ?_
    refine GE.ixor dX9_map_35 ?_
    refine GE.iand dX9_map_36 ?_
    refine GE.nami (fun x12 => ?_)
    refine GE.istore (lv' := [(0, .ref a0), (1, .int px1), (2, .int px2), (3, .int x7), (4, .int x12)]) dX9_map_37 (by decide) [1, 2, 3, 4, 0] rfl ?_
    refine GE.iload_n 2 dX9_map_39 rfl rfl ?_
    refine GE.tsw (tgd := 122) dX9_map_40 rfl rfl (by decide) ?_ ?_
    · refine GE.iconst dX9_map_122 kI_m1 ?_
      exact GE.iret dX9_map_123 rfl (Nat.le_refl _) (Nat.le_refl _)
    · intro j9 E9 o9 hE9 ho9
      match j9, hE9, ho9 with
      | 0, hE9, ho9 =>
        cases hE9; cases ho9
        refine ⟨68, by decide, ?_⟩
        refine GE.iload 4 dX9_map_68 rfl ?_
        exact GE.iret dX9_map_70 rfl (Nat.le_refl _) (Nat.le_refl _)
      | 1, hE9, ho9 =>
        cases hE9; cases ho9
        refine ⟨71, by decide, ?_⟩
        refine GE.aload_n 0 dX9_map_71 rfl rfl ?_
        refine GE.gR dX9_map_72 lF_X9_55 (fun a13 => ?_)
        refine GE.gI dX9_map_75 lF_X9_186 (fun x14 => ?_)
        refine GE.iload_n 1 dX9_map_78 rfl rfl ?_
        refine GE.ishr dX9_map_79 ?_
        refine GE.iconst dX9_map_80 kI_1 ?_
        refine GE.iand dX9_map_81 ?_
        refine GE.iconst dX9_map_82 kI_1 ?_
        refine GE.icmp_ne (tgt := 90) dX9_map_83 (by decide) ?_ ?_
        · refine GE.iload 4 dX9_map_90 rfl ?_
          exact GE.iret dX9_map_92 rfl (Nat.le_refl _) (Nat.le_refl _)
        · refine GE.iload_n 3 dX9_map_86 rfl rfl ?_
          refine GE.goto (tgt := 92) dX9_map_87 (by decide) ?_
          exact GE.iret dX9_map_92 rfl (Nat.le_refl _) (Nat.le_refl _)
      | 2, hE9, ho9 =>
        cases hE9; cases ho9
        refine ⟨93, by decide, ?_⟩
        refine GE.iload_n 3 dX9_map_93 rfl rfl ?_
        refine GE.aload_n 0 dX9_map_94 rfl rfl ?_
        refine GE.gR dX9_map_95 lF_X9_55 (fun a15 => ?_)
        refine GE.aload_n 0 dX9_map_98 rfl rfl ?_
        refine GE.gR dX9_map_99 lF_X9_55 (fun a16 => ?_)
        refine GE.callvI [] dX9_map_102 (lV_X9_263) rfl ⟨rfl, rfl⟩ (rokb rfl) (gX7_allTowers t11 a16) (fun x17 t18 => ?_)
        refine GE.iconst dX9_map_105 kI_1 ?_
        refine GE.iload_n 1 dX9_map_106 rfl rfl ?_
        refine GE.ishl dX9_map_107 ?_
        refine GE.iconst dX9_map_108 kI_m1 ?_
        refine GE.ixor dX9_map_109 ?_
        refine GE.iand dX9_map_110 ?_
        refine GE.aload_n 0 dX9_map_111 rfl rfl ?_
        refine GE.callvQ [] dX9_map_112 (lV_X9_179) rfl ⟨rfl, rfl⟩ (rokb rfl) (gX9_ruling t18 a0) (fun q19 t20 => ?_)
        refine GE.callvI [.int (x17 &&& ((1 <<< (px1 &&& 31)) ^^^ ((-1)))), va_rf q19] dX9_map_115 (lV_X9_266) rfl ⟨rfl, rfl⟩ (rokb rfl) (gX7_unionOfSights t20 a15 (x17 &&& ((1 <<< (px1 &&& 31)) ^^^ ((-1)))) q19) (fun x21 t22 => ?_)
        refine GE.iconst dX9_map_118 kI_m1 ?_
        refine GE.ixor dX9_map_119 ?_
        refine GE.iand dX9_map_120 ?_
        exact GE.iret dX9_map_121 rfl (Nat.le_refl _) (Nat.le_refl _)
      | j9 + 3, hE9, ho9 => cases hE9
  · refine GE.iconst dX9_map_11 kI_m1 ?_
    exact GE.iret dX9_map_12 rfl (Nat.le_refl _) (Nat.le_refl _)
def fX9_mast (σ : St) (a0 : Nat) (px1 : Int32) : Option (Int32 × St) :=
  (gR 9 8 σ a0).bind fun a1 =>
  bo 7 σ a1 (fX7_hasTower σ a1 px1) (fun x2 t3 =>
  if x2 = 0 then
    bo 9 t3 a0 (fX9_refuse t3 a0 0) (fun x27 t28 =>
    some (x27, t28))
  else
    (gR 9 8 t3 a0).bind fun a4 =>
    (gR 7 11 t3 a4).bind fun a5 =>
    (aI 0 t3 a5 px1).bind fun x6 =>
    if x6 < 9 then
      (gR 9 8 t3 a0).bind fun a7 =>
      (gI 7 5 t3 a7).bind fun x8 =>
      if 2 ≤ x8 then
        (gR 9 11 t3 a0).bind fun a9 =>
        (gR 9 8 t3 a0).bind fun a10 =>
        bo 5 t3 a9 (fX5_keep t3 a9 a10) (fun w11 t12 =>
        (gR 9 8 t12 a0).bind fun a13 =>
        (gI 7 5 t12 a13).bind fun x14 =>
        (pV 7 5 t12 a13 (.int (x14 - 2))).bind (fun t15 =>
        (gR 9 8 t15 a0).bind fun a16 =>
        (gR 7 11 t15 a16).bind fun a17 =>
        (aI 0 t15 a17 px1).bind fun x18 =>
        (sI 0 t15 a17 px1 (x18 + 1)).bind (fun t19 =>
        (gR 9 8 t19 a0).bind fun a20 =>
        (gR 7 11 t19 a20).bind fun a21 =>
        (aI 0 t19 a21 px1).bind fun x22 =>
        some (x22, t19))))
      else
        bo 9 t3 a0 (fX9_refuse t3 a0 3) (fun x23 t24 =>
        some (x23, t24))
    else
      bo 9 t3 a0 (fX9_refuse t3 a0 2) (fun x25 t26 =>
      some (x25, t26)))
set_option maxHeartbeats 4000000 in
set_option maxRecDepth 100000 in
theorem gX9_mast (σ : St) (a0 : Nat) (px1 : Int32) : CE vI mX9_mast [.ref a0, .int px1] σ (fX9_mast σ a0 px1) := by
  refine CE.ofGEF (lv := [(0, .ref a0), (1, .int px1)]) (by decide +kernel) (Nat.le_of_ble_eq_true rfl) rfl ?_
  unfold fX9_mast
  refine GE.aload_n 0 dX9_mast_0 rfl rfl ?_
  refine GE.gR dX9_mast_1 lF_X9_55 (fun a1 => ?_)
  refine GE.iload_n 1 dX9_mast_4 rfl rfl ?_
  refine GE.callvI [.int px1] dX9_mast_5 (lV_X9_160) rfl ⟨rfl, rfl⟩ (rokb rfl) (gX7_hasTower σ a1 px1) (fun x2 t3 => ?_)
  refine GE.if_ne (tgt := 17) dX9_mast_8 (by decide) ?_ ?_
  · refine GE.aload_n 0 dX9_mast_17 rfl rfl ?_
    refine GE.gR dX9_mast_18 lF_X9_55 (fun a4 => ?_)
    refine GE.gR dX9_mast_21 lF_X9_173 (fun a5 => ?_)
    refine GE.iload_n 1 dX9_mast_24 rfl rfl ?_
    refine GE.iald dX9_mast_25 (fun x6 => ?_)
    refine GE.bipush dX9_mast_26 kB_9 ?_
    refine GE.icmp_lt (tgt := 37) dX9_mast_28 (by decide) ?_ ?_
    · refine GE.aload_n 0 dX9_mast_37 rfl rfl ?_
      refine GE.gR dX9_mast_38 lF_X9_55 (fun a7 => ?_)
      refine GE.gI dX9_mast_41 lF_X9_147 (fun x8 => ?_)
      refine GE.iconst dX9_mast_44 kI_2 ?_
      refine GE.icmp_ge (tgt := 54) dX9_mast_45 (by decide) ?_ ?_
      · refine GE.aload_n 0 dX9_mast_54 rfl rfl ?_
        refine GE.gR dX9_mast_55 lF_X9_68 (fun a9 => ?_)
        refine GE.aload_n 0 dX9_mast_58 rfl rfl ?_
        refine GE.gR dX9_mast_59 lF_X9_55 (fun a10 => ?_)
        refine GE.callvU [.ref a10] dX9_mast_62 (lV_X9_203) rfl ⟨rfl, rfl⟩ (rokb rfl) (gX5_keep t3 a9 a10) (fun w11 t12 => ?_)
        refine GE.aload_n 0 dX9_mast_65 rfl rfl ?_
        refine GE.gR dX9_mast_66 lF_X9_55 (fun a13 => ?_)
        refine GE.dup dX9_mast_69 rfl ?_
        refine GE.gI dX9_mast_70 lF_X9_147 (fun x14 => ?_)
        refine GE.iconst dX9_mast_73 kI_2 ?_
        refine GE.isub dX9_mast_74 ?_
        refine GE.pI dX9_mast_75 lF_X9_147 (fun t15 => ?_)
        refine GE.aload_n 0 dX9_mast_78 rfl rfl ?_
        refine GE.gR dX9_mast_79 lF_X9_55 (fun a16 => ?_)
        refine GE.gR dX9_mast_82 lF_X9_173 (fun a17 => ?_)
        refine GE.iload_n 1 dX9_mast_85 rfl rfl ?_
        refine GE.dup2 dX9_mast_86 rfl rfl ?_
        refine GE.iald dX9_mast_87 (fun x18 => ?_)
        refine GE.iconst dX9_mast_88 kI_1 ?_
        refine GE.iadd dX9_mast_89 ?_
        refine GE.iast dX9_mast_90 (fun t19 => ?_)
        refine GE.aload_n 0 dX9_mast_91 rfl rfl ?_
        refine GE.gR dX9_mast_92 lF_X9_55 (fun a20 => ?_)
        refine GE.gR dX9_mast_95 lF_X9_173 (fun a21 => ?_)
        refine GE.iload_n 1 dX9_mast_98 rfl rfl ?_
        refine GE.iald dX9_mast_99 (fun x22 => ?_)
        exact GE.iret dX9_mast_100 rfl (Nat.le_refl _) (Nat.le_refl _)
      · refine GE.aload_n 0 dX9_mast_48 rfl rfl ?_
        refine GE.iconst dX9_mast_49 kI_3 ?_
        refine GE.callvI [.int 3] dX9_mast_50 (lV_X9_197) rfl ⟨rfl, rfl⟩ (rokb rfl) (gX9_refuse t3 a0 3) (fun x23 t24 => ?_)
        exact GE.iret dX9_mast_53 rfl (Nat.le_refl _) (Nat.le_refl _)
    · refine GE.aload_n 0 dX9_mast_31 rfl rfl ?_
      refine GE.iconst dX9_mast_32 kI_2 ?_
      refine GE.callvI [.int 2] dX9_mast_33 (lV_X9_197) rfl ⟨rfl, rfl⟩ (rokb rfl) (gX9_refuse t3 a0 2) (fun x25 t26 => ?_)
      exact GE.iret dX9_mast_36 rfl (Nat.le_refl _) (Nat.le_refl _)
  · refine GE.aload_n 0 dX9_mast_11 rfl rfl ?_
    refine GE.iconst dX9_mast_12 kI_0 ?_
    refine GE.callvI [.int 0] dX9_mast_13 (lV_X9_197) rfl ⟨rfl, rfl⟩ (rokb rfl) (gX9_refuse t3 a0 0) (fun x27 t28 => ?_)
    exact GE.iret dX9_mast_16 rfl (Nat.le_refl _) (Nat.le_refl _)
def fX9_mist (σ : St) (a0 : Nat) (px1 : Int32) : Option (Int32 × St) :=
  if px1 < 0 then
    some (0, σ)
  else
    if 9 < px1 then
      some (0, σ)
    else
      (gI 9 6 σ a0).bind fun x1 =>
      if px1 = x1 then
        some (0, σ)
      else
        (pV 9 6 σ a0 (.int px1)).bind (fun t2 =>
        some (1, t2))
set_option maxHeartbeats 4000000 in
set_option maxRecDepth 100000 in
theorem gX9_mist (σ : St) (a0 : Nat) (px1 : Int32) : CE vI mX9_mist [.ref a0, .int px1] σ (fX9_mist σ a0 px1) := by
  refine CE.ofGEF (lv := [(0, .ref a0), (1, .int px1)]) (by decide +kernel) (Nat.le_of_ble_eq_true rfl) rfl ?_
  unfold fX9_mist
  refine GE.iload_n 1 dX9_mist_0 rfl rfl ?_
  refine GE.if_lt (tgt := 18) dX9_mist_1 (by decide) ?_ ?_
  · refine GE.iconst dX9_mist_18 kI_0 ?_
    exact GE.zretk dX9_mist_19 rfl (Nat.le_refl _) (Nat.le_refl _) (by decide)
  · refine GE.iload_n 1 dX9_mist_4 rfl rfl ?_
    refine GE.bipush dX9_mist_5 kB_9 ?_
    refine GE.icmp_gt (tgt := 18) dX9_mist_7 (by decide) ?_ ?_
    · refine GE.iconst dX9_mist_18 kI_0 ?_
      exact GE.zretk dX9_mist_19 rfl (Nat.le_refl _) (Nat.le_refl _) (by decide)
    · refine GE.iload_n 1 dX9_mist_10 rfl rfl ?_
      refine GE.aload_n 0 dX9_mist_11 rfl rfl ?_
      refine GE.gI dX9_mist_12 lF_X9_45 (fun x1 => ?_)
      refine GE.icmp_ne (tgt := 20) dX9_mist_15 (by decide) ?_ ?_
      · refine GE.aload_n 0 dX9_mist_20 rfl rfl ?_
        refine GE.iload_n 1 dX9_mist_21 rfl rfl ?_
        refine GE.pI dX9_mist_22 lF_X9_45 (fun t2 => ?_)
        refine GE.iconst dX9_mist_25 kI_1 ?_
        exact GE.zretk dX9_mist_26 rfl (Nat.le_refl _) (Nat.le_refl _) (by decide)
      · refine GE.iconst dX9_mist_18 kI_0 ?_
        exact GE.zretk dX9_mist_19 rfl (Nat.le_refl _) (Nat.le_refl _) (by decide)
def fX1_falseTowers (σ : St) (a0 : Nat) (pa1 : Nat) (pq2 : Option Nat) : Option (Int32 × St) :=
  lo3 (fun l4 (x1 : Int32) (x2 : Int32) (t3 : St) =>
    (gI 1 6 t3 a0).bind fun x5 =>
  if x5 ≤ x2 then
    some (x1, t3)
  else
    (gR 1 4 t3 a0).bind fun a6 =>
    (aI 0 t3 a6 x2).bind fun x7 =>
    (gR 1 5 t3 a0).bind fun a8 =>
    (aI 0 t3 a8 x2).bind fun x9 =>
    bo 7 t3 pa1 (fX7_allCells t3 pa1) (fun x10 t11 =>
    bo 7 t11 pa1 (fX7_sight t11 pa1 x7 pq2) (fun x12 t13 =>
    jo1 (fun (x14 : Int32) =>
      l4 x14 (x2 + 1) t13) (fun j15 =>
      if x9 = x10 &&& (x12 ^^^ ((-1))) then
        j15 x1
      else
        nam (x1 ||| (1 <<< (x7 &&& 31)) : Int32) (fun x16 =>
        j15 x16))))) FU 0 0 σ
set_option maxHeartbeats 4000000 in
set_option maxRecDepth 100000 in
theorem gX1_falseTowers (σ : St) (a0 : Nat) (pa1 : Nat) (pq2 : Option Nat) : CE vI mX1_falseTowers [.ref a0, .ref pa1, va_rf pq2] σ (fX1_falseTowers σ a0 pa1 pq2) := by
  refine CE.ofGEF (lv := [(0, .ref a0), (1, .ref pa1), (2, va_rf pq2)]) (by decide +kernel) (by cases pq2 <;> exact Nat.le_of_ble_eq_true rfl) rfl ?_
  unfold fX1_falseTowers
  refine GE.iconst dX1_falseTowers_0 kI_0 ?_
  refine GE.istore_n (lv' := [(0, .ref a0), (1, .ref pa1), (2, va_rf pq2), (3, .int 0)]) dX1_falseTowers_1 rfl (by decide) [1, 2, 3, 0] (by cases pq2 <;> rfl) ?_
  refine GE.iconst dX1_falseTowers_2 kI_0 ?_
  refine GE.istore (lv' := [(0, .ref a0), (1, .ref pa1), (2, va_rf pq2), (3, .int 0), (4, .int 0)]) dX1_falseTowers_3 (by decide) [1, 2, 3, 4, 0] rfl ?_
  refine (GE.lo3 (fun (x1 : Int32) (x2 : Int32) (t3 : St) => [(0, .ref a0), (1, .ref pa1), (2, va_rf pq2), (3, .int x1), (4, .int x2)]) (fun (x1 : Int32) (x2 : Int32) (t3 : St) => []) (fun (x1 : Int32) (x2 : Int32) (t3 : St) => t3) (fun l4 hl4 x1 x2 t3 => ?_) FU 0 0 σ)
  refine GE.iload 4 dX1_falseTowers_5 rfl ?_
  refine GE.aload_n 0 dX1_falseTowers_7 rfl rfl ?_
  refine GE.gI dX1_falseTowers_8 lF_X1_32 (fun x5 => ?_)
  refine GE.icmp_ge (tgt := 60) dX1_falseTowers_11 (by decide) ?_ ?_
  · refine GE.iload_n 3 dX1_falseTowers_60 rfl rfl ?_
    exact GE.iret dX1_falseTowers_61 rfl (Nat.le_refl _) (Nat.le_refl _)
  · refine GE.aload_n 0 dX1_falseTowers_14 rfl rfl ?_
    refine GE.gR dX1_falseTowers_15 lF_X1_26 (fun a6 => ?_)
    refine GE.iload 4 dX1_falseTowers_18 rfl ?_
    refine GE.iald dX1_falseTowers_20 (fun x7 => ?_)
    refine GE.istore (lv' := [(0, .ref a0), (1, .ref pa1), (2, va_rf pq2), (3, .int x1), (4, .int x2), (5, .int x7)]) dX1_falseTowers_21 (by decide) [1, 2, 3, 4, 5, 0] rfl ?_
    refine GE.aload_n 0 dX1_falseTowers_23 rfl rfl ?_
    refine GE.gR dX1_falseTowers_24 lF_X1_29 (fun a8 => ?_)
    refine GE.iload 4 dX1_falseTowers_27 rfl ?_
    refine GE.iald dX1_falseTowers_29 (fun x9 => ?_)
    refine GE.aload_n 1 dX1_falseTowers_30 rfl rfl ?_
    refine GE.callvI [] dX1_falseTowers_31 (lV_X1_54) rfl ⟨rfl, rfl⟩ (rokb rfl) (gX7_allCells t3 pa1) (fun x10 t11 => ?_)
    refine GE.aload_n 1 dX1_falseTowers_34 rfl rfl ?_
    refine GE.iload 5 dX1_falseTowers_35 rfl ?_
    refine GE.aloadq_n 2 dX1_falseTowers_37 rfl rfl ?_
    refine GE.callvI [.int x7, va_rf pq2] dX1_falseTowers_38 (lV_X1_58) rfl ⟨rfl, rfl⟩ (rokb rfl) (gX7_sight t11 pa1 x7 pq2) (fun x12 t13 => ?_)
    refine GE.iconst dX1_falseTowers_41 kI_m1 ?_
    refine GE.ixor dX1_falseTowers_42 ?_
    refine GE.iand dX1_falseTowers_43 ?_
    refine GE.jo1 54 (fun (x14 : Int32) => [(0, .ref a0), (1, .ref pa1), (2, va_rf pq2), (3, .int x14), (4, .int x2)]) (fun (x14 : Int32) => []) (fun (x14 : Int32) => t13) (fun x14 => ?_) (fun j15 hj15 => ?_)
    · refine GE.iinc (lv' := [(0, .ref a0), (1, .ref pa1), (2, va_rf pq2), (3, .int x14), (4, .int (x2 + 1))]) 4 dX1_falseTowers_54 rfl kI_1 (by decide) [1, 2, 3, 4, 0] rfl ?_
      refine GE.goto (tgt := 5) dX1_falseTowers_57 (by decide) ?_
      exact hl4 x14 (x2 + 1) t13
    · refine GE.icmp_eq (tgt := 54) dX1_falseTowers_44 (by decide) ?_ ?_
      · exact GE.sub [0, 1, 2, 3, 4] rfl (hj15 x1)
      · refine GE.iload_n 3 dX1_falseTowers_47 rfl rfl ?_
        refine GE.iconst dX1_falseTowers_48 kI_1 ?_
        refine GE.iload 5 dX1_falseTowers_49 rfl ?_
        refine GE.ishl dX1_falseTowers_51 ?_
        refine GE.ior dX1_falseTowers_52 ?_
        refine GE.nami (fun x16 => ?_)
        refine GE.istore_n (lv' := [(0, .ref a0), (1, .ref pa1), (2, va_rf pq2), (3, .int x16), (4, .int x2), (5, .int x7)]) dX1_falseTowers_53 rfl (by decide) [1, 2, 3, 0, 4, 5] (by cases pq2 <;> rfl) ?_
        exact GE.sub [0, 1, 2, 3, 4] rfl (hj15 x16)
def fX7_beside (σ : St) (a0 : Nat) (px1 : Int32) (px2 : Int32) : Option (Int32 × St) :=
  (gI 7 0 σ a0).bind fun x1 =>
  if 1 ≤ x1 then
    (gI 7 0 σ a0).bind fun x2 =>
    if x2 = 0 then none else
    nam (px1 - px1 / x2 * x2 : Int32) (fun x3 =>
    tbs px2 0 [(gI 7 0 σ a0).bind fun x7 =>
        if px1 < x7 then
          some ((-1), σ)
        else
          (gI 7 0 σ a0).bind fun x8 =>
          some (px1 - x8, σ),
      if x3 ≤ 0 then
          some ((-1), σ)
        else
          some (px1 - 1, σ),
      (gI 7 0 σ a0).bind fun x9 =>
        if x9 - 1 ≤ x3 then
          some ((-1), σ)
        else
          some (px1 + 1, σ)] ((gI 7 0 σ a0).bind fun x4 =>
      (gI 7 2 σ a0).bind fun x5 =>
      if x5 ≤ px1 + x4 then
        some ((-1), σ)
      else
        (gI 7 0 σ a0).bind fun x6 =>
        some (px1 + x6, σ)))
  else
    some ((-1), σ)
set_option maxHeartbeats 4000000 in
set_option maxRecDepth 100000 in
theorem gX7_beside (σ : St) (a0 : Nat) (px1 : Int32) (px2 : Int32) : CE vI mX7_beside [.ref a0, .int px1, .int px2] σ (fX7_beside σ a0 px1 px2) := by
  refine CE.ofGEF (lv := [(0, .ref a0), (1, .int px1), (2, .int px2)]) (by decide +kernel) (Nat.le_of_ble_eq_true rfl) rfl ?_
  unfold fX7_beside
  refine GE.aload_n 0 dX7_beside_0 rfl rfl ?_
  refine GE.gI dX7_beside_1 lF_X7_11 (fun x1 => ?_)
  refine GE.iconst dX7_beside_4 kI_1 ?_
  refine GE.icmp_ge (tgt := 10) dX7_beside_5 (by decide) ?_ ?_
  · refine GE.iload_n 1 dX7_beside_10 rfl rfl ?_
    refine GE.aload_n 0 dX7_beside_11 rfl rfl ?_
    refine GE.gI dX7_beside_12 lF_X7_11 (fun x2 => ?_)
    refine GE.irem dX7_beside_15 ?_
    refine GE.nami (fun x3 => ?_)
    refine GE.istore_n (lv' := [(0, .ref a0), (1, .int px1), (2, .int px2), (3, .int x3)]) dX7_beside_16 rfl (by decide) [1, 2, 3, 0] rfl ?_
    refine GE.iload_n 2 dX7_beside_17 rfl rfl ?_
    refine GE.tsw (tgd := 93) dX7_beside_18 rfl rfl (by decide) ?_ ?_
    · refine GE.iload_n 1 dX7_beside_93 rfl rfl ?_
      refine GE.aload_n 0 dX7_beside_94 rfl rfl ?_
      refine GE.gI dX7_beside_95 lF_X7_11 (fun x4 => ?_)
      refine GE.iadd dX7_beside_98 ?_
      refine GE.aload_n 0 dX7_beside_99 rfl rfl ?_
      refine GE.gI dX7_beside_100 lF_X7_18 (fun x5 => ?_)
      refine GE.icmp_ge (tgt := 115) dX7_beside_103 (by decide) ?_ ?_
      · refine GE.iconst dX7_beside_115 kI_m1 ?_
        exact GE.iret dX7_beside_116 rfl (Nat.le_refl _) (Nat.le_refl _)
      · refine GE.iload_n 1 dX7_beside_106 rfl rfl ?_
        refine GE.aload_n 0 dX7_beside_107 rfl rfl ?_
        refine GE.gI dX7_beside_108 lF_X7_11 (fun x6 => ?_)
        refine GE.iadd dX7_beside_111 ?_
        refine GE.goto (tgt := 116) dX7_beside_112 (by decide) ?_
        exact GE.iret dX7_beside_116 rfl (Nat.le_refl _) (Nat.le_refl _)
    · intro j9 E9 o9 hE9 ho9
      match j9, hE9, ho9 with
      | 0, hE9, ho9 =>
        cases hE9; cases ho9
        refine ⟨44, by decide, ?_⟩
        refine GE.iload_n 1 dX7_beside_44 rfl rfl ?_
        refine GE.aload_n 0 dX7_beside_45 rfl rfl ?_
        refine GE.gI dX7_beside_46 lF_X7_11 (fun x7 => ?_)
        refine GE.icmp_lt (tgt := 61) dX7_beside_49 (by decide) ?_ ?_
        · refine GE.iconst dX7_beside_61 kI_m1 ?_
          exact GE.iret dX7_beside_62 rfl (Nat.le_refl _) (Nat.le_refl _)
        · refine GE.iload_n 1 dX7_beside_52 rfl rfl ?_
          refine GE.aload_n 0 dX7_beside_53 rfl rfl ?_
          refine GE.gI dX7_beside_54 lF_X7_11 (fun x8 => ?_)
          refine GE.isub dX7_beside_57 ?_
          refine GE.goto (tgt := 62) dX7_beside_58 (by decide) ?_
          exact GE.iret dX7_beside_62 rfl (Nat.le_refl _) (Nat.le_refl _)
      | 1, hE9, ho9 =>
        cases hE9; cases ho9
        refine ⟨63, by decide, ?_⟩
        refine GE.iload_n 3 dX7_beside_63 rfl rfl ?_
        refine GE.if_le (tgt := 73) dX7_beside_64 (by decide) ?_ ?_
        · refine GE.iconst dX7_beside_73 kI_m1 ?_
          exact GE.iret dX7_beside_74 rfl (Nat.le_refl _) (Nat.le_refl _)
        · refine GE.iload_n 1 dX7_beside_67 rfl rfl ?_
          refine GE.iconst dX7_beside_68 kI_1 ?_
          refine GE.isub dX7_beside_69 ?_
          refine GE.goto (tgt := 74) dX7_beside_70 (by decide) ?_
          exact GE.iret dX7_beside_74 rfl (Nat.le_refl _) (Nat.le_refl _)
      | 2, hE9, ho9 =>
        cases hE9; cases ho9
        refine ⟨75, by decide, ?_⟩
        refine GE.iload_n 3 dX7_beside_75 rfl rfl ?_
        refine GE.aload_n 0 dX7_beside_76 rfl rfl ?_
        refine GE.gI dX7_beside_77 lF_X7_11 (fun x9 => ?_)
        refine GE.iconst dX7_beside_80 kI_1 ?_
        refine GE.isub dX7_beside_81 ?_
        refine GE.icmp_ge (tgt := 91) dX7_beside_82 (by decide) ?_ ?_
        · refine GE.iconst dX7_beside_91 kI_m1 ?_
          exact GE.iret dX7_beside_92 rfl (Nat.le_refl _) (Nat.le_refl _)
        · refine GE.iload_n 1 dX7_beside_85 rfl rfl ?_
          refine GE.iconst dX7_beside_86 kI_1 ?_
          refine GE.iadd dX7_beside_87 ?_
          refine GE.goto (tgt := 92) dX7_beside_88 (by decide) ?_
          exact GE.iret dX7_beside_92 rfl (Nat.le_refl _) (Nat.le_refl _)
      | j9 + 3, hE9, ho9 => cases hE9
  · refine GE.iconst dX7_beside_8 kI_m1 ?_
    exact GE.iret dX7_beside_9 rfl (Nat.le_refl _) (Nat.le_refl _)
def fX7_hasLikeBeside (σ : St) (a0 : Nat) (px1 : Int32) : Option (Int32 × St) :=
  lo2 (fun l3 (x1 : Int32) (t2 : St) =>
    if 4 ≤ x1 then
    some (0, t2)
  else
    bo 7 t2 a0 (fX7_beside t2 a0 px1 x1) (fun x4 t5 =>
    bo 7 t5 a0 (fX7_hasCell t5 a0 x4) (fun x6 t7 =>
    jo1 (fun (u7 : Unit) =>
      l3 (x1 + 1) t7) (fun j8 =>
      if x6 = 0 then
        j8 () 
      else
        (gR 7 9 t7 a0).bind fun a9 =>
        (aI 0 t7 a9 x4).bind fun x10 =>
        (gR 7 9 t7 a0).bind fun a11 =>
        (aI 0 t7 a11 px1).bind fun x12 =>
        if x10 = x12 then
          some (1, t7)
        else
          j8 () )))) FU 0 σ
set_option maxHeartbeats 4000000 in
set_option maxRecDepth 100000 in
theorem gX7_hasLikeBeside (σ : St) (a0 : Nat) (px1 : Int32) : CE vI mX7_hasLikeBeside [.ref a0, .int px1] σ (fX7_hasLikeBeside σ a0 px1) := by
  refine CE.ofGEF (lv := [(0, .ref a0), (1, .int px1)]) (by decide +kernel) (Nat.le_of_ble_eq_true rfl) rfl ?_
  unfold fX7_hasLikeBeside
  refine GE.iconst dX7_hasLikeBeside_0 kI_0 ?_
  refine GE.istore_n (lv' := [(0, .ref a0), (1, .int px1), (2, .int 0)]) dX7_hasLikeBeside_1 rfl (by decide) [1, 2, 0] rfl ?_
  refine (GE.lo2 (fun (x1 : Int32) (t2 : St) => [(0, .ref a0), (1, .int px1), (2, .int x1)]) (fun (x1 : Int32) (t2 : St) => []) (fun (x1 : Int32) (t2 : St) => t2) (fun l3 hl3 x1 t2 => ?_) FU 0 σ)
  refine GE.iload_n 2 dX7_hasLikeBeside_2 rfl rfl ?_
  refine GE.iconst dX7_hasLikeBeside_3 kI_4 ?_
  refine GE.icmp_ge (tgt := 45) dX7_hasLikeBeside_4 (by decide) ?_ ?_
  · refine GE.iconst dX7_hasLikeBeside_45 kI_0 ?_
    exact GE.zretk dX7_hasLikeBeside_46 rfl (Nat.le_refl _) (Nat.le_refl _) (by decide)
  · refine GE.aload_n 0 dX7_hasLikeBeside_7 rfl rfl ?_
    refine GE.iload_n 1 dX7_hasLikeBeside_8 rfl rfl ?_
    refine GE.iload_n 2 dX7_hasLikeBeside_9 rfl rfl ?_
    refine GE.callvI [.int px1, .int x1] dX7_hasLikeBeside_10 (lV_X7_122) rfl ⟨rfl, rfl⟩ (rokb rfl) (gX7_beside t2 a0 px1 x1) (fun x4 t5 => ?_)
    refine GE.istore_n (lv' := [(0, .ref a0), (1, .int px1), (2, .int x1), (3, .int x4)]) dX7_hasLikeBeside_13 rfl (by decide) [1, 2, 3, 0] rfl ?_
    refine GE.aload_n 0 dX7_hasLikeBeside_14 rfl rfl ?_
    refine GE.iload_n 3 dX7_hasLikeBeside_15 rfl rfl ?_
    refine GE.callvI [.int x4] dX7_hasLikeBeside_16 (lV_X7_99) rfl ⟨rfl, rfl⟩ (rokb rfl) (gX7_hasCell t5 a0 x4) (fun x6 t7 => ?_)
    refine GE.jo1 39 (fun (u7 : Unit) => [(0, .ref a0), (1, .int px1), (2, .int x1)]) (fun (u7 : Unit) => []) (fun (u7 : Unit) => t7) (fun u7 => ?_) (fun j8 hj8 => ?_)
    · refine GE.iinc (lv' := [(0, .ref a0), (1, .int px1), (2, .int (x1 + 1))]) 2 dX7_hasLikeBeside_39 rfl kI_1 (by decide) [1, 2, 0] rfl ?_
      refine GE.goto (tgt := 2) dX7_hasLikeBeside_42 (by decide) ?_
      exact hl3 (x1 + 1) t7
    · refine GE.if_eq (tgt := 39) dX7_hasLikeBeside_19 (by decide) ?_ ?_
      · exact GE.sub [0, 1, 2] rfl (hj8 () )
      · refine GE.aload_n 0 dX7_hasLikeBeside_22 rfl rfl ?_
        refine GE.gR dX7_hasLikeBeside_23 lF_X7_39 (fun a9 => ?_)
        refine GE.iload_n 3 dX7_hasLikeBeside_26 rfl rfl ?_
        refine GE.iald dX7_hasLikeBeside_27 (fun x10 => ?_)
        refine GE.aload_n 0 dX7_hasLikeBeside_28 rfl rfl ?_
        refine GE.gR dX7_hasLikeBeside_29 lF_X7_39 (fun a11 => ?_)
        refine GE.iload_n 1 dX7_hasLikeBeside_32 rfl rfl ?_
        refine GE.iald dX7_hasLikeBeside_33 (fun x12 => ?_)
        refine GE.icmp_ne (tgt := 39) dX7_hasLikeBeside_34 (by decide) ?_ ?_
        · exact GE.sub [0, 1, 2] rfl (hj8 () )
        · refine GE.iconst dX7_hasLikeBeside_37 kI_1 ?_
          exact GE.zretk dX7_hasLikeBeside_38 rfl (Nat.le_refl _) (Nat.le_refl _) (by decide)
def fX7_flat (σ : St) (a0 : Nat) : Option (Int32 × St) :=
  lo3 (fun l4 (x1 : Int32) (x2 : Int32) (t3 : St) =>
    (gI 7 2 t3 a0).bind fun x5 =>
  if x5 ≤ x2 then
    some (x1, t3)
  else
    bo 7 t3 a0 (fX7_hasLikeBeside t3 a0 x2) (fun x6 t7 =>
    jo1 (fun (x8 : Int32) =>
      l4 x8 (x2 + 1) t7) (fun j9 =>
      if x6 = 0 then
        j9 x1
      else
        j9 (x1 + 1)))) FU 0 0 σ
set_option maxHeartbeats 4000000 in
set_option maxRecDepth 100000 in
theorem gX7_flat (σ : St) (a0 : Nat) : CE vI mX7_flat [.ref a0] σ (fX7_flat σ a0) := by
  refine CE.ofGEF (lv := [(0, .ref a0)]) (by decide +kernel) (Nat.le_of_ble_eq_true rfl) rfl ?_
  unfold fX7_flat
  refine GE.iconst dX7_flat_0 kI_0 ?_
  refine GE.istore_n (lv' := [(0, .ref a0), (1, .int 0)]) dX7_flat_1 rfl (by decide) [1, 0] rfl ?_
  refine GE.iconst dX7_flat_2 kI_0 ?_
  refine GE.istore_n (lv' := [(0, .ref a0), (1, .int 0), (2, .int 0)]) dX7_flat_3 rfl (by decide) [1, 2, 0] rfl ?_
  refine (GE.lo3 (fun (x1 : Int32) (x2 : Int32) (t3 : St) => [(0, .ref a0), (1, .int x1), (2, .int x2)]) (fun (x1 : Int32) (x2 : Int32) (t3 : St) => []) (fun (x1 : Int32) (x2 : Int32) (t3 : St) => t3) (fun l4 hl4 x1 x2 t3 => ?_) FU 0 0 σ)
  refine GE.iload_n 2 dX7_flat_4 rfl rfl ?_
  refine GE.aload_n 0 dX7_flat_5 rfl rfl ?_
  refine GE.gI dX7_flat_6 lF_X7_18 (fun x5 => ?_)
  refine GE.icmp_ge (tgt := 29) dX7_flat_9 (by decide) ?_ ?_
  · refine GE.iload_n 1 dX7_flat_29 rfl rfl ?_
    exact GE.iret dX7_flat_30 rfl (Nat.le_refl _) (Nat.le_refl _)
  · refine GE.aload_n 0 dX7_flat_12 rfl rfl ?_
    refine GE.iload_n 2 dX7_flat_13 rfl rfl ?_
    refine GE.callvI [.int x2] dX7_flat_14 (lV_X7_119) rfl ⟨rfl, rfl⟩ (rokb rfl) (gX7_hasLikeBeside t3 a0 x2) (fun x6 t7 => ?_)
    refine GE.jo1 23 (fun (x8 : Int32) => [(0, .ref a0), (1, .int x8), (2, .int x2)]) (fun (x8 : Int32) => []) (fun (x8 : Int32) => t7) (fun x8 => ?_) (fun j9 hj9 => ?_)
    · refine GE.iinc (lv' := [(0, .ref a0), (1, .int x8), (2, .int (x2 + 1))]) 2 dX7_flat_23 rfl kI_1 (by decide) [1, 2, 0] rfl ?_
      refine GE.goto (tgt := 4) dX7_flat_26 (by decide) ?_
      exact hl4 x8 (x2 + 1) t7
    · refine GE.if_eq (tgt := 23) dX7_flat_17 (by decide) ?_ ?_
      · exact hj9 x1
      · refine GE.iinc (lv' := [(0, .ref a0), (1, .int (x1 + 1)), (2, .int x2)]) 1 dX7_flat_20 rfl kI_1 (by decide) [1, 0, 2] rfl ?_
        exact hj9 (x1 + 1)
