def fX10_bounded (σ : St) (px0 : Int64) : Option (Int32 × St) :=
  bd (fJ9_min_f86c9 σ 1000000 px0) (fun x1 t2 =>
  bd (fJ9_max_f86c9 t2 ((-1000000)) x1) (fun x3 t4 =>
  some (Int64.toInt32 x3, t4)))
set_option maxHeartbeats 4000000 in
set_option maxRecDepth 100000 in
theorem gX10_bounded (σ : St) (px0 : Int64) : CE vI mX10_bounded [.long px0] σ (fX10_bounded σ px0) := by
  refine CE.ofGEF (lv := [(0, .long px0)]) (by decide +kernel) (Nat.le_of_ble_eq_true rfl) rfl ?_
  unfold fX10_bounded
  refine GE.ldc2 (v := (-1000000)) dX10_bounded_0 lKL_X10_192 ?_
  refine GE.ldc2 (v := 1000000) dX10_bounded_3 lKL_X10_194 ?_
  refine GE.lload_n 0 dX10_bounded_6 rfl rfl ?_
  refine GE.callsL [.long 1000000, .long px0] dX10_bounded_7 (lT_X10_196) rfl ⟨rfl, rfl⟩ (rokb rfl) (gJ9_min_f86c9 σ 1000000 px0) (fun x1 t2 => ?_)
  refine GE.callsL [.long ((-1000000)), .long x1] dX10_bounded_10 (lT_X10_202) rfl ⟨rfl, rfl⟩ (rokb rfl) (gJ9_max_f86c9 t2 ((-1000000)) x1) (fun x3 t4 => ?_)
  refine GE.l2i dX10_bounded_13 ?_
  exact GE.iret dX10_bounded_14 rfl (Nat.le_refl _) (Nat.le_refl _)
def fX10_worked (σ : St) (px0 : Int32) (px1 : Int64) (px3 : Int64) : Option (Int32 × St) :=
  tbs px0 2 [bd (fX10_bounded σ (px1 + px3)) (fun x1 t2 =>
      some (x1, t2)),
    bd (fX10_bounded σ (px1 - px3)) (fun x3 t4 =>
      some (x3, t4)),
    bd (fX10_bounded σ (px1 * px3)) (fun x5 t6 =>
      some (x5, t6)),
    if lg_cmp px3 0 = 0 then
        some (0, σ)
      else
        if px3 = 0 then none else
        bd (fX10_bounded σ (px1 / px3)) (fun x7 t8 =>
        some (x7, t8)),
    if lg_cmp px1 px3 = 0 then
        some (1, σ)
      else
        some (0, σ),
    if 0 ≤ lg_cmp px1 px3 then
        some (0, σ)
      else
        some (1, σ),
    if lg_cmp px1 px3 ≤ 0 then
        some (0, σ)
      else
        some (1, σ),
    if lg_cmp px1 0 = 0 then
        if lg_cmp px3 0 = 0 then
          some (0, σ)
        else
          some (1, σ)
      else
        some (1, σ),
    if lg_cmp px1 0 = 0 then
        some (0, σ)
      else
        if lg_cmp px3 0 = 0 then
          some (0, σ)
        else
          some (1, σ)] (if lg_cmp px1 0 = 0 then
      if lg_cmp px3 0 = 0 then
        some (0, σ)
      else
        some (1, σ)
    else
      some (1, σ))
set_option maxHeartbeats 4000000 in
set_option maxRecDepth 100000 in
theorem gX10_worked (σ : St) (px0 : Int32) (px1 : Int64) (px3 : Int64) : CE vI mX10_worked [.int px0, .long px1, .long px3] σ (fX10_worked σ px0 px1 px3) := by
  refine CE.ofGEF (lv := [(0, .int px0), (1, .long px1), (3, .long px3)]) (by decide +kernel) (Nat.le_of_ble_eq_true rfl) rfl ?_
  unfold fX10_worked
  refine GE.iload_n 0 dX10_worked_0 rfl rfl ?_
  refine GE.tsw (tgd := 144) dX10_worked_1 rfl rfl (by decide) ?_ ?_
  · refine GE.lload_n 1 dX10_worked_144 rfl rfl ?_
    refine GE.lconst dX10_worked_145 kL_0 ?_
    refine GE.lcmp dX10_worked_146 ?_
    refine GE.if_ne (tgt := 156) dX10_worked_147 (by decide) ?_ ?_
    · refine GE.iconst dX10_worked_156 kI_1 ?_
      refine GE.goto (tgt := 161) dX10_worked_157 (by decide) ?_
      exact GE.iret dX10_worked_161 rfl (Nat.le_refl _) (Nat.le_refl _)
    · refine GE.lload_n 2 dX10_worked_150 rfl rfl ?_
      refine GE.lconst dX10_worked_151 kL_0 ?_
      refine GE.lcmp dX10_worked_152 ?_
      refine GE.if_eq (tgt := 160) dX10_worked_153 (by decide) ?_ ?_
      · refine GE.iconst dX10_worked_160 kI_0 ?_
        exact GE.iret dX10_worked_161 rfl (Nat.le_refl _) (Nat.le_refl _)
      · refine GE.iconst dX10_worked_156 kI_1 ?_
        refine GE.goto (tgt := 161) dX10_worked_157 (by decide) ?_
        exact GE.iret dX10_worked_161 rfl (Nat.le_refl _) (Nat.le_refl _)
  · intro j9 E9 o9 hE9 ho9
    match j9, hE9, ho9 with
    | 0, hE9, ho9 =>
      cases hE9; cases ho9
      refine ⟨52, by decide, ?_⟩
      refine GE.lload_n 1 dX10_worked_52 rfl rfl ?_
      refine GE.lload_n 2 dX10_worked_53 rfl rfl ?_
      refine GE.ladd dX10_worked_54 ?_
      refine GE.callsI [.long (px1 + px3)] dX10_worked_55 (lT_X10_205) rfl ⟨rfl, rfl⟩ (rokb rfl) (gX10_bounded σ (px1 + px3)) (fun x1 t2 => ?_)
      exact GE.iret dX10_worked_58 rfl (Nat.le_refl _) (Nat.le_refl _)
    | 1, hE9, ho9 =>
      cases hE9; cases ho9
      refine ⟨59, by decide, ?_⟩
      refine GE.lload_n 1 dX10_worked_59 rfl rfl ?_
      refine GE.lload_n 2 dX10_worked_60 rfl rfl ?_
      refine GE.lsub dX10_worked_61 ?_
      refine GE.callsI [.long (px1 - px3)] dX10_worked_62 (lT_X10_205) rfl ⟨rfl, rfl⟩ (rokb rfl) (gX10_bounded σ (px1 - px3)) (fun x3 t4 => ?_)
      exact GE.iret dX10_worked_65 rfl (Nat.le_refl _) (Nat.le_refl _)
    | 2, hE9, ho9 =>
      cases hE9; cases ho9
      refine ⟨66, by decide, ?_⟩
      refine GE.lload_n 1 dX10_worked_66 rfl rfl ?_
      refine GE.lload_n 2 dX10_worked_67 rfl rfl ?_
      refine GE.lmul dX10_worked_68 ?_
      refine GE.callsI [.long (px1 * px3)] dX10_worked_69 (lT_X10_205) rfl ⟨rfl, rfl⟩ (rokb rfl) (gX10_bounded σ (px1 * px3)) (fun x5 t6 => ?_)
      exact GE.iret dX10_worked_72 rfl (Nat.le_refl _) (Nat.le_refl _)
    | 3, hE9, ho9 =>
      cases hE9; cases ho9
      refine ⟨73, by decide, ?_⟩
      refine GE.lload_n 2 dX10_worked_73 rfl rfl ?_
      refine GE.lconst dX10_worked_74 kL_0 ?_
      refine GE.lcmp dX10_worked_75 ?_
      refine GE.if_ne (tgt := 83) dX10_worked_76 (by decide) ?_ ?_
      · refine GE.lload_n 1 dX10_worked_83 rfl rfl ?_
        refine GE.lload_n 2 dX10_worked_84 rfl rfl ?_
        refine GE.ldiv dX10_worked_85 ?_
        refine GE.callsI [.long (px1 / px3)] dX10_worked_86 (lT_X10_205) rfl ⟨rfl, rfl⟩ (rokb rfl) (gX10_bounded σ (px1 / px3)) (fun x7 t8 => ?_)
        exact GE.iret dX10_worked_89 rfl (Nat.le_refl _) (Nat.le_refl _)
      · refine GE.iconst dX10_worked_79 kI_0 ?_
        refine GE.goto (tgt := 89) dX10_worked_80 (by decide) ?_
        exact GE.iret dX10_worked_89 rfl (Nat.le_refl _) (Nat.le_refl _)
    | 4, hE9, ho9 =>
      cases hE9; cases ho9
      refine ⟨90, by decide, ?_⟩
      refine GE.lload_n 1 dX10_worked_90 rfl rfl ?_
      refine GE.lload_n 2 dX10_worked_91 rfl rfl ?_
      refine GE.lcmp dX10_worked_92 ?_
      refine GE.if_ne (tgt := 100) dX10_worked_93 (by decide) ?_ ?_
      · refine GE.iconst dX10_worked_100 kI_0 ?_
        exact GE.iret dX10_worked_101 rfl (Nat.le_refl _) (Nat.le_refl _)
      · refine GE.iconst dX10_worked_96 kI_1 ?_
        refine GE.goto (tgt := 101) dX10_worked_97 (by decide) ?_
        exact GE.iret dX10_worked_101 rfl (Nat.le_refl _) (Nat.le_refl _)
    | 5, hE9, ho9 =>
      cases hE9; cases ho9
      refine ⟨102, by decide, ?_⟩
      refine GE.lload_n 1 dX10_worked_102 rfl rfl ?_
      refine GE.lload_n 2 dX10_worked_103 rfl rfl ?_
      refine GE.lcmp dX10_worked_104 ?_
      refine GE.if_ge (tgt := 112) dX10_worked_105 (by decide) ?_ ?_
      · refine GE.iconst dX10_worked_112 kI_0 ?_
        exact GE.iret dX10_worked_113 rfl (Nat.le_refl _) (Nat.le_refl _)
      · refine GE.iconst dX10_worked_108 kI_1 ?_
        refine GE.goto (tgt := 113) dX10_worked_109 (by decide) ?_
        exact GE.iret dX10_worked_113 rfl (Nat.le_refl _) (Nat.le_refl _)
    | 6, hE9, ho9 =>
      cases hE9; cases ho9
      refine ⟨114, by decide, ?_⟩
      refine GE.lload_n 1 dX10_worked_114 rfl rfl ?_
      refine GE.lload_n 2 dX10_worked_115 rfl rfl ?_
      refine GE.lcmp dX10_worked_116 ?_
      refine GE.if_le (tgt := 124) dX10_worked_117 (by decide) ?_ ?_
      · refine GE.iconst dX10_worked_124 kI_0 ?_
        exact GE.iret dX10_worked_125 rfl (Nat.le_refl _) (Nat.le_refl _)
      · refine GE.iconst dX10_worked_120 kI_1 ?_
        refine GE.goto (tgt := 125) dX10_worked_121 (by decide) ?_
        exact GE.iret dX10_worked_125 rfl (Nat.le_refl _) (Nat.le_refl _)
    | 7, hE9, ho9 =>
      cases hE9; cases ho9
      refine ⟨144, by decide, ?_⟩
      refine GE.lload_n 1 dX10_worked_144 rfl rfl ?_
      refine GE.lconst dX10_worked_145 kL_0 ?_
      refine GE.lcmp dX10_worked_146 ?_
      refine GE.if_ne (tgt := 156) dX10_worked_147 (by decide) ?_ ?_
      · refine GE.iconst dX10_worked_156 kI_1 ?_
        refine GE.goto (tgt := 161) dX10_worked_157 (by decide) ?_
        exact GE.iret dX10_worked_161 rfl (Nat.le_refl _) (Nat.le_refl _)
      · refine GE.lload_n 2 dX10_worked_150 rfl rfl ?_
        refine GE.lconst dX10_worked_151 kL_0 ?_
        refine GE.lcmp dX10_worked_152 ?_
        refine GE.if_eq (tgt := 160) dX10_worked_153 (by decide) ?_ ?_
        · refine GE.iconst dX10_worked_160 kI_0 ?_
          exact GE.iret dX10_worked_161 rfl (Nat.le_refl _) (Nat.le_refl _)
        · refine GE.iconst dX10_worked_156 kI_1 ?_
          refine GE.goto (tgt := 161) dX10_worked_157 (by decide) ?_
          exact GE.iret dX10_worked_161 rfl (Nat.le_refl _) (Nat.le_refl _)
    | 8, hE9, ho9 =>
      cases hE9; cases ho9
      refine ⟨126, by decide, ?_⟩
      refine GE.lload_n 1 dX10_worked_126 rfl rfl ?_
      refine GE.lconst dX10_worked_127 kL_0 ?_
      refine GE.lcmp dX10_worked_128 ?_
      refine GE.if_eq (tgt := 142) dX10_worked_129 (by decide) ?_ ?_
      · refine GE.iconst dX10_worked_142 kI_0 ?_
        exact GE.iret dX10_worked_143 rfl (Nat.le_refl _) (Nat.le_refl _)
      · refine GE.lload_n 2 dX10_worked_132 rfl rfl ?_
        refine GE.lconst dX10_worked_133 kL_0 ?_
        refine GE.lcmp dX10_worked_134 ?_
        refine GE.if_eq (tgt := 142) dX10_worked_135 (by decide) ?_ ?_
        · refine GE.iconst dX10_worked_142 kI_0 ?_
          exact GE.iret dX10_worked_143 rfl (Nat.le_refl _) (Nat.le_refl _)
        · refine GE.iconst dX10_worked_138 kI_1 ?_
          refine GE.goto (tgt := 143) dX10_worked_139 (by decide) ?_
          exact GE.iret dX10_worked_143 rfl (Nat.le_refl _) (Nat.le_refl _)
    | j9 + 9, hE9, ho9 => cases hE9
def fX10_workOut (σ : St) (a0 : Nat) (px1 : Int32) (px2 : Int32) (px3 : Int32) : Option (Int32 × St) :=
  nam ((520 * px1) + px2 : Int32) (fun x1 =>
  lo3 (fun l5 (x2 : Int32) (x3 : Int32) (t4 : St) =>
    if (520 * px1) + px3 ≤ x3 then
    (gR 10 16 t4 a0).bind fun a6 =>
    (aI 0 t4 a6 0).bind fun x7 =>
    some (x7, t4)
  else
    (gR 10 6 t4 a0).bind fun a8 =>
    (aI 0 t4 a8 x3).bind fun x9 =>
    jo2 (fun (x10 : Int32) (t11 : St) =>
      l5 x10 (x3 + 1) t11) (fun j12 =>
      jo1 (fun (u12 : Unit) =>
        (gR 10 16 t4 a0).bind fun a14 =>
        (gR 10 6 t4 a0).bind fun a15 =>
        (aI 0 t4 a15 x3).bind fun x16 =>
        jo3 (fun (v17 : Int32) (v18 : Int32) (v19 : Nat) =>
          (sI 0 t4 v19 v18 v17).bind (fun t21 =>
          j12 (x2 + 1) t21)) (fun j20 =>
          if x16 = 0 then
            (gR 10 7 t4 a0).bind fun a26 =>
            (aI 0 t4 a26 x3).bind fun x27 =>
            j20 x27 x2 a14
          else
            (gR 10 15 t4 a0).bind fun a22 =>
            (gR 10 7 t4 a0).bind fun a23 =>
            (aI 0 t4 a23 x3).bind fun x24 =>
            (aI 0 t4 a22 x24).bind fun x25 =>
            j20 x25 x2 a14)) (fun j13 =>
        if x9 = 0 then
          j13 () 
        else
          (gR 10 6 t4 a0).bind fun a28 =>
          (aI 0 t4 a28 x3).bind fun x29 =>
          if x29 = 1 then
            j13 () 
          else
            (gR 10 6 t4 a0).bind fun a30 =>
            (aI 0 t4 a30 x3).bind fun x31 =>
            if x31 = 9 then
              (gR 10 16 t4 a0).bind fun a42 =>
              (gR 10 16 t4 a0).bind fun a43 =>
              (aI 0 t4 a43 (x2 - 1)).bind fun x44 =>
              (sI 0 t4 a42 (x2 - 1) (1 - x44)).bind (fun t45 =>
              j12 x2 t45)
            else
              (gR 10 16 t4 a0).bind fun a32 =>
              (gR 10 6 t4 a0).bind fun a33 =>
              (aI 0 t4 a33 x3).bind fun x34 =>
              (gR 10 16 t4 a0).bind fun a35 =>
              (aI 0 t4 a35 ((x2 + (-1)) - 1)).bind fun x36 =>
              (gR 10 16 t4 a0).bind fun a37 =>
              (aI 0 t4 a37 (x2 + (-1))).bind fun x38 =>
              bd (fX10_worked t4 x34 (Int32.toInt64 x36) (Int32.toInt64 x38)) (fun x39 t40 =>
              (sI 0 t40 a32 ((x2 + (-1)) - 1) x39).bind (fun t41 =>
              j12 (x2 + (-1)) t41))))) FU 0 x1 σ)
set_option maxHeartbeats 4000000 in
set_option maxRecDepth 100000 in
theorem gX10_workOut (σ : St) (a0 : Nat) (px1 : Int32) (px2 : Int32) (px3 : Int32) : CE vI mX10_workOut [.ref a0, .int px1, .int px2, .int px3] σ (fX10_workOut σ a0 px1 px2 px3) := by
  refine CE.ofGEF (lv := [(0, .ref a0), (1, .int px1), (2, .int px2), (3, .int px3)]) (by decide +kernel) (Nat.le_of_ble_eq_true rfl) rfl ?_
  unfold fX10_workOut
  refine GE.iconst dX10_workOut_0 kI_0 ?_
  refine GE.istore (lv' := [(0, .ref a0), (1, .int px1), (2, .int px2), (3, .int px3), (4, .int 0)]) dX10_workOut_1 (by decide) [1, 2, 3, 4, 0] rfl ?_
  refine GE.sipush dX10_workOut_3 kS_520 ?_
  refine GE.iload_n 1 dX10_workOut_6 rfl rfl ?_
  refine GE.imul dX10_workOut_7 ?_
  refine GE.iload_n 2 dX10_workOut_8 rfl rfl ?_
  refine GE.iadd dX10_workOut_9 ?_
  refine GE.nami (fun x1 => ?_)
  refine GE.istore (lv' := [(0, .ref a0), (1, .int px1), (2, .int px2), (3, .int px3), (4, .int 0), (5, .int x1)]) dX10_workOut_10 (by decide) [1, 2, 3, 4, 5, 0] rfl ?_
  refine GE.sub [0, 1, 3, 4, 5] rfl (GE.lo3 (fun (x2 : Int32) (x3 : Int32) (t4 : St) => [(0, .ref a0), (1, .int px1), (3, .int px3), (4, .int x2), (5, .int x3)]) (fun (x2 : Int32) (x3 : Int32) (t4 : St) => []) (fun (x2 : Int32) (x3 : Int32) (t4 : St) => t4) (fun l5 hl5 x2 x3 t4 => ?_) FU 0 x1 σ)
  refine GE.iload 4 dX10_workOut_12 rfl ?_
  refine GE.sipush dX10_workOut_14 kS_520 ?_
  refine GE.iload_n 1 dX10_workOut_17 rfl rfl ?_
  refine GE.imul dX10_workOut_18 ?_
  refine GE.iload_n 2 dX10_workOut_19 rfl rfl ?_
  refine GE.iadd dX10_workOut_20 ?_
  refine GE.icmp_ge (tgt := 171) dX10_workOut_21 (by decide) ?_ ?_
  · refine GE.aload_n 0 dX10_workOut_171 rfl rfl ?_
    refine GE.gR dX10_workOut_172 lF_X10_37 (fun a6 => ?_)
    refine GE.iconst dX10_workOut_175 kI_0 ?_
    refine GE.iald dX10_workOut_176 (fun x7 => ?_)
    exact GE.iret dX10_workOut_177 rfl (Nat.le_refl _) (Nat.le_refl _)
  · refine GE.aload_n 0 dX10_workOut_24 rfl rfl ?_
    refine GE.gR dX10_workOut_25 lF_X10_13 (fun a8 => ?_)
    refine GE.iload 4 dX10_workOut_28 rfl ?_
    refine GE.iald dX10_workOut_30 (fun x9 => ?_)
    refine GE.jo2 165 (fun (x10 : Int32) (t11 : St) => [(0, .ref a0), (1, .int px1), (3, .int px3), (4, .int x10), (5, .int x3)]) (fun (x10 : Int32) (t11 : St) => []) (fun (x10 : Int32) (t11 : St) => t11) (fun x10 t11 => ?_) (fun j12 hj12 => ?_)
    · refine GE.iinc (lv' := [(0, .ref a0), (1, .int px1), (3, .int px3), (4, .int x10), (5, .int (x3 + 1))]) 4 dX10_workOut_165 rfl kI_1 (by decide) [1, 2, 3, 4, 0] rfl ?_
      refine GE.goto (tgt := 12) dX10_workOut_168 (by decide) ?_
      exact hl5 x10 (x3 + 1) t11
    · refine GE.jo1 45 (fun (u12 : Unit) => [(0, .ref a0), (1, .int px1), (3, .int px3), (4, .int x2), (5, .int x3)]) (fun (u12 : Unit) => []) (fun (u12 : Unit) => t4) (fun u12 => ?_) (fun j13 hj13 => ?_)
      · refine GE.aload_n 0 dX10_workOut_45 rfl rfl ?_
        refine GE.gR dX10_workOut_46 lF_X10_37 (fun a14 => ?_)
        refine GE.iload 3 dX10_workOut_49 rfl ?_
        refine GE.aload_n 0 dX10_workOut_51 rfl rfl ?_
        refine GE.gR dX10_workOut_52 lF_X10_13 (fun a15 => ?_)
        refine GE.iload 4 dX10_workOut_55 rfl ?_
        refine GE.iald dX10_workOut_57 (fun x16 => ?_)
        refine GE.jo3 83 (fun (v17 : Int32) (v18 : Int32) (v19 : Nat) => [(0, .ref a0), (1, .int px1), (3, .int px3), (4, .int x2), (5, .int x3)]) (fun (v17 : Int32) (v18 : Int32) (v19 : Nat) => [.int v17, .int v18, .ref v19]) (fun (v17 : Int32) (v18 : Int32) (v19 : Nat) => t4) (fun v17 v18 v19 => ?_) (fun j20 hj20 => ?_)
        · refine GE.iast dX10_workOut_83 (fun t21 => ?_)
          refine GE.iinc (lv' := [(0, .ref a0), (1, .int px1), (3, .int px3), (4, .int (x2 + 1)), (5, .int x3)]) 3 dX10_workOut_84 rfl kI_1 (by decide) [1, 2, 3, 0, 4] rfl ?_
          refine GE.goto (tgt := 165) dX10_workOut_87 (by decide) ?_
          exact hj12 (x2 + 1) t21
        · refine GE.if_ne (tgt := 71) dX10_workOut_58 (by decide) ?_ ?_
          · refine GE.aload_n 0 dX10_workOut_71 rfl rfl ?_
            refine GE.gR dX10_workOut_72 lF_X10_34 (fun a22 => ?_)
            refine GE.aload_n 0 dX10_workOut_75 rfl rfl ?_
            refine GE.gR dX10_workOut_76 lF_X10_16 (fun a23 => ?_)
            refine GE.iload 4 dX10_workOut_79 rfl ?_
            refine GE.iald dX10_workOut_81 (fun x24 => ?_)
            refine GE.iald dX10_workOut_82 (fun x25 => ?_)
            exact hj20 x25 x2 a14
          · refine GE.aload_n 0 dX10_workOut_61 rfl rfl ?_
            refine GE.gR dX10_workOut_62 lF_X10_16 (fun a26 => ?_)
            refine GE.iload 4 dX10_workOut_65 rfl ?_
            refine GE.iald dX10_workOut_67 (fun x27 => ?_)
            refine GE.goto (tgt := 83) dX10_workOut_68 (by decide) ?_
            exact hj20 x27 x2 a14
      · refine GE.if_eq (tgt := 45) dX10_workOut_31 (by decide) ?_ ?_
        · exact hj13 () 
        · refine GE.aload_n 0 dX10_workOut_34 rfl rfl ?_
          refine GE.gR dX10_workOut_35 lF_X10_13 (fun a28 => ?_)
          refine GE.iload 4 dX10_workOut_38 rfl ?_
          refine GE.iald dX10_workOut_40 (fun x29 => ?_)
          refine GE.iconst dX10_workOut_41 kI_1 ?_
          refine GE.icmp_ne (tgt := 90) dX10_workOut_42 (by decide) ?_ ?_
          · refine GE.aload_n 0 dX10_workOut_90 rfl rfl ?_
            refine GE.gR dX10_workOut_91 lF_X10_13 (fun a30 => ?_)
            refine GE.iload 4 dX10_workOut_94 rfl ?_
            refine GE.iald dX10_workOut_96 (fun x31 => ?_)
            refine GE.bipush dX10_workOut_97 kB_9 ?_
            refine GE.icmp_ne (tgt := 125) dX10_workOut_99 (by decide) ?_ ?_
            · refine GE.iinc (lv' := [(0, .ref a0), (1, .int px1), (3, .int px3), (4, .int (x2 + (-1))), (5, .int x3)]) 3 dX10_workOut_125 rfl kI_m1 (by decide) [1, 2, 3, 0, 4] rfl ?_
              refine GE.aload_n 0 dX10_workOut_128 rfl rfl ?_
              refine GE.gR dX10_workOut_129 lF_X10_37 (fun a32 => ?_)
              refine GE.iload 3 dX10_workOut_132 rfl ?_
              refine GE.iconst dX10_workOut_134 kI_1 ?_
              refine GE.isub dX10_workOut_135 ?_
              refine GE.aload_n 0 dX10_workOut_136 rfl rfl ?_
              refine GE.gR dX10_workOut_137 lF_X10_13 (fun a33 => ?_)
              refine GE.iload 4 dX10_workOut_140 rfl ?_
              refine GE.iald dX10_workOut_142 (fun x34 => ?_)
              refine GE.aload_n 0 dX10_workOut_143 rfl rfl ?_
              refine GE.gR dX10_workOut_144 lF_X10_37 (fun a35 => ?_)
              refine GE.iload 3 dX10_workOut_147 rfl ?_
              refine GE.iconst dX10_workOut_149 kI_1 ?_
              refine GE.isub dX10_workOut_150 ?_
              refine GE.iald dX10_workOut_151 (fun x36 => ?_)
              refine GE.i2l dX10_workOut_152 ?_
              refine GE.aload_n 0 dX10_workOut_153 rfl rfl ?_
              refine GE.gR dX10_workOut_154 lF_X10_37 (fun a37 => ?_)
              refine GE.iload 3 dX10_workOut_157 rfl ?_
              refine GE.iald dX10_workOut_159 (fun x38 => ?_)
              refine GE.i2l dX10_workOut_160 ?_
              refine GE.callsI [.int x34, .long (Int32.toInt64 x36), .long (Int32.toInt64 x38)] dX10_workOut_161 (lT_X10_209) rfl ⟨rfl, rfl⟩ (rokb rfl) (gX10_worked t4 x34 (Int32.toInt64 x36) (Int32.toInt64 x38)) (fun x39 t40 => ?_)
              refine GE.iast dX10_workOut_164 (fun t41 => ?_)
              exact hj12 (x2 + (-1)) t41
            · refine GE.aload_n 0 dX10_workOut_102 rfl rfl ?_
              refine GE.gR dX10_workOut_103 lF_X10_37 (fun a42 => ?_)
              refine GE.iload 3 dX10_workOut_106 rfl ?_
              refine GE.iconst dX10_workOut_108 kI_1 ?_
              refine GE.isub dX10_workOut_109 ?_
              refine GE.iconst dX10_workOut_110 kI_1 ?_
              refine GE.aload_n 0 dX10_workOut_111 rfl rfl ?_
              refine GE.gR dX10_workOut_112 lF_X10_37 (fun a43 => ?_)
              refine GE.iload 3 dX10_workOut_115 rfl ?_
              refine GE.iconst dX10_workOut_117 kI_1 ?_
              refine GE.isub dX10_workOut_118 ?_
              refine GE.iald dX10_workOut_119 (fun x44 => ?_)
              refine GE.isub dX10_workOut_120 ?_
              refine GE.iast dX10_workOut_121 (fun t45 => ?_)
              refine GE.goto (tgt := 165) dX10_workOut_122 (by decide) ?_
              exact hj12 x2 t45
          · exact hj13 () 
def fX10_worthOf (σ : St) (a0 : Nat) (px1 : Int32) : Option (Int32 × St) :=
  nam (140 * px1 : Int32) (fun x1 =>
  lo2 (fun l4 (x2 : Int32) (t3 : St) =>
    (gR 10 9 t3 a0).bind fun a5 =>
  (aI 0 t3 a5 px1).bind fun x6 =>
  if (140 * px1) + x6 ≤ x2 then
    some (0, t3)
  else
    (gR 10 10 t3 a0).bind fun a7 =>
    (aI 0 t3 a7 x2).bind fun x8 =>
    (gR 10 11 t3 a0).bind fun a9 =>
    (aI 0 t3 a9 x2).bind fun x10 =>
    jo1 (fun (t11 : St) =>
      (gR 10 11 t11 a0).bind fun a13 =>
      (aI 0 t11 a13 x2).bind fun x14 =>
      (gR 10 12 t11 a0).bind fun a15 =>
      (aI 0 t11 a15 x2).bind fun x16 =>
      bo 10 t11 a0 (fX10_workOut t11 a0 px1 x14 x16) (fun x17 t18 =>
      some (x17, t18))) (fun j12 =>
      if x8 = x10 then
        j12 t3
      else
        (gR 10 10 t3 a0).bind fun a19 =>
        (aI 0 t3 a19 x2).bind fun x20 =>
        (gR 10 11 t3 a0).bind fun a21 =>
        (aI 0 t3 a21 x2).bind fun x22 =>
        bo 10 t3 a0 (fX10_workOut t3 a0 px1 x20 x22) (fun x23 t24 =>
        if x23 = 0 then
          l4 (x2 + 1) t24
        else
          j12 t24))) FU x1 σ)
set_option maxHeartbeats 4000000 in
set_option maxRecDepth 100000 in
theorem gX10_worthOf (σ : St) (a0 : Nat) (px1 : Int32) : CE vI mX10_worthOf [.ref a0, .int px1] σ (fX10_worthOf σ a0 px1) := by
  refine CE.ofGEF (lv := [(0, .ref a0), (1, .int px1)]) (by decide +kernel) (Nat.le_of_ble_eq_true rfl) rfl ?_
  unfold fX10_worthOf
  refine GE.sipush dX10_worthOf_0 kS_140 ?_
  refine GE.iload_n 1 dX10_worthOf_3 rfl rfl ?_
  refine GE.imul dX10_worthOf_4 ?_
  refine GE.nami (fun x1 => ?_)
  refine GE.istore_n (lv' := [(0, .ref a0), (1, .int px1), (2, .int x1)]) dX10_worthOf_5 rfl (by decide) [1, 2, 0] rfl ?_
  refine (GE.lo2 (fun (x2 : Int32) (t3 : St) => [(0, .ref a0), (1, .int px1), (2, .int x2)]) (fun (x2 : Int32) (t3 : St) => []) (fun (x2 : Int32) (t3 : St) => t3) (fun l4 hl4 x2 t3 => ?_) FU x1 σ)
  refine GE.iload_n 2 dX10_worthOf_6 rfl rfl ?_
  refine GE.sipush dX10_worthOf_7 kS_140 ?_
  refine GE.iload_n 1 dX10_worthOf_10 rfl rfl ?_
  refine GE.imul dX10_worthOf_11 ?_
  refine GE.aload_n 0 dX10_worthOf_12 rfl rfl ?_
  refine GE.gR dX10_worthOf_13 lF_X10_22 (fun a5 => ?_)
  refine GE.iload_n 1 dX10_worthOf_16 rfl rfl ?_
  refine GE.iald dX10_worthOf_17 (fun x6 => ?_)
  refine GE.iadd dX10_worthOf_18 ?_
  refine GE.icmp_ge (tgt := 81) dX10_worthOf_19 (by decide) ?_ ?_
  · refine GE.iconst dX10_worthOf_81 kI_0 ?_
    exact GE.iret dX10_worthOf_82 rfl (Nat.le_refl _) (Nat.le_refl _)
  · refine GE.aload_n 0 dX10_worthOf_22 rfl rfl ?_
    refine GE.gR dX10_worthOf_23 lF_X10_25 (fun a7 => ?_)
    refine GE.iload_n 2 dX10_worthOf_26 rfl rfl ?_
    refine GE.iald dX10_worthOf_27 (fun x8 => ?_)
    refine GE.aload_n 0 dX10_worthOf_28 rfl rfl ?_
    refine GE.gR dX10_worthOf_29 lF_X10_28 (fun a9 => ?_)
    refine GE.iload_n 2 dX10_worthOf_32 rfl rfl ?_
    refine GE.iald dX10_worthOf_33 (fun x10 => ?_)
    refine GE.jo1 57 (fun (t11 : St) => [(0, .ref a0), (1, .int px1), (2, .int x2)]) (fun (t11 : St) => []) (fun (t11 : St) => t11) (fun t11 => ?_) (fun j12 hj12 => ?_)
    · refine GE.aload_n 0 dX10_worthOf_57 rfl rfl ?_
      refine GE.iload_n 1 dX10_worthOf_58 rfl rfl ?_
      refine GE.aload_n 0 dX10_worthOf_59 rfl rfl ?_
      refine GE.gR dX10_worthOf_60 lF_X10_28 (fun a13 => ?_)
      refine GE.iload_n 2 dX10_worthOf_63 rfl rfl ?_
      refine GE.iald dX10_worthOf_64 (fun x14 => ?_)
      refine GE.aload_n 0 dX10_worthOf_65 rfl rfl ?_
      refine GE.gR dX10_worthOf_66 lF_X10_31 (fun a15 => ?_)
      refine GE.iload_n 2 dX10_worthOf_69 rfl rfl ?_
      refine GE.iald dX10_worthOf_70 (fun x16 => ?_)
      refine GE.callvI [.int px1, .int x14, .int x16] dX10_worthOf_71 (lV_X10_213) rfl ⟨rfl, rfl⟩ (rokb rfl) (gX10_workOut t11 a0 px1 x14 x16) (fun x17 t18 => ?_)
      exact GE.iret dX10_worthOf_74 rfl (Nat.le_refl _) (Nat.le_refl _)
    · refine GE.icmp_eq (tgt := 57) dX10_worthOf_34 (by decide) ?_ ?_
      · exact hj12 t3
      · refine GE.aload_n 0 dX10_worthOf_37 rfl rfl ?_
        refine GE.iload_n 1 dX10_worthOf_38 rfl rfl ?_
        refine GE.aload_n 0 dX10_worthOf_39 rfl rfl ?_
        refine GE.gR dX10_worthOf_40 lF_X10_25 (fun a19 => ?_)
        refine GE.iload_n 2 dX10_worthOf_43 rfl rfl ?_
        refine GE.iald dX10_worthOf_44 (fun x20 => ?_)
        refine GE.aload_n 0 dX10_worthOf_45 rfl rfl ?_
        refine GE.gR dX10_worthOf_46 lF_X10_28 (fun a21 => ?_)
        refine GE.iload_n 2 dX10_worthOf_49 rfl rfl ?_
        refine GE.iald dX10_worthOf_50 (fun x22 => ?_)
        refine GE.callvI [.int px1, .int x20, .int x22] dX10_worthOf_51 (lV_X10_213) rfl ⟨rfl, rfl⟩ (rokb rfl) (gX10_workOut t3 a0 px1 x20 x22) (fun x23 t24 => ?_)
        refine GE.if_eq (tgt := 75) dX10_worthOf_54 (by decide) ?_ ?_
        · refine GE.iinc (lv' := [(0, .ref a0), (1, .int px1), (2, .int (x2 + 1))]) 2 dX10_worthOf_75 rfl kI_1 (by decide) [1, 2, 0] rfl ?_
          refine GE.goto (tgt := 6) dX10_worthOf_78 (by decide) ?_
          exact hl4 (x2 + 1) t24
        · exact hj12 t24
def fX10_reachBy (σ : St) (a0 : Nat) (px1 : Int32) (px2 : Int32) (px3 : Int32) (px4 : Int32) (px5 : Int32) : Option (Int32 × St) :=
  (gR 10 25 σ a0).bind fun a1 =>
  (aI 0 σ a1 ((4 * px1) + 3)).bind fun x2 =>
  (gI 10 30 σ a0).bind fun x3 =>
  jo2 (fun (x4 : Int32) (t5 : St) =>
    bd (fJ9_min_7cf53 t5 9 x4) (fun x7 t8 =>
    bd (fJ9_max_7cf53 t8 0 x7) (fun x9 t10 =>
    some (x9, t10)))) (fun j6 =>
    if x3 = (-1) then
      j6 x2 σ
    else
      (gR 10 15 σ a0).bind fun a11 =>
      (sI 0 σ a11 0 x2).bind (fun t12 =>
      (gR 10 15 t12 a0).bind fun a13 =>
      (sI 0 t12 a13 1 px2).bind (fun t14 =>
      (gR 10 15 t14 a0).bind fun a15 =>
      if 24 = 0 then none else
      (sI 0 t14 a15 2 (px3 - px3 / 24 * 24)).bind (fun t16 =>
      (gR 10 15 t16 a0).bind fun a17 =>
      (sI 0 t16 a17 3 px4).bind (fun t18 =>
      (gR 10 15 t18 a0).bind fun a19 =>
      (sI 0 t18 a19 4 px5).bind (fun t20 =>
      (gR 10 15 t20 a0).bind fun a21 =>
      (gI 10 27 t20 a0).bind fun x22 =>
      (sI 0 t20 a21 5 x22).bind (fun t23 =>
      (gI 10 30 t23 a0).bind fun x24 =>
      bo 10 t23 a0 (fX10_worthOf t23 a0 x24) (fun x25 t26 =>
      j6 x25 t26))))))))
set_option maxHeartbeats 4000000 in
set_option maxRecDepth 100000 in
theorem gX10_reachBy (σ : St) (a0 : Nat) (px1 : Int32) (px2 : Int32) (px3 : Int32) (px4 : Int32) (px5 : Int32) : CE vI mX10_reachBy [.ref a0, .int px1, .int px2, .int px3, .int px4, .int px5] σ (fX10_reachBy σ a0 px1 px2 px3 px4 px5) := by
  refine CE.ofGEF (lv := [(0, .ref a0), (1, .int px1), (2, .int px2), (3, .int px3), (4, .int px4), (5, .int px5)]) (by decide +kernel) (Nat.le_of_ble_eq_true rfl) rfl ?_
  unfold fX10_reachBy
  refine GE.aload_n 0 dX10_reachBy_0 rfl rfl ?_
  refine GE.gR dX10_reachBy_1 lF_X10_58 (fun a1 => ?_)
  refine GE.iconst dX10_reachBy_4 kI_4 ?_
  refine GE.iload_n 1 dX10_reachBy_5 rfl rfl ?_
  refine GE.imul dX10_reachBy_6 ?_
  refine GE.iconst dX10_reachBy_7 kI_3 ?_
  refine GE.iadd dX10_reachBy_8 ?_
  refine GE.iald dX10_reachBy_9 (fun x2 => ?_)
  refine GE.istore (lv' := [(0, .ref a0), (1, .int px1), (2, .int px2), (3, .int px3), (4, .int px4), (5, .int px5), (6, .int x2)]) dX10_reachBy_10 (by decide) [1, 2, 3, 4, 5, 6, 0] rfl ?_
  refine GE.aload_n 0 dX10_reachBy_12 rfl rfl ?_
  refine GE.gI dX10_reachBy_13 lF_X10_67 (fun x3 => ?_)
  refine GE.iconst dX10_reachBy_16 kI_m1 ?_
  refine GE.jo2 81 (fun (x4 : Int32) (t5 : St) => [(6, .int x4)]) (fun (x4 : Int32) (t5 : St) => []) (fun (x4 : Int32) (t5 : St) => t5) (fun x4 t5 => ?_) (fun j6 hj6 => ?_)
  · refine GE.iconst dX10_reachBy_81 kI_0 ?_
    refine GE.bipush dX10_reachBy_82 kB_9 ?_
    refine GE.iload 0 dX10_reachBy_84 rfl ?_
    refine GE.callsI [.int 9, .int x4] dX10_reachBy_86 (lT_X10_309) rfl ⟨rfl, rfl⟩ (rokb rfl) (gJ9_min_7cf53 t5 9 x4) (fun x7 t8 => ?_)
    refine GE.callsI [.int 0, .int x7] dX10_reachBy_89 (lT_X10_301) rfl ⟨rfl, rfl⟩ (rokb rfl) (gJ9_max_7cf53 t8 0 x7) (fun x9 t10 => ?_)
    exact GE.iret dX10_reachBy_92 rfl (Nat.le_refl _) (Nat.le_refl _)
  · refine GE.icmp_eq (tgt := 81) dX10_reachBy_17 (by decide) ?_ ?_
    · exact GE.sub [6] rfl (hj6 x2 σ)
    · refine GE.aload_n 0 dX10_reachBy_20 rfl rfl ?_
      refine GE.gR dX10_reachBy_21 lF_X10_34 (fun a11 => ?_)
      refine GE.iconst dX10_reachBy_24 kI_0 ?_
      refine GE.iload 6 dX10_reachBy_25 rfl ?_
      refine GE.iast dX10_reachBy_27 (fun t12 => ?_)
      refine GE.aload_n 0 dX10_reachBy_28 rfl rfl ?_
      refine GE.gR dX10_reachBy_29 lF_X10_34 (fun a13 => ?_)
      refine GE.iconst dX10_reachBy_32 kI_1 ?_
      refine GE.iload_n 2 dX10_reachBy_33 rfl rfl ?_
      refine GE.iast dX10_reachBy_34 (fun t14 => ?_)
      refine GE.aload_n 0 dX10_reachBy_35 rfl rfl ?_
      refine GE.gR dX10_reachBy_36 lF_X10_34 (fun a15 => ?_)
      refine GE.iconst dX10_reachBy_39 kI_2 ?_
      refine GE.iload_n 3 dX10_reachBy_40 rfl rfl ?_
      refine GE.bipush dX10_reachBy_41 kB_24 ?_
      refine GE.irem dX10_reachBy_43 ?_
      refine GE.iast dX10_reachBy_44 (fun t16 => ?_)
      refine GE.aload_n 0 dX10_reachBy_45 rfl rfl ?_
      refine GE.gR dX10_reachBy_46 lF_X10_34 (fun a17 => ?_)
      refine GE.iconst dX10_reachBy_49 kI_3 ?_
      refine GE.iload 4 dX10_reachBy_50 rfl ?_
      refine GE.iast dX10_reachBy_52 (fun t18 => ?_)
      refine GE.aload_n 0 dX10_reachBy_53 rfl rfl ?_
      refine GE.gR dX10_reachBy_54 lF_X10_34 (fun a19 => ?_)
      refine GE.iconst dX10_reachBy_57 kI_4 ?_
      refine GE.iload 5 dX10_reachBy_58 rfl ?_
      refine GE.iast dX10_reachBy_60 (fun t20 => ?_)
      refine GE.aload_n 0 dX10_reachBy_61 rfl rfl ?_
      refine GE.gR dX10_reachBy_62 lF_X10_34 (fun a21 => ?_)
      refine GE.iconst dX10_reachBy_65 kI_5 ?_
      refine GE.aload_n 0 dX10_reachBy_66 rfl rfl ?_
      refine GE.gI dX10_reachBy_67 lF_X10_261 (fun x22 => ?_)
      refine GE.iast dX10_reachBy_70 (fun t23 => ?_)
      refine GE.aload_n 0 dX10_reachBy_71 rfl rfl ?_
      refine GE.aload_n 0 dX10_reachBy_72 rfl rfl ?_
      refine GE.gI dX10_reachBy_73 lF_X10_67 (fun x24 => ?_)
      refine GE.callvI [.int x24] dX10_reachBy_76 (lV_X10_306) rfl ⟨rfl, rfl⟩ (rokb rfl) (gX10_worthOf t23 a0 x24) (fun x25 t26 => ?_)
      refine GE.istore (lv' := [(0, .ref a0), (1, .int px1), (2, .int px2), (3, .int px3), (4, .int px4), (5, .int px5), (6, .int x25)]) dX10_reachBy_79 (by decide) [1, 2, 3, 4, 5, 6, 0] rfl ?_
      exact GE.sub [6] rfl (hj6 x25 t26)
def fX10_seesTold (σ : St) (a0 : Nat) (px1 : Int32) (px2 : Int32) (px3 : Int32) : Option (Int32 × St) :=
  (gR 10 24 σ a0).bind fun a1 =>
  (aI 0 σ a1 px2).bind fun x2 =>
  (gR 10 24 σ a0).bind fun a3 =>
  (sI 0 σ a3 px2 px3).bind (fun t4 =>
  (gR 10 24 t4 a0).bind fun a5 =>
  bo 10 t4 a0 (fX10_firstSpot t4 a0 px1) (fun x6 t7 =>
  (aI 0 t7 a5 x6).bind fun x8 =>
  (gR 10 25 t7 a0).bind fun a9 =>
  (aI 0 t7 a9 ((4 * px1) + 2)).bind fun x10 =>
  (gR 10 24 t7 a0).bind fun a11 =>
  bo 10 t7 a0 (fX10_firstSpot t7 a0 px1) (fun x12 t13 =>
  (gR 10 23 t13 a0).bind fun a14 =>
  (aI 0 t13 a14 3).bind fun x15 =>
  bo 10 t13 a0 (fX10_reachBy t13 a0 px1 x15 0 x8 x10) (fun x16 t17 =>
  (gR 10 23 t17 a0).bind fun a18 =>
  (aI 0 t17 a18 3).bind fun x19 =>
  bo 10 t17 a0 (fX10_isSeen t17 a0 a11 x12 (x8 + x10) x16 x19 px2) (fun x20 t21 =>
  (gR 10 24 t21 a0).bind fun a22 =>
  (sI 0 t21 a22 px2 x2).bind (fun t23 =>
  if x20 = 0 ∨ x20 = 1 then some (x20, t23) else none))))))
set_option maxHeartbeats 4000000 in
set_option maxRecDepth 100000 in
theorem gX10_seesTold (σ : St) (a0 : Nat) (px1 : Int32) (px2 : Int32) (px3 : Int32) : CE vI mX10_seesTold [.ref a0, .int px1, .int px2, .int px3] σ (fX10_seesTold σ a0 px1 px2 px3) := by
  refine CE.ofGEF (lv := [(0, .ref a0), (1, .int px1), (2, .int px2), (3, .int px3)]) (by decide +kernel) (Nat.le_of_ble_eq_true rfl) rfl ?_
  unfold fX10_seesTold
  refine GE.aload_n 0 dX10_seesTold_0 rfl rfl ?_
  refine GE.gR dX10_seesTold_1 lF_X10_55 (fun a1 => ?_)
  refine GE.iload_n 2 dX10_seesTold_4 rfl rfl ?_
  refine GE.iald dX10_seesTold_5 (fun x2 => ?_)
  refine GE.istore (lv' := [(0, .ref a0), (1, .int px1), (2, .int px2), (3, .int px3), (4, .int x2)]) dX10_seesTold_6 (by decide) [1, 2, 3, 4, 0] rfl ?_
  refine GE.aload_n 0 dX10_seesTold_8 rfl rfl ?_
  refine GE.gR dX10_seesTold_9 lF_X10_55 (fun a3 => ?_)
  refine GE.iload_n 2 dX10_seesTold_12 rfl rfl ?_
  refine GE.iload_n 3 dX10_seesTold_13 rfl rfl ?_
  refine GE.iast dX10_seesTold_14 (fun t4 => ?_)
  refine GE.aload_n 0 dX10_seesTold_15 rfl rfl ?_
  refine GE.gR dX10_seesTold_16 lF_X10_55 (fun a5 => ?_)
  refine GE.aload_n 0 dX10_seesTold_19 rfl rfl ?_
  refine GE.iload_n 1 dX10_seesTold_20 rfl rfl ?_
  refine GE.callvI [.int px1] dX10_seesTold_21 (lV_X10_267) rfl ⟨rfl, rfl⟩ (rokb rfl) (gX10_firstSpot t4 a0 px1) (fun x6 t7 => ?_)
  refine GE.iald dX10_seesTold_24 (fun x8 => ?_)
  refine GE.istore (lv' := [(0, .ref a0), (1, .int px1), (2, .int px2), (3, .int px3), (4, .int x2), (5, .int x8)]) dX10_seesTold_25 (by decide) [1, 2, 3, 4, 5, 0] rfl ?_
  refine GE.aload_n 0 dX10_seesTold_27 rfl rfl ?_
  refine GE.gR dX10_seesTold_28 lF_X10_58 (fun a9 => ?_)
  refine GE.iconst dX10_seesTold_31 kI_4 ?_
  refine GE.iload_n 1 dX10_seesTold_32 rfl rfl ?_
  refine GE.imul dX10_seesTold_33 ?_
  refine GE.iconst dX10_seesTold_34 kI_2 ?_
  refine GE.iadd dX10_seesTold_35 ?_
  refine GE.iald dX10_seesTold_36 (fun x10 => ?_)
  refine GE.istore (lv' := [(0, .ref a0), (1, .int px1), (2, .int px2), (3, .int px3), (4, .int x2), (5, .int x8), (6, .int x10)]) dX10_seesTold_37 (by decide) [1, 2, 3, 4, 5, 6, 0] rfl ?_
  refine GE.aload_n 0 dX10_seesTold_39 rfl rfl ?_
  refine GE.aload_n 0 dX10_seesTold_40 rfl rfl ?_
  refine GE.gR dX10_seesTold_41 lF_X10_55 (fun a11 => ?_)
  refine GE.aload_n 0 dX10_seesTold_44 rfl rfl ?_
  refine GE.iload_n 1 dX10_seesTold_45 rfl rfl ?_
  refine GE.callvI [.int px1] dX10_seesTold_46 (lV_X10_267) rfl ⟨rfl, rfl⟩ (rokb rfl) (gX10_firstSpot t7 a0 px1) (fun x12 t13 => ?_)
  refine GE.iload 5 dX10_seesTold_49 rfl ?_
  refine GE.iload 6 dX10_seesTold_51 rfl ?_
  refine GE.iadd dX10_seesTold_53 ?_
  refine GE.aload_n 0 dX10_seesTold_54 rfl rfl ?_
  refine GE.iload_n 1 dX10_seesTold_55 rfl rfl ?_
  refine GE.aload_n 0 dX10_seesTold_56 rfl rfl ?_
  refine GE.gR dX10_seesTold_57 lF_X10_52 (fun a14 => ?_)
  refine GE.iconst dX10_seesTold_60 kI_3 ?_
  refine GE.iald dX10_seesTold_61 (fun x15 => ?_)
  refine GE.iconst dX10_seesTold_62 kI_0 ?_
  refine GE.iload 5 dX10_seesTold_63 rfl ?_
  refine GE.iload 6 dX10_seesTold_65 rfl ?_
  refine GE.callvI [.int px1, .int x15, .int 0, .int x8, .int x10] dX10_seesTold_67 (lV_X10_314) rfl ⟨rfl, rfl⟩ (rokb rfl) (gX10_reachBy t13 a0 px1 x15 0 x8 x10) (fun x16 t17 => ?_)
  refine GE.aload_n 0 dX10_seesTold_70 rfl rfl ?_
  refine GE.gR dX10_seesTold_71 lF_X10_52 (fun a18 => ?_)
  refine GE.iconst dX10_seesTold_74 kI_3 ?_
  refine GE.iald dX10_seesTold_75 (fun x19 => ?_)
  refine GE.iload_n 2 dX10_seesTold_76 rfl rfl ?_
  refine GE.callvI [.ref a11, .int x12, .int (x8 + x10), .int x16, .int x19, .int px2] dX10_seesTold_77 (lV_X10_321) rfl ⟨rfl, rfl⟩ (rokb rfl) (gX10_isSeen t17 a0 a11 x12 (x8 + x10) x16 x19 px2) (fun x20 t21 => ?_)
  refine GE.istore (lv' := [(0, .ref a0), (1, .int px1), (2, .int px2), (3, .int px3), (4, .int x2), (5, .int x8), (6, .int x10), (7, .int x20)]) dX10_seesTold_80 (by decide) [1, 2, 3, 4, 5, 6, 7, 0] rfl ?_
  refine GE.aload_n 0 dX10_seesTold_82 rfl rfl ?_
  refine GE.gR dX10_seesTold_83 lF_X10_55 (fun a22 => ?_)
  refine GE.iload_n 2 dX10_seesTold_86 rfl rfl ?_
  refine GE.iload 4 dX10_seesTold_87 rfl ?_
  refine GE.iast dX10_seesTold_89 (fun t23 => ?_)
  refine GE.iload 7 dX10_seesTold_90 rfl ?_
  exact GE.zret dX10_seesTold_92 rfl (Nat.le_refl _) (Nat.le_refl _)
def fX10_isHigh (σ : St) (a0 : Nat) (px1 : Int32) (px2 : Int32) : Option (Int32 × St) :=
  lo2 (fun l3 (x1 : Int32) (t2 : St) =>
    (gI 10 40 t2 a0).bind fun x4 =>
  if x4 ≤ x1 then
    some (1, t2)
  else
    (gR 10 38 t2 a0).bind fun a5 =>
    (aI 0 t2 a5 x1).bind fun x6 =>
    jo1 (fun (t7 : St) =>
      l3 (x1 + 1) t7) (fun j8 =>
      if x6 = px1 then
        (gR 10 37 t2 a0).bind fun a9 =>
        (aI 0 t2 a9 x1).bind fun x10 =>
        bo 10 t2 a0 (fX10_seesTold t2 a0 x10 px1 px2) (fun x11 t12 =>
        (gR 10 39 t12 a0).bind fun a13 =>
        (aI 1 t12 a13 x1).bind fun x14 =>
        if x11 = x14 then
          j8 t12
        else
          some (0, t12))
      else
        j8 t2)) FU 0 σ
set_option maxHeartbeats 4000000 in
set_option maxRecDepth 100000 in
theorem gX10_isHigh (σ : St) (a0 : Nat) (px1 : Int32) (px2 : Int32) : CE vI mX10_isHigh [.ref a0, .int px1, .int px2] σ (fX10_isHigh σ a0 px1 px2) := by
  refine CE.ofGEF (lv := [(0, .ref a0), (1, .int px1), (2, .int px2)]) (by decide +kernel) (Nat.le_of_ble_eq_true rfl) rfl ?_
  unfold fX10_isHigh
  refine GE.iconst dX10_isHigh_0 kI_0 ?_
  refine GE.istore_n (lv' := [(0, .ref a0), (1, .int px1), (2, .int px2), (3, .int 0)]) dX10_isHigh_1 rfl (by decide) [1, 2, 3, 0] rfl ?_
  refine (GE.lo2 (fun (x1 : Int32) (t2 : St) => [(0, .ref a0), (1, .int px1), (2, .int px2), (3, .int x1)]) (fun (x1 : Int32) (t2 : St) => []) (fun (x1 : Int32) (t2 : St) => t2) (fun l3 hl3 x1 t2 => ?_) FU 0 σ)
  refine GE.iload_n 3 dX10_isHigh_2 rfl rfl ?_
  refine GE.aload_n 0 dX10_isHigh_3 rfl rfl ?_
  refine GE.gI dX10_isHigh_4 lF_X10_270 (fun x4 => ?_)
  refine GE.icmp_ge (tgt := 49) dX10_isHigh_7 (by decide) ?_ ?_
  · refine GE.iconst dX10_isHigh_49 kI_1 ?_
    exact GE.zretk dX10_isHigh_50 rfl (Nat.le_refl _) (Nat.le_refl _) (by decide)
  · refine GE.aload_n 0 dX10_isHigh_10 rfl rfl ?_
    refine GE.gR dX10_isHigh_11 lF_X10_86 (fun a5 => ?_)
    refine GE.iload_n 3 dX10_isHigh_14 rfl rfl ?_
    refine GE.iald dX10_isHigh_15 (fun x6 => ?_)
    refine GE.iload_n 1 dX10_isHigh_16 rfl rfl ?_
    refine GE.jo1 43 (fun (t7 : St) => [(0, .ref a0), (1, .int px1), (2, .int px2), (3, .int x1)]) (fun (t7 : St) => []) (fun (t7 : St) => t7) (fun t7 => ?_) (fun j8 hj8 => ?_)
    · refine GE.iinc (lv' := [(0, .ref a0), (1, .int px1), (2, .int px2), (3, .int (x1 + 1))]) 3 dX10_isHigh_43 rfl kI_1 (by decide) [1, 2, 3, 0] rfl ?_
      refine GE.goto (tgt := 2) dX10_isHigh_46 (by decide) ?_
      exact hl3 (x1 + 1) t7
    · refine GE.icmp_ne (tgt := 43) dX10_isHigh_17 (by decide) ?_ ?_
      · exact hj8 t2
      · refine GE.aload_n 0 dX10_isHigh_20 rfl rfl ?_
        refine GE.aload_n 0 dX10_isHigh_21 rfl rfl ?_
        refine GE.gR dX10_isHigh_22 lF_X10_83 (fun a9 => ?_)
        refine GE.iload_n 3 dX10_isHigh_25 rfl rfl ?_
        refine GE.iald dX10_isHigh_26 (fun x10 => ?_)
        refine GE.iload_n 1 dX10_isHigh_27 rfl rfl ?_
        refine GE.iload_n 2 dX10_isHigh_28 rfl rfl ?_
        refine GE.callvI [.int x10, .int px1, .int px2] dX10_isHigh_29 (lV_X10_392) rfl ⟨rfl, rfl⟩ (rokb rfl) (gX10_seesTold t2 a0 x10 px1 px2) (fun x11 t12 => ?_)
        refine GE.aload_n 0 dX10_isHigh_32 rfl rfl ?_
        refine GE.gR dX10_isHigh_33 lF_X10_89 (fun a13 => ?_)
        refine GE.iload_n 3 dX10_isHigh_36 rfl rfl ?_
        refine GE.zald dX10_isHigh_37 (fun x14 => ?_)
        refine GE.icmp_eq (tgt := 43) dX10_isHigh_38 (by decide) ?_ ?_
        · exact hj8 t12
        · refine GE.iconst dX10_isHigh_41 kI_0 ?_
          exact GE.zretk dX10_isHigh_42 rfl (Nat.le_refl _) (Nat.le_refl _) (by decide)
def fX10_heights (σ : St) (a0 : Nat) (px1 : Int32) (px2 : Int32) : Option (Int32 × St) :=
  bo 10 σ a0 (fX10_isCell σ a0 px1) (fun x1 t2 =>
  if x1 = 0 then
    some ((-1), t2)
  else
    if (-1) ≤ px2 then
      lo3 (fun l6 (x3 : Int32) (x4 : Int32) (t5 : St) =>
        if 9 < x4 then
        if px2 = (-1) then
          some (x3, t5)
        else
          some ((-1), t5)
      else
        bo 10 t5 a0 (fX10_isHigh t5 a0 px1 x4) (fun x7 t8 =>
        jo1 (fun (x9 : Int32) =>
          l6 x9 (x4 + 1) t8) (fun j10 =>
          if x7 = 0 then
            j10 x3
          else
            if x3 = px2 then
              some (x4, t8)
            else
              j10 (x3 + 1)))) FU 0 0 t2
    else
      some ((-1), t2))
set_option maxHeartbeats 4000000 in
set_option maxRecDepth 100000 in
theorem gX10_heights (σ : St) (a0 : Nat) (px1 : Int32) (px2 : Int32) : CE vI mX10_heights [.ref a0, .int px1, .int px2] σ (fX10_heights σ a0 px1 px2) := by
  refine CE.ofGEF (lv := [(0, .ref a0), (1, .int px1), (2, .int px2)]) (by decide +kernel) (Nat.le_of_ble_eq_true rfl) rfl ?_
  unfold fX10_heights
  refine GE.aload_n 0 dX10_heights_0 rfl rfl ?_
  refine GE.iload_n 1 dX10_heights_1 rfl rfl ?_
  refine GE.callvI [.int px1] dX10_heights_2 (lV_X10_337) rfl ⟨rfl, rfl⟩ (rokb rfl) (gX10_isCell σ a0 px1) (fun x1 t2 => ?_)
  refine GE.if_eq (tgt := 13) dX10_heights_5 (by decide) ?_ ?_
  · refine GE.iconst dX10_heights_13 kI_m1 ?_
    exact GE.iret dX10_heights_14 rfl (Nat.le_refl _) (Nat.le_refl _)
  · refine GE.iload_n 2 dX10_heights_8 rfl rfl ?_
    refine GE.iconst dX10_heights_9 kI_m1 ?_
    refine GE.icmp_ge (tgt := 15) dX10_heights_10 (by decide) ?_ ?_
    · refine GE.iconst dX10_heights_15 kI_0 ?_
      refine GE.istore_n (lv' := [(0, .ref a0), (1, .int px1), (2, .int px2), (3, .int 0)]) dX10_heights_16 rfl (by decide) [1, 2, 3, 0] rfl ?_
      refine GE.iconst dX10_heights_17 kI_0 ?_
      refine GE.istore (lv' := [(0, .ref a0), (1, .int px1), (2, .int px2), (3, .int 0), (4, .int 0)]) dX10_heights_18 (by decide) [1, 2, 3, 4, 0] rfl ?_
      refine (GE.lo3 (fun (x3 : Int32) (x4 : Int32) (t5 : St) => [(0, .ref a0), (1, .int px1), (2, .int px2), (3, .int x3), (4, .int x4)]) (fun (x3 : Int32) (x4 : Int32) (t5 : St) => []) (fun (x3 : Int32) (x4 : Int32) (t5 : St) => t5) (fun l6 hl6 x3 x4 t5 => ?_) FU 0 0 t2)
      refine GE.iload 4 dX10_heights_20 rfl ?_
      refine GE.bipush dX10_heights_22 kB_9 ?_
      refine GE.icmp_gt (tgt := 54) dX10_heights_24 (by decide) ?_ ?_
      · refine GE.iload_n 2 dX10_heights_54 rfl rfl ?_
        refine GE.iconst dX10_heights_55 kI_m1 ?_
        refine GE.icmp_ne (tgt := 63) dX10_heights_56 (by decide) ?_ ?_
        · refine GE.iconst dX10_heights_63 kI_m1 ?_
          exact GE.iret dX10_heights_64 rfl (Nat.le_refl _) (Nat.le_refl _)
        · refine GE.iload_n 3 dX10_heights_59 rfl rfl ?_
          refine GE.goto (tgt := 64) dX10_heights_60 (by decide) ?_
          exact GE.iret dX10_heights_64 rfl (Nat.le_refl _) (Nat.le_refl _)
      · refine GE.aload_n 0 dX10_heights_27 rfl rfl ?_
        refine GE.iload_n 1 dX10_heights_28 rfl rfl ?_
        refine GE.iload 4 dX10_heights_29 rfl ?_
        refine GE.callvI [.int px1, .int x4] dX10_heights_31 (lV_X10_395) rfl ⟨rfl, rfl⟩ (rokb rfl) (gX10_isHigh t5 a0 px1 x4) (fun x7 t8 => ?_)
        refine GE.jo1 48 (fun (x9 : Int32) => [(0, .ref a0), (1, .int px1), (2, .int px2), (3, .int x9), (4, .int x4)]) (fun (x9 : Int32) => []) (fun (x9 : Int32) => t8) (fun x9 => ?_) (fun j10 hj10 => ?_)
        · refine GE.iinc (lv' := [(0, .ref a0), (1, .int px1), (2, .int px2), (3, .int x9), (4, .int (x4 + 1))]) 4 dX10_heights_48 rfl kI_1 (by decide) [1, 2, 3, 4, 0] rfl ?_
          refine GE.goto (tgt := 20) dX10_heights_51 (by decide) ?_
          exact hl6 x9 (x4 + 1) t8
        · refine GE.if_eq (tgt := 48) dX10_heights_34 (by decide) ?_ ?_
          · exact hj10 x3
          · refine GE.iload_n 3 dX10_heights_37 rfl rfl ?_
            refine GE.iload_n 2 dX10_heights_38 rfl rfl ?_
            refine GE.icmp_ne (tgt := 45) dX10_heights_39 (by decide) ?_ ?_
            · refine GE.iinc (lv' := [(0, .ref a0), (1, .int px1), (2, .int px2), (3, .int (x3 + 1)), (4, .int x4)]) 3 dX10_heights_45 rfl kI_1 (by decide) [1, 2, 3, 0, 4] rfl ?_
              exact hj10 (x3 + 1)
            · refine GE.iload 4 dX10_heights_42 rfl ?_
              exact GE.iret dX10_heights_44 rfl (Nat.le_refl _) (Nat.le_refl _)
    · refine GE.iconst dX10_heights_13 kI_m1 ?_
      exact GE.iret dX10_heights_14 rfl (Nat.le_refl _) (Nat.le_refl _)
def fX10_ask (σ : St) (a0 : Nat) (px1 : Int32) : Option (Int32 × St) :=
  bo 10 σ a0 (fX10_isCell σ a0 px1) (fun x1 t2 =>
  if x1 = 0 then
    some ((-1), t2)
  else
    bo 10 t2 a0 (fX10_heights t2 a0 px1 0) (fun x3 t4 =>
    if x3 = (-1) then
      some ((-1), t4)
    else
      lo4 (fun l9 (x5 : Int32) (x6 : Int32) (x7 : Int32) (t8 : St) =>
        (gI 10 27 t8 a0).bind fun x10 =>
      if x10 ≤ x7 then
        some (x5, t8)
      else
        lo3 (fun l14 (x11 : Int32) (x12 : Int32) (t13 : St) =>
          if 9 < x12 then
          jo3 (fun (x15 : Int32) (x16 : Int32) (t17 : St) =>
            l9 x15 x16 (x7 + 1) t17) (fun j18 =>
            jo1 (fun (t19 : St) =>
              bd (fJ9_abs_0f7a4 t19 x11) (fun x21 t22 =>
              j18 x7 x21 t22)) (fun j20 =>
              if x5 = (-1) then
                j20 t13
              else
                bd (fJ9_abs_0f7a4 t13 x11) (fun x23 t24 =>
                if x6 ≤ x23 then
                  j18 x5 x6 t24
                else
                  j20 t24)))
        else
          bo 10 t13 a0 (fX10_isHigh t13 a0 px1 x12) (fun x25 t26 =>
          jo3 (fun (v27 : Int32) (v28 : Int32) (t29 : St) =>
            nam (v28 + v27 : Int32) (fun x31 =>
            l14 x31 (x12 + 1) t29)) (fun j30 =>
            if x25 = 0 then
              j30 0 x11 t26
            else
              bo 10 t26 a0 (fX10_seesTold t26 a0 x7 px1 x12) (fun x32 t33 =>
              if x32 = 0 then
                j30 ((-1)) x11 t33
              else
                j30 1 x11 t33)))) FU 0 0 t8) FU ((-1)) 0 0 t4))
set_option maxHeartbeats 4000000 in
set_option maxRecDepth 100000 in
theorem gX10_ask (σ : St) (a0 : Nat) (px1 : Int32) : CE vI mX10_ask [.ref a0, .int px1] σ (fX10_ask σ a0 px1) := by
  refine CE.ofGEF (lv := [(0, .ref a0), (1, .int px1)]) (by decide +kernel) (Nat.le_of_ble_eq_true rfl) rfl ?_
  unfold fX10_ask
  refine GE.aload_n 0 dX10_ask_0 rfl rfl ?_
  refine GE.iload_n 1 dX10_ask_1 rfl rfl ?_
  refine GE.callvI [.int px1] dX10_ask_2 (lV_X10_337) rfl ⟨rfl, rfl⟩ (rokb rfl) (gX10_isCell σ a0 px1) (fun x1 t2 => ?_)
  refine GE.if_eq (tgt := 18) dX10_ask_5 (by decide) ?_ ?_
  · refine GE.iconst dX10_ask_18 kI_m1 ?_
    exact GE.iret dX10_ask_19 rfl (Nat.le_refl _) (Nat.le_refl _)
  · refine GE.aload_n 0 dX10_ask_8 rfl rfl ?_
    refine GE.iload_n 1 dX10_ask_9 rfl rfl ?_
    refine GE.iconst dX10_ask_10 kI_0 ?_
    refine GE.callvI [.int px1, .int 0] dX10_ask_11 (lV_X10_398) rfl ⟨rfl, rfl⟩ (rokb rfl) (gX10_heights t2 a0 px1 0) (fun x3 t4 => ?_)
    refine GE.iconst dX10_ask_14 kI_m1 ?_
    refine GE.icmp_ne (tgt := 20) dX10_ask_15 (by decide) ?_ ?_
    · refine GE.iconst dX10_ask_20 kI_m1 ?_
      refine GE.istore_n (lv' := [(0, .ref a0), (1, .int px1), (2, .int ((-1)))]) dX10_ask_21 rfl (by decide) [1, 2, 0] rfl ?_
      refine GE.iconst dX10_ask_22 kI_0 ?_
      refine GE.istore_n (lv' := [(0, .ref a0), (1, .int px1), (2, .int ((-1))), (3, .int 0)]) dX10_ask_23 rfl (by decide) [1, 2, 3, 0] rfl ?_
      refine GE.iconst dX10_ask_24 kI_0 ?_
      refine GE.istore (lv' := [(0, .ref a0), (1, .int px1), (2, .int ((-1))), (3, .int 0), (4, .int 0)]) dX10_ask_25 (by decide) [1, 2, 3, 4, 0] rfl ?_
      refine (GE.lo4 (fun (x5 : Int32) (x6 : Int32) (x7 : Int32) (t8 : St) => [(0, .ref a0), (1, .int px1), (2, .int x5), (3, .int x6), (4, .int x7)]) (fun (x5 : Int32) (x6 : Int32) (x7 : Int32) (t8 : St) => []) (fun (x5 : Int32) (x6 : Int32) (x7 : Int32) (t8 : St) => t8) (fun l9 hl9 x5 x6 x7 t8 => ?_) FU ((-1)) 0 0 t4)
      refine GE.iload 4 dX10_ask_27 rfl ?_
      refine GE.aload_n 0 dX10_ask_29 rfl rfl ?_
      refine GE.gI dX10_ask_30 lF_X10_261 (fun x10 => ?_)
      refine GE.icmp_ge (tgt := 120) dX10_ask_33 (by decide) ?_ ?_
      · refine GE.iload_n 2 dX10_ask_120 rfl rfl ?_
        exact GE.iret dX10_ask_121 rfl (Nat.le_refl _) (Nat.le_refl _)
      · refine GE.iconst dX10_ask_36 kI_0 ?_
        refine GE.istore (lv' := [(0, .ref a0), (1, .int px1), (2, .int x5), (3, .int x6), (4, .int x7), (5, .int 0)]) dX10_ask_37 (by decide) [1, 2, 3, 4, 5, 0] rfl ?_
        refine GE.iconst dX10_ask_39 kI_0 ?_
        refine GE.istore (lv' := [(0, .ref a0), (1, .int px1), (2, .int x5), (3, .int x6), (4, .int x7), (5, .int 0), (6, .int 0)]) dX10_ask_40 (by decide) [1, 2, 3, 4, 5, 6, 0] rfl ?_
        refine (GE.lo3 (fun (x11 : Int32) (x12 : Int32) (t13 : St) => [(0, .ref a0), (1, .int px1), (2, .int x5), (3, .int x6), (4, .int x7), (5, .int x11), (6, .int x12)]) (fun (x11 : Int32) (x12 : Int32) (t13 : St) => []) (fun (x11 : Int32) (x12 : Int32) (t13 : St) => t13) (fun l14 hl14 x11 x12 t13 => ?_) FU 0 0 t8)
        refine GE.iload 6 dX10_ask_42 rfl ?_
        refine GE.bipush dX10_ask_44 kB_9 ?_
        refine GE.icmp_gt (tgt := 91) dX10_ask_46 (by decide) ?_ ?_
        · refine GE.iload_n 2 dX10_ask_91 rfl rfl ?_
          refine GE.iconst dX10_ask_92 kI_m1 ?_
          refine GE.jo3 114 (fun (x15 : Int32) (x16 : Int32) (t17 : St) => [(0, .ref a0), (1, .int px1), (2, .int x15), (3, .int x16), (4, .int x7)]) (fun (x15 : Int32) (x16 : Int32) (t17 : St) => []) (fun (x15 : Int32) (x16 : Int32) (t17 : St) => t17) (fun x15 x16 t17 => ?_) (fun j18 hj18 => ?_)
          · refine GE.iinc (lv' := [(0, .ref a0), (1, .int px1), (2, .int x15), (3, .int x16), (4, .int (x7 + 1))]) 4 dX10_ask_114 rfl kI_1 (by decide) [1, 2, 3, 4, 0] rfl ?_
            refine GE.goto (tgt := 27) dX10_ask_117 (by decide) ?_
            exact hl9 x15 x16 (x7 + 1) t17
          · refine GE.jo1 105 (fun (t19 : St) => [(0, .ref a0), (1, .int px1), (4, .int x7), (5, .int x11)]) (fun (t19 : St) => []) (fun (t19 : St) => t19) (fun t19 => ?_) (fun j20 hj20 => ?_)
            · refine GE.iload 2 dX10_ask_105 rfl ?_
              refine GE.istore_n (lv' := [(0, .ref a0), (1, .int px1), (2, .int x7), (4, .int x7), (5, .int x11)]) dX10_ask_107 rfl (by decide) [1, 2, 0, 3, 4] rfl ?_
              refine GE.iload 4 dX10_ask_108 rfl ?_
              refine GE.callsI [.int x11] dX10_ask_110 (lT_X10_298) rfl ⟨rfl, rfl⟩ (rokb rfl) (gJ9_abs_0f7a4 t19 x11) (fun x21 t22 => ?_)
              refine GE.istore_n (lv' := [(0, .ref a0), (1, .int px1), (2, .int x7), (3, .int x21), (4, .int x7), (5, .int x11)]) dX10_ask_113 rfl (by decide) [1, 2, 3, 0, 4, 5] rfl ?_
              exact GE.sub [0, 1, 2, 3, 4] rfl (hj18 x7 x21 t22)
            · refine GE.icmp_eq (tgt := 105) dX10_ask_93 (by decide) ?_ ?_
              · exact GE.sub [0, 1, 4, 5] rfl (hj20 t13)
              · refine GE.iload 5 dX10_ask_96 rfl ?_
                refine GE.callsI [.int x11] dX10_ask_98 (lT_X10_298) rfl ⟨rfl, rfl⟩ (rokb rfl) (gJ9_abs_0f7a4 t13 x11) (fun x23 t24 => ?_)
                refine GE.iload_n 3 dX10_ask_101 rfl rfl ?_
                refine GE.icmp_ge (tgt := 114) dX10_ask_102 (by decide) ?_ ?_
                · exact GE.sub [0, 1, 2, 3, 4] rfl (hj18 x5 x6 t24)
                · exact GE.sub [0, 1, 4, 5] rfl (hj20 t24)
        · refine GE.iload 5 dX10_ask_49 rfl ?_
          refine GE.aload_n 0 dX10_ask_51 rfl rfl ?_
          refine GE.iload_n 1 dX10_ask_52 rfl rfl ?_
          refine GE.iload 6 dX10_ask_53 rfl ?_
          refine GE.callvI [.int px1, .int x12] dX10_ask_55 (lV_X10_395) rfl ⟨rfl, rfl⟩ (rokb rfl) (gX10_isHigh t13 a0 px1 x12) (fun x25 t26 => ?_)
          refine GE.jo3 82 (fun (v27 : Int32) (v28 : Int32) (t29 : St) => [(0, .ref a0), (1, .int px1), (2, .int x5), (3, .int x6), (4, .int x7), (6, .int x12)]) (fun (v27 : Int32) (v28 : Int32) (t29 : St) => [.int v27, .int v28]) (fun (v27 : Int32) (v28 : Int32) (t29 : St) => t29) (fun v27 v28 t29 => ?_) (fun j30 hj30 => ?_)
          · refine GE.iadd dX10_ask_82 ?_
            refine GE.nami (fun x31 => ?_)
            refine GE.istore (lv' := [(0, .ref a0), (1, .int px1), (2, .int x5), (3, .int x6), (4, .int x7), (5, .int x31), (6, .int x12)]) dX10_ask_83 (by decide) [1, 2, 3, 4, 5, 0, 6] rfl ?_
            refine GE.iinc (lv' := [(0, .ref a0), (1, .int px1), (2, .int x5), (3, .int x6), (4, .int x7), (5, .int x31), (6, .int (x12 + 1))]) 6 dX10_ask_85 rfl kI_1 (by decide) [1, 2, 3, 4, 5, 6, 0] rfl ?_
            refine GE.goto (tgt := 42) dX10_ask_88 (by decide) ?_
            exact hl14 x31 (x12 + 1) t29
          · refine GE.if_ne (tgt := 65) dX10_ask_58 (by decide) ?_ ?_
            · refine GE.aload_n 0 dX10_ask_65 rfl rfl ?_
              refine GE.iload 4 dX10_ask_66 rfl ?_
              refine GE.iload_n 1 dX10_ask_68 rfl rfl ?_
              refine GE.iload 6 dX10_ask_69 rfl ?_
              refine GE.callvI [.int x7, .int px1, .int x12] dX10_ask_71 (lV_X10_392) rfl ⟨rfl, rfl⟩ (rokb rfl) (gX10_seesTold t26 a0 x7 px1 x12) (fun x32 t33 => ?_)
              refine GE.if_eq (tgt := 81) dX10_ask_74 (by decide) ?_ ?_
              · refine GE.iconst dX10_ask_81 kI_m1 ?_
                exact GE.sub [0, 1, 2, 3, 4, 6] rfl (hj30 ((-1)) x11 t33)
              · refine GE.iconst dX10_ask_77 kI_1 ?_
                refine GE.goto (tgt := 82) dX10_ask_78 (by decide) ?_
                exact GE.sub [0, 1, 2, 3, 4, 6] rfl (hj30 1 x11 t33)
            · refine GE.iconst dX10_ask_61 kI_0 ?_
              refine GE.goto (tgt := 82) dX10_ask_62 (by decide) ?_
              exact GE.sub [0, 1, 2, 3, 4, 6] rfl (hj30 0 x11 t26)
    · refine GE.iconst dX10_ask_18 kI_m1 ?_
      exact GE.iret dX10_ask_19 rfl (Nat.le_refl _) (Nat.le_refl _)
def fX10_back (σ : St) (a0 : Nat) : Option (Int32 × St) :=
  (gI 10 45 σ a0).bind fun x1 =>
  if x1 = 0 then
    some ((-1), σ)
  else
    lo2 (fun l4 (x2 : Int32) (t3 : St) =>
      if 223 ≤ x2 then
      (pV 10 33 t3 a0 (.int 0)).bind (fun t5 =>
      (gR 10 28 t5 a0).bind fun a6 =>
      (aI 0 t5 a6 41).bind fun x7 =>
      some (x7, t5))
    else
      (gR 10 28 t3 a0).bind fun a8 =>
      (gR 10 44 t3 a0).bind fun a9 =>
      (aI 0 t3 a9 x2).bind fun x10 =>
      (sI 0 t3 a8 x2 x10).bind (fun t11 =>
      l4 (x2 + 1) t11)) FU 0 σ
set_option maxHeartbeats 4000000 in
set_option maxRecDepth 100000 in
theorem gX10_back (σ : St) (a0 : Nat) : CE vI mX10_back [.ref a0] σ (fX10_back σ a0) := by
  refine CE.ofGEF (lv := [(0, .ref a0)]) (by decide +kernel) (Nat.le_of_ble_eq_true rfl) rfl ?_
  unfold fX10_back
  refine GE.aload_n 0 dX10_back_0 rfl rfl ?_
  refine GE.gI dX10_back_1 lF_X10_279 (fun x1 => ?_)
  refine GE.if_ne (tgt := 9) dX10_back_4 (by decide) ?_ ?_
  · refine GE.iconst dX10_back_9 kI_0 ?_
    refine GE.istore_n (lv' := [(0, .ref a0), (1, .int 0)]) dX10_back_10 rfl (by decide) [1, 0] rfl ?_
    refine (GE.lo2 (fun (x2 : Int32) (t3 : St) => [(0, .ref a0), (1, .int x2)]) (fun (x2 : Int32) (t3 : St) => []) (fun (x2 : Int32) (t3 : St) => t3) (fun l4 hl4 x2 t3 => ?_) FU 0 σ)
    refine GE.iload_n 1 dX10_back_11 rfl rfl ?_
    refine GE.sipush dX10_back_12 kS_223 ?_
    refine GE.icmp_ge (tgt := 36) dX10_back_15 (by decide) ?_ ?_
    · refine GE.aload_n 0 dX10_back_36 rfl rfl ?_
      refine GE.iconst dX10_back_37 kI_0 ?_
      refine GE.pI dX10_back_38 lF_X10_276 (fun t5 => ?_)
      refine GE.aload_n 0 dX10_back_41 rfl rfl ?_
      refine GE.gR dX10_back_42 lF_X10_61 (fun a6 => ?_)
      refine GE.bipush dX10_back_45 kB_41 ?_
      refine GE.iald dX10_back_47 (fun x7 => ?_)
      exact GE.iret dX10_back_48 rfl (Nat.le_refl _) (Nat.le_refl _)
    · refine GE.aload_n 0 dX10_back_18 rfl rfl ?_
      refine GE.gR dX10_back_19 lF_X10_61 (fun a8 => ?_)
      refine GE.iload_n 1 dX10_back_22 rfl rfl ?_
      refine GE.aload_n 0 dX10_back_23 rfl rfl ?_
      refine GE.gR dX10_back_24 lF_X10_99 (fun a9 => ?_)
      refine GE.iload_n 1 dX10_back_27 rfl rfl ?_
      refine GE.iald dX10_back_28 (fun x10 => ?_)
      refine GE.iast dX10_back_29 (fun t11 => ?_)
      refine GE.iinc (lv' := [(0, .ref a0), (1, .int (x2 + 1))]) 1 dX10_back_30 rfl kI_1 (by decide) [1, 0] rfl ?_
      refine GE.goto (tgt := 11) dX10_back_33 (by decide) ?_
      exact hl4 (x2 + 1) t11
  · refine GE.iconst dX10_back_7 kI_m1 ?_
    exact GE.iret dX10_back_8 rfl (Nat.le_refl _) (Nat.le_refl _)
def fX10_count (σ : St) (a0 : Nat) (px1 : Int32) : Option (Int32 × St) :=
  tbs px1 0 [(gI 10 26 σ a0).bind fun x1 =>
      some (x1, σ),
    (gI 10 27 σ a0).bind fun x2 =>
      some (x2, σ),
    (gI 10 13 σ a0).bind fun x3 =>
      some (x3, σ),
    (gI 10 2 σ a0).bind fun x4 =>
      some (x4, σ),
    (gI 10 30 σ a0).bind fun x5 =>
      some (x5, σ),
    (gR 10 28 σ a0).bind fun a6 =>
      (aI 0 σ a6 41).bind fun x7 =>
      some (x7, σ),
    (gI 10 31 σ a0).bind fun x8 =>
      some (x8, σ),
    (gI 10 40 σ a0).bind fun x9 =>
      some (x9, σ),
    (gI 10 43 σ a0).bind fun x10 =>
      some (x10, σ),
    (gR 10 28 σ a0).bind fun a11 =>
      (aI 0 σ a11 42).bind fun x12 =>
      some (x12, σ),
    (gI 10 33 σ a0).bind fun x13 =>
      some (x13, σ)] (some ((-1000000), σ))
set_option maxHeartbeats 4000000 in
set_option maxRecDepth 100000 in
theorem gX10_count (σ : St) (a0 : Nat) (px1 : Int32) : CE vI mX10_count [.ref a0, .int px1] σ (fX10_count σ a0 px1) := by
  refine CE.ofGEF (lv := [(0, .ref a0), (1, .int px1)]) (by decide +kernel) (Nat.le_of_ble_eq_true rfl) rfl ?_
  unfold fX10_count
  refine GE.iload_n 1 dX10_count_0 rfl rfl ?_
  refine GE.tsw (tgd := 121) dX10_count_1 rfl rfl (by decide) ?_ ?_
  · refine GE.ldcw (v := (-1000000)) dX10_count_121 lK_X10_404 ?_
    exact GE.iret dX10_count_124 rfl (Nat.le_refl _) (Nat.le_refl _)
  · intro j9 E9 o9 hE9 ho9
    match j9, hE9, ho9 with
    | 0, hE9, ho9 =>
      cases hE9; cases ho9
      refine ⟨60, by decide, ?_⟩
      refine GE.aload_n 0 dX10_count_60 rfl rfl ?_
      refine GE.gI dX10_count_61 lF_X10_264 (fun x1 => ?_)
      exact GE.iret dX10_count_64 rfl (Nat.le_refl _) (Nat.le_refl _)
    | 1, hE9, ho9 =>
      cases hE9; cases ho9
      refine ⟨65, by decide, ?_⟩
      refine GE.aload_n 0 dX10_count_65 rfl rfl ?_
      refine GE.gI dX10_count_66 lF_X10_261 (fun x2 => ?_)
      exact GE.iret dX10_count_69 rfl (Nat.le_refl _) (Nat.le_refl _)
    | 2, hE9, ho9 =>
      cases hE9; cases ho9
      refine ⟨70, by decide, ?_⟩
      refine GE.aload_n 0 dX10_count_70 rfl rfl ?_
      refine GE.gI dX10_count_71 lF_X10_286 (fun x3 => ?_)
      exact GE.iret dX10_count_74 rfl (Nat.le_refl _) (Nat.le_refl _)
    | 3, hE9, ho9 =>
      cases hE9; cases ho9
      refine ⟨75, by decide, ?_⟩
      refine GE.aload_n 0 dX10_count_75 rfl rfl ?_
      refine GE.gI dX10_count_76 lF_X10_109 (fun x4 => ?_)
      exact GE.iret dX10_count_79 rfl (Nat.le_refl _) (Nat.le_refl _)
    | 4, hE9, ho9 =>
      cases hE9; cases ho9
      refine ⟨80, by decide, ?_⟩
      refine GE.aload_n 0 dX10_count_80 rfl rfl ?_
      refine GE.gI dX10_count_81 lF_X10_67 (fun x5 => ?_)
      exact GE.iret dX10_count_84 rfl (Nat.le_refl _) (Nat.le_refl _)
    | 5, hE9, ho9 =>
      cases hE9; cases ho9
      refine ⟨85, by decide, ?_⟩
      refine GE.aload_n 0 dX10_count_85 rfl rfl ?_
      refine GE.gR dX10_count_86 lF_X10_61 (fun a6 => ?_)
      refine GE.bipush dX10_count_89 kB_41 ?_
      refine GE.iald dX10_count_91 (fun x7 => ?_)
      exact GE.iret dX10_count_92 rfl (Nat.le_refl _) (Nat.le_refl _)
    | 6, hE9, ho9 =>
      cases hE9; cases ho9
      refine ⟨93, by decide, ?_⟩
      refine GE.aload_n 0 dX10_count_93 rfl rfl ?_
      refine GE.gI dX10_count_94 lF_X10_71 (fun x8 => ?_)
      exact GE.iret dX10_count_97 rfl (Nat.le_refl _) (Nat.le_refl _)
    | 7, hE9, ho9 =>
      cases hE9; cases ho9
      refine ⟨98, by decide, ?_⟩
      refine GE.aload_n 0 dX10_count_98 rfl rfl ?_
      refine GE.gI dX10_count_99 lF_X10_270 (fun x9 => ?_)
      exact GE.iret dX10_count_102 rfl (Nat.le_refl _) (Nat.le_refl _)
    | 8, hE9, ho9 =>
      cases hE9; cases ho9
      refine ⟨103, by decide, ?_⟩
      refine GE.aload_n 0 dX10_count_103 rfl rfl ?_
      refine GE.gI dX10_count_104 lF_X10_273 (fun x10 => ?_)
      exact GE.iret dX10_count_107 rfl (Nat.le_refl _) (Nat.le_refl _)
    | 9, hE9, ho9 =>
      cases hE9; cases ho9
      refine ⟨108, by decide, ?_⟩
      refine GE.aload_n 0 dX10_count_108 rfl rfl ?_
      refine GE.gR dX10_count_109 lF_X10_61 (fun a11 => ?_)
      refine GE.bipush dX10_count_112 kB_42 ?_
      refine GE.iald dX10_count_114 (fun x12 => ?_)
      exact GE.iret dX10_count_115 rfl (Nat.le_refl _) (Nat.le_refl _)
    | 10, hE9, ho9 =>
      cases hE9; cases ho9
      refine ⟨116, by decide, ?_⟩
      refine GE.aload_n 0 dX10_count_116 rfl rfl ?_
      refine GE.gI dX10_count_117 lF_X10_276 (fun x13 => ?_)
      exact GE.iret dX10_count_120 rfl (Nat.le_refl _) (Nat.le_refl _)
    | j9 + 11, hE9, ho9 => cases hE9
def fX10_isRefused (σ : St) (a0 : Nat) (px1 : Int32) : Option (Int32 × St) :=
  jo1 (fun (t1 : St) =>
    if px1 = (-1) then
      some (0, t1)
    else
      some (1, t1)) (fun j2 =>
    if px1 = (-1) then
      j2 σ
    else
      (gR 10 29 σ a0).bind fun a3 =>
      (aI 0 σ a3 px1).bind fun x4 =>
      (sI 0 σ a3 px1 (x4 + 1)).bind (fun t5 =>
      j2 t5))
set_option maxHeartbeats 4000000 in
set_option maxRecDepth 100000 in
theorem gX10_isRefused (σ : St) (a0 : Nat) (px1 : Int32) : CE vI mX10_isRefused [.ref a0, .int px1] σ (fX10_isRefused σ a0 px1) := by
  refine CE.ofGEF (lv := [(0, .ref a0), (1, .int px1)]) (by decide +kernel) (Nat.le_of_ble_eq_true rfl) rfl ?_
  unfold fX10_isRefused
  refine GE.iload_n 1 dX10_isRefused_0 rfl rfl ?_
  refine GE.iconst dX10_isRefused_1 kI_m1 ?_
  refine GE.jo1 15 (fun (t1 : St) => [(1, .int px1)]) (fun (t1 : St) => []) (fun (t1 : St) => t1) (fun t1 => ?_) (fun j2 hj2 => ?_)
  · refine GE.iload_n 0 dX10_isRefused_15 rfl rfl ?_
    refine GE.iconst dX10_isRefused_16 kI_m1 ?_
    refine GE.icmp_eq (tgt := 24) dX10_isRefused_17 (by decide) ?_ ?_
    · refine GE.iconst dX10_isRefused_24 kI_0 ?_
      exact GE.zretk dX10_isRefused_25 rfl (Nat.le_refl _) (Nat.le_refl _) (by decide)
    · refine GE.iconst dX10_isRefused_20 kI_1 ?_
      refine GE.goto (tgt := 25) dX10_isRefused_21 (by decide) ?_
      exact GE.zretk dX10_isRefused_25 rfl (Nat.le_refl _) (Nat.le_refl _) (by decide)
  · refine GE.icmp_eq (tgt := 15) dX10_isRefused_2 (by decide) ?_ ?_
    · exact GE.sub [1] rfl (hj2 σ)
    · refine GE.aload_n 0 dX10_isRefused_5 rfl rfl ?_
      refine GE.gR dX10_isRefused_6 lF_X10_64 (fun a3 => ?_)
      refine GE.iload_n 1 dX10_isRefused_9 rfl rfl ?_
      refine GE.dup2 dX10_isRefused_10 rfl rfl ?_
      refine GE.iald dX10_isRefused_11 (fun x4 => ?_)
      refine GE.iconst dX10_isRefused_12 kI_1 ?_
      refine GE.iadd dX10_isRefused_13 ?_
      refine GE.iast dX10_isRefused_14 (fun t5 => ?_)
      exact GE.sub [1] rfl (hj2 t5)
def fX10_keep (σ : St) (a0 : Nat) : Option (Unit × St) :=
  (gI 10 33 σ a0).bind fun x1 =>
  jo1 (fun (t2 : St) =>
    lo2 (fun l6 (x4 : Int32) (t5 : St) =>
      if 223 ≤ x4 then
      (gI 10 33 t5 a0).bind fun x7 =>
      (pV 10 33 t5 a0 (.int (x7 + 1))).bind (fun t8 =>
      some ((), t8))
    else
      (gR 10 32 t5 a0).bind fun a9 =>
      (gI 10 33 t5 a0).bind fun x10 =>
      (gR 10 28 t5 a0).bind fun a11 =>
      (aI 0 t5 a11 x4).bind fun x12 =>
      (sI 0 t5 a9 ((223 * x10) + x4) x12).bind (fun t13 =>
      l6 (x4 + 1) t13)) FU 0 t2) (fun j3 =>
    if x1 = 40 then
      lo2 (fun l16 (x14 : Int32) (t15 : St) =>
        if 8920 ≤ x14 then
        (gI 10 33 t15 a0).bind fun x17 =>
        (pV 10 33 t15 a0 (.int (x17 - 1))).bind (fun t18 =>
        j3 t18)
      else
        (gR 10 32 t15 a0).bind fun a19 =>
        (gR 10 32 t15 a0).bind fun a20 =>
        (aI 0 t15 a20 x14).bind fun x21 =>
        (sI 0 t15 a19 (x14 - 223) x21).bind (fun t22 =>
        l16 (x14 + 1) t22)) FU 223 σ
    else
      j3 σ)
set_option maxHeartbeats 4000000 in
set_option maxRecDepth 100000 in
theorem gX10_keep (σ : St) (a0 : Nat) : CE vU mX10_keep [.ref a0] σ (fX10_keep σ a0) := by
  refine CE.ofGEF (lv := [(0, .ref a0)]) (by decide +kernel) (Nat.le_of_ble_eq_true rfl) rfl ?_
  unfold fX10_keep
  refine GE.aload_n 0 dX10_keep_0 rfl rfl ?_
  refine GE.gI dX10_keep_1 lF_X10_276 (fun x1 => ?_)
  refine GE.bipush dX10_keep_4 kB_40 ?_
  refine GE.jo1 52 (fun (t2 : St) => [(0, .ref a0)]) (fun (t2 : St) => []) (fun (t2 : St) => t2) (fun t2 => ?_) (fun j3 hj3 => ?_)
  · refine GE.iconst dX10_keep_52 kI_0 ?_
    refine GE.istore_n (lv' := [(0, .ref a0), (1, .int 0)]) dX10_keep_53 rfl (by decide) [1, 0] rfl ?_
    refine (GE.lo2 (fun (x4 : Int32) (t5 : St) => [(0, .ref a0), (1, .int x4)]) (fun (x4 : Int32) (t5 : St) => []) (fun (x4 : Int32) (t5 : St) => t5) (fun l6 hl6 x4 t5 => ?_) FU 0 t2)
    refine GE.iload_n 1 dX10_keep_54 rfl rfl ?_
    refine GE.sipush dX10_keep_55 kS_223 ?_
    refine GE.icmp_ge (tgt := 88) dX10_keep_58 (by decide) ?_ ?_
    · refine GE.aload_n 0 dX10_keep_88 rfl rfl ?_
      refine GE.dup dX10_keep_89 rfl ?_
      refine GE.gI dX10_keep_90 lF_X10_276 (fun x7 => ?_)
      refine GE.iconst dX10_keep_93 kI_1 ?_
      refine GE.iadd dX10_keep_94 ?_
      refine GE.pI dX10_keep_95 lF_X10_276 (fun t8 => ?_)
      exact GE.vret (x := ()) dX10_keep_98 rfl (Nat.le_refl _) (Nat.le_refl _)
    · refine GE.aload_n 0 dX10_keep_61 rfl rfl ?_
      refine GE.gR dX10_keep_62 lF_X10_74 (fun a9 => ?_)
      refine GE.sipush dX10_keep_65 kS_223 ?_
      refine GE.aload_n 0 dX10_keep_68 rfl rfl ?_
      refine GE.gI dX10_keep_69 lF_X10_276 (fun x10 => ?_)
      refine GE.imul dX10_keep_72 ?_
      refine GE.iload_n 1 dX10_keep_73 rfl rfl ?_
      refine GE.iadd dX10_keep_74 ?_
      refine GE.aload_n 0 dX10_keep_75 rfl rfl ?_
      refine GE.gR dX10_keep_76 lF_X10_61 (fun a11 => ?_)
      refine GE.iload_n 1 dX10_keep_79 rfl rfl ?_
      refine GE.iald dX10_keep_80 (fun x12 => ?_)
      refine GE.iast dX10_keep_81 (fun t13 => ?_)
      refine GE.iinc (lv' := [(0, .ref a0), (1, .int (x4 + 1))]) 1 dX10_keep_82 rfl kI_1 (by decide) [1, 0] rfl ?_
      refine GE.goto (tgt := 54) dX10_keep_85 (by decide) ?_
      exact hl6 (x4 + 1) t13
  · refine GE.icmp_ne (tgt := 52) dX10_keep_6 (by decide) ?_ ?_
    · exact hj3 σ
    · refine GE.sipush dX10_keep_9 kS_223 ?_
      refine GE.istore_n (lv' := [(0, .ref a0), (1, .int 223)]) dX10_keep_12 rfl (by decide) [1, 0] rfl ?_
      refine (GE.lo2 (fun (x14 : Int32) (t15 : St) => [(0, .ref a0), (1, .int x14)]) (fun (x14 : Int32) (t15 : St) => []) (fun (x14 : Int32) (t15 : St) => t15) (fun l16 hl16 x14 t15 => ?_) FU 223 σ)
      refine GE.iload_n 1 dX10_keep_13 rfl rfl ?_
      refine GE.sipush dX10_keep_14 kS_8920 ?_
      refine GE.icmp_ge (tgt := 42) dX10_keep_17 (by decide) ?_ ?_
      · refine GE.aload_n 0 dX10_keep_42 rfl rfl ?_
        refine GE.dup dX10_keep_43 rfl ?_
        refine GE.gI dX10_keep_44 lF_X10_276 (fun x17 => ?_)
        refine GE.iconst dX10_keep_47 kI_1 ?_
        refine GE.isub dX10_keep_48 ?_
        refine GE.pI dX10_keep_49 lF_X10_276 (fun t18 => ?_)
        exact GE.sub [0] rfl (hj3 t18)
      · refine GE.aload_n 0 dX10_keep_20 rfl rfl ?_
        refine GE.gR dX10_keep_21 lF_X10_74 (fun a19 => ?_)
        refine GE.iload_n 1 dX10_keep_24 rfl rfl ?_
        refine GE.sipush dX10_keep_25 kS_223 ?_
        refine GE.isub dX10_keep_28 ?_
        refine GE.aload_n 0 dX10_keep_29 rfl rfl ?_
        refine GE.gR dX10_keep_30 lF_X10_74 (fun a20 => ?_)
        refine GE.iload_n 1 dX10_keep_33 rfl rfl ?_
        refine GE.iald dX10_keep_34 (fun x21 => ?_)
        refine GE.iast dX10_keep_35 (fun t22 => ?_)
        refine GE.iinc (lv' := [(0, .ref a0), (1, .int (x14 + 1))]) 1 dX10_keep_36 rfl kI_1 (by decide) [1, 0] rfl ?_
        refine GE.goto (tgt := 13) dX10_keep_39 (by decide) ?_
        exact hl16 (x14 + 1) t22
def fX10_heapBy (σ : St) (a0 : Nat) (px1 : Int32) (px2 : Int32) (px3 : Int32) : Option (Int32 × St) :=
  bo 10 σ a0 (fX10_isCell σ a0 px1) (fun x1 t2 =>
  jo2 (fun (v3 : Int32) (v4 : Nat) =>
    bo 10 t2 v4 (fX10_isRefused t2 v4 v3) (fun x6 t7 =>
    if x6 = 0 then
      bo 10 t7 a0 (fX10_keep t7 a0) (fun w8 t9 =>
      (gR 10 28 t9 a0).bind fun a10 =>
      (aI 0 t9 a10 40).bind fun x11 =>
      (sI 0 t9 a10 40 (x11 - 1)).bind (fun t12 =>
      (gR 10 28 t12 a0).bind fun a13 =>
      (aI 0 t12 a13 (0 + px1)).bind fun x14 =>
      (sI 0 t12 a13 (0 + px1) (x14 + px3)).bind (fun t15 =>
      (gR 10 28 t15 a0).bind fun a16 =>
      (aI 0 t15 a16 (0 + px1)).bind fun x17 =>
      some (x17, t15))))
    else
      some ((-1), t7))) (fun j5 =>
    if x1 = 0 then
      j5 0 a0
    else
      (gR 10 28 t2 a0).bind fun a18 =>
      (aI 0 t2 a18 (0 + px1)).bind fun x19 =>
      if x19 = px2 then
        j5 2 a0
      else
        (gR 10 28 t2 a0).bind fun a20 =>
        (aI 0 t2 a20 40).bind fun x21 =>
        if 1 ≤ x21 then
          j5 ((-1)) a0
        else
          j5 3 a0))
set_option maxHeartbeats 4000000 in
set_option maxRecDepth 100000 in
theorem gX10_heapBy (σ : St) (a0 : Nat) (px1 : Int32) (px2 : Int32) (px3 : Int32) : CE vI mX10_heapBy [.ref a0, .int px1, .int px2, .int px3] σ (fX10_heapBy σ a0 px1 px2 px3) := by
  refine CE.ofGEF (lv := [(0, .ref a0), (1, .int px1), (2, .int px2), (3, .int px3)]) (by decide +kernel) (Nat.le_of_ble_eq_true rfl) rfl ?_
  unfold fX10_heapBy
  refine GE.aload_n 0 dX10_heapBy_0 rfl rfl ?_
  refine GE.aload_n 0 dX10_heapBy_1 rfl rfl ?_
  refine GE.iload_n 1 dX10_heapBy_2 rfl rfl ?_
  refine GE.callvI [.int px1] dX10_heapBy_3 (lV_X10_337) rfl ⟨rfl, rfl⟩ (rokb rfl) (gX10_isCell σ a0 px1) (fun x1 t2 => ?_)
  refine GE.jo2 45 (fun (v3 : Int32) (v4 : Nat) => [(0, .ref a0), (1, .int px1), (3, .int px3)]) (fun (v3 : Int32) (v4 : Nat) => [.int v3, .ref v4]) (fun (v3 : Int32) (v4 : Nat) => t2) (fun v3 v4 => ?_) (fun j5 hj5 => ?_)
  · refine GE.callvI [.int v3] dX10_heapBy_45 (lV_X10_354) rfl ⟨rfl, rfl⟩ (rokb rfl) (gX10_isRefused t2 v4 v3) (fun x6 t7 => ?_)
    refine GE.if_eq (tgt := 53) dX10_heapBy_48 (by decide) ?_ ?_
    · refine GE.aload_n 0 dX10_heapBy_53 rfl rfl ?_
      refine GE.callvU [] dX10_heapBy_54 (lV_X10_357) rfl ⟨rfl, rfl⟩ (rokb rfl) (gX10_keep t7 a0) (fun w8 t9 => ?_)
      refine GE.aload_n 0 dX10_heapBy_57 rfl rfl ?_
      refine GE.gR dX10_heapBy_58 lF_X10_61 (fun a10 => ?_)
      refine GE.bipush dX10_heapBy_61 kB_40 ?_
      refine GE.dup2 dX10_heapBy_63 rfl rfl ?_
      refine GE.iald dX10_heapBy_64 (fun x11 => ?_)
      refine GE.iconst dX10_heapBy_65 kI_1 ?_
      refine GE.isub dX10_heapBy_66 ?_
      refine GE.iast dX10_heapBy_67 (fun t12 => ?_)
      refine GE.aload_n 0 dX10_heapBy_68 rfl rfl ?_
      refine GE.gR dX10_heapBy_69 lF_X10_61 (fun a13 => ?_)
      refine GE.iconst dX10_heapBy_72 kI_0 ?_
      refine GE.iload_n 1 dX10_heapBy_73 rfl rfl ?_
      refine GE.iadd dX10_heapBy_74 ?_
      refine GE.dup2 dX10_heapBy_75 rfl rfl ?_
      refine GE.iald dX10_heapBy_76 (fun x14 => ?_)
      refine GE.iload_n 2 dX10_heapBy_77 rfl rfl ?_
      refine GE.iadd dX10_heapBy_78 ?_
      refine GE.iast dX10_heapBy_79 (fun t15 => ?_)
      refine GE.aload_n 0 dX10_heapBy_80 rfl rfl ?_
      refine GE.gR dX10_heapBy_81 lF_X10_61 (fun a16 => ?_)
      refine GE.iconst dX10_heapBy_84 kI_0 ?_
      refine GE.iload_n 1 dX10_heapBy_85 rfl rfl ?_
      refine GE.iadd dX10_heapBy_86 ?_
      refine GE.iald dX10_heapBy_87 (fun x17 => ?_)
      exact GE.iret dX10_heapBy_88 rfl (Nat.le_refl _) (Nat.le_refl _)
    · refine GE.iconst dX10_heapBy_51 kI_m1 ?_
      exact GE.iret dX10_heapBy_52 rfl (Nat.le_refl _) (Nat.le_refl _)
  · refine GE.if_ne (tgt := 13) dX10_heapBy_6 (by decide) ?_ ?_
    · refine GE.aload_n 0 dX10_heapBy_13 rfl rfl ?_
      refine GE.gR dX10_heapBy_14 lF_X10_61 (fun a18 => ?_)
      refine GE.iconst dX10_heapBy_17 kI_0 ?_
      refine GE.iload_n 1 dX10_heapBy_18 rfl rfl ?_
      refine GE.iadd dX10_heapBy_19 ?_
      refine GE.iald dX10_heapBy_20 (fun x19 => ?_)
      refine GE.iload_n 2 dX10_heapBy_21 rfl rfl ?_
      refine GE.icmp_ne (tgt := 29) dX10_heapBy_22 (by decide) ?_ ?_
      · refine GE.aload_n 0 dX10_heapBy_29 rfl rfl ?_
        refine GE.gR dX10_heapBy_30 lF_X10_61 (fun a20 => ?_)
        refine GE.bipush dX10_heapBy_33 kB_40 ?_
        refine GE.iald dX10_heapBy_35 (fun x21 => ?_)
        refine GE.iconst dX10_heapBy_36 kI_1 ?_
        refine GE.icmp_ge (tgt := 44) dX10_heapBy_37 (by decide) ?_ ?_
        · refine GE.iconst dX10_heapBy_44 kI_m1 ?_
          exact GE.sub [0, 1, 3] rfl (hj5 ((-1)) a0)
        · refine GE.iconst dX10_heapBy_40 kI_3 ?_
          refine GE.goto (tgt := 45) dX10_heapBy_41 (by decide) ?_
          exact GE.sub [0, 1, 3] rfl (hj5 3 a0)
      · refine GE.iconst dX10_heapBy_25 kI_2 ?_
        refine GE.goto (tgt := 45) dX10_heapBy_26 (by decide) ?_
        exact GE.sub [0, 1, 3] rfl (hj5 2 a0)
    · refine GE.iconst dX10_heapBy_9 kI_0 ?_
      refine GE.goto (tgt := 45) dX10_heapBy_10 (by decide) ?_
      exact GE.sub [0, 1, 3] rfl (hj5 0 a0)
def fX10_dig (σ : St) (a0 : Nat) (px1 : Int32) : Option (Int32 × St) :=
  bo 10 σ a0 (fX10_heapBy σ a0 px1 0 ((-1))) (fun x1 t2 =>
  some (x1, t2))
set_option maxHeartbeats 4000000 in
set_option maxRecDepth 100000 in
theorem gX10_dig (σ : St) (a0 : Nat) (px1 : Int32) : CE vI mX10_dig [.ref a0, .int px1] σ (fX10_dig σ a0 px1) := by
  refine CE.ofGEF (lv := [(0, .ref a0), (1, .int px1)]) (by decide +kernel) (Nat.le_of_ble_eq_true rfl) rfl ?_
  unfold fX10_dig
  refine GE.aload_n 0 dX10_dig_0 rfl rfl ?_
  refine GE.iload_n 1 dX10_dig_1 rfl rfl ?_
  refine GE.iconst dX10_dig_2 kI_0 ?_
  refine GE.iconst dX10_dig_3 kI_m1 ?_
  refine GE.callvI [.int px1, .int 0, .int ((-1))] dX10_dig_4 (lV_X10_363) rfl ⟨rfl, rfl⟩ (rokb rfl) (gX10_heapBy σ a0 px1 0 ((-1))) (fun x1 t2 => ?_)
  exact GE.iret dX10_dig_7 rfl (Nat.le_refl _) (Nat.le_refl _)
def fX10_end (σ : St) (a0 : Nat) (px1 : Int32) : Option (Int32 × St) :=
  if px1 < 0 then
    some (0, σ)
  else
    (gI 10 2 σ a0).bind fun x1 =>
    if px1 ≤ x1 then
      (pV 10 2 σ a0 (.int px1)).bind (fun t2 =>
      some (1, t2))
    else
      some (0, σ)
set_option maxHeartbeats 4000000 in
set_option maxRecDepth 100000 in
theorem gX10_end (σ : St) (a0 : Nat) (px1 : Int32) : CE vI mX10_end [.ref a0, .int px1] σ (fX10_end σ a0 px1) := by
  refine CE.ofGEF (lv := [(0, .ref a0), (1, .int px1)]) (by decide +kernel) (Nat.le_of_ble_eq_true rfl) rfl ?_
  unfold fX10_end
  refine GE.iload_n 1 dX10_end_0 rfl rfl ?_
  refine GE.if_lt (tgt := 12) dX10_end_1 (by decide) ?_ ?_
  · refine GE.iconst dX10_end_12 kI_0 ?_
    exact GE.zretk dX10_end_13 rfl (Nat.le_refl _) (Nat.le_refl _) (by decide)
  · refine GE.iload_n 1 dX10_end_4 rfl rfl ?_
    refine GE.aload_n 0 dX10_end_5 rfl rfl ?_
    refine GE.gI dX10_end_6 lF_X10_109 (fun x1 => ?_)
    refine GE.icmp_le (tgt := 14) dX10_end_9 (by decide) ?_ ?_
    · refine GE.aload_n 0 dX10_end_14 rfl rfl ?_
      refine GE.iload_n 1 dX10_end_15 rfl rfl ?_
      refine GE.pI dX10_end_16 lF_X10_109 (fun t2 => ?_)
      refine GE.iconst dX10_end_19 kI_1 ?_
      exact GE.zretk dX10_end_20 rfl (Nat.le_refl _) (Nat.le_refl _) (by decide)
    · refine GE.iconst dX10_end_12 kI_0 ?_
      exact GE.zretk dX10_end_13 rfl (Nat.le_refl _) (Nat.le_refl _) (by decide)
def fX10_has (σ : St) (px0 : Int32) (px1 : Int32) : Option (Int32 × St) :=
  if (px0 >>> (px1 &&& 31)) &&& 1 = 1 then
    some (1, σ)
  else
    some (0, σ)
set_option maxHeartbeats 4000000 in
set_option maxRecDepth 100000 in
theorem gX10_has (σ : St) (px0 : Int32) (px1 : Int32) : CE vI mX10_has [.int px0, .int px1] σ (fX10_has σ px0 px1) := by
  refine CE.ofGEF (lv := [(0, .int px0), (1, .int px1)]) (by decide +kernel) (Nat.le_of_ble_eq_true rfl) rfl ?_
  unfold fX10_has
  refine GE.iload_n 0 dX10_has_0 rfl rfl ?_
  refine GE.iload_n 1 dX10_has_1 rfl rfl ?_
  refine GE.ishr dX10_has_2 ?_
  refine GE.iconst dX10_has_3 kI_1 ?_
  refine GE.iand dX10_has_4 ?_
  refine GE.iconst dX10_has_5 kI_1 ?_
  refine GE.icmp_ne (tgt := 13) dX10_has_6 (by decide) ?_ ?_
  · refine GE.iconst dX10_has_13 kI_0 ?_
    exact GE.zretk dX10_has_14 rfl (Nat.le_refl _) (Nat.le_refl _) (by decide)
  · refine GE.iconst dX10_has_9 kI_1 ?_
    refine GE.goto (tgt := 14) dX10_has_10 (by decide) ?_
    exact GE.zretk dX10_has_14 rfl (Nat.le_refl _) (Nat.le_refl _) (by decide)
def fX10_groundOf (σ : St) (a0 : Nat) (px1 : Int32) : Option (Int32 × St) :=
  (gR 10 28 σ a0).bind fun a1 =>
  (gR 10 28 σ a0).bind fun a2 =>
  (aI 0 σ a2 (30 + px1)).bind fun x3 =>
  (aI 0 σ a1 (0 + x3)).bind fun x4 =>
  some (x4, σ)
set_option maxHeartbeats 4000000 in
set_option maxRecDepth 100000 in
theorem gX10_groundOf (σ : St) (a0 : Nat) (px1 : Int32) : CE vI mX10_groundOf [.ref a0, .int px1] σ (fX10_groundOf σ a0 px1) := by
  refine CE.ofGEF (lv := [(0, .ref a0), (1, .int px1)]) (by decide +kernel) (Nat.le_of_ble_eq_true rfl) rfl ?_
  unfold fX10_groundOf
  refine GE.aload_n 0 dX10_groundOf_0 rfl rfl ?_
  refine GE.gR dX10_groundOf_1 lF_X10_61 (fun a1 => ?_)
  refine GE.iconst dX10_groundOf_4 kI_0 ?_
  refine GE.aload_n 0 dX10_groundOf_5 rfl rfl ?_
  refine GE.gR dX10_groundOf_6 lF_X10_61 (fun a2 => ?_)
  refine GE.bipush dX10_groundOf_9 kB_30 ?_
  refine GE.iload_n 1 dX10_groundOf_11 rfl rfl ?_
  refine GE.iadd dX10_groundOf_12 ?_
  refine GE.iald dX10_groundOf_13 (fun x3 => ?_)
  refine GE.iadd dX10_groundOf_14 ?_
  refine GE.iald dX10_groundOf_15 (fun x4 => ?_)
  exact GE.iret dX10_groundOf_16 rfl (Nat.le_refl _) (Nat.le_refl _)
def fX10_reachOf (σ : St) (a0 : Nat) (px1 : Int32) : Option (Int32 × St) :=
  (gR 10 28 σ a0).bind fun a1 =>
  (aI 0 σ a1 39).bind fun x2 =>
  (gR 10 28 σ a0).bind fun a3 =>
  (aI 0 σ a3 41).bind fun x4 =>
  bo 10 σ a0 (fX10_groundOf σ a0 px1) (fun x5 t6 =>
  (gR 10 28 t6 a0).bind fun a7 =>
  (aI 0 t6 a7 (34 + px1)).bind fun x8 =>
  bo 10 t6 a0 (fX10_reachBy t6 a0 px1 x2 x4 x5 x8) (fun x9 t10 =>
  some (x9, t10)))
set_option maxHeartbeats 4000000 in
set_option maxRecDepth 100000 in
theorem gX10_reachOf (σ : St) (a0 : Nat) (px1 : Int32) : CE vI mX10_reachOf [.ref a0, .int px1] σ (fX10_reachOf σ a0 px1) := by
  refine CE.ofGEF (lv := [(0, .ref a0), (1, .int px1)]) (by decide +kernel) (Nat.le_of_ble_eq_true rfl) rfl ?_
  unfold fX10_reachOf
  refine GE.aload_n 0 dX10_reachOf_0 rfl rfl ?_
  refine GE.iload_n 1 dX10_reachOf_1 rfl rfl ?_
  refine GE.aload_n 0 dX10_reachOf_2 rfl rfl ?_
  refine GE.gR dX10_reachOf_3 lF_X10_61 (fun a1 => ?_)
  refine GE.bipush dX10_reachOf_6 kB_39 ?_
  refine GE.iald dX10_reachOf_8 (fun x2 => ?_)
  refine GE.aload_n 0 dX10_reachOf_9 rfl rfl ?_
  refine GE.gR dX10_reachOf_10 lF_X10_61 (fun a3 => ?_)
  refine GE.bipush dX10_reachOf_13 kB_41 ?_
  refine GE.iald dX10_reachOf_15 (fun x4 => ?_)
  refine GE.aload_n 0 dX10_reachOf_16 rfl rfl ?_
  refine GE.iload_n 1 dX10_reachOf_17 rfl rfl ?_
  refine GE.callvI [.int px1] dX10_reachOf_18 (lV_X10_311) rfl ⟨rfl, rfl⟩ (rokb rfl) (gX10_groundOf σ a0 px1) (fun x5 t6 => ?_)
  refine GE.aload_n 0 dX10_reachOf_21 rfl rfl ?_
  refine GE.gR dX10_reachOf_22 lF_X10_61 (fun a7 => ?_)
  refine GE.bipush dX10_reachOf_25 kB_34 ?_
  refine GE.iload_n 1 dX10_reachOf_27 rfl rfl ?_
  refine GE.iadd dX10_reachOf_28 ?_
  refine GE.iald dX10_reachOf_29 (fun x8 => ?_)
  refine GE.callvI [.int px1, .int x2, .int x4, .int x5, .int x8] dX10_reachOf_30 (lV_X10_314) rfl ⟨rfl, rfl⟩ (rokb rfl) (gX10_reachBy t6 a0 px1 x2 x4 x5 x8) (fun x9 t10 => ?_)
  exact GE.iret dX10_reachOf_33 rfl (Nat.le_refl _) (Nat.le_refl _)
def fX10_seesNow (σ : St) (a0 : Nat) (px1 : Int32) (px2 : Int32) : Option (Int32 × St) :=
  (gR 10 28 σ a0).bind fun a1 =>
  (gR 10 28 σ a0).bind fun a2 =>
  (aI 0 σ a2 (30 + px1)).bind fun x3 =>
  bo 10 σ a0 (fX10_groundOf σ a0 px1) (fun x4 t5 =>
  (gR 10 28 t5 a0).bind fun a6 =>
  (aI 0 t5 a6 (34 + px1)).bind fun x7 =>
  bo 10 t5 a0 (fX10_reachOf t5 a0 px1) (fun x8 t9 =>
  (gR 10 28 t9 a0).bind fun a10 =>
  (aI 0 t9 a10 39).bind fun x11 =>
  bo 10 t9 a0 (fX10_isSeen t9 a0 a1 x3 (x4 + x7) x8 x11 px2) (fun x12 t13 =>
  if x12 = 0 ∨ x12 = 1 then some (x12, t13) else none)))
set_option maxHeartbeats 4000000 in
set_option maxRecDepth 100000 in
theorem gX10_seesNow (σ : St) (a0 : Nat) (px1 : Int32) (px2 : Int32) : CE vI mX10_seesNow [.ref a0, .int px1, .int px2] σ (fX10_seesNow σ a0 px1 px2) := by
  refine CE.ofGEF (lv := [(0, .ref a0), (1, .int px1), (2, .int px2)]) (by decide +kernel) (Nat.le_of_ble_eq_true rfl) rfl ?_
  unfold fX10_seesNow
  refine GE.aload_n 0 dX10_seesNow_0 rfl rfl ?_
  refine GE.aload_n 0 dX10_seesNow_1 rfl rfl ?_
  refine GE.gR dX10_seesNow_2 lF_X10_61 (fun a1 => ?_)
  refine GE.aload_n 0 dX10_seesNow_5 rfl rfl ?_
  refine GE.gR dX10_seesNow_6 lF_X10_61 (fun a2 => ?_)
  refine GE.bipush dX10_seesNow_9 kB_30 ?_
  refine GE.iload_n 1 dX10_seesNow_11 rfl rfl ?_
  refine GE.iadd dX10_seesNow_12 ?_
  refine GE.iald dX10_seesNow_13 (fun x3 => ?_)
  refine GE.aload_n 0 dX10_seesNow_14 rfl rfl ?_
  refine GE.iload_n 1 dX10_seesNow_15 rfl rfl ?_
  refine GE.callvI [.int px1] dX10_seesNow_16 (lV_X10_311) rfl ⟨rfl, rfl⟩ (rokb rfl) (gX10_groundOf σ a0 px1) (fun x4 t5 => ?_)
  refine GE.aload_n 0 dX10_seesNow_19 rfl rfl ?_
  refine GE.gR dX10_seesNow_20 lF_X10_61 (fun a6 => ?_)
  refine GE.bipush dX10_seesNow_23 kB_34 ?_
  refine GE.iload_n 1 dX10_seesNow_25 rfl rfl ?_
  refine GE.iadd dX10_seesNow_26 ?_
  refine GE.iald dX10_seesNow_27 (fun x7 => ?_)
  refine GE.iadd dX10_seesNow_28 ?_
  refine GE.aload_n 0 dX10_seesNow_29 rfl rfl ?_
  refine GE.iload_n 1 dX10_seesNow_30 rfl rfl ?_
  refine GE.callvI [.int px1] dX10_seesNow_31 (lV_X10_318) rfl ⟨rfl, rfl⟩ (rokb rfl) (gX10_reachOf t5 a0 px1) (fun x8 t9 => ?_)
  refine GE.aload_n 0 dX10_seesNow_34 rfl rfl ?_
  refine GE.gR dX10_seesNow_35 lF_X10_61 (fun a10 => ?_)
  refine GE.bipush dX10_seesNow_38 kB_39 ?_
  refine GE.iald dX10_seesNow_40 (fun x11 => ?_)
  refine GE.iload_n 2 dX10_seesNow_41 rfl rfl ?_
  refine GE.callvI [.ref a1, .int x3, .int (x4 + x7), .int x8, .int x11, .int px2] dX10_seesNow_42 (lV_X10_321) rfl ⟨rfl, rfl⟩ (rokb rfl) (gX10_isSeen t9 a0 a1 x3 (x4 + x7) x8 x11 px2) (fun x12 t13 => ?_)
  exact GE.zret dX10_seesNow_45 rfl (Nat.le_refl _) (Nat.le_refl _)
def fX10_seenBy (σ : St) (a0 : Nat) (px1 : Int32) : Option (Int32 × St) :=
  lo3 (fun l4 (x1 : Int32) (x2 : Int32) (t3 : St) =>
    (gI 10 26 t3 a0).bind fun x5 =>
  if x5 ≤ x2 then
    some (x1, t3)
  else
    bo 10 t3 a0 (fX10_seesNow t3 a0 px1 x2) (fun x6 t7 =>
    jo2 (fun (v8 : Int32) (v9 : Int32) =>
      nam (v9 ||| v8 : Int32) (fun x11 =>
      l4 x11 (x2 + 1) t7)) (fun j10 =>
      if x6 = 0 then
        j10 0 x1
      else
        j10 (1 <<< (x2 &&& 31)) x1))) FU 0 0 σ
set_option maxHeartbeats 4000000 in
set_option maxRecDepth 100000 in
theorem gX10_seenBy (σ : St) (a0 : Nat) (px1 : Int32) : CE vI mX10_seenBy [.ref a0, .int px1] σ (fX10_seenBy σ a0 px1) := by
  refine CE.ofGEF (lv := [(0, .ref a0), (1, .int px1)]) (by decide +kernel) (Nat.le_of_ble_eq_true rfl) rfl ?_
  unfold fX10_seenBy
  refine GE.iconst dX10_seenBy_0 kI_0 ?_
  refine GE.istore_n (lv' := [(0, .ref a0), (1, .int px1), (2, .int 0)]) dX10_seenBy_1 rfl (by decide) [1, 2, 0] rfl ?_
  refine GE.iconst dX10_seenBy_2 kI_0 ?_
  refine GE.istore_n (lv' := [(0, .ref a0), (1, .int px1), (2, .int 0), (3, .int 0)]) dX10_seenBy_3 rfl (by decide) [1, 2, 3, 0] rfl ?_
  refine (GE.lo3 (fun (x1 : Int32) (x2 : Int32) (t3 : St) => [(0, .ref a0), (1, .int px1), (2, .int x1), (3, .int x2)]) (fun (x1 : Int32) (x2 : Int32) (t3 : St) => []) (fun (x1 : Int32) (x2 : Int32) (t3 : St) => t3) (fun l4 hl4 x1 x2 t3 => ?_) FU 0 0 σ)
  refine GE.iload_n 3 dX10_seenBy_4 rfl rfl ?_
  refine GE.aload_n 0 dX10_seenBy_5 rfl rfl ?_
  refine GE.gI dX10_seenBy_6 lF_X10_264 (fun x5 => ?_)
  refine GE.icmp_ge (tgt := 37) dX10_seenBy_9 (by decide) ?_ ?_
  · refine GE.iload_n 2 dX10_seenBy_37 rfl rfl ?_
    exact GE.iret dX10_seenBy_38 rfl (Nat.le_refl _) (Nat.le_refl _)
  · refine GE.iload_n 2 dX10_seenBy_12 rfl rfl ?_
    refine GE.aload_n 0 dX10_seenBy_13 rfl rfl ?_
    refine GE.iload_n 1 dX10_seenBy_14 rfl rfl ?_
    refine GE.iload_n 3 dX10_seenBy_15 rfl rfl ?_
    refine GE.callvI [.int px1, .int x2] dX10_seenBy_16 (lV_X10_325) rfl ⟨rfl, rfl⟩ (rokb rfl) (gX10_seesNow t3 a0 px1 x2) (fun x6 t7 => ?_)
    refine GE.jo2 29 (fun (v8 : Int32) (v9 : Int32) => [(0, .ref a0), (1, .int px1), (3, .int x2)]) (fun (v8 : Int32) (v9 : Int32) => [.int v8, .int v9]) (fun (v8 : Int32) (v9 : Int32) => t7) (fun v8 v9 => ?_) (fun j10 hj10 => ?_)
    · refine GE.ior dX10_seenBy_29 ?_
      refine GE.nami (fun x11 => ?_)
      refine GE.istore_n (lv' := [(0, .ref a0), (1, .int px1), (2, .int x11), (3, .int x2)]) dX10_seenBy_30 rfl (by decide) [1, 2, 0, 3] rfl ?_
      refine GE.iinc (lv' := [(0, .ref a0), (1, .int px1), (2, .int x11), (3, .int (x2 + 1))]) 3 dX10_seenBy_31 rfl kI_1 (by decide) [1, 2, 3, 0] rfl ?_
      refine GE.goto (tgt := 4) dX10_seenBy_34 (by decide) ?_
      exact hl4 x11 (x2 + 1) t7
    · refine GE.if_eq (tgt := 28) dX10_seenBy_19 (by decide) ?_ ?_
      · refine GE.iconst dX10_seenBy_28 kI_0 ?_
        exact GE.sub [0, 1, 3] rfl (hj10 0 x1)
      · refine GE.iconst dX10_seenBy_22 kI_1 ?_
        refine GE.iload_n 3 dX10_seenBy_23 rfl rfl ?_
        refine GE.ishl dX10_seenBy_24 ?_
        refine GE.goto (tgt := 29) dX10_seenBy_25 (by decide) ?_
        exact GE.sub [0, 1, 3] rfl (hj10 (1 <<< (x2 &&& 31)) x1)
def fX10_seenByAll (σ : St) (a0 : Nat) : Option (Int32 × St) :=
  lo3 (fun l4 (x1 : Int32) (x2 : Int32) (t3 : St) =>
    (gI 10 27 t3 a0).bind fun x5 =>
  if x5 ≤ x2 then
    some (x1, t3)
  else
    bo 10 t3 a0 (fX10_seenBy t3 a0 x2) (fun x6 t7 =>
    nam (x1 ||| x6 : Int32) (fun x8 =>
    l4 x8 (x2 + 1) t7))) FU 0 0 σ
set_option maxHeartbeats 4000000 in
set_option maxRecDepth 100000 in
theorem gX10_seenByAll (σ : St) (a0 : Nat) : CE vI mX10_seenByAll [.ref a0] σ (fX10_seenByAll σ a0) := by
  refine CE.ofGEF (lv := [(0, .ref a0)]) (by decide +kernel) (Nat.le_of_ble_eq_true rfl) rfl ?_
  unfold fX10_seenByAll
  refine GE.iconst dX10_seenByAll_0 kI_0 ?_
  refine GE.istore_n (lv' := [(0, .ref a0), (1, .int 0)]) dX10_seenByAll_1 rfl (by decide) [1, 0] rfl ?_
  refine GE.iconst dX10_seenByAll_2 kI_0 ?_
  refine GE.istore_n (lv' := [(0, .ref a0), (1, .int 0), (2, .int 0)]) dX10_seenByAll_3 rfl (by decide) [1, 2, 0] rfl ?_
  refine (GE.lo3 (fun (x1 : Int32) (x2 : Int32) (t3 : St) => [(0, .ref a0), (1, .int x1), (2, .int x2)]) (fun (x1 : Int32) (x2 : Int32) (t3 : St) => []) (fun (x1 : Int32) (x2 : Int32) (t3 : St) => t3) (fun l4 hl4 x1 x2 t3 => ?_) FU 0 0 σ)
  refine GE.iload_n 2 dX10_seenByAll_4 rfl rfl ?_
  refine GE.aload_n 0 dX10_seenByAll_5 rfl rfl ?_
  refine GE.gI dX10_seenByAll_6 lF_X10_261 (fun x5 => ?_)
  refine GE.icmp_ge (tgt := 26) dX10_seenByAll_9 (by decide) ?_ ?_
  · refine GE.iload_n 1 dX10_seenByAll_26 rfl rfl ?_
    exact GE.iret dX10_seenByAll_27 rfl (Nat.le_refl _) (Nat.le_refl _)
  · refine GE.iload_n 1 dX10_seenByAll_12 rfl rfl ?_
    refine GE.aload_n 0 dX10_seenByAll_13 rfl rfl ?_
    refine GE.iload_n 2 dX10_seenByAll_14 rfl rfl ?_
    refine GE.callvI [.int x2] dX10_seenByAll_15 (lV_X10_328) rfl ⟨rfl, rfl⟩ (rokb rfl) (gX10_seenBy t3 a0 x2) (fun x6 t7 => ?_)
    refine GE.ior dX10_seenByAll_18 ?_
    refine GE.nami (fun x8 => ?_)
    refine GE.istore_n (lv' := [(0, .ref a0), (1, .int x8), (2, .int x2)]) dX10_seenByAll_19 rfl (by decide) [1, 0, 2] rfl ?_
    refine GE.iinc (lv' := [(0, .ref a0), (1, .int x8), (2, .int (x2 + 1))]) 2 dX10_seenByAll_20 rfl kI_1 (by decide) [1, 2, 0] rfl ?_
    refine GE.goto (tgt := 4) dX10_seenByAll_23 (by decide) ?_
    exact hl4 x8 (x2 + 1) t7
def fX10_enough (σ : St) (a0 : Nat) : Option (Int32 × St) :=
  (gI 10 26 σ a0).bind fun x1 =>
  if x1 = 0 then
    some ((-1), σ)
  else
    bo 10 σ a0 (fX10_seenByAll σ a0) (fun x2 t3 =>
    lo3 (fun l7 (x4 : Int32) (x5 : Int32) (t6 : St) =>
      (gI 10 27 t6 a0).bind fun x8 =>
    if 1 <<< (x8 &&& 31) ≤ x5 then
      some (x4, t6)
    else
      lo3 (fun l12 (x9 : Int32) (x10 : Int32) (t11 : St) =>
        (gI 10 27 t11 a0).bind fun x13 =>
      if x13 ≤ x10 then
        jo2 (fun (v14 : Int32) (t15 : St) =>
          l7 v14 (x5 + 1) t15) (fun j16 =>
          jo1 (fun (t17 : St) =>
            j16 x4 t17) (fun j18 =>
            if x9 = x2 then
              jo1 (fun (t19 : St) =>
                j16 x5 t19) (fun j20 =>
                if x4 = (-1) then
                  j20 t11
                else
                  bd (fJ6_bitCount_0f7a4 t11 x5) (fun x21 t22 =>
                  bd (fJ6_bitCount_0f7a4 t22 x4) (fun x23 t24 =>
                  if x23 ≤ x21 then
                    j18 t24
                  else
                    j20 t24)))
            else
              j18 t11))
      else
        bd (fX10_has t11 x5 x10) (fun x25 t26 =>
        jo3 (fun (v27 : Int32) (v28 : Int32) (t29 : St) =>
          nam (v28 ||| v27 : Int32) (fun x31 =>
          l12 x31 (x10 + 1) t29)) (fun j30 =>
          if x25 = 0 then
            j30 0 x9 t26
          else
            bo 10 t26 a0 (fX10_seenBy t26 a0 x10) (fun x32 t33 =>
            j30 x32 x9 t33)))) FU 0 0 t6) FU ((-1)) 0 t3)
set_option maxHeartbeats 4000000 in
set_option maxRecDepth 100000 in
theorem gX10_enough (σ : St) (a0 : Nat) : CE vI mX10_enough [.ref a0] σ (fX10_enough σ a0) := by
  refine CE.ofGEF (lv := [(0, .ref a0)]) (by decide +kernel) (Nat.le_of_ble_eq_true rfl) rfl ?_
  unfold fX10_enough
  refine GE.aload_n 0 dX10_enough_0 rfl rfl ?_
  refine GE.gI dX10_enough_1 lF_X10_264 (fun x1 => ?_)
  refine GE.if_ne (tgt := 9) dX10_enough_4 (by decide) ?_ ?_
  · refine GE.aload_n 0 dX10_enough_9 rfl rfl ?_
    refine GE.callvI [] dX10_enough_10 (lV_X10_334) rfl ⟨rfl, rfl⟩ (rokb rfl) (gX10_seenByAll σ a0) (fun x2 t3 => ?_)
    refine GE.istore_n (lv' := [(0, .ref a0), (1, .int x2)]) dX10_enough_13 rfl (by decide) [1, 0] rfl ?_
    refine GE.iconst dX10_enough_14 kI_m1 ?_
    refine GE.istore_n (lv' := [(0, .ref a0), (1, .int x2), (2, .int ((-1)))]) dX10_enough_15 rfl (by decide) [1, 2, 0] rfl ?_
    refine GE.iconst dX10_enough_16 kI_0 ?_
    refine GE.istore_n (lv' := [(0, .ref a0), (1, .int x2), (2, .int ((-1))), (3, .int 0)]) dX10_enough_17 rfl (by decide) [1, 2, 3, 0] rfl ?_
    refine (GE.lo3 (fun (x4 : Int32) (x5 : Int32) (t6 : St) => [(0, .ref a0), (1, .int x2), (2, .int x4), (3, .int x5)]) (fun (x4 : Int32) (x5 : Int32) (t6 : St) => []) (fun (x4 : Int32) (x5 : Int32) (t6 : St) => t6) (fun l7 hl7 x4 x5 t6 => ?_) FU ((-1)) 0 t3)
    refine GE.iload_n 3 dX10_enough_18 rfl rfl ?_
    refine GE.iconst dX10_enough_19 kI_1 ?_
    refine GE.aload_n 0 dX10_enough_20 rfl rfl ?_
    refine GE.gI dX10_enough_21 lF_X10_261 (fun x8 => ?_)
    refine GE.ishl dX10_enough_24 ?_
    refine GE.icmp_ge (tgt := 107) dX10_enough_25 (by decide) ?_ ?_
    · refine GE.iload_n 2 dX10_enough_107 rfl rfl ?_
      exact GE.iret dX10_enough_108 rfl (Nat.le_refl _) (Nat.le_refl _)
    · refine GE.iconst dX10_enough_28 kI_0 ?_
      refine GE.istore (lv' := [(0, .ref a0), (1, .int x2), (2, .int x4), (3, .int x5), (4, .int 0)]) dX10_enough_29 (by decide) [1, 2, 3, 4, 0] rfl ?_
      refine GE.iconst dX10_enough_31 kI_0 ?_
      refine GE.istore (lv' := [(0, .ref a0), (1, .int x2), (2, .int x4), (3, .int x5), (4, .int 0), (5, .int 0)]) dX10_enough_32 (by decide) [1, 2, 3, 4, 5, 0] rfl ?_
      refine (GE.lo3 (fun (x9 : Int32) (x10 : Int32) (t11 : St) => [(0, .ref a0), (1, .int x2), (2, .int x4), (3, .int x5), (4, .int x9), (5, .int x10)]) (fun (x9 : Int32) (x10 : Int32) (t11 : St) => []) (fun (x9 : Int32) (x10 : Int32) (t11 : St) => t11) (fun l12 hl12 x9 x10 t11 => ?_) FU 0 0 t6)
      refine GE.iload 5 dX10_enough_34 rfl ?_
      refine GE.aload_n 0 dX10_enough_36 rfl rfl ?_
      refine GE.gI dX10_enough_37 lF_X10_261 (fun x13 => ?_)
      refine GE.icmp_ge (tgt := 73) dX10_enough_40 (by decide) ?_ ?_
      · refine GE.iload 4 dX10_enough_73 rfl ?_
        refine GE.iload_n 1 dX10_enough_75 rfl rfl ?_
        refine GE.jo2 100 (fun (v14 : Int32) (t15 : St) => [(0, .ref a0), (1, .int x2), (3, .int x5)]) (fun (v14 : Int32) (t15 : St) => [.int v14]) (fun (v14 : Int32) (t15 : St) => t15) (fun v14 t15 => ?_) (fun j16 hj16 => ?_)
        · refine GE.istore_n (lv' := [(0, .ref a0), (1, .int x2), (2, .int v14), (3, .int x5)]) dX10_enough_100 rfl (by decide) [1, 2, 0, 3] rfl ?_
          refine GE.iinc (lv' := [(0, .ref a0), (1, .int x2), (2, .int v14), (3, .int (x5 + 1))]) 3 dX10_enough_101 rfl kI_1 (by decide) [1, 2, 3, 0] rfl ?_
          refine GE.goto (tgt := 18) dX10_enough_104 (by decide) ?_
          exact hl7 v14 (x5 + 1) t15
        · refine GE.jo1 99 (fun (t17 : St) => [(0, .ref a0), (1, .int x2), (2, .int x4), (3, .int x5)]) (fun (t17 : St) => []) (fun (t17 : St) => t17) (fun t17 => ?_) (fun j18 hj18 => ?_)
          · refine GE.iload_n 2 dX10_enough_99 rfl rfl ?_
            exact GE.sub [0, 1, 3] rfl (hj16 x4 t17)
          · refine GE.icmp_ne (tgt := 99) dX10_enough_76 (by decide) ?_ ?_
            · exact GE.sub [0, 1, 2, 3] rfl (hj18 t11)
            · refine GE.iload_n 2 dX10_enough_79 rfl rfl ?_
              refine GE.iconst dX10_enough_80 kI_m1 ?_
              refine GE.jo1 95 (fun (t19 : St) => [(0, .ref a0), (1, .int x2), (3, .int x5)]) (fun (t19 : St) => []) (fun (t19 : St) => t19) (fun t19 => ?_) (fun j20 hj20 => ?_)
              · refine GE.iload_n 2 dX10_enough_95 rfl rfl ?_
                refine GE.goto (tgt := 100) dX10_enough_96 (by decide) ?_
                exact hj16 x5 t19
              · refine GE.icmp_eq (tgt := 95) dX10_enough_81 (by decide) ?_ ?_
                · exact GE.sub [0, 1, 3] rfl (hj20 t11)
                · refine GE.iload_n 3 dX10_enough_84 rfl rfl ?_
                  refine GE.callsI [.int x5] dX10_enough_85 (lT_X10_343) rfl ⟨rfl, rfl⟩ (rokb rfl) (gJ6_bitCount_0f7a4 t11 x5) (fun x21 t22 => ?_)
                  refine GE.iload_n 2 dX10_enough_88 rfl rfl ?_
                  refine GE.callsI [.int x4] dX10_enough_89 (lT_X10_343) rfl ⟨rfl, rfl⟩ (rokb rfl) (gJ6_bitCount_0f7a4 t22 x4) (fun x23 t24 => ?_)
                  refine GE.icmp_ge (tgt := 99) dX10_enough_92 (by decide) ?_ ?_
                  · exact GE.sub [0, 1, 2, 3] rfl (hj18 t24)
                  · exact GE.sub [0, 1, 3] rfl (hj20 t24)
      · refine GE.iload 4 dX10_enough_43 rfl ?_
        refine GE.iload_n 3 dX10_enough_45 rfl rfl ?_
        refine GE.iload 5 dX10_enough_46 rfl ?_
        refine GE.callsI [.int x5, .int x10] dX10_enough_48 (lT_X10_228) rfl ⟨rfl, rfl⟩ (rokb rfl) (gX10_has t11 x5 x10) (fun x25 t26 => ?_)
        refine GE.jo3 64 (fun (v27 : Int32) (v28 : Int32) (t29 : St) => [(0, .ref a0), (1, .int x2), (2, .int x4), (3, .int x5), (5, .int x10)]) (fun (v27 : Int32) (v28 : Int32) (t29 : St) => [.int v27, .int v28]) (fun (v27 : Int32) (v28 : Int32) (t29 : St) => t29) (fun v27 v28 t29 => ?_) (fun j30 hj30 => ?_)
        · refine GE.ior dX10_enough_64 ?_
          refine GE.nami (fun x31 => ?_)
          refine GE.istore (lv' := [(0, .ref a0), (1, .int x2), (2, .int x4), (3, .int x5), (4, .int x31), (5, .int x10)]) dX10_enough_65 (by decide) [1, 2, 3, 4, 0, 5] rfl ?_
          refine GE.iinc (lv' := [(0, .ref a0), (1, .int x2), (2, .int x4), (3, .int x5), (4, .int x31), (5, .int (x10 + 1))]) 5 dX10_enough_67 rfl kI_1 (by decide) [1, 2, 3, 4, 5, 0] rfl ?_
          refine GE.goto (tgt := 34) dX10_enough_70 (by decide) ?_
          exact hl12 x31 (x10 + 1) t29
        · refine GE.if_eq (tgt := 63) dX10_enough_51 (by decide) ?_ ?_
          · refine GE.iconst dX10_enough_63 kI_0 ?_
            exact GE.sub [0, 1, 2, 3, 5] rfl (hj30 0 x9 t26)
          · refine GE.aload_n 0 dX10_enough_54 rfl rfl ?_
            refine GE.iload 5 dX10_enough_55 rfl ?_
            refine GE.callvI [.int x10] dX10_enough_57 (lV_X10_328) rfl ⟨rfl, rfl⟩ (rokb rfl) (gX10_seenBy t26 a0 x10) (fun x32 t33 => ?_)
            refine GE.goto (tgt := 64) dX10_enough_60 (by decide) ?_
            exact GE.sub [0, 1, 2, 3, 5] rfl (hj30 x32 x9 t33)
  · refine GE.iconst dX10_enough_7 kI_m1 ?_
    exact GE.iret dX10_enough_8 rfl (Nat.le_refl _) (Nat.le_refl _)
