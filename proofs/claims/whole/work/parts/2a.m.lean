def eX10_atom (rX10_atom : St → Nat → Option (Unit × St)) (rX10_term : St → Nat → Option (Unit × St)) (rX10_sum : St → Nat → Option (Unit × St)) (σ : St) (a0 : Nat) : Option (Unit × St) :=
  bo 10 σ a0 (fX10_look σ a0) (fun x1 t2 =>
  bd (fX10_isDigit t2 x1) (fun x3 t4 =>
  if x3 = 0 then
    bd (fX10_letterOf t4 x1) (fun x5 t6 =>
    if x5 = (-1) then
      if x1 = 91 then
        bo 10 t6 a0 (fX10_opens t6 a0) (fun w9 t10 =>
        (gI 10 4 t10 a0).bind fun x11 =>
        if x11 = (-1) then
          bo 10 t10 a0 (rX10_sum t10 a0) (fun w12 t13 =>
          bo 10 t13 a0 (fX10_closes t13 a0 93) (fun w14 t15 =>
          some ((), t15)))
        else
          some ((), t10))
      else
        bo 10 t6 a0 (fX10_bad t6 a0) (fun w7 t8 =>
        some ((), t8))
    else
      (gI 10 3 t6 a0).bind fun x16 =>
      (pV 10 3 t6 a0 (.int (x16 + 1))).bind (fun t17 =>
      bd (fX10_letterOf t17 x1) (fun x18 t19 =>
      bo 10 t19 a0 (fX10_put t19 a0 1 x18) (fun w20 t21 =>
      some ((), t21)))))
  else
    bo 10 t4 a0 (fX10_plainNumber t4 a0) (fun x22 t23 =>
    bo 10 t23 a0 (fX10_put t23 a0 0 x22) (fun w24 t25 =>
    some ((), t25)))))
def eX10_term (rX10_atom : St → Nat → Option (Unit × St)) (rX10_term : St → Nat → Option (Unit × St)) (rX10_sum : St → Nat → Option (Unit × St)) (σ : St) (a0 : Nat) : Option (Unit × St) :=
  bo 10 σ a0 (rX10_atom σ a0) (fun w1 t2 =>
  (gI 10 4 t2 a0).bind fun x3 =>
  jo2 (fun (v4 : Int32) (t5 : St) =>
    lo2 (fun l9 (x7 : Int32) (t8 : St) =>
      jo1 (fun (u9 : Unit) =>
      (gI 10 3 t8 a0).bind fun x11 =>
      (pV 10 3 t8 a0 (.int (x11 + 1))).bind (fun t12 =>
      bo 10 t12 a0 (rX10_atom t12 a0) (fun w13 t14 =>
      jo2 (fun (v15 : Int32) (v16 : Nat) =>
        bo 10 t14 v16 (fX10_put t14 v16 v15 0) (fun w18 t19 =>
        (gI 10 4 t19 a0).bind fun x20 =>
        jo2 (fun (v21 : Int32) (t22 : St) =>
          l9 v21 t22) (fun j23 =>
          if x20 = (-1) then
            bo 10 t19 a0 (fX10_look t19 a0) (fun x24 t25 =>
            j23 x24 t25)
          else
            j23 ((-1)) t19))) (fun j17 =>
        if x7 = 42 then
          j17 4 a0
        else
          j17 5 a0)))) (fun j10 =>
      if x7 = 42 then
        j10 () 
      else
        if x7 = 47 then
          j10 () 
        else
          some ((), t8))) FU v4 t5) (fun j6 =>
    if x3 = (-1) then
      bo 10 t2 a0 (fX10_look t2 a0) (fun x26 t27 =>
      j6 x26 t27)
    else
      j6 ((-1)) t2))
def eX10_sum (rX10_atom : St → Nat → Option (Unit × St)) (rX10_term : St → Nat → Option (Unit × St)) (rX10_sum : St → Nat → Option (Unit × St)) (σ : St) (a0 : Nat) : Option (Unit × St) :=
  bo 10 σ a0 (rX10_term σ a0) (fun w1 t2 =>
  (gI 10 4 t2 a0).bind fun x3 =>
  jo2 (fun (v4 : Int32) (t5 : St) =>
    lo2 (fun l9 (x7 : Int32) (t8 : St) =>
      jo1 (fun (u9 : Unit) =>
      (gI 10 3 t8 a0).bind fun x11 =>
      (pV 10 3 t8 a0 (.int (x11 + 1))).bind (fun t12 =>
      bo 10 t12 a0 (rX10_term t12 a0) (fun w13 t14 =>
      jo2 (fun (v15 : Int32) (v16 : Nat) =>
        bo 10 t14 v16 (fX10_put t14 v16 v15 0) (fun w18 t19 =>
        (gI 10 4 t19 a0).bind fun x20 =>
        jo2 (fun (v21 : Int32) (t22 : St) =>
          l9 v21 t22) (fun j23 =>
          if x20 = (-1) then
            bo 10 t19 a0 (fX10_look t19 a0) (fun x24 t25 =>
            j23 x24 t25)
          else
            j23 ((-1)) t19))) (fun j17 =>
        if x7 = 43 then
          j17 2 a0
        else
          j17 3 a0)))) (fun j10 =>
      if x7 = 43 then
        j10 () 
      else
        if x7 = 45 then
          j10 () 
        else
          some ((), t8))) FU v4 t5) (fun j6 =>
    if x3 = (-1) then
      bo 10 t2 a0 (fX10_look t2 a0) (fun x26 t27 =>
      j6 x26 t27)
    else
      j6 ((-1)) t2))
set_option maxHeartbeats 4000000 in
set_option maxRecDepth 100000 in
theorem hX10_atom (d : Nat) (rX10_atom : St → Nat → Option (Unit × St)) (rX10_term : St → Nat → Option (Unit × St)) (rX10_sum : St → Nat → Option (Unit × St)) (ihX10_atom : ∀ (σ : St) (a0 : Nat), CE vU (mX10_atom d) [.ref a0] σ (rX10_atom σ a0)) (ihX10_term : ∀ (σ : St) (a0 : Nat), CE vU (mX10_term d) [.ref a0] σ (rX10_term σ a0)) (ihX10_sum : ∀ (σ : St) (a0 : Nat), CE vU (mX10_sum d) [.ref a0] σ (rX10_sum σ a0)) : ∀ (σ : St) (a0 : Nat), CE vU (mX10_atom (d + 1)) [.ref a0] σ (eX10_atom rX10_atom rX10_term rX10_sum σ a0) := by
  intro σ a0
  refine CE.ofGEF (lv := [(0, .ref a0)]) (show plainFor yX10_atom = true by decide +kernel) (Nat.le_of_ble_eq_true rfl) rfl ?_
  unfold eX10_atom
  refine GE.aload_n 0 dX10_atom_0 rfl rfl ?_
  refine GE.callvI [] dX10_atom_1 (lV_X10_131) rfl ⟨rfl, rfl⟩ ⟨(show 2 + 1 ≤ d + 1 + 4 by omega), Nat.le_refl _, Nat.le_refl _, Nat.le_of_ble_eq_true rfl⟩ (gX10_look σ a0) (fun x1 t2 => ?_)
  refine GE.istore_n (lv' := [(0, .ref a0), (1, .int x1)]) dX10_atom_4 rfl (show 1 < 2 by decide) [1, 0] rfl ?_
  refine GE.iload_n 1 dX10_atom_5 rfl rfl ?_
  refine GE.callsI [.int x1] dX10_atom_6 (lT_X10_134) rfl ⟨rfl, rfl⟩ ⟨(show 1 + 1 ≤ d + 1 + 4 by omega), Nat.le_refl _, Nat.le_refl _, Nat.le_of_ble_eq_true rfl⟩ (gX10_isDigit t2 x1) (fun x3 t4 => ?_)
  refine GE.if_eq (tgt := 24) dX10_atom_9 (by decide) ?_ ?_
  · refine GE.iload_n 1 dX10_atom_24 rfl rfl ?_
    refine GE.callsI [.int x1] dX10_atom_25 (lT_X10_145) rfl ⟨rfl, rfl⟩ ⟨(show 1 + 1 ≤ d + 1 + 4 by omega), Nat.le_refl _, Nat.le_refl _, Nat.le_of_ble_eq_true rfl⟩ (gX10_letterOf t4 x1) (fun x5 t6 => ?_)
    refine GE.iconst dX10_atom_28 kI_m1 ?_
    refine GE.icmp_eq (tgt := 54) dX10_atom_29 (by decide) ?_ ?_
    · refine GE.iload_n 1 dX10_atom_54 rfl rfl ?_
      refine GE.bipush dX10_atom_55 kB_91 ?_
      refine GE.icmp_ne (tgt := 85) dX10_atom_57 (by decide) ?_ ?_
      · refine GE.aload_n 0 dX10_atom_85 rfl rfl ?_
        refine GE.callvU [] dX10_atom_86 (lV_X10_128) rfl ⟨rfl, rfl⟩ ⟨(show 1 + 1 ≤ d + 1 + 4 by omega), Nat.le_refl _, Nat.le_refl _, Nat.le_of_ble_eq_true rfl⟩ (gX10_bad t6 a0) (fun w7 t8 => ?_)
        exact GE.vret (x := ()) dX10_atom_89 rfl (Nat.le_refl _) (Nat.le_refl _)
      · refine GE.aload_n 0 dX10_atom_60 rfl rfl ?_
        refine GE.callvU [] dX10_atom_61 (lV_X10_149) rfl ⟨rfl, rfl⟩ ⟨(show 2 + 1 ≤ d + 1 + 4 by omega), Nat.le_refl _, Nat.le_refl _, Nat.le_of_ble_eq_true rfl⟩ (gX10_opens t6 a0) (fun w9 t10 => ?_)
        refine GE.aload_n 0 dX10_atom_64 rfl rfl ?_
        refine GE.gI dX10_atom_65 lF_X10_119 (fun x11 => ?_)
        refine GE.iconst dX10_atom_68 kI_m1 ?_
        refine GE.icmp_ne (tgt := 89) dX10_atom_69 (by decide) ?_ ?_
        · exact GE.vret (x := ()) dX10_atom_89 rfl (Nat.le_refl _) (Nat.le_refl _)
        · refine GE.aload_n 0 dX10_atom_72 rfl rfl ?_
          refine GE.callvU [] dX10_atom_73 (lV_X10_152 d) rfl ⟨rfl, rfl⟩ ⟨Nat.le_refl _, Nat.le_refl _, Nat.le_refl _, Nat.le_of_ble_eq_true rfl⟩ (ihX10_sum t10 a0) (fun w12 t13 => ?_)
          refine GE.aload_n 0 dX10_atom_76 rfl rfl ?_
          refine GE.bipush dX10_atom_77 kB_93 ?_
          refine GE.callvU [.int 93] dX10_atom_79 (lV_X10_155) rfl ⟨rfl, rfl⟩ ⟨(show 3 + 1 ≤ d + 1 + 4 by omega), Nat.le_refl _, Nat.le_refl _, Nat.le_of_ble_eq_true rfl⟩ (gX10_closes t13 a0 93) (fun w14 t15 => ?_)
          refine GE.goto (tgt := 89) dX10_atom_82 (by decide) ?_
          exact GE.vret (x := ()) dX10_atom_89 rfl (Nat.le_refl _) (Nat.le_refl _)
    · refine GE.aload_n 0 dX10_atom_32 rfl rfl ?_
      refine GE.dup dX10_atom_33 rfl ?_
      refine GE.gI dX10_atom_34 lF_X10_112 (fun x16 => ?_)
      refine GE.iconst dX10_atom_37 kI_1 ?_
      refine GE.iadd dX10_atom_38 ?_
      refine GE.pI dX10_atom_39 lF_X10_112 (fun t17 => ?_)
      refine GE.aload_n 0 dX10_atom_42 rfl rfl ?_
      refine GE.iconst dX10_atom_43 kI_1 ?_
      refine GE.iload_n 1 dX10_atom_44 rfl rfl ?_
      refine GE.callsI [.int x1] dX10_atom_45 (lT_X10_145) rfl ⟨rfl, rfl⟩ ⟨(show 1 + 1 ≤ d + 1 + 4 by omega), Nat.le_refl _, Nat.le_refl _, Nat.le_of_ble_eq_true rfl⟩ (gX10_letterOf t17 x1) (fun x18 t19 => ?_)
      refine GE.callvU [.int 1, .int x18] dX10_atom_48 (lV_X10_141) rfl ⟨rfl, rfl⟩ ⟨(show 1 + 1 ≤ d + 1 + 4 by omega), Nat.le_refl _, Nat.le_refl _, Nat.le_of_ble_eq_true rfl⟩ (gX10_put t19 a0 1 x18) (fun w20 t21 => ?_)
      refine GE.goto (tgt := 89) dX10_atom_51 (by decide) ?_
      exact GE.vret (x := ()) dX10_atom_89 rfl (Nat.le_refl _) (Nat.le_refl _)
  · refine GE.aload_n 0 dX10_atom_12 rfl rfl ?_
    refine GE.iconst dX10_atom_13 kI_0 ?_
    refine GE.aload_n 0 dX10_atom_14 rfl rfl ?_
    refine GE.callvI [] dX10_atom_15 (lV_X10_138) rfl ⟨rfl, rfl⟩ ⟨(show 2 + 1 ≤ d + 1 + 4 by omega), Nat.le_refl _, Nat.le_refl _, Nat.le_of_ble_eq_true rfl⟩ (gX10_plainNumber t4 a0) (fun x22 t23 => ?_)
    refine GE.callvU [.int 0, .int x22] dX10_atom_18 (lV_X10_141) rfl ⟨rfl, rfl⟩ ⟨(show 1 + 1 ≤ d + 1 + 4 by omega), Nat.le_refl _, Nat.le_refl _, Nat.le_of_ble_eq_true rfl⟩ (gX10_put t23 a0 0 x22) (fun w24 t25 => ?_)
    refine GE.goto (tgt := 89) dX10_atom_21 (by decide) ?_
    exact GE.vret (x := ()) dX10_atom_89 rfl (Nat.le_refl _) (Nat.le_refl _)
set_option maxHeartbeats 4000000 in
set_option maxRecDepth 100000 in
theorem hX10_term (d : Nat) (rX10_atom : St → Nat → Option (Unit × St)) (rX10_term : St → Nat → Option (Unit × St)) (rX10_sum : St → Nat → Option (Unit × St)) (ihX10_atom : ∀ (σ : St) (a0 : Nat), CE vU (mX10_atom d) [.ref a0] σ (rX10_atom σ a0)) (ihX10_term : ∀ (σ : St) (a0 : Nat), CE vU (mX10_term d) [.ref a0] σ (rX10_term σ a0)) (ihX10_sum : ∀ (σ : St) (a0 : Nat), CE vU (mX10_sum d) [.ref a0] σ (rX10_sum σ a0)) : ∀ (σ : St) (a0 : Nat), CE vU (mX10_term (d + 1)) [.ref a0] σ (eX10_term rX10_atom rX10_term rX10_sum σ a0) := by
  intro σ a0
  refine CE.ofGEF (lv := [(0, .ref a0)]) (show plainFor yX10_term = true by decide +kernel) (Nat.le_of_ble_eq_true rfl) rfl ?_
  unfold eX10_term
  refine GE.aload_n 0 dX10_term_0 rfl rfl ?_
  refine GE.callvU [] dX10_term_1 (lV_X10_159 d) rfl ⟨rfl, rfl⟩ ⟨Nat.le_refl _, Nat.le_refl _, Nat.le_refl _, Nat.le_of_ble_eq_true rfl⟩ (ihX10_atom σ a0) (fun w1 t2 => ?_)
  refine GE.aload_n 0 dX10_term_4 rfl rfl ?_
  refine GE.gI dX10_term_5 lF_X10_119 (fun x3 => ?_)
  refine GE.iconst dX10_term_8 kI_m1 ?_
  refine GE.jo2 20 (fun (v4 : Int32) (t5 : St) => [(0, .ref a0)]) (fun (v4 : Int32) (t5 : St) => [.int v4]) (fun (v4 : Int32) (t5 : St) => t5) (fun v4 t5 => ?_) (fun j6 hj6 => ?_)
  · refine GE.istore_n (lv' := [(0, .ref a0), (1, .int v4)]) dX10_term_20 rfl (show 1 < 2 by decide) [1, 0] rfl ?_
    refine (GE.lo2 (fun (x7 : Int32) (t8 : St) => [(0, .ref a0), (1, .int x7)]) (fun (x7 : Int32) (t8 : St) => []) (fun (x7 : Int32) (t8 : St) => t8) (fun l9 hl9 x7 t8 => ?_) FU v4 t5)
    refine GE.iload_n 1 dX10_term_21 rfl rfl ?_
    refine GE.bipush dX10_term_22 kB_42 ?_
    refine GE.jo1 33 (fun (u9 : Unit) => [(0, .ref a0), (1, .int x7)]) (fun (u9 : Unit) => []) (fun (u9 : Unit) => t8) (fun u9 => ?_) (fun j10 hj10 => ?_)
    · refine GE.aload_n 0 dX10_term_33 rfl rfl ?_
      refine GE.dup dX10_term_34 rfl ?_
      refine GE.gI dX10_term_35 lF_X10_112 (fun x11 => ?_)
      refine GE.iconst dX10_term_38 kI_1 ?_
      refine GE.iadd dX10_term_39 ?_
      refine GE.pI dX10_term_40 lF_X10_112 (fun t12 => ?_)
      refine GE.aload_n 0 dX10_term_43 rfl rfl ?_
      refine GE.callvU [] dX10_term_44 (lV_X10_159 d) rfl ⟨rfl, rfl⟩ ⟨Nat.le_refl _, Nat.le_refl _, Nat.le_refl _, Nat.le_of_ble_eq_true rfl⟩ (ihX10_atom t12 a0) (fun w13 t14 => ?_)
      refine GE.aload_n 0 dX10_term_47 rfl rfl ?_
      refine GE.iload_n 1 dX10_term_48 rfl rfl ?_
      refine GE.bipush dX10_term_49 kB_42 ?_
      refine GE.jo2 59 (fun (v15 : Int32) (v16 : Nat) => [(0, .ref a0)]) (fun (v15 : Int32) (v16 : Nat) => [.int v15, .ref v16]) (fun (v15 : Int32) (v16 : Nat) => t14) (fun v15 v16 => ?_) (fun j17 hj17 => ?_)
      · refine GE.iconst dX10_term_59 kI_0 ?_
        refine GE.callvU [.int v15, .int 0] dX10_term_60 (lV_X10_141) rfl ⟨rfl, rfl⟩ ⟨(show 1 + 1 ≤ d + 1 + 4 by omega), Nat.le_refl _, Nat.le_refl _, Nat.le_of_ble_eq_true rfl⟩ (gX10_put t14 v16 v15 0) (fun w18 t19 => ?_)
        refine GE.aload_n 0 dX10_term_63 rfl rfl ?_
        refine GE.gI dX10_term_64 lF_X10_119 (fun x20 => ?_)
        refine GE.iconst dX10_term_67 kI_m1 ?_
        refine GE.jo2 79 (fun (v21 : Int32) (t22 : St) => [(0, .ref a0)]) (fun (v21 : Int32) (t22 : St) => [.int v21]) (fun (v21 : Int32) (t22 : St) => t22) (fun v21 t22 => ?_) (fun j23 hj23 => ?_)
        · refine GE.istore_n (lv' := [(0, .ref a0), (1, .int v21)]) dX10_term_79 rfl (show 1 < 2 by decide) [1, 0] rfl ?_
          refine GE.goto (tgt := 21) dX10_term_80 (by decide) ?_
          exact hl9 v21 t22
        · refine GE.icmp_ne (tgt := 78) dX10_term_68 (by decide) ?_ ?_
          · refine GE.iconst dX10_term_78 kI_m1 ?_
            exact hj23 ((-1)) t19
          · refine GE.aload_n 0 dX10_term_71 rfl rfl ?_
            refine GE.callvI [] dX10_term_72 (lV_X10_131) rfl ⟨rfl, rfl⟩ ⟨(show 2 + 1 ≤ d + 1 + 4 by omega), Nat.le_refl _, Nat.le_refl _, Nat.le_of_ble_eq_true rfl⟩ (gX10_look t19 a0) (fun x24 t25 => ?_)
            refine GE.goto (tgt := 79) dX10_term_75 (by decide) ?_
            exact hj23 x24 t25
      · refine GE.icmp_ne (tgt := 58) dX10_term_51 (by decide) ?_ ?_
        · refine GE.iconst dX10_term_58 kI_5 ?_
          exact GE.sub [0] rfl (hj17 5 a0)
        · refine GE.iconst dX10_term_54 kI_4 ?_
          refine GE.goto (tgt := 59) dX10_term_55 (by decide) ?_
          exact GE.sub [0] rfl (hj17 4 a0)
    · refine GE.icmp_eq (tgt := 33) dX10_term_24 (by decide) ?_ ?_
      · exact hj10 () 
      · refine GE.iload_n 1 dX10_term_27 rfl rfl ?_
        refine GE.bipush dX10_term_28 kB_47 ?_
        refine GE.icmp_ne (tgt := 83) dX10_term_30 (by decide) ?_ ?_
        · exact GE.vret (x := ()) dX10_term_83 rfl (Nat.le_refl _) (Nat.le_refl _)
        · exact hj10 () 
  · refine GE.icmp_ne (tgt := 19) dX10_term_9 (by decide) ?_ ?_
    · refine GE.iconst dX10_term_19 kI_m1 ?_
      exact hj6 ((-1)) t2
    · refine GE.aload_n 0 dX10_term_12 rfl rfl ?_
      refine GE.callvI [] dX10_term_13 (lV_X10_131) rfl ⟨rfl, rfl⟩ ⟨(show 2 + 1 ≤ d + 1 + 4 by omega), Nat.le_refl _, Nat.le_refl _, Nat.le_of_ble_eq_true rfl⟩ (gX10_look t2 a0) (fun x26 t27 => ?_)
      refine GE.goto (tgt := 20) dX10_term_16 (by decide) ?_
      exact hj6 x26 t27
set_option maxHeartbeats 4000000 in
set_option maxRecDepth 100000 in
theorem hX10_sum (d : Nat) (rX10_atom : St → Nat → Option (Unit × St)) (rX10_term : St → Nat → Option (Unit × St)) (rX10_sum : St → Nat → Option (Unit × St)) (ihX10_atom : ∀ (σ : St) (a0 : Nat), CE vU (mX10_atom d) [.ref a0] σ (rX10_atom σ a0)) (ihX10_term : ∀ (σ : St) (a0 : Nat), CE vU (mX10_term d) [.ref a0] σ (rX10_term σ a0)) (ihX10_sum : ∀ (σ : St) (a0 : Nat), CE vU (mX10_sum d) [.ref a0] σ (rX10_sum σ a0)) : ∀ (σ : St) (a0 : Nat), CE vU (mX10_sum (d + 1)) [.ref a0] σ (eX10_sum rX10_atom rX10_term rX10_sum σ a0) := by
  intro σ a0
  refine CE.ofGEF (lv := [(0, .ref a0)]) (show plainFor yX10_sum = true by decide +kernel) (Nat.le_of_ble_eq_true rfl) rfl ?_
  unfold eX10_sum
  refine GE.aload_n 0 dX10_sum_0 rfl rfl ?_
  refine GE.callvU [] dX10_sum_1 (lV_X10_162 d) rfl ⟨rfl, rfl⟩ ⟨Nat.le_refl _, Nat.le_refl _, Nat.le_refl _, Nat.le_of_ble_eq_true rfl⟩ (ihX10_term σ a0) (fun w1 t2 => ?_)
  refine GE.aload_n 0 dX10_sum_4 rfl rfl ?_
  refine GE.gI dX10_sum_5 lF_X10_119 (fun x3 => ?_)
  refine GE.iconst dX10_sum_8 kI_m1 ?_
  refine GE.jo2 20 (fun (v4 : Int32) (t5 : St) => [(0, .ref a0)]) (fun (v4 : Int32) (t5 : St) => [.int v4]) (fun (v4 : Int32) (t5 : St) => t5) (fun v4 t5 => ?_) (fun j6 hj6 => ?_)
  · refine GE.istore_n (lv' := [(0, .ref a0), (1, .int v4)]) dX10_sum_20 rfl (show 1 < 2 by decide) [1, 0] rfl ?_
    refine (GE.lo2 (fun (x7 : Int32) (t8 : St) => [(0, .ref a0), (1, .int x7)]) (fun (x7 : Int32) (t8 : St) => []) (fun (x7 : Int32) (t8 : St) => t8) (fun l9 hl9 x7 t8 => ?_) FU v4 t5)
    refine GE.iload_n 1 dX10_sum_21 rfl rfl ?_
    refine GE.bipush dX10_sum_22 kB_43 ?_
    refine GE.jo1 33 (fun (u9 : Unit) => [(0, .ref a0), (1, .int x7)]) (fun (u9 : Unit) => []) (fun (u9 : Unit) => t8) (fun u9 => ?_) (fun j10 hj10 => ?_)
    · refine GE.aload_n 0 dX10_sum_33 rfl rfl ?_
      refine GE.dup dX10_sum_34 rfl ?_
      refine GE.gI dX10_sum_35 lF_X10_112 (fun x11 => ?_)
      refine GE.iconst dX10_sum_38 kI_1 ?_
      refine GE.iadd dX10_sum_39 ?_
      refine GE.pI dX10_sum_40 lF_X10_112 (fun t12 => ?_)
      refine GE.aload_n 0 dX10_sum_43 rfl rfl ?_
      refine GE.callvU [] dX10_sum_44 (lV_X10_162 d) rfl ⟨rfl, rfl⟩ ⟨Nat.le_refl _, Nat.le_refl _, Nat.le_refl _, Nat.le_of_ble_eq_true rfl⟩ (ihX10_term t12 a0) (fun w13 t14 => ?_)
      refine GE.aload_n 0 dX10_sum_47 rfl rfl ?_
      refine GE.iload_n 1 dX10_sum_48 rfl rfl ?_
      refine GE.bipush dX10_sum_49 kB_43 ?_
      refine GE.jo2 59 (fun (v15 : Int32) (v16 : Nat) => [(0, .ref a0)]) (fun (v15 : Int32) (v16 : Nat) => [.int v15, .ref v16]) (fun (v15 : Int32) (v16 : Nat) => t14) (fun v15 v16 => ?_) (fun j17 hj17 => ?_)
      · refine GE.iconst dX10_sum_59 kI_0 ?_
        refine GE.callvU [.int v15, .int 0] dX10_sum_60 (lV_X10_141) rfl ⟨rfl, rfl⟩ ⟨(show 1 + 1 ≤ d + 1 + 4 by omega), Nat.le_refl _, Nat.le_refl _, Nat.le_of_ble_eq_true rfl⟩ (gX10_put t14 v16 v15 0) (fun w18 t19 => ?_)
        refine GE.aload_n 0 dX10_sum_63 rfl rfl ?_
        refine GE.gI dX10_sum_64 lF_X10_119 (fun x20 => ?_)
        refine GE.iconst dX10_sum_67 kI_m1 ?_
        refine GE.jo2 79 (fun (v21 : Int32) (t22 : St) => [(0, .ref a0)]) (fun (v21 : Int32) (t22 : St) => [.int v21]) (fun (v21 : Int32) (t22 : St) => t22) (fun v21 t22 => ?_) (fun j23 hj23 => ?_)
        · refine GE.istore_n (lv' := [(0, .ref a0), (1, .int v21)]) dX10_sum_79 rfl (show 1 < 2 by decide) [1, 0] rfl ?_
          refine GE.goto (tgt := 21) dX10_sum_80 (by decide) ?_
          exact hl9 v21 t22
        · refine GE.icmp_ne (tgt := 78) dX10_sum_68 (by decide) ?_ ?_
          · refine GE.iconst dX10_sum_78 kI_m1 ?_
            exact hj23 ((-1)) t19
          · refine GE.aload_n 0 dX10_sum_71 rfl rfl ?_
            refine GE.callvI [] dX10_sum_72 (lV_X10_131) rfl ⟨rfl, rfl⟩ ⟨(show 2 + 1 ≤ d + 1 + 4 by omega), Nat.le_refl _, Nat.le_refl _, Nat.le_of_ble_eq_true rfl⟩ (gX10_look t19 a0) (fun x24 t25 => ?_)
            refine GE.goto (tgt := 79) dX10_sum_75 (by decide) ?_
            exact hj23 x24 t25
      · refine GE.icmp_ne (tgt := 58) dX10_sum_51 (by decide) ?_ ?_
        · refine GE.iconst dX10_sum_58 kI_3 ?_
          exact GE.sub [0] rfl (hj17 3 a0)
        · refine GE.iconst dX10_sum_54 kI_2 ?_
          refine GE.goto (tgt := 59) dX10_sum_55 (by decide) ?_
          exact GE.sub [0] rfl (hj17 2 a0)
    · refine GE.icmp_eq (tgt := 33) dX10_sum_24 (by decide) ?_ ?_
      · exact hj10 () 
      · refine GE.iload_n 1 dX10_sum_27 rfl rfl ?_
        refine GE.bipush dX10_sum_28 kB_45 ?_
        refine GE.icmp_ne (tgt := 83) dX10_sum_30 (by decide) ?_ ?_
        · exact GE.vret (x := ()) dX10_sum_83 rfl (Nat.le_refl _) (Nat.le_refl _)
        · exact hj10 () 
  · refine GE.icmp_ne (tgt := 19) dX10_sum_9 (by decide) ?_ ?_
    · refine GE.iconst dX10_sum_19 kI_m1 ?_
      exact hj6 ((-1)) t2
    · refine GE.aload_n 0 dX10_sum_12 rfl rfl ?_
      refine GE.callvI [] dX10_sum_13 (lV_X10_131) rfl ⟨rfl, rfl⟩ ⟨(show 2 + 1 ≤ d + 1 + 4 by omega), Nat.le_refl _, Nat.le_refl _, Nat.le_of_ble_eq_true rfl⟩ (gX10_look t2 a0) (fun x26 t27 => ?_)
      refine GE.goto (tgt := 20) dX10_sum_16 (by decide) ?_
      exact hj6 x26 t27
def recX10_atom : Nat → (St → Nat → Option (Unit × St)) × (St → Nat → Option (Unit × St)) × (St → Nat → Option (Unit × St))
  | 0 => (fun _ _ => none, fun _ _ => none, fun _ _ => none)
  | d + 1 => (eX10_atom (recX10_atom d).1 (recX10_atom d).2.1 (recX10_atom d).2.2, eX10_term (recX10_atom d).1 (recX10_atom d).2.1 (recX10_atom d).2.2, eX10_sum (recX10_atom d).1 (recX10_atom d).2.1 (recX10_atom d).2.2)
def fX10_atom (d : Nat) : St → Nat → Option (Unit × St) := (recX10_atom d).1
def fX10_term (d : Nat) : St → Nat → Option (Unit × St) := (recX10_atom d).2.1
def fX10_sum (d : Nat) : St → Nat → Option (Unit × St) := (recX10_atom d).2.2
theorem allX10_atom : ∀ d : Nat, (∀ (σ : St) (a0 : Nat), CE vU (mX10_atom d) [.ref a0] σ (fX10_atom d σ a0)) ∧ (∀ (σ : St) (a0 : Nat), CE vU (mX10_term d) [.ref a0] σ (fX10_term d σ a0)) ∧ (∀ (σ : St) (a0 : Nat), CE vU (mX10_sum d) [.ref a0] σ (fX10_sum d σ a0)) := by
  intro d
  induction d with
  | zero => exact ⟨fun _ _ => CE.none, fun _ _ => CE.none, fun _ _ => CE.none⟩
  | succ d ih => exact ⟨hX10_atom d (recX10_atom d).1 (recX10_atom d).2.1 (recX10_atom d).2.2 ih.1 ih.2.1 ih.2.2, hX10_term d (recX10_atom d).1 (recX10_atom d).2.1 (recX10_atom d).2.2 ih.1 ih.2.1 ih.2.2, hX10_sum d (recX10_atom d).1 (recX10_atom d).2.1 (recX10_atom d).2.2 ih.1 ih.2.1 ih.2.2⟩
theorem gX10_atom (d : Nat) : ∀ (σ : St) (a0 : Nat), CE vU (mX10_atom d) [.ref a0] σ (fX10_atom d σ a0) := (allX10_atom d).1
theorem gX10_term (d : Nat) : ∀ (σ : St) (a0 : Nat), CE vU (mX10_term d) [.ref a0] σ (fX10_term d σ a0) := (allX10_atom d).2.1
theorem gX10_sum (d : Nat) : ∀ (σ : St) (a0 : Nat), CE vU (mX10_sum d) [.ref a0] σ (fX10_sum d σ a0) := (allX10_atom d).2.2
def fX10_compare (σ : St) (a0 : Nat) : Option (Unit × St) :=
  (gI 10 4 σ a0).bind fun x1 =>
  jo2 (fun (v2 : Int32) (t3 : St) =>
    bd (fX10_isSign t3 v2) (fun x5 t6 =>
    if x5 = 0 then
      bo 10 t6 a0 (fX10_bad t6 a0) (fun w16 t17 =>
      some ((), t17))
    else
      (gI 10 3 t6 a0).bind fun x7 =>
      (pV 10 3 t6 a0 (.int (x7 + 1))).bind (fun t8 =>
      bo 10 t8 a0 (fX10_sum 60 t8 a0) (fun w9 t10 =>
      jo2 (fun (v11 : Int32) (v12 : Nat) =>
        bo 10 t10 v12 (fX10_put t10 v12 v11 0) (fun w14 t15 =>
        some ((), t15))) (fun j13 =>
        if v2 = 61 then
          j13 6 a0
        else
          if v2 = 60 then
            j13 7 a0
          else
            j13 8 a0))))) (fun j4 =>
    if x1 = (-1) then
      bo 10 σ a0 (fX10_look σ a0) (fun x18 t19 =>
      j4 x18 t19)
    else
      j4 ((-1)) σ)
set_option maxHeartbeats 4000000 in
set_option maxRecDepth 100000 in
theorem gX10_compare (σ : St) (a0 : Nat) : CE vU mX10_compare [.ref a0] σ (fX10_compare σ a0) := by
  refine CE.ofGEF (lv := [(0, .ref a0)]) (by decide +kernel) (Nat.le_of_ble_eq_true rfl) rfl ?_
  unfold fX10_compare
  refine GE.aload_n 0 dX10_compare_0 rfl rfl ?_
  refine GE.gI dX10_compare_1 lF_X10_119 (fun x1 => ?_)
  refine GE.iconst dX10_compare_4 kI_m1 ?_
  refine GE.jo2 16 (fun (v2 : Int32) (t3 : St) => [(0, .ref a0)]) (fun (v2 : Int32) (t3 : St) => [.int v2]) (fun (v2 : Int32) (t3 : St) => t3) (fun v2 t3 => ?_) (fun j4 hj4 => ?_)
  · refine GE.istore_n (lv' := [(0, .ref a0), (1, .int v2)]) dX10_compare_16 rfl (by decide) [1, 0] rfl ?_
    refine GE.iload_n 1 dX10_compare_17 rfl rfl ?_
    refine GE.callsI [.int v2] dX10_compare_18 (lT_X10_165) rfl ⟨rfl, rfl⟩ (rokb rfl) (gX10_isSign t3 v2) (fun x5 t6 => ?_)
    refine GE.if_ne (tgt := 29) dX10_compare_21 (by decide) ?_ ?_
    · refine GE.aload_n 0 dX10_compare_29 rfl rfl ?_
      refine GE.dup dX10_compare_30 rfl ?_
      refine GE.gI dX10_compare_31 lF_X10_112 (fun x7 => ?_)
      refine GE.iconst dX10_compare_34 kI_1 ?_
      refine GE.iadd dX10_compare_35 ?_
      refine GE.pI dX10_compare_36 lF_X10_112 (fun t8 => ?_)
      refine GE.aload_n 0 dX10_compare_39 rfl rfl ?_
      refine GE.callvU [] dX10_compare_40 (lV_X10_152 60) rfl ⟨rfl, rfl⟩ (rokb rfl) (gX10_sum 60 t8 a0) (fun w9 t10 => ?_)
      refine GE.aload_n 0 dX10_compare_43 rfl rfl ?_
      refine GE.iload_n 1 dX10_compare_44 rfl rfl ?_
      refine GE.bipush dX10_compare_45 kB_61 ?_
      refine GE.jo2 68 (fun (v11 : Int32) (v12 : Nat) => []) (fun (v11 : Int32) (v12 : Nat) => [.int v11, .ref v12]) (fun (v11 : Int32) (v12 : Nat) => t10) (fun v11 v12 => ?_) (fun j13 hj13 => ?_)
      · refine GE.iconst dX10_compare_68 kI_0 ?_
        refine GE.callvU [.int v11, .int 0] dX10_compare_69 (lV_X10_141) rfl ⟨rfl, rfl⟩ (rokb rfl) (gX10_put t10 v12 v11 0) (fun w14 t15 => ?_)
        exact GE.vret (x := ()) dX10_compare_72 rfl (Nat.le_refl _) (Nat.le_refl _)
      · refine GE.icmp_ne (tgt := 55) dX10_compare_47 (by decide) ?_ ?_
        · refine GE.iload_n 1 dX10_compare_55 rfl rfl ?_
          refine GE.bipush dX10_compare_56 kB_60 ?_
          refine GE.icmp_ne (tgt := 66) dX10_compare_58 (by decide) ?_ ?_
          · refine GE.bipush dX10_compare_66 kB_8 ?_
            exact GE.sub [] rfl (hj13 8 a0)
          · refine GE.bipush dX10_compare_61 kB_7 ?_
            refine GE.goto (tgt := 68) dX10_compare_63 (by decide) ?_
            exact GE.sub [] rfl (hj13 7 a0)
        · refine GE.bipush dX10_compare_50 kB_6 ?_
          refine GE.goto (tgt := 68) dX10_compare_52 (by decide) ?_
          exact GE.sub [] rfl (hj13 6 a0)
    · refine GE.aload_n 0 dX10_compare_24 rfl rfl ?_
      refine GE.callvU [] dX10_compare_25 (lV_X10_128) rfl ⟨rfl, rfl⟩ (rokb rfl) (gX10_bad t6 a0) (fun w16 t17 => ?_)
      exact GE.vret (x := ()) dX10_compare_28 rfl (Nat.le_refl _) (Nat.le_refl _)
  · refine GE.icmp_ne (tgt := 15) dX10_compare_5 (by decide) ?_ ?_
    · refine GE.iconst dX10_compare_15 kI_m1 ?_
      exact hj4 ((-1)) σ
    · refine GE.aload_n 0 dX10_compare_8 rfl rfl ?_
      refine GE.callvI [] dX10_compare_9 (lV_X10_131) rfl ⟨rfl, rfl⟩ (rokb rfl) (gX10_look σ a0) (fun x18 t19 => ?_)
      refine GE.goto (tgt := 16) dX10_compare_12 (by decide) ?_
      exact hj4 x18 t19
def eX10_goOnOr (rX10_goOnOr : St → Nat → Option (Unit × St)) (rX10_unit : St → Nat → Option (Unit × St)) (rX10_goOnAnd : St → Nat → Option (Unit × St)) (rX10_condition : St → Nat → Option (Unit × St)) (σ : St) (a0 : Nat) : Option (Unit × St) :=
  lo1 (fun l2 (t1 : St) =>
    (gI 10 4 t1 a0).bind fun x3 =>
  if x3 = (-1) then
    bo 10 t1 a0 (fX10_look t1 a0) (fun x4 t5 =>
    if x4 = 124 then
      (gI 10 3 t5 a0).bind fun x6 =>
      (pV 10 3 t5 a0 (.int (x6 + 1))).bind (fun t7 =>
      bo 10 t7 a0 (rX10_unit t7 a0) (fun w8 t9 =>
      bo 10 t9 a0 (rX10_goOnAnd t9 a0) (fun w10 t11 =>
      bo 10 t11 a0 (fX10_put t11 a0 11 0) (fun w12 t13 =>
      l2 t13))))
    else
      some ((), t5))
  else
    some ((), t1)) FU σ
def eX10_unit (rX10_goOnOr : St → Nat → Option (Unit × St)) (rX10_unit : St → Nat → Option (Unit × St)) (rX10_goOnAnd : St → Nat → Option (Unit × St)) (rX10_condition : St → Nat → Option (Unit × St)) (σ : St) (a0 : Nat) : Option (Unit × St) :=
  bo 10 σ a0 (fX10_look σ a0) (fun x1 t2 =>
  if x1 = 33 then
    bo 10 t2 a0 (fX10_opens t2 a0) (fun w15 t16 =>
    (gI 10 4 t16 a0).bind fun x17 =>
    if x17 = (-1) then
      bo 10 t16 a0 (rX10_unit t16 a0) (fun w18 t19 =>
      bo 10 t19 a0 (fX10_put t19 a0 9 0) (fun w20 t21 =>
      (gI 10 5 t21 a0).bind fun x22 =>
      (pV 10 5 t21 a0 (.int (x22 - 1))).bind (fun t23 =>
      some ((), t23))))
    else
      some ((), t16))
  else
    if x1 = 40 then
      bo 10 t2 a0 (fX10_opens t2 a0) (fun w8 t9 =>
      (gI 10 4 t9 a0).bind fun x10 =>
      if x10 = (-1) then
        bo 10 t9 a0 (rX10_condition t9 a0) (fun w11 t12 =>
        bo 10 t12 a0 (fX10_closes t12 a0 41) (fun w13 t14 =>
        some ((), t14)))
      else
        some ((), t9))
    else
      bo 10 t2 a0 (fX10_sum 60 t2 a0) (fun w3 t4 =>
      (gI 10 4 t4 a0).bind fun x5 =>
      if x5 = (-1) then
        bo 10 t4 a0 (fX10_compare t4 a0) (fun w6 t7 =>
        some ((), t7))
      else
        some ((), t4)))
def eX10_goOnAnd (rX10_goOnOr : St → Nat → Option (Unit × St)) (rX10_unit : St → Nat → Option (Unit × St)) (rX10_goOnAnd : St → Nat → Option (Unit × St)) (rX10_condition : St → Nat → Option (Unit × St)) (σ : St) (a0 : Nat) : Option (Unit × St) :=
  lo1 (fun l2 (t1 : St) =>
    (gI 10 4 t1 a0).bind fun x3 =>
  if x3 = (-1) then
    bo 10 t1 a0 (fX10_look t1 a0) (fun x4 t5 =>
    if x4 = 38 then
      (gI 10 3 t5 a0).bind fun x6 =>
      (pV 10 3 t5 a0 (.int (x6 + 1))).bind (fun t7 =>
      bo 10 t7 a0 (rX10_unit t7 a0) (fun w8 t9 =>
      bo 10 t9 a0 (fX10_put t9 a0 10 0) (fun w10 t11 =>
      l2 t11)))
    else
      some ((), t5))
  else
    some ((), t1)) FU σ
def eX10_condition (rX10_goOnOr : St → Nat → Option (Unit × St)) (rX10_unit : St → Nat → Option (Unit × St)) (rX10_goOnAnd : St → Nat → Option (Unit × St)) (rX10_condition : St → Nat → Option (Unit × St)) (σ : St) (a0 : Nat) : Option (Unit × St) :=
  bo 10 σ a0 (rX10_unit σ a0) (fun w1 t2 =>
  bo 10 t2 a0 (rX10_goOnAnd t2 a0) (fun w3 t4 =>
  bo 10 t4 a0 (rX10_goOnOr t4 a0) (fun w5 t6 =>
  some ((), t6))))
set_option maxHeartbeats 4000000 in
set_option maxRecDepth 100000 in
theorem hX10_goOnOr (d : Nat) (rX10_goOnOr : St → Nat → Option (Unit × St)) (rX10_unit : St → Nat → Option (Unit × St)) (rX10_goOnAnd : St → Nat → Option (Unit × St)) (rX10_condition : St → Nat → Option (Unit × St)) (ihX10_goOnOr : ∀ (σ : St) (a0 : Nat), CE vU (mX10_goOnOr d) [.ref a0] σ (rX10_goOnOr σ a0)) (ihX10_unit : ∀ (σ : St) (a0 : Nat), CE vU (mX10_unit d) [.ref a0] σ (rX10_unit σ a0)) (ihX10_goOnAnd : ∀ (σ : St) (a0 : Nat), CE vU (mX10_goOnAnd d) [.ref a0] σ (rX10_goOnAnd σ a0)) (ihX10_condition : ∀ (σ : St) (a0 : Nat), CE vU (mX10_condition d) [.ref a0] σ (rX10_condition σ a0)) : ∀ (σ : St) (a0 : Nat), CE vU (mX10_goOnOr (d + 1)) [.ref a0] σ (eX10_goOnOr rX10_goOnOr rX10_unit rX10_goOnAnd rX10_condition σ a0) := by
  intro σ a0
  refine CE.ofGEF (lv := [(0, .ref a0)]) (show plainFor yX10_goOnOr = true by decide +kernel) (Nat.le_of_ble_eq_true rfl) rfl ?_
  unfold eX10_goOnOr
  refine (GE.lo1 (fun (t1 : St) => [(0, .ref a0)]) (fun (t1 : St) => []) (fun (t1 : St) => t1) (fun l2 hl2 t1 => ?_) FU σ)
  refine GE.aload_n 0 dX10_goOnOr_0 rfl rfl ?_
  refine GE.gI dX10_goOnOr_1 lF_X10_119 (fun x3 => ?_)
  refine GE.iconst dX10_goOnOr_4 kI_m1 ?_
  refine GE.icmp_ne (tgt := 45) dX10_goOnOr_5 (by decide) ?_ ?_
  · exact GE.vret (x := ()) dX10_goOnOr_45 rfl (Nat.le_refl _) (Nat.le_refl _)
  · refine GE.aload_n 0 dX10_goOnOr_8 rfl rfl ?_
    refine GE.callvI [] dX10_goOnOr_9 (lV_X10_131) rfl ⟨rfl, rfl⟩ ⟨(show 2 + 1 ≤ d + 1 + 66 by omega), Nat.le_refl _, Nat.le_refl _, Nat.le_of_ble_eq_true rfl⟩ (gX10_look t1 a0) (fun x4 t5 => ?_)
    refine GE.bipush dX10_goOnOr_12 kB_124 ?_
    refine GE.icmp_ne (tgt := 45) dX10_goOnOr_14 (by decide) ?_ ?_
    · exact GE.vret (x := ()) dX10_goOnOr_45 rfl (Nat.le_refl _) (Nat.le_refl _)
    · refine GE.aload_n 0 dX10_goOnOr_17 rfl rfl ?_
      refine GE.dup dX10_goOnOr_18 rfl ?_
      refine GE.gI dX10_goOnOr_19 lF_X10_112 (fun x6 => ?_)
      refine GE.iconst dX10_goOnOr_22 kI_1 ?_
      refine GE.iadd dX10_goOnOr_23 ?_
      refine GE.pI dX10_goOnOr_24 lF_X10_112 (fun t7 => ?_)
      refine GE.aload_n 0 dX10_goOnOr_27 rfl rfl ?_
      refine GE.callvU [] dX10_goOnOr_28 (lV_X10_168 d) rfl ⟨rfl, rfl⟩ ⟨Nat.le_refl _, Nat.le_refl _, Nat.le_refl _, Nat.le_of_ble_eq_true rfl⟩ (ihX10_unit t7 a0) (fun w8 t9 => ?_)
      refine GE.aload_n 0 dX10_goOnOr_31 rfl rfl ?_
      refine GE.callvU [] dX10_goOnOr_32 (lV_X10_177 d) rfl ⟨rfl, rfl⟩ ⟨Nat.le_refl _, Nat.le_refl _, Nat.le_refl _, Nat.le_of_ble_eq_true rfl⟩ (ihX10_goOnAnd t9 a0) (fun w10 t11 => ?_)
      refine GE.aload_n 0 dX10_goOnOr_35 rfl rfl ?_
      refine GE.bipush dX10_goOnOr_36 kB_11 ?_
      refine GE.iconst dX10_goOnOr_38 kI_0 ?_
      refine GE.callvU [.int 11, .int 0] dX10_goOnOr_39 (lV_X10_141) rfl ⟨rfl, rfl⟩ ⟨(show 1 + 1 ≤ d + 1 + 66 by omega), Nat.le_refl _, Nat.le_refl _, Nat.le_of_ble_eq_true rfl⟩ (gX10_put t11 a0 11 0) (fun w12 t13 => ?_)
      refine GE.goto (tgt := 0) dX10_goOnOr_42 (by decide) ?_
      exact hl2 t13
set_option maxHeartbeats 4000000 in
set_option maxRecDepth 100000 in
theorem hX10_unit (d : Nat) (rX10_goOnOr : St → Nat → Option (Unit × St)) (rX10_unit : St → Nat → Option (Unit × St)) (rX10_goOnAnd : St → Nat → Option (Unit × St)) (rX10_condition : St → Nat → Option (Unit × St)) (ihX10_goOnOr : ∀ (σ : St) (a0 : Nat), CE vU (mX10_goOnOr d) [.ref a0] σ (rX10_goOnOr σ a0)) (ihX10_unit : ∀ (σ : St) (a0 : Nat), CE vU (mX10_unit d) [.ref a0] σ (rX10_unit σ a0)) (ihX10_goOnAnd : ∀ (σ : St) (a0 : Nat), CE vU (mX10_goOnAnd d) [.ref a0] σ (rX10_goOnAnd σ a0)) (ihX10_condition : ∀ (σ : St) (a0 : Nat), CE vU (mX10_condition d) [.ref a0] σ (rX10_condition σ a0)) : ∀ (σ : St) (a0 : Nat), CE vU (mX10_unit (d + 1)) [.ref a0] σ (eX10_unit rX10_goOnOr rX10_unit rX10_goOnAnd rX10_condition σ a0) := by
  intro σ a0
  refine CE.ofGEF (lv := [(0, .ref a0)]) (show plainFor yX10_unit = true by decide +kernel) (Nat.le_of_ble_eq_true rfl) rfl ?_
  unfold eX10_unit
  refine GE.aload_n 0 dX10_unit_0 rfl rfl ?_
  refine GE.callvI [] dX10_unit_1 (lV_X10_131) rfl ⟨rfl, rfl⟩ ⟨(show 2 + 1 ≤ d + 1 + 66 by omega), Nat.le_refl _, Nat.le_refl _, Nat.le_of_ble_eq_true rfl⟩ (gX10_look σ a0) (fun x1 t2 => ?_)
  refine GE.istore_n (lv' := [(0, .ref a0), (1, .int x1)]) dX10_unit_4 rfl (show 1 < 2 by decide) [1, 0] rfl ?_
  refine GE.iload_n 1 dX10_unit_5 rfl rfl ?_
  refine GE.bipush dX10_unit_6 kB_33 ?_
  refine GE.icmp_ne (tgt := 47) dX10_unit_8 (by decide) ?_ ?_
  · refine GE.iload_n 1 dX10_unit_47 rfl rfl ?_
    refine GE.bipush dX10_unit_48 kB_40 ?_
    refine GE.icmp_ne (tgt := 78) dX10_unit_50 (by decide) ?_ ?_
    · refine GE.aload_n 0 dX10_unit_78 rfl rfl ?_
      refine GE.callvU [] dX10_unit_79 (lV_X10_152 60) rfl ⟨rfl, rfl⟩ ⟨(show 64 + 1 ≤ d + 1 + 66 by omega), Nat.le_refl _, Nat.le_refl _, Nat.le_of_ble_eq_true rfl⟩ (gX10_sum 60 t2 a0) (fun w3 t4 => ?_)
      refine GE.aload_n 0 dX10_unit_82 rfl rfl ?_
      refine GE.gI dX10_unit_83 lF_X10_119 (fun x5 => ?_)
      refine GE.iconst dX10_unit_86 kI_m1 ?_
      refine GE.icmp_ne (tgt := 94) dX10_unit_87 (by decide) ?_ ?_
      · exact GE.vret (x := ()) dX10_unit_94 rfl (Nat.le_refl _) (Nat.le_refl _)
      · refine GE.aload_n 0 dX10_unit_90 rfl rfl ?_
        refine GE.callvU [] dX10_unit_91 (lV_X10_174) rfl ⟨rfl, rfl⟩ ⟨(show 65 + 1 ≤ d + 1 + 66 by omega), Nat.le_refl _, Nat.le_refl _, Nat.le_of_ble_eq_true rfl⟩ (gX10_compare t4 a0) (fun w6 t7 => ?_)
        exact GE.vret (x := ()) dX10_unit_94 rfl (Nat.le_refl _) (Nat.le_refl _)
    · refine GE.aload_n 0 dX10_unit_53 rfl rfl ?_
      refine GE.callvU [] dX10_unit_54 (lV_X10_149) rfl ⟨rfl, rfl⟩ ⟨(show 2 + 1 ≤ d + 1 + 66 by omega), Nat.le_refl _, Nat.le_refl _, Nat.le_of_ble_eq_true rfl⟩ (gX10_opens t2 a0) (fun w8 t9 => ?_)
      refine GE.aload_n 0 dX10_unit_57 rfl rfl ?_
      refine GE.gI dX10_unit_58 lF_X10_119 (fun x10 => ?_)
      refine GE.iconst dX10_unit_61 kI_m1 ?_
      refine GE.icmp_ne (tgt := 94) dX10_unit_62 (by decide) ?_ ?_
      · exact GE.vret (x := ()) dX10_unit_94 rfl (Nat.le_refl _) (Nat.le_refl _)
      · refine GE.aload_n 0 dX10_unit_65 rfl rfl ?_
        refine GE.callvU [] dX10_unit_66 (lV_X10_171 d) rfl ⟨rfl, rfl⟩ ⟨Nat.le_refl _, Nat.le_refl _, Nat.le_refl _, Nat.le_of_ble_eq_true rfl⟩ (ihX10_condition t9 a0) (fun w11 t12 => ?_)
        refine GE.aload_n 0 dX10_unit_69 rfl rfl ?_
        refine GE.bipush dX10_unit_70 kB_41 ?_
        refine GE.callvU [.int 41] dX10_unit_72 (lV_X10_155) rfl ⟨rfl, rfl⟩ ⟨(show 3 + 1 ≤ d + 1 + 66 by omega), Nat.le_refl _, Nat.le_refl _, Nat.le_of_ble_eq_true rfl⟩ (gX10_closes t12 a0 41) (fun w13 t14 => ?_)
        refine GE.goto (tgt := 94) dX10_unit_75 (by decide) ?_
        exact GE.vret (x := ()) dX10_unit_94 rfl (Nat.le_refl _) (Nat.le_refl _)
  · refine GE.aload_n 0 dX10_unit_11 rfl rfl ?_
    refine GE.callvU [] dX10_unit_12 (lV_X10_149) rfl ⟨rfl, rfl⟩ ⟨(show 2 + 1 ≤ d + 1 + 66 by omega), Nat.le_refl _, Nat.le_refl _, Nat.le_of_ble_eq_true rfl⟩ (gX10_opens t2 a0) (fun w15 t16 => ?_)
    refine GE.aload_n 0 dX10_unit_15 rfl rfl ?_
    refine GE.gI dX10_unit_16 lF_X10_119 (fun x17 => ?_)
    refine GE.iconst dX10_unit_19 kI_m1 ?_
    refine GE.icmp_ne (tgt := 94) dX10_unit_20 (by decide) ?_ ?_
    · exact GE.vret (x := ()) dX10_unit_94 rfl (Nat.le_refl _) (Nat.le_refl _)
    · refine GE.aload_n 0 dX10_unit_23 rfl rfl ?_
      refine GE.callvU [] dX10_unit_24 (lV_X10_168 d) rfl ⟨rfl, rfl⟩ ⟨Nat.le_refl _, Nat.le_refl _, Nat.le_refl _, Nat.le_of_ble_eq_true rfl⟩ (ihX10_unit t16 a0) (fun w18 t19 => ?_)
      refine GE.aload_n 0 dX10_unit_27 rfl rfl ?_
      refine GE.bipush dX10_unit_28 kB_9 ?_
      refine GE.iconst dX10_unit_30 kI_0 ?_
      refine GE.callvU [.int 9, .int 0] dX10_unit_31 (lV_X10_141) rfl ⟨rfl, rfl⟩ ⟨(show 1 + 1 ≤ d + 1 + 66 by omega), Nat.le_refl _, Nat.le_refl _, Nat.le_of_ble_eq_true rfl⟩ (gX10_put t19 a0 9 0) (fun w20 t21 => ?_)
      refine GE.aload_n 0 dX10_unit_34 rfl rfl ?_
      refine GE.dup dX10_unit_35 rfl ?_
      refine GE.gI dX10_unit_36 lF_X10_125 (fun x22 => ?_)
      refine GE.iconst dX10_unit_39 kI_1 ?_
      refine GE.isub dX10_unit_40 ?_
      refine GE.pI dX10_unit_41 lF_X10_125 (fun t23 => ?_)
      refine GE.goto (tgt := 94) dX10_unit_44 (by decide) ?_
      exact GE.vret (x := ()) dX10_unit_94 rfl (Nat.le_refl _) (Nat.le_refl _)
set_option maxHeartbeats 4000000 in
set_option maxRecDepth 100000 in
theorem hX10_goOnAnd (d : Nat) (rX10_goOnOr : St → Nat → Option (Unit × St)) (rX10_unit : St → Nat → Option (Unit × St)) (rX10_goOnAnd : St → Nat → Option (Unit × St)) (rX10_condition : St → Nat → Option (Unit × St)) (ihX10_goOnOr : ∀ (σ : St) (a0 : Nat), CE vU (mX10_goOnOr d) [.ref a0] σ (rX10_goOnOr σ a0)) (ihX10_unit : ∀ (σ : St) (a0 : Nat), CE vU (mX10_unit d) [.ref a0] σ (rX10_unit σ a0)) (ihX10_goOnAnd : ∀ (σ : St) (a0 : Nat), CE vU (mX10_goOnAnd d) [.ref a0] σ (rX10_goOnAnd σ a0)) (ihX10_condition : ∀ (σ : St) (a0 : Nat), CE vU (mX10_condition d) [.ref a0] σ (rX10_condition σ a0)) : ∀ (σ : St) (a0 : Nat), CE vU (mX10_goOnAnd (d + 1)) [.ref a0] σ (eX10_goOnAnd rX10_goOnOr rX10_unit rX10_goOnAnd rX10_condition σ a0) := by
  intro σ a0
  refine CE.ofGEF (lv := [(0, .ref a0)]) (show plainFor yX10_goOnAnd = true by decide +kernel) (Nat.le_of_ble_eq_true rfl) rfl ?_
  unfold eX10_goOnAnd
  refine (GE.lo1 (fun (t1 : St) => [(0, .ref a0)]) (fun (t1 : St) => []) (fun (t1 : St) => t1) (fun l2 hl2 t1 => ?_) FU σ)
  refine GE.aload_n 0 dX10_goOnAnd_0 rfl rfl ?_
  refine GE.gI dX10_goOnAnd_1 lF_X10_119 (fun x3 => ?_)
  refine GE.iconst dX10_goOnAnd_4 kI_m1 ?_
  refine GE.icmp_ne (tgt := 41) dX10_goOnAnd_5 (by decide) ?_ ?_
  · exact GE.vret (x := ()) dX10_goOnAnd_41 rfl (Nat.le_refl _) (Nat.le_refl _)
  · refine GE.aload_n 0 dX10_goOnAnd_8 rfl rfl ?_
    refine GE.callvI [] dX10_goOnAnd_9 (lV_X10_131) rfl ⟨rfl, rfl⟩ ⟨(show 2 + 1 ≤ d + 1 + 66 by omega), Nat.le_refl _, Nat.le_refl _, Nat.le_of_ble_eq_true rfl⟩ (gX10_look t1 a0) (fun x4 t5 => ?_)
    refine GE.bipush dX10_goOnAnd_12 kB_38 ?_
    refine GE.icmp_ne (tgt := 41) dX10_goOnAnd_14 (by decide) ?_ ?_
    · exact GE.vret (x := ()) dX10_goOnAnd_41 rfl (Nat.le_refl _) (Nat.le_refl _)
    · refine GE.aload_n 0 dX10_goOnAnd_17 rfl rfl ?_
      refine GE.dup dX10_goOnAnd_18 rfl ?_
      refine GE.gI dX10_goOnAnd_19 lF_X10_112 (fun x6 => ?_)
      refine GE.iconst dX10_goOnAnd_22 kI_1 ?_
      refine GE.iadd dX10_goOnAnd_23 ?_
      refine GE.pI dX10_goOnAnd_24 lF_X10_112 (fun t7 => ?_)
      refine GE.aload_n 0 dX10_goOnAnd_27 rfl rfl ?_
      refine GE.callvU [] dX10_goOnAnd_28 (lV_X10_168 d) rfl ⟨rfl, rfl⟩ ⟨Nat.le_refl _, Nat.le_refl _, Nat.le_refl _, Nat.le_of_ble_eq_true rfl⟩ (ihX10_unit t7 a0) (fun w8 t9 => ?_)
      refine GE.aload_n 0 dX10_goOnAnd_31 rfl rfl ?_
      refine GE.bipush dX10_goOnAnd_32 kB_10 ?_
      refine GE.iconst dX10_goOnAnd_34 kI_0 ?_
      refine GE.callvU [.int 10, .int 0] dX10_goOnAnd_35 (lV_X10_141) rfl ⟨rfl, rfl⟩ ⟨(show 1 + 1 ≤ d + 1 + 66 by omega), Nat.le_refl _, Nat.le_refl _, Nat.le_of_ble_eq_true rfl⟩ (gX10_put t9 a0 10 0) (fun w10 t11 => ?_)
      refine GE.goto (tgt := 0) dX10_goOnAnd_38 (by decide) ?_
      exact hl2 t11
set_option maxHeartbeats 4000000 in
set_option maxRecDepth 100000 in
theorem hX10_condition (d : Nat) (rX10_goOnOr : St → Nat → Option (Unit × St)) (rX10_unit : St → Nat → Option (Unit × St)) (rX10_goOnAnd : St → Nat → Option (Unit × St)) (rX10_condition : St → Nat → Option (Unit × St)) (ihX10_goOnOr : ∀ (σ : St) (a0 : Nat), CE vU (mX10_goOnOr d) [.ref a0] σ (rX10_goOnOr σ a0)) (ihX10_unit : ∀ (σ : St) (a0 : Nat), CE vU (mX10_unit d) [.ref a0] σ (rX10_unit σ a0)) (ihX10_goOnAnd : ∀ (σ : St) (a0 : Nat), CE vU (mX10_goOnAnd d) [.ref a0] σ (rX10_goOnAnd σ a0)) (ihX10_condition : ∀ (σ : St) (a0 : Nat), CE vU (mX10_condition d) [.ref a0] σ (rX10_condition σ a0)) : ∀ (σ : St) (a0 : Nat), CE vU (mX10_condition (d + 1)) [.ref a0] σ (eX10_condition rX10_goOnOr rX10_unit rX10_goOnAnd rX10_condition σ a0) := by
  intro σ a0
  refine CE.ofGEF (lv := [(0, .ref a0)]) (show plainFor yX10_condition = true by decide +kernel) (Nat.le_of_ble_eq_true rfl) rfl ?_
  unfold eX10_condition
  refine GE.aload_n 0 dX10_condition_0 rfl rfl ?_
  refine GE.callvU [] dX10_condition_1 (lV_X10_168 d) rfl ⟨rfl, rfl⟩ ⟨Nat.le_refl _, Nat.le_refl _, Nat.le_refl _, Nat.le_of_ble_eq_true rfl⟩ (ihX10_unit σ a0) (fun w1 t2 => ?_)
  refine GE.aload_n 0 dX10_condition_4 rfl rfl ?_
  refine GE.callvU [] dX10_condition_5 (lV_X10_177 d) rfl ⟨rfl, rfl⟩ ⟨Nat.le_refl _, Nat.le_refl _, Nat.le_refl _, Nat.le_of_ble_eq_true rfl⟩ (ihX10_goOnAnd t2 a0) (fun w3 t4 => ?_)
  refine GE.aload_n 0 dX10_condition_8 rfl rfl ?_
  refine GE.callvU [] dX10_condition_9 (lV_X10_180 d) rfl ⟨rfl, rfl⟩ ⟨Nat.le_refl _, Nat.le_refl _, Nat.le_refl _, Nat.le_of_ble_eq_true rfl⟩ (ihX10_goOnOr t4 a0) (fun w5 t6 => ?_)
  exact GE.vret (x := ()) dX10_condition_12 rfl (Nat.le_refl _) (Nat.le_refl _)
def recX10_goOnOr : Nat → (St → Nat → Option (Unit × St)) × (St → Nat → Option (Unit × St)) × (St → Nat → Option (Unit × St)) × (St → Nat → Option (Unit × St))
  | 0 => (fun _ _ => none, fun _ _ => none, fun _ _ => none, fun _ _ => none)
  | d + 1 => (eX10_goOnOr (recX10_goOnOr d).1 (recX10_goOnOr d).2.1 (recX10_goOnOr d).2.2.1 (recX10_goOnOr d).2.2.2, eX10_unit (recX10_goOnOr d).1 (recX10_goOnOr d).2.1 (recX10_goOnOr d).2.2.1 (recX10_goOnOr d).2.2.2, eX10_goOnAnd (recX10_goOnOr d).1 (recX10_goOnOr d).2.1 (recX10_goOnOr d).2.2.1 (recX10_goOnOr d).2.2.2, eX10_condition (recX10_goOnOr d).1 (recX10_goOnOr d).2.1 (recX10_goOnOr d).2.2.1 (recX10_goOnOr d).2.2.2)
def fX10_goOnOr (d : Nat) : St → Nat → Option (Unit × St) := (recX10_goOnOr d).1
def fX10_unit (d : Nat) : St → Nat → Option (Unit × St) := (recX10_goOnOr d).2.1
def fX10_goOnAnd (d : Nat) : St → Nat → Option (Unit × St) := (recX10_goOnOr d).2.2.1
def fX10_condition (d : Nat) : St → Nat → Option (Unit × St) := (recX10_goOnOr d).2.2.2
theorem allX10_goOnOr : ∀ d : Nat, (∀ (σ : St) (a0 : Nat), CE vU (mX10_goOnOr d) [.ref a0] σ (fX10_goOnOr d σ a0)) ∧ (∀ (σ : St) (a0 : Nat), CE vU (mX10_unit d) [.ref a0] σ (fX10_unit d σ a0)) ∧ (∀ (σ : St) (a0 : Nat), CE vU (mX10_goOnAnd d) [.ref a0] σ (fX10_goOnAnd d σ a0)) ∧ (∀ (σ : St) (a0 : Nat), CE vU (mX10_condition d) [.ref a0] σ (fX10_condition d σ a0)) := by
  intro d
  induction d with
  | zero => exact ⟨fun _ _ => CE.none, fun _ _ => CE.none, fun _ _ => CE.none, fun _ _ => CE.none⟩
  | succ d ih => exact ⟨hX10_goOnOr d (recX10_goOnOr d).1 (recX10_goOnOr d).2.1 (recX10_goOnOr d).2.2.1 (recX10_goOnOr d).2.2.2 ih.1 ih.2.1 ih.2.2.1 ih.2.2.2, hX10_unit d (recX10_goOnOr d).1 (recX10_goOnOr d).2.1 (recX10_goOnOr d).2.2.1 (recX10_goOnOr d).2.2.2 ih.1 ih.2.1 ih.2.2.1 ih.2.2.2, hX10_goOnAnd d (recX10_goOnOr d).1 (recX10_goOnOr d).2.1 (recX10_goOnOr d).2.2.1 (recX10_goOnOr d).2.2.2 ih.1 ih.2.1 ih.2.2.1 ih.2.2.2, hX10_condition d (recX10_goOnOr d).1 (recX10_goOnOr d).2.1 (recX10_goOnOr d).2.2.1 (recX10_goOnOr d).2.2.2 ih.1 ih.2.1 ih.2.2.1 ih.2.2.2⟩
theorem gX10_goOnOr (d : Nat) : ∀ (σ : St) (a0 : Nat), CE vU (mX10_goOnOr d) [.ref a0] σ (fX10_goOnOr d σ a0) := (allX10_goOnOr d).1
theorem gX10_unit (d : Nat) : ∀ (σ : St) (a0 : Nat), CE vU (mX10_unit d) [.ref a0] σ (fX10_unit d σ a0) := (allX10_goOnOr d).2.1
theorem gX10_goOnAnd (d : Nat) : ∀ (σ : St) (a0 : Nat), CE vU (mX10_goOnAnd d) [.ref a0] σ (fX10_goOnAnd d σ a0) := (allX10_goOnOr d).2.2.1
theorem gX10_condition (d : Nat) : ∀ (σ : St) (a0 : Nat), CE vU (mX10_condition d) [.ref a0] σ (fX10_condition d σ a0) := (allX10_goOnOr d).2.2.2
def fX10_clause (σ : St) (a0 : Nat) : Option (Unit × St) :=
  (gI 10 14 σ a0).bind fun x1 =>
  (gR 10 9 σ a0).bind fun a2 =>
  (gI 10 14 σ a0).bind fun x3 =>
  (aI 0 σ a2 x3).bind fun x4 =>
  nam ((140 * x1) + x4 : Int32) (fun x5 =>
  (gI 10 4 σ a0).bind fun x6 =>
  jo1 (fun (t7 : St) =>
    (gI 10 3 t7 a0).bind fun x9 =>
    (pV 10 3 t7 a0 (.int (x9 + 1))).bind (fun t10 =>
    (gI 10 4 t10 a0).bind fun x11 =>
    jo1 (fun (t12 : St) =>
      (gI 10 3 t12 a0).bind fun x14 =>
      (pV 10 3 t12 a0 (.int (x14 + 1))).bind (fun t15 =>
      (gI 10 4 t15 a0).bind fun x16 =>
      if x16 = (-1) then
        (gR 10 10 t15 a0).bind fun a17 =>
        (gR 10 8 t15 a0).bind fun a18 =>
        (gI 10 14 t15 a0).bind fun x19 =>
        (aI 0 t15 a18 x19).bind fun x20 =>
        (sI 0 t15 a17 x5 x20).bind (fun t21 =>
        bo 10 t21 a0 (fX10_look t21 a0) (fun x22 t23 =>
        jo2 (fun (v24 : Int32) (t25 : St) =>
          jo2 (fun (x27 : Int32) (t28 : St) =>
            (gR 10 11 t28 a0).bind fun a30 =>
            (gR 10 10 t28 a0).bind fun a31 =>
            (aI 0 t28 a31 x5).bind fun x32 =>
            (sI 0 t28 a30 x5 x32).bind (fun t33 =>
            jo1 (fun (t34 : St) =>
              (gR 10 12 t34 a0).bind fun a36 =>
              (gR 10 8 t34 a0).bind fun a37 =>
              (gI 10 14 t34 a0).bind fun x38 =>
              (aI 0 t34 a37 x38).bind fun x39 =>
              (sI 0 t34 a36 x5 x39).bind (fun t40 =>
              (gR 10 9 t40 a0).bind fun a41 =>
              (gI 10 14 t40 a0).bind fun x42 =>
              (aI 0 t40 a41 x42).bind fun x43 =>
              (sI 0 t40 a41 x42 (x43 + 1)).bind (fun t44 =>
              some ((), t44)))) (fun j35 =>
              if x27 = 0 then
                j35 t33
              else
                (gI 10 4 t33 a0).bind fun x45 =>
                if x45 = (-1) then
                  bo 10 t33 a0 (fX10_look t33 a0) (fun x46 t47 =>
                  if x46 = 63 then
                    (gI 10 3 t47 a0).bind fun x48 =>
                    (pV 10 3 t47 a0 (.int (x48 + 1))).bind (fun t49 =>
                    (gR 10 11 t49 a0).bind fun a50 =>
                    (gR 10 8 t49 a0).bind fun a51 =>
                    (gI 10 14 t49 a0).bind fun x52 =>
                    (aI 0 t49 a51 x52).bind fun x53 =>
                    (sI 0 t49 a50 x5 x53).bind (fun t54 =>
                    bo 10 t54 a0 (fX10_sum 60 t54 a0) (fun w55 t56 =>
                    j35 t56)))
                  else
                    bo 10 t47 a0 (fX10_bad t47 a0) (fun w57 t58 =>
                    some ((), t58)))
                else
                  j35 t33))) (fun j29 =>
            if v24 = 0 then
              bo 10 t25 a0 (fX10_sum 60 t25 a0) (fun w59 t60 =>
              (gI 10 4 t60 a0).bind fun x61 =>
              jo2 (fun (v62 : Int32) (t63 : St) =>
                if v62 = 0 then
                  j29 v62 t63
                else
                  bo 10 t63 a0 (fX10_compare t63 a0) (fun w65 t66 =>
                  bo 10 t66 a0 (fX10_goOnAnd 60 t66 a0) (fun w67 t68 =>
                  bo 10 t68 a0 (fX10_goOnOr 60 t68 a0) (fun w69 t70 =>
                  j29 v62 t70)))) (fun j64 =>
                jo1 (fun (t71 : St) =>
                  j64 0 t71) (fun j72 =>
                  if x61 = (-1) then
                    bo 10 t60 a0 (fX10_look t60 a0) (fun x73 t74 =>
                    bd (fX10_isSign t74 x73) (fun x75 t76 =>
                    if x75 = 0 then
                      j72 t76
                    else
                      j64 1 t76))
                  else
                    j72 t60)))
            else
              bo 10 t25 a0 (fX10_condition 60 t25 a0) (fun w77 t78 =>
              j29 v24 t78))) (fun j26 =>
          jo1 (fun (t79 : St) =>
            j26 1 t79) (fun j80 =>
            if x22 = 33 then
              j80 t23
            else
              bo 10 t23 a0 (fX10_look t23 a0) (fun x81 t82 =>
              if x81 = 40 then
                j80 t82
              else
                j26 0 t82)))))
      else
        some ((), t15))) (fun j13 =>
      if x11 = (-1) then
        bo 10 t10 a0 (fX10_look t10 a0) (fun x83 t84 =>
        if x83 = 58 then
          j13 t84
        else
          bo 10 t84 a0 (fX10_bad t84 a0) (fun w85 t86 =>
          j13 t86))
      else
        j13 t10))) (fun j8 =>
    if x6 = (-1) then
      bo 10 σ a0 (fX10_look σ a0) (fun x87 t88 =>
      if x87 = 121 then
        j8 t88
      else
        bo 10 t88 a0 (fX10_bad t88 a0) (fun w89 t90 =>
        j8 t90))
    else
      j8 σ))
set_option maxHeartbeats 4000000 in
set_option maxRecDepth 100000 in
theorem gX10_clause (σ : St) (a0 : Nat) : CE vU mX10_clause [.ref a0] σ (fX10_clause σ a0) := by
  refine CE.ofGEF (lv := [(0, .ref a0)]) (by decide +kernel) (Nat.le_of_ble_eq_true rfl) rfl ?_
  unfold fX10_clause
  refine GE.sipush dX10_clause_0 kS_140 ?_
  refine GE.aload_n 0 dX10_clause_3 rfl rfl ?_
  refine GE.gI dX10_clause_4 lF_X10_122 (fun x1 => ?_)
  refine GE.imul dX10_clause_7 ?_
  refine GE.aload_n 0 dX10_clause_8 rfl rfl ?_
  refine GE.gR dX10_clause_9 lF_X10_22 (fun a2 => ?_)
  refine GE.aload_n 0 dX10_clause_12 rfl rfl ?_
  refine GE.gI dX10_clause_13 lF_X10_122 (fun x3 => ?_)
  refine GE.iald dX10_clause_16 (fun x4 => ?_)
  refine GE.iadd dX10_clause_17 ?_
  refine GE.nami (fun x5 => ?_)
  refine GE.istore_n (lv' := [(0, .ref a0), (1, .int x5)]) dX10_clause_18 rfl (by decide) [1, 0] rfl ?_
  refine GE.aload_n 0 dX10_clause_19 rfl rfl ?_
  refine GE.gI dX10_clause_20 lF_X10_119 (fun x6 => ?_)
  refine GE.iconst dX10_clause_23 kI_m1 ?_
  refine GE.jo1 40 (fun (t7 : St) => [(0, .ref a0), (1, .int x5)]) (fun (t7 : St) => []) (fun (t7 : St) => t7) (fun t7 => ?_) (fun j8 hj8 => ?_)
  · refine GE.aload_n 0 dX10_clause_40 rfl rfl ?_
    refine GE.dup dX10_clause_41 rfl ?_
    refine GE.gI dX10_clause_42 lF_X10_112 (fun x9 => ?_)
    refine GE.iconst dX10_clause_45 kI_1 ?_
    refine GE.iadd dX10_clause_46 ?_
    refine GE.pI dX10_clause_47 lF_X10_112 (fun t10 => ?_)
    refine GE.aload_n 0 dX10_clause_50 rfl rfl ?_
    refine GE.gI dX10_clause_51 lF_X10_119 (fun x11 => ?_)
    refine GE.iconst dX10_clause_54 kI_m1 ?_
    refine GE.jo1 71 (fun (t12 : St) => [(0, .ref a0), (1, .int x5)]) (fun (t12 : St) => []) (fun (t12 : St) => t12) (fun t12 => ?_) (fun j13 hj13 => ?_)
    · refine GE.aload_n 0 dX10_clause_71 rfl rfl ?_
      refine GE.dup dX10_clause_72 rfl ?_
      refine GE.gI dX10_clause_73 lF_X10_112 (fun x14 => ?_)
      refine GE.iconst dX10_clause_76 kI_1 ?_
      refine GE.iadd dX10_clause_77 ?_
      refine GE.pI dX10_clause_78 lF_X10_112 (fun t15 => ?_)
      refine GE.aload_n 0 dX10_clause_81 rfl rfl ?_
      refine GE.gI dX10_clause_82 lF_X10_119 (fun x16 => ?_)
      refine GE.iconst dX10_clause_85 kI_m1 ?_
      refine GE.icmp_eq (tgt := 90) dX10_clause_86 (by decide) ?_ ?_
      · refine GE.aload_n 0 dX10_clause_90 rfl rfl ?_
        refine GE.gR dX10_clause_91 lF_X10_25 (fun a17 => ?_)
        refine GE.iload_n 1 dX10_clause_94 rfl rfl ?_
        refine GE.aload_n 0 dX10_clause_95 rfl rfl ?_
        refine GE.gR dX10_clause_96 lF_X10_19 (fun a18 => ?_)
        refine GE.aload_n 0 dX10_clause_99 rfl rfl ?_
        refine GE.gI dX10_clause_100 lF_X10_122 (fun x19 => ?_)
        refine GE.iald dX10_clause_103 (fun x20 => ?_)
        refine GE.iast dX10_clause_104 (fun t21 => ?_)
        refine GE.aload_n 0 dX10_clause_105 rfl rfl ?_
        refine GE.callvI [] dX10_clause_106 (lV_X10_131) rfl ⟨rfl, rfl⟩ (rokb rfl) (gX10_look t21 a0) (fun x22 t23 => ?_)
        refine GE.bipush dX10_clause_109 kB_33 ?_
        refine GE.jo2 128 (fun (v24 : Int32) (t25 : St) => [(0, .ref a0), (1, .int x5)]) (fun (v24 : Int32) (t25 : St) => [.int v24]) (fun (v24 : Int32) (t25 : St) => t25) (fun v24 t25 => ?_) (fun j26 hj26 => ?_)
        · refine GE.istore_n (lv' := [(0, .ref a0), (1, .int x5), (2, .int v24)]) dX10_clause_128 rfl (by decide) [1, 2, 0] rfl ?_
          refine GE.iload_n 2 dX10_clause_129 rfl rfl ?_
          refine GE.jo2 184 (fun (x27 : Int32) (t28 : St) => [(0, .ref a0), (1, .int x5), (2, .int x27)]) (fun (x27 : Int32) (t28 : St) => []) (fun (x27 : Int32) (t28 : St) => t28) (fun x27 t28 => ?_) (fun j29 hj29 => ?_)
          · refine GE.aload_n 0 dX10_clause_184 rfl rfl ?_
            refine GE.gR dX10_clause_185 lF_X10_28 (fun a30 => ?_)
            refine GE.iload_n 1 dX10_clause_188 rfl rfl ?_
            refine GE.aload_n 0 dX10_clause_189 rfl rfl ?_
            refine GE.gR dX10_clause_190 lF_X10_25 (fun a31 => ?_)
            refine GE.iload_n 1 dX10_clause_193 rfl rfl ?_
            refine GE.iald dX10_clause_194 (fun x32 => ?_)
            refine GE.iast dX10_clause_195 (fun t33 => ?_)
            refine GE.iload_n 2 dX10_clause_196 rfl rfl ?_
            refine GE.jo1 251 (fun (t34 : St) => [(0, .ref a0), (1, .int x5)]) (fun (t34 : St) => []) (fun (t34 : St) => t34) (fun t34 => ?_) (fun j35 hj35 => ?_)
            · refine GE.aload_n 0 dX10_clause_251 rfl rfl ?_
              refine GE.gR dX10_clause_252 lF_X10_31 (fun a36 => ?_)
              refine GE.iload_n 1 dX10_clause_255 rfl rfl ?_
              refine GE.aload_n 0 dX10_clause_256 rfl rfl ?_
              refine GE.gR dX10_clause_257 lF_X10_19 (fun a37 => ?_)
              refine GE.aload_n 0 dX10_clause_260 rfl rfl ?_
              refine GE.gI dX10_clause_261 lF_X10_122 (fun x38 => ?_)
              refine GE.iald dX10_clause_264 (fun x39 => ?_)
              refine GE.iast dX10_clause_265 (fun t40 => ?_)
              refine GE.aload_n 0 dX10_clause_266 rfl rfl ?_
              refine GE.gR dX10_clause_267 lF_X10_22 (fun a41 => ?_)
              refine GE.aload_n 0 dX10_clause_270 rfl rfl ?_
              refine GE.gI dX10_clause_271 lF_X10_122 (fun x42 => ?_)
              refine GE.dup2 dX10_clause_274 rfl rfl ?_
              refine GE.iald dX10_clause_275 (fun x43 => ?_)
              refine GE.iconst dX10_clause_276 kI_1 ?_
              refine GE.iadd dX10_clause_277 ?_
              refine GE.iast dX10_clause_278 (fun t44 => ?_)
              exact GE.vret (x := ()) dX10_clause_279 rfl (Nat.le_refl _) (Nat.le_refl _)
            · refine GE.if_eq (tgt := 251) dX10_clause_197 (by decide) ?_ ?_
              · exact GE.sub [0, 1] rfl (hj35 t33)
              · refine GE.aload_n 0 dX10_clause_200 rfl rfl ?_
                refine GE.gI dX10_clause_201 lF_X10_119 (fun x45 => ?_)
                refine GE.iconst dX10_clause_204 kI_m1 ?_
                refine GE.icmp_ne (tgt := 251) dX10_clause_205 (by decide) ?_ ?_
                · exact GE.sub [0, 1] rfl (hj35 t33)
                · refine GE.aload_n 0 dX10_clause_208 rfl rfl ?_
                  refine GE.callvI [] dX10_clause_209 (lV_X10_131) rfl ⟨rfl, rfl⟩ (rokb rfl) (gX10_look t33 a0) (fun x46 t47 => ?_)
                  refine GE.bipush dX10_clause_212 kB_63 ?_
                  refine GE.icmp_eq (tgt := 222) dX10_clause_214 (by decide) ?_ ?_
                  · refine GE.aload_n 0 dX10_clause_222 rfl rfl ?_
                    refine GE.dup dX10_clause_223 rfl ?_
                    refine GE.gI dX10_clause_224 lF_X10_112 (fun x48 => ?_)
                    refine GE.iconst dX10_clause_227 kI_1 ?_
                    refine GE.iadd dX10_clause_228 ?_
                    refine GE.pI dX10_clause_229 lF_X10_112 (fun t49 => ?_)
                    refine GE.aload_n 0 dX10_clause_232 rfl rfl ?_
                    refine GE.gR dX10_clause_233 lF_X10_28 (fun a50 => ?_)
                    refine GE.iload_n 1 dX10_clause_236 rfl rfl ?_
                    refine GE.aload_n 0 dX10_clause_237 rfl rfl ?_
                    refine GE.gR dX10_clause_238 lF_X10_19 (fun a51 => ?_)
                    refine GE.aload_n 0 dX10_clause_241 rfl rfl ?_
                    refine GE.gI dX10_clause_242 lF_X10_122 (fun x52 => ?_)
                    refine GE.iald dX10_clause_245 (fun x53 => ?_)
                    refine GE.iast dX10_clause_246 (fun t54 => ?_)
                    refine GE.aload_n 0 dX10_clause_247 rfl rfl ?_
                    refine GE.callvU [] dX10_clause_248 (lV_X10_152 60) rfl ⟨rfl, rfl⟩ (rokb rfl) (gX10_sum 60 t54 a0) (fun w55 t56 => ?_)
                    exact GE.sub [0, 1] rfl (hj35 t56)
                  · refine GE.aload_n 0 dX10_clause_217 rfl rfl ?_
                    refine GE.callvU [] dX10_clause_218 (lV_X10_128) rfl ⟨rfl, rfl⟩ (rokb rfl) (gX10_bad t47 a0) (fun w57 t58 => ?_)
                    exact GE.vret (x := ()) dX10_clause_221 rfl (Nat.le_refl _) (Nat.le_refl _)
          · refine GE.if_eq (tgt := 140) dX10_clause_130 (by decide) ?_ ?_
            · refine GE.aload_n 0 dX10_clause_140 rfl rfl ?_
              refine GE.callvU [] dX10_clause_141 (lV_X10_152 60) rfl ⟨rfl, rfl⟩ (rokb rfl) (gX10_sum 60 t25 a0) (fun w59 t60 => ?_)
              refine GE.aload_n 0 dX10_clause_144 rfl rfl ?_
              refine GE.gI dX10_clause_145 lF_X10_119 (fun x61 => ?_)
              refine GE.iconst dX10_clause_148 kI_m1 ?_
              refine GE.jo2 167 (fun (v62 : Int32) (t63 : St) => [(0, .ref a0), (1, .int x5)]) (fun (v62 : Int32) (t63 : St) => [.int v62]) (fun (v62 : Int32) (t63 : St) => t63) (fun v62 t63 => ?_) (fun j64 hj64 => ?_)
              · refine GE.istore_n (lv' := [(0, .ref a0), (1, .int x5), (2, .int v62)]) dX10_clause_167 rfl (by decide) [1, 2, 0] rfl ?_
                refine GE.iload_n 2 dX10_clause_168 rfl rfl ?_
                refine GE.if_eq (tgt := 184) dX10_clause_169 (by decide) ?_ ?_
                · exact hj29 v62 t63
                · refine GE.aload_n 0 dX10_clause_172 rfl rfl ?_
                  refine GE.callvU [] dX10_clause_173 (lV_X10_174) rfl ⟨rfl, rfl⟩ (rokb rfl) (gX10_compare t63 a0) (fun w65 t66 => ?_)
                  refine GE.aload_n 0 dX10_clause_176 rfl rfl ?_
                  refine GE.callvU [] dX10_clause_177 (lV_X10_177 60) rfl ⟨rfl, rfl⟩ (rokb rfl) (gX10_goOnAnd 60 t66 a0) (fun w67 t68 => ?_)
                  refine GE.aload_n 0 dX10_clause_180 rfl rfl ?_
                  refine GE.callvU [] dX10_clause_181 (lV_X10_180 60) rfl ⟨rfl, rfl⟩ (rokb rfl) (gX10_goOnOr 60 t68 a0) (fun w69 t70 => ?_)
                  exact hj29 v62 t70
              · refine GE.jo1 166 (fun (t71 : St) => [(0, .ref a0), (1, .int x5)]) (fun (t71 : St) => []) (fun (t71 : St) => t71) (fun t71 => ?_) (fun j72 hj72 => ?_)
                · refine GE.iconst dX10_clause_166 kI_0 ?_
                  exact hj64 0 t71
                · refine GE.icmp_ne (tgt := 166) dX10_clause_149 (by decide) ?_ ?_
                  · exact GE.sub [0, 1] rfl (hj72 t60)
                  · refine GE.aload_n 0 dX10_clause_152 rfl rfl ?_
                    refine GE.callvI [] dX10_clause_153 (lV_X10_131) rfl ⟨rfl, rfl⟩ (rokb rfl) (gX10_look t60 a0) (fun x73 t74 => ?_)
                    refine GE.callsI [.int x73] dX10_clause_156 (lT_X10_165) rfl ⟨rfl, rfl⟩ (rokb rfl) (gX10_isSign t74 x73) (fun x75 t76 => ?_)
                    refine GE.if_eq (tgt := 166) dX10_clause_159 (by decide) ?_ ?_
                    · exact GE.sub [0, 1] rfl (hj72 t76)
                    · refine GE.iconst dX10_clause_162 kI_1 ?_
                      refine GE.goto (tgt := 167) dX10_clause_163 (by decide) ?_
                      exact GE.sub [0, 1] rfl (hj64 1 t76)
            · refine GE.aload_n 0 dX10_clause_133 rfl rfl ?_
              refine GE.callvU [] dX10_clause_134 (lV_X10_171 60) rfl ⟨rfl, rfl⟩ (rokb rfl) (gX10_condition 60 t25 a0) (fun w77 t78 => ?_)
              refine GE.goto (tgt := 184) dX10_clause_137 (by decide) ?_
              exact hj29 v24 t78
        · refine GE.jo1 123 (fun (t79 : St) => [(0, .ref a0), (1, .int x5)]) (fun (t79 : St) => []) (fun (t79 : St) => t79) (fun t79 => ?_) (fun j80 hj80 => ?_)
          · refine GE.iconst dX10_clause_123 kI_1 ?_
            refine GE.goto (tgt := 128) dX10_clause_124 (by decide) ?_
            exact hj26 1 t79
          · refine GE.icmp_eq (tgt := 123) dX10_clause_111 (by decide) ?_ ?_
            · exact hj80 t23
            · refine GE.aload_n 0 dX10_clause_114 rfl rfl ?_
              refine GE.callvI [] dX10_clause_115 (lV_X10_131) rfl ⟨rfl, rfl⟩ (rokb rfl) (gX10_look t23 a0) (fun x81 t82 => ?_)
              refine GE.bipush dX10_clause_118 kB_40 ?_
              refine GE.icmp_ne (tgt := 127) dX10_clause_120 (by decide) ?_ ?_
              · refine GE.iconst dX10_clause_127 kI_0 ?_
                exact hj26 0 t82
              · exact hj80 t82
      · exact GE.vret (x := ()) dX10_clause_89 rfl (Nat.le_refl _) (Nat.le_refl _)
    · refine GE.icmp_ne (tgt := 71) dX10_clause_55 (by decide) ?_ ?_
      · exact hj13 t10
      · refine GE.aload_n 0 dX10_clause_58 rfl rfl ?_
        refine GE.callvI [] dX10_clause_59 (lV_X10_131) rfl ⟨rfl, rfl⟩ (rokb rfl) (gX10_look t10 a0) (fun x83 t84 => ?_)
        refine GE.bipush dX10_clause_62 kB_58 ?_
        refine GE.icmp_eq (tgt := 71) dX10_clause_64 (by decide) ?_ ?_
        · exact hj13 t84
        · refine GE.aload_n 0 dX10_clause_67 rfl rfl ?_
          refine GE.callvU [] dX10_clause_68 (lV_X10_128) rfl ⟨rfl, rfl⟩ (rokb rfl) (gX10_bad t84 a0) (fun w85 t86 => ?_)
          exact hj13 t86
  · refine GE.icmp_ne (tgt := 40) dX10_clause_24 (by decide) ?_ ?_
    · exact hj8 σ
    · refine GE.aload_n 0 dX10_clause_27 rfl rfl ?_
      refine GE.callvI [] dX10_clause_28 (lV_X10_131) rfl ⟨rfl, rfl⟩ (rokb rfl) (gX10_look σ a0) (fun x87 t88 => ?_)
      refine GE.bipush dX10_clause_31 kB_121 ?_
      refine GE.icmp_eq (tgt := 40) dX10_clause_33 (by decide) ?_ ?_
      · exact hj8 t88
      · refine GE.aload_n 0 dX10_clause_36 rfl rfl ?_
        refine GE.callvU [] dX10_clause_37 (lV_X10_128) rfl ⟨rfl, rfl⟩ (rokb rfl) (gX10_bad t88 a0) (fun w89 t90 => ?_)
        exact hj8 t90
def fX10_readLaw (σ : St) (a0 : Nat) (px1 : Int32) : Option (Int32 × St) :=
  bo 10 σ a0 (fX10_open σ a0 px1) (fun w1 t2 =>
  bo 10 t2 a0 (fX10_clause t2 a0) (fun w3 t4 =>
  lo1 (fun l6 (t5 : St) =>
    (gI 10 4 t5 a0).bind fun x7 =>
  jo1 (fun (t8 : St) =>
    bo 10 t8 a0 (fX10_atEnd t8 a0) (fun x10 t11 =>
    some (x10, t11))) (fun j9 =>
    if x7 = (-1) then
      bo 10 t5 a0 (fX10_look t5 a0) (fun x12 t13 =>
      if x12 = 59 then
        (gI 10 3 t13 a0).bind fun x14 =>
        (pV 10 3 t13 a0 (.int (x14 + 1))).bind (fun t15 =>
        bo 10 t15 a0 (fX10_clause t15 a0) (fun w16 t17 =>
        l6 t17))
      else
        j9 t13)
    else
      j9 t5)) FU t4))
set_option maxHeartbeats 4000000 in
set_option maxRecDepth 100000 in
theorem gX10_readLaw (σ : St) (a0 : Nat) (px1 : Int32) : CE vI mX10_readLaw [.ref a0, .int px1] σ (fX10_readLaw σ a0 px1) := by
  refine CE.ofGEF (lv := [(0, .ref a0), (1, .int px1)]) (by decide +kernel) (Nat.le_of_ble_eq_true rfl) rfl ?_
  unfold fX10_readLaw
  refine GE.aload_n 0 dX10_readLaw_0 rfl rfl ?_
  refine GE.iload_n 1 dX10_readLaw_1 rfl rfl ?_
  refine GE.callvU [.int px1] dX10_readLaw_2 (lV_X10_183) rfl ⟨rfl, rfl⟩ (rokb rfl) (gX10_open σ a0 px1) (fun w1 t2 => ?_)
  refine GE.aload_n 0 dX10_readLaw_5 rfl rfl ?_
  refine GE.callvU [] dX10_readLaw_6 (lV_X10_186) rfl ⟨rfl, rfl⟩ (rokb rfl) (gX10_clause t2 a0) (fun w3 t4 => ?_)
  refine GE.sub [0] rfl (GE.lo1 (fun (t5 : St) => [(0, .ref a0)]) (fun (t5 : St) => []) (fun (t5 : St) => t5) (fun l6 hl6 t5 => ?_) FU t4)
  refine GE.aload_n 0 dX10_readLaw_9 rfl rfl ?_
  refine GE.gI dX10_readLaw_10 lF_X10_119 (fun x7 => ?_)
  refine GE.iconst dX10_readLaw_13 kI_m1 ?_
  refine GE.jo1 43 (fun (t8 : St) => [(0, .ref a0)]) (fun (t8 : St) => []) (fun (t8 : St) => t8) (fun t8 => ?_) (fun j9 hj9 => ?_)
  · refine GE.aload_n 0 dX10_readLaw_43 rfl rfl ?_
    refine GE.callvI [] dX10_readLaw_44 (lV_X10_189) rfl ⟨rfl, rfl⟩ (rokb rfl) (gX10_atEnd t8 a0) (fun x10 t11 => ?_)
    exact GE.iret dX10_readLaw_47 rfl (Nat.le_refl _) (Nat.le_refl _)
  · refine GE.icmp_ne (tgt := 43) dX10_readLaw_14 (by decide) ?_ ?_
    · exact hj9 t5
    · refine GE.aload_n 0 dX10_readLaw_17 rfl rfl ?_
      refine GE.callvI [] dX10_readLaw_18 (lV_X10_131) rfl ⟨rfl, rfl⟩ (rokb rfl) (gX10_look t5 a0) (fun x12 t13 => ?_)
      refine GE.bipush dX10_readLaw_21 kB_59 ?_
      refine GE.icmp_ne (tgt := 43) dX10_readLaw_23 (by decide) ?_ ?_
      · exact hj9 t13
      · refine GE.aload_n 0 dX10_readLaw_26 rfl rfl ?_
        refine GE.dup dX10_readLaw_27 rfl ?_
        refine GE.gI dX10_readLaw_28 lF_X10_112 (fun x14 => ?_)
        refine GE.iconst dX10_readLaw_31 kI_1 ?_
        refine GE.iadd dX10_readLaw_32 ?_
        refine GE.pI dX10_readLaw_33 lF_X10_112 (fun t15 => ?_)
        refine GE.aload_n 0 dX10_readLaw_36 rfl rfl ?_
        refine GE.callvU [] dX10_readLaw_37 (lV_X10_186) rfl ⟨rfl, rfl⟩ (rokb rfl) (gX10_clause t15 a0) (fun w16 t17 => ?_)
        refine GE.goto (tgt := 9) dX10_readLaw_40 (by decide) ?_
        exact hl6 t17
def fX10_fault (σ : St) (a0 : Nat) (px1 : Int32) : Option (Int32 × St) :=
  if px1 = 0 then
    bo 10 σ a0 (fX10_readLand σ a0) (fun x3 t4 =>
    some (x3, t4))
  else
    if px1 = 1 then
      bo 10 σ a0 (fX10_readLaw σ a0 4) (fun x1 t2 =>
      some (x1, t2))
    else
      some ((-2), σ)
set_option maxHeartbeats 4000000 in
set_option maxRecDepth 100000 in
theorem gX10_fault (σ : St) (a0 : Nat) (px1 : Int32) : CE vI mX10_fault [.ref a0, .int px1] σ (fX10_fault σ a0 px1) := by
  refine CE.ofGEF (lv := [(0, .ref a0), (1, .int px1)]) (by decide +kernel) (Nat.le_of_ble_eq_true rfl) rfl ?_
  unfold fX10_fault
  refine GE.iload_n 1 dX10_fault_0 rfl rfl ?_
  refine GE.if_ne (tgt := 11) dX10_fault_1 (by decide) ?_ ?_
  · refine GE.iload_n 1 dX10_fault_11 rfl rfl ?_
    refine GE.iconst dX10_fault_12 kI_1 ?_
    refine GE.icmp_ne (tgt := 24) dX10_fault_13 (by decide) ?_ ?_
    · refine GE.bipush dX10_fault_24 kB_m2 ?_
      exact GE.iret dX10_fault_26 rfl (Nat.le_refl _) (Nat.le_refl _)
    · refine GE.aload_n 0 dX10_fault_16 rfl rfl ?_
      refine GE.iconst dX10_fault_17 kI_4 ?_
      refine GE.callvI [.int 4] dX10_fault_18 (lV_X10_258) rfl ⟨rfl, rfl⟩ (rokb rfl) (gX10_readLaw σ a0 4) (fun x1 t2 => ?_)
      refine GE.goto (tgt := 26) dX10_fault_21 (by decide) ?_
      exact GE.iret dX10_fault_26 rfl (Nat.le_refl _) (Nat.le_refl _)
  · refine GE.aload_n 0 dX10_fault_4 rfl rfl ?_
    refine GE.callvI [] dX10_fault_5 (lV_X10_255) rfl ⟨rfl, rfl⟩ (rokb rfl) (gX10_readLand σ a0) (fun x3 t4 => ?_)
    refine GE.goto (tgt := 26) dX10_fault_8 (by decide) ?_
    exact GE.iret dX10_fault_26 rfl (Nat.le_refl _) (Nat.le_refl _)
def eX10_oddsFrom (rX10_oddsFrom : St → Nat → Int32 → Int32 → Int32 → Int32 → Option (Int32 × St)) (σ : St) (a0 : Nat) (px1 : Int32) (px2 : Int32) (px3 : Int32) (px4 : Int32) : Option (Int32 × St) :=
  if px2 = 0 then
    bo 10 σ a0 (fX10_isHidNow σ a0 px1) (fun x25 t26 =>
    if x25 = 0 then
      some (0, t26)
    else
      some (px4, t26))
  else
    (gR 10 28 σ a0).bind fun a1 =>
    (aI 0 σ a1 39).bind fun x2 =>
    if 100 = 0 then none else
    nam (Int64.toInt32 (((Int32.toInt64 px4) * (Int32.toInt64 px3)) / 100) : Int32) (fun x3 =>
    (gR 10 28 σ a0).bind fun a4 =>
    (aI 0 σ a4 41).bind fun x5 =>
    (sI 0 σ a4 41 (x5 + 1)).bind (fun t6 =>
    (gR 10 28 t6 a0).bind fun a7 =>
    bd (fJ9_min_7cf53 t6 9 (x2 + 1)) (fun x8 t9 =>
    (sI 0 t9 a7 39 x8).bind (fun t10 =>
    bo 10 t10 a0 (rX10_oddsFrom t10 a0 px1 (px2 - 1) px3 x3) (fun x11 t12 =>
    (gR 10 28 t12 a0).bind fun a13 =>
    bd (fJ9_max_7cf53 t12 0 (x2 - 1)) (fun x14 t15 =>
    (sI 0 t15 a13 39 x14).bind (fun t16 =>
    bo 10 t16 a0 (rX10_oddsFrom t16 a0 px1 (px2 - 1) px3 (px4 - x3)) (fun x17 t18 =>
    nam (x11 + x17 : Int32) (fun x19 =>
    (gR 10 28 t18 a0).bind fun a20 =>
    (sI 0 t18 a20 39 x2).bind (fun t21 =>
    (gR 10 28 t21 a0).bind fun a22 =>
    (aI 0 t21 a22 41).bind fun x23 =>
    (sI 0 t21 a22 41 (x23 - 1)).bind (fun t24 =>
    some (x19, t24))))))))))))
set_option maxHeartbeats 4000000 in
set_option maxRecDepth 100000 in
theorem hX10_oddsFrom (d : Nat) (rX10_oddsFrom : St → Nat → Int32 → Int32 → Int32 → Int32 → Option (Int32 × St)) (ihX10_oddsFrom : ∀ (σ : St) (a0 : Nat) (px1 : Int32) (px2 : Int32) (px3 : Int32) (px4 : Int32), CE vI (mX10_oddsFrom d) [.ref a0, .int px1, .int px2, .int px3, .int px4] σ (rX10_oddsFrom σ a0 px1 px2 px3 px4)) : ∀ (σ : St) (a0 : Nat) (px1 : Int32) (px2 : Int32) (px3 : Int32) (px4 : Int32), CE vI (mX10_oddsFrom (d + 1)) [.ref a0, .int px1, .int px2, .int px3, .int px4] σ (eX10_oddsFrom rX10_oddsFrom σ a0 px1 px2 px3 px4) := by
  intro σ a0 px1 px2 px3 px4
  refine CE.ofGEF (lv := [(0, .ref a0), (1, .int px1), (2, .int px2), (3, .int px3), (4, .int px4)]) (show plainFor yX10_oddsFrom = true by decide +kernel) (Nat.le_of_ble_eq_true rfl) rfl ?_
  unfold eX10_oddsFrom
  refine GE.iload_n 2 dX10_oddsFrom_0 rfl rfl ?_
  refine GE.if_ne (tgt := 19) dX10_oddsFrom_1 (by decide) ?_ ?_
  · refine GE.aload_n 0 dX10_oddsFrom_19 rfl rfl ?_
    refine GE.gR dX10_oddsFrom_20 lF_X10_61 (fun a1 => ?_)
    refine GE.bipush dX10_oddsFrom_23 kB_39 ?_
    refine GE.iald dX10_oddsFrom_25 (fun x2 => ?_)
    refine GE.istore (lv' := [(0, .ref a0), (1, .int px1), (2, .int px2), (3, .int px3), (4, .int px4), (5, .int x2)]) dX10_oddsFrom_26 (show 5 < 8 by decide) [1, 2, 3, 4, 5, 0] rfl ?_
    refine GE.iload 4 dX10_oddsFrom_28 rfl ?_
    refine GE.i2l dX10_oddsFrom_30 ?_
    refine GE.iload_n 3 dX10_oddsFrom_31 rfl rfl ?_
    refine GE.i2l dX10_oddsFrom_32 ?_
    refine GE.lmul dX10_oddsFrom_33 ?_
    refine GE.ldc2 (v := 100) dX10_oddsFrom_34 lKL_X10_416 ?_
    refine GE.ldiv dX10_oddsFrom_37 ?_
    refine GE.l2i dX10_oddsFrom_38 ?_
    refine GE.nami (fun x3 => ?_)
    refine GE.istore (lv' := [(0, .ref a0), (1, .int px1), (2, .int px2), (3, .int px3), (4, .int px4), (5, .int x2), (6, .int x3)]) dX10_oddsFrom_39 (show 6 < 8 by decide) [1, 2, 3, 4, 5, 6, 0] rfl ?_
    refine GE.aload_n 0 dX10_oddsFrom_41 rfl rfl ?_
    refine GE.gR dX10_oddsFrom_42 lF_X10_61 (fun a4 => ?_)
    refine GE.bipush dX10_oddsFrom_45 kB_41 ?_
    refine GE.dup2 dX10_oddsFrom_47 rfl rfl ?_
    refine GE.iald dX10_oddsFrom_48 (fun x5 => ?_)
    refine GE.iconst dX10_oddsFrom_49 kI_1 ?_
    refine GE.iadd dX10_oddsFrom_50 ?_
    refine GE.iast dX10_oddsFrom_51 (fun t6 => ?_)
    refine GE.aload_n 0 dX10_oddsFrom_52 rfl rfl ?_
    refine GE.gR dX10_oddsFrom_53 lF_X10_61 (fun a7 => ?_)
    refine GE.bipush dX10_oddsFrom_56 kB_39 ?_
    refine GE.bipush dX10_oddsFrom_58 kB_9 ?_
    refine GE.iload 5 dX10_oddsFrom_60 rfl ?_
    refine GE.iconst dX10_oddsFrom_62 kI_1 ?_
    refine GE.iadd dX10_oddsFrom_63 ?_
    refine GE.callsI [.int 9, .int (x2 + 1)] dX10_oddsFrom_64 (lT_X10_309) rfl ⟨rfl, rfl⟩ ⟨(show 1 + 1 ≤ d + 1 + 10 by omega), Nat.le_refl _, Nat.le_refl _, Nat.le_of_ble_eq_true rfl⟩ (gJ9_min_7cf53 t6 9 (x2 + 1)) (fun x8 t9 => ?_)
    refine GE.iast dX10_oddsFrom_67 (fun t10 => ?_)
    refine GE.aload_n 0 dX10_oddsFrom_68 rfl rfl ?_
    refine GE.iload_n 1 dX10_oddsFrom_69 rfl rfl ?_
    refine GE.iload_n 2 dX10_oddsFrom_70 rfl rfl ?_
    refine GE.iconst dX10_oddsFrom_71 kI_1 ?_
    refine GE.isub dX10_oddsFrom_72 ?_
    refine GE.iload_n 3 dX10_oddsFrom_73 rfl rfl ?_
    refine GE.iload 6 dX10_oddsFrom_74 rfl ?_
    refine GE.callvI [.int px1, .int (px2 - 1), .int px3, .int x3] dX10_oddsFrom_76 (lV_X10_418 d) rfl ⟨rfl, rfl⟩ ⟨Nat.le_refl _, Nat.le_refl _, Nat.le_refl _, Nat.le_of_ble_eq_true rfl⟩ (ihX10_oddsFrom t10 a0 px1 (px2 - 1) px3 x3) (fun x11 t12 => ?_)
    refine GE.istore (lv' := [(0, .ref a0), (1, .int px1), (2, .int px2), (3, .int px3), (4, .int px4), (5, .int x2), (6, .int x3), (7, .int x11)]) dX10_oddsFrom_79 (show 7 < 8 by decide) [1, 2, 3, 4, 5, 6, 7, 0] rfl ?_
    refine GE.aload_n 0 dX10_oddsFrom_81 rfl rfl ?_
    refine GE.gR dX10_oddsFrom_82 lF_X10_61 (fun a13 => ?_)
    refine GE.bipush dX10_oddsFrom_85 kB_39 ?_
    refine GE.iconst dX10_oddsFrom_87 kI_0 ?_
    refine GE.iload 5 dX10_oddsFrom_88 rfl ?_
    refine GE.iconst dX10_oddsFrom_90 kI_1 ?_
    refine GE.isub dX10_oddsFrom_91 ?_
    refine GE.callsI [.int 0, .int (x2 - 1)] dX10_oddsFrom_92 (lT_X10_301) rfl ⟨rfl, rfl⟩ ⟨(show 1 + 1 ≤ d + 1 + 10 by omega), Nat.le_refl _, Nat.le_refl _, Nat.le_of_ble_eq_true rfl⟩ (gJ9_max_7cf53 t12 0 (x2 - 1)) (fun x14 t15 => ?_)
    refine GE.iast dX10_oddsFrom_95 (fun t16 => ?_)
    refine GE.iload 7 dX10_oddsFrom_96 rfl ?_
    refine GE.aload_n 0 dX10_oddsFrom_98 rfl rfl ?_
    refine GE.iload_n 1 dX10_oddsFrom_99 rfl rfl ?_
    refine GE.iload_n 2 dX10_oddsFrom_100 rfl rfl ?_
    refine GE.iconst dX10_oddsFrom_101 kI_1 ?_
    refine GE.isub dX10_oddsFrom_102 ?_
    refine GE.iload_n 3 dX10_oddsFrom_103 rfl rfl ?_
    refine GE.iload 4 dX10_oddsFrom_104 rfl ?_
    refine GE.iload 6 dX10_oddsFrom_106 rfl ?_
    refine GE.isub dX10_oddsFrom_108 ?_
    refine GE.callvI [.int px1, .int (px2 - 1), .int px3, .int (px4 - x3)] dX10_oddsFrom_109 (lV_X10_418 d) rfl ⟨rfl, rfl⟩ ⟨Nat.le_refl _, Nat.le_refl _, Nat.le_refl _, Nat.le_of_ble_eq_true rfl⟩ (ihX10_oddsFrom t16 a0 px1 (px2 - 1) px3 (px4 - x3)) (fun x17 t18 => ?_)
    refine GE.iadd dX10_oddsFrom_112 ?_
    refine GE.nami (fun x19 => ?_)
    refine GE.istore (lv' := [(0, .ref a0), (1, .int px1), (2, .int px2), (3, .int px3), (4, .int px4), (5, .int x2), (6, .int x3), (7, .int x19)]) dX10_oddsFrom_113 (show 7 < 8 by decide) [1, 2, 3, 4, 5, 6, 7, 0] rfl ?_
    refine GE.aload_n 0 dX10_oddsFrom_115 rfl rfl ?_
    refine GE.gR dX10_oddsFrom_116 lF_X10_61 (fun a20 => ?_)
    refine GE.bipush dX10_oddsFrom_119 kB_39 ?_
    refine GE.iload 5 dX10_oddsFrom_121 rfl ?_
    refine GE.iast dX10_oddsFrom_123 (fun t21 => ?_)
    refine GE.aload_n 0 dX10_oddsFrom_124 rfl rfl ?_
    refine GE.gR dX10_oddsFrom_125 lF_X10_61 (fun a22 => ?_)
    refine GE.bipush dX10_oddsFrom_128 kB_41 ?_
    refine GE.dup2 dX10_oddsFrom_130 rfl rfl ?_
    refine GE.iald dX10_oddsFrom_131 (fun x23 => ?_)
    refine GE.iconst dX10_oddsFrom_132 kI_1 ?_
    refine GE.isub dX10_oddsFrom_133 ?_
    refine GE.iast dX10_oddsFrom_134 (fun t24 => ?_)
    refine GE.iload 7 dX10_oddsFrom_135 rfl ?_
    exact GE.iret dX10_oddsFrom_137 rfl (Nat.le_refl _) (Nat.le_refl _)
  · refine GE.aload_n 0 dX10_oddsFrom_4 rfl rfl ?_
    refine GE.iload_n 1 dX10_oddsFrom_5 rfl rfl ?_
    refine GE.callvI [.int px1] dX10_oddsFrom_6 (lV_X10_413) rfl ⟨rfl, rfl⟩ ⟨(show 9 + 1 ≤ d + 1 + 10 by omega), Nat.le_refl _, Nat.le_refl _, Nat.le_of_ble_eq_true rfl⟩ (gX10_isHidNow σ a0 px1) (fun x25 t26 => ?_)
    refine GE.if_eq (tgt := 17) dX10_oddsFrom_9 (by decide) ?_ ?_
    · refine GE.iconst dX10_oddsFrom_17 kI_0 ?_
      exact GE.iret dX10_oddsFrom_18 rfl (Nat.le_refl _) (Nat.le_refl _)
    · refine GE.iload 4 dX10_oddsFrom_12 rfl ?_
      refine GE.goto (tgt := 18) dX10_oddsFrom_14 (by decide) ?_
      exact GE.iret dX10_oddsFrom_18 rfl (Nat.le_refl _) (Nat.le_refl _)
def recX10_oddsFrom : Nat → (St → Nat → Int32 → Int32 → Int32 → Int32 → Option (Int32 × St))
  | 0 => (fun _ _ _ _ _ _ => none)
  | d + 1 => (eX10_oddsFrom (recX10_oddsFrom d))
def fX10_oddsFrom (d : Nat) : St → Nat → Int32 → Int32 → Int32 → Int32 → Option (Int32 × St) := (recX10_oddsFrom d)
theorem allX10_oddsFrom : ∀ d : Nat, (∀ (σ : St) (a0 : Nat) (px1 : Int32) (px2 : Int32) (px3 : Int32) (px4 : Int32), CE vI (mX10_oddsFrom d) [.ref a0, .int px1, .int px2, .int px3, .int px4] σ (fX10_oddsFrom d σ a0 px1 px2 px3 px4)) := by
  intro d
  induction d with
  | zero => exact fun _ _ _ _ _ _ => CE.none
  | succ d ih => exact hX10_oddsFrom d (recX10_oddsFrom d) ih
theorem gX10_oddsFrom (d : Nat) : ∀ (σ : St) (a0 : Nat) (px1 : Int32) (px2 : Int32) (px3 : Int32) (px4 : Int32), CE vI (mX10_oddsFrom d) [.ref a0, .int px1, .int px2, .int px3, .int px4] σ (fX10_oddsFrom d σ a0 px1 px2 px3 px4) := (allX10_oddsFrom d)
def fX10_odds (σ : St) (a0 : Nat) (px1 : Int32) (px2 : Int32) (px3 : Int32) : Option (Int32 × St) :=
  bo 10 σ a0 (fX10_isCell σ a0 px1) (fun x1 t2 =>
  if x1 = 0 then
    some ((-1), t2)
  else
    bd (fX10_in t2 px2 0 8) (fun x3 t4 =>
    if x3 = 0 then
      some ((-1), t4)
    else
      bd (fX10_in t4 px3 0 100) (fun x5 t6 =>
      if x5 = 0 then
        some ((-1), t6)
      else
        bo 10 t6 a0 (fX10_oddsFrom 12 t6 a0 px1 px2 px3 1000000000) (fun x7 t8 =>
        some (x7, t8)))))
set_option maxHeartbeats 4000000 in
set_option maxRecDepth 100000 in
theorem gX10_odds (σ : St) (a0 : Nat) (px1 : Int32) (px2 : Int32) (px3 : Int32) : CE vI mX10_odds [.ref a0, .int px1, .int px2, .int px3] σ (fX10_odds σ a0 px1 px2 px3) := by
  refine CE.ofGEF (lv := [(0, .ref a0), (1, .int px1), (2, .int px2), (3, .int px3)]) (by decide +kernel) (Nat.le_of_ble_eq_true rfl) rfl ?_
  unfold fX10_odds
  refine GE.aload_n 0 dX10_odds_0 rfl rfl ?_
  refine GE.iload_n 1 dX10_odds_1 rfl rfl ?_
  refine GE.callvI [.int px1] dX10_odds_2 (lV_X10_337) rfl ⟨rfl, rfl⟩ (rokb rfl) (gX10_isCell σ a0 px1) (fun x1 t2 => ?_)
  refine GE.if_eq (tgt := 28) dX10_odds_5 (by decide) ?_ ?_
  · refine GE.iconst dX10_odds_28 kI_m1 ?_
    exact GE.iret dX10_odds_29 rfl (Nat.le_refl _) (Nat.le_refl _)
  · refine GE.iload_n 2 dX10_odds_8 rfl rfl ?_
    refine GE.iconst dX10_odds_9 kI_0 ?_
    refine GE.bipush dX10_odds_10 kB_8 ?_
    refine GE.callsI [.int px2, .int 0, .int 8] dX10_odds_12 (lT_X10_217) rfl ⟨rfl, rfl⟩ (rokb rfl) (gX10_in t2 px2 0 8) (fun x3 t4 => ?_)
    refine GE.if_eq (tgt := 28) dX10_odds_15 (by decide) ?_ ?_
    · refine GE.iconst dX10_odds_28 kI_m1 ?_
      exact GE.iret dX10_odds_29 rfl (Nat.le_refl _) (Nat.le_refl _)
    · refine GE.iload_n 3 dX10_odds_18 rfl rfl ?_
      refine GE.iconst dX10_odds_19 kI_0 ?_
      refine GE.bipush dX10_odds_20 kB_100 ?_
      refine GE.callsI [.int px3, .int 0, .int 100] dX10_odds_22 (lT_X10_217) rfl ⟨rfl, rfl⟩ (rokb rfl) (gX10_in t4 px3 0 100) (fun x5 t6 => ?_)
      refine GE.if_ne (tgt := 30) dX10_odds_25 (by decide) ?_ ?_
      · refine GE.aload_n 0 dX10_odds_30 rfl rfl ?_
        refine GE.iload_n 1 dX10_odds_31 rfl rfl ?_
        refine GE.iload_n 2 dX10_odds_32 rfl rfl ?_
        refine GE.iload_n 3 dX10_odds_33 rfl rfl ?_
        refine GE.ldcw (v := 1000000000) dX10_odds_34 lK_X10_421 ?_
        refine GE.callvI [.int px1, .int px2, .int px3, .int 1000000000] dX10_odds_37 (lV_X10_418 12) rfl ⟨rfl, rfl⟩ (rokb rfl) (gX10_oddsFrom 12 t6 a0 px1 px2 px3 1000000000) (fun x7 t8 => ?_)
        exact GE.iret dX10_odds_40 rfl (Nat.le_refl _) (Nat.le_refl _)
      · refine GE.iconst dX10_odds_28 kI_m1 ?_
        exact GE.iret dX10_odds_29 rfl (Nat.le_refl _) (Nat.le_refl _)
def fX10_text (σ : St) (a0 : Nat) (px1 : Int32) : Option (Int32 × St) :=
  jo1 (fun (t1 : St) =>
    if px1 = 1 then
      (gI 10 13 t1 a0).bind fun x3 =>
      if 4 ≤ x3 then
        some ((-1), t1)
      else
        (gI 10 13 t1 a0).bind fun x4 =>
        bo 10 t1 a0 (fX10_readLaw t1 a0 x4) (fun x5 t6 =>
        if x5 = (-1) then
          (pV 10 2 t6 a0 (.int 0)).bind (fun t7 =>
          (gI 10 13 t7 a0).bind fun x8 =>
          (pV 10 13 t7 a0 (.int (x8 + 1))).bind (fun t9 =>
          (gI 10 13 t9 a0).bind fun x10 =>
          some (x10 - 1, t9)))
        else
          some ((-1), t6))
    else
      some ((-1), t1)) (fun j2 =>
    if px1 = 0 then
      bo 10 σ a0 (fX10_readLand σ a0) (fun x11 t12 =>
      if x11 = (-1) then
        (pV 10 2 t12 a0 (.int 0)).bind (fun t13 =>
        bo 10 t13 a0 (fX10_takeLand t13 a0) (fun x14 t15 =>
        some (x14, t15)))
      else
        j2 t12)
    else
      j2 σ)
set_option maxHeartbeats 4000000 in
set_option maxRecDepth 100000 in
theorem gX10_text (σ : St) (a0 : Nat) (px1 : Int32) : CE vI mX10_text [.ref a0, .int px1] σ (fX10_text σ a0 px1) := by
  refine CE.ofGEF (lv := [(0, .ref a0), (1, .int px1)]) (by decide +kernel) (Nat.le_of_ble_eq_true rfl) rfl ?_
  unfold fX10_text
  refine GE.iload_n 1 dX10_text_0 rfl rfl ?_
  refine GE.jo1 22 (fun (t1 : St) => [(0, .ref a0), (1, .int px1)]) (fun (t1 : St) => []) (fun (t1 : St) => t1) (fun t1 => ?_) (fun j2 hj2 => ?_)
  · refine GE.iload_n 1 dX10_text_22 rfl rfl ?_
    refine GE.iconst dX10_text_23 kI_1 ?_
    refine GE.icmp_ne (tgt := 69) dX10_text_24 (by decide) ?_ ?_
    · refine GE.iconst dX10_text_69 kI_m1 ?_
      exact GE.iret dX10_text_70 rfl (Nat.le_refl _) (Nat.le_refl _)
    · refine GE.aload_n 0 dX10_text_27 rfl rfl ?_
      refine GE.gI dX10_text_28 lF_X10_286 (fun x3 => ?_)
      refine GE.iconst dX10_text_31 kI_4 ?_
      refine GE.icmp_ge (tgt := 69) dX10_text_32 (by decide) ?_ ?_
      · refine GE.iconst dX10_text_69 kI_m1 ?_
        exact GE.iret dX10_text_70 rfl (Nat.le_refl _) (Nat.le_refl _)
      · refine GE.aload_n 0 dX10_text_35 rfl rfl ?_
        refine GE.aload_n 0 dX10_text_36 rfl rfl ?_
        refine GE.gI dX10_text_37 lF_X10_286 (fun x4 => ?_)
        refine GE.callvI [.int x4] dX10_text_40 (lV_X10_258) rfl ⟨rfl, rfl⟩ (rokb rfl) (gX10_readLaw t1 a0 x4) (fun x5 t6 => ?_)
        refine GE.iconst dX10_text_43 kI_m1 ?_
        refine GE.icmp_ne (tgt := 69) dX10_text_44 (by decide) ?_ ?_
        · refine GE.iconst dX10_text_69 kI_m1 ?_
          exact GE.iret dX10_text_70 rfl (Nat.le_refl _) (Nat.le_refl _)
        · refine GE.aload_n 0 dX10_text_47 rfl rfl ?_
          refine GE.iconst dX10_text_48 kI_0 ?_
          refine GE.pI dX10_text_49 lF_X10_109 (fun t7 => ?_)
          refine GE.aload_n 0 dX10_text_52 rfl rfl ?_
          refine GE.dup dX10_text_53 rfl ?_
          refine GE.gI dX10_text_54 lF_X10_286 (fun x8 => ?_)
          refine GE.iconst dX10_text_57 kI_1 ?_
          refine GE.iadd dX10_text_58 ?_
          refine GE.pI dX10_text_59 lF_X10_286 (fun t9 => ?_)
          refine GE.aload_n 0 dX10_text_62 rfl rfl ?_
          refine GE.gI dX10_text_63 lF_X10_286 (fun x10 => ?_)
          refine GE.iconst dX10_text_66 kI_1 ?_
          refine GE.isub dX10_text_67 ?_
          exact GE.iret dX10_text_68 rfl (Nat.le_refl _) (Nat.le_refl _)
  · refine GE.if_ne (tgt := 22) dX10_text_1 (by decide) ?_ ?_
    · exact hj2 σ
    · refine GE.aload_n 0 dX10_text_4 rfl rfl ?_
      refine GE.callvI [] dX10_text_5 (lV_X10_255) rfl ⟨rfl, rfl⟩ (rokb rfl) (gX10_readLand σ a0) (fun x11 t12 => ?_)
      refine GE.iconst dX10_text_8 kI_m1 ?_
      refine GE.icmp_ne (tgt := 22) dX10_text_9 (by decide) ?_ ?_
      · exact hj2 t12
      · refine GE.aload_n 0 dX10_text_12 rfl rfl ?_
        refine GE.iconst dX10_text_13 kI_0 ?_
        refine GE.pI dX10_text_14 lF_X10_109 (fun t13 => ?_)
        refine GE.aload_n 0 dX10_text_17 rfl rfl ?_
        refine GE.callvI [] dX10_text_18 (lV_X10_283) rfl ⟨rfl, rfl⟩ (rokb rfl) (gX10_takeLand t13 a0) (fun x14 t15 => ?_)
        exact GE.iret dX10_text_21 rfl (Nat.le_refl _) (Nat.le_refl _)
def eX4_atom (rX4_atom : St → Nat → Int32 → Option (Unit × St)) (rX4_term : St → Nat → Int32 → Option (Unit × St)) (rX4_sum : St → Nat → Int32 → Option (Unit × St)) (σ : St) (a0 : Nat) (px1 : Int32) : Option (Unit × St) :=
  (gR 4 0 σ a0).bind fun a1 =>
  bo 8 σ a1 (fX8_peek σ a1) (fun x2 t3 =>
  bd (fX8_isDigit t3 x2) (fun x4 t5 =>
  if x4 = 0 then
    if x2 = 91 then
      bo 4 t5 a0 (fX4_enter t5 a0 px1) (fun x18 t19 =>
      if x18 = 0 then
        some ((), t19)
      else
        bo 4 t19 a0 (rX4_sum t19 a0 (px1 + 1)) (fun w20 t21 =>
        (gR 4 0 t21 a0).bind fun a22 =>
        bo 8 t21 a22 (fX8_expect t21 a22 93) (fun w23 t24 =>
        some ((), t24))))
    else
      bd (fX3_letterOf t5 x2) (fun x6 t7 =>
      if x6 = (-1) then
        (gR 4 0 t7 a0).bind fun a8 =>
        bo 8 t7 a8 (fX8_fail t7 a8) (fun w9 t10 =>
        some ((), t10))
      else
        bd (fX3_letterOf t7 x2) (fun x11 t12 =>
        bo 4 t12 a0 (fX4_put t12 a0 64 x11) (fun w13 t14 =>
        (gR 4 0 t14 a0).bind fun a15 =>
        bo 8 t14 a15 (fX8_step t14 a15) (fun w16 t17 =>
        some ((), t17)))))
  else
    (gR 4 0 t5 a0).bind fun a25 =>
    bo 8 t5 a25 (fX8_number t5 a25 4) (fun x26 t27 =>
    bo 4 t27 a0 (fX4_put t27 a0 35 x26) (fun w28 t29 =>
    some ((), t29)))))
def eX4_term (rX4_atom : St → Nat → Int32 → Option (Unit × St)) (rX4_term : St → Nat → Int32 → Option (Unit × St)) (rX4_sum : St → Nat → Int32 → Option (Unit × St)) (σ : St) (a0 : Nat) (px1 : Int32) : Option (Unit × St) :=
  bo 4 σ a0 (rX4_atom σ a0 px1) (fun w1 t2 =>
  (gR 4 0 t2 a0).bind fun a3 =>
  bo 8 t2 a3 (fX8_peek t2 a3) (fun x4 t5 =>
  lo3 (fun l9 (x6 : Int32) (x7 : Int32) (t8 : St) =>
    if 240 ≤ x7 then
    some ((), t8)
  else
    jo1 (fun (u9 : Unit) =>
      (gR 4 0 t8 a0).bind fun a11 =>
      bo 8 t8 a11 (fX8_step t8 a11) (fun w12 t13 =>
      bo 4 t13 a0 (rX4_atom t13 a0 px1) (fun w14 t15 =>
      bo 4 t15 a0 (fX4_put t15 a0 x6 0) (fun w16 t17 =>
      (gR 4 0 t17 a0).bind fun a18 =>
      bo 8 t17 a18 (fX8_peek t17 a18) (fun x19 t20 =>
      l9 x19 (x7 + 1) t20))))) (fun j10 =>
      if x6 = 42 then
        j10 () 
      else
        if x6 = 47 then
          j10 () 
        else
          some ((), t8))) FU x4 0 t5))
def eX4_sum (rX4_atom : St → Nat → Int32 → Option (Unit × St)) (rX4_term : St → Nat → Int32 → Option (Unit × St)) (rX4_sum : St → Nat → Int32 → Option (Unit × St)) (σ : St) (a0 : Nat) (px1 : Int32) : Option (Unit × St) :=
  bo 4 σ a0 (rX4_term σ a0 px1) (fun w1 t2 =>
  (gR 4 0 t2 a0).bind fun a3 =>
  bo 8 t2 a3 (fX8_peek t2 a3) (fun x4 t5 =>
  lo3 (fun l9 (x6 : Int32) (x7 : Int32) (t8 : St) =>
    if 240 ≤ x7 then
    some ((), t8)
  else
    jo1 (fun (u9 : Unit) =>
      (gR 4 0 t8 a0).bind fun a11 =>
      bo 8 t8 a11 (fX8_step t8 a11) (fun w12 t13 =>
      bo 4 t13 a0 (rX4_term t13 a0 px1) (fun w14 t15 =>
      bo 4 t15 a0 (fX4_put t15 a0 x6 0) (fun w16 t17 =>
      (gR 4 0 t17 a0).bind fun a18 =>
      bo 8 t17 a18 (fX8_peek t17 a18) (fun x19 t20 =>
      l9 x19 (x7 + 1) t20))))) (fun j10 =>
      if x6 = 43 then
        j10 () 
      else
        if x6 = 45 then
          j10 () 
        else
          some ((), t8))) FU x4 0 t5))
set_option maxHeartbeats 4000000 in
set_option maxRecDepth 100000 in
theorem hX4_atom (d : Nat) (rX4_atom : St → Nat → Int32 → Option (Unit × St)) (rX4_term : St → Nat → Int32 → Option (Unit × St)) (rX4_sum : St → Nat → Int32 → Option (Unit × St)) (ihX4_atom : ∀ (σ : St) (a0 : Nat) (px1 : Int32), CE vU (mX4_atom d) [.ref a0, .int px1] σ (rX4_atom σ a0 px1)) (ihX4_term : ∀ (σ : St) (a0 : Nat) (px1 : Int32), CE vU (mX4_term d) [.ref a0, .int px1] σ (rX4_term σ a0 px1)) (ihX4_sum : ∀ (σ : St) (a0 : Nat) (px1 : Int32), CE vU (mX4_sum d) [.ref a0, .int px1] σ (rX4_sum σ a0 px1)) : ∀ (σ : St) (a0 : Nat) (px1 : Int32), CE vU (mX4_atom (d + 1)) [.ref a0, .int px1] σ (eX4_atom rX4_atom rX4_term rX4_sum σ a0 px1) := by
  intro σ a0 px1
  refine CE.ofGEF (lv := [(0, .ref a0), (1, .int px1)]) (show plainFor yX4_atom = true by decide +kernel) (Nat.le_of_ble_eq_true rfl) rfl ?_
  unfold eX4_atom
  refine GE.aload_n 0 dX4_atom_0 rfl rfl ?_
  refine GE.gR dX4_atom_1 lF_X4_21 (fun a1 => ?_)
  refine GE.callvI [] dX4_atom_4 (lV_X4_31) rfl ⟨rfl, rfl⟩ ⟨(show 1 + 1 ≤ d + 1 + 3 by omega), Nat.le_refl _, Nat.le_refl _, Nat.le_of_ble_eq_true rfl⟩ (gX8_peek σ a1) (fun x2 t3 => ?_)
  refine GE.istore_n (lv' := [(0, .ref a0), (1, .int px1), (2, .int x2)]) dX4_atom_7 rfl (show 2 < 3 by decide) [1, 2, 0] rfl ?_
  refine GE.iload_n 2 dX4_atom_8 rfl rfl ?_
  refine GE.callsI [.int x2] dX4_atom_9 (lT_X4_89) rfl ⟨rfl, rfl⟩ ⟨(show 1 + 1 ≤ d + 1 + 3 by omega), Nat.le_refl _, Nat.le_refl _, Nat.le_of_ble_eq_true rfl⟩ (gX8_isDigit t3 x2) (fun x4 t5 => ?_)
  refine GE.if_eq (tgt := 32) dX4_atom_12 (by decide) ?_ ?_
  · refine GE.iload_n 2 dX4_atom_32 rfl rfl ?_
    refine GE.bipush dX4_atom_33 kB_91 ?_
    refine GE.icmp_ne (tgt := 65) dX4_atom_35 (by decide) ?_ ?_
    · refine GE.iload_n 2 dX4_atom_65 rfl rfl ?_
      refine GE.callsI [.int x2] dX4_atom_66 (lT_X4_96) rfl ⟨rfl, rfl⟩ ⟨(show 1 + 1 ≤ d + 1 + 3 by omega), Nat.le_refl _, Nat.le_refl _, Nat.le_of_ble_eq_true rfl⟩ (gX3_letterOf t5 x2) (fun x6 t7 => ?_)
      refine GE.iconst dX4_atom_69 kI_m1 ?_
      refine GE.icmp_eq (tgt := 93) dX4_atom_70 (by decide) ?_ ?_
      · refine GE.aload_n 0 dX4_atom_93 rfl rfl ?_
        refine GE.gR dX4_atom_94 lF_X4_21 (fun a8 => ?_)
        refine GE.callvU [] dX4_atom_97 (lV_X4_38) rfl ⟨rfl, rfl⟩ ⟨(show 1 + 1 ≤ d + 1 + 3 by omega), Nat.le_refl _, Nat.le_refl _, Nat.le_of_ble_eq_true rfl⟩ (gX8_fail t7 a8) (fun w9 t10 => ?_)
        exact GE.vret (x := ()) dX4_atom_100 rfl (Nat.le_refl _) (Nat.le_refl _)
      · refine GE.aload_n 0 dX4_atom_73 rfl rfl ?_
        refine GE.bipush dX4_atom_74 kB_64 ?_
        refine GE.iload_n 2 dX4_atom_76 rfl rfl ?_
        refine GE.callsI [.int x2] dX4_atom_77 (lT_X4_96) rfl ⟨rfl, rfl⟩ ⟨(show 1 + 1 ≤ d + 1 + 3 by omega), Nat.le_refl _, Nat.le_refl _, Nat.le_of_ble_eq_true rfl⟩ (gX3_letterOf t7 x2) (fun x11 t12 => ?_)
        refine GE.callvU [.int 64, .int x11] dX4_atom_80 (lV_X4_70) rfl ⟨rfl, rfl⟩ ⟨(show 1 + 1 ≤ d + 1 + 3 by omega), Nat.le_refl _, Nat.le_refl _, Nat.le_of_ble_eq_true rfl⟩ (gX4_put t12 a0 64 x11) (fun w13 t14 => ?_)
        refine GE.aload_n 0 dX4_atom_83 rfl rfl ?_
        refine GE.gR dX4_atom_84 lF_X4_21 (fun a15 => ?_)
        refine GE.callvU [] dX4_atom_87 (lV_X4_35) rfl ⟨rfl, rfl⟩ ⟨(show 1 + 1 ≤ d + 1 + 3 by omega), Nat.le_refl _, Nat.le_refl _, Nat.le_of_ble_eq_true rfl⟩ (gX8_step t14 a15) (fun w16 t17 => ?_)
        refine GE.goto (tgt := 100) dX4_atom_90 (by decide) ?_
        exact GE.vret (x := ()) dX4_atom_100 rfl (Nat.le_refl _) (Nat.le_refl _)
    · refine GE.aload_n 0 dX4_atom_38 rfl rfl ?_
      refine GE.iload_n 1 dX4_atom_39 rfl rfl ?_
      refine GE.callvI [.int px1] dX4_atom_40 (lV_X4_80) rfl ⟨rfl, rfl⟩ ⟨(show 2 + 1 ≤ d + 1 + 3 by omega), Nat.le_refl _, Nat.le_refl _, Nat.le_of_ble_eq_true rfl⟩ (gX4_enter t5 a0 px1) (fun x18 t19 => ?_)
      refine GE.if_eq (tgt := 100) dX4_atom_43 (by decide) ?_ ?_
      · exact GE.vret (x := ()) dX4_atom_100 rfl (Nat.le_refl _) (Nat.le_refl _)
      · refine GE.aload_n 0 dX4_atom_46 rfl rfl ?_
        refine GE.iload_n 1 dX4_atom_47 rfl rfl ?_
        refine GE.iconst dX4_atom_48 kI_1 ?_
        refine GE.iadd dX4_atom_49 ?_
        refine GE.callvU [.int (px1 + 1)] dX4_atom_50 (lV_X4_59 d) rfl ⟨rfl, rfl⟩ ⟨Nat.le_refl _, Nat.le_refl _, Nat.le_refl _, Nat.le_of_ble_eq_true rfl⟩ (ihX4_sum t19 a0 (px1 + 1)) (fun w20 t21 => ?_)
        refine GE.aload_n 0 dX4_atom_53 rfl rfl ?_
        refine GE.gR dX4_atom_54 lF_X4_21 (fun a22 => ?_)
        refine GE.bipush dX4_atom_57 kB_93 ?_
        refine GE.callvU [.int 93] dX4_atom_59 (lV_X4_55) rfl ⟨rfl, rfl⟩ ⟨(show 2 + 1 ≤ d + 1 + 3 by omega), Nat.le_refl _, Nat.le_refl _, Nat.le_of_ble_eq_true rfl⟩ (gX8_expect t21 a22 93) (fun w23 t24 => ?_)
        refine GE.goto (tgt := 100) dX4_atom_62 (by decide) ?_
        exact GE.vret (x := ()) dX4_atom_100 rfl (Nat.le_refl _) (Nat.le_refl _)
  · refine GE.aload_n 0 dX4_atom_15 rfl rfl ?_
    refine GE.bipush dX4_atom_16 kB_35 ?_
    refine GE.aload_n 0 dX4_atom_18 rfl rfl ?_
    refine GE.gR dX4_atom_19 lF_X4_21 (fun a25 => ?_)
    refine GE.iconst dX4_atom_22 kI_4 ?_
    refine GE.callvI [.int 4] dX4_atom_23 (lV_X4_92) rfl ⟨rfl, rfl⟩ ⟨(show 2 + 1 ≤ d + 1 + 3 by omega), Nat.le_refl _, Nat.le_refl _, Nat.le_of_ble_eq_true rfl⟩ (gX8_number t5 a25 4) (fun x26 t27 => ?_)
    refine GE.callvU [.int 35, .int x26] dX4_atom_26 (lV_X4_70) rfl ⟨rfl, rfl⟩ ⟨(show 1 + 1 ≤ d + 1 + 3 by omega), Nat.le_refl _, Nat.le_refl _, Nat.le_of_ble_eq_true rfl⟩ (gX4_put t27 a0 35 x26) (fun w28 t29 => ?_)
    refine GE.goto (tgt := 100) dX4_atom_29 (by decide) ?_
    exact GE.vret (x := ()) dX4_atom_100 rfl (Nat.le_refl _) (Nat.le_refl _)
set_option maxHeartbeats 4000000 in
set_option maxRecDepth 100000 in
theorem hX4_term (d : Nat) (rX4_atom : St → Nat → Int32 → Option (Unit × St)) (rX4_term : St → Nat → Int32 → Option (Unit × St)) (rX4_sum : St → Nat → Int32 → Option (Unit × St)) (ihX4_atom : ∀ (σ : St) (a0 : Nat) (px1 : Int32), CE vU (mX4_atom d) [.ref a0, .int px1] σ (rX4_atom σ a0 px1)) (ihX4_term : ∀ (σ : St) (a0 : Nat) (px1 : Int32), CE vU (mX4_term d) [.ref a0, .int px1] σ (rX4_term σ a0 px1)) (ihX4_sum : ∀ (σ : St) (a0 : Nat) (px1 : Int32), CE vU (mX4_sum d) [.ref a0, .int px1] σ (rX4_sum σ a0 px1)) : ∀ (σ : St) (a0 : Nat) (px1 : Int32), CE vU (mX4_term (d + 1)) [.ref a0, .int px1] σ (eX4_term rX4_atom rX4_term rX4_sum σ a0 px1) := by
  intro σ a0 px1
  refine CE.ofGEF (lv := [(0, .ref a0), (1, .int px1)]) (show plainFor yX4_term = true by decide +kernel) (Nat.le_of_ble_eq_true rfl) rfl ?_
  unfold eX4_term
  refine GE.aload_n 0 dX4_term_0 rfl rfl ?_
  refine GE.iload_n 1 dX4_term_1 rfl rfl ?_
  refine GE.callvU [.int px1] dX4_term_2 (lV_X4_86 d) rfl ⟨rfl, rfl⟩ ⟨Nat.le_refl _, Nat.le_refl _, Nat.le_refl _, Nat.le_of_ble_eq_true rfl⟩ (ihX4_atom σ a0 px1) (fun w1 t2 => ?_)
  refine GE.aload_n 0 dX4_term_5 rfl rfl ?_
  refine GE.gR dX4_term_6 lF_X4_21 (fun a3 => ?_)
  refine GE.callvI [] dX4_term_9 (lV_X4_31) rfl ⟨rfl, rfl⟩ ⟨(show 1 + 1 ≤ d + 1 + 3 by omega), Nat.le_refl _, Nat.le_refl _, Nat.le_of_ble_eq_true rfl⟩ (gX8_peek t2 a3) (fun x4 t5 => ?_)
  refine GE.istore_n (lv' := [(0, .ref a0), (1, .int px1), (2, .int x4)]) dX4_term_12 rfl (show 2 < 4 by decide) [1, 2, 0] rfl ?_
  refine GE.iconst dX4_term_13 kI_0 ?_
  refine GE.istore_n (lv' := [(0, .ref a0), (1, .int px1), (2, .int x4), (3, .int 0)]) dX4_term_14 rfl (show 3 < 4 by decide) [1, 2, 3, 0] rfl ?_
  refine (GE.lo3 (fun (x6 : Int32) (x7 : Int32) (t8 : St) => [(0, .ref a0), (1, .int px1), (2, .int x6), (3, .int x7)]) (fun (x6 : Int32) (x7 : Int32) (t8 : St) => []) (fun (x6 : Int32) (x7 : Int32) (t8 : St) => t8) (fun l9 hl9 x6 x7 t8 => ?_) FU x4 0 t5)
  refine GE.iload_n 3 dX4_term_15 rfl rfl ?_
  refine GE.sipush dX4_term_16 kS_240 ?_
  refine GE.icmp_ge (tgt := 66) dX4_term_19 (by decide) ?_ ?_
  · exact GE.vret (x := ()) dX4_term_66 rfl (Nat.le_refl _) (Nat.le_refl _)
  · refine GE.iload_n 2 dX4_term_22 rfl rfl ?_
    refine GE.bipush dX4_term_23 kB_42 ?_
    refine GE.jo1 34 (fun (u9 : Unit) => [(0, .ref a0), (1, .int px1), (2, .int x6), (3, .int x7)]) (fun (u9 : Unit) => []) (fun (u9 : Unit) => t8) (fun u9 => ?_) (fun j10 hj10 => ?_)
    · refine GE.aload_n 0 dX4_term_34 rfl rfl ?_
      refine GE.gR dX4_term_35 lF_X4_21 (fun a11 => ?_)
      refine GE.callvU [] dX4_term_38 (lV_X4_35) rfl ⟨rfl, rfl⟩ ⟨(show 1 + 1 ≤ d + 1 + 3 by omega), Nat.le_refl _, Nat.le_refl _, Nat.le_of_ble_eq_true rfl⟩ (gX8_step t8 a11) (fun w12 t13 => ?_)
      refine GE.aload_n 0 dX4_term_41 rfl rfl ?_
      refine GE.iload_n 1 dX4_term_42 rfl rfl ?_
      refine GE.callvU [.int px1] dX4_term_43 (lV_X4_86 d) rfl ⟨rfl, rfl⟩ ⟨Nat.le_refl _, Nat.le_refl _, Nat.le_refl _, Nat.le_of_ble_eq_true rfl⟩ (ihX4_atom t13 a0 px1) (fun w14 t15 => ?_)
      refine GE.aload_n 0 dX4_term_46 rfl rfl ?_
      refine GE.iload_n 2 dX4_term_47 rfl rfl ?_
      refine GE.iconst dX4_term_48 kI_0 ?_
      refine GE.callvU [.int x6, .int 0] dX4_term_49 (lV_X4_70) rfl ⟨rfl, rfl⟩ ⟨(show 1 + 1 ≤ d + 1 + 3 by omega), Nat.le_refl _, Nat.le_refl _, Nat.le_of_ble_eq_true rfl⟩ (gX4_put t15 a0 x6 0) (fun w16 t17 => ?_)
      refine GE.aload_n 0 dX4_term_52 rfl rfl ?_
      refine GE.gR dX4_term_53 lF_X4_21 (fun a18 => ?_)
      refine GE.callvI [] dX4_term_56 (lV_X4_31) rfl ⟨rfl, rfl⟩ ⟨(show 1 + 1 ≤ d + 1 + 3 by omega), Nat.le_refl _, Nat.le_refl _, Nat.le_of_ble_eq_true rfl⟩ (gX8_peek t17 a18) (fun x19 t20 => ?_)
      refine GE.istore_n (lv' := [(0, .ref a0), (1, .int px1), (2, .int x19), (3, .int x7)]) dX4_term_59 rfl (show 2 < 4 by decide) [1, 2, 0, 3] rfl ?_
      refine GE.iinc (lv' := [(0, .ref a0), (1, .int px1), (2, .int x19), (3, .int (x7 + 1))]) 3 dX4_term_60 rfl kI_1 (show 3 < 4 by decide) [1, 2, 3, 0] rfl ?_
      refine GE.goto (tgt := 15) dX4_term_63 (by decide) ?_
      exact hl9 x19 (x7 + 1) t20
    · refine GE.icmp_eq (tgt := 34) dX4_term_25 (by decide) ?_ ?_
      · exact hj10 () 
      · refine GE.iload_n 2 dX4_term_28 rfl rfl ?_
        refine GE.bipush dX4_term_29 kB_47 ?_
        refine GE.icmp_ne (tgt := 66) dX4_term_31 (by decide) ?_ ?_
        · exact GE.vret (x := ()) dX4_term_66 rfl (Nat.le_refl _) (Nat.le_refl _)
        · exact hj10 () 
set_option maxHeartbeats 4000000 in
set_option maxRecDepth 100000 in
theorem hX4_sum (d : Nat) (rX4_atom : St → Nat → Int32 → Option (Unit × St)) (rX4_term : St → Nat → Int32 → Option (Unit × St)) (rX4_sum : St → Nat → Int32 → Option (Unit × St)) (ihX4_atom : ∀ (σ : St) (a0 : Nat) (px1 : Int32), CE vU (mX4_atom d) [.ref a0, .int px1] σ (rX4_atom σ a0 px1)) (ihX4_term : ∀ (σ : St) (a0 : Nat) (px1 : Int32), CE vU (mX4_term d) [.ref a0, .int px1] σ (rX4_term σ a0 px1)) (ihX4_sum : ∀ (σ : St) (a0 : Nat) (px1 : Int32), CE vU (mX4_sum d) [.ref a0, .int px1] σ (rX4_sum σ a0 px1)) : ∀ (σ : St) (a0 : Nat) (px1 : Int32), CE vU (mX4_sum (d + 1)) [.ref a0, .int px1] σ (eX4_sum rX4_atom rX4_term rX4_sum σ a0 px1) := by
  intro σ a0 px1
  refine CE.ofGEF (lv := [(0, .ref a0), (1, .int px1)]) (show plainFor yX4_sum = true by decide +kernel) (Nat.le_of_ble_eq_true rfl) rfl ?_
  unfold eX4_sum
  refine GE.aload_n 0 dX4_sum_0 rfl rfl ?_
  refine GE.iload_n 1 dX4_sum_1 rfl rfl ?_
  refine GE.callvU [.int px1] dX4_sum_2 (lV_X4_83 d) rfl ⟨rfl, rfl⟩ ⟨Nat.le_refl _, Nat.le_refl _, Nat.le_refl _, Nat.le_of_ble_eq_true rfl⟩ (ihX4_term σ a0 px1) (fun w1 t2 => ?_)
  refine GE.aload_n 0 dX4_sum_5 rfl rfl ?_
  refine GE.gR dX4_sum_6 lF_X4_21 (fun a3 => ?_)
  refine GE.callvI [] dX4_sum_9 (lV_X4_31) rfl ⟨rfl, rfl⟩ ⟨(show 1 + 1 ≤ d + 1 + 3 by omega), Nat.le_refl _, Nat.le_refl _, Nat.le_of_ble_eq_true rfl⟩ (gX8_peek t2 a3) (fun x4 t5 => ?_)
  refine GE.istore_n (lv' := [(0, .ref a0), (1, .int px1), (2, .int x4)]) dX4_sum_12 rfl (show 2 < 4 by decide) [1, 2, 0] rfl ?_
  refine GE.iconst dX4_sum_13 kI_0 ?_
  refine GE.istore_n (lv' := [(0, .ref a0), (1, .int px1), (2, .int x4), (3, .int 0)]) dX4_sum_14 rfl (show 3 < 4 by decide) [1, 2, 3, 0] rfl ?_
  refine (GE.lo3 (fun (x6 : Int32) (x7 : Int32) (t8 : St) => [(0, .ref a0), (1, .int px1), (2, .int x6), (3, .int x7)]) (fun (x6 : Int32) (x7 : Int32) (t8 : St) => []) (fun (x6 : Int32) (x7 : Int32) (t8 : St) => t8) (fun l9 hl9 x6 x7 t8 => ?_) FU x4 0 t5)
  refine GE.iload_n 3 dX4_sum_15 rfl rfl ?_
  refine GE.sipush dX4_sum_16 kS_240 ?_
  refine GE.icmp_ge (tgt := 66) dX4_sum_19 (by decide) ?_ ?_
  · exact GE.vret (x := ()) dX4_sum_66 rfl (Nat.le_refl _) (Nat.le_refl _)
  · refine GE.iload_n 2 dX4_sum_22 rfl rfl ?_
    refine GE.bipush dX4_sum_23 kB_43 ?_
    refine GE.jo1 34 (fun (u9 : Unit) => [(0, .ref a0), (1, .int px1), (2, .int x6), (3, .int x7)]) (fun (u9 : Unit) => []) (fun (u9 : Unit) => t8) (fun u9 => ?_) (fun j10 hj10 => ?_)
    · refine GE.aload_n 0 dX4_sum_34 rfl rfl ?_
      refine GE.gR dX4_sum_35 lF_X4_21 (fun a11 => ?_)
      refine GE.callvU [] dX4_sum_38 (lV_X4_35) rfl ⟨rfl, rfl⟩ ⟨(show 1 + 1 ≤ d + 1 + 3 by omega), Nat.le_refl _, Nat.le_refl _, Nat.le_of_ble_eq_true rfl⟩ (gX8_step t8 a11) (fun w12 t13 => ?_)
      refine GE.aload_n 0 dX4_sum_41 rfl rfl ?_
      refine GE.iload_n 1 dX4_sum_42 rfl rfl ?_
      refine GE.callvU [.int px1] dX4_sum_43 (lV_X4_83 d) rfl ⟨rfl, rfl⟩ ⟨Nat.le_refl _, Nat.le_refl _, Nat.le_refl _, Nat.le_of_ble_eq_true rfl⟩ (ihX4_term t13 a0 px1) (fun w14 t15 => ?_)
      refine GE.aload_n 0 dX4_sum_46 rfl rfl ?_
      refine GE.iload_n 2 dX4_sum_47 rfl rfl ?_
      refine GE.iconst dX4_sum_48 kI_0 ?_
      refine GE.callvU [.int x6, .int 0] dX4_sum_49 (lV_X4_70) rfl ⟨rfl, rfl⟩ ⟨(show 1 + 1 ≤ d + 1 + 3 by omega), Nat.le_refl _, Nat.le_refl _, Nat.le_of_ble_eq_true rfl⟩ (gX4_put t15 a0 x6 0) (fun w16 t17 => ?_)
      refine GE.aload_n 0 dX4_sum_52 rfl rfl ?_
      refine GE.gR dX4_sum_53 lF_X4_21 (fun a18 => ?_)
      refine GE.callvI [] dX4_sum_56 (lV_X4_31) rfl ⟨rfl, rfl⟩ ⟨(show 1 + 1 ≤ d + 1 + 3 by omega), Nat.le_refl _, Nat.le_refl _, Nat.le_of_ble_eq_true rfl⟩ (gX8_peek t17 a18) (fun x19 t20 => ?_)
      refine GE.istore_n (lv' := [(0, .ref a0), (1, .int px1), (2, .int x19), (3, .int x7)]) dX4_sum_59 rfl (show 2 < 4 by decide) [1, 2, 0, 3] rfl ?_
      refine GE.iinc (lv' := [(0, .ref a0), (1, .int px1), (2, .int x19), (3, .int (x7 + 1))]) 3 dX4_sum_60 rfl kI_1 (show 3 < 4 by decide) [1, 2, 3, 0] rfl ?_
      refine GE.goto (tgt := 15) dX4_sum_63 (by decide) ?_
      exact hl9 x19 (x7 + 1) t20
    · refine GE.icmp_eq (tgt := 34) dX4_sum_25 (by decide) ?_ ?_
      · exact hj10 () 
      · refine GE.iload_n 2 dX4_sum_28 rfl rfl ?_
        refine GE.bipush dX4_sum_29 kB_45 ?_
        refine GE.icmp_ne (tgt := 66) dX4_sum_31 (by decide) ?_ ?_
        · exact GE.vret (x := ()) dX4_sum_66 rfl (Nat.le_refl _) (Nat.le_refl _)
        · exact hj10 () 
def recX4_atom : Nat → (St → Nat → Int32 → Option (Unit × St)) × (St → Nat → Int32 → Option (Unit × St)) × (St → Nat → Int32 → Option (Unit × St))
  | 0 => (fun _ _ _ => none, fun _ _ _ => none, fun _ _ _ => none)
  | d + 1 => (eX4_atom (recX4_atom d).1 (recX4_atom d).2.1 (recX4_atom d).2.2, eX4_term (recX4_atom d).1 (recX4_atom d).2.1 (recX4_atom d).2.2, eX4_sum (recX4_atom d).1 (recX4_atom d).2.1 (recX4_atom d).2.2)
def fX4_atom (d : Nat) : St → Nat → Int32 → Option (Unit × St) := (recX4_atom d).1
def fX4_term (d : Nat) : St → Nat → Int32 → Option (Unit × St) := (recX4_atom d).2.1
def fX4_sum (d : Nat) : St → Nat → Int32 → Option (Unit × St) := (recX4_atom d).2.2
theorem allX4_atom : ∀ d : Nat, (∀ (σ : St) (a0 : Nat) (px1 : Int32), CE vU (mX4_atom d) [.ref a0, .int px1] σ (fX4_atom d σ a0 px1)) ∧ (∀ (σ : St) (a0 : Nat) (px1 : Int32), CE vU (mX4_term d) [.ref a0, .int px1] σ (fX4_term d σ a0 px1)) ∧ (∀ (σ : St) (a0 : Nat) (px1 : Int32), CE vU (mX4_sum d) [.ref a0, .int px1] σ (fX4_sum d σ a0 px1)) := by
  intro d
  induction d with
  | zero => exact ⟨fun _ _ _ => CE.none, fun _ _ _ => CE.none, fun _ _ _ => CE.none⟩
  | succ d ih => exact ⟨hX4_atom d (recX4_atom d).1 (recX4_atom d).2.1 (recX4_atom d).2.2 ih.1 ih.2.1 ih.2.2, hX4_term d (recX4_atom d).1 (recX4_atom d).2.1 (recX4_atom d).2.2 ih.1 ih.2.1 ih.2.2, hX4_sum d (recX4_atom d).1 (recX4_atom d).2.1 (recX4_atom d).2.2 ih.1 ih.2.1 ih.2.2⟩
theorem gX4_atom (d : Nat) : ∀ (σ : St) (a0 : Nat) (px1 : Int32), CE vU (mX4_atom d) [.ref a0, .int px1] σ (fX4_atom d σ a0 px1) := (allX4_atom d).1
theorem gX4_term (d : Nat) : ∀ (σ : St) (a0 : Nat) (px1 : Int32), CE vU (mX4_term d) [.ref a0, .int px1] σ (fX4_term d σ a0 px1) := (allX4_atom d).2.1
theorem gX4_sum (d : Nat) : ∀ (σ : St) (a0 : Nat) (px1 : Int32), CE vU (mX4_sum d) [.ref a0, .int px1] σ (fX4_sum d σ a0 px1) := (allX4_atom d).2.2
def eX4_unit (rX4_unit : St → Nat → Int32 → Int32 → Option (Unit × St)) (rX4_truth : St → Nat → Int32 → Int32 → Option (Unit × St)) (rX4_condition : St → Nat → Int32 → Int32 → Option (Unit × St)) (σ : St) (a0 : Nat) (px1 : Int32) (px2 : Int32) : Option (Unit × St) :=
  jo2 (fun (v1 : Int32) (t2 : St) =>
    if v1 = 33 then
      bo 4 t2 a0 (fX4_enter t2 a0 px1) (fun x30 t31 =>
      if x30 = 0 then
        some ((), t31)
      else
        bo 4 t31 a0 (rX4_unit t31 a0 (px1 + 1) 0) (fun w32 t33 =>
        bo 4 t33 a0 (fX4_put t33 a0 33 0) (fun w34 t35 =>
        some ((), t35))))
    else
      if v1 = 40 then
        bo 4 t2 a0 (fX4_enter t2 a0 px1) (fun x23 t24 =>
        if x23 = 0 then
          some ((), t24)
        else
          bo 4 t24 a0 (rX4_condition t24 a0 (px1 + 1) 0) (fun w25 t26 =>
          (gR 4 0 t26 a0).bind fun a27 =>
          bo 8 t26 a27 (fX8_expect t26 a27 41) (fun w28 t29 =>
          some ((), t29))))
      else
        jo1 (fun (t4 : St) =>
          (gR 4 0 t4 a0).bind fun a6 =>
          bo 8 t4 a6 (fX8_peek t4 a6) (fun x7 t8 =>
          bd (fX4_compares t8 x7) (fun x9 t10 =>
          if x9 = 0 then
            (gR 4 0 t10 a0).bind fun a11 =>
            bo 8 t10 a11 (fX8_fail t10 a11) (fun w12 t13 =>
            some ((), t13))
          else
            (gR 4 0 t10 a0).bind fun a14 =>
            bo 8 t10 a14 (fX8_step t10 a14) (fun w15 t16 =>
            bo 4 t16 a0 (fX4_sum 60 t16 a0 px1) (fun w17 t18 =>
            bo 4 t18 a0 (fX4_put t18 a0 x7 0) (fun w19 t20 =>
            some ((), t20))))))) (fun j5 =>
          if px2 = 0 then
            bo 4 t2 a0 (fX4_sum 60 t2 a0 px1) (fun w21 t22 =>
            j5 t22)
          else
            j5 t2)) (fun j3 =>
    if px2 = 0 then
      (gR 4 0 σ a0).bind fun a36 =>
      bo 8 σ a36 (fX8_peek σ a36) (fun x37 t38 =>
      j3 x37 t38)
    else
      j3 ((-1)) σ)
def eX4_truth (rX4_unit : St → Nat → Int32 → Int32 → Option (Unit × St)) (rX4_truth : St → Nat → Int32 → Int32 → Option (Unit × St)) (rX4_condition : St → Nat → Int32 → Int32 → Option (Unit × St)) (σ : St) (a0 : Nat) (px1 : Int32) (px2 : Int32) : Option (Unit × St) :=
  bo 4 σ a0 (rX4_unit σ a0 px1 px2) (fun w1 t2 =>
  lo2 (fun l5 (x3 : Int32) (t4 : St) =>
    if 240 ≤ x3 then
    some ((), t4)
  else
    (gR 4 0 t4 a0).bind fun a6 =>
    bo 8 t4 a6 (fX8_peek t4 a6) (fun x7 t8 =>
    if x7 = 38 then
      (gR 4 0 t8 a0).bind fun a9 =>
      bo 8 t8 a9 (fX8_step t8 a9) (fun w10 t11 =>
      bo 4 t11 a0 (rX4_unit t11 a0 px1 0) (fun w12 t13 =>
      bo 4 t13 a0 (fX4_put t13 a0 38 0) (fun w14 t15 =>
      l5 (x3 + 1) t15)))
    else
      some ((), t8))) FU 0 t2)
def eX4_condition (rX4_unit : St → Nat → Int32 → Int32 → Option (Unit × St)) (rX4_truth : St → Nat → Int32 → Int32 → Option (Unit × St)) (rX4_condition : St → Nat → Int32 → Int32 → Option (Unit × St)) (σ : St) (a0 : Nat) (px1 : Int32) (px2 : Int32) : Option (Unit × St) :=
  bo 4 σ a0 (rX4_truth σ a0 px1 px2) (fun w1 t2 =>
  lo2 (fun l5 (x3 : Int32) (t4 : St) =>
    if 240 ≤ x3 then
    some ((), t4)
  else
    (gR 4 0 t4 a0).bind fun a6 =>
    bo 8 t4 a6 (fX8_peek t4 a6) (fun x7 t8 =>
    if x7 = 124 then
      (gR 4 0 t8 a0).bind fun a9 =>
      bo 8 t8 a9 (fX8_step t8 a9) (fun w10 t11 =>
      bo 4 t11 a0 (rX4_truth t11 a0 px1 0) (fun w12 t13 =>
      bo 4 t13 a0 (fX4_put t13 a0 124 0) (fun w14 t15 =>
      l5 (x3 + 1) t15)))
    else
      some ((), t8))) FU 0 t2)
set_option maxHeartbeats 4000000 in
set_option maxRecDepth 100000 in
theorem hX4_unit (d : Nat) (rX4_unit : St → Nat → Int32 → Int32 → Option (Unit × St)) (rX4_truth : St → Nat → Int32 → Int32 → Option (Unit × St)) (rX4_condition : St → Nat → Int32 → Int32 → Option (Unit × St)) (ihX4_unit : ∀ (σ : St) (a0 : Nat) (px1 : Int32) (px2 : Int32), CE vU (mX4_unit d) [.ref a0, .int px1, .int px2] σ (rX4_unit σ a0 px1 px2)) (ihX4_truth : ∀ (σ : St) (a0 : Nat) (px1 : Int32) (px2 : Int32), CE vU (mX4_truth d) [.ref a0, .int px1, .int px2] σ (rX4_truth σ a0 px1 px2)) (ihX4_condition : ∀ (σ : St) (a0 : Nat) (px1 : Int32) (px2 : Int32), CE vU (mX4_condition d) [.ref a0, .int px1, .int px2] σ (rX4_condition σ a0 px1 px2)) : ∀ (σ : St) (a0 : Nat) (px1 : Int32) (px2 : Int32), CE vU (mX4_unit (d + 1)) [.ref a0, .int px1, .int px2] σ (eX4_unit rX4_unit rX4_truth rX4_condition σ a0 px1 px2) := by
  intro σ a0 px1 px2
  refine CE.ofGEF (lv := [(0, .ref a0), (1, .int px1), (2, .int px2)]) (show plainFor yX4_unit = true by decide +kernel) (Nat.le_of_ble_eq_true rfl) rfl ?_
  unfold eX4_unit
  refine GE.iload_n 2 dX4_unit_0 rfl rfl ?_
  refine GE.jo2 15 (fun (v1 : Int32) (t2 : St) => [(0, .ref a0), (1, .int px1), (2, .int px2)]) (fun (v1 : Int32) (t2 : St) => [.int v1]) (fun (v1 : Int32) (t2 : St) => t2) (fun v1 t2 => ?_) (fun j3 hj3 => ?_)
  · refine GE.istore_n (lv' := [(0, .ref a0), (1, .int px1), (2, .int px2), (3, .int v1)]) dX4_unit_15 rfl (show 3 < 4 by decide) [1, 2, 3, 0] rfl ?_
    refine GE.iload_n 3 dX4_unit_16 rfl rfl ?_
    refine GE.bipush dX4_unit_17 kB_33 ?_
    refine GE.icmp_ne (tgt := 48) dX4_unit_19 (by decide) ?_ ?_
    · refine GE.iload_n 3 dX4_unit_48 rfl rfl ?_
      refine GE.bipush dX4_unit_49 kB_40 ?_
      refine GE.icmp_ne (tgt := 82) dX4_unit_51 (by decide) ?_ ?_
      · refine GE.iload_n 2 dX4_unit_82 rfl rfl ?_
        refine GE.jo1 91 (fun (t4 : St) => [(0, .ref a0), (1, .int px1)]) (fun (t4 : St) => []) (fun (t4 : St) => t4) (fun t4 => ?_) (fun j5 hj5 => ?_)
        · refine GE.aload_n 0 dX4_unit_91 rfl rfl ?_
          refine GE.gR dX4_unit_92 lF_X4_21 (fun a6 => ?_)
          refine GE.callvI [] dX4_unit_95 (lV_X4_31) rfl ⟨rfl, rfl⟩ ⟨(show 1 + 1 ≤ d + 1 + 64 by omega), Nat.le_refl _, Nat.le_refl _, Nat.le_of_ble_eq_true rfl⟩ (gX8_peek t4 a6) (fun x7 t8 => ?_)
          refine GE.istore_n (lv' := [(0, .ref a0), (1, .int px1), (3, .int x7)]) dX4_unit_98 rfl (show 3 < 4 by decide) [1, 2, 0] rfl ?_
          refine GE.iload_n 2 dX4_unit_99 rfl rfl ?_
          refine GE.callsI [.int x7] dX4_unit_100 (lT_X4_62) rfl ⟨rfl, rfl⟩ ⟨(show 1 + 1 ≤ d + 1 + 64 by omega), Nat.le_refl _, Nat.le_refl _, Nat.le_of_ble_eq_true rfl⟩ (gX4_compares t8 x7) (fun x9 t10 => ?_)
          refine GE.if_eq (tgt := 127) dX4_unit_103 (by decide) ?_ ?_
          · refine GE.aload_n 0 dX4_unit_127 rfl rfl ?_
            refine GE.gR dX4_unit_128 lF_X4_21 (fun a11 => ?_)
            refine GE.callvU [] dX4_unit_131 (lV_X4_38) rfl ⟨rfl, rfl⟩ ⟨(show 1 + 1 ≤ d + 1 + 64 by omega), Nat.le_refl _, Nat.le_refl _, Nat.le_of_ble_eq_true rfl⟩ (gX8_fail t10 a11) (fun w12 t13 => ?_)
            exact GE.vret (x := ()) dX4_unit_134 rfl (Nat.le_refl _) (Nat.le_refl _)
          · refine GE.aload_n 0 dX4_unit_106 rfl rfl ?_
            refine GE.gR dX4_unit_107 lF_X4_21 (fun a14 => ?_)
            refine GE.callvU [] dX4_unit_110 (lV_X4_35) rfl ⟨rfl, rfl⟩ ⟨(show 1 + 1 ≤ d + 1 + 64 by omega), Nat.le_refl _, Nat.le_refl _, Nat.le_of_ble_eq_true rfl⟩ (gX8_step t10 a14) (fun w15 t16 => ?_)
            refine GE.aload_n 0 dX4_unit_113 rfl rfl ?_
            refine GE.iload_n 1 dX4_unit_114 rfl rfl ?_
            refine GE.callvU [.int px1] dX4_unit_115 (lV_X4_59 60) rfl ⟨rfl, rfl⟩ ⟨(show 63 + 1 ≤ d + 1 + 64 by omega), Nat.le_refl _, Nat.le_refl _, Nat.le_of_ble_eq_true rfl⟩ (gX4_sum 60 t16 a0 px1) (fun w17 t18 => ?_)
            refine GE.aload_n 0 dX4_unit_118 rfl rfl ?_
            refine GE.iload_n 2 dX4_unit_119 rfl rfl ?_
            refine GE.iconst dX4_unit_120 kI_0 ?_
            refine GE.callvU [.int x7, .int 0] dX4_unit_121 (lV_X4_70) rfl ⟨rfl, rfl⟩ ⟨(show 1 + 1 ≤ d + 1 + 64 by omega), Nat.le_refl _, Nat.le_refl _, Nat.le_of_ble_eq_true rfl⟩ (gX4_put t18 a0 x7 0) (fun w19 t20 => ?_)
            refine GE.goto (tgt := 134) dX4_unit_124 (by decide) ?_
            exact GE.vret (x := ()) dX4_unit_134 rfl (Nat.le_refl _) (Nat.le_refl _)
        · refine GE.if_ne (tgt := 91) dX4_unit_83 (by decide) ?_ ?_
          · exact GE.sub [0, 1] rfl (hj5 t2)
          · refine GE.aload_n 0 dX4_unit_86 rfl rfl ?_
            refine GE.iload_n 1 dX4_unit_87 rfl rfl ?_
            refine GE.callvU [.int px1] dX4_unit_88 (lV_X4_59 60) rfl ⟨rfl, rfl⟩ ⟨(show 63 + 1 ≤ d + 1 + 64 by omega), Nat.le_refl _, Nat.le_refl _, Nat.le_of_ble_eq_true rfl⟩ (gX4_sum 60 t2 a0 px1) (fun w21 t22 => ?_)
            exact GE.sub [0, 1] rfl (hj5 t22)
      · refine GE.aload_n 0 dX4_unit_54 rfl rfl ?_
        refine GE.iload_n 1 dX4_unit_55 rfl rfl ?_
        refine GE.callvI [.int px1] dX4_unit_56 (lV_X4_80) rfl ⟨rfl, rfl⟩ ⟨(show 2 + 1 ≤ d + 1 + 64 by omega), Nat.le_refl _, Nat.le_refl _, Nat.le_of_ble_eq_true rfl⟩ (gX4_enter t2 a0 px1) (fun x23 t24 => ?_)
        refine GE.if_eq (tgt := 134) dX4_unit_59 (by decide) ?_ ?_
        · exact GE.vret (x := ()) dX4_unit_134 rfl (Nat.le_refl _) (Nat.le_refl _)
        · refine GE.aload_n 0 dX4_unit_62 rfl rfl ?_
          refine GE.iload_n 1 dX4_unit_63 rfl rfl ?_
          refine GE.iconst dX4_unit_64 kI_1 ?_
          refine GE.iadd dX4_unit_65 ?_
          refine GE.iconst dX4_unit_66 kI_0 ?_
          refine GE.callvU [.int (px1 + 1), .int 0] dX4_unit_67 (lV_X4_66 d) rfl ⟨rfl, rfl⟩ ⟨Nat.le_refl _, Nat.le_refl _, Nat.le_refl _, Nat.le_of_ble_eq_true rfl⟩ (ihX4_condition t24 a0 (px1 + 1) 0) (fun w25 t26 => ?_)
          refine GE.aload_n 0 dX4_unit_70 rfl rfl ?_
          refine GE.gR dX4_unit_71 lF_X4_21 (fun a27 => ?_)
          refine GE.bipush dX4_unit_74 kB_41 ?_
          refine GE.callvU [.int 41] dX4_unit_76 (lV_X4_55) rfl ⟨rfl, rfl⟩ ⟨(show 2 + 1 ≤ d + 1 + 64 by omega), Nat.le_refl _, Nat.le_refl _, Nat.le_of_ble_eq_true rfl⟩ (gX8_expect t26 a27 41) (fun w28 t29 => ?_)
          refine GE.goto (tgt := 134) dX4_unit_79 (by decide) ?_
          exact GE.vret (x := ()) dX4_unit_134 rfl (Nat.le_refl _) (Nat.le_refl _)
    · refine GE.aload_n 0 dX4_unit_22 rfl rfl ?_
      refine GE.iload_n 1 dX4_unit_23 rfl rfl ?_
      refine GE.callvI [.int px1] dX4_unit_24 (lV_X4_80) rfl ⟨rfl, rfl⟩ ⟨(show 2 + 1 ≤ d + 1 + 64 by omega), Nat.le_refl _, Nat.le_refl _, Nat.le_of_ble_eq_true rfl⟩ (gX4_enter t2 a0 px1) (fun x30 t31 => ?_)
      refine GE.if_eq (tgt := 134) dX4_unit_27 (by decide) ?_ ?_
      · exact GE.vret (x := ()) dX4_unit_134 rfl (Nat.le_refl _) (Nat.le_refl _)
      · refine GE.aload_n 0 dX4_unit_30 rfl rfl ?_
        refine GE.iload_n 1 dX4_unit_31 rfl rfl ?_
        refine GE.iconst dX4_unit_32 kI_1 ?_
        refine GE.iadd dX4_unit_33 ?_
        refine GE.iconst dX4_unit_34 kI_0 ?_
        refine GE.callvU [.int (px1 + 1), .int 0] dX4_unit_35 (lV_X4_77 d) rfl ⟨rfl, rfl⟩ ⟨Nat.le_refl _, Nat.le_refl _, Nat.le_refl _, Nat.le_of_ble_eq_true rfl⟩ (ihX4_unit t31 a0 (px1 + 1) 0) (fun w32 t33 => ?_)
        refine GE.aload_n 0 dX4_unit_38 rfl rfl ?_
        refine GE.bipush dX4_unit_39 kB_33 ?_
        refine GE.iconst dX4_unit_41 kI_0 ?_
        refine GE.callvU [.int 33, .int 0] dX4_unit_42 (lV_X4_70) rfl ⟨rfl, rfl⟩ ⟨(show 1 + 1 ≤ d + 1 + 64 by omega), Nat.le_refl _, Nat.le_refl _, Nat.le_of_ble_eq_true rfl⟩ (gX4_put t33 a0 33 0) (fun w34 t35 => ?_)
        refine GE.goto (tgt := 134) dX4_unit_45 (by decide) ?_
        exact GE.vret (x := ()) dX4_unit_134 rfl (Nat.le_refl _) (Nat.le_refl _)
  · refine GE.if_eq (tgt := 8) dX4_unit_1 (by decide) ?_ ?_
    · refine GE.aload_n 0 dX4_unit_8 rfl rfl ?_
      refine GE.gR dX4_unit_9 lF_X4_21 (fun a36 => ?_)
      refine GE.callvI [] dX4_unit_12 (lV_X4_31) rfl ⟨rfl, rfl⟩ ⟨(show 1 + 1 ≤ d + 1 + 64 by omega), Nat.le_refl _, Nat.le_refl _, Nat.le_of_ble_eq_true rfl⟩ (gX8_peek σ a36) (fun x37 t38 => ?_)
      exact hj3 x37 t38
    · refine GE.iconst dX4_unit_4 kI_m1 ?_
      refine GE.goto (tgt := 15) dX4_unit_5 (by decide) ?_
      exact hj3 ((-1)) σ
set_option maxHeartbeats 4000000 in
set_option maxRecDepth 100000 in
theorem hX4_truth (d : Nat) (rX4_unit : St → Nat → Int32 → Int32 → Option (Unit × St)) (rX4_truth : St → Nat → Int32 → Int32 → Option (Unit × St)) (rX4_condition : St → Nat → Int32 → Int32 → Option (Unit × St)) (ihX4_unit : ∀ (σ : St) (a0 : Nat) (px1 : Int32) (px2 : Int32), CE vU (mX4_unit d) [.ref a0, .int px1, .int px2] σ (rX4_unit σ a0 px1 px2)) (ihX4_truth : ∀ (σ : St) (a0 : Nat) (px1 : Int32) (px2 : Int32), CE vU (mX4_truth d) [.ref a0, .int px1, .int px2] σ (rX4_truth σ a0 px1 px2)) (ihX4_condition : ∀ (σ : St) (a0 : Nat) (px1 : Int32) (px2 : Int32), CE vU (mX4_condition d) [.ref a0, .int px1, .int px2] σ (rX4_condition σ a0 px1 px2)) : ∀ (σ : St) (a0 : Nat) (px1 : Int32) (px2 : Int32), CE vU (mX4_truth (d + 1)) [.ref a0, .int px1, .int px2] σ (eX4_truth rX4_unit rX4_truth rX4_condition σ a0 px1 px2) := by
  intro σ a0 px1 px2
  refine CE.ofGEF (lv := [(0, .ref a0), (1, .int px1), (2, .int px2)]) (show plainFor yX4_truth = true by decide +kernel) (Nat.le_of_ble_eq_true rfl) rfl ?_
  unfold eX4_truth
  refine GE.aload_n 0 dX4_truth_0 rfl rfl ?_
  refine GE.iload_n 1 dX4_truth_1 rfl rfl ?_
  refine GE.iload_n 2 dX4_truth_2 rfl rfl ?_
  refine GE.callvU [.int px1, .int px2] dX4_truth_3 (lV_X4_77 d) rfl ⟨rfl, rfl⟩ ⟨Nat.le_refl _, Nat.le_refl _, Nat.le_refl _, Nat.le_of_ble_eq_true rfl⟩ (ihX4_unit σ a0 px1 px2) (fun w1 t2 => ?_)
  refine GE.iconst dX4_truth_6 kI_0 ?_
  refine GE.istore_n (lv' := [(0, .ref a0), (1, .int px1), (2, .int px2), (3, .int 0)]) dX4_truth_7 rfl (show 3 < 4 by decide) [1, 2, 3, 0] rfl ?_
  refine GE.sub [0, 1, 3] rfl (GE.lo2 (fun (x3 : Int32) (t4 : St) => [(0, .ref a0), (1, .int px1), (3, .int x3)]) (fun (x3 : Int32) (t4 : St) => []) (fun (x3 : Int32) (t4 : St) => t4) (fun l5 hl5 x3 t4 => ?_) FU 0 t2)
  refine GE.iload_n 2 dX4_truth_8 rfl rfl ?_
  refine GE.sipush dX4_truth_9 kS_240 ?_
  refine GE.icmp_ge (tgt := 53) dX4_truth_12 (by decide) ?_ ?_
  · exact GE.vret (x := ()) dX4_truth_53 rfl (Nat.le_refl _) (Nat.le_refl _)
  · refine GE.aload_n 0 dX4_truth_15 rfl rfl ?_
    refine GE.gR dX4_truth_16 lF_X4_21 (fun a6 => ?_)
    refine GE.callvI [] dX4_truth_19 (lV_X4_31) rfl ⟨rfl, rfl⟩ ⟨(show 1 + 1 ≤ d + 1 + 64 by omega), Nat.le_refl _, Nat.le_refl _, Nat.le_of_ble_eq_true rfl⟩ (gX8_peek t4 a6) (fun x7 t8 => ?_)
    refine GE.bipush dX4_truth_22 kB_38 ?_
    refine GE.icmp_ne (tgt := 53) dX4_truth_24 (by decide) ?_ ?_
    · exact GE.vret (x := ()) dX4_truth_53 rfl (Nat.le_refl _) (Nat.le_refl _)
    · refine GE.aload_n 0 dX4_truth_27 rfl rfl ?_
      refine GE.gR dX4_truth_28 lF_X4_21 (fun a9 => ?_)
      refine GE.callvU [] dX4_truth_31 (lV_X4_35) rfl ⟨rfl, rfl⟩ ⟨(show 1 + 1 ≤ d + 1 + 64 by omega), Nat.le_refl _, Nat.le_refl _, Nat.le_of_ble_eq_true rfl⟩ (gX8_step t8 a9) (fun w10 t11 => ?_)
      refine GE.aload_n 0 dX4_truth_34 rfl rfl ?_
      refine GE.iload_n 1 dX4_truth_35 rfl rfl ?_
      refine GE.iconst dX4_truth_36 kI_0 ?_
      refine GE.callvU [.int px1, .int 0] dX4_truth_37 (lV_X4_77 d) rfl ⟨rfl, rfl⟩ ⟨Nat.le_refl _, Nat.le_refl _, Nat.le_refl _, Nat.le_of_ble_eq_true rfl⟩ (ihX4_unit t11 a0 px1 0) (fun w12 t13 => ?_)
      refine GE.aload_n 0 dX4_truth_40 rfl rfl ?_
      refine GE.bipush dX4_truth_41 kB_38 ?_
      refine GE.iconst dX4_truth_43 kI_0 ?_
      refine GE.callvU [.int 38, .int 0] dX4_truth_44 (lV_X4_70) rfl ⟨rfl, rfl⟩ ⟨(show 1 + 1 ≤ d + 1 + 64 by omega), Nat.le_refl _, Nat.le_refl _, Nat.le_of_ble_eq_true rfl⟩ (gX4_put t13 a0 38 0) (fun w14 t15 => ?_)
      refine GE.iinc (lv' := [(0, .ref a0), (1, .int px1), (3, .int (x3 + 1))]) 2 dX4_truth_47 rfl kI_1 (show 3 < 4 by decide) [1, 2, 0] rfl ?_
      refine GE.goto (tgt := 8) dX4_truth_50 (by decide) ?_
      exact hl5 (x3 + 1) t15
set_option maxHeartbeats 4000000 in
set_option maxRecDepth 100000 in
theorem hX4_condition (d : Nat) (rX4_unit : St → Nat → Int32 → Int32 → Option (Unit × St)) (rX4_truth : St → Nat → Int32 → Int32 → Option (Unit × St)) (rX4_condition : St → Nat → Int32 → Int32 → Option (Unit × St)) (ihX4_unit : ∀ (σ : St) (a0 : Nat) (px1 : Int32) (px2 : Int32), CE vU (mX4_unit d) [.ref a0, .int px1, .int px2] σ (rX4_unit σ a0 px1 px2)) (ihX4_truth : ∀ (σ : St) (a0 : Nat) (px1 : Int32) (px2 : Int32), CE vU (mX4_truth d) [.ref a0, .int px1, .int px2] σ (rX4_truth σ a0 px1 px2)) (ihX4_condition : ∀ (σ : St) (a0 : Nat) (px1 : Int32) (px2 : Int32), CE vU (mX4_condition d) [.ref a0, .int px1, .int px2] σ (rX4_condition σ a0 px1 px2)) : ∀ (σ : St) (a0 : Nat) (px1 : Int32) (px2 : Int32), CE vU (mX4_condition (d + 1)) [.ref a0, .int px1, .int px2] σ (eX4_condition rX4_unit rX4_truth rX4_condition σ a0 px1 px2) := by
  intro σ a0 px1 px2
  refine CE.ofGEF (lv := [(0, .ref a0), (1, .int px1), (2, .int px2)]) (show plainFor yX4_condition = true by decide +kernel) (Nat.le_of_ble_eq_true rfl) rfl ?_
  unfold eX4_condition
  refine GE.aload_n 0 dX4_condition_0 rfl rfl ?_
  refine GE.iload_n 1 dX4_condition_1 rfl rfl ?_
  refine GE.iload_n 2 dX4_condition_2 rfl rfl ?_
  refine GE.callvU [.int px1, .int px2] dX4_condition_3 (lV_X4_74 d) rfl ⟨rfl, rfl⟩ ⟨Nat.le_refl _, Nat.le_refl _, Nat.le_refl _, Nat.le_of_ble_eq_true rfl⟩ (ihX4_truth σ a0 px1 px2) (fun w1 t2 => ?_)
  refine GE.iconst dX4_condition_6 kI_0 ?_
  refine GE.istore_n (lv' := [(0, .ref a0), (1, .int px1), (2, .int px2), (3, .int 0)]) dX4_condition_7 rfl (show 3 < 4 by decide) [1, 2, 3, 0] rfl ?_
  refine GE.sub [0, 1, 3] rfl (GE.lo2 (fun (x3 : Int32) (t4 : St) => [(0, .ref a0), (1, .int px1), (3, .int x3)]) (fun (x3 : Int32) (t4 : St) => []) (fun (x3 : Int32) (t4 : St) => t4) (fun l5 hl5 x3 t4 => ?_) FU 0 t2)
  refine GE.iload_n 2 dX4_condition_8 rfl rfl ?_
  refine GE.sipush dX4_condition_9 kS_240 ?_
  refine GE.icmp_ge (tgt := 53) dX4_condition_12 (by decide) ?_ ?_
  · exact GE.vret (x := ()) dX4_condition_53 rfl (Nat.le_refl _) (Nat.le_refl _)
  · refine GE.aload_n 0 dX4_condition_15 rfl rfl ?_
    refine GE.gR dX4_condition_16 lF_X4_21 (fun a6 => ?_)
    refine GE.callvI [] dX4_condition_19 (lV_X4_31) rfl ⟨rfl, rfl⟩ ⟨(show 1 + 1 ≤ d + 1 + 64 by omega), Nat.le_refl _, Nat.le_refl _, Nat.le_of_ble_eq_true rfl⟩ (gX8_peek t4 a6) (fun x7 t8 => ?_)
    refine GE.bipush dX4_condition_22 kB_124 ?_
    refine GE.icmp_ne (tgt := 53) dX4_condition_24 (by decide) ?_ ?_
    · exact GE.vret (x := ()) dX4_condition_53 rfl (Nat.le_refl _) (Nat.le_refl _)
    · refine GE.aload_n 0 dX4_condition_27 rfl rfl ?_
      refine GE.gR dX4_condition_28 lF_X4_21 (fun a9 => ?_)
      refine GE.callvU [] dX4_condition_31 (lV_X4_35) rfl ⟨rfl, rfl⟩ ⟨(show 1 + 1 ≤ d + 1 + 64 by omega), Nat.le_refl _, Nat.le_refl _, Nat.le_of_ble_eq_true rfl⟩ (gX8_step t8 a9) (fun w10 t11 => ?_)
      refine GE.aload_n 0 dX4_condition_34 rfl rfl ?_
      refine GE.iload_n 1 dX4_condition_35 rfl rfl ?_
      refine GE.iconst dX4_condition_36 kI_0 ?_
      refine GE.callvU [.int px1, .int 0] dX4_condition_37 (lV_X4_74 d) rfl ⟨rfl, rfl⟩ ⟨Nat.le_refl _, Nat.le_refl _, Nat.le_refl _, Nat.le_of_ble_eq_true rfl⟩ (ihX4_truth t11 a0 px1 0) (fun w12 t13 => ?_)
      refine GE.aload_n 0 dX4_condition_40 rfl rfl ?_
      refine GE.bipush dX4_condition_41 kB_124 ?_
      refine GE.iconst dX4_condition_43 kI_0 ?_
      refine GE.callvU [.int 124, .int 0] dX4_condition_44 (lV_X4_70) rfl ⟨rfl, rfl⟩ ⟨(show 1 + 1 ≤ d + 1 + 64 by omega), Nat.le_refl _, Nat.le_refl _, Nat.le_of_ble_eq_true rfl⟩ (gX4_put t13 a0 124 0) (fun w14 t15 => ?_)
      refine GE.iinc (lv' := [(0, .ref a0), (1, .int px1), (3, .int (x3 + 1))]) 2 dX4_condition_47 rfl kI_1 (show 3 < 4 by decide) [1, 2, 0] rfl ?_
      refine GE.goto (tgt := 8) dX4_condition_50 (by decide) ?_
      exact hl5 (x3 + 1) t15
def recX4_unit : Nat → (St → Nat → Int32 → Int32 → Option (Unit × St)) × (St → Nat → Int32 → Int32 → Option (Unit × St)) × (St → Nat → Int32 → Int32 → Option (Unit × St))
  | 0 => (fun _ _ _ _ => none, fun _ _ _ _ => none, fun _ _ _ _ => none)
  | d + 1 => (eX4_unit (recX4_unit d).1 (recX4_unit d).2.1 (recX4_unit d).2.2, eX4_truth (recX4_unit d).1 (recX4_unit d).2.1 (recX4_unit d).2.2, eX4_condition (recX4_unit d).1 (recX4_unit d).2.1 (recX4_unit d).2.2)
def fX4_unit (d : Nat) : St → Nat → Int32 → Int32 → Option (Unit × St) := (recX4_unit d).1
def fX4_truth (d : Nat) : St → Nat → Int32 → Int32 → Option (Unit × St) := (recX4_unit d).2.1
def fX4_condition (d : Nat) : St → Nat → Int32 → Int32 → Option (Unit × St) := (recX4_unit d).2.2
theorem allX4_unit : ∀ d : Nat, (∀ (σ : St) (a0 : Nat) (px1 : Int32) (px2 : Int32), CE vU (mX4_unit d) [.ref a0, .int px1, .int px2] σ (fX4_unit d σ a0 px1 px2)) ∧ (∀ (σ : St) (a0 : Nat) (px1 : Int32) (px2 : Int32), CE vU (mX4_truth d) [.ref a0, .int px1, .int px2] σ (fX4_truth d σ a0 px1 px2)) ∧ (∀ (σ : St) (a0 : Nat) (px1 : Int32) (px2 : Int32), CE vU (mX4_condition d) [.ref a0, .int px1, .int px2] σ (fX4_condition d σ a0 px1 px2)) := by
  intro d
  induction d with
  | zero => exact ⟨fun _ _ _ _ => CE.none, fun _ _ _ _ => CE.none, fun _ _ _ _ => CE.none⟩
  | succ d ih => exact ⟨hX4_unit d (recX4_unit d).1 (recX4_unit d).2.1 (recX4_unit d).2.2 ih.1 ih.2.1 ih.2.2, hX4_truth d (recX4_unit d).1 (recX4_unit d).2.1 (recX4_unit d).2.2 ih.1 ih.2.1 ih.2.2, hX4_condition d (recX4_unit d).1 (recX4_unit d).2.1 (recX4_unit d).2.2 ih.1 ih.2.1 ih.2.2⟩
theorem gX4_unit (d : Nat) : ∀ (σ : St) (a0 : Nat) (px1 : Int32) (px2 : Int32), CE vU (mX4_unit d) [.ref a0, .int px1, .int px2] σ (fX4_unit d σ a0 px1 px2) := (allX4_unit d).1
theorem gX4_truth (d : Nat) : ∀ (σ : St) (a0 : Nat) (px1 : Int32) (px2 : Int32), CE vU (mX4_truth d) [.ref a0, .int px1, .int px2] σ (fX4_truth d σ a0 px1 px2) := (allX4_unit d).2.1
theorem gX4_condition (d : Nat) : ∀ (σ : St) (a0 : Nat) (px1 : Int32) (px2 : Int32), CE vU (mX4_condition d) [.ref a0, .int px1, .int px2] σ (fX4_condition d σ a0 px1 px2) := (allX4_unit d).2.2
def fX4_clause (σ : St) (a0 : Nat) : Option (Unit × St) :=
  (gR 4 0 σ a0).bind fun a1 =>
  bo 8 σ a1 (fX8_expect σ a1 121) (fun w2 t3 =>
  (gR 4 0 t3 a0).bind fun a4 =>
  bo 8 t3 a4 (fX8_expect t3 a4 58) (fun w5 t6 =>
  (gR 4 0 t6 a0).bind fun a7 =>
  bo 8 t6 a7 (fX8_peek t6 a7) (fun x8 t9 =>
  jo1 (fun (v10 : Int32) =>
    jo1 (fun (t12 : St) =>
      jo1 (fun (t14 : St) =>
        bo 4 t14 a0 (fX4_put t14 a0 59 0) (fun w16 t17 =>
        some ((), t17))) (fun j15 =>
        jo1 (fun (t18 : St) =>
          bo 4 t18 a0 (fX4_condition 60 t18 a0 0 v10) (fun w20 t21 =>
          (gR 4 0 t21 a0).bind fun a22 =>
          bo 8 t21 a22 (fX8_expect t21 a22 63) (fun w23 t24 =>
          bo 4 t24 a0 (fX4_put t24 a0 63 0) (fun w25 t26 =>
          bo 4 t26 a0 (fX4_sum 60 t26 a0 0) (fun w27 t28 =>
          j15 t28))))) (fun j19 =>
          if v10 = 0 then
            j19 t12
          else
            (gR 4 0 t12 a0).bind fun a29 =>
            bo 8 t12 a29 (fX8_peek t12 a29) (fun x30 t31 =>
            bd (fX4_compares t31 x30) (fun x32 t33 =>
            if x32 = 0 then
              j15 t33
            else
              j19 t33))))) (fun j13 =>
      if v10 = 0 then
        j13 t9
      else
        bo 4 t9 a0 (fX4_sum 60 t9 a0 0) (fun w34 t35 =>
        j13 t35))) (fun j11 =>
    jo1 (fun (u35 : Unit) =>
      j11 0) (fun j36 =>
      if x8 = 33 then
        j36 () 
      else
        if x8 = 40 then
          j36 () 
        else
          j11 1)))))
set_option maxHeartbeats 4000000 in
set_option maxRecDepth 100000 in
theorem gX4_clause (σ : St) (a0 : Nat) : CE vU mX4_clause [.ref a0] σ (fX4_clause σ a0) := by
  refine CE.ofGEF (lv := [(0, .ref a0)]) (by decide +kernel) (Nat.le_of_ble_eq_true rfl) rfl ?_
  unfold fX4_clause
  refine GE.aload_n 0 dX4_clause_0 rfl rfl ?_
  refine GE.gR dX4_clause_1 lF_X4_21 (fun a1 => ?_)
  refine GE.bipush dX4_clause_4 kB_121 ?_
  refine GE.callvU [.int 121] dX4_clause_6 (lV_X4_55) rfl ⟨rfl, rfl⟩ (rokb rfl) (gX8_expect σ a1 121) (fun w2 t3 => ?_)
  refine GE.aload_n 0 dX4_clause_9 rfl rfl ?_
  refine GE.gR dX4_clause_10 lF_X4_21 (fun a4 => ?_)
  refine GE.bipush dX4_clause_13 kB_58 ?_
  refine GE.callvU [.int 58] dX4_clause_15 (lV_X4_55) rfl ⟨rfl, rfl⟩ (rokb rfl) (gX8_expect t3 a4 58) (fun w5 t6 => ?_)
  refine GE.aload_n 0 dX4_clause_18 rfl rfl ?_
  refine GE.gR dX4_clause_19 lF_X4_21 (fun a7 => ?_)
  refine GE.callvI [] dX4_clause_22 (lV_X4_31) rfl ⟨rfl, rfl⟩ (rokb rfl) (gX8_peek t6 a7) (fun x8 t9 => ?_)
  refine GE.istore_n (lv' := [(0, .ref a0), (1, .int x8)]) dX4_clause_25 rfl (by decide) [1, 0] rfl ?_
  refine GE.iload_n 1 dX4_clause_26 rfl rfl ?_
  refine GE.bipush dX4_clause_27 kB_33 ?_
  refine GE.jo1 43 (fun (v10 : Int32) => [(0, .ref a0)]) (fun (v10 : Int32) => [.int v10]) (fun (v10 : Int32) => t9) (fun v10 => ?_) (fun j11 hj11 => ?_)
  · refine GE.istore_n (lv' := [(0, .ref a0), (2, .int v10)]) dX4_clause_43 rfl (by decide) [1, 0] rfl ?_
    refine GE.iload_n 1 dX4_clause_44 rfl rfl ?_
    refine GE.jo1 53 (fun (t12 : St) => [(0, .ref a0), (2, .int v10)]) (fun (t12 : St) => []) (fun (t12 : St) => t12) (fun t12 => ?_) (fun j13 hj13 => ?_)
    · refine GE.iload_n 1 dX4_clause_53 rfl rfl ?_
      refine GE.jo1 97 (fun (t14 : St) => [(0, .ref a0)]) (fun (t14 : St) => []) (fun (t14 : St) => t14) (fun t14 => ?_) (fun j15 hj15 => ?_)
      · refine GE.aload_n 0 dX4_clause_97 rfl rfl ?_
        refine GE.bipush dX4_clause_98 kB_59 ?_
        refine GE.iconst dX4_clause_100 kI_0 ?_
        refine GE.callvU [.int 59, .int 0] dX4_clause_101 (lV_X4_70) rfl ⟨rfl, rfl⟩ (rokb rfl) (gX4_put t14 a0 59 0) (fun w16 t17 => ?_)
        exact GE.vret (x := ()) dX4_clause_104 rfl (Nat.le_refl _) (Nat.le_refl _)
      · refine GE.jo1 70 (fun (t18 : St) => [(0, .ref a0), (2, .int v10)]) (fun (t18 : St) => []) (fun (t18 : St) => t18) (fun t18 => ?_) (fun j19 hj19 => ?_)
        · refine GE.aload_n 0 dX4_clause_70 rfl rfl ?_
          refine GE.iconst dX4_clause_71 kI_0 ?_
          refine GE.iload_n 1 dX4_clause_72 rfl rfl ?_
          refine GE.callvU [.int 0, .int v10] dX4_clause_73 (lV_X4_66 60) rfl ⟨rfl, rfl⟩ (rokb rfl) (gX4_condition 60 t18 a0 0 v10) (fun w20 t21 => ?_)
          refine GE.aload_n 0 dX4_clause_76 rfl rfl ?_
          refine GE.gR dX4_clause_77 lF_X4_21 (fun a22 => ?_)
          refine GE.bipush dX4_clause_80 kB_63 ?_
          refine GE.callvU [.int 63] dX4_clause_82 (lV_X4_55) rfl ⟨rfl, rfl⟩ (rokb rfl) (gX8_expect t21 a22 63) (fun w23 t24 => ?_)
          refine GE.aload_n 0 dX4_clause_85 rfl rfl ?_
          refine GE.bipush dX4_clause_86 kB_63 ?_
          refine GE.iconst dX4_clause_88 kI_0 ?_
          refine GE.callvU [.int 63, .int 0] dX4_clause_89 (lV_X4_70) rfl ⟨rfl, rfl⟩ (rokb rfl) (gX4_put t24 a0 63 0) (fun w25 t26 => ?_)
          refine GE.aload_n 0 dX4_clause_92 rfl rfl ?_
          refine GE.iconst dX4_clause_93 kI_0 ?_
          refine GE.callvU [.int 0] dX4_clause_94 (lV_X4_59 60) rfl ⟨rfl, rfl⟩ (rokb rfl) (gX4_sum 60 t26 a0 0) (fun w27 t28 => ?_)
          exact GE.sub [0] rfl (hj15 t28)
        · refine GE.if_eq (tgt := 70) dX4_clause_54 (by decide) ?_ ?_
          · exact hj19 t12
          · refine GE.aload_n 0 dX4_clause_57 rfl rfl ?_
            refine GE.gR dX4_clause_58 lF_X4_21 (fun a29 => ?_)
            refine GE.callvI [] dX4_clause_61 (lV_X4_31) rfl ⟨rfl, rfl⟩ (rokb rfl) (gX8_peek t12 a29) (fun x30 t31 => ?_)
            refine GE.callsI [.int x30] dX4_clause_64 (lT_X4_62) rfl ⟨rfl, rfl⟩ (rokb rfl) (gX4_compares t31 x30) (fun x32 t33 => ?_)
            refine GE.if_eq (tgt := 97) dX4_clause_67 (by decide) ?_ ?_
            · exact GE.sub [0] rfl (hj15 t33)
            · exact hj19 t33
    · refine GE.if_eq (tgt := 53) dX4_clause_45 (by decide) ?_ ?_
      · exact hj13 t9
      · refine GE.aload_n 0 dX4_clause_48 rfl rfl ?_
        refine GE.iconst dX4_clause_49 kI_0 ?_
        refine GE.callvU [.int 0] dX4_clause_50 (lV_X4_59 60) rfl ⟨rfl, rfl⟩ (rokb rfl) (gX4_sum 60 t9 a0 0) (fun w34 t35 => ?_)
        exact hj13 t35
  · refine GE.jo1 42 (fun (u35 : Unit) => [(0, .ref a0)]) (fun (u35 : Unit) => []) (fun (u35 : Unit) => t9) (fun u35 => ?_) (fun j36 hj36 => ?_)
    · refine GE.iconst dX4_clause_42 kI_0 ?_
      exact hj11 0
    · refine GE.icmp_eq (tgt := 42) dX4_clause_29 (by decide) ?_ ?_
      · exact GE.sub [0] rfl (hj36 () )
      · refine GE.iload_n 1 dX4_clause_32 rfl rfl ?_
        refine GE.bipush dX4_clause_33 kB_40 ?_
        refine GE.icmp_eq (tgt := 42) dX4_clause_35 (by decide) ?_ ?_
        · exact GE.sub [0] rfl (hj36 () )
        · refine GE.iconst dX4_clause_38 kI_1 ?_
          refine GE.goto (tgt := 43) dX4_clause_39 (by decide) ?_
          exact GE.sub [0] rfl (hj11 1)
def fX4_read (σ : St) (a0 : Nat) : Option (Int32 × St) :=
  (gR 4 0 σ a0).bind fun a1 =>
  bo 8 σ a1 (fX8_rewind σ a1) (fun w2 t3 =>
  (pV 4 2 t3 a0 (.int 0)).bind (fun t4 =>
  lo3 (fun l8 (x5 : Int32) (x6 : Int32) (t7 : St) =>
    jo1 (fun (u8 : Unit) =>
    (gR 4 0 t7 a0).bind fun a10 =>
    bo 8 t7 a10 (fX8_peek t7 a10) (fun x11 t12 =>
    jo1 (fun (t13 : St) =>
      (gR 4 0 t13 a0).bind fun a15 =>
      (gI 8 2 t13 a15).bind fun x16 =>
      some (x16, t13)) (fun j14 =>
      if x11 = (-1) then
        j14 t12
      else
        (gR 4 0 t12 a0).bind fun a17 =>
        bo 8 t12 a17 (fX8_fail t12 a17) (fun w18 t19 =>
        j14 t19)))) (fun j9 =>
    if 240 < x6 then
      j9 () 
    else
      if x5 = 0 then
        j9 () 
      else
        bo 4 t7 a0 (fX4_clause t7 a0) (fun w20 t21 =>
        (gR 4 0 t21 a0).bind fun a22 =>
        bo 8 t21 a22 (fX8_peek t21 a22) (fun x23 t24 =>
        jo1 (fun (v25 : Int32) =>
          jo1 (fun (t27 : St) =>
            l8 v25 (x6 + 1) t27) (fun j28 =>
            if v25 = 0 then
              j28 t24
            else
              (gR 4 0 t24 a0).bind fun a29 =>
              bo 8 t24 a29 (fX8_step t24 a29) (fun w30 t31 =>
              j28 t31))) (fun j26 =>
          if x23 = 59 then
            j26 1
          else
            j26 0))))) FU 1 0 t4))
set_option maxHeartbeats 4000000 in
set_option maxRecDepth 100000 in
theorem gX4_read (σ : St) (a0 : Nat) : CE vI mX4_read [.ref a0] σ (fX4_read σ a0) := by
  refine CE.ofGEF (lv := [(0, .ref a0)]) (by decide +kernel) (Nat.le_of_ble_eq_true rfl) rfl ?_
  unfold fX4_read
  refine GE.aload_n 0 dX4_read_0 rfl rfl ?_
  refine GE.gR dX4_read_1 lF_X4_21 (fun a1 => ?_)
  refine GE.callvU [] dX4_read_4 (lV_X4_25) rfl ⟨rfl, rfl⟩ (rokb rfl) (gX8_rewind σ a1) (fun w2 t3 => ?_)
  refine GE.aload_n 0 dX4_read_7 rfl rfl ?_
  refine GE.iconst dX4_read_8 kI_0 ?_
  refine GE.pI dX4_read_9 lF_X4_17 (fun t4 => ?_)
  refine GE.iconst dX4_read_12 kI_1 ?_
  refine GE.istore_n (lv' := [(0, .ref a0), (1, .int 1)]) dX4_read_13 rfl (by decide) [1, 0] rfl ?_
  refine GE.iconst dX4_read_14 kI_0 ?_
  refine GE.istore_n (lv' := [(0, .ref a0), (1, .int 1), (2, .int 0)]) dX4_read_15 rfl (by decide) [1, 2, 0] rfl ?_
  refine (GE.lo3 (fun (x5 : Int32) (x6 : Int32) (t7 : St) => [(0, .ref a0), (1, .int x5), (2, .int x6)]) (fun (x5 : Int32) (x6 : Int32) (t7 : St) => []) (fun (x5 : Int32) (x6 : Int32) (t7 : St) => t7) (fun l8 hl8 x5 x6 t7 => ?_) FU 1 0 t4)
  refine GE.iload_n 2 dX4_read_16 rfl rfl ?_
  refine GE.sipush dX4_read_17 kS_240 ?_
  refine GE.jo1 66 (fun (u8 : Unit) => [(0, .ref a0)]) (fun (u8 : Unit) => []) (fun (u8 : Unit) => t7) (fun u8 => ?_) (fun j9 hj9 => ?_)
  · refine GE.aload_n 0 dX4_read_66 rfl rfl ?_
    refine GE.gR dX4_read_67 lF_X4_21 (fun a10 => ?_)
    refine GE.callvI [] dX4_read_70 (lV_X4_31) rfl ⟨rfl, rfl⟩ (rokb rfl) (gX8_peek t7 a10) (fun x11 t12 => ?_)
    refine GE.iconst dX4_read_73 kI_m1 ?_
    refine GE.jo1 84 (fun (t13 : St) => [(0, .ref a0)]) (fun (t13 : St) => []) (fun (t13 : St) => t13) (fun t13 => ?_) (fun j14 hj14 => ?_)
    · refine GE.aload_n 0 dX4_read_84 rfl rfl ?_
      refine GE.gR dX4_read_85 lF_X4_21 (fun a15 => ?_)
      refine GE.gI dX4_read_88 lF_X4_41 (fun x16 => ?_)
      exact GE.iret dX4_read_91 rfl (Nat.le_refl _) (Nat.le_refl _)
    · refine GE.icmp_eq (tgt := 84) dX4_read_74 (by decide) ?_ ?_
      · exact hj14 t12
      · refine GE.aload_n 0 dX4_read_77 rfl rfl ?_
        refine GE.gR dX4_read_78 lF_X4_21 (fun a17 => ?_)
        refine GE.callvU [] dX4_read_81 (lV_X4_38) rfl ⟨rfl, rfl⟩ (rokb rfl) (gX8_fail t12 a17) (fun w18 t19 => ?_)
        exact hj14 t19
  · refine GE.icmp_gt (tgt := 66) dX4_read_20 (by decide) ?_ ?_
    · exact GE.sub [0] rfl (hj9 () )
    · refine GE.iload_n 1 dX4_read_23 rfl rfl ?_
      refine GE.if_eq (tgt := 66) dX4_read_24 (by decide) ?_ ?_
      · exact GE.sub [0] rfl (hj9 () )
      · refine GE.aload_n 0 dX4_read_27 rfl rfl ?_
        refine GE.callvU [] dX4_read_28 (lV_X4_28) rfl ⟨rfl, rfl⟩ (rokb rfl) (gX4_clause t7 a0) (fun w20 t21 => ?_)
        refine GE.aload_n 0 dX4_read_31 rfl rfl ?_
        refine GE.gR dX4_read_32 lF_X4_21 (fun a22 => ?_)
        refine GE.callvI [] dX4_read_35 (lV_X4_31) rfl ⟨rfl, rfl⟩ (rokb rfl) (gX8_peek t21 a22) (fun x23 t24 => ?_)
        refine GE.bipush dX4_read_38 kB_59 ?_
        refine GE.jo1 48 (fun (v25 : Int32) => [(0, .ref a0), (2, .int x6)]) (fun (v25 : Int32) => [.int v25]) (fun (v25 : Int32) => t24) (fun v25 => ?_) (fun j26 hj26 => ?_)
        · refine GE.istore_n (lv' := [(0, .ref a0), (1, .int v25), (2, .int x6)]) dX4_read_48 rfl (by decide) [1, 0, 2] rfl ?_
          refine GE.iload_n 1 dX4_read_49 rfl rfl ?_
          refine GE.jo1 60 (fun (t27 : St) => [(0, .ref a0), (1, .int v25), (2, .int x6)]) (fun (t27 : St) => []) (fun (t27 : St) => t27) (fun t27 => ?_) (fun j28 hj28 => ?_)
          · refine GE.iinc (lv' := [(0, .ref a0), (1, .int v25), (2, .int (x6 + 1))]) 2 dX4_read_60 rfl kI_1 (by decide) [1, 2, 0] rfl ?_
            refine GE.goto (tgt := 16) dX4_read_63 (by decide) ?_
            exact hl8 v25 (x6 + 1) t27
          · refine GE.if_eq (tgt := 60) dX4_read_50 (by decide) ?_ ?_
            · exact hj28 t24
            · refine GE.aload_n 0 dX4_read_53 rfl rfl ?_
              refine GE.gR dX4_read_54 lF_X4_21 (fun a29 => ?_)
              refine GE.callvU [] dX4_read_57 (lV_X4_35) rfl ⟨rfl, rfl⟩ (rokb rfl) (gX8_step t24 a29) (fun w30 t31 => ?_)
              exact hj28 t31
        · refine GE.icmp_ne (tgt := 47) dX4_read_40 (by decide) ?_ ?_
          · refine GE.iconst dX4_read_47 kI_0 ?_
            exact GE.sub [0, 2] rfl (hj26 0)
          · refine GE.iconst dX4_read_43 kI_1 ?_
            refine GE.goto (tgt := 48) dX4_read_44 (by decide) ?_
            exact GE.sub [0, 2] rfl (hj26 1)
def fX9_fault (σ : St) (a0 : Nat) (px1 : Int32) : Option (Int32 × St) :=
  if px1 = 0 then
    (gR 9 1 σ a0).bind fun a4 =>
    bo 2 σ a4 (fX2_read σ a4) (fun x5 t6 =>
    some (x5, t6))
  else
    if px1 = 1 then
      (gR 9 2 σ a0).bind fun a1 =>
      bo 4 σ a1 (fX4_read σ a1) (fun x2 t3 =>
      some (x2, t3))
    else
      some ((-2), σ)
set_option maxHeartbeats 4000000 in
set_option maxRecDepth 100000 in
theorem gX9_fault (σ : St) (a0 : Nat) (px1 : Int32) : CE vI mX9_fault [.ref a0, .int px1] σ (fX9_fault σ a0 px1) := by
  refine CE.ofGEF (lv := [(0, .ref a0), (1, .int px1)]) (by decide +kernel) (Nat.le_of_ble_eq_true rfl) rfl ?_
  unfold fX9_fault
  refine GE.iload_n 1 dX9_fault_0 rfl rfl ?_
  refine GE.if_ne (tgt := 12) dX9_fault_1 (by decide) ?_ ?_
  · refine GE.iload_n 1 dX9_fault_12 rfl rfl ?_
    refine GE.iconst dX9_fault_13 kI_1 ?_
    refine GE.icmp_ne (tgt := 27) dX9_fault_14 (by decide) ?_ ?_
    · refine GE.bipush dX9_fault_27 kB_m2 ?_
      exact GE.iret dX9_fault_29 rfl (Nat.le_refl _) (Nat.le_refl _)
    · refine GE.aload_n 0 dX9_fault_17 rfl rfl ?_
      refine GE.gR dX9_fault_18 lF_X9_28 (fun a1 => ?_)
      refine GE.callvI [] dX9_fault_21 (lV_X9_112) rfl ⟨rfl, rfl⟩ (rokb rfl) (gX4_read σ a1) (fun x2 t3 => ?_)
      refine GE.goto (tgt := 29) dX9_fault_24 (by decide) ?_
      exact GE.iret dX9_fault_29 rfl (Nat.le_refl _) (Nat.le_refl _)
  · refine GE.aload_n 0 dX9_fault_4 rfl rfl ?_
    refine GE.gR dX9_fault_5 lF_X9_21 (fun a4 => ?_)
    refine GE.callvI [] dX9_fault_8 (lV_X9_108) rfl ⟨rfl, rfl⟩ (rokb rfl) (gX2_read σ a4) (fun x5 t6 => ?_)
    exact GE.iret dX9_fault_11 rfl (Nat.le_refl _) (Nat.le_refl _)
def eX9_partsHid (rX9_partsHid : St → Int64 → Int32 → Int32 → Int32 → Int32 → Option (Int64 × St)) (σ : St) (px0 : Int64) (px2 : Int32) (px3 : Int32) (px4 : Int32) (px5 : Int32) : Option (Int64 × St) :=
  jo1 (fun (u0 : Unit) =>
    if (px5 >>> (px2 &&& 31)) &&& 1 = 1 then
      some (px0, σ)
    else
      some (0, σ)) (fun j1 =>
    if px3 ≤ 0 then
      j1 () 
    else
      if 8 < px3 then
        j1 () 
      else
        if 0 < lg_cmp px0 0 then
          if 100 = 0 then none else
          nam ((px0 * (Int32.toInt64 px4)) / 100 : Int64) (fun x2 =>
          bd (fJ9_min_7cf53 σ 9 (px2 + 1)) (fun x3 t4 =>
          bd (rX9_partsHid t4 x2 x3 (px3 - 1) px4 px5) (fun x5 t6 =>
          bd (fJ9_max_7cf53 t6 0 (px2 - 1)) (fun x7 t8 =>
          bd (rX9_partsHid t8 (px0 - x2) x7 (px3 - 1) px4 px5) (fun x9 t10 =>
          some (x5 + x9, t10))))))
        else
          j1 () )
set_option maxHeartbeats 4000000 in
set_option maxRecDepth 100000 in
theorem hX9_partsHid (d : Nat) (rX9_partsHid : St → Int64 → Int32 → Int32 → Int32 → Int32 → Option (Int64 × St)) (ihX9_partsHid : ∀ (σ : St) (px0 : Int64) (px2 : Int32) (px3 : Int32) (px4 : Int32) (px5 : Int32), CE vL (mX9_partsHid d) [.long px0, .int px2, .int px3, .int px4, .int px5] σ (rX9_partsHid σ px0 px2 px3 px4 px5)) : ∀ (σ : St) (px0 : Int64) (px2 : Int32) (px3 : Int32) (px4 : Int32) (px5 : Int32), CE vL (mX9_partsHid (d + 1)) [.long px0, .int px2, .int px3, .int px4, .int px5] σ (eX9_partsHid rX9_partsHid σ px0 px2 px3 px4 px5) := by
  intro σ px0 px2 px3 px4 px5
  refine CE.ofGEF (lv := [(0, .long px0), (2, .int px2), (3, .int px3), (4, .int px4), (5, .int px5)]) (show plainFor yX9_partsHid = true by decide +kernel) (Nat.le_of_ble_eq_true rfl) rfl ?_
  unfold eX9_partsHid
  refine GE.iload_n 2 dX9_partsHid_0 rfl rfl ?_
  refine GE.jo1 16 (fun (u0 : Unit) => [(0, .long px0), (2, .int px2), (5, .int px5)]) (fun (u0 : Unit) => []) (fun (u0 : Unit) => σ) (fun u0 => ?_) (fun j1 hj1 => ?_)
  · refine GE.iload 2 dX9_partsHid_16 rfl ?_
    refine GE.iload_n 1 dX9_partsHid_18 rfl rfl ?_
    refine GE.ishr dX9_partsHid_19 ?_
    refine GE.iconst dX9_partsHid_20 kI_1 ?_
    refine GE.iand dX9_partsHid_21 ?_
    refine GE.iconst dX9_partsHid_22 kI_1 ?_
    refine GE.icmp_ne (tgt := 30) dX9_partsHid_23 (by decide) ?_ ?_
    · refine GE.lconst dX9_partsHid_30 kL_0 ?_
      exact GE.lret dX9_partsHid_31 rfl (Nat.le_refl _) (Nat.le_refl _)
    · refine GE.lload_n 0 dX9_partsHid_26 rfl rfl ?_
      refine GE.goto (tgt := 31) dX9_partsHid_27 (by decide) ?_
      exact GE.lret dX9_partsHid_31 rfl (Nat.le_refl _) (Nat.le_refl _)
  · refine GE.if_le (tgt := 16) dX9_partsHid_1 (by decide) ?_ ?_
    · exact GE.sub [0, 1, 4] rfl (hj1 () )
    · refine GE.iload_n 2 dX9_partsHid_4 rfl rfl ?_
      refine GE.bipush dX9_partsHid_5 kB_8 ?_
      refine GE.icmp_gt (tgt := 16) dX9_partsHid_7 (by decide) ?_ ?_
      · exact GE.sub [0, 1, 4] rfl (hj1 () )
      · refine GE.lload_n 0 dX9_partsHid_10 rfl rfl ?_
        refine GE.lconst dX9_partsHid_11 kL_0 ?_
        refine GE.lcmp dX9_partsHid_12 ?_
        refine GE.if_gt (tgt := 32) dX9_partsHid_13 (by decide) ?_ ?_
        · refine GE.lload_n 0 dX9_partsHid_32 rfl rfl ?_
          refine GE.iload 3 dX9_partsHid_33 rfl ?_
          refine GE.i2l dX9_partsHid_35 ?_
          refine GE.lmul dX9_partsHid_36 ?_
          refine GE.ldc2 (v := 100) dX9_partsHid_37 lKL_X9_340 ?_
          refine GE.ldiv dX9_partsHid_40 ?_
          refine GE.naml (fun x2 => ?_)
          refine GE.lstore (lv' := [(0, .long px0), (2, .int px2), (3, .int px3), (4, .int px4), (5, .int px5), (6, .long x2)]) dX9_partsHid_41 (show 7 < 8 by decide) [1, 2, 3, 4, 5, 0] rfl ?_
          refine GE.lload 5 dX9_partsHid_43 rfl ?_
          refine GE.bipush dX9_partsHid_45 kB_9 ?_
          refine GE.iload_n 1 dX9_partsHid_47 rfl rfl ?_
          refine GE.iconst dX9_partsHid_48 kI_1 ?_
          refine GE.iadd dX9_partsHid_49 ?_
          refine GE.callsI [.int 9, .int (px2 + 1)] dX9_partsHid_50 (lT_X9_230) rfl ⟨rfl, rfl⟩ ⟨(show 1 + 1 ≤ d + 1 + 2 by omega), Nat.le_refl _, Nat.le_refl _, Nat.le_of_ble_eq_true rfl⟩ (gJ9_min_7cf53 σ 9 (px2 + 1)) (fun x3 t4 => ?_)
          refine GE.iload_n 2 dX9_partsHid_53 rfl rfl ?_
          refine GE.iconst dX9_partsHid_54 kI_1 ?_
          refine GE.isub dX9_partsHid_55 ?_
          refine GE.iload 3 dX9_partsHid_56 rfl ?_
          refine GE.iload 4 dX9_partsHid_58 rfl ?_
          refine GE.callsL [.long x2, .int x3, .int (px3 - 1), .int px4, .int px5] dX9_partsHid_60 (lT_X9_332 d) rfl ⟨rfl, rfl⟩ ⟨Nat.le_refl _, Nat.le_refl _, Nat.le_refl _, Nat.le_of_ble_eq_true rfl⟩ (ihX9_partsHid t4 x2 x3 (px3 - 1) px4 px5) (fun x5 t6 => ?_)
          refine GE.lload_n 0 dX9_partsHid_63 rfl rfl ?_
          refine GE.lload 5 dX9_partsHid_64 rfl ?_
          refine GE.lsub dX9_partsHid_66 ?_
          refine GE.iconst dX9_partsHid_67 kI_0 ?_
          refine GE.iload_n 1 dX9_partsHid_68 rfl rfl ?_
          refine GE.iconst dX9_partsHid_69 kI_1 ?_
          refine GE.isub dX9_partsHid_70 ?_
          refine GE.callsI [.int 0, .int (px2 - 1)] dX9_partsHid_71 (lT_X9_240) rfl ⟨rfl, rfl⟩ ⟨(show 1 + 1 ≤ d + 1 + 2 by omega), Nat.le_refl _, Nat.le_refl _, Nat.le_of_ble_eq_true rfl⟩ (gJ9_max_7cf53 t6 0 (px2 - 1)) (fun x7 t8 => ?_)
          refine GE.iload_n 2 dX9_partsHid_74 rfl rfl ?_
          refine GE.iconst dX9_partsHid_75 kI_1 ?_
          refine GE.isub dX9_partsHid_76 ?_
          refine GE.iload 3 dX9_partsHid_77 rfl ?_
          refine GE.iload 4 dX9_partsHid_79 rfl ?_
          refine GE.callsL [.long (px0 - x2), .int x7, .int (px3 - 1), .int px4, .int px5] dX9_partsHid_81 (lT_X9_332 d) rfl ⟨rfl, rfl⟩ ⟨Nat.le_refl _, Nat.le_refl _, Nat.le_refl _, Nat.le_of_ble_eq_true rfl⟩ (ihX9_partsHid t8 (px0 - x2) x7 (px3 - 1) px4 px5) (fun x9 t10 => ?_)
          refine GE.ladd dX9_partsHid_84 ?_
          exact GE.lret dX9_partsHid_85 rfl (Nat.le_refl _) (Nat.le_refl _)
        · exact GE.sub [0, 1, 4] rfl (hj1 () )
def recX9_partsHid : Nat → (St → Int64 → Int32 → Int32 → Int32 → Int32 → Option (Int64 × St))
  | 0 => (fun _ _ _ _ _ _ => none)
  | d + 1 => (eX9_partsHid (recX9_partsHid d))
def fX9_partsHid (d : Nat) : St → Int64 → Int32 → Int32 → Int32 → Int32 → Option (Int64 × St) := (recX9_partsHid d)
theorem allX9_partsHid : ∀ d : Nat, (∀ (σ : St) (px0 : Int64) (px2 : Int32) (px3 : Int32) (px4 : Int32) (px5 : Int32), CE vL (mX9_partsHid d) [.long px0, .int px2, .int px3, .int px4, .int px5] σ (fX9_partsHid d σ px0 px2 px3 px4 px5)) := by
  intro d
  induction d with
  | zero => exact fun _ _ _ _ _ _ => CE.none
  | succ d ih => exact hX9_partsHid d (recX9_partsHid d) ih
theorem gX9_partsHid (d : Nat) : ∀ (σ : St) (px0 : Int64) (px2 : Int32) (px3 : Int32) (px4 : Int32) (px5 : Int32), CE vL (mX9_partsHid d) [.long px0, .int px2, .int px3, .int px4, .int px5] σ (fX9_partsHid d σ px0 px2 px3 px4 px5) := (allX9_partsHid d)
def fX9_odds (σ : St) (a0 : Nat) (px1 : Int32) (px2 : Int32) (px3 : Int32) : Option (Int32 × St) :=
  (gR 9 8 σ a0).bind fun a1 =>
  bo 7 σ a1 (fX7_hasCell σ a1 px1) (fun x2 t3 =>
  if x2 = 0 then
    some ((-1), t3)
  else
    if px2 < 0 then
      some ((-1), t3)
    else
      if 8 < px2 then
        some ((-1), t3)
      else
        if px3 < 0 then
          some ((-1), t3)
        else
          if px3 ≤ 100 then
            (gR 9 8 t3 a0).bind fun a4 =>
            (gI 7 4 t3 a4).bind fun x5 =>
            bo 9 t3 a0 (fX9_fogsThatHide t3 a0 px1 px2) (fun x6 t7 =>
            bd (fX9_partsHid 12 t7 1000000000 x5 px2 px3 x6) (fun x8 t9 =>
            some (Int64.toInt32 x8, t9)))
          else
            some ((-1), t3))
set_option maxHeartbeats 4000000 in
set_option maxRecDepth 100000 in
theorem gX9_odds (σ : St) (a0 : Nat) (px1 : Int32) (px2 : Int32) (px3 : Int32) : CE vI mX9_odds [.ref a0, .int px1, .int px2, .int px3] σ (fX9_odds σ a0 px1 px2 px3) := by
  refine CE.ofGEF (lv := [(0, .ref a0), (1, .int px1), (2, .int px2), (3, .int px3)]) (by decide +kernel) (Nat.le_of_ble_eq_true rfl) rfl ?_
  unfold fX9_odds
  refine GE.aload_n 0 dX9_odds_0 rfl rfl ?_
  refine GE.gR dX9_odds_1 lF_X9_55 (fun a1 => ?_)
  refine GE.iload_n 1 dX9_odds_4 rfl rfl ?_
  refine GE.callvI [.int px1] dX9_odds_5 (lV_X9_153) rfl ⟨rfl, rfl⟩ (rokb rfl) (gX7_hasCell σ a1 px1) (fun x2 t3 => ?_)
  refine GE.if_eq (tgt := 31) dX9_odds_8 (by decide) ?_ ?_
  · refine GE.iconst dX9_odds_31 kI_m1 ?_
    exact GE.iret dX9_odds_32 rfl (Nat.le_refl _) (Nat.le_refl _)
  · refine GE.iload_n 2 dX9_odds_11 rfl rfl ?_
    refine GE.if_lt (tgt := 31) dX9_odds_12 (by decide) ?_ ?_
    · refine GE.iconst dX9_odds_31 kI_m1 ?_
      exact GE.iret dX9_odds_32 rfl (Nat.le_refl _) (Nat.le_refl _)
    · refine GE.iload_n 2 dX9_odds_15 rfl rfl ?_
      refine GE.bipush dX9_odds_16 kB_8 ?_
      refine GE.icmp_gt (tgt := 31) dX9_odds_18 (by decide) ?_ ?_
      · refine GE.iconst dX9_odds_31 kI_m1 ?_
        exact GE.iret dX9_odds_32 rfl (Nat.le_refl _) (Nat.le_refl _)
      · refine GE.iload_n 3 dX9_odds_21 rfl rfl ?_
        refine GE.if_lt (tgt := 31) dX9_odds_22 (by decide) ?_ ?_
        · refine GE.iconst dX9_odds_31 kI_m1 ?_
          exact GE.iret dX9_odds_32 rfl (Nat.le_refl _) (Nat.le_refl _)
        · refine GE.iload_n 3 dX9_odds_25 rfl rfl ?_
          refine GE.bipush dX9_odds_26 kB_100 ?_
          refine GE.icmp_le (tgt := 33) dX9_odds_28 (by decide) ?_ ?_
          · refine GE.ldc2 (v := 1000000000) dX9_odds_33 lKL_X9_327 ?_
            refine GE.aload_n 0 dX9_odds_36 rfl rfl ?_
            refine GE.gR dX9_odds_37 lF_X9_55 (fun a4 => ?_)
            refine GE.gI dX9_odds_40 lF_X9_150 (fun x5 => ?_)
            refine GE.iload_n 2 dX9_odds_43 rfl rfl ?_
            refine GE.iload_n 3 dX9_odds_44 rfl rfl ?_
            refine GE.aload_n 0 dX9_odds_45 rfl rfl ?_
            refine GE.iload_n 1 dX9_odds_46 rfl rfl ?_
            refine GE.iload_n 2 dX9_odds_47 rfl rfl ?_
            refine GE.callvI [.int px1, .int px2] dX9_odds_48 (lV_X9_329) rfl ⟨rfl, rfl⟩ (rokb rfl) (gX9_fogsThatHide t3 a0 px1 px2) (fun x6 t7 => ?_)
            refine GE.callsL [.long 1000000000, .int x5, .int px2, .int px3, .int x6] dX9_odds_51 (lT_X9_332 12) rfl ⟨rfl, rfl⟩ (rokb rfl) (gX9_partsHid 12 t7 1000000000 x5 px2 px3 x6) (fun x8 t9 => ?_)
            refine GE.l2i dX9_odds_54 ?_
            exact GE.iret dX9_odds_55 rfl (Nat.le_refl _) (Nat.le_refl _)
          · refine GE.iconst dX9_odds_31 kI_m1 ?_
            exact GE.iret dX9_odds_32 rfl (Nat.le_refl _) (Nat.le_refl _)
