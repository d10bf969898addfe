theorem kB_80 : (Int8.ofInt (80)).toInt32 = (80 : Int32) := by decide
theorem kS_700 : (Int16.ofInt (700)).toInt32 = (700 : Int32) := by decide
theorem kS_1720 : (Int16.ofInt (1720)).toInt32 = (1720 : Int32) := by decide
theorem kS_2600 : (Int16.ofInt (2600)).toInt32 = (2600 : Int32) := by decide
def wX8_init (σ : St) (a0 : Nat) (F : St → Prop) : Prop :=
  ∀ q1, nf σ q1 → ∃ t2, pV 8 0 (nw σ q1 (.inl (0, 240, .inl (fun _ => 0)))) a0 (.ref q1) = some t2 ∧ ∃ t3, pV 8 1 t2 a0 (.int 0) = some t3 ∧ ∃ t4, pV 8 2 t3 a0 (.int ((-1))) = some t4 ∧ ∃ t5, pV 8 3 t4 a0 (.int 0) = some t5 ∧ F t5
set_option maxHeartbeats 4000000 in
set_option maxRecDepth 100000 in
theorem gX8_init (σ : St) (a0 : Nat) (F : St → Prop) (h : wX8_init σ a0 F) : CT mX8_init [.ref a0] σ (fun r t => r = vU () ∧ F t) := by
  refine CT.ofAWF (lv := [(0, .ref a0)]) (by decide +kernel) (Nat.le_of_ble_eq_true rfl) rfl ?_
  unfold wX8_init at h
  refine AW.aload_n 0 dX8_init_0 rfl rfl ?_
  refine AW.objInit dX8_init_1 lO_X8_3 lOI lOC (by decide) (Nat.le_of_ble_eq_true rfl) ?_
  refine AW.aload_n 0 dX8_init_4 rfl rfl ?_
  refine AW.sipush dX8_init_5 kS_240 ?_
  refine AW.newI (N := 240) dX8_init_8 lA_int (by decide) (by decide) (by decide) (by decide) (by decide) (fun q1 hq => ?_)
  have h := h q1 hq
  obtain ⟨t2, hp, h⟩ := h
  refine AW.putF dX8_init_10 lF_X8_11 rfl (fun C T N e => by cases e; rfl) rfl rfl hp ?_
  refine AW.aload_n 0 dX8_init_13 rfl rfl ?_
  refine AW.iconst dX8_init_14 kI_0 ?_
  obtain ⟨t3, hp, h⟩ := h
  refine AW.put dX8_init_15 lF_X8_15 rfl rfl hp ?_
  refine AW.aload_n 0 dX8_init_18 rfl rfl ?_
  refine AW.iconst dX8_init_19 kI_m1 ?_
  obtain ⟨t4, hp, h⟩ := h
  refine AW.put dX8_init_20 lF_X8_19 rfl rfl hp ?_
  refine AW.aload_n 0 dX8_init_23 rfl rfl ?_
  refine AW.iconst dX8_init_24 kI_0 ?_
  obtain ⟨t5, hp, h⟩ := h
  refine AW.put dX8_init_25 lF_X8_22 rfl rfl hp ?_
  exact AW.vret (x := ()) dX8_init_28 rfl (by decide) (by decide) ⟨rfl, h⟩
def wX2_init (σ : St) (a0 : Nat) (pa1 : Nat) (F : St → Prop) : Prop :=
  ∀ q1, nf σ q1 → ∃ t2, pV 2 1 (nw σ q1 (.inl (0, 4, .inl (fun _ => 0)))) a0 (.ref q1) = some t2 ∧ ∀ q3, nf t2 q3 → ∃ t4, pV 2 2 (nw t2 q3 (.inl (0, 16, .inl (fun _ => 0)))) a0 (.ref q3) = some t4 ∧ ∀ q5, nf t4 q5 → ∃ t6, pV 2 3 (nw t4 q5 (.inl (0, 30, .inl (fun _ => 0)))) a0 (.ref q5) = some t6 ∧ ∃ t7, pV 2 4 t6 a0 (.int 0) = some t7 ∧ ∃ t8, pV 2 5 t7 a0 (.int 0) = some t8 ∧ ∃ t9, pV 2 6 t8 a0 (.int 0) = some t9 ∧ ∃ t10, pV 2 7 t9 a0 (.int 0) = some t10 ∧ ∃ t11, pV 2 0 t10 a0 (.ref pa1) = some t11 ∧ F t11
set_option maxHeartbeats 4000000 in
set_option maxRecDepth 100000 in
theorem gX2_init (σ : St) (a0 : Nat) (pa1 : Nat) (F : St → Prop) (h : wX2_init σ a0 pa1 F) : CT mX2_init [.ref a0, .ref pa1] σ (fun r t => r = vU () ∧ F t) := by
  refine CT.ofAWF (lv := [(0, .ref a0), (1, .ref pa1)]) (by decide +kernel) (Nat.le_of_ble_eq_true rfl) rfl ?_
  unfold wX2_init at h
  refine AW.aload_n 0 dX2_init_0 rfl rfl ?_
  refine AW.objInit dX2_init_1 lO_X2_3 lOI lOC (by decide) (Nat.le_of_ble_eq_true rfl) ?_
  refine AW.aload_n 0 dX2_init_4 rfl rfl ?_
  refine AW.iconst dX2_init_5 kI_4 ?_
  refine AW.newI (N := 4) dX2_init_6 lA_int (by decide) (by decide) (by decide) (by decide) (by decide) (fun q1 hq => ?_)
  have h := h q1 hq
  obtain ⟨t2, hp, h⟩ := h
  refine AW.putF dX2_init_8 lF_X2_11 rfl (fun C T N e => by cases e; rfl) rfl rfl hp ?_
  refine AW.aload_n 0 dX2_init_11 rfl rfl ?_
  refine AW.bipush dX2_init_12 kB_16 ?_
  refine AW.newI (N := 16) dX2_init_14 lA_int (by decide) (by decide) (by decide) (by decide) (by decide) (fun q3 hq => ?_)
  have h := h q3 hq
  obtain ⟨t4, hp, h⟩ := h
  refine AW.putF dX2_init_16 lF_X2_17 rfl (fun C T N e => by cases e; rfl) rfl rfl hp ?_
  refine AW.aload_n 0 dX2_init_19 rfl rfl ?_
  refine AW.bipush dX2_init_20 kB_30 ?_
  refine AW.newI (N := 30) dX2_init_22 lA_int (by decide) (by decide) (by decide) (by decide) (by decide) (fun q5 hq => ?_)
  have h := h q5 hq
  obtain ⟨t6, hp, h⟩ := h
  refine AW.putF dX2_init_24 lF_X2_20 rfl (fun C T N e => by cases e; rfl) rfl rfl hp ?_
  refine AW.aload_n 0 dX2_init_27 rfl rfl ?_
  refine AW.iconst dX2_init_28 kI_0 ?_
  obtain ⟨t7, hp, h⟩ := h
  refine AW.put dX2_init_29 lF_X2_23 (by decide) (by decide) hp ?_
  refine AW.aload_n 0 dX2_init_32 rfl rfl ?_
  refine AW.iconst dX2_init_33 kI_0 ?_
  obtain ⟨t8, hp, h⟩ := h
  refine AW.put dX2_init_34 lF_X2_27 rfl rfl hp ?_
  refine AW.aload_n 0 dX2_init_37 rfl rfl ?_
  refine AW.iconst dX2_init_38 kI_0 ?_
  obtain ⟨t9, hp, h⟩ := h
  refine AW.put dX2_init_39 lF_X2_31 rfl rfl hp ?_
  refine AW.aload_n 0 dX2_init_42 rfl rfl ?_
  refine AW.iconst dX2_init_43 kI_0 ?_
  obtain ⟨t10, hp, h⟩ := h
  refine AW.put dX2_init_44 lF_X2_34 rfl rfl hp ?_
  refine AW.aload_n 0 dX2_init_47 rfl rfl ?_
  refine AW.aload_n 1 dX2_init_48 rfl rfl ?_
  obtain ⟨t11, hp, h⟩ := h
  refine AW.putF dX2_init_49 lF_X2_37 rfl (fun C T N e => by cases e; rfl) rfl rfl hp ?_
  exact AW.vret (x := ()) dX2_init_52 rfl (by decide) (by decide) ⟨rfl, h⟩
def wX4_init (σ : St) (a0 : Nat) (pa1 : Nat) (F : St → Prop) : Prop :=
  ∀ q1, nf σ q1 → ∃ t2, pV 4 1 (nw σ q1 (.inl (0, 240, .inl (fun _ => 0)))) a0 (.ref q1) = some t2 ∧ ∃ t3, pV 4 2 t2 a0 (.int 0) = some t3 ∧ ∃ t4, pV 4 0 t3 a0 (.ref pa1) = some t4 ∧ F t4
set_option maxHeartbeats 4000000 in
set_option maxRecDepth 100000 in
theorem gX4_init (σ : St) (a0 : Nat) (pa1 : Nat) (F : St → Prop) (h : wX4_init σ a0 pa1 F) : CT mX4_init [.ref a0, .ref pa1] σ (fun r t => r = vU () ∧ F t) := by
  refine CT.ofAWF (lv := [(0, .ref a0), (1, .ref pa1)]) (by decide +kernel) (Nat.le_of_ble_eq_true rfl) rfl ?_
  unfold wX4_init at h
  refine AW.aload_n 0 dX4_init_0 rfl rfl ?_
  refine AW.objInit dX4_init_1 lO_X4_3 lOI lOC (by decide) (Nat.le_of_ble_eq_true rfl) ?_
  refine AW.aload_n 0 dX4_init_4 rfl rfl ?_
  refine AW.sipush dX4_init_5 kS_240 ?_
  refine AW.newI (N := 240) dX4_init_8 lA_int (by decide) (by decide) (by decide) (by decide) (by decide) (fun q1 hq => ?_)
  have h := h q1 hq
  obtain ⟨t2, hp, h⟩ := h
  refine AW.putF dX4_init_10 lF_X4_11 rfl (fun C T N e => by cases e; rfl) rfl rfl hp ?_
  refine AW.aload_n 0 dX4_init_13 rfl rfl ?_
  refine AW.iconst dX4_init_14 kI_0 ?_
  obtain ⟨t3, hp, h⟩ := h
  refine AW.put dX4_init_15 lF_X4_17 rfl rfl hp ?_
  refine AW.aload_n 0 dX4_init_18 rfl rfl ?_
  refine AW.aload_n 1 dX4_init_19 rfl rfl ?_
  obtain ⟨t4, hp, h⟩ := h
  refine AW.putF dX4_init_20 lF_X4_21 rfl (fun C T N e => by cases e; rfl) rfl rfl hp ?_
  exact AW.vret (x := ()) dX4_init_23 rfl (by decide) (by decide) ⟨rfl, h⟩
def wX7_init (σ : St) (a0 : Nat) (F : St → Prop) : Prop :=
  ∃ t1, pV 7 0 σ a0 (.int 1) = some t1 ∧ ∃ t2, pV 7 1 t1 a0 (.int 0) = some t2 ∧ ∃ t3, pV 7 2 t2 a0 (.int 0) = some t3 ∧ ∃ t4, pV 7 3 t3 a0 (.int 0) = some t4 ∧ ∃ t5, pV 7 4 t4 a0 (.int 0) = some t5 ∧ ∃ t6, pV 7 5 t5 a0 (.int 0) = some t6 ∧ ∃ t7, pV 7 6 t6 a0 (.int 0) = some t7 ∧ ∃ t8, pV 7 7 t7 a0 (.int 0) = some t8 ∧ ∃ t9, pV 7 8 t8 a0 (.int 0) = some t9 ∧ ∀ q10, nf t9 q10 → ∃ t11, pV 7 9 (nw t9 q10 (.inl (0, 30, .inl (fun _ => 0)))) a0 (.ref q10) = some t11 ∧ ∀ q12, nf t11 q12 → ∃ t13, pV 7 10 (nw t11 q12 (.inl (0, 4, .inl (fun _ => 0)))) a0 (.ref q12) = some t13 ∧ ∀ q14, nf t13 q14 → ∃ t15, pV 7 11 (nw t13 q14 (.inl (0, 4, .inl (fun _ => 0)))) a0 (.ref q14) = some t15 ∧ ∀ q16, nf t15 q16 → ∃ t17, pV 7 12 (nw t15 q16 (.inl (0, 4, .inl (fun _ => 0)))) a0 (.ref q16) = some t17 ∧ ∀ q18, nf t17 q18 → ∃ t19, pV 7 13 (nw t17 q18 (.inl (0, 6, .inl (fun _ => 0)))) a0 (.ref q18) = some t19 ∧ F t19
set_option maxHeartbeats 4000000 in
set_option maxRecDepth 100000 in
theorem gX7_init (σ : St) (a0 : Nat) (F : St → Prop) (h : wX7_init σ a0 F) : CT mX7_init [.ref a0] σ (fun r t => r = vU () ∧ F t) := by
  refine CT.ofAWF (lv := [(0, .ref a0)]) (by decide +kernel) (Nat.le_of_ble_eq_true rfl) rfl ?_
  unfold wX7_init at h
  refine AW.aload_n 0 dX7_init_0 rfl rfl ?_
  refine AW.objInit dX7_init_1 lO_X7_5 lOI lOC (by decide) (Nat.le_of_ble_eq_true rfl) ?_
  refine AW.aload_n 0 dX7_init_4 rfl rfl ?_
  refine AW.iconst dX7_init_5 kI_1 ?_
  obtain ⟨t1, hp, h⟩ := h
  refine AW.put dX7_init_6 lF_X7_11 rfl rfl hp ?_
  refine AW.aload_n 0 dX7_init_9 rfl rfl ?_
  refine AW.iconst dX7_init_10 kI_0 ?_
  obtain ⟨t2, hp, h⟩ := h
  refine AW.put dX7_init_11 lF_X7_15 rfl rfl hp ?_
  refine AW.aload_n 0 dX7_init_14 rfl rfl ?_
  refine AW.iconst dX7_init_15 kI_0 ?_
  obtain ⟨t3, hp, h⟩ := h
  refine AW.put dX7_init_16 lF_X7_18 rfl rfl hp ?_
  refine AW.aload_n 0 dX7_init_19 rfl rfl ?_
  refine AW.iconst dX7_init_20 kI_0 ?_
  obtain ⟨t4, hp, h⟩ := h
  refine AW.put dX7_init_21 lF_X7_21 rfl rfl hp ?_
  refine AW.aload_n 0 dX7_init_24 rfl rfl ?_
  refine AW.iconst dX7_init_25 kI_0 ?_
  obtain ⟨t5, hp, h⟩ := h
  refine AW.put dX7_init_26 lF_X7_24 rfl rfl hp ?_
  refine AW.aload_n 0 dX7_init_29 rfl rfl ?_
  refine AW.iconst dX7_init_30 kI_0 ?_
  obtain ⟨t6, hp, h⟩ := h
  refine AW.put dX7_init_31 lF_X7_27 rfl rfl hp ?_
  refine AW.aload_n 0 dX7_init_34 rfl rfl ?_
  refine AW.iconst dX7_init_35 kI_0 ?_
  obtain ⟨t7, hp, h⟩ := h
  refine AW.put dX7_init_36 lF_X7_30 rfl rfl hp ?_
  refine AW.aload_n 0 dX7_init_39 rfl rfl ?_
  refine AW.iconst dX7_init_40 kI_0 ?_
  obtain ⟨t8, hp, h⟩ := h
  refine AW.put dX7_init_41 lF_X7_33 rfl rfl hp ?_
  refine AW.aload_n 0 dX7_init_44 rfl rfl ?_
  refine AW.iconst dX7_init_45 kI_0 ?_
  obtain ⟨t9, hp, h⟩ := h
  refine AW.put dX7_init_46 lF_X7_36 rfl rfl hp ?_
  refine AW.aload_n 0 dX7_init_49 rfl rfl ?_
  refine AW.bipush dX7_init_50 kB_30 ?_
  refine AW.newI (N := 30) dX7_init_52 lA_int (by decide) (by decide) (by decide) (by decide) (by decide) (fun q10 hq => ?_)
  have h := h q10 hq
  obtain ⟨t11, hp, h⟩ := h
  refine AW.putF dX7_init_54 lF_X7_39 rfl (fun C T N e => by cases e; rfl) rfl rfl hp ?_
  refine AW.aload_n 0 dX7_init_57 rfl rfl ?_
  refine AW.iconst dX7_init_58 kI_4 ?_
  refine AW.newI (N := 4) dX7_init_59 lA_int (by decide) (by decide) (by decide) (by decide) (by decide) (fun q12 hq => ?_)
  have h := h q12 hq
  obtain ⟨t13, hp, h⟩ := h
  refine AW.putF dX7_init_61 lF_X7_43 rfl (fun C T N e => by cases e; rfl) rfl rfl hp ?_
  refine AW.aload_n 0 dX7_init_64 rfl rfl ?_
  refine AW.iconst dX7_init_65 kI_4 ?_
  refine AW.newI (N := 4) dX7_init_66 lA_int (by decide) (by decide) (by decide) (by decide) (by decide) (fun q14 hq => ?_)
  have h := h q14 hq
  obtain ⟨t15, hp, h⟩ := h
  refine AW.putF dX7_init_68 lF_X7_46 rfl (fun C T N e => by cases e; rfl) rfl rfl hp ?_
  refine AW.aload_n 0 dX7_init_71 rfl rfl ?_
  refine AW.iconst dX7_init_72 kI_4 ?_
  refine AW.newI (N := 4) dX7_init_73 lA_int (by decide) (by decide) (by decide) (by decide) (by decide) (fun q16 hq => ?_)
  have h := h q16 hq
  obtain ⟨t17, hp, h⟩ := h
  refine AW.putF dX7_init_75 lF_X7_49 rfl (fun C T N e => by cases e; rfl) rfl rfl hp ?_
  refine AW.aload_n 0 dX7_init_78 rfl rfl ?_
  refine AW.bipush dX7_init_79 kB_6 ?_
  refine AW.newI (N := 6) dX7_init_81 lA_int (by decide) (by decide) (by decide) (by decide) (by decide) (fun q18 hq => ?_)
  have h := h q18 hq
  obtain ⟨t19, hp, h⟩ := h
  refine AW.putF dX7_init_83 lF_X7_54 rfl (fun C T N e => by cases e; rfl) rfl rfl hp ?_
  exact AW.vret (x := ()) dX7_init_86 rfl (by decide) (by decide) ⟨rfl, h⟩
def wX5_init (σ : St) (a0 : Nat) (F : St → Prop) : Prop :=
  ∀ q1, nf σ q1 → ∃ t2, pV 5 0 (nw σ q1 (.inl (0, 1720, .inl (fun _ => 0)))) a0 (.ref q1) = some t2 ∧ ∃ t3, pV 5 1 t2 a0 (.int 0) = some t3 ∧ ∃ t4, pV 5 2 t3 a0 (.int 0) = some t4 ∧ ∀ q5, nf t4 q5 → ∃ t6, pV 5 3 (nw t4 q5 (.inl (0, 128, .inl (fun _ => 0)))) a0 (.ref q5) = some t6 ∧ ∀ q7, nf t6 q7 → ∃ t8, pV 5 4 (nw t6 q7 (.inl (0, 128, .inl (fun _ => 0)))) a0 (.ref q7) = some t8 ∧ ∀ q9, nf t8 q9 → ∃ t10, pV 5 5 (nw t8 q9 (.inl (0, 43, .inl (fun _ => 0)))) a0 (.ref q9) = some t10 ∧ ∃ t11, pV 5 6 t10 a0 (.int 0) = some t11 ∧ F t11
set_option maxHeartbeats 4000000 in
set_option maxRecDepth 100000 in
theorem gX5_init (σ : St) (a0 : Nat) (F : St → Prop) (h : wX5_init σ a0 F) : CT mX5_init [.ref a0] σ (fun r t => r = vU () ∧ F t) := by
  refine CT.ofAWF (lv := [(0, .ref a0)]) (by decide +kernel) (Nat.le_of_ble_eq_true rfl) rfl ?_
  unfold wX5_init at h
  refine AW.aload_n 0 dX5_init_0 rfl rfl ?_
  refine AW.objInit dX5_init_1 lO_X5_3 lOI lOC (by decide) (Nat.le_of_ble_eq_true rfl) ?_
  refine AW.aload_n 0 dX5_init_4 rfl rfl ?_
  refine AW.sipush dX5_init_5 kS_1720 ?_
  refine AW.newI (N := 1720) dX5_init_8 lA_int (by decide) (by decide) (by decide) (by decide) (by decide) (fun q1 hq => ?_)
  have h := h q1 hq
  obtain ⟨t2, hp, h⟩ := h
  refine AW.putF dX5_init_10 lF_X5_13 rfl (fun C T N e => by cases e; rfl) rfl rfl hp ?_
  refine AW.aload_n 0 dX5_init_13 rfl rfl ?_
  refine AW.iconst dX5_init_14 kI_0 ?_
  obtain ⟨t3, hp, h⟩ := h
  refine AW.put dX5_init_15 lF_X5_17 rfl rfl hp ?_
  refine AW.aload_n 0 dX5_init_18 rfl rfl ?_
  refine AW.iconst dX5_init_19 kI_0 ?_
  obtain ⟨t4, hp, h⟩ := h
  refine AW.put dX5_init_20 lF_X5_21 rfl rfl hp ?_
  refine AW.aload_n 0 dX5_init_23 rfl rfl ?_
  refine AW.sipush dX5_init_24 kS_128 ?_
  refine AW.newI (N := 128) dX5_init_27 lA_int (by decide) (by decide) (by decide) (by decide) (by decide) (fun q5 hq => ?_)
  have h := h q5 hq
  obtain ⟨t6, hp, h⟩ := h
  refine AW.putF dX5_init_29 lF_X5_24 rfl (fun C T N e => by cases e; rfl) rfl rfl hp ?_
  refine AW.aload_n 0 dX5_init_32 rfl rfl ?_
  refine AW.sipush dX5_init_33 kS_128 ?_
  refine AW.newI (N := 128) dX5_init_36 lA_int (by decide) (by decide) (by decide) (by decide) (by decide) (fun q7 hq => ?_)
  have h := h q7 hq
  obtain ⟨t8, hp, h⟩ := h
  refine AW.putF dX5_init_38 lF_X5_27 rfl (fun C T N e => by cases e; rfl) rfl rfl hp ?_
  refine AW.aload_n 0 dX5_init_41 rfl rfl ?_
  refine AW.bipush dX5_init_42 kB_43 ?_
  refine AW.newI (N := 43) dX5_init_44 lA_int (by decide) (by decide) (by decide) (by decide) (by decide) (fun q9 hq => ?_)
  have h := h q9 hq
  obtain ⟨t10, hp, h⟩ := h
  refine AW.putF dX5_init_46 lF_X5_30 rfl (fun C T N e => by cases e; rfl) rfl rfl hp ?_
  refine AW.aload_n 0 dX5_init_49 rfl rfl ?_
  refine AW.iconst dX5_init_50 kI_0 ?_
  obtain ⟨t11, hp, h⟩ := h
  refine AW.put dX5_init_51 lF_X5_33 (by decide) (by decide) hp ?_
  exact AW.vret (x := ()) dX5_init_54 rfl (by decide) (by decide) ⟨rfl, h⟩
def wX1_init (σ : St) (a0 : Nat) (F : St → Prop) : Prop :=
  ∀ q1, nf σ q1 → ∃ t2, pV 1 0 (nw σ q1 (.inl (0, 10, .inl (fun _ => 0)))) a0 (.ref q1) = some t2 ∧ ∀ q3, nf t2 q3 → ∃ t4, pV 1 1 (nw t2 q3 (.inl (0, 10, .inl (fun _ => 0)))) a0 (.ref q3) = some t4 ∧ ∀ q5, nf t4 q5 → ∃ t6, pV 1 2 (nw t4 q5 (.inl (1, 10, .inl (fun _ => 0)))) a0 (.ref q5) = some t6 ∧ ∃ t7, pV 1 3 t6 a0 (.int 0) = some t7 ∧ ∀ q8, nf t7 q8 → ∃ t9, pV 1 4 (nw t7 q8 (.inl (0, 10, .inl (fun _ => 0)))) a0 (.ref q8) = some t9 ∧ ∀ q10, nf t9 q10 → ∃ t11, pV 1 5 (nw t9 q10 (.inl (0, 10, .inl (fun _ => 0)))) a0 (.ref q10) = some t11 ∧ ∃ t12, pV 1 6 t11 a0 (.int 0) = some t12 ∧ F t12
set_option maxHeartbeats 4000000 in
set_option maxRecDepth 100000 in
theorem gX1_init (σ : St) (a0 : Nat) (F : St → Prop) (h : wX1_init σ a0 F) : CT mX1_init [.ref a0] σ (fun r t => r = vU () ∧ F t) := by
  refine CT.ofAWF (lv := [(0, .ref a0)]) (by decide +kernel) (Nat.le_of_ble_eq_true rfl) rfl ?_
  unfold wX1_init at h
  refine AW.aload_n 0 dX1_init_0 rfl rfl ?_
  refine AW.objInit dX1_init_1 lO_X1_3 lOI lOC (by decide) (Nat.le_of_ble_eq_true rfl) ?_
  refine AW.aload_n 0 dX1_init_4 rfl rfl ?_
  refine AW.bipush dX1_init_5 kB_10 ?_
  refine AW.newI (N := 10) dX1_init_7 lA_int (by decide) (by decide) (by decide) (by decide) (by decide) (fun q1 hq => ?_)
  have h := h q1 hq
  obtain ⟨t2, hp, h⟩ := h
  refine AW.putF dX1_init_9 lF_X1_11 rfl (fun C T N e => by cases e; rfl) rfl rfl hp ?_
  refine AW.aload_n 0 dX1_init_12 rfl rfl ?_
  refine AW.bipush dX1_init_13 kB_10 ?_
  refine AW.newI (N := 10) dX1_init_15 lA_int (by decide) (by decide) (by decide) (by decide) (by decide) (fun q3 hq => ?_)
  have h := h q3 hq
  obtain ⟨t4, hp, h⟩ := h
  refine AW.putF dX1_init_17 lF_X1_15 rfl (fun C T N e => by cases e; rfl) rfl rfl hp ?_
  refine AW.aload_n 0 dX1_init_20 rfl rfl ?_
  refine AW.bipush dX1_init_21 kB_10 ?_
  refine AW.newZ (N := 10) dX1_init_23 lA_boolean (by decide) (by decide) (by decide) (by decide) (by decide) (fun q5 hq => ?_)
  have h := h q5 hq
  obtain ⟨t6, hp, h⟩ := h
  refine AW.putF dX1_init_25 lF_X1_18 rfl (fun C T N e => by cases e; rfl) rfl rfl hp ?_
  refine AW.aload_n 0 dX1_init_28 rfl rfl ?_
  refine AW.iconst dX1_init_29 kI_0 ?_
  obtain ⟨t7, hp, h⟩ := h
  refine AW.put dX1_init_30 lF_X1_22 rfl rfl hp ?_
  refine AW.aload_n 0 dX1_init_33 rfl rfl ?_
  refine AW.bipush dX1_init_34 kB_10 ?_
  refine AW.newI (N := 10) dX1_init_36 lA_int (by decide) (by decide) (by decide) (by decide) (by decide) (fun q8 hq => ?_)
  have h := h q8 hq
  obtain ⟨t9, hp, h⟩ := h
  refine AW.putF dX1_init_38 lF_X1_26 rfl (fun C T N e => by cases e; rfl) rfl rfl hp ?_
  refine AW.aload_n 0 dX1_init_41 rfl rfl ?_
  refine AW.bipush dX1_init_42 kB_10 ?_
  refine AW.newI (N := 10) dX1_init_44 lA_int (by decide) (by decide) (by decide) (by decide) (by decide) (fun q10 hq => ?_)
  have h := h q10 hq
  obtain ⟨t11, hp, h⟩ := h
  refine AW.putF dX1_init_46 lF_X1_29 rfl (fun C T N e => by cases e; rfl) rfl rfl hp ?_
  refine AW.aload_n 0 dX1_init_49 rfl rfl ?_
  refine AW.iconst dX1_init_50 kI_0 ?_
  obtain ⟨t12, hp, h⟩ := h
  refine AW.put dX1_init_51 lF_X1_32 rfl rfl hp ?_
  exact AW.vret (x := ()) dX1_init_54 rfl (by decide) (by decide) ⟨rfl, h⟩
def wX6_init (σ : St) (a0 : Nat) (F : St → Prop) : Prop :=
  ∀ q1, nf σ q1 → ∃ t2, pV 6 0 (nw σ q1 (.inl (0, 30, .inl (fun _ => 0)))) a0 (.ref q1) = some t2 ∧ F t2
set_option maxHeartbeats 4000000 in
set_option maxRecDepth 100000 in
theorem gX6_init (σ : St) (a0 : Nat) (F : St → Prop) (h : wX6_init σ a0 F) : CT mX6_init [.ref a0] σ (fun r t => r = vU () ∧ F t) := by
  refine CT.ofAWF (lv := [(0, .ref a0)]) (by decide +kernel) (Nat.le_of_ble_eq_true rfl) rfl ?_
  unfold wX6_init at h
  refine AW.aload_n 0 dX6_init_0 rfl rfl ?_
  refine AW.objInit dX6_init_1 lO_X6_3 lOI lOC (by decide) (Nat.le_of_ble_eq_true rfl) ?_
  refine AW.aload_n 0 dX6_init_4 rfl rfl ?_
  refine AW.bipush dX6_init_5 kB_30 ?_
  refine AW.newI (N := 30) dX6_init_7 lA_int (by decide) (by decide) (by decide) (by decide) (by decide) (fun q1 hq => ?_)
  have h := h q1 hq
  obtain ⟨t2, hp, h⟩ := h
  refine AW.putF dX6_init_9 lF_X6_11 rfl (fun C T N e => by cases e; rfl) rfl rfl hp ?_
  exact AW.vret (x := ()) dX6_init_12 rfl (by decide) (by decide) ⟨rfl, h⟩
def wX0_init (σ : St) (a0 : Nat) (F : St → Prop) : Prop :=
  ∀ q1, nf σ q1 → ∃ t2, pV 0 0 (nw σ q1 (.inl (0, 4, .inl (fun _ => 0)))) a0 (.ref q1) = some t2 ∧ ∀ q3, nf t2 q3 → ∃ t4, pV 0 1 (nw t2 q3 (.inl (0, 4, .inl (fun _ => 0)))) a0 (.ref q3) = some t4 ∧ F t4
set_option maxHeartbeats 4000000 in
set_option maxRecDepth 100000 in
theorem gX0_init (σ : St) (a0 : Nat) (F : St → Prop) (h : wX0_init σ a0 F) : CT mX0_init [.ref a0] σ (fun r t => r = vU () ∧ F t) := by
  refine CT.ofAWF (lv := [(0, .ref a0)]) (by decide +kernel) (Nat.le_of_ble_eq_true rfl) rfl ?_
  unfold wX0_init at h
  refine AW.aload_n 0 dX0_init_0 rfl rfl ?_
  refine AW.objInit dX0_init_1 lO_X0_3 lOI lOC (by decide) (Nat.le_of_ble_eq_true rfl) ?_
  refine AW.aload_n 0 dX0_init_4 rfl rfl ?_
  refine AW.iconst dX0_init_5 kI_4 ?_
  refine AW.newI (N := 4) dX0_init_6 lA_int (by decide) (by decide) (by decide) (by decide) (by decide) (fun q1 hq => ?_)
  have h := h q1 hq
  obtain ⟨t2, hp, h⟩ := h
  refine AW.putF dX0_init_8 lF_X0_11 rfl (fun C T N e => by cases e; rfl) rfl rfl hp ?_
  refine AW.aload_n 0 dX0_init_11 rfl rfl ?_
  refine AW.iconst dX0_init_12 kI_4 ?_
  refine AW.newI (N := 4) dX0_init_13 lA_int (by decide) (by decide) (by decide) (by decide) (by decide) (fun q3 hq => ?_)
  have h := h q3 hq
  obtain ⟨t4, hp, h⟩ := h
  refine AW.putF dX0_init_15 lF_X0_15 rfl (fun C T N e => by cases e; rfl) rfl rfl hp ?_
  exact AW.vret (x := ()) dX0_init_18 rfl (by decide) (by decide) ⟨rfl, h⟩
def wX3_init (σ : St) (a0 : Nat) (pa1 : Nat) (F : St → Prop) : Prop :=
  ∀ q1, nf σ q1 → ∃ t2, pV 3 1 (nw σ q1 (.inl (0, 40, .inl (fun _ => 0)))) a0 (.ref q1) = some t2 ∧ ∃ t3, pV 3 0 t2 a0 (.ref pa1) = some t3 ∧ F t3
set_option maxHeartbeats 4000000 in
set_option maxRecDepth 100000 in
theorem gX3_init (σ : St) (a0 : Nat) (pa1 : Nat) (F : St → Prop) (h : wX3_init σ a0 pa1 F) : CT mX3_init [.ref a0, .ref pa1] σ (fun r t => r = vU () ∧ F t) := by
  refine CT.ofAWF (lv := [(0, .ref a0), (1, .ref pa1)]) (by decide +kernel) (Nat.le_of_ble_eq_true rfl) rfl ?_
  unfold wX3_init at h
  refine AW.aload_n 0 dX3_init_0 rfl rfl ?_
  refine AW.objInit dX3_init_1 lO_X3_3 lOI lOC (by decide) (Nat.le_of_ble_eq_true rfl) ?_
  refine AW.aload_n 0 dX3_init_4 rfl rfl ?_
  refine AW.bipush dX3_init_5 kB_40 ?_
  refine AW.newI (N := 40) dX3_init_7 lA_int (by decide) (by decide) (by decide) (by decide) (by decide) (fun q1 hq => ?_)
  have h := h q1 hq
  obtain ⟨t2, hp, h⟩ := h
  refine AW.putF dX3_init_9 lF_X3_11 rfl (fun C T N e => by cases e; rfl) rfl rfl hp ?_
  refine AW.aload_n 0 dX3_init_12 rfl rfl ?_
  refine AW.aload_n 1 dX3_init_13 rfl rfl ?_
  obtain ⟨t3, hp, h⟩ := h
  refine AW.putF dX3_init_14 lF_X3_15 rfl (fun C T N e => by cases e; rfl) rfl rfl hp ?_
  exact AW.vret (x := ()) dX3_init_17 rfl (by decide) (by decide) ⟨rfl, h⟩
def wJ7_copyOf_59c91 (σ : St) (pa0 : Nat) (px1 : Int32) (F : Nat → St → Prop) : Prop :=
  ∃ x1, aN σ pa0 = some x1 ∧ ((¬ (px1 = x1) → (¬ px1 < 0 ∧ px1.toNatClampNeg ≤ 240) ∧ ∀ q2, nf σ q2 → ∃ x3, aN (nw σ q2 (.inl (0, px1.toNatClampNeg, .inl (fun _ => 0)))) pa0 = some x3 ∧ ∃ x4 t5, fJ9_min_7cf53 (nw σ q2 (.inl (0, px1.toNatClampNeg, .inl (fun _ => 0)))) x3 px1 = some (x4, t5) ∧ ∃ t6, cpr t5 pa0 0 q2 0 x4 = some t6 ∧ F q2 t6) ∧ (px1 = x1 → False))
set_option maxHeartbeats 4000000 in
set_option maxRecDepth 100000 in
theorem gJ7_copyOf_59c91 (σ : St) (pa0 : Nat) (px1 : Int32) (F : Nat → St → Prop) (h : wJ7_copyOf_59c91 σ pa0 px1 F) : CT mJ7_copyOf_59c91 [.ref pa0, .int px1] σ (fun r t => ∃ x, r = vQ (some x) ∧ F x t) := by
  refine CT.ofAWF (lv := [(0, .ref pa0), (1, .int px1)]) (by decide +kernel) (Nat.le_of_ble_eq_true rfl) rfl ?_
  unfold wJ7_copyOf_59c91 at h
  refine AW.iload_n 1 dJ7_copyOf_59c91_0 rfl rfl ?_
  refine AW.aload_n 0 dJ7_copyOf_59c91_1 rfl rfl ?_
  obtain ⟨x1, hp, h⟩ := h
  refine AW.alen dJ7_copyOf_59c91_2 hp ?_
  refine AW.icmp_ne (tgt := 14) dJ7_copyOf_59c91_3 (by decide) (fun hc => ?_) (fun hc => ?_)
  · have h := h.1 hc
    refine AW.iload_n 1 dJ7_copyOf_59c91_14 rfl rfl ?_
    obtain ⟨⟨hz1, hz2⟩, h⟩ := h
    refine AW.newI dJ7_copyOf_59c91_15 lA_int hz1 rfl (by show _ * 4 ≤ _; omega) (by decide) (by show 0 + _ ≤ 240; omega) (fun q2 hq => ?_)
    have h := h q2 hq
    refine AW.widen (k2 := 1) (n2 := 240) (by decide) (by omega) ?_
    refine AW.astore_n (lv' := [(0, .ref pa0), (1, .int px1), (2, .ref q2)]) dJ7_copyOf_59c91_17 rfl (by decide) [1, 2, 0] rfl ?_
    refine AW.aload_n 0 dJ7_copyOf_59c91_18 rfl rfl ?_
    refine AW.iconst dJ7_copyOf_59c91_19 kI_0 ?_
    refine AW.aload_n 2 dJ7_copyOf_59c91_20 rfl rfl ?_
    refine AW.iconst dJ7_copyOf_59c91_21 kI_0 ?_
    refine AW.aload_n 0 dJ7_copyOf_59c91_22 rfl rfl ?_
    obtain ⟨x3, hp, h⟩ := h
    refine AW.alen dJ7_copyOf_59c91_23 hp ?_
    refine AW.iload_n 1 dJ7_copyOf_59c91_24 rfl rfl ?_
    obtain ⟨x4, t5, hp, h⟩ := h
    refine AW.calls (As := [.int x3, .int px1]) (rest := [.int 0, .ref q2, .int 0, .ref pa0]) dJ7_copyOf_59c91_25 (lT_J7_304) rfl (rokb rfl) (gJ9_min_7cf53 (nw σ q2 (.inl (0, px1.toNatClampNeg, .inl (fun _ => 0)))) x3 px1 _ _ hp) (fun r9 t9 h9 ht9 => ?_)
    obtain ⟨rfl, h8⟩ := h9
    rw [h8]
    refine AW.at (st2 := [.int x4, .int 0, .ref q2, .int 0, .ref pa0]) (k2 := 1) (n2 := 240) rfl rfl rfl ?_
    obtain ⟨t6, hp, h⟩ := h
    refine AW.cpr dJ7_copyOf_59c91_28 lC_J7_150 (by decide) (Nat.le_of_ble_eq_true rfl) hp ?_
    refine AW.aload_n 2 dJ7_copyOf_59c91_31 rfl rfl ?_
    exact AW.aretI (x := some q2) dJ7_copyOf_59c91_32 rfl (by decide) (by decide) ⟨_, rfl, h⟩
  · have h := h.2 hc
    exact h.elim
def wX4_made (σ : St) (a0 : Nat) (F : Nat → St → Prop) : Prop :=
  ∀ q1, nf σ q1 → ∃ a2, gR 4 1 (nw σ q1 (.inr (3, [.null, .null]))) a0 = some a2 ∧ ∃ x3, gI 4 2 (nw σ q1 (.inr (3, [.null, .null]))) a0 = some x3 ∧ wJ7_copyOf_59c91 (nw σ q1 (.inr (3, [.null, .null]))) a2 x3 (fun x4 t5 =>
  wX3_init t5 q1 x4 (fun t6 =>
  F q1 t6))
set_option maxHeartbeats 4000000 in
set_option maxRecDepth 100000 in
theorem gX4_made (σ : St) (a0 : Nat) (F : Nat → St → Prop) (h : wX4_made σ a0 F) : CT mX4_made [.ref a0] σ (fun r t => ∃ x, r = vQ (some x) ∧ F x t) := by
  refine CT.ofAWF (lv := [(0, .ref a0)]) (by decide +kernel) (Nat.le_of_ble_eq_true rfl) rfl ?_
  unfold wX4_made at h
  refine AW.new (fs := [.null, .null]) dX4_made_0 clX3 lG_X4_44 lI_X3 lZ_X3 lD_X3 (by decide) (by decide) (fun q1 hq => ?_)
  have h := h q1 hq
  refine AW.dup dX4_made_3 rfl ?_
  refine AW.aload_n 0 dX4_made_4 rfl rfl ?_
  obtain ⟨a2, hp, h⟩ := h
  refine AW.get dX4_made_5 lF_X4_11 (gR_spec hp) ?_
  refine AW.aload_n 0 dX4_made_8 rfl rfl ?_
  obtain ⟨x3, hp, h⟩ := h
  refine AW.get dX4_made_9 lF_X4_17 (gI_spec hp) ?_
  refine AW.calls (As := [.ref a2, .int x3]) (rest := [.ref q1, .ref q1]) dX4_made_12 lT_X4_46 rfl (rokb rfl) (gJ7_copyOf_59c91 (nw σ q1 (.inr (3, [.null, .null]))) a2 x3 _ h) (fun r9 t5 h9 ht9 => ?_)
  obtain ⟨x4, rfl, h⟩ := h9
  refine AW.at (st2 := [.ref x4, .ref q1, .ref q1]) (k2 := 2) (n2 := 242) rfl rfl rfl ?_
  refine AW.calli [.ref x4] dX4_made_15 lV_X4_52 rfl (rokb rfl) (gX3_init t5 q1 x4 _ h) (fun r9 t6 h9 ht9 => ?_)
  obtain ⟨rfl, h⟩ := h9
  refine AW.at (st2 := [.ref q1]) (k2 := 3) (n2 := 282) rfl rfl rfl ?_
  exact AW.aret (x := some q1) dX4_made_18 rfl (by decide) (by decide) ⟨_, rfl, h⟩
def wX9_init (σ : St) (a0 : Nat) (F : St → Prop) : Prop :=
  ∀ q1, nf σ q1 → wX8_init (nw σ q1 (.inr (8, [.null, .int 0, .int 0, .int 0]))) q1 (fun t2 =>
  ∃ t3, pV 9 0 t2 a0 (.ref q1) = some t3 ∧ ∀ q4, nf t3 q4 → ∃ a5, gR 9 0 (nw t3 q4 (.inr (2, [.null, .null, .null, .null, .int 0, .int 0, .int 0, .int 0]))) a0 = some a5 ∧ wX2_init (nw t3 q4 (.inr (2, [.null, .null, .null, .null, .int 0, .int 0, .int 0, .int 0]))) q4 a5 (fun t6 =>
  ∃ t7, pV 9 1 t6 a0 (.ref q4) = some t7 ∧ ∀ q8, nf t7 q8 → ∃ a9, gR 9 0 (nw t7 q8 (.inr (4, [.null, .null, .int 0]))) a0 = some a9 ∧ wX4_init (nw t7 q8 (.inr (4, [.null, .null, .int 0]))) q8 a9 (fun t10 =>
  ∃ t11, pV 9 2 t10 a0 (.ref q8) = some t11 ∧ ∀ q12, nf t11 q12 → ∃ t13, pV 9 3 (nw t11 q12 (.inl (2, 4, .inr (.inr (.inr (.inr (fun _ => none))))))) a0 (.ref q12) = some t13 ∧ ∃ t14, pV 9 4 t13 a0 (.int 0) = some t14 ∧ ∃ t15, pV 9 5 t14 a0 (.int ((-1))) = some t15 ∧ ∃ t16, pV 9 6 t15 a0 (.int 3) = some t16 ∧ ∀ q17, nf t16 q17 → ∃ t18, pV 9 7 (nw t16 q17 (.inl (0, 5, .inl (fun _ => 0)))) a0 (.ref q17) = some t18 ∧ ∀ q19, nf t18 q19 → wX7_init (nw t18 q19 (.inr (7, [.int 0, .int 0, .int 0, .int 0, .int 0, .int 0, .int 0, .int 0, .int 0, .null, .null, .null, .null, .null]))) q19 (fun t20 =>
  ∃ t21, pV 9 8 t20 a0 (.ref q19) = some t21 ∧ ∀ q22, nf t21 q22 → wX7_init (nw t21 q22 (.inr (7, [.int 0, .int 0, .int 0, .int 0, .int 0, .int 0, .int 0, .int 0, .int 0, .null, .null, .null, .null, .null]))) q22 (fun t23 =>
  ∃ t24, pV 9 9 t23 a0 (.ref q22) = some t24 ∧ ∀ q25, nf t24 q25 → wX7_init (nw t24 q25 (.inr (7, [.int 0, .int 0, .int 0, .int 0, .int 0, .int 0, .int 0, .int 0, .int 0, .null, .null, .null, .null, .null]))) q25 (fun t26 =>
  ∃ t27, pV 9 10 t26 a0 (.ref q25) = some t27 ∧ ∀ q28, nf t27 q28 → wX5_init (nw t27 q28 (.inr (5, [.null, .int 0, .int 0, .null, .null, .null, .int 0]))) q28 (fun t29 =>
  ∃ t30, pV 9 11 t29 a0 (.ref q28) = some t30 ∧ ∀ q31, nf t30 q31 → wX1_init (nw t30 q31 (.inr (1, [.null, .null, .null, .int 0, .null, .null, .int 0]))) q31 (fun t32 =>
  ∃ t33, pV 9 12 t32 a0 (.ref q31) = some t33 ∧ ∀ q34, nf t33 q34 → wX6_init (nw t33 q34 (.inr (6, [.null]))) q34 (fun t35 =>
  ∃ t36, pV 9 13 t35 a0 (.ref q34) = some t36 ∧ ∀ q37, nf t36 q37 → wX0_init (nw t36 q37 (.inr (0, [.null, .null]))) q37 (fun t38 =>
  ∃ t39, pV 9 14 t38 a0 (.ref q37) = some t39 ∧ ∃ t40, pV 9 15 t39 a0 (.long 0) = some t40 ∧ F t40))))))))))
set_option maxHeartbeats 4000000 in
set_option maxRecDepth 100000 in
theorem gX9_init (σ : St) (a0 : Nat) (F : St → Prop) (h : wX9_init σ a0 F) : CT mX9_init [.ref a0] σ (fun r t => r = vU () ∧ F t) := by
  refine CT.ofAWF (lv := [(0, .ref a0)]) (by decide +kernel) (Nat.le_of_ble_eq_true rfl) rfl ?_
  unfold wX9_init at h
  refine AW.aload_n 0 dX9_init_0 rfl rfl ?_
  refine AW.objInit dX9_init_1 lO_X9_1 lOI lOC (by decide) (Nat.le_of_ble_eq_true rfl) ?_
  refine AW.aload_n 0 dX9_init_4 rfl rfl ?_
  refine AW.new (fs := [.null, .int 0, .int 0, .int 0]) dX9_init_5 clX8 lG_X9_7 lI_X8 lZ_X8 lD_X8 (by decide) (by decide) (fun q1 hq => ?_)
  have h := h q1 hq
  refine AW.dup dX9_init_8 rfl ?_
  refine AW.calli [] dX9_init_9 lV_X9_9 rfl (rokb rfl) (gX8_init (nw σ q1 (.inr (8, [.null, .int 0, .int 0, .int 0]))) q1 _ h) (fun r9 t2 h9 ht9 => ?_)
  obtain ⟨rfl, h⟩ := h9
  refine AW.at (st2 := [.ref q1, .ref a0]) (k2 := 2) (n2 := 244) rfl rfl rfl ?_
  obtain ⟨t3, hp, h⟩ := h
  refine AW.putF dX9_init_12 lF_X9_10 rfl (fun C T N e => by cases e; rfl) rfl rfl hp ?_
  refine AW.aload_n 0 dX9_init_15 rfl rfl ?_
  refine AW.new (fs := [.null, .null, .null, .null, .int 0, .int 0, .int 0, .int 0]) dX9_init_16 clX2 lG_X9_16 lI_X2 lZ_X2 lD_X2 (by decide) (by decide) (fun q4 hq => ?_)
  have h := h q4 hq
  refine AW.dup dX9_init_19 rfl ?_
  refine AW.aload_n 0 dX9_init_20 rfl rfl ?_
  obtain ⟨a5, hp, h⟩ := h
  refine AW.get dX9_init_21 lF_X9_10 (gR_spec hp) ?_
  refine AW.calli [.ref a5] dX9_init_24 lV_X9_18 rfl (rokb rfl) (gX2_init (nw t3 q4 (.inr (2, [.null, .null, .null, .null, .int 0, .int 0, .int 0, .int 0]))) q4 a5 _ h) (fun r9 t6 h9 ht9 => ?_)
  obtain ⟨rfl, h⟩ := h9
  refine AW.at (st2 := [.ref q4, .ref a0]) (k2 := 6) (n2 := 302) rfl rfl rfl ?_
  obtain ⟨t7, hp, h⟩ := h
  refine AW.putF dX9_init_27 lF_X9_21 rfl (fun C T N e => by cases e; rfl) rfl rfl hp ?_
  refine AW.aload_n 0 dX9_init_30 rfl rfl ?_
  refine AW.new (fs := [.null, .null, .int 0]) dX9_init_31 clX4 lG_X9_25 lI_X4 lZ_X4 lD_X4 (by decide) (by decide) (fun q8 hq => ?_)
  have h := h q8 hq
  refine AW.dup dX9_init_34 rfl ?_
  refine AW.aload_n 0 dX9_init_35 rfl rfl ?_
  obtain ⟨a9, hp, h⟩ := h
  refine AW.get dX9_init_36 lF_X9_10 (gR_spec hp) ?_
  refine AW.calli [.ref a9] dX9_init_39 lV_X9_27 rfl (rokb rfl) (gX4_init (nw t7 q8 (.inr (4, [.null, .null, .int 0]))) q8 a9 _ h) (fun r9 t10 h9 ht9 => ?_)
  obtain ⟨rfl, h⟩ := h9
  refine AW.at (st2 := [.ref q8, .ref a0]) (k2 := 8) (n2 := 545) rfl rfl rfl ?_
  obtain ⟨t11, hp, h⟩ := h
  refine AW.putF dX9_init_42 lF_X9_28 rfl (fun C T N e => by cases e; rfl) rfl rfl hp ?_
  refine AW.aload_n 0 dX9_init_45 rfl rfl ?_
  refine AW.iconst dX9_init_46 kI_4 ?_
  refine AW.newQ (N := 4) dX9_init_47 lG_X9_32 (by decide) (by decide) (by decide) (by decide) (by decide) (fun q12 hq => ?_)
  have h := h q12 hq
  obtain ⟨t13, hp, h⟩ := h
  refine AW.putF dX9_init_50 lF_X9_34 rfl (fun C T N e => by cases e; rfl) rfl rfl hp ?_
  refine AW.aload_n 0 dX9_init_53 rfl rfl ?_
  refine AW.iconst dX9_init_54 kI_0 ?_
  obtain ⟨t14, hp, h⟩ := h
  refine AW.put dX9_init_55 lF_X9_38 rfl rfl hp ?_
  refine AW.aload_n 0 dX9_init_58 rfl rfl ?_
  refine AW.iconst dX9_init_59 kI_m1 ?_
  obtain ⟨t15, hp, h⟩ := h
  refine AW.put dX9_init_60 lF_X9_42 rfl rfl hp ?_
  refine AW.aload_n 0 dX9_init_63 rfl rfl ?_
  refine AW.iconst dX9_init_64 kI_3 ?_
  obtain ⟨t16, hp, h⟩ := h
  refine AW.put dX9_init_65 lF_X9_45 rfl rfl hp ?_
  refine AW.aload_n 0 dX9_init_68 rfl rfl ?_
  refine AW.iconst dX9_init_69 kI_5 ?_
  refine AW.newI (N := 5) dX9_init_70 lA_int (by decide) (by decide) (by decide) (by decide) (by decide) (fun q17 hq => ?_)
  have h := h q17 hq
  obtain ⟨t18, hp, h⟩ := h
  refine AW.putF dX9_init_72 lF_X9_48 rfl (fun C T N e => by cases e; rfl) rfl rfl hp ?_
  refine AW.aload_n 0 dX9_init_75 rfl rfl ?_
  refine AW.new (fs := [.int 0, .int 0, .int 0, .int 0, .int 0, .int 0, .int 0, .int 0, .int 0, .null, .null, .null, .null, .null]) dX9_init_76 clX7 lG_X9_52 lI_X7 lZ_X7 lD_X7 (by decide) (by decide) (fun q19 hq => ?_)
  have h := h q19 hq
  refine AW.dup dX9_init_79 rfl ?_
  refine AW.calli [] dX9_init_80 lV_X9_54 rfl (rokb rfl) (gX7_init (nw t18 q19 (.inr (7, [.int 0, .int 0, .int 0, .int 0, .int 0, .int 0, .int 0, .int 0, .int 0, .null, .null, .null, .null, .null]))) q19 _ h) (fun r9 t20 h9 ht9 => ?_)
  obtain ⟨rfl, h⟩ := h9
  refine AW.at (st2 := [.ref q19, .ref a0]) (k2 := 16) (n2 := 616) rfl rfl rfl ?_
  obtain ⟨t21, hp, h⟩ := h
  refine AW.putF dX9_init_83 lF_X9_55 rfl (fun C T N e => by cases e; rfl) rfl rfl hp ?_
  refine AW.aload_n 0 dX9_init_86 rfl rfl ?_
  refine AW.new (fs := [.int 0, .int 0, .int 0, .int 0, .int 0, .int 0, .int 0, .int 0, .int 0, .null, .null, .null, .null, .null]) dX9_init_87 clX7 lG_X9_52 lI_X7 lZ_X7 lD_X7 (by decide) (by decide) (fun q22 hq => ?_)
  have h := h q22 hq
  refine AW.dup dX9_init_90 rfl ?_
  refine AW.calli [] dX9_init_91 lV_X9_54 rfl (rokb rfl) (gX7_init (nw t21 q22 (.inr (7, [.int 0, .int 0, .int 0, .int 0, .int 0, .int 0, .int 0, .int 0, .int 0, .null, .null, .null, .null, .null]))) q22 _ h) (fun r9 t23 h9 ht9 => ?_)
  obtain ⟨rfl, h⟩ := h9
  refine AW.at (st2 := [.ref q22, .ref a0]) (k2 := 22) (n2 := 678) rfl rfl rfl ?_
  obtain ⟨t24, hp, h⟩ := h
  refine AW.putF dX9_init_94 lF_X9_59 rfl (fun C T N e => by cases e; rfl) rfl rfl hp ?_
  refine AW.aload_n 0 dX9_init_97 rfl rfl ?_
  refine AW.new (fs := [.int 0, .int 0, .int 0, .int 0, .int 0, .int 0, .int 0, .int 0, .int 0, .null, .null, .null, .null, .null]) dX9_init_98 clX7 lG_X9_52 lI_X7 lZ_X7 lD_X7 (by decide) (by decide) (fun q25 hq => ?_)
  have h := h q25 hq
  refine AW.dup dX9_init_101 rfl ?_
  refine AW.calli [] dX9_init_102 lV_X9_54 rfl (rokb rfl) (gX7_init (nw t24 q25 (.inr (7, [.int 0, .int 0, .int 0, .int 0, .int 0, .int 0, .int 0, .int 0, .int 0, .null, .null, .null, .null, .null]))) q25 _ h) (fun r9 t26 h9 ht9 => ?_)
  obtain ⟨rfl, h⟩ := h9
  refine AW.at (st2 := [.ref q25, .ref a0]) (k2 := 28) (n2 := 740) rfl rfl rfl ?_
  obtain ⟨t27, hp, h⟩ := h
  refine AW.putF dX9_init_105 lF_X9_62 rfl (fun C T N e => by cases e; rfl) rfl rfl hp ?_
  refine AW.aload_n 0 dX9_init_108 rfl rfl ?_
  refine AW.new (fs := [.null, .int 0, .int 0, .null, .null, .null, .int 0]) dX9_init_109 clX5 lG_X9_65 lI_X5 lZ_X5 lD_X5 (by decide) (by decide) (fun q28 hq => ?_)
  have h := h q28 hq
  refine AW.dup dX9_init_112 rfl ?_
  refine AW.calli [] dX9_init_113 lV_X9_67 rfl (rokb rfl) (gX5_init (nw t27 q28 (.inr (5, [.null, .int 0, .int 0, .null, .null, .null, .int 0]))) q28 _ h) (fun r9 t29 h9 ht9 => ?_)
  obtain ⟨rfl, h⟩ := h9
  refine AW.at (st2 := [.ref q28, .ref a0]) (k2 := 33) (n2 := 2766) rfl rfl rfl ?_
  obtain ⟨t30, hp, h⟩ := h
  refine AW.putF dX9_init_116 lF_X9_68 rfl (fun C T N e => by cases e; rfl) rfl rfl hp ?_
  refine AW.aload_n 0 dX9_init_119 rfl rfl ?_
  refine AW.new (fs := [.null, .null, .null, .int 0, .null, .null, .int 0]) dX9_init_120 clX1 lG_X9_72 lI_X1 lZ_X1 lD_X1 (by decide) (by decide) (fun q31 hq => ?_)
  have h := h q31 hq
  refine AW.dup dX9_init_123 rfl ?_
  refine AW.calli [] dX9_init_124 lV_X9_74 rfl (rokb rfl) (gX1_init (nw t30 q31 (.inr (1, [.null, .null, .null, .int 0, .null, .null, .int 0]))) q31 _ h) (fun r9 t32 h9 ht9 => ?_)
  obtain ⟨rfl, h⟩ := h9
  refine AW.at (st2 := [.ref q31, .ref a0]) (k2 := 39) (n2 := 2823) rfl rfl rfl ?_
  obtain ⟨t33, hp, h⟩ := h
  refine AW.putF dX9_init_127 lF_X9_75 rfl (fun C T N e => by cases e; rfl) rfl rfl hp ?_
  refine AW.aload_n 0 dX9_init_130 rfl rfl ?_
  refine AW.new (fs := [.null]) dX9_init_131 clX6 lG_X9_79 lI_X6 lZ_X6 lD_X6 (by decide) (by decide) (fun q34 hq => ?_)
  have h := h q34 hq
  refine AW.dup dX9_init_134 rfl ?_
  refine AW.calli [] dX9_init_135 lV_X9_81 rfl (rokb rfl) (gX6_init (nw t33 q34 (.inr (6, [.null]))) q34 _ h) (fun r9 t35 h9 ht9 => ?_)
  obtain ⟨rfl, h⟩ := h9
  refine AW.at (st2 := [.ref q34, .ref a0]) (k2 := 41) (n2 := 2854) rfl rfl rfl ?_
  obtain ⟨t36, hp, h⟩ := h
  refine AW.putF dX9_init_138 lF_X9_82 rfl (fun C T N e => by cases e; rfl) rfl rfl hp ?_
  refine AW.aload_n 0 dX9_init_141 rfl rfl ?_
  refine AW.new (fs := [.null, .null]) dX9_init_142 clX0 lG_X9_86 lI_X0 lZ_X0 lD_X0 (by decide) (by decide) (fun q37 hq => ?_)
  have h := h q37 hq
  refine AW.dup dX9_init_145 rfl ?_
  refine AW.calli [] dX9_init_146 lV_X9_88 rfl (rokb rfl) (gX0_init (nw t36 q37 (.inr (0, [.null, .null]))) q37 _ h) (fun r9 t38 h9 ht9 => ?_)
  obtain ⟨rfl, h⟩ := h9
  refine AW.at (st2 := [.ref q37, .ref a0]) (k2 := 44) (n2 := 2864) rfl rfl rfl ?_
  obtain ⟨t39, hp, h⟩ := h
  refine AW.putF dX9_init_149 lF_X9_89 rfl (fun C T N e => by cases e; rfl) rfl rfl hp ?_
  refine AW.aload_n 0 dX9_init_152 rfl rfl ?_
  refine AW.lconst dX9_init_153 kL_0 ?_
  obtain ⟨t40, hp, h⟩ := h
  refine AW.put dX9_init_154 lF_X9_93 rfl rfl hp ?_
  exact AW.vret (x := ()) dX9_init_157 rfl (by decide) (by decide) ⟨rfl, h⟩
def wX10_init (σ : St) (a0 : Nat) (F : St → Prop) : Prop :=
  ∀ q1, nf σ q1 → ∃ t2, pV 10 1 (nw σ q1 (.inl (0, 240, .inl (fun _ => 0)))) a0 (.ref q1) = some t2 ∧ ∀ q3, nf t2 q3 → ∃ t4, pV 10 6 (nw t2 q3 (.inl (0, 2600, .inl (fun _ => 0)))) a0 (.ref q3) = some t4 ∧ ∀ q5, nf t4 q5 → ∃ t6, pV 10 7 (nw t4 q5 (.inl (0, 2600, .inl (fun _ => 0)))) a0 (.ref q5) = some t6 ∧ ∀ q7, nf t6 q7 → ∃ t8, pV 10 8 (nw t6 q7 (.inl (0, 5, .inl (fun _ => 0)))) a0 (.ref q7) = some t8 ∧ ∀ q9, nf t8 q9 → ∃ t10, pV 10 9 (nw t8 q9 (.inl (0, 5, .inl (fun _ => 0)))) a0 (.ref q9) = some t10 ∧ ∀ q11, nf t10 q11 → ∃ t12, pV 10 10 (nw t10 q11 (.inl (0, 700, .inl (fun _ => 0)))) a0 (.ref q11) = some t12 ∧ ∀ q13, nf t12 q13 → ∃ t14, pV 10 11 (nw t12 q13 (.inl (0, 700, .inl (fun _ => 0)))) a0 (.ref q13) = some t14 ∧ ∀ q15, nf t14 q15 → ∃ t16, pV 10 12 (nw t14 q15 (.inl (0, 700, .inl (fun _ => 0)))) a0 (.ref q15) = some t16 ∧ ∀ q17, nf t16 q17 → ∃ t18, pV 10 15 (nw t16 q17 (.inl (0, 6, .inl (fun _ => 0)))) a0 (.ref q17) = some t18 ∧ ∀ q19, nf t18 q19 → ∃ t20, pV 10 16 (nw t18 q19 (.inl (0, 80, .inl (fun _ => 0)))) a0 (.ref q19) = some t20 ∧ ∀ q21, nf t20 q21 → ∃ t22, pV 10 17 (nw t20 q21 (.inl (0, 4, .inl (fun _ => 0)))) a0 (.ref q21) = some t22 ∧ ∀ q23, nf t22 q23 → ∃ t24, pV 10 18 (nw t22 q23 (.inl (0, 30, .inl (fun _ => 0)))) a0 (.ref q23) = some t24 ∧ ∀ q25, nf t24 q25 → ∃ t26, pV 10 19 (nw t24 q25 (.inl (0, 5, .inl (fun _ => 0)))) a0 (.ref q25) = some t26 ∧ ∀ q27, nf t26 q27 → ∃ t28, pV 10 20 (nw t26 q27 (.inl (0, 16, .inl (fun _ => 0)))) a0 (.ref q27) = some t28 ∧ ∀ q29, nf t28 q29 → ∃ t30, pV 10 23 (nw t28 q29 (.inl (0, 4, .inl (fun _ => 0)))) a0 (.ref q29) = some t30 ∧ ∀ q31, nf t30 q31 → ∃ t32, pV 10 24 (nw t30 q31 (.inl (0, 30, .inl (fun _ => 0)))) a0 (.ref q31) = some t32 ∧ ∀ q33, nf t32 q33 → ∃ t34, pV 10 25 (nw t32 q33 (.inl (0, 16, .inl (fun _ => 0)))) a0 (.ref q33) = some t34 ∧ ∀ q35, nf t34 q35 → ∃ t36, pV 10 28 (nw t34 q35 (.inl (0, 223, .inl (fun _ => 0)))) a0 (.ref q35) = some t36 ∧ ∀ q37, nf t36 q37 → ∃ t38, pV 10 29 (nw t36 q37 (.inl (0, 5, .inl (fun _ => 0)))) a0 (.ref q37) = some t38 ∧ ∃ t39, pV 10 30 t38 a0 (.int ((-1))) = some t39 ∧ ∃ t40, pV 10 31 t39 a0 (.int 3) = some t40 ∧ ∀ q41, nf t40 q41 → ∃ t42, pV 10 32 (nw t40 q41 (.inl (0, 8920, .inl (fun _ => 0)))) a0 (.ref q41) = some t42 ∧ ∀ q43, nf t42 q43 → ∃ t44, pV 10 35 (nw t42 q43 (.inl (0, 30, .inl (fun _ => 0)))) a0 (.ref q43) = some t44 ∧ ∀ q45, nf t44 q45 → ∃ t46, pV 10 36 (nw t44 q45 (.inl (0, 30, .inl (fun _ => 0)))) a0 (.ref q45) = some t46 ∧ ∀ q47, nf t46 q47 → ∃ t48, pV 10 37 (nw t46 q47 (.inl (0, 10, .inl (fun _ => 0)))) a0 (.ref q47) = some t48 ∧ ∀ q49, nf t48 q49 → ∃ t50, pV 10 38 (nw t48 q49 (.inl (0, 10, .inl (fun _ => 0)))) a0 (.ref q49) = some t50 ∧ ∀ q51, nf t50 q51 → ∃ t52, pV 10 39 (nw t50 q51 (.inl (1, 10, .inl (fun _ => 0)))) a0 (.ref q51) = some t52 ∧ ∀ q53, nf t52 q53 → ∃ t54, pV 10 41 (nw t52 q53 (.inl (0, 10, .inl (fun _ => 0)))) a0 (.ref q53) = some t54 ∧ ∀ q55, nf t54 q55 → ∃ t56, pV 10 42 (nw t54 q55 (.inl (0, 10, .inl (fun _ => 0)))) a0 (.ref q55) = some t56 ∧ ∀ q57, nf t56 q57 → ∃ t58, pV 10 44 (nw t56 q57 (.inl (0, 223, .inl (fun _ => 0)))) a0 (.ref q57) = some t58 ∧ F t58
set_option maxHeartbeats 4000000 in
set_option maxRecDepth 100000 in
theorem gX10_init (σ : St) (a0 : Nat) (F : St → Prop) (h : wX10_init σ a0 F) : CT mX10_init [.ref a0] σ (fun r t => r = vU () ∧ F t) := by
  refine CT.ofAWF (lv := [(0, .ref a0)]) (by decide +kernel) (Nat.le_of_ble_eq_true rfl) rfl ?_
  unfold wX10_init at h
  refine AW.aload_n 0 dX10_init_0 rfl rfl ?_
  refine AW.objInit dX10_init_1 lO_X10_3 lOI lOC (by decide) (Nat.le_of_ble_eq_true rfl) ?_
  refine AW.aload_n 0 dX10_init_4 rfl rfl ?_
  refine AW.sipush dX10_init_5 kS_240 ?_
  refine AW.newI (N := 240) dX10_init_8 lA_int (by decide) (by decide) (by decide) (by decide) (by decide) (fun q1 hq => ?_)
  have h := h q1 hq
  obtain ⟨t2, hp, h⟩ := h
  refine AW.putF dX10_init_10 lF_X10_9 rfl (fun C T N e => by cases e; rfl) rfl rfl hp ?_
  refine AW.aload_n 0 dX10_init_13 rfl rfl ?_
  refine AW.sipush dX10_init_14 kS_2600 ?_
  refine AW.newI (N := 2600) dX10_init_17 lA_int (by decide) (by decide) (by decide) (by decide) (by decide) (fun q3 hq => ?_)
  have h := h q3 hq
  obtain ⟨t4, hp, h⟩ := h
  refine AW.putF dX10_init_19 lF_X10_13 rfl (fun C T N e => by cases e; rfl) rfl rfl hp ?_
  refine AW.aload_n 0 dX10_init_22 rfl rfl ?_
  refine AW.sipush dX10_init_23 kS_2600 ?_
  refine AW.newI (N := 2600) dX10_init_26 lA_int (by decide) (by decide) (by decide) (by decide) (by decide) (fun q5 hq => ?_)
  have h := h q5 hq
  obtain ⟨t6, hp, h⟩ := h
  refine AW.putF dX10_init_28 lF_X10_16 rfl (fun C T N e => by cases e; rfl) rfl rfl hp ?_
  refine AW.aload_n 0 dX10_init_31 rfl rfl ?_
  refine AW.iconst dX10_init_32 kI_5 ?_
  refine AW.newI (N := 5) dX10_init_33 lA_int (by decide) (by decide) (by decide) (by decide) (by decide) (fun q7 hq => ?_)
  have h := h q7 hq
  obtain ⟨t8, hp, h⟩ := h
  refine AW.putF dX10_init_35 lF_X10_19 rfl (fun C T N e => by cases e; rfl) rfl rfl hp ?_
  refine AW.aload_n 0 dX10_init_38 rfl rfl ?_
  refine AW.iconst dX10_init_39 kI_5 ?_
  refine AW.newI (N := 5) dX10_init_40 lA_int (by decide) (by decide) (by decide) (by decide) (by decide) (fun q9 hq => ?_)
  have h := h q9 hq
  obtain ⟨t10, hp, h⟩ := h
  refine AW.putF dX10_init_42 lF_X10_22 rfl (fun C T N e => by cases e; rfl) rfl rfl hp ?_
  refine AW.aload_n 0 dX10_init_45 rfl rfl ?_
  refine AW.sipush dX10_init_46 kS_700 ?_
  refine AW.newI (N := 700) dX10_init_49 lA_int (by decide) (by decide) (by decide) (by decide) (by decide) (fun q11 hq => ?_)
  have h := h q11 hq
  obtain ⟨t12, hp, h⟩ := h
  refine AW.putF dX10_init_51 lF_X10_25 rfl (fun C T N e => by cases e; rfl) rfl rfl hp ?_
  refine AW.aload_n 0 dX10_init_54 rfl rfl ?_
  refine AW.sipush dX10_init_55 kS_700 ?_
  refine AW.newI (N := 700) dX10_init_58 lA_int (by decide) (by decide) (by decide) (by decide) (by decide) (fun q13 hq => ?_)
  have h := h q13 hq
  obtain ⟨t14, hp, h⟩ := h
  refine AW.putF dX10_init_60 lF_X10_28 rfl (fun C T N e => by cases e; rfl) rfl rfl hp ?_
  refine AW.aload_n 0 dX10_init_63 rfl rfl ?_
  refine AW.sipush dX10_init_64 kS_700 ?_
  refine AW.newI (N := 700) dX10_init_67 lA_int (by decide) (by decide) (by decide) (by decide) (by decide) (fun q15 hq => ?_)
  have h := h q15 hq
  obtain ⟨t16, hp, h⟩ := h
  refine AW.putF dX10_init_69 lF_X10_31 rfl (fun C T N e => by cases e; rfl) rfl rfl hp ?_
  refine AW.aload_n 0 dX10_init_72 rfl rfl ?_
  refine AW.bipush dX10_init_73 kB_6 ?_
  refine AW.newI (N := 6) dX10_init_75 lA_int (by decide) (by decide) (by decide) (by decide) (by decide) (fun q17 hq => ?_)
  have h := h q17 hq
  obtain ⟨t18, hp, h⟩ := h
  refine AW.putF dX10_init_77 lF_X10_34 rfl (fun C T N e => by cases e; rfl) rfl rfl hp ?_
  refine AW.aload_n 0 dX10_init_80 rfl rfl ?_
  refine AW.bipush dX10_init_81 kB_80 ?_
  refine AW.newI (N := 80) dX10_init_83 lA_int (by decide) (by decide) (by decide) (by decide) (by decide) (fun q19 hq => ?_)
  have h := h q19 hq
  obtain ⟨t20, hp, h⟩ := h
  refine AW.putF dX10_init_85 lF_X10_37 rfl (fun C T N e => by cases e; rfl) rfl rfl hp ?_
  refine AW.aload_n 0 dX10_init_88 rfl rfl ?_
  refine AW.iconst dX10_init_89 kI_4 ?_
  refine AW.newI (N := 4) dX10_init_90 lA_int (by decide) (by decide) (by decide) (by decide) (by decide) (fun q21 hq => ?_)
  have h := h q21 hq
  obtain ⟨t22, hp, h⟩ := h
  refine AW.putF dX10_init_92 lF_X10_40 rfl (fun C T N e => by cases e; rfl) rfl rfl hp ?_
  refine AW.aload_n 0 dX10_init_95 rfl rfl ?_
  refine AW.bipush dX10_init_96 kB_30 ?_
  refine AW.newI (N := 30) dX10_init_98 lA_int (by decide) (by decide) (by decide) (by decide) (by decide) (fun q23 hq => ?_)
  have h := h q23 hq
  obtain ⟨t24, hp, h⟩ := h
  refine AW.putF dX10_init_100 lF_X10_43 rfl (fun C T N e => by cases e; rfl) rfl rfl hp ?_
  refine AW.aload_n 0 dX10_init_103 rfl rfl ?_
  refine AW.iconst dX10_init_104 kI_5 ?_
  refine AW.newI (N := 5) dX10_init_105 lA_int (by decide) (by decide) (by decide) (by decide) (by decide) (fun q25 hq => ?_)
  have h := h q25 hq
  obtain ⟨t26, hp, h⟩ := h
  refine AW.putF dX10_init_107 lF_X10_46 rfl (fun C T N e => by cases e; rfl) rfl rfl hp ?_
  refine AW.aload_n 0 dX10_init_110 rfl rfl ?_
  refine AW.bipush dX10_init_111 kB_16 ?_
  refine AW.newI (N := 16) dX10_init_113 lA_int (by decide) (by decide) (by decide) (by decide) (by decide) (fun q27 hq => ?_)
  have h := h q27 hq
  obtain ⟨t28, hp, h⟩ := h
  refine AW.putF dX10_init_115 lF_X10_49 rfl (fun C T N e => by cases e; rfl) rfl rfl hp ?_
  refine AW.aload_n 0 dX10_init_118 rfl rfl ?_
  refine AW.iconst dX10_init_119 kI_4 ?_
  refine AW.newI (N := 4) dX10_init_120 lA_int (by decide) (by decide) (by decide) (by decide) (by decide) (fun q29 hq => ?_)
  have h := h q29 hq
  obtain ⟨t30, hp, h⟩ := h
  refine AW.putF dX10_init_122 lF_X10_52 rfl (fun C T N e => by cases e; rfl) rfl rfl hp ?_
  refine AW.aload_n 0 dX10_init_125 rfl rfl ?_
  refine AW.bipush dX10_init_126 kB_30 ?_
  refine AW.newI (N := 30) dX10_init_128 lA_int (by decide) (by decide) (by decide) (by decide) (by decide) (fun q31 hq => ?_)
  have h := h q31 hq
  obtain ⟨t32, hp, h⟩ := h
  refine AW.putF dX10_init_130 lF_X10_55 rfl (fun C T N e => by cases e; rfl) rfl rfl hp ?_
  refine AW.aload_n 0 dX10_init_133 rfl rfl ?_
  refine AW.bipush dX10_init_134 kB_16 ?_
  refine AW.newI (N := 16) dX10_init_136 lA_int (by decide) (by decide) (by decide) (by decide) (by decide) (fun q33 hq => ?_)
  have h := h q33 hq
  obtain ⟨t34, hp, h⟩ := h
  refine AW.putF dX10_init_138 lF_X10_58 rfl (fun C T N e => by cases e; rfl) rfl rfl hp ?_
  refine AW.aload_n 0 dX10_init_141 rfl rfl ?_
  refine AW.sipush dX10_init_142 kS_223 ?_
  refine AW.newI (N := 223) dX10_init_145 lA_int (by decide) (by decide) (by decide) (by decide) (by decide) (fun q35 hq => ?_)
  have h := h q35 hq
  obtain ⟨t36, hp, h⟩ := h
  refine AW.putF dX10_init_147 lF_X10_61 rfl (fun C T N e => by cases e; rfl) rfl rfl hp ?_
  refine AW.aload_n 0 dX10_init_150 rfl rfl ?_
  refine AW.iconst dX10_init_151 kI_5 ?_
  refine AW.newI (N := 5) dX10_init_152 lA_int (by decide) (by decide) (by decide) (by decide) (by decide) (fun q37 hq => ?_)
  have h := h q37 hq
  obtain ⟨t38, hp, h⟩ := h
  refine AW.putF dX10_init_154 lF_X10_64 rfl (fun C T N e => by cases e; rfl) rfl rfl hp ?_
  refine AW.aload_n 0 dX10_init_157 rfl rfl ?_
  refine AW.iconst dX10_init_158 kI_m1 ?_
  obtain ⟨t39, hp, h⟩ := h
  refine AW.put dX10_init_159 lF_X10_67 rfl rfl hp ?_
  refine AW.aload_n 0 dX10_init_162 rfl rfl ?_
  refine AW.iconst dX10_init_163 kI_3 ?_
  obtain ⟨t40, hp, h⟩ := h
  refine AW.put dX10_init_164 lF_X10_71 rfl rfl hp ?_
  refine AW.aload_n 0 dX10_init_167 rfl rfl ?_
  refine AW.sipush dX10_init_168 kS_8920 ?_
  refine AW.newI (N := 8920) dX10_init_171 lA_int (by decide) (by decide) (by decide) (by decide) (by decide) (fun q41 hq => ?_)
  have h := h q41 hq
  obtain ⟨t42, hp, h⟩ := h
  refine AW.putF dX10_init_173 lF_X10_74 rfl (fun C T N e => by cases e; rfl) rfl rfl hp ?_
  refine AW.aload_n 0 dX10_init_176 rfl rfl ?_
  refine AW.bipush dX10_init_177 kB_30 ?_
  refine AW.newI (N := 30) dX10_init_179 lA_int (by decide) (by decide) (by decide) (by decide) (by decide) (fun q43 hq => ?_)
  have h := h q43 hq
  obtain ⟨t44, hp, h⟩ := h
  refine AW.putF dX10_init_181 lF_X10_77 rfl (fun C T N e => by cases e; rfl) rfl rfl hp ?_
  refine AW.aload_n 0 dX10_init_184 rfl rfl ?_
  refine AW.bipush dX10_init_185 kB_30 ?_
  refine AW.newI (N := 30) dX10_init_187 lA_int (by decide) (by decide) (by decide) (by decide) (by decide) (fun q45 hq => ?_)
  have h := h q45 hq
  obtain ⟨t46, hp, h⟩ := h
  refine AW.putF dX10_init_189 lF_X10_80 rfl (fun C T N e => by cases e; rfl) rfl rfl hp ?_
  refine AW.aload_n 0 dX10_init_192 rfl rfl ?_
  refine AW.bipush dX10_init_193 kB_10 ?_
  refine AW.newI (N := 10) dX10_init_195 lA_int (by decide) (by decide) (by decide) (by decide) (by decide) (fun q47 hq => ?_)
  have h := h q47 hq
  obtain ⟨t48, hp, h⟩ := h
  refine AW.putF dX10_init_197 lF_X10_83 rfl (fun C T N e => by cases e; rfl) rfl rfl hp ?_
  refine AW.aload_n 0 dX10_init_200 rfl rfl ?_
  refine AW.bipush dX10_init_201 kB_10 ?_
  refine AW.newI (N := 10) dX10_init_203 lA_int (by decide) (by decide) (by decide) (by decide) (by decide) (fun q49 hq => ?_)
  have h := h q49 hq
  obtain ⟨t50, hp, h⟩ := h
  refine AW.putF dX10_init_205 lF_X10_86 rfl (fun C T N e => by cases e; rfl) rfl rfl hp ?_
  refine AW.aload_n 0 dX10_init_208 rfl rfl ?_
  refine AW.bipush dX10_init_209 kB_10 ?_
  refine AW.newZ (N := 10) dX10_init_211 lA_boolean (by decide) (by decide) (by decide) (by decide) (by decide) (fun q51 hq => ?_)
  have h := h q51 hq
  obtain ⟨t52, hp, h⟩ := h
  refine AW.putF dX10_init_213 lF_X10_89 rfl (fun C T N e => by cases e; rfl) rfl rfl hp ?_
  refine AW.aload_n 0 dX10_init_216 rfl rfl ?_
  refine AW.bipush dX10_init_217 kB_10 ?_
  refine AW.newI (N := 10) dX10_init_219 lA_int (by decide) (by decide) (by decide) (by decide) (by decide) (fun q53 hq => ?_)
  have h := h q53 hq
  obtain ⟨t54, hp, h⟩ := h
  refine AW.putF dX10_init_221 lF_X10_93 rfl (fun C T N e => by cases e; rfl) rfl rfl hp ?_
  refine AW.aload_n 0 dX10_init_224 rfl rfl ?_
  refine AW.bipush dX10_init_225 kB_10 ?_
  refine AW.newI (N := 10) dX10_init_227 lA_int (by decide) (by decide) (by decide) (by decide) (by decide) (fun q55 hq => ?_)
  have h := h q55 hq
  obtain ⟨t56, hp, h⟩ := h
  refine AW.putF dX10_init_229 lF_X10_96 rfl (fun C T N e => by cases e; rfl) rfl rfl hp ?_
  refine AW.aload_n 0 dX10_init_232 rfl rfl ?_
  refine AW.sipush dX10_init_233 kS_223 ?_
  refine AW.newI (N := 223) dX10_init_236 lA_int (by decide) (by decide) (by decide) (by decide) (by decide) (fun q57 hq => ?_)
  have h := h q57 hq
  obtain ⟨t58, hp, h⟩ := h
  refine AW.putF dX10_init_238 lF_X10_99 rfl (fun C T N e => by cases e; rfl) rfl rfl hp ?_
  exact AW.vret (x := ()) dX10_init_241 rfl (by decide) (by decide) ⟨rfl, h⟩
def wX9_takeLaw (σ : St) (a0 : Nat) (F : Int32 → St → Prop) : Prop :=
  ∃ x1, gI 9 4 σ a0 = some x1 ∧ ((4 ≤ x1 → F ((-1)) σ) ∧ (¬ (4 ≤ x1) → ∃ a2, gR 9 2 σ a0 = some a2 ∧ isO 4 σ a2 = true ∧ ∃ x3 t4, fX4_read σ a2 = some (x3, t4) ∧ ((x3 = (-1) → ∃ a5, gR 9 3 t4 a0 = some a5 ∧ ∃ x6, gI 9 4 t4 a0 = some x6 ∧ ∃ a7, gR 9 2 t4 a0 = some a7 ∧ isO 4 t4 a7 = true ∧ wX4_made t4 a7 (fun x8 t9 =>
      ∃ t10, sQ t9 a5 x6 x8 = some t10 ∧ ∃ x11, gI 9 4 t10 a0 = some x11 ∧ ∃ t12, pV 9 4 t10 a0 (.int (x11 + 1)) = some t12 ∧ ∃ a13, gR 9 0 t12 a0 = some a13 ∧ ∃ t14, pV 8 1 t12 a13 (.int 0) = some t14 ∧ ∃ x15, gI 9 4 t14 a0 = some x15 ∧ F (x15 - 1) t14)) ∧ (¬ (x3 = (-1)) → F ((-1)) t4))))
set_option maxHeartbeats 4000000 in
set_option maxRecDepth 100000 in
theorem gX9_takeLaw (σ : St) (a0 : Nat) (F : Int32 → St → Prop) (h : wX9_takeLaw σ a0 F) : CT mX9_takeLaw [.ref a0] σ (fun r t => ∃ x, r = vI x ∧ F x t) := by
  refine CT.ofAWF (lv := [(0, .ref a0)]) (by decide +kernel) (Nat.le_of_ble_eq_true rfl) rfl ?_
  unfold wX9_takeLaw at h
  refine AW.aload_n 0 dX9_takeLaw_0 rfl rfl ?_
  obtain ⟨x1, hp, h⟩ := h
  refine AW.get dX9_takeLaw_1 lF_X9_38 (gI_spec hp) ?_
  refine AW.iconst dX9_takeLaw_4 kI_4 ?_
  refine AW.icmp_ge (tgt := 19) dX9_takeLaw_5 (by decide) (fun hc => ?_) (fun hc => ?_)
  · have h := h.1 hc
    refine AW.iconst dX9_takeLaw_19 kI_m1 ?_
    exact AW.iret dX9_takeLaw_20 rfl (by decide) (by decide) ⟨_, rfl, h⟩
  · have h := h.2 hc
    refine AW.aload_n 0 dX9_takeLaw_8 rfl rfl ?_
    obtain ⟨a2, hp, h⟩ := h
    refine AW.get dX9_takeLaw_9 lF_X9_28 (gR_spec hp) ?_
    obtain ⟨hO, h⟩ := h
    obtain ⟨x3, t4, hp, h⟩ := h
    refine AW.callv (As := []) (rest := []) dX9_takeLaw_12 (lV_X9_112) rfl (rokb rfl) hO (gX4_read σ a2 _ _ hp) (fun r9 t9 h9 ht9 => ?_)
    obtain ⟨rfl, h8⟩ := h9
    rw [h8]
    refine AW.at (st2 := [.int x3]) (k2 := 0) (n2 := 0) rfl rfl rfl ?_
    refine AW.iconst dX9_takeLaw_15 kI_m1 ?_
    refine AW.icmp_eq (tgt := 21) dX9_takeLaw_16 (by decide) (fun hc => ?_) (fun hc => ?_)
    · have h := h.1 hc
      refine AW.aload_n 0 dX9_takeLaw_21 rfl rfl ?_
      obtain ⟨a5, hp, h⟩ := h
      refine AW.get dX9_takeLaw_22 lF_X9_34 (gR_spec hp) ?_
      refine AW.aload_n 0 dX9_takeLaw_25 rfl rfl ?_
      obtain ⟨x6, hp, h⟩ := h
      refine AW.get dX9_takeLaw_26 lF_X9_38 (gI_spec hp) ?_
      refine AW.aload_n 0 dX9_takeLaw_29 rfl rfl ?_
      obtain ⟨a7, hp, h⟩ := h
      refine AW.get dX9_takeLaw_30 lF_X9_28 (gR_spec hp) ?_
      obtain ⟨hO, h⟩ := h
      refine AW.callv (As := []) (rest := [.int x6, .ref a5]) dX9_takeLaw_33 lV_X9_133 rfl (rokb rfl) hO (gX4_made t4 a7 _ h) (fun r9 t9 h9 ht9 => ?_)
      obtain ⟨x8, rfl, h⟩ := h9
      refine AW.at (st2 := [.ref x8, .int x6, .ref a5]) (k2 := 3) (n2 := 282) rfl rfl rfl ?_
      obtain ⟨t10, hp, h⟩ := h
      refine AW.aast dX9_takeLaw_36 hp ?_
      refine AW.aload_n 0 dX9_takeLaw_37 rfl rfl ?_
      refine AW.dup dX9_takeLaw_38 rfl ?_
      obtain ⟨x11, hp, h⟩ := h
      refine AW.get dX9_takeLaw_39 lF_X9_38 (gI_spec hp) ?_
      refine AW.iconst dX9_takeLaw_42 kI_1 ?_
      refine AW.iadd dX9_takeLaw_43 ?_
      obtain ⟨t12, hp, h⟩ := h
      refine AW.put dX9_takeLaw_44 lF_X9_38 rfl rfl hp ?_
      refine AW.aload_n 0 dX9_takeLaw_47 rfl rfl ?_
      obtain ⟨a13, hp, h⟩ := h
      refine AW.get dX9_takeLaw_48 lF_X9_10 (gR_spec hp) ?_
      refine AW.iconst dX9_takeLaw_51 kI_0 ?_
      obtain ⟨t14, hp, h⟩ := h
      refine AW.put dX9_takeLaw_52 lF_X9_101 rfl rfl hp ?_
      refine AW.aload_n 0 dX9_takeLaw_55 rfl rfl ?_
      obtain ⟨x15, hp, h⟩ := h
      refine AW.get dX9_takeLaw_56 lF_X9_38 (gI_spec hp) ?_
      refine AW.iconst dX9_takeLaw_59 kI_1 ?_
      refine AW.isub dX9_takeLaw_60 ?_
      exact AW.iret dX9_takeLaw_61 rfl (by decide) (by decide) ⟨_, rfl, h⟩
    · have h := h.2 hc
      refine AW.iconst dX9_takeLaw_19 kI_m1 ?_
      exact AW.iret dX9_takeLaw_20 rfl (by decide) (by decide) ⟨_, rfl, h⟩
def wX9_text (σ : St) (a0 : Nat) (px1 : Int32) (F : Int32 → St → Prop) : Prop :=
  ((¬ (px1 = 0) → ((¬ (px1 = 1) → F ((-1)) σ) ∧ (px1 = 1 → isO 9 σ a0 = true ∧ wX9_takeLaw σ a0 (fun x1 t2 =>
      F x1 t2)))) ∧ (px1 = 0 → isO 9 σ a0 = true ∧ ∃ x3 t4, fX9_takeLand σ a0 = some (x3, t4) ∧ F x3 t4))
set_option maxHeartbeats 4000000 in
set_option maxRecDepth 100000 in
theorem gX9_text (σ : St) (a0 : Nat) (px1 : Int32) (F : Int32 → St → Prop) (h : wX9_text σ a0 px1 F) : CT mX9_text [.ref a0, .int px1] σ (fun r t => ∃ x, r = vI x ∧ F x t) := by
  refine CT.ofAWF (lv := [(0, .ref a0), (1, .int px1)]) (by decide +kernel) (Nat.le_of_ble_eq_true rfl) rfl ?_
  unfold wX9_text at h
  refine AW.iload_n 1 dX9_text_0 rfl rfl ?_
  refine AW.if_ne (tgt := 9) dX9_text_1 (by decide) (fun hc => ?_) (fun hc => ?_)
  · have h := h.1 hc
    refine AW.iload_n 1 dX9_text_9 rfl rfl ?_
    refine AW.iconst dX9_text_10 kI_1 ?_
    refine AW.icmp_ne (tgt := 21) dX9_text_11 (by decide) (fun hc => ?_) (fun hc => ?_)
    · have h := h.1 hc
      refine AW.iconst dX9_text_21 kI_m1 ?_
      exact AW.iret dX9_text_22 rfl (by decide) (by decide) ⟨_, rfl, h⟩
    · have h := h.2 hc
      refine AW.aload_n 0 dX9_text_14 rfl rfl ?_
      obtain ⟨hO, h⟩ := h
      refine AW.callv (As := []) (rest := []) dX9_text_15 lV_X9_116 rfl (rokb rfl) hO (gX9_takeLaw σ a0 _ h) (fun r9 t2 h9 ht9 => ?_)
      obtain ⟨x1, rfl, h⟩ := h9
      refine AW.at (st2 := [.int x1]) (k2 := 3) (n2 := 282) rfl rfl rfl ?_
      refine AW.goto (tgt := 22) dX9_text_18 (by decide) ?_
      exact AW.iret dX9_text_22 rfl (by decide) (by decide) ⟨_, rfl, h⟩
  · have h := h.2 hc
    refine AW.aload_n 0 dX9_text_4 rfl rfl ?_
    obtain ⟨hO, h⟩ := h
    obtain ⟨x3, t4, hp, h⟩ := h
    refine AW.callv (As := []) (rest := []) dX9_text_5 (lV_X9_113) rfl (rokb rfl) hO (gX9_takeLand σ a0 _ _ hp) (fun r9 t9 h9 ht9 => ?_)
    obtain ⟨rfl, h8⟩ := h9
    rw [h8]
    refine AW.at (st2 := [.int x3]) (k2 := 0) (n2 := 0) rfl rfl rfl ?_
    exact AW.iret dX9_text_8 rfl (by decide) (by decide) ⟨_, rfl, h⟩
