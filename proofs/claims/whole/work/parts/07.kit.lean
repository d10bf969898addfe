
theorem GE.zretk {Y : MI} {k n pc : Nat} {lv : List (Nat × Value)} {σ : St} {x : Int32} (hd : decode Y.1 pc = .ok (.ireturn, 1)) (hr : Y.2.2.2.1 = some .boolean) (hk : k ≤ Y.2.2.2.2.1) (hn : n ≤ Y.2.2.2.2.2.1) (hz : x = 0 ∨ x = 1) : GE vI Y k n pc lv [.int x] σ (some (x, σ)) := by
  intro x9 s9 he9
  cases he9
  exact AW.zret hd hr hk hn hz ⟨rfl, rfl⟩
theorem GE.gst {α : Type} {em : α → Option Value} {E : Option (α × St)} {Y : MI} {k n pc : Nat} {lv : List (Nat × Value)} {rest : List Value} {σ : St} {idx j : Nat} {q : String × String × String} (hd : decode Y.1 pc = .ok (.getstatic idx, 3)) (hj : zN[j]? = some q) (hw : Cond.fieldLink Y.2.1.cls idx q.1 q.2.1 q.2.2 ∈ bigW) (h : GE em Y k n (pc + 3) lv (.ref (σ.1.1 j) :: rest) σ E) : GE em Y k n pc lv rest σ E := by
  intro x9 s9 he9 l p e s m args below meth c A D cy H locs ls hF hW hH hl
  exact va_gets hF.1 hF.2.1 (hW.2.2.2.1 j q hj) hH.2.2.1 hF.2.2.2.1 (hF.2.2.2.2.1 _ (List.mem_cons_of_mem _ hw)) (fun x h => h) hd (h x9 s9 he9 l p e s m args below meth c A D cy H locs ls hF hW hH hl)
theorem nlt0 {x : Int32} (h : 0 ≤ x.toInt) : ¬ x < 0 := fun q => by
  have := Int32.lt_iff_toInt_lt.mp q
  rw [Int32.toInt_zero] at this
  omega
theorem clampI {x : Int32} (h : 0 ≤ x.toInt) : (x.toNatClampNeg : Int) = x.toInt := by
  show ((x.toInt.toNat : Nat) : Int) = x.toInt
  omega
theorem nativ : Cond.native arraycopyName ∈ bigW := bg 442 (by decide +kernel) rfl
theorem nativS : Cond.static arraycopyName ∈ bigW := bg 441 (by decide +kernel) rfl
theorem nativI : Cond.initialized "java/lang/System" ∈ bigW := bg 108 (by decide +kernel) rfl
theorem nativW : nativeFrameWords "java/lang/System" "arraycopy" 5 ≤ 40 := by decide +kernel

theorem kB_m2 : (Int8.ofInt (-2)).toInt32 = ((-2) : Int32) := by decide
theorem kB_6 : (Int8.ofInt (6)).toInt32 = (6 : Int32) := by decide
theorem kB_8 : (Int8.ofInt (8)).toInt32 = (8 : Int32) := by decide
theorem kB_9 : (Int8.ofInt (9)).toInt32 = (9 : Int32) := by decide
theorem kB_10 : (Int8.ofInt (10)).toInt32 = (10 : Int32) := by decide
theorem kB_11 : (Int8.ofInt (11)).toInt32 = (11 : Int32) := by decide
theorem kB_12 : (Int8.ofInt (12)).toInt32 = (12 : Int32) := by decide
theorem kB_15 : (Int8.ofInt (15)).toInt32 = (15 : Int32) := by decide
theorem kB_16 : (Int8.ofInt (16)).toInt32 = (16 : Int32) := by decide
theorem kB_20 : (Int8.ofInt (20)).toInt32 = (20 : Int32) := by decide
theorem kB_24 : (Int8.ofInt (24)).toInt32 = (24 : Int32) := by decide
theorem kB_30 : (Int8.ofInt (30)).toInt32 = (30 : Int32) := by decide
theorem kB_32 : (Int8.ofInt (32)).toInt32 = (32 : Int32) := by decide
theorem kB_33 : (Int8.ofInt (33)).toInt32 = (33 : Int32) := by decide
theorem kB_34 : (Int8.ofInt (34)).toInt32 = (34 : Int32) := by decide
theorem kB_35 : (Int8.ofInt (35)).toInt32 = (35 : Int32) := by decide
theorem kB_38 : (Int8.ofInt (38)).toInt32 = (38 : Int32) := by decide
theorem kB_39 : (Int8.ofInt (39)).toInt32 = (39 : Int32) := by decide
theorem kB_40 : (Int8.ofInt (40)).toInt32 = (40 : Int32) := by decide
theorem kB_41 : (Int8.ofInt (41)).toInt32 = (41 : Int32) := by decide
theorem kB_42 : (Int8.ofInt (42)).toInt32 = (42 : Int32) := by decide
theorem kB_43 : (Int8.ofInt (43)).toInt32 = (43 : Int32) := by decide
theorem kB_48 : (Int8.ofInt (48)).toInt32 = (48 : Int32) := by decide
theorem kB_50 : (Int8.ofInt (50)).toInt32 = (50 : Int32) := by decide
theorem kB_57 : (Int8.ofInt (57)).toInt32 = (57 : Int32) := by decide
theorem kB_58 : (Int8.ofInt (58)).toInt32 = (58 : Int32) := by decide
theorem kB_59 : (Int8.ofInt (59)).toInt32 = (59 : Int32) := by decide
theorem kB_60 : (Int8.ofInt (60)).toInt32 = (60 : Int32) := by decide
theorem kB_61 : (Int8.ofInt (61)).toInt32 = (61 : Int32) := by decide
theorem kB_62 : (Int8.ofInt (62)).toInt32 = (62 : Int32) := by decide
theorem kB_63 : (Int8.ofInt (63)).toInt32 = (63 : Int32) := by decide
theorem kB_64 : (Int8.ofInt (64)).toInt32 = (64 : Int32) := by decide
theorem kB_99 : (Int8.ofInt (99)).toInt32 = (99 : Int32) := by decide
theorem kB_100 : (Int8.ofInt (100)).toInt32 = (100 : Int32) := by decide
theorem kB_102 : (Int8.ofInt (102)).toInt32 = (102 : Int32) := by decide
theorem kB_103 : (Int8.ofInt (103)).toInt32 = (103 : Int32) := by decide
theorem kB_104 : (Int8.ofInt (104)).toInt32 = (104 : Int32) := by decide
theorem kB_107 : (Int8.ofInt (107)).toInt32 = (107 : Int32) := by decide
theorem kB_108 : (Int8.ofInt (108)).toInt32 = (108 : Int32) := by decide
theorem kB_109 : (Int8.ofInt (109)).toInt32 = (109 : Int32) := by decide
theorem kB_110 : (Int8.ofInt (110)).toInt32 = (110 : Int32) := by decide
theorem kB_114 : (Int8.ofInt (114)).toInt32 = (114 : Int32) := by decide
theorem kB_115 : (Int8.ofInt (115)).toInt32 = (115 : Int32) := by decide
theorem kB_116 : (Int8.ofInt (116)).toInt32 = (116 : Int32) := by decide
theorem kB_119 : (Int8.ofInt (119)).toInt32 = (119 : Int32) := by decide
theorem kB_120 : (Int8.ofInt (120)).toInt32 = (120 : Int32) := by decide
theorem kB_121 : (Int8.ofInt (121)).toInt32 = (121 : Int32) := by decide
theorem kI_m8 : Int32.ofInt (-8) = ((-8) : Int32) := by decide
theorem kI_m1 : Int32.ofInt (-1) = ((-1) : Int32) := by decide
theorem kI_0 : Int32.ofInt (0) = (0 : Int32) := by decide
theorem kI_1 : Int32.ofInt (1) = (1 : Int32) := by decide
theorem kI_2 : Int32.ofInt (2) = (2 : Int32) := by decide
theorem kI_3 : Int32.ofInt (3) = (3 : Int32) := by decide
theorem kI_4 : Int32.ofInt (4) = (4 : Int32) := by decide
theorem kI_5 : Int32.ofInt (5) = (5 : Int32) := by decide
theorem kL_0 : Int64.ofNat (0) = (0 : Int64) := by decide
theorem kS_128 : (Int16.ofInt (128)).toInt32 = (128 : Int32) := by decide
theorem kS_140 : (Int16.ofInt (140)).toInt32 = (140 : Int32) := by decide
theorem kS_180 : (Int16.ofInt (180)).toInt32 = (180 : Int32) := by decide
theorem kS_223 : (Int16.ofInt (223)).toInt32 = (223 : Int32) := by decide
theorem kS_240 : (Int16.ofInt (240)).toInt32 = (240 : Int32) := by decide
theorem kS_255 : (Int16.ofInt (255)).toInt32 = (255 : Int32) := by decide
theorem kS_520 : (Int16.ofInt (520)).toInt32 = (520 : Int32) := by decide
theorem kS_999 : (Int16.ofInt (999)).toInt32 = (999 : Int32) := by decide
theorem kS_1000 : (Int16.ofInt (1000)).toInt32 = (1000 : Int32) := by decide
theorem kS_8920 : (Int16.ofInt (8920)).toInt32 = (8920 : Int32) := by decide
theorem kS_9999 : (Int16.ofInt (9999)).toInt32 = (9999 : Int32) := by decide
theorem clX0 : CLs 0 RX0 TX0 2 tyX0 := ⟨rfl, by decide +kernel, tyX0_ok, nmX0⟩
theorem clX1 : CLs 1 RX1 TX1 7 tyX1 := ⟨rfl, by decide +kernel, tyX1_ok, nmX1⟩
theorem clX2 : CLs 2 RX2 TX2 8 tyX2 := ⟨rfl, by decide +kernel, tyX2_ok, nmX2⟩
theorem clX3 : CLs 3 RX3 TX3 2 tyX3 := ⟨rfl, by decide +kernel, tyX3_ok, nmX3⟩
theorem clX4 : CLs 4 RX4 TX4 3 tyX4 := ⟨rfl, by decide +kernel, tyX4_ok, nmX4⟩
theorem clX5 : CLs 5 RX5 TX5 7 tyX5 := ⟨rfl, by decide +kernel, tyX5_ok, nmX5⟩
theorem clX6 : CLs 6 RX6 TX6 1 tyX6 := ⟨rfl, by decide +kernel, tyX6_ok, nmX6⟩
theorem clX7 : CLs 7 RX7 TX7 14 tyX7 := ⟨rfl, by decide +kernel, tyX7_ok, nmX7⟩
theorem clX8 : CLs 8 RX8 TX8 4 tyX8 := ⟨rfl, by decide +kernel, tyX8_ok, nmX8⟩
theorem clX9 : CLs 9 RX9 TX9 16 tyX9 := ⟨rfl, by decide +kernel, tyX9_ok, nmX9⟩
theorem clX10 : CLs 10 RX10 TX10 46 tyX10 := ⟨rfl, by decide +kernel, tyX10_ok, nmX10⟩
