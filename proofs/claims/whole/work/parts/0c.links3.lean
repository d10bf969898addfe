abbrev mX8_init : MI := (cX8_init, yX8_init, 1, none, 1, 240, 2)
theorem bX8_init : MLb mX8_init 0 := ⟨rfl, b1 32 rfl rfl, b1 2 (by decide +kernel) rfl, by decide +kernel, by decide⟩
abbrev mX2_init : MI := (cX2_init, yX2_init, 2, none, 3, 50, 2)
theorem bX2_init : MLb mX2_init 1 := ⟨rfl, b1 56 rfl rfl, b1 3 (by decide +kernel) rfl, by decide +kernel, by decide⟩
abbrev mX4_init : MI := (cX4_init, yX4_init, 2, none, 1, 240, 2)
theorem bX4_init : MLb mX4_init 1 := ⟨rfl, b1 87 rfl rfl, b1 4 (by decide +kernel) rfl, by decide +kernel, by decide⟩
abbrev mX7_init : MI := (cX7_init, yX7_init, 1, none, 5, 48, 2)
theorem bX7_init : MLb mX7_init 0 := ⟨rfl, b1 105 rfl rfl, b1 5 (by decide +kernel) rfl, by decide +kernel, by decide⟩
abbrev mX5_init : MI := (cX5_init, yX5_init, 1, none, 4, 2019, 2)
theorem bX5_init : MLb mX5_init 0 := ⟨rfl, b1 180 rfl rfl, b1 6 (by decide +kernel) rfl, by decide +kernel, by decide⟩
abbrev mX1_init : MI := (cX1_init, yX1_init, 1, none, 5, 50, 2)
theorem bX1_init : MLb mX1_init 0 := ⟨rfl, b1 209 rfl rfl, b1 7 (by decide +kernel) rfl, by decide +kernel, by decide⟩
abbrev mX6_init : MI := (cX6_init, yX6_init, 1, none, 1, 30, 2)
theorem bX6_init : MLb mX6_init 0 := ⟨rfl, b2 0 rfl rfl, b1 8 (by decide +kernel) rfl, by decide +kernel, by decide⟩
abbrev mX0_init : MI := (cX0_init, yX0_init, 1, none, 2, 8, 2)
theorem bX0_init : MLb mX0_init 0 := ⟨rfl, b2 10 rfl rfl, b1 9 (by decide +kernel) rfl, by decide +kernel, by decide⟩
abbrev mX3_init : MI := (cX3_init, yX3_init, 2, none, 1, 40, 2)
theorem bX3_init : MLb mX3_init 1 := ⟨rfl, b3 42 rfl rfl, b1 14 (by decide +kernel) rfl, by decide +kernel, by decide⟩
abbrev mJ7_copyOf_59c91 : MI := (cJ7_copyOf_59c91, yJ7_copyOf_59c91, 3, (some (.array .int)), 1, 240, 2)
theorem bJ7_copyOf_59c91 : MLb mJ7_copyOf_59c91 2 := ⟨rfl, b3 28 rfl rfl, b1 11 (by decide +kernel) rfl, by decide +kernel, by decide⟩
abbrev mX4_made : MI := (cX4_made, yX4_made, 1, (some (.object "BlindSpots$Law")), 3, 282, 3)
theorem bX4_made : MLb mX4_made 0 := ⟨rfl, b3 23 rfl rfl, b1 4 (by decide +kernel) rfl, by decide +kernel, by decide⟩
abbrev mX9_init : MI := (cX9_init, yX9_init, 1, none, 44, 2864, 3)
theorem bX9_init : MLb mX9_init 0 := ⟨rfl, b1 24 rfl rfl, b1 1 (by decide +kernel) rfl, by decide +kernel, by decide⟩
abbrev mX10_init : MI := (cX10_init, yX10_init, 1, none, 28, 17222, 2)
theorem bX10_init : MLb mX10_init 0 := ⟨rfl, b5 70 rfl rfl, b1 10 (by decide +kernel) rfl, by decide +kernel, by decide⟩
abbrev mX9_takeLaw : MI := (cX9_takeLaw, yX9_takeLaw, 1, (some .int), 3, 282, 127)
theorem bX9_takeLaw : MLb mX9_takeLaw 0 := ⟨rfl, b3 19 rfl rfl, b1 1 (by decide +kernel) rfl, by decide +kernel, by decide⟩
abbrev mX9_text : MI := (cX9_text, yX9_text, 2, (some .int), 3, 282, 128)
theorem bX9_text : MLb mX9_text 1 := ⟨rfl, b2 229 rfl rfl, b1 1 (by decide +kernel) rfl, by decide +kernel, by decide⟩
theorem lOI : Cond.instanceMethod Lib.objectInit ∈ bigW := b1 26 (by decide +kernel) rfl
theorem lOC : Cond.code Lib.objectInit ⟨#[0xb1]⟩ 1 none ∈ bigW := b1 27 (by decide +kernel) rfl
theorem lO_X8_3 : Cond.methodLink RX8 3 Lib.objectInit ∈ bigW := b1 33 (by decide +kernel) rfl
theorem lA_int : Cond.arrayClass .int ∈ bigW := b1 51 (by decide +kernel) rfl
theorem lO_X2_3 : Cond.methodLink RX2 3 Lib.objectInit ∈ bigW := b1 57 (by decide +kernel) rfl
theorem lO_X4_3 : Cond.methodLink RX4 3 Lib.objectInit ∈ bigW := b1 88 (by decide +kernel) rfl
theorem lO_X7_5 : Cond.methodLink RX7 5 Lib.objectInit ∈ bigW := b1 106 (by decide +kernel) rfl
theorem lO_X5_3 : Cond.methodLink RX5 3 Lib.objectInit ∈ bigW := b1 181 (by decide +kernel) rfl
theorem lO_X1_3 : Cond.methodLink RX1 3 Lib.objectInit ∈ bigW := b1 210 (by decide +kernel) rfl
theorem lA_boolean : Cond.arrayClass .boolean ∈ bigW := b1 235 (by decide +kernel) rfl
theorem lO_X6_3 : Cond.methodLink RX6 3 Lib.objectInit ∈ bigW := b2 1 (by decide +kernel) rfl
theorem lO_X0_3 : Cond.methodLink RX0 3 Lib.objectInit ∈ bigW := b2 11 (by decide +kernel) rfl
theorem lO_X3_3 : Cond.methodLink RX3 3 Lib.objectInit ∈ bigW := b3 43 (by decide +kernel) rfl
theorem lG_X4_44 : Cond.classLink RX4 44 RX3 ∈ bigW := b3 24 (by decide +kernel) rfl
theorem lI_X3 : Cond.instantiable RX3 2 ∈ bigW := b3 25 (by decide +kernel) rfl
theorem lZ_X3 : Cond.initialized RX3 ∈ bigW := b1 14 (by decide +kernel) rfl
theorem lD_X3 : ∀ j, j < 2 → defaultValue (tyX3 j) = vp_V [.null, .null] j := by decide +kernel
theorem lT_X4_46 : MLs RX4 46 mJ7_copyOf_59c91 2 := ⟨bJ7_copyOf_59c91, b3 26 (by decide +kernel) rfl, b3 27 (by decide +kernel) rfl⟩
theorem lV_X4_52 : MLi RX4 52 mX3_init 1 := ⟨bX3_init, Or.inl (b3 40 (by decide +kernel) rfl), b3 41 (by decide +kernel) rfl, rfl, rfl⟩
theorem lO_X9_1 : Cond.methodLink RX9 1 Lib.objectInit ∈ bigW := b1 25 (by decide +kernel) rfl
theorem lG_X9_7 : Cond.classLink RX9 7 RX8 ∈ bigW := b1 28 (by decide +kernel) rfl
theorem lI_X8 : Cond.instantiable RX8 4 ∈ bigW := b1 29 (by decide +kernel) rfl
theorem lZ_X8 : Cond.initialized RX8 ∈ bigW := b1 2 (by decide +kernel) rfl
theorem lD_X8 : ∀ j, j < 4 → defaultValue (tyX8 j) = vp_V [.null, .int 0, .int 0, .int 0] j := by decide +kernel
theorem lV_X9_9 : MLi RX9 9 mX8_init 0 := ⟨bX8_init, Or.inr ⟨"BlindSpots", bn 126 (by decide +kernel) rfl⟩, b1 31 (by decide +kernel) rfl, rfl, rfl⟩
theorem lG_X9_16 : Cond.classLink RX9 16 RX2 ∈ bigW := b1 52 (by decide +kernel) rfl
theorem lI_X2 : Cond.instantiable RX2 8 ∈ bigW := b1 53 (by decide +kernel) rfl
theorem lZ_X2 : Cond.initialized RX2 ∈ bigW := b1 3 (by decide +kernel) rfl
theorem lD_X2 : ∀ j, j < 8 → defaultValue (tyX2 j) = vp_V [.null, .null, .null, .null, .int 0, .int 0, .int 0, .int 0] j := by decide +kernel
theorem lV_X9_18 : MLi RX9 18 mX2_init 1 := ⟨bX2_init, Or.inl (b1 54 (by decide +kernel) rfl), b1 55 (by decide +kernel) rfl, rfl, rfl⟩
theorem lG_X9_25 : Cond.classLink RX9 25 RX4 ∈ bigW := b1 83 (by decide +kernel) rfl
theorem lI_X4 : Cond.instantiable RX4 3 ∈ bigW := b1 84 (by decide +kernel) rfl
theorem lZ_X4 : Cond.initialized RX4 ∈ bigW := b1 4 (by decide +kernel) rfl
theorem lD_X4 : ∀ j, j < 3 → defaultValue (tyX4 j) = vp_V [.null, .null, .int 0] j := by decide +kernel
theorem lV_X9_27 : MLi RX9 27 mX4_init 1 := ⟨bX4_init, Or.inl (b1 85 (by decide +kernel) rfl), b1 86 (by decide +kernel) rfl, rfl, rfl⟩
theorem lG_X9_32 : Cond.classLink RX9 32 "BlindSpots$Law" ∈ bigW := b1 99 (by decide +kernel) rfl
theorem lG_X9_52 : Cond.classLink RX9 52 RX7 ∈ bigW := b1 101 (by decide +kernel) rfl
theorem lI_X7 : Cond.instantiable RX7 14 ∈ bigW := b1 102 (by decide +kernel) rfl
theorem lZ_X7 : Cond.initialized RX7 ∈ bigW := b1 5 (by decide +kernel) rfl
theorem lD_X7 : ∀ j, j < 14 → defaultValue (tyX7 j) = vp_V [.int 0, .int 0, .int 0, .int 0, .int 0, .int 0, .int 0, .int 0, .int 0, .null, .null, .null, .null, .null] j := by decide +kernel
theorem lV_X9_54 : MLi RX9 54 mX7_init 0 := ⟨bX7_init, Or.inr ⟨"BlindSpots", bn 199 (by decide +kernel) rfl⟩, b1 104 (by decide +kernel) rfl, rfl, rfl⟩
theorem lG_X9_65 : Cond.classLink RX9 65 RX5 ∈ bigW := b1 176 (by decide +kernel) rfl
theorem lI_X5 : Cond.instantiable RX5 7 ∈ bigW := b1 177 (by decide +kernel) rfl
theorem lZ_X5 : Cond.initialized RX5 ∈ bigW := b1 6 (by decide +kernel) rfl
theorem lD_X5 : ∀ j, j < 7 → defaultValue (tyX5 j) = vp_V [.null, .int 0, .int 0, .null, .null, .null, .int 0] j := by decide +kernel
theorem lV_X9_67 : MLi RX9 67 mX5_init 0 := ⟨bX5_init, Or.inr ⟨"BlindSpots", bn 274 (by decide +kernel) rfl⟩, b1 179 (by decide +kernel) rfl, rfl, rfl⟩
theorem lG_X9_72 : Cond.classLink RX9 72 RX1 ∈ bigW := b1 205 (by decide +kernel) rfl
theorem lI_X1 : Cond.instantiable RX1 7 ∈ bigW := b1 206 (by decide +kernel) rfl
theorem lZ_X1 : Cond.initialized RX1 ∈ bigW := b1 7 (by decide +kernel) rfl
theorem lD_X1 : ∀ j, j < 7 → defaultValue (tyX1 j) = vp_V [.null, .null, .null, .int 0, .null, .null, .int 0] j := by decide +kernel
theorem lV_X9_74 : MLi RX9 74 mX1_init 0 := ⟨bX1_init, Or.inr ⟨"BlindSpots", bn 303 (by decide +kernel) rfl⟩, b1 208 (by decide +kernel) rfl, rfl, rfl⟩
theorem lG_X9_79 : Cond.classLink RX9 79 RX6 ∈ bigW := b1 236 (by decide +kernel) rfl
theorem lI_X6 : Cond.instantiable RX6 1 ∈ bigW := b1 237 (by decide +kernel) rfl
theorem lZ_X6 : Cond.initialized RX6 ∈ bigW := b1 8 (by decide +kernel) rfl
theorem lD_X6 : ∀ j, j < 1 → defaultValue (tyX6 j) = vp_V [.null] j := by decide +kernel
theorem lV_X9_81 : MLi RX9 81 mX6_init 0 := ⟨bX6_init, Or.inr ⟨"BlindSpots", bn 334 (by decide +kernel) rfl⟩, b1 239 (by decide +kernel) rfl, rfl, rfl⟩
theorem lG_X9_86 : Cond.classLink RX9 86 RX0 ∈ bigW := b2 6 (by decide +kernel) rfl
theorem lI_X0 : Cond.instantiable RX0 2 ∈ bigW := b2 7 (by decide +kernel) rfl
theorem lZ_X0 : Cond.initialized RX0 ∈ bigW := b1 9 (by decide +kernel) rfl
theorem lD_X0 : ∀ j, j < 2 → defaultValue (tyX0 j) = vp_V [.null, .null] j := by decide +kernel
theorem lV_X9_88 : MLi RX9 88 mX0_init 0 := ⟨bX0_init, Or.inr ⟨"BlindSpots", bn 344 (by decide +kernel) rfl⟩, b2 9 (by decide +kernel) rfl, rfl, rfl⟩
theorem lO_X10_3 : Cond.methodLink RX10 3 Lib.objectInit ∈ bigW := b5 71 (by decide +kernel) rfl
theorem lV_X9_133 : MLv RX9 133 mX4_made 4 0 := ⟨bX4_made, b3 20 (by decide +kernel) rfl, b3 21 (by decide +kernel) rfl, b3 22 (by decide +kernel) rfl, ⟨_, _, rfl⟩⟩
theorem lV_X9_116 : MLv RX9 116 mX9_takeLaw 9 0 := ⟨bX9_takeLaw, b3 16 (by decide +kernel) rfl, b3 18 (by decide +kernel) rfl, b0 15 (by decide +kernel) rfl, ⟨_, _, rfl⟩⟩
theorem lC_J7_150 : Cond.methodLink RJ7 150 arraycopyName ∈ bigW := b3 39 (by decide +kernel) rfl
theorem lT_J7_304 : MLs RJ7 304 mJ9_min_7cf53 2 := ⟨bJ9_min_7cf53, b3 36 (by decide +kernel) rfl, b3 37 (by decide +kernel) rfl⟩
theorem lV_X9_113 : MLv RX9 113 mX9_takeLand 9 0 := ⟨bX9_takeLand, b2 230 (by decide +kernel) rfl, b2 232 (by decide +kernel) rfl, b0 14 (by decide +kernel) rfl, ⟨_, _, rfl⟩⟩
