
def stp (Rel : Nat → Nat → Nat → St → Prop) (E1 E2 : St → Nat → Option (Int32 × St)) : Prop := ∀ x mo ou σ, Rel x mo ou σ → ∃ r t1 t2, E1 σ x = some (r, t1) ∧ isO 10 t1 mo = true ∧ E2 t1 mo = some (r, t2) ∧ Rel x mo ou t2
def stpT (Rel : Nat → Nat → Nat → St → Prop) (E2 : St → Nat → Option (Int32 × St)) (w : St → Nat → (Int32 → St → Prop) → Prop) : Prop := ∀ x mo ou σ, Rel x mo ou σ → w σ x (fun r t1 => isO 10 t1 mo = true ∧ ∃ t2, E2 t1 mo = some (r, t2) ∧ Rel x mo ou t2)
def lawO (Rel : Nat → Nat → Nat → St → Prop) : Prop := ∀ x mo ou σ, Rel x mo ou σ → isO 9 σ x = true ∧ isO 10 σ mo = true
theorem law_ix {L j c : Nat} (hj : 6 * j + 6 ≤ L) (hL : L ≤ 384) (hc : c < 6) : vp_in (nI (6 * j) + nI c) L := by
  rw [nI_add]
  exact vp_in_nI (by omega) (by omega)
theorem law_in {L j : Nat} (hj : 6 * j + 6 ≤ L) (hL : L ≤ 384) : vp_in (nI (6 * j) + 1) L ∧ vp_in (nI (6 * j) + 2) L ∧ vp_in (nI (6 * j) + 3) L ∧ vp_in (nI (6 * j) + 4) L ∧ vp_in (nI (6 * j) + 5) L := ⟨law_ix hj hL (c := 1) (by omega), law_ix hj hL (c := 2) (by omega), law_ix hj hL (c := 3) (by omega), law_ix hj hL (c := 4) (by omega), law_ix hj hL (c := 5) (by omega)⟩
theorem lV_L_19 : MLv RL 19 mX9_feed 9 5 := ⟨bX9_feed, b2 68 (by decide +kernel) rfl, b2 69 (by decide +kernel) rfl, b2 70 (by decide +kernel) rfl, ⟨_, _, rfl⟩⟩
theorem lV_L_23 : MLv RL 23 mX10_feed 10 5 := ⟨bX10_feed, b5 215 (by decide +kernel) rfl, b5 216 (by decide +kernel) rfl, b5 217 (by decide +kernel) rfl, ⟨_, _, rfl⟩⟩
theorem lV_L_24 : MLv RL 24 mX9_end 9 1 := ⟨bX9_end, b2 79 (by decide +kernel) rfl, b2 80 (by decide +kernel) rfl, b2 81 (by decide +kernel) rfl, ⟨_, _, rfl⟩⟩
theorem lV_L_28 : MLv RL 28 mX10_end 10 1 := ⟨bX10_end, b5 222 (by decide +kernel) rfl, b5 223 (by decide +kernel) rfl, b5 224 (by decide +kernel) rfl, ⟨_, _, rfl⟩⟩
theorem lV_L_29 : MLv RL 29 mX9_fault 9 1 := ⟨bX9_fault, b2 83 (by decide +kernel) rfl, b2 84 (by decide +kernel) rfl, b2 85 (by decide +kernel) rfl, ⟨_, _, rfl⟩⟩
theorem lV_L_33 : MLv RL 33 mX10_fault 10 1 := ⟨bX10_fault, b5 226 (by decide +kernel) rfl, b5 227 (by decide +kernel) rfl, b5 228 (by decide +kernel) rfl, ⟨_, _, rfl⟩⟩
theorem lV_L_34 : MLv RL 34 mX9_text 9 1 := ⟨bX9_text, b2 226 (by decide +kernel) rfl, b2 227 (by decide +kernel) rfl, b2 228 (by decide +kernel) rfl, ⟨_, _, rfl⟩⟩
theorem lV_L_37 : MLv RL 37 mX10_text 10 1 := ⟨bX10_text, b6 110 (by decide +kernel) rfl, b6 111 (by decide +kernel) rfl, b6 112 (by decide +kernel) rfl, ⟨_, _, rfl⟩⟩
theorem lV_L_38 : MLv RL 38 mX9_rule 9 1 := ⟨bX9_rule, b3 51 (by decide +kernel) rfl, b3 52 (by decide +kernel) rfl, b3 53 (by decide +kernel) rfl, ⟨_, _, rfl⟩⟩
theorem lV_L_41 : MLv RL 41 mX10_rule 10 1 := ⟨bX10_rule, b6 122 (by decide +kernel) rfl, b6 123 (by decide +kernel) rfl, b6 124 (by decide +kernel) rfl, ⟨_, _, rfl⟩⟩
theorem lV_L_42 : MLv RL 42 mX9_height 9 1 := ⟨bX9_height, b3 59 (by decide +kernel) rfl, b3 60 (by decide +kernel) rfl, b3 61 (by decide +kernel) rfl, ⟨_, _, rfl⟩⟩
theorem lV_L_45 : MLv RL 45 mX10_height 10 1 := ⟨bX10_height, b6 126 (by decide +kernel) rfl, b6 127 (by decide +kernel) rfl, b6 128 (by decide +kernel) rfl, ⟨_, _, rfl⟩⟩
theorem lV_L_56 : MLv RL 56 mX9_law 9 1 := ⟨bX9_law, b3 67 (by decide +kernel) rfl, b3 68 (by decide +kernel) rfl, b3 69 (by decide +kernel) rfl, ⟨_, _, rfl⟩⟩
theorem lV_L_59 : MLv RL 59 mX10_law 10 1 := ⟨bX10_law, b6 206 (by decide +kernel) rfl, b6 207 (by decide +kernel) rfl, b6 208 (by decide +kernel) rfl, ⟨_, _, rfl⟩⟩
theorem lV_L_60 : MLv RL 60 mX9_hours 9 1 := ⟨bX9_hours, b3 71 (by decide +kernel) rfl, b3 72 (by decide +kernel) rfl, b3 73 (by decide +kernel) rfl, ⟨_, _, rfl⟩⟩
theorem lV_L_63 : MLv RL 63 mX10_hours 10 1 := ⟨bX10_hours, b6 210 (by decide +kernel) rfl, b6 211 (by decide +kernel) rfl, b6 212 (by decide +kernel) rfl, ⟨_, _, rfl⟩⟩
theorem lV_L_64 : MLv RL 64 mX9_heap 9 1 := ⟨bX9_heap, b3 158 (by decide +kernel) rfl, b3 159 (by decide +kernel) rfl, b3 160 (by decide +kernel) rfl, ⟨_, _, rfl⟩⟩
theorem lV_L_67 : MLv RL 67 mX10_heap 10 1 := ⟨bX10_heap, b7 2 (by decide +kernel) rfl, b7 3 (by decide +kernel) rfl, b7 4 (by decide +kernel) rfl, ⟨_, _, rfl⟩⟩
theorem lV_L_68 : MLv RL 68 mX9_dig 9 1 := ⟨bX9_dig, b3 166 (by decide +kernel) rfl, b3 167 (by decide +kernel) rfl, b3 168 (by decide +kernel) rfl, ⟨_, _, rfl⟩⟩
theorem lV_L_71 : MLv RL 71 mX10_dig 10 1 := ⟨bX10_dig, b7 10 (by decide +kernel) rfl, b7 11 (by decide +kernel) rfl, b7 12 (by decide +kernel) rfl, ⟨_, _, rfl⟩⟩
theorem lV_L_72 : MLv RL 72 mX9_mast 9 1 := ⟨bX9_mast, b3 170 (by decide +kernel) rfl, b3 171 (by decide +kernel) rfl, b3 172 (by decide +kernel) rfl, ⟨_, _, rfl⟩⟩
theorem lV_L_75 : MLv RL 75 mX10_mast 10 1 := ⟨bX10_mast, b7 14 (by decide +kernel) rfl, b7 15 (by decide +kernel) rfl, b7 16 (by decide +kernel) rfl, ⟨_, _, rfl⟩⟩
theorem lV_L_76 : MLv RL 76 mX9_moves 9 2 := ⟨bX9_moves, b3 178 (by decide +kernel) rfl, b3 179 (by decide +kernel) rfl, b3 180 (by decide +kernel) rfl, ⟨_, _, rfl⟩⟩
theorem lV_L_79 : MLv RL 79 mX10_moves 10 2 := ⟨bX10_moves, b7 18 (by decide +kernel) rfl, b7 19 (by decide +kernel) rfl, b7 20 (by decide +kernel) rfl, ⟨_, _, rfl⟩⟩
theorem lV_L_80 : MLv RL 80 mX9_fog 9 1 := ⟨bX9_fog, b3 182 (by decide +kernel) rfl, b3 183 (by decide +kernel) rfl, b3 184 (by decide +kernel) rfl, ⟨_, _, rfl⟩⟩
theorem lV_L_83 : MLv RL 83 mX10_fog 10 1 := ⟨bX10_fog, b7 22 (by decide +kernel) rfl, b7 23 (by decide +kernel) rfl, b7 24 (by decide +kernel) rfl, ⟨_, _, rfl⟩⟩
theorem lV_L_84 : MLv RL 84 mX9_oath 9 1 := ⟨bX9_oath, b3 186 (by decide +kernel) rfl, b3 187 (by decide +kernel) rfl, b3 188 (by decide +kernel) rfl, ⟨_, _, rfl⟩⟩
theorem lV_L_87 : MLv RL 87 mX10_oath 10 1 := ⟨bX10_oath, b7 26 (by decide +kernel) rfl, b7 27 (by decide +kernel) rfl, b7 28 (by decide +kernel) rfl, ⟨_, _, rfl⟩⟩
theorem lV_L_88 : MLv RL 88 mX9_give 9 1 := ⟨bX9_give, b3 190 (by decide +kernel) rfl, b3 191 (by decide +kernel) rfl, b3 192 (by decide +kernel) rfl, ⟨_, _, rfl⟩⟩
theorem lV_L_91 : MLv RL 91 mX10_give 10 1 := ⟨bX10_give, b7 30 (by decide +kernel) rfl, b7 31 (by decide +kernel) rfl, b7 32 (by decide +kernel) rfl, ⟨_, _, rfl⟩⟩
theorem lV_L_92 : MLv RL 92 mX9_mist 9 1 := ⟨bX9_mist, b3 194 (by decide +kernel) rfl, b3 195 (by decide +kernel) rfl, b3 196 (by decide +kernel) rfl, ⟨_, _, rfl⟩⟩
theorem lV_L_95 : MLv RL 95 mX10_mist 10 1 := ⟨bX10_mist, b7 34 (by decide +kernel) rfl, b7 35 (by decide +kernel) rfl, b7 36 (by decide +kernel) rfl, ⟨_, _, rfl⟩⟩
theorem lKL_L_96 : Cond.constantLong RL 96 (4294967295) ∈ bigW := b7 212 (by decide +kernel) rfl
theorem lV_L_98 : MLv RL 98 mX9_years 9 2 := ⟨bX9_years, b3 198 (by decide +kernel) rfl, b3 199 (by decide +kernel) rfl, b3 200 (by decide +kernel) rfl, ⟨_, _, rfl⟩⟩
theorem lV_L_102 : MLv RL 102 mX10_years 10 2 := ⟨bX10_years, b7 38 (by decide +kernel) rfl, b7 39 (by decide +kernel) rfl, b7 40 (by decide +kernel) rfl, ⟨_, _, rfl⟩⟩
theorem lV_L_103 : MLv RL 103 mX9_status 9 1 := ⟨bX9_status, b3 213 (by decide +kernel) rfl, b3 214 (by decide +kernel) rfl, b3 215 (by decide +kernel) rfl, ⟨_, _, rfl⟩⟩
theorem lV_L_106 : MLv RL 106 mX10_status 10 1 := ⟨bX10_status, b7 52 (by decide +kernel) rfl, b7 53 (by decide +kernel) rfl, b7 54 (by decide +kernel) rfl, ⟨_, _, rfl⟩⟩
theorem lV_L_107 : MLv RL 107 mX9_undo 9 0 := ⟨bX9_undo, b3 217 (by decide +kernel) rfl, b3 218 (by decide +kernel) rfl, b3 219 (by decide +kernel) rfl, ⟨_, _, rfl⟩⟩
theorem lV_L_110 : MLv RL 110 mX10_undo 10 0 := ⟨bX10_undo, b7 56 (by decide +kernel) rfl, b7 57 (by decide +kernel) rfl, b7 58 (by decide +kernel) rfl, ⟨_, _, rfl⟩⟩
theorem lV_L_111 : MLv RL 111 mX9_log 9 2 := ⟨bX9_log, b3 229 (by decide +kernel) rfl, b3 230 (by decide +kernel) rfl, b3 231 (by decide +kernel) rfl, ⟨_, _, rfl⟩⟩
theorem lV_L_114 : MLv RL 114 mX10_log 10 2 := ⟨bX10_log, b7 60 (by decide +kernel) rfl, b7 61 (by decide +kernel) rfl, b7 62 (by decide +kernel) rfl, ⟨_, _, rfl⟩⟩
theorem lV_L_115 : MLv RL 115 mX9_sees 9 2 := ⟨bX9_sees, b4 17 (by decide +kernel) rfl, b4 18 (by decide +kernel) rfl, b4 19 (by decide +kernel) rfl, ⟨_, _, rfl⟩⟩
theorem lV_L_118 : MLv RL 118 mX10_sees 10 2 := ⟨bX10_sees, b7 64 (by decide +kernel) rfl, b7 65 (by decide +kernel) rfl, b7 66 (by decide +kernel) rfl, ⟨_, _, rfl⟩⟩
theorem lV_L_119 : MLv RL 119 mX9_map 9 2 := ⟨bX9_map, b4 25 (by decide +kernel) rfl, b4 26 (by decide +kernel) rfl, b4 27 (by decide +kernel) rfl, ⟨_, _, rfl⟩⟩
theorem lV_L_122 : MLv RL 122 mX10_map 10 2 := ⟨bX10_map, b7 68 (by decide +kernel) rfl, b7 69 (by decide +kernel) rfl, b7 70 (by decide +kernel) rfl, ⟨_, _, rfl⟩⟩
theorem lV_L_123 : MLv RL 123 mX9_way 9 3 := ⟨bX9_way, b4 39 (by decide +kernel) rfl, b4 40 (by decide +kernel) rfl, b4 41 (by decide +kernel) rfl, ⟨_, _, rfl⟩⟩
theorem lV_L_127 : MLv RL 127 mX10_way 10 3 := ⟨bX10_way, b7 80 (by decide +kernel) rfl, b7 81 (by decide +kernel) rfl, b7 82 (by decide +kernel) rfl, ⟨_, _, rfl⟩⟩
theorem lV_L_128 : MLv RL 128 mX9_risk 9 2 := ⟨bX9_risk, b4 66 (by decide +kernel) rfl, b4 67 (by decide +kernel) rfl, b4 68 (by decide +kernel) rfl, ⟨_, _, rfl⟩⟩
theorem lV_L_131 : MLv RL 131 mX10_risk 10 2 := ⟨bX10_risk, b7 92 (by decide +kernel) rfl, b7 93 (by decide +kernel) rfl, b7 94 (by decide +kernel) rfl, ⟨_, _, rfl⟩⟩
theorem lV_L_132 : MLv RL 132 mX9_enough 9 0 := ⟨bX9_enough, b4 74 (by decide +kernel) rfl, b4 75 (by decide +kernel) rfl, b4 76 (by decide +kernel) rfl, ⟨_, _, rfl⟩⟩
theorem lV_L_135 : MLv RL 135 mX10_enough 10 0 := ⟨bX10_enough, b7 96 (by decide +kernel) rfl, b7 97 (by decide +kernel) rfl, b7 98 (by decide +kernel) rfl, ⟨_, _, rfl⟩⟩
theorem lV_L_136 : MLv RL 136 mX9_site 9 3 := ⟨bX9_site, b4 78 (by decide +kernel) rfl, b4 79 (by decide +kernel) rfl, b4 80 (by decide +kernel) rfl, ⟨_, _, rfl⟩⟩
theorem lV_L_139 : MLv RL 139 mX10_site 10 3 := ⟨bX10_site, b7 100 (by decide +kernel) rfl, b7 101 (by decide +kernel) rfl, b7 102 (by decide +kernel) rfl, ⟨_, _, rfl⟩⟩
theorem lV_L_140 : MLv RL 140 mX9_watched 9 1 := ⟨bX9_watched, b4 83 (by decide +kernel) rfl, b4 84 (by decide +kernel) rfl, b4 85 (by decide +kernel) rfl, ⟨_, _, rfl⟩⟩
theorem lV_L_143 : MLv RL 143 mX10_watched 10 1 := ⟨bX10_watched, b7 104 (by decide +kernel) rfl, b7 105 (by decide +kernel) rfl, b7 106 (by decide +kernel) rfl, ⟨_, _, rfl⟩⟩
theorem lV_L_144 : MLv RL 144 mX9_given 9 3 := ⟨bX9_given, b4 91 (by decide +kernel) rfl, b4 92 (by decide +kernel) rfl, b4 93 (by decide +kernel) rfl, ⟨_, _, rfl⟩⟩
theorem lV_L_148 : MLv RL 148 mX10_given 10 3 := ⟨bX10_given, b7 108 (by decide +kernel) rfl, b7 109 (by decide +kernel) rfl, b7 110 (by decide +kernel) rfl, ⟨_, _, rfl⟩⟩
theorem lV_L_149 : MLv RL 149 mX9_heights 9 2 := ⟨bX9_heights, b4 99 (by decide +kernel) rfl, b4 100 (by decide +kernel) rfl, b4 101 (by decide +kernel) rfl, ⟨_, _, rfl⟩⟩
theorem lV_L_152 : MLv RL 152 mX10_heights 10 2 := ⟨bX10_heights, b7 112 (by decide +kernel) rfl, b7 113 (by decide +kernel) rfl, b7 114 (by decide +kernel) rfl, ⟨_, _, rfl⟩⟩
theorem lV_L_153 : MLv RL 153 mX9_ask 9 1 := ⟨bX9_ask, b4 115 (by decide +kernel) rfl, b4 116 (by decide +kernel) rfl, b4 117 (by decide +kernel) rfl, ⟨_, _, rfl⟩⟩
theorem lV_L_156 : MLv RL 156 mX10_ask 10 1 := ⟨bX10_ask, b7 124 (by decide +kernel) rfl, b7 125 (by decide +kernel) rfl, b7 126 (by decide +kernel) rfl, ⟨_, _, rfl⟩⟩
theorem lV_L_157 : MLv RL 157 mX9_heard 9 2 := ⟨bX9_heard, b4 123 (by decide +kernel) rfl, b4 124 (by decide +kernel) rfl, b4 125 (by decide +kernel) rfl, ⟨_, _, rfl⟩⟩
theorem lV_L_160 : MLv RL 160 mX10_heard 10 2 := ⟨bX10_heard, b7 129 (by decide +kernel) rfl, b7 130 (by decide +kernel) rfl, b7 131 (by decide +kernel) rfl, ⟨_, _, rfl⟩⟩
theorem lV_L_161 : MLv RL 161 mX9_game 9 5 := ⟨bX9_game, b4 131 (by decide +kernel) rfl, b4 132 (by decide +kernel) rfl, b4 133 (by decide +kernel) rfl, ⟨_, _, rfl⟩⟩
theorem lV_L_164 : MLv RL 164 mX10_game 10 5 := ⟨bX10_game, b7 133 (by decide +kernel) rfl, b7 134 (by decide +kernel) rfl, b7 135 (by decide +kernel) rfl, ⟨_, _, rfl⟩⟩
theorem lV_L_165 : MLv RL 165 mX9_rests 9 3 := ⟨bX9_rests, b4 154 (by decide +kernel) rfl, b4 155 (by decide +kernel) rfl, b4 156 (by decide +kernel) rfl, ⟨_, _, rfl⟩⟩
theorem lV_L_168 : MLv RL 168 mX10_rests 10 3 := ⟨bX10_rests, b7 146 (by decide +kernel) rfl, b7 147 (by decide +kernel) rfl, b7 148 (by decide +kernel) rfl, ⟨_, _, rfl⟩⟩
theorem lV_L_169 : MLv RL 169 mX9_odds 9 3 := ⟨bX9_odds, b4 168 (by decide +kernel) rfl, b4 169 (by decide +kernel) rfl, b4 170 (by decide +kernel) rfl, ⟨_, _, rfl⟩⟩
theorem lV_L_172 : MLv RL 172 mX10_odds 10 3 := ⟨bX10_odds, b7 154 (by decide +kernel) rfl, b7 155 (by decide +kernel) rfl, b7 156 (by decide +kernel) rfl, ⟨_, _, rfl⟩⟩
theorem lV_L_173 : MLv RL 173 mX9_shares 9 2 := ⟨bX9_shares, b4 186 (by decide +kernel) rfl, b4 187 (by decide +kernel) rfl, b4 188 (by decide +kernel) rfl, ⟨_, _, rfl⟩⟩
theorem lV_L_176 : MLv RL 176 mX10_shares 10 2 := ⟨bX10_shares, b7 168 (by decide +kernel) rfl, b7 169 (by decide +kernel) rfl, b7 170 (by decide +kernel) rfl, ⟨_, _, rfl⟩⟩
theorem lV_L_177 : MLv RL 177 mX9_most 9 1 := ⟨bX9_most, b4 190 (by decide +kernel) rfl, b4 191 (by decide +kernel) rfl, b4 192 (by decide +kernel) rfl, ⟨_, _, rfl⟩⟩
theorem lV_L_180 : MLv RL 180 mX10_most 10 1 := ⟨bX10_most, b7 172 (by decide +kernel) rfl, b7 173 (by decide +kernel) rfl, b7 174 (by decide +kernel) rfl, ⟨_, _, rfl⟩⟩
theorem lV_L_181 : MLv RL 181 mX9_image 9 0 := ⟨bX9_image, b4 0 (by decide +kernel) rfl, b4 1 (by decide +kernel) rfl, b4 2 (by decide +kernel) rfl, ⟨_, _, rfl⟩⟩
theorem lV_L_184 : MLv RL 184 mX10_image 10 0 := ⟨bX10_image, b7 200 (by decide +kernel) rfl, b7 201 (by decide +kernel) rfl, b7 202 (by decide +kernel) rfl, ⟨_, _, rfl⟩⟩
theorem lV_L_185 : MLv RL 185 mX9_back 9 0 := ⟨bX9_back, b4 9 (by decide +kernel) rfl, b4 10 (by decide +kernel) rfl, b4 11 (by decide +kernel) rfl, ⟨_, _, rfl⟩⟩
theorem lV_L_188 : MLv RL 188 mX10_back 10 0 := ⟨bX10_back, b7 204 (by decide +kernel) rfl, b7 205 (by decide +kernel) rfl, b7 206 (by decide +kernel) rfl, ⟨_, _, rfl⟩⟩
theorem lV_L_189 : MLv RL 189 mX9_count 9 1 := ⟨bX9_count, b4 226 (by decide +kernel) rfl, b4 227 (by decide +kernel) rfl, b4 228 (by decide +kernel) rfl, ⟨_, _, rfl⟩⟩
theorem lV_L_192 : MLv RL 192 mX10_count 10 1 := ⟨bX10_count, b7 208 (by decide +kernel) rfl, b7 209 (by decide +kernel) rfl, b7 210 (by decide +kernel) rfl, ⟨_, _, rfl⟩⟩
set_option maxHeartbeats 4000000 in
set_option maxRecDepth 100000 in
theorem law_c0 {Rel : Nat → Nat → Nat → St → Prop} (hO : lawO Rel) (h0 : ∀ (v0 : Int32) (v1 : Int32) (v2 : Int32) (v3 : Int32) (v4 : Int32), stp Rel (fun t x => fX9_feed t x v0 v1 v2 v3 v4) (fun t m => fX10_feed t m v0 v1 v2 v3 v4)) {b L : Nat} {xs : Nat → Int32} {x mo ou j : Nat} (hj : 6 * j + 6 ≤ L) (hL : L ≤ 384) {σ : St} (hR : Rel x mo ou σ) (hk : ∀ t, Rel x mo ou t → LW b L xs (75 + 4 * (j + 1)) (20149 + 300 * (j + 1)) 1583 [(0, .ref b), (1, .ref x), (2, .ref mo), (3, .ref ou), (4, .int (nI (6 * j)))] [] t) : LW b L xs (75 + 4 * j) (20149 + 300 * j) 216 [(0, .ref b), (1, .ref x), (2, .ref mo), (3, .ref ou), (4, .int (nI (6 * j)))] [] σ := by
  refine LW.aload_n 1 dL_law_216 rfl rfl ?_
  refine LW.aload_n 0 dL_law_217 rfl rfl ?_
  refine LW.iload 4 dL_law_218 rfl ?_
  refine LW.iconst dL_law_220 kI_1 ?_
  refine LW.iadd dL_law_221 ?_
  refine LW.sld dL_law_222 (law_in hj hL).1 ?_
  refine LW.aload_n 0 dL_law_223 rfl rfl ?_
  refine LW.iload 4 dL_law_224 rfl ?_
  refine LW.iconst dL_law_226 kI_2 ?_
  refine LW.iadd dL_law_227 ?_
  refine LW.sld dL_law_228 (law_in hj hL).2.1 ?_
  refine LW.aload_n 0 dL_law_229 rfl rfl ?_
  refine LW.iload 4 dL_law_230 rfl ?_
  refine LW.iconst dL_law_232 kI_3 ?_
  refine LW.iadd dL_law_233 ?_
  refine LW.sld dL_law_234 (law_in hj hL).2.2.1 ?_
  refine LW.aload_n 0 dL_law_235 rfl rfl ?_
  refine LW.iload 4 dL_law_236 rfl ?_
  refine LW.iconst dL_law_238 kI_4 ?_
  refine LW.iadd dL_law_239 ?_
  refine LW.sld dL_law_240 (law_in hj hL).2.2.2.1 ?_
  refine LW.aload_n 0 dL_law_241 rfl rfl ?_
  refine LW.iload 4 dL_law_242 rfl ?_
  refine LW.iconst dL_law_244 kI_5 ?_
  refine LW.iadd dL_law_245 ?_
  refine LW.sld dL_law_246 (law_in hj hL).2.2.2.2 ?_
  obtain ⟨r, t1, t2, hp1, hO1, hp2, hR2⟩ := h0 ((xs (nI (6 * j) + 1).toNatClampNeg)) ((xs (nI (6 * j) + 2).toNatClampNeg)) ((xs (nI (6 * j) + 3).toNatClampNeg)) ((xs (nI (6 * j) + 4).toNatClampNeg)) ((xs (nI (6 * j) + 5).toNatClampNeg)) x mo ou σ hR
  refine LW.callv [.int (xs (nI (6 * j) + 1).toNatClampNeg), .int (xs (nI (6 * j) + 2).toNatClampNeg), .int (xs (nI (6 * j) + 3).toNatClampNeg), .int (xs (nI (6 * j) + 4).toNatClampNeg), .int (xs (nI (6 * j) + 5).toNatClampNeg)] (rest := []) dL_law_247 lV_L_19 rfl ⟨by decide, by show _ + 0 ≤ _; omega, by show _ + 0 ≤ _; omega, by decide⟩ (hO x mo ou σ hR).1 (gX9_feed σ x ((xs (nI (6 * j) + 1).toNatClampNeg)) ((xs (nI (6 * j) + 2).toNatClampNeg)) ((xs (nI (6 * j) + 3).toNatClampNeg)) ((xs (nI (6 * j) + 4).toNatClampNeg)) ((xs (nI (6 * j) + 5).toNatClampNeg)) _ _ hp1) (fun r9 t9 h9 => ?_)
  obtain ⟨rfl, h8⟩ := h9
  rw [h8]
  refine LW.at (st2 := [.int r]) (k2 := 75 + 4 * j) (n2 := 20149 + 300 * j) rfl rfl rfl ?_
  refine LW.aload_n 2 dL_law_250 rfl rfl ?_
  refine LW.aload_n 0 dL_law_251 rfl rfl ?_
  refine LW.iload 4 dL_law_252 rfl ?_
  refine LW.iconst dL_law_254 kI_1 ?_
  refine LW.iadd dL_law_255 ?_
  refine LW.sld dL_law_256 (law_in hj hL).1 ?_
  refine LW.aload_n 0 dL_law_257 rfl rfl ?_
  refine LW.iload 4 dL_law_258 rfl ?_
  refine LW.iconst dL_law_260 kI_2 ?_
  refine LW.iadd dL_law_261 ?_
  refine LW.sld dL_law_262 (law_in hj hL).2.1 ?_
  refine LW.aload_n 0 dL_law_263 rfl rfl ?_
  refine LW.iload 4 dL_law_264 rfl ?_
  refine LW.iconst dL_law_266 kI_3 ?_
  refine LW.iadd dL_law_267 ?_
  refine LW.sld dL_law_268 (law_in hj hL).2.2.1 ?_
  refine LW.aload_n 0 dL_law_269 rfl rfl ?_
  refine LW.iload 4 dL_law_270 rfl ?_
  refine LW.iconst dL_law_272 kI_4 ?_
  refine LW.iadd dL_law_273 ?_
  refine LW.sld dL_law_274 (law_in hj hL).2.2.2.1 ?_
  refine LW.aload_n 0 dL_law_275 rfl rfl ?_
  refine LW.iload 4 dL_law_276 rfl ?_
  refine LW.iconst dL_law_278 kI_5 ?_
  refine LW.iadd dL_law_279 ?_
  refine LW.sld dL_law_280 (law_in hj hL).2.2.2.2 ?_
  refine LW.callv [.int (xs (nI (6 * j) + 1).toNatClampNeg), .int (xs (nI (6 * j) + 2).toNatClampNeg), .int (xs (nI (6 * j) + 3).toNatClampNeg), .int (xs (nI (6 * j) + 4).toNatClampNeg), .int (xs (nI (6 * j) + 5).toNatClampNeg)] (rest := [.int r]) dL_law_281 lV_L_23 rfl ⟨by decide, by show _ + 0 ≤ _; omega, by show _ + 0 ≤ _; omega, Nat.le_of_ble_eq_true rfl⟩ hO1 (gX10_feed t1 mo ((xs (nI (6 * j) + 1).toNatClampNeg)) ((xs (nI (6 * j) + 2).toNatClampNeg)) ((xs (nI (6 * j) + 3).toNatClampNeg)) ((xs (nI (6 * j) + 4).toNatClampNeg)) ((xs (nI (6 * j) + 5).toNatClampNeg)) _ _ hp2) (fun r9 t9 h9 => ?_)
  obtain ⟨rfl, h8⟩ := h9
  rw [h8]
  refine LW.at (st2 := [.int r, .int r]) (k2 := 75 + 4 * j) (n2 := 20149 + 300 * j) rfl rfl rfl ?_
  refine LW.icmp_eqT (tgt := 1583) dL_law_284 (by decide) rfl ?_
  refine LW.widen (k2 := 75 + 4 * (j + 1)) (n2 := 20149 + 300 * (j + 1)) (by omega) (by omega) ?_
  exact hk t2 hR2
set_option maxHeartbeats 4000000 in
set_option maxRecDepth 100000 in
theorem law_c1 {Rel : Nat → Nat → Nat → St → Prop} (hO : lawO Rel) (h1 : ∀ (v0 : Int32), stp Rel (fun t x => fX9_end t x v0) (fun t m => fX10_end t m v0)) {b L : Nat} {xs : Nat → Int32} {x mo ou j : Nat} (hj : 6 * j + 6 ≤ L) (hL : L ≤ 384) {σ : St} (hR : Rel x mo ou σ) (hk : ∀ t, Rel x mo ou t → LW b L xs (75 + 4 * (j + 1)) (20149 + 300 * (j + 1)) 1583 [(0, .ref b), (1, .ref x), (2, .ref mo), (3, .ref ou), (4, .int (nI (6 * j)))] [] t) : LW b L xs (75 + 4 * j) (20149 + 300 * j) 289 [(0, .ref b), (1, .ref x), (2, .ref mo), (3, .ref ou), (4, .int (nI (6 * j)))] [] σ := by
  refine LW.aload_n 1 dL_law_289 rfl rfl ?_
  refine LW.aload_n 0 dL_law_290 rfl rfl ?_
  refine LW.iload 4 dL_law_291 rfl ?_
  refine LW.iconst dL_law_293 kI_1 ?_
  refine LW.iadd dL_law_294 ?_
  refine LW.sld dL_law_295 (law_in hj hL).1 ?_
  obtain ⟨r, t1, t2, hp1, hO1, hp2, hR2⟩ := h1 ((xs (nI (6 * j) + 1).toNatClampNeg)) x mo ou σ hR
  refine LW.callv [.int (xs (nI (6 * j) + 1).toNatClampNeg)] (rest := []) dL_law_296 lV_L_24 rfl ⟨by decide, by show _ + 0 ≤ _; omega, by show _ + 0 ≤ _; omega, by decide⟩ (hO x mo ou σ hR).1 (gX9_end σ x ((xs (nI (6 * j) + 1).toNatClampNeg)) _ _ hp1) (fun r9 t9 h9 => ?_)
  obtain ⟨rfl, h8⟩ := h9
  rw [h8]
  refine LW.at (st2 := [.int r]) (k2 := 75 + 4 * j) (n2 := 20149 + 300 * j) rfl rfl rfl ?_
  refine LW.aload_n 2 dL_law_299 rfl rfl ?_
  refine LW.aload_n 0 dL_law_300 rfl rfl ?_
  refine LW.iload 4 dL_law_301 rfl ?_
  refine LW.iconst dL_law_303 kI_1 ?_
  refine LW.iadd dL_law_304 ?_
  refine LW.sld dL_law_305 (law_in hj hL).1 ?_
  refine LW.callv [.int (xs (nI (6 * j) + 1).toNatClampNeg)] (rest := [.int r]) dL_law_306 lV_L_28 rfl ⟨by decide, by show _ + 0 ≤ _; omega, by show _ + 0 ≤ _; omega, Nat.le_of_ble_eq_true rfl⟩ hO1 (gX10_end t1 mo ((xs (nI (6 * j) + 1).toNatClampNeg)) _ _ hp2) (fun r9 t9 h9 => ?_)
  obtain ⟨rfl, h8⟩ := h9
  rw [h8]
  refine LW.at (st2 := [.int r, .int r]) (k2 := 75 + 4 * j) (n2 := 20149 + 300 * j) rfl rfl rfl ?_
  refine LW.icmp_eqT (tgt := 1583) dL_law_309 (by decide) rfl ?_
  refine LW.widen (k2 := 75 + 4 * (j + 1)) (n2 := 20149 + 300 * (j + 1)) (by omega) (by omega) ?_
  exact hk t2 hR2
set_option maxHeartbeats 4000000 in
set_option maxRecDepth 100000 in
theorem law_c2 {Rel : Nat → Nat → Nat → St → Prop} (hO : lawO Rel) (h2 : ∀ (v0 : Int32), stp Rel (fun t x => fX9_fault t x v0) (fun t m => fX10_fault t m v0)) {b L : Nat} {xs : Nat → Int32} {x mo ou j : Nat} (hj : 6 * j + 6 ≤ L) (hL : L ≤ 384) {σ : St} (hR : Rel x mo ou σ) (hk : ∀ t, Rel x mo ou t → LW b L xs (75 + 4 * (j + 1)) (20149 + 300 * (j + 1)) 1583 [(0, .ref b), (1, .ref x), (2, .ref mo), (3, .ref ou), (4, .int (nI (6 * j)))] [] t) : LW b L xs (75 + 4 * j) (20149 + 300 * j) 314 [(0, .ref b), (1, .ref x), (2, .ref mo), (3, .ref ou), (4, .int (nI (6 * j)))] [] σ := by
  refine LW.aload_n 1 dL_law_314 rfl rfl ?_
  refine LW.aload_n 0 dL_law_315 rfl rfl ?_
  refine LW.iload 4 dL_law_316 rfl ?_
  refine LW.iconst dL_law_318 kI_1 ?_
  refine LW.iadd dL_law_319 ?_
  refine LW.sld dL_law_320 (law_in hj hL).1 ?_
  obtain ⟨r, t1, t2, hp1, hO1, hp2, hR2⟩ := h2 ((xs (nI (6 * j) + 1).toNatClampNeg)) x mo ou σ hR
  refine LW.callv [.int (xs (nI (6 * j) + 1).toNatClampNeg)] (rest := []) dL_law_321 lV_L_29 rfl ⟨by decide, by show _ + 0 ≤ _; omega, by show _ + 0 ≤ _; omega, by decide⟩ (hO x mo ou σ hR).1 (gX9_fault σ x ((xs (nI (6 * j) + 1).toNatClampNeg)) _ _ hp1) (fun r9 t9 h9 => ?_)
  obtain ⟨rfl, h8⟩ := h9
  rw [h8]
  refine LW.at (st2 := [.int r]) (k2 := 75 + 4 * j) (n2 := 20149 + 300 * j) rfl rfl rfl ?_
  refine LW.aload_n 2 dL_law_324 rfl rfl ?_
  refine LW.aload_n 0 dL_law_325 rfl rfl ?_
  refine LW.iload 4 dL_law_326 rfl ?_
  refine LW.iconst dL_law_328 kI_1 ?_
  refine LW.iadd dL_law_329 ?_
  refine LW.sld dL_law_330 (law_in hj hL).1 ?_
  refine LW.callv [.int (xs (nI (6 * j) + 1).toNatClampNeg)] (rest := [.int r]) dL_law_331 lV_L_33 rfl ⟨by decide, by show _ + 0 ≤ _; omega, by show _ + 0 ≤ _; omega, Nat.le_of_ble_eq_true rfl⟩ hO1 (gX10_fault t1 mo ((xs (nI (6 * j) + 1).toNatClampNeg)) _ _ hp2) (fun r9 t9 h9 => ?_)
  obtain ⟨rfl, h8⟩ := h9
  rw [h8]
  refine LW.at (st2 := [.int r, .int r]) (k2 := 75 + 4 * j) (n2 := 20149 + 300 * j) rfl rfl rfl ?_
  refine LW.icmp_eqT (tgt := 1583) dL_law_334 (by decide) rfl ?_
  refine LW.widen (k2 := 75 + 4 * (j + 1)) (n2 := 20149 + 300 * (j + 1)) (by omega) (by omega) ?_
  exact hk t2 hR2
set_option maxHeartbeats 4000000 in
set_option maxRecDepth 100000 in
theorem law_c3 {Rel : Nat → Nat → Nat → St → Prop} (hO : lawO Rel) (h3 : ∀ (v0 : Int32), stpT Rel (fun t m => fX10_text t m v0) (fun t x F => wX9_text t x v0 F)) {b L : Nat} {xs : Nat → Int32} {x mo ou j : Nat} (hj : 6 * j + 6 ≤ L) (hL : L ≤ 384) {σ : St} (hR : Rel x mo ou σ) (hk : ∀ t, Rel x mo ou t → LW b L xs (75 + 4 * (j + 1)) (20149 + 300 * (j + 1)) 1583 [(0, .ref b), (1, .ref x), (2, .ref mo), (3, .ref ou), (4, .int (nI (6 * j)))] [] t) : LW b L xs (75 + 4 * j) (20149 + 300 * j) 339 [(0, .ref b), (1, .ref x), (2, .ref mo), (3, .ref ou), (4, .int (nI (6 * j)))] [] σ := by
  refine LW.aload_n 1 dL_law_339 rfl rfl ?_
  refine LW.aload_n 0 dL_law_340 rfl rfl ?_
  refine LW.iload 4 dL_law_341 rfl ?_
  refine LW.iconst dL_law_343 kI_1 ?_
  refine LW.iadd dL_law_344 ?_
  refine LW.sld dL_law_345 (law_in hj hL).1 ?_
  refine LW.callv [.int (xs (nI (6 * j) + 1).toNatClampNeg)] (rest := []) dL_law_346 lV_L_34 rfl ⟨by decide, by show _ + 3 ≤ _; omega, by show _ + 282 ≤ _; omega, by decide⟩ (hO x mo ou σ hR).1 (gX9_text σ x ((xs (nI (6 * j) + 1).toNatClampNeg)) _ (h3 ((xs (nI (6 * j) + 1).toNatClampNeg)) x mo ou σ hR)) (fun r9 t1 h9 => ?_)
  obtain ⟨r, rfl, hO1, t2, hp2, hR2⟩ := h9
  refine LW.at (st2 := [.int r]) (k2 := 75 + 4 * j + 3) (n2 := 20149 + 300 * j + 282) rfl rfl rfl ?_
  refine LW.aload_n 2 dL_law_349 rfl rfl ?_
  refine LW.aload_n 0 dL_law_350 rfl rfl ?_
  refine LW.iload 4 dL_law_351 rfl ?_
  refine LW.iconst dL_law_353 kI_1 ?_
  refine LW.iadd dL_law_354 ?_
  refine LW.sld dL_law_355 (law_in hj hL).1 ?_
  refine LW.callv [.int (xs (nI (6 * j) + 1).toNatClampNeg)] (rest := [.int r]) dL_law_356 lV_L_37 rfl ⟨by decide, by show _ + 0 ≤ _; omega, by show _ + 0 ≤ _; omega, Nat.le_of_ble_eq_true rfl⟩ hO1 (gX10_text t1 mo ((xs (nI (6 * j) + 1).toNatClampNeg)) _ _ hp2) (fun r9 t9 h9 => ?_)
  obtain ⟨rfl, h8⟩ := h9
  rw [h8]
  refine LW.at (st2 := [.int r, .int r]) (k2 := 75 + 4 * j + 3) (n2 := 20149 + 300 * j + 282) rfl rfl rfl ?_
  refine LW.icmp_eqT (tgt := 1583) dL_law_359 (by decide) rfl ?_
  refine LW.widen (k2 := 75 + 4 * (j + 1)) (n2 := 20149 + 300 * (j + 1)) (by omega) (by omega) ?_
  exact hk t2 hR2
set_option maxHeartbeats 4000000 in
set_option maxRecDepth 100000 in
theorem law_c4 {Rel : Nat → Nat → Nat → St → Prop} (hO : lawO Rel) (h4 : ∀ (v0 : Int32), stp Rel (fun t x => fX9_rule t x v0) (fun t m => fX10_rule t m v0)) {b L : Nat} {xs : Nat → Int32} {x mo ou j : Nat} (hj : 6 * j + 6 ≤ L) (hL : L ≤ 384) {σ : St} (hR : Rel x mo ou σ) (hk : ∀ t, Rel x mo ou t → LW b L xs (75 + 4 * (j + 1)) (20149 + 300 * (j + 1)) 1583 [(0, .ref b), (1, .ref x), (2, .ref mo), (3, .ref ou), (4, .int (nI (6 * j)))] [] t) : LW b L xs (75 + 4 * j) (20149 + 300 * j) 364 [(0, .ref b), (1, .ref x), (2, .ref mo), (3, .ref ou), (4, .int (nI (6 * j)))] [] σ := by
  refine LW.aload_n 1 dL_law_364 rfl rfl ?_
  refine LW.aload_n 0 dL_law_365 rfl rfl ?_
  refine LW.iload 4 dL_law_366 rfl ?_
  refine LW.iconst dL_law_368 kI_1 ?_
  refine LW.iadd dL_law_369 ?_
  refine LW.sld dL_law_370 (law_in hj hL).1 ?_
  obtain ⟨r, t1, t2, hp1, hO1, hp2, hR2⟩ := h4 ((xs (nI (6 * j) + 1).toNatClampNeg)) x mo ou σ hR
  refine LW.callv [.int (xs (nI (6 * j) + 1).toNatClampNeg)] (rest := []) dL_law_371 lV_L_38 rfl ⟨by decide, by show _ + 0 ≤ _; omega, by show _ + 0 ≤ _; omega, by decide⟩ (hO x mo ou σ hR).1 (gX9_rule σ x ((xs (nI (6 * j) + 1).toNatClampNeg)) _ _ hp1) (fun r9 t9 h9 => ?_)
  obtain ⟨rfl, h8⟩ := h9
  rw [h8]
  refine LW.at (st2 := [.int r]) (k2 := 75 + 4 * j) (n2 := 20149 + 300 * j) rfl rfl rfl ?_
  refine LW.aload_n 2 dL_law_374 rfl rfl ?_
  refine LW.aload_n 0 dL_law_375 rfl rfl ?_
  refine LW.iload 4 dL_law_376 rfl ?_
  refine LW.iconst dL_law_378 kI_1 ?_
  refine LW.iadd dL_law_379 ?_
  refine LW.sld dL_law_380 (law_in hj hL).1 ?_
  refine LW.callv [.int (xs (nI (6 * j) + 1).toNatClampNeg)] (rest := [.int r]) dL_law_381 lV_L_41 rfl ⟨by decide, by show _ + 0 ≤ _; omega, by show _ + 0 ≤ _; omega, Nat.le_of_ble_eq_true rfl⟩ hO1 (gX10_rule t1 mo ((xs (nI (6 * j) + 1).toNatClampNeg)) _ _ hp2) (fun r9 t9 h9 => ?_)
  obtain ⟨rfl, h8⟩ := h9
  rw [h8]
  refine LW.at (st2 := [.int r, .int r]) (k2 := 75 + 4 * j) (n2 := 20149 + 300 * j) rfl rfl rfl ?_
  refine LW.icmp_eqT (tgt := 1583) dL_law_384 (by decide) rfl ?_
  refine LW.widen (k2 := 75 + 4 * (j + 1)) (n2 := 20149 + 300 * (j + 1)) (by omega) (by omega) ?_
  exact hk t2 hR2
set_option maxHeartbeats 4000000 in
set_option maxRecDepth 100000 in
theorem law_c5 {Rel : Nat → Nat → Nat → St → Prop} (hO : lawO Rel) (h5 : ∀ (v0 : Int32), stp Rel (fun t x => fX9_height t x v0) (fun t m => fX10_height t m v0)) {b L : Nat} {xs : Nat → Int32} {x mo ou j : Nat} (hj : 6 * j + 6 ≤ L) (hL : L ≤ 384) {σ : St} (hR : Rel x mo ou σ) (hk : ∀ t, Rel x mo ou t → LW b L xs (75 + 4 * (j + 1)) (20149 + 300 * (j + 1)) 1583 [(0, .ref b), (1, .ref x), (2, .ref mo), (3, .ref ou), (4, .int (nI (6 * j)))] [] t) : LW b L xs (75 + 4 * j) (20149 + 300 * j) 389 [(0, .ref b), (1, .ref x), (2, .ref mo), (3, .ref ou), (4, .int (nI (6 * j)))] [] σ := by
  refine LW.aload_n 1 dL_law_389 rfl rfl ?_
  refine LW.aload_n 0 dL_law_390 rfl rfl ?_
  refine LW.iload 4 dL_law_391 rfl ?_
  refine LW.iconst dL_law_393 kI_1 ?_
  refine LW.iadd dL_law_394 ?_
  refine LW.sld dL_law_395 (law_in hj hL).1 ?_
  obtain ⟨r, t1, t2, hp1, hO1, hp2, hR2⟩ := h5 ((xs (nI (6 * j) + 1).toNatClampNeg)) x mo ou σ hR
  refine LW.callv [.int (xs (nI (6 * j) + 1).toNatClampNeg)] (rest := []) dL_law_396 lV_L_42 rfl ⟨by decide, by show _ + 0 ≤ _; omega, by show _ + 0 ≤ _; omega, by decide⟩ (hO x mo ou σ hR).1 (gX9_height σ x ((xs (nI (6 * j) + 1).toNatClampNeg)) _ _ hp1) (fun r9 t9 h9 => ?_)
  obtain ⟨rfl, h8⟩ := h9
  rw [h8]
  refine LW.at (st2 := [.int r]) (k2 := 75 + 4 * j) (n2 := 20149 + 300 * j) rfl rfl rfl ?_
  refine LW.aload_n 2 dL_law_399 rfl rfl ?_
  refine LW.aload_n 0 dL_law_400 rfl rfl ?_
  refine LW.iload 4 dL_law_401 rfl ?_
  refine LW.iconst dL_law_403 kI_1 ?_
  refine LW.iadd dL_law_404 ?_
  refine LW.sld dL_law_405 (law_in hj hL).1 ?_
  refine LW.callv [.int (xs (nI (6 * j) + 1).toNatClampNeg)] (rest := [.int r]) dL_law_406 lV_L_45 rfl ⟨by decide, by show _ + 0 ≤ _; omega, by show _ + 0 ≤ _; omega, Nat.le_of_ble_eq_true rfl⟩ hO1 (gX10_height t1 mo ((xs (nI (6 * j) + 1).toNatClampNeg)) _ _ hp2) (fun r9 t9 h9 => ?_)
  obtain ⟨rfl, h8⟩ := h9
  rw [h8]
  refine LW.at (st2 := [.int r, .int r]) (k2 := 75 + 4 * j) (n2 := 20149 + 300 * j) rfl rfl rfl ?_
  refine LW.icmp_eqT (tgt := 1583) dL_law_409 (by decide) rfl ?_
  refine LW.widen (k2 := 75 + 4 * (j + 1)) (n2 := 20149 + 300 * (j + 1)) (by omega) (by omega) ?_
  exact hk t2 hR2
set_option maxHeartbeats 4000000 in
set_option maxRecDepth 100000 in
theorem law_c7 {Rel : Nat → Nat → Nat → St → Prop} (hO : lawO Rel) (h7 : ∀ (v0 : Int32), stp Rel (fun t x => fX9_law t x v0) (fun t m => fX10_law t m v0)) {b L : Nat} {xs : Nat → Int32} {x mo ou j : Nat} (hj : 6 * j + 6 ≤ L) (hL : L ≤ 384) {σ : St} (hR : Rel x mo ou σ) (hk : ∀ t, Rel x mo ou t → LW b L xs (75 + 4 * (j + 1)) (20149 + 300 * (j + 1)) 1583 [(0, .ref b), (1, .ref x), (2, .ref mo), (3, .ref ou), (4, .int (nI (6 * j)))] [] t) : LW b L xs (75 + 4 * j) (20149 + 300 * j) 482 [(0, .ref b), (1, .ref x), (2, .ref mo), (3, .ref ou), (4, .int (nI (6 * j)))] [] σ := by
  refine LW.aload_n 1 dL_law_482 rfl rfl ?_
  refine LW.aload_n 0 dL_law_483 rfl rfl ?_
  refine LW.iload 4 dL_law_484 rfl ?_
  refine LW.iconst dL_law_486 kI_1 ?_
  refine LW.iadd dL_law_487 ?_
  refine LW.sld dL_law_488 (law_in hj hL).1 ?_
  obtain ⟨r, t1, t2, hp1, hO1, hp2, hR2⟩ := h7 ((xs (nI (6 * j) + 1).toNatClampNeg)) x mo ou σ hR
  refine LW.callv [.int (xs (nI (6 * j) + 1).toNatClampNeg)] (rest := []) dL_law_489 lV_L_56 rfl ⟨by decide, by show _ + 0 ≤ _; omega, by show _ + 0 ≤ _; omega, by decide⟩ (hO x mo ou σ hR).1 (gX9_law σ x ((xs (nI (6 * j) + 1).toNatClampNeg)) _ _ hp1) (fun r9 t9 h9 => ?_)
  obtain ⟨rfl, h8⟩ := h9
  rw [h8]
  refine LW.at (st2 := [.int r]) (k2 := 75 + 4 * j) (n2 := 20149 + 300 * j) rfl rfl rfl ?_
  refine LW.aload_n 2 dL_law_492 rfl rfl ?_
  refine LW.aload_n 0 dL_law_493 rfl rfl ?_
  refine LW.iload 4 dL_law_494 rfl ?_
  refine LW.iconst dL_law_496 kI_1 ?_
  refine LW.iadd dL_law_497 ?_
  refine LW.sld dL_law_498 (law_in hj hL).1 ?_
  refine LW.callv [.int (xs (nI (6 * j) + 1).toNatClampNeg)] (rest := [.int r]) dL_law_499 lV_L_59 rfl ⟨by decide, by show _ + 0 ≤ _; omega, by show _ + 0 ≤ _; omega, Nat.le_of_ble_eq_true rfl⟩ hO1 (gX10_law t1 mo ((xs (nI (6 * j) + 1).toNatClampNeg)) _ _ hp2) (fun r9 t9 h9 => ?_)
  obtain ⟨rfl, h8⟩ := h9
  rw [h8]
  refine LW.at (st2 := [.int r, .int r]) (k2 := 75 + 4 * j) (n2 := 20149 + 300 * j) rfl rfl rfl ?_
  refine LW.icmp_eqT (tgt := 1583) dL_law_502 (by decide) rfl ?_
  refine LW.widen (k2 := 75 + 4 * (j + 1)) (n2 := 20149 + 300 * (j + 1)) (by omega) (by omega) ?_
  exact hk t2 hR2
set_option maxHeartbeats 4000000 in
set_option maxRecDepth 100000 in
theorem law_c8 {Rel : Nat → Nat → Nat → St → Prop} (hO : lawO Rel) (h8 : ∀ (v0 : Int32), stp Rel (fun t x => fX9_hours t x v0) (fun t m => fX10_hours t m v0)) {b L : Nat} {xs : Nat → Int32} {x mo ou j : Nat} (hj : 6 * j + 6 ≤ L) (hL : L ≤ 384) {σ : St} (hR : Rel x mo ou σ) (hk : ∀ t, Rel x mo ou t → LW b L xs (75 + 4 * (j + 1)) (20149 + 300 * (j + 1)) 1583 [(0, .ref b), (1, .ref x), (2, .ref mo), (3, .ref ou), (4, .int (nI (6 * j)))] [] t) : LW b L xs (75 + 4 * j) (20149 + 300 * j) 507 [(0, .ref b), (1, .ref x), (2, .ref mo), (3, .ref ou), (4, .int (nI (6 * j)))] [] σ := by
  refine LW.aload_n 1 dL_law_507 rfl rfl ?_
  refine LW.aload_n 0 dL_law_508 rfl rfl ?_
  refine LW.iload 4 dL_law_509 rfl ?_
  refine LW.iconst dL_law_511 kI_1 ?_
  refine LW.iadd dL_law_512 ?_
  refine LW.sld dL_law_513 (law_in hj hL).1 ?_
  obtain ⟨r, t1, t2, hp1, hO1, hp2, hR2⟩ := h8 ((xs (nI (6 * j) + 1).toNatClampNeg)) x mo ou σ hR
  refine LW.callv [.int (xs (nI (6 * j) + 1).toNatClampNeg)] (rest := []) dL_law_514 lV_L_60 rfl ⟨by decide, by show _ + 0 ≤ _; omega, by show _ + 0 ≤ _; omega, by decide⟩ (hO x mo ou σ hR).1 (gX9_hours σ x ((xs (nI (6 * j) + 1).toNatClampNeg)) _ _ hp1) (fun r9 t9 h9 => ?_)
  obtain ⟨rfl, h8⟩ := h9
  rw [h8]
  refine LW.at (st2 := [.int r]) (k2 := 75 + 4 * j) (n2 := 20149 + 300 * j) rfl rfl rfl ?_
  refine LW.aload_n 2 dL_law_517 rfl rfl ?_
  refine LW.aload_n 0 dL_law_518 rfl rfl ?_
  refine LW.iload 4 dL_law_519 rfl ?_
  refine LW.iconst dL_law_521 kI_1 ?_
  refine LW.iadd dL_law_522 ?_
  refine LW.sld dL_law_523 (law_in hj hL).1 ?_
  refine LW.callv [.int (xs (nI (6 * j) + 1).toNatClampNeg)] (rest := [.int r]) dL_law_524 lV_L_63 rfl ⟨by decide, by show _ + 0 ≤ _; omega, by show _ + 0 ≤ _; omega, Nat.le_of_ble_eq_true rfl⟩ hO1 (gX10_hours t1 mo ((xs (nI (6 * j) + 1).toNatClampNeg)) _ _ hp2) (fun r9 t9 h9 => ?_)
  obtain ⟨rfl, h8⟩ := h9
  rw [h8]
  refine LW.at (st2 := [.int r, .int r]) (k2 := 75 + 4 * j) (n2 := 20149 + 300 * j) rfl rfl rfl ?_
  refine LW.icmp_eqT (tgt := 1583) dL_law_527 (by decide) rfl ?_
  refine LW.widen (k2 := 75 + 4 * (j + 1)) (n2 := 20149 + 300 * (j + 1)) (by omega) (by omega) ?_
  exact hk t2 hR2
set_option maxHeartbeats 4000000 in
set_option maxRecDepth 100000 in
theorem law_c9 {Rel : Nat → Nat → Nat → St → Prop} (hO : lawO Rel) (h9 : ∀ (v0 : Int32), stp Rel (fun t x => fX9_heap t x v0) (fun t m => fX10_heap t m v0)) {b L : Nat} {xs : Nat → Int32} {x mo ou j : Nat} (hj : 6 * j + 6 ≤ L) (hL : L ≤ 384) {σ : St} (hR : Rel x mo ou σ) (hk : ∀ t, Rel x mo ou t → LW b L xs (75 + 4 * (j + 1)) (20149 + 300 * (j + 1)) 1583 [(0, .ref b), (1, .ref x), (2, .ref mo), (3, .ref ou), (4, .int (nI (6 * j)))] [] t) : LW b L xs (75 + 4 * j) (20149 + 300 * j) 532 [(0, .ref b), (1, .ref x), (2, .ref mo), (3, .ref ou), (4, .int (nI (6 * j)))] [] σ := by
  refine LW.aload_n 1 dL_law_532 rfl rfl ?_
  refine LW.aload_n 0 dL_law_533 rfl rfl ?_
  refine LW.iload 4 dL_law_534 rfl ?_
  refine LW.iconst dL_law_536 kI_1 ?_
  refine LW.iadd dL_law_537 ?_
  refine LW.sld dL_law_538 (law_in hj hL).1 ?_
  obtain ⟨r, t1, t2, hp1, hO1, hp2, hR2⟩ := h9 ((xs (nI (6 * j) + 1).toNatClampNeg)) x mo ou σ hR
  refine LW.callv [.int (xs (nI (6 * j) + 1).toNatClampNeg)] (rest := []) dL_law_539 lV_L_64 rfl ⟨by decide, by show _ + 0 ≤ _; omega, by show _ + 0 ≤ _; omega, by decide⟩ (hO x mo ou σ hR).1 (gX9_heap σ x ((xs (nI (6 * j) + 1).toNatClampNeg)) _ _ hp1) (fun r9 t9 h9 => ?_)
  obtain ⟨rfl, h8⟩ := h9
  rw [h8]
  refine LW.at (st2 := [.int r]) (k2 := 75 + 4 * j) (n2 := 20149 + 300 * j) rfl rfl rfl ?_
  refine LW.aload_n 2 dL_law_542 rfl rfl ?_
  refine LW.aload_n 0 dL_law_543 rfl rfl ?_
  refine LW.iload 4 dL_law_544 rfl ?_
  refine LW.iconst dL_law_546 kI_1 ?_
  refine LW.iadd dL_law_547 ?_
  refine LW.sld dL_law_548 (law_in hj hL).1 ?_
  refine LW.callv [.int (xs (nI (6 * j) + 1).toNatClampNeg)] (rest := [.int r]) dL_law_549 lV_L_67 rfl ⟨by decide, by show _ + 0 ≤ _; omega, by show _ + 0 ≤ _; omega, Nat.le_of_ble_eq_true rfl⟩ hO1 (gX10_heap t1 mo ((xs (nI (6 * j) + 1).toNatClampNeg)) _ _ hp2) (fun r9 t9 h9 => ?_)
  obtain ⟨rfl, h8⟩ := h9
  rw [h8]
  refine LW.at (st2 := [.int r, .int r]) (k2 := 75 + 4 * j) (n2 := 20149 + 300 * j) rfl rfl rfl ?_
  refine LW.icmp_eqT (tgt := 1583) dL_law_552 (by decide) rfl ?_
  refine LW.widen (k2 := 75 + 4 * (j + 1)) (n2 := 20149 + 300 * (j + 1)) (by omega) (by omega) ?_
  exact hk t2 hR2
set_option maxHeartbeats 4000000 in
set_option maxRecDepth 100000 in
theorem law_c10 {Rel : Nat → Nat → Nat → St → Prop} (hO : lawO Rel) (h10 : ∀ (v0 : Int32), stp Rel (fun t x => fX9_dig t x v0) (fun t m => fX10_dig t m v0)) {b L : Nat} {xs : Nat → Int32} {x mo ou j : Nat} (hj : 6 * j + 6 ≤ L) (hL : L ≤ 384) {σ : St} (hR : Rel x mo ou σ) (hk : ∀ t, Rel x mo ou t → LW b L xs (75 + 4 * (j + 1)) (20149 + 300 * (j + 1)) 1583 [(0, .ref b), (1, .ref x), (2, .ref mo), (3, .ref ou), (4, .int (nI (6 * j)))] [] t) : LW b L xs (75 + 4 * j) (20149 + 300 * j) 557 [(0, .ref b), (1, .ref x), (2, .ref mo), (3, .ref ou), (4, .int (nI (6 * j)))] [] σ := by
  refine LW.aload_n 1 dL_law_557 rfl rfl ?_
  refine LW.aload_n 0 dL_law_558 rfl rfl ?_
  refine LW.iload 4 dL_law_559 rfl ?_
  refine LW.iconst dL_law_561 kI_1 ?_
  refine LW.iadd dL_law_562 ?_
  refine LW.sld dL_law_563 (law_in hj hL).1 ?_
  obtain ⟨r, t1, t2, hp1, hO1, hp2, hR2⟩ := h10 ((xs (nI (6 * j) + 1).toNatClampNeg)) x mo ou σ hR
  refine LW.callv [.int (xs (nI (6 * j) + 1).toNatClampNeg)] (rest := []) dL_law_564 lV_L_68 rfl ⟨by decide, by show _ + 0 ≤ _; omega, by show _ + 0 ≤ _; omega, by decide⟩ (hO x mo ou σ hR).1 (gX9_dig σ x ((xs (nI (6 * j) + 1).toNatClampNeg)) _ _ hp1) (fun r9 t9 h9 => ?_)
  obtain ⟨rfl, h8⟩ := h9
  rw [h8]
  refine LW.at (st2 := [.int r]) (k2 := 75 + 4 * j) (n2 := 20149 + 300 * j) rfl rfl rfl ?_
  refine LW.aload_n 2 dL_law_567 rfl rfl ?_
  refine LW.aload_n 0 dL_law_568 rfl rfl ?_
  refine LW.iload 4 dL_law_569 rfl ?_
  refine LW.iconst dL_law_571 kI_1 ?_
  refine LW.iadd dL_law_572 ?_
  refine LW.sld dL_law_573 (law_in hj hL).1 ?_
  refine LW.callv [.int (xs (nI (6 * j) + 1).toNatClampNeg)] (rest := [.int r]) dL_law_574 lV_L_71 rfl ⟨by decide, by show _ + 0 ≤ _; omega, by show _ + 0 ≤ _; omega, Nat.le_of_ble_eq_true rfl⟩ hO1 (gX10_dig t1 mo ((xs (nI (6 * j) + 1).toNatClampNeg)) _ _ hp2) (fun r9 t9 h9 => ?_)
  obtain ⟨rfl, h8⟩ := h9
  rw [h8]
  refine LW.at (st2 := [.int r, .int r]) (k2 := 75 + 4 * j) (n2 := 20149 + 300 * j) rfl rfl rfl ?_
  refine LW.icmp_eqT (tgt := 1583) dL_law_577 (by decide) rfl ?_
  refine LW.widen (k2 := 75 + 4 * (j + 1)) (n2 := 20149 + 300 * (j + 1)) (by omega) (by omega) ?_
  exact hk t2 hR2
set_option maxHeartbeats 4000000 in
set_option maxRecDepth 100000 in
theorem law_c11 {Rel : Nat → Nat → Nat → St → Prop} (hO : lawO Rel) (h11 : ∀ (v0 : Int32), stp Rel (fun t x => fX9_mast t x v0) (fun t m => fX10_mast t m v0)) {b L : Nat} {xs : Nat → Int32} {x mo ou j : Nat} (hj : 6 * j + 6 ≤ L) (hL : L ≤ 384) {σ : St} (hR : Rel x mo ou σ) (hk : ∀ t, Rel x mo ou t → LW b L xs (75 + 4 * (j + 1)) (20149 + 300 * (j + 1)) 1583 [(0, .ref b), (1, .ref x), (2, .ref mo), (3, .ref ou), (4, .int (nI (6 * j)))] [] t) : LW b L xs (75 + 4 * j) (20149 + 300 * j) 582 [(0, .ref b), (1, .ref x), (2, .ref mo), (3, .ref ou), (4, .int (nI (6 * j)))] [] σ := by
  refine LW.aload_n 1 dL_law_582 rfl rfl ?_
  refine LW.aload_n 0 dL_law_583 rfl rfl ?_
  refine LW.iload 4 dL_law_584 rfl ?_
  refine LW.iconst dL_law_586 kI_1 ?_
  refine LW.iadd dL_law_587 ?_
  refine LW.sld dL_law_588 (law_in hj hL).1 ?_
  obtain ⟨r, t1, t2, hp1, hO1, hp2, hR2⟩ := h11 ((xs (nI (6 * j) + 1).toNatClampNeg)) x mo ou σ hR
  refine LW.callv [.int (xs (nI (6 * j) + 1).toNatClampNeg)] (rest := []) dL_law_589 lV_L_72 rfl ⟨by decide, by show _ + 0 ≤ _; omega, by show _ + 0 ≤ _; omega, by decide⟩ (hO x mo ou σ hR).1 (gX9_mast σ x ((xs (nI (6 * j) + 1).toNatClampNeg)) _ _ hp1) (fun r9 t9 h9 => ?_)
  obtain ⟨rfl, h8⟩ := h9
  rw [h8]
  refine LW.at (st2 := [.int r]) (k2 := 75 + 4 * j) (n2 := 20149 + 300 * j) rfl rfl rfl ?_
  refine LW.aload_n 2 dL_law_592 rfl rfl ?_
  refine LW.aload_n 0 dL_law_593 rfl rfl ?_
  refine LW.iload 4 dL_law_594 rfl ?_
  refine LW.iconst dL_law_596 kI_1 ?_
  refine LW.iadd dL_law_597 ?_
  refine LW.sld dL_law_598 (law_in hj hL).1 ?_
  refine LW.callv [.int (xs (nI (6 * j) + 1).toNatClampNeg)] (rest := [.int r]) dL_law_599 lV_L_75 rfl ⟨by decide, by show _ + 0 ≤ _; omega, by show _ + 0 ≤ _; omega, Nat.le_of_ble_eq_true rfl⟩ hO1 (gX10_mast t1 mo ((xs (nI (6 * j) + 1).toNatClampNeg)) _ _ hp2) (fun r9 t9 h9 => ?_)
  obtain ⟨rfl, h8⟩ := h9
  rw [h8]
  refine LW.at (st2 := [.int r, .int r]) (k2 := 75 + 4 * j) (n2 := 20149 + 300 * j) rfl rfl rfl ?_
  refine LW.icmp_eqT (tgt := 1583) dL_law_602 (by decide) rfl ?_
  refine LW.widen (k2 := 75 + 4 * (j + 1)) (n2 := 20149 + 300 * (j + 1)) (by omega) (by omega) ?_
  exact hk t2 hR2
set_option maxHeartbeats 4000000 in
set_option maxRecDepth 100000 in
theorem law_c12 {Rel : Nat → Nat → Nat → St → Prop} (hO : lawO Rel) (h12 : ∀ (v0 : Int32) (v1 : Int32), stp Rel (fun t x => fX9_moves t x v0 v1) (fun t m => fX10_moves t m v0 v1)) {b L : Nat} {xs : Nat → Int32} {x mo ou j : Nat} (hj : 6 * j + 6 ≤ L) (hL : L ≤ 384) {σ : St} (hR : Rel x mo ou σ) (hk : ∀ t, Rel x mo ou t → LW b L xs (75 + 4 * (j + 1)) (20149 + 300 * (j + 1)) 1583 [(0, .ref b), (1, .ref x), (2, .ref mo), (3, .ref ou), (4, .int (nI (6 * j)))] [] t) : LW b L xs (75 + 4 * j) (20149 + 300 * j) 607 [(0, .ref b), (1, .ref x), (2, .ref mo), (3, .ref ou), (4, .int (nI (6 * j)))] [] σ := by
  refine LW.aload_n 1 dL_law_607 rfl rfl ?_
  refine LW.aload_n 0 dL_law_608 rfl rfl ?_
  refine LW.iload 4 dL_law_609 rfl ?_
  refine LW.iconst dL_law_611 kI_1 ?_
  refine LW.iadd dL_law_612 ?_
  refine LW.sld dL_law_613 (law_in hj hL).1 ?_
  refine LW.aload_n 0 dL_law_614 rfl rfl ?_
  refine LW.iload 4 dL_law_615 rfl ?_
  refine LW.iconst dL_law_617 kI_2 ?_
  refine LW.iadd dL_law_618 ?_
  refine LW.sld dL_law_619 (law_in hj hL).2.1 ?_
  obtain ⟨r, t1, t2, hp1, hO1, hp2, hR2⟩ := h12 ((xs (nI (6 * j) + 1).toNatClampNeg)) ((xs (nI (6 * j) + 2).toNatClampNeg)) x mo ou σ hR
  refine LW.callv [.int (xs (nI (6 * j) + 1).toNatClampNeg), .int (xs (nI (6 * j) + 2).toNatClampNeg)] (rest := []) dL_law_620 lV_L_76 rfl ⟨by decide, by show _ + 0 ≤ _; omega, by show _ + 0 ≤ _; omega, by decide⟩ (hO x mo ou σ hR).1 (gX9_moves σ x ((xs (nI (6 * j) + 1).toNatClampNeg)) ((xs (nI (6 * j) + 2).toNatClampNeg)) _ _ hp1) (fun r9 t9 h9 => ?_)
  obtain ⟨rfl, h8⟩ := h9
  rw [h8]
  refine LW.at (st2 := [.int r]) (k2 := 75 + 4 * j) (n2 := 20149 + 300 * j) rfl rfl rfl ?_
  refine LW.aload_n 2 dL_law_623 rfl rfl ?_
  refine LW.aload_n 0 dL_law_624 rfl rfl ?_
  refine LW.iload 4 dL_law_625 rfl ?_
  refine LW.iconst dL_law_627 kI_1 ?_
  refine LW.iadd dL_law_628 ?_
  refine LW.sld dL_law_629 (law_in hj hL).1 ?_
  refine LW.aload_n 0 dL_law_630 rfl rfl ?_
  refine LW.iload 4 dL_law_631 rfl ?_
  refine LW.iconst dL_law_633 kI_2 ?_
  refine LW.iadd dL_law_634 ?_
  refine LW.sld dL_law_635 (law_in hj hL).2.1 ?_
  refine LW.callv [.int (xs (nI (6 * j) + 1).toNatClampNeg), .int (xs (nI (6 * j) + 2).toNatClampNeg)] (rest := [.int r]) dL_law_636 lV_L_79 rfl ⟨by decide, by show _ + 0 ≤ _; omega, by show _ + 0 ≤ _; omega, Nat.le_of_ble_eq_true rfl⟩ hO1 (gX10_moves t1 mo ((xs (nI (6 * j) + 1).toNatClampNeg)) ((xs (nI (6 * j) + 2).toNatClampNeg)) _ _ hp2) (fun r9 t9 h9 => ?_)
  obtain ⟨rfl, h8⟩ := h9
  rw [h8]
  refine LW.at (st2 := [.int r, .int r]) (k2 := 75 + 4 * j) (n2 := 20149 + 300 * j) rfl rfl rfl ?_
  refine LW.icmp_eqT (tgt := 1583) dL_law_639 (by decide) rfl ?_
  refine LW.widen (k2 := 75 + 4 * (j + 1)) (n2 := 20149 + 300 * (j + 1)) (by omega) (by omega) ?_
  exact hk t2 hR2
set_option maxHeartbeats 4000000 in
set_option maxRecDepth 100000 in
theorem law_c13 {Rel : Nat → Nat → Nat → St → Prop} (hO : lawO Rel) (h13 : ∀ (v0 : Int32), stp Rel (fun t x => fX9_fog t x v0) (fun t m => fX10_fog t m v0)) {b L : Nat} {xs : Nat → Int32} {x mo ou j : Nat} (hj : 6 * j + 6 ≤ L) (hL : L ≤ 384) {σ : St} (hR : Rel x mo ou σ) (hk : ∀ t, Rel x mo ou t → LW b L xs (75 + 4 * (j + 1)) (20149 + 300 * (j + 1)) 1583 [(0, .ref b), (1, .ref x), (2, .ref mo), (3, .ref ou), (4, .int (nI (6 * j)))] [] t) : LW b L xs (75 + 4 * j) (20149 + 300 * j) 644 [(0, .ref b), (1, .ref x), (2, .ref mo), (3, .ref ou), (4, .int (nI (6 * j)))] [] σ := by
  refine LW.aload_n 1 dL_law_644 rfl rfl ?_
  refine LW.aload_n 0 dL_law_645 rfl rfl ?_
  refine LW.iload 4 dL_law_646 rfl ?_
  refine LW.iconst dL_law_648 kI_1 ?_
  refine LW.iadd dL_law_649 ?_
  refine LW.sld dL_law_650 (law_in hj hL).1 ?_
  obtain ⟨r, t1, t2, hp1, hO1, hp2, hR2⟩ := h13 ((xs (nI (6 * j) + 1).toNatClampNeg)) x mo ou σ hR
  refine LW.callv [.int (xs (nI (6 * j) + 1).toNatClampNeg)] (rest := []) dL_law_651 lV_L_80 rfl ⟨by decide, by show _ + 0 ≤ _; omega, by show _ + 0 ≤ _; omega, by decide⟩ (hO x mo ou σ hR).1 (gX9_fog σ x ((xs (nI (6 * j) + 1).toNatClampNeg)) _ _ hp1) (fun r9 t9 h9 => ?_)
  obtain ⟨rfl, h8⟩ := h9
  rw [h8]
  refine LW.at (st2 := [.int r]) (k2 := 75 + 4 * j) (n2 := 20149 + 300 * j) rfl rfl rfl ?_
  refine LW.aload_n 2 dL_law_654 rfl rfl ?_
  refine LW.aload_n 0 dL_law_655 rfl rfl ?_
  refine LW.iload 4 dL_law_656 rfl ?_
  refine LW.iconst dL_law_658 kI_1 ?_
  refine LW.iadd dL_law_659 ?_
  refine LW.sld dL_law_660 (law_in hj hL).1 ?_
  refine LW.callv [.int (xs (nI (6 * j) + 1).toNatClampNeg)] (rest := [.int r]) dL_law_661 lV_L_83 rfl ⟨by decide, by show _ + 0 ≤ _; omega, by show _ + 0 ≤ _; omega, Nat.le_of_ble_eq_true rfl⟩ hO1 (gX10_fog t1 mo ((xs (nI (6 * j) + 1).toNatClampNeg)) _ _ hp2) (fun r9 t9 h9 => ?_)
  obtain ⟨rfl, h8⟩ := h9
  rw [h8]
  refine LW.at (st2 := [.int r, .int r]) (k2 := 75 + 4 * j) (n2 := 20149 + 300 * j) rfl rfl rfl ?_
  refine LW.icmp_eqT (tgt := 1583) dL_law_664 (by decide) rfl ?_
  refine LW.widen (k2 := 75 + 4 * (j + 1)) (n2 := 20149 + 300 * (j + 1)) (by omega) (by omega) ?_
  exact hk t2 hR2
set_option maxHeartbeats 4000000 in
set_option maxRecDepth 100000 in
theorem law_c14 {Rel : Nat → Nat → Nat → St → Prop} (hO : lawO Rel) (h14 : ∀ (v0 : Int32), stp Rel (fun t x => fX9_oath t x v0) (fun t m => fX10_oath t m v0)) {b L : Nat} {xs : Nat → Int32} {x mo ou j : Nat} (hj : 6 * j + 6 ≤ L) (hL : L ≤ 384) {σ : St} (hR : Rel x mo ou σ) (hk : ∀ t, Rel x mo ou t → LW b L xs (75 + 4 * (j + 1)) (20149 + 300 * (j + 1)) 1583 [(0, .ref b), (1, .ref x), (2, .ref mo), (3, .ref ou), (4, .int (nI (6 * j)))] [] t) : LW b L xs (75 + 4 * j) (20149 + 300 * j) 669 [(0, .ref b), (1, .ref x), (2, .ref mo), (3, .ref ou), (4, .int (nI (6 * j)))] [] σ := by
  refine LW.aload_n 1 dL_law_669 rfl rfl ?_
  refine LW.aload_n 0 dL_law_670 rfl rfl ?_
  refine LW.iload 4 dL_law_671 rfl ?_
  refine LW.iconst dL_law_673 kI_1 ?_
  refine LW.iadd dL_law_674 ?_
  refine LW.sld dL_law_675 (law_in hj hL).1 ?_
  obtain ⟨r, t1, t2, hp1, hO1, hp2, hR2⟩ := h14 ((xs (nI (6 * j) + 1).toNatClampNeg)) x mo ou σ hR
  refine LW.callv [.int (xs (nI (6 * j) + 1).toNatClampNeg)] (rest := []) dL_law_676 lV_L_84 rfl ⟨by decide, by show _ + 0 ≤ _; omega, by show _ + 0 ≤ _; omega, by decide⟩ (hO x mo ou σ hR).1 (gX9_oath σ x ((xs (nI (6 * j) + 1).toNatClampNeg)) _ _ hp1) (fun r9 t9 h9 => ?_)
  obtain ⟨rfl, h8⟩ := h9
  rw [h8]
  refine LW.at (st2 := [.int r]) (k2 := 75 + 4 * j) (n2 := 20149 + 300 * j) rfl rfl rfl ?_
  refine LW.aload_n 2 dL_law_679 rfl rfl ?_
  refine LW.aload_n 0 dL_law_680 rfl rfl ?_
  refine LW.iload 4 dL_law_681 rfl ?_
  refine LW.iconst dL_law_683 kI_1 ?_
  refine LW.iadd dL_law_684 ?_
  refine LW.sld dL_law_685 (law_in hj hL).1 ?_
  refine LW.callv [.int (xs (nI (6 * j) + 1).toNatClampNeg)] (rest := [.int r]) dL_law_686 lV_L_87 rfl ⟨by decide, by show _ + 0 ≤ _; omega, by show _ + 0 ≤ _; omega, Nat.le_of_ble_eq_true rfl⟩ hO1 (gX10_oath t1 mo ((xs (nI (6 * j) + 1).toNatClampNeg)) _ _ hp2) (fun r9 t9 h9 => ?_)
  obtain ⟨rfl, h8⟩ := h9
  rw [h8]
  refine LW.at (st2 := [.int r, .int r]) (k2 := 75 + 4 * j) (n2 := 20149 + 300 * j) rfl rfl rfl ?_
  refine LW.icmp_eqT (tgt := 1583) dL_law_689 (by decide) rfl ?_
  refine LW.widen (k2 := 75 + 4 * (j + 1)) (n2 := 20149 + 300 * (j + 1)) (by omega) (by omega) ?_
  exact hk t2 hR2
set_option maxHeartbeats 4000000 in
set_option maxRecDepth 100000 in
theorem law_c15 {Rel : Nat → Nat → Nat → St → Prop} (hO : lawO Rel) (h15 : ∀ (v0 : Int32), stp Rel (fun t x => fX9_give t x v0) (fun t m => fX10_give t m v0)) {b L : Nat} {xs : Nat → Int32} {x mo ou j : Nat} (hj : 6 * j + 6 ≤ L) (hL : L ≤ 384) {σ : St} (hR : Rel x mo ou σ) (hk : ∀ t, Rel x mo ou t → LW b L xs (75 + 4 * (j + 1)) (20149 + 300 * (j + 1)) 1583 [(0, .ref b), (1, .ref x), (2, .ref mo), (3, .ref ou), (4, .int (nI (6 * j)))] [] t) : LW b L xs (75 + 4 * j) (20149 + 300 * j) 694 [(0, .ref b), (1, .ref x), (2, .ref mo), (3, .ref ou), (4, .int (nI (6 * j)))] [] σ := by
  refine LW.aload_n 1 dL_law_694 rfl rfl ?_
  refine LW.aload_n 0 dL_law_695 rfl rfl ?_
  refine LW.iload 4 dL_law_696 rfl ?_
  refine LW.iconst dL_law_698 kI_1 ?_
  refine LW.iadd dL_law_699 ?_
  refine LW.sld dL_law_700 (law_in hj hL).1 ?_
  obtain ⟨r, t1, t2, hp1, hO1, hp2, hR2⟩ := h15 ((xs (nI (6 * j) + 1).toNatClampNeg)) x mo ou σ hR
  refine LW.callv [.int (xs (nI (6 * j) + 1).toNatClampNeg)] (rest := []) dL_law_701 lV_L_88 rfl ⟨by decide, by show _ + 0 ≤ _; omega, by show _ + 0 ≤ _; omega, by decide⟩ (hO x mo ou σ hR).1 (gX9_give σ x ((xs (nI (6 * j) + 1).toNatClampNeg)) _ _ hp1) (fun r9 t9 h9 => ?_)
  obtain ⟨rfl, h8⟩ := h9
  rw [h8]
  refine LW.at (st2 := [.int r]) (k2 := 75 + 4 * j) (n2 := 20149 + 300 * j) rfl rfl rfl ?_
  refine LW.aload_n 2 dL_law_704 rfl rfl ?_
  refine LW.aload_n 0 dL_law_705 rfl rfl ?_
  refine LW.iload 4 dL_law_706 rfl ?_
  refine LW.iconst dL_law_708 kI_1 ?_
  refine LW.iadd dL_law_709 ?_
  refine LW.sld dL_law_710 (law_in hj hL).1 ?_
  refine LW.callv [.int (xs (nI (6 * j) + 1).toNatClampNeg)] (rest := [.int r]) dL_law_711 lV_L_91 rfl ⟨by decide, by show _ + 0 ≤ _; omega, by show _ + 0 ≤ _; omega, Nat.le_of_ble_eq_true rfl⟩ hO1 (gX10_give t1 mo ((xs (nI (6 * j) + 1).toNatClampNeg)) _ _ hp2) (fun r9 t9 h9 => ?_)
  obtain ⟨rfl, h8⟩ := h9
  rw [h8]
  refine LW.at (st2 := [.int r, .int r]) (k2 := 75 + 4 * j) (n2 := 20149 + 300 * j) rfl rfl rfl ?_
  refine LW.icmp_eqT (tgt := 1583) dL_law_714 (by decide) rfl ?_
  refine LW.widen (k2 := 75 + 4 * (j + 1)) (n2 := 20149 + 300 * (j + 1)) (by omega) (by omega) ?_
  exact hk t2 hR2
set_option maxHeartbeats 4000000 in
set_option maxRecDepth 100000 in
theorem law_c16 {Rel : Nat → Nat → Nat → St → Prop} (hO : lawO Rel) (h16 : ∀ (v0 : Int32), stp Rel (fun t x => fX9_mist t x v0) (fun t m => fX10_mist t m v0)) {b L : Nat} {xs : Nat → Int32} {x mo ou j : Nat} (hj : 6 * j + 6 ≤ L) (hL : L ≤ 384) {σ : St} (hR : Rel x mo ou σ) (hk : ∀ t, Rel x mo ou t → LW b L xs (75 + 4 * (j + 1)) (20149 + 300 * (j + 1)) 1583 [(0, .ref b), (1, .ref x), (2, .ref mo), (3, .ref ou), (4, .int (nI (6 * j)))] [] t) : LW b L xs (75 + 4 * j) (20149 + 300 * j) 719 [(0, .ref b), (1, .ref x), (2, .ref mo), (3, .ref ou), (4, .int (nI (6 * j)))] [] σ := by
  refine LW.aload_n 1 dL_law_719 rfl rfl ?_
  refine LW.aload_n 0 dL_law_720 rfl rfl ?_
  refine LW.iload 4 dL_law_721 rfl ?_
  refine LW.iconst dL_law_723 kI_1 ?_
  refine LW.iadd dL_law_724 ?_
  refine LW.sld dL_law_725 (law_in hj hL).1 ?_
  obtain ⟨r, t1, t2, hp1, hO1, hp2, hR2⟩ := h16 ((xs (nI (6 * j) + 1).toNatClampNeg)) x mo ou σ hR
  refine LW.callv [.int (xs (nI (6 * j) + 1).toNatClampNeg)] (rest := []) dL_law_726 lV_L_92 rfl ⟨by decide, by show _ + 0 ≤ _; omega, by show _ + 0 ≤ _; omega, by decide⟩ (hO x mo ou σ hR).1 (gX9_mist σ x ((xs (nI (6 * j) + 1).toNatClampNeg)) _ _ hp1) (fun r9 t9 h9 => ?_)
  obtain ⟨rfl, h8⟩ := h9
  rw [h8]
  refine LW.at (st2 := [.int r]) (k2 := 75 + 4 * j) (n2 := 20149 + 300 * j) rfl rfl rfl ?_
  refine LW.aload_n 2 dL_law_729 rfl rfl ?_
  refine LW.aload_n 0 dL_law_730 rfl rfl ?_
  refine LW.iload 4 dL_law_731 rfl ?_
  refine LW.iconst dL_law_733 kI_1 ?_
  refine LW.iadd dL_law_734 ?_
  refine LW.sld dL_law_735 (law_in hj hL).1 ?_
  refine LW.callv [.int (xs (nI (6 * j) + 1).toNatClampNeg)] (rest := [.int r]) dL_law_736 lV_L_95 rfl ⟨by decide, by show _ + 0 ≤ _; omega, by show _ + 0 ≤ _; omega, Nat.le_of_ble_eq_true rfl⟩ hO1 (gX10_mist t1 mo ((xs (nI (6 * j) + 1).toNatClampNeg)) _ _ hp2) (fun r9 t9 h9 => ?_)
  obtain ⟨rfl, h8⟩ := h9
  rw [h8]
  refine LW.at (st2 := [.int r, .int r]) (k2 := 75 + 4 * j) (n2 := 20149 + 300 * j) rfl rfl rfl ?_
  refine LW.icmp_eqT (tgt := 1583) dL_law_739 (by decide) rfl ?_
  refine LW.widen (k2 := 75 + 4 * (j + 1)) (n2 := 20149 + 300 * (j + 1)) (by omega) (by omega) ?_
  exact hk t2 hR2
set_option maxHeartbeats 4000000 in
set_option maxRecDepth 100000 in
theorem law_c17 {Rel : Nat → Nat → Nat → St → Prop} (hO : lawO Rel) (h17 : ∀ (v0 : Int32) (v1 : Int64), stp Rel (fun t x => fX9_years t x v0 v1) (fun t m => fX10_years t m v0 v1)) {b L : Nat} {xs : Nat → Int32} {x mo ou j : Nat} (hj : 6 * j + 6 ≤ L) (hL : L ≤ 384) {σ : St} (hR : Rel x mo ou σ) (hk : ∀ t, Rel x mo ou t → LW b L xs (75 + 4 * (j + 1)) (20149 + 300 * (j + 1)) 1583 [(0, .ref b), (1, .ref x), (2, .ref mo), (3, .ref ou), (4, .int (nI (6 * j)))] [] t) : LW b L xs (75 + 4 * j) (20149 + 300 * j) 744 [(0, .ref b), (1, .ref x), (2, .ref mo), (3, .ref ou), (4, .int (nI (6 * j)))] [] σ := by
  refine LW.aload_n 1 dL_law_744 rfl rfl ?_
  refine LW.aload_n 0 dL_law_745 rfl rfl ?_
  refine LW.iload 4 dL_law_746 rfl ?_
  refine LW.iconst dL_law_748 kI_1 ?_
  refine LW.iadd dL_law_749 ?_
  refine LW.sld dL_law_750 (law_in hj hL).1 ?_
  refine LW.aload_n 0 dL_law_751 rfl rfl ?_
  refine LW.iload 4 dL_law_752 rfl ?_
  refine LW.iconst dL_law_754 kI_2 ?_
  refine LW.iadd dL_law_755 ?_
  refine LW.sld dL_law_756 (law_in hj hL).2.1 ?_
  refine LW.i2l dL_law_757 ?_
  refine LW.bipush dL_law_758 kB_32 ?_
  refine LW.lshl dL_law_760 ?_
  refine LW.aload_n 0 dL_law_761 rfl rfl ?_
  refine LW.iload 4 dL_law_762 rfl ?_
  refine LW.iconst dL_law_764 kI_3 ?_
  refine LW.iadd dL_law_765 ?_
  refine LW.sld dL_law_766 (law_in hj hL).2.2.1 ?_
  refine LW.i2l dL_law_767 ?_
  refine LW.ldc2 (v := 4294967295) dL_law_768 lKL_L_96 ?_
  refine LW.land dL_law_771 ?_
  refine LW.lor dL_law_772 ?_
  obtain ⟨r, t1, t2, hp1, hO1, hp2, hR2⟩ := h17 ((xs (nI (6 * j) + 1).toNatClampNeg)) ((((Int32.toInt64 (xs (nI (6 * j) + 2).toNatClampNeg)) <<< ((Int32.toInt64 32) &&& 63)) ||| (((Int32.toInt64 (xs (nI (6 * j) + 3).toNatClampNeg)) &&& 4294967295)))) x mo ou σ hR
  refine LW.callv [.int (xs (nI (6 * j) + 1).toNatClampNeg), .long (((Int32.toInt64 (xs (nI (6 * j) + 2).toNatClampNeg)) <<< ((Int32.toInt64 32) &&& 63)) ||| (((Int32.toInt64 (xs (nI (6 * j) + 3).toNatClampNeg)) &&& 4294967295)))] (rest := []) dL_law_773 lV_L_98 rfl ⟨by decide, by show _ + 0 ≤ _; omega, by show _ + 0 ≤ _; omega, by decide⟩ (hO x mo ou σ hR).1 (gX9_years σ x ((xs (nI (6 * j) + 1).toNatClampNeg)) ((((Int32.toInt64 (xs (nI (6 * j) + 2).toNatClampNeg)) <<< ((Int32.toInt64 32) &&& 63)) ||| (((Int32.toInt64 (xs (nI (6 * j) + 3).toNatClampNeg)) &&& 4294967295)))) _ _ hp1) (fun r9 t9 h9 => ?_)
  obtain ⟨rfl, h8⟩ := h9
  rw [h8]
  refine LW.at (st2 := [.int r]) (k2 := 75 + 4 * j) (n2 := 20149 + 300 * j) rfl rfl rfl ?_
  refine LW.aload_n 2 dL_law_776 rfl rfl ?_
  refine LW.aload_n 0 dL_law_777 rfl rfl ?_
  refine LW.iload 4 dL_law_778 rfl ?_
  refine LW.iconst dL_law_780 kI_1 ?_
  refine LW.iadd dL_law_781 ?_
  refine LW.sld dL_law_782 (law_in hj hL).1 ?_
  refine LW.aload_n 0 dL_law_783 rfl rfl ?_
  refine LW.iload 4 dL_law_784 rfl ?_
  refine LW.iconst dL_law_786 kI_2 ?_
  refine LW.iadd dL_law_787 ?_
  refine LW.sld dL_law_788 (law_in hj hL).2.1 ?_
  refine LW.i2l dL_law_789 ?_
  refine LW.bipush dL_law_790 kB_32 ?_
  refine LW.lshl dL_law_792 ?_
  refine LW.aload_n 0 dL_law_793 rfl rfl ?_
  refine LW.iload 4 dL_law_794 rfl ?_
  refine LW.iconst dL_law_796 kI_3 ?_
  refine LW.iadd dL_law_797 ?_
  refine LW.sld dL_law_798 (law_in hj hL).2.2.1 ?_
  refine LW.i2l dL_law_799 ?_
  refine LW.ldc2 (v := 4294967295) dL_law_800 lKL_L_96 ?_
  refine LW.land dL_law_803 ?_
  refine LW.lor dL_law_804 ?_
  refine LW.callv [.int (xs (nI (6 * j) + 1).toNatClampNeg), .long (((Int32.toInt64 (xs (nI (6 * j) + 2).toNatClampNeg)) <<< ((Int32.toInt64 32) &&& 63)) ||| (((Int32.toInt64 (xs (nI (6 * j) + 3).toNatClampNeg)) &&& 4294967295)))] (rest := [.int r]) dL_law_805 lV_L_102 rfl ⟨by decide, by show _ + 0 ≤ _; omega, by show _ + 0 ≤ _; omega, Nat.le_of_ble_eq_true rfl⟩ hO1 (gX10_years t1 mo ((xs (nI (6 * j) + 1).toNatClampNeg)) ((((Int32.toInt64 (xs (nI (6 * j) + 2).toNatClampNeg)) <<< ((Int32.toInt64 32) &&& 63)) ||| (((Int32.toInt64 (xs (nI (6 * j) + 3).toNatClampNeg)) &&& 4294967295)))) _ _ hp2) (fun r9 t9 h9 => ?_)
  obtain ⟨rfl, h8⟩ := h9
  rw [h8]
  refine LW.at (st2 := [.int r, .int r]) (k2 := 75 + 4 * j) (n2 := 20149 + 300 * j) rfl rfl rfl ?_
  refine LW.icmp_eqT (tgt := 1583) dL_law_808 (by decide) rfl ?_
  refine LW.widen (k2 := 75 + 4 * (j + 1)) (n2 := 20149 + 300 * (j + 1)) (by omega) (by omega) ?_
  exact hk t2 hR2
set_option maxHeartbeats 4000000 in
set_option maxRecDepth 100000 in
theorem law_c18 {Rel : Nat → Nat → Nat → St → Prop} (hO : lawO Rel) (h18 : ∀ (v0 : Int32), stp Rel (fun t x => fX9_status t x v0) (fun t m => fX10_status t m v0)) {b L : Nat} {xs : Nat → Int32} {x mo ou j : Nat} (hj : 6 * j + 6 ≤ L) (hL : L ≤ 384) {σ : St} (hR : Rel x mo ou σ) (hk : ∀ t, Rel x mo ou t → LW b L xs (75 + 4 * (j + 1)) (20149 + 300 * (j + 1)) 1583 [(0, .ref b), (1, .ref x), (2, .ref mo), (3, .ref ou), (4, .int (nI (6 * j)))] [] t) : LW b L xs (75 + 4 * j) (20149 + 300 * j) 813 [(0, .ref b), (1, .ref x), (2, .ref mo), (3, .ref ou), (4, .int (nI (6 * j)))] [] σ := by
  refine LW.aload_n 1 dL_law_813 rfl rfl ?_
  refine LW.aload_n 0 dL_law_814 rfl rfl ?_
  refine LW.iload 4 dL_law_815 rfl ?_
  refine LW.iconst dL_law_817 kI_1 ?_
  refine LW.iadd dL_law_818 ?_
  refine LW.sld dL_law_819 (law_in hj hL).1 ?_
  obtain ⟨r, t1, t2, hp1, hO1, hp2, hR2⟩ := h18 ((xs (nI (6 * j) + 1).toNatClampNeg)) x mo ou σ hR
  refine LW.callv [.int (xs (nI (6 * j) + 1).toNatClampNeg)] (rest := []) dL_law_820 lV_L_103 rfl ⟨by decide, by show _ + 0 ≤ _; omega, by show _ + 0 ≤ _; omega, by decide⟩ (hO x mo ou σ hR).1 (gX9_status σ x ((xs (nI (6 * j) + 1).toNatClampNeg)) _ _ hp1) (fun r9 t9 h9 => ?_)
  obtain ⟨rfl, h8⟩ := h9
  rw [h8]
  refine LW.at (st2 := [.int r]) (k2 := 75 + 4 * j) (n2 := 20149 + 300 * j) rfl rfl rfl ?_
  refine LW.aload_n 2 dL_law_823 rfl rfl ?_
  refine LW.aload_n 0 dL_law_824 rfl rfl ?_
  refine LW.iload 4 dL_law_825 rfl ?_
  refine LW.iconst dL_law_827 kI_1 ?_
  refine LW.iadd dL_law_828 ?_
  refine LW.sld dL_law_829 (law_in hj hL).1 ?_
  refine LW.callv [.int (xs (nI (6 * j) + 1).toNatClampNeg)] (rest := [.int r]) dL_law_830 lV_L_106 rfl ⟨by decide, by show _ + 0 ≤ _; omega, by show _ + 0 ≤ _; omega, Nat.le_of_ble_eq_true rfl⟩ hO1 (gX10_status t1 mo ((xs (nI (6 * j) + 1).toNatClampNeg)) _ _ hp2) (fun r9 t9 h9 => ?_)
  obtain ⟨rfl, h8⟩ := h9
  rw [h8]
  refine LW.at (st2 := [.int r, .int r]) (k2 := 75 + 4 * j) (n2 := 20149 + 300 * j) rfl rfl rfl ?_
  refine LW.icmp_eqT (tgt := 1583) dL_law_833 (by decide) rfl ?_
  refine LW.widen (k2 := 75 + 4 * (j + 1)) (n2 := 20149 + 300 * (j + 1)) (by omega) (by omega) ?_
  exact hk t2 hR2
set_option maxHeartbeats 4000000 in
set_option maxRecDepth 100000 in
theorem law_c19 {Rel : Nat → Nat → Nat → St → Prop} (hO : lawO Rel) (h19 : stp Rel (fun t x => fX9_undo t x ) (fun t m => fX10_undo t m )) {b L : Nat} {xs : Nat → Int32} {x mo ou j : Nat} (hj : 6 * j + 6 ≤ L) (hL : L ≤ 384) {σ : St} (hR : Rel x mo ou σ) (hk : ∀ t, Rel x mo ou t → LW b L xs (75 + 4 * (j + 1)) (20149 + 300 * (j + 1)) 1583 [(0, .ref b), (1, .ref x), (2, .ref mo), (3, .ref ou), (4, .int (nI (6 * j)))] [] t) : LW b L xs (75 + 4 * j) (20149 + 300 * j) 838 [(0, .ref b), (1, .ref x), (2, .ref mo), (3, .ref ou), (4, .int (nI (6 * j)))] [] σ := by
  refine LW.aload_n 1 dL_law_838 rfl rfl ?_
  obtain ⟨r, t1, t2, hp1, hO1, hp2, hR2⟩ := h19  x mo ou σ hR
  refine LW.callv [] (rest := []) dL_law_839 lV_L_107 rfl ⟨by decide, by show _ + 0 ≤ _; omega, by show _ + 0 ≤ _; omega, by decide⟩ (hO x mo ou σ hR).1 (gX9_undo σ x  _ _ hp1) (fun r9 t9 h9 => ?_)
  obtain ⟨rfl, h8⟩ := h9
  rw [h8]
  refine LW.at (st2 := [.int r]) (k2 := 75 + 4 * j) (n2 := 20149 + 300 * j) rfl rfl rfl ?_
  refine LW.aload_n 2 dL_law_842 rfl rfl ?_
  refine LW.callv [] (rest := [.int r]) dL_law_843 lV_L_110 rfl ⟨by decide, by show _ + 0 ≤ _; omega, by show _ + 0 ≤ _; omega, Nat.le_of_ble_eq_true rfl⟩ hO1 (gX10_undo t1 mo  _ _ hp2) (fun r9 t9 h9 => ?_)
  obtain ⟨rfl, h8⟩ := h9
  rw [h8]
  refine LW.at (st2 := [.int r, .int r]) (k2 := 75 + 4 * j) (n2 := 20149 + 300 * j) rfl rfl rfl ?_
  refine LW.icmp_eqT (tgt := 1583) dL_law_846 (by decide) rfl ?_
  refine LW.widen (k2 := 75 + 4 * (j + 1)) (n2 := 20149 + 300 * (j + 1)) (by omega) (by omega) ?_
  exact hk t2 hR2
set_option maxHeartbeats 4000000 in
set_option maxRecDepth 100000 in
theorem law_c20 {Rel : Nat → Nat → Nat → St → Prop} (hO : lawO Rel) (h20 : ∀ (v0 : Int32) (v1 : Int32), stp Rel (fun t x => fX9_log t x v0 v1) (fun t m => fX10_log t m v0 v1)) {b L : Nat} {xs : Nat → Int32} {x mo ou j : Nat} (hj : 6 * j + 6 ≤ L) (hL : L ≤ 384) {σ : St} (hR : Rel x mo ou σ) (hk : ∀ t, Rel x mo ou t → LW b L xs (75 + 4 * (j + 1)) (20149 + 300 * (j + 1)) 1583 [(0, .ref b), (1, .ref x), (2, .ref mo), (3, .ref ou), (4, .int (nI (6 * j)))] [] t) : LW b L xs (75 + 4 * j) (20149 + 300 * j) 851 [(0, .ref b), (1, .ref x), (2, .ref mo), (3, .ref ou), (4, .int (nI (6 * j)))] [] σ := by
  refine LW.aload_n 1 dL_law_851 rfl rfl ?_
  refine LW.aload_n 0 dL_law_852 rfl rfl ?_
  refine LW.iload 4 dL_law_853 rfl ?_
  refine LW.iconst dL_law_855 kI_1 ?_
  refine LW.iadd dL_law_856 ?_
  refine LW.sld dL_law_857 (law_in hj hL).1 ?_
  refine LW.aload_n 0 dL_law_858 rfl rfl ?_
  refine LW.iload 4 dL_law_859 rfl ?_
  refine LW.iconst dL_law_861 kI_2 ?_
  refine LW.iadd dL_law_862 ?_
  refine LW.sld dL_law_863 (law_in hj hL).2.1 ?_
  obtain ⟨r, t1, t2, hp1, hO1, hp2, hR2⟩ := h20 ((xs (nI (6 * j) + 1).toNatClampNeg)) ((xs (nI (6 * j) + 2).toNatClampNeg)) x mo ou σ hR
  refine LW.callv [.int (xs (nI (6 * j) + 1).toNatClampNeg), .int (xs (nI (6 * j) + 2).toNatClampNeg)] (rest := []) dL_law_864 lV_L_111 rfl ⟨by decide, by show _ + 0 ≤ _; omega, by show _ + 0 ≤ _; omega, by decide⟩ (hO x mo ou σ hR).1 (gX9_log σ x ((xs (nI (6 * j) + 1).toNatClampNeg)) ((xs (nI (6 * j) + 2).toNatClampNeg)) _ _ hp1) (fun r9 t9 h9 => ?_)
  obtain ⟨rfl, h8⟩ := h9
  rw [h8]
  refine LW.at (st2 := [.int r]) (k2 := 75 + 4 * j) (n2 := 20149 + 300 * j) rfl rfl rfl ?_
  refine LW.aload_n 2 dL_law_867 rfl rfl ?_
  refine LW.aload_n 0 dL_law_868 rfl rfl ?_
  refine LW.iload 4 dL_law_869 rfl ?_
  refine LW.iconst dL_law_871 kI_1 ?_
  refine LW.iadd dL_law_872 ?_
  refine LW.sld dL_law_873 (law_in hj hL).1 ?_
  refine LW.aload_n 0 dL_law_874 rfl rfl ?_
  refine LW.iload 4 dL_law_875 rfl ?_
  refine LW.iconst dL_law_877 kI_2 ?_
  refine LW.iadd dL_law_878 ?_
  refine LW.sld dL_law_879 (law_in hj hL).2.1 ?_
  refine LW.callv [.int (xs (nI (6 * j) + 1).toNatClampNeg), .int (xs (nI (6 * j) + 2).toNatClampNeg)] (rest := [.int r]) dL_law_880 lV_L_114 rfl ⟨by decide, by show _ + 0 ≤ _; omega, by show _ + 0 ≤ _; omega, Nat.le_of_ble_eq_true rfl⟩ hO1 (gX10_log t1 mo ((xs (nI (6 * j) + 1).toNatClampNeg)) ((xs (nI (6 * j) + 2).toNatClampNeg)) _ _ hp2) (fun r9 t9 h9 => ?_)
  obtain ⟨rfl, h8⟩ := h9
  rw [h8]
  refine LW.at (st2 := [.int r, .int r]) (k2 := 75 + 4 * j) (n2 := 20149 + 300 * j) rfl rfl rfl ?_
  refine LW.icmp_eqT (tgt := 1583) dL_law_883 (by decide) rfl ?_
  refine LW.widen (k2 := 75 + 4 * (j + 1)) (n2 := 20149 + 300 * (j + 1)) (by omega) (by omega) ?_
  exact hk t2 hR2
set_option maxHeartbeats 4000000 in
set_option maxRecDepth 100000 in
theorem law_c21 {Rel : Nat → Nat → Nat → St → Prop} (hO : lawO Rel) (h21 : ∀ (v0 : Int32) (v1 : Int32), stp Rel (fun t x => fX9_sees t x v0 v1) (fun t m => fX10_sees t m v0 v1)) {b L : Nat} {xs : Nat → Int32} {x mo ou j : Nat} (hj : 6 * j + 6 ≤ L) (hL : L ≤ 384) {σ : St} (hR : Rel x mo ou σ) (hk : ∀ t, Rel x mo ou t → LW b L xs (75 + 4 * (j + 1)) (20149 + 300 * (j + 1)) 1583 [(0, .ref b), (1, .ref x), (2, .ref mo), (3, .ref ou), (4, .int (nI (6 * j)))] [] t) : LW b L xs (75 + 4 * j) (20149 + 300 * j) 888 [(0, .ref b), (1, .ref x), (2, .ref mo), (3, .ref ou), (4, .int (nI (6 * j)))] [] σ := by
  refine LW.aload_n 1 dL_law_888 rfl rfl ?_
  refine LW.aload_n 0 dL_law_889 rfl rfl ?_
  refine LW.iload 4 dL_law_890 rfl ?_
  refine LW.iconst dL_law_892 kI_1 ?_
  refine LW.iadd dL_law_893 ?_
  refine LW.sld dL_law_894 (law_in hj hL).1 ?_
  refine LW.aload_n 0 dL_law_895 rfl rfl ?_
  refine LW.iload 4 dL_law_896 rfl ?_
  refine LW.iconst dL_law_898 kI_2 ?_
  refine LW.iadd dL_law_899 ?_
  refine LW.sld dL_law_900 (law_in hj hL).2.1 ?_
  obtain ⟨r, t1, t2, hp1, hO1, hp2, hR2⟩ := h21 ((xs (nI (6 * j) + 1).toNatClampNeg)) ((xs (nI (6 * j) + 2).toNatClampNeg)) x mo ou σ hR
  refine LW.callv [.int (xs (nI (6 * j) + 1).toNatClampNeg), .int (xs (nI (6 * j) + 2).toNatClampNeg)] (rest := []) dL_law_901 lV_L_115 rfl ⟨by decide, by show _ + 0 ≤ _; omega, by show _ + 0 ≤ _; omega, by decide⟩ (hO x mo ou σ hR).1 (gX9_sees σ x ((xs (nI (6 * j) + 1).toNatClampNeg)) ((xs (nI (6 * j) + 2).toNatClampNeg)) _ _ hp1) (fun r9 t9 h9 => ?_)
  obtain ⟨rfl, h8⟩ := h9
  rw [h8]
  refine LW.at (st2 := [.int r]) (k2 := 75 + 4 * j) (n2 := 20149 + 300 * j) rfl rfl rfl ?_
  refine LW.aload_n 2 dL_law_904 rfl rfl ?_
  refine LW.aload_n 0 dL_law_905 rfl rfl ?_
  refine LW.iload 4 dL_law_906 rfl ?_
  refine LW.iconst dL_law_908 kI_1 ?_
  refine LW.iadd dL_law_909 ?_
  refine LW.sld dL_law_910 (law_in hj hL).1 ?_
  refine LW.aload_n 0 dL_law_911 rfl rfl ?_
  refine LW.iload 4 dL_law_912 rfl ?_
  refine LW.iconst dL_law_914 kI_2 ?_
  refine LW.iadd dL_law_915 ?_
  refine LW.sld dL_law_916 (law_in hj hL).2.1 ?_
  refine LW.callv [.int (xs (nI (6 * j) + 1).toNatClampNeg), .int (xs (nI (6 * j) + 2).toNatClampNeg)] (rest := [.int r]) dL_law_917 lV_L_118 rfl ⟨by decide, by show _ + 0 ≤ _; omega, by show _ + 0 ≤ _; omega, Nat.le_of_ble_eq_true rfl⟩ hO1 (gX10_sees t1 mo ((xs (nI (6 * j) + 1).toNatClampNeg)) ((xs (nI (6 * j) + 2).toNatClampNeg)) _ _ hp2) (fun r9 t9 h9 => ?_)
  obtain ⟨rfl, h8⟩ := h9
  rw [h8]
  refine LW.at (st2 := [.int r, .int r]) (k2 := 75 + 4 * j) (n2 := 20149 + 300 * j) rfl rfl rfl ?_
  refine LW.icmp_eqT (tgt := 1583) dL_law_920 (by decide) rfl ?_
  refine LW.widen (k2 := 75 + 4 * (j + 1)) (n2 := 20149 + 300 * (j + 1)) (by omega) (by omega) ?_
  exact hk t2 hR2
set_option maxHeartbeats 4000000 in
set_option maxRecDepth 100000 in
theorem law_c22 {Rel : Nat → Nat → Nat → St → Prop} (hO : lawO Rel) (h22 : ∀ (v0 : Int32) (v1 : Int32), stp Rel (fun t x => fX9_map t x v0 v1) (fun t m => fX10_map t m v0 v1)) {b L : Nat} {xs : Nat → Int32} {x mo ou j : Nat} (hj : 6 * j + 6 ≤ L) (hL : L ≤ 384) {σ : St} (hR : Rel x mo ou σ) (hk : ∀ t, Rel x mo ou t → LW b L xs (75 + 4 * (j + 1)) (20149 + 300 * (j + 1)) 1583 [(0, .ref b), (1, .ref x), (2, .ref mo), (3, .ref ou), (4, .int (nI (6 * j)))] [] t) : LW b L xs (75 + 4 * j) (20149 + 300 * j) 925 [(0, .ref b), (1, .ref x), (2, .ref mo), (3, .ref ou), (4, .int (nI (6 * j)))] [] σ := by
  refine LW.aload_n 1 dL_law_925 rfl rfl ?_
  refine LW.aload_n 0 dL_law_926 rfl rfl ?_
  refine LW.iload 4 dL_law_927 rfl ?_
  refine LW.iconst dL_law_929 kI_1 ?_
  refine LW.iadd dL_law_930 ?_
  refine LW.sld dL_law_931 (law_in hj hL).1 ?_
  refine LW.aload_n 0 dL_law_932 rfl rfl ?_
  refine LW.iload 4 dL_law_933 rfl ?_
  refine LW.iconst dL_law_935 kI_2 ?_
  refine LW.iadd dL_law_936 ?_
  refine LW.sld dL_law_937 (law_in hj hL).2.1 ?_
  obtain ⟨r, t1, t2, hp1, hO1, hp2, hR2⟩ := h22 ((xs (nI (6 * j) + 1).toNatClampNeg)) ((xs (nI (6 * j) + 2).toNatClampNeg)) x mo ou σ hR
  refine LW.callv [.int (xs (nI (6 * j) + 1).toNatClampNeg), .int (xs (nI (6 * j) + 2).toNatClampNeg)] (rest := []) dL_law_938 lV_L_119 rfl ⟨by decide, by show _ + 0 ≤ _; omega, by show _ + 0 ≤ _; omega, by decide⟩ (hO x mo ou σ hR).1 (gX9_map σ x ((xs (nI (6 * j) + 1).toNatClampNeg)) ((xs (nI (6 * j) + 2).toNatClampNeg)) _ _ hp1) (fun r9 t9 h9 => ?_)
  obtain ⟨rfl, h8⟩ := h9
  rw [h8]
  refine LW.at (st2 := [.int r]) (k2 := 75 + 4 * j) (n2 := 20149 + 300 * j) rfl rfl rfl ?_
  refine LW.aload_n 2 dL_law_941 rfl rfl ?_
  refine LW.aload_n 0 dL_law_942 rfl rfl ?_
  refine LW.iload 4 dL_law_943 rfl ?_
  refine LW.iconst dL_law_945 kI_1 ?_
  refine LW.iadd dL_law_946 ?_
  refine LW.sld dL_law_947 (law_in hj hL).1 ?_
  refine LW.aload_n 0 dL_law_948 rfl rfl ?_
  refine LW.iload 4 dL_law_949 rfl ?_
  refine LW.iconst dL_law_951 kI_2 ?_
  refine LW.iadd dL_law_952 ?_
  refine LW.sld dL_law_953 (law_in hj hL).2.1 ?_
  refine LW.callv [.int (xs (nI (6 * j) + 1).toNatClampNeg), .int (xs (nI (6 * j) + 2).toNatClampNeg)] (rest := [.int r]) dL_law_954 lV_L_122 rfl ⟨by decide, by show _ + 0 ≤ _; omega, by show _ + 0 ≤ _; omega, Nat.le_of_ble_eq_true rfl⟩ hO1 (gX10_map t1 mo ((xs (nI (6 * j) + 1).toNatClampNeg)) ((xs (nI (6 * j) + 2).toNatClampNeg)) _ _ hp2) (fun r9 t9 h9 => ?_)
  obtain ⟨rfl, h8⟩ := h9
  rw [h8]
  refine LW.at (st2 := [.int r, .int r]) (k2 := 75 + 4 * j) (n2 := 20149 + 300 * j) rfl rfl rfl ?_
  refine LW.icmp_eqT (tgt := 1583) dL_law_957 (by decide) rfl ?_
  refine LW.widen (k2 := 75 + 4 * (j + 1)) (n2 := 20149 + 300 * (j + 1)) (by omega) (by omega) ?_
  exact hk t2 hR2
set_option maxHeartbeats 4000000 in
set_option maxRecDepth 100000 in
theorem law_c23 {Rel : Nat → Nat → Nat → St → Prop} (hO : lawO Rel) (h23 : ∀ (v0 : Int32) (v1 : Int32) (v2 : Int32), stp Rel (fun t x => fX9_way t x v0 v1 v2) (fun t m => fX10_way t m v0 v1 v2)) {b L : Nat} {xs : Nat → Int32} {x mo ou j : Nat} (hj : 6 * j + 6 ≤ L) (hL : L ≤ 384) {σ : St} (hR : Rel x mo ou σ) (hk : ∀ t, Rel x mo ou t → LW b L xs (75 + 4 * (j + 1)) (20149 + 300 * (j + 1)) 1583 [(0, .ref b), (1, .ref x), (2, .ref mo), (3, .ref ou), (4, .int (nI (6 * j)))] [] t) : LW b L xs (75 + 4 * j) (20149 + 300 * j) 962 [(0, .ref b), (1, .ref x), (2, .ref mo), (3, .ref ou), (4, .int (nI (6 * j)))] [] σ := by
  refine LW.aload_n 1 dL_law_962 rfl rfl ?_
  refine LW.aload_n 0 dL_law_963 rfl rfl ?_
  refine LW.iload 4 dL_law_964 rfl ?_
  refine LW.iconst dL_law_966 kI_1 ?_
  refine LW.iadd dL_law_967 ?_
  refine LW.sld dL_law_968 (law_in hj hL).1 ?_
  refine LW.aload_n 0 dL_law_969 rfl rfl ?_
  refine LW.iload 4 dL_law_970 rfl ?_
  refine LW.iconst dL_law_972 kI_2 ?_
  refine LW.iadd dL_law_973 ?_
  refine LW.sld dL_law_974 (law_in hj hL).2.1 ?_
  refine LW.aload_n 0 dL_law_975 rfl rfl ?_
  refine LW.iload 4 dL_law_976 rfl ?_
  refine LW.iconst dL_law_978 kI_3 ?_
  refine LW.iadd dL_law_979 ?_
  refine LW.sld dL_law_980 (law_in hj hL).2.2.1 ?_
  obtain ⟨r, t1, t2, hp1, hO1, hp2, hR2⟩ := h23 ((xs (nI (6 * j) + 1).toNatClampNeg)) ((xs (nI (6 * j) + 2).toNatClampNeg)) ((xs (nI (6 * j) + 3).toNatClampNeg)) x mo ou σ hR
  refine LW.callv [.int (xs (nI (6 * j) + 1).toNatClampNeg), .int (xs (nI (6 * j) + 2).toNatClampNeg), .int (xs (nI (6 * j) + 3).toNatClampNeg)] (rest := []) dL_law_981 lV_L_123 rfl ⟨by decide, by show _ + 0 ≤ _; omega, by show _ + 0 ≤ _; omega, by decide⟩ (hO x mo ou σ hR).1 (gX9_way σ x ((xs (nI (6 * j) + 1).toNatClampNeg)) ((xs (nI (6 * j) + 2).toNatClampNeg)) ((xs (nI (6 * j) + 3).toNatClampNeg)) _ _ hp1) (fun r9 t9 h9 => ?_)
  obtain ⟨rfl, h8⟩ := h9
  rw [h8]
  refine LW.at (st2 := [.int r]) (k2 := 75 + 4 * j) (n2 := 20149 + 300 * j) rfl rfl rfl ?_
  refine LW.aload_n 2 dL_law_984 rfl rfl ?_
  refine LW.aload_n 0 dL_law_985 rfl rfl ?_
  refine LW.iload 4 dL_law_986 rfl ?_
  refine LW.iconst dL_law_988 kI_1 ?_
  refine LW.iadd dL_law_989 ?_
  refine LW.sld dL_law_990 (law_in hj hL).1 ?_
  refine LW.aload_n 0 dL_law_991 rfl rfl ?_
  refine LW.iload 4 dL_law_992 rfl ?_
  refine LW.iconst dL_law_994 kI_2 ?_
  refine LW.iadd dL_law_995 ?_
  refine LW.sld dL_law_996 (law_in hj hL).2.1 ?_
  refine LW.aload_n 0 dL_law_997 rfl rfl ?_
  refine LW.iload 4 dL_law_998 rfl ?_
  refine LW.iconst dL_law_1000 kI_3 ?_
  refine LW.iadd dL_law_1001 ?_
  refine LW.sld dL_law_1002 (law_in hj hL).2.2.1 ?_
  refine LW.callv [.int (xs (nI (6 * j) + 1).toNatClampNeg), .int (xs (nI (6 * j) + 2).toNatClampNeg), .int (xs (nI (6 * j) + 3).toNatClampNeg)] (rest := [.int r]) dL_law_1003 lV_L_127 rfl ⟨by decide, by show _ + 0 ≤ _; omega, by show _ + 0 ≤ _; omega, Nat.le_of_ble_eq_true rfl⟩ hO1 (gX10_way t1 mo ((xs (nI (6 * j) + 1).toNatClampNeg)) ((xs (nI (6 * j) + 2).toNatClampNeg)) ((xs (nI (6 * j) + 3).toNatClampNeg)) _ _ hp2) (fun r9 t9 h9 => ?_)
  obtain ⟨rfl, h8⟩ := h9
  rw [h8]
  refine LW.at (st2 := [.int r, .int r]) (k2 := 75 + 4 * j) (n2 := 20149 + 300 * j) rfl rfl rfl ?_
  refine LW.icmp_eqT (tgt := 1583) dL_law_1006 (by decide) rfl ?_
  refine LW.widen (k2 := 75 + 4 * (j + 1)) (n2 := 20149 + 300 * (j + 1)) (by omega) (by omega) ?_
  exact hk t2 hR2
set_option maxHeartbeats 4000000 in
set_option maxRecDepth 100000 in
theorem law_c24 {Rel : Nat → Nat → Nat → St → Prop} (hO : lawO Rel) (h24 : ∀ (v0 : Int32) (v1 : Int32), stp Rel (fun t x => fX9_risk t x v0 v1) (fun t m => fX10_risk t m v0 v1)) {b L : Nat} {xs : Nat → Int32} {x mo ou j : Nat} (hj : 6 * j + 6 ≤ L) (hL : L ≤ 384) {σ : St} (hR : Rel x mo ou σ) (hk : ∀ t, Rel x mo ou t → LW b L xs (75 + 4 * (j + 1)) (20149 + 300 * (j + 1)) 1583 [(0, .ref b), (1, .ref x), (2, .ref mo), (3, .ref ou), (4, .int (nI (6 * j)))] [] t) : LW b L xs (75 + 4 * j) (20149 + 300 * j) 1011 [(0, .ref b), (1, .ref x), (2, .ref mo), (3, .ref ou), (4, .int (nI (6 * j)))] [] σ := by
  refine LW.aload_n 1 dL_law_1011 rfl rfl ?_
  refine LW.aload_n 0 dL_law_1012 rfl rfl ?_
  refine LW.iload 4 dL_law_1013 rfl ?_
  refine LW.iconst dL_law_1015 kI_1 ?_
  refine LW.iadd dL_law_1016 ?_
  refine LW.sld dL_law_1017 (law_in hj hL).1 ?_
  refine LW.aload_n 0 dL_law_1018 rfl rfl ?_
  refine LW.iload 4 dL_law_1019 rfl ?_
  refine LW.iconst dL_law_1021 kI_2 ?_
  refine LW.iadd dL_law_1022 ?_
  refine LW.sld dL_law_1023 (law_in hj hL).2.1 ?_
  obtain ⟨r, t1, t2, hp1, hO1, hp2, hR2⟩ := h24 ((xs (nI (6 * j) + 1).toNatClampNeg)) ((xs (nI (6 * j) + 2).toNatClampNeg)) x mo ou σ hR
  refine LW.callv [.int (xs (nI (6 * j) + 1).toNatClampNeg), .int (xs (nI (6 * j) + 2).toNatClampNeg)] (rest := []) dL_law_1024 lV_L_128 rfl ⟨by decide, by show _ + 0 ≤ _; omega, by show _ + 0 ≤ _; omega, by decide⟩ (hO x mo ou σ hR).1 (gX9_risk σ x ((xs (nI (6 * j) + 1).toNatClampNeg)) ((xs (nI (6 * j) + 2).toNatClampNeg)) _ _ hp1) (fun r9 t9 h9 => ?_)
  obtain ⟨rfl, h8⟩ := h9
  rw [h8]
  refine LW.at (st2 := [.int r]) (k2 := 75 + 4 * j) (n2 := 20149 + 300 * j) rfl rfl rfl ?_
  refine LW.aload_n 2 dL_law_1027 rfl rfl ?_
  refine LW.aload_n 0 dL_law_1028 rfl rfl ?_
  refine LW.iload 4 dL_law_1029 rfl ?_
  refine LW.iconst dL_law_1031 kI_1 ?_
  refine LW.iadd dL_law_1032 ?_
  refine LW.sld dL_law_1033 (law_in hj hL).1 ?_
  refine LW.aload_n 0 dL_law_1034 rfl rfl ?_
  refine LW.iload 4 dL_law_1035 rfl ?_
  refine LW.iconst dL_law_1037 kI_2 ?_
  refine LW.iadd dL_law_1038 ?_
  refine LW.sld dL_law_1039 (law_in hj hL).2.1 ?_
  refine LW.callv [.int (xs (nI (6 * j) + 1).toNatClampNeg), .int (xs (nI (6 * j) + 2).toNatClampNeg)] (rest := [.int r]) dL_law_1040 lV_L_131 rfl ⟨by decide, by show _ + 0 ≤ _; omega, by show _ + 0 ≤ _; omega, Nat.le_of_ble_eq_true rfl⟩ hO1 (gX10_risk t1 mo ((xs (nI (6 * j) + 1).toNatClampNeg)) ((xs (nI (6 * j) + 2).toNatClampNeg)) _ _ hp2) (fun r9 t9 h9 => ?_)
  obtain ⟨rfl, h8⟩ := h9
  rw [h8]
  refine LW.at (st2 := [.int r, .int r]) (k2 := 75 + 4 * j) (n2 := 20149 + 300 * j) rfl rfl rfl ?_
  refine LW.icmp_eqT (tgt := 1583) dL_law_1043 (by decide) rfl ?_
  refine LW.widen (k2 := 75 + 4 * (j + 1)) (n2 := 20149 + 300 * (j + 1)) (by omega) (by omega) ?_
  exact hk t2 hR2
set_option maxHeartbeats 4000000 in
set_option maxRecDepth 100000 in
theorem law_c25 {Rel : Nat → Nat → Nat → St → Prop} (hO : lawO Rel) (h25 : stp Rel (fun t x => fX9_enough t x ) (fun t m => fX10_enough t m )) {b L : Nat} {xs : Nat → Int32} {x mo ou j : Nat} (hj : 6 * j + 6 ≤ L) (hL : L ≤ 384) {σ : St} (hR : Rel x mo ou σ) (hk : ∀ t, Rel x mo ou t → LW b L xs (75 + 4 * (j + 1)) (20149 + 300 * (j + 1)) 1583 [(0, .ref b), (1, .ref x), (2, .ref mo), (3, .ref ou), (4, .int (nI (6 * j)))] [] t) : LW b L xs (75 + 4 * j) (20149 + 300 * j) 1048 [(0, .ref b), (1, .ref x), (2, .ref mo), (3, .ref ou), (4, .int (nI (6 * j)))] [] σ := by
  refine LW.aload_n 1 dL_law_1048 rfl rfl ?_
  obtain ⟨r, t1, t2, hp1, hO1, hp2, hR2⟩ := h25  x mo ou σ hR
  refine LW.callv [] (rest := []) dL_law_1049 lV_L_132 rfl ⟨by decide, by show _ + 0 ≤ _; omega, by show _ + 0 ≤ _; omega, by decide⟩ (hO x mo ou σ hR).1 (gX9_enough σ x  _ _ hp1) (fun r9 t9 h9 => ?_)
  obtain ⟨rfl, h8⟩ := h9
  rw [h8]
  refine LW.at (st2 := [.int r]) (k2 := 75 + 4 * j) (n2 := 20149 + 300 * j) rfl rfl rfl ?_
  refine LW.aload_n 2 dL_law_1052 rfl rfl ?_
  refine LW.callv [] (rest := [.int r]) dL_law_1053 lV_L_135 rfl ⟨by decide, by show _ + 0 ≤ _; omega, by show _ + 0 ≤ _; omega, Nat.le_of_ble_eq_true rfl⟩ hO1 (gX10_enough t1 mo  _ _ hp2) (fun r9 t9 h9 => ?_)
  obtain ⟨rfl, h8⟩ := h9
  rw [h8]
  refine LW.at (st2 := [.int r, .int r]) (k2 := 75 + 4 * j) (n2 := 20149 + 300 * j) rfl rfl rfl ?_
  refine LW.icmp_eqT (tgt := 1583) dL_law_1056 (by decide) rfl ?_
  refine LW.widen (k2 := 75 + 4 * (j + 1)) (n2 := 20149 + 300 * (j + 1)) (by omega) (by omega) ?_
  exact hk t2 hR2
set_option maxHeartbeats 4000000 in
set_option maxRecDepth 100000 in
theorem law_c26 {Rel : Nat → Nat → Nat → St → Prop} (hO : lawO Rel) (h26 : ∀ (v0 : Int32) (v1 : Int32) (v2 : Int32), stp Rel (fun t x => fX9_site t x v0 v1 v2) (fun t m => fX10_site t m v0 v1 v2)) {b L : Nat} {xs : Nat → Int32} {x mo ou j : Nat} (hj : 6 * j + 6 ≤ L) (hL : L ≤ 384) {σ : St} (hR : Rel x mo ou σ) (hk : ∀ t, Rel x mo ou t → LW b L xs (75 + 4 * (j + 1)) (20149 + 300 * (j + 1)) 1583 [(0, .ref b), (1, .ref x), (2, .ref mo), (3, .ref ou), (4, .int (nI (6 * j)))] [] t) : LW b L xs (75 + 4 * j) (20149 + 300 * j) 1061 [(0, .ref b), (1, .ref x), (2, .ref mo), (3, .ref ou), (4, .int (nI (6 * j)))] [] σ := by
  refine LW.aload_n 1 dL_law_1061 rfl rfl ?_
  refine LW.aload_n 0 dL_law_1062 rfl rfl ?_
  refine LW.iload 4 dL_law_1063 rfl ?_
  refine LW.iconst dL_law_1065 kI_1 ?_
  refine LW.iadd dL_law_1066 ?_
  refine LW.sld dL_law_1067 (law_in hj hL).1 ?_
  refine LW.aload_n 0 dL_law_1068 rfl rfl ?_
  refine LW.iload 4 dL_law_1069 rfl ?_
  refine LW.iconst dL_law_1071 kI_2 ?_
  refine LW.iadd dL_law_1072 ?_
  refine LW.sld dL_law_1073 (law_in hj hL).2.1 ?_
  refine LW.aload_n 0 dL_law_1074 rfl rfl ?_
  refine LW.iload 4 dL_law_1075 rfl ?_
  refine LW.iconst dL_law_1077 kI_3 ?_
  refine LW.iadd dL_law_1078 ?_
  refine LW.sld dL_law_1079 (law_in hj hL).2.2.1 ?_
  obtain ⟨r, t1, t2, hp1, hO1, hp2, hR2⟩ := h26 ((xs (nI (6 * j) + 1).toNatClampNeg)) ((xs (nI (6 * j) + 2).toNatClampNeg)) ((xs (nI (6 * j) + 3).toNatClampNeg)) x mo ou σ hR
  refine LW.callv [.int (xs (nI (6 * j) + 1).toNatClampNeg), .int (xs (nI (6 * j) + 2).toNatClampNeg), .int (xs (nI (6 * j) + 3).toNatClampNeg)] (rest := []) dL_law_1080 lV_L_136 rfl ⟨by decide, by show _ + 0 ≤ _; omega, by show _ + 0 ≤ _; omega, by decide⟩ (hO x mo ou σ hR).1 (gX9_site σ x ((xs (nI (6 * j) + 1).toNatClampNeg)) ((xs (nI (6 * j) + 2).toNatClampNeg)) ((xs (nI (6 * j) + 3).toNatClampNeg)) _ _ hp1) (fun r9 t9 h9 => ?_)
  obtain ⟨rfl, h8⟩ := h9
  rw [h8]
  refine LW.at (st2 := [.int r]) (k2 := 75 + 4 * j) (n2 := 20149 + 300 * j) rfl rfl rfl ?_
  refine LW.aload_n 2 dL_law_1083 rfl rfl ?_
  refine LW.aload_n 0 dL_law_1084 rfl rfl ?_
  refine LW.iload 4 dL_law_1085 rfl ?_
  refine LW.iconst dL_law_1087 kI_1 ?_
  refine LW.iadd dL_law_1088 ?_
  refine LW.sld dL_law_1089 (law_in hj hL).1 ?_
  refine LW.aload_n 0 dL_law_1090 rfl rfl ?_
  refine LW.iload 4 dL_law_1091 rfl ?_
  refine LW.iconst dL_law_1093 kI_2 ?_
  refine LW.iadd dL_law_1094 ?_
  refine LW.sld dL_law_1095 (law_in hj hL).2.1 ?_
  refine LW.aload_n 0 dL_law_1096 rfl rfl ?_
  refine LW.iload 4 dL_law_1097 rfl ?_
  refine LW.iconst dL_law_1099 kI_3 ?_
  refine LW.iadd dL_law_1100 ?_
  refine LW.sld dL_law_1101 (law_in hj hL).2.2.1 ?_
  refine LW.callv [.int (xs (nI (6 * j) + 1).toNatClampNeg), .int (xs (nI (6 * j) + 2).toNatClampNeg), .int (xs (nI (6 * j) + 3).toNatClampNeg)] (rest := [.int r]) dL_law_1102 lV_L_139 rfl ⟨by decide, by show _ + 0 ≤ _; omega, by show _ + 0 ≤ _; omega, Nat.le_of_ble_eq_true rfl⟩ hO1 (gX10_site t1 mo ((xs (nI (6 * j) + 1).toNatClampNeg)) ((xs (nI (6 * j) + 2).toNatClampNeg)) ((xs (nI (6 * j) + 3).toNatClampNeg)) _ _ hp2) (fun r9 t9 h9 => ?_)
  obtain ⟨rfl, h8⟩ := h9
  rw [h8]
  refine LW.at (st2 := [.int r, .int r]) (k2 := 75 + 4 * j) (n2 := 20149 + 300 * j) rfl rfl rfl ?_
  refine LW.icmp_eqT (tgt := 1583) dL_law_1105 (by decide) rfl ?_
  refine LW.widen (k2 := 75 + 4 * (j + 1)) (n2 := 20149 + 300 * (j + 1)) (by omega) (by omega) ?_
  exact hk t2 hR2
set_option maxHeartbeats 4000000 in
set_option maxRecDepth 100000 in
theorem law_c27 {Rel : Nat → Nat → Nat → St → Prop} (hO : lawO Rel) (h27 : ∀ (v0 : Int32), stp Rel (fun t x => fX9_watched t x v0) (fun t m => fX10_watched t m v0)) {b L : Nat} {xs : Nat → Int32} {x mo ou j : Nat} (hj : 6 * j + 6 ≤ L) (hL : L ≤ 384) {σ : St} (hR : Rel x mo ou σ) (hk : ∀ t, Rel x mo ou t → LW b L xs (75 + 4 * (j + 1)) (20149 + 300 * (j + 1)) 1583 [(0, .ref b), (1, .ref x), (2, .ref mo), (3, .ref ou), (4, .int (nI (6 * j)))] [] t) : LW b L xs (75 + 4 * j) (20149 + 300 * j) 1110 [(0, .ref b), (1, .ref x), (2, .ref mo), (3, .ref ou), (4, .int (nI (6 * j)))] [] σ := by
  refine LW.aload_n 1 dL_law_1110 rfl rfl ?_
  refine LW.aload_n 0 dL_law_1111 rfl rfl ?_
  refine LW.iload 4 dL_law_1112 rfl ?_
  refine LW.iconst dL_law_1114 kI_1 ?_
  refine LW.iadd dL_law_1115 ?_
  refine LW.sld dL_law_1116 (law_in hj hL).1 ?_
  obtain ⟨r, t1, t2, hp1, hO1, hp2, hR2⟩ := h27 ((xs (nI (6 * j) + 1).toNatClampNeg)) x mo ou σ hR
  refine LW.callv [.int (xs (nI (6 * j) + 1).toNatClampNeg)] (rest := []) dL_law_1117 lV_L_140 rfl ⟨by decide, by show _ + 0 ≤ _; omega, by show _ + 0 ≤ _; omega, by decide⟩ (hO x mo ou σ hR).1 (gX9_watched σ x ((xs (nI (6 * j) + 1).toNatClampNeg)) _ _ hp1) (fun r9 t9 h9 => ?_)
  obtain ⟨rfl, h8⟩ := h9
  rw [h8]
  refine LW.at (st2 := [.int r]) (k2 := 75 + 4 * j) (n2 := 20149 + 300 * j) rfl rfl rfl ?_
  refine LW.aload_n 2 dL_law_1120 rfl rfl ?_
  refine LW.aload_n 0 dL_law_1121 rfl rfl ?_
  refine LW.iload 4 dL_law_1122 rfl ?_
  refine LW.iconst dL_law_1124 kI_1 ?_
  refine LW.iadd dL_law_1125 ?_
  refine LW.sld dL_law_1126 (law_in hj hL).1 ?_
  refine LW.callv [.int (xs (nI (6 * j) + 1).toNatClampNeg)] (rest := [.int r]) dL_law_1127 lV_L_143 rfl ⟨by decide, by show _ + 0 ≤ _; omega, by show _ + 0 ≤ _; omega, Nat.le_of_ble_eq_true rfl⟩ hO1 (gX10_watched t1 mo ((xs (nI (6 * j) + 1).toNatClampNeg)) _ _ hp2) (fun r9 t9 h9 => ?_)
  obtain ⟨rfl, h8⟩ := h9
  rw [h8]
  refine LW.at (st2 := [.int r, .int r]) (k2 := 75 + 4 * j) (n2 := 20149 + 300 * j) rfl rfl rfl ?_
  refine LW.icmp_eqT (tgt := 1583) dL_law_1130 (by decide) rfl ?_
  refine LW.widen (k2 := 75 + 4 * (j + 1)) (n2 := 20149 + 300 * (j + 1)) (by omega) (by omega) ?_
  exact hk t2 hR2
set_option maxHeartbeats 4000000 in
set_option maxRecDepth 100000 in
theorem law_c28 {Rel : Nat → Nat → Nat → St → Prop} (hO : lawO Rel) (h28 : ∀ (v0 : Int32) (v1 : Int32) (v2 : Int32), (v2 = 0 ∨ v2 = 1) → stp Rel (fun t x => fX9_given t x v0 v1 v2) (fun t m => fX10_given t m v0 v1 v2)) {b L : Nat} {xs : Nat → Int32} {x mo ou j : Nat} (hj : 6 * j + 6 ≤ L) (hL : L ≤ 384) {σ : St} (hR : Rel x mo ou σ) (hk : ∀ t, Rel x mo ou t → LW b L xs (75 + 4 * (j + 1)) (20149 + 300 * (j + 1)) 1583 [(0, .ref b), (1, .ref x), (2, .ref mo), (3, .ref ou), (4, .int (nI (6 * j)))] [] t) : LW b L xs (75 + 4 * j) (20149 + 300 * j) 1135 [(0, .ref b), (1, .ref x), (2, .ref mo), (3, .ref ou), (4, .int (nI (6 * j)))] [] σ := by
  refine LW.aload_n 1 dL_law_1135 rfl rfl ?_
  refine LW.aload_n 0 dL_law_1136 rfl rfl ?_
  refine LW.iload 4 dL_law_1137 rfl ?_
  refine LW.iconst dL_law_1139 kI_1 ?_
  refine LW.iadd dL_law_1140 ?_
  refine LW.sld dL_law_1141 (law_in hj hL).1 ?_
  refine LW.aload_n 0 dL_law_1142 rfl rfl ?_
  refine LW.iload 4 dL_law_1143 rfl ?_
  refine LW.iconst dL_law_1145 kI_2 ?_
  refine LW.iadd dL_law_1146 ?_
  refine LW.sld dL_law_1147 (law_in hj hL).2.1 ?_
  refine LW.aload_n 0 dL_law_1148 rfl rfl ?_
  refine LW.iload 4 dL_law_1149 rfl ?_
  refine LW.iconst dL_law_1151 kI_3 ?_
  refine LW.iadd dL_law_1152 ?_
  refine LW.sld dL_law_1153 (law_in hj hL).2.2.1 ?_
  refine LW.if_eq (tgt := 1161) dL_law_1154 (by decide) (fun hz => ?_) (fun hz => ?_)
  · have hz0 := hz
    refine LW.iconst dL_law_1161 kI_0 ?_
    obtain ⟨r, t1, t2, hp1, hO1, hp2, hR2⟩ := h28 ((xs (nI (6 * j) + 1).toNatClampNeg)) ((xs (nI (6 * j) + 2).toNatClampNeg)) 0 (Or.inl rfl) x mo ou σ hR
    refine LW.callv [.int (xs (nI (6 * j) + 1).toNatClampNeg), .int (xs (nI (6 * j) + 2).toNatClampNeg), .int 0] (rest := []) dL_law_1162 lV_L_144 rfl ⟨by decide, by show _ + 0 ≤ _; omega, by show _ + 0 ≤ _; omega, by decide⟩ (hO x mo ou σ hR).1 (gX9_given σ x ((xs (nI (6 * j) + 1).toNatClampNeg)) ((xs (nI (6 * j) + 2).toNatClampNeg)) 0 _ _ hp1) (fun r9 t9 h9 => ?_)
    obtain ⟨rfl, h8⟩ := h9
    rw [h8]
    refine LW.at (st2 := [.int r]) (k2 := 75 + 4 * j) (n2 := 20149 + 300 * j) rfl rfl rfl ?_
    refine LW.aload_n 2 dL_law_1165 rfl rfl ?_
    refine LW.aload_n 0 dL_law_1166 rfl rfl ?_
    refine LW.iload 4 dL_law_1167 rfl ?_
    refine LW.iconst dL_law_1169 kI_1 ?_
    refine LW.iadd dL_law_1170 ?_
    refine LW.sld dL_law_1171 (law_in hj hL).1 ?_
    refine LW.aload_n 0 dL_law_1172 rfl rfl ?_
    refine LW.iload 4 dL_law_1173 rfl ?_
    refine LW.iconst dL_law_1175 kI_2 ?_
    refine LW.iadd dL_law_1176 ?_
    refine LW.sld dL_law_1177 (law_in hj hL).2.1 ?_
    refine LW.aload_n 0 dL_law_1178 rfl rfl ?_
    refine LW.iload 4 dL_law_1179 rfl ?_
    refine LW.iconst dL_law_1181 kI_3 ?_
    refine LW.iadd dL_law_1182 ?_
    refine LW.sld dL_law_1183 (law_in hj hL).2.2.1 ?_
    refine LW.if_eq (tgt := 1191) dL_law_1184 (by decide) (fun hz => ?_) (fun hz => ?_)
    · have hz0 := hz
      refine LW.iconst dL_law_1191 kI_0 ?_
      refine LW.callv [.int (xs (nI (6 * j) + 1).toNatClampNeg), .int (xs (nI (6 * j) + 2).toNatClampNeg), .int 0] (rest := [.int r]) dL_law_1192 lV_L_148 rfl ⟨by decide, by show _ + 0 ≤ _; omega, by show _ + 0 ≤ _; omega, Nat.le_of_ble_eq_true rfl⟩ hO1 (gX10_given t1 mo ((xs (nI (6 * j) + 1).toNatClampNeg)) ((xs (nI (6 * j) + 2).toNatClampNeg)) 0 _ _ hp2) (fun r9 t9 h9 => ?_)
      obtain ⟨rfl, h8⟩ := h9
      rw [h8]
      refine LW.at (st2 := [.int r, .int r]) (k2 := 75 + 4 * j) (n2 := 20149 + 300 * j) rfl rfl rfl ?_
      refine LW.icmp_eqT (tgt := 1583) dL_law_1195 (by decide) rfl ?_
      refine LW.widen (k2 := 75 + 4 * (j + 1)) (n2 := 20149 + 300 * (j + 1)) (by omega) (by omega) ?_
      exact hk t2 hR2
    · exact absurd hz0 hz
  · have hz0 := hz
    refine LW.iconst dL_law_1157 kI_1 ?_
    refine LW.goto (tgt := 1162) dL_law_1158 (by decide) ?_
    obtain ⟨r, t1, t2, hp1, hO1, hp2, hR2⟩ := h28 ((xs (nI (6 * j) + 1).toNatClampNeg)) ((xs (nI (6 * j) + 2).toNatClampNeg)) 1 (Or.inr rfl) x mo ou σ hR
    refine LW.callv [.int (xs (nI (6 * j) + 1).toNatClampNeg), .int (xs (nI (6 * j) + 2).toNatClampNeg), .int 1] (rest := []) dL_law_1162 lV_L_144 rfl ⟨by decide, by show _ + 0 ≤ _; omega, by show _ + 0 ≤ _; omega, by decide⟩ (hO x mo ou σ hR).1 (gX9_given σ x ((xs (nI (6 * j) + 1).toNatClampNeg)) ((xs (nI (6 * j) + 2).toNatClampNeg)) 1 _ _ hp1) (fun r9 t9 h9 => ?_)
    obtain ⟨rfl, h8⟩ := h9
    rw [h8]
    refine LW.at (st2 := [.int r]) (k2 := 75 + 4 * j) (n2 := 20149 + 300 * j) rfl rfl rfl ?_
    refine LW.aload_n 2 dL_law_1165 rfl rfl ?_
    refine LW.aload_n 0 dL_law_1166 rfl rfl ?_
    refine LW.iload 4 dL_law_1167 rfl ?_
    refine LW.iconst dL_law_1169 kI_1 ?_
    refine LW.iadd dL_law_1170 ?_
    refine LW.sld dL_law_1171 (law_in hj hL).1 ?_
    refine LW.aload_n 0 dL_law_1172 rfl rfl ?_
    refine LW.iload 4 dL_law_1173 rfl ?_
    refine LW.iconst dL_law_1175 kI_2 ?_
    refine LW.iadd dL_law_1176 ?_
    refine LW.sld dL_law_1177 (law_in hj hL).2.1 ?_
    refine LW.aload_n 0 dL_law_1178 rfl rfl ?_
    refine LW.iload 4 dL_law_1179 rfl ?_
    refine LW.iconst dL_law_1181 kI_3 ?_
    refine LW.iadd dL_law_1182 ?_
    refine LW.sld dL_law_1183 (law_in hj hL).2.2.1 ?_
    refine LW.if_eq (tgt := 1191) dL_law_1184 (by decide) (fun hz => ?_) (fun hz => ?_)
    · exact absurd hz hz0
    · have hz0 := hz
      refine LW.iconst dL_law_1187 kI_1 ?_
      refine LW.goto (tgt := 1192) dL_law_1188 (by decide) ?_
      refine LW.callv [.int (xs (nI (6 * j) + 1).toNatClampNeg), .int (xs (nI (6 * j) + 2).toNatClampNeg), .int 1] (rest := [.int r]) dL_law_1192 lV_L_148 rfl ⟨by decide, by show _ + 0 ≤ _; omega, by show _ + 0 ≤ _; omega, Nat.le_of_ble_eq_true rfl⟩ hO1 (gX10_given t1 mo ((xs (nI (6 * j) + 1).toNatClampNeg)) ((xs (nI (6 * j) + 2).toNatClampNeg)) 1 _ _ hp2) (fun r9 t9 h9 => ?_)
      obtain ⟨rfl, h8⟩ := h9
      rw [h8]
      refine LW.at (st2 := [.int r, .int r]) (k2 := 75 + 4 * j) (n2 := 20149 + 300 * j) rfl rfl rfl ?_
      refine LW.icmp_eqT (tgt := 1583) dL_law_1195 (by decide) rfl ?_
      refine LW.widen (k2 := 75 + 4 * (j + 1)) (n2 := 20149 + 300 * (j + 1)) (by omega) (by omega) ?_
      exact hk t2 hR2
set_option maxHeartbeats 4000000 in
set_option maxRecDepth 100000 in
theorem law_c29 {Rel : Nat → Nat → Nat → St → Prop} (hO : lawO Rel) (h29 : ∀ (v0 : Int32) (v1 : Int32), stp Rel (fun t x => fX9_heights t x v0 v1) (fun t m => fX10_heights t m v0 v1)) {b L : Nat} {xs : Nat → Int32} {x mo ou j : Nat} (hj : 6 * j + 6 ≤ L) (hL : L ≤ 384) {σ : St} (hR : Rel x mo ou σ) (hk : ∀ t, Rel x mo ou t → LW b L xs (75 + 4 * (j + 1)) (20149 + 300 * (j + 1)) 1583 [(0, .ref b), (1, .ref x), (2, .ref mo), (3, .ref ou), (4, .int (nI (6 * j)))] [] t) : LW b L xs (75 + 4 * j) (20149 + 300 * j) 1200 [(0, .ref b), (1, .ref x), (2, .ref mo), (3, .ref ou), (4, .int (nI (6 * j)))] [] σ := by
  refine LW.aload_n 1 dL_law_1200 rfl rfl ?_
  refine LW.aload_n 0 dL_law_1201 rfl rfl ?_
  refine LW.iload 4 dL_law_1202 rfl ?_
  refine LW.iconst dL_law_1204 kI_1 ?_
  refine LW.iadd dL_law_1205 ?_
  refine LW.sld dL_law_1206 (law_in hj hL).1 ?_
  refine LW.aload_n 0 dL_law_1207 rfl rfl ?_
  refine LW.iload 4 dL_law_1208 rfl ?_
  refine LW.iconst dL_law_1210 kI_2 ?_
  refine LW.iadd dL_law_1211 ?_
  refine LW.sld dL_law_1212 (law_in hj hL).2.1 ?_
  obtain ⟨r, t1, t2, hp1, hO1, hp2, hR2⟩ := h29 ((xs (nI (6 * j) + 1).toNatClampNeg)) ((xs (nI (6 * j) + 2).toNatClampNeg)) x mo ou σ hR
  refine LW.callv [.int (xs (nI (6 * j) + 1).toNatClampNeg), .int (xs (nI (6 * j) + 2).toNatClampNeg)] (rest := []) dL_law_1213 lV_L_149 rfl ⟨by decide, by show _ + 0 ≤ _; omega, by show _ + 0 ≤ _; omega, by decide⟩ (hO x mo ou σ hR).1 (gX9_heights σ x ((xs (nI (6 * j) + 1).toNatClampNeg)) ((xs (nI (6 * j) + 2).toNatClampNeg)) _ _ hp1) (fun r9 t9 h9 => ?_)
  obtain ⟨rfl, h8⟩ := h9
  rw [h8]
  refine LW.at (st2 := [.int r]) (k2 := 75 + 4 * j) (n2 := 20149 + 300 * j) rfl rfl rfl ?_
  refine LW.aload_n 2 dL_law_1216 rfl rfl ?_
  refine LW.aload_n 0 dL_law_1217 rfl rfl ?_
  refine LW.iload 4 dL_law_1218 rfl ?_
  refine LW.iconst dL_law_1220 kI_1 ?_
  refine LW.iadd dL_law_1221 ?_
  refine LW.sld dL_law_1222 (law_in hj hL).1 ?_
  refine LW.aload_n 0 dL_law_1223 rfl rfl ?_
  refine LW.iload 4 dL_law_1224 rfl ?_
  refine LW.iconst dL_law_1226 kI_2 ?_
  refine LW.iadd dL_law_1227 ?_
  refine LW.sld dL_law_1228 (law_in hj hL).2.1 ?_
  refine LW.callv [.int (xs (nI (6 * j) + 1).toNatClampNeg), .int (xs (nI (6 * j) + 2).toNatClampNeg)] (rest := [.int r]) dL_law_1229 lV_L_152 rfl ⟨by decide, by show _ + 0 ≤ _; omega, by show _ + 0 ≤ _; omega, Nat.le_of_ble_eq_true rfl⟩ hO1 (gX10_heights t1 mo ((xs (nI (6 * j) + 1).toNatClampNeg)) ((xs (nI (6 * j) + 2).toNatClampNeg)) _ _ hp2) (fun r9 t9 h9 => ?_)
  obtain ⟨rfl, h8⟩ := h9
  rw [h8]
  refine LW.at (st2 := [.int r, .int r]) (k2 := 75 + 4 * j) (n2 := 20149 + 300 * j) rfl rfl rfl ?_
  refine LW.icmp_eqT (tgt := 1583) dL_law_1232 (by decide) rfl ?_
  refine LW.widen (k2 := 75 + 4 * (j + 1)) (n2 := 20149 + 300 * (j + 1)) (by omega) (by omega) ?_
  exact hk t2 hR2
set_option maxHeartbeats 4000000 in
set_option maxRecDepth 100000 in
theorem law_c30 {Rel : Nat → Nat → Nat → St → Prop} (hO : lawO Rel) (h30 : ∀ (v0 : Int32), stp Rel (fun t x => fX9_ask t x v0) (fun t m => fX10_ask t m v0)) {b L : Nat} {xs : Nat → Int32} {x mo ou j : Nat} (hj : 6 * j + 6 ≤ L) (hL : L ≤ 384) {σ : St} (hR : Rel x mo ou σ) (hk : ∀ t, Rel x mo ou t → LW b L xs (75 + 4 * (j + 1)) (20149 + 300 * (j + 1)) 1583 [(0, .ref b), (1, .ref x), (2, .ref mo), (3, .ref ou), (4, .int (nI (6 * j)))] [] t) : LW b L xs (75 + 4 * j) (20149 + 300 * j) 1237 [(0, .ref b), (1, .ref x), (2, .ref mo), (3, .ref ou), (4, .int (nI (6 * j)))] [] σ := by
  refine LW.aload_n 1 dL_law_1237 rfl rfl ?_
  refine LW.aload_n 0 dL_law_1238 rfl rfl ?_
  refine LW.iload 4 dL_law_1239 rfl ?_
  refine LW.iconst dL_law_1241 kI_1 ?_
  refine LW.iadd dL_law_1242 ?_
  refine LW.sld dL_law_1243 (law_in hj hL).1 ?_
  obtain ⟨r, t1, t2, hp1, hO1, hp2, hR2⟩ := h30 ((xs (nI (6 * j) + 1).toNatClampNeg)) x mo ou σ hR
  refine LW.callv [.int (xs (nI (6 * j) + 1).toNatClampNeg)] (rest := []) dL_law_1244 lV_L_153 rfl ⟨by decide, by show _ + 0 ≤ _; omega, by show _ + 0 ≤ _; omega, by decide⟩ (hO x mo ou σ hR).1 (gX9_ask σ x ((xs (nI (6 * j) + 1).toNatClampNeg)) _ _ hp1) (fun r9 t9 h9 => ?_)
  obtain ⟨rfl, h8⟩ := h9
  rw [h8]
  refine LW.at (st2 := [.int r]) (k2 := 75 + 4 * j) (n2 := 20149 + 300 * j) rfl rfl rfl ?_
  refine LW.aload_n 2 dL_law_1247 rfl rfl ?_
  refine LW.aload_n 0 dL_law_1248 rfl rfl ?_
  refine LW.iload 4 dL_law_1249 rfl ?_
  refine LW.iconst dL_law_1251 kI_1 ?_
  refine LW.iadd dL_law_1252 ?_
  refine LW.sld dL_law_1253 (law_in hj hL).1 ?_
  refine LW.callv [.int (xs (nI (6 * j) + 1).toNatClampNeg)] (rest := [.int r]) dL_law_1254 lV_L_156 rfl ⟨by decide, by show _ + 0 ≤ _; omega, by show _ + 0 ≤ _; omega, Nat.le_of_ble_eq_true rfl⟩ hO1 (gX10_ask t1 mo ((xs (nI (6 * j) + 1).toNatClampNeg)) _ _ hp2) (fun r9 t9 h9 => ?_)
  obtain ⟨rfl, h8⟩ := h9
  rw [h8]
  refine LW.at (st2 := [.int r, .int r]) (k2 := 75 + 4 * j) (n2 := 20149 + 300 * j) rfl rfl rfl ?_
  refine LW.icmp_eqT (tgt := 1583) dL_law_1257 (by decide) rfl ?_
  refine LW.widen (k2 := 75 + 4 * (j + 1)) (n2 := 20149 + 300 * (j + 1)) (by omega) (by omega) ?_
  exact hk t2 hR2
set_option maxHeartbeats 4000000 in
set_option maxRecDepth 100000 in
theorem law_c31 {Rel : Nat → Nat → Nat → St → Prop} (hO : lawO Rel) (h31 : ∀ (v0 : Int32) (v1 : Int32), stp Rel (fun t x => fX9_heard t x v0 v1) (fun t m => fX10_heard t m v0 v1)) {b L : Nat} {xs : Nat → Int32} {x mo ou j : Nat} (hj : 6 * j + 6 ≤ L) (hL : L ≤ 384) {σ : St} (hR : Rel x mo ou σ) (hk : ∀ t, Rel x mo ou t → LW b L xs (75 + 4 * (j + 1)) (20149 + 300 * (j + 1)) 1583 [(0, .ref b), (1, .ref x), (2, .ref mo), (3, .ref ou), (4, .int (nI (6 * j)))] [] t) : LW b L xs (75 + 4 * j) (20149 + 300 * j) 1262 [(0, .ref b), (1, .ref x), (2, .ref mo), (3, .ref ou), (4, .int (nI (6 * j)))] [] σ := by
  refine LW.aload_n 1 dL_law_1262 rfl rfl ?_
  refine LW.aload_n 0 dL_law_1263 rfl rfl ?_
  refine LW.iload 4 dL_law_1264 rfl ?_
  refine LW.iconst dL_law_1266 kI_1 ?_
  refine LW.iadd dL_law_1267 ?_
  refine LW.sld dL_law_1268 (law_in hj hL).1 ?_
  refine LW.aload_n 0 dL_law_1269 rfl rfl ?_
  refine LW.iload 4 dL_law_1270 rfl ?_
  refine LW.iconst dL_law_1272 kI_2 ?_
  refine LW.iadd dL_law_1273 ?_
  refine LW.sld dL_law_1274 (law_in hj hL).2.1 ?_
  obtain ⟨r, t1, t2, hp1, hO1, hp2, hR2⟩ := h31 ((xs (nI (6 * j) + 1).toNatClampNeg)) ((xs (nI (6 * j) + 2).toNatClampNeg)) x mo ou σ hR
  refine LW.callv [.int (xs (nI (6 * j) + 1).toNatClampNeg), .int (xs (nI (6 * j) + 2).toNatClampNeg)] (rest := []) dL_law_1275 lV_L_157 rfl ⟨by decide, by show _ + 0 ≤ _; omega, by show _ + 0 ≤ _; omega, by decide⟩ (hO x mo ou σ hR).1 (gX9_heard σ x ((xs (nI (6 * j) + 1).toNatClampNeg)) ((xs (nI (6 * j) + 2).toNatClampNeg)) _ _ hp1) (fun r9 t9 h9 => ?_)
  obtain ⟨rfl, h8⟩ := h9
  rw [h8]
  refine LW.at (st2 := [.int r]) (k2 := 75 + 4 * j) (n2 := 20149 + 300 * j) rfl rfl rfl ?_
  refine LW.aload_n 2 dL_law_1278 rfl rfl ?_
  refine LW.aload_n 0 dL_law_1279 rfl rfl ?_
  refine LW.iload 4 dL_law_1280 rfl ?_
  refine LW.iconst dL_law_1282 kI_1 ?_
  refine LW.iadd dL_law_1283 ?_
  refine LW.sld dL_law_1284 (law_in hj hL).1 ?_
  refine LW.aload_n 0 dL_law_1285 rfl rfl ?_
  refine LW.iload 4 dL_law_1286 rfl ?_
  refine LW.iconst dL_law_1288 kI_2 ?_
  refine LW.iadd dL_law_1289 ?_
  refine LW.sld dL_law_1290 (law_in hj hL).2.1 ?_
  refine LW.callv [.int (xs (nI (6 * j) + 1).toNatClampNeg), .int (xs (nI (6 * j) + 2).toNatClampNeg)] (rest := [.int r]) dL_law_1291 lV_L_160 rfl ⟨by decide, by show _ + 0 ≤ _; omega, by show _ + 0 ≤ _; omega, Nat.le_of_ble_eq_true rfl⟩ hO1 (gX10_heard t1 mo ((xs (nI (6 * j) + 1).toNatClampNeg)) ((xs (nI (6 * j) + 2).toNatClampNeg)) _ _ hp2) (fun r9 t9 h9 => ?_)
  obtain ⟨rfl, h8⟩ := h9
  rw [h8]
  refine LW.at (st2 := [.int r, .int r]) (k2 := 75 + 4 * j) (n2 := 20149 + 300 * j) rfl rfl rfl ?_
  refine LW.icmp_eqT (tgt := 1583) dL_law_1294 (by decide) rfl ?_
  refine LW.widen (k2 := 75 + 4 * (j + 1)) (n2 := 20149 + 300 * (j + 1)) (by omega) (by omega) ?_
  exact hk t2 hR2
set_option maxHeartbeats 4000000 in
set_option maxRecDepth 100000 in
theorem law_c32 {Rel : Nat → Nat → Nat → St → Prop} (hO : lawO Rel) (h32 : ∀ (v0 : Int32) (v1 : Int32) (v2 : Int32) (v3 : Int32) (v4 : Int32), stp Rel (fun t x => fX9_game t x v0 v1 v2 v3 v4) (fun t m => fX10_game t m v0 v1 v2 v3 v4)) {b L : Nat} {xs : Nat → Int32} {x mo ou j : Nat} (hj : 6 * j + 6 ≤ L) (hL : L ≤ 384) {σ : St} (hR : Rel x mo ou σ) (hk : ∀ t, Rel x mo ou t → LW b L xs (75 + 4 * (j + 1)) (20149 + 300 * (j + 1)) 1583 [(0, .ref b), (1, .ref x), (2, .ref mo), (3, .ref ou), (4, .int (nI (6 * j)))] [] t) : LW b L xs (75 + 4 * j) (20149 + 300 * j) 1299 [(0, .ref b), (1, .ref x), (2, .ref mo), (3, .ref ou), (4, .int (nI (6 * j)))] [] σ := by
  refine LW.aload_n 1 dL_law_1299 rfl rfl ?_
  refine LW.aload_n 0 dL_law_1300 rfl rfl ?_
  refine LW.iload 4 dL_law_1301 rfl ?_
  refine LW.iconst dL_law_1303 kI_1 ?_
  refine LW.iadd dL_law_1304 ?_
  refine LW.sld dL_law_1305 (law_in hj hL).1 ?_
  refine LW.aload_n 0 dL_law_1306 rfl rfl ?_
  refine LW.iload 4 dL_law_1307 rfl ?_
  refine LW.iconst dL_law_1309 kI_2 ?_
  refine LW.iadd dL_law_1310 ?_
  refine LW.sld dL_law_1311 (law_in hj hL).2.1 ?_
  refine LW.aload_n 0 dL_law_1312 rfl rfl ?_
  refine LW.iload 4 dL_law_1313 rfl ?_
  refine LW.iconst dL_law_1315 kI_3 ?_
  refine LW.iadd dL_law_1316 ?_
  refine LW.sld dL_law_1317 (law_in hj hL).2.2.1 ?_
  refine LW.aload_n 0 dL_law_1318 rfl rfl ?_
  refine LW.iload 4 dL_law_1319 rfl ?_
  refine LW.iconst dL_law_1321 kI_4 ?_
  refine LW.iadd dL_law_1322 ?_
  refine LW.sld dL_law_1323 (law_in hj hL).2.2.2.1 ?_
  refine LW.aload_n 0 dL_law_1324 rfl rfl ?_
  refine LW.iload 4 dL_law_1325 rfl ?_
  refine LW.iconst dL_law_1327 kI_5 ?_
  refine LW.iadd dL_law_1328 ?_
  refine LW.sld dL_law_1329 (law_in hj hL).2.2.2.2 ?_
  obtain ⟨r, t1, t2, hp1, hO1, hp2, hR2⟩ := h32 ((xs (nI (6 * j) + 1).toNatClampNeg)) ((xs (nI (6 * j) + 2).toNatClampNeg)) ((xs (nI (6 * j) + 3).toNatClampNeg)) ((xs (nI (6 * j) + 4).toNatClampNeg)) ((xs (nI (6 * j) + 5).toNatClampNeg)) x mo ou σ hR
  refine LW.callv [.int (xs (nI (6 * j) + 1).toNatClampNeg), .int (xs (nI (6 * j) + 2).toNatClampNeg), .int (xs (nI (6 * j) + 3).toNatClampNeg), .int (xs (nI (6 * j) + 4).toNatClampNeg), .int (xs (nI (6 * j) + 5).toNatClampNeg)] (rest := []) dL_law_1330 lV_L_161 rfl ⟨by decide, by show _ + 0 ≤ _; omega, by show _ + 0 ≤ _; omega, by decide⟩ (hO x mo ou σ hR).1 (gX9_game σ x ((xs (nI (6 * j) + 1).toNatClampNeg)) ((xs (nI (6 * j) + 2).toNatClampNeg)) ((xs (nI (6 * j) + 3).toNatClampNeg)) ((xs (nI (6 * j) + 4).toNatClampNeg)) ((xs (nI (6 * j) + 5).toNatClampNeg)) _ _ hp1) (fun r9 t9 h9 => ?_)
  obtain ⟨rfl, h8⟩ := h9
  rw [h8]
  refine LW.at (st2 := [.int r]) (k2 := 75 + 4 * j) (n2 := 20149 + 300 * j) rfl rfl rfl ?_
  refine LW.aload_n 2 dL_law_1333 rfl rfl ?_
  refine LW.aload_n 0 dL_law_1334 rfl rfl ?_
  refine LW.iload 4 dL_law_1335 rfl ?_
  refine LW.iconst dL_law_1337 kI_1 ?_
  refine LW.iadd dL_law_1338 ?_
  refine LW.sld dL_law_1339 (law_in hj hL).1 ?_
  refine LW.aload_n 0 dL_law_1340 rfl rfl ?_
  refine LW.iload 4 dL_law_1341 rfl ?_
  refine LW.iconst dL_law_1343 kI_2 ?_
  refine LW.iadd dL_law_1344 ?_
  refine LW.sld dL_law_1345 (law_in hj hL).2.1 ?_
  refine LW.aload_n 0 dL_law_1346 rfl rfl ?_
  refine LW.iload 4 dL_law_1347 rfl ?_
  refine LW.iconst dL_law_1349 kI_3 ?_
  refine LW.iadd dL_law_1350 ?_
  refine LW.sld dL_law_1351 (law_in hj hL).2.2.1 ?_
  refine LW.aload_n 0 dL_law_1352 rfl rfl ?_
  refine LW.iload 4 dL_law_1353 rfl ?_
  refine LW.iconst dL_law_1355 kI_4 ?_
  refine LW.iadd dL_law_1356 ?_
  refine LW.sld dL_law_1357 (law_in hj hL).2.2.2.1 ?_
  refine LW.aload_n 0 dL_law_1358 rfl rfl ?_
  refine LW.iload 4 dL_law_1359 rfl ?_
  refine LW.iconst dL_law_1361 kI_5 ?_
  refine LW.iadd dL_law_1362 ?_
  refine LW.sld dL_law_1363 (law_in hj hL).2.2.2.2 ?_
  refine LW.callv [.int (xs (nI (6 * j) + 1).toNatClampNeg), .int (xs (nI (6 * j) + 2).toNatClampNeg), .int (xs (nI (6 * j) + 3).toNatClampNeg), .int (xs (nI (6 * j) + 4).toNatClampNeg), .int (xs (nI (6 * j) + 5).toNatClampNeg)] (rest := [.int r]) dL_law_1364 lV_L_164 rfl ⟨by decide, by show _ + 0 ≤ _; omega, by show _ + 0 ≤ _; omega, Nat.le_of_ble_eq_true rfl⟩ hO1 (gX10_game t1 mo ((xs (nI (6 * j) + 1).toNatClampNeg)) ((xs (nI (6 * j) + 2).toNatClampNeg)) ((xs (nI (6 * j) + 3).toNatClampNeg)) ((xs (nI (6 * j) + 4).toNatClampNeg)) ((xs (nI (6 * j) + 5).toNatClampNeg)) _ _ hp2) (fun r9 t9 h9 => ?_)
  obtain ⟨rfl, h8⟩ := h9
  rw [h8]
  refine LW.at (st2 := [.int r, .int r]) (k2 := 75 + 4 * j) (n2 := 20149 + 300 * j) rfl rfl rfl ?_
  refine LW.icmp_eqT (tgt := 1583) dL_law_1367 (by decide) rfl ?_
  refine LW.widen (k2 := 75 + 4 * (j + 1)) (n2 := 20149 + 300 * (j + 1)) (by omega) (by omega) ?_
  exact hk t2 hR2
set_option maxHeartbeats 4000000 in
set_option maxRecDepth 100000 in
theorem law_c33 {Rel : Nat → Nat → Nat → St → Prop} (hO : lawO Rel) (h33 : ∀ (v0 : Int32) (v1 : Int32) (v2 : Int32), stp Rel (fun t x => fX9_rests t x v0 v1 v2) (fun t m => fX10_rests t m v0 v1 v2)) {b L : Nat} {xs : Nat → Int32} {x mo ou j : Nat} (hj : 6 * j + 6 ≤ L) (hL : L ≤ 384) {σ : St} (hR : Rel x mo ou σ) (hk : ∀ t, Rel x mo ou t → LW b L xs (75 + 4 * (j + 1)) (20149 + 300 * (j + 1)) 1583 [(0, .ref b), (1, .ref x), (2, .ref mo), (3, .ref ou), (4, .int (nI (6 * j)))] [] t) : LW b L xs (75 + 4 * j) (20149 + 300 * j) 1372 [(0, .ref b), (1, .ref x), (2, .ref mo), (3, .ref ou), (4, .int (nI (6 * j)))] [] σ := by
  refine LW.aload_n 1 dL_law_1372 rfl rfl ?_
  refine LW.aload_n 0 dL_law_1373 rfl rfl ?_
  refine LW.iload 4 dL_law_1374 rfl ?_
  refine LW.iconst dL_law_1376 kI_1 ?_
  refine LW.iadd dL_law_1377 ?_
  refine LW.sld dL_law_1378 (law_in hj hL).1 ?_
  refine LW.aload_n 0 dL_law_1379 rfl rfl ?_
  refine LW.iload 4 dL_law_1380 rfl ?_
  refine LW.iconst dL_law_1382 kI_2 ?_
  refine LW.iadd dL_law_1383 ?_
  refine LW.sld dL_law_1384 (law_in hj hL).2.1 ?_
  refine LW.aload_n 0 dL_law_1385 rfl rfl ?_
  refine LW.iload 4 dL_law_1386 rfl ?_
  refine LW.iconst dL_law_1388 kI_3 ?_
  refine LW.iadd dL_law_1389 ?_
  refine LW.sld dL_law_1390 (law_in hj hL).2.2.1 ?_
  obtain ⟨r, t1, t2, hp1, hO1, hp2, hR2⟩ := h33 ((xs (nI (6 * j) + 1).toNatClampNeg)) ((xs (nI (6 * j) + 2).toNatClampNeg)) ((xs (nI (6 * j) + 3).toNatClampNeg)) x mo ou σ hR
  refine LW.callv [.int (xs (nI (6 * j) + 1).toNatClampNeg), .int (xs (nI (6 * j) + 2).toNatClampNeg), .int (xs (nI (6 * j) + 3).toNatClampNeg)] (rest := []) dL_law_1391 lV_L_165 rfl ⟨by decide, by show _ + 0 ≤ _; omega, by show _ + 0 ≤ _; omega, by decide⟩ (hO x mo ou σ hR).1 (gX9_rests σ x ((xs (nI (6 * j) + 1).toNatClampNeg)) ((xs (nI (6 * j) + 2).toNatClampNeg)) ((xs (nI (6 * j) + 3).toNatClampNeg)) _ _ hp1) (fun r9 t9 h9 => ?_)
  obtain ⟨rfl, h8⟩ := h9
  rw [h8]
  refine LW.at (st2 := [.int r]) (k2 := 75 + 4 * j) (n2 := 20149 + 300 * j) rfl rfl rfl ?_
  refine LW.aload_n 2 dL_law_1394 rfl rfl ?_
  refine LW.aload_n 0 dL_law_1395 rfl rfl ?_
  refine LW.iload 4 dL_law_1396 rfl ?_
  refine LW.iconst dL_law_1398 kI_1 ?_
  refine LW.iadd dL_law_1399 ?_
  refine LW.sld dL_law_1400 (law_in hj hL).1 ?_
  refine LW.aload_n 0 dL_law_1401 rfl rfl ?_
  refine LW.iload 4 dL_law_1402 rfl ?_
  refine LW.iconst dL_law_1404 kI_2 ?_
  refine LW.iadd dL_law_1405 ?_
  refine LW.sld dL_law_1406 (law_in hj hL).2.1 ?_
  refine LW.aload_n 0 dL_law_1407 rfl rfl ?_
  refine LW.iload 4 dL_law_1408 rfl ?_
  refine LW.iconst dL_law_1410 kI_3 ?_
  refine LW.iadd dL_law_1411 ?_
  refine LW.sld dL_law_1412 (law_in hj hL).2.2.1 ?_
  refine LW.callv [.int (xs (nI (6 * j) + 1).toNatClampNeg), .int (xs (nI (6 * j) + 2).toNatClampNeg), .int (xs (nI (6 * j) + 3).toNatClampNeg)] (rest := [.int r]) dL_law_1413 lV_L_168 rfl ⟨by decide, by show _ + 0 ≤ _; omega, by show _ + 0 ≤ _; omega, Nat.le_of_ble_eq_true rfl⟩ hO1 (gX10_rests t1 mo ((xs (nI (6 * j) + 1).toNatClampNeg)) ((xs (nI (6 * j) + 2).toNatClampNeg)) ((xs (nI (6 * j) + 3).toNatClampNeg)) _ _ hp2) (fun r9 t9 h9 => ?_)
  obtain ⟨rfl, h8⟩ := h9
  rw [h8]
  refine LW.at (st2 := [.int r, .int r]) (k2 := 75 + 4 * j) (n2 := 20149 + 300 * j) rfl rfl rfl ?_
  refine LW.icmp_eqT (tgt := 1583) dL_law_1416 (by decide) rfl ?_
  refine LW.widen (k2 := 75 + 4 * (j + 1)) (n2 := 20149 + 300 * (j + 1)) (by omega) (by omega) ?_
  exact hk t2 hR2
set_option maxHeartbeats 4000000 in
set_option maxRecDepth 100000 in
theorem law_c34 {Rel : Nat → Nat → Nat → St → Prop} (hO : lawO Rel) (h34 : ∀ (v0 : Int32) (v1 : Int32) (v2 : Int32), stp Rel (fun t x => fX9_odds t x v0 v1 v2) (fun t m => fX10_odds t m v0 v1 v2)) {b L : Nat} {xs : Nat → Int32} {x mo ou j : Nat} (hj : 6 * j + 6 ≤ L) (hL : L ≤ 384) {σ : St} (hR : Rel x mo ou σ) (hk : ∀ t, Rel x mo ou t → LW b L xs (75 + 4 * (j + 1)) (20149 + 300 * (j + 1)) 1583 [(0, .ref b), (1, .ref x), (2, .ref mo), (3, .ref ou), (4, .int (nI (6 * j)))] [] t) : LW b L xs (75 + 4 * j) (20149 + 300 * j) 1421 [(0, .ref b), (1, .ref x), (2, .ref mo), (3, .ref ou), (4, .int (nI (6 * j)))] [] σ := by
  refine LW.aload_n 1 dL_law_1421 rfl rfl ?_
  refine LW.aload_n 0 dL_law_1422 rfl rfl ?_
  refine LW.iload 4 dL_law_1423 rfl ?_
  refine LW.iconst dL_law_1425 kI_1 ?_
  refine LW.iadd dL_law_1426 ?_
  refine LW.sld dL_law_1427 (law_in hj hL).1 ?_
  refine LW.aload_n 0 dL_law_1428 rfl rfl ?_
  refine LW.iload 4 dL_law_1429 rfl ?_
  refine LW.iconst dL_law_1431 kI_2 ?_
  refine LW.iadd dL_law_1432 ?_
  refine LW.sld dL_law_1433 (law_in hj hL).2.1 ?_
  refine LW.aload_n 0 dL_law_1434 rfl rfl ?_
  refine LW.iload 4 dL_law_1435 rfl ?_
  refine LW.iconst dL_law_1437 kI_3 ?_
  refine LW.iadd dL_law_1438 ?_
  refine LW.sld dL_law_1439 (law_in hj hL).2.2.1 ?_
  obtain ⟨r, t1, t2, hp1, hO1, hp2, hR2⟩ := h34 ((xs (nI (6 * j) + 1).toNatClampNeg)) ((xs (nI (6 * j) + 2).toNatClampNeg)) ((xs (nI (6 * j) + 3).toNatClampNeg)) x mo ou σ hR
  refine LW.callv [.int (xs (nI (6 * j) + 1).toNatClampNeg), .int (xs (nI (6 * j) + 2).toNatClampNeg), .int (xs (nI (6 * j) + 3).toNatClampNeg)] (rest := []) dL_law_1440 lV_L_169 rfl ⟨by decide, by show _ + 0 ≤ _; omega, by show _ + 0 ≤ _; omega, by decide⟩ (hO x mo ou σ hR).1 (gX9_odds σ x ((xs (nI (6 * j) + 1).toNatClampNeg)) ((xs (nI (6 * j) + 2).toNatClampNeg)) ((xs (nI (6 * j) + 3).toNatClampNeg)) _ _ hp1) (fun r9 t9 h9 => ?_)
  obtain ⟨rfl, h8⟩ := h9
  rw [h8]
  refine LW.at (st2 := [.int r]) (k2 := 75 + 4 * j) (n2 := 20149 + 300 * j) rfl rfl rfl ?_
  refine LW.aload_n 2 dL_law_1443 rfl rfl ?_
  refine LW.aload_n 0 dL_law_1444 rfl rfl ?_
  refine LW.iload 4 dL_law_1445 rfl ?_
  refine LW.iconst dL_law_1447 kI_1 ?_
  refine LW.iadd dL_law_1448 ?_
  refine LW.sld dL_law_1449 (law_in hj hL).1 ?_
  refine LW.aload_n 0 dL_law_1450 rfl rfl ?_
  refine LW.iload 4 dL_law_1451 rfl ?_
  refine LW.iconst dL_law_1453 kI_2 ?_
  refine LW.iadd dL_law_1454 ?_
  refine LW.sld dL_law_1455 (law_in hj hL).2.1 ?_
  refine LW.aload_n 0 dL_law_1456 rfl rfl ?_
  refine LW.iload 4 dL_law_1457 rfl ?_
  refine LW.iconst dL_law_1459 kI_3 ?_
  refine LW.iadd dL_law_1460 ?_
  refine LW.sld dL_law_1461 (law_in hj hL).2.2.1 ?_
  refine LW.callv [.int (xs (nI (6 * j) + 1).toNatClampNeg), .int (xs (nI (6 * j) + 2).toNatClampNeg), .int (xs (nI (6 * j) + 3).toNatClampNeg)] (rest := [.int r]) dL_law_1462 lV_L_172 rfl ⟨by decide, by show _ + 0 ≤ _; omega, by show _ + 0 ≤ _; omega, Nat.le_of_ble_eq_true rfl⟩ hO1 (gX10_odds t1 mo ((xs (nI (6 * j) + 1).toNatClampNeg)) ((xs (nI (6 * j) + 2).toNatClampNeg)) ((xs (nI (6 * j) + 3).toNatClampNeg)) _ _ hp2) (fun r9 t9 h9 => ?_)
  obtain ⟨rfl, h8⟩ := h9
  rw [h8]
  refine LW.at (st2 := [.int r, .int r]) (k2 := 75 + 4 * j) (n2 := 20149 + 300 * j) rfl rfl rfl ?_
  refine LW.icmp_eqT (tgt := 1583) dL_law_1465 (by decide) rfl ?_
  refine LW.widen (k2 := 75 + 4 * (j + 1)) (n2 := 20149 + 300 * (j + 1)) (by omega) (by omega) ?_
  exact hk t2 hR2
set_option maxHeartbeats 4000000 in
set_option maxRecDepth 100000 in
theorem law_c35 {Rel : Nat → Nat → Nat → St → Prop} (hO : lawO Rel) (h35 : ∀ (v0 : Int32) (v1 : Int32), stp Rel (fun t x => fX9_shares t x v0 v1) (fun t m => fX10_shares t m v0 v1)) {b L : Nat} {xs : Nat → Int32} {x mo ou j : Nat} (hj : 6 * j + 6 ≤ L) (hL : L ≤ 384) {σ : St} (hR : Rel x mo ou σ) (hk : ∀ t, Rel x mo ou t → LW b L xs (75 + 4 * (j + 1)) (20149 + 300 * (j + 1)) 1583 [(0, .ref b), (1, .ref x), (2, .ref mo), (3, .ref ou), (4, .int (nI (6 * j)))] [] t) : LW b L xs (75 + 4 * j) (20149 + 300 * j) 1470 [(0, .ref b), (1, .ref x), (2, .ref mo), (3, .ref ou), (4, .int (nI (6 * j)))] [] σ := by
  refine LW.aload_n 1 dL_law_1470 rfl rfl ?_
  refine LW.aload_n 0 dL_law_1471 rfl rfl ?_
  refine LW.iload 4 dL_law_1472 rfl ?_
  refine LW.iconst dL_law_1474 kI_1 ?_
  refine LW.iadd dL_law_1475 ?_
  refine LW.sld dL_law_1476 (law_in hj hL).1 ?_
  refine LW.aload_n 0 dL_law_1477 rfl rfl ?_
  refine LW.iload 4 dL_law_1478 rfl ?_
  refine LW.iconst dL_law_1480 kI_2 ?_
  refine LW.iadd dL_law_1481 ?_
  refine LW.sld dL_law_1482 (law_in hj hL).2.1 ?_
  obtain ⟨r, t1, t2, hp1, hO1, hp2, hR2⟩ := h35 ((xs (nI (6 * j) + 1).toNatClampNeg)) ((xs (nI (6 * j) + 2).toNatClampNeg)) x mo ou σ hR
  refine LW.callv [.int (xs (nI (6 * j) + 1).toNatClampNeg), .int (xs (nI (6 * j) + 2).toNatClampNeg)] (rest := []) dL_law_1483 lV_L_173 rfl ⟨by decide, by show _ + 0 ≤ _; omega, by show _ + 0 ≤ _; omega, by decide⟩ (hO x mo ou σ hR).1 (gX9_shares σ x ((xs (nI (6 * j) + 1).toNatClampNeg)) ((xs (nI (6 * j) + 2).toNatClampNeg)) _ _ hp1) (fun r9 t9 h9 => ?_)
  obtain ⟨rfl, h8⟩ := h9
  rw [h8]
  refine LW.at (st2 := [.int r]) (k2 := 75 + 4 * j) (n2 := 20149 + 300 * j) rfl rfl rfl ?_
  refine LW.aload_n 2 dL_law_1486 rfl rfl ?_
  refine LW.aload_n 0 dL_law_1487 rfl rfl ?_
  refine LW.iload 4 dL_law_1488 rfl ?_
  refine LW.iconst dL_law_1490 kI_1 ?_
  refine LW.iadd dL_law_1491 ?_
  refine LW.sld dL_law_1492 (law_in hj hL).1 ?_
  refine LW.aload_n 0 dL_law_1493 rfl rfl ?_
  refine LW.iload 4 dL_law_1494 rfl ?_
  refine LW.iconst dL_law_1496 kI_2 ?_
  refine LW.iadd dL_law_1497 ?_
  refine LW.sld dL_law_1498 (law_in hj hL).2.1 ?_
  refine LW.callv [.int (xs (nI (6 * j) + 1).toNatClampNeg), .int (xs (nI (6 * j) + 2).toNatClampNeg)] (rest := [.int r]) dL_law_1499 lV_L_176 rfl ⟨by decide, by show _ + 0 ≤ _; omega, by show _ + 0 ≤ _; omega, Nat.le_of_ble_eq_true rfl⟩ hO1 (gX10_shares t1 mo ((xs (nI (6 * j) + 1).toNatClampNeg)) ((xs (nI (6 * j) + 2).toNatClampNeg)) _ _ hp2) (fun r9 t9 h9 => ?_)
  obtain ⟨rfl, h8⟩ := h9
  rw [h8]
  refine LW.at (st2 := [.int r, .int r]) (k2 := 75 + 4 * j) (n2 := 20149 + 300 * j) rfl rfl rfl ?_
  refine LW.icmp_eqT (tgt := 1583) dL_law_1502 (by decide) rfl ?_
  refine LW.widen (k2 := 75 + 4 * (j + 1)) (n2 := 20149 + 300 * (j + 1)) (by omega) (by omega) ?_
  exact hk t2 hR2
set_option maxHeartbeats 4000000 in
set_option maxRecDepth 100000 in
theorem law_c36 {Rel : Nat → Nat → Nat → St → Prop} (hO : lawO Rel) (h36 : ∀ (v0 : Int32), stp Rel (fun t x => fX9_most t x v0) (fun t m => fX10_most t m v0)) {b L : Nat} {xs : Nat → Int32} {x mo ou j : Nat} (hj : 6 * j + 6 ≤ L) (hL : L ≤ 384) {σ : St} (hR : Rel x mo ou σ) (hk : ∀ t, Rel x mo ou t → LW b L xs (75 + 4 * (j + 1)) (20149 + 300 * (j + 1)) 1583 [(0, .ref b), (1, .ref x), (2, .ref mo), (3, .ref ou), (4, .int (nI (6 * j)))] [] t) : LW b L xs (75 + 4 * j) (20149 + 300 * j) 1507 [(0, .ref b), (1, .ref x), (2, .ref mo), (3, .ref ou), (4, .int (nI (6 * j)))] [] σ := by
  refine LW.aload_n 1 dL_law_1507 rfl rfl ?_
  refine LW.aload_n 0 dL_law_1508 rfl rfl ?_
  refine LW.iload 4 dL_law_1509 rfl ?_
  refine LW.iconst dL_law_1511 kI_1 ?_
  refine LW.iadd dL_law_1512 ?_
  refine LW.sld dL_law_1513 (law_in hj hL).1 ?_
  obtain ⟨r, t1, t2, hp1, hO1, hp2, hR2⟩ := h36 ((xs (nI (6 * j) + 1).toNatClampNeg)) x mo ou σ hR
  refine LW.callv [.int (xs (nI (6 * j) + 1).toNatClampNeg)] (rest := []) dL_law_1514 lV_L_177 rfl ⟨by decide, by show _ + 0 ≤ _; omega, by show _ + 0 ≤ _; omega, by decide⟩ (hO x mo ou σ hR).1 (gX9_most σ x ((xs (nI (6 * j) + 1).toNatClampNeg)) _ _ hp1) (fun r9 t9 h9 => ?_)
  obtain ⟨rfl, h8⟩ := h9
  rw [h8]
  refine LW.at (st2 := [.int r]) (k2 := 75 + 4 * j) (n2 := 20149 + 300 * j) rfl rfl rfl ?_
  refine LW.aload_n 2 dL_law_1517 rfl rfl ?_
  refine LW.aload_n 0 dL_law_1518 rfl rfl ?_
  refine LW.iload 4 dL_law_1519 rfl ?_
  refine LW.iconst dL_law_1521 kI_1 ?_
  refine LW.iadd dL_law_1522 ?_
  refine LW.sld dL_law_1523 (law_in hj hL).1 ?_
  refine LW.callv [.int (xs (nI (6 * j) + 1).toNatClampNeg)] (rest := [.int r]) dL_law_1524 lV_L_180 rfl ⟨by decide, by show _ + 0 ≤ _; omega, by show _ + 0 ≤ _; omega, Nat.le_of_ble_eq_true rfl⟩ hO1 (gX10_most t1 mo ((xs (nI (6 * j) + 1).toNatClampNeg)) _ _ hp2) (fun r9 t9 h9 => ?_)
  obtain ⟨rfl, h8⟩ := h9
  rw [h8]
  refine LW.at (st2 := [.int r, .int r]) (k2 := 75 + 4 * j) (n2 := 20149 + 300 * j) rfl rfl rfl ?_
  refine LW.icmp_eqT (tgt := 1583) dL_law_1527 (by decide) rfl ?_
  refine LW.widen (k2 := 75 + 4 * (j + 1)) (n2 := 20149 + 300 * (j + 1)) (by omega) (by omega) ?_
  exact hk t2 hR2
set_option maxHeartbeats 4000000 in
set_option maxRecDepth 100000 in
theorem law_c37 {Rel : Nat → Nat → Nat → St → Prop} (hO : lawO Rel) (h37 : stp Rel (fun t x => fX9_image t x ) (fun t m => fX10_image t m )) {b L : Nat} {xs : Nat → Int32} {x mo ou j : Nat} (hj : 6 * j + 6 ≤ L) (hL : L ≤ 384) {σ : St} (hR : Rel x mo ou σ) (hk : ∀ t, Rel x mo ou t → LW b L xs (75 + 4 * (j + 1)) (20149 + 300 * (j + 1)) 1583 [(0, .ref b), (1, .ref x), (2, .ref mo), (3, .ref ou), (4, .int (nI (6 * j)))] [] t) : LW b L xs (75 + 4 * j) (20149 + 300 * j) 1532 [(0, .ref b), (1, .ref x), (2, .ref mo), (3, .ref ou), (4, .int (nI (6 * j)))] [] σ := by
  refine LW.aload_n 1 dL_law_1532 rfl rfl ?_
  obtain ⟨r, t1, t2, hp1, hO1, hp2, hR2⟩ := h37  x mo ou σ hR
  refine LW.callv [] (rest := []) dL_law_1533 lV_L_181 rfl ⟨by decide, by show _ + 0 ≤ _; omega, by show _ + 0 ≤ _; omega, by decide⟩ (hO x mo ou σ hR).1 (gX9_image σ x  _ _ hp1) (fun r9 t9 h9 => ?_)
  obtain ⟨rfl, h8⟩ := h9
  rw [h8]
  refine LW.at (st2 := [.int r]) (k2 := 75 + 4 * j) (n2 := 20149 + 300 * j) rfl rfl rfl ?_
  refine LW.aload_n 2 dL_law_1536 rfl rfl ?_
  refine LW.callv [] (rest := [.int r]) dL_law_1537 lV_L_184 rfl ⟨by decide, by show _ + 0 ≤ _; omega, by show _ + 0 ≤ _; omega, Nat.le_of_ble_eq_true rfl⟩ hO1 (gX10_image t1 mo  _ _ hp2) (fun r9 t9 h9 => ?_)
  obtain ⟨rfl, h8⟩ := h9
  rw [h8]
  refine LW.at (st2 := [.int r, .int r]) (k2 := 75 + 4 * j) (n2 := 20149 + 300 * j) rfl rfl rfl ?_
  refine LW.icmp_eqT (tgt := 1583) dL_law_1540 (by decide) rfl ?_
  refine LW.widen (k2 := 75 + 4 * (j + 1)) (n2 := 20149 + 300 * (j + 1)) (by omega) (by omega) ?_
  exact hk t2 hR2
set_option maxHeartbeats 4000000 in
set_option maxRecDepth 100000 in
theorem law_c38 {Rel : Nat → Nat → Nat → St → Prop} (hO : lawO Rel) (h38 : stp Rel (fun t x => fX9_back t x ) (fun t m => fX10_back t m )) {b L : Nat} {xs : Nat → Int32} {x mo ou j : Nat} (hj : 6 * j + 6 ≤ L) (hL : L ≤ 384) {σ : St} (hR : Rel x mo ou σ) (hk : ∀ t, Rel x mo ou t → LW b L xs (75 + 4 * (j + 1)) (20149 + 300 * (j + 1)) 1583 [(0, .ref b), (1, .ref x), (2, .ref mo), (3, .ref ou), (4, .int (nI (6 * j)))] [] t) : LW b L xs (75 + 4 * j) (20149 + 300 * j) 1545 [(0, .ref b), (1, .ref x), (2, .ref mo), (3, .ref ou), (4, .int (nI (6 * j)))] [] σ := by
  refine LW.aload_n 1 dL_law_1545 rfl rfl ?_
  obtain ⟨r, t1, t2, hp1, hO1, hp2, hR2⟩ := h38  x mo ou σ hR
  refine LW.callv [] (rest := []) dL_law_1546 lV_L_185 rfl ⟨by decide, by show _ + 0 ≤ _; omega, by show _ + 0 ≤ _; omega, by decide⟩ (hO x mo ou σ hR).1 (gX9_back σ x  _ _ hp1) (fun r9 t9 h9 => ?_)
  obtain ⟨rfl, h8⟩ := h9
  rw [h8]
  refine LW.at (st2 := [.int r]) (k2 := 75 + 4 * j) (n2 := 20149 + 300 * j) rfl rfl rfl ?_
  refine LW.aload_n 2 dL_law_1549 rfl rfl ?_
  refine LW.callv [] (rest := [.int r]) dL_law_1550 lV_L_188 rfl ⟨by decide, by show _ + 0 ≤ _; omega, by show _ + 0 ≤ _; omega, Nat.le_of_ble_eq_true rfl⟩ hO1 (gX10_back t1 mo  _ _ hp2) (fun r9 t9 h9 => ?_)
  obtain ⟨rfl, h8⟩ := h9
  rw [h8]
  refine LW.at (st2 := [.int r, .int r]) (k2 := 75 + 4 * j) (n2 := 20149 + 300 * j) rfl rfl rfl ?_
  refine LW.icmp_eqT (tgt := 1583) dL_law_1553 (by decide) rfl ?_
  refine LW.widen (k2 := 75 + 4 * (j + 1)) (n2 := 20149 + 300 * (j + 1)) (by omega) (by omega) ?_
  exact hk t2 hR2
set_option maxHeartbeats 4000000 in
set_option maxRecDepth 100000 in
theorem law_c39 {Rel : Nat → Nat → Nat → St → Prop} (hO : lawO Rel) (h39 : ∀ (v0 : Int32), stp Rel (fun t x => fX9_count t x v0) (fun t m => fX10_count t m v0)) {b L : Nat} {xs : Nat → Int32} {x mo ou j : Nat} (hj : 6 * j + 6 ≤ L) (hL : L ≤ 384) {σ : St} (hR : Rel x mo ou σ) (hk : ∀ t, Rel x mo ou t → LW b L xs (75 + 4 * (j + 1)) (20149 + 300 * (j + 1)) 1583 [(0, .ref b), (1, .ref x), (2, .ref mo), (3, .ref ou), (4, .int (nI (6 * j)))] [] t) : LW b L xs (75 + 4 * j) (20149 + 300 * j) 1558 [(0, .ref b), (1, .ref x), (2, .ref mo), (3, .ref ou), (4, .int (nI (6 * j)))] [] σ := by
  refine LW.aload_n 1 dL_law_1558 rfl rfl ?_
  refine LW.aload_n 0 dL_law_1559 rfl rfl ?_
  refine LW.iload 4 dL_law_1560 rfl ?_
  refine LW.iconst dL_law_1562 kI_1 ?_
  refine LW.iadd dL_law_1563 ?_
  refine LW.sld dL_law_1564 (law_in hj hL).1 ?_
  obtain ⟨r, t1, t2, hp1, hO1, hp2, hR2⟩ := h39 ((xs (nI (6 * j) + 1).toNatClampNeg)) x mo ou σ hR
  refine LW.callv [.int (xs (nI (6 * j) + 1).toNatClampNeg)] (rest := []) dL_law_1565 lV_L_189 rfl ⟨by decide, by show _ + 0 ≤ _; omega, by show _ + 0 ≤ _; omega, by decide⟩ (hO x mo ou σ hR).1 (gX9_count σ x ((xs (nI (6 * j) + 1).toNatClampNeg)) _ _ hp1) (fun r9 t9 h9 => ?_)
  obtain ⟨rfl, h8⟩ := h9
  rw [h8]
  refine LW.at (st2 := [.int r]) (k2 := 75 + 4 * j) (n2 := 20149 + 300 * j) rfl rfl rfl ?_
  refine LW.aload_n 2 dL_law_1568 rfl rfl ?_
  refine LW.aload_n 0 dL_law_1569 rfl rfl ?_
  refine LW.iload 4 dL_law_1570 rfl ?_
  refine LW.iconst dL_law_1572 kI_1 ?_
  refine LW.iadd dL_law_1573 ?_
  refine LW.sld dL_law_1574 (law_in hj hL).1 ?_
  refine LW.callv [.int (xs (nI (6 * j) + 1).toNatClampNeg)] (rest := [.int r]) dL_law_1575 lV_L_192 rfl ⟨by decide, by show _ + 0 ≤ _; omega, by show _ + 0 ≤ _; omega, Nat.le_of_ble_eq_true rfl⟩ hO1 (gX10_count t1 mo ((xs (nI (6 * j) + 1).toNatClampNeg)) _ _ hp2) (fun r9 t9 h9 => ?_)
  obtain ⟨rfl, h8⟩ := h9
  rw [h8]
  refine LW.at (st2 := [.int r, .int r]) (k2 := 75 + 4 * j) (n2 := 20149 + 300 * j) rfl rfl rfl ?_
  refine LW.icmp_eqT (tgt := 1583) dL_law_1578 (by decide) rfl ?_
  refine LW.widen (k2 := 75 + 4 * (j + 1)) (n2 := 20149 + 300 * (j + 1)) (by omega) (by omega) ?_
  exact hk t2 hR2
