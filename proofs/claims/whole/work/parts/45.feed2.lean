/-! feed: both sides -/
theorem byt_sshr (w : Int32) {s : Nat} (hs : s ≤ 24) : (w >>> (nI s &&& 31)) &&& 255 = byt w (nI s) := by
  unfold byt
  apply b_ext
  intro i hi
  rw [b_and, b_and, b_sshr s (by omega) w hi, b_ushr s (by omega) w i, b_255]
  by_cases h8 : i < 8
  · rw [if_pos (by omega)]
  · simp [h8]
def bBytesIn (σ : St) (px0 : Int32) : (Int32 → Int32 → Option (Int32 × St)) → Int32 → Int32 → Option (Int32 × St) := fun l3 x1 x2 =>
    if x2 < 0 then
    some (x1, σ)
  else
    jo1 (fun (x4 : Int32) =>
      l3 x4 (x2 + (-8))) (fun j5 =>
      if ((Int32.toUInt32 px0 >>> (Int32.toUInt32 x2 &&& Int32.toUInt32 31)).toInt32) &&& 255 = 0 then
        j5 x1
      else
        j5 (x1 + 1))
theorem fX8_bytesIn_eq (σ : St) (w : Int32) : fX8_bytesIn σ w = lo2 (bBytesIn σ w) FU 0 24 := rfl
theorem c_bytes1 (σ : St) (w s s' : Int32) (hs : ¬ s < 0) (hs' : s + (-8) = s') (n : Nat) (j : Int32 → Int32 → Option (Int32 × St)) : bBytesIn σ w j (nI n) s = j (nI (n + (nz (byt w s)).length)) s' := by
  unfold bBytesIn jo1
  rw [if_neg hs, hs']
  show (if byt w s = 0 then _ else _) = _
  by_cases hb : byt w s = 0
  · rw [if_pos hb]; simp [nz, hb]
  · rw [if_neg hb, nI_1]; simp [nz, hb]
theorem c_bytesIn (σ : St) (w : Int32) : fX8_bytesIn σ w = some (nI (by4 w).length, σ) := by
  rw [fX8_bytesIn_eq, show FU = 19995 + 1 + 1 + 1 + 1 + 1 from rfl, lo2_s, show (0 : Int32) = nI 0 from rfl]
  rw [c_bytes1 σ w 24 16 (by decide) (by decide), lo2_s, c_bytes1 σ w 16 8 (by decide) (by decide), lo2_s, c_bytes1 σ w 8 0 (by decide) (by decide), lo2_s, c_bytes1 σ w 0 (-8) (by decide) (by decide), lo2_s]
  unfold bBytesIn by4
  rw [if_pos (by decide)]
  simp only [List.length_append]
  rw [show 0 + (nz (byt w 24)).length + (nz (byt w 16)).length + (nz (byt w 8)).length + (nz (byt w 0)).length = (nz (byt w 24)).length + ((nz (byt w 16)).length + ((nz (byt w 8)).length + (nz (byt w 0)).length)) from by omega]
theorem by4_le (w : Int32) : (by4 w).length ≤ 4 := by
  have : ∀ b, (nz b).length ≤ 1 := by intro b; unfold nz; split <;> simp
  have h1 := this (byt w 24)
  have h2 := this (byt w 16)
  have h3 := this (byt w 8)
  have h4 := this (byt w 0)
  unfold by4
  simp only [List.length_append]
  omega
def by20 (a b c d e : Int32) : List Int32 := by4 a ++ (by4 b ++ (by4 c ++ (by4 d ++ by4 e)))
section
variable {A : Nat → Nat} {I : Nat → Int32} {R : Nat → Nat → Int32} {dr : Int64} {lw : Nat → Option Nat} {σ : St}
theorem c_feed (h : CW A I R dr lw σ) {n : Nat} (hn : I 21 = nI n) (hle : n ≤ 240) (v1 v2 v3 v4 v5 : Int32) :
    ∃ t, fX9_feed σ (A 0) v1 v2 v3 v4 v5 = some (if n + (by20 v1 v2 v3 v4 v5).length ≤ 240 then nI (n + (by20 v1 v2 v3 v4 v5).length) else -1, t) ∧ CW A (if n + (by20 v1 v2 v3 v4 v5).length ≤ 240 then upd I 21 (nI (n + (by20 v1 v2 v3 v4 v5).length)) else I) (if n + (by20 v1 v2 v3 v4 v5).length ≤ 240 then updR R 2 (lay (R 2) n (by20 v1 v2 v3 v4 v5)) else R) dr lw t ∧ Sm (setC A) σ t := by
  have l1 := by4_le v1
  have l2 := by4_le v2
  have l3 := by4_le v3
  have l4 := by4_le v4
  have l5 := by4_le v5
  have el : (by20 v1 v2 v3 v4 v5).length = (by4 v1).length + (by4 v2).length + (by4 v3).length + (by4 v4).length + (by4 v5).length := by
    unfold by20; simp only [List.length_append]; omega
  unfold fX9_feed nam
  simp only [c_bytesIn, bd_some, cr_0_0 h, cr_1_1 h, Option.bind_some]
  have ec : (I 21 + ((((nI (by4 v1).length + nI (by4 v2).length) + nI (by4 v3).length) + nI (by4 v4).length) + nI (by4 v5).length) ≤ 240) ↔ n + (by20 v1 v2 v3 v4 v5).length ≤ 240 := by
    rw [hn]
    simp only [nI_add]
    rw [show (240 : Int32) = nI 240 from rfl, nI_leI (by omega) (by omega), el]
  by_cases hc : n + (by20 v1 v2 v3 v4 v5).length ≤ 240
  · rw [if_pos (ec.mpr hc), if_pos hc, if_pos hc, if_pos hc]
    rw [bo_some (cO_1 h)]
    obtain ⟨t1, e1, g1, s1⟩ := c_append h hn v1 (by omega)
    simp only [e1, bd_some, cr_0_0 g1, Option.bind_some]
    rw [bo_some (cO_1 g1)]
    obtain ⟨t2, e2, g2, s2⟩ := c_append g1 (n := n + (by4 v1).length) pk_us v2 (by omega)
    simp only [e2, bd_some, cr_0_0 g2, Option.bind_some]
    rw [bo_some (cO_1 g2)]
    obtain ⟨t3, e3, g3, s3⟩ := c_append g2 (n := n + (by4 v1).length + (by4 v2).length) pk_us v3 (by omega)
    simp only [e3, bd_some, cr_0_0 g3, Option.bind_some]
    rw [bo_some (cO_1 g3)]
    obtain ⟨t4, e4, g4, s4⟩ := c_append g3 (n := n + (by4 v1).length + (by4 v2).length + (by4 v3).length) pk_us v4 (by omega)
    simp only [e4, bd_some, cr_0_0 g4, Option.bind_some]
    rw [bo_some (cO_1 g4)]
    obtain ⟨t5, e5, g5, s5⟩ := c_append g4 (n := n + (by4 v1).length + (by4 v2).length + (by4 v3).length + (by4 v4).length) pk_us v5 (by omega)
    simp only [e5, bd_some, cr_0_0 g5, cr_1_1 g5, Option.bind_some]
    simp only [upd_upd, updR_updR, updR_s] at g5
    have e6 : n + (by4 v1).length + (by4 v2).length + (by4 v3).length + (by4 v4).length + (by4 v5).length = n + (by20 v1 v2 v3 v4 v5).length := by omega
    refine ⟨t5, ?_, ?_, s1.tr (s2.tr (s3.tr (s4.tr s5)))⟩
    · rw [pk_us, e6]
    · unfold by20 at e6 ⊢
      rw [lay_app, lay_app, lay_app, lay_app, ← e6]
      exact g5
  · rw [if_neg (fun q => hc (ec.mp q)), if_neg hc, if_neg hc, if_neg hc]
    exact ⟨σ, rfl, h, Sm.rf⟩
end
