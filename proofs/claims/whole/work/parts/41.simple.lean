/-! the small methods: what they answer, and what they do to the worlds -/
theorem f_in (σ : St) (v lo hi : Int32) : fX10_in σ v lo hi = some (if v < lo then 0 else if hi < v then 0 else 1, σ) := by
  unfold fX10_in
  split
  · rfl
  · split <;> rfl
theorem f_max (σ : St) (x y : Int32) : fJ9_max_7cf53 σ x y = some (if x < y then y else x, σ) := by
  unfold fJ9_max_7cf53; split <;> rfl
theorem f_min (σ : St) (x y : Int32) : fJ9_min_7cf53 σ x y = some (if y < x then y else x, σ) := by
  unfold fJ9_min_7cf53; split <;> rfl
theorem f_maxL (σ : St) (x y : Int64) : fJ9_max_f86c9 σ x y = some (if lg_cmp x y < 0 then y else x, σ) := by
  unfold fJ9_max_f86c9; split <;> rfl
theorem f_minL (σ : St) (x y : Int64) : fJ9_min_f86c9 σ x y = some (if 0 < lg_cmp x y then y else x, σ) := by
  unfold fJ9_min_f86c9; split <;> rfl
theorem f_abs (σ : St) (x : Int32) : fJ9_abs_0f7a4 σ x = some (if 0 ≤ x then x else -x, σ) := by
  unfold fJ9_abs_0f7a4; split <;> rfl
/-- how many ones: what Integer.bitCount works out -/
def bitC (x : Int32) : Int32 := match fJ6_bitCount_0f7a4 ((fun _ => 0, fun _ => none), [], fun _ => none) x with
  | some q => q.1
  | none => 0
theorem f_bitC (σ : St) (x : Int32) : fJ6_bitCount_0f7a4 σ x = some (bitC x, σ) := rfl
section
variable {A : Nat → Nat} {I : Nat → Int32} {R : Nat → Nat → Int32} {dr : Int64} {lw : Nat → Option Nat} {σ : St}
-- class
theorem c_end (h : CW A I R dr lw σ) (v : Int32) : ∃ t, fX9_end σ (A 0) v = some (if v < 0 then 0 else if v ≤ I 21 then 1 else 0, t) ∧ CW A (if v < 0 then I else if v ≤ I 21 then upd I 21 v else I) R dr lw t ∧ Sm (setC A) σ t := by
  unfold fX9_end
  by_cases h1 : v < 0
  · simp only [h1, if_true]; exact ⟨σ, rfl, h, Sm.rf⟩
  · simp only [h1, if_false]
    rw [cr_0_0 h, Option.bind_some, cr_1_1 h, Option.bind_some]
    by_cases h2 : v ≤ I 21
    · simp only [h2, if_true]
      rw [Option.bind_some]
      obtain ⟨t, e, g1, g2⟩ := h.putI 1 1 v rfl (by decide) rfl (Nat.le_of_ble_eq_true rfl) rfl
      rw [e, Option.bind_some]
      exact ⟨t, rfl, g1, g2⟩
    · simp only [h2, if_false]; exact ⟨σ, rfl, h, Sm.rf⟩
theorem c_mist (h : CW A I R dr lw σ) (v : Int32) : ∃ t, fX9_mist σ (A 0) v = some (if v < 0 then 0 else if 9 < v then 0 else if v = I 6 then 0 else 1, t) ∧ CW A (if v < 0 then I else if 9 < v then I else if v = I 6 then I else upd I 6 v) R dr lw t ∧ Sm (setC A) σ t := by
  unfold fX9_mist
  by_cases h1 : v < 0
  · simp only [h1, if_true]; exact ⟨σ, rfl, h, Sm.rf⟩
  · simp only [h1, if_false]
    by_cases h2 : 9 < v
    · simp only [h2, if_true]; exact ⟨σ, rfl, h, Sm.rf⟩
    · simp only [h2, if_false]
      rw [cr_0_6 h, Option.bind_some]
      by_cases h3 : v = I 6
      · simp only [h3, if_true]; exact ⟨σ, rfl, h, Sm.rf⟩
      · simp only [h3, if_false]
        obtain ⟨t, e, g1, g2⟩ := h.putI 0 6 v rfl (by decide) rfl (Nat.le_of_ble_eq_true rfl) rfl
        rw [e, Option.bind_some]
        exact ⟨t, rfl, g1, g2⟩
theorem c_law (h : CW A I R dr lw σ) (v : Int32) : ∃ t, fX9_law σ (A 0) v = some (if v < -1 then 0 else if v < I 4 then 1 else 0, t) ∧ CW A (if v < -1 then I else if v < I 4 then upd I 5 v else I) R dr lw t ∧ Sm (setC A) σ t := by
  unfold fX9_law
  by_cases h1 : v < -1
  · simp only [h1, if_true]; exact ⟨σ, rfl, h, Sm.rf⟩
  · simp only [h1, if_false]
    rw [cr_0_4 h, Option.bind_some]
    by_cases h2 : v < I 4
    · simp only [h2, if_true]
      obtain ⟨t, e, g1, g2⟩ := h.putI 0 5 v rfl (by decide) rfl (Nat.le_of_ble_eq_true rfl) rfl
      rw [e, Option.bind_some]
      exact ⟨t, rfl, g1, g2⟩
    · simp only [h2, if_false]; exact ⟨σ, rfl, h, Sm.rf⟩
theorem inb_of {v : Int32} {n : Nat} (h1 : ¬ v < 0) (h2 : v < Int32.ofNat n) (hn : n < 2 ^ 31) : inb v n := by
  rw [Int32.lt_iff_toInt_lt, Int32.toInt_zero] at h1
  rw [Int32.lt_iff_toInt_lt, show (Int32.ofNat n).toInt = (n : Int) from nI_toInt hn] at h2
  exact ⟨by omega, h2⟩
theorem c_status (h : CW A I R dr lw σ) (v : Int32) : fX9_status σ (A 0) v = some (if v < 0 then -1 else if 5 ≤ v then -1 else R 10 v.toNatClampNeg, σ) := by
  unfold fX9_status
  by_cases h1 : v < 0
  · simp only [h1, if_true]
  · simp only [h1, if_false]
    by_cases h2 : 5 ≤ v
    · simp only [h2, if_true]
    · simp only [h2, if_false]
      rw [cr_0_7 h, Option.bind_some, ca_10 h (inb_of h1 (Int32.not_le.mp h2) (by decide)), Option.bind_some]
theorem c_noLand (h : CW A I R dr lw σ) : fX9_noLand σ (A 0) = some (if I 222 = 0 then 1 else 0, σ) := by
  unfold fX9_noLand
  rw [cr_0_8 h, Option.bind_some, cr_11_2 h, Option.bind_some]
  split <;> rfl
theorem c_hasCell (h : CW A I R dr lw σ) (v : Int32) : fX7_hasCell σ (A 11) v = some (if v < 0 then 0 else if I 222 ≤ v then 0 else 1, σ) := by
  unfold fX7_hasCell
  split
  · rfl
  · rw [cr_11_2 h, Option.bind_some]; split <;> rfl
theorem c_hasTower (h : CW A I R dr lw σ) (v : Int32) : fX7_hasTower σ (A 11) v = some (if v < 0 then 0 else if I 223 ≤ v then 0 else 1, σ) := by
  unfold fX7_hasTower
  split
  · rfl
  · rw [cr_11_3 h, Option.bind_some]; split <;> rfl
end
section
variable {B : Nat → Nat} {J : Nat → Int32} {Q : Nat → Nat → Int32} {dr : Int64} {σ : St}
-- reference
theorem m_end (h : MW B J Q dr σ) (v : Int32) : ∃ t, fX10_end σ (B 0) v = some (if v < 0 then 0 else if v ≤ J 2 then 1 else 0, t) ∧ MW B (if v < 0 then J else if v ≤ J 2 then upd J 2 v else J) Q dr t ∧ Sm (setM B) σ t := by
  unfold fX10_end
  by_cases h1 : v < 0
  · simp only [h1, if_true]; exact ⟨σ, rfl, h, Sm.rf⟩
  · simp only [h1, if_false]
    rw [mr_0_2 h, Option.bind_some]
    by_cases h2 : v ≤ J 2
    · simp only [h2, if_true]
      obtain ⟨t, e, g1, g2⟩ := h.putI 0 2 v rfl (by decide) rfl (Nat.le_of_ble_eq_true rfl) rfl
      rw [e, Option.bind_some]
      exact ⟨t, rfl, g1, g2⟩
    · simp only [h2, if_false]; exact ⟨σ, rfl, h, Sm.rf⟩
theorem m_mist (h : MW B J Q dr σ) (v : Int32) : ∃ t, fX10_mist σ (B 0) v = some (if v < 0 then 0 else if 9 < v then 0 else if v = J 31 then 0 else 1, t) ∧ MW B (if v < 0 then J else if 9 < v then J else if v = J 31 then J else upd J 31 v) Q dr t ∧ Sm (setM B) σ t := by
  unfold fX10_mist
  rw [f_in, bd_some]
  by_cases h1 : v < 0
  · simp only [h1, if_true]; exact ⟨σ, rfl, h, Sm.rf⟩
  · simp only [h1, if_false]
    by_cases h2 : 9 < v
    · simp only [h2, if_true]; exact ⟨σ, rfl, h, Sm.rf⟩
    · simp only [h2, if_false]
      rw [if_neg (by decide), mr_0_31 h, Option.bind_some]
      by_cases h3 : v = J 31
      · simp only [h3, if_true]; exact ⟨σ, rfl, h, Sm.rf⟩
      · simp only [h3, if_false]
        obtain ⟨t, e, g1, g2⟩ := h.putI 0 31 v rfl (by decide) rfl (Nat.le_of_ble_eq_true rfl) rfl
        rw [e, Option.bind_some]
        exact ⟨t, rfl, g1, g2⟩
theorem m_law (h : MW B J Q dr σ) (v : Int32) : ∃ t, fX10_law σ (B 0) v = some (if v < -1 then 0 else if J 13 - 1 < v then 0 else 1, t) ∧ MW B (if v < -1 then J else if J 13 - 1 < v then J else upd J 30 v) Q dr t ∧ Sm (setM B) σ t := by
  unfold fX10_law
  rw [mr_0_13 h, Option.bind_some, f_in, bd_some]
  by_cases h1 : v < -1
  · simp only [h1, if_true]; exact ⟨σ, rfl, h, Sm.rf⟩
  · simp only [h1, if_false]
    by_cases h2 : J 13 - 1 < v
    · simp only [h2, if_true]; exact ⟨σ, rfl, h, Sm.rf⟩
    · simp only [h2, if_false]
      rw [if_neg (by decide)]
      obtain ⟨t, e, g1, g2⟩ := h.putI 0 30 v rfl (by decide) rfl (Nat.le_of_ble_eq_true rfl) rfl
      rw [e, Option.bind_some]
      exact ⟨t, rfl, g1, g2⟩
theorem m_status (h : MW B J Q dr σ) (v : Int32) : fX10_status σ (B 0) v = some (if v < 0 then -1 else if 4 < v then -1 else Q 29 v.toNatClampNeg, σ) := by
  unfold fX10_status
  rw [f_in, bd_some]
  by_cases h1 : v < 0
  · simp only [h1, if_true]
  · simp only [h1, if_false]
    by_cases h2 : 4 < v
    · simp only [h2, if_true]
    · simp only [h2, if_false]
      have h3 : v < Int32.ofNat 5 := by
        rw [Int32.lt_iff_toInt_lt] at h2 ⊢
        have e4 : (4 : Int32).toInt = 4 := by decide
        have e5 : (Int32.ofNat 5).toInt = 5 := by decide
        omega
      rw [if_neg (by decide), mr_0_29 h, Option.bind_some, ma_29 h (inb_of h1 h3 (by decide)), Option.bind_some]
theorem m_isCell (h : MW B J Q dr σ) (v : Int32) : fX10_isCell σ (B 0) v = some (if v < 0 then 0 else if J 26 - 1 < v then 0 else 1, σ) := by
  unfold fX10_isCell
  rw [mr_0_26 h, Option.bind_some, f_in, bd_some]
  by_cases h1 : v < 0
  · simp [h1]
  · by_cases h2 : J 26 - 1 < v
    · simp [h1, h2]
    · simp [h1, h2]
theorem m_isTower (h : MW B J Q dr σ) (v : Int32) : fX10_isTower σ (B 0) v = some (if v < 0 then 0 else if J 27 - 1 < v then 0 else 1, σ) := by
  unfold fX10_isTower
  rw [mr_0_27 h, Option.bind_some, f_in, bd_some]
  by_cases h1 : v < 0
  · simp [h1]
  · by_cases h2 : J 27 - 1 < v
    · simp [h1, h2]
    · simp [h1, h2]
end
