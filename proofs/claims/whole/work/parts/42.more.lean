/-! more small methods -/
theorem tbs_out {γ : Type} {x : Int32} {lo : Int} {Es : List (Option γ)} {Ed : Option γ} (h : x.toInt < lo ∨ lo + Es.length ≤ x.toInt) : tbs x lo Es Ed = Ed := by
  unfold tbs; rw [if_pos h]
theorem tbs_at {γ : Type} {x : Int32} {lo : Int} {Es : List (Option γ)} {Ed E : Option γ} (j : Nat) (hx : x.toInt = lo + j) (hE : Es[j]? = some E) : tbs x lo Es Ed = E := by
  have hl : j < Es.length := (List.getElem?_eq_some_iff.mp hE).1
  unfold tbs
  rw [if_neg (by omega), show (x.toInt - lo).toNat = j by omega, List.getD_eq_getElem?_getD, hE]
  rfl
section
variable {A : Nat → Nat} {I : Nat → Int32} {R : Nat → Nat → Int32} {dr : Int64} {lw : Nat → Option Nat} {σ : St}
theorem c_refuse (h : CW A I R dr lw σ) (v : Int32) (h1 : ¬ v < 0) (h2 : ¬ 5 ≤ v) : ∃ t, fX9_refuse σ (A 0) v = some (-1, t) ∧ CW A I (updR R 10 (upd (R 10) v.toNatClampNeg (R 10 v.toNatClampNeg + 1))) dr lw t ∧ Sm (setC A) σ t := by
  have hb : inb v 5 := inb_of h1 (Int32.not_le.mp h2) (by decide)
  unfold fX9_refuse
  simp only [h1, h2, if_false]
  rw [cr_0_7 h, Option.bind_some, ca_10 h hb, Option.bind_some]
  obtain ⟨t, e, g1, g2⟩ := h.putA 10 v (R 10 v.toNatClampNeg + 1) rfl (fun _ => rfl) hb
  rw [e, Option.bind_some]
  exact ⟨t, rfl, g1, g2⟩
theorem c_height (h : CW A I R dr lw σ) (hc : I 222 ≤ 30) (v : Int32) : fX9_height σ (A 0) v = some (if v < 0 then -1 else if I 222 ≤ v then -1 else R 12 v.toNatClampNeg, σ) := by
  unfold fX9_height
  rw [cr_0_8 h, Option.bind_some, bo_some (cO_11 h), c_hasCell h, bd_some]
  by_cases h1 : v < 0
  · simp only [h1, if_true]
  · simp only [h1, if_false]
    by_cases h2 : I 222 ≤ v
    · simp only [h2, if_true]
    · simp only [h2, if_false]
      have h3 : v < Int32.ofNat 30 := Int32.lt_of_lt_of_le (Int32.not_le.mp h2) hc
      rw [if_neg (by decide), cr_0_8 h, Option.bind_some, cr_11_9 h, Option.bind_some, ca_12 h (inb_of h1 h3 (by decide)), Option.bind_some]
theorem c_logLength (h : CW A I R dr lw σ) : fX5_logLength σ (A 11) = some (if I 228 < 60 then I 228 else 60, σ) := by
  unfold fX5_logLength
  rw [cr_11_8 h, Option.bind_some, f_min, bd_some]
end
section
variable {B : Nat → Nat} {J : Nat → Int32} {Q : Nat → Nat → Int32} {dr : Int64} {σ : St}
theorem m_isRefused_no (h : MW B J Q dr σ) : fX10_isRefused σ (B 0) (-1) = some (0, σ) := by
  unfold fX10_isRefused jo1
  simp
theorem m_isRefused (h : MW B J Q dr σ) (v : Int32) (h0 : ¬ v = -1) (hb : inb v 5) : ∃ t, fX10_isRefused σ (B 0) v = some (1, t) ∧ MW B J (updR Q 29 (upd (Q 29) v.toNatClampNeg (Q 29 v.toNatClampNeg + 1))) dr t ∧ Sm (setM B) σ t := by
  unfold fX10_isRefused jo1
  simp only [h0, if_false]
  rw [mr_0_29 h, Option.bind_some, ma_29 h hb, Option.bind_some]
  obtain ⟨t, e, g1, g2⟩ := h.putA 29 v (Q 29 v.toNatClampNeg + 1) rfl (fun _ => rfl) hb
  rw [e, Option.bind_some]
  exact ⟨t, rfl, g1, g2⟩
theorem m_height (h : MW B J Q dr σ) (hc : J 26 ≤ 30) (hc0 : 0 ≤ J 26) (v : Int32) : fX10_height σ (B 0) v = some (if v < 0 then -1 else if J 26 - 1 < v then -1 else Q 28 v.toNatClampNeg, σ) := by
  unfold fX10_height
  rw [bo_some (mO_0 h), m_isCell h, bd_some]
  by_cases h1 : v < 0
  · simp only [h1, if_true]
  · simp only [h1, if_false]
    by_cases h2 : J 26 - 1 < v
    · simp only [h2, if_true]
    · simp only [h2, if_false]
      have hv : inb v 223 := by
        have e1 : (J 26 - 1).toInt = (J 26).toInt - 1 := by
          have a1 : (0 : Int32).toInt = 0 := by decide
          have a2 : (30 : Int32).toInt = 30 := by decide
          have a3 : (1 : Int32).toInt = 1 := by decide
          rw [Int32.le_iff_toInt_le] at hc hc0
          rw [Int32.toInt_sub, a3]
          exact Int.bmod_eq_of_le (by omega) (by omega)
        have a1 : (0 : Int32).toInt = 0 := by decide
        have a2 : (30 : Int32).toInt = 30 := by decide
        rw [Int32.lt_iff_toInt_lt] at h1 h2
        rw [Int32.le_iff_toInt_le] at hc
        exact ⟨by omega, by omega⟩
      rw [if_neg (by decide), mr_0_28 h, Option.bind_some, Int32.zero_add, ma_28 h hv, Option.bind_some]
end
