/-! What a LAW is worth: signs join alike on both sides -/
theorem tb_lt {n k i : Nat} (h : n < 2 ^ k) (hi : k ≤ i) : n.testBit i = false := Nat.testBit_lt_two_pow (Nat.lt_of_lt_of_le h (Nat.pow_le_pow_right (by decide) hi))
theorem en_d {s v : Nat} (hs : s < 256) (hv : v < 8388608) : enT (nI s, nI v) &&& 255 = nI s ∧ enT (nI s, nI v) >>> (8 &&& 31) = nI v := by
  have key : ∀ i, i < 32 → bt (enT (nI s, nI v)) i = (if i < 8 then s.testBit i else v.testBit (i - 8)) := by
    intro i hi
    unfold enT
    rw [b_or, b_shl8 _ hi, bt_nI s hi]
    by_cases h : i < 8
    · rw [if_pos h, decide_eq_false (by omega)]; simp
    · rw [if_neg h, decide_eq_true (by omega), bt_nI v (by omega), tb_lt (k := 8) hs (by omega)]; simp
  constructor
  · refine b_ext (fun i hi => ?_)
    rw [b_and, b_255, key i hi, bt_nI s hi]
    by_cases h : i < 8
    · rw [if_pos h, decide_eq_true h]; simp
    · rw [if_neg h, decide_eq_false h, tb_lt (k := 8) hs (by omega)]; simp
  · refine b_ext (fun i hi => ?_)
    rw [b_sshr8 _ hi, bt_nI v hi]
    by_cases h : 8 + i < 32
    · rw [if_pos h, key _ h, if_neg (by omega), show 8 + i - 8 = i by omega]
    · rw [if_neg h, key 31 (by decide), if_neg (by decide), tb_lt (k := 23) hv (by omega), tb_lt (k := 23) hv (by omega)]
def Bd (x : Int32) : Prop := -1000000 ≤ x.toInt ∧ x.toInt ≤ 1000000
def B01 (x : Int32) : Prop := x = 0 ∨ x = 1
theorem lit6 : (1000000 : Int64).toInt = 1000000 ∧ (-1000000 : Int64).toInt = -1000000 ∧ (1000000 : Int32).toInt = 1000000 ∧ (-1000000 : Int32).toInt = -1000000 := by decide
theorem i64_32 {v : Int64} (h : -1000000 ≤ v.toInt ∧ v.toInt ≤ 1000000) : v.toInt32.toInt = v.toInt := by
  rw [Int64.toInt_toInt32]
  exact Int.bmod_eq_of_le (by omega) (by omega)
theorem hl_bd (v : Int64) : hlC v = bdM v ∧ Bd (hlC v) ∧ (-1000000 ≤ v.toInt ∧ v.toInt ≤ 1000000 → hlC v = v.toInt32) := by
  obtain ⟨l1, l2, l3, l4⟩ := lit6
  unfold hlC bdM
  by_cases h1 : lg_cmp v 1000000 ≤ 0
  · have q1 := (fa_le64 _ _).mp ((lgc_le _ _).mp h1)
    rw [l1] at q1
    rw [if_pos h1]
    by_cases h2 : 0 ≤ lg_cmp v (-1000000)
    · have q2 := (fa_le64 _ _).mp ((lgc_ge _ _).mp h2)
      rw [l2] at q2
      rw [if_pos h2]
      refine ⟨?_, by unfold Bd; rw [i64_32 ⟨q2, q1⟩]; exact ⟨q2, q1⟩, fun _ => rfl⟩
      by_cases h3 : 0 < lg_cmp 1000000 v
      · rw [if_pos h3]
        by_cases h4 : lg_cmp (-1000000) v < 0
        · rw [if_pos h4]
        · rw [if_neg h4]
          have q4 : ¬ (-1000000 : Int64) < v := fun z => h4 ((lgc_lt _ _).mpr z)
          rw [fa_lt64, l2] at q4
          have : v = -1000000 := (fa_eq64 _ _).mpr (by rw [l2]; omega)
          rw [this]
      · rw [if_neg h3]
        have q3 : ¬ v < (1000000 : Int64) := fun z => h3 ((lgc_gt _ _).mpr z)
        rw [fa_lt64, l1] at q3
        have : v = 1000000 := (fa_eq64 _ _).mpr (by rw [l1]; omega)
        rw [this]
        decide
    · rw [if_neg h2]
      have q2 : ¬ (-1000000 : Int64) ≤ v := fun z => h2 ((lgc_ge _ _).mpr z)
      rw [fa_le64, l2] at q2
      have h3 : 0 < lg_cmp 1000000 v := (lgc_gt _ _).mpr ((fa_lt64 _ _).mpr (by rw [l1]; omega))
      have h4 : ¬ lg_cmp (-1000000) v < 0 := fun z => by
        have := (fa_lt64 _ _).mp ((lgc_lt _ _).mp z)
        rw [l2] at this; omega
      rw [if_pos h3, if_neg h4]
      exact ⟨by decide, by unfold Bd; decide, fun z => by omega⟩
  · rw [if_neg h1]
    have q1 : ¬ v ≤ (1000000 : Int64) := fun z => h1 ((lgc_le _ _).mpr z)
    rw [fa_le64, l1] at q1
    have h3 : ¬ 0 < lg_cmp 1000000 v := fun z => by
      have := (fa_lt64 _ _).mp ((lgc_gt _ _).mp z)
      rw [l1] at this; omega
    rw [if_neg h3]
    exact ⟨by decide, by unfold Bd; decide, fun z => by omega⟩
theorem td_bd {x y : Int} (h : -1000000 ≤ x ∧ x ≤ 1000000) : -1000000 ≤ x.tdiv y ∧ x.tdiv y ≤ 1000000 := by
  have h1 : (x.tdiv y).natAbs ≤ x.natAbs := by
    rw [Int.natAbs_tdiv]
    exact Nat.div_le_self _ _
  omega
theorem jn_by {x y : Int32} (hx : Bd x) : (if y = 0 then 0 else x / y) = (if lg_cmp y.toInt64 0 = 0 then 0 else bdM (x.toInt64 / y.toInt64)) ∧ Bd (if y = 0 then 0 else x / y) := by
  have e0 : (0 : Int64) = (0 : Int32).toInt64 := by decide
  by_cases h : y = 0
  · rw [if_pos h, if_pos ((lgc_eq _ _).mpr (by rw [h, ← e0]))]
    exact ⟨rfl, by unfold Bd; decide⟩
  · have h2 : ¬ lg_cmp y.toInt64 0 = 0 := fun z => h ((fa_wide_eq _ _).mp (((lgc_eq _ _).mp z).trans e0))
    rw [if_neg h, if_neg h2]
    have hb := td_bd (y := y.toInt) hx
    have e64 : (x.toInt64 / y.toInt64).toInt = x.toInt.tdiv y.toInt := by
      rw [Int64.toInt_div, Int32.toInt_toInt64, Int32.toInt_toInt64]
      exact Int.bmod_eq_of_le (by omega) (by omega)
    have e32 : (x / y).toInt = x.toInt.tdiv y.toInt := by
      rw [Int32.toInt_div]
      exact Int.bmod_eq_of_le (by omega) (by omega)
    obtain ⟨k1, k2, k3⟩ := hl_bd (x.toInt64 / y.toInt64)
    have k4 := k3 (by rw [e64]; exact hb)
    refine ⟨?_, by unfold Bd; rw [e32]; exact hb⟩
    rw [← k1, k4]
    apply Int32.toInt_inj.mp
    rw [i64_32 (by rw [e64]; exact hb), e64, e32]
theorem jn_ar {s x y : Int32} (hs : s = 43 ∨ s = 45 ∨ s = 42 ∨ s = 47) (hx : Bd x) : jnC s x y = jnM (rcT s) x y ∧ Bd (jnC s x y) := by
  rcases hs with rfl | rfl | rfl | rfl
  · obtain ⟨k1, k2, _⟩ := hl_bd (x.toInt64 + y.toInt64)
    exact ⟨k1, k2⟩
  · obtain ⟨k1, k2, _⟩ := hl_bd (x.toInt64 - y.toInt64)
    exact ⟨k1, k2⟩
  · obtain ⟨k1, k2, _⟩ := hl_bd (x.toInt64 * y.toInt64)
    exact ⟨k1, k2⟩
  · exact jn_by hx
theorem jn_cm {s x y : Int32} (hs : s = 61 ∨ s = 60 ∨ s = 62) : jnC s x y = jnM (rcT s) x y ∧ B01 (jnC s x y) := by
  rcases hs with rfl | rfl | rfl
  · show (if x = y then (1 : Int32) else 0) = (if lg_cmp x.toInt64 y.toInt64 = 0 then 1 else 0) ∧ B01 (if x = y then 1 else 0)
    by_cases h : x = y
    · rw [if_pos h, if_pos ((lgc_eq _ _).mpr (by rw [h]))]
      exact ⟨rfl, Or.inr rfl⟩
    · rw [if_neg h, if_neg (fun z => h ((fa_wide_eq _ _).mp ((lgc_eq _ _).mp z)))]
      exact ⟨rfl, Or.inl rfl⟩
  · show (if y ≤ x then (0 : Int32) else 1) = (if 0 ≤ lg_cmp x.toInt64 y.toInt64 then 0 else 1) ∧ B01 (if y ≤ x then 0 else 1)
    by_cases h : y ≤ x
    · rw [if_pos h, if_pos ((lgc_ge _ _).mpr ((fa_wide_le _ _).mpr h))]
      exact ⟨rfl, Or.inl rfl⟩
    · rw [if_neg h, if_neg (fun z => h ((fa_wide_le _ _).mp ((lgc_ge _ _).mp z)))]
      exact ⟨rfl, Or.inr rfl⟩
  · show (if x ≤ y then (0 : Int32) else 1) = (if lg_cmp x.toInt64 y.toInt64 ≤ 0 then 0 else 1) ∧ B01 (if x ≤ y then 0 else 1)
    by_cases h : x ≤ y
    · rw [if_pos h, if_pos ((lgc_le _ _).mpr ((fa_wide_le _ _).mpr h))]
      exact ⟨rfl, Or.inl rfl⟩
    · rw [if_neg h, if_neg (fun z => h ((fa_wide_le _ _).mp ((lgc_le _ _).mp z)))]
      exact ⟨rfl, Or.inr rfl⟩
theorem jn_an {s x y : Int32} (hs : s = 38 ∨ s = 124) (hx : B01 x) (hy : B01 y) : jnC s x y = jnM (rcT s) x y ∧ B01 (jnC s x y) := by
  rcases hs with rfl | rfl <;> rcases hx with rfl | rfl <;> rcases hy with rfl | rfl <;> (unfold B01; decide)
