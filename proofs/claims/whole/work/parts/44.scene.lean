/-! a scene's cells, and what its small methods answer -/
def SW (A : Nat → Nat) (I : Nat → Int32) (R : Nat → Nat → Int32) (b : Nat) (σ : St) : Prop :=
  σ.2.2 (A b) = some (.inr (7, [.int (I (20 * b)), .int (I (20 * b + 1)), .int (I (20 * b + 2)), .int (I (20 * b + 3)), .int (I (20 * b + 4)), .int (I (20 * b + 5)), .int (I (20 * b + 6)), .int (I (20 * b + 7)), .int (I (20 * b + 8)), .ref (A (b + 1)), .ref (A (b + 2)), .ref (A (b + 3)), .ref (A (b + 4)), .ref (A (b + 5))])) ∧
  σ.2.2 (A (b + 1)) = some (.inl (0, 30, .inl (R (b + 1)))) ∧ σ.2.2 (A (b + 2)) = some (.inl (0, 4, .inl (R (b + 2)))) ∧ σ.2.2 (A (b + 3)) = some (.inl (0, 4, .inl (R (b + 3)))) ∧ σ.2.2 (A (b + 4)) = some (.inl (0, 4, .inl (R (b + 4)))) ∧ σ.2.2 (A (b + 5)) = some (.inl (0, 6, .inl (R (b + 5))))
theorem CW.now {A : Nat → Nat} {I : Nat → Int32} {R : Nat → Nat → Int32} {dr : Int64} {lw : Nat → Option Nat} {σ : St} (h : CW A I R dr lw σ) : SW A I R 11 σ := ⟨h.2 11 rfl, h.2 12 rfl, h.2 13 rfl, h.2 14 rfl, h.2 15 rfl, h.2 16 rfl⟩
theorem CW.told {A : Nat → Nat} {I : Nat → Int32} {R : Nat → Nat → Int32} {dr : Int64} {lw : Nat → Option Nat} {σ : St} (h : CW A I R dr lw σ) : SW A I R 17 σ := ⟨h.2 17 rfl, h.2 18 rfl, h.2 19 rfl, h.2 20 rfl, h.2 21 rfl, h.2 22 rfl⟩
theorem CW.trial {A : Nat → Nat} {I : Nat → Int32} {R : Nat → Nat → Int32} {dr : Int64} {lw : Nat → Option Nat} {σ : St} (h : CW A I R dr lw σ) : SW A I R 23 σ := ⟨h.2 23 rfl, h.2 24 rfl, h.2 25 rfl, h.2 26 rfl, h.2 27 rfl, h.2 28 rfl⟩
section
variable {A : Nat → Nat} {I : Nat → Int32} {R : Nat → Nat → Int32} {b : Nat} {σ : St}
theorem s_o (h : SW A I R b σ) : isO 7 σ (A b) = true := isO_of h.1
theorem s_wide (h : SW A I R b σ) : gI 7 0 σ (A b) = some (I (20 * b)) := gI_of h.1 rfl
theorem s_rows (h : SW A I R b σ) : gI 7 1 σ (A b) = some (I (20 * b + 1)) := gI_of h.1 rfl
theorem s_cells (h : SW A I R b σ) : gI 7 2 σ (A b) = some (I (20 * b + 2)) := gI_of h.1 rfl
theorem s_towers (h : SW A I R b σ) : gI 7 3 σ (A b) = some (I (20 * b + 3)) := gI_of h.1 rfl
theorem s_fog (h : SW A I R b σ) : gI 7 4 σ (A b) = some (I (20 * b + 4)) := gI_of h.1 rfl
theorem s_coins (h : SW A I R b σ) : gI 7 5 σ (A b) = some (I (20 * b + 5)) := gI_of h.1 rfl
theorem s_hour (h : SW A I R b σ) : gI 7 6 σ (A b) = some (I (20 * b + 6)) := gI_of h.1 rfl
theorem s_broken (h : SW A I R b σ) : gI 7 7 σ (A b) = some (I (20 * b + 7)) := gI_of h.1 rfl
theorem s_logged (h : SW A I R b σ) : gI 7 8 σ (A b) = some (I (20 * b + 8)) := gI_of h.1 rfl
theorem s_ground (h : SW A I R b σ) : gR 7 9 σ (A b) = some (A (b + 1)) := gR_of h.1 rfl
theorem s_places (h : SW A I R b σ) : gR 7 10 σ (A b) = some (A (b + 2)) := gR_of h.1 rfl
theorem s_masts (h : SW A I R b σ) : gR 7 11 σ (A b) = some (A (b + 3)) := gR_of h.1 rfl
theorem s_lamps (h : SW A I R b σ) : gR 7 12 σ (A b) = some (A (b + 4)) := gR_of h.1 rfl
theorem s_letters (h : SW A I R b σ) : gR 7 13 σ (A b) = some (A (b + 5)) := gR_of h.1 rfl
theorem s_aG (h : SW A I R b σ) {i : Int32} (hi : inb i 30) : aI 0 σ (A (b + 1)) i = some (R (b + 1) i.toNatClampNeg) := aI_of h.2.1 hi
theorem s_aP (h : SW A I R b σ) {i : Int32} (hi : inb i 4) : aI 0 σ (A (b + 2)) i = some (R (b + 2) i.toNatClampNeg) := aI_of h.2.2.1 hi
theorem s_aM (h : SW A I R b σ) {i : Int32} (hi : inb i 4) : aI 0 σ (A (b + 3)) i = some (R (b + 3) i.toNatClampNeg) := aI_of h.2.2.2.1 hi
theorem s_aL (h : SW A I R b σ) {i : Int32} (hi : inb i 4) : aI 0 σ (A (b + 4)) i = some (R (b + 4) i.toNatClampNeg) := aI_of h.2.2.2.2.1 hi
theorem s_hasCell (h : SW A I R b σ) (v : Int32) : fX7_hasCell σ (A b) v = some (if v < 0 then 0 else if I (20 * b + 2) ≤ v then 0 else 1, σ) := by
  unfold fX7_hasCell
  split
  · rfl
  · rw [s_cells h, Option.bind_some]; split <;> rfl
theorem s_hasTower (h : SW A I R b σ) (v : Int32) : fX7_hasTower σ (A b) v = some (if v < 0 then 0 else if I (20 * b + 3) ≤ v then 0 else 1, σ) := by
  unfold fX7_hasTower
  split
  · rfl
  · rw [s_towers h, Option.bind_some]; split <;> rfl
theorem s_allCells (h : SW A I R b σ) : fX7_allCells σ (A b) = some ((1 <<< (I (20 * b + 2) &&& 31)) - 1, σ) := by
  unfold fX7_allCells; rw [s_cells h, Option.bind_some]
theorem s_allTowers (h : SW A I R b σ) : fX7_allTowers σ (A b) = some ((1 <<< (I (20 * b + 3) &&& 31)) - 1, σ) := by
  unfold fX7_allTowers; rw [s_towers h, Option.bind_some]
theorem s_eye (h : SW A I R b σ) {v : Int32} (hv : inb v 4) (hp : inb (R (b + 2) v.toNatClampNeg) 30) : fX7_eye σ (A b) v = some (R (b + 1) (R (b + 2) v.toNatClampNeg).toNatClampNeg + R (b + 3) v.toNatClampNeg, σ) := by
  unfold fX7_eye
  rw [s_ground h, Option.bind_some, s_places h, Option.bind_some, s_aP h hv, Option.bind_some, s_aG h hp, Option.bind_some, s_masts h, Option.bind_some, s_aM h hv, Option.bind_some]
end
