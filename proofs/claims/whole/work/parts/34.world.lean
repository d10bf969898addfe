theorem t1 (i : Nat) {w : Cond} (h : tables_1_1[i]? = some w) : w ∈ lw_tbl := List.mem_append_right _ (List.mem_append_left _ (List.mem_of_getElem? h))
theorem t2 (i : Nat) {w : Cond} (h : tables_1_2[i]? = some w) : w ∈ lw_tbl := List.mem_append_right _ (List.mem_append_right _ (List.mem_append_left _ (List.mem_of_getElem? h)))
theorem t3 (i : Nat) {w : Cond} (h : tables_1_3[i]? = some w) : w ∈ lw_tbl := List.mem_append_right _ (List.mem_append_right _ (List.mem_append_right _ (List.mem_append_left _ (List.mem_of_getElem? h))))
theorem t4 (i : Nat) {w : Cond} (h : tables_1_4[i]? = some w) : w ∈ lw_tbl := List.mem_append_right _ (List.mem_append_right _ (List.mem_append_right _ (List.mem_append_right _ (List.mem_append_left _ (List.mem_of_getElem? h)))))
theorem t5 (i : Nat) {w : Cond} (h : tables_1_5[i]? = some w) : w ∈ lw_tbl := List.mem_append_right _ (List.mem_append_right _ (List.mem_append_right _ (List.mem_append_right _ (List.mem_append_right _ (List.mem_append_left _ (List.mem_of_getElem? h))))))
theorem t6 (i : Nat) {w : Cond} (h : tables_1_6[i]? = some w) : w ∈ lw_tbl := List.mem_append_right _ (List.mem_append_right _ (List.mem_append_right _ (List.mem_append_right _ (List.mem_append_right _ (List.mem_append_right _ (List.mem_append_left _ (List.mem_of_getElem? h)))))))
theorem t7 (i : Nat) {w : Cond} (h : tables_1_7[i]? = some w) : w ∈ lw_tbl := List.mem_append_right _ (List.mem_append_right _ (List.mem_append_right _ (List.mem_append_right _ (List.mem_append_right _ (List.mem_append_right _ (List.mem_append_right _ ((List.mem_of_getElem? h))))))))

theorem law_arr {s : State} {args : Array Value} {ty : FieldType} (hp : ∀ C, ty ≠ .object C) (h : (Cond.arrayClass ty).before args s = true) : ∃ cA : Nat, ArrOfT s cA ty ∧ va_RA s cA ty := by
  obtain ⟨c, k, comp, h1, h2, h3⟩ := Cond.arrayClass_spec h
  refine ⟨c, fun n z => ⟨fun k h => (by cases h), k, h2, comp, h3⟩, ?_⟩
  cases ty with
  | object C => exact absurd rfl (hp C)
  | _ => exact h1
theorem law_arrO {s : State} {args : Array Value} {C : String} (h : (Cond.arrayOver (.object C)).before args s = true) : ∃ cA : Nat, ArrOfT s cA (.object C) ∧ va_RA s cA (.object C) := by
  obtain ⟨comp, c, k, h1, h2, h3, h4, h5⟩ := Cond.arrayOver_spec h
  exact ⟨c, fun n z => ⟨fun k h => (by cases h), k, h3, comp, h4⟩, ⟨k, comp, h3, h4, h1, h5⟩⟩
/-- the statics' rows -/
def zv (j q : Nat) : Int32 := (([[119, 104, 107, 102], [2, 2, 0, 0], [6, 5, 99, 9], [4, 3, 20, 0], [120, 121, 109, 108], [0, 0, 0, 0], [5, 4, 9, 9], [0, 0, 2, 9]] : List (List Int32)).getD j []).getD q 0
def zc (j : Nat) : aE := .inl (if j = 0 ∨ j = 4 then 4 else 0, 4, .inl (zv j))
def roOf (za : Nat → Nat) (a : Nat) : Option aE := ((List.range 8).find? (fun j => za j == a)).map zc
def zOK (Z : Rm) : Prop := ∀ j, j < 8 → Z.2 (Z.1 j) = some (zc j)
theorem zv_inj : ∀ i, i < 8 → ∀ j, j < 8 → (∀ q, q < 4 → zv i q = zv j q) → i = j := by decide +kernel
theorem law_stat {s : State} {args : Array Value} {A : Nat → Prop} {C n d : String} {ty : FieldType} {f : Nat → Int32} (ha : (Cond.arrayOf (.static C n d) ty).before args s = true) (hl : (Cond.eq (.length (.static C n d)) (.int 4)).before args s = true)
    (e0 : (Cond.eq (.elem (.static C n d) (.int 0)) (.int (f 0))).before args s = true) (e1 : (Cond.eq (.elem (.static C n d) (.int 1)) (.int (f 1))).before args s = true) (e2 : (Cond.eq (.elem (.static C n d) (.int 2)) (.int (f 2))).before args s = true) (e3 : (Cond.eq (.elem (.static C n d) (.int 3)) (.int (f 3))).before args s = true)
    (hs : (Cond.laysStatic C n d).before args s = true) (hi : (Cond.initialized C).before args s = true) (hA : ∀ a : Nat, a < s.heap.size → ¬ A a) : ∃ t : Nat, va_Z C n d (.ref t) A s s.heap ∧ va_T ty t 4 (fun j => .int (f j)) A s s.heap := by
  obtain ⟨t, h1, h2⟩ := va_Tof (tm := .static C n d) (N := 4) (f := fun j => .int (f j)) (A := A) (by decide) ha (va_eqt hl) (fun j hj => by
    rcases (show j = 0 ∨ j = 1 ∨ j = 2 ∨ j = 3 by omega) with rfl | rfl | rfl | rfl
    · exact va_eqt e0
    · exact va_eqt e1
    · exact va_eqt e2
    · exact va_eqt e3) hA
  exact ⟨t, va_Zref hs hi h1 hA, h2⟩
theorem va_T_same {ty ty' : FieldType} {t N : Nat} {f g : Nat → Int32} {A : Nat → Prop} {U : State} {H : Heap} (h1 : va_T ty t N (fun j => .int (f j)) A U H) (h2 : va_T ty' t N (fun j => .int (g j)) A U H) : ∀ q, q < N → f q = g q := by
  obtain ⟨c1, a1, -, -, -, -, b1, -⟩ := h1
  obtain ⟨c2, a2, -, -, -, -, b2, -⟩ := h2
  have e : c1 = c2 := Option.some.inj (a1.symm.trans a2)
  subst e
  intro q hq
  have := (b1 q hq).symm.trans (b2 q hq)
  simpa using this

set_option maxHeartbeats 4000000 in
set_option maxRecDepth 100000 in
theorem law_world {p : Program} {s : State} {m : MethodId} {meth : Method} {c : Code} {b L : Nat} {xs : Nat → Int32} (C0 : lw_At p s m meth c b L xs) : ∃ (D : va_G) (cy : Nat → Nat) (Z : Rm), Wd D cy (fun q => s.heap.size ≤ q) Z s ∧ zOK Z := by
  have hts := lw_w2 C0
  have hfl := flat_of_before _ C0.2.2.2.2.2.2.2.2.2
  have hA : ∀ a : Nat, a < s.heap.size → ¬ (fun q => s.heap.size ≤ q) a := fun a h => Nat.not_le.mpr h
  obtain ⟨k0, i0, hKn0⟩ := u_known (C := RX0) (T := TX0) (N := 2) (n := 2) hts (fun w q => (List.mem_filter.mp (clX0.2.1 w q)).1) (hts (.instantiable RX0 2) (t2 7 (by decide +kernel)))
  obtain ⟨k1, i1, hKn1⟩ := u_known (C := RX1) (T := TX1) (N := 7) (n := 7) hts (fun w q => (List.mem_filter.mp (clX1.2.1 w q)).1) (hts (.instantiable RX1 7) (t1 206 (by decide +kernel)))
  obtain ⟨k2, i2, hKn2⟩ := u_known (C := RX2) (T := TX2) (N := 8) (n := 8) hts (fun w q => (List.mem_filter.mp (clX2.2.1 w q)).1) (hts (.instantiable RX2 8) (t1 53 (by decide +kernel)))
  obtain ⟨k3, i3, hKn3⟩ := u_known (C := RX3) (T := TX3) (N := 2) (n := 2) hts (fun w q => (List.mem_filter.mp (clX3.2.1 w q)).1) (hts (.instantiable RX3 2) (t3 25 (by decide +kernel)))
  obtain ⟨k4, i4, hKn4⟩ := u_known (C := RX4) (T := TX4) (N := 3) (n := 3) hts (fun w q => (List.mem_filter.mp (clX4.2.1 w q)).1) (hts (.instantiable RX4 3) (t1 84 (by decide +kernel)))
  obtain ⟨k5, i5, hKn5⟩ := u_known (C := RX5) (T := TX5) (N := 7) (n := 7) hts (fun w q => (List.mem_filter.mp (clX5.2.1 w q)).1) (hts (.instantiable RX5 7) (t1 177 (by decide +kernel)))
  obtain ⟨k6, i6, hKn6⟩ := u_known (C := RX6) (T := TX6) (N := 1) (n := 1) hts (fun w q => (List.mem_filter.mp (clX6.2.1 w q)).1) (hts (.instantiable RX6 1) (t1 237 (by decide +kernel)))
  obtain ⟨k7, i7, hKn7⟩ := u_known (C := RX7) (T := TX7) (N := 14) (n := 14) hts (fun w q => (List.mem_filter.mp (clX7.2.1 w q)).1) (hts (.instantiable RX7 14) (t1 102 (by decide +kernel)))
  obtain ⟨k8, i8, hKn8⟩ := u_known (C := RX8) (T := TX8) (N := 4) (n := 4) hts (fun w q => (List.mem_filter.mp (clX8.2.1 w q)).1) (hts (.instantiable RX8 4) (t1 29 (by decide +kernel)))
  obtain ⟨k9, i9, hKn9⟩ := u_known (C := RX9) (T := TX9) (N := 16) (n := 16) hts (fun w q => (List.mem_filter.mp (clX9.2.1 w q)).1) (hts (.instantiable RX9 16) (t1 21 (by decide +kernel)))
  obtain ⟨k10, i10, hKn10⟩ := u_known (C := RX10) (T := TX10) (N := 46) (n := 46) hts (fun w q => (List.mem_filter.mp (clX10.2.1 w q)).1) (hts (.instantiable RX10 46) (t5 67 (by decide +kernel)))
  obtain ⟨y0, y0a, y0b⟩ := law_arr (ty := .int) (fun C h => by cases h) (hts _ (t1 51 (by decide +kernel)))
  obtain ⟨y1, y1a, y1b⟩ := law_arr (ty := .boolean) (fun C h => by cases h) (hts _ (t1 235 (by decide +kernel)))
  have hov : (Cond.arrayOver (.object "BlindSpots$Law")).before #[Value.ref b] s = true := hts _ (t1 100 (by decide +kernel))
  obtain ⟨y2, y2a, y2b⟩ := law_arrO hov
  obtain ⟨y3, y3a, y3b⟩ := law_arr (ty := .long) (fun C h => by cases h) (hts _ (t7 213 (by decide +kernel)))
  obtain ⟨y4, y4a, y4b⟩ := law_arr (ty := .char) (fun C h => by cases h) (hts _ (t7 229 (by decide +kernel)))
  obtain ⟨z0, z0a, z0b⟩ := law_stat (A := fun q => s.heap.size ≤ q) (C := "BlindSpots$LandReader") (n := "RULE_LETTERS") (d := "[C") (ty := .char) (f := zv 0) (hfl (Cond.arrayOf (.static "BlindSpots$LandReader" "RULE_LETTERS" "[C") .char) (by decide +kernel)) (hfl (Cond.eq (.length (.static "BlindSpots$LandReader" "RULE_LETTERS" "[C")) (.int 4)) (by decide +kernel)) (hfl (Cond.eq (.elem (.static "BlindSpots$LandReader" "RULE_LETTERS" "[C") (.int 0)) (.int (zv 0 0))) (by decide +kernel)) (hfl (Cond.eq (.elem (.static "BlindSpots$LandReader" "RULE_LETTERS" "[C") (.int 1)) (.int (zv 0 1))) (by decide +kernel)) (hfl (Cond.eq (.elem (.static "BlindSpots$LandReader" "RULE_LETTERS" "[C") (.int 2)) (.int (zv 0 2))) (by decide +kernel)) (hfl (Cond.eq (.elem (.static "BlindSpots$LandReader" "RULE_LETTERS" "[C") (.int 3)) (.int (zv 0 3))) (by decide +kernel)) (hts _ (t2 120 (by decide +kernel))) (hts _ (t1 3 (by decide +kernel))) hA
  obtain ⟨z1, z1a, z1b⟩ := law_stat (A := fun q => s.heap.size ≤ q) (C := "BlindSpots$LandReader") (n := "RULE_LEAST") (d := "[I") (ty := .int) (f := zv 1) (hfl (Cond.arrayOf (.static "BlindSpots$LandReader" "RULE_LEAST" "[I") .int) (by decide +kernel)) (hfl (Cond.eq (.length (.static "BlindSpots$LandReader" "RULE_LEAST" "[I")) (.int 4)) (by decide +kernel)) (hfl (Cond.eq (.elem (.static "BlindSpots$LandReader" "RULE_LEAST" "[I") (.int 0)) (.int (zv 1 0))) (by decide +kernel)) (hfl (Cond.eq (.elem (.static "BlindSpots$LandReader" "RULE_LEAST" "[I") (.int 1)) (.int (zv 1 1))) (by decide +kernel)) (hfl (Cond.eq (.elem (.static "BlindSpots$LandReader" "RULE_LEAST" "[I") (.int 2)) (.int (zv 1 2))) (by decide +kernel)) (hfl (Cond.eq (.elem (.static "BlindSpots$LandReader" "RULE_LEAST" "[I") (.int 3)) (.int (zv 1 3))) (by decide +kernel)) (hts _ (t2 122 (by decide +kernel))) (hts _ (t1 3 (by decide +kernel))) hA
  obtain ⟨z2, z2a, z2b⟩ := law_stat (A := fun q => s.heap.size ≤ q) (C := "BlindSpots$LandReader") (n := "RULE_MOST") (d := "[I") (ty := .int) (f := zv 2) (hfl (Cond.arrayOf (.static "BlindSpots$LandReader" "RULE_MOST" "[I") .int) (by decide +kernel)) (hfl (Cond.eq (.length (.static "BlindSpots$LandReader" "RULE_MOST" "[I")) (.int 4)) (by decide +kernel)) (hfl (Cond.eq (.elem (.static "BlindSpots$LandReader" "RULE_MOST" "[I") (.int 0)) (.int (zv 2 0))) (by decide +kernel)) (hfl (Cond.eq (.elem (.static "BlindSpots$LandReader" "RULE_MOST" "[I") (.int 1)) (.int (zv 2 1))) (by decide +kernel)) (hfl (Cond.eq (.elem (.static "BlindSpots$LandReader" "RULE_MOST" "[I") (.int 2)) (.int (zv 2 2))) (by decide +kernel)) (hfl (Cond.eq (.elem (.static "BlindSpots$LandReader" "RULE_MOST" "[I") (.int 3)) (.int (zv 2 3))) (by decide +kernel)) (hts _ (t2 124 (by decide +kernel))) (hts _ (t1 3 (by decide +kernel))) hA
  obtain ⟨z3, z3a, z3b⟩ := law_stat (A := fun q => s.heap.size ≤ q) (C := "BlindSpots$LandReader") (n := "RULE_FIRST") (d := "[I") (ty := .int) (f := zv 3) (hfl (Cond.arrayOf (.static "BlindSpots$LandReader" "RULE_FIRST" "[I") .int) (by decide +kernel)) (hfl (Cond.eq (.length (.static "BlindSpots$LandReader" "RULE_FIRST" "[I")) (.int 4)) (by decide +kernel)) (hfl (Cond.eq (.elem (.static "BlindSpots$LandReader" "RULE_FIRST" "[I") (.int 0)) (.int (zv 3 0))) (by decide +kernel)) (hfl (Cond.eq (.elem (.static "BlindSpots$LandReader" "RULE_FIRST" "[I") (.int 1)) (.int (zv 3 1))) (by decide +kernel)) (hfl (Cond.eq (.elem (.static "BlindSpots$LandReader" "RULE_FIRST" "[I") (.int 2)) (.int (zv 3 2))) (by decide +kernel)) (hfl (Cond.eq (.elem (.static "BlindSpots$LandReader" "RULE_FIRST" "[I") (.int 3)) (.int (zv 3 3))) (by decide +kernel)) (hts _ (t2 103 (by decide +kernel))) (hts _ (t1 3 (by decide +kernel))) hA
  obtain ⟨z4, z4a, z4b⟩ := law_stat (A := fun q => s.heap.size ≤ q) (C := "BlindSpots$LandReader") (n := "TOWER_LETTERS") (d := "[C") (ty := .char) (f := zv 4) (hfl (Cond.arrayOf (.static "BlindSpots$LandReader" "TOWER_LETTERS" "[C") .char) (by decide +kernel)) (hfl (Cond.eq (.length (.static "BlindSpots$LandReader" "TOWER_LETTERS" "[C")) (.int 4)) (by decide +kernel)) (hfl (Cond.eq (.elem (.static "BlindSpots$LandReader" "TOWER_LETTERS" "[C") (.int 0)) (.int (zv 4 0))) (by decide +kernel)) (hfl (Cond.eq (.elem (.static "BlindSpots$LandReader" "TOWER_LETTERS" "[C") (.int 1)) (.int (zv 4 1))) (by decide +kernel)) (hfl (Cond.eq (.elem (.static "BlindSpots$LandReader" "TOWER_LETTERS" "[C") (.int 2)) (.int (zv 4 2))) (by decide +kernel)) (hfl (Cond.eq (.elem (.static "BlindSpots$LandReader" "TOWER_LETTERS" "[C") (.int 3)) (.int (zv 4 3))) (by decide +kernel)) (hts _ (t2 152 (by decide +kernel))) (hts _ (t1 3 (by decide +kernel))) hA
  obtain ⟨z5, z5a, z5b⟩ := law_stat (A := fun q => s.heap.size ≤ q) (C := "BlindSpots$LandReader") (n := "TOWER_LEAST") (d := "[I") (ty := .int) (f := zv 5) (hfl (Cond.arrayOf (.static "BlindSpots$LandReader" "TOWER_LEAST" "[I") .int) (by decide +kernel)) (hfl (Cond.eq (.length (.static "BlindSpots$LandReader" "TOWER_LEAST" "[I")) (.int 4)) (by decide +kernel)) (hfl (Cond.eq (.elem (.static "BlindSpots$LandReader" "TOWER_LEAST" "[I") (.int 0)) (.int (zv 5 0))) (by decide +kernel)) (hfl (Cond.eq (.elem (.static "BlindSpots$LandReader" "TOWER_LEAST" "[I") (.int 1)) (.int (zv 5 1))) (by decide +kernel)) (hfl (Cond.eq (.elem (.static "BlindSpots$LandReader" "TOWER_LEAST" "[I") (.int 2)) (.int (zv 5 2))) (by decide +kernel)) (hfl (Cond.eq (.elem (.static "BlindSpots$LandReader" "TOWER_LEAST" "[I") (.int 3)) (.int (zv 5 3))) (by decide +kernel)) (hts _ (t2 154 (by decide +kernel))) (hts _ (t1 3 (by decide +kernel))) hA
  obtain ⟨z6, z6a, z6b⟩ := law_stat (A := fun q => s.heap.size ≤ q) (C := "BlindSpots$LandReader") (n := "TOWER_MOST") (d := "[I") (ty := .int) (f := zv 6) (hfl (Cond.arrayOf (.static "BlindSpots$LandReader" "TOWER_MOST" "[I") .int) (by decide +kernel)) (hfl (Cond.eq (.length (.static "BlindSpots$LandReader" "TOWER_MOST" "[I")) (.int 4)) (by decide +kernel)) (hfl (Cond.eq (.elem (.static "BlindSpots$LandReader" "TOWER_MOST" "[I") (.int 0)) (.int (zv 6 0))) (by decide +kernel)) (hfl (Cond.eq (.elem (.static "BlindSpots$LandReader" "TOWER_MOST" "[I") (.int 1)) (.int (zv 6 1))) (by decide +kernel)) (hfl (Cond.eq (.elem (.static "BlindSpots$LandReader" "TOWER_MOST" "[I") (.int 2)) (.int (zv 6 2))) (by decide +kernel)) (hfl (Cond.eq (.elem (.static "BlindSpots$LandReader" "TOWER_MOST" "[I") (.int 3)) (.int (zv 6 3))) (by decide +kernel)) (hts _ (t2 156 (by decide +kernel))) (hts _ (t1 3 (by decide +kernel))) hA
  obtain ⟨z7, z7a, z7b⟩ := law_stat (A := fun q => s.heap.size ≤ q) (C := "BlindSpots$LandReader") (n := "TOWER_FIRST") (d := "[I") (ty := .int) (f := zv 7) (hfl (Cond.arrayOf (.static "BlindSpots$LandReader" "TOWER_FIRST" "[I") .int) (by decide +kernel)) (hfl (Cond.eq (.length (.static "BlindSpots$LandReader" "TOWER_FIRST" "[I")) (.int 4)) (by decide +kernel)) (hfl (Cond.eq (.elem (.static "BlindSpots$LandReader" "TOWER_FIRST" "[I") (.int 0)) (.int (zv 7 0))) (by decide +kernel)) (hfl (Cond.eq (.elem (.static "BlindSpots$LandReader" "TOWER_FIRST" "[I") (.int 1)) (.int (zv 7 1))) (by decide +kernel)) (hfl (Cond.eq (.elem (.static "BlindSpots$LandReader" "TOWER_FIRST" "[I") (.int 2)) (.int (zv 7 2))) (by decide +kernel)) (hfl (Cond.eq (.elem (.static "BlindSpots$LandReader" "TOWER_FIRST" "[I") (.int 3)) (.int (zv 7 3))) (by decide +kernel)) (hts _ (t2 150 (by decide +kernel))) (hts _ (t1 3 (by decide +kernel))) hA
  let za : Nat → Nat := fun j => ([z0, z1, z2, z3, z4, z5, z6, z7] : List Nat).getD j 0
  have hT : ∀ j, j < 8 → ∃ ty, va_T ty (za j) 4 (fun q => .int (zv j q)) (fun q => s.heap.size ≤ q) s s.heap := by
    intro j hj
    match j, hj with
    | 0, _ => exact ⟨_, z0b⟩
    | 1, _ => exact ⟨_, z1b⟩
    | 2, _ => exact ⟨_, z2b⟩
    | 3, _ => exact ⟨_, z3b⟩
    | 4, _ => exact ⟨_, z4b⟩
    | 5, _ => exact ⟨_, z5b⟩
    | 6, _ => exact ⟨_, z6b⟩
    | 7, _ => exact ⟨_, z7b⟩
    | j + 8, hj => omega
  have hR : ∀ j, j < 8 → roT (zc j) (za j) (fun q => s.heap.size ≤ q) s := by
    intro j hj
    match j, hj with
    | 0, _ => exact z0b
    | 1, _ => exact z1b
    | 2, _ => exact z2b
    | 3, _ => exact z3b
    | 4, _ => exact z4b
    | 5, _ => exact z5b
    | 6, _ => exact z6b
    | 7, _ => exact z7b
    | j + 8, hj => omega
  have inj : ∀ i, i < 8 → ∀ j, j < 8 → za i = za j → i = j := by
    intro i hi j hj he
    obtain ⟨t1, g1⟩ := hT i hi
    obtain ⟨t2, g2⟩ := hT j hj
    rw [he] at g1
    exact zv_inj i hi j hj (va_T_same g1 g2)
  have hro : ∀ j, j < 8 → roOf za (za j) = some (zc j) := by
    intro j hj
    unfold roOf
    cases hf : (List.range 8).find? (fun i => za i == za j) with
    | none =>
      have := List.find?_eq_none.mp hf j (List.mem_range.mpr hj)
      simp at this
    | some i =>
      have h1 := List.find?_some hf
      have h2 := List.mem_range.mp (List.mem_of_find?_eq_some hf)
      have : i = j := inj i h2 j hj (by simpa using h1)
      rw [this]; rfl
  refine ⟨(fun k => ([k0, k1, k2, k3, k4, k5, k6, k7, k8, k9, k10] : List ClassId).getD k 0, fun k => ([i0, i1, i2, i3, i4, i5, i6, i7, i8, i9, i10] : List (Nat → Nat)).getD k (fun _ => 0)), fun t => ([y0, y1, y2, y3, y4] : List Nat).getD t 0, (za, roOf za), ⟨⟨?_, ?_⟩, ?_, ?_, ?_, va_AO.of hov⟩, hro⟩
  · intro k q hq
    match k, hq with
    | 0, hq => cases hq; exact hKn0
    | 1, hq => cases hq; exact hKn1
    | 2, hq => cases hq; exact hKn2
    | 3, hq => cases hq; exact hKn3
    | 4, hq => cases hq; exact hKn4
    | 5, hq => cases hq; exact hKn5
    | 6, hq => cases hq; exact hKn6
    | 7, hq => cases hq; exact hKn7
    | 8, hq => cases hq; exact hKn8
    | 9, hq => cases hq; exact hKn9
    | 10, hq => cases hq; exact hKn10
    | k + 11, hq => simp [vwCl] at hq
  · intro k q hq
    match k, hq with
    | 0, hq => cases hq; exact ⟨y0a, y0b⟩
    | 1, hq => cases hq; exact ⟨y1a, y1b⟩
    | 2, hq => cases hq; exact ⟨y2a, y2b⟩
    | 3, hq => cases hq; exact ⟨y3a, y3b⟩
    | 4, hq => cases hq; exact ⟨y4a, y4b⟩
    | k + 5, hq => simp [tyL] at hq
  · intro w hw
    obtain ⟨h1, h2⟩ := List.mem_filter.mp hw
    exact va_Nw.of (nest_tab h2) (hts w h1)
  · intro a e he
    unfold roOf at he
    cases hf : (List.range 8).find? (fun i => za i == a) with
    | none => simp [hf] at he
    | some i =>
      have h1 := List.find?_some hf
      have h2 := List.mem_range.mp (List.mem_of_find?_eq_some hf)
      have e1 : za i = a := by simpa using h1
      have e2 : zc i = e := by simpa [hf] using he
      rw [← e1, ← e2]
      exact hR i h2
  · intro j q hq
    match j, hq with
    | 0, hq => cases hq; exact z0a
    | 1, hq => cases hq; exact z1a
    | 2, hq => cases hq; exact z2a
    | 3, hq => cases hq; exact z3a
    | 4, hq => cases hq; exact z4a
    | 5, hq => cases hq; exact z5a
    | 6, hq => cases hq; exact z6a
    | 7, hq => cases hq; exact z7a
    | j + 8, hq => simp [zN] at hq
