/-! A LAW made: the class -/
theorem lw_len {T : Tap} : ∀ d p l, p ≤ T.1 → lwF T d p = .inr l → p + (l.flatMap clC).length + 1 ≤ T.1
  | 0, p, l, hp, h => by cases h
  | d + 1, p, l, hp, h => by
    rw [lw_s] at h
    cases e : clT T p with
    | inl q => rw [e] at h; cases h
    | inr y =>
      rw [e] at h
      simp only [] at h
      obtain ⟨b1, b2, b3⟩ := cl_g hp e
      have s1 := sk_ge T y.1
      by_cases q : atT T (skT T y.1) = 59
      · rw [if_pos q] at h
        have hin : skT T y.1 < T.1 := at_in (by rw [q]; decide)
        cases e2 : lwF T d (skT T y.1 + 1) with
        | inl q => rw [e2] at h; cases h
        | inr l2 =>
          rw [e2] at h
          cases h
          have := lw_len d _ _ (show skT T y.1 + 1 ≤ T.1 by omega) e2
          rw [List.flatMap_cons, List.length_append]
          omega
      · rw [if_neg q] at h
        by_cases q2 : atT T (skT T y.1) = -1
        · rw [if_pos q2] at h
          cases h
          rw [List.flatMap_cons, List.length_append, List.flatMap_nil, List.length_nil]
          omega
        · rw [if_neg q2] at h; cases h
def rebK (K : Cfg) (t : St) : Cfg := (K.1, K.2.1, K.2.2.1, K.2.2.2.1, K.2.2.2.2.1, t)
def addK (K : Cfg) (q1 q2 q3 n : Nat) (c : Nat → Int32) (t : St) : Cfg := (K.1, (fun i => if i = 3 * K.2.2.1 then q1 else if i = 3 * K.2.2.1 + 1 then q2 else if i = 3 * K.2.2.1 + 2 then q3 else K.2.1 i), K.2.2.1 + 1, updN K.2.2.2.1 K.2.2.1 n, (fun i => if i = K.2.2.1 then c else K.2.2.2.2.1 i), t)
def lawN (a : Abs) (f : LawF) : Abs := ((0, a.1.2), (a.2.1.1 + 1, (fun i => if i = a.2.1.1 then f else a.2.1.2.1 i), a.2.1.2.2), a.2.2)
section
variable {K : Cfg} {I : Nat → Int32} {R : Nat → Nat → Int32} {dr : Int64} {a : Abs} {σ : St}
theorem CV.reb {t : St} (h : CV K I R dr σ) (ht : ∀ z, setK K z → t.2.2 z = σ.2.2 z) : CV (rebK K t) I R dr t := by
  obtain ⟨R', hR, hw, hl, hs⟩ := h
  refine ⟨R', hR, ⟨hw.1, fun k hk => (ht _ (Or.inl ⟨k, hk, rfl⟩)).trans (hw.2 k hk)⟩, ⟨hl.1, hl.2.1, fun i hi => ?_⟩, Sm.rf⟩
  obtain ⟨h1, h2, st, h3⟩ := hl.2.2 i hi
  have hi' : i < K.2.2.1 := hi
  exact ⟨(ht _ (Or.inr ⟨3 * i, by omega, rfl⟩)).trans h1, (ht _ (Or.inr ⟨3 * i + 1, by omega, rfl⟩)).trans h2, st, (ht _ (Or.inr ⟨3 * i + 2, by omega, rfl⟩)).trans h3⟩
theorem CV.has (h : CV K I R dr σ) {z : Nat} (hz : setK K z) : ∃ e, σ.2.2 z = some e := by
  obtain ⟨R', hR, hw, hl, hs⟩ := h
  rcases hz with ⟨k, hk, rfl⟩ | ⟨i, hi, rfl⟩
  · exact ⟨_, hw.2 k hk⟩
  · obtain ⟨h1, h2, st, h3⟩ := hl.2.2 (i / 3) (by omega)
    have e : i = 3 * (i / 3) ∨ i = 3 * (i / 3) + 1 ∨ i = 3 * (i / 3) + 2 := by omega
    rcases e with e | e | e
    · rw [e]; exact ⟨_, h1⟩
    · rw [e]; exact ⟨_, h2⟩
    · rw [e]; exact ⟨_, h3⟩
theorem CV.fresh (h : CV K I R dr σ) {q : Nat} (hq : nf σ q) : ¬ setK K q := by
  intro z
  obtain ⟨e, he⟩ := h.has z
  rw [hq.2.1] at he; cases he
theorem CA.reb {t : St} (h : CA K dr a σ) (ht : ∀ z, setK K z → t.2.2 z = σ.2.2 z) : CA (rebK K t) dr a t := by
  obtain ⟨I, R, h1, h2⟩ := h
  exact ⟨I, R, h1.reb ht, h2⟩
theorem nw_n {q z : Nat} {e : aE} (h : z ≠ q) : (nw σ q e).2.2 z = σ.2.2 z := up_n _ _ h
theorem nw_s {q : Nat} {e : aE} : (nw σ q e).2.2 q = some e := up_s _ _ _
set_option maxHeartbeats 1000000 in
theorem c_made {n : Nat} (h : CV K I R dr σ) (hL : I 4 = nI K.2.2.1) (hK : K.2.2.1 < 4) (hn : I 142 = nI n) (hn2 : n < 240) {F : Nat → St → Prop} (hF : ∀ q1 q2 q3 t c, (∀ i, i < n → c i = R 8 i) → (∀ z, z = q1 ∨ z = q2 ∨ z = q3 → σ.2.2 z = none ∧ σ.1.2 z = none) → q1 ≠ q2 → q1 ≠ q3 → q2 ≠ q3 → t.1 = σ.1 → t.2.2 q1 = some (.inr (3, [.ref q2, .ref q3])) → t.2.2 q2 = some (.inl (0, n, .inl c)) → t.2.2 q3 = some (.inl (0, 40, .inl (fun _ => 0))) → (∀ z, z ≠ q1 → z ≠ q2 → z ≠ q3 → t.2.2 z = σ.2.2 z) → F q1 t) : wX4_made σ (K.1 7) F := by
  intro q1 hq1
  have f1 := h.fresh hq1
  have v1 : CV (rebK K (nw σ q1 (.inr (3, [.null, .null])))) I R dr (nw σ q1 (.inr (3, [.null, .null]))) := h.reb (fun z hz => nw_n (fun e => f1 (e ▸ hz)))
  have k1 := kr_7_1 (K := rebK K (nw σ q1 (.inr (3, [.null, .null])))) v1
  have k2 := (kr_7_2 (K := rebK K (nw σ q1 (.inr (3, [.null, .null])))) v1).trans (congrArg some hn)
  refine ⟨K.1 8, k1, nI n, k2, ?_⟩
  have c8 : ∃ g, (∀ i, g i = R 8 i) ∧ (nw σ q1 (.inr (3, [.null, .null]))).2.2 (K.1 8) = some (.inl (0, 240, .inl g)) := by
    obtain ⟨R', hR, hw, _⟩ := v1
    exact ⟨R' 8, fun i => by rw [hR 8 rfl], hw.2 8 rfl⟩
  obtain ⟨g8, eg8, c8⟩ := c8
  refine ⟨nI 240, aN_of c8 (by decide), fun _ => ⟨⟨nI_pos (by omega), by rw [nI_clamp (by omega)]; omega⟩, fun q2 hq2 => ?_⟩, fun e => ?_⟩
  · rw [nI_clamp (by omega)]
    have n21 : q2 ≠ q1 := fun e => by
      have := hq2.2.1
      rw [e, nw_s] at this; cases this
    have n28 : K.1 8 ≠ q2 := fun e => by
      have := hq2.2.1
      rw [← e, c8] at this; cases this
    generalize hs2 : nw (nw σ q1 (.inr (3, [.null, .null]))) q2 (.inl (0, n, .inl (fun _ => 0))) = s2
    have s2q2 : s2.2.2 q2 = some (.inl (0, n, .inl (fun _ => 0))) := by rw [← hs2]; exact nw_s
    have s2q1 : s2.2.2 q1 = some (.inr (3, [.null, .null])) := by rw [← hs2, nw_n n21.symm]; exact nw_s
    have s28 : s2.2.2 (K.1 8) = some (.inl (0, 240, .inl g8)) := by rw [← hs2, nw_n n28]; exact c8
    have s2z : ∀ z, z ≠ q1 → z ≠ q2 → s2.2.2 z = σ.2.2 z := fun z h1 h2 => by rw [← hs2, nw_n h2, nw_n h1]
    have s21 : s2.1 = σ.1 := by rw [← hs2]; rfl
    have s2l : ∀ z, z ∈ s2.2.1 ↔ (z ∈ σ.2.1 ∨ z = q1 ∨ z = q2) := fun z => by rw [← hs2]; simp [nw, or_assoc]
    refine ⟨nI 240, aN_of s28 (by decide), nI n, s2, ?_, ?_⟩
    · rw [f_min, if_pos (nI_lt hn2 (by decide))]
    have ecp : cpr s2 (K.1 8) 0 q2 0 (nI n) = some (s2.1, s2.2.1, up s2.2.2 q2 (.inl (0, n, .inl (va_cpy g8 (fun _ => 0) 0 0 n)))) := by
      show cpr s2 (K.1 8) (nI 0) q2 (nI 0) (nI n) = _
      simp only [cpr, rd_of s28, s2q2]
      rw [if_pos (by rw [nI_toInt (n := 0) (by omega), nI_toInt (n := n) (by omega)]; omega), nI_clamp (by omega), nI_clamp (by omega)]
    refine ⟨_, ecp, ?_⟩
    generalize hs3 : (s2.1, s2.2.1, up s2.2.2 q2 (.inl (0, n, .inl (va_cpy g8 (fun _ => 0) 0 0 n)))) = s3
    have s3q2 : s3.2.2 q2 = some (.inl (0, n, .inl (va_cpy g8 (fun _ => 0) 0 0 n))) := by rw [← hs3]; exact up_s _ _ _
    have s3q1 : s3.2.2 q1 = some (.inr (3, [.null, .null])) := by rw [← hs3]; exact (up_n _ _ n21.symm).trans s2q1
    have s3z : ∀ z, z ≠ q1 → z ≠ q2 → s3.2.2 z = σ.2.2 z := fun z h1 h2 => by rw [← hs3]; exact (up_n _ _ h2).trans (s2z z h1 h2)
    have s31 : s3.1 = σ.1 := by rw [← hs3]; exact s21
    intro q3 hq3
    have n31 : q3 ≠ q1 := fun e => by
      have := hq3.2.1
      rw [e, s3q1] at this; cases this
    have n32 : q3 ≠ q2 := fun e => by
      have := hq3.2.1
      rw [e, s3q2] at this; cases this
    have w1 : (nw s3 q3 (.inl (0, 40, .inl (fun _ => 0)))).2.2 q1 = some (.inr (3, [.null, .null])) := by rw [nw_n n31.symm]; exact s3q1
    refine ⟨_, pV_of w1 (by decide) _, _, pV_of (up_s _ _ _) (Nat.le_of_ble_eq_true rfl) _, ?_⟩
    refine hF q1 q2 q3 _ (va_cpy g8 (fun _ => 0) 0 0 n) (fun i hi => ?_) (fun z hz => ?_) n21.symm n31.symm n32.symm ?_ (up_s _ _ _) ?_ ?_ (fun z z1 z2 z3 => ?_)
    · rw [pk_cpy_in (by omega) (by omega), Nat.zero_add, Nat.sub_zero]
      exact eg8 i
    · rcases hz with rfl | rfl | rfl
      · exact hq1.2
      · have e := hq2.2
        rw [nw_n n21] at e
        exact e
      · have e := hq3.2
        rw [s3z _ n31 n32, s31] at e
        exact e
    · exact s31
    · exact ((up_n _ _ n21).trans (up_n _ _ n21)).trans ((nw_n n32.symm).trans s3q2)
    · exact ((up_n _ _ n31).trans (up_n _ _ n31)).trans nw_s
    · exact ((up_n _ _ z1).trans (up_n _ _ z1)).trans ((nw_n z3).trans (s3z z z1 z2))
  · have := congrArg Int32.toInt e
    rw [nI_toInt (by omega), nI_toInt (by omega)] at this
    omega
end
