/-! A LAW taken: the class -/
section
variable {K : Cfg} {I : Nat → Int32} {R : Nat → Nat → Int32} {dr : Int64} {a : Abs} {σ : St}
theorem lw_add {K : Cfg} {q1 q2 q3 n : Nat} {c : Nat → Int32} {t : St} : lwOf (addK K q1 q2 q3 n c t).2.1 (addK K q1 q2 q3 n c t).2.2.1 = va_up (lwOf K.2.1 K.2.2.1) K.2.2.1 (some q1) := by
  funext i
  show (if i < K.2.2.1 + 1 then some (if 3 * i = 3 * K.2.2.1 then q1 else if 3 * i = 3 * K.2.2.1 + 1 then q2 else if 3 * i = 3 * K.2.2.1 + 2 then q3 else K.2.1 (3 * i)) else none) = _
  unfold va_up lwOf
  by_cases h : i = K.2.2.1
  · subst h
    rw [if_pos (by omega), if_pos rfl, if_pos rfl]
  · rw [if_neg h]
    by_cases h2 : i < K.2.2.1
    · rw [if_pos (by omega), if_pos h2, if_neg (by omega), if_neg (by omega), if_neg (by omega)]
    · rw [if_neg (by omega), if_neg h2]
theorem add_old {K : Cfg} {q1 q2 q3 n i : Nat} {c : Nat → Int32} {t : St} (hi : i < 3 * K.2.2.1) : (addK K q1 q2 q3 n c t).2.1 i = K.2.1 i := by
  show (if i = 3 * K.2.2.1 then q1 else if i = 3 * K.2.2.1 + 1 then q2 else if i = 3 * K.2.2.1 + 2 then q3 else K.2.1 i) = _
  rw [if_neg (by omega), if_neg (by omega), if_neg (by omega)]
theorem add_new {K : Cfg} {q1 q2 q3 n : Nat} {c : Nat → Int32} {t : St} : (addK K q1 q2 q3 n c t).2.1 (3 * K.2.2.1) = q1 ∧ (addK K q1 q2 q3 n c t).2.1 (3 * K.2.2.1 + 1) = q2 ∧ (addK K q1 q2 q3 n c t).2.1 (3 * K.2.2.1 + 2) = q3 := by
  refine ⟨if_pos rfl, ?_, ?_⟩
  · show (if 3 * K.2.2.1 + 1 = 3 * K.2.2.1 then q1 else if 3 * K.2.2.1 + 1 = 3 * K.2.2.1 + 1 then q2 else _) = _
    rw [if_neg (by omega), if_pos rfl]
  · show (if 3 * K.2.2.1 + 2 = 3 * K.2.2.1 then q1 else if 3 * K.2.2.1 + 2 = 3 * K.2.2.1 + 1 then q2 else if 3 * K.2.2.1 + 2 = 3 * K.2.2.1 + 2 then q3 else _) = _
    rw [if_neg (by omega), if_neg (by omega), if_pos rfl]
theorem add_set {K : Cfg} {q1 q2 q3 n z : Nat} {c : Nat → Int32} {t : St} : setK (addK K q1 q2 q3 n c t) z ↔ (setK K z ∨ z = q1 ∨ z = q2 ∨ z = q3) := by
  obtain ⟨n1, n2, n3⟩ := add_new (K := K) (q1 := q1) (q2 := q2) (q3 := q3) (n := n) (c := c) (t := t)
  constructor
  · rintro (h | ⟨i, hi, rfl⟩)
    · exact Or.inl (Or.inl h)
    · have hi' : i < 3 * (K.2.2.1 + 1) := hi
      by_cases h1 : i < 3 * K.2.2.1
      · rw [add_old h1]; exact Or.inl (Or.inr ⟨i, h1, rfl⟩)
      · have e : i = 3 * K.2.2.1 ∨ i = 3 * K.2.2.1 + 1 ∨ i = 3 * K.2.2.1 + 2 := by omega
        rcases e with rfl | rfl | rfl
        · rw [n1]; exact Or.inr (Or.inl rfl)
        · rw [n2]; exact Or.inr (Or.inr (Or.inl rfl))
        · rw [n3]; exact Or.inr (Or.inr (Or.inr rfl))
  · rintro ((h | ⟨i, hi, rfl⟩) | rfl | rfl | rfl)
    · exact Or.inl h
    · exact Or.inr ⟨i, by show i < 3 * (K.2.2.1 + 1); omega, (add_old hi).symm⟩
    · exact Or.inr ⟨3 * K.2.2.1, by show 3 * K.2.2.1 < 3 * (K.2.2.1 + 1); omega, n1.symm⟩
    · exact Or.inr ⟨3 * K.2.2.1 + 1, by show 3 * K.2.2.1 + 1 < 3 * (K.2.2.1 + 1); omega, n2.symm⟩
    · exact Or.inr ⟨3 * K.2.2.1 + 2, by show 3 * K.2.2.1 + 2 < 3 * (K.2.2.1 + 1); omega, n3.symm⟩
/-- the new law laid into the row of laws -/
theorem c_laid {q1 q2 q3 n : Nat} {c : Nat → Int32} {t : St} (h : CV K I R dr σ) (hK : K.2.2.1 < 4) (hq : ∀ z, z = q1 ∨ z = q2 ∨ z = q3 → σ.2.2 z = none) (n12 : q1 ≠ q2) (n13 : q1 ≠ q3) (n23 : q2 ≠ q3) (e1 : t.2.2 q1 = some (.inr (3, [.ref q2, .ref q3]))) (e2 : t.2.2 q2 = some (.inl (0, n, .inl c))) (e3 : t.2.2 q3 = some (.inl (0, 40, .inl (fun _ => 0)))) (ez : ∀ z, z ≠ q1 → z ≠ q2 → z ≠ q3 → t.2.2 z = σ.2.2 z) : ∃ u, sQ t (K.1 9) (nI K.2.2.1) q1 = some u ∧ CV (addK K q1 q2 q3 n c u) I R dr u ∧ u.1 = t.1 ∧ ∀ z, z ≠ K.1 9 → u.2.2 z = t.2.2 z := by
  have hno : ∀ z, z = q1 ∨ z = q2 ∨ z = q3 → ¬ setK K z := fun z hz hs => by
    obtain ⟨e, he⟩ := h.has hs
    rw [hq z hz] at he; cases he
  have hin : ∀ z, setK K z → t.2.2 z = σ.2.2 z := fun z hz => ez z (fun e => hno z (Or.inl e) hz) (fun e => hno z (Or.inr (Or.inl e)) hz) (fun e => hno z (Or.inr (Or.inr e)) hz)
  have v := h.reb hin
  obtain ⟨R', hR, hw, hl, _⟩ := v
  have hl : LWd (rebK K t) t := hl
  have hw : CW K.1 I R' dr (lwOf K.2.1 K.2.2.1) t := hw
  have c9 : t.2.2 (K.1 9) = some (.inl (2, 4, .inr (.inr (.inr (.inr (lwOf K.2.1 K.2.2.1)))))) := hw.2 9 rfl
  obtain ⟨g1, g2⟩ := hw.put (I2 := I) (R2 := R') (lw2 := va_up (lwOf K.2.1 K.2.2.1) K.2.2.1 (some q1)) (dr2 := dr) 9 rfl (fun _ _ _ _ => rfl) (fun _ _ => rfl) (fun _ => rfl) (fun q => absurd rfl q)
  have es : sQ t (K.1 9) (nI K.2.2.1) q1 = some (t.1, t.2.1, up t.2.2 (K.1 9) (cellC K.1 I R' dr (va_up (lwOf K.2.1 K.2.2.1) K.2.2.1 (some q1)) 9)) := by
    simp only [sQ, c9, e1]
    rw [if_pos ⟨trivial, trivial, inb_nI hK (by decide)⟩, nI_clamp (by omega)]
    rfl
  refine ⟨_, es, ?_, rfl, fun z hz => up_n _ _ hz⟩
  generalize hu : (t.1, t.2.1, up t.2.2 (K.1 9) (cellC K.1 I R' dr (va_up (lwOf K.2.1 K.2.2.1) K.2.2.1 (some q1)) 9)) = u at g1 g2
  have u9 : ∀ z, z ≠ K.1 9 → u.2.2 z = t.2.2 z := fun z hz => by rw [← hu]; exact up_n _ _ hz
  have d9 : ∀ z, (z = q1 ∨ z = q2 ∨ z = q3) → z ≠ K.1 9 := fun z hz e => hno z hz (Or.inl ⟨9, rfl, e⟩)
  obtain ⟨m1, m2, m3⟩ := add_new (K := K) (q1 := q1) (q2 := q2) (q3 := q3) (n := n) (c := c) (t := u)
  refine ⟨R', hR, ?_, ⟨?_, ?_, ?_⟩, Sm.rf⟩
  · rw [lw_add]; exact g1
  · have old : ∀ i, i < 3 * (K.2.2.1 + 1) → (i < 3 * K.2.2.1 ∧ (addK K q1 q2 q3 n c u).2.1 i = K.2.1 i ∧ setK K (K.2.1 i)) ∨ (i = 3 * K.2.2.1 ∧ (addK K q1 q2 q3 n c u).2.1 i = q1) ∨ (i = 3 * K.2.2.1 + 1 ∧ (addK K q1 q2 q3 n c u).2.1 i = q2) ∨ (i = 3 * K.2.2.1 + 2 ∧ (addK K q1 q2 q3 n c u).2.1 i = q3) := by
      intro i hi
      by_cases h1 : i < 3 * K.2.2.1
      · exact Or.inl ⟨h1, add_old h1, Or.inr ⟨i, h1, rfl⟩⟩
      · have e : i = 3 * K.2.2.1 ∨ i = 3 * K.2.2.1 + 1 ∨ i = 3 * K.2.2.1 + 2 := by omega
        rcases e with rfl | rfl | rfl
        · exact Or.inr (Or.inl ⟨rfl, m1⟩)
        · exact Or.inr (Or.inr (Or.inl ⟨rfl, m2⟩))
        · exact Or.inr (Or.inr (Or.inr ⟨rfl, m3⟩))
    intro i j hi hj e
    rcases old i hi with ⟨a1, a2, a3⟩ | ⟨a1, a2⟩ | ⟨a1, a2⟩ | ⟨a1, a2⟩ <;> rcases old j hj with ⟨b1, b2, b3⟩ | ⟨b1, b2⟩ | ⟨b1, b2⟩ | ⟨b1, b2⟩ <;> rw [a2, b2] at e
    · exact hl.1 i j a1 b1 e
    · exact absurd (e ▸ a3) (hno _ (Or.inl rfl))
    · exact absurd (e ▸ a3) (hno _ (Or.inr (Or.inl rfl)))
    · exact absurd (e ▸ a3) (hno _ (Or.inr (Or.inr rfl)))
    · exact absurd (e.symm ▸ b3) (hno _ (Or.inl rfl))
    · omega
    · exact absurd e n12
    · exact absurd e n13
    · exact absurd (e.symm ▸ b3) (hno _ (Or.inr (Or.inl rfl)))
    · exact absurd e.symm n12
    · omega
    · exact absurd e n23
    · exact absurd (e.symm ▸ b3) (hno _ (Or.inr (Or.inr rfl)))
    · exact absurd e.symm n13
    · exact absurd e.symm n23
    · omega
  · intro i hi hs
    have hi' : i < 3 * (K.2.2.1 + 1) := hi
    have hs' : setC K.1 ((addK K q1 q2 q3 n c u).2.1 i) := hs
    by_cases h1 : i < 3 * K.2.2.1
    · rw [add_old h1] at hs'
      exact hl.2.1 i h1 hs'
    · have e : i = 3 * K.2.2.1 ∨ i = 3 * K.2.2.1 + 1 ∨ i = 3 * K.2.2.1 + 2 := by omega
      rcases e with rfl | rfl | rfl
      · rw [m1] at hs'; exact hno _ (Or.inl rfl) (Or.inl hs')
      · rw [m2] at hs'; exact hno _ (Or.inr (Or.inl rfl)) (Or.inl hs')
      · rw [m3] at hs'; exact hno _ (Or.inr (Or.inr rfl)) (Or.inl hs')
  · intro i hi
    have hi' : i < K.2.2.1 + 1 := hi
    by_cases h1 : i < K.2.2.1
    · obtain ⟨k1, k2, st, k3⟩ := hl.2.2 i h1
      have w : ∀ j, j < 3 * K.2.2.1 → u.2.2 (K.2.1 j) = t.2.2 (K.2.1 j) := fun j hj => u9 _ (fun e => hl.2.1 j hj ⟨9, rfl, e⟩)
      rw [add_old (show 3 * i < 3 * K.2.2.1 by omega), add_old (show 3 * i + 1 < 3 * K.2.2.1 by omega), add_old (show 3 * i + 2 < 3 * K.2.2.1 by omega)]
      refine ⟨(w _ (by omega)).trans k1, ?_, st, (w _ (by omega)).trans k3⟩
      have e4 : (addK K q1 q2 q3 n c u).2.2.2.1 i = K.2.2.2.1 i := by
        show updN K.2.2.2.1 K.2.2.1 n i = _
        unfold updN; rw [if_neg (by omega)]
      have e5 : (addK K q1 q2 q3 n c u).2.2.2.2.1 i = K.2.2.2.2.1 i := by
        show (if i = K.2.2.1 then c else K.2.2.2.2.1 i) = _
        rw [if_neg (by omega)]
      rw [e4, e5]
      exact (w _ (by omega)).trans k2
    · have e : i = K.2.2.1 := by omega
      subst e
      rw [m1, m2, m3]
      have e4 : (addK K q1 q2 q3 n c u).2.2.2.1 K.2.2.1 = n := by
        show updN K.2.2.2.1 K.2.2.1 n K.2.2.1 = _
        unfold updN; rw [if_pos rfl]
      have e5 : (addK K q1 q2 q3 n c u).2.2.2.2.1 K.2.2.1 = c := if_pos rfl
      rw [e4, e5]
      exact ⟨(u9 _ (d9 _ (Or.inl rfl))).trans e1, (u9 _ (d9 _ (Or.inr (Or.inl rfl)))).trans e2, _, (u9 _ (d9 _ (Or.inr (Or.inr rfl)))).trans e3⟩
end
