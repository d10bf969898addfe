/-! The LAW's reader: the class, conditions and clauses -/
section
variable {K : Cfg} {dr : Int64} {a : Abs} {σ : St} {X Y : (Nat → Int32) → (Nat → Nat → Int32) → Prop} {p : Nat} {f : Option Nat} {L : List Tk} {r : PR}
theorem c_cmp {k : Nat} (hk : k ≤ 6) : CPr K dr a (fun t4 => (gR 4 0 t4 (K.1 7)).bind fun a6 =>
          bo 8 t4 a6 (fX8_peek t4 a6) (fun x7 t8 =>
          bd (fX4_compares t8 x7) (fun x9 t10 =>
          if x9 = 0 then
            (gR 4 0 t10 (K.1 7)).bind fun a11 =>
            bo 8 t10 a11 (fX8_fail t10 a11) (fun w12 t13 =>
            some ((), t13))
          else
            (gR 4 0 t10 (K.1 7)).bind fun a14 =>
            bo 8 t10 a14 (fX8_step t10 a14) (fun w15 t16 =>
            bo 4 t16 (K.1 7) (fX4_sum 60 t16 (K.1 7) (nI (6 - k))) (fun w17 t18 =>
            bo 4 t18 (K.1 7) (fX4_put t18 (K.1 7) x7 0) (fun w19 t20 =>
            some ((), t20))))))) (cmP a.1 k) := by
  intro L p σ h hl
  have hl0 := h.l240
  have hl240 := h.l2 hl
  refine Ok.r (l_tape h) (Ok.v h.O (t_peek h (LX_ind _)) ?_)
  rintro x t ⟨rfl, g⟩
  have h1 := sk_ge a.1 p
  have h2 := sk_le a.1 hl0.2
  refine Ok.cE (l_comp t _) (Ok.bI bI_0 (fun z => ?_) (fun z => ?_))
  · refine Ok.r (l_tape g) (Ok.v g.O (t_fail g (LX_ind _)) ?_)
    intro w2 t2 g2
    refine Ok.p ?_
    unfold cmP
    rw [if_neg (by rw [z]; decide)]
    exact ⟨_, g2.F hl240⟩
  · have yc : oqC (atT a.1 (skT a.1 p)) = true := by simpa using z
    have hin : skT a.1 p < a.1.1 := at_in (fun e => by rw [e] at yc; exact absurd yc (by decide))
    refine Ok.r (l_tape g) (Ok.v g.O (t_step g (LX_ind _)) ?_)
    rw [if_pos hin]
    intro w2 t2 g2
    refine Ok.v (l_O g2) (c_sum60 hk L _ t2 g2 (by omega)) ?_
    intro w3 t3 g3
    have hP := Pg.len (Pg.sm a.1 k) (show skT a.1 p + 1 ≤ a.1.1 by omega) (L := L) (by omega)
    have hlen : ∀ y, smT a.1 k (skT a.1 p + 1) = .inr y → (L ++ y.2).length < 240 := by
      intro y e
      have := Pg.sm a.1 k _ _ _ (show skT a.1 p + 1 ≤ a.1.1 by omega) e
      rw [List.length_append]; omega
    refine Ok.v g3.tape.2.2.1 (c_put g3 hlen) ?_
    intro w4 t4 g4
    refine Ok.p ?_
    unfold cmP
    rw [if_pos yc]
    exact g4
theorem c_cmpF (v : Int32) : CF K dr a (fun t4 => (gR 4 0 t4 (K.1 7)).bind fun a6 =>
          bo 8 t4 a6 (fX8_peek t4 a6) (fun x7 t8 =>
          bd (fX4_compares t8 x7) (fun x9 t10 =>
          if x9 = 0 then
            (gR 4 0 t10 (K.1 7)).bind fun a11 =>
            bo 8 t10 a11 (fX8_fail t10 a11) (fun w12 t13 =>
            some ((), t13))
          else
            (gR 4 0 t10 (K.1 7)).bind fun a14 =>
            bo 8 t10 a14 (fX8_step t10 a14) (fun w15 t16 =>
            bo 4 t16 (K.1 7) (fX4_sum 60 t16 (K.1 7) v) (fun w17 t18 =>
            bo 4 t18 (K.1 7) (fX4_put t18 (K.1 7) x7 0) (fun w19 t20 =>
            some ((), t20))))))) := by
  intro p q σ h
  exact Ok.r (l_tape h) (Ok.vE h.O (t_peekF h) (Ok.cE (l_comp σ _) (Ok.bT (by decide) (Ok.r (l_tape h) (Ok.vE h.O (t_failF h) (Ok.p ⟨p, h⟩))))))
theorem c_unit {u : Option (Nat → PR)} {k : Nat} (hk : k ≤ 6) {ru rt rc : St → Nat → Int32 → Int32 → Option (Unit × St)} (hn : u = none → k = 0) (hs : ∀ f, u = some f → 1 ≤ k ∧ CPr K dr a (fun t => ru t (K.1 7) (nI (6 - (k - 1))) 0) f ∧ Pg a.1 f ∧ CPr K dr a (fun t => rc t (K.1 7) (nI (6 - (k - 1))) 0) (cdP a.1 f f)) : CPr K dr a (fun t => eX4_unit ru rt rc t (K.1 7) (nI (6 - k)) 0) (unA a.1 k u) := by
  intro L p σ h hl
  have hl0 := h.l240
  have hl240 := h.l2 hl
  show Ok (eX4_unit ru rt rc σ (K.1 7) (nI (6 - k)) 0) _
  unfold eX4_unit
  refine Ok.j2 (Ok.bT rfl (Ok.r (l_tape h) (Ok.v h.O (t_peek h (LX_ind _)) ?_)))
  rintro x t ⟨rfl, g⟩
  have h1 := sk_ge a.1 p
  have h2 := sk_le a.1 hl0.2
  have e6 : 1 ≤ k → nI (6 - k) + 1 = nI (6 - (k - 1)) := fun hk1 => by rw [nI_1]; congr 1; omega
  refine Ok.b (fun z1 => ?_) (fun z1 => Ok.b (fun z2 => ?_) (fun z2 => ?_))
  · have hin : skT a.1 p < a.1.1 := at_in (by rw [z1]; decide)
    refine Ok.v (l_O g) (l_enter g (LX_ind _) hk hin) ?_
    intro r1 t1 g1
    cases u with
    | none =>
      rw [if_pos (hn rfl)] at g1
      obtain ⟨rfl, g1⟩ := g1
      refine Ok.bT rfl (Ok.p ?_)
      unfold unA
      rw [if_pos z1]
      exact ⟨_, g1.F hl240⟩
    | some f =>
      obtain ⟨hk1, hf, hP, _⟩ := hs f rfl
      rw [if_neg (by omega)] at g1
      obtain ⟨rfl, g1⟩ := g1
      refine Ok.bF (by decide) ?_
      rw [e6 hk1]
      refine Ok.v (l_O g1) (hf L _ t1 g1 (by omega)) ?_
      intro w2 t2 g2
      have hlen : ∀ y, f (skT a.1 p + 1) = .inr y → (L ++ y.2).length < 240 := by
        intro y e
        have := hP _ _ _ (show skT a.1 p + 1 ≤ a.1.1 by omega) e
        rw [List.length_append]; omega
      refine Ok.v g2.tape.2.2.1 (c_put g2 hlen) ?_
      intro w3 t3 g3
      refine Ok.p ?_
      unfold unA
      rw [if_pos z1]
      exact g3
  · have hin : skT a.1 p < a.1.1 := at_in (by rw [z2]; decide)
    refine Ok.v (l_O g) (l_enter g (LX_ind _) hk hin) ?_
    intro r1 t1 g1
    cases u with
    | none =>
      rw [if_pos (hn rfl)] at g1
      obtain ⟨rfl, g1⟩ := g1
      refine Ok.bT rfl (Ok.p ?_)
      unfold unA
      rw [if_neg z1, if_pos z2]
      exact ⟨_, g1.F hl240⟩
    | some f =>
      obtain ⟨hk1, _, hP, hf⟩ := hs f rfl
      rw [if_neg (by omega)] at g1
      obtain ⟨rfl, g1⟩ := g1
      refine Ok.bF (by decide) ?_
      rw [e6 hk1]
      refine Ok.v (l_O g1) (hf L _ t1 g1 (by omega)) ?_
      intro w2 t2 g2
      obtain ⟨q1, q2, q3, q4⟩ := g2.tape
      have hlen := Pg.len (Pg.cd hP hP) (show skT a.1 p + 1 ≤ a.1.1 by omega) (L := L) (by omega)
      refine Ok.r q1 (Ok.v q2 (c_expect (by decide) g2 (fun y e => ⟨(hlen y e).1, (hlen y e).2.1⟩)) ?_)
      intro w3 t3 g3
      refine Ok.p ?_
      unfold unA
      rw [if_neg z1, if_pos z2]
      exact g3
  · refine Ok.j1 (Ok.bT rfl (Ok.v (l_O g) (c_sum60 hk L _ t g (by omega)) ?_))
    intro w2 t2 g2
    have hlen := Pg.len (Pg.sm a.1 k) h2 (L := L) (by omega)
    unfold unA
    rw [if_neg z1, if_neg z2]
    exact c_seq g2 (c_cmp hk) (c_cmpF _) (fun y e => ⟨(hlen y e).1, (hlen y e).2.1⟩)
theorem c_unitB {k : Nat} (hk : k ≤ 6) {ru rt rc : St → Nat → Int32 → Int32 → Option (Unit × St)} : CPr K dr a (fun t => eX4_unit ru rt rc t (K.1 7) (nI (6 - k)) 1) (cmP a.1 k) := by
  intro L p σ h hl
  show Ok (eX4_unit ru rt rc σ (K.1 7) (nI (6 - k)) 1) _
  unfold eX4_unit
  exact Ok.j2 (Ok.bF (by decide) (Ok.bF (by decide) (Ok.bF (by decide) (Ok.j1 (Ok.bF (by decide) (c_cmp hk L p σ h hl))))))
theorem c_unitF {v w : Int32} {ru rt rc : St → Nat → Int32 → Int32 → Option (Unit × St)} : CF K dr a (fun t => eX4_unit ru rt rc t (K.1 7) v w) := by
  intro p q σ h
  show Ok (eX4_unit ru rt rc σ (K.1 7) v w) _
  unfold eX4_unit
  refine Ok.j2 (Ok.b (fun z => ?_) (fun z => ?_))
  · refine Ok.r (l_tape h) (Ok.vE h.O (t_peekF h) (Ok.bF (by decide) (Ok.bF (by decide) (Ok.j1 (Ok.bT z (Ok.v (l_O h) (c_sum60F v p q σ h) ?_))))))
    rintro w2 t2 ⟨p2, g2⟩
    exact c_cmpF v p2 q t2 g2
  · exact Ok.bF (by decide) (Ok.bF (by decide) (Ok.j1 (Ok.bF z (c_cmpF v p q σ h))))
theorem c_truth {v w : Int32} {u g : Nat → PR} {ru rt rc : St → Nat → Int32 → Int32 → Option (Unit × St)} (hu : CPr K dr a (fun t => ru t (K.1 7) v 0) u) (hP : Pg a.1 u) (hg : CPr K dr a (fun t => ru t (K.1 7) v w) g) (hQ : Pg a.1 g) : CPr K dr a (fun t => eX4_truth ru rt rc t (K.1 7) v w) (trP a.1 u g) := by
  intro L p σ h hl
  show Ok (eX4_truth ru rt rc σ (K.1 7) v w) _
  unfold eX4_truth trP thP
  refine Ok.v (l_O h) (hg L p σ h hl) ?_
  intro w t g1
  refine c_seq (f := fun t2 => lo2 _ FU 0 t2) g1 (fun L' p' σ' h' hl' => c_lp2 (r := fun t => ru t (K.1 7) v 0) hu hP okA_i (by decide) h' hl') (fun p' q' σ' h' => c_lp2F (r := fun t => ru t (K.1 7) v 0) (by decide) h') (fun y e => ⟨(hQ.len h.l240.2 hl y e).1, (hQ.len h.l240.2 hl y e).2.1⟩)
theorem c_truthF {v w : Int32} {ru rt rc : St → Nat → Int32 → Int32 → Option (Unit × St)} (hg : CF K dr a (fun t => ru t (K.1 7) v w)) : CF K dr a (fun t => eX4_truth ru rt rc t (K.1 7) v w) := by
  intro p q σ h
  show Ok (eX4_truth ru rt rc σ (K.1 7) v w) _
  unfold eX4_truth
  refine Ok.v (l_O h) (hg p q σ h) ?_
  rintro w t ⟨p1, g1⟩
  exact c_lp2F (r := fun t => ru t (K.1 7) v 0) (by decide) g1
theorem c_cond {v w : Int32} {u g : Nat → PR} {ru rt rc : St → Nat → Int32 → Int32 → Option (Unit × St)} (hu : CPr K dr a (fun t => rt t (K.1 7) v 0) u) (hP : Pg a.1 u) (hg : CPr K dr a (fun t => rt t (K.1 7) v w) g) (hQ : Pg a.1 g) : CPr K dr a (fun t => eX4_condition ru rt rc t (K.1 7) v w) (thP a.1 okO u g) := by
  intro L p σ h hl
  show Ok (eX4_condition ru rt rc σ (K.1 7) v w) _
  unfold eX4_condition thP
  refine Ok.v (l_O h) (hg L p σ h hl) ?_
  intro w t g1
  refine c_seq (f := fun t2 => lo2 _ FU 0 t2) g1 (fun L' p' σ' h' hl' => c_lp2 (r := fun t => rt t (K.1 7) v 0) hu hP okO_i (by decide) h' hl') (fun p' q' σ' h' => c_lp2F (r := fun t => rt t (K.1 7) v 0) (by decide) h') (fun y e => ⟨(hQ.len h.l240.2 hl y e).1, (hQ.len h.l240.2 hl y e).2.1⟩)
theorem c_condF {v w : Int32} {ru rt rc : St → Nat → Int32 → Int32 → Option (Unit × St)} (hg : CF K dr a (fun t => rt t (K.1 7) v w)) : CF K dr a (fun t => eX4_condition ru rt rc t (K.1 7) v w) := by
  intro p q σ h
  show Ok (eX4_condition ru rt rc σ (K.1 7) v w) _
  unfold eX4_condition
  refine Ok.v (l_O h) (hg p q σ h) ?_
  rintro w t ⟨p1, g1⟩
  exact c_lp2F (r := fun t => rt t (K.1 7) v 0) (by decide) g1
theorem c_condG {v w : Int32} {u g : Nat → PR} {d : Nat} (hu : CPr K dr a (fun t => (recX4_unit d).1 t (K.1 7) v 0) u) (hP : Pg a.1 u) (hg : CPr K dr a (fun t => (recX4_unit d).1 t (K.1 7) v w) g) (hQ : Pg a.1 g) : CPr K dr a (fun t => (recX4_unit (d + 2)).2.2 t (K.1 7) v w) (cdP a.1 u g) := by
  have h1 : CPr K dr a (fun t => (recX4_unit (d + 1)).2.1 t (K.1 7) v 0) (trP a.1 u u) := c_truth (rt := (recX4_unit d).2.1) (rc := (recX4_unit d).2.2) hu hP hu hP
  have h2 : CPr K dr a (fun t => (recX4_unit (d + 1)).2.1 t (K.1 7) v w) (trP a.1 u g) := c_truth (rt := (recX4_unit d).2.1) (rc := (recX4_unit d).2.2) hu hP hg hQ
  exact c_cond (ru := (recX4_unit (d + 1)).1) (rc := (recX4_unit (d + 1)).2.2) h1 (Pg.tr hP hP) h2 (Pg.tr hP hQ)
theorem c_units : ∀ k d, k ≤ 6 → 3 * k + 1 ≤ d → CPr K dr a (fun t => (recX4_unit d).1 t (K.1 7) (nI (6 - k)) 0) (unT a.1 k)
  | 0, d + 1, hk, _ => c_unit (ru := (recX4_unit d).1) (rt := (recX4_unit d).2.1) (rc := (recX4_unit d).2.2) (u := none) hk (fun _ => rfl) (fun f e => by cases e)
  | k + 1, d + 1, hk, hd => by
    obtain ⟨e, rfl⟩ : ∃ e, d = e + 2 := ⟨d - 2, by omega⟩
    have ih := c_units k (e + 2) (by omega) (by omega)
    have ih2 := c_units k e (by omega) (by omega)
    exact c_unit (ru := (recX4_unit (e + 2)).1) (rt := (recX4_unit (e + 2)).2.1) (rc := (recX4_unit (e + 2)).2.2) (u := some (unT a.1 k)) hk (fun e => by cases e) (fun f e => by cases e; exact ⟨by omega, ih, Pg.un _ k, c_condG ih2 (Pg.un _ k) ih2 (Pg.un _ k)⟩)
theorem c_cond60 : CPr K dr a (fun t => fX4_condition 60 t (K.1 7) 0 0) (cdP a.1 (unT a.1 6) (unT a.1 6)) := c_condG (d := 58) (v := 0) (c_units 6 58 (by omega) (by omega)) (Pg.un _ 6) (c_units 6 58 (by omega) (by omega)) (Pg.un _ 6)
theorem c_cond60B : CPr K dr a (fun t => fX4_condition 60 t (K.1 7) 0 1) (cdP a.1 (unT a.1 6) (cmP a.1 6)) := c_condG (d := 58) (v := 0) (c_units 6 58 (by omega) (by omega)) (Pg.un _ 6) (c_unitB (k := 6) (ru := (recX4_unit 57).1) (rt := (recX4_unit 57).2.1) (rc := (recX4_unit 57).2.2) (by omega)) (Pg.cm _ 6)
theorem c_cond60F (v w : Int32) : CF K dr a (fun t => fX4_condition 60 t (K.1 7) v w) := by
  have h1 : CF K dr a (fun t => (recX4_unit 58).1 t (K.1 7) v w) := c_unitF (ru := (recX4_unit 57).1) (rt := (recX4_unit 57).2.1) (rc := (recX4_unit 57).2.2)
  have h2 : CF K dr a (fun t => (recX4_unit 59).2.1 t (K.1 7) v w) := c_truthF (rt := (recX4_unit 58).2.1) (rc := (recX4_unit 58).2.2) h1
  exact c_condF (ru := (recX4_unit 59).1) (rc := (recX4_unit 59).2.2) h2
end
/-! how much room a CLAUSE takes -/
theorem hd_g {T : Tap} {p : Nat} {y : Nat × List Tk} (hp : p ≤ T.1) (h : hdP T p = .inr y) : p + 2 ≤ y.1 ∧ y.1 ≤ T.1 ∧ y.2 = [] := by
  unfold hdP at h
  obtain ⟨z, e1, e2, e3, e4⟩ := exP_inr (p := y.1) (W := y.2) h
  obtain ⟨w, f1, f2, f3, f4⟩ := exP_inr (p := z.1) (W := z.2) e1
  cases f1
  have g1 := sk_ge T p
  have g2 := sk_ge T z.1
  have g3 : skT T p < T.1 := at_in (by rw [f2]; decide)
  have g4 : skT T z.1 < T.1 := at_in (by rw [e2]; decide)
  simp only [] at f3 f4
  exact ⟨by omega, by omega, by rw [e4, f4]⟩
theorem tl_g {T : Tap} {q0 : Nat} {c : PR} {y : Nat × Clz} (hc : ∀ z, c = .inr z → q0 + z.2.length ≤ z.1 ∧ z.1 ≤ T.1) (h : tlP T c = .inr y) : q0 + (clC y.2).length ≤ y.1 + 1 ∧ y.1 ≤ T.1 := by
  unfold tlP at h
  cases e : exP T c 63 with
  | inl q => rw [e] at h; cases h
  | inr z =>
    rw [e] at h
    simp only [] at h
    have b := Pg.ex (p := q0) (by decide) hc e
    cases e2 : smT T 6 z.1 with
    | inl q => rw [e2] at h; cases h
    | inr w =>
      rw [e2] at h
      cases h
      have b2 := Pg.sm T 6 _ _ _ b.2 e2
      simp only [clC, List.length_append, List.length_cons, List.length_nil]
      omega
theorem cl_g {T : Tap} {p : Nat} {y : Nat × Clz} (hp : p ≤ T.1) (h : clT T p = .inr y) : p + (clC y.2).length + 1 ≤ y.1 ∧ y.1 ≤ T.1 ∧ p + 2 ≤ y.1 := by
  unfold clT at h
  cases e : hdP T p with
  | inl q => rw [e] at h; cases h
  | inr z =>
    rw [e] at h
    simp only [] at h
    obtain ⟨b1, b2, b3⟩ := hd_g hp e
    have s1 := sk_ge T z.1
    have s2 := sk_le T b2
    by_cases q : atT T (skT T z.1) = 33 ∨ atT T (skT T z.1) = 40
    · rw [if_pos q] at h
      have := tl_g (q0 := skT T z.1) (fun w e => Pg.cd (Pg.un T 6) (Pg.un T 6) _ _ _ s2 e) h
      have hpos : 2 ≤ (clC y.2).length ∨ True := Or.inr trivial
      refine ⟨by omega, by omega, ?_⟩
      unfold tlP at h
      cases e9 : exP T (cdP T (unT T 6) (unT T 6) (skT T z.1)) 63 with
      | inl q => rw [e9] at h; cases h
      | inr w =>
        rw [e9] at h
        simp only [] at h
        have b := Pg.ex (p := skT T z.1) (by decide) (fun w e => Pg.cd (Pg.un T 6) (Pg.un T 6) _ _ _ s2 e) e9
        cases e8 : smT T 6 w.1 with
        | inl q => rw [e8] at h; cases h
        | inr v =>
          rw [e8] at h
          cases h
          have b2 := Pg.sm T 6 _ _ _ b.2 e8
          show p + 2 ≤ v.1
          omega
    · rw [if_neg q] at h
      cases e2 : smT T 6 (skT T z.1) with
      | inl q => rw [e2] at h; cases h
      | inr w =>
        rw [e2] at h
        simp only [] at h
        have b4 := Pg.sm T 6 _ _ _ s2 e2
        have s3 := sk_ge T w.1
        have s4 := sk_le T b4.2
        by_cases q2 : oqC (atT T (skT T w.1)) = true
        · rw [if_pos q2] at h
          have hc : ∀ v, bnP (.inr (skT T w.1, w.2)) (cdP T (unT T 6) (cmP T 6)) = .inr v → skT T z.1 + v.2.length ≤ v.1 ∧ v.1 ≤ T.1 := by
            intro v ev
            obtain ⟨v1, v2, f1, f2, f3, f4⟩ := bnP_inr (p := v.1) (W := v.2) ev
            cases f1
            have b5 := Pg.cd (Pg.un T 6) (Pg.cm T 6) _ _ _ s4 f2
            rw [f3, f4, List.length_append]
            simp only []
            omega
          have := tl_g (q0 := skT T z.1) hc h
          refine ⟨by omega, by omega, ?_⟩
          unfold tlP at h
          cases e9 : exP T (bnP (.inr (skT T w.1, w.2)) (cdP T (unT T 6) (cmP T 6))) 63 with
          | inl q => rw [e9] at h; cases h
          | inr v =>
            rw [e9] at h
            simp only [] at h
            have b := Pg.ex (p := skT T z.1) (by decide) hc e9
            cases e8 : smT T 6 v.1 with
            | inl q => rw [e8] at h; cases h
            | inr v' =>
              rw [e8] at h
              cases h
              have b2 := Pg.sm T 6 _ _ _ b.2 e8
              show p + 2 ≤ v'.1
              omega
        · rw [if_neg q2] at h
          cases h
          simp only [clC, List.length_append, List.length_cons, List.length_nil, List.nil_append]
          omega
