/-! The whole LAND read: the class -/
def fitL (s : Lay) : Bool := decide (s.2.1 ≠ 0 ∧ ¬ s.2.2.2.2.1 1 < nI s.2.2.1 ∧ nI s.2.2.2.1 ≤ s.2.2.2.2.1 0 ∧ ∀ t, t < s.2.1 → ¬ s.2.2.2.2.1 0 ≤ s.2.2.2.2.2.1 (4 * t) ∧ s.2.2.2.2.2.1 (4 * t + 1) < s.2.2.2.2.1 1)
def endT (T : Tap) (s : Lay) (p : Nat) : Option Nat := if atT T (skT T p) = -1 ∧ fitL s = true then none else some (skT T p)
def rdF (T : Tap) : Nat → Lay → Nat → Lay × Option Nat
  | 0, s, p => (s, some p)
  | d + 1, s, p => match (clA T s p).2.2 with
    | some q => ((clA T s p).1, some q)
    | none => if atT T (skT T (clA T s p).2.1) = 59 then rdF T d (clA T s p).1 (skT T (clA T s p).2.1 + 1) else ((clA T s p).1, endT T (clA T s p).1 (clA T s p).2.1)
def landT (T : Tap) : Lay × Option Nat := rdF T 11 Lay0 0
def cntL (s : Lay) : Nat := (if s.1 = true then 1 else 0) + s.2.1 + s.2.2.1
def LayB (s : Lay) : Prop := s.2.1 ≤ 4 ∧ s.2.2.1 ≤ 5 ∧ s.2.2.2.1 ≤ 6
theorem rowF_6 (T : Tap) (r : Nat) : ∀ d n g p, (rowF T r d n g p).1 ≤ n + d
  | 0, n, g, p => by rw [rowF]; exact Nat.le_refl _
  | d + 1, n, g, p => by
    by_cases h : dgB (atT T (skT T p)) = true
    · rw [rowF_y _ _ _ _ _ _ h]
      have := rowF_6 T r d (n + 1) (upd g (6 * r + n) (T.2 (skT T p) - 48)) (skT T p + 1)
      omega
    · rw [rowF_n _ _ _ _ _ _ h]; show n ≤ _; omega
theorem cl_B {T : Tap} {s : Lay} {p : Nat} (hB : LayB s) (h : (clA T s p).2.2 = none) : LayB (clA T s p).1 ∧ cntL (clA T s p).1 = cntL s + 1 := by
  obtain ⟨b1, b2, b3⟩ := hB
  by_cases h1 : atT T (skT T p) = 115 ∧ s.1 = false
  · rw [clA_s h1.1 h1.2]
    refine ⟨⟨b1, b2, b3⟩, ?_⟩
    show (1 : Nat) + s.2.1 + s.2.2.1 = cntL s + 1
    unfold cntL; rw [if_neg (by rw [h1.2]; decide)]; omega
  by_cases h2 : atT T (skT T p) = 116 ∧ s.2.1 < 4
  · rw [clA_t h2.1 h2.2]
    refine ⟨⟨h2.2, b2, b3⟩, ?_⟩
    show (if s.1 = true then 1 else 0) + (s.2.1 + 1) + s.2.2.1 = cntL s + 1
    unfold cntL; omega
  by_cases h3 : atT T (skT T p) = 114 ∧ s.2.2.1 < 5
  · rw [clA_r h3.1 h3.2]
    have := rowF_6 T s.2.2.1 6 0 s.2.2.2.2.2.2 (skT T p + 1)
    refine ⟨⟨b1, h3.2, ?_⟩, ?_⟩
    · show max s.2.2.2.1 _ ≤ 6
      exact Nat.max_le.mpr ⟨b3, by omega⟩
    · show (if s.1 = true then 1 else 0) + s.2.1 + (s.2.2.1 + 1) = cntL s + 1
      unfold cntL; omega
  · rw [clA_n h1 h2 h3] at h; cases h
theorem cnt_10 {s : Lay} (h : LayB s) : cntL s ≤ 10 := by
  obtain ⟨b1, b2, b3⟩ := h
  unfold cntL
  split <;> omega
section
variable {K : Cfg} {dr : Int64} {a : Abs} {σ : St} {X Y : (Nat → Int32) → (Nat → Nat → Int32) → Prop} {p : Nat} {f : Option Nat}
theorem c_rewind (h : CA K dr a σ) : Ok (fX8_rewind σ (K.1 1)) (fun _ t => TR K dr a (fun _ _ => True) 0 none t) := by
  obtain ⟨I, R, h1, h2⟩ := h
  unfold fX8_rewind
  refine Ok.w (h1.putI 1 3 0 rfl (by decide) (fun _ => rfl) (Nat.le_of_ble_eq_true rfl) (fun _ => rfl)) ?_
  intro t g
  refine Ok.w (g.putI 1 2 (-1) rfl (by decide) (fun _ => rfl) (Nat.le_of_ble_eq_true rfl) (fun _ => rfl)) ?_
  intro t2 g2
  refine Ok.p ⟨_, R, g2, h2.scr (fun k hk => ?_) (fun _ _ => rfl), trivial, ?_, pk_us, by omega, fun q e => by cases e⟩
  · rw [pk_un (fun z => hk (by unfold scI; omega)), pk_un (fun z => hk (by unfold scI; omega))]
  · rw [pk_un (by decide)]; exact pk_us
theorem t_forget (h : CA K dr a σ) (hz : StK K) : Ok (fX2_forget σ (K.1 3)) (fun _ t => TR K dr a (XL Lay0) 0 none t) := by
  have h0 : gR 2 0 σ (K.1 3) = some (K.1 1) ∧ isO 8 σ (K.1 1) = true := by
    obtain ⟨I, R, h1, _⟩ := h
    exact ⟨kr_3_0 h1, kO_1 h1⟩
  unfold fX2_forget
  refine Ok.r h0.1 (Ok.v h0.2 (c_rewind h) ?_)
  intro w t g
  refine Ok.bT rfl (Ok.w (g.put64 (Y := fun I _ => I 64 = 0) 0 (fun I R _ => pk_us)) ?_)
  intro t1 g1
  refine Ok.w (g1.put65 (Y := fun I _ => I 64 = 0 ∧ I 65 = 0) 0 (fun I R h => ⟨by rw [pk_un (by decide)]; exact h, pk_us⟩)) ?_
  intro t2 g2
  refine Ok.w (g2.put66 (Y := fun I _ => I 64 = 0 ∧ I 65 = 0 ∧ I 66 = 0) 0 (fun I R h => ⟨by rw [pk_un (by decide)]; exact h.1, by rw [pk_un (by decide)]; exact h.2, pk_us⟩)) ?_
  intro t3 g3
  refine Ok.w (g3.put67 (Y := fun I _ => I 64 = 0 ∧ I 65 = 0 ∧ I 66 = 0 ∧ I 67 = 0) 0 (fun I R h => ⟨by rw [pk_un (by decide)]; exact h.1, by rw [pk_un (by decide)]; exact h.2.1, by rw [pk_un (by decide)]; exact h.2.2, pk_us⟩)) ?_
  intro t4 g4
  have r3 : gR 2 3 t4 (K.1 3) = some (K.1 6) := by
    obtain ⟨I, R, h1, _⟩ := g4
    exact kr_3_3 h1
  refine Ok.r r3 (Ok.c (P1 := fun _ t => TR K dr a (fun I R => (I 64 = 0 ∧ I 65 = 0 ∧ I 66 = 0 ∧ I 67 = 0) ∧ ∀ i, i < 30 → R 6 i = 0) 0 none t) ?_ ?_)
  · unfold fJ7_fill_53178
    have hN : aN t4 (K.1 6) = some (nI 30) := by
      obtain ⟨I, R, ⟨R', _, hw, _⟩, _⟩ := g4
      exact aN_of (hw.2 6 rfl) (by decide)
    refine Ok.r hN ?_
    refine Ok.f2 30 0 (fun k x t => x = nI k ∧ TR K dr a (fun I R => (I 64 = 0 ∧ I 65 = 0 ∧ I 66 = 0 ∧ I 67 = 0) ∧ ∀ i, i < k → R 6 i = 0) 0 none t) (by omega) (by omega) ⟨rfl, g4.imp (fun I R h => ⟨h, fun i hi => by omega⟩)⟩ ?_ ?_
    · rintro j k x t hk ⟨rfl, g5⟩ hj
      refine Ok.bF (nI_ge hk (by decide)) (Ok.w (g5.row6 (Y := fun I R => (I 64 = 0 ∧ I 65 = 0 ∧ I 66 = 0 ∧ I 67 = 0) ∧ ∀ i, i < k + 1 → R 6 i = 0) hk 0 ?_) ?_)
      · rintro I R ⟨h1, h2⟩
        refine ⟨h1, fun i hi => ?_⟩
        rw [updR_s]
        unfold upd
        by_cases q : i = k
        · rw [if_pos q]
        · rw [if_neg q]; exact h2 i (by omega)
      · intro t6 g6
        rw [nI_1]
        exact hj _ _ ⟨rfl, g6⟩
    · rintro j x t ⟨rfl, g5⟩
      exact Ok.bT (by decide) (Ok.p g5)
  · intro w5 t5 g5
    have r1 : gR 2 1 t5 (K.1 3) = some (K.1 4) := by
      obtain ⟨I, R, h1, _⟩ := g5
      exact kr_3_1 h1
    refine Ok.r r1 (Ok.w (g5.cpy4 (Y := XL Lay0) hz ?_) ?_)
    · rintro I R ⟨⟨y1, y2, y3, y4⟩, y5⟩
      refine ⟨y1, y2, y3, y4, fun i hi => ?_, fun i hi => ?_, fun i hi => ?_⟩
      · rw [updR_s]
        show va_cpy (zv 3) (R 4) 0 0 4 i = zv 3 i
        unfold va_cpy
        rw [if_pos (by omega)]; rw [Nat.zero_add, Nat.sub_zero]
      · have hi' : i < 4 * 0 := hi
        omega
      · rw [updR_n _ _ (by decide)]; exact y5 i hi
    · intro t6 g6
      exact Ok.p g6
theorem t_fits {s : Lay} (h : TR K dr a (XL s) p f σ) (hB : LayB s) : fX2_fitsTogether σ (K.1 3) = some (bI (fitL s), σ) := by
  obtain ⟨x64, x65, x66, x67, x1, x2, x3, xo⟩ := XL.rd h
  obtain ⟨b1, b2, b3⟩ := hB
  have r4 : ∀ i, i < 4 → aI 0 σ (K.1 4) (nI i) = some (s.2.2.2.2.1 i) := by
    obtain ⟨I, R, h1, h2, ⟨y1, y2, y3, y4, y5, y6, y7⟩, _⟩ := h
    exact fun i hi => (ka_4 h1 hi).trans (congrArg some (y5 i hi))
  have r5 : ∀ i, i < 4 * s.2.1 → aI 0 σ (K.1 5) (nI i) = some (s.2.2.2.2.2.1 i) := by
    obtain ⟨I, R, h1, h2, ⟨y1, y2, y3, y4, y5, y6, y7⟩, _⟩ := h
    exact fun i hi => (ka_5 h1 (by omega)).trans (congrArg some (y6 i hi))
  refine Ok.toE ?_
  unfold fX2_fitsTogether
  have no : ¬ (s.2.1 ≠ 0 ∧ ¬ s.2.2.2.2.1 1 < nI s.2.2.1 ∧ nI s.2.2.2.1 ≤ s.2.2.2.2.1 0 ∧ ∀ t, t < s.2.1 → ¬ s.2.2.2.2.1 0 ≤ s.2.2.2.2.2.1 (4 * t) ∧ s.2.2.2.2.2.1 (4 * t + 1) < s.2.2.2.2.1 1) → Ok (some ((0 : Int32), σ)) (fun r u => r = bI (fitL s) ∧ u = σ) := by
    intro q
    exact Ok.p ⟨by unfold fitL; rw [decide_eq_false q]; rfl, rfl⟩
  refine Ok.r x65 (Ok.bI (show nI s.2.1 = 0 ↔ s.2.1 = 0 from nI_eq (b := 0) (by omega) (by omega)) (fun z => no (fun q => q.1 z)) (fun z => ?_))
  refine Ok.r x66 (Ok.r x1 (Ok.r (r4 1 (by omega)) (Ok.b (fun z1 => no (fun q => q.2.1 z1)) (fun z1 => ?_))))
  refine Ok.r x67 (Ok.r x1 (Ok.r (r4 0 (by omega)) (Ok.b (fun z2 => ?_) (fun z2 => no (fun q => z2 q.2.2.1)))))
  refine Ok.f1 s.2.1 0 (fun k x => x = nI k ∧ ∀ t, t < k → ¬ s.2.2.2.2.1 0 ≤ s.2.2.2.2.2.1 (4 * t) ∧ s.2.2.2.2.2.1 (4 * t + 1) < s.2.2.2.2.1 1) (by omega) (by omega) ⟨rfl, fun t ht => by omega⟩ ?_ ?_
  · rintro j k x hk ⟨rfl, hh⟩ hj
    refine Ok.r x65 (Ok.bF (nI_ge hk (by omega)) (Ok.r x2 ?_))
    rw [show nI k * 4 = nI (4 * k) from by rw [show (4 : Int32) = nI 4 from rfl, pk_mul, Nat.mul_comm]]
    refine Ok.r (r5 _ (by omega)) (Ok.r x1 (Ok.r (r4 0 (by omega)) (Ok.b (fun z3 => no (fun q => (q.2.2.2 k hk).1 z3)) (fun z3 => ?_))))
    rw [nI_1]
    refine Ok.r x2 (Ok.r (r5 _ (by omega)) (Ok.r x1 (Ok.r (r4 1 (by omega)) (Ok.b (fun z4 => ?_) (fun z4 => no (fun q => z4 (q.2.2.2 k hk).2))))))
    rw [nI_1]
    refine hj _ ⟨rfl, fun t ht => ?_⟩
    by_cases e : t = k
    · rw [e]; exact ⟨z3, z4⟩
    · exact hh t (by omega)
  · rintro j x ⟨rfl, hh⟩
    exact Ok.r x65 (Ok.bT (nI_le (Nat.le_refl _) (by omega)) (Ok.p ⟨by unfold fitL; rw [decide_eq_true ⟨z, z1, z2, hh⟩]; rfl, rfl⟩))
set_option maxHeartbeats 1000000 in
theorem t_read (h : CA K dr a σ) (hz : StK K) (hT : ∀ i, i < a.1.1 → a.1.2 i ≠ -1) : Ok (fX2_read σ (K.1 3)) (fun r t => r = oI (landT a.1).2 ∧ ∃ p f, TR K dr a (XL (landT a.1).1) p f t) := by
  have h0 : isO 2 σ (K.1 3) = true := by
    obtain ⟨I, R, h1, _⟩ := h
    exact kO_3 h1
  unfold fX2_read
  refine Ok.v h0 (t_forget h hz) ?_
  intro w0 t0 g0
  unfold landT
  generalize hr : rdF a.1 11 Lay0 0 = rs
  have fin : ∀ (t5 : St), ((∃ s p, TR K dr a (XL s) p none t5 ∧ LayB s ∧ rs = (s, endT a.1 s p)) ∨ (∃ s p q, TR K dr a (XL s) p (some q) t5 ∧ rs = (s, some q))) → Ok ((gR 2 0 t5 (K.1 3)).bind fun a8 =>
    bo 8 t5 a8 (fX8_peek t5 a8) (fun x9 t10 =>
    jo1 (fun (t11 : St) =>
      (gR 2 0 t11 (K.1 3)).bind fun a13 =>
      (gI 8 2 t11 a13).bind fun x14 =>
      jo1 (fun (t15 : St) =>
        (gR 2 0 t15 (K.1 3)).bind fun a17 =>
        (gI 8 2 t15 a17).bind fun x18 =>
        some (x18, t15)) (fun j16 =>
        if x14 = (-1) then
          bo 2 t11 (K.1 3) (fX2_fitsTogether t11 (K.1 3)) (fun x19 t20 =>
          if x19 = 0 then
            (gR 2 0 t20 (K.1 3)).bind fun a21 =>
            (gI 8 1 t20 a21).bind fun x22 =>
            some (x22, t20)
          else
            j16 t20)
        else
          j16 t11)) (fun j12 =>
      if x9 = (-1) then
        j12 t10
      else
        (gR 2 0 t10 (K.1 3)).bind fun a23 =>
        bo 8 t10 a23 (fX8_fail t10 a23) (fun w24 t25 =>
        j12 t25)))) (fun r t => r = oI rs.2 ∧ ∃ p f, TR K dr a (XL rs.1) p f t) := by
    intro t5 hI
    have flt : ∀ (t : St) (s : Lay) (p q : Nat), TR K dr a (XL s) p (some q) t → rs = (s, some q) → Ok ((gR 2 0 t (K.1 3)).bind fun a13 =>
      (gI 8 2 t a13).bind fun x14 =>
      jo1 (fun (t15 : St) =>
        (gR 2 0 t15 (K.1 3)).bind fun a17 =>
        (gI 8 2 t15 a17).bind fun x18 =>
        some (x18, t15)) (fun j16 =>
        if x14 = (-1) then
          bo 2 t (K.1 3) (fX2_fitsTogether t (K.1 3)) (fun x19 t20 =>
          if x19 = 0 then
            (gR 2 0 t20 (K.1 3)).bind fun a21 =>
            (gI 8 1 t20 a21).bind fun x22 =>
            some (x22, t20)
          else
            j16 t20)
        else
          j16 t)) (fun r t => r = oI rs.2 ∧ ∃ p f, TR K dr a (XL rs.1) p f t) := by
      intro t s p q g er
      rw [er]
      exact Ok.r (kr_tape g) (Ok.r g.rd.2.2.1 (Ok.j1 (Ok.bF (fun w => by cases (oI_m1 g.f1).mp w) (Ok.r (kr_tape g) (Ok.r g.rd.2.2.1 (Ok.p ⟨rfl, p, _, g⟩))))))
    rcases hI.symm with ⟨s, p, q, g, er⟩ | ⟨s, p, g, hB, er⟩
    · exact Ok.r (kr_tape g) (Ok.vE g.O (t_peekF g) (Ok.j1 (Ok.bT rfl (flt t5 s p q g er))))
    · refine Ok.r (kr_tape g) (Ok.v g.O (t_peek g (XL_ind _)) ?_)
      rintro r1 t1 ⟨rfl, g1⟩
      refine Ok.j1 (Ok.b (fun z => ?_) (fun z => ?_))
      · refine Ok.r (kr_tape g1) (Ok.r g1.rd.2.2.1 (Ok.j1 (Ok.bT rfl (Ok.vE (XL.rd g1).2.2.2.2.2.2.2 (t_fits g1 hB) (Ok.bI bI_0 (fun zf => ?_) (fun zf => ?_))))))
        · refine Ok.r (kr_tape g1) (Ok.r g1.rd.2.1 (Ok.p ?_))
          rw [er]
          refine ⟨?_, _, _, g1⟩
          have e1 : skT a.1 p = a.1.1 := by
            have l1 := g1.l240
            have : ¬ skT a.1 p < a.1.1 := fun w => hT _ w (by unfold atT at z; rw [if_pos w] at z; exact z)
            omega
          unfold endT
          rw [if_neg (fun q => by rw [zf] at q; exact absurd q.2 (by decide)), e1]; rfl
        · refine Ok.r (kr_tape g1) (Ok.r g1.rd.2.2.1 (Ok.p ?_))
          rw [er]
          refine ⟨?_, _, _, g1⟩
          unfold endT
          rw [if_pos ⟨z, by simpa using zf⟩]
      · refine Ok.r (kr_tape g1) (Ok.v g1.O (t_fail g1 (XL_ind _)) ?_)
        intro w t2 g2
        refine flt t2 s _ _ g2 ?_
        rw [er]; unfold endT; rw [if_neg (fun q => z q.1)]
  refine Ok.f3 11 0 (fun k x y t => y = nI k ∧ ((x = 1 ∧ ∃ s p, TR K dr a (XL s) p none t ∧ LayB s ∧ cntL s = k ∧ rdF a.1 (11 - k) s p = rs) ∨ (x = 0 ∧ ((∃ s p, TR K dr a (XL s) p none t ∧ LayB s ∧ rs = (s, endT a.1 s p)) ∨ (∃ s p q, TR K dr a (XL s) p (some q) t ∧ rs = (s, some q)))))) (by omega) (by omega) ⟨rfl, Or.inl ⟨rfl, Lay0, 0, g0, ⟨by decide, by decide, by decide⟩, rfl, hr⟩⟩ ?_ ?_
  · rintro j k x y t hk ⟨rfl, hI⟩ hj
    refine Ok.j1 (Ok.bF (show ¬ nI 11 ≤ nI k from nI_ge hk (by decide)) ?_)
    rcases hI.symm with ⟨rfl, hI2⟩ | ⟨rfl, s, p, g, hB, hc, e1⟩
    · exact Ok.bT rfl (fin t hI2)
    obtain ⟨d, hd⟩ : ∃ d, 11 - k = d + 1 := ⟨10 - k, by omega⟩
    have hd' : 11 - (k + 1) = d := by omega
    rw [hd, rdF] at e1
    refine Ok.bF (by decide) (Ok.v (XL.rd g).2.2.2.2.2.2.2 (t_clause g hz hB.1 hB.2.1 hB.2.2) ?_)
    intro w1 t1 g1
    cases ef : (clA a.1 s p).2.2 with
    | some q =>
      rw [ef] at g1 e1
      refine Ok.r (kr_tape g1) (Ok.vE g1.O (t_peekF g1) (Ok.j1 (Ok.bF (by decide) (Ok.j1 (Ok.bT rfl ?_)))))
      rw [nI_1]
      exact hj _ _ _ ⟨rfl, Or.inr ⟨rfl, Or.inr ⟨_, _, q, g1, e1.symm⟩⟩⟩
    | none =>
      rw [ef] at g1 e1
      obtain ⟨hB1, hc1⟩ := cl_B hB ef
      simp only [] at e1
      refine Ok.r (kr_tape g1) (Ok.v g1.O (t_peek g1 (XL_ind _)) ?_)
      rintro r2 t2 ⟨rfl, g2⟩
      refine Ok.j1 (Ok.b (fun z => ?_) (fun z => ?_))
      · rw [if_pos z] at e1
        refine Ok.j1 (Ok.bF (by decide) (Ok.r (kr_tape g2) (Ok.v g2.O (t_step g2 (XL_ind _)) ?_)))
        rw [if_pos (at_lt (by rw [z]; decide))]
        intro w3 t3 g3
        rw [nI_1]
        exact hj _ _ _ ⟨rfl, Or.inl ⟨rfl, _, _, g3, hB1, by rw [hc1, hc], by rw [hd']; exact e1⟩⟩
      · rw [if_neg z] at e1
        refine Ok.j1 (Ok.bT rfl ?_)
        rw [nI_1]
        refine hj _ _ _ ⟨rfl, Or.inr ⟨rfl, Or.inl ⟨_, _, g2, hB1, ?_⟩⟩⟩
        rw [← e1]; unfold endT; rw [sk_sk]
  · rintro j x y t ⟨rfl, hI⟩
    refine Ok.j1 (Ok.bT (by decide) ?_)
    rcases hI.symm with ⟨rfl, hI2⟩ | ⟨rfl, s, p, g, hB, hc, e1⟩
    · exact fin t hI2
    · have := cnt_10 hB; omega
end
