/-! Does it fit together: the reference -/
theorem bI_dec {c d : Prop} [Decidable c] [Decidable d] (h : c ↔ d) : bI (decide c) = bI (decide d) := by
  rw [decide_eq_decide.mpr h]
section
variable {M : Mfg} {dr : Int64} {a : Abs} {σ : St} {p : Nat} {f : Option Nat}
set_option maxHeartbeats 800000 in
theorem u_whole {s : Lay} (h : UR M dr a (XM s) p f σ) (hR : LayR s) : fX10_isWhole σ (M.1 0) = some (bI (fitL s), σ) := by
  obtain ⟨⟨b1, b2, b3⟩, _, h1, _⟩ := hR
  obtain ⟨J, Q, hv, hr, ⟨x1, x2, x3, x4, x5, w, x6, x7⟩, _⟩ := h
  have r22 : gI 10 22 σ (M.1 0) = some (nI s.2.1) := (nr_22 hv).trans (congrArg some x2)
  have r21 : gI 10 21 σ (M.1 0) = some (nI s.2.2.1) := (nr_21 hv).trans (congrArg some x1)
  have r17 : ∀ i, i < 4 → aI 0 σ (M.1 17) (nI i) = some (s.2.2.2.2.1 i) := fun i hi => (na_17 hv hi).trans (congrArg some (x3 i hi))
  have r20 : ∀ i, i < 4 * s.2.1 → aI 0 σ (M.1 20) (nI i) = some (s.2.2.2.2.2.1 i) := fun i hi => (na_20 hv (by omega)).trans (congrArg some (x4 i hi))
  have r19 : ∀ i, i < s.2.2.1 → aI 0 σ (M.1 19) (nI i) = some (nI (w i)) := fun i hi => (na_19 hv (by omega)).trans (congrArg some (x7 i hi))
  have w6 : ∀ i, i < s.2.2.1 → w i ≤ 6 := mxW_le.mp (by rw [x6]; exact b3)
  have u0 : (2 : Int) ≤ (s.2.2.2.2.1 0).toInt := by
    have q := (h1 0 (by decide)).1
    rw [show zv (4 * 0 + 1) 0 = nI 2 from rfl, Int32.lt_iff_toInt_lt, nI_toInt (by omega)] at q
    omega
  have wide : nI s.2.2.2.1 ≤ s.2.2.2.2.1 0 ↔ ∀ r, r < s.2.2.1 → ¬ s.2.2.2.2.1 0 < nI (w r) := by
    obtain ⟨u, hu⟩ : ∃ u : Nat, (s.2.2.2.2.1 0).toInt = u := ⟨(s.2.2.2.2.1 0).toInt.toNat, by omega⟩
    rw [Int32.le_iff_toInt_le, nI_toInt (by omega), hu]
    have e1 : ((s.2.2.2.1 : Int) ≤ (u : Int)) ↔ mxW w s.2.2.1 ≤ u := by rw [x6]; omega
    rw [e1, mxW_le]
    refine ⟨fun q r hr z => ?_, fun q r hr => ?_⟩
    · rw [Int32.lt_iff_toInt_lt, nI_toInt (by have := w6 r hr; omega), hu] at z
      have := q r hr; omega
    · have z := q r hr
      rw [Int32.lt_iff_toInt_lt, nI_toInt (by have := w6 r hr; omega), hu] at z
      omega
  refine Ok.toE ?_
  unfold fX10_isWhole
  refine Ok.r r22 (Ok.j1 (Ok.j1 ?_))
  have fin : ∀ b : Bool, (b = true ↔ (s.2.1 ≠ 0 ∧ ¬ s.2.2.2.2.1 1 < nI s.2.2.1)) → Ok (lo2 (fun l6 (x4 : Int32) (x5 : Int32) =>
      (gI 10 21 σ (M.1 0)).bind fun x7 =>
    if x7 ≤ x5 then
      lo2 (fun l10 (x8 : Int32) (x9 : Int32) =>
        (gI 10 22 σ (M.1 0)).bind fun x11 =>
      if x11 ≤ x9 then
        if x8 = 0 ∨ x8 = 1 then some (x8, σ) else none
      else
        jo1 (fun (v12 : Int32) =>
          l10 v12 (x9 + 1)) (fun j13 =>
          jo1 (fun (u13 : Unit) =>
            j13 0) (fun j14 =>
            if x8 = 0 then
              j14 () 
            else
              (gR 10 20 σ (M.1 0)).bind fun a15 =>
              (aI 0 σ a15 ((4 * x9) + 0)).bind fun x16 =>
              (gR 10 17 σ (M.1 0)).bind fun a17 =>
              (aI 0 σ a17 0).bind fun x18 =>
              if x18 ≤ x16 then
                j14 () 
              else
                (gR 10 20 σ (M.1 0)).bind fun a19 =>
                (aI 0 σ a19 ((4 * x9) + 1)).bind fun x20 =>
                (gR 10 17 σ (M.1 0)).bind fun a21 =>
                (aI 0 σ a21 1).bind fun x22 =>
                if x22 ≤ x20 then
                  j14 () 
                else
                  j13 1))) FU x4 0
    else
      jo1 (fun (v23 : Int32) =>
        l6 v23 (x5 + 1)) (fun j24 =>
        jo1 (fun (u24 : Unit) =>
          j24 0) (fun j25 =>
          if x4 = 0 then
            j25 () 
          else
            (gR 10 19 σ (M.1 0)).bind fun a26 =>
            (aI 0 σ a26 x5).bind fun x27 =>
            (gR 10 17 σ (M.1 0)).bind fun a28 =>
            (aI 0 σ a28 0).bind fun x29 =>
            if x29 < x27 then
              j25 () 
            else
              j24 1))) FU (bI b) 0) (fun r u => r = bI (fitL s) ∧ u = σ) := by
    intro b hb
    refine Ok.f2 s.2.2.1 0 (fun k x y => y = nI k ∧ ∃ c : Bool, x = bI c ∧ (c = true ↔ (b = true ∧ ∀ r, r < k → ¬ s.2.2.2.2.1 0 < nI (w r)))) (by omega) (by omega) ⟨rfl, b, rfl, ⟨fun q => ⟨q, fun r hr => by omega⟩, fun q => q.1⟩⟩ ?_ ?_
    · rintro j k x y hk ⟨rfl, c, rfl, hc⟩ hj
      refine Ok.r r21 (Ok.bF (nI_ge hk (by omega)) (Ok.j1 (Ok.j1 ?_)))
      rw [nI_1]
      refine Ok.bI bI_0 (fun z => ?_) (fun z => ?_)
      · refine hj _ _ ⟨rfl, false, rfl, ⟨(fun q => by cases q), fun q => ?_⟩⟩
        have := hc.mpr ⟨q.1, fun r hr => q.2 r (by omega)⟩
        rw [z] at this; cases this
      · have z' := hc.mp (by simpa using z)
        refine Ok.r (nr_19 hv) (Ok.r (r19 k hk) (Ok.r (nr_17 hv) (Ok.r (r17 0 (by omega)) (Ok.b (fun z2 => ?_) (fun z2 => ?_)))))
        · refine hj _ _ ⟨rfl, false, rfl, ⟨(fun q => by cases q), fun q => absurd z2 (q.2 k (by omega))⟩⟩
        · refine hj _ _ ⟨rfl, true, rfl, ⟨fun _ => ⟨z'.1, fun r hr => ?_⟩, fun _ => rfl⟩⟩
          by_cases e : r = k
          · rw [e]; exact z2
          · exact z'.2 r (by omega)
    · rintro j x y ⟨rfl, c, rfl, hc⟩
      refine Ok.r r21 (Ok.bT (nI_le (Nat.le_refl _) (by omega)) ?_)
      refine Ok.f2 s.2.1 0 (fun k x y => y = nI k ∧ ∃ c2 : Bool, x = bI c2 ∧ (c2 = true ↔ (c = true ∧ ∀ t, t < k → ¬ s.2.2.2.2.1 0 ≤ s.2.2.2.2.2.1 (4 * t) ∧ s.2.2.2.2.2.1 (4 * t + 1) < s.2.2.2.2.1 1))) (by omega) (by omega) ⟨rfl, c, rfl, ⟨fun q => ⟨q, fun r hr => by omega⟩, fun q => q.1⟩⟩ ?_ ?_
      · rintro j k x y hk ⟨rfl, c2, rfl, hc2⟩ hj
        refine Ok.r r22 (Ok.bF (nI_ge hk (by omega)) (Ok.j1 (Ok.j1 ?_)))
        rw [nI_1]
        refine Ok.bI bI_0 (fun z => ?_) (fun z => ?_)
        · refine hj _ _ ⟨rfl, false, rfl, ⟨(fun q => by cases q), fun q => ?_⟩⟩
          have := hc2.mpr ⟨q.1, fun r hr => q.2 r (by omega)⟩
          rw [z] at this; cases this
        · have z' := hc2.mp (by simpa using z)
          have e4 : (4 : Int32) * nI k = nI (4 * k) := by rw [show (4 : Int32) = nI 4 from rfl, pk_mul]
          rw [e4, show nI (4 * k) + 0 = nI (4 * k) from by rw [show (0 : Int32) = nI 0 from rfl, nI_add]; rfl, nI_1]
          refine Ok.r (nr_20 hv) (Ok.r (r20 _ (by omega)) (Ok.r (nr_17 hv) (Ok.r (r17 0 (by omega)) (Ok.b (fun z2 => ?_) (fun z2 => ?_)))))
          · exact hj _ _ ⟨rfl, false, rfl, ⟨(fun q => by cases q), fun q => absurd z2 (q.2 k (by omega)).1⟩⟩
          · refine Ok.r (nr_20 hv) (Ok.r (r20 _ (by omega)) (Ok.r (nr_17 hv) (Ok.r (r17 1 (by omega)) (Ok.b (fun z3 => ?_) (fun z3 => ?_)))))
            · exact hj _ _ ⟨rfl, false, rfl, ⟨(fun q => by cases q), fun q => absurd (q.2 k (by omega)).2 (Int32.not_lt.mpr z3)⟩⟩
            · refine hj _ _ ⟨rfl, true, rfl, ⟨fun _ => ⟨z'.1, fun r hr => ?_⟩, fun _ => rfl⟩⟩
              by_cases e : r = k
              · rw [e]; exact ⟨z2, Int32.not_le.mp z3⟩
              · exact z'.2 r (by omega)
      · rintro j x y ⟨rfl, c2, rfl, hc2⟩
        refine Ok.r r22 (Ok.bT (nI_le (Nat.le_refl _) (by omega)) (Ok.bT (bI_01 c2) (Ok.p ⟨?_, rfl⟩)))
        have e : c2 = fitL s := by
          apply Bool.eq_iff_iff.mpr
          unfold fitL
          rw [decide_eq_true_iff, hc2, hc, hb, ← wide]
          exact ⟨fun q => ⟨q.1.1.1, q.1.1.2, q.1.2, q.2⟩, fun q => ⟨⟨⟨q.1, q.2.1⟩, q.2.2.1⟩, q.2.2.2⟩⟩
        rw [e]
  refine Ok.bI (show nI s.2.1 ≤ 0 ↔ s.2.1 ≤ 0 from nI_leI (b := 0) (by omega) (by omega)) (fun z => ?_) (fun z => ?_)
  · exact fin false ⟨(fun q => by cases q), fun q => absurd (Nat.le_zero.mp z) q.1⟩
  · refine Ok.r r21 (Ok.r (nr_17 hv) (Ok.r (r17 1 (by omega)) (Ok.b (fun z2 => ?_) (fun z2 => ?_))))
    · exact fin false ⟨(fun q => by cases q), fun q => absurd z2 q.2⟩
    · exact fin true ⟨fun _ => ⟨by omega, z2⟩, fun _ => rfl⟩
end
