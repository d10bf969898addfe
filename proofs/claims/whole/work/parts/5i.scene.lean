/-! The scene of a LAND that was read -/
def nOf (x : Int32) : Nat := x.toInt.toNat
theorem nOf_r {x : Int32} {lo hi : Nat} (h1 : ¬ x < nI lo) (h2 : ¬ nI hi < x) (hh : hi < 1000) (hl : lo < 1000) : x = nI (nOf x) ∧ lo ≤ nOf x ∧ nOf x ≤ hi := by
  rw [Int32.lt_iff_toInt_lt, nI_toInt (by omega)] at h1 h2
  have e : x.toInt = (nOf x : Int) := by unfold nOf; omega
  refine ⟨?_, by omega, by omega⟩
  apply Int32.toInt_inj.mp
  rw [nI_toInt (by omega), e]
theorem nOf_nI {n : Nat} (h : n < 2 ^ 31) : nOf (nI n) = n := by
  unfold nOf; rw [nI_toInt h]; omega
/-- wide, rows, cells, towers, fog, coins, hour, broken, logged; ground; places; masts; lamps -/
def scnL (s : Lay) : Scn :=
  ((fun f => if f = 0 then nOf (s.2.2.2.2.1 0) else if f = 1 then nOf (s.2.2.2.2.1 1) else if f = 2 then nOf (s.2.2.2.2.1 0) * nOf (s.2.2.2.2.1 1) else if f = 3 then s.2.1 else if f = 4 then nOf (s.2.2.2.2.1 3) else if f = 5 then nOf (s.2.2.2.2.1 2) else 0),
   (fun i => nOf (s.2.2.2.2.2.2 (6 * (i / nOf (s.2.2.2.2.1 0)) + i % nOf (s.2.2.2.2.1 0)))),
   (fun t => nOf (s.2.2.2.2.2.1 (4 * t + 1)) * nOf (s.2.2.2.2.1 0) + nOf (s.2.2.2.2.2.1 (4 * t))),
   (fun t => nOf (s.2.2.2.2.2.1 (4 * t + 2))),
   (fun t => nOf (s.2.2.2.2.2.1 (4 * t + 3))))
theorem rng0 {v : Nat → Int32} (h : rngV 0 v) : (v 0 = nI (nOf (v 0)) ∧ 2 ≤ nOf (v 0) ∧ nOf (v 0) ≤ 6) ∧ (v 1 = nI (nOf (v 1)) ∧ 2 ≤ nOf (v 1) ∧ nOf (v 1) ≤ 5) ∧ (v 2 = nI (nOf (v 2)) ∧ 0 ≤ nOf (v 2) ∧ nOf (v 2) ≤ 99) ∧ (v 3 = nI (nOf (v 3)) ∧ 0 ≤ nOf (v 3) ∧ nOf (v 3) ≤ 9) :=
  ⟨nOf_r (lo := 2) (hi := 6) (h 0 (by decide)).1 (h 0 (by decide)).2 (by decide) (by decide), nOf_r (lo := 2) (hi := 5) (h 1 (by decide)).1 (h 1 (by decide)).2 (by decide) (by decide), nOf_r (lo := 0) (hi := 99) (h 2 (by decide)).1 (h 2 (by decide)).2 (by decide) (by decide), nOf_r (lo := 0) (hi := 9) (h 3 (by decide)).1 (h 3 (by decide)).2 (by decide) (by decide)⟩
theorem rng1 {v : Nat → Int32} (h : rngV 1 v) : (v 0 = nI (nOf (v 0)) ∧ 0 ≤ nOf (v 0) ∧ nOf (v 0) ≤ 5) ∧ (v 1 = nI (nOf (v 1)) ∧ 0 ≤ nOf (v 1) ∧ nOf (v 1) ≤ 4) ∧ (v 2 = nI (nOf (v 2)) ∧ 0 ≤ nOf (v 2) ∧ nOf (v 2) ≤ 9) ∧ (v 3 = nI (nOf (v 3)) ∧ 0 ≤ nOf (v 3) ∧ nOf (v 3) ≤ 9) :=
  ⟨nOf_r (lo := 0) (hi := 5) (h 0 (by decide)).1 (h 0 (by decide)).2 (by decide) (by decide), nOf_r (lo := 0) (hi := 4) (h 1 (by decide)).1 (h 1 (by decide)).2 (by decide) (by decide), nOf_r (lo := 0) (hi := 9) (h 2 (by decide)).1 (h 2 (by decide)).2 (by decide) (by decide), nOf_r (lo := 0) (hi := 9) (h 3 (by decide)).1 (h 3 (by decide)).2 (by decide) (by decide)⟩
theorem scnL_ok {s : Lay} (hR : LayR s) (hF : fitL s = true) : ScOK (scnL s) := by
  obtain ⟨⟨b1, b2, b3⟩, _, h1, h2, h3, h4⟩ := hR
  obtain ⟨⟨w0, w1, w2⟩, ⟨r0, r1, r2⟩, ⟨c0, c1, c2⟩, ⟨f0, f1, f2⟩⟩ := rng0 h1
  have hF' := hF
  unfold fitL at hF'
  obtain ⟨k1, k2, k3, k4⟩ := of_decide_eq_true hF'
  refine ⟨⟨w1, w2⟩, ⟨r1, r2⟩, rfl, ⟨by show 1 ≤ s.2.1; omega, b1⟩, f2, by show nOf (s.2.2.2.2.1 2) ≤ 999; omega, by show (0 : Nat) ≤ 19999; omega, by show (0 : Nat) < 16; omega, fun i hi => ?_, fun t ht => ?_⟩
  · obtain ⟨n, hn, e⟩ := h3 (6 * (i / nOf (s.2.2.2.2.1 0)) + i % nOf (s.2.2.2.2.1 0))
    show nOf (s.2.2.2.2.2.2 (6 * (i / nOf (s.2.2.2.2.1 0)) + i % nOf (s.2.2.2.2.1 0))) ≤ 9
    rw [e, nOf_nI (by omega)]; exact hn
  · obtain ⟨⟨x0, _, x2⟩, ⟨y0, _, y2⟩, ⟨_, _, m2⟩, ⟨_, _, l2⟩⟩ := rng1 (h2 t ht)
    obtain ⟨q1, q2⟩ := k4 t ht
    have x0' : s.2.2.2.2.2.1 (4 * t) = nI (nOf (s.2.2.2.2.2.1 (4 * t))) := x0
    have y0' : s.2.2.2.2.2.1 (4 * t + 1) = nI (nOf (s.2.2.2.2.2.1 (4 * t + 1))) := y0
    have x2' : nOf (s.2.2.2.2.2.1 (4 * t)) ≤ 5 := x2
    have y2' : nOf (s.2.2.2.2.2.1 (4 * t + 1)) ≤ 4 := y2
    rw [x0', w0, nI_leI (by omega) (by omega)] at q1
    rw [y0', r0, nI_ltI (by omega) (by omega)] at q2
    refine ⟨?_, m2, l2⟩
    show nOf (s.2.2.2.2.2.1 (4 * t + 1)) * nOf (s.2.2.2.2.1 0) + nOf (s.2.2.2.2.2.1 (4 * t)) < nOf (s.2.2.2.2.1 0) * nOf (s.2.2.2.2.1 1)
    have := Nat.mul_le_mul_right (nOf (s.2.2.2.2.1 0)) (show nOf (s.2.2.2.2.2.1 (4 * t + 1)) + 1 ≤ nOf (s.2.2.2.2.1 1) by omega)
    rw [Nat.add_mul, Nat.one_mul, Nat.mul_comm (nOf (s.2.2.2.2.1 1))] at this
    omega
