/-! A LAND taken: the reference -/
section
variable {M : Mfg} {J : Nat → Int32} {Q : Nat → Nat → Int32} {dr : Int64} {a : Abs} {σ : St}
set_option maxHeartbeats 2000000 in
theorem m_takeLand (h : MV M J Q dr σ) (hm : MR J Q a) {s : Lay} (hx : XM s J Q) (hR : LayR s) (hF : fitL s = true) (h2 : J 2 = 0) (ht : a.1.1 = 0) : Ok (fX10_takeLand σ (M.1 0)) (fun r t => r = nI (qC (scnL s)) ∧ MA M dr (landN a s) t) := by
  have ok := scnL_ok hR hF
  have c30 := ok.c30
  obtain ⟨x1, x2, x3, x4, x5, _⟩ := hx
  obtain ⟨⟨b1, b2, b3⟩, _, k1, k2, k3, k4⟩ := hR
  obtain ⟨⟨w0, w1, w2⟩, ⟨r0, r1, r2⟩, ⟨c0, c1, c2⟩, ⟨f0, f1, f2⟩⟩ := rng0 k1
  have eC : qC (scnL s) = nOf (s.2.2.2.2.1 0) * nOf (s.2.2.2.2.1 1) := rfl
  have eG : ∀ i, qG (scnL s) i = nOf (s.2.2.2.2.2.2 (6 * (i / nOf (s.2.2.2.2.1 0)) + i % nOf (s.2.2.2.2.1 0))) := fun _ => rfl
  have eP : ∀ t, qP (scnL s) t = nOf (s.2.2.2.2.2.1 (4 * t + 1)) * nOf (s.2.2.2.2.1 0) + nOf (s.2.2.2.2.2.1 (4 * t)) := fun _ => rfl
  have tw : ∀ t, t < s.2.1 → s.2.2.2.2.2.1 (4 * t) = nI (nOf (s.2.2.2.2.2.1 (4 * t))) ∧ s.2.2.2.2.2.1 (4 * t + 1) = nI (nOf (s.2.2.2.2.2.1 (4 * t + 1))) ∧ s.2.2.2.2.2.1 (4 * t + 2) = nI (nOf (s.2.2.2.2.2.1 (4 * t + 2))) ∧ s.2.2.2.2.2.1 (4 * t + 3) = nI (nOf (s.2.2.2.2.2.1 (4 * t + 3))) ∧ nOf (s.2.2.2.2.2.1 (4 * t)) ≤ 5 ∧ nOf (s.2.2.2.2.2.1 (4 * t + 1)) ≤ 4 := by
    intro t ht
    obtain ⟨⟨p0, _, p2⟩, ⟨q0, _, q2⟩, ⟨m0, _, m2⟩, ⟨l0, _, l2⟩⟩ := rng1 (k2 t ht)
    exact ⟨p0, q0, m0, l0, p2, q2⟩
  generalize hW : nOf (s.2.2.2.2.1 0) = W at *
  generalize hH : nOf (s.2.2.2.2.1 1) = H at *
  have hWH : W * H ≤ 30 := by rw [← eC]; exact c30.1
  unfold fX10_takeLand
  refine Ok.r ((nr_22 h).trans (congrArg some x2)) (Ok.w (h.putI 27 (nI s.2.1) (by decide) (fun _ => rfl) (Nat.le_of_ble_eq_true rfl) (fun _ => rfl)) ?_)
  intro t1 v1
  refine Ok.f2 4 0 (fun k x t => x = nI k ∧ ∃ Q', MV M (upd J 27 (nI s.2.1)) Q' dr t ∧ (∀ j, j ≠ 23 → Q' j = Q j) ∧ ∀ i, i < k → Q' 23 i = s.2.2.2.2.1 i) (by omega) (by omega) ⟨rfl, Q, v1, fun _ _ => rfl, fun i hi => by omega⟩ ?_ ?_
  · rintro j k x t hk ⟨rfl, Q', hv, hj, hg⟩ go
    refine Ok.bF (nI_ge hk (by decide)) (Ok.r (nr_23 hv) (Ok.r (nr_17 hv) (Ok.r (na_17 hv hk) (Ok.w (hv.putN 23 k _ rfl rfl (fun _ => rfl) hk (by decide)) ?_))))
    intro t2 v2
    rw [nI_1]
    refine go _ _ ⟨rfl, _, v2, fun j hj' => (updR_n _ _ hj').trans (hj j hj'), fun i hi => ?_⟩
    rw [updR_s]
    by_cases q : i = k
    · subst q; rw [pk_us, hj 17 (by decide)]; exact x3 i hk
    · rw [pk_un q]; exact hg i (by omega)
  rintro j x t ⟨rfl, Q1, hv1, hj1, hg1⟩
  refine Ok.bT (by decide) (Ok.r (nr_23 hv1) (Ok.r ((na_23 hv1 (i := 0) (by decide)).trans (congrArg some ((hg1 0 (by decide)).trans w0))) (Ok.r (nr_23 hv1) (Ok.r ((na_23 hv1 (i := 1) (by decide)).trans (congrArg some ((hg1 1 (by decide)).trans r0))) ?_))))
  rw [pk_mul]
  refine Ok.w (hv1.putI 26 (nI (W * H)) (by decide) (fun _ => rfl) (Nat.le_of_ble_eq_true rfl) (fun _ => rfl)) ?_
  intro t2 v2
  generalize hJ2 : upd (upd J 27 (nI s.2.1)) 26 (nI (W * H)) = J2 at v2
  have j2 : ∀ k, k ≠ 26 → k ≠ 27 → J2 k = J k := fun k q1 q2 => by rw [← hJ2, pk_un q1, pk_un q2]
  have j26 : J2 26 = nI (W * H) := by rw [← hJ2]; exact pk_us
  have j27 : J2 27 = nI s.2.1 := by rw [← hJ2, pk_un (by decide)]; exact pk_us
  -- the towers as told
  refine Ok.f2 16 0 (fun k x t => x = nI k ∧ ∃ Q', MV M J2 Q' dr t ∧ (∀ j, j ≠ 23 → j ≠ 25 → Q' j = Q j) ∧ (∀ i, i < 4 → Q' 23 i = s.2.2.2.2.1 i) ∧ ∀ i, i < k → i < 4 * s.2.1 → Q' 25 i = s.2.2.2.2.2.1 i) (by omega) (by omega) ⟨rfl, Q1, v2, fun j q _ => hj1 j q, hg1, fun i hi => by omega⟩ ?_ ?_
  · rintro j k x t hk ⟨rfl, Q', hv, hj, hg, hu⟩ go
    refine Ok.bF (nI_ge hk (by decide)) (Ok.r (nr_25 hv) (Ok.r (nr_20 hv) (Ok.r (na_20 hv hk) (Ok.w (hv.putN 25 k _ rfl rfl (fun _ => rfl) hk (by decide)) ?_))))
    intro t3 v3
    rw [nI_1]
    refine go _ _ ⟨rfl, _, v3, fun j hj1 hj2 => (updR_n _ _ hj2).trans (hj j hj1 hj2), fun i hi => ?_, fun i hi hi4 => ?_⟩
    · rw [updR_n _ _ (by decide)]; exact hg i hi
    · rw [updR_s]
      by_cases q : i = k
      · subst q; rw [pk_us, hj 20 (by decide) (by decide)]; exact x4 i hi4
      · rw [pk_un q]; exact hu i (by omega) hi4
  rintro j x t ⟨rfl, Q3, hv3, hj3, hg3, hu3⟩
  refine Ok.bT (by decide) ?_
  -- all is 0
  refine Ok.f2 223 0 (fun k x t => x = nI k ∧ ∃ Q', MV M J2 Q' dr t ∧ (∀ j, j ≠ 23 → j ≠ 25 → j ≠ 28 → Q' j = Q j) ∧ (∀ i, i < 4 → Q' 23 i = s.2.2.2.2.1 i) ∧ (∀ i, i < 4 * s.2.1 → Q' 25 i = s.2.2.2.2.2.1 i) ∧ ∀ i, i < k → Q' 28 i = 0) (by omega) (by omega) ⟨rfl, Q3, hv3, fun j q1 q2 _ => hj3 j q1 q2, hg3, fun i hi => hu3 i (by omega) hi, fun i hi => by omega⟩ ?_ ?_
  · rintro j k x t hk ⟨rfl, Q', hv, hj, hg, hu, hz⟩ go
    refine Ok.bF (nI_ge hk (by decide)) (Ok.r (nr_28 hv) (Ok.w (hv.putN 28 k _ rfl rfl (fun _ => rfl) hk (by decide)) ?_))
    intro t4 v4
    rw [nI_1]
    refine go _ _ ⟨rfl, _, v4, fun j q1 q2 q3 => (updR_n _ _ q3).trans (hj j q1 q2 q3), fun i hi => ?_, fun i hi => ?_, fun i hi => ?_⟩
    · rw [updR_n _ _ (by decide)]; exact hg i hi
    · rw [updR_n _ _ (by decide)]; exact hu i hi
    · rw [updR_s]
      by_cases q : i = k
      · subst q; exact pk_us
      · rw [pk_un q]; exact hz i (by omega)
  rintro j x t ⟨rfl, Q4, hv4, hj4, hg4, hu4, hz4⟩
  refine Ok.bT (by decide) ?_
  -- the heights
  refine Ok.f2 30 0 (fun k x t => x = nI k ∧ ∃ Q', MV M J2 Q' dr t ∧ (∀ j, j ≠ 23 → j ≠ 24 → j ≠ 25 → j ≠ 28 → Q' j = Q j) ∧ (∀ i, i < 4 → Q' 23 i = s.2.2.2.2.1 i) ∧ (∀ i, i < 4 * s.2.1 → Q' 25 i = s.2.2.2.2.2.1 i) ∧ (∀ i, 30 ≤ i → i < 223 → Q' 28 i = 0) ∧ ∀ i, i < k → i < W * H → Q' 24 i = nI (qG (scnL s) i) ∧ Q' 28 i = nI (qG (scnL s) i)) (by omega) (by omega) ⟨rfl, Q4, hv4, fun j q1 _ q2 q3 => hj4 j q1 q2 q3, hg4, hu4, fun i _ hi => hz4 i hi, fun i hi => by omega⟩ ?_ ?_
  · rintro j k x t hk ⟨rfl, Q', hv, hj, hg, hu, hz, hh⟩ go
    have rW : aI 0 t (M.1 23) 0 = some (nI W) := (na_23 hv (i := 0) (by decide)).trans (congrArg some ((hg 0 (by decide)).trans w0))
    have W0 : ¬ nI W = 0 := nI_ne0 (by omega) (by omega)
    have dv : nI k / nI W = nI (k / W) := pk_div (by omega) (by omega) (by omega)
    have rest : ∀ (v : Int32), (k < W * H → v = nI (qG (scnL s) k)) → Ok ((sI 0 t (M.1 24) (nI k) v).bind (fun t53 =>
              (gR 10 28 t53 (M.1 0)).bind fun a54 =>
              (gR 10 24 t53 (M.1 0)).bind fun a55 =>
              (aI 0 t53 a55 (nI k)).bind fun x56 =>
              (sI 0 t53 a54 (0 + nI k) x56).bind (fun t57 =>
              j (nI k + 1) t57))) (fun r t => r = nI (qC (scnL s)) ∧ MA M dr (landN a s) t) := by
      intro v hvv
      refine Ok.w (hv.putN 24 k v rfl rfl (fun _ => rfl) hk (by decide)) ?_
      intro t5 v5
      refine Ok.r (nr_28 v5) (Ok.r (nr_24 v5) (Ok.r (na_24 v5 hk) ?_))
      rw [updR_s, pk_us, Int32.zero_add]
      refine Ok.w (v5.putN 28 k v rfl rfl (fun _ => rfl) (by omega) (by decide)) ?_
      intro t6 v6
      rw [nI_1]
      refine go _ _ ⟨rfl, _, v6, fun j q1 q2 q3 q4 => ?_, fun i hi => ?_, fun i hi => ?_, fun i h30 hi => ?_, fun i hi hc => ?_⟩
      · rw [updR_n _ _ q4, updR_n _ _ q2]; exact hj j q1 q2 q3 q4
      · rw [updR_n _ _ (by decide), updR_n _ _ (by decide)]; exact hg i hi
      · rw [updR_n _ _ (by decide), updR_n _ _ (by decide)]; exact hu i hi
      · rw [updR_s, pk_un (by omega), updR_n _ _ (by decide)]; exact hz i h30 hi
      · rw [updR_n _ _ (show (24 : Nat) ≠ 28 by decide), updR_s, updR_s, updR_n _ _ (show (28 : Nat) ≠ 24 by decide)]
        by_cases q : i = k
        · subst q; rw [pk_us, pk_us]; exact ⟨hvv hc, hvv hc⟩
        · rw [pk_un q, pk_un q]; exact hh i (by omega) hc
    refine Ok.bF (nI_ge hk (by decide)) (Ok.r ((nr_26 hv).trans (congrArg some j26)) (Ok.j1 (Ok.j1 (Ok.bI (nI_leI (by omega) (by omega)) (fun z => ?_) (fun z => ?_)))))
    · refine Ok.r (nr_24 hv) (Ok.j3 (Ok.bT rfl (rest 0 (fun q => by omega))))
    · have hkc : k < W * H := by omega
      have hkH : k / W < H := Nat.div_lt_of_lt_mul hkc
      have hm : k % W < W := Nat.mod_lt _ (by omega)
      refine Ok.r (nr_23 hv) (Ok.r rW (Ok.bF W0 (Ok.r ((nr_21 hv).trans (congrArg some ((j2 21 (by decide) (by decide)).trans x1))) ?_)))
      rw [dv]
      refine Ok.bI (nI_leI (by omega) (by omega)) (fun z2 => ?_) (fun z2 => ?_)
      · refine Ok.r (nr_24 hv) (Ok.j3 (Ok.bT rfl (rest 0 (fun _ => ?_))))
        rw [eG, k4 _ (by omega)]
        rfl
      · refine Ok.r (nr_24 hv) (Ok.j3 (Ok.bF (by decide) (Ok.r (nr_18 hv) (Ok.r (nr_23 hv) (Ok.r rW (Ok.bF W0 (Ok.r (nr_23 hv) (Ok.r rW (Ok.bF W0 ?_)))))))))
        have eM : nI k - nI k / nI W * nI W = nI (k % W) := pk_rem (d := W) (by omega) (by omega) (by omega)
        rw [eM, dv, show (6 * nI (k / W)) + nI (k % W) = nI (6 * (k / W) + k % W) from by rw [show (6 : Int32) = nI 6 from rfl, pk_mul, nI_add]]
        refine Ok.r (na_18 hv (by omega)) ?_
        rw [hj 18 (by decide) (by decide) (by decide) (by decide), x5 _ (by omega)]
        refine rest _ (fun _ => ?_)
        rw [eG]
        obtain ⟨m, hm9, em⟩ := k3 (6 * (k / W) + k % W)
        rw [em, nOf_nI (by omega)]
  rintro j x t ⟨rfl, Q5, hv5, hj5, hg5, hu5, hz5, hh5⟩
  refine Ok.bT (by decide) ?_
  -- where the towers are
  refine Ok.f2 s.2.1 0 (fun k x t => x = nI k ∧ ∃ Q', MV M J2 Q' dr t ∧ (∀ j, j ≠ 23 → j ≠ 24 → j ≠ 25 → j ≠ 28 → Q' j = Q j) ∧ (∀ i, i < 4 → Q' 23 i = s.2.2.2.2.1 i) ∧ (∀ i, i < 4 * s.2.1 → Q' 25 i = s.2.2.2.2.2.1 i) ∧ (∀ i, 38 ≤ i → i < 223 → Q' 28 i = 0) ∧ (∀ i, i < W * H → Q' 24 i = nI (qG (scnL s) i) ∧ Q' 28 i = nI (qG (scnL s) i)) ∧ ∀ t, t < k → Q' 28 (30 + t) = nI (qP (scnL s) t) ∧ Q' 28 (34 + t) = nI (qM (scnL s) t)) (by omega) (by omega) ⟨rfl, Q5, hv5, hj5, hg5, hu5, fun i h38 hi => hz5 i (by omega) hi, fun i hi => hh5 i (by omega) hi, fun t ht => by omega⟩ ?_ ?_
  · rintro j k x t hk ⟨rfl, Q', hv, hj, hg, hu, hz, hh, hp⟩ go
    obtain ⟨p0, q0, m0, l0, p5, q4⟩ := tw k hk
    have rW : aI 0 t (M.1 23) 0 = some (nI W) := (na_23 hv (i := 0) (by decide)).trans (congrArg some ((hg 0 (by decide)).trans w0))
    have e1 : (4 * nI k) + 1 = nI (4 * k + 1) := by rw [show (4 : Int32) = nI 4 from rfl, pk_mul, nI_1]
    have e0 : (4 * nI k) + 0 = nI (4 * k) := by rw [show (4 : Int32) = nI 4 from rfl, pk_mul]; exact Int32.add_zero _
    have e2 : (4 * nI k) + 2 = nI (4 * k + 2) := by rw [show (4 : Int32) = nI 4 from rfl, pk_mul]; exact nI_add _ 2
    have spot : fX10_firstSpot t (M.1 0) (nI k) = some (nI (qP (scnL s) k), t) := by
      refine Ok.toE ?_
      unfold fX10_firstSpot
      rw [e1, e0]
      refine Ok.r (nr_23 hv) (Ok.r rW (Ok.r (nr_25 hv) (Ok.r ((na_25 hv (by omega)).trans (congrArg some ((hu _ (by omega)).trans q0))) (Ok.r (nr_25 hv) (Ok.r ((na_25 hv (by omega)).trans (congrArg some ((hu _ (by omega)).trans p0))) (Ok.p ⟨?_, rfl⟩))))))
      rw [pk_mul, nI_add, eP, Nat.mul_comm W]
    refine Ok.r ((nr_27 hv).trans (congrArg some j27)) (Ok.bF (nI_ge hk (by omega)) (Ok.r (nr_28 hv) (Ok.vE (nO hv) spot ?_)))
    rw [show (30 : Int32) + nI k = nI (30 + k) from nI_add 30 k, show (34 : Int32) + nI k = nI (34 + k) from nI_add 34 k]
    refine Ok.w (hv.putN 28 (30 + k) _ rfl rfl (fun _ => rfl) (by omega) (by decide)) ?_
    intro t6 v6
    rw [e2]
    refine Ok.r (nr_28 v6) (Ok.r (nr_25 v6) (Ok.r (na_25 v6 (by omega)) ?_))
    rw [updR_n _ _ (show (25 : Nat) ≠ 28 by decide), hu _ (show 4 * k + 2 < 4 * s.2.1 by omega)]
    refine Ok.w (v6.putN 28 (34 + k) _ rfl rfl (fun _ => rfl) (by omega) (by decide)) ?_
    intro t7 v7
    rw [nI_1]
    refine go _ _ ⟨rfl, _, v7, fun j q1 q2 q3 q4 => ?_, fun i hi => ?_, fun i hi => ?_, fun i h38 hi => ?_, fun i hi => ?_, fun t' ht' => ?_⟩
    · rw [updR_n _ _ q4, updR_n _ _ q4]; exact hj j q1 q2 q3 q4
    · rw [updR_n _ _ (by decide), updR_n _ _ (by decide)]; exact hg i hi
    · rw [updR_n _ _ (by decide), updR_n _ _ (by decide)]; exact hu i hi
    · rw [updR_s, pk_un (by omega), updR_s, pk_un (by omega)]; exact hz i h38 hi
    · rw [updR_n _ _ (show (24 : Nat) ≠ 28 by decide), updR_n _ _ (show (24 : Nat) ≠ 28 by decide), updR_s, pk_un (by omega), updR_s, pk_un (by omega)]; exact hh i hi
    · rw [updR_s, updR_s]
      by_cases q : t' = k
      · subst q
        rw [pk_un (by omega), pk_us, pk_us]
        exact ⟨rfl, m0⟩
      · rw [pk_un (by omega), pk_un (by omega), pk_un (by omega), pk_un (by omega)]
        exact hp t' (by omega)
  rintro j x t ⟨rfl, Q6, hv6, hj6, hg6, hu6, hz6, hh6, hp6⟩
  refine Ok.r ((nr_27 hv6).trans (congrArg some j27)) (Ok.bT (nI_le (Nat.le_refl _) (by omega)) (Ok.r (nr_28 hv6) (Ok.r (nr_23 hv6) (Ok.r ((na_23 hv6 (i := 3) (by decide)).trans (congrArg some (hg6 3 (by decide)))) (Ok.w (hv6.putN 28 39 _ rfl rfl (fun _ => rfl) (by decide) (by decide)) ?_)))))
  intro t7 v7
  have g7 : aI 0 t7 (M.1 23) 2 = some (s.2.2.2.2.1 2) := (na_23 v7 (i := 2) (by decide)).trans (congrArg some (by rw [updR_n _ _ (by decide)]; exact hg6 2 (by decide)))
  refine Ok.r (nr_28 v7) (Ok.r (nr_23 v7) (Ok.r g7 (Ok.w (v7.putN 28 40 _ rfl rfl (fun _ => rfl) (by decide) (by decide)) ?_)))
  intro t8 v8
  refine Ok.w (v8.putI 40 0 (by decide) (fun _ => rfl) (Nat.le_of_ble_eq_true rfl) (fun _ => rfl)) ?_
  intro t9 v9
  refine Ok.w (v9.putI 43 0 (by decide) (fun _ => rfl) (Nat.le_of_ble_eq_true rfl) (fun _ => rfl)) ?_
  intro t10 v10
  refine Ok.w (v10.putI 33 0 (by decide) (fun _ => rfl) (Nat.le_of_ble_eq_true rfl) (fun _ => rfl)) ?_
  intro t11 v11
  refine Ok.bT rfl (Ok.w (v11.putI 45 0 (by decide) (fun _ => rfl) (Nat.le_of_ble_eq_true rfl) (fun _ => rfl)) ?_)
  intro t12 v12
  generalize hJ8 : upd (upd (upd (upd J2 40 0) 43 0) 33 0) 45 0 = J8 at v12
  generalize hQ8 : updR (updR Q6 28 (upd (Q6 28) 39 (s.2.2.2.2.1 3))) 28 (upd (updR Q6 28 (upd (Q6 28) 39 (s.2.2.2.2.1 3)) 28) 40 (s.2.2.2.2.1 2)) = Q8 at v12
  have j8 : ∀ k, k ≠ 40 ∧ k ≠ 43 ∧ k ≠ 33 ∧ k ≠ 45 → J8 k = J2 k := fun k q => by rw [← hJ8, pk_un q.2.2.2, pk_un q.2.2.1, pk_un q.2.1, pk_un q.1]
  have q8 : ∀ k, k ≠ 28 → Q8 k = Q6 k := fun k q => by rw [← hQ8, updR_n _ _ q, updR_n _ _ q]
  have q28 : ∀ i, Q8 28 i = if i = 40 then s.2.2.2.2.1 2 else if i = 39 then s.2.2.2.2.1 3 else Q6 28 i := fun i => by rw [← hQ8, updR_s, updR_s]; rfl
  refine Ok.r ((nr_26 v12).trans (congrArg some ((j8 26 (by decide)).trans j26))) (Ok.p ⟨by rw [eC], J8, Q8, v12, ?_⟩)
  have jj : ∀ k, k ≠ 40 ∧ k ≠ 43 ∧ k ≠ 33 ∧ k ≠ 45 → k ≠ 26 → k ≠ 27 → J8 k = J k := fun k q1 q2 q3 => (j8 k q1).trans (j2 k q2 q3)
  have qq : ∀ k, k ≠ 23 → k ≠ 24 → k ≠ 25 → k ≠ 28 → Q8 k = Q k := fun k a1 a2 a3 a4 => (q8 k a4).trans (hj6 k a1 a2 a3 a4)
  obtain ⟨n1, n2, n3, _⟩ := hm
  have e25 : ∀ i, i < 4 * s.2.1 → Q8 25 i = s.2.2.2.2.2.1 i := fun i hi => by rw [q8 25 (by decide)]; exact hu6 i hi
  refine ⟨⟨?_, by show (0 : Nat) ≤ 240; omega, fun i hi => absurd hi (Nat.not_lt_zero i)⟩, n2.fr (jj 13 (by decide) (by decide) (by decide)) (jj 30 (by decide) (by decide) (by decide)) (fun k q1 q2 => qq k (by omega) (by omega) (by omega) (by omega)), n3.fr (jj 31 (by decide) (by decide) (by decide)) (qq 29 (by decide) (by decide) (by decide) (by decide)), ⟨⟨?_, ?_, fun _ => ⟨?_, ?_⟩, fun t ht => ?_⟩, ?_⟩, ⟨fun i hi => ?_, ?_, fun t ht => ?_⟩, ⟨?_, by show (0 : Nat) ≤ 40; omega, fun j e q => by have q' : ([] : List Snp)[j]? = some e := q; simp at q'⟩, Or.inl ⟨rfl, ?_⟩, ⟨?_, by show (0 : Nat) ≤ 10; omega, fun k hk => absurd hk (Nat.not_lt_zero k)⟩, ⟨?_, by show (0 : Nat) ≤ 10; omega, fun k hk => absurd hk (Nat.not_lt_zero k)⟩⟩
  · exact (jj 2 (by decide) (by decide) (by decide)).trans h2
  · rw [j8 26 (by decide), j26]
    show nI (W * H) = nI (nOf (s.2.2.2.2.1 0) * nOf (s.2.2.2.2.1 1))
    rw [hW, hH]
  · rw [j8 27 (by decide), j27]; rfl
  · rw [q8 23 (by decide), hg6 0 (by decide), w0]
    show nI W = nI (nOf (s.2.2.2.2.1 0))
    rw [hW]
  · rw [q8 23 (by decide), hg6 1 (by decide), r0]
    show nI H = nI (nOf (s.2.2.2.2.1 1))
    rw [hH]
  · have ht' : t < s.2.1 := ht
    rw [e25 _ (by omega)]
    exact (tw t ht').2.2.2.1
  · refine ⟨fun i hi => ?_, fun t ht => ⟨?_, ?_⟩, ?_, ?_, ?_, ?_, ?_, fun i x q => by have q' : ([] : List Ent)[i]? = some x := q; simp at q'⟩
    · have hi' : i < nOf (s.2.2.2.2.1 0) * nOf (s.2.2.2.2.1 1) := hi
      rw [hW, hH] at hi'
      rw [Nat.zero_add, q28, if_neg (by omega), if_neg (by omega)]
      exact (hh6 i hi').2
    · have ht' : t < s.2.1 := ht
      rw [Nat.zero_add, q28, if_neg (by omega), if_neg (by omega)]
      exact (hp6 t ht').1
    · have ht' : t < s.2.1 := ht
      rw [Nat.zero_add, q28, if_neg (by omega), if_neg (by omega)]
      exact (hp6 t ht').2
    · rw [q28, if_neg (by decide), if_neg (by decide)]; exact hz6 38 (by decide) (by decide)
    · rw [q28, if_neg (by decide), if_pos rfl]; exact f0
    · rw [q28, if_pos rfl]; exact c0
    · rw [q28, if_neg (by decide), if_neg (by decide)]; exact hz6 41 (by decide) (by decide)
    · rw [q28, if_neg (by decide), if_neg (by decide)]; exact hz6 42 (by decide) (by decide)
  · have hi' : i < nOf (s.2.2.2.2.1 0) * nOf (s.2.2.2.2.1 1) := hi
    rw [hW, hH] at hi'
    rw [q8 24 (by decide)]
    exact (hh6 i hi').1
  · rw [q8 23 (by decide), hg6 3 (by decide)]; exact f0
  · have ht' : t < s.2.1 := ht
    obtain ⟨p0, q0, m0, l0, p5, q4⟩ := tw t ht'
    refine ⟨nOf (s.2.2.2.2.2.1 (4 * t)), nOf (s.2.2.2.2.2.1 (4 * t + 1)), by omega, by omega, ?_, ?_, ?_, ?_⟩
    · rw [e25 _ (by omega)]; exact p0
    · rw [e25 _ (by omega)]; exact q0
    · show nOf (s.2.2.2.2.2.1 (4 * t + 1)) * nOf (s.2.2.2.2.1 0) + nOf (s.2.2.2.2.2.1 (4 * t)) = nOf (s.2.2.2.2.1 0) * nOf (s.2.2.2.2.2.1 (4 * t + 1)) + nOf (s.2.2.2.2.2.1 (4 * t))
      rw [Nat.mul_comm]
    · rw [e25 _ (by omega)]; exact m0
  · rw [← hJ8, pk_un (by decide)]; exact pk_us
  · rw [← hJ8]; exact pk_us
  · rw [← hJ8, pk_un (by decide), pk_un (by decide), pk_un (by decide)]; exact pk_us
  · rw [← hJ8, pk_un (by decide), pk_un (by decide)]; exact pk_us
theorem m_text0 (h : MA M dr a σ) : Ok (fX10_text σ (M.1 0) 0) (fun r t => ((landT a.1).2 ≠ none → r = -1 ∧ MA M dr a t) ∧ ((landT a.1).2 = none → r = nI (qC (scnL (landT a.1).1)) ∧ MA M dr (landN a (landT a.1).1) t)) := by
  have h240 : a.1.1 ≤ 240 := by
    obtain ⟨J, Q, h1, h2⟩ := h
    exact h2.1.2.1
  unfold fX10_text
  refine Ok.j1 (Ok.bT rfl (Ok.v (ma_O h) (u_land h) ?_))
  rintro r1 t1 ⟨rfl, g1, g2⟩
  refine Ok.bI (land_m1 h240) (fun z => ?_) (fun z => Ok.bF (by decide) (Ok.p ⟨fun _ => ⟨rfl, g1⟩, fun q => absurd q z⟩))
  obtain ⟨hR, hF⟩ := land_R z
  obtain ⟨_, p, J, Q, v1, m1, x1, _⟩ := g2 z
  refine Ok.w (v1.putI 2 0 (by decide) (fun _ => rfl) (Nat.le_of_ble_eq_true rfl) (fun _ => rfl)) ?_
  intro t2 v2
  have m2 : MR (upd J 2 0) Q ((0, a.1.2), a.2) := by
    obtain ⟨h1, h2, h3, ⟨h4, h5⟩, h6, h7, h8, h9, h10⟩ := m1
    have hn : ∀ k, k ≠ 2 → upd J 2 0 k = J k := fun k q => pk_un q
    exact ⟨⟨pk_us, by show (0 : Nat) ≤ 240; omega, fun i hi => absurd hi (Nat.not_lt_zero i)⟩, h2.fr (hn _ (by decide)) (hn _ (by decide)) (fun _ _ _ => rfl), h3.fr (hn _ (by decide)) rfl, ⟨h4.fr (hn _ (by decide)) (hn _ (by decide)) rfl rfl, h5⟩, h6, h7.fr (hn _ (by decide)) rfl, h8.fr (hn _ (by decide)) rfl, h9.fr (hn _ (by decide)) rfl rfl rfl, h10.fr (hn _ (by decide)) rfl rfl⟩
  have x2 : XM (landT a.1).1 (upd J 2 0) Q := by
    obtain ⟨y1, y2, y3⟩ := x1
    exact ⟨by rw [pk_un (by decide)]; exact y1, by rw [pk_un (by decide)]; exact y2, y3⟩
  refine Ok.v (nO v2) (m_takeLand v2 m2 x2 hR hF pk_us rfl) ?_
  rintro r3 t3 ⟨rfl, g3⟩
  exact Ok.p ⟨fun q => absurd z q, fun _ => ⟨rfl, g3⟩⟩
end
