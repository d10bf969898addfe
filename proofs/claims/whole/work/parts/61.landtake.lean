/-! A LAND taken: the class -/
section
variable {K : Cfg} {I : Nat → Int32} {R : Nat → Nat → Int32} {dr : Int64} {a : Abs} {σ : St}
theorem scB17 : scB 17 := Or.inr (Or.inl rfl)
theorem scB11 : scB 11 := Or.inl rfl
set_option maxHeartbeats 1000000 in
theorem c_lay (h : CV K I R dr σ) {s : Lay} (hx : XL s I R) (hR : LayR s) (hF : fitL s = true) : Ok (fX2_lay σ (K.1 3) (K.1 17)) (fun _ t => ∃ I' R', CV K I' R' dr t ∧ ScR I' R' 17 (scnL s) ∧ FrB 17 I I' ∧ FrR 17 R R') := by
  have ok := scnL_ok hR hF
  obtain ⟨x1, x2, x3, x4, x5, x6, x7⟩ := hx
  obtain ⟨⟨b1, b2, b3⟩, _, h1, h2, h3, h4⟩ := hR
  obtain ⟨⟨w0, w1, w2⟩, ⟨r0, r1, r2⟩, ⟨c0, c1, c2⟩, ⟨f0, f1, f2⟩⟩ := rng0 h1
  have eW : (scnL s).1 0 = nOf (s.2.2.2.2.1 0) := rfl
  have eH : (scnL s).1 1 = nOf (s.2.2.2.2.1 1) := rfl
  have r4 : ∀ {J : Nat → Int32} {R0 : Nat → Nat → Int32} {τ : St}, CV K J R0 dr τ → R0 4 = R 4 → ∀ i, i < 4 → aI 0 τ (K.1 4) (nI i) = some (s.2.2.2.2.1 i) := by
    intro J R0 τ hv e i hi
    rw [ka_4 hv hi, e, x5 i hi]
  unfold fX2_lay
  obtain ⟨t1, e1, v1⟩ := v_begin h scB17 (s.2.2.2.2.1 0) (s.2.2.2.2.1 1) (nI s.2.1)
  refine Ok.r (kr_3_1 h) (Ok.r (r4 h rfl 0 (by decide)) (Ok.r (kr_3_1 h) (Ok.r (r4 h rfl 1 (by decide)) (Ok.r ((kr_3_5 h).trans (congrArg some x2)) (Ok.vE (g_O h scB17) e1 ?_)))))
  refine Ok.r (kr_3_1 v1) (Ok.r (r4 v1 rfl 2 (by decide)) (Ok.w (b_put v1 scB17 5 (s.2.2.2.2.1 2) (by decide)) ?_))
  intro t2 v2
  refine Ok.r (kr_3_1 v2) (Ok.r (r4 v2 rfl 3 (by decide)) (Ok.w (b_put v2 scB17 4 (s.2.2.2.2.1 3) (by decide)) ?_))
  intro t3 v3
  generalize hI3 : upd (upd (upd (upd (upd (upd (upd (upd (upd I (20 * 17 + 0) (s.2.2.2.2.1 0)) (20 * 17 + 1) (s.2.2.2.2.1 1)) (20 * 17 + 2) (s.2.2.2.2.1 0 * s.2.2.2.2.1 1)) (20 * 17 + 3) (nI s.2.1)) (20 * 17 + 6) 0) (20 * 17 + 7) 0) (20 * 17 + 8) 0) (20 * 17 + 5) (s.2.2.2.2.1 2)) (20 * 17 + 4) (s.2.2.2.2.1 3) = I3 at v3
  have hII : (∀ f, f < 9 → I3 (20 * 17 + f) = nI ((scnL s).1 f)) ∧ FrB 17 I I3 := by
    rw [← hI3]
    refine ⟨fun f hf => ?_, fun k hk => ?_⟩
    · match f, hf with
      | 0, _ => simp only [upd_at]; exact w0
      | 1, _ => simp only [upd_at]; exact r0
      | 2, _ =>
        simp only [upd_at]
        show s.2.2.2.2.1 0 * s.2.2.2.2.1 1 = nI (nOf (s.2.2.2.2.1 0) * nOf (s.2.2.2.2.1 1))
        rw [← pk_mul, ← w0, ← r0]
      | 3, _ => simp only [upd_at]; rfl
      | 4, _ => simp only [upd_at]; exact f0
      | 5, _ => simp only [upd_at]; exact c0
      | 6, _ => simp only [upd_at]; rfl
      | 7, _ => simp only [upd_at]; rfl
      | 8, _ => simp only [upd_at]; rfl
      | f + 9, hf => omega
    · simp only [upd_at]
      repeat rw [if_neg (by omega)]
  obtain ⟨hI, hFr⟩ := hII
  have gW : ∀ {τ : St} {R0 : Nat → Nat → Int32}, CV K I3 R0 dr τ → gI 7 0 τ (K.1 17) = some (nI (nOf (s.2.2.2.2.1 0))) := fun hv => (g_fld hv scB17 0 (by decide)).trans (congrArg some (hI 0 (by decide)))
  have gH : ∀ {τ : St} {R0 : Nat → Nat → Int32}, CV K I3 R0 dr τ → gI 7 1 τ (K.1 17) = some (nI (nOf (s.2.2.2.2.1 1))) := fun hv => (g_fld hv scB17 1 (by decide)).trans (congrArg some (hI 1 (by decide)))
  have gT : ∀ {τ : St} {R0 : Nat → Nat → Int32}, CV K I3 R0 dr τ → gI 2 5 τ (K.1 3) = some (nI s.2.1) := fun hv => ((kr_3_5 hv).trans (congrArg some (hFr 65 (by omega)))).trans (congrArg some x2)
  obtain ⟨c1', c2', c3', c4'⟩ := cellC_b K.1 I3 dr (lwOf K.2.1 K.2.2.1) scB17
  generalize hW : nOf (s.2.2.2.2.1 0) = W at *
  generalize hH : nOf (s.2.2.2.2.1 1) = H at *
  refine Ok.f2 H 0 (fun k x t => x = nI k ∧ ∃ R', CV K I3 R' dr t ∧ (∀ j, j ≠ 18 → R' j = R j) ∧ ∀ i, i < k * W → R' 18 i = nI (qG (scnL s) i)) (by omega) (by omega) ⟨rfl, R, v3, fun _ _ => rfl, fun i hi => by rw [Nat.zero_mul] at hi; omega⟩ ?_ ?_
  · rintro j k x t hk ⟨rfl, R', hv, hj, hg⟩ go
    have hkW : k * W + W ≤ 30 := by
      have : (k + 1) * W ≤ 5 * 6 := Nat.mul_le_mul (by omega) w2
      rw [Nat.add_mul, Nat.one_mul] at this
      omega
    refine Ok.r (gH hv) (Ok.bF (nI_ge hk (by omega)) (Ok.r (kr_3_3 hv) (Ok.r (g_row hv scB17 1 (by decide) (by decide)) (Ok.r (gW hv) (Ok.r (gW hv) ?_)))))
    rw [show nI k * 6 = nI (k * 6) from pk_mul k 6, pk_mul]
    refine Ok.w (hv.cpy 6 18 (k * 6) (k * W) W rfl rfl (fun _ => rfl) c1' c2' c3' (by omega) hkW (by decide) (by decide)) ?_
    intro t4 v4
    rw [nI_1]
    refine go _ _ ⟨rfl, _, v4, fun j hj' => (updR_n _ _ hj').trans (hj j hj'), fun i hi => ?_⟩
    rw [updR_s]
    rw [Nat.add_mul, Nat.one_mul] at hi
    by_cases q : i < k * W
    · rw [pk_cpy_out (Or.inl q)]; exact hg i q
    · rw [pk_cpy_in (by omega) (by omega), hj 6 (by decide)]
      obtain ⟨r, er⟩ : ∃ r, i = r + k * W := ⟨i - k * W, by omega⟩
      have hr : r < W := by omega
      subst er
      have ed : (r + k * W) / W = k := by
        rw [Nat.add_mul_div_right _ _ (by omega), Nat.div_eq_of_lt hr]; omega
      have em : (r + k * W) % W = r := by
        rw [Nat.add_mul_mod_self_right, Nat.mod_eq_of_lt hr]
      have eq1 : qG (scnL s) (r + k * W) = nOf (s.2.2.2.2.2.2 (6 * ((r + k * W) / W) + (r + k * W) % W)) := by
        show nOf (s.2.2.2.2.2.2 (6 * ((r + k * W) / nOf (s.2.2.2.2.1 0)) + (r + k * W) % nOf (s.2.2.2.2.1 0))) = _
        rw [hW]
      rw [eq1, ed, em, show k * 6 + (r + k * W - k * W) = 6 * k + r by omega, x7 _ (by omega)]
      obtain ⟨m, hm, em2⟩ := h3 (6 * k + r)
      rw [em2, nOf_nI (by omega)]
  · rintro j x t ⟨rfl, R', hv, hj, hg⟩
    refine Ok.r (gH hv) (Ok.bT (nI_le (Nat.le_refl _) (by omega)) ?_)
    refine Ok.f2 s.2.1 0 (fun k x t => x = nI k ∧ ∃ R', CV K I3 R' dr t ∧ (∀ j, (j < 18 ∨ 22 ≤ j) → R' j = R j) ∧ (∀ i, i < H * W → R' 18 i = nI (qG (scnL s) i)) ∧ ∀ t, t < k → R' 19 t = nI (qP (scnL s) t) ∧ R' 20 t = nI (qM (scnL s) t) ∧ R' 21 t = nI (qA (scnL s) t)) (by omega) (by omega) ⟨rfl, R', hv, fun j q => hj j (by omega), hg, fun t ht => by omega⟩ ?_ ?_
    · rintro j k x t hk ⟨rfl, R', hv, hj, hg, ht⟩ go
      have r5 : ∀ {R0 : Nat → Nat → Int32} {τ : St}, CV K I3 R0 dr τ → R0 5 = R 5 → ∀ i, i < 4 → aI 0 τ (K.1 5) (nI (k * 4 + i)) = some (s.2.2.2.2.2.1 (4 * k + i)) := by
        intro R0 τ hv e i hi
        rw [ka_5 hv (by omega), e, x6 _ (by omega), show k * 4 + i = 4 * k + i by omega]
      obtain ⟨⟨p0, _, p2⟩, ⟨q0, _, q2⟩, ⟨m0, _, m2⟩, ⟨l0, _, l2⟩⟩ := rng1 (h2 k hk)
      have p0' : s.2.2.2.2.2.1 (4 * k) = nI (nOf (s.2.2.2.2.2.1 (4 * k))) := p0
      have e4 : nI k * 4 = nI (k * 4) := pk_mul k 4
      refine Ok.r (gT hv) (Ok.bF (nI_ge hk (by omega)) (Ok.nE e4 ?_))
      rw [show nI (k * 4) + 1 = nI (k * 4 + 1) from nI_add _ 1, show nI (k * 4) + 2 = nI (k * 4 + 2) from nI_add _ 2, show nI (k * 4) + 3 = nI (k * 4 + 3) from nI_add _ 3]
      refine Ok.r (g_row hv scB17 2 (by decide) (by decide)) (Ok.r (kr_3_2 hv) (Ok.r (r5 hv (hj 5 (by omega)) 1 (by decide)) (Ok.r (gW hv) (Ok.r (kr_3_2 hv) (Ok.r (r5 hv (hj 5 (by omega)) 0 (by decide)) ?_)))))
      rw [show s.2.2.2.2.2.1 (4 * k + 1) * nI W + s.2.2.2.2.2.1 (4 * k + 0) = nI (qP (scnL s) k) from by
        show s.2.2.2.2.2.1 (4 * k + 1) * nI W + s.2.2.2.2.2.1 (4 * k) = nI (nOf (s.2.2.2.2.2.1 (4 * k + 1)) * nOf (s.2.2.2.2.1 0) + nOf (s.2.2.2.2.2.1 (4 * k)))
        rw [hW, ← nI_add, ← pk_mul, ← p0', ← q0]]
      refine Ok.w (b_putT hv scB17 2 k _ (by decide) (by decide) (by omega)) ?_
      intro t4 v4
      have n5 : ∀ {g : Nat → Int32} {R0 : Nat → Nat → Int32} {b : Nat}, 18 < b → updR R0 b g 5 = R0 5 := fun hb => updR_n _ _ (by omega)
      refine Ok.r (g_row v4 scB17 3 (by decide) (by decide)) (Ok.r (kr_3_2 v4) (Ok.r (r5 v4 ((n5 (by decide)).trans (hj 5 (by omega))) 2 (by decide)) (Ok.w (b_putT v4 scB17 3 k _ (by decide) (by decide) (by omega)) ?_)))
      intro t5 v5
      refine Ok.r (g_row v5 scB17 4 (by decide) (by decide)) (Ok.r (kr_3_2 v5) (Ok.r (r5 v5 ((n5 (by decide)).trans ((n5 (by decide)).trans (hj 5 (by omega)))) 3 (by decide)) (Ok.w (b_putT v5 scB17 4 k _ (by decide) (by decide) (by omega)) ?_)))
      intro t6 v6
      rw [nI_1]
      refine go _ _ ⟨rfl, _, v6, fun j' hj' => ?_, fun i hi => ?_, fun t' ht' => ?_⟩
      · rw [updR_n _ _ (by omega), updR_n _ _ (by omega), updR_n _ _ (by omega)]; exact hj j' hj'
      · rw [updR_n _ _ (by decide), updR_n _ _ (by decide), updR_n _ _ (by decide)]; exact hg i hi
      · have z19 : ∀ g5 g4 g3, updR (updR (updR R' (17 + 2) g3) (17 + 3) g4) (17 + 4) g5 19 = g3 ∧ updR (updR (updR R' (17 + 2) g3) (17 + 3) g4) (17 + 4) g5 20 = g4 ∧ updR (updR (updR R' (17 + 2) g3) (17 + 3) g4) (17 + 4) g5 21 = g5 := by
          intro g5 g4 g3
          refine ⟨?_, ?_, updR_s _ _ _⟩
          · rw [updR_n _ _ (by decide), updR_n _ _ (by decide)]; exact updR_s _ _ _
          · rw [updR_n _ _ (by decide)]; exact updR_s _ _ _
        obtain ⟨y1, y2, y3⟩ := z19 (upd (updR (updR R' (17 + 2) (upd (R' (17 + 2)) k (nI (qP (scnL s) k)))) (17 + 3) (upd (updR R' (17 + 2) (upd (R' (17 + 2)) k (nI (qP (scnL s) k))) (17 + 3)) k (s.2.2.2.2.2.1 (4 * k + 2))) (17 + 4)) k (s.2.2.2.2.2.1 (4 * k + 3))) (upd (updR R' (17 + 2) (upd (R' (17 + 2)) k (nI (qP (scnL s) k))) (17 + 3)) k (s.2.2.2.2.2.1 (4 * k + 2))) (upd (R' (17 + 2)) k (nI (qP (scnL s) k)))
        rw [y1, y2, y3]
        rw [show updR R' (17 + 2) (upd (R' (17 + 2)) k (nI (qP (scnL s) k))) (17 + 3) = R' 20 from updR_n _ _ (by decide)]
        rw [show ∀ g, updR (updR R' (17 + 2) (upd (R' (17 + 2)) k (nI (qP (scnL s) k)))) (17 + 3) g (17 + 4) = R' 21 from fun g => by rw [updR_n _ _ (by decide), updR_n _ _ (by decide)]]
        by_cases q : t' = k
        · subst q
          rw [pk_us, pk_us, pk_us]
          exact ⟨rfl, m0, l0⟩
        · rw [pk_un q, pk_un q, pk_un q]
          exact ht t' (by omega)
    · rintro j x t ⟨rfl, R', hv, hj, hg, ht⟩
      refine Ok.r (gT hv) (Ok.bT (nI_le (Nat.le_refl _) (by omega)) (Ok.p ⟨I3, R', hv, ⟨hI, fun i hi => ?_, fun t ht' => ht t ht'⟩, hFr, fun k hk => hj k (by omega)⟩))
      refine hg i ?_
      have hi' : i < nOf (s.2.2.2.2.1 0) * nOf (s.2.2.2.2.1 1) := hi
      rw [hW, hH, Nat.mul_comm] at hi'
      exact hi'
end
