/-! what is seen: the reference's calls -/
section
variable {M : Mfg} {dr : Int64} {a : Abs} {σ : St}
theorem m_sees (h : MA M dr a σ) (ok : NoLd a.2.2.2 ∨ LdOK a.2.2.2) (v w : Int32) : Ok (fX10_sees σ (M.1 0) v w) (fun r t => r = seesA a v w ∧ MA M dr a t) := by
  obtain ⟨h30, h4, _, _, _, hl⟩ := okC ok
  unfold fX10_sees
  refine Ok.vE (ma_O h) (ma_isTower h (by omega) v) ?_
  rcases ixc v (n := qT (dN a.2.2.2)) (by omega) with ⟨e, hn⟩ | ⟨t, ht, rfl, e⟩
  · rw [decide_eq_false hn]
    exact Ok.bT rfl (Ok.p ⟨by simp only [seesA, e], h⟩)
  rw [decide_eq_true (ix_in ht (by omega))]
  refine Ok.bF (by decide) (Ok.vE (ma_O h) (ma_isCell h (by omega) w) ?_)
  rcases ixc w (n := qC (dN a.2.2.2)) (by omega) with ⟨e2, hn⟩ | ⟨c, hc, rfl, e2⟩
  · rw [decide_eq_false hn]
    exact Ok.bT rfl (Ok.p ⟨by simp only [seesA, e, e2], h⟩)
  rw [decide_eq_true (ix_in hc (by omega))]
  have ok := hl (by omega)
  obtain ⟨J, Q, hr, hu, rv⟩ := ma_RV h ok.1.1
  refine Ok.bF (by decide) (Ok.v (nO rv.1) (m_seesNow rv ht hc hu) ?_)
  rintro r1 t1 ⟨rfl, rv1⟩
  have h1 : MA M dr a t1 := ⟨J, Q, rv1.1, hr⟩
  refine Ok.bI bI_0 (fun z => ?_) (fun z => ?_)
  · exact Ok.p ⟨by simp only [seesA, e, e2, z]; rfl, h1⟩
  · exact Ok.p ⟨by simp only [seesA, e, e2]; simp at z; rw [z]; rfl, h1⟩
theorem f_has (σ : St) (x : Int32) {k : Nat} (hk : k < 32) : fX10_has σ x (nI k) = some (bI (bt x k), σ) := by
  unfold fX10_has
  rw [bit_at x hk]
  cases bt x k
  · rw [if_neg (by decide)]; rfl
  · rw [if_pos (by decide)]; rfl
theorem m_map (h : MA M dr a σ) (ok : NoLd a.2.2.2 ∨ LdOK a.2.2.2) (v w : Int32) : Ok (fX10_map σ (M.1 0) v w) (fun r t => r = mapA a v w ∧ MA M dr a t) := by
  obtain ⟨h30, h4, _, _, _, hl⟩ := okC ok
  unfold fX10_map
  refine Ok.vE (ma_O h) (ma_isTower h (by omega) v) ?_
  rcases ixc v (n := qT (dN a.2.2.2)) (by omega) with ⟨e, hn⟩ | ⟨t, ht, rfl, e⟩
  · rw [decide_eq_false hn]
    exact Ok.bT rfl (Ok.p ⟨by simp only [mapA, e], h⟩)
  rw [decide_eq_true (ix_in ht (by omega))]
  refine Ok.bF (by decide) (Ok.cE (show fX10_in σ w 0 2 = some (bI (decide (¬ w < 0 ∧ w < nI 3)), σ) from f_inN σ w (n := 3) (by decide)) ?_)
  rcases ixc w (n := 3) (by omega) with ⟨e2, hn⟩ | ⟨k, hk, rfl, e2⟩
  · rw [decide_eq_false hn]
    exact Ok.bT rfl (Ok.p ⟨by simp only [mapA, e, e2], h⟩)
  rw [decide_eq_true (ix_in hk (by decide))]
  have ok := hl (by omega)
  obtain ⟨J, Q, hr, hu, rv⟩ := ma_RV h ok.1.1
  have fin : ∀ {r : Int32} {t : St} {x : Int32}, (r = x ∧ RV M J Q dr (dN a.2.2.2) t) → Ok (some (r, t)) (fun r t => r = x ∧ MA M dr a t) := fun q => Ok.p ⟨q.1, J, Q, q.2.1, hr⟩
  refine Ok.bF (by decide) ?_
  match k, hk with
  | 0, _ =>
    have ee : mapA a (nI t) (nI 0) = msk (fun c => !sees (dN a.2.2.2) (rul a.2.1) t c) (qC (dN a.2.2.2)) := by simp only [mapA, e, e2]
    rw [ee]
    exact Ok.bT (by decide) (Ok.v (nO rv.1) (m_blindOf rv ht hu) (fun r t z => fin z))
  | 1, _ =>
    refine Ok.bF (by decide) (Ok.bT (by decide) (Ok.r (nr_28 rv.1) (Ok.r (r_B rv) (Ok.cE (f_has σ _ (by omega)) (Ok.bI bI_0 (fun z => ?_) (fun z => ?_))))))
    · have ee : mapA a (nI t) (nI 1) = msk (fun c => !sees (dN a.2.2.2) (rul a.2.1) t c) (qC (dN a.2.2.2)) := by simp only [mapA, e, e2, z]; rfl
      rw [ee]
      exact Ok.v (nO rv.1) (m_blindOf rv ht hu) (fun r t z => fin z)
    · have z' : bt (nI (qB (dN a.2.2.2))) t = true := by simpa using z
      have ee : mapA a (nI t) (nI 1) = msk (sees (dN a.2.2.2) (rul a.2.1) t) (qC (dN a.2.2.2)) := by simp only [mapA, e, e2, z']; rfl
      rw [ee]
      exact Ok.v (nO rv.1) (m_seenBy rv ht hu) (fun r t z => fin z)
  | 2, _ =>
    have ee : mapA a (nI t) (nI 2) = msk (aloB (dN a.2.2.2) (rul a.2.1) t) (qC (dN a.2.2.2)) := by simp only [mapA, e, e2]
    rw [ee]
    exact Ok.bF (by decide) (Ok.bF (by decide) (Ok.v (nO rv.1) (m_aloneOf rv ht hu) (fun r t z => fin z)))
  | k + 3, hk => omega
theorem m_watched (h : MA M dr a σ) (ok : NoLd a.2.2.2 ∨ LdOK a.2.2.2) (v : Int32) : Ok (fX10_watched σ (M.1 0) v) (fun r t => r = watchA a v ∧ MA M dr a t) := by
  obtain ⟨h30, h4, _, _, hl, _⟩ := okC ok
  by_cases e : qC (dN a.2.2.2) = 0
  · unfold fX10_watched
    exact Ok.r (ma_cells h) (Ok.bT (by rw [e]; rfl) (Ok.p ⟨by simp only [watchA, if_pos e], h⟩))
  have ok := hl (by omega)
  by_cases q1 : v < 1
  · unfold fX10_watched
    refine Ok.r (ma_cells h) (Ok.bF (nI_ne0 (by omega) (by omega)) (Ok.cE (f_in _ _ _ _) ?_))
    rw [if_pos q1]
    exact Ok.bT rfl (Ok.p ⟨by simp only [watchA, if_neg e, if_pos q1], h⟩)
  by_cases q2 : 4 < v
  · unfold fX10_watched
    refine Ok.r (ma_cells h) (Ok.bF (nI_ne0 (by omega) (by omega)) (Ok.cE (f_in _ _ _ _) ?_))
    rw [if_neg q1, if_pos q2]
    exact Ok.bT rfl (Ok.p ⟨by simp only [watchA, if_neg e, if_neg q1, if_pos q2], h⟩)
  have ee : watchA a v = msk (fun c => decide (v.toNatClampNeg ≤ fa_cnt (fun t => sees (dN a.2.2.2) (rul a.2.1) t c) (qT (dN a.2.2.2)))) (qC (dN a.2.2.2)) := by simp only [watchA, if_neg e, if_neg q1, if_neg q2]
  rw [ee]
  obtain ⟨j, j1, j2, rfl⟩ := rngI 1 4 (by decide) (by decide) q1 q2
  rw [nI_clamp (by omega)]
  obtain ⟨J, Q, hr, hu, rv⟩ := ma_RV h ok.1.1
  refine (m_watchL rv j1 j2 hu).imp ?_
  rintro r t ⟨rfl, rv1⟩
  exact ⟨rfl, J, Q, rv1.1, hr⟩
theorem m_shares (h : MA M dr a σ) (ok : NoLd a.2.2.2 ∨ LdOK a.2.2.2) (v w : Int32) : Ok (fX10_shares σ (M.1 0) v w) (fun r t => r = sharesA a v w ∧ MA M dr a t) := by
  obtain ⟨h30, h4, _, _, _, hl⟩ := okC ok
  unfold fX10_shares
  refine Ok.vE (ma_O h) (ma_isTower h (by omega) v) ?_
  rcases ixc v (n := qT (dN a.2.2.2)) (by omega) with ⟨e, hn⟩ | ⟨t, ht, rfl, e⟩
  · rw [decide_eq_false hn]
    exact Ok.bT rfl (Ok.p ⟨by simp only [sharesA, e], h⟩)
  rw [decide_eq_true (ix_in ht (by omega))]
  refine Ok.bF (by decide) (Ok.cE (show fX10_in σ w 0 999 = some (bI (decide (¬ w < 0 ∧ w < nI 1000)), σ) from f_inN σ w (n := 1000) (by decide)) ?_)
  rcases ixc w (n := 1000) (by omega) with ⟨e2, hn⟩ | ⟨c, hc, rfl, e2⟩
  · rw [decide_eq_false hn]
    exact Ok.bT rfl (Ok.p ⟨by simp only [sharesA, e, e2], h⟩)
  rw [decide_eq_true (ix_in hc (by decide))]
  have ok := hl (by omega)
  have okn : ScOK (dN a.2.2.2) := ok.1.1
  have c1 := cntS_le okn (rul a.2.1) t
  obtain ⟨J, Q, hr, hu, rv⟩ := ma_RV h okn
  refine Ok.bF (by decide) ?_
  refine Ok.f3 (qT (dN a.2.2.2)) 0 (fun k x y τ => x = nI (fb_sm (cntS (dN a.2.2.2) (rul a.2.1)) k) ∧ y = nI k ∧ RV M J Q dr (dN a.2.2.2) τ) (by omega) (by omega) ⟨rfl, rfl, rv⟩ ?_ ?_
  · rintro j k x y τ hk ⟨rfl, rfl, s2⟩ hj
    refine Ok.r (r_towers s2) (Ok.bF (nI_ge hk (by omega)) (Ok.v (nO s2.1) (m_seenBy s2 hk hu) ?_))
    rintro r4 t4 ⟨rfl, s4⟩
    refine Ok.cE ((f_bitC _ _).trans (congrArg (fun z => some (z, t4)) (bitC_msk _ (by omega)))) (Ok.n ?_)
    rw [nI_add, nI_1]
    exact hj _ _ _ ⟨by rw [fb_sm_succ]; rfl, rfl, s4⟩
  · rintro j x y τ ⟨rfl, rfl, s2⟩
    have b2 := sm_le (cntS (dN a.2.2.2) (rul a.2.1)) 30 (fun i => cntS_le okn _ i) (qT (dN a.2.2.2))
    refine Ok.r (r_towers s2) (Ok.bT (nI_le (Nat.le_refl _) (by omega)) (Ok.bI (nI_eq (b := 0) (by omega) (by omega)) (fun z => ?_) (fun z => ?_)))
    · exact Ok.p ⟨by simp only [sharesA, e, e2, if_pos z], J, Q, s2.1, hr⟩
    · refine Ok.v (nO s2.1) (m_seenBy s2 ht hu) ?_
      rintro r4 t4 ⟨rfl, s4⟩
      refine Ok.cE ((f_bitC _ _).trans (congrArg (fun z => some (z, t4)) (bitC_msk _ (by omega)))) (Ok.bF (nI_ne0 (by omega) (by omega)) (Ok.p ⟨?_, J, Q, s4.1, hr⟩))
      simp only [sharesA, e, e2, if_neg z]
      have b3 : c * fa_cnt (sees (dN a.2.2.2) (rul a.2.1) t) (qC (dN a.2.2.2)) ≤ 999 * 30 := Nat.mul_le_mul (by omega) c1
      rw [pk_mul, pk_div (by omega) (by omega) (by omega)]
      rfl
theorem m_false (h : MA M dr a σ) (ok : LdOK a.2.2.2) : Ok (fX10_falseOnes σ (M.1 0)) (fun r t => r = mostK a 9 ∧ MA M dr a t) := by
  have okn : ScOK (dN a.2.2.2) := ok.1.1
  have h30 := okn.c30
  have h4 := okn.t
  obtain ⟨J, Q, hr, hu, rv⟩ := ma_RV h okn
  obtain ⟨i6, l10, hc⟩ := hr.2.2.2.2.2.2.2.2
  unfold fX10_falseOnes
  refine Ok.f3 (dH a.2.2.2).1 0 (fun k x y τ => x = flsM (fun k => decide ((dH a.2.2.2).2.2 k = msk (fun c => !sees (dN a.2.2.2) (rul a.2.1) ((dH a.2.2.2).2.1 k) c) (qC (dN a.2.2.2)))) (dH a.2.2.2).2.1 k ∧ y = nI k ∧ RV M J Q dr (dN a.2.2.2) τ) (by omega) (by omega) ⟨rfl, rfl, rv⟩ ?_ ?_
  · rintro j k x y τ hk ⟨rfl, rfl, s2⟩ hj
    obtain ⟨c1, c2⟩ := hc k hk
    have ht := ok.2.2.2.2.2.2 k hk
    refine Ok.r ((nr_43 s2.1).trans (congrArg some i6)) (Ok.bF (nI_ge hk (by omega)) (Ok.r (nr_42 s2.1) (Ok.r ((na_42 s2.1 (by omega)).trans (congrArg some c2)) (Ok.r (nr_41 s2.1) (Ok.r ((na_41 s2.1 (by omega)).trans (congrArg some c1)) (Ok.v (nO s2.1) (m_blindOf s2 ht hu) ?_))))))
    rintro r4 t4 ⟨rfl, s4⟩
    refine Ok.j2 ?_
    rw [nI_1]
    refine Ok.b (fun z => ?_) (fun z => ?_)
    · refine Ok.n (hj _ _ _ ⟨?_, rfl, s4⟩)
      simp only [flsM, decide_eq_true z, if_true, or0]
    · refine Ok.r (nr_41 s4.1) (Ok.r ((na_41 s4.1 (by omega)).trans (congrArg some c1)) (Ok.n (hj _ _ _ ⟨?_, rfl, s4⟩)))
      simp only [flsM, decide_eq_false z]
      rfl
  · rintro j x y τ ⟨rfl, rfl, s2⟩
    exact Ok.r ((nr_43 s2.1).trans (congrArg some i6)) (Ok.bT (nI_le (Nat.le_refl _) (by omega)) (Ok.p ⟨rfl, J, Q, s2.1, hr⟩))
theorem m_most (h : MA M dr a σ) (ok : NoLd a.2.2.2 ∨ LdOK a.2.2.2) (v : Int32) : Ok (fX10_most σ (M.1 0) v) (fun r t => r = mostA a v ∧ MA M dr a t) := by
  obtain ⟨h30, h4, _, _, hl, _⟩ := okC ok
  unfold fX10_most
  refine Ok.r (ma_cells h) (Ok.bI (nI_eq (b := 0) (by omega) (by omega)) (fun e => ?_) (fun e => ?_))
  · exact Ok.p ⟨by simp only [mostA, if_pos e], h⟩
  rcases ixc v (n := 10) (by omega) with ⟨e2, hn⟩ | ⟨k, hk, rfl, e2⟩
  · exact Ok.e (tbs_no 10 rfl (by decide) hn) (Ok.p ⟨by simp only [mostA, if_neg e, e2], h⟩)
  have ee : mostA a (nI k) = mostK a k := by simp only [mostA, if_neg e, e2]
  rw [ee]
  have ok := hl (by omega)
  have okn : ScOK (dN a.2.2.2) := ok.1.1
  obtain ⟨J, Q, hr, hu, rv⟩ := ma_RV h okn
  have fin : ∀ {r : Int32} {t : St} {x : Int32}, (r = x ∧ RV M J Q dr (dN a.2.2.2) t) → Ok (some (r, t)) (fun r t => r = x ∧ MA M dr a t) := fun q => Ok.p ⟨q.1, J, Q, q.2.1, hr⟩
  match k, hk with
  | 0, _ => exact Ok.e (tbs_yes 0 (by decide) rfl) (Ok.vE (nO rv.1) (m_topCell rv 1) (Ok.p ⟨rfl, h⟩))
  | 1, _ => exact Ok.e (tbs_yes 1 (by decide) rfl) (Ok.vE (nO rv.1) (m_topCell rv (-1)) (Ok.p ⟨rfl, h⟩))
  | 2, _ => exact Ok.e (tbs_yes 2 (by decide) rfl) (Ok.v (nO rv.1) (m_topTower rv 1 hu) (fun r t z => fin z))
  | 3, _ => exact Ok.e (tbs_yes 3 (by decide) rfl) (Ok.v (nO rv.1) (m_topTower rv (-1) hu) (fun r t z => fin z))
  | 4, _ => exact Ok.e (tbs_yes 4 (by decide) rfl) (Ok.r (nr_28 rv.1) (Ok.r (r_B rv) (Ok.p ⟨rfl, h⟩)))
  | 5, _ => exact Ok.e (tbs_yes 5 (by decide) rfl) (Ok.vE (nO rv.1) (m_flat rv) (Ok.p ⟨rfl, h⟩))
  | 6, _ => exact Ok.e (tbs_yes 6 (by decide) rfl) (Ok.vE (nO rv.1) (m_lost rv) (Ok.p ⟨rfl, h⟩))
  | 7, _ => exact Ok.e (tbs_yes 7 (by decide) rfl) (Ok.v (nO rv.1) (m_mutual rv hu) (fun r t z => fin z))
  | 8, _ => exact Ok.e (tbs_yes 8 (by decide) rfl) (Ok.v (nO rv.1) (m_hid rv hu) (fun r t z => fin z))
  | 9, _ => exact Ok.e (tbs_yes 9 (by decide) rfl) (Ok.v (nO rv.1) (m_false h ok) (fun r t z => Ok.p z))
  | k + 10, hk => omega
theorem m_given (h : MA M dr a σ) (ok : NoLd a.2.2.2 ∨ LdOK a.2.2.2) (v w : Int32) (b : Bool) : Ok (fX10_given σ (M.1 0) v w (bI b)) (fun r t => r = (givenA a v w b).1 ∧ MA M dr (givenA a v w b).2 t) := by
  obtain ⟨h30, h4, _, _, _, hl⟩ := okC ok
  unfold fX10_given
  refine Ok.vE (ma_O h) (ma_isTower h (by omega) v) ?_
  rcases ixc v (n := qT (dN a.2.2.2)) (by omega) with ⟨e, hn⟩ | ⟨t, ht, rfl, e⟩
  · have ee : givenA a v w b = (-1, a) := by simp only [givenA, e]
    rw [decide_eq_false hn, ee]
    exact Ok.bT rfl (Ok.p ⟨rfl, h⟩)
  rw [decide_eq_true (ix_in ht (by omega))]
  refine Ok.bF (by decide) (Ok.vE (ma_O h) (ma_isCell h (by omega) w) ?_)
  rcases ixc w (n := qC (dN a.2.2.2)) (by omega) with ⟨e2, hn⟩ | ⟨c, hc, rfl, e2⟩
  · have ee : givenA a (nI t) w b = (-1, a) := by simp only [givenA, e, e2]
    rw [decide_eq_false hn, ee]
    exact Ok.bT rfl (Ok.p ⟨rfl, h⟩)
  rw [decide_eq_true (ix_in hc (by omega))]
  have h0 := h
  obtain ⟨J, Q, hv, hr⟩ := h
  obtain ⟨h1, h2, h3, ⟨h4, h5⟩, h6, h7, h8, ⟨i3, l10, hg⟩, h10⟩ := hr
  refine Ok.bF (by decide) (Ok.r ((nr_40 hv).trans (congrArg some i3)) (Ok.bI (nI_eq (b := 10) (by omega) (by omega)) (fun q => ?_) (fun q => ?_)))
  · have ee : givenA a (nI t) (nI c) b = (-1, a) := by simp only [givenA, e, e2, if_pos q]
    rw [ee]
    exact Ok.p ⟨rfl, h0⟩
  · have ee : givenA a (nI t) (nI c) b = (nI ((dV a.2.2.2).1 + 1), setD a (setV a.2.2.2 ((dV a.2.2.2).1 + 1, updN (dV a.2.2.2).2.1 (dV a.2.2.2).1 t, updN (dV a.2.2.2).2.2.1 (dV a.2.2.2).1 c, updB (dV a.2.2.2).2.2.2 (dV a.2.2.2).1 b))) := by simp only [givenA, e, e2, if_neg q]
    rw [ee]
    have q' : (dV a.2.2.2).1 < 10 := by omega
    refine Ok.r (nr_37 hv) (Ok.r ((nr_40 hv).trans (congrArg some i3)) (Ok.w (hv.putN 37 _ _ rfl rfl (fun _ => rfl) q' (by decide)) ?_))
    intro t1 v1
    refine Ok.r (nr_38 v1) (Ok.r ((nr_40 v1).trans (congrArg some i3)) (Ok.w (v1.putN 38 _ _ rfl rfl (fun _ => rfl) q' (by decide)) ?_))
    intro t2 v2
    refine Ok.r (nr_39 v2) (Ok.r ((nr_40 v2).trans (congrArg some i3)) (Ok.bT (zB_b b) (Ok.w (v2.putN 39 _ _ rfl rfl (fun _ => rfl) q' (by decide)) ?_)))
    intro t3 v3
    refine Ok.r ((nr_40 v3).trans (congrArg some i3)) ?_
    rw [nI_1]
    refine Ok.w (v3.putI 40 _ (by decide) (fun _ => rfl) (Nat.le_of_ble_eq_true rfl) (fun _ => rfl)) ?_
    intro t4 v4
    refine Ok.r ((nr_40 v4).trans (congrArg some (pk_us : upd J 40 (nI ((dV a.2.2.2).1 + 1)) 40 = nI ((dV a.2.2.2).1 + 1)))) (Ok.p ⟨rfl, _, _, v4, ?_⟩)
    have hI : ∀ k, k ≠ 40 → upd J 40 (nI ((dV a.2.2.2).1 + 1)) k = J k := fun k hk => pk_un hk
    generalize hR' : updR (updR (updR Q 37 (upd (Q 37) (dV a.2.2.2).1 (nI t))) 38 (upd (updR Q 37 (upd (Q 37) (dV a.2.2.2).1 (nI t)) 38) (dV a.2.2.2).1 (nI c))) 39 (upd (updR (updR Q 37 (upd (Q 37) (dV a.2.2.2).1 (nI t))) 38 (upd (updR Q 37 (upd (Q 37) (dV a.2.2.2).1 (nI t)) 38) (dV a.2.2.2).1 (nI c)) 39) (dV a.2.2.2).1 (bI b)) = R'
    have hR : ∀ k, (k < 37 ∨ 39 < k) → R' k = Q k := fun k hk => by rw [← hR', updR_n _ _ (by omega), updR_n _ _ (by omega), updR_n _ _ (by omega)]
    have r35 : R' 37 = upd (Q 37) (dV a.2.2.2).1 (nI t) := by rw [← hR', updR_n _ _ (by decide), updR_n _ _ (by decide), updR_s]
    have r36 : R' 38 = upd (Q 38) (dV a.2.2.2).1 (nI c) := by rw [← hR', updR_n _ _ (by decide), updR_s, updR_n _ _ (by decide)]
    have r37 : R' 39 = upd (Q 39) (dV a.2.2.2).1 (bI b) := by rw [← hR', updR_s, updR_n _ _ (by decide), updR_n _ _ (by decide)]
    refine ⟨h1.fr (hI _ (by decide)) (hR _ (by decide)), h2.fr (hI _ (by decide)) (hI _ (by decide)) (fun k q1 q2 => hR _ (by omega)), h3.fr (hI _ (by decide)) (hR _ (by decide)), ⟨h4.fr (hI _ (by decide)) (hI _ (by decide)) (hR _ (by decide)) (hR _ (by decide)), ?_⟩, h6.fr (hR _ (by decide)) (hR _ (by decide)) (hR _ (by decide)), h7.fr (hI _ (by decide)) (hR _ (by decide)), h8.fr (hI _ (by decide)) (hR _ (by decide)), ⟨pk_us, (show (dV a.2.2.2).1 + 1 ≤ 10 by omega), fun k hk => ?_⟩, h10.fr (hI _ (by decide)) (hR _ (by decide)) (hR _ (by decide))⟩
    · rw [hR 28 (by decide)]; exact h5
    · have hk' : k < (dV a.2.2.2).1 + 1 := hk
      rw [r35, r36, r37]
      show upd _ _ _ k = nI (updN _ _ t k) ∧ upd _ _ _ k = nI (updN _ _ c k) ∧ upd _ _ _ k = bI (updB _ _ b k)
      unfold updN updB upd
      by_cases z : k = (dV a.2.2.2).1
      · simp only [if_pos z]; exact ⟨trivial, trivial, trivial⟩
      · simp only [if_neg z]; exact hg k (by omega)
theorem m_heard (h : MA M dr a σ) (ok : NoLd a.2.2.2 ∨ LdOK a.2.2.2) (v w : Int32) : Ok (fX10_heard σ (M.1 0) v w) (fun r t => r = (heardA a v w).1 ∧ MA M dr (heardA a v w).2 t) := by
  obtain ⟨h30, h4, _, _, _, hl⟩ := okC ok
  unfold fX10_heard
  refine Ok.vE (ma_O h) (ma_isTower h (by omega) v) ?_
  rcases ixc v (n := qT (dN a.2.2.2)) (by omega) with ⟨e, hn⟩ | ⟨t, ht, rfl, e⟩
  · have ee : heardA a v w = (-1, a) := by simp only [heardA, e]
    rw [decide_eq_false hn, ee]
    exact Ok.bT rfl (Ok.p ⟨rfl, h⟩)
  rw [decide_eq_true (ix_in ht (by omega))]
  have ok := hl (by omega)
  have h0 := h
  obtain ⟨J0, Q0, hr0, hu0, rv⟩ := ma_RV h ok.1.1
  refine Ok.bF (by decide) (Ok.vE (nO rv.1) (m_whole rv) (Ok.cE (f_in _ _ _ _) ?_))
  by_cases q0 : w &&& (msk (fun _ => true) (qC (dN a.2.2.2)) ^^^ (-1)) = 0
  · obtain ⟨s1, s2⟩ := (sub_q w h30).mp q0
    rw [if_neg s1, if_neg s2]
    obtain ⟨J, Q, hv, hr⟩ := h
    obtain ⟨h1, h2, h3, ⟨h4, h5⟩, h6, h7, h8, h9, ⟨i3, l10, hg⟩⟩ := hr
    refine Ok.bF (by decide) (Ok.r ((nr_43 hv).trans (congrArg some i3)) (Ok.bI (nI_eq (b := 10) (by omega) (by omega)) (fun q => ?_) (fun q => ?_)))
    · have ee : heardA a (nI t) w = (-1, a) := by simp only [heardA, e, if_pos q0, if_pos q]
      rw [ee]
      exact Ok.p ⟨rfl, h0⟩
    · have ee : heardA a (nI t) w = (nI ((dH a.2.2.2).1 + 1), setD a (setQ a.2.2.2 ((dH a.2.2.2).1 + 1, updN (dH a.2.2.2).2.1 (dH a.2.2.2).1 t, upd (dH a.2.2.2).2.2 (dH a.2.2.2).1 w))) := by simp only [heardA, e, if_pos q0, if_neg q]
      rw [ee]
      have q' : (dH a.2.2.2).1 < 10 := by omega
      refine Ok.r (nr_41 hv) (Ok.r ((nr_43 hv).trans (congrArg some i3)) (Ok.w (hv.putN 41 _ _ rfl rfl (fun _ => rfl) q' (by decide)) ?_))
      intro t1 v1
      refine Ok.r (nr_42 v1) (Ok.r ((nr_43 v1).trans (congrArg some i3)) (Ok.w (v1.putN 42 _ _ rfl rfl (fun _ => rfl) q' (by decide)) ?_))
      intro t2 v2
      refine Ok.r ((nr_43 v2).trans (congrArg some i3)) ?_
      rw [nI_1]
      refine Ok.w (v2.putI 43 _ (by decide) (fun _ => rfl) (Nat.le_of_ble_eq_true rfl) (fun _ => rfl)) ?_
      intro t4 v4
      refine Ok.r ((nr_43 v4).trans (congrArg some (pk_us : upd J 43 (nI ((dH a.2.2.2).1 + 1)) 43 = nI ((dH a.2.2.2).1 + 1)))) (Ok.p ⟨rfl, _, _, v4, ?_⟩)
      have hI : ∀ k, k ≠ 43 → upd J 43 (nI ((dH a.2.2.2).1 + 1)) k = J k := fun k hk => pk_un hk
      generalize hR' : updR (updR Q 41 (upd (Q 41) (dH a.2.2.2).1 (nI t))) 42 (upd (updR Q 41 (upd (Q 41) (dH a.2.2.2).1 (nI t)) 42) (dH a.2.2.2).1 w) = R'
      have hR : ∀ k, (k < 41 ∨ 42 < k) → R' k = Q k := fun k hk => by rw [← hR', updR_n _ _ (by omega), updR_n _ _ (by omega)]
      have r38 : R' 41 = upd (Q 41) (dH a.2.2.2).1 (nI t) := by rw [← hR', updR_n _ _ (by decide), updR_s]
      have r39 : R' 42 = upd (Q 42) (dH a.2.2.2).1 w := by rw [← hR', updR_s, updR_n _ _ (by decide)]
      refine ⟨h1.fr (hI _ (by decide)) (hR _ (by decide)), h2.fr (hI _ (by decide)) (hI _ (by decide)) (fun k q1 q2 => hR _ (by omega)), h3.fr (hI _ (by decide)) (hR _ (by decide)), ⟨h4.fr (hI _ (by decide)) (hI _ (by decide)) (hR _ (by decide)) (hR _ (by decide)), ?_⟩, h6.fr (hR _ (by decide)) (hR _ (by decide)) (hR _ (by decide)), h7.fr (hI _ (by decide)) (hR _ (by decide)), h8.fr (hI _ (by decide)) (hR _ (by decide)), h9.fr (hI _ (by decide)) (hR _ (by decide)) (hR _ (by decide)) (hR _ (by decide)), ⟨pk_us, (show (dH a.2.2.2).1 + 1 ≤ 10 by omega), fun k hk => ?_⟩⟩
      · rw [hR 28 (by decide)]; exact h5
      · have hk' : k < (dH a.2.2.2).1 + 1 := hk
        rw [r38, r39]
        show upd _ _ _ k = nI (updN _ _ t k) ∧ upd _ _ _ k = upd _ _ w k
        unfold updN upd
        by_cases z : k = (dH a.2.2.2).1
        · simp only [if_pos z]; exact ⟨trivial, trivial⟩
        · simp only [if_neg z]; exact hg k (by omega)
  · have ee : heardA a (nI t) w = (-1, a) := by simp only [heardA, e, if_neg q0]
    rw [ee]
    refine Ok.bT ?_ (Ok.p ⟨rfl, h⟩)
    by_cases s1 : w < 0
    · rw [if_pos s1]
    · rw [if_neg s1]
      by_cases s2 : msk (fun _ => true) (qC (dN a.2.2.2)) < w
      · rw [if_pos s2]
      · exact absurd ((sub_q w h30).mpr ⟨s1, s2⟩) q0
end
