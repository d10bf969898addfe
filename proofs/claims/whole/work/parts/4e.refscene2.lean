/-! the reference's scene, as it is now -/
section
variable {M : Mfg} {J : Nat → Int32} {Q : Nat → Nat → Int32} {dr : Int64} {s : Scn} {σ : St} {L : Option LawF}
theorem RV.w (h : RV M J Q dr s σ) : Q 23 0 = nI (qW s) := (h.2.1.2.2.1 (by have := h.2.2.c30; omega)).1
theorem RV.hh (h : RV M J Q dr s σ) : Q 23 1 = nI (qH s) := (h.2.1.2.2.1 (by have := h.2.2.c30; omega)).2
theorem RV.st (h : RV M J Q dr s σ) {τ : St} (ht : MV M J Q dr τ) : RV M J Q dr s τ := ⟨ht, h.2⟩
theorem r_cells (h : RV M J Q dr s σ) : gI 10 26 σ (M.1 0) = some (nI (qC s)) := (nr_26 h.1).trans (congrArg some h.2.1.1)
theorem r_towers (h : RV M J Q dr s σ) : gI 10 27 σ (M.1 0) = some (nI (qT s)) := (nr_27 h.1).trans (congrArg some h.2.1.2.1)
theorem r_G (h : RV M J Q dr s σ) {i : Nat} (hi : i < qC s) : aI 0 σ (M.1 28) (nI i) = some (nI (qG s i)) := (na_28 h.1 (by have := h.2.2.c30; omega)).trans (congrArg some (h.2.1.2.2.2.1 i hi))
theorem r_G0 (h : RV M J Q dr s σ) {i : Nat} (hi : i < qC s) : aI 0 σ (M.1 28) (0 + nI i) = some (nI (qG s i)) := by
  rw [Int32.zero_add]; exact r_G h hi
theorem r_P (h : RV M J Q dr s σ) {t : Nat} (ht : t < qT s) : aI 0 σ (M.1 28) (30 + nI t) = some (nI (qP s t)) := by
  rw [show (30 : Int32) = nI 30 from rfl, nI_add]
  exact (na_28 h.1 (by have := h.2.2.t; omega)).trans (congrArg some (h.2.1.2.2.2.2.1 t ht).1)
theorem r_M (h : RV M J Q dr s σ) {t : Nat} (ht : t < qT s) : aI 0 σ (M.1 28) (34 + nI t) = some (nI (qM s t)) := by
  rw [show (34 : Int32) = nI 34 from rfl, nI_add]
  exact (na_28 h.1 (by have := h.2.2.t; omega)).trans (congrArg some (h.2.1.2.2.2.2.1 t ht).2.1)
theorem r_B (h : RV M J Q dr s σ) : aI 0 σ (M.1 28) 38 = some (nI (qB s)) := (na_28 h.1 (i := 38) (by decide)).trans (congrArg some h.2.1.2.2.2.2.2.1)
theorem r_F (h : RV M J Q dr s σ) : aI 0 σ (M.1 28) 39 = some (nI (qF s)) := (na_28 h.1 (i := 39) (by decide)).trans (congrArg some h.2.1.2.2.2.2.2.2.1)
theorem r_K (h : RV M J Q dr s σ) : aI 0 σ (M.1 28) 40 = some (nI (qK s)) := (na_28 h.1 (i := 40) (by decide)).trans (congrArg some h.2.1.2.2.2.2.2.2.2.1)
theorem r_U (h : RV M J Q dr s σ) : aI 0 σ (M.1 28) 41 = some (nI (qU s)) := (na_28 h.1 (i := 41) (by decide)).trans (congrArg some h.2.1.2.2.2.2.2.2.2.2)
theorem m_groundOf (h : RV M J Q dr s σ) {t : Nat} (ht : t < qT s) : fX10_groundOf σ (M.1 0) (nI t) = some (nI (qG s (qP s t)), σ) := by
  unfold fX10_groundOf
  rw [nr_28 h.1, Option.bind_some, Option.bind_some, r_P h ht, Option.bind_some, r_G0 h (h.2.2.p ht), Option.bind_some]
theorem m_reachOf (h : RV M J Q dr s σ) {t : Nat} (ht : t < qT s) (hL : RulM J Q L) : Ok (fX10_reachOf σ (M.1 0) (nI t)) (fun r u => r = nI (rch s L t) ∧ RV M J Q dr s u) := by
  have ok := h.2.2
  have h4 := ok.t
  have hu := ok.u
  unfold fX10_reachOf
  refine Ok.r (nr_28 h.1) (Ok.r (r_F h) (Ok.r (nr_28 h.1) (Ok.r (r_U h) (Ok.vE (nO h.1) (m_groundOf h ht) (Ok.r (nr_28 h.1) (Ok.r (r_M h ht) (Ok.v (nO h.1) (m_reachBy h.1 (by omega) (h.2.1.2.2.2.2.1 t ht).2.2 h.2.1.2.1 (ok.a ht) (by omega) ⟨by have := ok.f; omega, by have := ok.g (ok.p ht); omega, by have := ok.m ht; omega, by omega⟩ hL) ?_)))))))
  rintro r u ⟨rfl, h1⟩
  exact Ok.p ⟨congrArg nI (rch_G s L t).symm, h.st h1⟩
theorem m_seesNow (h : RV M J Q dr s σ) {t c : Nat} (ht : t < qT s) (hc : c < qC s) (hL : RulM J Q L) : Ok (fX10_seesNow σ (M.1 0) (nI t) (nI c)) (fun r u => r = bI (sees s L t c) ∧ RV M J Q dr s u) := by
  have ok := h.2.2
  have hp := ok.p ht
  have hm := ok.m ht
  have hg := ok.g hp
  unfold fX10_seesNow
  refine Ok.r (nr_28 h.1) (Ok.r (nr_28 h.1) (Ok.r (r_P h ht) (Ok.vE (nO h.1) (m_groundOf h ht) (Ok.r (nr_28 h.1) (Ok.r (r_M h ht) (Ok.v (nO h.1) (m_reachOf h ht hL) ?_))))))
  rintro r1 t1 ⟨rfl, h1⟩
  rw [nI_add]
  refine Ok.r (nr_28 h1.1) (Ok.r (r_F h1) (Ok.vE (nO h1.1) (m_isSeen ok h1.1 h1.w (fun i hi => r_G h1 hi) hp hc (by omega) (rch_le ok L ht)) (Ok.bT (bI_01 _) (Ok.p ⟨rfl, h1⟩))))
theorem m_seenBy (h : RV M J Q dr s σ) {t : Nat} (ht : t < qT s) (hL : RulM J Q L) : Ok (fX10_seenBy σ (M.1 0) (nI t)) (fun r u => r = msk (sees s L t) (qC s) ∧ RV M J Q dr s u) := by
  have h30 := h.2.2.c30
  unfold fX10_seenBy
  refine Ok.f3 (qC s) 0 (fun k x y τ => x = msk (sees s L t) k ∧ y = nI k ∧ RV M J Q dr s τ) (by omega) (by omega) ⟨rfl, rfl, h⟩ ?_ ?_
  · rintro j k x y τ hk ⟨rfl, rfl, h1⟩ hj
    refine Ok.r (r_cells h1) (Ok.bF (nI_ge hk (by omega)) (Ok.v (nO h1.1) (m_seesNow h1 ht hk hL) ?_))
    rintro r2 t2 ⟨rfl, h2⟩
    refine Ok.j2 ?_
    rw [nI_1]
    refine Ok.bI bI_0 (fun hc => ?_) (fun hc => ?_)
    · exact Ok.n (hj _ _ _ ⟨by simp [msk, hc, or0], rfl, h2⟩)
    · exact Ok.n (hj _ _ _ ⟨by simp [msk, hc, bitm], rfl, h2⟩)
  · rintro j x y τ ⟨rfl, rfl, h1⟩
    exact Ok.r (r_cells h1) (Ok.bT (nI_le (Nat.le_refl _) (by omega)) (Ok.p ⟨rfl, h1⟩))
theorem m_seenByAll (h : RV M J Q dr s σ) (hL : RulM J Q L) : Ok (fX10_seenByAll σ (M.1 0)) (fun r u => r = msk (fun c => anyB (fun t => sees s L t c) (qT s)) (qC s) ∧ RV M J Q dr s u) := by
  have h30 := h.2.2.c30
  have h4 := h.2.2.t
  unfold fX10_seenByAll
  refine Ok.f3 (qT s) 0 (fun k x y τ => x = msk (fun c => anyB (fun t => sees s L t c) k) (qC s) ∧ y = nI k ∧ RV M J Q dr s τ) (by omega) (by omega) ⟨msk_0 (by omega) (fun _ => rfl), rfl, h⟩ ?_ ?_
  · rintro j k x y τ hk ⟨rfl, rfl, h1⟩ hj
    refine Ok.r (r_towers h1) (Ok.bF (nI_ge hk (by omega)) (Ok.v (nO h1.1) (m_seenBy h1 hk hL) ?_))
    rintro r2 t2 ⟨rfl, h2⟩
    refine Ok.n ?_
    rw [nI_1, msk_or _ _ (by omega)]
    exact hj _ _ _ ⟨rfl, rfl, h2⟩
  · rintro j x y τ ⟨rfl, rfl, h1⟩
    exact Ok.r (r_towers h1) (Ok.bT (nI_le (Nat.le_refl _) (by omega)) (Ok.p ⟨rfl, h1⟩))
theorem m_whole (h : RV M J Q dr s σ) : fX10_whole σ (M.1 0) = some (msk (fun _ => true) (qC s), σ) := by
  have h30 := h.2.2.c30
  unfold fX10_whole
  rw [r_cells h, Option.bind_some, msk_all _ (by omega)]
theorem m_hid (h : RV M J Q dr s σ) (hL : RulM J Q L) : Ok (fX10_hid σ (M.1 0)) (fun r u => r = msk (hidB s L) (qC s) ∧ RV M J Q dr s u) := by
  have h30 := h.2.2.c30
  unfold fX10_hid
  refine Ok.vE (nO h.1) (m_whole h) (Ok.v (nO h.1) (m_seenByAll h hL) ?_)
  rintro r1 t1 ⟨rfl, h1⟩
  refine Ok.p ⟨?_, h1⟩
  rw [msk_sub _ _ (by omega)]
  exact msk_cong (fun i _ => by simp [hidB])
theorem m_isHidNow (h : RV M J Q dr s σ) {c : Nat} (hc : c < qC s) (hL : RulM J Q L) : Ok (fX10_isHidNow σ (M.1 0) (nI c)) (fun r u => r = bI (hidB s L c) ∧ RV M J Q dr s u) := by
  have h4 := h.2.2.t
  unfold fX10_isHidNow
  refine Ok.f2 (qT s) 0 (fun k x t => x = nI k ∧ anyB (fun t => sees s L t c) k = false ∧ RV M J Q dr s t) (by omega) (by omega) ⟨rfl, rfl, h⟩ ?_ ?_
  · rintro j k x t hk ⟨rfl, hn, h1⟩ hj
    refine Ok.r (r_towers h1) (Ok.bF (nI_ge hk (by omega)) (Ok.v (nO h1.1) (m_seesNow h1 hk hc hL) ?_))
    rintro r2 t2 ⟨rfl, h2⟩
    rw [nI_1]
    refine Ok.bI bI_0 (fun hs => ?_) (fun hs => ?_)
    · exact hj _ _ ⟨rfl, by simp [anyB, hn, hs], h2⟩
    · refine Ok.p ⟨?_, h2⟩
      have : anyB (fun t => sees s L t c) (qT s) = true := anyB_iff.mpr ⟨k, hk, by simpa using hs⟩
      simp [hidB, this, bI]
  · rintro j x t ⟨rfl, hn, h1⟩
    refine Ok.r (r_towers h1) (Ok.bT (nI_le (Nat.le_refl _) (by omega)) (Ok.p ⟨?_, h1⟩))
    simp [hidB, hn, bI]
theorem m_blindOf (h : RV M J Q dr s σ) {t : Nat} (ht : t < qT s) (hL : RulM J Q L) : Ok (fX10_blindOf σ (M.1 0) (nI t)) (fun r u => r = msk (fun c => !sees s L t c) (qC s) ∧ RV M J Q dr s u) := by
  have h30 := h.2.2.c30
  unfold fX10_blindOf
  refine Ok.vE (nO h.1) (m_whole h) (Ok.v (nO h.1) (m_seenBy h ht hL) ?_)
  rintro r1 t1 ⟨rfl, h1⟩
  refine Ok.p ⟨?_, h1⟩
  rw [msk_sub _ _ (by omega)]
  exact msk_cong (fun i _ => by simp)
def aloB (s : Scn) (L : Option LawF) (t : Nat) (c : Nat) : Bool := sees s L t c && !anyB (fun o => !decide (o = t) && sees s L o c) (qT s)
theorem m_aloneOf (h : RV M J Q dr s σ) {t : Nat} (ht : t < qT s) (hL : RulM J Q L) : Ok (fX10_aloneOf σ (M.1 0) (nI t)) (fun r u => r = msk (aloB s L t) (qC s) ∧ RV M J Q dr s u) := by
  have h30 := h.2.2.c30
  have h4 := h.2.2.t
  unfold fX10_aloneOf
  refine Ok.v (nO h.1) (m_seenBy h ht hL) ?_
  rintro r1 t1 ⟨rfl, h1⟩
  refine Ok.f3 (qT s) 0 (fun k x y τ => x = msk (fun c => sees s L t c && !anyB (fun o => !decide (o = t) && sees s L o c) k) (qC s) ∧ y = nI k ∧ RV M J Q dr s τ) (by omega) (by omega) ⟨msk_cong (fun i _ => by simp [anyB]), rfl, h1⟩ ?_ ?_
  · rintro j k x y τ hk ⟨rfl, rfl, h1⟩ hj
    refine Ok.r (r_towers h1) (Ok.bF (nI_ge hk (by omega)) (Ok.j3 ?_))
    rw [nI_1]
    refine Ok.bI (nI_eq (by omega) (by omega)) (fun e => ?_) (fun e => ?_)
    · refine Ok.vE (nO h1.1) (m_whole h1) (Ok.n (hj _ _ _ ⟨?_, rfl, h1⟩))
      rw [msk_and _ _ (by omega)]
      exact msk_cong (fun i _ => by simp [anyB, e])
    · refine Ok.v (nO h1.1) (m_seenBy h1 hk hL) ?_
      rintro r2 t2 ⟨rfl, h2⟩
      refine Ok.n (hj _ _ _ ⟨?_, rfl, h2⟩)
      rw [msk_sub _ _ (by omega)]
      exact msk_cong (fun i _ => by simp [anyB, e, Bool.and_assoc])
  · rintro j x y τ ⟨rfl, rfl, h1⟩
    exact Ok.r (r_towers h1) (Ok.bT (nI_le (Nat.le_refl _) (by omega)) (Ok.p ⟨rfl, h1⟩))
theorem m_areBeside (h : RV M J Q dr s σ) {c o : Nat} (hc : c < qC s) (ho : o < qC s) : fX10_areBeside σ (M.1 0) (nI c) (nI o) = some (bI (adjB (qW s) c o), σ) := by
  have ok := h.2.2
  have a1 := cell_xy ok hc
  have a2 := cell_xy ok ho
  have h3 := ok.w
  have h4 := ok.r
  have h30 := ok.c30
  have w0 : 0 < qW s := by omega
  have w1 : qW s < 2 ^ 31 := by omega
  have xc := m_across h.1 h.w w0 w1 (c := c) (by omega)
  have xo := m_across h.1 h.w w0 w1 (c := o) (by omega)
  have dc := m_down h.1 h.w w0 w1 (c := c) (by omega)
  have d_o := m_down h.1 h.w w0 w1 (c := o) (by omega)
  have e1 := abs_d (o % qW s) (by omega) (c % qW s) (by omega)
  have e2 := abs_d (o / qW s) (by omega) (c / qW s) (by omega)
  have b1 : fab (c % qW s) (o % qW s) < 12 := by unfold fab; omega
  have b2 : fab (c / qW s) (o / qW s) < 12 := by
    have q1 := a1.2
    have q2 := a2.2
    unfold fab
    generalize c / qW s = u at q1 ⊢
    generalize o / qW s = v at q2 ⊢
    omega
  refine Ok.toE ?_
  unfold fX10_areBeside
  refine Ok.vE (nO h.1) xc (Ok.vE (nO h.1) xo (Ok.cE ((f_abs _ _).trans (congrArg (fun z => some (z, σ)) e1)) (Ok.vE (nO h.1) dc (Ok.vE (nO h.1) d_o (Ok.cE ((f_abs _ _).trans (congrArg (fun z => some (z, σ)) e2)) ?_)))))
  rw [nI_add]
  refine Ok.bI (nI_eq (b := 1) (by omega) (by omega)) (fun e => ?_) (fun e => ?_)
  · exact Ok.p ⟨by rw [adjB, decide_eq_true e]; rfl, rfl⟩
  · exact Ok.p ⟨by rw [adjB, decide_eq_false e]; rfl, rfl⟩
theorem m_topCell (h : RV M J Q dr s σ) (sg : Int32) : fX10_topCell σ (M.1 0) sg = some (nI (bestI (fun i => sg * nI (qG s i)) (qC s)), σ) := by
  have h30 := h.2.2.c30
  refine Ok.toE ?_
  unfold fX10_topCell
  refine Ok.f2 (qC s) 1 (fun k x y => x = nI (bestI (fun i => sg * nI (qG s i)) k) ∧ y = nI k ∧ 1 ≤ k) (by omega) (by omega) ⟨by simp [bestI]; rfl, rfl, by omega⟩ ?_ ?_
  · rintro j k x y hk ⟨rfl, rfl, h1⟩ hj
    have hb := bestI_lt (fun i => sg * nI (qG s i)) k (by omega)
    refine Ok.r (r_cells h) (Ok.bF (nI_ge hk (by omega)) (Ok.r (nr_28 h.1) (Ok.r (r_G0 h hk) (Ok.r (nr_28 h.1) (Ok.r (r_G0 h (by omega)) (Ok.j1 ?_))))))
    rw [nI_1]
    refine Ok.b (fun e => ?_) (fun e => ?_)
    · exact hj _ _ ⟨by simp only [bestI, if_pos e], rfl, by omega⟩
    · exact hj _ _ ⟨by simp only [bestI, if_neg e], rfl, by omega⟩
  · rintro j x y ⟨rfl, rfl, _⟩
    exact Ok.r (r_cells h) (Ok.bT (nI_le (Nat.le_refl _) (by omega)) (Ok.p ⟨rfl, rfl⟩))
theorem m_topTower (h : RV M J Q dr s σ) (sg : Int32) (hL : RulM J Q L) : Ok (fX10_topTower σ (M.1 0) sg) (fun r u => r = nI (bestI (fun t => sg * bitC (msk (sees s L t) (qC s))) (qT s)) ∧ RV M J Q dr s u) := by
  have h30 := h.2.2.c30
  have h4 := h.2.2.t
  unfold fX10_topTower
  refine Ok.f3 (qT s) 1 (fun k x y t => x = nI (bestI (fun t => sg * bitC (msk (sees s L t) (qC s))) k) ∧ y = nI k ∧ 1 ≤ k ∧ RV M J Q dr s t) (by omega) (by omega) ⟨by simp [bestI]; rfl, rfl, by omega, h⟩ ?_ ?_
  · rintro j k x y t hk ⟨rfl, rfl, h1, g1⟩ hj
    have hb := bestI_lt (fun t => sg * bitC (msk (sees s L t) (qC s))) k (by omega)
    refine Ok.r (r_towers g1) (Ok.bF (nI_ge hk (by omega)) (Ok.v (nO g1.1) (m_seenBy g1 hk hL) ?_))
    rintro r2 t2 ⟨rfl, g2⟩
    refine Ok.cE (f_bitC _ _) (Ok.v (nO g2.1) (m_seenBy g2 (by omega) hL) ?_)
    rintro r3 t3 ⟨rfl, g3⟩
    refine Ok.cE (f_bitC _ _) (Ok.j1 ?_)
    rw [nI_1]
    refine Ok.b (fun e => ?_) (fun e => ?_)
    · exact hj _ _ _ ⟨by simp only [bestI, if_pos e], rfl, by omega, g3⟩
    · exact hj _ _ _ ⟨by simp only [bestI, if_neg e], rfl, by omega, g3⟩
  · rintro j x y t ⟨rfl, rfl, _, g1⟩
    exact Ok.r (r_towers g1) (Ok.bT (nI_le (Nat.le_refl _) (by omega)) (Ok.p ⟨rfl, g1⟩))
theorem m_flat (h : RV M J Q dr s σ) : fX10_flat σ (M.1 0) = some (nI (fa_cnt (likeB s) (qC s)), σ) := by
  have h30 := h.2.2.c30
  have ok := h.2.2
  refine Ok.toE ?_
  unfold fX10_flat
  refine Ok.f3 (qC s) 0 (fun k x y t => x = nI (fa_cnt (likeB s) k) ∧ y = nI k ∧ t = σ) (by omega) (by omega) ⟨rfl, rfl, rfl⟩ ?_ ?_
  · rintro j k x y t hk ⟨rfl, rfl, rfl⟩ hj
    refine Ok.r (r_cells h) (Ok.bF (nI_ge hk (by omega)) ?_)
    refine Ok.f3 (qC s) 0 (fun o x y t' => x = bI (anyB (fun o => adjB (qW s) k o && decide (qG s k = qG s o)) o) ∧ y = nI o ∧ t' = t) (by omega) (by omega) ⟨rfl, rfl, rfl⟩ ?_ ?_
    · rintro j2 o x y t' ho ⟨rfl, rfl, rfl⟩ hj2
      refine Ok.r (r_cells h) (Ok.bF (nI_ge ho (by omega)) (Ok.j2 (Ok.j1 ?_)))
      rw [nI_1]
      refine Ok.bI bI_0 (fun e => ?_) (fun e => ?_)
      · refine Ok.vE (nO h.1) (m_areBeside h hk ho) (Ok.j1 (Ok.bI bI_0 (fun e2 => ?_) (fun e2 => ?_)))
        · exact hj2 _ _ _ ⟨by simp [anyB, e, e2, bI], rfl, rfl⟩
        · have g1 := ok.g hk
          have g2 := ok.g ho
          refine Ok.r (nr_28 h.1) (Ok.r (r_G0 h hk) (Ok.r (nr_28 h.1) (Ok.r (r_G0 h ho) (Ok.bI (nI_eq (by omega) (by omega)) (fun e3 => ?_) (fun e3 => ?_)))))
          · exact hj2 _ _ _ ⟨by simp [anyB, e, e2, e3, bI], rfl, rfl⟩
          · exact hj2 _ _ _ ⟨by simp [anyB, e, e2, e3, bI], rfl, rfl⟩
      · exact hj2 _ _ _ ⟨by simp [anyB, e, bI], rfl, rfl⟩
    · rintro j2 x y t' ⟨rfl, rfl, rfl⟩
      refine Ok.r (r_cells h) (Ok.bT (nI_le (Nat.le_refl _) (by omega)) (Ok.j2 ?_))
      rw [nI_1]
      refine Ok.bI bI_0 (fun e => ?_) (fun e => ?_)
      · refine Ok.n (hj _ _ _ ⟨?_, rfl, rfl⟩)
        rw [fa_cnt_no (p := likeB s) e, show (0 : Int32) = nI 0 from rfl, nI_add]; rfl
      · refine Ok.n (hj _ _ _ ⟨?_, rfl, rfl⟩)
        rw [fa_cnt_yes (p := likeB s) (show likeB s k = true from by unfold likeB; simpa using e), nI_1]
  · rintro j x y t ⟨rfl, rfl, rfl⟩
    exact Ok.r (r_cells h) (Ok.bT (nI_le (Nat.le_refl _) (by omega)) (Ok.p ⟨rfl, rfl⟩))
theorem m_lost (h : RV M J Q dr s σ) : fX10_lost σ (M.1 0) = some (msk (fun c => decide (qG s c < qF s)) (qC s), σ) := by
  have h30 := h.2.2.c30
  have hF := h.2.2.f
  refine Ok.toE ?_
  unfold fX10_lost
  refine Ok.f2 (qC s) 0 (fun k x y => x = msk (fun c => decide (qG s c < qF s)) k ∧ y = nI k) (by omega) (by omega) ⟨rfl, rfl⟩ ?_ ?_
  · rintro j k x y hk ⟨rfl, rfl⟩ hj
    have hg := h.2.2.g hk
    refine Ok.r (r_cells h) (Ok.bF (nI_ge hk (by omega)) (Ok.r (nr_28 h.1) (Ok.r (r_G0 h hk) (Ok.r (nr_28 h.1) (Ok.r (r_F h) (Ok.j2 ?_))))))
    rw [nI_1]
    refine Ok.bI (nI_leI (by omega) (by omega)) (fun e => ?_) (fun e => ?_)
    · exact Ok.n (hj _ _ ⟨by simp only [msk]; rw [if_neg (by simp; omega), or0], rfl⟩)
    · exact Ok.n (hj _ _ ⟨by simp only [msk]; rw [if_pos (by simp; omega)]; rfl, rfl⟩)
  · rintro j x y ⟨rfl, rfl⟩
    exact Ok.r (r_cells h) (Ok.bT (nI_le (Nat.le_refl _) (by omega)) (Ok.p ⟨rfl, rfl⟩))
theorem prB_c (s : Scn) (L : Option LawF) (i j : Nat) : prB s L i j = prB s L j i := by
  unfold prB
  exact Bool.and_comm _ _
theorem mut_d (p : Nat → Nat → Bool) (hp : ∀ i j, p i j = p j i) : ∀ n, n ≤ 4 → mutC p n = fb_sm (fun t => fa_cnt (fun o => p t o) t) n := by
  intro n hn
  have e10 := hp 1 0
  have e20 := hp 2 0
  have e30 := hp 3 0
  have e21 := hp 2 1
  have e31 := hp 3 1
  have e32 := hp 3 2
  match n, hn with
  | 0, _ => rfl
  | 1, _ => rfl
  | 2, _ =>
    simp only [mutC, fb_sm_succ, fa_cnt, fb_sm, Nat.zero_add, Nat.add_zero, Nat.reduceAdd, Nat.reduceSub, e10, e20, e30, e21, e31, e32]
  | 3, _ =>
    simp only [mutC, fb_sm_succ, fa_cnt, fb_sm, Nat.zero_add, Nat.add_zero, Nat.reduceAdd, Nat.reduceSub, e10, e20, e30, e21, e31, e32]
    omega
  | 4, _ =>
    simp only [mutC, fb_sm_succ, fa_cnt, fb_sm, Nat.zero_add, Nat.add_zero, Nat.reduceAdd, Nat.reduceSub, e10, e20, e30, e21, e31, e32]
    omega
  | n + 5, h => omega
theorem m_mutual (h : RV M J Q dr s σ) (hL : RulM J Q L) : Ok (fX10_mutual σ (M.1 0)) (fun r u => r = nI (mutC (prB s L) (qT s)) ∧ RV M J Q dr s u) := by
  have h30 := h.2.2.c30
  have h4 := h.2.2.t
  have ok := h.2.2
  rw [mut_d _ (prB_c s L) _ h4.2]
  unfold fX10_mutual
  refine Ok.f3 (qT s) 0 (fun k x y t => x = nI (fb_sm (fun t => fa_cnt (fun o => prB s L t o) t) k) ∧ y = nI k ∧ RV M J Q dr s t) (by omega) (by omega) ⟨rfl, rfl, h⟩ ?_ ?_
  · rintro j k x y t hk ⟨rfl, rfl, g1⟩ hj
    refine Ok.r (r_towers g1) (Ok.bF (nI_ge hk (by omega)) ?_)
    refine Ok.f3 k 0 (fun d x y t => x = nI (fb_sm (fun t => fa_cnt (fun o => prB s L t o) t) k + fa_cnt (fun o => prB s L k o) d) ∧ y = nI d ∧ RV M J Q dr s t) (by omega) (by omega) ⟨rfl, rfl, g1⟩ ?_ ?_
    · rintro j2 d x y t hd ⟨rfl, rfl, g2⟩ hj2
      have hlt : d < qT s := by omega
      refine Ok.bF (nI_ge hd (by omega)) (Ok.r (nr_28 g2.1) (Ok.r (r_P g2 hlt) (Ok.v (nO g2.1) (m_seesNow g2 hk (ok.p hlt) hL) ?_)))
      rintro r3 t3 ⟨rfl, g3⟩
      refine Ok.j3 (Ok.j2 ?_)
      rw [nI_1]
      refine Ok.bI bI_0 (fun e => ?_) (fun e => ?_)
      · refine Ok.n (hj2 _ _ _ ⟨?_, rfl, g3⟩)
        rw [fa_cnt_no (by simp [prB, e]), show (0 : Int32) = nI 0 from rfl, nI_add]; rfl
      · refine Ok.r (nr_28 g3.1) (Ok.r (r_P g3 hk) (Ok.v (nO g3.1) (m_seesNow g3 hlt (ok.p hk) hL) ?_))
        rintro r4 t4 ⟨rfl, g4⟩
        refine Ok.bI bI_0 (fun e2 => ?_) (fun e2 => ?_)
        · refine Ok.n (hj2 _ _ _ ⟨?_, rfl, g4⟩)
          rw [fa_cnt_no (by simp [prB, e2]), show (0 : Int32) = nI 0 from rfl, nI_add]; rfl
        · refine Ok.n (hj2 _ _ _ ⟨?_, rfl, g4⟩)
          rw [fa_cnt_yes (p := fun o => prB s L k o) (n := d) (show prB s L k d = true by unfold prB; simp at e e2; rw [e, e2]; rfl), nI_1, Nat.add_assoc]
    · rintro j2 x y t ⟨rfl, rfl, g2⟩
      rw [nI_1]
      refine Ok.bT (nI_le (Nat.le_refl _) (by omega)) (hj _ _ _ ⟨by rw [fb_sm_succ], rfl, g2⟩)
  · rintro j x y t ⟨rfl, rfl, g1⟩
    exact Ok.r (r_towers g1) (Ok.bT (nI_le (Nat.le_refl _) (by omega)) (Ok.p ⟨rfl, g1⟩))
theorem m_watchL (h : RV M J Q dr s σ) {v : Nat} (h1 : 1 ≤ v) (hv4 : v ≤ 4) (hL : RulM J Q L) : Ok (fX10_watched σ (M.1 0) (nI v)) (fun r u => r = msk (fun c => decide (v ≤ fa_cnt (fun t => sees s L t c) (qT s))) (qC s) ∧ RV M J Q dr s u) := by
  have h30 := h.2.2.c30
  have h4 := h.2.2.t
  unfold fX10_watched
  refine Ok.r (r_cells h) (Ok.bF (nI_ne0 (by omega) (by omega)) (Ok.cE (f_in _ _ _ _) ?_))
  rw [if_neg (show ¬ nI v < 1 from nI_nlt (b := 1) h1 (by omega)), if_neg (show ¬ (4 : Int32) < nI v from nI_nlt (a := 4) hv4 (by omega))]
  refine Ok.bF (by decide) ?_
  refine Ok.f3 (qC s) 0 (fun k x y τ => x = msk (fun c => decide (v ≤ fa_cnt (fun t => sees s L t c) (qT s))) k ∧ y = nI k ∧ RV M J Q dr s τ) (by omega) (by omega) ⟨rfl, rfl, h⟩ ?_ ?_
  · rintro j k x y τ hk ⟨rfl, rfl, g1⟩ hj
    refine Ok.r (r_cells g1) (Ok.bF (nI_ge hk (by omega)) ?_)
    refine Ok.f3 (qT s) 0 (fun t x y τ => x = nI (fa_cnt (fun t => sees s L t k) t) ∧ y = nI t ∧ RV M J Q dr s τ) (by omega) (by omega) ⟨rfl, rfl, g1⟩ ?_ ?_
    · rintro j2 t x y τ ht ⟨rfl, rfl, g2⟩ hj2
      refine Ok.r (r_towers g2) (Ok.bF (nI_ge ht (by omega)) (Ok.v (nO g2.1) (m_seesNow g2 ht hk hL) ?_))
      rintro r3 t3 ⟨rfl, g3⟩
      refine Ok.j2 ?_
      rw [nI_1]
      refine Ok.bI bI_0 (fun e => ?_) (fun e => ?_)
      · refine Ok.n (hj2 _ _ _ ⟨?_, rfl, g3⟩)
        rw [fa_cnt_no (p := fun t => sees s L t k) e, show (0 : Int32) = nI 0 from rfl, nI_add]; rfl
      · refine Ok.n (hj2 _ _ _ ⟨?_, rfl, g3⟩)
        rw [fa_cnt_yes (p := fun t => sees s L t k) (by simpa using e), nI_1]
    · rintro j2 x y τ ⟨rfl, rfl, g2⟩
      have hle := fa_cnt_le (fun t => sees s L t k) (qT s)
      refine Ok.r (r_towers g2) (Ok.bT (nI_le (Nat.le_refl _) (by omega)) (Ok.j2 ?_))
      rw [nI_1]
      refine Ok.bI (nI_ltI (by omega) (by omega)) (fun e => ?_) (fun e => ?_)
      · exact Ok.n (hj _ _ _ ⟨by simp only [msk]; rw [if_neg (by simp; omega), or0], rfl, g2⟩)
      · exact Ok.n (hj _ _ _ ⟨by simp only [msk]; rw [if_pos (by simp; omega)]; rfl, rfl, g2⟩)
  · rintro j x y τ ⟨rfl, rfl, g1⟩
    exact Ok.r (r_cells g1) (Ok.bT (nI_le (Nat.le_refl _) (by omega)) (Ok.p ⟨rfl, g1⟩))
end
