/-! acts of the reference -/
section
variable {M : Mfg} {dr : Int64} {a : Abs} {σ : St}
theorem ma_refE (h : MA M dr a σ) (k : Nat) (hk : k < 5) {x : Int32 × Abs} (hx : x = (-1, refA a k)) (G : St → Option (Int32 × St)) : Ok (bo 10 σ (M.1 0) (fX10_isRefused σ (M.1 0) (nI k)) (fun x6 t7 => if x6 = 0 then G t7 else some (-1, t7))) (fun r t => r = x.1 ∧ MA M dr x.2 t) := by
  subst hx
  refine Ok.v (ma_O h) (ma_refuse h k hk) ?_
  rintro r t ⟨rfl, q⟩
  exact Ok.bF (by decide) (Ok.p ⟨rfl, q⟩)
theorem ma_refN (h : MA M dr a σ) {P : Int32 → St → Prop} {G : St → Option (Int32 × St)} (hG : Ok (G σ) P) : Ok (bo 10 σ (M.1 0) (fX10_isRefused σ (M.1 0) (-1)) (fun x6 t7 => if x6 = 0 then G t7 else some (-1, t7))) P := Ok.vE (ma_O h) (ma_refNo σ (M.1 0)) (Ok.bT rfl hG)
theorem m_heapBy (h : MA M dr a σ) (ok : NoLd a.2.2.2 ∨ LdOK a.2.2.2) (v px3 : Int32) (lim : Nat) (nw : Nat → Nat) (hlim : lim ≤ 9) (hnw : ∀ g, g ≤ 9 → g ≠ lim → nI g + px3 = nI (nw g)) : Ok (fX10_heapBy σ (M.1 0) v (nI lim) px3) (fun r t => r = (shapeA a v lim nw).1 ∧ MA M dr (shapeA a v lim nw).2 t) := by
  obtain ⟨h30, h4, _, _, hl, _⟩ := okC ok
  unfold fX10_heapBy
  refine Ok.vE (ma_O h) (ma_isCell h (by omega) v) (Ok.j2 ?_)
  rcases ixc v (n := qC (dN a.2.2.2)) (by omega) with ⟨e, hn⟩ | ⟨c, hc, rfl, e⟩
  · rw [decide_eq_false hn]
    exact Ok.bT rfl (ma_refE h 0 (by decide) (by simp only [shapeA, e]) _)
  rw [decide_eq_true (ix_in hc (by omega)), show (0 : Int32) + nI c = nI c from Int32.zero_add _]
  have ok := hl (by omega)
  have okn : ScOK (dN a.2.2.2) := ok.1.1
  have oK : qK (dN a.2.2.2) ≤ 999 := okn.2.2.2.2.2.1
  have og := okn.g hc
  refine Ok.bF (by decide) (Ok.r (ma_nr h) (Ok.r (ma_G h hc (by omega)) (Ok.bI (nI_eq (by omega) (by omega)) (fun q => ?_) (fun q => ?_))))
  · exact ma_refE h 2 (by decide) (by simp only [shapeA, e, if_pos q]) _
  refine Ok.r (ma_nr h) (Ok.r (ma_K h) (Ok.bI (nI_leI (a := 1) (b := qK (dN a.2.2.2)) (by omega) (by omega)) (fun q2 => ?_) (fun q2 => ?_)))
  · refine ma_refN h (Ok.v (ma_O h) (ma_keep h ok) ?_)
    intro w t1 h1
    refine Ok.r (ma_nr h1) (Ok.r (ma_K h1) ?_)
    show Ok ((sI 0 t1 (M.1 28) 40 (nI (qK (dN a.2.2.2)) - 1)).bind _) _
    rw [show nI (qK (dN a.2.2.2)) - 1 = nI (qK (dN a.2.2.2) - 1) from pk_sub (b := 1) q2]
    refine Ok.w (h1.setF 5 _ (by decide) h4 h30) ?_
    intro t2 h2
    refine Ok.r (ma_nr h2) (Ok.r (ma_G h2 hc (by omega)) ?_)
    show Ok ((sI 0 t2 (M.1 28) (nI c) (nI (qG (dN a.2.2.2) c) + px3)).bind _) _
    rw [hnw _ og q]
    refine Ok.w (h2.setG c _ (by omega)) ?_
    intro t3 h3
    refine Ok.r (ma_nr h3) (Ok.r (ma_G h3 hc (by omega)) (Ok.p ?_))
    simp only [shapeA, e, if_neg q, if_pos q2]
    refine ⟨?_, h3⟩
    show nI (updN _ c _ c) = _
    unfold updN
    rw [if_pos rfl]
  · exact ma_refE h 3 (by decide) (by simp only [shapeA, e, if_neg q, if_neg q2]) _
theorem m_heap (h : MA M dr a σ) (ok : NoLd a.2.2.2 ∨ LdOK a.2.2.2) (v : Int32) : Ok (fX10_heap σ (M.1 0) v) (fun r t => r = (shapeA a v 9 (· + 1)).1 ∧ MA M dr (shapeA a v 9 (· + 1)).2 t) := Ok.v (ma_O h) (m_heapBy h ok v 1 9 (· + 1) (by decide) (fun g _ _ => nI_1 g)) (fun r t q => Ok.p q)
theorem m_dig (h : MA M dr a σ) (ok : NoLd a.2.2.2 ∨ LdOK a.2.2.2) (v : Int32) : Ok (fX10_dig σ (M.1 0) v) (fun r t => r = (shapeA a v 0 (· - 1)).1 ∧ MA M dr (shapeA a v 0 (· - 1)).2 t) := Ok.v (ma_O h) (m_heapBy h ok v (-1) 0 (· - 1) (by decide) (fun g h1 h2 => dec_i g (by omega) h2)) (fun r t q => Ok.p q)
theorem m_mast (h : MA M dr a σ) (ok : NoLd a.2.2.2 ∨ LdOK a.2.2.2) (v : Int32) : Ok (fX10_mast σ (M.1 0) v) (fun r t => r = (mastA a v).1 ∧ MA M dr (mastA a v).2 t) := by
  obtain ⟨h30, h4, _, _, _, hl⟩ := okC ok
  unfold fX10_mast
  refine Ok.vE (ma_O h) (ma_isTower h (by omega) v) (Ok.j2 ?_)
  rcases ixc v (n := qT (dN a.2.2.2)) (by omega) with ⟨e, hn⟩ | ⟨c, hc, rfl, e⟩
  · rw [decide_eq_false hn]
    exact Ok.bT rfl (ma_refE h 0 (by decide) (by simp only [mastA, e]) _)
  rw [decide_eq_true (ix_in hc (by omega)), show (34 : Int32) + nI c = nI (34 + c) from nI_add 34 c]
  have ok := hl (by omega)
  have okn : ScOK (dN a.2.2.2) := ok.1.1
  have oK : qK (dN a.2.2.2) ≤ 999 := okn.2.2.2.2.2.1
  have om := okn.m hc
  refine Ok.bF (by decide) (Ok.r (ma_nr h) (Ok.r (ma_M h hc (by omega)) (Ok.bI (nI_eq (b := 9) (by omega) (by omega)) (fun q => ?_) (fun q => ?_))))
  · exact ma_refE h 2 (by decide) (by simp only [mastA, e, if_neg (show ¬ qM (dN a.2.2.2) c < 9 by omega)]) _
  have q1 : qM (dN a.2.2.2) c < 9 := by omega
  refine Ok.r (ma_nr h) (Ok.r (ma_K h) (Ok.bI (nI_leI (a := 2) (b := qK (dN a.2.2.2)) (by omega) (by omega)) (fun q2 => ?_) (fun q2 => ?_)))
  · refine ma_refN h (Ok.v (ma_O h) (ma_keep h ok) ?_)
    intro w t1 h1
    refine Ok.r (ma_nr h1) (Ok.r (ma_K h1) ?_)
    show Ok ((sI 0 t1 (M.1 28) 40 (nI (qK (dN a.2.2.2)) - 2)).bind _) _
    rw [show nI (qK (dN a.2.2.2)) - 2 = nI (qK (dN a.2.2.2) - 2) from pk_sub (b := 2) q2]
    refine Ok.w (h1.setF 5 _ (by decide) h4 h30) ?_
    intro t2 h2
    refine Ok.r (ma_nr h2) (Ok.r (ma_M h2 hc (by omega)) ?_)
    show Ok ((sI 0 t2 (M.1 28) (nI (34 + c)) (nI (qM (dN a.2.2.2) c) + 1)).bind _) _
    rw [nI_1]
    refine Ok.w (h2.setM c _ (by omega) h4 h30) ?_
    intro t3 h3
    refine Ok.r (ma_nr h3) (Ok.r (ma_M h3 hc (by omega)) (Ok.p ?_))
    simp only [mastA, e, if_pos q1, if_pos q2]
    refine ⟨?_, h3⟩
    show nI (updN _ c _ c) = _
    unfold updN
    rw [if_pos rfl]
  · exact ma_refE h 3 (by decide) (by simp only [mastA, e, if_pos q1, if_neg q2]) _
theorem m_moves (h : MA M dr a σ) (ok : NoLd a.2.2.2 ∨ LdOK a.2.2.2) (v w : Int32) : Ok (fX10_moves σ (M.1 0) v w) (fun r t => r = (movesA a v w).1 ∧ MA M dr (movesA a v w).2 t) := by
  obtain ⟨h30, h4, _, _, _, hl⟩ := okC ok
  unfold fX10_moves
  refine Ok.vE (ma_O h) (ma_isTower h (by omega) v) (Ok.j3 ?_)
  rcases ixc v (n := qT (dN a.2.2.2)) (by omega) with ⟨e, hn⟩ | ⟨t, ht, rfl, e⟩
  · rw [decide_eq_false hn]
    exact Ok.bT rfl (ma_refE h 0 (by decide) (by simp only [movesA, e]) _)
  rw [decide_eq_true (ix_in ht (by omega)), show (30 : Int32) + nI t = nI (30 + t) from nI_add 30 t]
  have ok := hl (by omega)
  have okn : ScOK (dN a.2.2.2) := ok.1.1
  have oK : qK (dN a.2.2.2) ≤ 999 := okn.2.2.2.2.2.1
  have op := okn.p ht
  refine Ok.bF (by decide) (Ok.vE (ma_O h) (ma_isCell h (by omega) w) ?_)
  rcases ixc w (n := qC (dN a.2.2.2)) (by omega) with ⟨e2, hn⟩ | ⟨c, hc, rfl, e2⟩
  · rw [decide_eq_false hn]
    exact Ok.bT rfl (ma_refE h 1 (by decide) (by simp only [movesA, e, e2]) _)
  rw [decide_eq_true (ix_in hc (by omega))]
  refine Ok.bF (by decide) (Ok.r (ma_nr h) (Ok.r (ma_P h ht (by omega)) (Ok.bI (nI_eq (by omega) (by omega)) (fun q => ?_) (fun q => ?_))))
  · exact ma_refE h 2 (by decide) (by simp only [movesA, e, e2, if_pos q]) _
  refine Ok.r (ma_nr h) (Ok.r (ma_K h) (Ok.bI (nI_leI (a := 3) (b := qK (dN a.2.2.2)) (by omega) (by omega)) (fun q2 => ?_) (fun q2 => ?_)))
  · refine ma_refN h (Ok.v (ma_O h) (ma_keep h ok) ?_)
    intro w t1 h1
    refine Ok.r (ma_nr h1) (Ok.r (ma_P h1 ht (by omega)) (Ok.r (ma_nr h1) (Ok.r (ma_K h1) ?_)))
    show Ok ((sI 0 t1 (M.1 28) 40 (nI (qK (dN a.2.2.2)) - 3)).bind _) _
    rw [show nI (qK (dN a.2.2.2)) - 3 = nI (qK (dN a.2.2.2) - 3) from pk_sub (b := 3) q2]
    refine Ok.w (h1.setF 5 _ (by decide) h4 h30) ?_
    intro t2 h2
    refine Ok.r (ma_nr h2) (Ok.w (h2.setP t c (by omega) h4 h30) ?_)
    intro t3 h3
    refine Ok.p ?_
    simp only [movesA, e, e2, if_neg q, if_pos q2]
    exact ⟨rfl, h3⟩
  · exact ma_refE h 3 (by decide) (by simp only [movesA, e, e2, if_neg q, if_neg q2]) _
theorem m_fog (h : MA M dr a σ) (ok : NoLd a.2.2.2 ∨ LdOK a.2.2.2) (v : Int32) : Ok (fX10_fog σ (M.1 0) v) (fun r t => r = (fogA a v).1 ∧ MA M dr (fogA a v).2 t) := by
  obtain ⟨h30, h4, _, _, hl, _⟩ := okC ok
  unfold fX10_fog
  refine Ok.r (ma_cells h) (Ok.j3 (Ok.bI (nI_eq (b := 0) (by omega) (by omega)) (fun e => ?_) (fun e => ?_)))
  · exact ma_refE h 0 (by decide) (by simp only [fogA, if_pos e]) _
  have ok := hl (by omega)
  have okn : ScOK (dN a.2.2.2) := ok.1.1
  have oF := okn.f
  refine Ok.cE (show fX10_in σ v 0 9 = some (bI (decide (¬ v < 0 ∧ v < nI 10)), σ) from f_inN σ v (n := 10) (by decide)) ?_
  rcases ixc v (n := 10) (by omega) with ⟨e2, hn⟩ | ⟨f, hf, rfl, e2⟩
  · rw [decide_eq_false hn]
    exact Ok.bT rfl (ma_refE h 1 (by decide) (by simp only [fogA, if_neg e, e2]) _)
  rw [decide_eq_true (ix_in hf (by decide))]
  refine Ok.bF (by decide) (Ok.r (ma_nr h) (Ok.r (ma_F h) (Ok.bI (nI_eq (a := qF (dN a.2.2.2)) (by omega) (by omega)) (fun q => ?_) (fun q => ?_))))
  · exact ma_refE h 2 (by decide) (by simp only [fogA, if_neg e, e2, if_pos q]) _
  · refine ma_refN h (Ok.v (ma_O h) (ma_keep h ok) ?_)
    intro w t1 h1
    refine Ok.r (ma_nr h1) (Ok.r (ma_F h1) (Ok.r (ma_nr h1) (Ok.w (h1.setF 4 f (by decide) h4 h30) ?_)))
    intro t2 h2
    refine Ok.p ?_
    simp only [fogA, if_neg e, e2, if_neg q]
    exact ⟨rfl, h2⟩
theorem m_oath (h : MA M dr a σ) (ok : NoLd a.2.2.2 ∨ LdOK a.2.2.2) (v : Int32) : Ok (fX10_oath σ (M.1 0) v) (fun r t => r = (oathA a v).1 ∧ MA M dr (oathA a v).2 t) := by
  obtain ⟨h30, h4, _, _, _, hl⟩ := okC ok
  unfold fX10_oath
  refine Ok.vE (ma_O h) (ma_isTower h (by omega) v) (Ok.j2 ?_)
  rcases ixc v (n := qT (dN a.2.2.2)) (by omega) with ⟨e, hn⟩ | ⟨t, ht, rfl, e⟩
  · rw [decide_eq_false hn]
    exact Ok.bT rfl (ma_refE h 0 (by decide) (by simp only [oathA, e]) _)
  rw [decide_eq_true (ix_in ht (by omega))]
  have ok := hl (by omega)
  have okn : ScOK (dN a.2.2.2) := ok.1.1
  obtain ⟨d1, d2, d3⟩ := oath_d _ okn.2.2.2.2.2.2.2.1 t (by omega)
  refine Ok.bF (by decide) (ma_refN h (Ok.v (ma_O h) (ma_keep h ok) ?_))
  intro w t1 h1
  refine Ok.r (ma_nr h1) (Ok.r (ma_B h1) ?_)
  show Ok ((sI 0 t1 (M.1 28) 38 (nI (qB (dN a.2.2.2)) ^^^ (1 <<< (nI t &&& 31)))).bind _) _
  rw [d1]
  refine Ok.w (h1.setF 7 _ (by decide) h4 h30) ?_
  intro t2 h2
  refine Ok.r (ma_nr h2) (Ok.r (ma_B h2) (Ok.p ?_))
  simp only [oathA, e]
  exact ⟨d2, h2⟩
theorem m_give (h : MA M dr a σ) (ok : NoLd a.2.2.2 ∨ LdOK a.2.2.2) (v : Int32) : Ok (fX10_give σ (M.1 0) v) (fun r t => r = (giveA a v).1 ∧ MA M dr (giveA a v).2 t) := by
  obtain ⟨h30, h4, _, _, hl, _⟩ := okC ok
  unfold fX10_give
  refine Ok.r (ma_cells h) (Ok.j3 (Ok.bI (nI_eq (b := 0) (by omega) (by omega)) (fun e => ?_) (fun e => ?_)))
  · exact ma_refE h 0 (by decide) (by simp only [giveA, if_pos e]) _
  have ok := hl (by omega)
  have okn : ScOK (dN a.2.2.2) := ok.1.1
  have oK : qK (dN a.2.2.2) ≤ 999 := okn.2.2.2.2.2.1
  refine Ok.cE (f_in _ _ _ _) (Ok.j1 ?_)
  by_cases q1 : v < 1
  · rw [if_pos q1]
    exact Ok.bT rfl (ma_refE h 1 (by decide) (by simp only [giveA, if_neg e, if_pos q1]) _)
  rw [if_neg q1]
  by_cases q2 : 50 < v
  · rw [if_pos q2]
    exact Ok.bT rfl (ma_refE h 1 (by decide) (by simp only [giveA, if_neg e, if_neg q1, if_pos q2]) _)
  rw [if_neg q2]
  obtain ⟨j, j1, j2, rfl⟩ := rngI 1 50 (by decide) (by decide) q1 q2
  have jc : (nI j).toNatClampNeg = j := nI_clamp (by omega)
  refine Ok.bF (by decide) (Ok.r (ma_nr h) (Ok.r (ma_K h) ?_))
  rw [nI_add]
  refine Ok.bI (nI_leI (b := 999) (by omega) (by omega)) (fun q => ?_) (fun q => ?_)
  · refine ma_refN h (Ok.v (ma_O h) (ma_keep h ok) ?_)
    intro w t1 h1
    refine Ok.r (ma_nr h1) (Ok.r (ma_K h1) ?_)
    show Ok ((sI 0 t1 (M.1 28) 40 (nI (qK (dN a.2.2.2)) + nI j)).bind _) _
    rw [nI_add]
    refine Ok.w (h1.setF 5 _ (by decide) h4 h30) ?_
    intro t2 h2
    refine Ok.r (ma_nr h2) (Ok.r (ma_K h2) (Ok.p ?_))
    simp only [giveA, if_neg e, if_neg q1, if_neg q2, jc, if_pos q]
    exact ⟨rfl, h2⟩
  · exact ma_refE h 1 (by decide) (by simp only [giveA, if_neg e, if_neg q1, if_neg q2, jc, if_neg q]) _
theorem m_areHours (h : MA M dr a σ) (hu : qU (dN a.2.2.2) ≤ 19999) {j : Nat} (j1 : 1 ≤ j) (j2 : j ≤ 60) : fX10_areHours σ (M.1 0) (nI j) = some (bI (decide (qU (dN a.2.2.2) + j ≤ 9999)), σ) := by
  refine Ok.toE ?_
  unfold fX10_areHours
  refine Ok.cE (f_in _ _ _ _) ?_
  rw [if_neg (show ¬ nI j < 1 from nI_nlt (b := 1) j1 (by omega)), if_neg (show ¬ (60 : Int32) < nI j from nI_nlt (a := 60) j2 (by omega))]
  refine Ok.bF (by decide) (Ok.r (ma_nr h) (Ok.r (ma_U h) ?_))
  rw [nI_add]
  refine Ok.bI (nI_ltI (a := 9999) (by omega) (by omega)) (fun q => ?_) (fun q => ?_)
  · exact Ok.p ⟨by rw [decide_eq_false (by omega)]; rfl, rfl⟩
  · exact Ok.p ⟨by rw [decide_eq_true (by omega)]; rfl, rfl⟩
theorem m_hours (h : MA M dr a σ) (ok : NoLd a.2.2.2 ∨ LdOK a.2.2.2) (v : Int32) : Ok (fX10_hours σ (M.1 0) v) (fun r t => r = (hoursA a v).1 ∧ MA M dr (hoursA a v).2 t) := by
  obtain ⟨h30, h4, hu, _, hl, _⟩ := okC ok
  unfold fX10_hours
  refine Ok.r (ma_cells h) (Ok.j3 (Ok.bI (nI_eq (b := 0) (by omega) (by omega)) (fun e => ?_) (fun e => ?_)))
  · exact ma_refE h 0 (by decide) (by simp only [hoursA, if_pos e]) _
  have ok := hl (by omega)
  refine Ok.cE (f_in _ _ _ _) ?_
  by_cases q1 : v < 1
  · rw [if_pos q1]
    exact Ok.bT rfl (ma_refE h 1 (by decide) (by simp only [hoursA, if_neg e, if_pos q1]) _)
  rw [if_neg q1]
  by_cases q2 : 60 < v
  · rw [if_pos q2]
    exact Ok.bT rfl (ma_refE h 1 (by decide) (by simp only [hoursA, if_neg e, if_neg q1, if_pos q2]) _)
  rw [if_neg q2]
  obtain ⟨j, j1, j2, rfl⟩ := rngI 1 60 (by decide) (by decide) q1 q2
  have jc : (nI j).toNatClampNeg = j := nI_clamp (by omega)
  refine Ok.bF (by decide) (Ok.vE (ma_O h) (m_areHours h hu j1 j2) (Ok.bI bI_0 (fun q => ?_) (fun q => ?_)))
  · have q' : ¬ qU (dN a.2.2.2) + j ≤ 9999 := of_decide_eq_false q
    exact ma_refE h 4 (by decide) (by simp only [hoursA, if_neg e, if_neg q1, if_neg q2, jc, if_neg q']) _
  · have q' : qU (dN a.2.2.2) + j ≤ 9999 := by simpa using q
    refine ma_refN h ?_
    refine Ok.f2 j 0 (fun k x t => x = nI k ∧ MA M dr (setD a (hrsD (rul a.2.1) k a.2.2.2)) t) (by omega) (by omega) ⟨rfl, h⟩ ?_ ?_
    · rintro jj k x t hk ⟨rfl, h1⟩ hj
      obtain ⟨o1, o2⟩ := hrs_ok ok (rul a.2.1) k (by omega)
      refine Ok.bF (nI_ge hk (by omega)) (Ok.v (ma_O h1) (ma_keep h1 o1) ?_)
      intro w t2 h2
      obtain ⟨o3, o4⟩ := o1.keep
      refine Ok.v (ma_O h2) (ma_pass h2 o3) ?_
      intro w t3 h3
      rw [nI_1]
      exact hj _ _ ⟨rfl, h3⟩
    · rintro jj x t ⟨rfl, h1⟩
      obtain ⟨o1, o2⟩ := hrs_ok ok (rul a.2.1) j (by omega)
      refine Ok.bT (nI_le (Nat.le_refl _) (by omega)) (Ok.r (ma_nr h1) (Ok.r (ma_U h1) (Ok.p ?_)))
      simp only [hoursA, if_neg e, if_neg q1, if_neg q2, jc, if_pos q']
      exact ⟨congrArg nI o2, h1⟩
end
