/-! acts of the class -/
section
variable {K : Cfg} {dr : Int64} {a : Abs} {σ : St}
theorem ca_refE (h : CA K dr a σ) (k : Nat) (hk : k < 5) {x : Int32 × Abs} (hx : x = (-1, refA a k)) : Ok (bo 9 σ (K.1 0) (fX9_refuse σ (K.1 0) (nI k)) (fun x t => some (x, t))) (fun r t => r = x.1 ∧ CA K dr x.2 t) := by
  subst hx
  exact Ok.v (ca_O h) (ca_refuse h k hk) (fun r t q => Ok.p q)
theorem c_reshape (h : CA K dr a σ) (ok : NoLd a.2.2.2 ∨ LdOK a.2.2.2) (v px2 : Int32) (lim : Nat) (nw : Nat → Nat) (hlim : lim ≤ 9) (hnw : ∀ g, g ≤ 9 → g ≠ lim → nI g + px2 = nI (nw g)) : Ok (fX9_reshape σ (K.1 0) v px2 (nI lim)) (fun r t => r = (shapeA a v lim nw).1 ∧ CA K dr (shapeA a v lim nw).2 t) := by
  obtain ⟨h30, h4, _, _, hl, _⟩ := okC ok
  unfold fX9_reshape
  refine Ok.r (ca_now h) (Ok.vE (ca_O7 h) (ca_hasCell h v) ?_)
  rcases ixc v (n := qC (dN a.2.2.2)) (by omega) with ⟨e, hn⟩ | ⟨c, hc, rfl, e⟩
  · rw [decide_eq_false hn]
    exact Ok.bT rfl (ca_refE h 0 (by decide) (by simp only [shapeA, e]))
  rw [decide_eq_true (ix_in hc (by omega))]
  have ok := hl (by omega)
  have okn : ScOK (dN a.2.2.2) := ok.1.1
  have oK : qK (dN a.2.2.2) ≤ 999 := okn.2.2.2.2.2.1
  have og := okn.g hc
  refine Ok.bF (by decide) (Ok.r (ca_now h) (Ok.r (ca_gr h) (Ok.r (ca_G h hc (by omega)) (Ok.bI (nI_eq (by omega) (by omega)) (fun q => ?_) (fun q => ?_)))))
  · exact ca_refE h 2 (by decide) (by simp only [shapeA, e, if_pos q])
  refine Ok.r (ca_now h) (Ok.r (ca_f h 5 (by decide)) (Ok.bI (nI_leI (a := 1) (b := qK (dN a.2.2.2)) (by omega) (by omega)) (fun q2 => ?_) (fun q2 => ?_)))
  · have hk := ok.keep
    refine Ok.r (ca_past h) (Ok.r (ca_now h) (Ok.v (ca_O5 h) (ca_keep h ok) ?_))
    intro w t1 h1
    refine Ok.r (ca_now h1) (Ok.r (ca_f h1 5 (by decide)) ?_)
    show Ok ((pV 7 5 t1 (K.1 11) (.int (nI (qK (dN a.2.2.2)) - 1))).bind _) _
    rw [show nI (qK (dN a.2.2.2)) - 1 = nI (qK (dN a.2.2.2) - 1) from pk_sub (b := 1) q2]
    refine Ok.w (h1.setF 5 _ (by decide)) ?_
    intro t2 h2
    refine Ok.r (ca_now h2) (Ok.r (ca_gr h2) (Ok.r (ca_G h2 hc (by omega)) ?_))
    show Ok ((sI 0 t2 (K.1 12) (nI c) (nI (qG (dN a.2.2.2) c) + px2)).bind _) _
    rw [hnw _ og q]
    refine Ok.w (h2.setG c _ (by omega)) ?_
    intro t3 h3
    refine Ok.r (ca_now h3) (Ok.r (ca_gr h3) (Ok.r (ca_G h3 hc (by omega)) (Ok.p ?_)))
    simp only [shapeA, e, if_neg q, if_pos q2]
    refine ⟨?_, h3⟩
    show nI (updN _ c _ c) = _
    unfold updN
    rw [if_pos rfl]
  · exact ca_refE h 3 (by decide) (by simp only [shapeA, e, if_neg q, if_neg q2])
theorem c_heap (h : CA K dr a σ) (ok : NoLd a.2.2.2 ∨ LdOK a.2.2.2) (v : Int32) : Ok (fX9_heap σ (K.1 0) v) (fun r t => r = (shapeA a v 9 (· + 1)).1 ∧ CA K dr (shapeA a v 9 (· + 1)).2 t) := Ok.v (ca_O h) (c_reshape h ok v 1 9 (· + 1) (by decide) (fun g _ _ => nI_1 g)) (fun r t q => Ok.p q)
theorem dec_i : ∀ g, g < 10 → g ≠ 0 → nI g + (-1) = nI (g - 1) := by decide +kernel
theorem c_dig (h : CA K dr a σ) (ok : NoLd a.2.2.2 ∨ LdOK a.2.2.2) (v : Int32) : Ok (fX9_dig σ (K.1 0) v) (fun r t => r = (shapeA a v 0 (· - 1)).1 ∧ CA K dr (shapeA a v 0 (· - 1)).2 t) := Ok.v (ca_O h) (c_reshape h ok v (-1) 0 (· - 1) (by decide) (fun g h1 h2 => dec_i g (by omega) h2)) (fun r t q => Ok.p q)
theorem c_mast (h : CA K dr a σ) (ok : NoLd a.2.2.2 ∨ LdOK a.2.2.2) (v : Int32) : Ok (fX9_mast σ (K.1 0) v) (fun r t => r = (mastA a v).1 ∧ CA K dr (mastA a v).2 t) := by
  obtain ⟨h30, h4, _, _, _, hl⟩ := okC ok
  unfold fX9_mast
  refine Ok.r (ca_now h) (Ok.vE (ca_O7 h) (ca_hasTower h v) ?_)
  rcases ixc v (n := qT (dN a.2.2.2)) (by omega) with ⟨e, hn⟩ | ⟨c, hc, rfl, e⟩
  · rw [decide_eq_false hn]
    exact Ok.bT rfl (ca_refE h 0 (by decide) (by simp only [mastA, e]))
  rw [decide_eq_true (ix_in hc (by omega))]
  have ok := hl (by omega)
  have okn : ScOK (dN a.2.2.2) := ok.1.1
  have oK : qK (dN a.2.2.2) ≤ 999 := okn.2.2.2.2.2.1
  have om := okn.m hc
  refine Ok.bF (by decide) (Ok.r (ca_now h) (Ok.r (ca_mr h) (Ok.r (ca_M h hc (by omega)) (Ok.bI (nI_ltI (b := 9) (by omega) (by omega)) (fun q => ?_) (fun q => ?_)))))
  · refine Ok.r (ca_now h) (Ok.r (ca_f h 5 (by decide)) (Ok.bI (nI_leI (a := 2) (b := qK (dN a.2.2.2)) (by omega) (by omega)) (fun q2 => ?_) (fun q2 => ?_)))
    · refine Ok.r (ca_past h) (Ok.r (ca_now h) (Ok.v (ca_O5 h) (ca_keep h ok) ?_))
      intro w t1 h1
      refine Ok.r (ca_now h1) (Ok.r (ca_f h1 5 (by decide)) ?_)
      show Ok ((pV 7 5 t1 (K.1 11) (.int (nI (qK (dN a.2.2.2)) - 2))).bind _) _
      rw [show nI (qK (dN a.2.2.2)) - 2 = nI (qK (dN a.2.2.2) - 2) from pk_sub (b := 2) q2]
      refine Ok.w (h1.setF 5 _ (by decide)) ?_
      intro t2 h2
      refine Ok.r (ca_now h2) (Ok.r (ca_mr h2) (Ok.r (ca_M h2 hc (by omega)) ?_))
      show Ok ((sI 0 t2 (K.1 14) (nI c) (nI (qM (dN a.2.2.2) c) + 1)).bind _) _
      rw [nI_1]
      refine Ok.w (h2.setM c _ (by omega)) ?_
      intro t3 h3
      refine Ok.r (ca_now h3) (Ok.r (ca_mr h3) (Ok.r (ca_M h3 hc (by omega)) (Ok.p ?_)))
      simp only [mastA, e, if_pos q, if_pos q2]
      refine ⟨?_, h3⟩
      show nI (updN _ c _ c) = _
      unfold updN
      rw [if_pos rfl]
    · exact ca_refE h 3 (by decide) (by simp only [mastA, e, if_pos q, if_neg q2])
  · exact ca_refE h 2 (by decide) (by simp only [mastA, e, if_neg q])
theorem c_moves (h : CA K dr a σ) (ok : NoLd a.2.2.2 ∨ LdOK a.2.2.2) (v w : Int32) : Ok (fX9_moves σ (K.1 0) v w) (fun r t => r = (movesA a v w).1 ∧ CA K dr (movesA a v w).2 t) := by
  obtain ⟨h30, h4, _, _, _, hl⟩ := okC ok
  unfold fX9_moves
  refine Ok.r (ca_now h) (Ok.vE (ca_O7 h) (ca_hasTower h v) ?_)
  rcases ixc v (n := qT (dN a.2.2.2)) (by omega) with ⟨e, hn⟩ | ⟨t, ht, rfl, e⟩
  · rw [decide_eq_false hn]
    exact Ok.bT rfl (ca_refE h 0 (by decide) (by simp only [movesA, e]))
  rw [decide_eq_true (ix_in ht (by omega))]
  have ok := hl (by omega)
  have okn : ScOK (dN a.2.2.2) := ok.1.1
  have oK : qK (dN a.2.2.2) ≤ 999 := okn.2.2.2.2.2.1
  have op := okn.p ht
  refine Ok.bF (by decide) (Ok.r (ca_now h) (Ok.vE (ca_O7 h) (ca_hasCell h w) ?_))
  rcases ixc w (n := qC (dN a.2.2.2)) (by omega) with ⟨e2, hn⟩ | ⟨c, hc, rfl, e2⟩
  · rw [decide_eq_false hn]
    exact Ok.bT rfl (ca_refE h 1 (by decide) (by simp only [movesA, e, e2]))
  rw [decide_eq_true (ix_in hc (by omega))]
  refine Ok.bF (by decide) (Ok.r (ca_now h) (Ok.r (ca_pr h) (Ok.r (ca_P h ht (by omega)) (Ok.bI (nI_eq (by omega) (by omega)) (fun q => ?_) (fun q => ?_)))))
  · exact ca_refE h 2 (by decide) (by simp only [movesA, e, e2, if_pos q])
  refine Ok.r (ca_now h) (Ok.r (ca_f h 5 (by decide)) (Ok.bI (nI_leI (a := 3) (b := qK (dN a.2.2.2)) (by omega) (by omega)) (fun q2 => ?_) (fun q2 => ?_)))
  · refine Ok.r (ca_past h) (Ok.r (ca_now h) (Ok.v (ca_O5 h) (ca_keep h ok) ?_))
    intro w t1 h1
    refine Ok.r (ca_now h1) (Ok.r (ca_pr h1) (Ok.r (ca_P h1 ht (by omega)) (Ok.r (ca_now h1) (Ok.r (ca_f h1 5 (by decide)) ?_))))
    show Ok ((pV 7 5 t1 (K.1 11) (.int (nI (qK (dN a.2.2.2)) - 3))).bind _) _
    rw [show nI (qK (dN a.2.2.2)) - 3 = nI (qK (dN a.2.2.2) - 3) from pk_sub (b := 3) q2]
    refine Ok.w (h1.setF 5 _ (by decide)) ?_
    intro t2 h2
    refine Ok.r (ca_now h2) (Ok.r (ca_pr h2) (Ok.w (h2.setP t c (by omega)) ?_))
    intro t3 h3
    refine Ok.p ?_
    simp only [movesA, e, e2, if_neg q, if_pos q2]
    exact ⟨rfl, h3⟩
  · exact ca_refE h 3 (by decide) (by simp only [movesA, e, e2, if_neg q, if_neg q2])
theorem c_fog (h : CA K dr a σ) (ok : NoLd a.2.2.2 ∨ LdOK a.2.2.2) (v : Int32) : Ok (fX9_fog σ (K.1 0) v) (fun r t => r = (fogA a v).1 ∧ CA K dr (fogA a v).2 t) := by
  obtain ⟨h30, h4, _, _, hl, _⟩ := okC ok
  unfold fX9_fog
  refine Ok.vE (ca_O h) (ca_noLand h (by omega)) ?_
  by_cases e : qC (dN a.2.2.2) = 0
  · rw [decide_eq_true e]
    exact Ok.bF (by decide) (ca_refE h 0 (by decide) (by simp only [fogA, if_pos e]))
  rw [decide_eq_false e]
  have ok := hl (by omega)
  have okn : ScOK (dN a.2.2.2) := ok.1.1
  have oF := okn.f
  refine Ok.bT rfl (Ok.j1 ?_)
  rcases ixc v (n := 10) (by omega) with ⟨e2, hn⟩ | ⟨f, hf, rfl, e2⟩
  · have R1 := ca_refE h 1 (by decide) (x := fogA a v) (by simp only [fogA, if_neg e, e2])
    refine Ok.b (fun _ => R1) (fun q => Ok.bF (fun q2 => hn ⟨q, ?_⟩) R1)
    rw [Int32.le_iff_toInt_le] at q2
    rw [Int32.lt_iff_toInt_lt, show (nI 10).toInt = 10 from rfl]
    have : (9 : Int32).toInt = 9 := rfl
    omega
  refine Ok.bF (nI_pos (by omega)) (Ok.bT (show nI f ≤ nI 9 from nI_le (by omega) (by decide)) (Ok.r (ca_now h) (Ok.r (ca_f h 4 (by decide)) (Ok.bI (nI_eq (a := qF (dN a.2.2.2)) (by omega) (by omega)) (fun q => ?_) (fun q => ?_)))))
  · exact ca_refE h 2 (by decide) (by simp only [fogA, if_neg e, e2, if_pos q])
  · refine Ok.r (ca_past h) (Ok.r (ca_now h) (Ok.v (ca_O5 h) (ca_keep h ok) ?_))
    intro w t1 h1
    refine Ok.r (ca_now h1) (Ok.r (ca_f h1 4 (by decide)) (Ok.r (ca_now h1) (Ok.w (h1.setF 4 f (by decide)) ?_)))
    intro t2 h2
    refine Ok.p ?_
    simp only [fogA, if_neg e, e2, if_neg q]
    exact ⟨rfl, h2⟩
theorem c_oath (h : CA K dr a σ) (ok : NoLd a.2.2.2 ∨ LdOK a.2.2.2) (v : Int32) : Ok (fX9_oath σ (K.1 0) v) (fun r t => r = (oathA a v).1 ∧ CA K dr (oathA a v).2 t) := by
  obtain ⟨h30, h4, _, _, _, hl⟩ := okC ok
  unfold fX9_oath
  refine Ok.r (ca_now h) (Ok.vE (ca_O7 h) (ca_hasTower h v) ?_)
  rcases ixc v (n := qT (dN a.2.2.2)) (by omega) with ⟨e, hn⟩ | ⟨t, ht, rfl, e⟩
  · rw [decide_eq_false hn]
    exact Ok.bT rfl (ca_refE h 0 (by decide) (by simp only [oathA, e]))
  rw [decide_eq_true (ix_in ht (by omega))]
  have ok := hl (by omega)
  have okn : ScOK (dN a.2.2.2) := ok.1.1
  obtain ⟨d1, d2, d3⟩ := oath_d _ okn.2.2.2.2.2.2.2.1 t (by omega)
  refine Ok.bF (by decide) (Ok.r (ca_past h) (Ok.r (ca_now h) (Ok.v (ca_O5 h) (ca_keep h ok) ?_)))
  intro w t1 h1
  refine Ok.r (ca_now h1) (Ok.r (ca_f h1 7 (by decide)) ?_)
  show Ok ((pV 7 7 t1 (K.1 11) (.int (nI (qB (dN a.2.2.2)) ^^^ (1 <<< (nI t &&& 31))))).bind _) _
  rw [d1]
  refine Ok.w (h1.setF 7 _ (by decide)) ?_
  intro t2 h2
  refine Ok.r (ca_now h2) (Ok.r (ca_f h2 7 (by decide)) (Ok.p ?_))
  simp only [oathA, e]
  exact ⟨d2, h2⟩
theorem c_give (h : CA K dr a σ) (ok : NoLd a.2.2.2 ∨ LdOK a.2.2.2) (v : Int32) : Ok (fX9_give σ (K.1 0) v) (fun r t => r = (giveA a v).1 ∧ CA K dr (giveA a v).2 t) := by
  obtain ⟨h30, h4, _, _, hl, _⟩ := okC ok
  unfold fX9_give
  refine Ok.vE (ca_O h) (ca_noLand h (by omega)) ?_
  by_cases e : qC (dN a.2.2.2) = 0
  · rw [decide_eq_true e]
    exact Ok.bF (by decide) (ca_refE h 0 (by decide) (by simp only [giveA, if_pos e]))
  rw [decide_eq_false e]
  have ok := hl (by omega)
  have okn : ScOK (dN a.2.2.2) := ok.1.1
  have oK : qK (dN a.2.2.2) ≤ 999 := okn.2.2.2.2.2.1
  refine Ok.bT rfl (Ok.j1 (Ok.b (fun q1 => ?_) (fun q1 => Ok.b (fun q2 => ?_) (fun q2 => ?_))))
  · exact ca_refE h 1 (by decide) (by simp only [giveA, if_neg e, if_pos q1])
  · exact ca_refE h 1 (by decide) (by simp only [giveA, if_neg e, if_neg q1, if_pos q2])
  obtain ⟨j, j1, j2, rfl⟩ := rngI 1 50 (by decide) (by decide) q1 q2
  have jc : (nI j).toNatClampNeg = j := nI_clamp (by omega)
  refine Ok.r (ca_now h) (Ok.r (ca_f h 5 (by decide)) ?_)
  show Ok (if nI (qK (dN a.2.2.2)) + nI j ≤ 999 then _ else _) _
  rw [nI_add]
  refine Ok.bI (nI_leI (b := 999) (by omega) (by omega)) (fun q => ?_) (fun q => ?_)
  · refine Ok.r (ca_past h) (Ok.r (ca_now h) (Ok.v (ca_O5 h) (ca_keep h ok) ?_))
    intro w t1 h1
    refine Ok.r (ca_now h1) (Ok.r (ca_f h1 5 (by decide)) ?_)
    show Ok ((pV 7 5 t1 (K.1 11) (.int (nI (qK (dN a.2.2.2)) + nI j))).bind _) _
    rw [nI_add]
    refine Ok.w (h1.setF 5 _ (by decide)) ?_
    intro t2 h2
    refine Ok.r (ca_now h2) (Ok.r (ca_f h2 5 (by decide)) (Ok.p ?_))
    simp only [giveA, if_neg e, if_neg q1, if_neg q2, jc, if_pos q]
    exact ⟨rfl, h2⟩
  · exact ca_refE h 1 (by decide) (by simp only [giveA, if_neg e, if_neg q1, if_neg q2, jc, if_neg q])
theorem c_hours (h : CA K dr a σ) (ok : NoLd a.2.2.2 ∨ LdOK a.2.2.2) (v : Int32) : Ok (fX9_hours σ (K.1 0) v) (fun r t => r = (hoursA a v).1 ∧ CA K dr (hoursA a v).2 t) := by
  obtain ⟨h30, h4, hu, _, hl, _⟩ := okC ok
  unfold fX9_hours
  refine Ok.vE (ca_O h) (ca_noLand h (by omega)) ?_
  by_cases e : qC (dN a.2.2.2) = 0
  · rw [decide_eq_true e]
    exact Ok.bF (by decide) (ca_refE h 0 (by decide) (by simp only [hoursA, if_pos e]))
  rw [decide_eq_false e]
  have ok := hl (by omega)
  refine Ok.bT rfl (Ok.j1 (Ok.b (fun q1 => ?_) (fun q1 => Ok.b (fun q2 => ?_) (fun q2 => ?_))))
  · exact ca_refE h 1 (by decide) (by simp only [hoursA, if_neg e, if_pos q1])
  · have q2' : ¬ 60 < v := Int32.not_lt.mpr q2
    obtain ⟨j, j1, j2, rfl⟩ := rngI 1 60 (by decide) (by decide) q1 q2'
    have jc : (nI j).toNatClampNeg = j := nI_clamp (by omega)
    refine Ok.r (ca_now h) (Ok.r (ca_f h 6 (by decide)) ?_)
    show Ok (if nI (qU (dN a.2.2.2)) + nI j ≤ 9999 then _ else _) _
    rw [nI_add]
    refine Ok.bI (nI_leI (b := 9999) (by omega) (by omega)) (fun q => ?_) (fun q => ?_)
    · refine Ok.f2 j 0 (fun k x t => x = nI k ∧ CA K dr (setD a (hrsD (rul a.2.1) k a.2.2.2)) t) (by omega) (by omega) ⟨rfl, h⟩ ?_ ?_
      · rintro jj k x t hk ⟨rfl, h1⟩ hj
        obtain ⟨o1, o2⟩ := hrs_ok ok (rul a.2.1) k (by omega)
        refine Ok.bF (nI_ge hk (by omega)) (Ok.r (ca_past h1) (Ok.r (ca_now h1) (Ok.v (ca_O5 h1) (ca_keep h1 o1) ?_)))
        intro w t2 h2
        obtain ⟨o3, o4⟩ := o1.keep
        refine Ok.v (ca_O h2) (ca_pass h2 o3 o4 (by show qU (dN (hrsD (rul a.2.1) k a.2.2.2)) < 9999; omega)) ?_
        intro w t3 h3
        rw [nI_1]
        exact hj _ _ ⟨rfl, h3⟩
      · rintro jj x t ⟨rfl, h1⟩
        obtain ⟨o1, o2⟩ := hrs_ok ok (rul a.2.1) j (by omega)
        refine Ok.bT (nI_le (Nat.le_refl _) (by omega)) (Ok.r (ca_now h1) (Ok.r (ca_f h1 6 (by decide)) (Ok.p ?_)))
        simp only [hoursA, if_neg e, if_neg q1, if_neg q2', jc, if_pos q]
        exact ⟨congrArg nI o2, h1⟩
    · exact ca_refE h 4 (by decide) (by simp only [hoursA, if_neg e, if_neg q1, if_neg q2', jc, if_neg q])
  · exact ca_refE h 1 (by decide) (by simp only [hoursA, if_neg e, if_neg q1, if_pos (Int32.not_le.mp q2)])
end
