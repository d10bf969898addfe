/-! small calls of the reference -/
section
variable {M : Mfg} {dr : Int64} {a : Abs} {σ : St}
theorem MR.tap {J J' : Nat → Int32} {Q Q' : Nat → Nat → Int32} (h : MR J Q a) {p : Tap} (hI : ∀ k, k ≠ 2 → J' k = J k) (hR : ∀ k, k ≠ 1 → Q' k = Q k) (hp : mTap J' Q' p) : MR J' Q' (setT a p) := by
  obtain ⟨h1, h2, h3, ⟨h4, h5⟩, h6, h7, h8, h9, h10⟩ := h
  refine ⟨hp, h2.fr (hI _ (by decide)) (hI _ (by decide)) (fun k q1 q2 => hR _ (by omega)), h3.fr (hI _ (by decide)) (hR _ (by decide)), ⟨h4.fr (hI _ (by decide)) (hI _ (by decide)) (hR _ (by decide)) (hR _ (by decide)), ?_⟩, h6.fr (hR _ (by decide)) (hR _ (by decide)) (hR _ (by decide)), h7.fr (hI _ (by decide)) (hR _ (by decide)), h8.fr (hI _ (by decide)) (hR _ (by decide)), h9.fr (hI _ (by decide)) (hR _ (by decide)) (hR _ (by decide)) (hR _ (by decide)), h10.fr (hI _ (by decide)) (hR _ (by decide)) (hR _ (by decide))⟩
  rw [hR 28 (by decide)]; exact h5
theorem m_feedA (h : MA M dr a σ) (v1 v2 v3 v4 v5 : Int32) : Ok (fX10_feed σ (M.1 0) v1 v2 v3 v4 v5) (fun r t => r = (feedA a v1 v2 v3 v4 v5).1 ∧ MA M dr (feedA a v1 v2 v3 v4 v5).2 t) := by
  obtain ⟨J, Q, ⟨Q', hR, hw, hs⟩, hr⟩ := h
  obtain ⟨e21, h240, htp⟩ := hr.1
  obtain ⟨t, e, g1, g2⟩ := m_feed hw e21 h240 v1 v2 v3 v4 v5
  unfold feedA
  by_cases q : a.1.1 + (by20 v1 v2 v3 v4 v5).length ≤ 240
  · rw [if_pos q] at e
    rw [if_pos q, if_pos q] at g1
    rw [if_pos q]
    refine ⟨_, t, e, rfl, upd J 2 (nI (a.1.1 + (by20 v1 v2 v3 v4 v5).length)), updR Q 1 (lay (Q 1) a.1.1 (by20 v1 v2 v3 v4 v5)), ⟨_, fun j hj => ?_, g1, hs.tr g2⟩, hr.tap (fun k hk => pk_un hk) (fun k hk => updR_n _ _ hk) ⟨pk_us, q, fun i hi => ?_⟩⟩
    · by_cases z : j = 1
      · subst z; rw [updR_s, updR_s, hR 1 rfl]
      · rw [updR_n _ _ z, updR_n _ _ z, hR j hj]
    · rw [updR_s]
      exact lay_cong _ _ _ _ htp i hi
  · rw [if_neg q] at e
    rw [if_neg q, if_neg q] at g1
    rw [if_neg q]
    exact ⟨_, t, e, rfl, J, Q, ⟨Q', hR, g1, hs.tr g2⟩, hr⟩
theorem m_endA (h : MA M dr a σ) (v : Int32) : Ok (fX10_end σ (M.1 0) v) (fun r t => r = (endA a v).1 ∧ MA M dr (endA a v).2 t) := by
  have h0 := h
  obtain ⟨J, Q, hv, hr⟩ := h
  obtain ⟨e21, h240, htp⟩ := hr.1
  unfold fX10_end
  rcases ixc v (n := a.1.1 + 1) (by omega) with ⟨e, hn⟩ | ⟨c, hc, rfl, e⟩
  · have ee : endA a v = (0, a) := by simp only [endA, e]
    rw [ee]
    refine Ok.b (fun _ => Ok.p ⟨rfl, h0⟩) (fun q => Ok.r ((nr_2 hv).trans (congrArg some e21)) (Ok.bF (fun z => hn ⟨q, ?_⟩) (Ok.p ⟨rfl, h0⟩)))
    rw [Int32.le_iff_toInt_le, nI_toInt (by omega)] at z
    rw [Int32.lt_iff_toInt_lt, nI_toInt (by omega)]
    omega
  · have ee : endA a (nI c) = (1, setT a (c, a.1.2)) := by simp only [endA, e]
    rw [ee]
    refine Ok.bF (nI_pos (by omega)) (Ok.r ((nr_2 hv).trans (congrArg some e21)) (Ok.bT (nI_le (by omega) (by omega)) (Ok.w (hv.putI 2 _ (by decide) (fun _ => rfl) (Nat.le_of_ble_eq_true rfl) (fun _ => rfl)) ?_)))
    intro t v1
    exact Ok.p ⟨rfl, _, _, v1, hr.tap (fun k hk => pk_un (by omega)) (fun _ _ => rfl) ⟨pk_us, (show c ≤ 240 by omega), fun i hi => htp i (by have : i < c := hi; omega)⟩⟩
theorem m_rule (h : MA M dr a σ) (ok : NoLd a.2.2.2 ∨ LdOK a.2.2.2) (v : Int32) : fX10_rule σ (M.1 0) v = some (ruleA a v, σ) := by
  obtain ⟨h30, h4, _, _, hl, _⟩ := okC ok
  have h0 := h
  obtain ⟨J, Q, hv, hr⟩ := h
  refine Ok.toE ?_
  unfold fX10_rule
  refine Ok.r (ma_cells h0) (Ok.bI (nI_eq (b := 0) (by omega) (by omega)) (fun e => ?_) (fun e => ?_))
  · exact Ok.p ⟨by simp only [ruleA, if_pos e], rfl⟩
  have h23 := hr.2.2.2.1.1.2.2.1 (by omega)
  refine Ok.cE (show fX10_in σ v 0 3 = some (bI (decide (¬ v < 0 ∧ v < nI 4)), σ) from f_inN σ v (n := 4) (by decide)) ?_
  rcases ixc v (n := 4) (by omega) with ⟨e2, hn⟩ | ⟨c, hc, rfl, e2⟩
  · rw [decide_eq_false hn]
    exact Ok.bT rfl (Ok.p ⟨by simp only [ruleA, if_neg e, e2], rfl⟩)
  rw [decide_eq_true (ix_in hc (by decide))]
  refine Ok.bF (by decide) ?_
  match c, hc with
  | 0, _ => exact Ok.bF (by decide) (Ok.bF (by decide) (Ok.r (nr_23 hv) (Ok.r (na_23 hv (i := 0) (by decide)) (Ok.p ⟨by simp only [ruleA, if_neg e, e2]; exact h23.1, rfl⟩))))
  | 1, _ => exact Ok.bF (by decide) (Ok.bF (by decide) (Ok.r (nr_23 hv) (Ok.r (na_23 hv (i := 1) (by decide)) (Ok.p ⟨by simp only [ruleA, if_neg e, e2]; exact h23.2, rfl⟩))))
  | 2, _ => exact Ok.bT (by decide) (Ok.r (ma_nr h0) (Ok.r (ma_K h0) (Ok.p ⟨by simp only [ruleA, if_neg e, e2], rfl⟩)))
  | 3, _ => exact Ok.bF (by decide) (Ok.bT (by decide) (Ok.r (ma_nr h0) (Ok.r (ma_F h0) (Ok.p ⟨by simp only [ruleA, if_neg e, e2], rfl⟩))))
  | c + 4, hc => omega
theorem m_heightA (h : MA M dr a σ) (ok : NoLd a.2.2.2 ∨ LdOK a.2.2.2) (v : Int32) : fX10_height σ (M.1 0) v = some (heightA a v, σ) := by
  obtain ⟨h30, h4, _, _, hl, _⟩ := okC ok
  refine Ok.toE ?_
  unfold fX10_height
  refine Ok.vE (ma_O h) (ma_isCell h (by omega) v) ?_
  rcases ixc v (n := qC (dN a.2.2.2)) (by omega) with ⟨e, hn⟩ | ⟨c, hc, rfl, e⟩
  · rw [decide_eq_false hn]
    exact Ok.bT rfl (Ok.p ⟨by simp only [heightA, e], rfl⟩)
  · rw [decide_eq_true (ix_in hc (by omega)), show (0 : Int32) + nI c = nI c from Int32.zero_add _]
    exact Ok.bF (by decide) (Ok.r (ma_nr h) (Ok.r (ma_G h hc (by omega)) (Ok.p ⟨by simp only [heightA, e], rfl⟩)))
theorem MR.law {J J' : Nat → Int32} {Q : Nat → Nat → Int32} (h : MR J Q a) {p : Lws} (hI : ∀ k, k ≠ 30 → J' k = J k) (hp : mLws J' Q p) : MR J' Q (a.1, p, a.2.2) := by
  obtain ⟨h1, h2, h3, ⟨h4, h5⟩, h6, h7, h8, h9, h10⟩ := h
  exact ⟨h1.fr (hI _ (by decide)) rfl, hp, h3.fr (hI _ (by decide)) rfl, ⟨h4.fr (hI _ (by decide)) (hI _ (by decide)) rfl rfl, h5⟩, h6, h7.fr (hI _ (by decide)) rfl, h8.fr (hI _ (by decide)) rfl, h9.fr (hI _ (by decide)) rfl rfl rfl, h10.fr (hI _ (by decide)) rfl rfl⟩
theorem m_lawA (h : MA M dr a σ) (v : Int32) : Ok (fX10_law σ (M.1 0) v) (fun r t => r = (lawA a v).1 ∧ MA M dr (lawA a v).2 t) := by
  have h0 := h
  obtain ⟨J, Q, hv, hr⟩ := h
  obtain ⟨e4, l4, e5, hh, hw⟩ := hr.2.1
  unfold fX10_law
  have cn : ∀ z : Int32, (nI a.2.1.1 - 1 < z) ↔ ¬ z < nI a.2.1.1 := by
    intro z
    rw [Int32.lt_iff_toInt_lt, Int32.lt_iff_toInt_lt, show (1 : Int32) = nI 1 from rfl, pk_sub_toInt (by omega) (by decide), nI_toInt (by omega)]
    omega
  refine Ok.r ((nr_13 hv).trans (congrArg some e4)) (Ok.cE (f_in _ _ _ _) ?_)
  rcases law_c (v := v) l4 with rfl | ⟨e, q, hn⟩ | ⟨c, hc, rfl, e⟩
  · have z : (-1 : Int32) < nI a.2.1.1 := by
      rw [Int32.lt_iff_toInt_lt, nI_toInt (by omega)]
      have e2 : (-1 : Int32).toInt = -1 := rfl
      omega
    rw [if_neg (show ¬ (-1 : Int32) < -1 by decide), if_neg (fun w => (cn _).mp w z)]
    refine Ok.bF (by decide) (Ok.w (hv.putI 30 _ (by decide) (fun _ => rfl) (Nat.le_of_ble_eq_true rfl) (fun _ => rfl)) ?_)
    intro t v1
    exact Ok.p ⟨rfl, _, _, v1, hr.law (p := (a.2.1.1, a.2.1.2.1, none)) (fun k hk => pk_un (by omega)) ⟨(pk_un (by decide)).trans e4, l4, pk_us, fun i hi => by simp at hi, hw⟩⟩
  · have ee : lawA a v = (0, a) := by simp only [lawA, if_neg q, e]
    rw [ee]
    refine Ok.bT ?_ (Ok.p ⟨rfl, h0⟩)
    by_cases z : v < -1
    · rw [if_pos z]
    · rw [if_neg z, if_pos ((cn v).mpr (hn.resolve_left z))]
  · have ee : lawA a (nI c) = (1, setH a (some c)) := by simp only [lawA, if_neg (m1_nI (show c < 2 ^ 31 by omega)), e]
    rw [ee]
    have z : ¬ nI c < -1 := by
      rw [Int32.lt_iff_toInt_lt, nI_toInt (by omega)]
      have e2 : (-1 : Int32).toInt = -1 := rfl
      omega
    rw [if_neg z, if_neg (fun w => (cn _).mp w (nI_lt hc (by omega)))]
    refine Ok.bF (by decide) (Ok.w (hv.putI 30 _ (by decide) (fun _ => rfl) (Nat.le_of_ble_eq_true rfl) (fun _ => rfl)) ?_)
    intro t v1
    exact Ok.p ⟨rfl, _, _, v1, hr.law (p := (a.2.1.1, a.2.1.2.1, some c)) (fun k hk => pk_un (by omega)) ⟨(pk_un (by decide)).trans e4, l4, pk_us, fun i hi => by simp at hi; subst hi; exact hc, hw⟩⟩
theorem m_mistA (h : MA M dr a σ) (v : Int32) : Ok (fX10_mist σ (M.1 0) v) (fun r t => r = (mistA a v).1 ∧ MA M dr (mistA a v).2 t) := by
  have h0 := h
  obtain ⟨J, Q, hv, hr⟩ := h
  obtain ⟨e6, l9, hw⟩ := hr.2.2.1
  unfold fX10_mist
  refine Ok.cE (show fX10_in σ v 0 9 = some (bI (decide (¬ v < 0 ∧ v < nI 10)), σ) from f_inN σ v (n := 10) (by decide)) ?_
  rcases ixc v (n := 10) (by omega) with ⟨e, hn⟩ | ⟨c, hc, rfl, e⟩
  · have ee : mistA a v = (0, a) := by simp only [mistA, e]
    rw [ee, decide_eq_false hn]
    exact Ok.bT rfl (Ok.p ⟨rfl, h0⟩)
  · rw [decide_eq_true (ix_in hc (by decide))]
    refine Ok.bF (by decide) (Ok.r ((nr_31 hv).trans (congrArg some e6)) (Ok.bI (nI_eq (by omega) (by omega)) (fun q => ?_) (fun q => ?_)))
    · exact Ok.p (by simp only [mistA, e, if_pos q]; exact ⟨trivial, h0⟩)
    · refine Ok.w (hv.putI 31 _ (by decide) (fun _ => rfl) (Nat.le_of_ble_eq_true rfl) (fun _ => rfl)) ?_
      intro t v1
      refine Ok.p ?_
      simp only [mistA, e, if_neg q]
      refine ⟨trivial, _, _, v1, ?_⟩
      have hI : ∀ k, k ≠ 31 → upd J 31 (nI c) k = J k := fun k hk => pk_un (by omega)
      obtain ⟨h1, h2, h3, ⟨h4, h5⟩, h6, h7, h8, h9, h10⟩ := hr
      exact ⟨h1.fr (hI _ (by decide)) rfl, h2.fr (hI _ (by decide)) (hI _ (by decide)) (fun _ _ _ => rfl), ⟨pk_us, (show c ≤ 9 by omega), hw⟩, ⟨h4.fr (hI _ (by decide)) (hI _ (by decide)) rfl rfl, h5⟩, h6, h7.fr (hI _ (by decide)) rfl, h8.fr (hI _ (by decide)) rfl, h9.fr (hI _ (by decide)) rfl rfl rfl, h10.fr (hI _ (by decide)) rfl rfl⟩
theorem m_statusA (h : MA M dr a σ) (v : Int32) : fX10_status σ (M.1 0) v = some (statusA a v, σ) := by
  obtain ⟨J, Q, hv, hr⟩ := h
  obtain ⟨e6, l9, hw⟩ := hr.2.2.1
  refine Ok.toE ?_
  unfold fX10_status
  refine Ok.cE (show fX10_in σ v 0 4 = some (bI (decide (¬ v < 0 ∧ v < nI 5)), σ) from f_inN σ v (n := 5) (by decide)) ?_
  rcases ixc v (n := 5) (by omega) with ⟨e, hn⟩ | ⟨c, hc, rfl, e⟩
  · rw [decide_eq_false hn]
    exact Ok.bT rfl (Ok.p ⟨by simp only [statusA, e], rfl⟩)
  · rw [decide_eq_true (ix_in hc (by decide))]
    exact Ok.bF (by decide) (Ok.r (nr_29 hv) (Ok.r ((na_29 hv hc).trans (congrArg some (hw c hc))) (Ok.p ⟨by simp only [statusA, e], rfl⟩)))
theorem m_count (h : MA M dr a σ) (v : Int32) : fX10_count σ (M.1 0) v = some (countA a v, σ) := by
  have h0 := h
  obtain ⟨J, Q, hv, hr⟩ := h
  refine Ok.toE ?_
  unfold fX10_count
  rcases ixc v (n := 11) (by omega) with ⟨e, hn⟩ | ⟨c, hc, rfl, e⟩
  · exact Ok.e (tbs_no 11 rfl (by decide) hn) (Ok.p ⟨by simp only [countA, e], rfl⟩)
  have ee : countA a (nI c) = cntA a c := by simp only [countA, e]
  rw [ee]
  match c, hc with
  | 0, _ => exact Ok.e (tbs_yes 0 (by decide) rfl) (Ok.r (ma_cells h0) (Ok.p ⟨rfl, rfl⟩))
  | 1, _ => exact Ok.e (tbs_yes 1 (by decide) rfl) (Ok.r (ma_towers h0) (Ok.p ⟨rfl, rfl⟩))
  | 2, _ => exact Ok.e (tbs_yes 2 (by decide) rfl) (Ok.r (nr_13 hv) (Ok.p ⟨hr.2.1.1, rfl⟩))
  | 3, _ => exact Ok.e (tbs_yes 3 (by decide) rfl) (Ok.r (nr_2 hv) (Ok.p ⟨hr.1.1, rfl⟩))
  | 4, _ => exact Ok.e (tbs_yes 4 (by decide) rfl) (Ok.r (nr_30 hv) (Ok.p ⟨hr.2.1.2.2.1, rfl⟩))
  | 5, _ => exact Ok.e (tbs_yes 5 (by decide) rfl) (Ok.r (ma_nr h0) (Ok.r (ma_U h0) (Ok.p ⟨rfl, rfl⟩)))
  | 6, _ => exact Ok.e (tbs_yes 6 (by decide) rfl) (Ok.r (nr_31 hv) (Ok.p ⟨hr.2.2.1.1, rfl⟩))
  | 7, _ => exact Ok.e (tbs_yes 7 (by decide) rfl) (Ok.r (nr_40 hv) (Ok.p ⟨hr.2.2.2.2.2.2.2.1.1, rfl⟩))
  | 8, _ => exact Ok.e (tbs_yes 8 (by decide) rfl) (Ok.r (nr_43 hv) (Ok.p ⟨hr.2.2.2.2.2.2.2.2.1, rfl⟩))
  | 9, _ => exact Ok.e (tbs_yes 9 (by decide) rfl) (Ok.r (ma_nr h0) (Ok.r (ma_N h0) (Ok.p ⟨rfl, rfl⟩)))
  | 10, _ => exact Ok.e (tbs_yes 10 (by decide) rfl) (Ok.r (nr_33 hv) (Ok.p ⟨hr.2.2.2.2.2.1.1, rfl⟩))
  | c + 11, hc => omega
end
