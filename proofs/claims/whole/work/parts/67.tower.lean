/-! tower: what both answer -/
theorem t43 : ∀ t, t < 4 → (4 : Int32) * nI t + 3 = nI (4 * t + 3) := by decide
def towK (a : Abs) (t : Nat) : Nat → Int32
  | 0 => nI (qP (dN a.2.2.2) t)
  | 1 => nI (qM (dN a.2.2.2) t)
  | 2 => nI (qA (dN a.2.2.2) t)
  | 3 => nI (rch (dN a.2.2.2) (rul a.2.1) t)
  | 4 => bI (bt (nI (qB (dN a.2.2.2))) t)
  | _ => bitC (msk (sees (dN a.2.2.2) (rul a.2.1) t) (qC (dN a.2.2.2)))
/-- the answer, and whether it throws -/
def towA (a : Abs) (v w : Int32) : Int32 × Int32 := match ix v (qT (dN a.2.2.2)), ix w 6 with
  | some t, some k => (towK a t k, 0)
  | _, _ => (0, 1)
section
variable {K : Cfg} {dr : Int64} {a : Abs} {σ : St}
theorem c_tower (h : CA K dr a σ) (ok : NoLd a.2.2.2 ∨ LdOK a.2.2.2) {t k : Nat} (ht : t < qT (dN a.2.2.2)) (hk : k < 6) : Ok (fX9_tower σ (K.1 0) (nI t) (nI k)) (fun r u => r = towK a t k ∧ CA K dr a u) := by
  obtain ⟨h30, h4, _, _, _, hl⟩ := okC ok
  have ok := hl (by omega)
  obtain ⟨I, R, hr, sv⟩ := ca_SV h ok.1.1
  unfold fX9_tower
  refine Ok.r (ca_now h) (Ok.vE (ca_O7 h) (ca_hasTower h (nI t)) ?_)
  rw [decide_eq_true (ix_in ht (by omega))]
  refine Ok.bF (by decide) (Ok.bF (nI_pos (by omega)) (Ok.bT (show nI k ≤ nI 5 from nI_le (by omega) (by decide)) ?_))
  match k, hk with
  | 0, _ => exact Ok.e (tbs_yes 0 (by decide) rfl) (Ok.r (ca_now h) (Ok.r (ca_pr h) (Ok.r (ca_P h ht (by omega)) (Ok.p ⟨rfl, h⟩))))
  | 1, _ => exact Ok.e (tbs_yes 1 (by decide) rfl) (Ok.r (ca_now h) (Ok.r (ca_mr h) (Ok.r (ca_M h ht (by omega)) (Ok.p ⟨rfl, h⟩))))
  | 2, _ => exact Ok.e (tbs_yes 2 (by decide) rfl) (Ok.r (ca_now h) (Ok.r (ca_lr h) (Ok.r (ca_A h ht (by omega)) (Ok.p ⟨rfl, h⟩))))
  | 3, _ =>
    refine Ok.e (tbs_yes 3 (by decide) rfl) (Ok.r (ca_now h) (Ok.v (ca_O h) (ca_ruling h) ?_))
    rintro q t0 ⟨rfl, hq⟩
    refine Ok.v (v_O sv) (v_reach sv ht hq) ?_
    rintro r1 t1 ⟨rfl, sv1⟩
    exact Ok.p ⟨rfl, I, R, sv1.1, hr⟩
  | 4, _ =>
    refine Ok.e (tbs_yes 4 (by decide) rfl) (Ok.r (ca_now h) (Ok.r (ca_f h 7 (by decide)) ?_))
    rw [bit_at _ (by omega)]
    exact Ok.p ⟨rfl, h⟩
  | 5, _ =>
    refine Ok.e (tbs_no 5 rfl (by decide) (by decide)) (Ok.r (ca_now h) (Ok.v (ca_O h) (ca_ruling h) ?_))
    rintro q t0 ⟨rfl, hq⟩
    refine Ok.v (v_O sv) (v_sight sv ht hq) ?_
    rintro r1 t1 ⟨rfl, sv1⟩
    exact Ok.cE (f_bitC t1 _) (Ok.p ⟨rfl, I, R, sv1.1, hr⟩)
  | k + 6, hk => omega
end
section
variable {M : Mfg} {dr : Int64} {a : Abs} {σ : St}
theorem m_thrown {J : Nat → Int32} {Q : Nat → Nat → Int32} {v : Int32} (h : MV M J Q dr σ) (e : J 0 = v) : fX10_thrown σ (M.1 0) = some (v, σ) := by
  unfold fX10_thrown
  rw [nr_0 h, Option.bind_some, e]
theorem m_tower0 (h : MA M dr a σ) (v : Int32) : ∃ t, pV 10 0 σ (M.1 0) (.int v) = some t ∧ ∃ J Q, MV M J Q dr t ∧ MR J Q a ∧ J 0 = v := by
  obtain ⟨J, Q, hv, hr⟩ := h
  obtain ⟨t, e, g⟩ := hv.putI 0 v (by decide) (fun _ => rfl) (Nat.le_of_ble_eq_true rfl) (fun _ => rfl)
  exact ⟨t, e, upd J 0 v, Q, g, hr.scr (fun k hk => pk_un (fun z => hk (by unfold mcI; omega))) (fun _ _ => rfl), pk_us⟩
theorem m_tower (h : MA M dr a σ) (ok : NoLd a.2.2.2 ∨ LdOK a.2.2.2) (v w : Int32) : Ok (fX10_tower σ (M.1 0) v w) (fun r u => r = (towA a v w).1 ∧ MA M dr a u ∧ fX10_thrown u (M.1 0) = some ((towA a v w).2, u)) := by
  obtain ⟨h30, h4, _, _, _, hl⟩ := okC ok
  unfold fX10_tower
  refine Ok.vE (ma_O h) (ma_isTower h (by omega) v) (Ok.j3 (Ok.j2 ?_))
  rcases ixc v (n := qT (dN a.2.2.2)) (by omega) with ⟨e, hn⟩ | ⟨t, ht, rfl, e⟩
  · rw [decide_eq_false hn]
    have ee : towA a v w = (0, 1) := by simp only [towA, e]
    rw [ee]
    refine Ok.bT rfl (Ok.w (m_tower0 h 1) ?_)
    rintro u ⟨J, Q, g, hr, e0⟩
    exact Ok.r ((nr_0 g).trans (congrArg some e0)) (Ok.bT rfl (Ok.p ⟨rfl, ⟨J, Q, g, hr⟩, m_thrown g e0⟩))
  rw [decide_eq_true (ix_in ht (by omega))]
  refine Ok.bF (by decide) (Ok.cE (show fX10_in σ w 0 5 = some (bI (decide (¬ w < 0 ∧ w < nI 6)), σ) from f_inN σ w (n := 6) (by decide)) ?_)
  rcases ixc w (n := 6) (by omega) with ⟨e2, hn⟩ | ⟨k, hk, rfl, e2⟩
  · rw [decide_eq_false hn]
    have ee : towA a (nI t) w = (0, 1) := by simp only [towA, e, e2]
    rw [ee]
    refine Ok.bT rfl (Ok.w (m_tower0 h 1) ?_)
    rintro u ⟨J, Q, g, hr, e0⟩
    exact Ok.r ((nr_0 g).trans (congrArg some e0)) (Ok.bT rfl (Ok.p ⟨rfl, ⟨J, Q, g, hr⟩, m_thrown g e0⟩))
  rw [decide_eq_true (ix_in hk (by decide))]
  have ee : towA a (nI t) (nI k) = (towK a t k, 0) := by simp only [towA, e, e2]
  rw [ee]
  have ok := hl (by omega)
  refine Ok.bF (by decide) (Ok.w (m_tower0 h 0) ?_)
  rintro u ⟨J, Q, g, hr, e0⟩
  have rv : RV M J Q dr (dN a.2.2.2) u := ⟨g, hr.rsr, ok.1.1⟩
  have fin : ∀ {t' : St}, RV M J Q dr (dN a.2.2.2) t' → MA M dr a t' ∧ fX10_thrown t' (M.1 0) = some (0, t') := fun q => ⟨⟨J, Q, q.1, hr⟩, m_thrown q.1 e0⟩
  refine Ok.r ((nr_0 g).trans (congrArg some e0)) (Ok.bF (by decide) ?_)
  match k, hk with
  | 0, _ => exact Ok.e (tbs_yes 0 (by decide) rfl) (Ok.r (nr_28 g) (Ok.r (r_P rv ht) (Ok.p ⟨rfl, fin rv⟩)))
  | 1, _ => exact Ok.e (tbs_yes 1 (by decide) rfl) (Ok.r (nr_28 g) (Ok.r (r_M rv ht) (Ok.p ⟨rfl, fin rv⟩)))
  | 2, _ =>
    have e3 : (4 : Int32) * nI t + 3 = nI (4 * t + 3) := t43 t (by omega)
    refine Ok.e (tbs_yes 2 (by decide) rfl) (Ok.r (nr_25 g) ?_)
    rw [e3]
    exact Ok.r ((na_25 g (by omega)).trans (congrArg some (rv.2.1.2.2.2.2.1 t ht).2.2)) (Ok.p ⟨rfl, fin rv⟩)
  | 3, _ =>
    refine Ok.e (tbs_yes 3 (by decide) rfl) (Ok.v (nO g) (m_reachOf rv ht hr.ruM) ?_)
    rintro r1 t1 ⟨rfl, rv1⟩
    exact Ok.p ⟨rfl, fin rv1⟩
  | 4, _ =>
    refine Ok.e (tbs_yes 4 (by decide) rfl) (Ok.r (nr_28 g) (Ok.r (r_B rv) ?_))
    rw [bit_at _ (by omega)]
    exact Ok.p ⟨rfl, fin rv⟩
  | 5, _ =>
    refine Ok.e (tbs_no 5 rfl (by decide) (by decide)) (Ok.v (nO g) (m_seenBy rv ht hr.ruM) ?_)
    rintro r1 t1 ⟨rfl, rv1⟩
    exact Ok.cE (f_bitC t1 _) (Ok.p ⟨rfl, fin rv1⟩)
  | k + 6, hk => omega
end
