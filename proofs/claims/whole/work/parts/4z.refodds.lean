/-! odds: the reference; hours within bounds -/
def rw2 (q : Nat → Int32) (u f : Nat) : Nat → Int32 := upd (upd q 41 (nI u)) 39 (nI f)
theorem rw2_a (q : Nat → Int32) (u f v g : Nat) : upd (upd (rw2 q u f) 41 (nI v)) 39 (nI g) = rw2 q v g := by
  funext k
  simp only [rw2, upd_at]
  by_cases h1 : k = 39
  · simp only [if_pos h1]
  · by_cases h2 : k = 41
    · simp only [if_neg h1, if_pos h2]
    · simp only [if_neg h1, if_neg h2]
theorem rw2_b (q : Nat → Int32) (u f g : Nat) : upd (rw2 q u f) 39 (nI g) = rw2 q u g := by
  funext k
  simp only [rw2, upd_at]
  by_cases h1 : k = 39
  · simp only [if_pos h1]
  · simp only [if_neg h1]
theorem rw2_c (q : Nat → Int32) (u f v g : Nat) : upd (upd (rw2 q u f) 39 (nI g)) 41 (nI v) = rw2 q v g := by
  funext k
  simp only [rw2, upd_at]
  by_cases h1 : k = 39
  · subst h1; simp
  · by_cases h2 : k = 41
    · subst h2; simp
    · simp only [if_neg h1, if_neg h2]
section
variable {M : Mfg} {dr : Int64} {a : Abs} {σ : St}
set_option maxHeartbeats 1000000 in
theorem m_oddsFrom {J : Nat → Int32} {Q : Nat → Nat → Int32} (hr : MR J Q a) (okd : LdOK a.2.2.2) (hu : qU (dN a.2.2.2) ≤ 9999) {c N ch : Nat} (hc : c < qC (dN a.2.2.2)) (hN : N ≤ 8) (hch : ch ≤ 100) : ∀ (n D f u p : Nat) (σ : St), n < D → n ≤ 8 → p ≤ 1000000000 → f ≤ 9 → u + n = qU (dN a.2.2.2) + N → MV M J (updR Q 28 (rw2 (Q 28) u f)) dr σ → Ok (fX10_oddsFrom D σ (M.1 0) (nI c) (nI n) (nI ch) (nI p)) (fun r t => r = nI (od (odH a c N) ch n f p) ∧ MV M J (updR Q 28 (rw2 (Q 28) u f)) dr t) := by
  have okn : ScOK (dN a.2.2.2) := okd.1.1
  have h30 := okn.c30
  have h4 := okn.t
  have rd : ∀ {r' : Nat → Int32} {τ : St}, MV M J (updR Q 28 r') dr τ → ∀ (i : Nat) (w : Int32), i < 223 → r' i = w → aI 0 τ (M.1 28) (nI i) = some w := fun {r' τ} v i w hi hw => (na_28 v hi).trans (congrArg some (by rw [updR_s]; exact hw))
  have wr : ∀ {r' : Nat → Int32} {τ : St}, MV M J (updR Q 28 r') dr τ → ∀ (i : Nat) (w : Int32), i < 223 → ∃ u, sI 0 τ (M.1 28) (nI i) w = some u ∧ MV M J (updR Q 28 (upd r' i w)) dr u := by
    intro r' τ v i w hi
    obtain ⟨u, e, h1⟩ := v.putN 28 i w rfl rfl (fun _ => rfl) hi (by decide)
    rw [updR_updR, updR_s] at h1
    exact ⟨u, e, h1⟩
  obtain ⟨r1, r2, r3, rG, rT, rB, rF, rK, rU⟩ := hr.rsr
  have hru := hr.ruM
  intro n
  induction n with
  | zero =>
    intro D f u p σ hD hn hp hf hun v
    obtain ⟨D, rfl⟩ : ∃ d, D = d + 1 := ⟨D - 1, by omega⟩
    show Ok (eX10_oddsFrom (recX10_oddsFrom D) σ (M.1 0) (nI c) (nI 0) (nI ch) (nI p)) _
    unfold eX10_oddsFrom
    have eu : u = qU (dN a.2.2.2) + N := by omega
    have rv : RV M J (updR Q 28 (rw2 (Q 28) u f)) dr (sF (odS a N) 4 f) σ := by
      refine ⟨v, ⟨r1, r2, ?_, ?_, ?_, ?_, ?_, ?_, ?_⟩, odd_ok okd hN hu hf⟩
      · rw [updR_n _ _ (by decide)]; exact r3
      · intro i hi
        have hi' : i < qC (dN a.2.2.2) := hi
        rw [updR_s]
        exact (pk_un (by omega)).trans ((pk_un (by omega)).trans (rG i hi'))
      · intro t ht
        have ht' : t < qT (dN a.2.2.2) := ht
        rw [updR_s, updR_n _ _ (by decide)]
        exact ⟨(pk_un (by omega)).trans ((pk_un (by omega)).trans (rT t ht').1), (pk_un (by omega)).trans ((pk_un (by omega)).trans (rT t ht').2.1), (rT t ht').2.2⟩
      · rw [updR_s]; exact (pk_un (by decide)).trans ((pk_un (by decide)).trans rB)
      · rw [updR_s]; exact pk_us
      · rw [updR_s]; exact (pk_un (by decide)).trans ((pk_un (by decide)).trans rK)
      · rw [updR_s]
        refine (pk_un (by decide)).trans (pk_us.trans ?_)
        rw [eu]; rfl
    have ru : RulM J (updR Q 28 (rw2 (Q 28) u f)) (rul a.2.1) := by
      rcases hru with q | ⟨i, f, q1, q2, q3, q4⟩
      · exact Or.inl q
      · exact Or.inr ⟨i, f, q1, q2, q3.fr (updR_n _ _ (by decide)) (updR_n _ _ (by decide)) (updR_n _ _ (by decide)) (updR_n _ _ (by decide)) (updR_n _ _ (by decide)) (updR_n _ _ (by decide)), q4⟩
    refine Ok.bT (by decide) (Ok.v (nO v) (m_isHidNow rv (show c < qC (dN a.2.2.2) from hc) ru) ?_)
    rintro r5 t5 ⟨rfl, rv5⟩
    refine Ok.bI bI_0 (fun z => ?_) (fun z => ?_)
    · refine Ok.p ⟨?_, rv5.1⟩
      unfold od
      rw [if_neg (by unfold odH; rw [z]; decide)]; rfl
    · refine Ok.p ⟨?_, rv5.1⟩
      unfold od
      rw [if_pos (by unfold odH; simpa using z)]
  | succ n ih =>
    intro D f u p σ hD hn hp hf hun v
    obtain ⟨D, rfl⟩ : ∃ d, D = d + 1 := ⟨D - 1, by omega⟩
    show Ok (eX10_oddsFrom (recX10_oddsFrom D) σ (M.1 0) (nI c) (nI (n + 1)) (nI ch) (nI p)) _
    unfold eX10_oddsFrom
    have hcut := cut_le (p := p) hch
    have hb : p * ch ≤ 1000000000 * 100 := Nat.mul_le_mul hp hch
    refine Ok.bF (nI_ne0 (by omega) (by omega)) (Ok.r (nr_28 v) (Ok.r (rd v 39 (nI f) (by decide) pk_us) (Ok.bF (by decide) (Ok.nE (e' := nI (p * ch / 100)) ?_ ?_))))
    · rw [nI_l (by omega), nI_l (by omega), lN_mul, show (100 : Int64) = lN 100 from rfl, pk_lDiv (by omega) (by decide) (by decide), lN_i]
    refine Ok.r (nr_28 v) (Ok.r (rd v 41 (nI u) (by decide) ((pk_un (by decide)).trans pk_us)) ?_)
    rw [nI_1, nI_1, nI_pred]
    refine Ok.w (wr v 41 _ (by decide)) ?_
    intro t1 v1
    refine Ok.r (nr_28 v1) (Ok.cE ((f_min _ _ _).trans (congrArg (fun z => some (z, t1)) (min_i (a := 9) (by omega) (by omega)))) (Ok.w (wr v1 39 _ (by decide)) ?_))
    intro t2 v2
    rw [rw2_a] at v2
    refine Ok.v (nO v2) (ih D (min 9 (f + 1)) (u + 1) (p * ch / 100) t2 (by omega) (by omega) (by omega) (by omega) (by omega) v2) ?_
    rintro r3 t3 ⟨rfl, v3⟩
    refine Ok.r (nr_28 v3) (Ok.cE ((f_max _ _ _).trans (congrArg (fun z => some (z, t3)) (max_i (by omega)))) (Ok.w (wr v3 39 _ (by decide)) ?_))
    intro t4 v4
    rw [rw2_b] at v4
    rw [pk_sub hcut]
    refine Ok.v (nO v4) (ih D (f - 1) (u + 1) (p - p * ch / 100) t4 (by omega) (by omega) (by omega) (by omega) (by omega) v4) ?_
    rintro r5 t5 ⟨rfl, v5⟩
    refine Ok.n (Ok.r (nr_28 v5) (Ok.w (wr v5 39 (nI f) (by decide)) ?_))
    intro t6 v6
    refine Ok.r (nr_28 v6) (Ok.r (rd v6 41 (nI (u + 1)) (by decide) ((pk_un (by decide)).trans ((pk_un (by decide)).trans pk_us))) ?_)
    rw [nI_pred]
    refine Ok.w (wr v6 41 _ (by decide)) ?_
    intro t7 v7
    rw [rw2_c] at v7
    refine Ok.p ⟨?_, v7⟩
    rw [nI_add]
    rfl
theorem m_odds (h : MA M dr a σ) (ok : NoLd a.2.2.2 ∨ LdOK a.2.2.2) (hu : qU (dN a.2.2.2) ≤ 9999) (v1 v2 v3 : Int32) : Ok (fX10_odds σ (M.1 0) v1 v2 v3) (fun r t => r = oddsA a v1 v2 v3 ∧ MA M dr a t) := by
  obtain ⟨h30, h4, _, _, hl, _⟩ := okC ok
  unfold fX10_odds
  refine Ok.vE (ma_O h) (ma_isCell h (by omega) v1) ?_
  rcases ixc v1 (n := qC (dN a.2.2.2)) (by omega) with ⟨e1, hn⟩ | ⟨c, hc, rfl, e1⟩
  · rw [decide_eq_false hn]
    exact Ok.bT rfl (Ok.p ⟨by simp only [oddsA, e1], h⟩)
  rw [decide_eq_true (ix_in hc (by omega))]
  refine Ok.bF (by decide) (Ok.cE (show fX10_in σ v2 0 8 = some (bI (decide (¬ v2 < 0 ∧ v2 < nI 9)), σ) from f_inN σ v2 (n := 9) (by decide)) ?_)
  rcases ixc v2 (n := 9) (by omega) with ⟨e2, hn⟩ | ⟨n, hn, rfl, e2⟩
  · rw [decide_eq_false hn]
    exact Ok.bT rfl (Ok.p ⟨by simp only [oddsA, e1, e2], h⟩)
  rw [decide_eq_true (ix_in hn (by decide))]
  refine Ok.bF (by decide) (Ok.cE (show fX10_in σ v3 0 100 = some (bI (decide (¬ v3 < 0 ∧ v3 < nI 101)), σ) from f_inN σ v3 (n := 101) (by decide)) ?_)
  rcases ixc v3 (n := 101) (by omega) with ⟨e3, hn3⟩ | ⟨ch, hch, rfl, e3⟩
  · rw [decide_eq_false hn3]
    exact Ok.bT rfl (Ok.p ⟨by simp only [oddsA, e1, e2, e3], h⟩)
  rw [decide_eq_true (ix_in hch (by decide))]
  have ok := hl (by omega)
  have hF := (show ScOK (dN a.2.2.2) from ok.1.1).f
  obtain ⟨J, Q, hv, hr⟩ := h
  have rsr := hr.rsr
  have e0 : rw2 (Q 28) (qU (dN a.2.2.2)) (qF (dN a.2.2.2)) = Q 28 := by
    unfold rw2
    rw [upd_id (k := 41) rsr.2.2.2.2.2.2.2.2, upd_id (k := 39) rsr.2.2.2.2.2.2.1]
  have v0 : MV M J (updR Q 28 (rw2 (Q 28) (qU (dN a.2.2.2)) (qF (dN a.2.2.2)))) dr σ := by
    rw [e0, updR_id rfl]; exact hv
  refine Ok.bF (by decide) (Ok.v (nO hv) (m_oddsFrom hr ok hu hc (show n ≤ 8 by omega) (show ch ≤ 100 by omega) n 12 (qF (dN a.2.2.2)) (qU (dN a.2.2.2)) 1000000000 σ (by omega) (by omega) (by omega) hF rfl v0) ?_)
  rintro r1 t1 ⟨rfl, v1⟩
  rw [e0, updR_id rfl] at v1
  refine Ok.p ⟨?_, J, Q, v1, hr⟩
  simp only [oddsA, e1, e2, e3]
end
/-! hours never pass 9,999 -/
def HrOK (d : Lnd) : Prop := qU (dN d) ≤ 9999 ∧ (∀ e ∈ dA d, qU e.1 ≤ 9999) ∧ ∀ e, dI d = some e → qU e.1 ≤ 9999
theorem HrOK.keep {d : Lnd} (h : HrOK d) : HrOK (keepD d) := by
  refine ⟨h.1, fun e he => ?_, h.2.2⟩
  rcases List.mem_cons.mp (List.mem_of_mem_take he) with q | q
  · subst q; exact h.1
  · exact h.2.1 e q
theorem HrOK.set {d : Lnd} (h : HrOK d) {s : Scn} (hs : qU s ≤ 9999) : HrOK (setN d s) := ⟨hs, h.2⟩
theorem HrOK.hrs {d : Lnd} (h : HrOK d) (L : Option LawF) : ∀ k, qU (dN d) + k ≤ 9999 → HrOK (hrsD L k d) ∧ qU (dN (hrsD L k d)) = qU (dN d) + k
  | 0, _ => ⟨h, rfl⟩
  | k + 1, q => by
    obtain ⟨h1, h2⟩ := HrOK.hrs h L k (by omega)
    have h3 := h1.keep
    refine ⟨⟨?_, h3.2⟩, ?_⟩
    · show qU (dN (hrsD L k d)) + 1 ≤ 9999
      omega
    · show qU (dN (hrsD L k d)) + 1 = _
      omega
theorem HrOK.yrs {d : Lnd} (h : HrOK d) (ok : LdOK d) (f : Int64 → Int64) (L : Option LawF) (m : Nat) (sd : Int64) : ∀ k, qU (dN d) + k ≤ 9999 → HrOK (yrsD f L m k (sd, d)).2 := by
  intro k
  induction k with
  | zero => intro _; exact h
  | succ k ih =>
    intro q
    have h1 := ih (by omega)
    obtain ⟨_, o2⟩ := yrs_ok ok f L m sd (k + 1) q
    rw [yrsD] at o2 ⊢
    generalize yrsD f L m k (sd, d) = p at h1 o2 ⊢
    have h3 := h1.keep
    exact ⟨by omega, h3.2⟩
