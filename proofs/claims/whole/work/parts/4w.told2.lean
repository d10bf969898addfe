/-! HEIGHTS and ASK: the calls -/
theorem f_absI (σ : St) (x : Int32) : fJ9_abs_0f7a4 σ x = some (absI x, σ) := f_abs σ x
theorem aptI_eq (a : Abs) (c t : Nat) : absI (balI (ptD a c) (fun h => sees (sG (dO a.2.2.2) c h) (rul a.2.1) t c) 10) = aptI a c t := rfl
theorem bit10 (p : Nat → Bool) {k : Nat} (hk : k < 10) : (msk p 10 >>> (nI k &&& 31)) &&& 1 = bI (p k) := bit_msk p (by omega) hk
section
variable {K : Cfg} {dr : Int64} {a : Abs} {σ : St} {s : Scn}
theorem c_bitAt (σ : St) (p : Nat → Bool) (w : Int32) : fX9_bitAt σ (msk p 10) w = some (nthF p w 10 0, σ) := by
  refine Ok.toE ?_
  unfold fX9_bitAt
  refine Ok.f2 10 0 (fun k x y => y = nI k ∧ x + nI (fa_cnt p k) = w ∧ nthF p w (10 - k) k = nthF p w 10 0) (by omega) (by omega) ⟨rfl, by show w + nI 0 = w; rw [nI_0]; exact Int32.add_zero _, rfl⟩ ?_ ?_
  · rintro j k x y hk ⟨rfl, hx, hv⟩ hj
    refine Ok.bF (nine_lt hk) (Ok.j1 ?_)
    rw [bit10 p hk, nI_1]
    obtain ⟨d, hd⟩ : ∃ d, 10 - k = d + 1 := ⟨9 - k, by omega⟩
    rw [hd] at hv
    have hd' : 10 - (k + 1) = d := by omega
    unfold nthF at hv
    refine Ok.bI bI_1 (fun z => ?_) (fun z => ?_)
    · rw [if_pos z] at hv
      refine Ok.b (fun z2 => ?_) (fun z2 => ?_)
      · have e : nI (fa_cnt p k) = w := by rw [← hx, z2]; exact (Int32.zero_add _).symm
        rw [if_pos e] at hv
        exact Ok.p ⟨hv, rfl⟩
      · have e : ¬ nI (fa_cnt p k) = w := fun q => z2 (by rw [← q] at hx; grind)
        rw [if_neg e] at hv
        refine hj _ _ ⟨rfl, ?_, by rw [hd']; exact hv⟩
        rw [fa_cnt_yes z, nI_succ, ← hx]
        grind
    · rw [if_neg z] at hv
      refine hj _ _ ⟨rfl, ?_, by rw [hd']; exact hv⟩
      rw [fa_cnt_no (by simpa using z)]; exact hx
  · rintro j x y ⟨rfl, hx, hv⟩
    exact Ok.bT (by decide) (Ok.p ⟨hv, rfl⟩)
theorem c_heights (h : CA K dr a σ) (ok : NoLd a.2.2.2 ∨ LdOK a.2.2.2) (v w : Int32) : Ok (fX9_heights σ (K.1 0) v w) (fun r t => r = heightsA a v w ∧ CA K dr a t) := by
  obtain ⟨h30, h4, _, _, hl, _⟩ := okC ok
  unfold fX9_heights
  refine Ok.r (ca_now h) (Ok.vE (ca_O7 h) (ca_hasCell h v) ?_)
  rcases ixc v (n := qC (dN a.2.2.2)) (by omega) with ⟨e, hn⟩ | ⟨c, hc, rfl, e⟩
  · rw [decide_eq_false hn]
    exact Ok.bT rfl (Ok.p ⟨by simp only [heightsA, e], h⟩)
  rw [decide_eq_true (ix_in hc (by omega))]
  have ok := hl (by omega)
  have hp : gR 9 10 σ (K.1 0) = some (K.1 23) ∧ gR 9 9 σ (K.1 0) = some (K.1 17) ∧ isO 7 σ (K.1 23) = true := by
    obtain ⟨I, R, hv, _⟩ := h
    exact ⟨kr_0_10 hv, kr_0_9 hv, kO_23 hv⟩
  refine Ok.bF (by decide) (Ok.r hp.1 (Ok.r hp.2.1 (Ok.v hp.2.2 (h.told ok.2.1.1) ?_)))
  intro w1 t1 h1
  obtain ⟨x1, x2, x3, x4, x5, x6⟩ := cx_tr h1
  refine Ok.r x3 (Ok.r x1 (Ok.v (ca_O h1.ca) (ca_ruling h1.ca) ?_))
  rintro q t2 ⟨rfl, hq⟩
  refine Ok.v x4 (c_fitting h1 ok hc hq) ?_
  rintro r3 t3 ⟨rfl, s', h3, _⟩
  refine Ok.b (fun z => ?_) (fun z => ?_)
  · refine Ok.cE ((f_bitC _ _).trans (congrArg (fun z => some (z, t3)) (bitC_msk _ (by omega)))) (Ok.p ⟨?_, h3.ca⟩)
    simp only [heightsA, e, if_pos z]
  · refine Ok.cE (c_bitAt _ _ _) (Ok.p ⟨?_, h3.ca⟩)
    simp only [heightsA, e, if_neg z]
theorem c_apart {c : Nat} (h : CX K dr a s σ) (hs : ∀ v, sG s c v = sG (dO a.2.2.2) c v) (okd : LdOK a.2.2.2) {t : Nat} (hc : c < qC (dN a.2.2.2)) (ht : t < qT (dN a.2.2.2)) {q : Option Nat} (hq : Rul K q (rul a.2.1)) : Ok (fX1_apart σ (K.1 23) (nI t) (nI c) (msk (ptD a c) 10) q) (fun r t' => r = aptI a c t ∧ ∃ s', CX K dr a s' t' ∧ ∀ v, sG s' c v = sG (dO a.2.2.2) c v) := by
  obtain ⟨oko, ⟨s1, s2, s3, s4, s5⟩, _⟩ := okd.2.1
  have h30 := oko.c30
  unfold fX1_apart
  refine Ok.f3 10 0 (fun k x y t' => x = balI (ptD a c) (fun h => sees (sG (dO a.2.2.2) c h) (rul a.2.1) t c) k ∧ y = nI k ∧ ∃ s', CX K dr a s' t' ∧ ∀ v, sG s' c v = sG (dO a.2.2.2) c v) (by omega) (by omega) ⟨rfl, rfl, s, h, hs⟩ ?_ ?_
  · rintro j k x y t' hk ⟨rfl, rfl, s', h1, hs'⟩ hj
    refine Ok.bF (nine_lt hk) (Ok.j2 ?_)
    rw [bit10 _ hk, nI_1]
    refine Ok.bI bI_1 (fun z => ?_) (fun z => ?_)
    · obtain ⟨_, _, _, _, g1, _⟩ := cx_tr h1
      refine Ok.r g1 (Ok.w (h1.setG c k (by omega)) ?_)
      intro t2 h2
      rw [hs'] at h2
      obtain ⟨I, R, sv, back⟩ := h2.sv (oko.sG c (show k ≤ 9 by omega))
      refine Ok.v (v_O sv) (v_beholds sv (show t < qT (sG (dO a.2.2.2) c k) from by show t < qT (dO a.2.2.2); omega) (show c < qC (sG (dO a.2.2.2) c k) from by show c < qC (dO a.2.2.2); omega) hq) ?_
      rintro r3 t3 ⟨rfl, s3'⟩
      have h3 := back _ s3'
      refine Ok.j2 (Ok.bI bI_0 (fun z2 => ?_) (fun z2 => ?_))
      · exact Ok.n (hj _ _ _ ⟨by simp only [balI, if_pos z, z2]; rfl, rfl, _, h3, fun v => sG_sG _ _ _ _⟩)
      · exact Ok.n (hj _ _ _ ⟨by simp at z2; simp only [balI, if_pos z, z2, if_true], rfl, _, h3, fun v => sG_sG _ _ _ _⟩)
    · exact hj _ _ _ ⟨by simp only [balI, if_neg z], rfl, s', h1, hs'⟩
  · rintro j x y t' ⟨rfl, rfl, s', h1, hs'⟩
    exact Ok.bT (by decide) (Ok.cE (f_absI _ _) (Ok.p ⟨aptI_eq a c t, s', h1, hs'⟩))
theorem c_ask (h : CA K dr a σ) (ok : NoLd a.2.2.2 ∨ LdOK a.2.2.2) (v : Int32) : Ok (fX9_ask σ (K.1 0) v) (fun r t => r = askA a v ∧ CA K dr a t) := by
  obtain ⟨h30, h4, _, _, hl, _⟩ := okC ok
  unfold fX9_ask
  refine Ok.r (ca_now h) (Ok.vE (ca_O7 h) (ca_hasCell h v) ?_)
  rcases ixc v (n := qC (dN a.2.2.2)) (by omega) with ⟨e, hn⟩ | ⟨c, hc, rfl, e⟩
  · rw [decide_eq_false hn]
    exact Ok.bT rfl (Ok.p ⟨by simp only [askA, e], h⟩)
  rw [decide_eq_true (ix_in hc (by omega))]
  have ok := hl (by omega)
  have okT := (show ScOK (dN a.2.2.2) from ok.1.1).t
  obtain ⟨oko, ⟨s1, s2, s3, s4, s5⟩, _⟩ := ok.2.1
  have hp : gR 9 10 σ (K.1 0) = some (K.1 23) ∧ gR 9 9 σ (K.1 0) = some (K.1 17) ∧ isO 7 σ (K.1 23) = true := by
    obtain ⟨I, R, hv, _⟩ := h
    exact ⟨kr_0_10 hv, kr_0_9 hv, kO_23 hv⟩
  refine Ok.bF (by decide) (Ok.r hp.1 (Ok.r hp.2.1 (Ok.v hp.2.2 (h.told ok.2.1.1) ?_)))
  intro w1 t1 h1
  obtain ⟨x1, x2, x3, x4, x5, x6⟩ := cx_tr h1
  refine Ok.r x3 (Ok.r x1 (Ok.v (ca_O h1.ca) (ca_ruling h1.ca) ?_))
  rintro q t2 ⟨rfl, hq⟩
  refine Ok.v x4 (c_fitting h1 ok hc hq) ?_
  rintro r3 t3 ⟨rfl, s', h3, hs'⟩
  refine Ok.bI (any_m (ptD a c)) (fun z => ?_) (fun z => ?_)
  · exact Ok.p ⟨by simp only [askA, e, if_neg z], h3.ca⟩
  have z' : anyB (ptD a c) 10 = true := by simpa using z
  have ee : askA a (nI c) = nI (minJ (aptI a c) (qT (dN a.2.2.2))) := by simp only [askA, e, if_pos z']
  rw [ee]
  refine Ok.f4 (qT (dN a.2.2.2)) 0 (fun i x y k t => ((i = 0 ∧ x = -1) ∨ (1 ≤ i ∧ x = nI (minJ (aptI a c) i) ∧ y = aptI a c (minJ (aptI a c) i))) ∧ k = nI i ∧ ∃ s', CX K dr a s' t ∧ (∀ v, sG s' c v = sG (dO a.2.2.2) c v) ∧ qT s' = qT (dN a.2.2.2)) (by omega) (by omega) ⟨Or.inl ⟨rfl, rfl⟩, rfl, s', h3, hs', ?_⟩ ?_ ?_
  · have := hs' 0
    have : qT (sG s' c 0) = qT (sG (dO a.2.2.2) c 0) := by rw [this]
    exact this.trans s4
  · rintro j i x y k t hi ⟨hx, rfl, s2', h5, hs2, hT2⟩ hj
    obtain ⟨y1, y2, y3, y4, y5, y6⟩ := cx_tr h5
    have hf3 : gI 7 3 t (K.1 23) = some (nI (qT (dN a.2.2.2))) := by
      obtain ⟨I, R, hv, _, hs⟩ := h5
      exact (g_fld hv (Or.inr (Or.inr rfl)) 3 (by decide)).trans (congrArg some ((hs.1 3 (by decide)).trans (congrArg nI hT2)))
    refine Ok.r y1 (Ok.r hf3 (Ok.bF (nI_ge hi (by omega)) (Ok.r y1 (Ok.v (ca_O h5.ca) (ca_ruling h5.ca) ?_))))
    rintro q6 t6 ⟨rfl, hq6⟩
    refine Ok.c (c_apart h5 hs2 ok hc hi hq6) ?_
    rintro r7 t7 ⟨rfl, s7, h7, hs7⟩
    have hT7 : qT s7 = qT (dN a.2.2.2) := by
      have := hs7 0
      have : qT (sG s7 c 0) = qT (sG (dO a.2.2.2) c 0) := by rw [this]
      exact this.trans s4
    refine Ok.j2 (Ok.j1 ?_)
    rw [nI_1]
    rcases hx with ⟨rfl, rfl⟩ | ⟨i1, rfl, rfl⟩
    · exact Ok.bT rfl (hj _ _ _ _ ⟨Or.inr ⟨by omega, by simp [minJ], by simp [minJ]⟩, rfl, s7, h7, hs7, hT7⟩)
    · have hb := minJ_lt (aptI a c) i (by omega)
      refine Ok.bF (m1_nI (by omega)) (Ok.b (fun q2 => ?_) (fun q2 => ?_))
      · exact hj _ _ _ _ ⟨Or.inr ⟨by omega, by simp only [minJ, if_pos q2], by simp only [minJ, if_pos q2]⟩, rfl, s7, h7, hs7, hT7⟩
      · exact hj _ _ _ _ ⟨Or.inr ⟨by omega, by simp only [minJ, if_neg q2], by simp only [minJ, if_neg q2]⟩, rfl, s7, h7, hs7, hT7⟩
  · rintro j x y k t ⟨hx, rfl, s2', h5, hs2, hT2⟩
    obtain ⟨y1, y2, y3, y4, y5, y6⟩ := cx_tr h5
    have hf3 : gI 7 3 t (K.1 23) = some (nI (qT (dN a.2.2.2))) := by
      obtain ⟨I, R, hv, _, hs⟩ := h5
      exact (g_fld hv (Or.inr (Or.inr rfl)) 3 (by decide)).trans (congrArg some ((hs.1 3 (by decide)).trans (congrArg nI hT2)))
    rcases hx with ⟨h0, _⟩ | ⟨_, rfl, _⟩
    · omega
    · exact Ok.r y1 (Ok.r hf3 (Ok.bT (nI_le (Nat.le_refl _) (by omega)) (Ok.p ⟨rfl, h5.ca⟩)))
end
section
variable {M : Mfg} {dr : Int64} {a : Abs} {σ : St}
theorem m_seesTold (h : MA M dr a σ) (okd : LdOK a.2.2.2) {t c v : Nat} (ht : t < qT (dN a.2.2.2)) (hc : c < qC (dN a.2.2.2)) (hv9 : v ≤ 9) : Ok (fX10_seesTold σ (M.1 0) (nI t) (nI c) (nI v)) (fun r t' => r = bI (sees (sG (dO a.2.2.2) c v) (rul a.2.1) t c) ∧ MA M dr a t') := by
  obtain ⟨oko, ⟨s1, s2, s3, s4, s5⟩, u0, _⟩ := okd.2.1
  have h30 := oko.c30
  have h4 := oko.t
  have okv := oko.sG c hv9
  have ht' : t < qT (dO a.2.2.2) := by omega
  have hc' : c < qC (dO a.2.2.2) := by omega
  obtain ⟨J, Q, hv, hr⟩ := h
  obtain ⟨o1, o2, o3⟩ := hr.2.2.2.2.1
  obtain ⟨x, y, hx, hy, e25, e251, eP, eM⟩ := o3 t ht'
  have hW : Q 23 0 = nI (qW (dO a.2.2.2)) := by
    rw [s1]; exact (hr.2.2.2.1.1.2.2.1 (by omega)).1
  have eA : Q 25 (4 * t + 3) = nI (qA (dO a.2.2.2) t) := by
    rw [s5 t ht]; exact hr.2.2.2.1.1.2.2.2 t ht
  have eT : J 27 = nI (qT (dO a.2.2.2)) := by rw [s4]; exact hr.2.2.2.1.1.2.1
  have hpl := oko.p ht'
  have hml := oko.m ht'
  have hal := oko.a ht'
  unfold fX10_seesTold
  refine Ok.r (nr_24 hv) (Ok.r ((na_24 hv (by omega)).trans (congrArg some (o1 c hc'))) (Ok.r (nr_24 hv) (Ok.w (hv.putN 24 c _ rfl rfl (fun _ => rfl) (by omega) (by decide)) ?_)))
  intro t1 v1
  generalize hQ1 : updR Q 24 (upd (Q 24) c (nI v)) = Q1 at v1
  have q23 : Q1 23 = Q 23 := by rw [← hQ1]; exact updR_n _ _ (by decide)
  have q25 : Q1 25 = Q 25 := by rw [← hQ1]; exact updR_n _ _ (by decide)
  have row : ∀ i, i < qC (sG (dO a.2.2.2) c v) → Q1 24 i = nI (qG (sG (dO a.2.2.2) c v) i) := by
    intro i hi
    have hi' : i < qC (dO a.2.2.2) := hi
    rw [← hQ1, updR_s]
    show upd (Q 24) c (nI v) i = nI (updN _ c v i)
    unfold upd updN
    by_cases q : i = c
    · rw [if_pos q, if_pos q]
    · rw [if_neg q, if_neg q]; exact o1 i hi'
  have ru1 : RulM J Q1 (rul a.2.1) := by
    rcases hr.ruM with q | ⟨i, f, q1, q2, q3, q4⟩
    · exact Or.inl q
    · exact Or.inr ⟨i, f, q1, q2, q3.fr (by rw [← hQ1]; exact updR_n _ _ (by decide)) (by rw [← hQ1]; exact updR_n _ _ (by decide)) (by rw [← hQ1]; exact updR_n _ _ (by decide)) (by rw [← hQ1]; exact updR_n _ _ (by decide)) (by rw [← hQ1]; exact updR_n _ _ (by decide)) (by rw [← hQ1]; exact updR_n _ _ (by decide)), q4⟩
  have spot : ∀ {τ : St}, MV M J Q1 dr τ → fX10_firstSpot τ (M.1 0) (nI t) = some (nI (qP (dO a.2.2.2) t), τ) := by
    intro τ v2
    unfold fX10_firstSpot
    rw [show (4 * nI t) + 1 = nI (4 * t + 1) from by rw [show (4 : Int32) = nI 4 from rfl, pk_mul, nI_1], show (4 * nI t) + 0 = nI (4 * t) from by rw [show (4 : Int32) = nI 4 from rfl, pk_mul]; exact Int32.add_zero _]
    rw [nr_23 v2, Option.bind_some, show (0 : Int32) = nI 0 from rfl, na_23 v2 (by decide), Option.bind_some, nr_25 v2, Option.bind_some, na_25 v2 (by omega), Option.bind_some, Option.bind_some, na_25 v2 (by omega), Option.bind_some, q23, q25, hW, e251, e25, pk_mul, nI_add, ← eP]
  refine Ok.r (nr_24 v1) (Ok.vE (nO v1) (spot v1) (Ok.r ((na_24 v1 (by omega)).trans (congrArg some (row _ hpl))) (Ok.r (nr_25 v1) ?_)))
  rw [show (4 * nI t) + 2 = nI (4 * t + 2) from by rw [show (4 : Int32) = nI 4 from rfl, pk_mul]; exact nI_add _ 2]
  have r25 : aI 0 t1 (M.1 25) (nI (4 * t + 2)) = some (nI (qM (dO a.2.2.2) t)) := (na_25 v1 (by omega)).trans (congrArg some (by rw [q25]; exact eM))
  have r23 : ∀ {τ : St}, MV M J Q1 dr τ → aI 0 τ (M.1 23) 3 = some (nI (qF (dO a.2.2.2))) := fun v2 => (na_23 v2 (i := 3) (by decide)).trans (congrArg some (by rw [q23]; exact o2))
  have hre : Ok (fX10_reachBy t1 (M.1 0) (nI t) (nI (qF (dO a.2.2.2))) 0 (nI (qG (sG (dO a.2.2.2) c v) (qP (dO a.2.2.2) t))) (nI (qM (dO a.2.2.2) t))) (fun r t' => r = nI (rchG (rul a.2.1) (qA (dO a.2.2.2) t) (qF (dO a.2.2.2)) (0 % 24) (qG (sG (dO a.2.2.2) c v) (qP (dO a.2.2.2) t)) (qM (dO a.2.2.2) t) (qT (dO a.2.2.2))) ∧ MV M J Q1 dr t') := m_reachBy v1 (u := 0) (by omega) (by rw [q25]; exact eA) eT hal (by decide) ⟨by have := oko.f; omega, by have := okv.g (show qP (dO a.2.2.2) t < qC (sG (dO a.2.2.2) c v) from hpl); omega, by have := oko.m (show t < qT (dO a.2.2.2) by assumption); omega, by have := oko.t; omega⟩ ru1
  refine Ok.r r25 (Ok.r (nr_24 v1) (Ok.vE (nO v1) (spot v1) (Ok.r (nr_23 v1) (Ok.r (r23 v1) (Ok.v (nO v1) hre ?_)))))
  rintro r2 t2 ⟨rfl, v2⟩
  have er : rchG (rul a.2.1) (qA (dO a.2.2.2) t) (qF (dO a.2.2.2)) (0 % 24) (qG (sG (dO a.2.2.2) c v) (qP (dO a.2.2.2) t)) (qM (dO a.2.2.2) t) (qT (dO a.2.2.2)) = rch (sG (dO a.2.2.2) c v) (rul a.2.1) t := by
    rw [rch_G]
    show _ = rchG _ _ _ (qU (dO a.2.2.2) % 24) _ _ _
    rw [u0]
    rfl
  rw [er, nI_add]
  have gle := okv.g (show qP (dO a.2.2.2) t < qC (sG (dO a.2.2.2) c v) from hpl)
  refine Ok.r (nr_23 v2) (Ok.r (r23 v2) (Ok.vE (nO v2) (m_isSeen okv v2 (by rw [q23]; exact hW) (fun i hi => (na_24 v2 (by have : i < qC (dO a.2.2.2) := hi; omega)).trans (congrArg some (row i hi))) hpl hc' (by omega) (rch_le okv _ ht')) ?_))
  refine Ok.r (nr_24 v2) (Ok.w (v2.putN 24 c _ rfl rfl (fun _ => rfl) (by omega) (by decide)) ?_)
  intro t3 v3
  refine Ok.bT (bI_01 _) (Ok.p ⟨rfl, J, Q, v3.congr rfl ?_ rfl, hr⟩)
  rw [← hQ1, updR_updR, updR_s, upd_upd, upd_id (o1 c hc'), updR_id rfl]
theorem m_isHigh (h : MA M dr a σ) (okd : LdOK a.2.2.2) {c v : Nat} (hc : c < qC (dN a.2.2.2)) (hv9 : v ≤ 9) : Ok (fX10_isHigh σ (M.1 0) (nI c) (nI v)) (fun r t => r = bI (ptD a c v) ∧ MA M dr a t) := by
  have okn : ScOK (dN a.2.2.2) := okd.1.1
  have h30 := okn.c30
  unfold fX10_isHigh
  have hn10 : (dV a.2.2.2).1 ≤ 10 := by
    obtain ⟨J, Q, _, hr⟩ := h
    exact hr.2.2.2.2.2.2.2.1.2.1
  refine Ok.f2 (dV a.2.2.2).1 0 (fun k x t => x = nI k ∧ anyB (fun k => decide ((dV a.2.2.2).2.2.1 k = c) && !decide (bI (sees (sG (dO a.2.2.2) c v) (rul a.2.1) ((dV a.2.2.2).2.1 k) c) = bI ((dV a.2.2.2).2.2.2 k))) k = false ∧ MA M dr a t) (by omega) (by omega) ⟨rfl, rfl, h⟩ ?_ ?_
  · rintro j k x t hk ⟨rfl, hn, h1⟩ hj
    obtain ⟨o1, o2⟩ := okd.2.2.2.2.2.1 k hk
    have h1' := h1
    obtain ⟨J, Q, hv, hr⟩ := h1
    obtain ⟨g1, g2, g3⟩ := hr.2.2.2.2.2.2.2.1
    obtain ⟨g4, g5, g6⟩ := g3 k hk
    refine Ok.r ((nr_40 hv).trans (congrArg some g1)) (Ok.bF (nI_ge hk (by omega)) (Ok.r (nr_38 hv) (Ok.r ((na_38 hv (by omega)).trans (congrArg some g5)) (Ok.j1 ?_))))
    rw [nI_1]
    refine Ok.bI (nI_eq (by omega) (by omega)) (fun e => ?_) (fun e => ?_)
    · refine Ok.r (nr_37 hv) (Ok.r ((na_37 hv (by omega)).trans (congrArg some g4)) (Ok.v (nO hv) (m_seesTold h1' okd o1 hc hv9) ?_))
      rintro r2 t2 ⟨rfl, h2⟩
      have h2' := h2
      obtain ⟨J2, Q2, hv2, hr2⟩ := h2
      obtain ⟨_, _, g3'⟩ := hr2.2.2.2.2.2.2.2.1
      refine Ok.r (nr_39 hv2) (Ok.r ((na_39 hv2 (by omega)).trans (congrArg some (g3' k hk).2.2)) (Ok.b (fun z => ?_) (fun z => ?_)))
      · exact hj _ _ ⟨rfl, by simp [anyB, hn, z], h2'⟩
      · refine Ok.p ⟨?_, h2'⟩
        have : anyB (fun k => decide ((dV a.2.2.2).2.2.1 k = c) && !decide (bI (sees (sG (dO a.2.2.2) c v) (rul a.2.1) ((dV a.2.2.2).2.1 k) c) = bI ((dV a.2.2.2).2.2.2 k))) (dV a.2.2.2).1 = true := anyB_iff.mpr ⟨k, hk, by simp [e, z]⟩
        unfold ptD fitB
        rw [this]; rfl
    · exact hj _ _ ⟨rfl, by simp [anyB, hn, e], h1'⟩
  · rintro j x t ⟨rfl, hn, h1⟩
    have h1' := h1
    obtain ⟨J, Q, hv, hr⟩ := h1
    obtain ⟨g1, g2, g3⟩ := hr.2.2.2.2.2.2.2.1
    refine Ok.r ((nr_40 hv).trans (congrArg some g1)) (Ok.bT (nI_le (Nat.le_refl _) (by omega)) (Ok.p ⟨?_, h1'⟩))
    unfold ptD fitB
    rw [hn]; rfl
theorem m_heights (h : MA M dr a σ) (ok : NoLd a.2.2.2 ∨ LdOK a.2.2.2) (v w : Int32) : Ok (fX10_heights σ (M.1 0) v w) (fun r t => r = heightsA a v w ∧ MA M dr a t) := by
  obtain ⟨h30, h4, _, _, hl, _⟩ := okC ok
  unfold fX10_heights
  refine Ok.vE (ma_O h) (ma_isCell h (by omega) v) ?_
  rcases ixc v (n := qC (dN a.2.2.2)) (by omega) with ⟨e, hn⟩ | ⟨c, hc, rfl, e⟩
  · rw [decide_eq_false hn]
    exact Ok.bT rfl (Ok.p ⟨by simp only [heightsA, e], h⟩)
  rw [decide_eq_true (ix_in hc (by omega))]
  have ok := hl (by omega)
  have ee : heightsA a (nI c) w = if w = -1 then nI (fa_cnt (ptD a c) 10) else nthF (ptD a c) w 10 0 := by simp only [heightsA, e]
  rw [ee]
  refine Ok.bF (by decide) (Ok.b (fun z0 => ?_) (fun z0 => ?_))
  · refine Ok.f3 10 0 (fun k x y t => x = nI (fa_cnt (ptD a c) k) ∧ y = nI k ∧ nthF (ptD a c) w (10 - k) k = nthF (ptD a c) w 10 0 ∧ MA M dr a t) (by omega) (by omega) ⟨rfl, rfl, rfl, h⟩ ?_ ?_
    · rintro j k x y t hk ⟨rfl, rfl, hv, h1⟩ hj
      refine Ok.bF (nine_lt hk) (Ok.v (ma_O h1) (m_isHigh h1 ok hc (by omega)) ?_)
      rintro r2 t2 ⟨rfl, h2⟩
      refine Ok.j1 ?_
      rw [nI_1]
      obtain ⟨d, hd⟩ : ∃ d, 10 - k = d + 1 := ⟨9 - k, by omega⟩
      rw [hd] at hv
      have hd' : 10 - (k + 1) = d := by omega
      unfold nthF at hv
      refine Ok.bI bI_0 (fun z => ?_) (fun z => ?_)
      · rw [if_neg (by rw [z]; decide)] at hv
        exact hj _ _ _ ⟨by rw [fa_cnt_no z], rfl, by rw [hd']; exact hv, h2⟩
      · have z' : ptD a c k = true := by simpa using z
        rw [if_pos z'] at hv
        refine Ok.b (fun z2 => ?_) (fun z2 => ?_)
        · rw [if_pos z2] at hv
          refine Ok.p ⟨?_, h2⟩
          have hle := fa_cnt_le (ptD a c) k
          rw [if_neg (by rw [← z2]; exact m1_nI (by omega))]
          exact hv
        · rw [if_neg z2] at hv
          rw [nI_1]
          exact hj _ _ _ ⟨by rw [fa_cnt_yes z'], rfl, by rw [hd']; exact hv, h2⟩
    · rintro j x y t ⟨rfl, rfl, hv, h1⟩
      refine Ok.bT (by decide) (Ok.b (fun z => ?_) (fun z => ?_))
      · exact Ok.p ⟨by rw [if_pos z], h1⟩
      · exact Ok.p ⟨by rw [if_neg z]; exact hv, h1⟩
  · have hneg : w < 0 := by
      have := Int32.not_le.mp z0
      rw [Int32.lt_iff_toInt_lt] at this ⊢
      have e1 : (-1 : Int32).toInt = -1 := rfl
      have e2 : (0 : Int32).toInt = 0 := rfl
      omega
    refine Ok.p ⟨?_, h⟩
    rw [if_neg (fun q => z0 (by rw [q]; decide)), nthF_neg _ hneg 10 0 (by omega)]
theorem m_ask (h : MA M dr a σ) (ok : NoLd a.2.2.2 ∨ LdOK a.2.2.2) (v : Int32) : Ok (fX10_ask σ (M.1 0) v) (fun r t => r = askA a v ∧ MA M dr a t) := by
  have ok0 := ok
  obtain ⟨h30, h4, _, _, hl, _⟩ := okC ok
  unfold fX10_ask
  refine Ok.vE (ma_O h) (ma_isCell h (by omega) v) ?_
  rcases ixc v (n := qC (dN a.2.2.2)) (by omega) with ⟨e, hn⟩ | ⟨c, hc, rfl, e⟩
  · rw [decide_eq_false hn]
    exact Ok.bT rfl (Ok.p ⟨by simp only [askA, e], h⟩)
  rw [decide_eq_true (ix_in hc (by omega))]
  have ok := hl (by omega)
  have okT := (show ScOK (dN a.2.2.2) from ok.1.1).t
  refine Ok.bF (by decide) (Ok.v (ma_O h) (m_heights h ok0 (nI c) 0) ?_)
  rintro r1 t1 ⟨rfl, h1⟩
  have eh : heightsA a (nI c) 0 = nthF (ptD a c) 0 10 0 := by
    simp only [heightsA, e]
    exact if_neg (by decide)
  rw [eh]
  refine Ok.bI (any_0 (ptD a c)) (fun z => ?_) (fun z => ?_)
  · exact Ok.p ⟨by simp only [askA, e, if_neg z], h1⟩
  have z' : anyB (ptD a c) 10 = true := by simpa using z
  have ee : askA a (nI c) = nI (minJ (aptI a c) (qT (dN a.2.2.2))) := by simp only [askA, e, if_pos z']
  rw [ee]
  refine Ok.f4 (qT (dN a.2.2.2)) 0 (fun i x y k t => ((i = 0 ∧ x = -1) ∨ (1 ≤ i ∧ x = nI (minJ (aptI a c) i) ∧ y = aptI a c (minJ (aptI a c) i))) ∧ k = nI i ∧ MA M dr a t) (by omega) (by omega) ⟨Or.inl ⟨rfl, rfl⟩, rfl, h1⟩ ?_ ?_
  · rintro j i x y k t hi ⟨hx, rfl, h5⟩ hj
    refine Ok.r (ma_towers h5) (Ok.bF (nI_ge hi (by omega)) ?_)
    refine Ok.f3 10 0 (fun b x y t => x = balI (ptD a c) (fun h => sees (sG (dO a.2.2.2) c h) (rul a.2.1) i c) b ∧ y = nI b ∧ MA M dr a t) (by omega) (by omega) ⟨rfl, rfl, h5⟩ ?_ ?_
    · rintro j2 b x2 y2 t2 hb ⟨rfl, rfl, h6⟩ hj2
      refine Ok.bF (nine_lt hb) (Ok.v (ma_O h6) (m_isHigh h6 ok hc (by omega)) ?_)
      rintro r7 t7 ⟨rfl, h7⟩
      refine Ok.j3 ?_
      rw [nI_1]
      refine Ok.bI bI_0 (fun z => ?_) (fun z => ?_)
      · refine Ok.n (hj2 _ _ _ ⟨?_, rfl, h7⟩)
        rw [Int32.add_zero]
        simp only [balI, z]; rfl
      · have z' : ptD a c b = true := by simpa using z
        refine Ok.v (ma_O h7) (m_seesTold h7 ok hi hc (by omega)) ?_
        rintro r8 t8 ⟨rfl, h8⟩
        refine Ok.bI bI_0 (fun z2 => ?_) (fun z2 => ?_)
        · exact Ok.n (hj2 _ _ _ ⟨by simp only [balI, z', z2]; rfl, rfl, h8⟩)
        · exact Ok.n (hj2 _ _ _ ⟨by simp at z2; simp only [balI, z', z2, if_true], rfl, h8⟩)
    · rintro j2 x2 y2 t2 ⟨rfl, rfl, h6⟩
      refine Ok.bT (by decide) (Ok.j3 (Ok.j1 ?_))
      rw [nI_1]
      rcases hx with ⟨rfl, rfl⟩ | ⟨i1, rfl, rfl⟩
      · exact Ok.bT rfl (Ok.cE (f_absI _ _) (hj _ _ _ _ ⟨Or.inr ⟨by omega, by simp [minJ], by rw [aptI_eq]; simp [minJ]⟩, rfl, h6⟩))
      · have hb := minJ_lt (aptI a c) i (by omega)
        refine Ok.bF (m1_nI (by omega)) (Ok.cE (f_absI _ _) ?_)
        rw [aptI_eq]
        refine Ok.b (fun q2' => ?_) (fun q2' => ?_)
        · exact hj _ _ _ _ ⟨Or.inr ⟨by omega, by simp only [minJ, if_pos q2'], by simp only [minJ, if_pos q2']⟩, rfl, h6⟩
        · exact Ok.cE (f_absI _ _) (hj _ _ _ _ ⟨Or.inr ⟨by omega, by simp only [minJ, if_neg q2'], by rw [aptI_eq]; simp only [minJ, if_neg q2']⟩, rfl, h6⟩)
  · rintro j x y k t ⟨hx, rfl, h5⟩
    rcases hx with ⟨h0, _⟩ | ⟨_, rfl, _⟩
    · omega
    · exact Ok.r (ma_towers h5) (Ok.bT (nI_le (Nat.le_refl _) (by omega)) (Ok.p ⟨rfl, h5⟩))
end
