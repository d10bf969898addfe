/-! WAY and RISK: the reference -/
def MP (M : Mfg) (dr : Int64) (a : Abs) (w T : Nat → Nat) (k : Nat) (σ : St) : Prop := ∃ J Q, MV M J Q dr σ ∧ MR J Q a ∧ (∀ i, i < k → Q 35 i = nI (w i)) ∧ ∀ i, i < qC (dN a.2.2.2) → Q 36 i = nI (T i)
section
variable {M : Mfg} {dr : Int64} {a : Abs} {σ : St} {w T : Nat → Nat}
theorem MP.ma {k : Nat} (h : MP M dr a w T k σ) : MA M dr a σ := by
  obtain ⟨J, Q, h1, h2, _⟩ := h
  exact ⟨J, Q, h1, h2⟩
theorem MP.rv {k : Nat} (h : MP M dr a w T k σ) (ok : ScOK (dN a.2.2.2)) : ∃ J Q, RV M J Q dr (dN a.2.2.2) σ := by
  obtain ⟨J, Q, h1, h2, _⟩ := h
  exact ⟨J, Q, h1, h2.rsr, ok⟩
theorem MP.rr {k : Nat} (h : MP M dr a w T k σ) : gR 10 35 σ (M.1 0) = some (M.1 35) ∧ gR 10 36 σ (M.1 0) = some (M.1 36) := by
  obtain ⟨J, Q, h1, _⟩ := h
  exact ⟨nr_35 h1, nr_36 h1⟩
theorem MP.rd {k : Nat} (h : MP M dr a w T k σ) {i : Nat} (hi : i < qC (dN a.2.2.2)) (h30 : i < 30) : aI 0 σ (M.1 36) (nI i) = some (nI (T i)) := by
  obtain ⟨J, Q, h1, h2, _, h3⟩ := h
  exact (na_36 h1 h30).trans (congrArg some (h3 i hi))
theorem MP.rw {k : Nat} (h : MP M dr a w T k σ) {i : Nat} (hi : i < k) (h30 : i < 30) : aI 0 σ (M.1 35) (nI i) = some (nI (w i)) := by
  obtain ⟨J, Q, h1, h2, h3, _⟩ := h
  exact (na_35 h1 h30).trans (congrArg some (h3 i hi))
theorem MP.put {k : Nat} (h : MP M dr a w T k σ) (c v : Nat) (hc : c < 30) : ∃ t, sI 0 σ (M.1 36) (nI c) (nI v) = some t ∧ MP M dr a w (updN T c v) k t := by
  obtain ⟨J, Q, h1, h2, h3, h4⟩ := h
  obtain ⟨t, e, h5⟩ := h1.putN 36 c (nI v) rfl rfl (fun _ => rfl) hc (by decide)
  refine ⟨t, e, J, _, h5, h2.scr (fun _ _ => rfl) (fun k hk => updR_n _ _ (fun q => hk (by unfold mcR; omega))), fun i hi => ?_, fun i hi => ?_⟩
  · rw [updR_n _ _ (by decide)]; exact h3 i hi
  · rw [updR_s]
    unfold upd updN
    by_cases q : i = c
    · rw [if_pos q, if_pos q]
    · rw [if_neg q, if_neg q]; exact h4 i hi
theorem MP.to {k : Nat} (h : MP M dr a w T k σ) {T' : Nat → Nat} (e : ∀ i, i < qC (dN a.2.2.2) → T i = T' i) : MP M dr a w T' k σ := by
  obtain ⟨J, Q, h1, h2, h3, h4⟩ := h
  exact ⟨J, Q, h1, h2, h3, fun i hi => by rw [h4 i hi, e i hi]⟩
set_option maxHeartbeats 1000000 in
theorem m_pass1 (hw : ∀ c, w c ≤ 1000) (ok : ScOK (dN a.2.2.2)) {g : Nat} (hg : g < qC (dN a.2.2.2)) : ∀ (m d : Nat) (x5 : Int32) (t6 : St), d < m → (∃ r T, r + d = qC (dN a.2.2.2) + 1 ∧ MP M dr a w T (qC (dN a.2.2.2)) t6 ∧ (∀ c, c < qC (dN a.2.2.2) → T c ≤ jac (adS (dN a.2.2.2)) w (qC (dN a.2.2.2)) g r c) ∧ (∀ c, c < qC (dN a.2.2.2) → tol (adS (dN a.2.2.2)) w (qC (dN a.2.2.2)) g c ≤ T c) ∧ ((x5 = 0 ∧ ∀ c, c < qC (dN a.2.2.2) → T c = tol (adS (dN a.2.2.2)) w (qC (dN a.2.2.2)) g c) ∨ (x5 = 1 ∧ r ≤ qC (dN a.2.2.2)))) → Ok (lo2 (fun l7 (x5 : Int32) (t6 : St) =>
      if x5 = 0 then
      some ((), t6)
    else
      lo3 (fun l11 (x8 : Int32) (x9 : Int32) (t10 : St) =>
        (gI 10 26 t10 (M.1 0)).bind fun x12 =>
      (gI 10 26 t10 (M.1 0)).bind fun x13 =>
      if x12 * x13 ≤ x9 then
        l7 x8 t10
      else
        (gI 10 26 t10 (M.1 0)).bind fun x14 =>
        if x14 = 0 then none else
        nam (x9 / x14 : Int32) (fun x15 =>
        (gI 10 26 t10 (M.1 0)).bind fun x16 =>
        if x16 = 0 then none else
        nam (x9 - x9 / x16 * x16 : Int32) (fun x17 =>
        bo 10 t10 (M.1 0) (fX10_areBeside t10 (M.1 0) x15 x17) (fun x18 t19 =>
        jo2 (fun (x20 : Int32) (t21 : St) =>
          l11 x20 (x9 + 1) t21) (fun j22 =>
          if x18 = 0 then
            j22 x8 t19
          else
            (gR 10 36 t19 (M.1 0)).bind fun a23 =>
            (aI 0 t19 a23 x15).bind fun x24 =>
            if 1000 ≤ x24 then
              j22 x8 t19
            else
              (gR 10 35 t19 (M.1 0)).bind fun a25 =>
              (aI 0 t19 a25 x17).bind fun x26 =>
              if 1000 ≤ x26 then
                j22 x8 t19
              else
                (gR 10 36 t19 (M.1 0)).bind fun a27 =>
                (aI 0 t19 a27 x15).bind fun x28 =>
                (gR 10 35 t19 (M.1 0)).bind fun a29 =>
                (aI 0 t19 a29 x17).bind fun x30 =>
                (gR 10 36 t19 (M.1 0)).bind fun a31 =>
                (aI 0 t19 a31 x17).bind fun x32 =>
                if x32 ≤ x28 + x30 then
                  j22 x8 t19
                else
                  (gR 10 36 t19 (M.1 0)).bind fun a33 =>
                  (gR 10 36 t19 (M.1 0)).bind fun a34 =>
                  (aI 0 t19 a34 x15).bind fun x35 =>
                  (gR 10 35 t19 (M.1 0)).bind fun a36 =>
                  (aI 0 t19 a36 x17).bind fun x37 =>
                  (sI 0 t19 a33 x17 (x35 + x37)).bind (fun t38 =>
                  j22 1 t38)))))) FU 0 0 t6) m x5 t6) (fun _ t => MP M dr a w (tol (adS (dN a.2.2.2)) w (qC (dN a.2.2.2)) g) (qC (dN a.2.2.2)) t) := by
  have h30 := ok.c30
  have fin := jac_fin (adj := adS (dN a.2.2.2)) hw hg
  refine Ok.m2 _ ?_
  rintro j d x5 t6 ⟨r, T, hrd, hP, hU, hL, hx⟩ hj
  rcases hx with ⟨rfl, hx⟩ | ⟨rfl, hrC⟩
  · exact Ok.bT rfl (Ok.p (hP.to hx))
  refine Ok.bF (by decide) ?_
  have T1000 : ∀ c, c < qC (dN a.2.2.2) → T c ≤ 1000 := fun c hc => Nat.le_trans (hU c hc) (jac_1000 hw _ c)
  have hCC : qC (dN a.2.2.2) * qC (dN a.2.2.2) ≤ 30 * 30 := Nat.mul_le_mul h30.1 h30.1
  refine Ok.f3 (qC (dN a.2.2.2) * qC (dN a.2.2.2)) 0 (fun k x8 x9 t => x9 = nI k ∧ ∃ T', MP M dr a w T' (qC (dN a.2.2.2)) t ∧ (∀ c, c < qC (dN a.2.2.2) → T' c ≤ T c) ∧ (∀ c, c < qC (dN a.2.2.2) → tol (adS (dN a.2.2.2)) w (qC (dN a.2.2.2)) g c ≤ T' c) ∧ (∀ k', k' < k → adS (dN a.2.2.2) (k' / qC (dN a.2.2.2)) (k' % qC (dN a.2.2.2)) = true → T' (k' % qC (dN a.2.2.2)) ≤ w (k' % qC (dN a.2.2.2)) + T (k' / qC (dN a.2.2.2))) ∧ ((x8 = 0 ∧ ∀ c, c < qC (dN a.2.2.2) → T' c = T c) ∨ (x8 = 1 ∧ ∃ c, c < qC (dN a.2.2.2) ∧ T' c < T c))) (by omega) (by omega) ⟨rfl, T, hP, fun _ _ => Nat.le_refl _, hL, fun k' h => by omega, Or.inl ⟨rfl, fun _ _ => rfl⟩⟩ ?_ ?_
  · rintro j2 k x8 x9 t hk ⟨rfl, T', hP', h1', h2', h3', hx'⟩ hj2
    have hC0 : 0 < qC (dN a.2.2.2) := by omega
    have ho : k % qC (dN a.2.2.2) < qC (dN a.2.2.2) := Nat.mod_lt _ hC0
    have hc : k / qC (dN a.2.2.2) < qC (dN a.2.2.2) := Nat.div_lt_of_lt_mul hk
    obtain ⟨r1, r2⟩ := hP'.rr
    obtain ⟨J, Q, rv⟩ := hP'.rv ok
    have T'1000 : ∀ c, c < qC (dN a.2.2.2) → T' c ≤ 1000 := fun c hc => Nat.le_trans (h1' c hc) (T1000 c hc)
    have wo := hw (k % qC (dN a.2.2.2))
    have to1 := T'1000 _ ho
    have tc1 := T'1000 _ hc
    have tT := h1' _ hc
    refine Ok.r (r_cells rv) (Ok.r (r_cells rv) ?_)
    rw [pk_mul]
    refine Ok.bF (nI_ge hk (by omega)) (Ok.r (r_cells rv) (Ok.bF (nI_ne0 hC0 (by omega)) (Ok.nE (pk_div (by omega) hC0 (by omega)) (Ok.r (r_cells rv) (Ok.bF (nI_ne0 hC0 (by omega)) (Ok.nE (pk_rem (by omega) hC0 (by omega)) (Ok.vE (nO rv.1) (m_areBeside rv hc ho) (Ok.j2 ?_))))))))
    rw [nI_1]
    have keep : (adS (dN a.2.2.2) (k / qC (dN a.2.2.2)) (k % qC (dN a.2.2.2)) = true → T' (k % qC (dN a.2.2.2)) ≤ w (k % qC (dN a.2.2.2)) + T (k / qC (dN a.2.2.2))) → Ok (j2 x8 (nI (k + 1)) t) (fun _ t => MP M dr a w (tol (adS (dN a.2.2.2)) w (qC (dN a.2.2.2)) g) (qC (dN a.2.2.2)) t) := by
      intro hkk
      refine hj2 _ _ _ ⟨rfl, T', hP', h1', h2', fun k' hk' ha => ?_, hx'⟩
      by_cases e : k' = k
      · subst e; exact hkk ha
      · exact h3' k' (by omega) ha
    refine Ok.bI bI_0 (fun z => ?_) (fun z => ?_)
    · exact keep (fun ha => Bool.noConfusion ((ha.symm.trans z : true = false)))
    have z' : adS (dN a.2.2.2) (k / qC (dN a.2.2.2)) (k % qC (dN a.2.2.2)) = true := by simpa using z
    refine Ok.r r2 (Ok.r (hP'.rd hc (by omega)) (Ok.bI (nI_leI (a := 1000) (by omega) (by omega)) (fun q1 => ?_) (fun q1 => ?_)))
    · exact keep (fun _ => by omega)
    refine Ok.r r1 (Ok.r (hP'.rw ho (by omega)) (Ok.bI (nI_leI (a := 1000) (by omega) (by omega)) (fun q2 => ?_) (fun q2 => ?_)))
    · exact keep (fun _ => by omega)
    refine Ok.r r2 (Ok.r (hP'.rd hc (by omega)) (Ok.r r1 (Ok.r (hP'.rw ho (by omega)) (Ok.r r2 (Ok.r (hP'.rd ho (by omega)) ?_)))))
    rw [nI_add]
    refine Ok.bI (nI_leI (by omega) (by omega)) (fun q3 => ?_) (fun q3 => ?_)
    · exact keep (fun _ => by omega)
    refine Ok.r r2 (Ok.r r2 (Ok.r (hP'.rd hc (by omega)) (Ok.r r1 (Ok.r (hP'.rw ho (by omega)) ?_))))
    rw [nI_add]
    refine Ok.w (hP'.put _ _ (by omega)) ?_
    intro t4 hP4
    refine hj2 _ _ _ ⟨rfl, _, hP4, fun c hc' => ?_, fun c hc' => ?_, fun k' hk' ha => ?_, Or.inr ⟨rfl, k % qC (dN a.2.2.2), ho, ?_⟩⟩
    · unfold updN
      by_cases e : c = k % qC (dN a.2.2.2)
      · rw [if_pos e, e]; have := h1' _ ho; omega
      · rw [if_neg e]; exact h1' c hc'
    · unfold updN
      by_cases e : c = k % qC (dN a.2.2.2)
      · rw [if_pos e, e]
        have f1 := fin.2 _ ho _ hc (by rw [show adS (dN a.2.2.2) (k % qC (dN a.2.2.2)) (k / qC (dN a.2.2.2)) = adS (dN a.2.2.2) (k / qC (dN a.2.2.2)) (k % qC (dN a.2.2.2)) from adj_sy _ _ _]; exact z')
        have f2 := h2' _ hc
        unfold tol at f2 ⊢
        omega
      · rw [if_neg e]; exact h2' c hc'
    · unfold updN
      by_cases e : k' % qC (dN a.2.2.2) = k % qC (dN a.2.2.2)
      · rw [if_pos e]
        by_cases e2 : k' = k
        · subst e2; omega
        · have := h3' k' (by omega) ha
          rw [e] at this ⊢
          omega
      · rw [if_neg e]
        by_cases e2 : k' = k
        · exact absurd (by rw [e2]) e
        · exact h3' k' (by omega) ha
    · unfold updN
      rw [if_pos rfl]
      have := h1' _ ho
      omega
  · rintro j2 x8 x9 t ⟨rfl, T', hP', h1', h2', h3', hx'⟩
    obtain ⟨J, Q, rv⟩ := hP'.rv ok
    refine Ok.r (r_cells rv) (Ok.r (r_cells rv) ?_)
    rw [pk_mul]
    have rel : ∀ c, c < qC (dN a.2.2.2) → ∀ o, o < qC (dN a.2.2.2) → adS (dN a.2.2.2) c o = true → T' c ≤ w c + T o := by
      intro c hc o ho ha
      have k1 : (o * qC (dN a.2.2.2) + c) / qC (dN a.2.2.2) = o := by
        rw [Nat.mul_comm, Nat.mul_add_div (by omega), Nat.div_eq_of_lt hc, Nat.add_zero]
      have k2 : (o * qC (dN a.2.2.2) + c) % qC (dN a.2.2.2) = c := by
        rw [Nat.mul_comm, Nat.mul_add_mod, Nat.mod_eq_of_lt hc]
      have k3 : o * qC (dN a.2.2.2) + c < qC (dN a.2.2.2) * qC (dN a.2.2.2) := by
        have : (o + 1) * qC (dN a.2.2.2) ≤ qC (dN a.2.2.2) * qC (dN a.2.2.2) := Nat.mul_le_mul_right _ (by omega)
        rw [Nat.add_mul, Nat.one_mul] at this
        omega
      have := h3' _ k3 (by rw [k1, k2, show adS (dN a.2.2.2) o c = adS (dN a.2.2.2) c o from adj_sy _ _ _]; exact ha)
      rw [k1, k2] at this
      exact this
    have hstep := jac_step hw hU h1' rel
    refine Ok.bT (nI_le (Nat.le_refl _) (by omega)) ?_
    rcases hx' with ⟨rfl, hx'⟩ | ⟨rfl, c, hc, hlt⟩
    · refine hj (d - 1) _ _ (by omega) ⟨r + 1, T', by omega, hP', hstep, h2', Or.inl ⟨rfl, fun c hc => Nat.le_antisymm ?_ (h2' c hc)⟩⟩
      refine tol_max (T := T') hw ⟨fun c hc => Nat.le_trans (h1' c hc) (Nat.le_trans (hU c hc) (jac_le hw r c)), fun c hc o ho ha => ?_⟩ hc
      rw [hx' o ho]
      exact rel c hc o ho ha
    · have hr1 : r + 1 ≤ qC (dN a.2.2.2) := by
        apply Classical.byContradiction
        intro q
        have er : r = qC (dN a.2.2.2) := by omega
        have a1 := hU c hc
        have a2 := h2' c hc
        rw [er] at a1
        unfold tol at a2
        omega
      exact hj (d - 1) _ _ (by omega) ⟨r + 1, T', by omega, hP', hstep, h2', Or.inr ⟨rfl, hr1⟩⟩
def MKw (M : Mfg) (dr : Int64) (a : Abs) (w : Nat → Nat) (k : Nat) (σ : St) : Prop := ∃ J Q, MV M J Q dr σ ∧ MR J Q a ∧ ∀ i, i < k → Q 35 i = nI (w i)
def MKt (M : Mfg) (dr : Int64) (a : Abs) (w T : Nat → Nat) (k : Nat) (σ : St) : Prop := ∃ J Q, MV M J Q dr σ ∧ MR J Q a ∧ (∀ i, i < qC (dN a.2.2.2) → Q 35 i = nI (w i)) ∧ ∀ i, i < k → Q 36 i = nI (T i)
theorem m_layAway (h : MKw M dr a w (qC (dN a.2.2.2)) σ) (hw : ∀ c, w c ≤ 1000) (ok : ScOK (dN a.2.2.2)) {g : Nat} (hg : g < qC (dN a.2.2.2)) : Ok (fX10_layAway σ (M.1 0) (nI g)) (fun _ t => MP M dr a w (tol (adS (dN a.2.2.2)) w (qC (dN a.2.2.2)) g) (qC (dN a.2.2.2)) t) := by
  have h30 := ok.c30
  obtain ⟨J0, Q0, h1, h2, h3⟩ := h
  unfold fX10_layAway
  refine Ok.f2 (qC (dN a.2.2.2)) 0 (fun k x t => x = nI k ∧ MKt M dr a w (fun i => if i = g then w g else 1000) k t) (by omega) (by omega) ⟨rfl, J0, Q0, h1, h2, h3, fun i hi => by omega⟩ ?_ ?_
  · rintro j k x t hk ⟨rfl, J, Q, g1, g2, g3, g4⟩ hj
    have rv : RV M J Q dr (dN a.2.2.2) t := ⟨g1, g2.rsr, ok⟩
    refine Ok.r (r_cells rv) (Ok.bF (nI_ge hk (by omega)) (Ok.r (nr_36 g1) (Ok.j3 ?_)))
    rw [nI_1]
    have fin : ∀ v, v = (if k = g then w g else 1000) → Ok ((sI 0 t (M.1 36) (nI k) (nI v)).bind (fun t44 => j (nI (k + 1)) t44)) (fun _ t => MP M dr a w (tol (adS (dN a.2.2.2)) w (qC (dN a.2.2.2)) g) (qC (dN a.2.2.2)) t) := by
      intro v hv
      refine Ok.w (g1.putN 36 k (nI v) rfl rfl (fun _ => rfl) (by omega) (by decide)) ?_
      intro t2 h5
      refine hj _ _ ⟨rfl, J, _, h5, g2.scr (fun _ _ => rfl) (fun k hk => updR_n _ _ (fun q => hk (by unfold mcR; omega))), fun i hi => ?_, fun i hi => ?_⟩
      · rw [updR_n _ _ (by decide)]; exact g3 i hi
      · rw [updR_s]
        unfold upd
        by_cases q : i = k
        · rw [if_pos q, hv, q]
        · rw [if_neg q]; exact g4 i (by omega)
    refine Ok.bI (nI_eq (by omega) (by omega)) (fun e => ?_) (fun e => ?_)
    · refine Ok.r (nr_35 g1) (Ok.r ((na_35 g1 (by omega)).trans (congrArg some (g3 k hk))) ?_)
      exact fin _ (by rw [if_pos e, e])
    · exact fin 1000 (by rw [if_neg e])
  · rintro j x t ⟨rfl, J, Q, g1, g2, g3, g4⟩
    have rv : RV M J Q dr (dN a.2.2.2) t := ⟨g1, g2.rsr, ok⟩
    refine Ok.r (r_cells rv) (Ok.bT (nI_le (Nat.le_refl _) (by omega)) ?_)
    refine m_pass1 hw ok hg FU (qC (dN a.2.2.2) + 1) 1 t (by unfold FU; omega) ⟨0, _, by omega, ⟨J, Q, g1, g2, g3, g4⟩, fun c hc => Nat.le_refl _, fun c hc => jac_le hw _ c, Or.inr ⟨rfl, by omega⟩⟩
theorem m_cost (hq : ∃ J Q, MV M J Q dr σ ∧ MR J Q a) (ok : ScOK (dN a.2.2.2)) {β : Type} {p : β → St → Prop} (hb : Nat → Bool) (A B : Nat) (E : St → Option (β × St)) (hE : ∀ t, MKw M dr a (wgt hb A B) (qC (dN a.2.2.2)) t → Ok (E t) p) : Ok (lo2 (fun l11 (x9 : Int32) (t10 : St) =>
          (gI 10 26 t10 (M.1 0)).bind fun x12 =>
        if x12 ≤ x9 then E t10
        else
          (gR 10 35 t10 (M.1 0)).bind fun a38 =>
          bd (fX10_has t10 (msk hb (qC (dN a.2.2.2))) x9) (fun x39 t40 =>
          jo3 (fun (v41 : Int32) (v42 : Int32) (v43 : Nat) =>
            (sI 0 t40 v43 v42 v41).bind (fun t45 =>
            l11 (x9 + 1) t45)) (fun j44 =>
            if x39 = 0 then
              j44 (nI B) x9 a38
            else
              j44 (nI A) x9 a38))) FU 0 σ) p := by
  have h30 := ok.c30
  obtain ⟨J0, Q0, h1, h2⟩ := hq
  refine Ok.f2 (qC (dN a.2.2.2)) 0 (fun k x t => x = nI k ∧ MKw M dr a (wgt hb A B) k t) (by omega) (by omega) ⟨rfl, J0, Q0, h1, h2, fun i hi => by omega⟩ ?_ ?_
  · rintro j k x t hk ⟨rfl, J, Q, g1, g2, g3⟩ hj
    have rv : RV M J Q dr (dN a.2.2.2) t := ⟨g1, g2.rsr, ok⟩
    have fin : ∀ v, v = wgt hb A B k → Ok ((sI 0 t (M.1 35) (nI k) (nI v)).bind (fun t44 => j (nI (k + 1)) t44)) p := by
      intro v hv
      refine Ok.w (g1.putN 35 k (nI v) rfl rfl (fun _ => rfl) (by omega) (by decide)) ?_
      intro t2 h5
      refine hj _ _ ⟨rfl, J, _, h5, g2.scr (fun _ _ => rfl) (fun k hk => updR_n _ _ (fun q => hk (by unfold mcR; omega))), fun i hi => ?_⟩
      rw [updR_s]
      unfold upd
      by_cases q : i = k
      · rw [if_pos q, hv, q]
      · rw [if_neg q]; exact g3 i (by omega)
    refine Ok.r (r_cells rv) (Ok.bF (nI_ge hk (by omega)) (Ok.r (nr_35 g1) (Ok.cE (f_has t _ (by omega)) (Ok.j3 ?_))))
    rw [nI_1, bt_msk hb (qC (dN a.2.2.2)) (by omega) k (by omega), decide_eq_true hk, Bool.true_and]
    refine Ok.bI bI_0 (fun z => ?_) (fun z => ?_)
    · exact fin B (by unfold wgt; rw [z]; rfl)
    · exact fin A (by unfold wgt; rw [if_pos (by simpa using z)])
  · rintro j x t ⟨rfl, hm⟩
    have hm' := hm
    obtain ⟨J, Q, g1, g2, g3⟩ := hm
    have rv : RV M J Q dr (dN a.2.2.2) t := ⟨g1, g2.rsr, ok⟩
    exact Ok.r (r_cells rv) (Ok.bT (nI_le (Nat.le_refl _) (by omega)) (hE t hm'))
theorem m_risk (h : MA M dr a σ) (ok : NoLd a.2.2.2 ∨ LdOK a.2.2.2) (v1 v2 : Int32) : Ok (fX10_risk σ (M.1 0) v1 v2) (fun r t => r = riskA a v1 v2 ∧ MA M dr a t) := by
  obtain ⟨h30, h4, _, _, hl, _⟩ := okC ok
  unfold fX10_risk
  refine Ok.vE (ma_O h) (ma_isCell h (by omega) v1) ?_
  rcases ixc v1 (n := qC (dN a.2.2.2)) (by omega) with ⟨e1, hn⟩ | ⟨f, hf, rfl, e1⟩
  · rw [decide_eq_false hn]
    exact Ok.bT rfl (Ok.p ⟨by simp only [riskA, e1], h⟩)
  rw [decide_eq_true (ix_in hf (by omega))]
  refine Ok.bF (by decide) (Ok.vE (ma_O h) (ma_isCell h (by omega) v2) ?_)
  rcases ixc v2 (n := qC (dN a.2.2.2)) (by omega) with ⟨e2, hn⟩ | ⟨g, hg, rfl, e2⟩
  · rw [decide_eq_false hn]
    exact Ok.bT rfl (Ok.p ⟨by simp only [riskA, e1, e2], h⟩)
  rw [decide_eq_true (ix_in hg (by omega))]
  have ok := hl (by omega)
  have okn : ScOK (dN a.2.2.2) := ok.1.1
  obtain ⟨J, Q, hr, hu, rv⟩ := ma_RV h okn
  refine Ok.bF (by decide) (Ok.v (nO rv.1) (m_hid rv hu) ?_)
  rintro r1 t1 ⟨rfl, rv1⟩
  refine m_cost ⟨J, Q, rv1.1, hr⟩ okn (hidB (dN a.2.2.2) (rul a.2.1)) 0 1 _ ?_
  intro t2 hm
  have hm' := hm
  obtain ⟨J2, Q2, g1, _⟩ := hm'
  refine Ok.v (nO g1) (m_layAway hm (fun c => rsk_w _ c) okn hf) ?_
  intro w3 t3 hP
  obtain ⟨r1, r2⟩ := hP.rr
  refine Ok.r r2 (Ok.r (hP.rd hg (by omega)) (Ok.p ⟨?_, hP.ma⟩))
  simp only [riskA, e1, e2]
  unfold rskT
  rw [tol_sym (fun c => rsk_w _ c) (fun c o => adj_sy _ c o) hf hg]
end
