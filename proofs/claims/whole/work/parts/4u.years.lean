/-! years by draws -/
def dwF (f : Int64 → Int64) : Prop := ∀ x, (x * 6364136223846793005) + 1442695040888963407 = f x
def dr33 (x : Int64) : Int64 := ((Int64.toUInt64 x >>> ((Int32.toInt64 33).toUInt64 &&& Int64.toUInt64 63)).toInt64)
def drN (x : Int64) (n : Nat) : Nat := (x.toUInt64.toNat / 2 ^ 33) % n
theorem dr33_N (x : Int64) : dr33 x = lN (x.toUInt64.toNat / 2 ^ 33) ∧ x.toUInt64.toNat / 2 ^ 33 < 2 ^ 31 := by
  have hlt : x.toUInt64.toNat < 2 ^ 64 := x.toUInt64.toNat_lt
  refine ⟨?_, by omega⟩
  unfold dr33
  rw [show ((Int32.toInt64 33).toUInt64 &&& Int64.toUInt64 63) = (33 : UInt64) from by decide]
  apply Int64.toBitVec_inj.mp
  show (x.toUInt64 >>> (33 : UInt64)).toBitVec = BitVec.ofNat 64 _
  apply BitVec.eq_of_toNat_eq
  rw [UInt64.toBitVec_shiftRight]
  show (x.toUInt64.toBitVec >>> ((33 : UInt64).toBitVec % 64).toNat).toNat = _
  rw [BitVec.toNat_ushiftRight, BitVec.toNat_ofNat, Nat.mod_eq_of_lt (show x.toUInt64.toNat / 2 ^ 33 < 2 ^ 64 by omega), show ((33 : UInt64).toBitVec % 64).toNat = 33 from by decide, Nat.shiftRight_eq_div_pow]
  rfl
theorem dr_val (x : Int64) {n : Nat} (h0 : 0 < n) (hn : n < 2 ^ 31) : Int64.toInt32 (dr33 x - dr33 x / (Int32.toInt64 (nI n)) * (Int32.toInt64 (nI n))) = nI (drN x n) ∧ drN x n < n := by
  obtain ⟨e, hk⟩ := dr33_N x
  refine ⟨?_, Nat.mod_lt _ h0⟩
  rw [e, nI_l hn, pk_lRem (by omega) h0 (by omega), lN_i]
  rfl
def yrS (m : Nat) (x1 x2 x3 : Int64) (s : Scn) : Scn := (fun s1 : Scn => if drN x3 10 < m then sF s1 4 (min 9 (qF s1 + 2)) else s1) (sG s (drN x1 (qC s)) (clN (nI (qG s (drN x1 (qC s))) + (nI (drN x2 3) - 1))))
def yrD (f : Int64 → Int64) (L : Option LawF) (m : Nat) (p : Int64 × Lnd) : Int64 × Lnd := (f (f (f p.1)), passD L (setN (keepD p.2) (yrS m (f p.1) (f (f p.1)) (f (f (f p.1))) (dN p.2))))
def yrsD (f : Int64 → Int64) (L : Option LawF) (m : Nat) : Nat → Int64 × Lnd → Int64 × Lnd
  | 0, p => p
  | k + 1, p => yrD f L m (yrsD f L m k p)
def yearsA (f : Int64 → Int64) (a : Abs) (v : Int32) (sd dr : Int64) : Int32 × Abs × Int64 := if qC (dN a.2.2.2) = 0 then (-1, a, dr) else if v < 1 then (-1, a, dr) else if 60 < v then (-1, a, dr) else if qU (dN a.2.2.2) + v.toNatClampNeg ≤ 9999 then (nI (qU (dN a.2.2.2) + v.toNatClampNeg), setD a (yrsD f (rul a.2.1) a.2.2.1.1 v.toNatClampNeg (sd, a.2.2.2)).2, (yrsD f (rul a.2.1) a.2.2.1.1 v.toNatClampNeg (sd, a.2.2.2)).1) else (-1, a, dr)
theorem yrS_ok {s : Scn} (ok : ScOK s) (m : Nat) (x1 x2 x3 : Int64) : ScOK (yrS m x1 x2 x3 s) ∧ SmL s (yrS m x1 x2 x3 s) ∧ qU (yrS m x1 x2 x3 s) = qU s ∧ qL (yrS m x1 x2 x3 s) = qL s := by
  unfold yrS
  have h1 := ok.sG (drN x1 (qC s)) (clN_ok (nI (qG s (drN x1 (qC s))) + (nI (drN x2 3) - 1))).2
  by_cases q : drN x3 10 < m
  · simp only [if_pos q]
    exact ⟨h1.sFo (by omega), ⟨rfl, rfl, rfl, rfl, fun _ _ => rfl⟩, rfl, rfl⟩
  · simp only [if_neg q]
    exact ⟨h1, ⟨rfl, rfl, rfl, rfl, fun _ _ => rfl⟩, rfl, rfl⟩
theorem yr1_ok {d : Lnd} (ok : LdOK d) (L : Option LawF) (m : Nat) (x1 x2 x3 : Int64) (hU : qU (dN d) < 9999) : LdOK (setN (keepD d) (yrS m x1 x2 x3 (dN d))) ∧ (∃ e l, dA (setN (keepD d) (yrS m x1 x2 x3 (dN d))) = e :: l ∧ qU e.1 = qU (dN (setN (keepD d) (yrS m x1 x2 x3 (dN d))))) ∧ qU (dN (setN (keepD d) (yrS m x1 x2 x3 (dN d)))) < 9999 ∧ LdOK (passD L (setN (keepD d) (yrS m x1 x2 x3 (dN d)))) ∧ qU (dN (passD L (setN (keepD d) (yrS m x1 x2 x3 (dN d))))) = qU (dN d) + 1 := by
  obtain ⟨k1, e, l, k2, k3⟩ := ok.keep
  have okn : ScOK (dN d) := ok.1.1
  obtain ⟨y1, y2, y3, y4⟩ := yrS_ok okn m x1 x2 x3
  generalize yrS m x1 x2 x3 (dN d) = s at y1 y2 y3 y4 ⊢
  have k4 : LdOK (setN (keepD d) s) := k1.set y1 y2 y3 y4
  have k5 : ∃ e l, dA (setN (keepD d) s) = e :: l ∧ qU e.1 = qU (dN (setN (keepD d) s)) := ⟨e, l, k2, k3.trans y3.symm⟩
  have k6 : qU (dN (setN (keepD d) s)) < 9999 := by show qU s < 9999; omega
  refine ⟨k4, k5, k6, k4.pass L k5 k6, ?_⟩
  show qU s + 1 = _
  omega
theorem yrD_ok (f : Int64 → Int64) (L : Option LawF) (m : Nat) (p : Int64 × Lnd) (ok : LdOK p.2) (hU : qU (dN p.2) < 9999) : LdOK (yrD f L m p).2 ∧ qU (dN (yrD f L m p).2) = qU (dN p.2) + 1 := by
  obtain ⟨_, _, _, h4, h5⟩ := yr1_ok ok L m (f p.1) (f (f p.1)) (f (f (f p.1))) hU
  exact ⟨h4, h5⟩
theorem yrs_ok {d : Lnd} (ok : LdOK d) (f : Int64 → Int64) (L : Option LawF) (m : Nat) (sd : Int64) : ∀ k, qU (dN d) + k ≤ 9999 → LdOK (yrsD f L m k (sd, d)).2 ∧ qU (dN (yrsD f L m k (sd, d)).2) = qU (dN d) + k := by
  intro k
  induction k with
  | zero => intro _; exact ⟨ok, rfl⟩
  | succ k ih =>
    intro h
    obtain ⟨h1, h2⟩ := ih (by omega)
    rw [yrsD]
    generalize yrsD f L m k (sd, d) = p at h1 h2 ⊢
    obtain ⟨h3, h4⟩ := yrD_ok f L m p h1 (by omega)
    exact ⟨h3, by omega⟩
theorem yearsA_ok (f : Int64 → Int64) {a : Abs} (h : AOK a) (v : Int32) (sd dr : Int64) : AOK (yearsA f a v sd dr).2.1 := by
  obtain ⟨h30, h4, _, _, hl, _⟩ := okC h.2
  unfold yearsA
  split
  · exact h
  · have ok := hl (by omega)
    split
    · exact h
    · split
      · exact h
      · split
        · rename_i q
          exact h.setD (yrs_ok ok _ _ _ _ _ q).1
        · exact h
theorem asc (x y : Int32) : x + y - 1 = x + (y - 1) := by
  apply Int32.toBitVec_inj.mp
  simp only [Int32.toBitVec_sub, Int32.toBitVec_add]
  rw [BitVec.sub_eq_add_neg, BitVec.sub_eq_add_neg, BitVec.add_assoc]
section
variable {K : Cfg} {dr : Int64} {a : Abs} {σ : St} {f : Int64 → Int64}
theorem ca_draw (hf : dwF f) (h : CA K dr a σ) {n : Nat} (h0 : 0 < n) (hn : n < 2 ^ 31) : Ok (fX9_draw σ (K.1 0) (nI n)) (fun r t => r = nI (drN (f dr) n) ∧ CA K (f dr) a t) := by
  obtain ⟨I, R, hv, hr⟩ := h
  unfold fX9_draw
  refine Ok.r (kr_0_15 hv) ?_
  rw [hf dr]
  refine Ok.w (hv.putDr _) ?_
  intro t v1
  refine Ok.bT (show nI 1 ≤ nI n from nI_le (by omega) hn) (Ok.r (kr_0_15 v1) (Ok.bF ?_ (Ok.p ⟨(dr_val _ h0 hn).1, I, R, v1, hr⟩)))
  rw [nI_l hn]
  intro q
  have := (pk_lEQ (a := n) (b := 0) (by omega) (by decide)).mp q
  omega
theorem mist_i (h : CA K dr a σ) : gI 9 6 σ (K.1 0) = some (nI a.2.2.1.1) ∧ a.2.2.1.1 ≤ 9 := by
  obtain ⟨I, R, hv, hr⟩ := h
  exact ⟨(kr_0_6 hv).trans (congrArg some hr.2.2.1.1), hr.2.2.1.2.1⟩
theorem ca_change (hf : dwF f) (h : CA K dr a σ) (ok : ScOK (dN a.2.2.2)) : Ok (fX9_changeByDraws σ (K.1 0)) (fun _ t => CA K (f (f (f dr))) (setD a (setN a.2.2.2 (yrS a.2.2.1.1 (f dr) (f (f dr)) (f (f (f dr))) (dN a.2.2.2)))) t) := by
  have h30 := ok.c30
  have hF := ok.f
  unfold fX9_changeByDraws
  refine Ok.r (ca_now h) (Ok.r (ca_f h 2 (by decide)) (Ok.v (ca_O h) (ca_draw hf h (n := qC (dN a.2.2.2)) (by omega) (by omega)) ?_))
  rintro r1 t1 ⟨rfl, h1⟩
  have hc : drN (f dr) (qC (dN a.2.2.2)) < qC (dN a.2.2.2) := Nat.mod_lt _ (by omega)
  refine Ok.v (ca_O h1) (ca_draw hf h1 (n := 3) (by omega) (by omega)) ?_
  rintro r2 t2 ⟨rfl, h2⟩
  refine Ok.n (Ok.r (ca_now h2) (Ok.vE (ca_O7 h2) (ca_hasCell h2 _) (Ok.j1 ?_)))
  rw [decide_eq_true (ix_in hc (by omega))]
  have og := ok.g hc
  refine Ok.bF (by decide) (Ok.r (ca_now h2) (Ok.r (ca_gr h2) (Ok.r (ca_now h2) (Ok.r (ca_gr h2) (Ok.r (ca_G h2 hc (by omega)) (Ok.cE (f_within _ _) ?_))))))
  rw [(clN_ok _).1]
  refine Ok.w (h2.setG _ _ (by omega)) ?_
  intro t3 h3
  refine Ok.v (ca_O h3) (ca_draw hf h3 (n := 10) (by omega) (by omega)) ?_
  rintro r4 t4 ⟨rfl, h4⟩
  obtain ⟨m1, m2⟩ := mist_i h4
  have hd : drN (f (f (f dr))) 10 < 10 := Nat.mod_lt _ (by omega)
  have m2' : a.2.2.1.1 ≤ 9 := m2
  refine Ok.r m1 (Ok.bI (nI_leI (a := a.2.2.1.1) (b := drN (f (f (f dr))) 10) (by omega) (by omega)) (fun q => ?_) (fun q => ?_))
  · refine Ok.p ?_
    unfold yrS
    simp only [if_neg (show ¬ drN (f (f (f dr))) 10 < a.2.2.1.1 by omega)]
    exact h4
  · refine Ok.r (ca_now h4) (Ok.r (ca_now h4) (Ok.r (ca_f h4 4 (by decide)) ?_))
    show Ok (bd (fJ9_min_7cf53 t4 9 (nI (qF (dN a.2.2.2)) + 2)) _) _
    rw [show nI (qF (dN a.2.2.2)) + 2 = nI (qF (dN a.2.2.2) + 2) from nI_add _ 2]
    refine Ok.cE ((f_min _ _ _).trans (congrArg (fun z => some (z, t4)) (min_i (a := 9) (by omega) (by omega)))) (Ok.w (h4.setF 4 _ (by decide)) ?_)
    intro t5 h5
    refine Ok.p ?_
    unfold yrS
    simp only [if_pos (show drN (f (f (f dr))) 10 < a.2.2.1.1 by omega)]
    exact h5
theorem ca_year (hf : dwF f) {p : Int64 × Lnd} (h1 : CA K p.1 (setD a p.2) σ) (o1 : LdOK p.2) (hU : qU (dN p.2) < 9999) {P : Int32 → St → Prop} (G : St → Option (Int32 × St)) (hG : ∀ t, CA K (yrD f (rul a.2.1) a.2.2.1.1 p).1 (setD a (yrD f (rul a.2.1) a.2.2.1.1 p).2) t → Ok (G t) P) : Ok ((gR 9 11 σ (K.1 0)).bind fun a11 => (gR 9 8 σ (K.1 0)).bind fun a12 => bo 5 σ a11 (fX5_keep σ a11 a12) (fun w13 t14 => bo 9 t14 (K.1 0) (fX9_changeByDraws t14 (K.1 0)) (fun w15 t16 => bo 9 t16 (K.1 0) (fX9_passHour t16 (K.1 0)) (fun w17 t18 => G t18)))) P := by
  refine Ok.r (ca_past h1) (Ok.r (ca_now h1) (Ok.v (ca_O5 h1) (ca_keep h1 o1) ?_))
  intro w t2 h2
  have okn : ScOK (dN p.2) := o1.1.1
  unfold yrD at hG
  have hc := ca_change hf h2 okn
  obtain ⟨q1, q2, q3, q4, q5⟩ := yr1_ok o1 (rul a.2.1) a.2.2.1.1 (f p.1) (f (f p.1)) (f (f (f p.1))) hU
  generalize f (f (f p.1)) = x3 at hG hc q1 q2 q3 q4 q5
  generalize f (f p.1) = x2 at hG hc q1 q2 q3 q4 q5
  generalize f p.1 = x1 at hG hc q1 q2 q3 q4 q5
  refine Ok.v (ca_O h2) hc ?_
  intro w3 t3 h3
  refine Ok.v (ca_O h3) (ca_pass h3 q1 q2 q3) ?_
  intro w4 t4 h4
  exact hG t4 h4
theorem c_years (hf : dwF f) (h : CA K dr a σ) (ok : NoLd a.2.2.2 ∨ LdOK a.2.2.2) (v : Int32) (sd : Int64) : Ok (fX9_years σ (K.1 0) v sd) (fun r t => r = (yearsA f a v sd dr).1 ∧ CA K (yearsA f a v sd dr).2.2 (yearsA f a v sd dr).2.1 t) := by
  obtain ⟨h30, h4, hu, _, hl, _⟩ := okC ok
  unfold fX9_years
  refine Ok.vE (ca_O h) (ca_noLand h (by omega)) ?_
  by_cases e : qC (dN a.2.2.2) = 0
  · have ee : yearsA f a v sd dr = (-1, a, dr) := by simp only [yearsA, if_pos e]
    rw [decide_eq_true e, ee]
    exact Ok.bF (by decide) (Ok.p ⟨rfl, h⟩)
  rw [decide_eq_false e]
  have ok := hl (by omega)
  refine Ok.bT rfl (Ok.b (fun q1 => ?_) (fun q1 => Ok.b (fun q2 => ?_) (fun q2 => ?_)))
  · have ee : yearsA f a v sd dr = (-1, a, dr) := by simp only [yearsA, if_neg e, if_pos q1]
    rw [ee]
    exact Ok.p ⟨rfl, h⟩
  · have ee : yearsA f a v sd dr = (-1, a, dr) := by simp only [yearsA, if_neg e, if_neg q1, if_pos q2]
    rw [ee]
    exact Ok.p ⟨rfl, h⟩
  obtain ⟨j, j1, j2, rfl⟩ := rngI 1 60 (by decide) (by decide) q1 q2
  have jc : (nI j).toNatClampNeg = j := nI_clamp (by omega)
  refine Ok.r (ca_now h) (Ok.r (ca_f h 6 (by decide)) ?_)
  show Ok (if nI (qU (dN a.2.2.2)) + nI j ≤ 9999 then _ else _) _
  rw [nI_add]
  refine Ok.bI (nI_leI (b := 9999) (by omega) (by omega)) (fun q => ?_) (fun q => ?_)
  · have ee : yearsA f a (nI j) sd dr = (nI (qU (dN a.2.2.2) + j), setD a (yrsD f (rul a.2.1) a.2.2.1.1 j (sd, a.2.2.2)).2, (yrsD f (rul a.2.1) a.2.2.1.1 j (sd, a.2.2.2)).1) := by simp only [yearsA, if_neg e, if_neg q1, if_neg q2, jc, if_pos q]
    rw [ee]
    obtain ⟨I, R, hv, hr⟩ := h
    refine Ok.w (hv.putDr sd) ?_
    intro t1 v1
    refine Ok.f2 j 0 (fun k x t => x = nI k ∧ CA K (yrsD f (rul a.2.1) a.2.2.1.1 k (sd, a.2.2.2)).1 (setD a (yrsD f (rul a.2.1) a.2.2.1.1 k (sd, a.2.2.2)).2) t) (by omega) (by omega) ⟨rfl, I, R, v1, hr⟩ ?_ ?_
    · rintro jj k x t hk ⟨rfl, h1⟩ hj
      obtain ⟨o1, o2⟩ := yrs_ok ok f (rul a.2.1) a.2.2.1.1 sd k (by omega)
      refine Ok.bF (nI_ge hk (by omega)) ?_
      rw [nI_1]
      simp only [yrsD] at hj
      generalize yrsD f (rul a.2.1) a.2.2.1.1 k (sd, a.2.2.2) = p at h1 hj o1 o2
      exact ca_year hf h1 o1 (by omega) _ (fun t4 h4 => hj _ _ ⟨rfl, h4⟩)
    · rintro jj x t ⟨rfl, h1⟩
      obtain ⟨o1, o2⟩ := yrs_ok ok f (rul a.2.1) a.2.2.1.1 sd j (by omega)
      exact Ok.bT (nI_le (Nat.le_refl _) (by omega)) (Ok.r (ca_now h1) (Ok.r (ca_f h1 6 (by decide)) (Ok.p ⟨congrArg nI o2, h1⟩)))
  · have ee : yearsA f a (nI j) sd dr = (-1, a, dr) := by simp only [yearsA, if_neg e, if_neg q1, if_neg q2, jc, if_neg q]
    rw [ee]
    exact Ok.p ⟨rfl, h⟩
end
section
variable {M : Mfg} {dr : Int64} {a : Abs} {σ : St} {f : Int64 → Int64}
theorem ma_draw (hf : dwF f) (h : MA M dr a σ) {n : Nat} (h0 : 0 < n) (hn : n < 2 ^ 31) : Ok (fX10_draw σ (M.1 0) (nI n)) (fun r t => r = nI (drN (f dr) n) ∧ MA M (f dr) a t) := by
  obtain ⟨J, Q, hv, hr⟩ := h
  unfold fX10_draw
  refine Ok.r (nr_34 hv) ?_
  rw [hf dr]
  refine Ok.w (hv.putDr _) ?_
  intro t v1
  refine Ok.r (nr_34 v1) (Ok.bF ?_ (Ok.p ⟨(dr_val _ h0 hn).1, J, Q, v1, hr⟩))
  rw [nI_l hn]
  intro q
  have := (pk_lEQ (a := n) (b := 0) (by omega) (by decide)).mp q
  omega
theorem ma_mist (h : MA M dr a σ) : gI 10 31 σ (M.1 0) = some (nI a.2.2.1.1) ∧ a.2.2.1.1 ≤ 9 := by
  obtain ⟨J, Q, hv, hr⟩ := h
  exact ⟨(nr_31 hv).trans (congrArg some hr.2.2.1.1), hr.2.2.1.2.1⟩
theorem ma_change (hf : dwF f) (h : MA M dr a σ) (ok : ScOK (dN a.2.2.2)) : Ok (fX10_drawHour σ (M.1 0)) (fun _ t => MA M (f (f (f dr))) (setD a (setN a.2.2.2 (yrS a.2.2.1.1 (f dr) (f (f dr)) (f (f (f dr))) (dN a.2.2.2)))) t) := by
  have h30 := ok.c30
  have h4' := ok.t
  have hF := ok.f
  unfold fX10_drawHour
  refine Ok.r (ma_cells h) (Ok.v (ma_O h) (ma_draw hf h (n := qC (dN a.2.2.2)) (by omega) (by omega)) ?_)
  rintro r1 t1 ⟨rfl, h1⟩
  have hc : drN (f dr) (qC (dN a.2.2.2)) < qC (dN a.2.2.2) := Nat.mod_lt _ (by omega)
  rw [show (0 : Int32) + nI (drN (f dr) (qC (dN a.2.2.2))) = nI (drN (f dr) (qC (dN a.2.2.2))) from Int32.zero_add _]
  refine Ok.r (ma_nr h1) (Ok.r (ma_nr h1) (Ok.r (ma_G h1 hc (by omega)) (Ok.v (ma_O h1) (ma_draw hf h1 (n := 3) (by omega) (by omega)) ?_)))
  rintro r2 t2 ⟨rfl, h2⟩
  refine Ok.cE (f_min _ _ _) (Ok.cE ((f_max _ _ _).trans (congrArg (fun z => some (z, t2)) (show _ = clI _ from rfl))) ?_)
  rw [asc, (clN_ok _).1]
  refine Ok.w (h2.setG _ _ (by omega)) ?_
  intro t3 h3
  refine Ok.v (ma_O h3) (ma_draw hf h3 (n := 10) (by omega) (by omega)) ?_
  rintro r4 t4 ⟨rfl, h4⟩
  obtain ⟨m1, m2⟩ := ma_mist h4
  have hd : drN (f (f (f dr))) 10 < 10 := Nat.mod_lt _ (by omega)
  have m2' : a.2.2.1.1 ≤ 9 := m2
  refine Ok.r m1 (Ok.bI (nI_leI (a := a.2.2.1.1) (b := drN (f (f (f dr))) 10) (by omega) (by omega)) (fun q => ?_) (fun q => ?_))
  · refine Ok.p ?_
    unfold yrS
    simp only [if_neg (show ¬ drN (f (f (f dr))) 10 < a.2.2.1.1 by omega)]
    exact h4
  · refine Ok.r (ma_nr h4) (Ok.r (ma_nr h4) (Ok.r (ma_F h4) ?_))
    show Ok (bd (fJ9_min_7cf53 t4 9 (nI (qF (dN a.2.2.2)) + 2)) _) _
    rw [show nI (qF (dN a.2.2.2)) + 2 = nI (qF (dN a.2.2.2) + 2) from nI_add _ 2]
    refine Ok.cE ((f_min _ _ _).trans (congrArg (fun z => some (z, t4)) (min_i (a := 9) (by omega) (by omega)))) (Ok.w (h4.setF 4 _ (by decide) h4'.2 h30.1) ?_)
    intro t5 h5
    refine Ok.p ?_
    unfold yrS
    simp only [if_pos (show drN (f (f (f dr))) 10 < a.2.2.1.1 by omega)]
    exact h5
theorem ma_year (hf : dwF f) {p : Int64 × Lnd} (h1 : MA M p.1 (setD a p.2) σ) (o1 : LdOK p.2) (hU : qU (dN p.2) < 9999) {P : Int32 → St → Prop} (G : St → Option (Int32 × St)) (hG : ∀ t, MA M (yrD f (rul a.2.1) a.2.2.1.1 p).1 (setD a (yrD f (rul a.2.1) a.2.2.1.1 p).2) t → Ok (G t) P) : Ok (bo 10 σ (M.1 0) (fX10_keep σ (M.1 0)) (fun w10 t11 => bo 10 t11 (M.1 0) (fX10_drawHour t11 (M.1 0)) (fun w12 t13 => bo 10 t13 (M.1 0) (fX10_passHour t13 (M.1 0)) (fun w14 t15 => G t15)))) P := by
  refine Ok.v (ma_O h1) (ma_keep h1 o1) ?_
  intro w t2 h2
  have okn : ScOK (dN p.2) := o1.1.1
  unfold yrD at hG
  have hc := ma_change hf h2 okn
  obtain ⟨q1, q2, q3, q4, q5⟩ := yr1_ok o1 (rul a.2.1) a.2.2.1.1 (f p.1) (f (f p.1)) (f (f (f p.1))) hU
  generalize f (f (f p.1)) = x3 at hG hc q1 q2 q3 q4 q5
  generalize f (f p.1) = x2 at hG hc q1 q2 q3 q4 q5
  generalize f p.1 = x1 at hG hc q1 q2 q3 q4 q5
  refine Ok.v (ma_O h2) hc ?_
  intro w3 t3 h3
  refine Ok.v (ma_O h3) (ma_pass h3 q1) ?_
  intro w4 t4 h4
  exact hG t4 h4
theorem m_years (hf : dwF f) (h : MA M dr a σ) (ok : NoLd a.2.2.2 ∨ LdOK a.2.2.2) (v : Int32) (sd : Int64) : Ok (fX10_years σ (M.1 0) v sd) (fun r t => r = (yearsA f a v sd dr).1 ∧ MA M (yearsA f a v sd dr).2.2 (yearsA f a v sd dr).2.1 t) := by
  obtain ⟨h30, h4, hu, _, hl, _⟩ := okC ok
  unfold fX10_years
  refine Ok.r (ma_cells h) (Ok.bI (nI_eq (b := 0) (by omega) (by omega)) (fun e => ?_) (fun e => ?_))
  · have ee : yearsA f a v sd dr = (-1, a, dr) := by simp only [yearsA, if_pos e]
    rw [ee]
    exact Ok.p ⟨rfl, h⟩
  have ok := hl (by omega)
  by_cases q1 : v < 1
  · have ee : yearsA f a v sd dr = (-1, a, dr) := by simp only [yearsA, if_neg e, if_pos q1]
    rw [ee]
    refine Ok.v (ma_O h) (P1 := fun r t => r = 0 ∧ t = σ) ?_ ?_
    · unfold fX10_areHours
      refine Ok.cE (f_in _ _ _ _) ?_
      rw [if_pos q1]
      exact Ok.bT rfl (Ok.p ⟨rfl, rfl⟩)
    · rintro r t ⟨rfl, rfl⟩
      exact Ok.bT rfl (Ok.p ⟨rfl, h⟩)
  by_cases q2 : 60 < v
  · have ee : yearsA f a v sd dr = (-1, a, dr) := by simp only [yearsA, if_neg e, if_neg q1, if_pos q2]
    rw [ee]
    refine Ok.v (ma_O h) (P1 := fun r t => r = 0 ∧ t = σ) ?_ ?_
    · unfold fX10_areHours
      refine Ok.cE (f_in _ _ _ _) ?_
      rw [if_neg q1, if_pos q2]
      exact Ok.bT rfl (Ok.p ⟨rfl, rfl⟩)
    · rintro r t ⟨rfl, rfl⟩
      exact Ok.bT rfl (Ok.p ⟨rfl, h⟩)
  obtain ⟨j, j1, j2, rfl⟩ := rngI 1 60 (by decide) (by decide) q1 q2
  have jc : (nI j).toNatClampNeg = j := nI_clamp (by omega)
  refine Ok.vE (ma_O h) (m_areHours h hu j1 j2) (Ok.bI bI_0 (fun q => ?_) (fun q => ?_))
  · have q' : ¬ qU (dN a.2.2.2) + j ≤ 9999 := of_decide_eq_false q
    have ee : yearsA f a (nI j) sd dr = (-1, a, dr) := by simp only [yearsA, if_neg e, if_neg q1, if_neg q2, jc, if_neg q']
    rw [ee]
    exact Ok.p ⟨rfl, h⟩
  · have q' : qU (dN a.2.2.2) + j ≤ 9999 := by simpa using q
    have ee : yearsA f a (nI j) sd dr = (nI (qU (dN a.2.2.2) + j), setD a (yrsD f (rul a.2.1) a.2.2.1.1 j (sd, a.2.2.2)).2, (yrsD f (rul a.2.1) a.2.2.1.1 j (sd, a.2.2.2)).1) := by simp only [yearsA, if_neg e, if_neg q1, if_neg q2, jc, if_pos q']
    rw [ee]
    obtain ⟨J, Q, hv, hr⟩ := h
    refine Ok.w (hv.putDr sd) ?_
    intro t1 v1
    refine Ok.f2 j 0 (fun k x t => x = nI k ∧ MA M (yrsD f (rul a.2.1) a.2.2.1.1 k (sd, a.2.2.2)).1 (setD a (yrsD f (rul a.2.1) a.2.2.1.1 k (sd, a.2.2.2)).2) t) (by omega) (by omega) ⟨rfl, J, Q, v1, hr⟩ ?_ ?_
    · rintro jj k x t hk ⟨rfl, h1⟩ hj
      obtain ⟨o1, o2⟩ := yrs_ok ok f (rul a.2.1) a.2.2.1.1 sd k (by omega)
      refine Ok.bF (nI_ge hk (by omega)) ?_
      rw [nI_1]
      simp only [yrsD] at hj
      generalize yrsD f (rul a.2.1) a.2.2.1.1 k (sd, a.2.2.2) = p at h1 hj o1 o2
      exact ma_year hf h1 o1 (by omega) _ (fun t4 h4 => hj _ _ ⟨rfl, h4⟩)
    · rintro jj x t ⟨rfl, h1⟩
      obtain ⟨o1, o2⟩ := yrs_ok ok f (rul a.2.1) a.2.2.1.1 sd j (by omega)
      exact Ok.bT (nI_le (Nat.le_refl _) (by omega)) (Ok.r (ma_nr h1) (Ok.r (ma_U h1) (Ok.p ⟨congrArg nI o2, h1⟩)))
end
