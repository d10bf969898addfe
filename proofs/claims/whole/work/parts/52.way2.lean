/-! WAY and RISK: the class's calls -/
def fsN (s : Scn) (T : Nat → Nat) (c : Nat) : Nat → Nat → Option Nat
  | 0, _ => none
  | d + 1, k => match bsN (qW s) (qC s) c k with
    | some o => if T o + 1 = T c then some o else fsN s T c d (k + 1)
    | none => fsN s T c d (k + 1)
theorem fsN_n (s : Scn) (T : Nat → Nat) (c d k : Nat) (h : bsN (qW s) (qC s) c k = none) : fsN s T c (d + 1) k = fsN s T c d (k + 1) := by
  rw [fsN, h]
theorem fsN_y (s : Scn) (T : Nat → Nat) (c d k o : Nat) (h : bsN (qW s) (qC s) c k = some o) : fsN s T c (d + 1) k = if T o + 1 = T c then some o else fsN s T c d (k + 1) := by
  rw [fsN, h]
def wayT (a : Abs) (g : Nat) : Nat → Nat := tol (adS (dN a.2.2.2)) (wgt (hidB (dN a.2.2.2) (rul a.2.1)) 1 1000) (qC (dN a.2.2.2)) g
def rskT (a : Abs) (g : Nat) : Nat → Nat := tol (adS (dN a.2.2.2)) (wgt (hidB (dN a.2.2.2) (rul a.2.1)) 0 1) (qC (dN a.2.2.2)) g
def wayA (a : Abs) (v1 v2 v3 : Int32) : Int32 := match ix v1 (qC (dN a.2.2.2)), ix v2 (qC (dN a.2.2.2)), ix v3 2 with
  | some f, some g, some k => if 1000 ≤ wayT a g f then -1 else if k = 0 then nI (wayT a g f - 1) else oI (fsN (dN a.2.2.2) (wayT a g) f 4 0)
  | _, _, _ => -1
def riskA (a : Abs) (v1 v2 : Int32) : Int32 := match ix v1 (qC (dN a.2.2.2)), ix v2 (qC (dN a.2.2.2)) with
  | some f, some g => nI (rskT a g f)
  | _, _ => -1
theorem way_w (hb : Nat → Bool) (c : Nat) : wgt hb 1 1000 c ≤ 1000 ∧ 1 ≤ wgt hb 1 1000 c := by unfold wgt; split <;> omega
theorem rsk_w (hb : Nat → Bool) (c : Nat) : wgt hb 0 1 c ≤ 1000 := by unfold wgt; split <;> omega
theorem wayT_b (a : Abs) {g c : Nat} (hg : g < qC (dN a.2.2.2)) (hc : c < qC (dN a.2.2.2)) : wayT a g c ≤ 1000 ∧ 1 ≤ wayT a g c := by
  refine ⟨jac_1000 (fun c => (way_w _ c).1) _ _, ?_⟩
  exact Nat.le_trans (way_w (hidB (dN a.2.2.2) (rul a.2.1)) g).2 (tol_ge (fun c => (way_w _ c).1) hg hc)
theorem rskT_b (a : Abs) (g c : Nat) : rskT a g c ≤ 1000 := jac_1000 (fun c => rsk_w _ c) _ _
section
variable {K : Cfg} {dr : Int64} {a : Abs} {σ : St}
theorem c_paths (h : CA K dr a σ) : gR 9 13 σ (K.1 0) = some (K.1 40) ∧ isO 6 σ (K.1 40) = true := by
  obtain ⟨I, R, hv, _⟩ := h
  exact ⟨kr_0_13 hv, kO_40 hv⟩
theorem c_way (h : CA K dr a σ) (ok : NoLd a.2.2.2 ∨ LdOK a.2.2.2) (v1 v2 v3 : Int32) : Ok (fX9_way σ (K.1 0) v1 v2 v3) (fun r t => r = wayA a v1 v2 v3 ∧ CA K dr a t) := by
  obtain ⟨h30, h4, _, _, hl, _⟩ := okC ok
  unfold fX9_way
  refine Ok.r (ca_now h) (Ok.vE (ca_O7 h) (ca_hasCell h v1) ?_)
  rcases ixc v1 (n := qC (dN a.2.2.2)) (by omega) with ⟨e1, hn⟩ | ⟨f, hf, rfl, e1⟩
  · rw [decide_eq_false hn]
    exact Ok.bT rfl (Ok.p ⟨by simp only [wayA, e1], h⟩)
  rw [decide_eq_true (ix_in hf (by omega))]
  refine Ok.bF (by decide) (Ok.r (ca_now h) (Ok.vE (ca_O7 h) (ca_hasCell h v2) ?_))
  rcases ixc v2 (n := qC (dN a.2.2.2)) (by omega) with ⟨e2, hn⟩ | ⟨g, hg, rfl, e2⟩
  · rw [decide_eq_false hn]
    exact Ok.bT rfl (Ok.p ⟨by simp only [wayA, e1, e2], h⟩)
  rw [decide_eq_true (ix_in hg (by omega))]
  refine Ok.bF (by decide) ?_
  rcases ixc v3 (n := 2) (by omega) with ⟨e3, hn⟩ | ⟨k, hk, rfl, e3⟩
  · have ee : wayA a (nI f) (nI g) v3 = -1 := by simp only [wayA, e1, e2, e3]
    rw [ee]
    exact Ok.b (fun _ => Ok.p ⟨rfl, h⟩) (fun z => Ok.bF (lt2 z hn) (Ok.p ⟨rfl, h⟩))
  have ok := hl (by omega)
  have okn : ScOK (dN a.2.2.2) := ok.1.1
  obtain ⟨p1, p2⟩ := c_paths h
  refine Ok.bF (nI_pos (by omega)) (Ok.bT (show nI k ≤ nI 1 from nI_le (by omega) (by decide)) (Ok.r p1 (Ok.r (ca_now h) (Ok.r (ca_now h) (Ok.v (ca_O h) (ca_ruling h) ?_)))))
  rintro q t0 ⟨rfl, hq⟩
  obtain ⟨I, R, hr, sv⟩ := ca_SV h okn
  refine Ok.v (v_O sv) (v_hidden sv hq) ?_
  rintro r1 t1 ⟨rfl, sv1⟩
  have h1 : CA K dr a t1 := ⟨I, R, sv1.1, hr⟩
  refine Ok.v (c_paths h1).2 (c_measure h1 okn (hidB (dN a.2.2.2) (rul a.2.1)) (A := 1) (B := 1000) (by decide) (by decide) hg) ?_
  intro w2 t2 hP
  have hP' : CP K dr a (wayT a g) t2 := hP
  obtain ⟨b1, b2⟩ := wayT_b a hg hf
  obtain ⟨q1, q2, q3⟩ := hP.rr
  have rf := hP'.rd hf (by omega)
  have ee : wayA a (nI f) (nI g) (nI k) = if 1000 ≤ wayT a g f then -1 else if k = 0 then nI (wayT a g f - 1) else oI (fsN (dN a.2.2.2) (wayT a g) f 4 0) := by simp only [wayA, e1, e2, e3]
  rw [ee]
  refine Ok.bI (nI_eq (b := 0) (by omega) (by omega)) (fun z => ?_) (fun z => ?_)
  · refine Ok.r q3 (Ok.v q2 (P1 := fun r t => r = (if 1000 ≤ wayT a g f then -1 else nI (wayT a g f - 1)) ∧ t = t2) ?_ ?_)
    · unfold fX6_steps
      refine Ok.r q1 (Ok.r rf (Ok.bI (nI_leI (a := 1000) (by omega) (by omega)) (fun z2 => ?_) (fun z2 => ?_)))
      · exact Ok.p ⟨by rw [if_pos z2], rfl⟩
      · refine Ok.r q1 (Ok.r rf (Ok.p ⟨?_, rfl⟩))
        rw [if_neg z2]
        exact pk_sub (b := 1) b2
    · rintro r t ⟨rfl, rfl⟩
      exact Ok.p ⟨by rw [if_pos z], hP.ca⟩
  · refine Ok.r q3 (Ok.r (ca_now hP.ca) (Ok.v q2 (P1 := fun r t => r = (if 1000 ≤ wayT a g f then -1 else oI (fsN (dN a.2.2.2) (wayT a g) f 4 0)) ∧ t = t2) ?_ ?_))
    · unfold fX6_firstStep
      obtain ⟨I2, R2, sv2⟩ := hP.sv okn
      refine Ok.r q1 (Ok.r rf (Ok.bI (nI_ltI (b := 1000) (by omega) (by omega)) (fun z2 => ?_) (fun z2 => ?_)))
      · rw [if_neg (by omega)]
        refine Ok.f2 4 0 (fun i x t => x = nI i ∧ t = t2 ∧ fsN (dN a.2.2.2) (wayT a g) f (4 - i) i = fsN (dN a.2.2.2) (wayT a g) f 4 0) (by omega) (by omega) ⟨rfl, rfl, rfl⟩ ?_ ?_
        · rintro j i x t hi ⟨rfl, rfl, hv⟩ hj
          refine Ok.bF (show ¬ nI 4 ≤ nI i from nI_ge hi (by decide)) (Ok.vE (v_O sv2) (v_beside sv2 hf hi) (Ok.vE (v_O sv2) (v_hasO sv2 hf hi) (Ok.j1 ?_)))
          rw [nI_1]
          obtain ⟨d, hd⟩ : ∃ d, 4 - i = d + 1 := ⟨3 - i, by omega⟩
          have hd' : 4 - (i + 1) = d := by omega
          rw [hd] at hv
          cases e : bsN (qW (dN a.2.2.2)) (qC (dN a.2.2.2)) f i with
          | none =>
            rw [fsN_n _ _ _ _ _ e] at hv
            exact Ok.bT rfl (hj _ _ ⟨rfl, rfl, by rw [hd']; exact hv⟩)
          | some o =>
            have ho := bs_lt okn hf hi e
            obtain ⟨c1, c2⟩ := wayT_b a hg ho
            rw [fsN_y _ _ _ _ _ _ e] at hv
            refine Ok.bF (show ¬ (1 : Int32) = 0 from by decide) (Ok.r q1 (Ok.r (hP'.rd ho (by omega)) (Ok.r q1 (Ok.r rf ?_))))
            rw [show nI (wayT a g f) - 1 = nI (wayT a g f - 1) from pk_sub (b := 1) b2]
            refine Ok.bI (nI_eq (by omega) (by omega)) (fun z3 => ?_) (fun z3 => ?_)
            · rw [if_pos (by omega)] at hv
              exact Ok.p ⟨by rw [← hv], rfl⟩
            · rw [if_neg (by omega)] at hv
              exact hj _ _ ⟨rfl, rfl, by rw [hd']; exact hv⟩
        · rintro j x t ⟨rfl, rfl, hv⟩
          exact Ok.bT (by decide) (Ok.p ⟨by rw [← hv]; rfl, rfl⟩)
      · exact Ok.p ⟨by rw [if_pos (by omega)], rfl⟩
    · rintro r t ⟨rfl, rfl⟩
      exact Ok.p ⟨by rw [if_neg z], hP.ca⟩
theorem c_risk (h : CA K dr a σ) (ok : NoLd a.2.2.2 ∨ LdOK a.2.2.2) (v1 v2 : Int32) : Ok (fX9_risk σ (K.1 0) v1 v2) (fun r t => r = riskA a v1 v2 ∧ CA K dr a t) := by
  obtain ⟨h30, h4, _, _, hl, _⟩ := okC ok
  unfold fX9_risk
  refine Ok.r (ca_now h) (Ok.vE (ca_O7 h) (ca_hasCell h v1) ?_)
  rcases ixc v1 (n := qC (dN a.2.2.2)) (by omega) with ⟨e1, hn⟩ | ⟨f, hf, rfl, e1⟩
  · rw [decide_eq_false hn]
    exact Ok.bT rfl (Ok.p ⟨by simp only [riskA, e1], h⟩)
  rw [decide_eq_true (ix_in hf (by omega))]
  refine Ok.bF (by decide) (Ok.r (ca_now h) (Ok.vE (ca_O7 h) (ca_hasCell h v2) ?_))
  rcases ixc v2 (n := qC (dN a.2.2.2)) (by omega) with ⟨e2, hn⟩ | ⟨g, hg, rfl, e2⟩
  · rw [decide_eq_false hn]
    exact Ok.bT rfl (Ok.p ⟨by simp only [riskA, e1, e2], h⟩)
  rw [decide_eq_true (ix_in hg (by omega))]
  have ok := hl (by omega)
  have okn : ScOK (dN a.2.2.2) := ok.1.1
  obtain ⟨p1, p2⟩ := c_paths h
  refine Ok.bF (by decide) (Ok.r p1 (Ok.r (ca_now h) (Ok.r (ca_now h) (Ok.v (ca_O h) (ca_ruling h) ?_))))
  rintro q t0 ⟨rfl, hq⟩
  obtain ⟨I, R, hr, sv⟩ := ca_SV h okn
  refine Ok.v (v_O sv) (v_hidden sv hq) ?_
  rintro r1 t1 ⟨rfl, sv1⟩
  have h1 : CA K dr a t1 := ⟨I, R, sv1.1, hr⟩
  refine Ok.v (c_paths h1).2 (c_measure h1 okn (hidB (dN a.2.2.2) (rul a.2.1)) (A := 0) (B := 1) (by decide) (by decide) hg) ?_
  intro w2 t2 hP
  have hP' : CP K dr a (rskT a g) t2 := hP
  obtain ⟨q1, q2, q3⟩ := hP.rr
  refine Ok.r q3 (Ok.v q2 (P1 := fun r t => r = nI (rskT a g f) ∧ t = t2) ?_ ?_)
  · unfold fX6_toll
    exact Ok.r q1 (Ok.r (hP'.rd hf (by omega)) (Ok.p ⟨rfl, rfl⟩))
  · rintro r t ⟨rfl, rfl⟩
    exact Ok.p ⟨by simp only [riskA, e1, e2], hP.ca⟩
end
