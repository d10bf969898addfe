/-! games of two -/
theorem sees_q (s : Scn) (L : Option LawF) (t c : Nat) : sees s L t c = clr s (qP s t) (qG s (qP s t) + qM s t) (rchG L (qA s t) (qF s) (qU s % 24) (qG s (qP s t)) (qM s t) (qT s)) c := by
  unfold sees
  rw [rch_G]
theorem sees_M {s s' : Scn} (L : Option LawF) {t : Nat} (h1 : s'.1 = s.1) (h2 : s'.2.1 = s.2.1) (h3 : s'.2.2.1 = s.2.2.1) (h4 : s'.2.2.2.2 = s.2.2.2.2) (h5 : qM s' t = qM s t) (c : Nat) : sees s' L t c = sees s L t c := by
  rw [sees_q, sees_q, h5]
  obtain ⟨a1, a2, a3, a4, a5⟩ := s
  obtain ⟨b1, b2, b3, b4, b5⟩ := s'
  simp only at h1 h2 h3 h4
  subst h1 h2 h3 h4
  rfl
theorem sees_u1 (s : Scn) (L : Option LawF) {o p : Nat} (h : o ≠ p) (u w c : Nat) : sees (sM (sM s o u) p w) L o c = sees (sM s o u) L o c := by
  refine sees_M (s := sM s o u) (s' := sM (sM s o u) p w) L rfl rfl rfl rfl ?_ c
  show updN (updN s.2.2.2.1 o u) p w o = updN s.2.2.2.1 o u o
  unfold updN
  rw [if_neg h]
theorem sees_u2 (s : Scn) (L : Option LawF) (o p : Nat) (u w c : Nat) : sees (sM (sM s o u) p w) L p c = sees (sM s p w) L p c := by
  refine sees_M (s := sM s p w) (s' := sM (sM s o u) p w) L rfl rfl rfl rfl ?_ c
  show updN (updN s.2.2.2.1 o u) p w p = updN s.2.2.2.1 p w p
  unfold updN
  rw [if_pos rfl, if_pos rfl]
def upM (s : Scn) (o x : Nat) : Scn := sM s o (min 9 (qM s o + x))
def gn (s : Scn) (L : Option LawF) (o p x y : Nat) : Int32 := nI (fa_cnt (fun c => sees (upM s o x) L o c && !sees (upM s p y) L p c) (qC s)) - nI x
def rstB (s : Scn) (L : Option LawF) (o p x y : Nat) : Bool := !anyB (fun k => decide (gn s L o p x y < gn s L o p k y) || !decide (gn s L p o k x ≤ gn s L p o y x)) 4
def rpK (s : Scn) (L : Option LawF) (o p k : Nat) : Bool := rstB s L o p (k / 4) (k % 4)
def nthO (p : Nat → Bool) (w : Int32) : Nat → Nat → Option Nat
  | 0, _ => none
  | d + 1, k => if p k = true then (if nI (fa_cnt p k) = w then some k else nthO p w d (k + 1)) else nthO p w d (k + 1)
theorem nthO_s (p : Nat → Bool) (w : Int32) (d k : Nat) : nthO p w (d + 1) k = if p k = true then (if nI (fa_cnt p k) = w then some k else nthO p w d (k + 1)) else nthO p w d (k + 1) := rfl
theorem nthO_neg (p : Nat → Bool) {w : Int32} (hw : w < 0) : ∀ d k, d + k ≤ 100 → nthO p w d k = none
  | 0, _, _ => rfl
  | d + 1, k, h => by
    have hle := fa_cnt_le p k
    have hne : ¬ nI (fa_cnt p k) = w := fun q => by rw [← q] at hw; exact nI_pos (by omega) hw
    unfold nthO
    rw [if_neg hne, nthO_neg p hw d (k + 1) (by omega)]
    split <;> rfl
def rest1 (p : Nat → Bool) (w : Int32) : Int32 := match nthO p w 16 0 with
  | some k => nI (10 * (k / 4) + k % 4)
  | none => if w = -1 then nI (fa_cnt p 16) else -1
def gameA (a : Abs) (v1 v2 v3 v4 v5 : Int32) : Int32 := match ix v1 (qT (dN a.2.2.2)), ix v2 (qT (dN a.2.2.2)) with
  | some o, some p => if o = p then -1000000 else (match ix v3 4, ix v4 4, ix v5 2 with
    | some x, some y, some k => if k = 0 then gn (dN a.2.2.2) (rul a.2.1) o p x y else gn (dN a.2.2.2) (rul a.2.1) p o y x
    | _, _, _ => -1000000)
  | _, _ => -1000000
def restsA (a : Abs) (v1 v2 w : Int32) : Int32 := match ix v1 (qT (dN a.2.2.2)), ix v2 (qT (dN a.2.2.2)) with
  | some o, some p => if o = p then -1 else rest1 (rpK (dN a.2.2.2) (rul a.2.1) o p) w
  | _, _ => -1
def CDu (K : Cfg) (dr : Int64) (a : Abs) (o p n : Nat) (σ : St) : Prop := ∃ I R, CV K I R dr σ ∧ CR K I R a ∧ ∀ i, i < n → R 43 i = msk (sees (upM (dN a.2.2.2) o i) (rul a.2.1) o) (qC (dN a.2.2.2)) ∧ R 44 i = msk (sees (upM (dN a.2.2.2) p i) (rul a.2.1) p) (qC (dN a.2.2.2))
theorem f_may (σ : St) (v : Int32) : fX0_mayRaise σ v = some (bI (decide (¬ v < 0 ∧ v < nI 4)), σ) := by
  unfold fX0_mayRaise
  by_cases h0 : v < 0
  · rw [if_pos h0, decide_eq_false (fun q => q.1 h0)]; rfl
  rw [if_neg h0]
  have e : ((3 : Int32) < v) ↔ ¬ v < nI 4 := by
    rw [Int32.lt_iff_toInt_lt, Int32.lt_iff_toInt_lt, show (nI 4).toInt = 4 from rfl, show (3 : Int32).toInt = 3 from rfl]
    omega
  by_cases h1 : v < nI 4
  · rw [if_neg (fun q => (e.mp q) h1), decide_eq_true ⟨h0, h1⟩]; rfl
  · rw [if_pos (e.mpr h1), decide_eq_false (fun q => h1 q.2)]; rfl
theorem three_lt {k : Nat} (h : k < 4) : ¬ (3 : Int32) < nI k := nI_nlt (a := 3) (by omega) (by omega)
theorem sM_mix (s : Scn) {o p : Nat} (h : o ≠ p) (u w u' w' : Nat) : sM (sM (sM (sM s o u) p w) o u') p w' = sM (sM s o u') p w' := by
  have : updN (updN (updN (updN s.2.2.2.1 o u) p w) o u') p w' = updN (updN s.2.2.2.1 o u') p w' := by
    funext k
    unfold updN
    by_cases h1 : k = p
    · simp only [if_pos h1]
    · by_cases h2 : k = o
      · simp only [if_neg h1, if_pos h2]
      · simp only [if_neg h1, if_neg h2]
  show (s.1, s.2.1, s.2.2.1, updN (updN (updN (updN s.2.2.2.1 o u) p w) o u') p w', s.2.2.2.2) = _
  rw [this]; rfl
section
variable {K : Cfg} {dr : Int64} {a : Abs} {σ : St} {s : Scn}
theorem CDu.ca {o p n : Nat} (h : CDu K dr a o p n σ) : CA K dr a σ := by
  obtain ⟨I, R, h1, h2, _⟩ := h
  exact ⟨I, R, h1, h2⟩
set_option maxHeartbeats 1000000 in
theorem c_prepare (h : CX K dr a (dN a.2.2.2) σ) (okd : LdOK a.2.2.2) {o p : Nat} (ho : o < qT (dN a.2.2.2)) (hp : p < qT (dN a.2.2.2)) (hne : o ≠ p) {q : Option Nat} (hq : Rul K q (rul a.2.1)) : Ok (fX0_prepare σ (K.1 42) (K.1 23) (nI o) (nI p) q) (fun _ t => CDu K dr a o p 4 t) := by
  have okn : ScOK (dN a.2.2.2) := okd.1.1
  have h30 := okn.c30
  have h4 := okn.t
  have m1 := okn.m ho
  have m2 := okn.m hp
  obtain ⟨x1, x2, x3, x4, x5, x6⟩ := cx_tr h
  have rdM : ∀ {i : Nat}, i < qT (dN a.2.2.2) → aI 0 σ (K.1 26) (nI i) = some (nI (qM (dN a.2.2.2) i)) := by
    intro i hi
    obtain ⟨I, R, hv, _, hs⟩ := h
    exact (ka_26 hv (by omega)).trans (congrArg some (hs.2.2 i hi).2.1)
  unfold fX0_prepare
  refine Ok.r x6 (Ok.r (rdM ho) (Ok.r x6 (Ok.r (rdM hp) ?_)))
  refine Ok.f2 4 0 (fun k x t => x = nI k ∧ ∃ s', (∀ u w, sM (sM s' o u) p w = sM (sM (dN a.2.2.2) o u) p w) ∧ ∃ I R, CV K I R dr t ∧ CR K I R a ∧ ScR I R 23 s' ∧ ∀ i, i < k → R 43 i = msk (sees (upM (dN a.2.2.2) o i) (rul a.2.1) o) (qC (dN a.2.2.2)) ∧ R 44 i = msk (sees (upM (dN a.2.2.2) p i) (rul a.2.1) p) (qC (dN a.2.2.2))) (by omega) (by omega) ?_ ?_ ?_
  · obtain ⟨I, R, g1, g2, g3⟩ := h
    exact ⟨rfl, _, fun _ _ => rfl, I, R, g1, g2, g3, fun i hi => by omega⟩
  · rintro j k x t hk ⟨rfl, s', hs', I, R, g1, g2, g3, g4⟩ hj
    refine Ok.bF (three_lt hk) (Ok.r (kr_23_11 g1) ?_)
    rw [nI_add]
    refine Ok.cE ((f_min _ _ _).trans (congrArg (fun z => some (z, t)) (min_i (a := 9) (by omega) (by omega)))) (Ok.w (b_putT g1 (Or.inr (Or.inr rfl)) 3 o _ (by decide) (by decide) (by omega)) ?_)
    intro t2 v2
    have c2 := g2.trial (FrB.rf 23 I) (FrR.up 23 3 R (upd (R (23 + 3)) o (nI (min 9 (qM (dN a.2.2.2) o + k)))) (by decide) (by decide))
    have s2 := g3.setM o (min 9 (qM (dN a.2.2.2) o + k))
    refine Ok.r (kr_23_11 v2) ?_
    rw [nI_add]
    refine Ok.cE ((f_min _ _ _).trans (congrArg (fun z => some (z, t2)) (min_i (a := 9) (by omega) (by omega)))) (Ok.w (b_putT v2 (Or.inr (Or.inr rfl)) 3 p _ (by decide) (by decide) (by omega)) ?_)
    intro t3 v3
    generalize hR2 : updR R (23 + 3) (upd (R (23 + 3)) o (nI (min 9 (qM (dN a.2.2.2) o + k)))) = R2 at v2 c2 s2 v3
    have c3 := c2.trial (FrB.rf 23 I) (FrR.up 23 3 R2 (upd (R2 (23 + 3)) p (nI (min 9 (qM (dN a.2.2.2) p + k)))) (by decide) (by decide))
    have s3 := s2.setM p (min 9 (qM (dN a.2.2.2) p + k))
    generalize hR3 : updR R2 (23 + 3) (upd (R2 (23 + 3)) p (nI (min 9 (qM (dN a.2.2.2) p + k)))) = R3 at v3 c3 s3
    have r43 : R3 43 = R 43 ∧ R3 44 = R 44 := by
      rw [← hR3, ← hR2]
      exact ⟨(updR_n _ _ (by decide)).trans (updR_n _ _ (by decide)), (updR_n _ _ (by decide)).trans (updR_n _ _ (by decide))⟩
    rw [hs'] at s3
    have ok3 : ScOK (sM (sM (dN a.2.2.2) o (min 9 (qM (dN a.2.2.2) o + k))) p (min 9 (qM (dN a.2.2.2) p + k))) := (okn.sM o (by omega)).sM p (by omega)
    have sv3 : SV K I R3 dr 23 _ t3 := ⟨v3, Or.inr (Or.inr rfl), s3, ok3⟩
    refine Ok.r (kr_42_0 v3) (Ok.v (v_O sv3) (v_sight sv3 (show o < qT (dN a.2.2.2) from ho) hq) ?_)
    rintro r4 t4 ⟨rfl, sv4⟩
    refine Ok.w (sv4.1.putN 43 k _ rfl rfl (fun _ => rfl) hk (by decide)) ?_
    intro t5 v5
    generalize hR5 : updR R3 43 (upd (R3 43) k (msk (sees (sM (sM (dN a.2.2.2) o (min 9 (qM (dN a.2.2.2) o + k))) p (min 9 (qM (dN a.2.2.2) p + k))) (rul a.2.1) o) (qC (sM (sM (dN a.2.2.2) o (min 9 (qM (dN a.2.2.2) o + k))) p (min 9 (qM (dN a.2.2.2) p + k)))))) = R5 at v5
    have s5 : ScR I R5 23 (sM (sM (dN a.2.2.2) o (min 9 (qM (dN a.2.2.2) o + k))) p (min 9 (qM (dN a.2.2.2) p + k))) := s3.fr (fun _ _ => rfl) (fun j h1 h2 => by rw [← hR5]; exact updR_n _ _ (by omega))
    have c5 : CR K I R5 a := c3.scr (fun _ _ => rfl) (fun k hk => by rw [← hR5]; exact updR_n _ _ (fun q => hk (by unfold scR; omega)))
    have sv5 : SV K I R5 dr 23 _ t5 := ⟨v5, Or.inr (Or.inr rfl), s5, ok3⟩
    refine Ok.r (kr_42_1 v5) (Ok.v (v_O sv5) (v_sight sv5 (show p < qT (dN a.2.2.2) from hp) hq) ?_)
    rintro r6 t6 ⟨rfl, sv6⟩
    refine Ok.w (sv6.1.putN 44 k _ rfl rfl (fun _ => rfl) hk (by decide)) ?_
    intro t7 v7
    rw [nI_1]
    generalize hR7 : updR R5 44 (upd (R5 44) k (msk (sees (sM (sM (dN a.2.2.2) o (min 9 (qM (dN a.2.2.2) o + k))) p (min 9 (qM (dN a.2.2.2) p + k))) (rul a.2.1) p) (qC (sM (sM (dN a.2.2.2) o (min 9 (qM (dN a.2.2.2) o + k))) p (min 9 (qM (dN a.2.2.2) p + k)))))) = R7 at v7
    refine hj _ _ ⟨rfl, _, fun u w => sM_mix _ hne _ _ u w, I, R7, v7, c5.scr (fun _ _ => rfl) (fun k hk => by rw [← hR7]; exact updR_n _ _ (fun q => hk (by unfold scR; omega))), s5.fr (fun _ _ => rfl) (fun j h1 h2 => by rw [← hR7]; exact updR_n _ _ (by omega)), fun i hi => ?_⟩
    have e43 : R7 43 = upd (R 43) k (msk (sees (sM (sM (dN a.2.2.2) o (min 9 (qM (dN a.2.2.2) o + k))) p (min 9 (qM (dN a.2.2.2) p + k))) (rul a.2.1) o) (qC (dN a.2.2.2))) := by
      rw [← hR7, updR_n _ _ (by decide), ← hR5, updR_s, r43.1]; rfl
    have e44 : R7 44 = upd (R 44) k (msk (sees (sM (sM (dN a.2.2.2) o (min 9 (qM (dN a.2.2.2) o + k))) p (min 9 (qM (dN a.2.2.2) p + k))) (rul a.2.1) p) (qC (dN a.2.2.2))) := by
      rw [← hR7, updR_s, ← hR5, updR_n _ _ (by decide), r43.2]; rfl
    rw [e43, e44]
    unfold upd
    by_cases z : i = k
    · subst z
      rw [if_pos rfl, if_pos rfl]
      exact ⟨msk_cong (fun c _ => sees_u1 _ _ hne _ _ c), msk_cong (fun c _ => sees_u2 _ _ _ _ _ _ c)⟩
    · rw [if_neg z, if_neg z]
      exact g4 i (by omega)
  · rintro j x t ⟨rfl, s', hs', I, R, g1, g2, g3, g4⟩
    exact Ok.bT (by decide) (Ok.p ⟨I, R, g1, g2, g4⟩)
theorem c_gain1 {o p : Nat} (h : CDu K dr a o p 4 σ) (h30 : qC (dN a.2.2.2) ≤ 30) {x y : Nat} (hx : x < 4) (hy : y < 4) : isO 0 σ (K.1 42) = true ∧ fX0_gainOfOne σ (K.1 42) (nI x) (nI y) = some (gn (dN a.2.2.2) (rul a.2.1) o p x y, σ) ∧ fX0_gainOfOther σ (K.1 42) (nI x) (nI y) = some (gn (dN a.2.2.2) (rul a.2.1) p o y x, σ) := by
  obtain ⟨I, R, g1, g2, g4⟩ := h
  refine ⟨kO_42 g1, ?_, ?_⟩
  · unfold fX0_gainOfOne
    rw [kr_42_0 g1, Option.bind_some, ka_43 g1 hx, Option.bind_some, kr_42_1 g1, Option.bind_some, ka_44 g1 hy, Option.bind_some, (g4 x hx).1, (g4 y hy).2, msk_sub _ _ (by omega), f_bitC, bd_some, bitC_msk _ (by omega)]
    rfl
  · unfold fX0_gainOfOther
    rw [kr_42_1 g1, Option.bind_some, ka_44 g1 hy, Option.bind_some, kr_42_0 g1, Option.bind_some, ka_43 g1 hx, Option.bind_some, (g4 x hx).1, (g4 y hy).2, msk_sub _ _ (by omega), f_bitC, bd_some, bitC_msk _ (by omega)]
    rfl
theorem c_isRest {o p : Nat} (h : CDu K dr a o p 4 σ) (h30 : qC (dN a.2.2.2) ≤ 30) {x y : Nat} (hx : x < 4) (hy : y < 4) : fX0_isRest σ (K.1 42) (nI x) (nI y) = some (bI (rstB (dN a.2.2.2) (rul a.2.1) o p x y), σ) := by
  refine Ok.toE ?_
  unfold fX0_isRest
  obtain ⟨g0, gxy, gyx⟩ := c_gain1 h h30 hx hy
  refine Ok.f2 4 0 (fun k z t => z = nI k ∧ t = σ ∧ anyB (fun k => decide (gn (dN a.2.2.2) (rul a.2.1) o p x y < gn (dN a.2.2.2) (rul a.2.1) o p k y) || !decide (gn (dN a.2.2.2) (rul a.2.1) p o k x ≤ gn (dN a.2.2.2) (rul a.2.1) p o y x)) k = false) (by omega) (by omega) ⟨rfl, rfl, rfl⟩ ?_ ?_
  · rintro j k z t hk ⟨rfl, rfl, hn⟩ hj
    obtain ⟨_, gky, _⟩ := c_gain1 h h30 hk hy
    obtain ⟨_, _, gxk⟩ := c_gain1 h h30 hx hk
    have no : (decide (gn (dN a.2.2.2) (rul a.2.1) o p x y < gn (dN a.2.2.2) (rul a.2.1) o p k y) || !decide (gn (dN a.2.2.2) (rul a.2.1) p o k x ≤ gn (dN a.2.2.2) (rul a.2.1) p o y x)) = true → (0 : Int32) = bI (rstB (dN a.2.2.2) (rul a.2.1) o p x y) := by
      intro q
      have : anyB (fun k => decide (gn (dN a.2.2.2) (rul a.2.1) o p x y < gn (dN a.2.2.2) (rul a.2.1) o p k y) || !decide (gn (dN a.2.2.2) (rul a.2.1) p o k x ≤ gn (dN a.2.2.2) (rul a.2.1) p o y x)) 4 = true := anyB_iff.mpr ⟨k, hk, q⟩
      unfold rstB
      rw [this]; rfl
    refine Ok.bF (three_lt hk) (Ok.vE g0 gky (Ok.vE g0 gxy (Ok.b (fun z1 => ?_) (fun z1 => Ok.vE g0 gxk (Ok.vE g0 gyx (Ok.b (fun z2 => ?_) (fun z2 => ?_)))))))
    · exact Ok.p ⟨no (by rw [decide_eq_true z1]; rfl), rfl⟩
    · rw [nI_1]
      exact hj _ _ ⟨rfl, rfl, by simp only [anyB, hn, decide_eq_false z1, decide_eq_true z2]; rfl⟩
    · exact Ok.p ⟨no (by rw [decide_eq_false z2]; simp), rfl⟩
  · rintro j z t ⟨rfl, rfl, hn⟩
    refine Ok.bT (by decide) (Ok.p ⟨?_, rfl⟩)
    unfold rstB
    rw [hn]; rfl
theorem c_restAt {o p : Nat} (h : CDu K dr a o p 4 σ) (h30 : qC (dN a.2.2.2) ≤ 30) (w : Int32) : fX0_restAt σ (K.1 42) w = some (rest1 (rpK (dN a.2.2.2) (rul a.2.1) o p) w, σ) := by
  refine Ok.toE ?_
  unfold fX0_restAt
  have hO : isO 0 σ (K.1 42) = true := (c_gain1 h h30 (x := 0) (y := 0) (by decide) (by decide)).1
  refine Ok.f3 4 0 (fun x m z t => m = nI (fa_cnt (rpK (dN a.2.2.2) (rul a.2.1) o p) (4 * x)) ∧ z = nI x ∧ t = σ ∧ nthO (rpK (dN a.2.2.2) (rul a.2.1) o p) w (16 - 4 * x) (4 * x) = nthO (rpK (dN a.2.2.2) (rul a.2.1) o p) w 16 0) (by omega) (by omega) ⟨rfl, rfl, rfl, rfl⟩ ?_ ?_
  · rintro j x m z t hx ⟨rfl, rfl, rfl, hv⟩ hj
    refine Ok.bF (three_lt hx) ?_
    refine Ok.f3 4 0 (fun y m z t' => m = nI (fa_cnt (rpK (dN a.2.2.2) (rul a.2.1) o p) (4 * x + y)) ∧ z = nI y ∧ t' = t ∧ nthO (rpK (dN a.2.2.2) (rul a.2.1) o p) w (16 - (4 * x + y)) (4 * x + y) = nthO (rpK (dN a.2.2.2) (rul a.2.1) o p) w 16 0) (by omega) (by omega) ⟨rfl, rfl, rfl, hv⟩ ?_ ?_
    · rintro j2 y m z t' hy ⟨rfl, rfl, rfl, hv2⟩ hj2
      refine Ok.bF (three_lt hy) (Ok.vE hO (c_isRest h h30 hx hy) (Ok.j1 ?_))
      rw [nI_1]
      have er : rpK (dN a.2.2.2) (rul a.2.1) o p (4 * x + y) = rstB (dN a.2.2.2) (rul a.2.1) o p x y := by
        unfold rpK
        rw [show (4 * x + y) / 4 = x by omega, show (4 * x + y) % 4 = y by omega]
      obtain ⟨d, hd⟩ : ∃ d, 16 - (4 * x + y) = d + 1 := ⟨15 - (4 * x + y), by omega⟩
      have hd' : 16 - (4 * x + (y + 1)) = d := by omega
      have hv3 := hv2
      rw [hd, nthO_s _ _ d] at hv3
      rw [er] at hv3
      refine Ok.bI bI_0 (fun q => ?_) (fun q => ?_)
      · rw [if_neg (by rw [q]; decide)] at hv3
        exact hj2 _ _ _ ⟨by rw [show 4 * x + (y + 1) = 4 * x + y + 1 by omega, fa_cnt_no (er.trans q)], rfl, rfl, by rw [hd']; exact hv3⟩
      · have q' : rstB (dN a.2.2.2) (rul a.2.1) o p x y = true := by simpa using q
        rw [if_pos q'] at hv3
        refine Ok.b (fun q2 => ?_) (fun q2 => ?_)
        · rw [if_pos q2] at hv3
          refine Ok.p ⟨?_, rfl⟩
          unfold rest1
          rw [← hv3]
          show _ = nI (10 * ((4 * x + y) / 4) + (4 * x + y) % 4)
          rw [show (4 * x + y) / 4 = x by omega, show (4 * x + y) % 4 = y by omega, show (10 : Int32) = nI 10 from rfl, pk_mul, nI_add]
        · rw [if_neg q2] at hv3
          rw [nI_1]
          exact hj2 _ _ _ ⟨by rw [show 4 * x + (y + 1) = 4 * x + y + 1 by omega, fa_cnt_yes (er.trans q')], rfl, rfl, by rw [hd']; exact hv3⟩
    · rintro j2 m z t' ⟨rfl, rfl, rfl, hv2⟩
      rw [nI_1]
      exact Ok.bT (by decide) (hj _ _ _ ⟨rfl, rfl, rfl, hv2⟩)
  · rintro j m z t ⟨rfl, rfl, rfl, hv⟩
    have hv' : nthO (rpK (dN a.2.2.2) (rul a.2.1) o p) w 16 0 = none := hv.symm
    refine Ok.bT (by decide) (Ok.b (fun q => ?_) (fun q => ?_))
    · exact Ok.p ⟨by simp only [rest1, hv', if_pos q], rfl⟩
    · exact Ok.p ⟨by simp only [rest1, hv', if_neg q], rfl⟩
theorem c_duel (h : CA K dr a σ) : gR 9 10 σ (K.1 0) = some (K.1 23) ∧ isO 7 σ (K.1 23) = true ∧ gR 9 14 σ (K.1 0) = some (K.1 42) ∧ isO 0 σ (K.1 42) = true := by
  obtain ⟨I, R, hv, _⟩ := h
  exact ⟨kr_0_10 hv, kO_23 hv, kr_0_14 hv, kO_42 hv⟩
theorem c_game (h : CA K dr a σ) (ok : NoLd a.2.2.2 ∨ LdOK a.2.2.2) (v1 v2 v3 v4 v5 : Int32) : Ok (fX9_game σ (K.1 0) v1 v2 v3 v4 v5) (fun r t => r = gameA a v1 v2 v3 v4 v5 ∧ CA K dr a t) := by
  obtain ⟨h30, h4, _, _, _, hl⟩ := okC ok
  unfold fX9_game
  refine Ok.r (ca_now h) (Ok.vE (ca_O7 h) (ca_hasTower h v1) ?_)
  rcases ixc v1 (n := qT (dN a.2.2.2)) (by omega) with ⟨e1, hn⟩ | ⟨o, ho, rfl, e1⟩
  · rw [decide_eq_false hn]
    exact Ok.bT rfl (Ok.p ⟨by simp only [gameA, e1], h⟩)
  rw [decide_eq_true (ix_in ho (by omega))]
  refine Ok.bF (by decide) (Ok.r (ca_now h) (Ok.vE (ca_O7 h) (ca_hasTower h v2) ?_))
  rcases ixc v2 (n := qT (dN a.2.2.2)) (by omega) with ⟨e2, hn⟩ | ⟨p, hp, rfl, e2⟩
  · rw [decide_eq_false hn]
    exact Ok.bT rfl (Ok.p ⟨by simp only [gameA, e1, e2], h⟩)
  rw [decide_eq_true (ix_in hp (by omega))]
  refine Ok.bF (by decide) (Ok.bI (nI_eq (by omega) (by omega)) (fun q => ?_) (fun q => ?_))
  · exact Ok.p ⟨by simp only [gameA, e1, e2, if_pos q], h⟩
  refine Ok.cE (f_may _ _) ?_
  rcases ixc v3 (n := 4) (by omega) with ⟨e3, hn⟩ | ⟨x, hx, rfl, e3⟩
  · rw [decide_eq_false hn]
    exact Ok.bT rfl (Ok.p ⟨by simp only [gameA, e1, e2, e3, if_neg q], h⟩)
  rw [decide_eq_true (ix_in hx (by decide))]
  refine Ok.bF (by decide) (Ok.cE (f_may _ _) ?_)
  rcases ixc v4 (n := 4) (by omega) with ⟨e4, hn⟩ | ⟨y, hy, rfl, e4⟩
  · rw [decide_eq_false hn]
    exact Ok.bT rfl (Ok.p ⟨by simp only [gameA, e1, e2, e3, e4, if_neg q], h⟩)
  rw [decide_eq_true (ix_in hy (by decide))]
  refine Ok.bF (by decide) ?_
  rcases ixc v5 (n := 2) (by omega) with ⟨e5, hn⟩ | ⟨k, hk, rfl, e5⟩
  · have ee : gameA a (nI o) (nI p) (nI x) (nI y) v5 = -1000000 := by simp only [gameA, e1, e2, e3, e4, e5, if_neg q]
    rw [ee]
    exact Ok.b (fun _ => Ok.p ⟨rfl, h⟩) (fun z => Ok.bF (lt2 z hn) (Ok.p ⟨rfl, h⟩))
  have ee : gameA a (nI o) (nI p) (nI x) (nI y) (nI k) = if k = 0 then gn (dN a.2.2.2) (rul a.2.1) o p x y else gn (dN a.2.2.2) (rul a.2.1) p o y x := by simp only [gameA, e1, e2, e3, e4, e5, if_neg q]
  rw [ee]
  have ok := hl (by omega)
  obtain ⟨d1, d2, d3, d4⟩ := c_duel h
  refine Ok.bF (nI_pos (by omega)) (Ok.bT (show nI k ≤ nI 1 from nI_le (by omega) (by decide)) (Ok.r d1 (Ok.r (ca_now h) (Ok.v d2 (h.trial ok.1.1) ?_))))
  intro w1 t1 h1
  obtain ⟨f1, f2, f3, f4⟩ := c_duel h1.ca
  refine Ok.r f3 (Ok.r f1 (Ok.v (ca_O h1.ca) (ca_ruling h1.ca) ?_))
  rintro q2 t2 ⟨rfl, hq2⟩
  refine Ok.v f4 (c_prepare h1 ok ho hp q hq2) ?_
  intro w3 t3 h3
  obtain ⟨g0, g1, g2⟩ := c_gain1 h3 h30 hx hy
  obtain ⟨_, _, f5, _⟩ := c_duel h3.ca
  refine Ok.bI (nI_eq (b := 0) (by omega) (by omega)) (fun z => ?_) (fun z => ?_)
  · exact Ok.r f5 (Ok.vE g0 g1 (Ok.p ⟨by rw [if_pos z], h3.ca⟩))
  · exact Ok.r f5 (Ok.vE g0 g2 (Ok.p ⟨by rw [if_neg z], h3.ca⟩))
theorem c_rests (h : CA K dr a σ) (ok : NoLd a.2.2.2 ∨ LdOK a.2.2.2) (v1 v2 w : Int32) : Ok (fX9_rests σ (K.1 0) v1 v2 w) (fun r t => r = restsA a v1 v2 w ∧ CA K dr a t) := by
  obtain ⟨h30, h4, _, _, _, hl⟩ := okC ok
  unfold fX9_rests
  refine Ok.r (ca_now h) (Ok.vE (ca_O7 h) (ca_hasTower h v1) ?_)
  rcases ixc v1 (n := qT (dN a.2.2.2)) (by omega) with ⟨e1, hn⟩ | ⟨o, ho, rfl, e1⟩
  · rw [decide_eq_false hn]
    exact Ok.bT rfl (Ok.p ⟨by simp only [restsA, e1], h⟩)
  rw [decide_eq_true (ix_in ho (by omega))]
  refine Ok.bF (by decide) (Ok.r (ca_now h) (Ok.vE (ca_O7 h) (ca_hasTower h v2) ?_))
  rcases ixc v2 (n := qT (dN a.2.2.2)) (by omega) with ⟨e2, hn⟩ | ⟨p, hp, rfl, e2⟩
  · rw [decide_eq_false hn]
    exact Ok.bT rfl (Ok.p ⟨by simp only [restsA, e1, e2], h⟩)
  rw [decide_eq_true (ix_in hp (by omega))]
  refine Ok.bF (by decide) (Ok.bI (nI_eq (by omega) (by omega)) (fun q => ?_) (fun q => ?_))
  · exact Ok.p ⟨by simp only [restsA, e1, e2, if_pos q], h⟩
  have ok := hl (by omega)
  obtain ⟨d1, d2, d3, d4⟩ := c_duel h
  refine Ok.r d1 (Ok.r (ca_now h) (Ok.v d2 (h.trial ok.1.1) ?_))
  intro w1 t1 h1
  obtain ⟨f1, f2, f3, f4⟩ := c_duel h1.ca
  refine Ok.r f3 (Ok.r f1 (Ok.v (ca_O h1.ca) (ca_ruling h1.ca) ?_))
  rintro q2 t2 ⟨rfl, hq2⟩
  refine Ok.v f4 (c_prepare h1 ok ho hp q hq2) ?_
  intro w3 t3 h3
  obtain ⟨_, _, f5, f6⟩ := c_duel h3.ca
  exact Ok.r f5 (Ok.vE f6 (c_restAt h3 h30 w) (Ok.p ⟨by simp only [restsA, e1, e2, if_neg q], h3.ca⟩))
end
section
variable {M : Mfg} {dr : Int64} {a : Abs} {σ : St}
theorem m_gameOf (h : MA M dr a σ) (okd : LdOK a.2.2.2) {o p x y : Nat} (ho : o < qT (dN a.2.2.2)) (hp : p < qT (dN a.2.2.2)) (hne : o ≠ p) (hx : x < 4) (hy : y < 4) : Ok (fX10_gameOf σ (M.1 0) (nI o) (nI p) (nI x) (nI y)) (fun r t => r = gn (dN a.2.2.2) (rul a.2.1) o p x y ∧ MA M dr a t) := by
  have okn : ScOK (dN a.2.2.2) := okd.1.1
  have h30 := okn.c30
  have h4 := okn.t
  have m1 := okn.m ho
  have m2 := okn.m hp
  unfold fX10_gameOf
  rw [show (34 : Int32) + nI o = nI (34 + o) from nI_add 34 o, show (34 : Int32) + nI p = nI (34 + p) from nI_add 34 p]
  refine Ok.r (ma_nr h) (Ok.r (ma_M h ho (by omega)) (Ok.r (ma_nr h) (Ok.r (ma_M h hp (by omega)) (Ok.r (ma_nr h) ?_))))
  rw [nI_add, nI_add]
  refine Ok.cE ((f_min _ _ _).trans (congrArg (fun z => some (z, σ)) (min_i (a := 9) (by omega) (by omega)))) (Ok.w (h.setM o _ (by omega) h4.2 h30.1) ?_)
  intro t1 h1
  refine Ok.r (ma_nr h1) (Ok.cE ((f_min _ _ _).trans (congrArg (fun z => some (z, t1)) (min_i (a := 9) (by omega) (by omega)))) (Ok.w (h1.setM p _ (by omega) h4.2 h30.1) ?_))
  intro t2 h2
  have ok2 : ScOK (sM (sM (dN a.2.2.2) o (min 9 (qM (dN a.2.2.2) o + x))) p (min 9 (qM (dN a.2.2.2) p + y))) := (okn.sM o (by omega)).sM p (by omega)
  obtain ⟨J, Q, hr, hu, rv0⟩ := ma_RV h2 ok2
  have rv : RV M J Q dr (sM (sM (dN a.2.2.2) o (min 9 (qM (dN a.2.2.2) o + x))) p (min 9 (qM (dN a.2.2.2) p + y))) t2 := rv0
  refine Ok.v (nO rv.1) (m_seenBy rv (show o < qT (dN a.2.2.2) from ho) hu) ?_
  rintro r3 t3 ⟨rfl, rv3⟩
  refine Ok.v (nO rv3.1) (m_seenBy rv3 (show p < qT (dN a.2.2.2) from hp) hu) ?_
  rintro r4 t4 ⟨rfl, rv4⟩
  rw [msk_sub _ _ (show qC (sM (sM (dN a.2.2.2) o (min 9 (qM (dN a.2.2.2) o + x))) p (min 9 (qM (dN a.2.2.2) p + y))) ≤ 32 from (by show qC (dN a.2.2.2) ≤ 32; omega))]
  refine Ok.cE ((f_bitC _ _).trans (congrArg (fun z => some (z, t4)) (bitC_msk _ (show qC (sM (sM (dN a.2.2.2) o (min 9 (qM (dN a.2.2.2) o + x))) p (min 9 (qM (dN a.2.2.2) p + y))) ≤ 31 from (by show qC (dN a.2.2.2) ≤ 31; omega))))) ?_
  have h5 : MA M dr (setD a (setN a.2.2.2 (sM (sM (dN a.2.2.2) o (min 9 (qM (dN a.2.2.2) o + x))) p (min 9 (qM (dN a.2.2.2) p + y))))) t4 := ⟨J, Q, rv4.1, hr⟩
  refine Ok.r (ma_nr h5) (Ok.w (h5.setM o (qM (dN a.2.2.2) o) (by omega) h4.2 h30.1) ?_)
  intro t6 h6
  refine Ok.r (ma_nr h6) (Ok.w (h6.setM p (qM (dN a.2.2.2) p) (by omega) h4.2 h30.1) ?_)
  intro t7 h7
  refine Ok.p ⟨?_, ?_⟩
  · unfold gn
    congr 2
    refine fa_cnt_cong (fun c _ => ?_)
    rw [sees_u1 _ _ hne, sees_u2]
    rfl
  · have e : sM (sM (sM (sM (dN a.2.2.2) o (min 9 (qM (dN a.2.2.2) o + x))) p (min 9 (qM (dN a.2.2.2) p + y))) o (qM (dN a.2.2.2) o)) p (qM (dN a.2.2.2) p) = dN a.2.2.2 := by
      rw [sM_mix _ hne]
      have : updN (updN (dN a.2.2.2).2.2.2.1 o (qM (dN a.2.2.2) o)) p (qM (dN a.2.2.2) p) = (dN a.2.2.2).2.2.2.1 := by
        funext k
        unfold updN
        by_cases z1 : k = p
        · subst z1; rw [if_pos rfl]
        · rw [if_neg z1]
          by_cases z2 : k = o
          · subst z2; rw [if_pos rfl]
          · rw [if_neg z2]
      show ((dN a.2.2.2).1, (dN a.2.2.2).2.1, (dN a.2.2.2).2.2.1, updN (updN (dN a.2.2.2).2.2.2.1 o (qM (dN a.2.2.2) o)) p (qM (dN a.2.2.2) p), (dN a.2.2.2).2.2.2.2) = _
      rw [this]
    have h8 : MA M dr (setD a (setN a.2.2.2 (sM (sM (sM (sM (dN a.2.2.2) o (min 9 (qM (dN a.2.2.2) o + x))) p (min 9 (qM (dN a.2.2.2) p + y))) o (qM (dN a.2.2.2) o)) p (qM (dN a.2.2.2) p)))) t7 := h7
    rw [e] at h8
    exact h8
theorem m_isRest (h : MA M dr a σ) (okd : LdOK a.2.2.2) {o p x y : Nat} (ho : o < qT (dN a.2.2.2)) (hp : p < qT (dN a.2.2.2)) (hne : o ≠ p) (hx : x < 4) (hy : y < 4) : Ok (fX10_isRest σ (M.1 0) (nI o) (nI p) (nI x) (nI y)) (fun r t => r = bI (rstB (dN a.2.2.2) (rul a.2.1) o p x y) ∧ MA M dr a t) := by
  unfold fX10_isRest
  refine Ok.f2 4 0 (fun k z t => z = nI k ∧ anyB (fun k => decide (gn (dN a.2.2.2) (rul a.2.1) o p x y < gn (dN a.2.2.2) (rul a.2.1) o p k y) || !decide (gn (dN a.2.2.2) (rul a.2.1) p o k x ≤ gn (dN a.2.2.2) (rul a.2.1) p o y x)) k = false ∧ MA M dr a t) (by omega) (by omega) ⟨rfl, rfl, h⟩ ?_ ?_
  · rintro j k z t hk ⟨rfl, hn, h1⟩ hj
    have no : (decide (gn (dN a.2.2.2) (rul a.2.1) o p x y < gn (dN a.2.2.2) (rul a.2.1) o p k y) || !decide (gn (dN a.2.2.2) (rul a.2.1) p o k x ≤ gn (dN a.2.2.2) (rul a.2.1) p o y x)) = true → (0 : Int32) = bI (rstB (dN a.2.2.2) (rul a.2.1) o p x y) := by
      intro q
      have : anyB (fun k => decide (gn (dN a.2.2.2) (rul a.2.1) o p x y < gn (dN a.2.2.2) (rul a.2.1) o p k y) || !decide (gn (dN a.2.2.2) (rul a.2.1) p o k x ≤ gn (dN a.2.2.2) (rul a.2.1) p o y x)) 4 = true := anyB_iff.mpr ⟨k, hk, q⟩
      unfold rstB
      rw [this]; rfl
    refine Ok.bF (show ¬ nI 4 ≤ nI k from nI_ge hk (by decide)) (Ok.v (ma_O h1) (m_gameOf h1 okd ho hp hne hk hy) ?_)
    rintro r2 t2 ⟨rfl, h2⟩
    refine Ok.v (ma_O h2) (m_gameOf h2 okd ho hp hne hx hy) ?_
    rintro r3 t3 ⟨rfl, h3⟩
    refine Ok.b (fun z1 => ?_) (fun z1 => ?_)
    · exact Ok.p ⟨no (by rw [decide_eq_true z1]; rfl), h3⟩
    refine Ok.v (ma_O h3) (m_gameOf h3 okd hp ho (Ne.symm hne) hk hx) ?_
    rintro r4 t4 ⟨rfl, h4⟩
    refine Ok.v (ma_O h4) (m_gameOf h4 okd hp ho (Ne.symm hne) hy hx) ?_
    rintro r5 t5 ⟨rfl, h5⟩
    refine Ok.b (fun z2 => ?_) (fun z2 => ?_)
    · rw [nI_1]
      exact hj _ _ ⟨rfl, by simp only [anyB, hn, decide_eq_false z1, decide_eq_true z2]; rfl, h5⟩
    · exact Ok.p ⟨no (by rw [decide_eq_false z2]; simp), h5⟩
  · rintro j z t ⟨rfl, hn, h1⟩
    refine Ok.bT (by decide) (Ok.p ⟨?_, h1⟩)
    unfold rstB
    rw [hn]; rfl
theorem m_areTwo (h : MA M dr a σ) (h4 : qT (dN a.2.2.2) ≤ 4) (v1 v2 : Int32) : (fX10_areTwo σ (M.1 0) v1 v2 = some (0, σ) ∧ (ix v1 (qT (dN a.2.2.2)) = none ∨ ix v2 (qT (dN a.2.2.2)) = none ∨ ∃ o, ix v1 (qT (dN a.2.2.2)) = some o ∧ ix v2 (qT (dN a.2.2.2)) = some o)) ∨ (fX10_areTwo σ (M.1 0) v1 v2 = some (1, σ) ∧ ∃ o p, o < qT (dN a.2.2.2) ∧ p < qT (dN a.2.2.2) ∧ o ≠ p ∧ v1 = nI o ∧ v2 = nI p ∧ ix v1 (qT (dN a.2.2.2)) = some o ∧ ix v2 (qT (dN a.2.2.2)) = some p) := by
  unfold fX10_areTwo
  rw [bo_some (ma_O h), ma_isTower h (by omega) v1, bd_some]
  rcases ixc v1 (n := qT (dN a.2.2.2)) (by omega) with ⟨e1, hn⟩ | ⟨o, ho, rfl, e1⟩
  · left
    rw [decide_eq_false hn, if_pos (by rfl)]
    exact ⟨rfl, Or.inl e1⟩
  rw [decide_eq_true (ix_in ho (by omega)), if_neg (by decide), bo_some (ma_O h), ma_isTower h (by omega) v2, bd_some]
  rcases ixc v2 (n := qT (dN a.2.2.2)) (by omega) with ⟨e2, hn⟩ | ⟨p, hp, rfl, e2⟩
  · left
    rw [decide_eq_false hn, if_pos (by rfl)]
    exact ⟨rfl, Or.inr (Or.inl e2)⟩
  rw [decide_eq_true (ix_in hp (by omega)), if_neg (by decide)]
  by_cases q : o = p
  · left
    subst q
    rw [if_pos rfl]
    exact ⟨rfl, Or.inr (Or.inr ⟨o, e1, e1⟩)⟩
  · right
    rw [if_neg (fun z => q ((nI_eq (by omega) (by omega)).mp z))]
    exact ⟨rfl, o, p, ho, hp, q, rfl, rfl, e1, e2⟩
theorem m_game (h : MA M dr a σ) (ok : NoLd a.2.2.2 ∨ LdOK a.2.2.2) (v1 v2 v3 v4 v5 : Int32) : Ok (fX10_game σ (M.1 0) v1 v2 v3 v4 v5) (fun r t => r = gameA a v1 v2 v3 v4 v5 ∧ MA M dr a t) := by
  obtain ⟨h30, h4, _, _, _, hl⟩ := okC ok
  unfold fX10_game
  rcases m_areTwo h h4 v1 v2 with ⟨E, hc⟩ | ⟨E, o, p, ho, hp, q, rfl, rfl, e1, e2⟩
  · refine Ok.vE (ma_O h) E (Ok.bT rfl (Ok.p ⟨?_, h⟩))
    unfold gameA
    rcases hc with e | e | ⟨o, e, e'⟩
    · rw [e]
    · rw [e]; cases ix v1 (qT (dN a.2.2.2)) <;> rfl
    · rw [e, e']; exact (if_pos rfl).symm
  refine Ok.vE (ma_O h) E (Ok.bF (by decide) (Ok.cE (show fX10_in σ v3 0 3 = some (bI (decide (¬ v3 < 0 ∧ v3 < nI 4)), σ) from f_inN σ v3 (n := 4) (by decide)) ?_))
  rcases ixc v3 (n := 4) (by omega) with ⟨e3, hn⟩ | ⟨x, hx, rfl, e3⟩
  · rw [decide_eq_false hn]
    exact Ok.bT rfl (Ok.p ⟨by simp only [gameA, e1, e2, e3, if_neg q], h⟩)
  rw [decide_eq_true (ix_in hx (by decide))]
  refine Ok.bF (by decide) (Ok.cE (show fX10_in σ v4 0 3 = some (bI (decide (¬ v4 < 0 ∧ v4 < nI 4)), σ) from f_inN σ v4 (n := 4) (by decide)) ?_)
  rcases ixc v4 (n := 4) (by omega) with ⟨e4, hn⟩ | ⟨y, hy, rfl, e4⟩
  · rw [decide_eq_false hn]
    exact Ok.bT rfl (Ok.p ⟨by simp only [gameA, e1, e2, e3, e4, if_neg q], h⟩)
  rw [decide_eq_true (ix_in hy (by decide))]
  refine Ok.bF (by decide) (Ok.cE (show fX10_in σ v5 0 1 = some (bI (decide (¬ v5 < 0 ∧ v5 < nI 2)), σ) from f_inN σ v5 (n := 2) (by decide)) ?_)
  rcases ixc v5 (n := 2) (by omega) with ⟨e5, hn⟩ | ⟨k, hk, rfl, e5⟩
  · rw [decide_eq_false hn]
    exact Ok.bT rfl (Ok.p ⟨by simp only [gameA, e1, e2, e3, e4, e5, if_neg q], h⟩)
  rw [decide_eq_true (ix_in hk (by decide))]
  have ee : gameA a (nI o) (nI p) (nI x) (nI y) (nI k) = if k = 0 then gn (dN a.2.2.2) (rul a.2.1) o p x y else gn (dN a.2.2.2) (rul a.2.1) p o y x := by simp only [gameA, e1, e2, e3, e4, e5, if_neg q]
  rw [ee]
  have ok := hl (by omega)
  refine Ok.bF (by decide) (Ok.bI (nI_eq (b := 0) (by omega) (by omega)) (fun z => ?_) (fun z => ?_))
  · rw [if_pos z]
    exact Ok.v (ma_O h) (m_gameOf h ok ho hp q hx hy) (fun r t w => Ok.p w)
  · rw [if_neg z]
    exact Ok.v (ma_O h) (m_gameOf h ok hp ho (Ne.symm q) hy hx) (fun r t w => Ok.p w)
theorem m_rests (h : MA M dr a σ) (ok : NoLd a.2.2.2 ∨ LdOK a.2.2.2) (v1 v2 w : Int32) : Ok (fX10_rests σ (M.1 0) v1 v2 w) (fun r t => r = restsA a v1 v2 w ∧ MA M dr a t) := by
  obtain ⟨h30, h4, _, _, _, hl⟩ := okC ok
  unfold fX10_rests
  rcases m_areTwo h h4 v1 v2 with ⟨E, hc⟩ | ⟨E, o, p, ho, hp, q, rfl, rfl, e1, e2⟩
  · refine Ok.vE (ma_O h) E (Ok.bT rfl (Ok.p ⟨?_, h⟩))
    unfold restsA
    rcases hc with e | e | ⟨o, e, e'⟩
    · rw [e]
    · rw [e]; cases ix v1 (qT (dN a.2.2.2)) <;> rfl
    · rw [e, e']; exact (if_pos rfl).symm
  have ok := hl (by omega)
  have ee : restsA a (nI o) (nI p) w = rest1 (rpK (dN a.2.2.2) (rul a.2.1) o p) w := by simp only [restsA, e1, e2, if_neg q]
  rw [ee]
  refine Ok.vE (ma_O h) E (Ok.bF (by decide) (Ok.b (fun z0 => ?_) (fun z0 => ?_)))
  · refine Ok.f3 16 0 (fun k m z t => m = nI (fa_cnt (rpK (dN a.2.2.2) (rul a.2.1) o p) k) ∧ z = nI k ∧ MA M dr a t ∧ nthO (rpK (dN a.2.2.2) (rul a.2.1) o p) w (16 - k) k = nthO (rpK (dN a.2.2.2) (rul a.2.1) o p) w 16 0) (by omega) (by omega) ⟨rfl, rfl, h, rfl⟩ ?_ ?_
    · rintro j k m z t hk ⟨rfl, rfl, h1, hv⟩ hj
      refine Ok.bF (show ¬ nI 16 ≤ nI k from nI_ge hk (by decide)) (Ok.bF (by decide) (Ok.bF (by decide) ?_))
      have d1 : nI k / 4 = nI (k / 4) := pk_div (d := 4) (by omega) (by omega) (by omega)
      have d2 : nI k - nI k / 4 * 4 = nI (k % 4) := pk_rem (d := 4) (by omega) (by omega) (by omega)
      rw [d2, d1]
      refine Ok.v (ma_O h1) (m_isRest h1 ok ho hp q (show k / 4 < 4 by omega) (show k % 4 < 4 by omega)) ?_
      rintro r2 t2 ⟨rfl, h2⟩
      refine Ok.j1 ?_
      rw [nI_1]
      obtain ⟨d, hd⟩ : ∃ d, 16 - k = d + 1 := ⟨15 - k, by omega⟩
      have hd' : 16 - (k + 1) = d := by omega
      rw [hd, nthO_s _ _ d] at hv
      refine Ok.bI bI_0 (fun q1 => ?_) (fun q1 => ?_)
      · have q1' : rpK (dN a.2.2.2) (rul a.2.1) o p k = false := q1
        rw [if_neg (by rw [q1']; decide)] at hv
        exact hj _ _ _ ⟨by rw [fa_cnt_no q1'], rfl, h2, by rw [hd']; exact hv⟩
      · have q1' : rpK (dN a.2.2.2) (rul a.2.1) o p k = true := by
          unfold rpK
          simpa using q1
        rw [if_pos q1'] at hv
        refine Ok.b (fun q2 => ?_) (fun q2 => ?_)
        · rw [if_pos q2] at hv
          refine Ok.bF (by decide) (Ok.bF (by decide) (Ok.p ⟨?_, h2⟩))
          unfold rest1
          rw [← hv]
          show _ = nI (10 * (k / 4) + k % 4)
          rw [show (10 : Int32) = nI 10 from rfl, pk_mul, nI_add]
        · rw [if_neg q2] at hv
          rw [nI_1]
          exact hj _ _ _ ⟨by rw [fa_cnt_yes q1'], rfl, h2, by rw [hd']; exact hv⟩
    · rintro j m z t ⟨rfl, rfl, h1, hv⟩
      have hv' : nthO (rpK (dN a.2.2.2) (rul a.2.1) o p) w 16 0 = none := hv.symm
      refine Ok.bT (by decide) (Ok.b (fun q => ?_) (fun q => ?_))
      · exact Ok.p ⟨by simp only [rest1, hv', if_pos q], h1⟩
      · exact Ok.p ⟨by simp only [rest1, hv', if_neg q], h1⟩
  · have hneg : w < 0 := by
      have := Int32.not_le.mp z0
      rw [Int32.lt_iff_toInt_lt] at this ⊢
      have e1 : (-1 : Int32).toInt = -1 := rfl
      have e2 : (0 : Int32).toInt = 0 := rfl
      omega
    refine Ok.p ⟨?_, h⟩
    simp only [rest1, nthO_neg _ hneg 16 0 (by omega), if_neg (show ¬ w = -1 from fun q => z0 (by rw [q]; decide))]
end
