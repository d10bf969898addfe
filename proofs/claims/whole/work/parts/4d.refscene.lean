/-! the reference's scene: what is seen there -/
def RsR (J : Nat → Int32) (Q : Nat → Nat → Int32) (s : Scn) : Prop := J 26 = nI (qC s) ∧ J 27 = nI (qT s) ∧ (0 < qC s → Q 23 0 = nI (qW s) ∧ Q 23 1 = nI (qH s)) ∧ (∀ i, i < qC s → Q 28 i = nI (qG s i)) ∧ (∀ t, t < qT s → Q 28 (30 + t) = nI (qP s t) ∧ Q 28 (34 + t) = nI (qM s t) ∧ Q 25 (4 * t + 3) = nI (qA s t)) ∧ Q 28 38 = nI (qB s) ∧ Q 28 39 = nI (qF s) ∧ Q 28 40 = nI (qK s) ∧ Q 28 41 = nI (qU s)
def RV (M : Mfg) (J : Nat → Int32) (Q : Nat → Nat → Int32) (dr : Int64) (s : Scn) (σ : St) : Prop := MV M J Q dr σ ∧ RsR J Q s ∧ ScOK s
def RulM (J : Nat → Int32) (Q : Nat → Nat → Int32) (L : Option LawF) : Prop := (J 30 = -1 ∧ L = none) ∨ ∃ i f, i < 4 ∧ J 30 = nI i ∧ LawM Q i f ∧ L = some f
def letG (A f u g m T : Nat) : Nat → Int32 := fun j => match j with
  | 0 => nI A
  | 1 => nI f
  | 2 => nI u
  | 3 => nI g
  | 4 => nI m
  | _ => nI T
def rchG (L : Option LawF) (A f u g m T : Nat) : Nat := match L with
  | none => A
  | some F => clN (F (letG A f u g m T))
theorem rch_G (s : Scn) (L : Option LawF) (t : Nat) : rch s L t = rchG L (qA s t) (qF s) (qU s % 24) (qG s (qP s t)) (qM s t) (qT s) := by
  cases L with
  | none => rfl
  | some F =>
    show clN (F (lets s t)) = clN (F (letG _ _ _ _ _ _))
    congr 2
theorem evW_congr {c v g g' : Nat → Int32} (hg : ∀ j, j < 6 → g j = g' j) : ∀ d k st, evW c v g d k st = evW c v g' d k st := by
  intro d
  induction d with
  | zero => intro k st; rfl
  | succ d ih =>
    intro k st
    have ihf : evW c v g d (k + 1) = evW c v g' d (k + 1) := funext (ih (k + 1))
    rw [evW_s, evW_s, ihf]
    by_cases h0 : c k = 0
    · rw [if_pos h0, if_pos h0]
    rw [if_neg h0, if_neg h0]
    by_cases h1 : c k = 1
    · rw [if_pos h1, if_pos h1]
      by_cases h2 : st.length < 80 ∧ ¬ v k < 0 ∧ v k < 6
      · rw [if_pos h2, if_pos h2, hg]
        have := inb_of h2.2.1 (n := 6) h2.2.2 (by decide)
        have h1 : (v k).toNatClampNeg = (v k).toInt.toNat := rfl
        obtain ⟨q1, q2⟩ := this
        omega
      · rw [if_neg h2, if_neg h2]
    · rw [if_neg h1, if_neg h1]
theorem evQ_congr {c v tf sf st g g' : Nat → Int32} {n : Nat} (hg : ∀ j, j < 6 → g j = g' j) : ∀ d i, evQ c v tf sf st g n d i = evQ c v tf sf st g' n d i := by
  intro d
  induction d with
  | zero => intro i; rfl
  | succ d ih =>
    intro i
    unfold evQ
    simp only [evW_congr hg, ih]
theorem clI_9 : ∀ A, A < 10 → clI (nI A) = nI A := by decide +kernel
def fdI (p q : Int32) : Int32 := if 0 ≤ p ^^^ q then p / q else if p / q * q = p then p / q else p / q - 1
theorem f_floorDiv (σ : St) (p q : Int32) (h : ¬ q = 0) : fJ9_floorDiv_7cf53 σ p q = some (fdI p q, σ) := by
  unfold fJ9_floorDiv_7cf53 nam fdI
  rw [if_neg h]
  show (if 0 ≤ p ^^^ q then some (p / q, σ) else if p / q * q = p then some (p / q, σ) else some (p / q - 1, σ)) = _
  split
  · rfl
  · split <;> rfl
theorem f_stepped (σ : St) (p i n : Int32) (h : ¬ 2 * n = 0) : fX10_stepped σ p i n = some (fdI ((2 * i) * p + n) (2 * n), σ) := by
  unfold fX10_stepped
  rw [f_floorDiv σ _ _ h, bd_some]
def stpB (x y f i : Nat) : Bool := i == 0 || decide (f ≤ i) || decide (f < fab y x) || decide (nI x + fdI ((2 * nI i) * (nI y - nI x) + nI f) (2 * nI f) = nI (plc x y f i))
theorem stp_d0 : ∀ x, x < 6 → ∀ y, y < 6 → ∀ f, f < 6 → ∀ i, i < 6 → stpB x y f i = true := by decide +kernel
theorem stp_d (x : Nat) (hx : x < 6) (y : Nat) (hy : y < 6) (f : Nat) (hf : f < 6) (i : Nat) (hi : i < f) (h1 : 1 ≤ i) (h2 : fab y x ≤ f) : nI x + fdI ((2 * nI i) * (nI y - nI x) + nI f) (2 * nI f) = nI (plc x y f i) := by
  have q := stp_d0 x hx y hy f hf i (by omega)
  simp only [stpB, Bool.or_eq_true, decide_eq_true_eq, beq_iff_eq] at q
  rcases q with ((q | q) | q) | q
  · omega
  · omega
  · omega
  · exact q
theorem abs_d : ∀ x, x < 6 → ∀ y, y < 6 → (if (0 : Int32) ≤ nI y - nI x then nI y - nI x else -(nI y - nI x)) = nI (fab y x) := by decide +kernel
theorem or0 (x : Int32) : x ||| 0 = x := b_ext (fun i _ => by rw [b_or, b_0, Bool.or_false])
/-- a question whether a number lies in a row of n -/
theorem inq (v : Int32) {n : Nat} (hn : n < 2 ^ 31) : (v < 0 ∨ nI n ≤ v) ∨ ∃ c, c < n ∧ v = nI c := by
  rcases pk_ix v hn with h | h | h
  · exact Or.inl (Or.inl h)
  · exact Or.inl (Or.inr h)
  · exact Or.inr h
section
variable {M : Mfg} {J : Nat → Int32} {Q : Nat → Nat → Int32} {dr : Int64} {s : Scn} {σ : St} {L : Option LawF}
theorem f_inN (σ : St) (v : Int32) {n : Nat} (hn : n < 2 ^ 30) : fX10_in σ v 0 (nI n - 1) = some (bI (decide (¬ v < 0 ∧ v < nI n)), σ) := by
  rw [f_in]
  by_cases h0 : v < 0
  · rw [if_pos h0, decide_eq_false (fun q => q.1 h0)]; rfl
  rw [if_neg h0]
  have e : (nI n - 1 < v) ↔ ¬ v < nI n := by
    rw [Int32.lt_iff_toInt_lt, Int32.lt_iff_toInt_lt, show (1 : Int32) = nI 1 from rfl, pk_sub_toInt hn (by decide), nI_toInt (by omega)]
    omega
  by_cases h1 : v < nI n
  · rw [if_neg (fun q => (e.mp q) h1), decide_eq_true ⟨h0, h1⟩]; rfl
  · rw [if_pos (e.mpr h1), decide_eq_false (fun q => h1 q.2)]; rfl
theorem m_isCellV (h : MV M J Q dr σ) {n : Nat} (hJ : J 26 = nI n) (hn : n < 2 ^ 30) (v : Int32) : fX10_isCell σ (M.1 0) v = some (bI (decide (¬ v < 0 ∧ v < nI n)), σ) := by
  unfold fX10_isCell
  rw [nr_26 h, Option.bind_some, hJ, f_inN σ v hn, bd_some, if_pos (bI_01 _)]
theorem m_isTowerV (h : MV M J Q dr σ) {n : Nat} (hJ : J 27 = nI n) (hn : n < 2 ^ 30) (v : Int32) : fX10_isTower σ (M.1 0) v = some (bI (decide (¬ v < 0 ∧ v < nI n)), σ) := by
  unfold fX10_isTower
  rw [nr_27 h, Option.bind_some, hJ, f_inN σ v hn, bd_some, if_pos (bI_01 _)]
theorem m_across (h : MV M J Q dr σ) {w c : Nat} (hW : Q 23 0 = nI w) (h0 : 0 < w) (hw : w < 2 ^ 31) (hc : c < 2 ^ 31) : fX10_acrossOf σ (M.1 0) (nI c) = some (nI (c % w), σ) := by
  unfold fX10_acrossOf
  rw [nr_23 h, Option.bind_some, show (0 : Int32) = nI 0 from rfl, na_23 h (by decide), Option.bind_some, hW, if_neg (show ¬ nI w = nI 0 from nI_ne0 h0 hw), pk_rem hc h0 hw]
theorem m_down (h : MV M J Q dr σ) {w c : Nat} (hW : Q 23 0 = nI w) (h0 : 0 < w) (hw : w < 2 ^ 31) (hc : c < 2 ^ 31) : fX10_downOf σ (M.1 0) (nI c) = some (nI (c / w), σ) := by
  unfold fX10_downOf
  rw [nr_23 h, Option.bind_some, show (0 : Int32) = nI 0 from rfl, na_23 h (by decide), Option.bind_some, hW, if_neg (show ¬ nI w = nI 0 from nI_ne0 h0 hw), pk_div hc h0 hw]
set_option maxHeartbeats 1000000 in
theorem m_isSeen (ok : ScOK s) (h : MV M J Q dr σ) (hw : Q 23 0 = nI (qW s)) {pa : Nat} (hrow : ∀ i, i < qC s → aI 0 σ pa (nI i) = some (nI (qG s i))) {a e r c : Nat} (ha : a < qC s) (hc : c < qC s) (he : e ≤ 18) (hr : r ≤ 9) : fX10_isSeen σ (M.1 0) pa (nI a) (nI e) (nI r) (nI (qF s)) (nI c) = some (bI (clr s a e r c), σ) := by
  have hf := qFar_lt ok ha hc
  have a1 := cell_xy ok ha
  have a2 := cell_xy ok hc
  have h3 := ok.w
  have h4 := ok.r
  have h30 := ok.c30
  have hgc := ok.g hc
  have hfg := ok.f
  have w0 : 0 < qW s := by omega
  have w1 : qW s < 2 ^ 31 := by omega
  have xa := m_across h hw w0 w1 (c := a) (by omega)
  have xc := m_across h hw w0 w1 (c := c) (by omega)
  have da := m_down h hw w0 w1 (c := a) (by omega)
  have dc := m_down h hw w0 w1 (c := c) (by omega)
  refine Ok.toE ?_
  unfold fX10_isSeen
  refine Ok.vE (nO h) xc (Ok.vE (nO h) xa (Ok.n (Ok.vE (nO h) dc (Ok.vE (nO h) da (Ok.n (Ok.cE (f_abs _ _) (Ok.cE (f_abs _ _) (Ok.cE ((f_max _ _ _).trans (congrArg (fun z => some (z, σ)) (far_d (a % qW s) (by omega) (c % qW s) (by omega) (a / qW s) (by omega) (c / qW s) (by omega)).1)) (Ok.r (hrow c hc) (Ok.j1 ?_))))))))))
  have key : ∀ v18 : Int32, ((v18 = 1 ∧ qF s ≤ qG s c ∧ qFar s a c ≤ r) ∨ (v18 = 0 ∧ clr s a e r c = false)) → Ok (lo3 (fun l23 (x20 : Int32) (x21 : Int32) (t22 : St) =>
      if nI (qFar s a c) ≤ x21 then
      if x20 = 0 ∨ x20 = 1 then some (x20, t22) else none
    else
      if x20 = 0 then
        if x20 = 0 ∨ x20 = 1 then some (x20, t22) else none
      else
        (gR 10 23 t22 (M.1 0)).bind fun a24 =>
        (aI 0 t22 a24 0).bind fun x25 =>
        bo 10 t22 (M.1 0) (fX10_downOf t22 (M.1 0) (nI a)) (fun x26 t27 =>
        bd (fX10_stepped t27 (nI (c / qW s) - nI (a / qW s)) x21 (nI (qFar s a c))) (fun x28 t29 =>
        bo 10 t29 (M.1 0) (fX10_acrossOf t29 (M.1 0) (nI a)) (fun x30 t31 =>
        bd (fX10_stepped t31 (nI (c % qW s) - nI (a % qW s)) x21 (nI (qFar s a c))) (fun x32 t33 =>
        nam (((x25 * (x26 + x28)) + x30) + x32 : Int32) (fun x34 =>
        (aI 0 t33 pa x34).bind fun x35 =>
        (aI 0 t33 pa (nI c)).bind fun x36 =>
        jo1 (fun (v37 : Int32) =>
          l23 v37 (x21 + 1) t33) (fun j38 =>
          if ((nI e) * (nI (qFar s a c))) + (x21 * (x36 - (nI e))) < x35 * (nI (qFar s a c)) then
            j38 0
          else
            j38 1))))))) FU v18 1 σ) (fun r' u => r' = bI (clr s a e r c) ∧ u = σ) := by
    intro v18 hv
    refine Ok.f3 (max 1 (qFar s a c)) 1 (fun k x y t => y = nI k ∧ t = σ ∧ 1 ≤ k ∧ ((x = 1 ∧ qF s ≤ qG s c ∧ qFar s a c ≤ r ∧ ∀ i, i < k → 1 ≤ i → (qG s (qOn s a c i) : Int) * (qFar s a c : Int) ≤ (e : Int) * (qFar s a c : Int) + (i : Int) * ((qG s c : Int) - (e : Int))) ∨ (x = 0 ∧ clr s a e r c = false))) (by omega) (by omega) ⟨rfl, rfl, by omega, ?_⟩ ?_ ?_
    · rcases hv with ⟨e1, e2, e3⟩ | e1
      · exact Or.inl ⟨e1, e2, e3, fun i h1 h2 => by omega⟩
      · exact Or.inr e1
    · rintro j k x y t hk ⟨rfl, rfl, hk1, hx⟩ hj
      refine Ok.bF (nI_ge (by omega) (by omega)) ?_
      rcases hx with ⟨rfl, g1, g2, hi⟩ | ⟨rfl, hx⟩
      · have hkf : k < qFar s a c := by omega
        have hon := qOn_lt ok ha hc hk1 hkf
        have q2 : ¬ (2 * nI (qFar s a c) = 0) := by
          rw [show (2 : Int32) = nI 2 from rfl, pk_mul]; exact nI_ne0 (by omega) (by omega)
        have p1 := stp_d (a % qW s) (by omega) (c % qW s) (by omega) (qFar s a c) hf k hkf hk1 (by unfold qFar; exact Nat.le_max_left _ _)
        have p2 := stp_d (a / qW s) (by omega) (c / qW s) (by omega) (qFar s a c) hf k hkf hk1 (by unfold qFar; exact Nat.le_max_right _ _)
        refine Ok.bF (by decide) (Ok.r (nr_23 h) (Ok.r ((na_23 h (i := 0) (by decide)).trans (congrArg some hw)) (Ok.vE (nO h) da (Ok.cE (f_stepped _ _ _ _ q2) (Ok.vE (nO h) xa (Ok.cE (f_stepped _ _ _ _ q2) (Ok.nE (e' := nI (qOn s a c k)) ?_ (Ok.r (hrow _ hon) (Ok.r (hrow c hc) (Ok.j1 ?_))))))))))
        · rw [Int32.add_assoc, p1, p2, pk_mul, nI_add, Nat.mul_comm]; rfl
        rw [nI_1]
        have cn := cnd_i (ok.g hon) (show qFar s a c ≤ 5 by omega) he (show k ≤ 5 by omega) hgc
        refine Ok.b (fun hl => ?_) (fun hl => ?_)
        · refine hj _ _ _ ⟨rfl, rfl, by omega, Or.inr ⟨rfl, ?_⟩⟩
          unfold clr
          exact decide_eq_false (fun z => absurd (cn.mpr (z.2.2 k hkf hk1)) (Int32.not_le.mpr hl))
        · refine hj _ _ _ ⟨rfl, rfl, by omega, Or.inl ⟨rfl, g1, g2, fun i hi' hi1 => ?_⟩⟩
          by_cases q : i = k
          · subst q; exact cn.mp (Int32.not_lt.mp hl)
          · exact hi i (by omega) hi1
      · refine Ok.bT rfl (Ok.bT (Or.inl rfl) (Ok.p ⟨?_, rfl⟩))
        rw [hx]; rfl
    · rintro j x y t ⟨rfl, rfl, hk1, hx⟩
      refine Ok.bT (nI_le (by omega) (by omega)) ?_
      rcases hx with ⟨rfl, g1, g2, hi⟩ | ⟨rfl, hx⟩
      · refine Ok.bT (Or.inr rfl) (Ok.p ⟨?_, rfl⟩)
        have : clr s a e r c = true := by
          unfold clr
          exact decide_eq_true ⟨g1, g2, fun i h1 h2 => hi i (by omega) h2⟩
        rw [this]; rfl
      · refine Ok.bT (Or.inl rfl) (Ok.p ⟨?_, rfl⟩)
        rw [hx]; rfl
  refine Ok.j1 (Ok.bI (nI_ltI (by omega) (by omega)) (fun h1 => ?_) (fun h1 => Ok.bI (nI_ltI (a := r) (b := qFar s a c) (by omega) (by omega)) (fun h2 => ?_) (fun h2 => ?_)))
  · refine key 0 (Or.inr ⟨rfl, ?_⟩)
    unfold clr
    exact decide_eq_false (fun z => absurd z.1 (by omega))
  · refine key 0 (Or.inr ⟨rfl, ?_⟩)
    unfold clr
    exact decide_eq_false (fun z => absurd z.2.1 (by omega))
  · exact key 1 (Or.inl ⟨rfl, by omega, by omega⟩)
theorem m_reachBy (h : MV M J Q dr σ) {t A f u g m T : Nat} (ht : t < 4) (hA : Q 25 (4 * t + 3) = nI A) (hT : J 27 = nI T) (hA9 : A ≤ 9) (hu : u < 2 ^ 31) (hb : f < 100000 ∧ g < 100000 ∧ m < 100000 ∧ T < 100000) (hL : RulM J Q L) : Ok (fX10_reachBy σ (M.1 0) (nI t) (nI f) (nI u) (nI g) (nI m)) (fun r t' => r = nI (rchG L A f (u % 24) g m T) ∧ MV M J Q dr t') := by
  have e25 : (4 * nI t) + 3 = nI (4 * t + 3) := by
    rw [show (4 : Int32) = nI 4 from rfl, pk_mul, show (3 : Int32) = nI 3 from rfl, nI_add]
  unfold fX10_reachBy
  rw [e25]
  refine Ok.r (nr_25 h) (Ok.r ((na_25 h (by omega)).trans (congrArg some hA)) (Ok.r (nr_30 h) (Ok.j2 ?_)))
  have fin : ∀ {τ : St} (x : Int32), MV M J Q dr τ → Ok (bd (fJ9_min_7cf53 τ 9 x) (fun x7 t8 => bd (fJ9_max_7cf53 t8 0 x7) (fun x9 t10 => some (x9, t10)))) (fun r t' => r = clI x ∧ MV M J Q dr t') := by
    intro τ x hτ
    exact Ok.cE (f_min _ _ _) (Ok.cE (f_max _ _ _) (Ok.p ⟨rfl, hτ⟩))
  rcases hL with ⟨e, rfl⟩ | ⟨i, F, hi, e, hF, rfl⟩
  · rw [e]
    refine Ok.bT rfl ((fin _ h).imp ?_)
    rintro r u ⟨rfl, hu⟩
    exact ⟨clI_9 A (by omega), hu⟩
  · rw [e]
    refine Ok.bF ?_ ?_
    · intro q
      have := nI_pos (n := i) (by omega)
      rw [q] at this
      exact this (by decide)
    obtain ⟨f0, hf0⟩ := h.cell (k := 15) (z := 6) rfl (fun _ => rfl)
    have wr : ∀ {τ : St} {f : Nat → Int32} (_ : MV M J Q dr τ) (_ : τ.2.2 (M.1 15) = some (.inl (0, 6, .inl f))) (j : Nat) (_ : j < 6) (v : Int32), ∃ u, sI 0 τ (M.1 15) (nI j) v = some u ∧ (MV M J Q dr u ∧ u.2.2 (M.1 15) = some (.inl (0, 6, .inl (upd f j v)))) := by
      intro τ f hτ hf j hj v
      obtain ⟨u, e1, g1, g2, _⟩ := hτ.putT 15 j v (z := 6) rfl rfl (fun _ => rfl) hf hj (by decide)
      exact ⟨u, e1, g1, g2⟩
    refine Ok.r (nr_15 h) (Ok.w (wr h hf0 0 (by decide) _) ?_)
    rintro t1 ⟨h1, f1⟩
    refine Ok.r (nr_15 h1) (Ok.w (wr h1 f1 1 (by decide) _) ?_)
    rintro t2 ⟨h2, f2⟩
    refine Ok.r (nr_15 h2) (Ok.bF (by decide) ?_)
    rw [show nI u - nI u / 24 * 24 = nI (u % 24) from pk_rem (d := 24) hu (by omega) (by omega)]
    refine Ok.w (wr h2 f2 2 (by decide) _) ?_
    rintro t3 ⟨h3, f3⟩
    refine Ok.r (nr_15 h3) (Ok.w (wr h3 f3 3 (by decide) _) ?_)
    rintro t4 ⟨h4, f4⟩
    refine Ok.r (nr_15 h4) (Ok.w (wr h4 f4 4 (by decide) _) ?_)
    rintro t5 ⟨h5, f5⟩
    refine Ok.r (nr_15 h5) (Ok.r ((nr_27 h5).trans (congrArg some hT)) (Ok.w (wr h5 f5 5 (by decide) _) ?_))
    rintro t6 ⟨h6, f6⟩
    have lb2 : LtB (letG A f (u % 24) g m T) := by
      intro j hj
      match j, hj with
      | 0, _ => exact ⟨A, by omega, rfl⟩
      | 1, _ => exact ⟨f, hb.1, rfl⟩
      | 2, _ => exact ⟨u % 24, by omega, rfl⟩
      | 3, _ => exact ⟨g, hb.2.1, rfl⟩
      | 4, _ => exact ⟨m, hb.2.2.1, rfl⟩
      | 5, _ => exact ⟨T, hb.2.2.2, rfl⟩
      | j + 6, h => omega
    have lb1 : LtB (upd (upd (upd (upd (upd (upd f0 0 (nI A)) 1 (nI f)) 2 (nI (u % 24))) 3 (nI g)) 4 (nI m)) 5 (nI T)) := by
      intro j hj
      match j, hj with
      | 0, _ => exact ⟨A, by omega, rfl⟩
      | 1, _ => exact ⟨f, hb.1, rfl⟩
      | 2, _ => exact ⟨u % 24, by omega, rfl⟩
      | 3, _ => exact ⟨g, hb.2.1, rfl⟩
      | 4, _ => exact ⟨m, hb.2.2.1, rfl⟩
      | 5, _ => exact ⟨T, hb.2.2.2, rfl⟩
      | j + 6, h => omega
    refine Ok.r ((nr_30 h6).trans (congrArg some e)) (Ok.v (nO h6) (m_worthOf h6 f6 hi hF lb1) ?_)
    rintro r7 t7 ⟨rfl, h7⟩
    refine (fin _ h7).imp ?_
    rintro r8 t8 ⟨rfl, h8⟩
    refine ⟨?_, h8⟩
    rw [(clN_ok _).1]
    show nI (clN (F _)) = nI (clN (F (letG A f (u % 24) g m T)))
    obtain ⟨nc, _, _, _, hv⟩ := hF
    have e2 : F (upd (upd (upd (upd (upd (upd f0 0 (nI A)) 1 (nI f)) 2 (nI (u % 24))) 3 (nI g)) 4 (nI m)) 5 (nI T)) = F (letG A f (u % 24) g m T) := by
      apply Option.some.inj
      rw [← hv _ lb1, ← hv _ lb2]
      refine evQ_congr (fun j hj => ?_) _ _
      match j, hj with
      | 0, _ => rfl
      | 1, _ => rfl
      | 2, _ => rfl
      | 3, _ => rfl
      | 4, _ => rfl
      | 5, _ => rfl
      | j + 6, h => omega
    exact congrArg (fun z => nI (clN z)) e2
end
