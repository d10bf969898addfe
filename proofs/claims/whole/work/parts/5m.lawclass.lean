/-! The LAW's reader: the class -/
def enT (t : Tk) : Int32 := (t.2 <<< (8 &&& 31)) ||| t.1
def LX (L : List Tk) (I : Nat → Int32) (R : Nat → Nat → Int32) : Prop := I 142 = nI L.length ∧ ∀ i t, L[i]? = some t → R 8 i = enT t
def LF (I : Nat → Int32) (_ : Nat → Nat → Int32) : Prop := ∃ n, n ≤ 240 ∧ I 142 = nI n
theorem LX_ind (L : List Tk) : Ind (LX L) := by
  rintro I R v ⟨h1, h2⟩
  exact ⟨⟨by rw [pk_un (by decide)]; exact h1, h2⟩, ⟨by rw [pk_un (by decide)]; exact h1, h2⟩⟩
theorem LF_ind : Ind LF := by
  rintro I R v ⟨n, h1, h2⟩
  exact ⟨⟨n, h1, by rw [pk_un (by decide)]; exact h2⟩, ⟨n, h1, by rw [pk_un (by decide)]; exact h2⟩⟩
theorem LX_F {L : List Tk} (h : L.length ≤ 240) {I : Nat → Int32} {R : Nat → Nat → Int32} (g : LX L I R) : LF I R := ⟨L.length, h, g.1⟩
theorem LX_snoc {L : List Tk} {I : Nat → Int32} {R : Nat → Nat → Int32} (h : LX L I R) (t : Tk) : LX (L ++ [t]) (upd I 142 (nI (L.length + 1))) (updR R 8 (upd (R 8) L.length (enT t))) := by
  refine ⟨by rw [pk_us]; simp, fun i u e => ?_⟩
  rw [updR_s]
  unfold upd
  by_cases q : i = L.length
  · subst q
    rw [List.getElem?_append_right (Nat.le_refl _)] at e
    simp at e
    rw [if_pos rfl, e]
  · rw [if_neg q]
    by_cases q2 : i < L.length
    · rw [List.getElem?_append_left q2] at e
      exact h.2 i u e
    · rw [List.getElem?_append_right (by omega)] at e
      rw [show i - L.length = (i - L.length - 1) + 1 by omega] at e
      simp at e
def PC (K : Cfg) (dr : Int64) (a : Abs) (L : List Tk) (r : PR) (σ : St) : Prop := match r with
  | .inl q => ∃ p, TR K dr a LF p (some q) σ
  | .inr y => TR K dr a (LX (L ++ y.2)) y.1 none σ
def CPr (K : Cfg) (dr : Int64) (a : Abs) (f : St → Option (Unit × St)) (g : Nat → PR) : Prop := ∀ L p σ, TR K dr a (LX L) p none σ → L.length ≤ p → Ok (f σ) (fun _ t => PC K dr a L (g p) t)
def CF (K : Cfg) (dr : Int64) (a : Abs) (f : St → Option (Unit × St)) : Prop := ∀ p q σ, TR K dr a LF p (some q) σ → Ok (f σ) (fun _ t => ∃ p, TR K dr a LF p (some q) t)
section
variable {K : Cfg} {dr : Int64} {a : Abs} {σ : St} {X Y : (Nat → Int32) → (Nat → Nat → Int32) → Prop} {p : Nat} {f : Option Nat} {L : List Tk}
theorem l_tape (h : TR K dr a X p f σ) : gR 4 0 σ (K.1 7) = some (K.1 1) := by
  obtain ⟨I, R, h1, _⟩ := h
  exact kr_7_0 h1
theorem l_code (h : TR K dr a X p f σ) : gR 4 1 σ (K.1 7) = some (K.1 8) := by
  obtain ⟨I, R, h1, _⟩ := h
  exact kr_7_1 h1
theorem l_O (h : TR K dr a X p f σ) : isO 4 σ (K.1 7) = true := by
  obtain ⟨I, R, h1, _⟩ := h
  exact kO_7 h1
theorem l_aN (h : TR K dr a X p f σ) : aN σ (K.1 8) = some (nI 240) := by
  obtain ⟨I, R, ⟨R', _, hw, _⟩, _⟩ := h
  exact aN_of (hw.2 8 rfl) (by decide)
theorem l_len (h : TR K dr a (LX L) p f σ) : gI 4 2 σ (K.1 7) = some (nI L.length) := by
  obtain ⟨I, R, h1, _, h3, _⟩ := h
  exact (kr_7_2 h1).trans (congrArg some h3.1)
theorem TR.put142 (h : TR K dr a X p f σ) (v : Int32) (hX : ∀ I R, X I R → Y (upd I 142 v) R) : ∃ t, pV 4 2 σ (K.1 7) (.int v) = some t ∧ TR K dr a Y p f t := by
  obtain ⟨I, R, h1, h2, h3, h4, h5, h6⟩ := h
  obtain ⟨t, e, g⟩ := h1.putI 7 2 v rfl (by decide) (fun _ => rfl) (Nat.le_of_ble_eq_true rfl) (fun _ => rfl)
  exact ⟨t, e, upd I 142 v, R, g, h2.scr (fun k hk => pk_un (fun z => hk (by unfold scI; omega))) (fun _ _ => rfl), hX _ _ h3, by rw [pk_un (by decide)]; exact h4, by rw [pk_un (by decide)]; exact h5, h6⟩
theorem TR.row8 (h : TR K dr a X p f σ) {i : Nat} (hi : i < 240) (v : Int32) (hX : ∀ I R, X I R → Y I (updR R 8 (upd (R 8) i v))) : ∃ t, sI 0 σ (K.1 8) (nI i) v = some t ∧ TR K dr a Y p f t := by
  obtain ⟨I, R, h1, h2, h3, h4⟩ := h
  obtain ⟨t, e, g⟩ := h1.putN 8 i v rfl rfl (fun _ => rfl) hi (by decide)
  exact ⟨t, e, I, _, g, h2.scr (fun _ _ => rfl) (fun k hk => updR_n _ _ (fun q => hk (by unfold scR; omega))), hX _ _ h3, h4⟩
theorem l_put (h : TR K dr a (LX L) p f σ) (hl : L.length < 240) (c v : Int32) : Ok (fX4_put σ (K.1 7) c v) (fun _ t => TR K dr a (LX (L ++ [(c, v)])) p f t) := by
  unfold fX4_put
  refine Ok.r (l_len h) (Ok.r (l_code h) (Ok.r (l_aN h) (Ok.bF (nI_ge hl (by decide)) (Ok.r (l_code h) (Ok.r (l_len h) ?_)))))
  refine Ok.w (h.row8 (Y := fun I R => LX (L ++ [(c, v)]) (upd I 142 (nI (L.length + 1))) R ∧ I 142 = nI L.length) hl _ (fun I R g => ⟨LX_snoc g (c, v), g.1⟩)) ?_
  intro t1 g1
  have e1 : gI 4 2 t1 (K.1 7) = some (nI L.length) := by
    obtain ⟨I, R, h1, _, h3, _⟩ := g1
    exact (kr_7_2 h1).trans (congrArg some h3.2)
  refine Ok.r e1 ?_
  rw [nI_1]
  refine Ok.w (g1.put142 (Y := LX (L ++ [(c, v)])) _ (fun I R g => g.1)) ?_
  intro t2 g2
  exact Ok.p g2
theorem l_putF (h : TR K dr a LF p f σ) (c v : Int32) : Ok (fX4_put σ (K.1 7) c v) (fun _ t => TR K dr a LF p f t) := by
  obtain ⟨n, hn, e0⟩ : ∃ n, n ≤ 240 ∧ gI 4 2 σ (K.1 7) = some (nI n) := by
    obtain ⟨I, R, h1, _, ⟨n, h3, h4⟩, _⟩ := h
    exact ⟨n, h3, (kr_7_2 h1).trans (congrArg some h4)⟩
  have h' : TR K dr a (fun I _ => I 142 = nI n) p f σ := by
    obtain ⟨I, R, h1, h2, _, h4⟩ := h
    exact ⟨I, R, h1, h2, Option.some.inj ((kr_7_2 h1).symm.trans e0), h4⟩
  unfold fX4_put
  refine Ok.r e0 (Ok.r (l_code h) (Ok.r (l_aN h) (Ok.bI (nI_leI (by omega) (by omega)) (fun z => Ok.p h) (fun z => Ok.r (l_code h) (Ok.r e0 ?_)))))
  refine Ok.w (h'.row8 (Y := fun I _ => I 142 = nI n) (by omega) _ (fun I R g => g)) ?_
  intro t1 g1
  have e1 : gI 4 2 t1 (K.1 7) = some (nI n) := by
    obtain ⟨I, R, h1, _, h3, _⟩ := g1
    exact (kr_7_2 h1).trans (congrArg some h3)
  refine Ok.r e1 ?_
  rw [nI_1]
  refine Ok.w (g1.put142 (Y := LF) _ (fun I R g => ⟨n + 1, by omega, pk_us⟩)) ?_
  intro t2 g2
  exact Ok.p g2
theorem l_enter (h : TR K dr a X p none σ) (hX : Ind X) {k : Nat} (hk : k ≤ 6) (hp : p < a.1.1) : Ok (fX4_enter σ (K.1 7) (nI (6 - k))) (fun r t => if k = 0 then r = 0 ∧ TR K dr a X p (some p) t else r = 1 ∧ TR K dr a X (p + 1) none t) := by
  unfold fX4_enter
  refine Ok.bI (show nI (6 - k) < 6 ↔ 6 - k < 6 from nI_ltI (b := 6) (by omega) (by omega)) (fun z => ?_) (fun z => ?_)
  · refine Ok.r (l_tape h) (Ok.v h.O (t_step h hX) ?_)
    intro w t g
    rw [if_pos hp] at g
    exact Ok.p (by rw [if_neg (by omega)]; exact ⟨rfl, g⟩)
  · refine Ok.r (l_tape h) (Ok.v h.O (t_fail h hX) ?_)
    intro w t g
    exact Ok.p (by rw [if_pos (by omega)]; exact ⟨rfl, g⟩)
theorem l_expect (h : TR K dr a X p none σ) (hX : Ind X) {c : Int32} (hc : c ≠ -1) : Ok (fX8_expect σ (K.1 1) c) (fun _ t => if atT a.1 (skT a.1 p) = c then TR K dr a X (skT a.1 p + 1) none t else TR K dr a X (skT a.1 p) (some (skT a.1 p)) t) := by
  unfold fX8_expect
  refine Ok.v h.O (t_peek h hX) ?_
  rintro r t ⟨rfl, g⟩
  refine Ok.b (fun z => ?_) (fun z => ?_)
  · refine Ok.v g.O (t_step g hX) ?_
    intro w t2 g2
    rw [if_pos (at_in (by rw [z]; exact hc))] at g2
    exact Ok.p (by rw [if_pos z]; exact g2)
  · refine Ok.v g.O (t_fail g hX) ?_
    intro w t2 g2
    exact Ok.p (by rw [if_neg z]; exact g2)
theorem l_expectF {q : Nat} (h : TR K dr a X p (some q) σ) {c : Int32} (hc : c ≠ -1) : fX8_expect σ (K.1 1) c = some ((), σ) := by
  unfold fX8_expect
  rw [bo_some h.O, t_peekF h, bd_some, if_neg (fun e => hc e.symm), bo_some h.O, t_failF h, bd_some]
theorem l_comp (σ : St) (c : Int32) : fX4_compares σ c = some (bI (oqC c), σ) := by
  unfold fX4_compares oqC
  by_cases h1 : c = 61
  · rw [if_pos h1, decide_eq_true (Or.inl h1)]; rfl
  rw [if_neg h1]
  by_cases h2 : c = 60
  · rw [if_pos h2, decide_eq_true (Or.inr (Or.inl h2))]; rfl
  rw [if_neg h2]
  by_cases h3 : c = 62
  · rw [if_pos h3, decide_eq_true (Or.inr (Or.inr h3))]; rfl
  · rw [if_neg h3, decide_eq_false (fun q => q.elim h1 (fun q => q.elim h2 h3))]; rfl
theorem l_letter (σ : St) (c : Int32) : fX3_letterOf σ c = some (ltC c, σ) := by
  by_cases hx : c.toInt < 102 ∨ 102 + 9 ≤ c.toInt
  · unfold fX3_letterOf
    rw [tbs_out hx]
    have hne : ∀ v : Int32, 102 ≤ v.toInt → v.toInt < 111 → ¬ c = v := fun v h1 h2 e => by rw [e] at hx; omega
    unfold ltC
    rw [if_neg (hne 108 (by decide) (by decide)), if_neg (hne 102 (by decide) (by decide)), if_neg (hne 104 (by decide) (by decide)), if_neg (hne 103 (by decide) (by decide)), if_neg (hne 109 (by decide) (by decide)), if_neg (hne 110 (by decide) (by decide))]
  · obtain ⟨j, hj, e⟩ : ∃ j : Nat, j < 9 ∧ c.toInt = 102 + j := ⟨(c.toInt - 102).toNat, by omega, by omega⟩
    have e' : c = nI (102 + j) := by
      apply Int32.toInt_inj.mp
      rw [nI_toInt (by omega), e]; omega
    rw [e']
    clear e e' hx
    unfold fX3_letterOf
    match j, hj with
    | 0, _ => exact tbs_at 0 (by decide) rfl
    | 1, _ => exact tbs_at 1 (by decide) rfl
    | 2, _ => exact tbs_at 2 (by decide) rfl
    | 3, _ => exact tbs_at 3 (by decide) rfl
    | 4, _ => exact tbs_at 4 (by decide) rfl
    | 5, _ => exact tbs_at 5 (by decide) rfl
    | 6, _ => exact tbs_at 6 (by decide) rfl
    | 7, _ => exact tbs_at 7 (by decide) rfl
    | 8, _ => exact tbs_at 8 (by decide) rfl
    | j + 9, h => omega
theorem TR.F {q : Nat} (h : TR K dr a (LX L) p (some q) σ) (hl : L.length ≤ 240) : TR K dr a LF p (some q) σ := h.imp (fun _ _ g => LX_F hl g)
theorem TR.l2 (h : TR K dr a X p f σ) (hl : L.length ≤ p) : L.length ≤ 240 := by
  obtain ⟨l1, l2⟩ := h.l240
  omega
theorem PC.to {y : Nat × List Tk} {f : Nat → PR} (g : PC K dr a (L ++ y.2) (f y.1) σ) : PC K dr a L (bnP (.inr y) f) σ := by
  unfold bnP
  simp only []
  cases e : f y.1 with
  | inl q => rw [e] at g; exact g
  | inr z =>
    rw [e] at g
    simp only [PC, List.append_assoc] at g ⊢
    exact g
theorem PC.cs {r : PR} (h : PC K dr a L r σ) : (∃ q, r = .inl q ∧ ∃ p, TR K dr a LF p (some q) σ) ∨ ∃ y, r = .inr y ∧ TR K dr a (LX (L ++ y.2)) y.1 none σ := by
  cases r with
  | inl q => exact Or.inl ⟨q, rfl, h⟩
  | inr y => exact Or.inr ⟨y, rfl, h⟩
/-! what goes on with a sign -/
theorem c_lp3 {r : St → Option (Unit × St)} {g : Nat → PR} {ok : Int32 → Bool} {c1 c2 : Int32} (hg : CPr K dr a r g) (hP : Pg a.1 g) (hok : ∀ x, ok x = true ↔ (x = c1 ∨ x = c2)) (hm : c1 ≠ -1 ∧ c2 ≠ -1) {p0 : Nat} (h : TR K dr a (LX L) (skT a.1 p0) none σ) (hl : L.length ≤ p0) (hp0 : p0 ≤ a.1.1) : Ok (lo3 (fun l9 (x6 : Int32) (x7 : Int32) (t8 : St) =>
    if 240 ≤ x7 then
    some ((), t8)
  else
    jo1 (fun (u9 : Unit) =>
      (gR 4 0 t8 (K.1 7)).bind fun a11 =>
      bo 8 t8 a11 (fX8_step t8 a11) (fun w12 t13 =>
      bo 4 t13 (K.1 7) (r t13) (fun w14 t15 =>
      bo 4 t15 (K.1 7) (fX4_put t15 (K.1 7) x6 0) (fun w16 t17 =>
      (gR 4 0 t17 (K.1 7)).bind fun a18 =>
      bo 8 t17 a18 (fX8_peek t17 a18) (fun x19 t20 =>
      l9 x19 (x7 + 1) t20))))) (fun j10 =>
      if x6 = c1 then
        j10 () 
      else
        if x6 = c2 then
          j10 () 
        else
          some ((), t8))) FU (atT a.1 (skT a.1 p0)) 0 σ) (fun _ t => PC K dr a L (lpP a.1 ok g 241 p0) t) := by
  have h240 := h.l240.1
  refine Ok.m3 (fun d x6 x7 t => ∃ k, k + d = 241 ∧ x7 = nI k ∧ ((∃ L' p', k ≤ p' ∧ x6 = atT a.1 (skT a.1 p') ∧ TR K dr a (LX L') (skT a.1 p') none t ∧ L'.length ≤ p' ∧ p' ≤ a.1.1 ∧ ∀ u, PC K dr a L' (lpP a.1 ok g d p') u → PC K dr a L (lpP a.1 ok g 241 p0) u) ∨ (x6 = -1 ∧ PC K dr a L (lpP a.1 ok g 241 p0) t))) ?_ FU 241 _ _ _ (by decide) ⟨0, by omega, rfl, Or.inl ⟨L, p0, by omega, rfl, h, hl, hp0, fun u q => q⟩⟩
  rintro j d x6 x7 t ⟨k, hk, rfl, hc⟩ hj
  rcases hc with ⟨L', p', hkp, rfl, gs, hl', hp', hc⟩ | ⟨rfl, hc⟩
  · have hsk := sk_ge a.1 p'
    refine Ok.bI (show (240 : Int32) ≤ nI k ↔ 240 ≤ k from nI_leI (a := 240) (by omega) (by omega)) (fun z => ?_) (fun z => Ok.j1 ?_)
    · refine Ok.p (hc t ?_)
      have e1 : ¬ ok (atT a.1 (skT a.1 p')) = true := by
        have : atT a.1 (skT a.1 p') = -1 := by unfold atT; rw [if_neg (by omega)]
        rw [this]
        exact fun q => ((hok _).mp q).elim (fun e => hm.1 e.symm) (fun e => hm.2 e.symm)
      rw [lpP_n e1]
      simp only [PC, List.append_nil]
      exact gs
    · have go : ok (atT a.1 (skT a.1 p')) = true → Ok ((gR 4 0 t (K.1 7)).bind fun a11 =>
          bo 8 t a11 (fX8_step t a11) (fun w12 t13 =>
          bo 4 t13 (K.1 7) (r t13) (fun w14 t15 =>
          bo 4 t15 (K.1 7) (fX4_put t15 (K.1 7) (atT a.1 (skT a.1 p')) 0) (fun w16 t17 =>
          (gR 4 0 t17 (K.1 7)).bind fun a18 =>
          bo 8 t17 a18 (fX8_peek t17 a18) (fun x19 t20 =>
          j x19 (nI k + 1) t20))))) (fun _ t => PC K dr a L (lpP a.1 ok g 241 p0) t) := by
        intro hy
        have hin : skT a.1 p' < a.1.1 := at_in (fun e => by rw [e] at hy; exact ((hok _).mp hy).elim (fun e => hm.1 e.symm) (fun e => hm.2 e.symm))
        obtain ⟨d, rfl⟩ : ∃ e, d = e + 1 := ⟨d - 1, by omega⟩
        rw [lpP_y hy] at hc
        refine Ok.r (l_tape gs) (Ok.v gs.O (t_step gs (LX_ind _)) ?_)
        rw [if_pos hin]
        intro w1 t1 g1
        refine Ok.v (l_O g1) (hg L' _ t1 g1 (by omega)) ?_
        intro w2 t2 g2
        rcases g2.cs with ⟨q, e, p2, g3⟩ | ⟨y, e, g3⟩
        · rw [e] at hc
          refine Ok.v (l_O g3) (l_putF g3 _ _) ?_
          intro w4 t4 g4
          refine Ok.r (l_tape g4) (Ok.vE g4.O (t_peekF g4) ?_)
          rw [nI_1]
          exact hj d _ _ _ (by omega) ⟨k + 1, by omega, rfl, Or.inr ⟨rfl, hc t4 ⟨p2, g4⟩⟩⟩
        · obtain ⟨b1, b2⟩ := hP _ _ _ (show skT a.1 p' + 1 ≤ a.1.1 by omega) e
          rw [e] at hc
          have hl2 : (L' ++ y.2).length < 240 := by rw [List.length_append]; omega
          refine Ok.v (l_O g3) (l_put g3 hl2 _ _) ?_
          intro w4 t4 g4
          refine Ok.r (l_tape g4) (Ok.v g4.O (t_peek g4 (LX_ind _)) ?_)
          rintro x5 t5 ⟨rfl, g5⟩
          rw [nI_1]
          refine hj d _ _ _ (by omega) ⟨k + 1, by omega, rfl, Or.inl ⟨_, y.1, by omega, rfl, g5, ?_, b2, fun u gu => hc u ?_⟩⟩
          · simp only [List.length_append, List.length_cons, List.length_nil]; omega
          · exact PC.to (y := (y.1, y.2 ++ [(atT a.1 (skT a.1 p'), 0)])) (by
              show PC K dr a (L' ++ (y.2 ++ _)) _ u
              rw [← List.append_assoc]
              exact gu)
      refine Ok.b (fun z1 => go ((hok _).mpr (Or.inl z1))) (fun z1 => Ok.b (fun z2 => go ((hok _).mpr (Or.inr z2))) (fun z2 => Ok.p (hc t ?_)))
      rw [lpP_n (fun q => ((hok _).mp q).elim z1 z2)]
      simp only [PC, List.append_nil]
      exact gs
  · refine Ok.b (fun z => Ok.p hc) (fun z => Ok.j1 (Ok.bF (fun e => hm.1 e.symm) (Ok.bF (fun e => hm.2 e.symm) (Ok.p hc))))
theorem c_lp2 {r : St → Option (Unit × St)} {g : Nat → PR} {ok : Int32 → Bool} {c1 : Int32} (hg : CPr K dr a r g) (hP : Pg a.1 g) (hok : ∀ x, ok x = true ↔ x = c1) (hm : c1 ≠ -1) {p0 : Nat} (h : TR K dr a (LX L) p0 none σ) (hl : L.length ≤ p0) : Ok (lo2 (fun l5 (x3 : Int32) (t4 : St) =>
    if 240 ≤ x3 then
    some ((), t4)
  else
    (gR 4 0 t4 (K.1 7)).bind fun a6 =>
    bo 8 t4 a6 (fX8_peek t4 a6) (fun x7 t8 =>
    if x7 = c1 then
      (gR 4 0 t8 (K.1 7)).bind fun a9 =>
      bo 8 t8 a9 (fX8_step t8 a9) (fun w10 t11 =>
      bo 4 t11 (K.1 7) (r t11) (fun w12 t13 =>
      bo 4 t13 (K.1 7) (fX4_put t13 (K.1 7) c1 0) (fun w14 t15 =>
      l5 (x3 + 1) t15)))
    else
      some ((), t8))) FU 0 σ) (fun _ t => PC K dr a L (lpP a.1 ok g 241 p0) t) := by
  have h240 := h.l240
  refine Ok.m2 (fun d x7 t => ∃ k, k + d = 241 ∧ x7 = nI k ∧ ((∃ L' p', k ≤ p' ∧ TR K dr a (LX L') p' none t ∧ L'.length ≤ p' ∧ p' ≤ a.1.1 ∧ ∀ u, PC K dr a L' (lpP a.1 ok g d p') u → PC K dr a L (lpP a.1 ok g 241 p0) u) ∨ (∃ q p', lpP a.1 ok g 241 p0 = .inl q ∧ TR K dr a LF p' (some q) t))) ?_ FU 241 _ _ (by decide) ⟨0, by omega, rfl, Or.inl ⟨L, p0, by omega, h, hl, h240.2, fun u q => q⟩⟩
  rintro j d x7 t ⟨k, hk, rfl, hc⟩ hj
  rcases hc with ⟨L', p', hkp, gs, hl', hp', hc⟩ | ⟨q, p', e, gs⟩
  · have hsk := sk_ge a.1 p'
    have hno : ¬ ok (-1) = true := fun q => hm ((hok _).mp q).symm
    refine Ok.bI (show (240 : Int32) ≤ nI k ↔ 240 ≤ k from nI_leI (a := 240) (by omega) (by omega)) (fun z => ?_) (fun z => ?_)
    · refine Ok.p (hc t ?_)
      have e0 : skT a.1 p' = p' := sk_n a.1 (fun q => by omega)
      have e1 : ¬ ok (atT a.1 (skT a.1 p')) = true := by
        have : atT a.1 (skT a.1 p') = -1 := by unfold atT; rw [if_neg (by omega)]
        rw [this]; exact hno
      rw [lpP_n e1]
      simp only [PC, List.append_nil, e0]
      exact gs
    · refine Ok.r (l_tape gs) (Ok.v gs.O (t_peek gs (LX_ind _)) ?_)
      rintro x0 t0 ⟨rfl, g0⟩
      refine Ok.b (fun z1 => ?_) (fun z1 => Ok.p (hc t0 ?_))
      · have hy : ok (atT a.1 (skT a.1 p')) = true := (hok _).mpr z1
        have hin : skT a.1 p' < a.1.1 := at_in (by rw [z1]; exact hm)
        obtain ⟨d, rfl⟩ : ∃ e, d = e + 1 := ⟨d - 1, by omega⟩
        rw [lpP_y hy] at hc
        refine Ok.r (l_tape g0) (Ok.v g0.O (t_step g0 (LX_ind _)) ?_)
        rw [if_pos hin]
        intro w1 t1 g1
        refine Ok.v (l_O g1) (hg L' _ t1 g1 (by omega)) ?_
        intro w2 t2 g2
        rcases g2.cs with ⟨q, e, p2, g3⟩ | ⟨y, e, g3⟩
        · have e9 : lpP a.1 ok g 241 p0 = .inl q ∨ True := Or.inr trivial
          rw [e] at hc
          refine Ok.v (l_O g3) (l_putF g3 _ _) ?_
          intro w4 t4 g4
          rw [nI_1]
          refine hj d _ _ (by omega) ⟨k + 1, by omega, rfl, ?_⟩
          rcases (hc t4 ⟨p2, g4⟩).cs with ⟨q', e', p5, g5⟩ | ⟨y, e', g5⟩
          · exact Or.inr ⟨q', p5, e', g5⟩
          · have f1 := g5.rd.2.2.1
            rw [g4.rd.2.2.1] at f1
            cases (oI_m1 g4.f1).mp (Option.some.inj f1)
        · obtain ⟨b1, b2⟩ := hP _ _ _ (show skT a.1 p' + 1 ≤ a.1.1 by omega) e
          rw [e] at hc
          have hl2 : (L' ++ y.2).length < 240 := by rw [List.length_append]; omega
          refine Ok.v (l_O g3) (l_put g3 hl2 _ _) ?_
          intro w4 t4 g4
          rw [nI_1]
          refine hj d _ _ (by omega) ⟨k + 1, by omega, rfl, Or.inl ⟨_, y.1, by omega, g4, ?_, b2, fun u gu => hc u ?_⟩⟩
          · simp only [List.length_append, List.length_cons, List.length_nil]; omega
          · exact PC.to (y := (y.1, y.2 ++ [(atT a.1 (skT a.1 p'), 0)])) (by
              show PC K dr a (L' ++ (y.2 ++ _)) _ u
              rw [← List.append_assoc, z1]
              exact gu)
      · rw [lpP_n (fun q => z1 ((hok _).mp q))]
        simp only [PC, List.append_nil]
        exact g0
  · refine Ok.b (fun z => Ok.p (by rw [e]; exact ⟨p', gs⟩)) (fun z => Ok.r (l_tape gs) (Ok.vE gs.O (t_peekF gs) (Ok.bF (fun e => hm e.symm) (Ok.p (by rw [e]; exact ⟨p', gs⟩)))))
theorem c_lp3F {r : St → Option (Unit × St)} {c1 c2 : Int32} (hm : c1 ≠ -1 ∧ c2 ≠ -1) {q : Nat} (h : TR K dr a LF p (some q) σ) : Ok (lo3 (fun l9 (x6 : Int32) (x7 : Int32) (t8 : St) =>
    if 240 ≤ x7 then
    some ((), t8)
  else
    jo1 (fun (u9 : Unit) =>
      (gR 4 0 t8 (K.1 7)).bind fun a11 =>
      bo 8 t8 a11 (fX8_step t8 a11) (fun w12 t13 =>
      bo 4 t13 (K.1 7) (r t13) (fun w14 t15 =>
      bo 4 t15 (K.1 7) (fX4_put t15 (K.1 7) x6 0) (fun w16 t17 =>
      (gR 4 0 t17 (K.1 7)).bind fun a18 =>
      bo 8 t17 a18 (fX8_peek t17 a18) (fun x19 t20 =>
      l9 x19 (x7 + 1) t20))))) (fun j10 =>
      if x6 = c1 then
        j10 () 
      else
        if x6 = c2 then
          j10 () 
        else
          some ((), t8))) FU (-1) 0 σ) (fun _ t => ∃ p, TR K dr a LF p (some q) t) := by
  refine Ok.m3 (fun d x6 x7 t => x6 = -1 ∧ x7 = 0 ∧ ∃ p, TR K dr a LF p (some q) t) ?_ FU 0 _ _ _ (by decide) ⟨rfl, rfl, p, h⟩
  rintro j d x6 x7 t ⟨rfl, rfl, hc⟩ hj
  exact Ok.bF (by decide) (Ok.j1 (Ok.bF (fun e => hm.1 e.symm) (Ok.bF (fun e => hm.2 e.symm) (Ok.p hc))))
theorem c_lp2F {r : St → Option (Unit × St)} {c1 : Int32} (hm : c1 ≠ -1) {q : Nat} (h : TR K dr a LF p (some q) σ) : Ok (lo2 (fun l5 (x3 : Int32) (t4 : St) =>
    if 240 ≤ x3 then
    some ((), t4)
  else
    (gR 4 0 t4 (K.1 7)).bind fun a6 =>
    bo 8 t4 a6 (fX8_peek t4 a6) (fun x7 t8 =>
    if x7 = c1 then
      (gR 4 0 t8 (K.1 7)).bind fun a9 =>
      bo 8 t8 a9 (fX8_step t8 a9) (fun w10 t11 =>
      bo 4 t11 (K.1 7) (r t11) (fun w12 t13 =>
      bo 4 t13 (K.1 7) (fX4_put t13 (K.1 7) c1 0) (fun w14 t15 =>
      l5 (x3 + 1) t15)))
    else
      some ((), t8))) FU 0 σ) (fun _ t => ∃ p, TR K dr a LF p (some q) t) := by
  refine Ok.m2 (fun d x7 t => x7 = 0 ∧ TR K dr a LF p (some q) t) ?_ FU 0 _ _ (by decide) ⟨rfl, h⟩
  rintro j d x7 t ⟨rfl, hc⟩ hj
  exact Ok.bF (by decide) (Ok.r (l_tape hc) (Ok.vE hc.O (t_peekF hc) (Ok.bF (fun e => hm e.symm) (Ok.p ⟨p, hc⟩))))
end
