/-! The tape's reader: the reference -/
def IndM (X : (Nat → Int32) → (Nat → Nat → Int32) → Prop) : Prop := ∀ J Q v, X J Q → X (upd J 3 v) Q ∧ X (upd J 4 v) Q
def UR (M : Mfg) (dr : Int64) (a : Abs) (X : (Nat → Int32) → (Nat → Nat → Int32) → Prop) (p : Nat) (f : Option Nat) (σ : St) : Prop := ∃ J Q, MV M J Q dr σ ∧ MR J Q a ∧ X J Q ∧ J 3 = nI p ∧ J 4 = oI f ∧ p < 100000 ∧ (∀ q, f = some q → q < 1000) ∧ (f = none → p ≤ a.1.1)
section
variable {M : Mfg} {dr : Int64} {a : Abs} {σ : St} {X : (Nat → Int32) → (Nat → Nat → Int32) → Prop} {p : Nat} {f : Option Nat}
theorem UR.ma (h : UR M dr a X p f σ) : MA M dr a σ := by
  obtain ⟨J, Q, h1, h2, _⟩ := h
  exact ⟨J, Q, h1, h2⟩
theorem UR.O (h : UR M dr a X p f σ) : isO 10 σ (M.1 0) = true := by
  obtain ⟨J, Q, h1, _⟩ := h
  exact nO h1
theorem UR.l240 (h : UR M dr a X p f σ) : a.1.1 ≤ 240 ∧ p < 100000 := by
  obtain ⟨J, Q, h1, h2, _, _, _, h3, _⟩ := h
  exact ⟨h2.1.2.1, h3⟩
theorem UR.le (h : UR M dr a X p none σ) : p ≤ a.1.1 := by
  obtain ⟨J, Q, h1, h2, _, _, _, _, _, h3⟩ := h
  exact h3 rfl
theorem UR.f1 (h : UR M dr a X p f σ) : ∀ q, f = some q → q < 1000 := by
  obtain ⟨J, Q, h1, h2, _, _, _, _, h3, _⟩ := h
  exact h3
theorem UR.rd (h : UR M dr a X p f σ) : gR 10 1 σ (M.1 0) = some (M.1 1) ∧ gI 10 2 σ (M.1 0) = some (nI a.1.1) ∧ gI 10 3 σ (M.1 0) = some (nI p) ∧ gI 10 4 σ (M.1 0) = some (oI f) := by
  obtain ⟨J, Q, h1, h2, _, h3, h4, _⟩ := h
  exact ⟨nr_1 h1, (nr_2 h1).trans (congrArg some h2.1.1), (nr_3 h1).trans (congrArg some h3), (nr_4 h1).trans (congrArg some h4)⟩
theorem UR.by (h : UR M dr a X p f σ) {i : Nat} (hi : i < a.1.1) : aI 0 σ (M.1 1) (nI i) = some (a.1.2 i) := by
  obtain ⟨J, Q, h1, h2, _⟩ := h
  exact (na_1 h1 (by have := h2.1.2.1; omega)).trans (congrArg some (h2.1.2.2 i hi))
theorem UR.putP (h : UR M dr a X p f σ) (hX : IndM X) {q : Nat} (hq : q < 100000) (hq2 : f = none → q ≤ a.1.1) : ∃ t, pV 10 3 σ (M.1 0) (.int (nI q)) = some t ∧ UR M dr a X q f t := by
  obtain ⟨J, Q, h1, h2, h3, h4, h5, h6, h7, h8⟩ := h
  obtain ⟨t, e, g⟩ := h1.putI 3 (nI q) (by decide) (fun _ => rfl) (Nat.le_of_ble_eq_true rfl) (fun _ => rfl)
  refine ⟨t, e, upd J 3 (nI q), Q, g, h2.scr (fun k hk => pk_un (fun z => hk (by unfold mcI; omega))) (fun _ _ => rfl), (hX J Q _ h3).1, pk_us, ?_, hq, h7, hq2⟩
  rw [pk_un (by decide)]; exact h5
theorem UR.putF (h : UR M dr a X p f σ) (hX : IndM X) {g : Option Nat} (hg : ∀ q, g = some q → q < 1000) (hg2 : g = none → p ≤ a.1.1) : ∃ t, pV 10 4 σ (M.1 0) (.int (oI g)) = some t ∧ UR M dr a X p g t := by
  obtain ⟨J, Q, h1, h2, h3, h4, h5, h6, h7, h8⟩ := h
  obtain ⟨t, e, w⟩ := h1.putI 4 (oI g) (by decide) (fun _ => rfl) (Nat.le_of_ble_eq_true rfl) (fun _ => rfl)
  refine ⟨t, e, upd J 4 (oI g), Q, w, h2.scr (fun k hk => pk_un (fun z => hk (by unfold mcI; omega))) (fun _ _ => rfl), (hX J Q _ h3).2, ?_, pk_us, h6, hg, hg2⟩
  rw [pk_un (by decide)]; exact h4
theorem u_here (h : UR M dr a X p f σ) : fX10_here σ (M.1 0) = some (atT a.1 p, σ) := by
  obtain ⟨r1, r2, r3, r4⟩ := h.rd
  obtain ⟨l1, l2⟩ := h.l240
  refine Ok.toE ?_
  unfold fX10_here
  refine Ok.r r3 (Ok.r r2 (Ok.bI (nI_leI (by omega) (by omega)) (fun z => ?_) (fun z => ?_)))
  · exact Ok.p ⟨by unfold atT; rw [if_neg (by omega)], rfl⟩
  · exact Ok.r r1 (Ok.r r3 (Ok.r (h.by (by omega)) (Ok.p ⟨by unfold atT; rw [if_pos (by omega)], rfl⟩)))
theorem at_32 (T : Tap) {p : Nat} : atT T p = 32 ↔ (p < T.1 ∧ T.2 p = 32) := by
  unfold atT
  by_cases h : p < T.1
  · rw [if_pos h]; exact ⟨fun e => ⟨h, e⟩, fun e => e.2⟩
  · rw [if_neg h]; exact ⟨fun e => absurd e (by decide), fun e => absurd e.1 h⟩
theorem u_look (h : UR M dr a X p f σ) (hX : IndM X) : Ok (fX10_look σ (M.1 0)) (fun r t => r = atT a.1 (skT a.1 p) ∧ UR M dr a X (skT a.1 p) f t) := by
  obtain ⟨l1, l2⟩ := h.l240
  unfold fX10_look
  have hm : ∀ m d (t1 : St), d < m → (∃ q, q + d = p + 240 ∧ (q ≤ p ∨ q ≤ a.1.1) ∧ UR M dr a X q f t1 ∧ skT a.1 p = skT a.1 q) → Ok (lo1 (fun l2 (t1 : St) =>
    bo 10 t1 (M.1 0) (fX10_here t1 (M.1 0)) (fun x3 t4 =>
  if x3 = 32 then
    (gI 10 3 t4 (M.1 0)).bind fun x7 =>
    (pV 10 3 t4 (M.1 0) (.int (x7 + 1))).bind (fun t8 =>
    l2 t8)
  else
    bo 10 t4 (M.1 0) (fX10_here t4 (M.1 0)) (fun x5 t6 =>
    some (x5, t6)))) m t1) (fun r t => r = atT a.1 (skT a.1 p) ∧ UR M dr a X (skT a.1 p) f t) := by
    refine Ok.m1 _ ?_
    rintro j d t ⟨q, hq, hb, g, e⟩ hj
    obtain ⟨g1, g2, g3, g4⟩ := g.rd
    refine Ok.vE g.O (u_here g) (Ok.bI (at_32 a.1) (fun z => ?_) (fun z => ?_))
    · refine Ok.r g3 ?_
      rw [nI_1]
      refine Ok.w (g.putP hX (q := q + 1) (by omega) (fun _ => z.1)) ?_
      intro t2 g2
      refine hj (d - 1) _ (by omega) ⟨q + 1, by omega, Or.inr z.1, g2, by rw [e, sk_s a.1 z.1 z.2]⟩
    · refine Ok.vE g.O (u_here g) (Ok.p ?_)
      rw [e, sk_n a.1 z]
      exact ⟨rfl, g⟩
  exact hm FU 240 σ (by decide) ⟨p, rfl, Or.inl (Nat.le_refl _), h, rfl⟩
theorem u_bad (h : UR M dr a X p none σ) (hX : IndM X) : Ok (fX10_bad σ (M.1 0)) (fun _ t => UR M dr a X p (some p) t) := by
  obtain ⟨r1, r2, r3, r4⟩ := h.rd
  obtain ⟨l1, l2⟩ := h.l240
  have := h.le
  unfold fX10_bad
  refine Ok.r r4 (Ok.bT rfl (Ok.r r3 (Ok.w (h.putF hX (g := some p) (fun q e => by cases e; omega) (fun e => by cases e)) ?_)))
  intro t g
  exact Ok.p g
theorem u_badF {q : Nat} (h : UR M dr a X p (some q) σ) (hX : IndM X) : Ok (fX10_bad σ (M.1 0)) (fun _ t => UR M dr a X p (some q) t) := by
  obtain ⟨r1, r2, r3, r4⟩ := h.rd
  unfold fX10_bad
  refine Ok.r r4 (Ok.bF (fun e => by cases (oI_m1 h.f1).mp e) (Ok.r r4 (Ok.w (h.putF hX (g := some q) h.f1 (fun e => by cases e)) ?_)))
  intro t g
  exact Ok.p g
theorem f_in3 (σ : St) (v lo hi : Int32) : fX10_in σ v lo hi = some (bI (decide (¬ (v < lo ∨ hi < v))), σ) := by
  unfold fX10_in
  by_cases h : v < lo
  · rw [if_pos h, decide_eq_false (fun q => q (Or.inl h))]; rfl
  · rw [if_neg h]
    by_cases h2 : v ≤ hi
    · have hn : ¬ (v < lo ∨ hi < v) := fun q => q.elim h (fun w => Int32.not_le.mpr w h2)
      rw [decide_eq_true hn]
      first
        | rw [if_pos h2]; rfl
        | rw [if_neg (Int32.not_lt.mpr h2)]; rfl
    · rw [decide_eq_false (fun q => q (Or.inr (Int32.not_le.mp h2)))]
      first
        | rw [if_neg h2]; rfl
        | rw [if_pos (Int32.not_le.mp h2)]; rfl
theorem u_number (h : UR M dr a X p none σ) (hX : IndM X) (lo hi : Int32) : Ok (fX10_number σ (M.1 0) lo hi) (fun r t => ∃ p', UR M dr a X p' (bndT a.1 lo hi p).2.2 t ∧ ((bndT a.1 lo hi p).2.2 = none → r = (bndT a.1 lo hi p).1 ∧ p' = (bndT a.1 lo hi p).2.1)) := by
  have e0 : ∀ x : Int32, 0 * 10 + x - 48 = x - 48 := fun x => by rw [Int32.zero_mul, Int32.zero_add]
  unfold fX10_number
  refine Ok.v h.O (u_look h hX) ?_
  rintro r1 t1 ⟨rfl, g1⟩
  refine Ok.cE (f10_dg t1 _) (Ok.bI bI_0 (fun z => ?_) (fun z => ?_))
  · refine Ok.v g1.O (u_bad g1 hX) ?_
    intro w t2 g2
    have e : numT a.1 2 p = (0, skT a.1 p, some (skT a.1 p)) := by unfold numT; rw [z]; rfl
    have e2 : bndT a.1 lo hi p = (0, skT a.1 p, some (skT a.1 p)) := by unfold bndT; rw [e]
    exact Ok.p ⟨_, by rw [e2]; exact g2, fun q => by rw [e2] at q; cases q⟩
  have yd : dgB (atT a.1 (skT a.1 p)) = true := by simpa using z
  have hp1 := dg_lt a.1 yd
  have ea : atT a.1 (skT a.1 p) = a.1.2 (skT a.1 p) := by unfold atT; rw [if_pos hp1]
  obtain ⟨l1, l2⟩ := g1.l240
  have en : numT a.1 2 p = ((nuF a.1 2 0 (skT a.1 p)).1, (nuF a.1 2 0 (skT a.1 p)).2, if dgB (atT a.1 (nuF a.1 2 0 (skT a.1 p)).2) = true then some (nuF a.1 2 0 (skT a.1 p)).2 else none) := by unfold numT; rw [if_pos yd]
  have e1 : nuF a.1 2 0 (skT a.1 p) = nuF a.1 1 (a.1.2 (skT a.1 p) - 48) (skT a.1 p + 1) := by rw [nuF_y _ _ _ _ yd, e0]
  refine Ok.vE g1.O (u_here g1) ?_
  rw [ea]
  obtain ⟨q1, q2, q3, q4⟩ := g1.rd
  refine Ok.n (Ok.r q3 ?_)
  rw [nI_1]
  refine Ok.w (g1.putP hX (q := skT a.1 p + 1) (by omega) (fun _ => hp1)) ?_
  intro t2 g2
  refine Ok.vE g2.O (u_here g2) (Ok.cE (f10_dg t2 _) (Ok.j2 ?_))
  have fin : ∀ (v : Int32) (q : Nat) (t15 : St), UR M dr a X q none t15 → nuF a.1 2 0 (skT a.1 p) = (v, q) → 1 ≤ q → Ok (bo 10 t15 (M.1 0) (fX10_here t15 (M.1 0)) (fun x17 t18 =>
      bd (fX10_isDigit t18 x17) (fun x19 t20 =>
      if x19 = 0 then
        bd (fX10_in t20 v lo hi) (fun x21 t22 =>
        if x21 = 0 then
          (gI 10 3 t22 (M.1 0)).bind fun x23 =>
          (pV 10 3 t22 (M.1 0) (.int (x23 - 1))).bind (fun t24 =>
          bo 10 t24 (M.1 0) (fX10_bad t24 (M.1 0)) (fun w25 t26 =>
          some (v, t26)))
        else
          some (v, t22))
      else
        bo 10 t20 (M.1 0) (fX10_bad t20 (M.1 0)) (fun w27 t28 =>
        some (v, t28))))) (fun r t => ∃ p', UR M dr a X p' (bndT a.1 lo hi p).2.2 t ∧ ((bndT a.1 lo hi p).2.2 = none → r = (bndT a.1 lo hi p).1 ∧ p' = (bndT a.1 lo hi p).2.1)) := by
    intro v q t g hv hq
    obtain ⟨b1, b2⟩ := g.l240
    have b3 := g.le
    rw [hv] at en
    refine Ok.vE g.O (u_here g) (Ok.cE (f10_dg t _) (Ok.bI bI_0 (fun z => ?_) (fun z => ?_)))
    · have en' : numT a.1 2 p = (v, q, none) := by rw [en]; simp only []; rw [z]; rfl
      refine Ok.cE (f_in3 t v lo hi) (Ok.bI bI_0 (fun z2 => ?_) (fun z2 => ?_))
      · have z3 : v < lo ∨ hi < v := by
          apply Classical.byContradiction
          intro w; exact absurd (decide_eq_true w) (by rw [z2]; decide)
        have eb : bndT a.1 lo hi p = (v, q, some (q - 1)) := by unfold bndT; rw [en']; simp only []; rw [if_pos z3]
        rw [eb]
        refine Ok.r g.rd.2.2.1 ?_
        rw [show nI q - 1 = nI (q - 1) from pk_sub (b := 1) hq]
        refine Ok.w (g.putP hX (q := q - 1) (by omega) (fun _ => by omega)) ?_
        intro t4 g4
        refine Ok.v g4.O (u_bad g4 hX) ?_
        intro w t5 g5
        exact Ok.p ⟨_, g5, fun e => by cases e⟩
      · have z3 : ¬ (v < lo ∨ hi < v) := fun w => z2 (decide_eq_false (fun x => x w))
        have eb : bndT a.1 lo hi p = (v, q, none) := by unfold bndT; rw [en']; simp only []; rw [if_neg z3]
        rw [eb]
        exact Ok.p ⟨_, g, fun _ => ⟨rfl, rfl⟩⟩
    · have en' : numT a.1 2 p = (v, q, some q) := by rw [en]; simp only []; rw [if_pos (by simpa using z)]
      have eb : bndT a.1 lo hi p = (v, q, some q) := by unfold bndT; rw [en']
      rw [eb]
      refine Ok.v g.O (u_bad g hX) ?_
      intro w t5 g5
      exact Ok.p ⟨_, g5, fun e => by cases e⟩
  refine Ok.bI bI_0 (fun z2 => ?_) (fun z2 => ?_)
  · exact fin _ _ t2 g2 (by rw [e1, nuF_n _ _ _ _ (by rw [z2]; decide)]) (by omega)
  · have yd2 : dgB (atT a.1 (skT a.1 p + 1)) = true := by simpa using z2
    have hp2 := dg_lt a.1 yd2
    have ea2 : atT a.1 (skT a.1 p + 1) = a.1.2 (skT a.1 p + 1) := by unfold atT; rw [if_pos hp2]
    refine Ok.vE g2.O (u_here g2) ?_
    rw [ea2]
    refine Ok.n (Ok.r g2.rd.2.2.1 ?_)
    rw [nI_1]
    refine Ok.w (g2.putP hX (q := skT a.1 p + 1 + 1) (by omega) (fun _ => hp2)) ?_
    intro t3 g3
    exact fin _ _ t3 g3 (by rw [e1, nuF_y _ _ _ _ yd2, nuF, Int32.mul_comm 10]) (by omega)
theorem u_plain (h : UR M dr a X p none σ) (hX : IndM X) : Ok (fX10_plainNumber σ (M.1 0)) (fun r t => r = (nuF a.1 4 0 p).1 ∧ UR M dr a X (nuF a.1 4 0 p).2 (if dgB (atT a.1 (nuF a.1 4 0 p).2) = true then some (nuF a.1 4 0 p).2 else none) t) := by
  unfold fX10_plainNumber
  generalize hr : nuF a.1 4 0 p = rr
  refine Ok.f3 4 0 (fun k x y t => y = nI k ∧ ∃ q, UR M dr a X q none t ∧ nuF a.1 (4 - k) x q = rr) (by omega) (by omega) ⟨rfl, p, h, hr⟩ ?_ ?_
  · rintro j k x y t hk ⟨rfl, q, g, e2⟩ hj
    obtain ⟨d, hd⟩ : ∃ d, 4 - k = d + 1 := ⟨4 - k - 1, by omega⟩
    have hd' : 4 - (k + 1) = d := by omega
    obtain ⟨b1, b2⟩ := g.l240
    refine Ok.j1 (Ok.bF (show ¬ nI 4 ≤ nI k from nI_ge hk (by decide)) (Ok.vE g.O (u_here g) (Ok.cE (f10_dg t _) (Ok.bI bI_0 (fun z => ?_) (fun z => ?_)))))
    · have nd : ¬ dgB (atT a.1 q) = true := by rw [z]; decide
      rw [nuF_n _ _ _ _ nd] at e2
      rw [← e2]
      refine Ok.vE g.O (u_here g) (Ok.cE (f10_dg t _) (Ok.bT (by rw [z]; rfl) (Ok.p ⟨rfl, ?_⟩)))
      rw [if_neg nd]; exact g
    · have yd : dgB (atT a.1 q) = true := by simpa using z
      have hq := dg_lt a.1 yd
      have ea : atT a.1 q = a.1.2 q := by unfold atT; rw [if_pos hq]
      rw [hd, nuF_y _ _ _ _ yd] at e2
      refine Ok.vE g.O (u_here g) ?_
      rw [ea]
      refine Ok.n (Ok.r g.rd.2.2.1 ?_)
      rw [nI_1]
      refine Ok.w (g.putP hX (q := q + 1) (by omega) (fun _ => hq)) ?_
      intro t2 g2
      rw [nI_1]
      exact hj _ _ _ ⟨rfl, q + 1, g2, by rw [hd', Int32.mul_comm 10]; exact e2⟩
  · rintro j x y t ⟨rfl, q, g, e2⟩
    have e3 : rr = (x, q) := e2.symm
    rw [e3]
    refine Ok.j1 (Ok.bT (by decide) (Ok.vE g.O (u_here g) (Ok.cE (f10_dg t _) (Ok.bI bI_0 (fun z => ?_) (fun z => ?_)))))
    · have nd : ¬ dgB (atT a.1 q) = true := by rw [z]; decide
      exact Ok.p ⟨rfl, by rw [if_neg nd]; exact g⟩
    · refine Ok.v g.O (u_bad g hX) ?_
      intro w t2 g2
      exact Ok.p ⟨rfl, by rw [if_pos (by simpa using z)]; exact g2⟩
end
