/-! The LAW's reader: the reference, sums -/
theorem f10_let (σ : St) (c : Int32) : fX10_letterOf σ c = some (ltC c, σ) := by
  unfold fX10_letterOf ltC
  by_cases h1 : c = 108
  · rw [if_pos h1, if_pos h1]
  rw [if_neg h1, if_neg h1]
  by_cases h2 : c = 102
  · rw [if_pos h2, if_pos h2]
  rw [if_neg h2, if_neg h2]
  by_cases h3 : c = 104
  · rw [if_pos h3, if_pos h3]
  rw [if_neg h3, if_neg h3]
  by_cases h4 : c = 103
  · rw [if_pos h4, if_pos h4]
  rw [if_neg h4, if_neg h4]
  by_cases h5 : c = 109
  · rw [if_pos h5, if_pos h5]
  rw [if_neg h5, if_neg h5]
  by_cases h6 : c = 110
  · rw [if_pos h6, if_pos h6]
  rw [if_neg h6, if_neg h6]
theorem f10_sign (σ : St) (c : Int32) : fX10_isSign σ c = some (bI (oqC c), σ) := l_comp σ c
section
variable {M : Mfg} {dr : Int64} {a : Abs} {σ : St} {X : (Nat → Int32) → (Nat → Nat → Int32) → Prop} {p n0 dp B : Nat} {f : Option Nat} {L : List Tk} {Z : (Nat → Nat → Int32) → Prop} {r : PR}
theorem UG.g5 (h : UG M dr a X σ) : (∃ v, gI 10 5 σ (M.1 0) = some v) ∧ ∃ v, gI 10 3 σ (M.1 0) = some v := by
  obtain ⟨J, Q, h1, _⟩ := h
  exact ⟨⟨_, nr_5 h1⟩, ⟨_, nr_3 h1⟩⟩
theorem NF_pf {q k : Nat} {v : Int32} (hk : k = 3 ∨ k = 5) : ∀ J Q, NF n0 B q J Q → NF n0 B q (upd J k v) Q := by
  rintro J Q ⟨h1, h2, h3⟩
  exact ⟨by rw [pk_un (by omega)]; exact h1, by rw [pk_un (by omega)]; exact h2, h3⟩
theorem UR.rdp (h : UR M dr a (NX n0 dp L Z) p f σ) : gI 10 5 σ (M.1 0) = some (nI dp) := by
  obtain ⟨J, Q, h1, _, h3, _⟩ := h
  exact (nr_5 h1).trans (congrArg some h3.2.1)
theorem UR.putD (h : UR M dr a (NX n0 dp L Z) p f σ) (d : Nat) : ∃ t, pV 10 5 σ (M.1 0) (.int (nI d)) = some t ∧ UR M dr a (NX n0 d L Z) p f t := by
  refine UG.pf (Y := UX a (NX n0 d L Z) p f) h 5 (nI d) (by omega) ?_
  rintro J Q ⟨⟨g1, g2, g3⟩, g4, g5, g6⟩
  exact ⟨⟨by rw [pk_un (by decide)]; exact g1, pk_us, g3⟩, by rw [pk_un (by decide)]; exact g4, by rw [pk_un (by decide)]; exact g5, g6⟩
theorem r_opens (h : UR M dr a (NX n0 dp L Z) p none σ) (hdp : dp ≤ 6) (hp : p < a.1.1) (hl : L.length ≤ B) : Ok (fX10_opens σ (M.1 0)) (fun _ t => if dp = 6 then UG M dr a (NF n0 B p) t else UR M dr a (NX n0 (dp + 1) L Z) (p + 1) none t) := by
  have h240 := h.l240
  unfold fX10_opens
  refine Ok.r h.rdp (Ok.j1 (Ok.bI (show nI dp = 6 ↔ dp = 6 from ⟨fun e => by
    have e2 := congrArg Int32.toInt e
    rw [nI_toInt (by omega), show (6 : Int32).toInt = 6 by decide] at e2
    omega, fun e => by rw [e]; rfl⟩) (fun z => ?_) (fun z => ?_)))
  · refine Ok.v h.O (u_bad h (NX_ind _ _ _ _)) ?_
    intro w1 t1 g1
    have g2 := UR.F g1 hl
    obtain ⟨v5, e5⟩ := g2.g5.1
    refine Ok.r e5 (Ok.w (g2.pf 5 (v5 + 1) (by omega) (NF_pf (Or.inr rfl))) ?_)
    intro t3 g3
    obtain ⟨v3, e3⟩ := g3.g5.2
    refine Ok.r e3 (Ok.w (g3.pf 3 (v3 + 1) (by omega) (NF_pf (Or.inl rfl))) ?_)
    intro t4 g4
    exact Ok.p (by rw [if_pos z]; exact g4)
  · refine Ok.r h.rdp ?_
    rw [nI_1]
    refine Ok.w (h.putD (dp + 1)) ?_
    intro t1 g1
    refine Ok.r g1.rd.2.2.1 ?_
    rw [nI_1]
    refine Ok.w (g1.putP (NX_ind _ _ _ _) (q := p + 1) (by omega) (fun _ => hp)) ?_
    intro t2 g2
    exact Ok.p (by rw [if_neg z]; exact g2)
theorem m_closes {c : Int32} (hc : c ≠ -1) (h : PM M dr a n0 (dp + 1) B L Z r σ) (hl : ∀ y, r = .inr y → (L ++ y.2).length ≤ B) : Ok (fX10_closes σ (M.1 0) c) (fun _ t => PM M dr a n0 dp B L Z (exP a.1 r c) t) := by
  unfold fX10_closes
  have cl : ∀ {q : Nat} {τ : St}, UG M dr a (NF n0 B q) τ → Ok ((gI 10 3 τ (M.1 0)).bind fun x4 =>
    (pV 10 3 τ (M.1 0) (.int (x4 + 1))).bind (fun t5 =>
    (gI 10 5 t5 (M.1 0)).bind fun x6 =>
    (pV 10 5 t5 (M.1 0) (.int (x6 - 1))).bind (fun t7 =>
    some ((), t7)))) (fun _ t => UG M dr a (NF n0 B q) t) := by
    intro q τ g
    obtain ⟨v3, e3⟩ := g.g5.2
    refine Ok.r e3 (Ok.w (g.pf 3 (v3 + 1) (by omega) (NF_pf (Or.inl rfl))) ?_)
    intro t3 g3
    obtain ⟨v5, e5⟩ := g3.g5.1
    refine Ok.r e5 (Ok.w (g3.pf 5 (v5 - 1) (by omega) (NF_pf (Or.inr rfl))) ?_)
    intro t4 g4
    exact Ok.p g4
  rcases h.cs with ⟨q, rfl, g⟩ | ⟨y, rfl, g⟩
  · exact Ok.r g.w4.1 (Ok.j1 (Ok.bF g.w4.2 (cl g)))
  · refine Ok.r g.rd.2.2.2 (Ok.j1 (Ok.bT rfl (Ok.v g.O (u_look g (NX_ind _ _ _ _)) ?_)))
    rintro x1 t1 ⟨rfl, g1⟩
    have h240 := g1.l240
    refine Ok.b (fun z => ?_) (fun z => ?_)
    · have hin : skT a.1 y.1 < a.1.1 := at_in (by rw [z]; exact hc)
      refine Ok.r g1.rd.2.2.1 ?_
      rw [nI_1]
      refine Ok.w (g1.putP (NX_ind _ _ _ _) (q := skT a.1 y.1 + 1) (by omega) (fun _ => hin)) ?_
      intro t2 g2
      refine Ok.r g2.rdp ?_
      rw [nI_pred]
      refine Ok.w (g2.putD dp) ?_
      intro t3 g3
      refine Ok.p ?_
      unfold exP
      simp only []
      rw [if_pos z]
      exact g3
    · refine Ok.v g1.O (u_bad g1 (NX_ind _ _ _ _)) ?_
      intro w2 t2 g2
      refine (cl (UR.F g2 (hl y rfl))).imp (fun _ t g3 => ?_)
      unfold exP
      simp only []
      rw [if_neg z]
      exact g3
theorem m_atom {s : Option (Nat → PR)} {k : Nat} (hk : k ≤ 6) {ra rt rs : St → Nat → Option (Unit × St)} (hn : a.2.1.1 ≤ n0) (hn4 : n0 ≤ 4) (hs0 : s = none → k = 0) (hs : ∀ f, s = some f → 1 ≤ k ∧ MPr M dr a n0 (6 - (k - 1)) (243 + 2 * (k - 1)) (fun t => rs t (M.1 0)) f ∧ Pg a.1 f) : MPr M dr a n0 (6 - k) (241 + 2 * k) (fun t => eX10_atom ra rt rs t (M.1 0)) (aoP a.1 s) := by
  intro L Z p σ hZ h hl
  have h240 := h.l240
  have hp := h.le
  show Ok (eX10_atom ra rt rs σ (M.1 0)) _
  unfold eX10_atom
  refine Ok.v h.O (u_look h (NX_ind _ _ _ _)) ?_
  rintro x t ⟨rfl, g⟩
  have h1 := sk_ge a.1 p
  have h2 := sk_le a.1 hp
  refine Ok.cE (f10_dg t _) (Ok.bI bI_0 (fun z => ?_) (fun z => ?_))
  · have z' : ¬ dgB (atT a.1 (skT a.1 p)) = true := by rw [z]; decide
    refine Ok.cE (f10_let t _) (Ok.b (fun z1 => Ok.b (fun z2 => ?_) (fun z2 => ?_)) (fun z1 => ?_))
    · have hin : skT a.1 p < a.1.1 := at_in (by rw [z2]; decide)
      refine Ok.v g.O (r_opens (B := 241 + 2 * k) g (by omega) hin (by omega)) ?_
      intro w1 t1 g1
      cases s with
      | none =>
        rw [if_pos (by have := hs0 rfl; omega)] at g1
        refine Ok.r g1.w4.1 (Ok.bF g1.w4.2 (Ok.p ?_))
        unfold aoP
        rw [if_neg z', if_pos z2]
        exact g1
      | some f =>
        obtain ⟨hk1, hf, hP⟩ := hs f rfl
        rw [if_neg (by omega)] at g1
        rw [show 6 - k + 1 = 6 - (k - 1) by omega] at g1
        refine Ok.r g1.rd.2.2.2 (Ok.bT rfl (Ok.v g1.O (hf L Z _ t1 hZ g1 (by omega)) ?_))
        intro w2 t2 g2
        have hlen := Pg.len hP (show skT a.1 p + 1 ≤ a.1.1 by omega) (L := L) (by omega)
        rw [show 6 - (k - 1) = 6 - k + 1 by omega, show 243 + 2 * (k - 1) = 241 + 2 * k by omega] at g2
        refine Ok.v g2.O (m_closes (by decide) g2 (fun y e => by have := hlen y e; omega)) ?_
        intro w3 t3 g3
        refine Ok.p ?_
        unfold aoP
        rw [if_neg z', if_pos z2]
        exact g3
    · refine Ok.v g.O (u_bad g (NX_ind _ _ _ _)) ?_
      intro w1 t1 g1
      refine Ok.p ?_
      unfold aoP
      rw [if_neg z', if_neg z2, if_pos z1]
      exact UR.F g1 (by omega)
    · have hin : skT a.1 p < a.1.1 := at_in (fun e => z1 (by rw [e]; decide))
      have z2 : ¬ atT a.1 (skT a.1 p) = 91 := fun e => z1 (by rw [e]; decide)
      refine Ok.r g.rd.2.2.1 ?_
      rw [nI_1]
      refine Ok.w (g.putP (NX_ind _ _ _ _) (q := skT a.1 p + 1) (by omega) (fun _ => hin)) ?_
      intro t1 g1
      refine Ok.cE (f10_let t1 _) (Ok.v g1.O (r_put g1 hZ (by omega) hn hn4 (64, ltC (atT a.1 (skT a.1 p)))) ?_)
      intro w2 t2 g2
      refine Ok.p ?_
      unfold aoP
      rw [if_neg z', if_neg z2, if_neg z1]
      exact g2
  · have yd : dgB (atT a.1 (skT a.1 p)) = true := by simpa using z
    have hin := dg_lt a.1 yd
    have ea : aoP a.1 s p = nuP a.1 (skT a.1 p) := by unfold aoP; rw [if_pos yd]
    refine Ok.v g.O (u_plain g (NX_ind _ _ _ _)) ?_
    rintro r1 t1 ⟨rfl, g1⟩
    rw [ea]
    by_cases z3 : dgB (atT a.1 (nuF a.1 4 0 (skT a.1 p)).2) = true
    · have e9 : nuP a.1 (skT a.1 p) = .inl (nuF a.1 4 0 (skT a.1 p)).2 := by unfold nuP; rw [if_pos z3]
      rw [if_pos z3] at g1
      rw [e9]
      refine Ok.v g1.O (r_putF (UR.F (B := 240) g1 (by omega)) (by omega) hn hn4 _ _) ?_
      intro w2 t2 g2
      exact Ok.p (UG.up g2 (by omega))
    · have e9 : nuP a.1 (skT a.1 p) = .inr ((nuF a.1 4 0 (skT a.1 p)).2, [(35, (nuF a.1 4 0 (skT a.1 p)).1)]) := by unfold nuP; rw [if_neg z3]
      rw [if_neg z3] at g1
      rw [e9]
      refine Ok.v g1.O (r_put g1 hZ (by omega) hn hn4 (35, (nuF a.1 4 0 (skT a.1 p)).1)) ?_
      intro w2 t2 g2
      exact Ok.p g2
theorem m_lp3 {rr : St → Option (Unit × St)} {g : Nat → PR} {ok : Int32 → Bool} {c1 c2 k1 k2 : Int32} (hg : MPr M dr a n0 dp B rr g) (hP : Pg a.1 g) (hok : ∀ x, ok x = true ↔ (x = c1 ∨ x = c2)) (hm : c1 ≠ -1 ∧ c2 ≠ -1) (hk : rcT c1 = k1 ∧ rcT c2 = k2) (hB : B < 519) (hn : a.2.1.1 ≤ n0) (hn4 : n0 ≤ 4) (hZ : ZI Z) {p0 : Nat} (h : UR M dr a (NX n0 dp L Z) (skT a.1 p0) none σ) (hl : L.length ≤ p0) (hp0 : p0 ≤ a.1.1) : Ok (lo2 (fun l9 (x7 : Int32) (t8 : St) =>
      jo1 (fun (u9 : Unit) =>
      (gI 10 3 t8 (M.1 0)).bind fun x11 =>
      (pV 10 3 t8 (M.1 0) (.int (x11 + 1))).bind (fun t12 =>
      bo 10 t12 (M.1 0) (rr t12) (fun w13 t14 =>
      jo2 (fun (v15 : Int32) (v16 : Nat) =>
        bo 10 t14 v16 (fX10_put t14 v16 v15 0) (fun w18 t19 =>
        (gI 10 4 t19 (M.1 0)).bind fun x20 =>
        jo2 (fun (v21 : Int32) (t22 : St) =>
          l9 v21 t22) (fun j23 =>
          if x20 = (-1) then
            bo 10 t19 (M.1 0) (fX10_look t19 (M.1 0)) (fun x24 t25 =>
            j23 x24 t25)
          else
            j23 ((-1)) t19))) (fun j17 =>
        if x7 = c1 then
          j17 k1 (M.1 0)
        else
          j17 k2 (M.1 0))))) (fun j10 =>
      if x7 = c1 then
        j10 () 
      else
        if x7 = c2 then
          j10 () 
        else
          some ((), t8))) FU (atT a.1 (skT a.1 p0)) σ) (fun _ t => PM M dr a n0 dp (B + 1) L Z (lpP a.1 ok g 241 p0) t) := by
  have h240 := h.l240.1
  refine Ok.m2 (fun d x7 t => (∃ L' p', 241 ≤ p' + d ∧ x7 = atT a.1 (skT a.1 p') ∧ UR M dr a (NX n0 dp L' Z) (skT a.1 p') none t ∧ L'.length ≤ p' ∧ p' ≤ a.1.1 ∧ ∀ u, PM M dr a n0 dp (B + 1) L' Z (lpP a.1 ok g d p') u → PM M dr a n0 dp (B + 1) L Z (lpP a.1 ok g 241 p0) u) ∨ (x7 = -1 ∧ PM M dr a n0 dp (B + 1) L Z (lpP a.1 ok g 241 p0) t)) ?_ FU 241 _ _ (by decide) (Or.inl ⟨L, p0, by omega, rfl, h, hl, hp0, fun u q => q⟩)
  rintro j d x7 t hc hj
  rcases hc with ⟨L', p', hd, rfl, gs, hl', hp', hc⟩ | ⟨rfl, hc⟩
  · have hsk := sk_ge a.1 p'
    have hs240 := gs.l240.2
    have go : ok (atT a.1 (skT a.1 p')) = true → Ok ((gI 10 3 t (M.1 0)).bind fun x11 =>
      (pV 10 3 t (M.1 0) (.int (x11 + 1))).bind (fun t12 =>
      bo 10 t12 (M.1 0) (rr t12) (fun w13 t14 =>
      jo2 (fun (v15 : Int32) (v16 : Nat) =>
        bo 10 t14 v16 (fX10_put t14 v16 v15 0) (fun w18 t19 =>
        (gI 10 4 t19 (M.1 0)).bind fun x20 =>
        jo2 (fun (v21 : Int32) (t22 : St) =>
          j v21 t22) (fun j23 =>
          if x20 = (-1) then
            bo 10 t19 (M.1 0) (fX10_look t19 (M.1 0)) (fun x24 t25 =>
            j23 x24 t25)
          else
            j23 ((-1)) t19))) (fun j17 =>
        if atT a.1 (skT a.1 p') = c1 then
          j17 k1 (M.1 0)
        else
          j17 k2 (M.1 0))))) (fun _ t => PM M dr a n0 dp (B + 1) L Z (lpP a.1 ok g 241 p0) t) := by
      intro hy
      have hin : skT a.1 p' < a.1.1 := at_in (fun e => by rw [e] at hy; exact ((hok _).mp hy).elim (fun e => hm.1 e.symm) (fun e => hm.2 e.symm))
      obtain ⟨d, rfl⟩ : ∃ e, d = e + 1 := ⟨d - 1, by omega⟩
      rw [lpP_y hy] at hc
      refine Ok.r gs.rd.2.2.1 ?_
      rw [nI_1]
      refine Ok.w (gs.putP (NX_ind _ _ _ _) (q := skT a.1 p' + 1) (by omega) (fun _ => hin)) ?_
      intro t1 g1
      refine Ok.v g1.O (hg L' Z _ t1 hZ g1 (by omega)) ?_
      intro w2 t2 g2
      have hlen := fun y (e : g (skT a.1 p' + 1) = .inr y) => hP _ _ _ (show skT a.1 p' + 1 ≤ a.1.1 by omega) e
      have fin : Ok (bo 10 t2 (M.1 0) (fX10_put t2 (M.1 0) (rcT (atT a.1 (skT a.1 p'))) 0) (fun w18 t19 =>
        (gI 10 4 t19 (M.1 0)).bind fun x20 =>
        jo2 (fun (v21 : Int32) (t22 : St) =>
          j v21 t22) (fun j23 =>
          if x20 = (-1) then
            bo 10 t19 (M.1 0) (fX10_look t19 (M.1 0)) (fun x24 t25 =>
            j23 x24 t25)
          else
            j23 ((-1)) t19))) (fun _ t => PM M dr a n0 dp (B + 1) L Z (lpP a.1 ok g 241 p0) t) := by
        refine Ok.v g2.O (m_put g2 hZ (fun y e => by have := hlen y e; rw [List.length_append]; omega) (by omega) hn hn4 (atT a.1 (skT a.1 p'), 0)) ?_
        intro w3 t3 g3
        rcases g3.cs with ⟨q, e, g4⟩ | ⟨y, e, g4⟩
        · rw [e] at hc
          exact Ok.r g4.w4.1 (Ok.j2 (Ok.bF g4.w4.2 (hj d _ _ (by omega) (Or.inr ⟨rfl, hc t3 g4⟩))))
        · rw [e] at hc
          obtain ⟨z, e1, e2, e3⟩ := tkP_inr (p := y.1) (W := y.2) e
          have hz := hlen z e1
          refine Ok.r g4.rd.2.2.2 (Ok.j2 (Ok.bT rfl (Ok.v g4.O (u_look g4 (NX_ind _ _ _ _)) ?_)))
          rintro x5 t5 ⟨rfl, g5⟩
          refine hj d _ _ (by omega) (Or.inl ⟨_, y.1, by omega, rfl, g5, ?_, by omega, fun u gu => hc u (PM.to gu)⟩)
          rw [e3]
          simp only [List.length_append, List.length_cons, List.length_nil]; omega
      refine Ok.j2 (Ok.b (fun z1 => ?_) (fun z1 => ?_))
      · rw [z1, hk.1] at fin
        exact fin
      · have z2 : atT a.1 (skT a.1 p') = c2 := ((hok _).mp hy).resolve_left z1
        rw [z2, hk.2] at fin
        exact fin
    refine Ok.j1 (Ok.b (fun z1 => go ((hok _).mpr (Or.inl z1))) (fun z1 => Ok.b (fun z2 => go ((hok _).mpr (Or.inr z2))) (fun z2 => Ok.p (hc t ?_))))
    rw [lpP_n (fun q => ((hok _).mp q).elim z1 z2)]
    simp only [PM, List.append_nil]
    exact gs
  · exact Ok.j1 (Ok.bF (fun e => hm.1 e.symm) (Ok.bF (fun e => hm.2 e.symm) (Ok.p hc)))
theorem m_lpC {rr : St → Option (Unit × St)} {g : Nat → PR} {ok : Int32 → Bool} {c1 c2 k1 k2 : Int32} (hg : MPr M dr a n0 dp B rr g) (hP : Pg a.1 g) (hok : ∀ x, ok x = true ↔ (x = c1 ∨ x = c2)) (hm : c1 ≠ -1 ∧ c2 ≠ -1) (hk : rcT c1 = k1 ∧ rcT c2 = k2) (hB : B < 519) (hn : a.2.1.1 ≤ n0) (hn4 : n0 ≤ 4) (hZ : ZI Z) (h : PM M dr a n0 dp B L Z r σ) (hl : ∀ y, r = .inr y → (L ++ y.2).length ≤ y.1 ∧ y.1 ≤ a.1.1) : Ok ((gI 10 4 σ (M.1 0)).bind fun x3 =>
  jo2 (fun (v4 : Int32) (t5 : St) =>
    lo2 (fun l9 (x7 : Int32) (t8 : St) =>
      jo1 (fun (u9 : Unit) =>
      (gI 10 3 t8 (M.1 0)).bind fun x11 =>
      (pV 10 3 t8 (M.1 0) (.int (x11 + 1))).bind (fun t12 =>
      bo 10 t12 (M.1 0) (rr t12) (fun w13 t14 =>
      jo2 (fun (v15 : Int32) (v16 : Nat) =>
        bo 10 t14 v16 (fX10_put t14 v16 v15 0) (fun w18 t19 =>
        (gI 10 4 t19 (M.1 0)).bind fun x20 =>
        jo2 (fun (v21 : Int32) (t22 : St) =>
          l9 v21 t22) (fun j23 =>
          if x20 = (-1) then
            bo 10 t19 (M.1 0) (fX10_look t19 (M.1 0)) (fun x24 t25 =>
            j23 x24 t25)
          else
            j23 ((-1)) t19))) (fun j17 =>
        if x7 = c1 then
          j17 k1 (M.1 0)
        else
          j17 k2 (M.1 0))))) (fun j10 =>
      if x7 = c1 then
        j10 () 
      else
        if x7 = c2 then
          j10 () 
        else
          some ((), t8))) FU v4 t5) (fun j6 =>
    if x3 = (-1) then
      bo 10 σ (M.1 0) (fX10_look σ (M.1 0)) (fun x26 t27 =>
      j6 x26 t27)
    else
      j6 ((-1)) σ)) (fun _ t => PM M dr a n0 dp (B + 1) L Z (bnP r (lpP a.1 ok g 241)) t) := by
  rcases h.cs with ⟨q, rfl, g1⟩ | ⟨y, rfl, g1⟩
  · refine Ok.r g1.w4.1 (Ok.j2 (Ok.bF g1.w4.2 ?_))
    refine Ok.m2 (fun d x7 t => x7 = -1 ∧ UG M dr a (NF n0 B q) t) ?_ FU 0 _ _ (by decide) ⟨rfl, g1⟩
    rintro j d x7 t ⟨rfl, hc⟩ hj
    exact Ok.j1 (Ok.bF (fun e => hm.1 e.symm) (Ok.bF (fun e => hm.2 e.symm) (Ok.p (UG.up hc (by omega)))))
  · refine Ok.r g1.rd.2.2.2 (Ok.j2 (Ok.bT rfl (Ok.v g1.O (u_look g1 (NX_ind _ _ _ _)) ?_)))
    rintro x2 t2 ⟨rfl, g2⟩
    refine (m_lp3 hg hP hok hm hk hB hn hn4 hZ g2 (hl y rfl).1 (hl y rfl).2).imp (fun _ t g3 => PM.to g3)
theorem m_term {g : Nat → PR} {ra rt rs : St → Nat → Option (Unit × St)} (hn : a.2.1.1 ≤ n0) (hn4 : n0 ≤ 4) (hB : B < 519) (hg : MPr M dr a n0 dp B (fun t => ra t (M.1 0)) g) (hP : Pg a.1 g) : MPr M dr a n0 dp (B + 1) (fun t => eX10_term ra rt rs t (M.1 0)) (thP a.1 okT g g) := by
  intro L Z p σ hZ h hl
  show Ok (eX10_term ra rt rs σ (M.1 0)) _
  unfold eX10_term thP
  refine Ok.v h.O (hg L Z p σ hZ h hl) ?_
  intro w t g1
  exact m_lpC (rr := fun t => ra t (M.1 0)) (k1 := 4) (k2 := 5) hg hP okT_i (by decide) (by decide) hB hn hn4 hZ g1 (fun y e => ⟨(hP.len h.le hl y e).1, (hP.len h.le hl y e).2.1⟩)
theorem m_sum {g : Nat → PR} {ra rt rs : St → Nat → Option (Unit × St)} (hn : a.2.1.1 ≤ n0) (hn4 : n0 ≤ 4) (hB : B < 519) (hg : MPr M dr a n0 dp B (fun t => rt t (M.1 0)) g) (hP : Pg a.1 g) : MPr M dr a n0 dp (B + 1) (fun t => eX10_sum ra rt rs t (M.1 0)) (thP a.1 okS g g) := by
  intro L Z p σ hZ h hl
  show Ok (eX10_sum ra rt rs σ (M.1 0)) _
  unfold eX10_sum thP
  refine Ok.v h.O (hg L Z p σ hZ h hl) ?_
  intro w t g1
  exact m_lpC (rr := fun t => rt t (M.1 0)) (k1 := 2) (k2 := 3) hg hP okS_i (by decide) (by decide) hB hn hn4 hZ g1 (fun y e => ⟨(hP.len h.le hl y e).1, (hP.len h.le hl y e).2.1⟩)
theorem m_sumR {s : Option (Nat → PR)} {d : Nat} (hn : a.2.1.1 ≤ n0) (hn4 : n0 ≤ 4) (hB : B < 500) (h : MPr M dr a n0 dp B (fun t => eX10_atom (recX10_atom d).1 (recX10_atom d).2.1 (recX10_atom d).2.2 t (M.1 0)) (aoP a.1 s)) (hs : ∀ f, s = some f → Pg a.1 f) : MPr M dr a n0 dp (B + 2) (fun t => (recX10_atom (d + 3)).2.2 t (M.1 0)) (smA a.1 s) := by
  have h1 : MPr M dr a n0 dp B (fun t => (recX10_atom (d + 1)).1 t (M.1 0)) (aoP a.1 s) := h
  have h2 : MPr M dr a n0 dp (B + 1) (fun t => (recX10_atom (d + 2)).2.1 t (M.1 0)) (tmP a.1 s) := m_term (rt := (recX10_atom (d + 1)).2.1) (rs := (recX10_atom (d + 1)).2.2) hn hn4 (by omega) h1 (Pg.ao hs)
  exact m_sum (ra := (recX10_atom (d + 2)).1) (rs := (recX10_atom (d + 2)).2.2) hn hn4 (by omega) h2 (Pg.tm hs)
theorem m_sums (hn : a.2.1.1 ≤ n0) (hn4 : n0 ≤ 4) : ∀ k d, k ≤ 6 → 3 * k + 3 ≤ d → MPr M dr a n0 (6 - k) (243 + 2 * k) (fun t => (recX10_atom d).2.2 t (M.1 0)) (smT a.1 k)
  | 0, d + 3, hk, _ => m_sumR (s := none) hn hn4 (by omega) (m_atom (s := none) (k := 0) hk hn hn4 (fun _ => rfl) (fun f e => by cases e)) (fun f e => by cases e)
  | k + 1, d + 3, hk, hd => by
    have ih := m_sums hn hn4 k d (by omega) (by omega)
    have hs : ∀ f, some (smT a.1 k) = some f → Pg a.1 f := fun f e => by cases e; exact Pg.sm _ k
    have h0 := m_sumR (s := some (smT a.1 k)) (d := d) hn hn4 (by omega) (m_atom (s := some (smT a.1 k)) (k := k + 1) hk hn hn4 (fun e => by cases e) (fun f e => by cases e; exact ⟨by omega, ih, Pg.sm _ k⟩)) hs
    rw [show 243 + 2 * (k + 1) = 241 + 2 * (k + 1) + 2 by omega]
    exact h0
theorem m_sum60 (hn : a.2.1.1 ≤ n0) (hn4 : n0 ≤ 4) {k : Nat} (hk : k ≤ 6) : MPr M dr a n0 (6 - k) (243 + 2 * k) (fun t => fX10_sum 60 t (M.1 0)) (smT a.1 k) := m_sums hn hn4 k 60 hk (by omega)
end
