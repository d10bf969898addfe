/-! The LAW's reader: the reference, conditions -/
section
variable {M : Mfg} {dr : Int64} {a : Abs} {σ : St} {X : (Nat → Int32) → (Nat → Nat → Int32) → Prop} {p n0 dp B : Nat} {f : Option Nat} {L : List Tk} {Z : (Nat → Nat → Int32) → Prop} {r : PR}
theorem rc_cmp {x : Int32} (h : oqC x = true) : rcT x = if x = 61 then 6 else if x = 60 then 7 else 8 := by
  have := of_decide_eq_true h
  rcases this with rfl | rfl | rfl <;> decide
theorem m_cmp (hn : a.2.1.1 ≤ n0) (hn4 : n0 ≤ 4) {k : Nat} (hk : k ≤ 6) : MPr M dr a n0 (6 - k) (244 + 2 * k) (fun t => fX10_compare t (M.1 0)) (cmP a.1 k) := by
  intro L Z p σ hZ h hl
  have h240 := h.l240
  have hp := h.le
  show Ok (fX10_compare σ (M.1 0)) _
  unfold fX10_compare
  refine Ok.r h.rd.2.2.2 (Ok.j2 (Ok.bT rfl (Ok.v h.O (u_look h (NX_ind _ _ _ _)) ?_)))
  rintro x t ⟨rfl, g⟩
  have h1 := sk_ge a.1 p
  have h2 := sk_le a.1 hp
  refine Ok.cE (f10_sign t _) (Ok.bI bI_0 (fun z => ?_) (fun z => ?_))
  · refine Ok.v g.O (u_bad g (NX_ind _ _ _ _)) ?_
    intro w1 t1 g1
    refine Ok.p ?_
    unfold cmP
    rw [if_neg (by rw [z]; decide)]
    exact UR.F g1 (by omega)
  · have yc : oqC (atT a.1 (skT a.1 p)) = true := by simpa using z
    have hin : skT a.1 p < a.1.1 := at_in (fun e => by rw [e] at yc; exact absurd yc (by decide))
    refine Ok.r g.rd.2.2.1 ?_
    rw [nI_1]
    refine Ok.w (g.putP (NX_ind _ _ _ _) (q := skT a.1 p + 1) (by omega) (fun _ => hin)) ?_
    intro t1 g1
    refine Ok.v g1.O (m_sum60 hn hn4 hk L Z _ t1 hZ g1 (by omega)) ?_
    intro w2 t2 g2
    have fin : Ok (bo 10 t2 (M.1 0) (fX10_put t2 (M.1 0) (rcT (atT a.1 (skT a.1 p))) 0) (fun w14 t15 => some ((), t15))) (fun _ t => PM M dr a n0 (6 - k) (244 + 2 * k) L Z (cmP a.1 k p) t) := by
      refine Ok.v g2.O (m_put g2 hZ (fun y e => ?_) (by omega) hn hn4 (atT a.1 (skT a.1 p), 0)) ?_
      · have := Pg.sm a.1 k _ _ _ (show skT a.1 p + 1 ≤ a.1.1 by omega) e
        rw [List.length_append]; omega
      intro w3 t3 g3
      refine Ok.p ?_
      unfold cmP
      rw [if_pos yc]
      exact g3.up (by omega)
    rw [rc_cmp yc] at fin
    refine Ok.j2 (Ok.b (fun z1 => ?_) (fun z1 => Ok.b (fun z2 => ?_) (fun z2 => ?_)))
    · rw [if_pos z1] at fin; exact fin
    · rw [if_neg z1, if_pos z2] at fin; exact fin
    · rw [if_neg z1, if_neg z2] at fin; exact fin
theorem m_deep (h : PM M dr a n0 (dp + 1) B L Z r σ) : Ok ((gI 10 5 σ (M.1 0)).bind fun x22 => (pV 10 5 σ (M.1 0) (.int (x22 - 1))).bind (fun t23 => some ((), t23))) (fun _ t => PM M dr a n0 dp B L Z r t) := by
  rcases h.cs with ⟨q, rfl, g⟩ | ⟨y, rfl, g⟩
  · obtain ⟨v5, e5⟩ := g.g5.1
    refine Ok.r e5 (Ok.w (g.pf 5 (v5 - 1) (by omega) (NF_pf (Or.inr rfl))) ?_)
    intro t4 g4
    exact Ok.p g4
  · refine Ok.r g.rdp ?_
    rw [nI_pred]
    refine Ok.w (g.putD dp) ?_
    intro t3 g3
    exact Ok.p g3
theorem m_unit {u : Option (Nat → PR)} {k : Nat} (hk : k ≤ 6) (hn : a.2.1.1 ≤ n0) (hn4 : n0 ≤ 4) {ro ru rg rc : St → Nat → Option (Unit × St)} (hs0 : u = none → k = 0) (hs : ∀ f, u = some f → 1 ≤ k ∧ MPr M dr a n0 (6 - (k - 1)) (244 + 2 * (k - 1)) (fun t => ru t (M.1 0)) f ∧ Pg a.1 f ∧ MPr M dr a n0 (6 - (k - 1)) (246 + 2 * (k - 1)) (fun t => rc t (M.1 0)) (cdP a.1 f f)) : MPr M dr a n0 (6 - k) (244 + 2 * k) (fun t => eX10_unit ro ru rg rc t (M.1 0)) (unA a.1 k u) := by
  intro L Z p σ hZ h hl
  have h240 := h.l240
  have hp := h.le
  show Ok (eX10_unit ro ru rg rc σ (M.1 0)) _
  unfold eX10_unit
  refine Ok.v h.O (u_look h (NX_ind _ _ _ _)) ?_
  rintro x t ⟨rfl, g⟩
  have h1 := sk_ge a.1 p
  have h2 := sk_le a.1 hp
  refine Ok.b (fun z1 => ?_) (fun z1 => Ok.b (fun z2 => ?_) (fun z2 => ?_))
  · have hin : skT a.1 p < a.1.1 := at_in (by rw [z1]; decide)
    refine Ok.v g.O (r_opens (B := 244 + 2 * k) g (by omega) hin (by omega)) ?_
    intro w1 t1 g1
    cases u with
    | none =>
      rw [if_pos (by have := hs0 rfl; omega)] at g1
      refine Ok.r g1.w4.1 (Ok.bF g1.w4.2 (Ok.p ?_))
      unfold unA
      rw [if_pos z1]
      exact g1
    | some f =>
      obtain ⟨hk1, hf, hP, _⟩ := hs f rfl
      rw [if_neg (by omega)] at g1
      rw [show 6 - k + 1 = 6 - (k - 1) by omega] at g1
      refine Ok.r g1.rd.2.2.2 (Ok.bT rfl (Ok.v g1.O (hf L Z _ t1 hZ g1 (by omega)) ?_))
      intro w2 t2 g2
      refine Ok.v g2.O (m_put g2 hZ (fun y e => ?_) (by omega) hn hn4 (33, 0)) ?_
      · have := hP _ _ _ (show skT a.1 p + 1 ≤ a.1.1 by omega) e
        rw [List.length_append]; omega
      intro w3 t3 g3
      rw [show 6 - (k - 1) = 6 - k + 1 by omega] at g3
      refine (m_deep (g3.up (B' := 244 + 2 * k) (by omega))).imp (fun _ t g4 => ?_)
      unfold unA
      rw [if_pos z1]
      exact g4
  · have hin : skT a.1 p < a.1.1 := at_in (by rw [z2]; decide)
    refine Ok.v g.O (r_opens (B := 244 + 2 * k) g (by omega) hin (by omega)) ?_
    intro w1 t1 g1
    cases u with
    | none =>
      rw [if_pos (by have := hs0 rfl; omega)] at g1
      refine Ok.r g1.w4.1 (Ok.bF g1.w4.2 (Ok.p ?_))
      unfold unA
      rw [if_neg z1, if_pos z2]
      exact g1
    | some f =>
      obtain ⟨hk1, _, hP, hf⟩ := hs f rfl
      rw [if_neg (by omega)] at g1
      rw [show 6 - k + 1 = 6 - (k - 1) by omega] at g1
      refine Ok.r g1.rd.2.2.2 (Ok.bT rfl (Ok.v g1.O (hf L Z _ t1 hZ g1 (by omega)) ?_))
      intro w2 t2 g2
      have hlen := Pg.len (Pg.cd hP hP) (show skT a.1 p + 1 ≤ a.1.1 by omega) (L := L) (by omega)
      rw [show 6 - (k - 1) = 6 - k + 1 by omega, show 246 + 2 * (k - 1) = 244 + 2 * k by omega] at g2
      refine Ok.v g2.O (m_closes (by decide) g2 (fun y e => by have := hlen y e; omega)) ?_
      intro w3 t3 g3
      refine Ok.p ?_
      unfold unA
      rw [if_neg z1, if_pos z2]
      exact g3
  · refine Ok.v g.O (m_sum60 hn hn4 hk L Z _ t hZ g (by omega)) ?_
    intro w2 t2 g2
    have hlen := Pg.len (Pg.sm a.1 k) h2 (L := L) (by omega)
    unfold unA
    rw [if_neg z1, if_neg z2]
    rcases g2.cs with ⟨q, e, g3⟩ | ⟨y, e, g3⟩
    · rw [e]
      exact Ok.r g3.w4.1 (Ok.bF g3.w4.2 (Ok.p (UG.up g3 (by omega))))
    · rw [e]
      refine Ok.r g3.rd.2.2.2 (Ok.bT rfl (Ok.v g3.O (m_cmp hn hn4 hk _ Z _ t2 hZ g3 (hlen y e).1) ?_))
      intro w4 t4 g4
      exact Ok.p (PM.to g4)
/-- what goes on with & or | -/
theorem m_goL {F : St → (St → Option (Unit × St)) → Option (Unit × St)} {g : Nat → PR} {ok : Int32 → Bool} {c1 k1 : Int32} (hF : ∀ L Z p t k P, ZI Z → UR M dr a (NX n0 dp L Z) p none t → L.length ≤ p → (∀ t, PM M dr a n0 dp B L Z (g p) t → Ok (k t) P) → Ok (F t k) P) (hP : Pg a.1 g) (hok : ∀ x, ok x = true ↔ x = c1) (hm : c1 ≠ -1) (hk : rcT c1 = k1) (hB : B < 519) (hn : a.2.1.1 ≤ n0) (hn4 : n0 ≤ 4) (hZ : ZI Z) (h : PM M dr a n0 dp B L Z r σ) (hl : ∀ y, r = .inr y → (L ++ y.2).length ≤ y.1 ∧ y.1 ≤ a.1.1) : Ok (lo1 (fun l2 (t1 : St) =>
    (gI 10 4 t1 (M.1 0)).bind fun x3 =>
  if x3 = (-1) then
    bo 10 t1 (M.1 0) (fX10_look t1 (M.1 0)) (fun x4 t5 =>
    if x4 = c1 then
      (gI 10 3 t5 (M.1 0)).bind fun x6 =>
      (pV 10 3 t5 (M.1 0) (.int (x6 + 1))).bind (fun t7 =>
      F t7 (fun t9 =>
      bo 10 t9 (M.1 0) (fX10_put t9 (M.1 0) k1 0) (fun w10 t11 =>
      l2 t11)))
    else
      some ((), t5))
  else
    some ((), t1)) FU σ) (fun _ t => PM M dr a n0 dp (B + 1) L Z (bnP r (lpP a.1 ok g 241)) t) := by
  refine Ok.m1 (fun d t => (∃ L' p', 241 ≤ p' + d ∧ UR M dr a (NX n0 dp L' Z) p' none t ∧ L'.length ≤ p' ∧ p' ≤ a.1.1 ∧ ∀ u, PM M dr a n0 dp (B + 1) L' Z (lpP a.1 ok g d p') u → PM M dr a n0 dp (B + 1) L Z (bnP r (lpP a.1 ok g 241)) u) ∨ (∃ q, bnP r (lpP a.1 ok g 241) = .inl q ∧ UG M dr a (NF n0 (B + 1) q) t)) ?_ FU 241 _ (by decide) ?_
  · rintro j d t hc hj
    rcases hc with ⟨L', p', hd, gs, hl', hp', hc⟩ | ⟨q, e, gs⟩
    · have h240 := gs.l240
      refine Ok.r gs.rd.2.2.2 (Ok.bT rfl (Ok.v gs.O (u_look gs (NX_ind _ _ _ _)) ?_))
      rintro x1 t1 ⟨rfl, g1⟩
      have hsk := sk_ge a.1 p'
      have hsl := sk_le a.1 hp'
      refine Ok.b (fun z1 => ?_) (fun z1 => Ok.p (hc t1 ?_))
      · have hy : ok (atT a.1 (skT a.1 p')) = true := (hok _).mpr z1
        have hin : skT a.1 p' < a.1.1 := at_in (by rw [z1]; exact hm)
        obtain ⟨d, rfl⟩ : ∃ e, d = e + 1 := ⟨d - 1, by omega⟩
        rw [lpP_y hy] at hc
        refine Ok.r g1.rd.2.2.1 ?_
        rw [nI_1]
        refine Ok.w (g1.putP (NX_ind _ _ _ _) (q := skT a.1 p' + 1) (by omega) (fun _ => hin)) ?_
        intro t2 g2
        refine hF L' Z _ t2 _ _ hZ g2 (by omega) ?_
        intro t3 g3
        have hlen := fun y (e : g (skT a.1 p' + 1) = .inr y) => hP _ _ _ (show skT a.1 p' + 1 ≤ a.1.1 by omega) e
        have hput := m_put g3 hZ (fun y e => by have := hlen y e; rw [List.length_append]; omega) (by omega) hn hn4 (atT a.1 (skT a.1 p'), 0)
        rw [show rcT (atT a.1 (skT a.1 p'), (0 : Int32)).1 = k1 from by rw [z1]; exact hk] at hput
        refine Ok.v g3.O hput ?_
        intro w4 t4 g4
        rcases g4.cs with ⟨q, e, g5⟩ | ⟨y, e, g5⟩
        · rw [e] at hc
          refine hj d _ (by omega) ?_
          rcases (hc t4 g5).cs with ⟨q', e', g6⟩ | ⟨y, e', g6⟩
          · exact Or.inr ⟨q', e', g6⟩
          · have f1 := g6.rd.2.2.2
            rw [g5.w4.1] at f1
            exact absurd (Option.some.inj f1) g5.w4.2
        · rw [e] at hc
          obtain ⟨z, e1, e2, e3⟩ := tkP_inr (p := y.1) (W := y.2) e
          have hz := hlen z e1
          refine hj d _ (by omega) (Or.inl ⟨_, y.1, by omega, g5, ?_, by omega, fun u gu => hc u (PM.to gu)⟩)
          rw [e3]
          simp only [List.length_append, List.length_cons, List.length_nil]; omega
      · rw [lpP_n (fun q => z1 ((hok _).mp q))]
        simp only [PM, List.append_nil]
        exact g1
    · exact Ok.r gs.w4.1 (Ok.bF gs.w4.2 (Ok.p (by rw [e]; exact gs)))
  · rcases h.cs with ⟨q, rfl, g1⟩ | ⟨y, rfl, g1⟩
    · exact Or.inr ⟨q, rfl, UG.up g1 (by omega)⟩
    · exact Or.inl ⟨_, y.1, by omega, g1, (hl y rfl).1, (hl y rfl).2, fun u gu => PM.to gu⟩
theorem m_and {g : Nat → PR} {ro ru rg rc : St → Nat → Option (Unit × St)} (hn : a.2.1.1 ≤ n0) (hn4 : n0 ≤ 4) (hB : B < 519) (hg : MPr M dr a n0 dp B (fun t => ru t (M.1 0)) g) (hP : Pg a.1 g) (hZ : ZI Z) (h : PM M dr a n0 dp B L Z r σ) (hl : ∀ y, r = .inr y → (L ++ y.2).length ≤ y.1 ∧ y.1 ≤ a.1.1) : Ok (eX10_goOnAnd ro ru rg rc σ (M.1 0)) (fun _ t => PM M dr a n0 dp (B + 1) L Z (bnP r (lpP a.1 okA g 241)) t) := by
  unfold eX10_goOnAnd
  refine m_goL (F := fun t7 k => bo 10 t7 (M.1 0) (ru t7 (M.1 0)) (fun w8 t9 => k t9)) (k1 := 10) (c1 := 38) (g := g) ?_ hP okA_i (by decide) (by decide) hB hn hn4 hZ h hl
  intro L Z p t k P hZ h hl hk
  exact Ok.v h.O (hg L Z p t hZ h hl) (fun _ t g => hk t g)
theorem m_or {g : Nat → PR} {ro ru rg rc : St → Nat → Option (Unit × St)} (hn : a.2.1.1 ≤ n0) (hn4 : n0 ≤ 4) (hB : B < 510) (hg : MPr M dr a n0 dp B (fun t => ru t (M.1 0)) g) (hP : Pg a.1 g) (hG : ∀ {L Z r σ}, ZI Z → PM M dr a n0 dp B L Z r σ → (∀ y, r = .inr y → (L ++ y.2).length ≤ y.1 ∧ y.1 ≤ a.1.1) → Ok (rg σ (M.1 0)) (fun _ t => PM M dr a n0 dp (B + 1) L Z (bnP r (lpP a.1 okA g 241)) t)) (hZ : ZI Z) (h : PM M dr a n0 dp (B + 1) L Z r σ) (hl : ∀ y, r = .inr y → (L ++ y.2).length ≤ y.1 ∧ y.1 ≤ a.1.1) : Ok (eX10_goOnOr ro ru rg rc σ (M.1 0)) (fun _ t => PM M dr a n0 dp (B + 2) L Z (bnP r (lpP a.1 okO (trP a.1 g g) 241)) t) := by
  unfold eX10_goOnOr
  refine m_goL (F := fun t7 k => bo 10 t7 (M.1 0) (ru t7 (M.1 0)) (fun w8 t9 => bo 10 t9 (M.1 0) (rg t9 (M.1 0)) (fun w10 t11 => k t11))) (B := B + 1) (k1 := 11) (c1 := 124) (g := trP a.1 g g) ?_ (Pg.tr hP hP) okO_i (by decide) (by decide) (by omega) hn hn4 hZ h hl
  intro L Z p t k P hZ h hl hk
  refine Ok.v h.O (hg L Z p t hZ h hl) (fun _ t2 g2 => ?_)
  exact Ok.v g2.O (hG hZ g2 (fun y e => ⟨(hP.len h.le hl y e).1, (hP.len h.le hl y e).2.1⟩)) (fun _ t g => hk t g)
/-- goOnAnd and goOnOr at a depth -/
theorem m_andR {g : Nat → PR} {d : Nat} (hn : a.2.1.1 ≤ n0) (hn4 : n0 ≤ 4) (hB : B < 519) (hg : MPr M dr a n0 dp B (fun t => (recX10_goOnOr d).2.1 t (M.1 0)) g) (hP : Pg a.1 g) (hZ : ZI Z) (h : PM M dr a n0 dp B L Z r σ) (hl : ∀ y, r = .inr y → (L ++ y.2).length ≤ y.1 ∧ y.1 ≤ a.1.1) : Ok ((recX10_goOnOr (d + 1)).2.2.1 σ (M.1 0)) (fun _ t => PM M dr a n0 dp (B + 1) L Z (bnP r (lpP a.1 okA g 241)) t) :=
  m_and (ro := (recX10_goOnOr d).1) (ru := (recX10_goOnOr d).2.1) (rg := (recX10_goOnOr d).2.2.1) (rc := (recX10_goOnOr d).2.2.2) hn hn4 hB hg hP hZ h hl
theorem m_orR {g : Nat → PR} {d : Nat} (hn : a.2.1.1 ≤ n0) (hn4 : n0 ≤ 4) (hB : B < 510) (hg0 : MPr M dr a n0 dp B (fun t => (recX10_goOnOr d).2.1 t (M.1 0)) g) (hg : MPr M dr a n0 dp B (fun t => (recX10_goOnOr (d + 1)).2.1 t (M.1 0)) g) (hP : Pg a.1 g) (hZ : ZI Z) (h : PM M dr a n0 dp (B + 1) L Z r σ) (hl : ∀ y, r = .inr y → (L ++ y.2).length ≤ y.1 ∧ y.1 ≤ a.1.1) : Ok ((recX10_goOnOr (d + 2)).1 σ (M.1 0)) (fun _ t => PM M dr a n0 dp (B + 2) L Z (bnP r (lpP a.1 okO (trP a.1 g g) 241)) t) :=
  m_or (ro := (recX10_goOnOr (d + 1)).1) (ru := (recX10_goOnOr (d + 1)).2.1) (rg := (recX10_goOnOr (d + 1)).2.2.1) (rc := (recX10_goOnOr (d + 1)).2.2.2) hn hn4 hB hg hP (fun hZ h hl => m_andR hn hn4 (by omega) hg0 hP hZ h hl) hZ h hl
theorem Pg.lenB {T : Tap} {ok : Int32 → Bool} {u : Nat → PR} {r : PR} {L : List Tk} (hok : ok (-1) = false) (hu : Pg T u) (hl : ∀ y, r = .inr y → (L ++ y.2).length ≤ y.1 ∧ y.1 ≤ T.1) : ∀ y, bnP r (lpP T ok u 241) = .inr y → (L ++ y.2).length ≤ y.1 ∧ y.1 ≤ T.1 := by
  intro y e
  obtain ⟨z, w, e1, e2, e3, e4⟩ := bnP_inr (p := y.1) (W := y.2) e
  have h1 := hl z e1
  have h2 := Pg.lp hok hu 241 _ _ _ h1.2 e2
  rw [e3, e4]
  simp only [List.length_append] at h1 ⊢
  omega
theorem m_condR {g : Nat → PR} {d : Nat} (hn : a.2.1.1 ≤ n0) (hn4 : n0 ≤ 4) (hB : B < 510) (hu : ∀ e, d ≤ e → MPr M dr a n0 dp B (fun t => (recX10_goOnOr e).2.1 t (M.1 0)) g) (hP : Pg a.1 g) : MPr M dr a n0 dp (B + 2) (fun t => (recX10_goOnOr (d + 3)).2.2.2 t (M.1 0)) (cdP a.1 g g) := by
  intro L Z p σ hZ h hl
  show Ok (eX10_condition (recX10_goOnOr (d + 2)).1 (recX10_goOnOr (d + 2)).2.1 (recX10_goOnOr (d + 2)).2.2.1 (recX10_goOnOr (d + 2)).2.2.2 σ (M.1 0)) _
  unfold eX10_condition
  have l1 : ∀ y, g p = .inr y → (L ++ y.2).length ≤ y.1 ∧ y.1 ≤ a.1.1 := fun y e => ⟨(hP.len h.le hl y e).1, (hP.len h.le hl y e).2.1⟩
  refine Ok.v h.O (hu (d + 2) (by omega) L Z p σ hZ h hl) ?_
  intro w1 t1 g1
  refine Ok.v g1.O (m_andR (d := d + 1) hn hn4 (by omega) (hu (d + 1) (by omega)) hP hZ g1 l1) ?_
  intro w2 t2 g2
  refine Ok.v g2.O (m_orR (d := d) hn hn4 hB (hu d (by omega)) (hu (d + 1) (by omega)) hP hZ g2 (Pg.lenB (by decide) hP l1)) ?_
  intro w3 t3 g3
  exact Ok.p g3
theorem m_units (hn : a.2.1.1 ≤ n0) (hn4 : n0 ≤ 4) : ∀ k d, k ≤ 6 → 4 * k + 1 ≤ d → MPr M dr a n0 (6 - k) (244 + 2 * k) (fun t => (recX10_goOnOr d).2.1 t (M.1 0)) (unT a.1 k)
  | 0, d + 1, hk, _ => m_unit (ro := (recX10_goOnOr d).1) (ru := (recX10_goOnOr d).2.1) (rg := (recX10_goOnOr d).2.2.1) (rc := (recX10_goOnOr d).2.2.2) (u := none) (k := 0) hk hn hn4 (fun _ => rfl) (fun f e => by cases e)
  | k + 1, d + 1, hk, hd => by
    obtain ⟨e, rfl⟩ : ∃ e, d = e + 3 := ⟨d - 3, by omega⟩
    have ih := m_units hn hn4 k (e + 3) (by omega) (by omega)
    have ihc := m_condR (d := e) hn hn4 (by omega) (fun e' he => m_units hn hn4 k e' (by omega) (by omega)) (Pg.un _ k)
    exact m_unit (ro := (recX10_goOnOr (e + 3)).1) (ru := (recX10_goOnOr (e + 3)).2.1) (rg := (recX10_goOnOr (e + 3)).2.2.1) (rc := (recX10_goOnOr (e + 3)).2.2.2) (u := some (unT a.1 k)) (k := k + 1) hk hn hn4 (fun e => by cases e) (fun f e => by cases e; exact ⟨by omega, ih, Pg.un _ k, (show 246 + 2 * k = 244 + 2 * k + 2 by omega) ▸ ihc⟩)
theorem m_cond60 (hn : a.2.1.1 ≤ n0) (hn4 : n0 ≤ 4) : MPr M dr a n0 0 258 (fun t => fX10_condition 60 t (M.1 0)) (cdP a.1 (unT a.1 6) (unT a.1 6)) := m_condR (d := 57) (dp := 0) (B := 256) hn hn4 (by omega) (fun e he => m_units hn hn4 6 e (by omega) (by omega)) (Pg.un _ 6)
theorem m_and60 (hn : a.2.1.1 ≤ n0) (hn4 : n0 ≤ 4) (hZ : ZI Z) (h : PM M dr a n0 0 256 L Z r σ) (hl : ∀ y, r = .inr y → (L ++ y.2).length ≤ y.1 ∧ y.1 ≤ a.1.1) : Ok (fX10_goOnAnd 60 σ (M.1 0)) (fun _ t => PM M dr a n0 0 257 L Z (bnP r (lpP a.1 okA (unT a.1 6) 241)) t) := m_andR (d := 59) hn hn4 (by omega) (m_units hn hn4 6 59 (by omega) (by omega)) (Pg.un _ 6) hZ h hl
theorem m_or60 (hn : a.2.1.1 ≤ n0) (hn4 : n0 ≤ 4) (hZ : ZI Z) (h : PM M dr a n0 0 257 L Z r σ) (hl : ∀ y, r = .inr y → (L ++ y.2).length ≤ y.1 ∧ y.1 ≤ a.1.1) : Ok (fX10_goOnOr 60 σ (M.1 0)) (fun _ t => PM M dr a n0 0 258 L Z (bnP r (lpP a.1 okO (trP a.1 (unT a.1 6) (unT a.1 6)) 241)) t) := m_orR (d := 58) (B := 256) hn hn4 (by omega) (m_units hn hn4 6 58 (by omega) (by omega)) (m_units hn hn4 6 59 (by omega) (by omega)) (Pg.un _ 6) hZ h hl
end
