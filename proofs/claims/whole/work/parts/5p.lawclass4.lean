/-! The LAW's reader: the class, the whole text -/
def PL (K : Cfg) (dr : Int64) (a : Abs) (x : Sum Nat (List Clz)) (σ : St) : Prop := match x with
  | .inl q => ∃ p, TR K dr a LF p (some q) σ
  | .inr l => ∃ p, TR K dr a (LX (l.flatMap clC)) p none σ
section
variable {K : Cfg} {dr : Int64} {a : Abs} {σ : St} {X Y : (Nat → Int32) → (Nat → Nat → Int32) → Prop} {p : Nat} {f : Option Nat} {L : List Tk} {r : PR}
theorem c_tail {c : PR} {q0 : Nat} (h : PC K dr a L c σ) (hq : L.length + 2 ≤ q0) (hc : ∀ z, c = .inr z → q0 + z.2.length ≤ z.1 ∧ z.1 ≤ a.1.1) : Ok ((gR 4 0 σ (K.1 7)).bind fun a22 =>
          bo 8 σ a22 (fX8_expect σ a22 63) (fun w23 t24 =>
          bo 4 t24 (K.1 7) (fX4_put t24 (K.1 7) 63 0) (fun w25 t26 =>
          bo 4 t26 (K.1 7) (fX4_sum 60 t26 (K.1 7) 0) (fun w27 t28 =>
          bo 4 t28 (K.1 7) (fX4_put t28 (K.1 7) 59 0) (fun w16 t17 =>
        some ((), t17)))))) (fun _ t => PC K dr a L (qPr (tlP a.1 c)) t) := by
  obtain ⟨r1, r2, r3, r4⟩ := h.tape
  refine Ok.r r1 (Ok.v r2 (c_expect (by decide) h (fun y e => ?_)) ?_)
  · have := hc y e
    rw [List.length_append]; omega
  intro w1 t1 g1
  have b1 : ∀ y, exP a.1 c 63 = .inr y → q0 + y.2.length + 1 ≤ y.1 ∧ y.1 ≤ a.1.1 := fun y e => Pg.ex (p := q0) (by decide) hc e
  refine Ok.v g1.tape.2.2.1 (c_put g1 (fun y e => ?_)) ?_
  · have := b1 y e
    rw [List.length_append]; omega
  intro w2 t2 g2
  have b2 : ∀ y, tkP (exP a.1 c 63) (63, 0) = .inr y → q0 + y.2.length ≤ y.1 ∧ y.1 ≤ a.1.1 := by
    intro y e
    obtain ⟨z, e1, e2, e3⟩ := tkP_inr (p := y.1) (W := y.2) e
    have := b1 z e1
    rw [e2, e3]
    simp only [List.length_append, List.length_cons, List.length_nil]
    omega
  refine Ok.v g2.tape.2.2.1 (c_seq g2 (c_sum60 (k := 6) (by omega)) (c_sum60F _) (fun y e => ?_)) ?_
  · have := b2 y e
    rw [List.length_append]; omega
  intro w3 t3 g3
  refine Ok.v g3.tape.2.2.1 (c_put g3 (fun y e => ?_)) ?_
  · obtain ⟨z, v, e1, e2, e3, e4⟩ := bnP_inr (p := y.1) (W := y.2) e
    have := b2 z e1
    have := Pg.sm a.1 6 _ _ _ this.2 e2
    rw [e4]
    simp only [List.length_append]
    omega
  intro w4 t4 g4
  rw [tl_eq] at g4
  exact Ok.p g4
theorem c_clause (h : TR K dr a (LX L) p none σ) (hl : L.length ≤ p) : Ok (fX4_clause σ (K.1 7)) (fun _ t => PC K dr a L (qPr (clT a.1 p)) t) := by
  have hp := h.l240.2
  have h240 := h.l240.1
  unfold fX4_clause
  have g0 : PC K dr a L (.inr (p, [])) σ := by
    show TR K dr a (LX (L ++ [])) p none σ
    rw [List.append_nil]; exact h
  refine Ok.r (l_tape h) (Ok.v h.O (c_expect (by decide) g0 (fun y e => by cases e; rw [List.append_nil]; exact ⟨hl, hp⟩)) ?_)
  intro w1 t1 g1
  refine Ok.r g1.tape.1 (Ok.v g1.tape.2.1 (c_expect (by decide) g1 (fun y e => ?_)) ?_)
  · obtain ⟨z, e1, e2, e3, e4⟩ := exP_inr (p := y.1) (W := y.2) e
    cases e1
    have s1 := sk_ge a.1 p
    have s2 : skT a.1 p < a.1.1 := at_in (by rw [e2]; decide)
    rw [e3, e4, List.append_nil]
    simp only []
    omega
  intro w2 t2 g2
  have g2' : PC K dr a L (hdP a.1 p) t2 := g2
  have fin : ∀ {r : PR} {t14 : St}, PC K dr a L r t14 → (∀ y, r = .inr y → (L ++ y.2).length < 240) → Ok (bo 4 t14 (K.1 7) (fX4_put t14 (K.1 7) 59 0) (fun w16 t17 => some ((), t17))) (fun _ t => PC K dr a L (tkP r (59, 0)) t) := by
    intro r t14 g hl
    refine Ok.v g.tape.2.2.1 (c_put g hl) ?_
    intro w t g3
    exact Ok.p g3
  refine Ok.r g2.tape.1 ?_
  rcases g2'.cs with ⟨q, e, p3, g3⟩ | ⟨y, e, g3⟩
  · -- a fault at the CLAUSE's head
    refine Ok.vE g3.O (t_peekF g3) (Ok.j1 (Ok.j1 (Ok.bF (by decide) (Ok.bF (by decide) (Ok.j1 (Ok.bF (by decide) (Ok.v (l_O g3) (c_sum60F 0 p3 q t2 g3) ?_)))))))
    rintro w4 t4 ⟨p4, g4⟩
    refine Ok.j1 (Ok.j1 (Ok.bF (by decide) (Ok.r (l_tape g4) (Ok.vE g4.O (t_peekF g4) (Ok.cE (l_comp t4 _) (Ok.bT (by decide) ?_))))))
    refine (fin (r := .inl q) ⟨p4, g4⟩ (fun y e => by cases e)).imp ?_
    intro w5 t5 g5
    unfold clT
    rw [e]
    exact g5
  · obtain ⟨b1, b2, b3⟩ := hd_g hp e
    rw [b3, List.append_nil] at g3
    refine Ok.v g3.O (t_peek g3 (LX_ind _)) ?_
    rintro x4 t4 ⟨rfl, g4⟩
    have s1 := sk_ge a.1 y.1
    have s2 := sk_le a.1 b2
    have yes : (atT a.1 (skT a.1 y.1) = 33 ∨ atT a.1 (skT a.1 y.1) = 40) → Ok (bo 4 t4 (K.1 7) (fX4_condition 60 t4 (K.1 7) 0 0) (fun w20 t21 =>
          (gR 4 0 t21 (K.1 7)).bind fun a22 =>
          bo 8 t21 a22 (fX8_expect t21 a22 63) (fun w23 t24 =>
          bo 4 t24 (K.1 7) (fX4_put t24 (K.1 7) 63 0) (fun w25 t26 =>
          bo 4 t26 (K.1 7) (fX4_sum 60 t26 (K.1 7) 0) (fun w27 t28 =>
          bo 4 t28 (K.1 7) (fX4_put t28 (K.1 7) 59 0) (fun w16 t17 =>
        some ((), t17))))))) (fun _ t => PC K dr a L (qPr (clT a.1 p)) t) := by
      intro z
      refine Ok.v (l_O g4) (c_cond60 L _ t4 g4 (by omega)) ?_
      intro w5 t5 g5
      refine (c_tail (q0 := skT a.1 y.1) g5 (by omega) (fun z e => Pg.cd (Pg.un a.1 6) (Pg.un a.1 6) _ _ _ s2 e)).imp ?_
      intro w6 t6 g6
      unfold clT
      rw [e]
      simp only []
      rw [if_pos z]
      exact g6
    refine Ok.j1 (Ok.j1 (Ok.b (fun z => Ok.j1 (Ok.bT rfl (Ok.j1 (Ok.j1 (Ok.bT rfl (yes (Or.inl z))))))) (fun z1 => Ok.b (fun z => Ok.j1 (Ok.bT rfl (Ok.j1 (Ok.j1 (Ok.bT rfl (yes (Or.inr z))))))) (fun z2 => ?_))))
    refine Ok.j1 (Ok.bF (by decide) (Ok.v (l_O g4) (c_sum60 (k := 6) (by omega) L _ t4 g4 (by omega)) ?_))
    intro w5 t5 g5
    have ecl : clT a.1 p = (match smT a.1 6 (skT a.1 y.1) with
      | .inl q => .inl q
      | .inr z => if oqC (atT a.1 (skT a.1 z.1)) = true then tlP a.1 (bnP (.inr (skT a.1 z.1, z.2)) (cdP a.1 (unT a.1 6) (cmP a.1 6))) else .inr (skT a.1 z.1, (none, z.2))) := by
      unfold clT
      rw [e]
      simp only []
      rw [if_neg (fun q => q.elim z1 z2)]
      all_goals (cases smT a.1 6 (skT a.1 y.1) <;> rfl)
    refine Ok.j1 (Ok.j1 (Ok.bF (by decide) (Ok.r g5.tape.1 ?_)))
    rcases g5.cs with ⟨q, e6, p6, g6⟩ | ⟨v, e6, g6⟩
    · refine Ok.vE g6.O (t_peekF g6) (Ok.cE (l_comp t5 _) (Ok.bT (by decide) ?_))
      refine (fin (r := .inl q) ⟨p6, g6⟩ (fun y e => by cases e)).imp ?_
      intro w7 t7 g7
      rw [ecl, e6]
      exact g7
    · have b4 := Pg.sm a.1 6 _ _ _ s2 e6
      have s3 := sk_ge a.1 v.1
      have s4 := sk_le a.1 b4.2
      refine Ok.v g6.O (t_peek g6 (LX_ind _)) ?_
      rintro x7 t7 ⟨rfl, g7⟩
      have g7' : PC K dr a L (.inr (skT a.1 v.1, v.2)) t7 := g7
      refine Ok.cE (l_comp t7 _) (Ok.bI bI_0 (fun z3 => ?_) (fun z3 => ?_))
      · refine (fin g7' (fun y e => by cases e; rw [List.length_append]; simp only []; omega)).imp ?_
        intro w8 t8 g8
        rw [ecl, e6]
        simp only []
        rw [if_neg (by rw [z3]; decide)]
        exact g8
      · have z3' : oqC (atT a.1 (skT a.1 v.1)) = true := by simpa using z3
        refine Ok.v g7'.tape.2.2.1 (c_seq g7' c_cond60B (c_cond60F _ _) (fun y e => by cases e; rw [List.length_append]; simp only []; omega)) ?_
        intro w8 t8 g8
        refine (c_tail (q0 := skT a.1 y.1) g8 (by omega) ?_).imp ?_
        · intro u eu
          obtain ⟨v1, v2, f1, f2, f3, f4⟩ := bnP_inr (p := u.1) (W := u.2) eu
          cases f1
          have b5 := Pg.cd (Pg.un a.1 6) (Pg.cm a.1 6) _ _ _ s4 f2
          rw [f3, f4, List.length_append]
          simp only []
          omega
        · intro w9 t9 g9
          rw [ecl, e6]
          simp only []
          rw [if_pos z3']
          exact g9
theorem lw_s {T : Tap} {d p : Nat} : lwF T (d + 1) p = (match clT T p with
    | .inl q => .inl q
    | .inr y => if atT T (skT T y.1) = 59 then (match lwF T d (skT T y.1 + 1) with
        | .inl q => .inl q
        | .inr l => .inr (y.2 :: l))
      else if atT T (skT T y.1) = -1 then .inr [y.2] else .inl (skT T y.1)) := rfl
def apL (l0 : List Clz) : Sum Nat (List Clz) → Sum Nat (List Clz)
  | .inl q => .inl q
  | .inr l => .inr (l0 ++ l)
theorem c_readLaw (h : CA K dr a σ) : Ok (fX4_read σ (K.1 7)) (fun r t => r = oI (fltL (lawT a.1)) ∧ PL K dr a (lawT a.1) t) := by
  have h0 : gR 4 0 σ (K.1 7) = some (K.1 1) ∧ isO 8 σ (K.1 1) = true := by
    obtain ⟨I, R, h1, _⟩ := h
    exact ⟨kr_7_0 h1, kO_1 h1⟩
  unfold fX4_read
  refine Ok.r h0.1 (Ok.v h0.2 (c_rewind h) ?_)
  intro w1 t1 g1
  refine Ok.w (g1.put142 (Y := LX []) 0 (fun I R _ => ⟨pk_us, fun i t e => by simp at e⟩)) ?_
  intro t2 g2
  have h240 := g2.l240.1
  refine Ok.m3 (fun d x5 x6 t => ∃ k, k + d = 242 ∧ x6 = nI k ∧ ((x5 = 1 ∧ ∃ l0 p, TR K dr a (LX (l0.flatMap clC)) p none t ∧ (l0.flatMap clC).length ≤ p ∧ k ≤ p ∧ lawT a.1 = apL l0 (lwF a.1 (d - 1) p)) ∨ (x5 = 0 ∧ ((∃ q p, lawT a.1 = .inl q ∧ TR K dr a LF p (some q) t) ∨ ∃ l p, TR K dr a (LX (l.flatMap clC)) p none t ∧ (l.flatMap clC).length ≤ p ∧ skT a.1 p = p ∧ (atT a.1 p = -1 → lawT a.1 = .inr l) ∧ (atT a.1 p ≠ -1 → lawT a.1 = .inl p))))) ?_ FU 242 _ _ _ (by decide) ⟨0, by omega, rfl, Or.inl ⟨rfl, [], 0, g2, by simp, by omega, ?_⟩⟩
  · rintro j d x5 x6 t ⟨k, hk, rfl, hc⟩ hj
    rcases hc with ⟨rfl, l0, p, g, hl, hkp, el⟩ | ⟨rfl, hc⟩
    · have hp := g.l240.2
      refine Ok.j1 (Ok.bF (show ¬ nI 240 < nI k from fun z => by rw [nI_ltI (by omega) (by omega)] at z; omega) (Ok.bF (by decide) (Ok.v (l_O g) (c_clause g hl) ?_)))
      intro w3 t3 g3
      obtain ⟨d, rfl⟩ : ∃ e, d = e + 2 := ⟨d - 2, by omega⟩
      rw [show d + 2 - 1 = d + 1 from rfl, lw_s] at el
      refine Ok.r g3.tape.1 ?_
      cases e : clT a.1 p with
      | inl q =>
        rw [e] at g3 el
        obtain ⟨p4, g4⟩ := g3
        refine Ok.vE g4.O (t_peekF g4) (Ok.j1 (Ok.bF (by decide) (Ok.j1 (Ok.bT rfl ?_))))
        rw [nI_1]
        exact hj (d + 1) _ _ _ (by omega) ⟨k + 1, by omega, rfl, Or.inr ⟨rfl, Or.inl ⟨q, p4, el, g4⟩⟩⟩
      | inr y =>
        rw [e] at g3 el
        simp only [] at el
        obtain ⟨b1, b2, b3⟩ := cl_g hp e
        have g4 : TR K dr a (LX (l0.flatMap clC ++ clC y.2)) y.1 none t3 := g3
        have eL : l0.flatMap clC ++ clC y.2 = (l0 ++ [y.2]).flatMap clC := by simp
        have hlen : (l0.flatMap clC ++ clC y.2).length ≤ y.1 := by rw [List.length_append]; omega
        rw [eL] at g4 hlen
        have s1 := sk_ge a.1 y.1
        refine Ok.v g4.O (t_peek g4 (LX_ind _)) ?_
        rintro x5 t5 ⟨rfl, g5⟩
        refine Ok.j1 (Ok.b (fun z => ?_) (fun z => ?_))
        · refine Ok.j1 (Ok.bF (by decide) (Ok.r (l_tape g5) (Ok.v g5.O (t_step g5 (LX_ind _)) ?_)))
          rw [if_pos (at_in (by rw [z]; decide))]
          intro w6 t6 g6
          rw [nI_1]
          refine hj (d + 1) _ _ _ (by omega) ⟨k + 1, by omega, rfl, Or.inl ⟨rfl, l0 ++ [y.2], _, g6, by omega, by omega, ?_⟩⟩
          rw [el, if_pos z, show d + 1 - 1 = d from rfl]
          cases lwF a.1 d (skT a.1 y.1 + 1) with
          | inl q => rfl
          | inr l => simp [apL]
        · refine Ok.j1 (Ok.bT rfl ?_)
          rw [nI_1]
          refine hj (d + 1) _ _ _ (by omega) ⟨k + 1, by omega, rfl, Or.inr ⟨rfl, Or.inr ⟨l0 ++ [y.2], _, g5, by omega, sk_sk _ _, fun z2 => ?_, fun z2 => ?_⟩⟩⟩
          · rw [el, if_neg z, if_pos z2]; rfl
          · rw [el, if_neg z, if_neg z2]; rfl
    · have out : Ok ((gR 4 0 t (K.1 7)).bind fun a10 =>
    bo 8 t a10 (fX8_peek t a10) (fun x11 t12 =>
    jo1 (fun (t13 : St) =>
      (gR 4 0 t13 (K.1 7)).bind fun a15 =>
      (gI 8 2 t13 a15).bind fun x16 =>
      some (x16, t13)) (fun j14 =>
      if x11 = (-1) then
        j14 t12
      else
        (gR 4 0 t12 (K.1 7)).bind fun a17 =>
        bo 8 t12 a17 (fX8_fail t12 a17) (fun w18 t19 =>
        j14 t19)))) (fun r t => r = oI (fltL (lawT a.1)) ∧ PL K dr a (lawT a.1) t) := by
        rcases hc with ⟨q, p, el, g⟩ | ⟨l, p, g, hl, e0, k1, k2⟩
        · refine Ok.r (l_tape g) (Ok.vE g.O (t_peekF g) (Ok.j1 (Ok.bT rfl (Ok.r (l_tape g) (Ok.r g.rd.2.2.1 (Ok.p ?_))))))
          rw [el]
          exact ⟨rfl, p, g⟩
        · refine Ok.r (l_tape g) (Ok.v g.O (t_peek g (LX_ind _)) ?_)
          rw [e0]
          rintro x5 t5 ⟨rfl, g5⟩
          refine Ok.j1 (Ok.b (fun z => ?_) (fun z => ?_))
          · refine Ok.r (l_tape g5) (Ok.r g5.rd.2.2.1 (Ok.p ?_))
            rw [k1 z]
            exact ⟨rfl, p, g5⟩
          · refine Ok.r (l_tape g5) (Ok.v g5.O (t_fail g5 (LX_ind _)) ?_)
            intro w6 t6 g6
            refine Ok.r (l_tape g6) (Ok.r g6.rd.2.2.1 (Ok.p ?_))
            rw [k2 z]
            exact ⟨rfl, p, g6.F (by have := g.l240; omega)⟩
      exact Ok.j1 (Ok.b (fun z => out) (fun z => Ok.bT rfl out))
  · show lawT a.1 = apL [] (lwF a.1 241 0)
    unfold lawT
    cases lwF a.1 241 0 <;> rfl
end
