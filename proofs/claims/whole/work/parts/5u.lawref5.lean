/-! The LAW's reader: the reference, the whole text -/
section
variable {M : Mfg} {dr : Int64} {a : Abs} {σ : St} {X Y : (Nat → Int32) → (Nat → Nat → Int32) → Prop} {p n0 dp B : Nat} {f : Option Nat} {L : List Tk} {Z : (Nat → Nat → Int32) → Prop} {r : PR} {l0 : List Clz}
theorem r_clause (h : UR M dr a (NX n0 0 L (ZL n0 l0)) p none σ) (hn : a.2.1.1 ≤ n0) (hn4 : n0 ≤ 4) (hL : L = l0.flatMap clM) (hl : L.length ≤ p) (hj : 2 * l0.length ≤ p) : Ok (fX10_clause σ (M.1 0)) (fun _ t => PMq M dr a n0 L l0 (clT a.1 p) t) := by
  have h240 := h.l240
  have hp := h.le
  have hj9 : l0.length < 139 := by omega
  obtain ⟨r14, r8, r9, r10, r11, r12, rc⟩ := r_cod h hn4
  have e9 : aI 0 σ (M.1 9) (nI n0) = some (nI l0.length) := by
    obtain ⟨J, Q, h1, _, h3, _⟩ := h
    exact (na_9 h1 (by omega)).trans (congrArg some h3.2.2.2.2.1)
  have eo : (140 * nI n0) + nI l0.length = nI (140 * n0 + l0.length) := by rw [show (140 : Int32) = nI 140 from rfl, pk_mul, nI_add]
  have s1 := sk_ge a.1 p
  have s2 := sk_le a.1 hp
  unfold fX10_clause
  refine Ok.r r14 (Ok.r r9 (Ok.r r14 (Ok.r e9 (Ok.nE eo (Ok.r h.rd.2.2.2 (Ok.j1 (Ok.bT rfl (Ok.v h.O (u_look h (NX_ind _ _ _ _)) ?_))))))))
  rintro x1 t1 ⟨rfl, g1⟩
  -- a fault ahead of the colon: two steps more, and out
  refine Ok.b (fun z1 => ?_) (fun z1 => ?_)
  · have hin : skT a.1 p < a.1.1 := at_in (by rw [z1]; decide)
    have ex1 : exP a.1 (.inr (p, [])) 121 = .inr (skT a.1 p + 1, []) := by unfold exP; simp only []; rw [if_pos z1]
    refine Ok.r g1.rd.2.2.1 ?_
    rw [nI_1]
    refine Ok.w (g1.putP (NX_ind _ _ _ _) (q := skT a.1 p + 1) (by omega) (fun _ => hin)) ?_
    intro t2 g2
    refine Ok.r g2.rd.2.2.2 (Ok.j1 (Ok.bT rfl (Ok.v g2.O (u_look g2 (NX_ind _ _ _ _)) ?_)))
    rintro x3 t3 ⟨rfl, g3⟩
    have s3 := sk_ge a.1 (skT a.1 p + 1)
    have h3 := g3.l240.2
    refine Ok.b (fun z2 => ?_) (fun z2 => ?_)
    · have hin2 : skT a.1 (skT a.1 p + 1) < a.1.1 := at_in (by rw [z2]; decide)
      have hh : hdP a.1 p = .inr (skT a.1 (skT a.1 p + 1) + 1, []) := by unfold hdP; rw [ex1]; unfold exP; simp only []; rw [if_pos z2]
      refine Ok.r g3.rd.2.2.1 ?_
      rw [nI_1]
      refine Ok.w (g3.putP (NX_ind _ _ _ _) (q := skT a.1 (skT a.1 p + 1) + 1) (by omega) (fun _ => hin2)) ?_
      intro t4 g4
      generalize hy : skT a.1 (skT a.1 p + 1) + 1 = y at hh g4
      obtain ⟨q14, q8, q9, q10, q11, q12, qc⟩ := r_cod g4 hn4
      refine Ok.r g4.rd.2.2.2 (Ok.bT rfl (Ok.r q10 (Ok.r q8 (Ok.r q14 (Ok.r qc (Ok.w (r_tf (v := L.length) g4 hn hn4 hj9) ?_))))))
      intro t5 g5
      refine Ok.v g5.O (u_look g5 (NX_ind _ _ _ _)) ?_
      rintro x6 t6 ⟨rfl, g6⟩
      have s4 := sk_ge a.1 y
      have s5 := sk_le a.1 (show y ≤ a.1.1 by omega)
      have ecl : clT a.1 p = (if atT a.1 (skT a.1 y) = 33 ∨ atT a.1 (skT a.1 y) = 40 then tlP a.1 (cdP a.1 (unT a.1 6) (unT a.1 6) (skT a.1 y))
          else match smT a.1 6 (skT a.1 y) with
            | .inl q => .inl q
            | .inr z => if oqC (atT a.1 (skT a.1 z.1)) = true then tlP a.1 (bnP (.inr (skT a.1 z.1, z.2)) (cdP a.1 (unT a.1 6) (cmP a.1 6))) else .inr (skT a.1 z.1, (none, z.2))) := by
        unfold clT
        rw [hh]
        all_goals
          simp only []
          by_cases z : atT a.1 (skT a.1 y) = 33 ∨ atT a.1 (skT a.1 y) = 40
          · rw [if_pos z, if_pos z]
          · rw [if_neg z, if_neg z]
            cases smT a.1 6 (skT a.1 y) <;> rfl
      have yes : ∀ {τ : St}, UR M dr a (NX n0 0 L (ZT n0 l0 L.length)) (skT a.1 y) none τ → (atT a.1 (skT a.1 y) = 33 ∨ atT a.1 (skT a.1 y) = 40) → Ok (bo 10 τ (M.1 0) (fX10_condition 60 τ (M.1 0)) (fun w77 t78 => eRest (M.1 0) (nI (140 * n0 + l0.length)) 1 t78)) (fun _ t => PMq M dr a n0 L l0 (clT a.1 p) t) := by
        intro τ gτ z
        rw [ecl, if_pos z]
        refine Ok.v gτ.O (m_cond60 hn hn4 L _ _ τ (ZT_I _ _ _) gτ (by omega)) ?_
        intro w7 t7 g7
        exact r_rest1 (q0 := skT a.1 y) g7 (fun z e => Pg.cd (Pg.un a.1 6) (Pg.un a.1 6) _ _ _ s5 e) (by omega) (by omega) hn hn4 hL hj9
      refine Ok.j2 (Ok.j1 (Ok.b (fun z3 => Ok.j2 (Ok.bF (by decide) (yes g6 (Or.inl z3)))) (fun z3 => Ok.v g6.O (u_look g6 (NX_ind _ _ _ _)) ?_)))
      rw [sk_sk]
      rintro x7 t7 ⟨rfl, g7⟩
      refine Ok.b (fun z4 => Ok.j2 (Ok.bF (by decide) (yes g7 (Or.inr z4)))) (fun z4 => Ok.j2 (Ok.bT rfl ?_))
      rw [if_neg (fun q => q.elim z3 z4)] at ecl
      refine Ok.v g7.O (m_sum60 hn hn4 (k := 6) (by omega) L _ _ t7 (ZT_I _ _ _) g7 (by omega)) ?_
      intro w8 t8 g8
      rcases g8.cs with ⟨q, e, g9⟩ | ⟨v, e, g9⟩
      · rw [e] at ecl
        have ecl : clT a.1 p = .inl q := ecl
        rw [ecl]
        refine Ok.r g9.w4.1 (Ok.j2 (Ok.j1 (Ok.bF g9.w4.2 (Ok.bT rfl ?_))))
        have hj10 : l0.length < 140 := by omega
        obtain ⟨_, _, _, u10, u11, _⟩ := g9.r14 (fun J Q g => g.1)
        obtain ⟨_, _, ⟨v10, e10⟩⟩ := g9.rA hn4 hj10
        refine Ok.r u11 (Ok.r u10 (Ok.r e10 (Ok.w (g9.rw hn (k := 11) (i := 140 * n0 + l0.length) v10 (by omega) (NF_rw (by decide))) ?_)))
        intro t10 g10
        exact Ok.j1 (Ok.bT rfl ((r_endF g10 hn hn4 hj10).imp (fun _ t g11 => UG.up g11 (by omega))))
      · have b4 := Pg.sm a.1 6 _ _ _ s5 e
        have s6 := sk_ge a.1 v.1
        have s7 := sk_le a.1 b4.2
        rw [e] at ecl
        have ecl : clT a.1 p = if oqC (atT a.1 (skT a.1 v.1)) = true then tlP a.1 (bnP (.inr (skT a.1 v.1, v.2)) (cdP a.1 (unT a.1 6) (cmP a.1 6))) else .inr (skT a.1 v.1, (none, v.2)) := ecl
        refine Ok.r g9.rd.2.2.2 (Ok.j2 (Ok.j1 (Ok.bT rfl (Ok.v g9.O (u_look g9 (NX_ind _ _ _ _)) ?_))))
        rintro x10 t10 ⟨rfl, g10⟩
        refine Ok.cE (f10_sign t10 _) (Ok.bI bI_0 (fun z5 => ?_) (fun z5 => ?_))
        · rw [if_neg (by rw [z5]; decide)] at ecl
          rw [ecl]
          exact Ok.bT rfl (r_rest0 g10 hn hn4 hL hj9)
        · have z6 : oqC (atT a.1 (skT a.1 v.1)) = true := by simpa using z5
          rw [if_pos z6] at ecl
          rw [ecl]
          refine Ok.bF (by decide) (Ok.v g10.O (m_cmp hn hn4 (k := 6) (by omega) _ _ _ t10 (ZT_I _ _ _) g10 (by rw [List.length_append]; omega)) ?_)
          intro w11 t11 g11
          have g11' : PM M dr a n0 0 256 L (ZT n0 l0 L.length) (bnP (.inr (skT a.1 v.1, v.2)) (cmP a.1 6)) t11 := PM.to g11
          have la : ∀ y, bnP (.inr (skT a.1 v.1, v.2)) (cmP a.1 6) = .inr y → (L ++ y.2).length ≤ y.1 ∧ y.1 ≤ a.1.1 := by
            intro u eu
            obtain ⟨v1, v2, f1, f2, f3, f4⟩ := bnP_inr (p := u.1) (W := u.2) eu
            cases f1
            have b5 := Pg.cm a.1 6 _ _ _ s7 f2
            rw [f3, f4]
            simp only [List.length_append]
            omega
          refine Ok.v g11'.O (m_and60 hn hn4 (ZT_I _ _ _) g11' la) ?_
          intro w12 t12 g12
          refine Ok.v g12.O (m_or60 hn hn4 (ZT_I _ _ _) g12 (Pg.lenB (by decide) (Pg.un a.1 6) la)) ?_
          intro w13 t13 g13
          have eas : bnP (bnP (bnP (.inr (skT a.1 v.1, v.2)) (cmP a.1 6)) (lpP a.1 okA (unT a.1 6) 241)) (lpP a.1 okO (trP a.1 (unT a.1 6) (unT a.1 6)) 241) = bnP (.inr (skT a.1 v.1, v.2)) (cdP a.1 (unT a.1 6) (cmP a.1 6)) := by
            show _ = bnP (.inr (skT a.1 v.1, v.2)) (fun p => bnP (bnP (cmP a.1 6 p) (lpP a.1 okA (unT a.1 6) 241)) (lpP a.1 okO (trP a.1 (unT a.1 6) (unT a.1 6)) 241))
            simp only [bnP]
            cases cmP a.1 6 (skT a.1 v.1) with
            | inl q => rfl
            | inr u =>
              simp only []
              cases lpP a.1 okA (unT a.1 6) 241 u.1 with
              | inl q => rfl
              | inr u2 =>
                simp only []
                cases lpP a.1 okO (trP a.1 (unT a.1 6) (unT a.1 6)) 241 u2.1 with
                | inl q => rfl
                | inr u3 => simp only [List.append_assoc]
          rw [eas] at g13
          refine r_rest1 (q0 := skT a.1 y) g13 ?_ (by omega) (by omega) hn hn4 hL hj9
          intro u eu
          obtain ⟨v1, v2, f1, f2, f3, f4⟩ := bnP_inr (p := u.1) (W := u.2) eu
          cases f1
          have b5 := Pg.cd (Pg.un a.1 6) (Pg.cm a.1 6) _ _ _ s7 f2
          rw [f3, f4, List.length_append]
          simp only []
          omega
    · have ecl : clT a.1 p = .inl (skT a.1 (skT a.1 p + 1)) := by
        have hh : hdP a.1 p = .inl (skT a.1 (skT a.1 p + 1)) := by unfold hdP; rw [ex1]; unfold exP; simp only []; rw [if_neg z2]
        unfold clT
        rw [hh]
      rw [ecl]
      refine Ok.v g3.O (u_bad g3 (NX_ind _ _ _ _)) ?_
      intro w4 t4 g4
      have g5 := UR.F (B := 300) g4 (by omega)
      obtain ⟨v3, e3⟩ := g5.g5.2
      refine Ok.r e3 (Ok.w (g5.pf 3 (v3 + 1) (by omega) (NF_pf (Or.inl rfl))) ?_)
      intro t6 g6
      exact Ok.r g6.w4.1 (Ok.bF g6.w4.2 (Ok.p g6))
  · have ecl : clT a.1 p = .inl (skT a.1 p) := by
      have hh : hdP a.1 p = .inl (skT a.1 p) := by
        unfold hdP
        have : exP a.1 (.inr (p, [])) 121 = .inl (skT a.1 p) := by unfold exP; simp only []; rw [if_neg z1]
        rw [this]; rfl
      unfold clT
      rw [hh]
    rw [ecl]
    refine Ok.v g1.O (u_bad g1 (NX_ind _ _ _ _)) ?_
    intro w4 t4 g4
    have g5 := UR.F (B := 300) g4 (by omega)
    obtain ⟨v3, e3⟩ := g5.g5.2
    refine Ok.r e3 (Ok.w (g5.pf 3 (v3 + 1) (by omega) (NF_pf (Or.inl rfl))) ?_)
    intro t6 g6
    refine Ok.r g6.w4.1 (Ok.j1 (Ok.bF g6.w4.2 ?_))
    obtain ⟨v4, e4⟩ := g6.g5.2
    refine Ok.r e4 (Ok.w (g6.pf 3 (v4 + 1) (by omega) (NF_pf (Or.inl rfl))) ?_)
    intro t7 g7
    exact Ok.r g7.w4.1 (Ok.bF g7.w4.2 (Ok.p g7))
/-- what a LAW read leaves in the reference -/
def PLm (M : Mfg) (dr : Int64) (a : Abs) (n0 : Nat) (x : Sum Nat (List Clz)) (σ : St) : Prop := match x with
  | .inl _ => MA M dr a σ
  | .inr l => ∃ J Q, MV M J Q dr σ ∧ MR J Q a ∧ (l.flatMap clM).length ≤ 240 ∧ 2 * l.length ≤ 240 ∧ (∀ i t, (l.flatMap clM)[i]? = some t → Q 6 (520 * n0 + i) = rcT t.1 ∧ Q 7 (520 * n0 + i) = t.2) ∧ ZL n0 l Q
theorem clM_le (c : Clz) : (clM c).length ≤ (clC c).length := by
  unfold clM clC
  cases c.1 with
  | none => simp
  | some W => simp; omega
theorem r_readLaw (h : MA M dr a σ) (hn : a.2.1.1 ≤ n0) (hn4 : n0 ≤ 4) : Ok (fX10_readLaw σ (M.1 0) (nI n0)) (fun r t => r = oI (fltL (lawT a.1)) ∧ PLm M dr a n0 (lawT a.1) t) := by
  have h0 : UG M dr a (fun _ _ => True) σ := by
    obtain ⟨J, Q, h1, h2⟩ := h
    exact ⟨J, Q, h1, h2, trivial⟩
  have h240 : a.1.1 ≤ 240 := by
    obtain ⟨J, Q, h1, h2⟩ := h
    exact h2.1.2.1
  unfold fX10_readLaw
  refine Ok.v h0.O (?_ : Ok (fX10_open σ (M.1 0) (nI n0)) (fun _ t => UR M dr a (NX n0 0 [] (ZL n0 [])) 0 none t)) ?_
  · unfold fX10_open
    refine Ok.w (h0.pf (Y := fun J _ => J 14 = nI n0) 14 (nI n0) (by omega) (fun J Q _ => pk_us)) ?_
    intro t1 g1
    refine Ok.w (g1.pf (Y := fun J _ => J 14 = nI n0 ∧ J 3 = nI 0) 3 0 (by omega) (fun J Q g => ⟨by rw [pk_un (by decide)]; exact g, pk_us⟩)) ?_
    intro t2 g2
    refine Ok.w (g2.pf (Y := fun J _ => J 14 = nI n0 ∧ J 3 = nI 0 ∧ J 4 = -1) 4 (-1) (by omega) (fun J Q g => ⟨by rw [pk_un (by decide)]; exact g.1, by rw [pk_un (by decide)]; exact g.2, pk_us⟩)) ?_
    intro t3 g3
    refine Ok.w (g3.pf (Y := fun J _ => J 14 = nI n0 ∧ J 3 = nI 0 ∧ J 4 = -1 ∧ J 5 = nI 0) 5 0 (by omega) (fun J Q g => ⟨by rw [pk_un (by decide)]; exact g.1, by rw [pk_un (by decide)]; exact g.2.1, by rw [pk_un (by decide)]; exact g.2.2, pk_us⟩)) ?_
    intro t4 g4
    obtain ⟨_, s8, s9, _, _, _⟩ := g4.r14 (n0 := n0) (fun J Q g => g.1)
    refine Ok.r s8 (Ok.w (g4.rw (Y := fun J Q => (J 14 = nI n0 ∧ J 3 = nI 0 ∧ J 4 = -1 ∧ J 5 = nI 0) ∧ Q 8 n0 = nI 0) hn (k := 8) (i := n0) 0 (by omega) (fun J Q g => ⟨g, by rw [updR_s, pk_us]; rfl⟩)) ?_)
    intro t5 g5
    obtain ⟨_, _, s9, _, _, _⟩ := g5.r14 (n0 := n0) (fun J Q g => g.1.1)
    refine Ok.r s9 (Ok.w (g5.rw (Y := UX a (NX n0 0 [] (ZL n0 [])) 0 none) hn (k := 9) (i := n0) 0 (by omega) ?_) ?_)
    · rintro J Q ⟨⟨k1, k2, k3, k4⟩, k5⟩
      refine ⟨⟨k1, k4, ?_, fun i t e => by simp at e, ?_, fun i c e => by simp at e⟩, k2, k3, by omega, fun q e => (by cases e), fun _ => by omega⟩
      · rw [updR_n _ _ (by decide)]; exact k5
      · rw [updR_s, pk_us]; rfl
    intro t6 g6
    exact Ok.p g6
  intro w1 t1 g1
  refine Ok.v g1.O (r_clause g1 hn hn4 rfl (by simp) (by simp)) ?_
  intro w2 t2 g2
  have fin : ∀ {q : Nat} {t : St}, lawT a.1 = .inl q → UG M dr a (NF n0 300 q) t → Ok (bo 10 t (M.1 0) (fX10_atEnd t (M.1 0)) (fun x10 t11 => some (x10, t11))) (fun r t => r = oI (fltL (lawT a.1)) ∧ PLm M dr a n0 (lawT a.1) t) := by
    intro q t el g
    refine Ok.v g.O (?_ : Ok (fX10_atEnd t (M.1 0)) (fun r u => r = nI q ∧ u = t)) ?_
    · unfold fX10_atEnd
      exact Ok.r g.w4.1 (Ok.bF g.w4.2 (Ok.r g.w4.1 (Ok.p ⟨rfl, rfl⟩)))
    rintro r u ⟨rfl, rfl⟩
    refine Ok.p ?_
    rw [el]
    obtain ⟨J, Q, k1, k2, _⟩ := g
    exact ⟨rfl, J, Q, k1, k2⟩
  refine Ok.m1 (fun d t => (∃ l0 p x, d + p ≥ 240 ∧ PMq M dr a n0 (l0.flatMap clM) l0 x t ∧ (l0.flatMap clC).length ≤ p ∧ (l0.flatMap clM).length ≤ p ∧ 2 * l0.length ≤ p ∧ p ≤ a.1.1 ∧ x = clT a.1 p ∧ lawT a.1 = apL l0 (lwF a.1 (d + 1) p))) ?_ FU 240 _ (by decide) ⟨[], 0, _, by omega, g2, by simp, by simp, by simp, by omega, rfl, ?_⟩
  · rintro j d t ⟨l0, p, x, hd, g, hl, hlm, hl2, hp, ex, el⟩ hj
    rw [lw_s, ← ex] at el
    cases x with
    | inl q =>
      have g' : UG M dr a (NF n0 300 q) t := g
      exact Ok.r g'.w4.1 (Ok.j1 (Ok.bF g'.w4.2 (fin el g')))
    | inr y =>
      have g' : UR M dr a (NX n0 0 (l0.flatMap clM ++ clM y.2) (ZL n0 (l0 ++ [y.2]))) y.1 none t := g
      simp only [] at el
      obtain ⟨b1, b2, b3⟩ := cl_g hp ex.symm
      have eM : l0.flatMap clM ++ clM y.2 = (l0 ++ [y.2]).flatMap clM := by simp
      have eC : l0.flatMap clC ++ clC y.2 = (l0 ++ [y.2]).flatMap clC := by simp
      have lC : ((l0 ++ [y.2]).flatMap clC).length ≤ y.1 := by rw [← eC, List.length_append]; omega
      have lM : ((l0 ++ [y.2]).flatMap clM).length ≤ y.1 := by
        have := clM_le y.2
        rw [← eM, List.length_append]; omega
      rw [eM] at g'
      have s1 := sk_ge a.1 y.1
      have s2 := sk_le a.1 b2
      have l2' : 2 * (l0 ++ [y.2]).length ≤ y.1 := by simp only [List.length_append, List.length_cons, List.length_nil]; omega
      refine Ok.r g'.rd.2.2.2 (Ok.j1 (Ok.bT rfl (Ok.v g'.O (u_look g' (NX_ind _ _ _ _)) ?_)))
      rintro x3 t3 ⟨rfl, g3⟩
      refine Ok.b (fun z => ?_) (fun z => ?_)
      · have hin : skT a.1 y.1 < a.1.1 := at_in (by rw [z]; decide)
        refine Ok.r g3.rd.2.2.1 ?_
        rw [nI_1]
        refine Ok.w (g3.putP (NX_ind _ _ _ _) (q := skT a.1 y.1 + 1) (by omega) (fun _ => hin)) ?_
        intro t4 g4
        refine Ok.v g4.O (r_clause g4 hn hn4 rfl (by omega) (by omega)) ?_
        intro w5 t5 g5
        refine hj (d - 1) _ (by omega) ⟨l0 ++ [y.2], skT a.1 y.1 + 1, _, by omega, g5, by omega, by omega, by omega, by omega, rfl, ?_⟩
        rw [el, if_pos z, show d - 1 + 1 = d by omega]
        cases lwF a.1 d (skT a.1 y.1 + 1) with
        | inl q => rfl
        | inr l => simp [apL]
      · by_cases z2 : atT a.1 (skT a.1 y.1) = -1
        · rw [if_neg z, if_pos z2] at el
          have el' : lawT a.1 = .inr (l0 ++ [y.2]) := el
          refine Ok.v g3.O (?_ : Ok (fX10_atEnd t3 (M.1 0)) (fun r u => r = -1 ∧ UR M dr a (NX n0 0 ((l0 ++ [y.2]).flatMap clM) (ZL n0 (l0 ++ [y.2]))) (skT a.1 y.1) none u)) ?_
          · unfold fX10_atEnd
            refine Ok.r g3.rd.2.2.2 (Ok.bT rfl (Ok.v g3.O (u_look g3 (NX_ind _ _ _ _)) ?_))
            rw [sk_sk]
            rintro x4 t4 ⟨rfl, g4⟩
            exact Ok.bT z2 (Ok.r g4.rd.2.2.2 (Ok.p ⟨rfl, g4⟩))
          rintro r4 t4 ⟨rfl, g4⟩
          refine Ok.p ?_
          rw [el']
          obtain ⟨J, Q, k1, k2, k3, _⟩ := g4
          exact ⟨rfl, J, Q, k1, k2, by omega, by omega, k3.2.2.2.1, k3.2.2.2.2⟩
        · rw [if_neg z, if_neg z2] at el
          have el' : lawT a.1 = .inl (skT a.1 y.1) := el
          refine Ok.v g3.O (?_ : Ok (fX10_atEnd t3 (M.1 0)) (fun r u => r = nI (skT a.1 y.1) ∧ MA M dr a u)) ?_
          · unfold fX10_atEnd
            refine Ok.r g3.rd.2.2.2 (Ok.bT rfl (Ok.v g3.O (u_look g3 (NX_ind _ _ _ _)) ?_))
            rw [sk_sk]
            rintro x4 t4 ⟨rfl, g4⟩
            refine Ok.bF z2 (Ok.v g4.O (u_bad g4 (NX_ind _ _ _ _)) ?_)
            intro w5 t5 g5
            exact Ok.r g5.rd.2.2.2 (Ok.p ⟨rfl, g5.ma⟩)
          rintro r4 t4 ⟨rfl, g4⟩
          refine Ok.p ?_
          rw [el']
          exact ⟨rfl, g4⟩
  · show lawT a.1 = apL [] (lwF a.1 241 0)
    unfold lawT
    cases lwF a.1 241 0 <;> rfl
end
