/-! The whole LAND read: the reference -/
def XT : (Nat → Int32) → (Nat → Nat → Int32) → Prop := fun _ _ => True
theorem XT_ind : IndM XT := fun _ _ _ _ => ⟨trivial, trivial⟩
section
variable {M : Mfg} {dr : Int64} {a : Abs} {σ : St} {p : Nat} {f : Option Nat}
/-- behind a clause -/
def ClR (M : Mfg) (dr : Int64) (a : Abs) (c : Lay × Nat × Option Nat) (b : Bool) (t : St) : Prop :=
  (c.2.2 = none ∧ b = c.1.1 ∧ ∃ p', UR M dr a (XM c.1) p' none t ∧ skT a.1 p' = skT a.1 c.2.1) ∨ ∃ q, c.2.2 = some q ∧ ((∃ p', UR M dr a XT p' (some q) t) ∨ ∃ p', UR M dr a XT p' none t ∧ skT a.1 p' = q ∧ atT a.1 q ≠ -1 ∧ atT a.1 q ≠ 59)
def FinR (M : Mfg) (dr : Int64) (a : Abs) (rs : Lay × Option Nat) (t : St) : Prop :=
  (∃ s p, UR M dr a (XM s) p none t ∧ LayR s ∧ rs = (s, endT a.1 s p)) ∨ (∃ q p, rs.2 = some q ∧ UR M dr a XT p (some q) t) ∨ ∃ q p, rs.2 = some q ∧ UR M dr a XT p none t ∧ skT a.1 p = q ∧ atT a.1 q ≠ -1
theorem u_fin {rs : Lay × Option Nat} {t10 : St} (h : FinR M dr a rs t10) : Ok ((gI 10 4 t10 (M.1 0)).bind fun x13 =>
      if x13 = (-1) then
        bo 10 t10 (M.1 0) (fX10_look t10 (M.1 0)) (fun x15 t16 =>
        jo1 (fun (t17 : St) =>
          bo 10 t17 (M.1 0) (fX10_bad t17 (M.1 0)) (fun w19 t20 =>
          (gI 10 4 t20 (M.1 0)).bind fun x21 =>
          some (x21, t20))) (fun j18 =>
          if x15 = (-1) then
            bo 10 t16 (M.1 0) (fX10_isWhole t16 (M.1 0)) (fun x22 t23 =>
            if x22 = 0 then
              j18 t23
            else
              (gI 10 4 t23 (M.1 0)).bind fun x24 =>
              some (x24, t23))
          else
            j18 t16))
      else
        (gI 10 4 t10 (M.1 0)).bind fun x14 =>
        some (x14, t10)) (fun r t => r = oI rs.2 ∧ MA M dr a t ∧ (rs.2 = none → LayR rs.1 ∧ ∃ p, UR M dr a (XM rs.1) p none t)) := by
  rcases h with ⟨s, p, g, hR, er⟩ | ⟨q, p, er, g⟩ | ⟨q, p, er, g, ek, en⟩
  · refine Ok.r g.rd.2.2.2 (Ok.bT rfl (Ok.v g.O (u_look g (XM_ind _)) ?_))
    rintro r1 t1 ⟨rfl, g1⟩
    have bad : rs.2 = some (skT a.1 p) → Ok (bo 10 t1 (M.1 0) (fX10_bad t1 (M.1 0)) (fun w19 t20 =>
          (gI 10 4 t20 (M.1 0)).bind fun x21 =>
          some (x21, t20))) (fun r t => r = oI rs.2 ∧ MA M dr a t ∧ (rs.2 = none → LayR rs.1 ∧ ∃ p, UR M dr a (XM rs.1) p none t)) := by
      intro e2
      refine Ok.v g1.O (u_bad g1 (XM_ind _)) ?_
      intro w t2 g2
      exact Ok.r g2.rd.2.2.2 (Ok.p ⟨by rw [e2], g2.ma, fun q => by rw [e2] at q; cases q⟩)
    refine Ok.j1 (Ok.b (fun z => ?_) (fun z => ?_))
    · refine Ok.vE g1.O (u_whole g1 hR) (Ok.bI bI_0 (fun zf => ?_) (fun zf => ?_))
      · refine bad ?_
        rw [er]; unfold endT; rw [if_neg (fun q => by rw [zf] at q; exact absurd q.2 (by decide))]
      · have e2 : rs.2 = none := by rw [er]; unfold endT; rw [if_pos ⟨z, by simpa using zf⟩]
        refine Ok.r g1.rd.2.2.2 (Ok.p ⟨by rw [e2], g1.ma, fun _ => ?_⟩)
        rw [er]; exact ⟨hR, _, g1⟩
    · refine bad ?_
      rw [er]; unfold endT; rw [if_neg (fun q => z q.1)]
  · exact Ok.r g.rd.2.2.2 (Ok.bF (fun w => by cases (oI_m1 g.f1).mp w) (Ok.r g.rd.2.2.2 (Ok.p ⟨by rw [er], g.ma, fun q => by rw [er] at q; cases q⟩)))
  · refine Ok.r g.rd.2.2.2 (Ok.bT rfl (Ok.v g.O (u_look g XT_ind) ?_))
    rw [ek]
    rintro r1 t1 ⟨rfl, g1⟩
    refine Ok.j1 (Ok.bF en (Ok.v g1.O (u_bad g1 XT_ind) ?_))
    intro w t2 g2
    exact Ok.r g2.rd.2.2.2 (Ok.p ⟨by rw [er], g2.ma, fun q => by rw [er] at q; cases q⟩)
/-- from a clause on to the next, or to the end -/
theorem u_aft {s : Lay} {p k d : Nat} {b : Bool} {rs : Lay × Option Nat} {t29 : St} {P : Int32 → St → Prop} {j : Int32 → Int32 → St → Option (Int32 × St)} (h : ClR M dr a (clA a.1 s p) b t29) (hR : LayR s) (e1 : rdF a.1 (d + 1) s p = rs)
    (hA : ∀ t s' p', UR M dr a (XM s') p' none t → LayR s' → cntL s' = cntL s + 1 → rdF a.1 d s' p' = rs → Ok (j (bI s'.1) 1 t) P) (hZ : ∀ x t, FinR M dr a rs t → Ok (j x 0 t) P) :
    Ok ((gI 10 4 t29 (M.1 0)).bind fun x31 =>
            jo2 (fun (v32 : Int32) (t33 : St) =>
              (gI 10 3 t33 (M.1 0)).bind fun x35 =>
              jo3 (fun (v36 : Int32) (v37 : Int32) (v38 : Nat) =>
                (pV 10 3 t33 v38 (.int (v37 + v36))).bind (fun t40 =>
                j (bI b) v32 t40)) (fun j39 =>
                if v32 = 0 then
                  j39 0 x35 (M.1 0)
                else
                  j39 1 x35 (M.1 0))) (fun j34 =>
              jo1 (fun (t41 : St) =>
                j34 0 t41) (fun j42 =>
                if x31 = (-1) then
                  bo 10 t29 (M.1 0) (fX10_look t29 (M.1 0)) (fun x43 t44 =>
                  if x43 = 59 then
                    j34 1 t44
                  else
                    j42 t44)
                else
                  j42 t29))) P := by
  have stop : ∀ (X : (Nat → Int32) → (Nat → Nat → Int32) → Prop) (p' : Nat) (f : Option Nat) (t33 : St), IndM X → UR M dr a X p' f t33 → (∀ t, UR M dr a X p' f t → FinR M dr a rs t) → Ok ((gI 10 3 t33 (M.1 0)).bind fun x35 => (pV 10 3 t33 (M.1 0) (.int (x35 + 0))).bind (fun t40 => j (bI b) 0 t40)) P := by
    intro X p' f t33 hX g hF
    refine Ok.r g.rd.2.2.1 ?_
    rw [show nI p' + 0 = nI p' from by rw [show (0 : Int32) = nI 0 from rfl, nI_add]; rfl]
    refine Ok.w (g.putP hX (q := p') g.l240.2 (fun e => by subst e; exact g.le)) ?_
    intro t g2
    exact hZ _ _ (hF _ g2)
  rw [rdF] at e1
  rcases h with ⟨ef, rfl, p', g, ek⟩ | ⟨q, ef, ⟨p', g⟩ | ⟨p', g, ek, n1, n2⟩⟩
  · rw [ef] at e1
    simp only [] at e1
    refine Ok.r g.rd.2.2.2 (Ok.j2 (Ok.j1 (Ok.bT rfl (Ok.v g.O (u_look g (XM_ind _)) ?_))))
    rw [ek]
    rintro r1 t1 ⟨rfl, g1⟩
    refine Ok.b (fun z => ?_) (fun z => ?_)
    · rw [if_pos z] at e1
      have hlt := at_lt (T := a.1) (p := skT a.1 (clA a.1 s p).2.1) (by rw [z]; decide)
      have l240 := g1.l240
      refine Ok.r g1.rd.2.2.1 (Ok.j3 (Ok.bF (by decide) ?_))
      show Ok ((pV 10 3 t1 (M.1 0) (.int (nI (skT a.1 (clA a.1 s p).2.1) + 1))).bind _) _
      rw [nI_1]
      refine Ok.w (g1.putP (XM_ind _) (q := skT a.1 (clA a.1 s p).2.1 + 1) (by omega) (fun _ => hlt)) ?_
      intro t2 g2
      exact hA _ _ _ g2 (cl_R hR ef) (cl_B hR.1 ef).2 e1
    · rw [if_neg z] at e1
      refine stop _ _ _ t1 (XM_ind _) g1 (fun t g3 => Or.inl ⟨_, _, g3, cl_R hR ef, ?_⟩)
      rw [← e1]; unfold endT; rw [sk_sk]
  · rw [ef] at e1
    refine Ok.r g.rd.2.2.2 (Ok.j2 (Ok.j1 (Ok.bF (fun w => by cases (oI_m1 g.f1).mp w) ?_)))
    exact stop _ _ _ t29 XT_ind g (fun t g3 => Or.inr (Or.inl ⟨q, _, by rw [← e1], g3⟩))
  · rw [ef] at e1
    refine Ok.r g.rd.2.2.2 (Ok.j2 (Ok.j1 (Ok.bT rfl (Ok.v g.O (u_look g XT_ind) ?_))))
    rw [ek]
    rintro r1 t1 ⟨rfl, g1⟩
    refine Ok.bF n2 (stop _ _ _ t1 XT_ind g1 (fun t g3 => Or.inr (Or.inr ⟨q, _, by rw [← e1], g3, by rw [← ek, sk_sk], n1⟩)))
end
