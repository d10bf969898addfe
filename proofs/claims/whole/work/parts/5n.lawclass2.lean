/-! The LAW's reader: the class, its methods -/
def clC (c : Clz) : List Tk := (match c.1 with
  | none => []
  | some W => W ++ [(63, 0)]) ++ (c.2 ++ [(59, 0)])
def qPr (x : PQ) : PR := match x with
  | .inl q => .inl q
  | .inr y => .inr (y.1, clC y.2)
theorem tl_eq (T : Tap) (c : PR) : tkP (bnP (tkP (exP T c 63) (63, 0)) (smT T 6)) (59, 0) = qPr (tlP T c) := by
  unfold tlP
  cases e : exP T c 63 with
  | inl q => rfl
  | inr y =>
    simp only [tkP, bnP]
    cases e2 : smT T 6 y.1 with
    | inl q => rfl
    | inr z => simp only [qPr, clC, List.append_assoc]
theorem Pg.len {T : Tap} {g : Nat → PR} (hP : Pg T g) {p : Nat} {L : List Tk} (hp : p ≤ T.1) (hl : L.length ≤ p) : ∀ y, g p = .inr y → (L ++ y.2).length ≤ y.1 ∧ y.1 ≤ T.1 ∧ p ≤ y.1 := by
  intro y e
  have := hP _ _ _ hp e
  rw [List.length_append]
  omega
section
variable {K : Cfg} {dr : Int64} {a : Abs} {σ : St} {X Y : (Nat → Int32) → (Nat → Nat → Int32) → Prop} {p : Nat} {f : Option Nat} {L : List Tk} {r : PR}
theorem PC.tape (h : PC K dr a L r σ) : gR 4 0 σ (K.1 7) = some (K.1 1) ∧ isO 8 σ (K.1 1) = true ∧ isO 4 σ (K.1 7) = true ∧ a.1.1 ≤ 240 := by
  rcases h.cs with ⟨q, e, p, g⟩ | ⟨y, e, g⟩
  · exact ⟨l_tape g, g.O, l_O g, g.l240.1⟩
  · exact ⟨l_tape g, g.O, l_O g, g.l240.1⟩
theorem c_expect {c : Int32} (hc : c ≠ -1) (h : PC K dr a L r σ) (hl : ∀ y, r = .inr y → (L ++ y.2).length ≤ y.1 ∧ y.1 ≤ a.1.1) : Ok (fX8_expect σ (K.1 1) c) (fun _ t => PC K dr a L (exP a.1 r c) t) := by
  rcases h.cs with ⟨q, rfl, p, g⟩ | ⟨y, rfl, g⟩
  · exact Ok.of (l_expectF g hc) ⟨p, g⟩
  · refine (l_expect g (LX_ind _) hc).imp ?_
    intro w t g2
    have := hl y rfl
    have := g.l240
    unfold exP
    simp only []
    by_cases z : atT a.1 (skT a.1 y.1) = c
    · rw [if_pos z] at g2 ⊢; exact g2
    · rw [if_neg z] at g2 ⊢; exact ⟨_, g2.F (by omega)⟩
theorem c_put {c v : Int32} (h : PC K dr a L r σ) (hl : ∀ y, r = .inr y → (L ++ y.2).length < 240) : Ok (fX4_put σ (K.1 7) c v) (fun _ t => PC K dr a L (tkP r (c, v)) t) := by
  rcases h.cs with ⟨q, rfl, p, g⟩ | ⟨y, rfl, g⟩
  · exact (l_putF g c v).imp (fun _ t g2 => ⟨p, g2⟩)
  · refine (l_put g (hl y rfl) c v).imp (fun _ t g2 => ?_)
    show TR K dr a (LX (L ++ (y.2 ++ [(c, v)]))) y.1 none t
    rw [← List.append_assoc]; exact g2
theorem c_seq {f : St → Option (Unit × St)} {g : Nat → PR} (h : PC K dr a L r σ) (hg : CPr K dr a f g) (hF : CF K dr a f) (hl : ∀ y, r = .inr y → (L ++ y.2).length ≤ y.1 ∧ y.1 ≤ a.1.1) : Ok (f σ) (fun _ t => PC K dr a L (bnP r g) t) := by
  rcases h.cs with ⟨q, rfl, p, g1⟩ | ⟨y, rfl, g1⟩
  · exact hF p q σ g1
  · exact (hg _ _ _ g1 (hl y rfl).1).imp (fun _ t g2 => PC.to g2)
/-! atoms -/
theorem c_atom {s : Option (Nat → PR)} {k : Nat} (hk : k ≤ 6) {ra rt rs : St → Nat → Int32 → Option (Unit × St)} (hn : s = none → k = 0) (hs : ∀ f, s = some f → 1 ≤ k ∧ CPr K dr a (fun t => rs t (K.1 7) (nI (6 - (k - 1)))) f ∧ Pg a.1 f) : CPr K dr a (fun t => eX4_atom ra rt rs t (K.1 7) (nI (6 - k))) (aoP a.1 s) := by
  intro L p σ h hl
  have hl0 := h.l240
  have hl240 := h.l2 hl
  show Ok (eX4_atom ra rt rs σ (K.1 7) (nI (6 - k))) _
  unfold eX4_atom
  refine Ok.r (l_tape h) (Ok.v h.O (t_peek h (LX_ind _)) ?_)
  rintro x t ⟨rfl, g⟩
  have h1 := sk_ge a.1 p
  have h2 := sk_le a.1 hl0.2
  refine Ok.cE (f8_dg t _) (Ok.bI bI_0 (fun z => ?_) (fun z => ?_))
  · have z' : ¬ dgB (atT a.1 (skT a.1 p)) = true := by rw [z]; decide
    refine Ok.b (fun z1 => ?_) (fun z1 => ?_)
    · have hin : skT a.1 p < a.1.1 := at_in (by rw [z1]; decide)
      refine Ok.v (l_O g) (l_enter g (LX_ind _) hk hin) ?_
      intro r1 t1 g1
      cases s with
      | none =>
        rw [if_pos (hn rfl)] at g1
        obtain ⟨rfl, g1⟩ := g1
        refine Ok.bT rfl (Ok.p ?_)
        unfold aoP
        rw [if_neg z', if_pos z1]
        exact ⟨_, g1.F hl240⟩
      | some f =>
        obtain ⟨hk1, hf, hP⟩ := hs f rfl
        rw [if_neg (by omega)] at g1
        obtain ⟨rfl, g1⟩ := g1
        refine Ok.bF (by decide) ?_
        rw [show nI (6 - k) + 1 = nI (6 - (k - 1)) from by rw [nI_1]; congr 1; omega]
        refine Ok.v (l_O g1) (hf L _ t1 g1 (by omega)) ?_
        intro w2 t2 g2
        obtain ⟨q1, q2, q3, q4⟩ := g2.tape
        refine Ok.r q1 (Ok.v q2 (c_expect (by decide) g2 (fun y e => ⟨(hP.len (show skT a.1 p + 1 ≤ a.1.1 by omega) (by omega) y e).1, (hP.len (show skT a.1 p + 1 ≤ a.1.1 by omega) (L := L) (by omega) y e).2.1⟩)) ?_)
        intro w3 t3 g3
        refine Ok.p ?_
        unfold aoP
        rw [if_neg z', if_pos z1]
        exact g3
    · refine Ok.cE (l_letter t _) (Ok.b (fun z2 => ?_) (fun z2 => ?_))
      · refine Ok.r (l_tape g) (Ok.v g.O (t_fail g (LX_ind _)) ?_)
        intro w2 t2 g2
        refine Ok.p ?_
        unfold aoP
        rw [if_neg z', if_neg z1, if_pos z2]
        exact ⟨_, g2.F hl240⟩
      · have hin : skT a.1 p < a.1.1 := at_in (fun e => z2 (by rw [e]; decide))
        refine Ok.cE (l_letter t _) (Ok.v (l_O g) (l_put g (by omega) _ _) ?_)
        intro w2 t2 g2
        refine Ok.r (l_tape g2) (Ok.v g2.O (t_step g2 (LX_ind _)) ?_)
        rw [if_pos hin]
        intro w3 t3 g3
        refine Ok.p ?_
        unfold aoP
        rw [if_neg z', if_neg z1, if_neg z2]
        exact g3
  · have yd : dgB (atT a.1 (skT a.1 p)) = true := by simpa using z
    have hin := dg_lt a.1 yd
    refine Ok.r (l_tape g) (Ok.v g.O (t_number g (LX_ind _) (m := 4) (by decide)) ?_)
    rintro r1 t1 ⟨rfl, g1⟩
    have en : numT a.1 4 (skT a.1 p) = ((nuF a.1 4 0 (skT a.1 p)).1, (nuF a.1 4 0 (skT a.1 p)).2, if dgB (atT a.1 (nuF a.1 4 0 (skT a.1 p)).2) = true then some (nuF a.1 4 0 (skT a.1 p)).2 else none) := by
      unfold numT; rw [sk_sk, if_pos yd]
    have ea : aoP a.1 s p = nuP a.1 (skT a.1 p) := by unfold aoP; rw [if_pos yd]
    have hb : skT a.1 p + 1 ≤ (nuF a.1 4 0 (skT a.1 p)).2 ∧ (nuF a.1 4 0 (skT a.1 p)).2 ≤ a.1.1 := by
      rw [nuF_y _ _ _ _ yd]
      have := nuF_le a.1 3 (0 * 10 + a.1.2 (skT a.1 p) - 48) (skT a.1 p + 1) hin
      exact ⟨this.2, this.1⟩
    rw [ea]
    rw [en] at g1 ⊢
    by_cases z3 : dgB (atT a.1 (nuF a.1 4 0 (skT a.1 p)).2) = true
    · have e9 : nuP a.1 (skT a.1 p) = .inl (nuF a.1 4 0 (skT a.1 p)).2 := by unfold nuP; rw [if_pos z3]
      rw [if_pos z3] at g1
      rw [e9]
      refine Ok.v (l_O g1) (l_putF (TR.F g1 hl240) _ _) ?_
      intro w2 t2 g2
      exact Ok.p ⟨_, g2⟩
    · have e9 : nuP a.1 (skT a.1 p) = .inr ((nuF a.1 4 0 (skT a.1 p)).2, [(35, (nuF a.1 4 0 (skT a.1 p)).1)]) := by unfold nuP; rw [if_neg z3]
      rw [if_neg z3] at g1
      rw [e9]
      refine Ok.v (l_O g1) (l_put g1 (by omega) _ _) ?_
      intro w2 t2 g2
      exact Ok.p g2
theorem c_atomF {v : Int32} {ra rt rs : St → Nat → Int32 → Option (Unit × St)} : CF K dr a (fun t => eX4_atom ra rt rs t (K.1 7) v) := by
  intro p q σ h
  show Ok (eX4_atom ra rt rs σ (K.1 7) v) _
  unfold eX4_atom
  exact Ok.r (l_tape h) (Ok.vE h.O (t_peekF h) (Ok.cE (f8_dg σ _) (Ok.bT (by decide) (Ok.bF (by decide) (Ok.cE (l_letter σ _) (Ok.bT (by decide) (Ok.r (l_tape h) (Ok.vE h.O (t_failF h) (Ok.p ⟨p, h⟩)))))))))
theorem c_lpC {g : Nat → PR} {ok : Int32 → Bool} {c1 c2 : Int32} {rr : St → Option (Unit × St)} (hg : CPr K dr a rr g) (hP : Pg a.1 g) (hok : ∀ x, ok x = true ↔ (x = c1 ∨ x = c2)) (hm : c1 ≠ -1 ∧ c2 ≠ -1) : CPr K dr a (fun t2 => (gR 4 0 t2 (K.1 7)).bind fun a3 =>
  bo 8 t2 a3 (fX8_peek t2 a3) (fun x4 t5 =>
  lo3 (fun l9 (x6 : Int32) (x7 : Int32) (t8 : St) =>
    if 240 ≤ x7 then
    some ((), t8)
  else
    jo1 (fun (u9 : Unit) =>
      (gR 4 0 t8 (K.1 7)).bind fun a11 =>
      bo 8 t8 a11 (fX8_step t8 a11) (fun w12 t13 =>
      bo 4 t13 (K.1 7) (rr t13) (fun w14 t15 =>
      bo 4 t15 (K.1 7) (fX4_put t15 (K.1 7) x6 0) (fun w16 t17 =>
      (gR 4 0 t17 (K.1 7)).bind fun a18 =>
      bo 8 t17 a18 (fX8_peek t17 a18) (fun x19 t20 =>
      l9 x19 (x7 + 1) t20))))) (fun j10 =>
      if x6 = c1 then
        j10 () 
      else
        if x6 = c2 then
          j10 () 
        else
          some ((), t8))) FU x4 0 t5)) (lpP a.1 ok g 241) := by
  intro L p σ h hl
  refine Ok.r (l_tape h) (Ok.v h.O (t_peek h (LX_ind _)) ?_)
  rintro x t ⟨rfl, g1⟩
  exact c_lp3 hg hP hok hm g1 hl h.l240.2
theorem c_lpCF {c1 c2 : Int32} {rr : St → Option (Unit × St)} (hm : c1 ≠ -1 ∧ c2 ≠ -1) : CF K dr a (fun t2 => (gR 4 0 t2 (K.1 7)).bind fun a3 =>
  bo 8 t2 a3 (fX8_peek t2 a3) (fun x4 t5 =>
  lo3 (fun l9 (x6 : Int32) (x7 : Int32) (t8 : St) =>
    if 240 ≤ x7 then
    some ((), t8)
  else
    jo1 (fun (u9 : Unit) =>
      (gR 4 0 t8 (K.1 7)).bind fun a11 =>
      bo 8 t8 a11 (fX8_step t8 a11) (fun w12 t13 =>
      bo 4 t13 (K.1 7) (rr t13) (fun w14 t15 =>
      bo 4 t15 (K.1 7) (fX4_put t15 (K.1 7) x6 0) (fun w16 t17 =>
      (gR 4 0 t17 (K.1 7)).bind fun a18 =>
      bo 8 t17 a18 (fX8_peek t17 a18) (fun x19 t20 =>
      l9 x19 (x7 + 1) t20))))) (fun j10 =>
      if x6 = c1 then
        j10 () 
      else
        if x6 = c2 then
          j10 () 
        else
          some ((), t8))) FU x4 0 t5)) := by
  intro p q σ h
  exact Ok.r (l_tape h) (Ok.vE h.O (t_peekF h) (c_lp3F hm h))
theorem okT_i (x : Int32) : okT x = true ↔ (x = 42 ∨ x = 47) := by unfold okT; exact decide_eq_true_iff
theorem okS_i (x : Int32) : okS x = true ↔ (x = 43 ∨ x = 45) := by unfold okS; exact decide_eq_true_iff
theorem okA_i (x : Int32) : okA x = true ↔ x = 38 := by unfold okA; exact decide_eq_true_iff
theorem okO_i (x : Int32) : okO x = true ↔ x = 124 := by unfold okO; exact decide_eq_true_iff
theorem c_term {v : Int32} {g : Nat → PR} {ra rt rs : St → Nat → Int32 → Option (Unit × St)} (hg : CPr K dr a (fun t => ra t (K.1 7) v) g) (hP : Pg a.1 g) : CPr K dr a (fun t => eX4_term ra rt rs t (K.1 7) v) (thP a.1 okT g g) := by
  intro L p σ h hl
  show Ok (eX4_term ra rt rs σ (K.1 7) v) _
  unfold eX4_term thP
  refine Ok.v (l_O h) (hg L p σ h hl) ?_
  intro w t g1
  exact c_seq g1 (c_lpC (rr := fun t => ra t (K.1 7) v) hg hP okT_i (by decide)) (c_lpCF (by decide)) (fun y e => ⟨(hP.len h.l240.2 hl y e).1, (hP.len h.l240.2 hl y e).2.1⟩)
theorem c_termF {v : Int32} {ra rt rs : St → Nat → Int32 → Option (Unit × St)} (hg : CF K dr a (fun t => ra t (K.1 7) v)) : CF K dr a (fun t => eX4_term ra rt rs t (K.1 7) v) := by
  intro p q σ h
  show Ok (eX4_term ra rt rs σ (K.1 7) v) _
  unfold eX4_term
  refine Ok.v (l_O h) (hg p q σ h) ?_
  rintro w t ⟨p1, g1⟩
  exact c_lpCF (rr := fun t => ra t (K.1 7) v) (by decide) p1 q t g1
theorem c_sum {v : Int32} {g : Nat → PR} {ra rt rs : St → Nat → Int32 → Option (Unit × St)} (hg : CPr K dr a (fun t => rt t (K.1 7) v) g) (hP : Pg a.1 g) : CPr K dr a (fun t => eX4_sum ra rt rs t (K.1 7) v) (thP a.1 okS g g) := by
  intro L p σ h hl
  show Ok (eX4_sum ra rt rs σ (K.1 7) v) _
  unfold eX4_sum thP
  refine Ok.v (l_O h) (hg L p σ h hl) ?_
  intro w t g1
  exact c_seq g1 (c_lpC (rr := fun t => rt t (K.1 7) v) hg hP okS_i (by decide)) (c_lpCF (by decide)) (fun y e => ⟨(hP.len h.l240.2 hl y e).1, (hP.len h.l240.2 hl y e).2.1⟩)
theorem c_sumF {v : Int32} {ra rt rs : St → Nat → Int32 → Option (Unit × St)} (hg : CF K dr a (fun t => rt t (K.1 7) v)) : CF K dr a (fun t => eX4_sum ra rt rs t (K.1 7) v) := by
  intro p q σ h
  show Ok (eX4_sum ra rt rs σ (K.1 7) v) _
  unfold eX4_sum
  refine Ok.v (l_O h) (hg p q σ h) ?_
  rintro w t ⟨p1, g1⟩
  exact c_lpCF (rr := fun t => rt t (K.1 7) v) (by decide) p1 q t g1
theorem c_sumR {s : Option (Nat → PR)} {v : Int32} {d : Nat} (h : CPr K dr a (fun t => eX4_atom (recX4_atom d).1 (recX4_atom d).2.1 (recX4_atom d).2.2 t (K.1 7) v) (aoP a.1 s)) (hs : ∀ f, s = some f → Pg a.1 f) : CPr K dr a (fun t => (recX4_atom (d + 3)).2.2 t (K.1 7) v) (smA a.1 s) := by
  have h1 : CPr K dr a (fun t => (recX4_atom (d + 1)).1 t (K.1 7) v) (aoP a.1 s) := h
  have h2 : CPr K dr a (fun t => (recX4_atom (d + 2)).2.1 t (K.1 7) v) (tmP a.1 s) := c_term (rt := (recX4_atom (d + 1)).2.1) (rs := (recX4_atom (d + 1)).2.2) h1 (Pg.ao hs)
  exact c_sum (ra := (recX4_atom (d + 2)).1) (rs := (recX4_atom (d + 2)).2.2) h2 (Pg.tm hs)
theorem c_sums : ∀ k d, k ≤ 6 → 3 * k + 3 ≤ d → CPr K dr a (fun t => (recX4_atom d).2.2 t (K.1 7) (nI (6 - k))) (smT a.1 k)
  | 0, d + 3, hk, _ => c_sumR (s := none) (c_atom (s := none) hk (fun _ => rfl) (fun f e => by cases e)) (fun f e => by cases e)
  | k + 1, d + 3, hk, hd => by
    have ih := c_sums k d (by omega) (by omega)
    have hs : ∀ f, some (smT a.1 k) = some f → Pg a.1 f := fun f e => by cases e; exact Pg.sm _ k
    exact c_sumR (s := some (smT a.1 k)) (c_atom (s := some (smT a.1 k)) hk (fun e => by cases e) (fun f e => by cases e; exact ⟨by omega, ih, Pg.sm _ k⟩)) hs
theorem c_sumsF (v : Int32) (d : Nat) : CF K dr a (fun t => (recX4_atom (d + 3)).2.2 t (K.1 7) v) := by
  have h1 : CF K dr a (fun t => (recX4_atom (d + 1)).1 t (K.1 7) v) := c_atomF (ra := (recX4_atom d).1) (rt := (recX4_atom d).2.1) (rs := (recX4_atom d).2.2)
  have h2 : CF K dr a (fun t => (recX4_atom (d + 2)).2.1 t (K.1 7) v) := c_termF (rt := (recX4_atom (d + 1)).2.1) (rs := (recX4_atom (d + 1)).2.2) h1
  exact c_sumF (ra := (recX4_atom (d + 2)).1) (rs := (recX4_atom (d + 2)).2.2) h2
theorem c_sum60 {k : Nat} (hk : k ≤ 6) : CPr K dr a (fun t => fX4_sum 60 t (K.1 7) (nI (6 - k))) (smT a.1 k) := c_sums k 60 hk (by omega)
theorem c_sum60F (v : Int32) : CF K dr a (fun t => fX4_sum 60 t (K.1 7) v) := c_sumsF v 57
end
