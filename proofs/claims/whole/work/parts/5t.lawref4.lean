/-! The LAW's reader: the reference, clauses -/
def clM (c : Clz) : List Tk := c.1.getD [] ++ c.2
def ofL (l : List Clz) (i : Nat) : Nat := ((l.take i).flatMap clM).length
def ZL (n0 : Nat) (l : List Clz) (Q : Nat → Nat → Int32) : Prop := Q 9 n0 = nI l.length ∧ ∀ i c, l[i]? = some c → Q 10 (140 * n0 + i) = nI (ofL l i) ∧ Q 11 (140 * n0 + i) = nI (ofL l i + (c.1.getD []).length) ∧ Q 12 (140 * n0 + i) = nI (ofL l i + (c.1.getD []).length + c.2.length)
def ZT (n0 : Nat) (l : List Clz) (v : Nat) (Q : Nat → Nat → Int32) : Prop := ZL n0 l Q ∧ Q 10 (140 * n0 + l.length) = nI v
def ZU (n0 : Nat) (l : List Clz) (v w : Nat) (Q : Nat → Nat → Int32) : Prop := ZT n0 l v Q ∧ Q 11 (140 * n0 + l.length) = nI w
theorem ZL_I (n0 : Nat) (l : List Clz) : ZI (ZL n0 l) := by
  rintro Q Q' h ⟨h1, h2⟩
  unfold ZL
  rw [h 9 (by decide) (by decide), h 10 (by decide) (by decide), h 11 (by decide) (by decide), h 12 (by decide) (by decide)]
  exact ⟨h1, h2⟩
theorem ZT_I (n0 : Nat) (l : List Clz) (v : Nat) : ZI (ZT n0 l v) := by
  rintro Q Q' h ⟨h1, h2⟩
  exact ⟨ZL_I n0 l Q Q' h h1, by rw [h 10 (by decide) (by decide)]; exact h2⟩
theorem ZU_I (n0 : Nat) (l : List Clz) (v w : Nat) : ZI (ZU n0 l v w) := by
  rintro Q Q' h ⟨h1, h2⟩
  exact ⟨ZT_I n0 l v Q Q' h h1, by rw [h 11 (by decide) (by decide)]; exact h2⟩
def eEnd (a0 : Nat) (x5 : Int32) (t34 : St) : Option (Unit × St) :=
  (gR 10 12 t34 a0).bind fun a36 =>
  (gR 10 8 t34 a0).bind fun a37 =>
  (gI 10 14 t34 a0).bind fun x38 =>
  (aI 0 t34 a37 x38).bind fun x39 =>
  (sI 0 t34 a36 x5 x39).bind (fun t40 =>
  (gR 10 9 t40 a0).bind fun a41 =>
  (gI 10 14 t40 a0).bind fun x42 =>
  (aI 0 t40 a41 x42).bind fun x43 =>
  (sI 0 t40 a41 x42 (x43 + 1)).bind (fun t44 =>
  some ((), t44)))
def eRest (a0 : Nat) (x5 : Int32) (x27 : Int32) (t28 : St) : Option (Unit × St) :=
  (gR 10 11 t28 a0).bind fun a30 =>
            (gR 10 10 t28 a0).bind fun a31 =>
            (aI 0 t28 a31 x5).bind fun x32 =>
            (sI 0 t28 a30 x5 x32).bind (fun t33 =>
            jo1 (fun (t34 : St) => eEnd a0 x5 t34) (fun j35 =>
              if x27 = 0 then
                j35 t33
              else
                (gI 10 4 t33 a0).bind fun x45 =>
                if x45 = (-1) then
                  bo 10 t33 a0 (fX10_look t33 a0) (fun x46 t47 =>
                  if x46 = 63 then
                    (gI 10 3 t47 a0).bind fun x48 =>
                    (pV 10 3 t47 a0 (.int (x48 + 1))).bind (fun t49 =>
                    (gR 10 11 t49 a0).bind fun a50 =>
                    (gR 10 8 t49 a0).bind fun a51 =>
                    (gI 10 14 t49 a0).bind fun x52 =>
                    (aI 0 t49 a51 x52).bind fun x53 =>
                    (sI 0 t49 a50 x5 x53).bind (fun t54 =>
                    bo 10 t54 a0 (fX10_sum 60 t54 a0) (fun w55 t56 =>
                    j35 t56)))
                  else
                    bo 10 t47 a0 (fX10_bad t47 a0) (fun w57 t58 =>
                    some ((), t58)))
                else
                  j35 t33))
def PMq (M : Mfg) (dr : Int64) (a : Abs) (n0 : Nat) (L : List Tk) (l0 : List Clz) (x : PQ) (σ : St) : Prop := match x with
  | .inl q => UG M dr a (NF n0 300 q) σ
  | .inr y => UR M dr a (NX n0 0 (L ++ clM y.2) (ZL n0 (l0 ++ [y.2]))) y.1 none σ
section
variable {M : Mfg} {dr : Int64} {a : Abs} {σ : St} {X Y : (Nat → Int32) → (Nat → Nat → Int32) → Prop} {p n0 dp B : Nat} {f : Option Nat} {L : List Tk} {Z : (Nat → Nat → Int32) → Prop} {r : PR} {l0 : List Clz}
theorem UG.r14 (h : UG M dr a X σ) (hX : ∀ J Q, X J Q → J 14 = nI n0) : gI 10 14 σ (M.1 0) = some (nI n0) ∧ gR 10 8 σ (M.1 0) = some (M.1 8) ∧ gR 10 9 σ (M.1 0) = some (M.1 9) ∧ gR 10 10 σ (M.1 0) = some (M.1 10) ∧ gR 10 11 σ (M.1 0) = some (M.1 11) ∧ gR 10 12 σ (M.1 0) = some (M.1 12) := by
  obtain ⟨J, Q, h1, _, h3⟩ := h
  exact ⟨(nr_14 h1).trans (congrArg some (hX J Q h3)), nr_8 h1, nr_9 h1, nr_10 h1, nr_11 h1, nr_12 h1⟩
theorem UG.rA (h : UG M dr a X σ) (hn4 : n0 ≤ 4) {j : Nat} (hj : j < 140) : (∃ v, aI 0 σ (M.1 8) (nI n0) = some v) ∧ (∃ v, aI 0 σ (M.1 9) (nI n0) = some v) ∧ ∃ v, aI 0 σ (M.1 10) (nI (140 * n0 + j)) = some v := by
  obtain ⟨J, Q, h1, _, h3⟩ := h
  exact ⟨⟨_, na_8 h1 (by omega)⟩, ⟨_, na_9 h1 (by omega)⟩, ⟨_, na_10 h1 (by omega)⟩⟩
theorem NF_rw {q k i : Nat} {v : Int32} (hk : k ≠ 8) : ∀ J Q, NF n0 B q J Q → NF n0 B q J (updR Q k (upd (Q k) i v)) := by
  rintro J Q ⟨h1, h2, h3, c, h4, h5⟩
  exact ⟨h1, h2, h3, c, h4, by rw [updR_n _ _ (Ne.symm hk)]; exact h5⟩
theorem r_endF {q j : Nat} (h : UG M dr a (NF n0 B q) σ) (hn : a.2.1.1 ≤ n0) (hn4 : n0 ≤ 4) (hj : j < 140) : Ok (eEnd (M.1 0) (nI (140 * n0 + j)) σ) (fun _ t => UG M dr a (NF n0 B q) t) := by
  unfold eEnd
  obtain ⟨r14, r8, r9, r10, r11, r12⟩ := h.r14 (fun J Q g => g.1)
  obtain ⟨⟨v8, e8⟩, _, _⟩ := h.rA hn4 hj
  refine Ok.r r12 (Ok.r r8 (Ok.r r14 (Ok.r e8 (Ok.w (h.rw hn (k := 12) (i := 140 * n0 + j) v8 (by omega) (NF_rw (by decide))) ?_))))
  intro t1 g1
  obtain ⟨s14, _, s9, _, _, _⟩ := g1.r14 (fun J Q g => g.1)
  obtain ⟨_, ⟨v9, e9⟩, _⟩ := g1.rA hn4 hj
  refine Ok.r s9 (Ok.r s14 (Ok.r e9 (Ok.w (g1.rw hn (k := 9) (i := n0) (v9 + 1) (by omega) (NF_rw (by decide))) ?_)))
  intro t2 g2
  exact Ok.p g2
theorem ofL_le (l : List Clz) (c : Clz) {i : Nat} (hi : i ≤ l.length) : ofL (l ++ [c]) i = ofL l i := by
  unfold ofL
  rw [List.take_append_of_le_length hi]
theorem ofL_all (l : List Clz) : ofL l l.length = (l.flatMap clM).length := by
  unfold ofL
  rw [List.take_length]
theorem r_end {c : Clz} (h : UR M dr a (NX n0 0 (L ++ clM c) (ZU n0 l0 L.length (L.length + (c.1.getD []).length))) p none σ) (hn : a.2.1.1 ≤ n0) (hn4 : n0 ≤ 4) (hL : L = l0.flatMap clM) (hj : l0.length < 139) : Ok (eEnd (M.1 0) (nI (140 * n0 + l0.length)) σ) (fun _ t => UR M dr a (NX n0 0 (L ++ clM c) (ZL n0 (l0 ++ [c]))) p none t) := by
  unfold eEnd
  have h' : UG M dr a (UX a (NX n0 0 (L ++ clM c) (ZU n0 l0 L.length (L.length + (c.1.getD []).length))) p none) σ := h
  obtain ⟨r14, r8, r9, r10, r11, r12⟩ := h'.r14 (n0 := n0) (fun J Q g => g.1.1)
  have e8 : aI 0 σ (M.1 8) (nI n0) = some (nI (L ++ clM c).length) := by
    obtain ⟨J, Q, h1, _, h3⟩ := h'
    exact (na_8 h1 (by omega)).trans (congrArg some h3.1.2.2.1)
  refine Ok.r r12 (Ok.r r8 (Ok.r r14 (Ok.r e8 (Ok.w (h'.rw (Y := UX a (NX n0 0 (L ++ clM c) (fun Q => ZU n0 l0 L.length (L.length + (c.1.getD []).length) Q ∧ Q 12 (140 * n0 + l0.length) = nI (L ++ clM c).length)) p none) hn (k := 12) (i := 140 * n0 + l0.length) _ (by omega) ?_) ?_))))
  · rintro J Q ⟨⟨g1, g2, g3, g4, ⟨⟨⟨g5, g6⟩, g7⟩, g8⟩⟩, g9⟩
    have hne : ∀ k, k ≠ 12 → ∀ w, updR Q 12 w k = Q k := fun k hk w => updR_n _ _ hk
    refine ⟨⟨g1, g2, ?_, ?_, ⟨⟨⟨?_, fun i c' e => ?_⟩, ?_⟩, ?_⟩, ?_⟩, g9⟩
    · rw [hne 8 (by decide)]; exact g3
    · rw [hne 6 (by decide), hne 7 (by decide)]; exact g4
    · rw [hne 9 (by decide)]; exact g5
    · have hi : i < l0.length := by
        have := List.getElem?_eq_some_iff.mp e
        exact this.1
      rw [hne 10 (by decide), hne 11 (by decide), updR_s, pk_un (by omega)]
      exact g6 i c' e
    · rw [hne 10 (by decide)]; exact g7
    · rw [hne 11 (by decide)]; exact g8
    · rw [updR_s, pk_us]
  intro t1 g1
  obtain ⟨s14, _, s9, _, _, _⟩ := UG.r14 (n0 := n0) g1 (fun J Q g => g.1.1)
  have e9 : aI 0 t1 (M.1 9) (nI n0) = some (nI l0.length) := by
    obtain ⟨J, Q, h1, _, h3⟩ := g1
    exact (na_9 h1 (by omega)).trans (congrArg some h3.1.2.2.2.2.1.1.1.1)
  refine Ok.r s9 (Ok.r s14 (Ok.r e9 ?_))
  rw [nI_1]
  refine Ok.w (UG.rw (Y := UX a (NX n0 0 (L ++ clM c) (ZL n0 (l0 ++ [c]))) p none) g1 hn (k := 9) (i := n0) _ (by omega) ?_) ?_
  · rintro J Q ⟨⟨g1, g2, g3, g4, ⟨⟨⟨g5, g6⟩, g7⟩, g8⟩, g10⟩, g9⟩
    have hne : ∀ k, k ≠ 9 → ∀ w, updR Q 9 w k = Q k := fun k hk w => updR_n _ _ hk
    refine ⟨⟨g1, g2, ?_, ?_, ?_, fun i c' e => ?_⟩, g9⟩
    · rw [hne 8 (by decide)]; exact g3
    · rw [hne 6 (by decide), hne 7 (by decide)]; exact g4
    · rw [updR_s, pk_us]; simp
    · rw [hne 10 (by decide), hne 11 (by decide), hne 12 (by decide)]
      by_cases q : i < l0.length
      · rw [List.getElem?_append_left q] at e
        rw [ofL_le l0 c (by omega)]
        exact g6 i c' e
      · have hi : i = l0.length := by
          have := (List.getElem?_eq_some_iff.mp e).1
          simp only [List.length_append, List.length_cons, List.length_nil] at this
          omega
        subst hi
        rw [List.getElem?_append_right (Nat.le_refl _)] at e
        simp at e
        subst e
        rw [ofL_le l0 c (Nat.le_refl _), ofL_all, ← hL]
        refine ⟨g7, g8, ?_⟩
        rw [g10]
        unfold clM
        simp only [List.length_append]
        congr 1
        omega
  intro t2 g2
  exact Ok.p g2
/-- a row of the clause's ends written, all else kept -/
theorem r_sf {v w : Nat} (h : UR M dr a (NX n0 dp L (ZT n0 l0 v)) p none σ) (hn : a.2.1.1 ≤ n0) (hn4 : n0 ≤ 4) (hj : l0.length < 139) : ∃ t, sI 0 σ (M.1 11) (nI (140 * n0 + l0.length)) (nI w) = some t ∧ UR M dr a (NX n0 dp L (ZU n0 l0 v w)) p none t := by
  have h' : UG M dr a (UX a (NX n0 dp L (ZT n0 l0 v)) p none) σ := h
  refine h'.rw (Y := UX a (NX n0 dp L (ZU n0 l0 v w)) p none) hn (k := 11) (i := 140 * n0 + l0.length) (nI w) (by omega) ?_
  rintro J Q ⟨⟨g1, g2, g3, g4, ⟨⟨g5, g6⟩, g7⟩⟩, g9⟩
  have hne : ∀ k, k ≠ 11 → ∀ w, updR Q 11 w k = Q k := fun k hk w => updR_n _ _ hk
  refine ⟨⟨g1, g2, ?_, ?_, ⟨⟨?_, fun i c' e => ?_⟩, ?_⟩, ?_⟩, g9⟩
  · rw [hne 8 (by decide)]; exact g3
  · rw [hne 6 (by decide), hne 7 (by decide)]; exact g4
  · rw [hne 9 (by decide)]; exact g5
  · have hi : i < l0.length := (List.getElem?_eq_some_iff.mp e).1
    rw [hne 10 (by decide), hne 12 (by decide), updR_s, pk_un (by omega)]
    exact g6 i c' e
  · rw [hne 10 (by decide)]; exact g7
  · rw [updR_s, pk_us]
theorem r_tf {v : Nat} (h : UR M dr a (NX n0 dp L (ZL n0 l0)) p none σ) (hn : a.2.1.1 ≤ n0) (hn4 : n0 ≤ 4) (hj : l0.length < 139) : ∃ t, sI 0 σ (M.1 10) (nI (140 * n0 + l0.length)) (nI v) = some t ∧ UR M dr a (NX n0 dp L (ZT n0 l0 v)) p none t := by
  have h' : UG M dr a (UX a (NX n0 dp L (ZL n0 l0)) p none) σ := h
  refine h'.rw (Y := UX a (NX n0 dp L (ZT n0 l0 v)) p none) hn (k := 10) (i := 140 * n0 + l0.length) (nI v) (by omega) ?_
  rintro J Q ⟨⟨g1, g2, g3, g4, ⟨g5, g6⟩⟩, g9⟩
  have hne : ∀ k, k ≠ 10 → ∀ w, updR Q 10 w k = Q k := fun k hk w => updR_n _ _ hk
  refine ⟨⟨g1, g2, ?_, ?_, ⟨?_, fun i c' e => ?_⟩, ?_⟩, g9⟩
  · rw [hne 8 (by decide)]; exact g3
  · rw [hne 6 (by decide), hne 7 (by decide)]; exact g4
  · rw [hne 9 (by decide)]; exact g5
  · have hi : i < l0.length := (List.getElem?_eq_some_iff.mp e).1
    rw [hne 11 (by decide), hne 12 (by decide), updR_s, pk_un (by omega)]
    exact g6 i c' e
  · rw [updR_s, pk_us]
theorem r_cod (h : UR M dr a (NX n0 dp L Z) p f σ) (hn4 : n0 ≤ 4) : gI 10 14 σ (M.1 0) = some (nI n0) ∧ gR 10 8 σ (M.1 0) = some (M.1 8) ∧ gR 10 9 σ (M.1 0) = some (M.1 9) ∧ gR 10 10 σ (M.1 0) = some (M.1 10) ∧ gR 10 11 σ (M.1 0) = some (M.1 11) ∧ gR 10 12 σ (M.1 0) = some (M.1 12) ∧ aI 0 σ (M.1 8) (nI n0) = some (nI L.length) := by
  obtain ⟨J, Q, h1, _, h3, _⟩ := h
  exact ⟨(nr_14 h1).trans (congrArg some h3.1), nr_8 h1, nr_9 h1, nr_10 h1, nr_11 h1, nr_12 h1, (na_8 h1 (by omega)).trans (congrArg some h3.2.2.1)⟩
theorem r_tfA {v : Nat} (h : UR M dr a (NX n0 dp L (ZT n0 l0 v)) p f σ) (hn4 : n0 ≤ 4) (hj : l0.length < 139) : aI 0 σ (M.1 10) (nI (140 * n0 + l0.length)) = some (nI v) := by
  obtain ⟨J, Q, h1, _, h3, _⟩ := h
  exact (na_10 h1 (by omega)).trans (congrArg some h3.2.2.2.2.2)
/-- a CLAUSE without a CONDITION -/
theorem r_rest0 {W : List Tk} (h : UR M dr a (NX n0 0 (L ++ W) (ZT n0 l0 L.length)) p none σ) (hn : a.2.1.1 ≤ n0) (hn4 : n0 ≤ 4) (hL : L = l0.flatMap clM) (hj : l0.length < 139) : Ok (eRest (M.1 0) (nI (140 * n0 + l0.length)) 0 σ) (fun _ t => PMq M dr a n0 L l0 (.inr (p, (none, W))) t) := by
  unfold eRest
  obtain ⟨r14, r8, r9, r10, r11, r12, rc⟩ := r_cod h hn4
  refine Ok.r r11 (Ok.r r10 (Ok.r (r_tfA h hn4 hj) (Ok.w (r_sf (w := L.length) h hn hn4 hj) ?_)))
  intro t1 g1
  exact Ok.j1 (Ok.bT rfl (r_end (c := (none, W)) g1 hn hn4 hL hj))
theorem r_rest1 {c : PR} {q0 : Nat} (h : PM M dr a n0 0 258 L (ZT n0 l0 L.length) c σ) (hc : ∀ z, c = .inr z → q0 + z.2.length ≤ z.1 ∧ z.1 ≤ a.1.1) (hq : L.length ≤ q0) (h240 : a.1.1 ≤ 240) (hn : a.2.1.1 ≤ n0) (hn4 : n0 ≤ 4) (hL : L = l0.flatMap clM) (hj : l0.length < 139) : Ok (eRest (M.1 0) (nI (140 * n0 + l0.length)) 1 σ) (fun _ t => PMq M dr a n0 L l0 (tlP a.1 c) t) := by
  unfold eRest
  rcases h.cs with ⟨q, rfl, g⟩ | ⟨y, rfl, g⟩
  · obtain ⟨r14, r8, r9, r10, r11, r12⟩ := g.r14 (fun J Q g => g.1)
    obtain ⟨_, _, ⟨v10, e10⟩⟩ := g.rA hn4 (j := l0.length) (by omega)
    refine Ok.r r11 (Ok.r r10 (Ok.r e10 (Ok.w (g.rw hn (k := 11) (i := 140 * n0 + l0.length) v10 (by omega) (NF_rw (by decide))) ?_)))
    intro t1 g1
    refine Ok.j1 (Ok.bF (by decide) (Ok.r g1.w4.1 (Ok.bF g1.w4.2 ((r_endF g1 hn hn4 (by omega)).imp (fun _ t g2 => UG.up g2 (by omega))))))
  · obtain ⟨r14, r8, r9, r10, r11, r12, rc⟩ := r_cod g hn4
    have hb := hc y rfl
    have hly : (L ++ y.2).length ≤ y.1 := by rw [List.length_append]; omega
    refine Ok.r r11 (Ok.r r10 (Ok.r (r_tfA g hn4 hj) (Ok.w (r_sf (w := L.length) g hn hn4 hj) ?_)))
    intro t1 g1
    refine Ok.j1 (Ok.bF (by decide) (Ok.r g1.rd.2.2.2 (Ok.bT rfl (Ok.v g1.O (u_look g1 (NX_ind _ _ _ _)) ?_))))
    rintro x2 t2 ⟨rfl, g2⟩
    have s1 := sk_ge a.1 y.1
    have s2 := g2.l240
    refine Ok.b (fun z => ?_) (fun z => ?_)
    · have hin : skT a.1 y.1 < a.1.1 := at_in (by rw [z]; decide)
      have ex : exP a.1 (.inr y) 63 = .inr (skT a.1 y.1 + 1, y.2) := by unfold exP; simp only []; rw [if_pos z]
      refine Ok.r g2.rd.2.2.1 ?_
      rw [nI_1]
      refine Ok.w (g2.putP (NX_ind _ _ _ _) (q := skT a.1 y.1 + 1) (by omega) (fun _ => hin)) ?_
      intro t3 g3
      obtain ⟨q14, q8, q9, q10, q11, q12, qc⟩ := r_cod g3 hn4
      have g3' : UR M dr a (NX n0 0 (L ++ y.2) (ZT n0 l0 L.length)) (skT a.1 y.1 + 1) none t3 := g3.imp (fun J Q k => ⟨k.1, k.2.1, k.2.2.1, k.2.2.2.1, k.2.2.2.2.1⟩)
      refine Ok.r q11 (Ok.r q8 (Ok.r q14 (Ok.r qc (Ok.w (r_sf (w := (L ++ y.2).length) g3' hn hn4 hj) ?_))))
      intro t4 g4
      refine Ok.v g4.O (m_sum60 hn hn4 (k := 6) (by omega) _ _ _ t4 (ZU_I _ _ _ _) g4 (by omega)) ?_
      intro w5 t5 g5
      have etl : tlP a.1 (.inr y) = (match smT a.1 6 (skT a.1 y.1 + 1) with
        | .inl q => .inl q
        | .inr z => .inr (z.1, (some y.2, z.2))) := by
        unfold tlP
        rw [ex]
        all_goals (cases e9 : smT a.1 6 (skT a.1 y.1 + 1) <;> simp only [e9])
      rcases g5.cs with ⟨q, e, g6⟩ | ⟨v, e, g6⟩
      · rw [etl, e]
        exact (r_endF g6 hn hn4 (by omega)).imp (fun _ t g7 => UG.up g7 (by omega))
      · rw [etl, e]
        rw [List.append_assoc, List.length_append] at g6
        exact r_end (c := (some y.2, v.2)) g6 hn hn4 hL hj
    · have ex : exP a.1 (.inr y) 63 = .inl (skT a.1 y.1) := by unfold exP; simp only []; rw [if_neg z]
      have etl : tlP a.1 (.inr y) = .inl (skT a.1 y.1) := by unfold tlP; rw [ex]
      refine Ok.v g2.O (u_bad g2 (NX_ind _ _ _ _)) ?_
      intro w3 t3 g3
      rw [etl]
      exact Ok.p (UR.F (B := 300) g3 (by omega))
end
