/-! The LAND's clauses: the class -/
def Lay0 : Lay := (false, 0, 0, 0, zv 3, (fun _ => 0), fun _ => 0)
theorem clA_s {T : Tap} {s : Lay} {p : Nat} (h : atT T (skT T p) = 115) (h2 : s.1 = false) : clA T s p = ((true, s.2.1, s.2.2.1, s.2.2.2.1, (itmA T 0 5 0 s.2.2.2.2.1 (skT T p + 1)).1, s.2.2.2.2.2), (itmA T 0 5 0 s.2.2.2.2.1 (skT T p + 1)).2) := by
  unfold clA; rw [if_pos ⟨h, h2⟩]
theorem clA_t {T : Tap} {s : Lay} {p : Nat} (h : atT T (skT T p) = 116) (h2 : s.2.1 < 4) : clA T s p = ((s.1, s.2.1 + 1, s.2.2.1, s.2.2.2.1, s.2.2.2.2.1, lay4 s.2.1 (itmA T 1 5 0 (zv 7) (skT T p + 1)).1 s.2.2.2.2.2.1, s.2.2.2.2.2.2), (itmA T 1 5 0 (zv 7) (skT T p + 1)).2) := by
  unfold clA; rw [if_neg (fun q => by rw [h] at q; exact absurd q.1 (by decide)), if_pos ⟨h, h2⟩]
theorem clA_r {T : Tap} {s : Lay} {p : Nat} (h : atT T (skT T p) = 114) (h2 : s.2.2.1 < 5) : clA T s p = ((s.1, s.2.1, s.2.2.1 + 1, max s.2.2.2.1 (rowF T s.2.2.1 6 0 s.2.2.2.2.2.2 (skT T p + 1)).1, s.2.2.2.2.1, s.2.2.2.2.2.1, (rowF T s.2.2.1 6 0 s.2.2.2.2.2.2 (skT T p + 1)).2.1), (rowF T s.2.2.1 6 0 s.2.2.2.2.2.2 (skT T p + 1)).2.2) := by
  unfold clA; rw [if_neg (fun q => by rw [h] at q; exact absurd q.1 (by decide)), if_neg (fun q => by rw [h] at q; exact absurd q.1 (by decide)), if_pos ⟨h, h2⟩]
theorem clA_n {T : Tap} {s : Lay} {p : Nat} (h1 : ¬ (atT T (skT T p) = 115 ∧ s.1 = false)) (h2 : ¬ (atT T (skT T p) = 116 ∧ s.2.1 < 4)) (h3 : ¬ (atT T (skT T p) = 114 ∧ s.2.2.1 < 5)) : clA T s p = (s, skT T p, some (skT T p)) := by
  unfold clA; rw [if_neg h1, if_neg h2, if_neg h3]
theorem at_lt {T : Tap} {p : Nat} (h : atT T p ≠ -1) : p < T.1 := by
  apply Classical.byContradiction
  intro w; apply h; unfold atT; rw [if_neg w]
section
variable {K : Cfg} {dr : Int64} {a : Abs} {σ : St} {X Y : (Nat → Int32) → (Nat → Nat → Int32) → Prop} {p : Nat} {f : Option Nat}
theorem TR.cpy5 (h : TR K dr a X p f σ) (hz : StK K) {t : Nat} (ht : t < 4) (hX : ∀ I R, X I R → Y I (updR R 5 (va_cpy (zv 7) (R 5) 0 (4 * t) 4))) : ∃ u, cpr σ (σ.1.1 7) 0 (K.1 5) (nI (4 * t)) 4 = some u ∧ TR K dr a Y p f u := by
  obtain ⟨I, R, h1, h2, h3, h4⟩ := h
  obtain ⟨u, e, g⟩ := h1.cpyS hz 7 5 (4 * t) (by decide) (by decide) rfl rfl (fun _ => rfl) (by omega) (by decide)
  exact ⟨u, e, I, _, g, h2.scr (fun _ _ => rfl) (fun k hk => updR_n _ _ (fun q => hk (by unfold scR; omega))), hX _ _ h3, h4⟩
theorem TR.cpy4 (h : TR K dr a X p f σ) (hz : StK K) (hX : ∀ I R, X I R → Y I (updR R 4 (va_cpy (zv 3) (R 4) 0 0 4))) : ∃ u, cpr σ (σ.1.1 3) 0 (K.1 4) 0 4 = some u ∧ TR K dr a Y p f u := by
  obtain ⟨I, R, h1, h2, h3, h4⟩ := h
  obtain ⟨u, e, g⟩ := h1.cpyS hz 3 4 0 (by decide) (by decide) rfl rfl (fun _ => rfl) (by omega) (by decide)
  exact ⟨u, e, I, _, g, h2.scr (fun _ _ => rfl) (fun k hk => updR_n _ _ (fun q => hk (by unfold scR; omega))), hX _ _ h3, h4⟩
set_option maxHeartbeats 1000000 in
theorem t_clause {s : Lay} (h : TR K dr a (XL s) p none σ) (hz : StK K) (hT : s.2.1 ≤ 4) (hR : s.2.2.1 ≤ 5) (hw : s.2.2.2.1 ≤ 6) : Ok (fX2_clause σ (K.1 3)) (fun _ t => TR K dr a (XL (clA a.1 s p).1) (clA a.1 s p).2.1 (clA a.1 s p).2.2 t) := by
  unfold fX2_clause
  refine Ok.r (kr_tape h) (Ok.v h.O (t_peek h (XL_ind _)) ?_)
  rintro r1 t1 ⟨rfl, g1⟩
  obtain ⟨x64, x65, x66, x67, x1, x2, x3, xo⟩ := XL.rd g1
  refine Ok.j1 ?_
  have bad : clA a.1 s p = (s, skT a.1 p, some (skT a.1 p)) → Ok ((gR 2 0 t1 (K.1 3)).bind fun a7 => bo 8 t1 a7 (fX8_fail t1 a7) (fun w8 t9 => some ((), t9))) (fun _ t => TR K dr a (XL (clA a.1 s p).1) (clA a.1 s p).2.1 (clA a.1 s p).2.2 t) := by
    intro e
    rw [e]
    refine Ok.r (kr_tape g1) (Ok.v g1.O (t_fail g1 (XL_ind _)) ?_)
    intro w t2 g2
    exact Ok.p g2
  have c114 : ¬ (atT a.1 (skT a.1 p) = 115 ∧ s.1 = false) → ¬ (atT a.1 (skT a.1 p) = 116 ∧ s.2.1 < 4) → Ok (if atT a.1 (skT a.1 p) = 114 then
          (gI 2 6 t1 (K.1 3)).bind fun x10 =>
          if 5 ≤ x10 then
            (gR 2 0 t1 (K.1 3)).bind fun a7 => bo 8 t1 a7 (fX8_fail t1 a7) (fun w8 t9 => some ((), t9))
          else
            (gR 2 0 t1 (K.1 3)).bind fun a11 =>
            bo 8 t1 a11 (fX8_step t1 a11) (fun w12 t13 =>
            bo 2 t13 (K.1 3) (fX2_row t13 (K.1 3)) (fun w14 t15 =>
            (gI 2 6 t15 (K.1 3)).bind fun x16 =>
            (pV 2 6 t15 (K.1 3) (.int (x16 + 1))).bind (fun t17 =>
            some ((), t17))))
        else
          (gR 2 0 t1 (K.1 3)).bind fun a7 => bo 8 t1 a7 (fX8_fail t1 a7) (fun w8 t9 => some ((), t9))) (fun _ t => TR K dr a (XL (clA a.1 s p).1) (clA a.1 s p).2.1 (clA a.1 s p).2.2 t) := by
    intro n1 n2
    refine Ok.b (fun z => ?_) (fun z => bad (clA_n n1 n2 (fun q => z q.1)))
    refine Ok.r x66 (Ok.bI (show (5 : Int32) ≤ nI s.2.2.1 ↔ 5 ≤ s.2.2.1 from nI_leI (a := 5) (by omega) (by omega)) (fun z5 => bad (clA_n n1 n2 (fun q => by omega))) (fun z5 => ?_))
    rw [clA_r z (by omega)]
    refine Ok.r (kr_tape g1) (Ok.v g1.O (t_step g1 (XL_ind _)) ?_)
    rw [if_pos (at_lt (by rw [z]; decide))]
    intro w t2 g2
    refine Ok.v (XL.rd g2).2.2.2.2.2.2.2 (t_row g2 (by omega) hw) ?_
    intro w3 t3 g3
    refine Ok.r (XL.rd g3).2.2.1 ?_
    rw [nI_1]
    refine Ok.w (g3.put66 (Y := XL (s.1, s.2.1, s.2.2.1 + 1, max s.2.2.2.1 (rowF a.1 s.2.2.1 6 0 s.2.2.2.2.2.2 (skT a.1 p + 1)).1, s.2.2.2.2.1, s.2.2.2.2.2.1, (rowF a.1 s.2.2.1 6 0 s.2.2.2.2.2.2 (skT a.1 p + 1)).2.1)) _ ?_) ?_
    · rintro I R ⟨y1, y2, y3, y4, y5⟩
      exact ⟨by rw [pk_un (by decide)]; exact y1, by rw [pk_un (by decide)]; exact y2, pk_us, by rw [pk_un (by decide)]; exact y4, y5⟩
    · intro t4 g4
      exact Ok.p g4
  have c116 : ¬ (atT a.1 (skT a.1 p) = 115 ∧ s.1 = false) → Ok (if atT a.1 (skT a.1 p) = 116 then
        (gI 2 5 t1 (K.1 3)).bind fun x18 =>
        if 4 ≤ x18 then
          (if atT a.1 (skT a.1 p) = 114 then
          (gI 2 6 t1 (K.1 3)).bind fun x10 =>
          if 5 ≤ x10 then
            (gR 2 0 t1 (K.1 3)).bind fun a7 => bo 8 t1 a7 (fX8_fail t1 a7) (fun w8 t9 => some ((), t9))
          else
            (gR 2 0 t1 (K.1 3)).bind fun a11 =>
            bo 8 t1 a11 (fX8_step t1 a11) (fun w12 t13 =>
            bo 2 t13 (K.1 3) (fX2_row t13 (K.1 3)) (fun w14 t15 =>
            (gI 2 6 t15 (K.1 3)).bind fun x16 =>
            (pV 2 6 t15 (K.1 3) (.int (x16 + 1))).bind (fun t17 =>
            some ((), t17))))
        else
          (gR 2 0 t1 (K.1 3)).bind fun a7 => bo 8 t1 a7 (fX8_fail t1 a7) (fun w8 t9 => some ((), t9)))
        else
          (gI 2 5 t1 (K.1 3)).bind fun x19 =>
          nam (x19 * 4 : Int32) (fun x20 =>
          (gI 2 5 t1 (K.1 3)).bind fun x21 =>
          (pV 2 5 t1 (K.1 3) (.int (x21 + 1))).bind (fun t22 =>
          (gR 2 0 t22 (K.1 3)).bind fun a23 =>
          bo 8 t22 a23 (fX8_step t22 a23) (fun w24 t25 =>
          (gR 2 2 t25 (K.1 3)).bind fun a26 =>
          (cpr t25 (t25.1.1 7) 0 a26 x20 4).bind (fun t27 =>
          (gR 2 2 t27 (K.1 3)).bind fun a28 =>
          bo 2 t27 (K.1 3) (fX2_items t27 (K.1 3) (t27.1.1 4) (t27.1.1 5) (t27.1.1 6) a28 x20) (fun w29 t30 =>
          some ((), t30))))))
      else
        (if atT a.1 (skT a.1 p) = 114 then
          (gI 2 6 t1 (K.1 3)).bind fun x10 =>
          if 5 ≤ x10 then
            (gR 2 0 t1 (K.1 3)).bind fun a7 => bo 8 t1 a7 (fX8_fail t1 a7) (fun w8 t9 => some ((), t9))
          else
            (gR 2 0 t1 (K.1 3)).bind fun a11 =>
            bo 8 t1 a11 (fX8_step t1 a11) (fun w12 t13 =>
            bo 2 t13 (K.1 3) (fX2_row t13 (K.1 3)) (fun w14 t15 =>
            (gI 2 6 t15 (K.1 3)).bind fun x16 =>
            (pV 2 6 t15 (K.1 3) (.int (x16 + 1))).bind (fun t17 =>
            some ((), t17))))
        else
          (gR 2 0 t1 (K.1 3)).bind fun a7 => bo 8 t1 a7 (fX8_fail t1 a7) (fun w8 t9 => some ((), t9)))) (fun _ t => TR K dr a (XL (clA a.1 s p).1) (clA a.1 s p).2.1 (clA a.1 s p).2.2 t) := by
    intro n1
    refine Ok.b (fun z => ?_) (fun z => c114 n1 (fun q => z q.1))
    refine Ok.r x65 (Ok.bI (show (4 : Int32) ≤ nI s.2.1 ↔ 4 ≤ s.2.1 from nI_leI (a := 4) (by omega) (by omega)) (fun z4 => c114 n1 (fun q => by omega)) (fun z4 => ?_))
    rw [clA_t z (by omega)]
    refine Ok.r x65 (Ok.nE (show nI s.2.1 * 4 = nI (4 * s.2.1) from by rw [show (4 : Int32) = nI 4 from rfl, pk_mul, Nat.mul_comm]) (Ok.r x65 ?_))
    rw [nI_1]
    refine Ok.w (g1.put65 (Y := fun I R => I 64 = bI s.1 ∧ I 65 = nI (s.2.1 + 1) ∧ I 66 = nI s.2.2.1 ∧ I 67 = nI s.2.2.2.1 ∧ (∀ i, i < 4 → R 4 i = s.2.2.2.2.1 i) ∧ (∀ i, i < 4 * s.2.1 → R 5 i = s.2.2.2.2.2.1 i) ∧ (∀ i, i < 30 → R 6 i = s.2.2.2.2.2.2 i)) _ ?_) ?_
    · rintro I R ⟨y1, y2, y3, y4, y5⟩
      exact ⟨by rw [pk_un (by decide)]; exact y1, pk_us, by rw [pk_un (by decide)]; exact y3, by rw [pk_un (by decide)]; exact y4, y5⟩
    intro t2 g2
    have iY : Ind (fun I R => I 64 = bI s.1 ∧ I 65 = nI (s.2.1 + 1) ∧ I 66 = nI s.2.2.1 ∧ I 67 = nI s.2.2.2.1 ∧ (∀ i, i < 4 → R 4 i = s.2.2.2.2.1 i) ∧ (∀ i, i < 4 * s.2.1 → R 5 i = s.2.2.2.2.2.1 i) ∧ (∀ i, i < 30 → R 6 i = s.2.2.2.2.2.2 i)) := by
      rintro I R v ⟨h1, h2, h3, h4, h5⟩
      refine ⟨⟨?_, ?_, ?_, ?_, h5⟩, ⟨?_, ?_, ?_, ?_, h5⟩⟩ <;> rw [pk_un (by decide)] <;> assumption
    refine Ok.r (kr_tape g2) (Ok.v g2.O (t_step g2 iY) ?_)
    rw [if_pos (at_lt (by rw [z]; decide))]
    intro w t3 g3
    have r5 : gR 2 2 t3 (K.1 3) = some (K.1 5) := by
      obtain ⟨I, R, h1, _⟩ := g3
      exact kr_3_2 h1
    refine Ok.r r5 (Ok.w (g3.cpy5 (Y := XL (s.1, s.2.1 + 1, s.2.2.1, s.2.2.2.1, s.2.2.2.2.1, lay4 s.2.1 (zv 7) s.2.2.2.2.2.1, s.2.2.2.2.2.2)) hz (by omega) ?_) ?_)
    · rintro I R ⟨y1, y2, y3, y4, y5, y6, y7⟩
      refine ⟨y1, y2, y3, y4, fun i hi => ?_, fun i hi => ?_, fun i hi => ?_⟩
      · rw [updR_n _ _ (by decide)]; exact y5 i hi
      · rw [updR_s]
        show va_cpy (zv 7) (R 5) 0 (4 * s.2.1) 4 i = lay4 s.2.1 (zv 7) s.2.2.2.2.2.1 i
        have hi' : i < 4 * (s.2.1 + 1) := hi
        unfold va_cpy lay4
        by_cases q : 4 * s.2.1 ≤ i ∧ i < 4 * s.2.1 + 4
        · rw [if_pos q, if_pos q, Nat.zero_add]
        · rw [if_neg q, if_neg q]; exact y6 i (by omega)
      · rw [updR_n _ _ (by decide)]; exact y7 i hi
    intro t4 g4
    refine Ok.r (XL.rd g4).2.2.2.2.2.1 (Ok.v (XL.rd g4).2.2.2.2.2.2.2 (t_items (e := 1) (rr := 5) (off := 4 * s.2.1) (Xv := fun v => XL (s.1, s.2.1 + 1, s.2.2.1, s.2.2.2.1, s.2.2.2.2.1, lay4 s.2.1 v s.2.2.2.2.2.1, s.2.2.2.2.2.2)) g4 hz (by decide) (fun v => XL_ind _) ?_) ?_)
    · intro v k x t q f hk g
      refine g.row5 (i := 4 * s.2.1 + k) (by omega) x ?_
      rintro I R ⟨y1, y2, y3, y4, y5, y6, y7⟩
      refine ⟨y1, y2, y3, y4, fun i hi => ?_, fun i hi => ?_, fun i hi => ?_⟩
      · rw [updR_n _ _ (by decide)]; exact y5 i hi
      · rw [updR_s]
        have y := y6 i hi
        have y' : R 5 i = lay4 s.2.1 v s.2.2.2.2.2.1 i := y
        show upd (R 5) (4 * s.2.1 + k) x i = lay4 s.2.1 (upd v k x) s.2.2.2.2.2.1 i
        unfold lay4 at y' ⊢
        unfold upd
        by_cases q : i = 4 * s.2.1 + k
        · rw [if_pos q, if_pos (by omega), if_pos (by omega)]
        · rw [if_neg q, y']
          by_cases q2 : 4 * s.2.1 ≤ i ∧ i < 4 * s.2.1 + 4
          · rw [if_pos q2, if_pos q2, if_neg (by omega)]
          · rw [if_neg q2, if_neg q2]
      · rw [updR_n _ _ (by decide)]; exact y7 i hi
    · intro w5 t5 g5
      exact Ok.p g5
  refine Ok.b (fun z => ?_) (fun z => c116 (fun q => z q.1))
  refine Ok.r x64 (Ok.bI bI_0 (fun zs => ?_) (fun zs => c116 (fun q => zs q.2)))
  refine Ok.bT rfl ?_
  rw [clA_s z zs]
  refine Ok.w (g1.put64 (Y := XL (true, s.2.1, s.2.2.1, s.2.2.2.1, s.2.2.2.2.1, s.2.2.2.2.2)) _ ?_) ?_
  · rintro I R ⟨y1, y2, y3, y4, y5⟩
    exact ⟨pk_us, by rw [pk_un (by decide)]; exact y2, by rw [pk_un (by decide)]; exact y3, by rw [pk_un (by decide)]; exact y4, y5⟩
  intro t2 g2
  refine Ok.r (kr_tape g2) (Ok.v g2.O (t_step g2 (XL_ind _)) ?_)
  rw [if_pos (at_lt (by rw [z]; decide))]
  intro w t3 g3
  refine Ok.r (XL.rd g3).2.2.2.2.1 (Ok.v (XL.rd g3).2.2.2.2.2.2.2 (t_items (e := 0) (rr := 4) (off := 0) (Xv := fun v => XL (true, s.2.1, s.2.2.1, s.2.2.2.1, v, s.2.2.2.2.2)) g3 hz (by decide) (fun v => XL_ind _) ?_) ?_)
  · intro v k x t q f hk g
    refine g.row4 (i := 0 + k) (by omega) x ?_
    rintro I R ⟨y1, y2, y3, y4, y5, y6, y7⟩
    refine ⟨y1, y2, y3, y4, fun i hi => ?_, fun i hi => ?_, fun i hi => ?_⟩
    · rw [updR_s, Nat.zero_add]
      show upd (R 4) k x i = upd v k x i
      unfold upd
      by_cases q : i = k
      · rw [if_pos q, if_pos q]
      · rw [if_neg q, if_neg q]; exact y5 i hi
    · rw [updR_n _ _ (by decide)]; exact y6 i hi
    · rw [updR_n _ _ (by decide)]; exact y7 i hi
  · intro w5 t5 g5
    exact Ok.p g5
end
