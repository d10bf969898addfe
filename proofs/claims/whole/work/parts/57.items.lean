/-! The items of a clause: letter, number -/
def itT (e : Nat) (x : Int32) : Option Nat := if zv (4 * e) 0 = x then some 0 else if zv (4 * e) 1 = x then some 1 else if zv (4 * e) 2 = x then some 2 else if zv (4 * e) 3 = x then some 3 else none
def itmA (T : Tap) (e : Nat) : Nat → Int32 → (Nat → Int32) → Nat → (Nat → Int32) × Nat × Option Nat
  | 0, _, v, p => (v, skT T p, none)
  | d + 1, x, v, p => match itT e (atT T (skT T p)) with
    | none => (v, skT T p, if atT T (skT T p) = -1 ∨ atT T (skT T p) = 59 then none else some (skT T p))
    | some k => if bt x k = true then (v, skT T p, some (skT T p)) else match (bndT T (zv (4 * e + 1) k) (zv (4 * e + 2) k) (skT T p + 1)).2.2 with
      | some q => (upd v k (bndT T (zv (4 * e + 1) k) (zv (4 * e + 2) k) (skT T p + 1)).1, (bndT T (zv (4 * e + 1) k) (zv (4 * e + 2) k) (skT T p + 1)).2.1, some q)
      | none => itmA T e d (x ||| bitm k) (upd v k (bndT T (zv (4 * e + 1) k) (zv (4 * e + 2) k) (skT T p + 1)).1) (bndT T (zv (4 * e + 1) k) (zv (4 * e + 2) k) (skT T p + 1)).2.1
theorem itm_n (T : Tap) (e d : Nat) (x : Int32) (v : Nat → Int32) (p : Nat) (h : itT e (atT T (skT T p)) = none) : itmA T e (d + 1) x v p = (v, skT T p, if atT T (skT T p) = -1 ∨ atT T (skT T p) = 59 then none else some (skT T p)) := by
  rw [itmA, h]
theorem itm_d (T : Tap) (e d : Nat) (x : Int32) (v : Nat → Int32) (p k : Nat) (h : itT e (atT T (skT T p)) = some k) (hb : bt x k = true) : itmA T e (d + 1) x v p = (v, skT T p, some (skT T p)) := by
  rw [itmA, h]; simp only []; rw [if_pos hb]
theorem itm_f (T : Tap) (e d : Nat) (x : Int32) (v : Nat → Int32) (p k q : Nat) (h : itT e (atT T (skT T p)) = some k) (hb : ¬ bt x k = true) (hq : (bndT T (zv (4 * e + 1) k) (zv (4 * e + 2) k) (skT T p + 1)).2.2 = some q) : itmA T e (d + 1) x v p = (upd v k (bndT T (zv (4 * e + 1) k) (zv (4 * e + 2) k) (skT T p + 1)).1, (bndT T (zv (4 * e + 1) k) (zv (4 * e + 2) k) (skT T p + 1)).2.1, some q) := by
  rw [itmA, h]; simp only []; rw [if_neg hb, hq]
theorem itm_y (T : Tap) (e d : Nat) (x : Int32) (v : Nat → Int32) (p k : Nat) (h : itT e (atT T (skT T p)) = some k) (hb : ¬ bt x k = true) (hq : (bndT T (zv (4 * e + 1) k) (zv (4 * e + 2) k) (skT T p + 1)).2.2 = none) : itmA T e (d + 1) x v p = itmA T e d (x ||| bitm k) (upd v k (bndT T (zv (4 * e + 1) k) (zv (4 * e + 2) k) (skT T p + 1)).1) (bndT T (zv (4 * e + 1) k) (zv (4 * e + 2) k) (skT T p + 1)).2.1 := by
  rw [itmA, h]; simp only []; rw [if_neg hb, hq]
theorem itT_lt {e : Nat} {x : Int32} {k : Nat} (h : itT e x = some k) : k < 4 ∧ x = zv (4 * e) k := by
  unfold itT at h
  by_cases h0 : zv (4 * e) 0 = x
  · rw [if_pos h0] at h; cases h; exact ⟨by omega, h0.symm⟩
  rw [if_neg h0] at h
  by_cases h1 : zv (4 * e) 1 = x
  · rw [if_pos h1] at h; cases h; exact ⟨by omega, h1.symm⟩
  rw [if_neg h1] at h
  by_cases h2 : zv (4 * e) 2 = x
  · rw [if_pos h2] at h; cases h; exact ⟨by omega, h2.symm⟩
  rw [if_neg h2] at h
  by_cases h3 : zv (4 * e) 3 = x
  · rw [if_pos h3] at h; cases h; exact ⟨by omega, h3.symm⟩
  rw [if_neg h3] at h; cases h
theorem itT_at {e : Nat} {x : Int32} {k : Nat} (hk : k < 4) (h : zv (4 * e) k = x) (hn : ∀ i, i < k → zv (4 * e) i ≠ x) : itT e x = some k := by
  unfold itT
  match k, hk with
  | 0, _ => rw [if_pos h]
  | 1, _ => rw [if_neg (hn 0 (by omega)), if_pos h]
  | 2, _ => rw [if_neg (hn 0 (by omega)), if_neg (hn 1 (by omega)), if_pos h]
  | 3, _ => rw [if_neg (hn 0 (by omega)), if_neg (hn 1 (by omega)), if_neg (hn 2 (by omega)), if_pos h]
theorem itT_no {e : Nat} {x : Int32} (hn : ∀ i, i < 4 → zv (4 * e) i ≠ x) : itT e x = none := by
  unfold itT
  rw [if_neg (hn 0 (by omega)), if_neg (hn 1 (by omega)), if_neg (hn 2 (by omega)), if_neg (hn 3 (by omega))]
theorem zl_d : ∀ e, e < 2 → ∀ k, k < 4 → zv (4 * e) k ≠ -1 ∧ zv (4 * e) k ≠ 59 := by decide +kernel
/-- how many of the four are set -/
def bC4 (x : Int32) : Nat := (if bt x 0 = true then 1 else 0) + (if bt x 1 = true then 1 else 0) + (if bt x 2 = true then 1 else 0) + (if bt x 3 = true then 1 else 0)
theorem bC4_le (x : Int32) : bC4 x ≤ 4 := by
  unfold bC4
  split <;> split <;> split <;> split <;> omega
theorem bC4_new {x : Int32} {k : Nat} (hk : k < 4) (h : ¬ bt x k = true) : bC4 (x ||| bitm k) = bC4 x + 1 := by
  have e : ∀ i, i < 4 → bt (x ||| bitm k) i = (bt x i || decide (i = k)) := fun i hi => by rw [b_or, bt_bitm k (by omega) i (by omega)]
  unfold bC4
  rw [e 0 (by omega), e 1 (by omega), e 2 (by omega), e 3 (by omega)]
  have h' : bt x k = false := by simpa using h
  match k, hk with
  | 0, _ => simp [h']; omega
  | 1, _ => simp [h']; omega
  | 2, _ => simp [h']; omega
  | 3, _ => simp [h']
theorem bC4_0 : bC4 0 = 0 := by decide +kernel
/-- the statics -/
def StK (K : Cfg) : Prop := ∀ j, j < 8 → rd K.2.2.2.2.2 (K.2.2.2.2.2.1.1 j) = some (zc j) ∧ ¬ setK K (K.2.2.2.2.2.1.1 j)
theorem aI_rd {σ : St} {a t z : Nat} {f : Nat → Int32} (h : rd σ a = some (.inl (t, z, .inl f))) {i : Nat} (hi : i < z) (hz : z < 2 ^ 31) : aI t σ a (nI i) = some (f i) := by
  simp only [aI, h]
  rw [if_pos ⟨trivial, inb_nI hi hz⟩, nI_clamp (by omega)]
section
variable {K : Cfg} {dr : Int64} {a : Abs} {σ : St} {X : (Nat → Int32) → (Nat → Nat → Int32) → Prop} {p : Nat} {f : Option Nat}
theorem TR.sm (h : TR K dr a X p f σ) : Sm (setK K) K.2.2.2.2.2 σ := by
  obtain ⟨I, R, ⟨R', _, _, _, hs⟩, _⟩ := h
  exact hs
theorem st_rd (hs : Sm (setK K) K.2.2.2.2.2 σ) (hz : StK K) {j : Nat} (hj : j < 8) : rd σ (σ.1.1 j) = some (zc j) := by
  obtain ⟨h1, h2⟩ := hz j hj
  rw [hs.1]
  unfold rd
  rw [hs.2 _ h2, hs.1]
  exact h1
theorem t_place (hs : Sm (setK K) K.2.2.2.2.2 σ) (hz : StK K) {e : Nat} (he : e < 2) (x : Int32) : fX2_placeOf σ x (σ.1.1 (4 * e)) = some (oI (itT e x), σ) := by
  have q := st_rd hs hz (j := 4 * e) (by omega)
  have q' : rd σ (σ.1.1 (4 * e)) = some (.inl (4, 4, .inl (zv (4 * e)))) := by
    rw [q]; unfold zc; rw [if_pos (by omega)]
  refine Ok.toE ?_
  unfold fX2_placeOf
  have en : aN σ (σ.1.1 (4 * e)) = some (nI 4) := by simp only [aN, q']; rfl
  refine Ok.f1 4 0 (fun k y => y = nI k ∧ ∀ i, i < k → zv (4 * e) i ≠ x) (by omega) (by omega) ⟨rfl, fun i hi => by omega⟩ ?_ ?_
  · rintro j k y hk ⟨rfl, hn⟩ hj
    refine Ok.r en (Ok.bF (nI_ge hk (by omega)) (Ok.r (aI_rd q' hk (by decide)) (Ok.b (fun z => ?_) (fun z => ?_))))
    · exact Ok.p ⟨by rw [itT_at hk z hn]; rfl, rfl⟩
    · rw [nI_1]
      refine hj _ ⟨rfl, fun i hi => ?_⟩
      by_cases w : i = k
      · rw [w]; exact z
      · exact hn i (by omega)
  · rintro j y ⟨rfl, hn⟩
    exact Ok.r en (Ok.bT (nI_le (Nat.le_refl _) (by omega)) (Ok.p ⟨by rw [itT_no hn]; rfl, rfl⟩))
theorem kr_tape (h : TR K dr a X p f σ) : gR 2 0 σ (K.1 3) = some (K.1 1) := by
  obtain ⟨I, R, h1, _⟩ := h
  exact kr_3_0 h1
set_option maxHeartbeats 800000 in
theorem t_items {Xv : (Nat → Int32) → (Nat → Int32) → (Nat → Nat → Int32) → Prop} {v : Nat → Int32} {rr off e : Nat} (h : TR K dr a (Xv v) p none σ) (hz : StK K) (he : e < 2) (hX : ∀ v, Ind (Xv v))
    (hW : ∀ (v : Nat → Int32) (k : Nat) (x : Int32) (t : St) (q : Nat) (f : Option Nat), k < 4 → TR K dr a (Xv v) q f t → ∃ u, sI 0 t (K.1 rr) (nI (off + k)) x = some u ∧ TR K dr a (Xv (upd v k x)) q f u) :
    Ok (fX2_items σ (K.1 3) (σ.1.1 (4 * e)) (σ.1.1 (4 * e + 1)) (σ.1.1 (4 * e + 2)) (K.1 rr) (nI off)) (fun _ t => TR K dr a (Xv (itmA a.1 e 5 0 v p).1) (itmA a.1 e 5 0 v p).2.1 (itmA a.1 e 5 0 v p).2.2 t) := by
  have hs0 := h.sm
  unfold fX2_items
  generalize hr : itmA a.1 e 5 0 v p = rs
  refine Ok.f3 5 0 (fun k x y t => y = nI k ∧ t.1 = σ.1 ∧ ((∃ v' q, TR K dr a (Xv v') q none t ∧ bC4 x = k ∧ itmA a.1 e (5 - k) x v' q = rs) ∨ ∃ q, rs.2.2 = some q ∧ TR K dr a (Xv rs.1) rs.2.1 (some q) t)) (by omega) (by omega) ⟨rfl, rfl, Or.inl ⟨v, p, h, bC4_0, hr⟩⟩ ?_ ?_
  · rintro j k x y t hk ⟨rfl, et, hI⟩ hj
    refine Ok.bF (show ¬ nI 4 < nI k from fun q => by have := (nI_ltI (a := 4) (b := k) (by omega) (by omega)).mp q; omega) ?_
    rcases hI.symm with ⟨q, e1, g⟩ | ⟨v', q, g, hc, e1⟩
    · refine Ok.r (kr_tape g) (Ok.vE g.O (t_peekF g) (Ok.bT rfl (Ok.p ?_)))
      rw [e1]; exact g
    obtain ⟨d, hd⟩ : ∃ d, 5 - k = d + 1 := ⟨4 - k, by omega⟩
    have hd' : 5 - (k + 1) = d := by omega
    rw [hd] at e1
    refine Ok.r (kr_tape g) (Ok.v g.O (t_peek g (hX _)) ?_)
    rintro r1 t1 ⟨rfl, g1⟩
    have hend : (atT a.1 (skT a.1 q) = -1 ∨ atT a.1 (skT a.1 q) = 59) → rs = (v', skT a.1 q, none) := by
      intro w
      rw [← e1, itm_n _ _ _ _ _ _ ?_, if_pos w]
      cases ei : itT e (atT a.1 (skT a.1 q)) with
      | none => rfl
      | some i =>
        obtain ⟨i1, i2⟩ := itT_lt ei
        obtain ⟨z1, z2⟩ := zl_d e he i i1
        rw [i2] at w
        rcases w with w | w
        · exact absurd w z1
        · exact absurd w z2
    refine Ok.b (fun z => ?_) (fun z => ?_)
    · rw [hend (Or.inl z)]; exact Ok.p g1
    have ek : skT a.1 (skT a.1 q) = skT a.1 q := sk_sk a.1 q
    refine Ok.r (kr_tape g1) (Ok.v g1.O (t_peek g1 (hX _)) ?_)
    rw [ek]
    rintro r2 t2 ⟨rfl, g2⟩
    refine Ok.b (fun z2 => ?_) (fun z2 => ?_)
    · rw [hend (Or.inr z2)]; exact Ok.p g2
    refine Ok.r (kr_tape g2) (Ok.v g2.O (t_peek g2 (hX _)) ?_)
    rw [ek]
    rintro r3 t3 ⟨rfl, g3⟩
    have et3 : t3.1 = σ.1 := by rw [g3.sm.1, hs0.1]
    have pl : fX2_placeOf t3 (atT a.1 (skT a.1 q)) (σ.1.1 (4 * e)) = some (oI (itT e (atT a.1 (skT a.1 q))), t3) := by
      rw [← et3]; exact t_place g3.sm hz he _
    refine Ok.cE pl (Ok.j2 (Ok.j1 ?_))
    have bad : rs = (v', skT a.1 q, some (skT a.1 q)) → Ok ((gR 2 0 t3 (K.1 3)).bind fun a20 => bo 8 t3 a20 (fX8_fail t3 a20) (fun w21 t22 => j x (nI k + 1) t22)) (fun _ t => TR K dr a (Xv rs.1) rs.2.1 rs.2.2 t) := by
      intro er
      refine Ok.r (kr_tape g3) (Ok.v g3.O (t_fail g3 (hX _)) ?_)
      intro w t4 g4
      rw [nI_1]
      refine hj _ _ _ ⟨rfl, by rw [g4.sm.1, hs0.1], Or.inr ⟨skT a.1 q, by rw [er], by rw [er]; exact g4⟩⟩
    cases ei : itT e (atT a.1 (skT a.1 q)) with
    | none =>
      refine Ok.bT rfl (bad ?_)
      rw [← e1, itm_n _ _ _ _ _ _ ei, if_neg (fun w => w.elim z z2)]
    | some i =>
      obtain ⟨i1, i2⟩ := itT_lt ei
      have hlt : skT a.1 q < a.1.1 := by
        apply Classical.byContradiction
        intro w
        refine z ?_
        unfold atT; rw [if_neg w]
      refine Ok.bF (show ¬ nI i = -1 from fun w => by cases (oI_m1 (f := some i) (fun q e => by cases e; omega)).mp w) ?_
      rw [show oI (some i) = nI i from rfl, bit_at x (by omega)]
      refine Ok.bI bI_1 (fun zb => bad ?_) (fun zb => ?_)
      · rw [← e1, itm_d _ _ _ _ _ _ _ ei zb]
      refine Ok.n (Ok.r (kr_tape g3) (Ok.v g3.O (t_step g3 (hX _)) ?_))
      rw [if_pos hlt]
      intro w4 t4 g4
      have et4 : t4.1 = σ.1 := by rw [g4.sm.1, hs0.1]
      have q1 := st_rd g4.sm hz (j := 4 * e + 1) (by omega)
      have q2 := st_rd g4.sm hz (j := 4 * e + 2) (by omega)
      rw [et4] at q1 q2
      unfold zc at q1 q2
      rw [if_neg (by omega)] at q1 q2
      refine Ok.r (kr_tape g4) (Ok.r (aI_rd q1 i1 (by decide)) (Ok.r (aI_rd q2 i1 (by decide)) (Ok.v g4.O (t_bounded g4 (hX _) _ _) ?_)))
      rintro r5 t5 ⟨rfl, g5⟩
      rw [nI_add]
      refine Ok.w (hW _ i _ _ _ _ i1 g5) ?_
      intro t6 g6
      rw [nI_1]
      refine hj _ _ _ ⟨rfl, by rw [g6.sm.1, hs0.1], ?_⟩
      cases eb : (bndT a.1 (zv (4 * e + 1) i) (zv (4 * e + 2) i) (skT a.1 q + 1)).2.2 with
      | none =>
        rw [eb] at g6
        refine Or.inl ⟨_, _, g6, ?_, ?_⟩
        · exact (bC4_new i1 zb).trans (by rw [hc])
        · rw [hd', ← e1, itm_y _ _ _ _ _ _ _ ei zb eb]; rfl
      | some u =>
        rw [eb] at g6
        refine Or.inr ⟨u, ?_, ?_⟩
        · rw [← e1, itm_f _ _ _ _ _ _ _ _ ei zb eb]
        · rw [← e1, itm_f _ _ _ _ _ _ _ _ ei zb eb]; exact g6
  · rintro j x y t ⟨rfl, et, hI⟩
    refine Ok.bT (by decide) (Ok.p ?_)
    rcases hI with ⟨v', q, g, hc, e1⟩ | ⟨q, e1, g⟩
    · have := bC4_le x; omega
    · rw [e1]; exact g
end
