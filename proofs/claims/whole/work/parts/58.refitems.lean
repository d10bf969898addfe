/-! The items of a clause: the reference -/
theorem itm_sk (T : Tap) (e d : Nat) (x : Int32) (v : Nat → Int32) (p : Nat) : itmA T e d x v (skT T p) = itmA T e d x v p := by
  cases d with
  | zero => rw [itmA, itmA, sk_sk]
  | succ d => rw [itmA, itmA, sk_sk]
theorem f_usual (σ : St) {e k : Nat} (he : e < 2) (hk : k < 4) : fX10_usual σ (nI (115 + e)) (nI k) = some (zv (4 * e + 3) k, σ) := by
  match e, he, k, hk with
  | 0, _, 0, _ => rfl
  | 0, _, 1, _ => rfl
  | 0, _, 2, _ => rfl
  | 0, _, 3, _ => rfl
  | 1, _, 0, _ => rfl
  | 1, _, 1, _ => rfl
  | 1, _, 2, _ => rfl
  | 1, _, 3, _ => rfl
theorem f_highest (σ : St) {e k : Nat} (he : e < 2) (hk : k < 4) : fX10_highest σ (nI (115 + e)) (nI k) = some (zv (4 * e + 2) k, σ) := by
  match e, he, k, hk with
  | 0, _, 0, _ => rfl
  | 0, _, 1, _ => rfl
  | 0, _, 2, _ => rfl
  | 0, _, 3, _ => rfl
  | 1, _, 0, _ => rfl
  | 1, _, 1, _ => rfl
  | 1, _, 2, _ => rfl
  | 1, _, 3, _ => rfl
theorem f_item (σ : St) {e : Nat} (he : e < 2) (x : Int32) : fX10_itemOf σ (nI (115 + e)) x = some (oI (itT e x), σ) := by
  refine Ok.toE ?_
  unfold fX10_itemOf itT
  match e, he with
  | 0, _ =>
    refine Ok.bT rfl ?_
    refine Ok.b (fun z => Ok.p ⟨by rw [if_pos (show zv (4 * 0) 0 = x from z.symm)]; rfl, rfl⟩) (fun z => ?_)
    rw [if_neg (show ¬ zv (4 * 0) 0 = x from fun w => z w.symm)]
    refine Ok.b (fun z => Ok.p ⟨by rw [if_pos (show zv (4 * 0) 1 = x from z.symm)]; rfl, rfl⟩) (fun z => ?_)
    rw [if_neg (show ¬ zv (4 * 0) 1 = x from fun w => z w.symm)]
    refine Ok.b (fun z => Ok.p ⟨by rw [if_pos (show zv (4 * 0) 2 = x from z.symm)]; rfl, rfl⟩) (fun z => ?_)
    rw [if_neg (show ¬ zv (4 * 0) 2 = x from fun w => z w.symm)]
    refine Ok.b (fun z => Ok.p ⟨by rw [if_pos (show zv (4 * 0) 3 = x from z.symm)]; rfl, rfl⟩) (fun z => ?_)
    rw [if_neg (show ¬ zv (4 * 0) 3 = x from fun w => z w.symm)]
    exact Ok.p ⟨rfl, rfl⟩
  | 1, _ =>
    refine Ok.bF (by decide) ?_
    refine Ok.b (fun z => Ok.p ⟨by rw [if_pos (show zv (4 * 1) 0 = x from z.symm)]; rfl, rfl⟩) (fun z => ?_)
    rw [if_neg (show ¬ zv (4 * 1) 0 = x from fun w => z w.symm)]
    refine Ok.b (fun z => Ok.p ⟨by rw [if_pos (show zv (4 * 1) 1 = x from z.symm)]; rfl, rfl⟩) (fun z => ?_)
    rw [if_neg (show ¬ zv (4 * 1) 1 = x from fun w => z w.symm)]
    refine Ok.b (fun z => Ok.p ⟨by rw [if_pos (show zv (4 * 1) 2 = x from z.symm)]; rfl, rfl⟩) (fun z => ?_)
    rw [if_neg (show ¬ zv (4 * 1) 2 = x from fun w => z w.symm)]
    refine Ok.b (fun z => Ok.p ⟨by rw [if_pos (show zv (4 * 1) 3 = x from z.symm)]; rfl, rfl⟩) (fun z => ?_)
    rw [if_neg (show ¬ zv (4 * 1) 3 = x from fun w => z w.symm)]
    exact Ok.p ⟨rfl, rfl⟩
theorem lo_d : ∀ k, k < 4 → (2 ≤ k → zv 1 k = 0) ∧ (¬ 2 ≤ k → zv 1 k = 2) ∧ zv 5 k = 0 := by decide +kernel
section
variable {M : Mfg} {dr : Int64} {a : Abs} {σ : St} {p : Nat} {f : Option Nat} {Xv : (Nat → Int32) → (Nat → Int32) → (Nat → Nat → Int32) → Prop}
/-- what the reference's items leave: the same, or a place where nothing can stand -/
def ItR (M : Mfg) (dr : Int64) (a : Abs) (Xv : (Nat → Int32) → (Nat → Int32) → (Nat → Nat → Int32) → Prop) (r : (Nat → Int32) × Nat × Option Nat) (t : St) : Prop :=
  (r.2.2 = none ∧ UR M dr a (Xv r.1) r.2.1 none t) ∨ (∃ q, r.2.2 = some q ∧ ((∃ v p, UR M dr a (Xv v) p (some q) t) ∨ ∃ v, UR M dr a (Xv v) q none t ∧ skT a.1 q = q ∧ atT a.1 q ≠ -1 ∧ atT a.1 q ≠ 59))
set_option maxHeartbeats 1000000 in
theorem u_items {v : Nat → Int32} {rr off e : Nat} (h : UR M dr a (Xv v) p none σ) (he : e < 2) (hX : ∀ v, IndM (Xv v)) (hC : ∀ v v' J Q, (∀ k, k < 4 → v k = v' k) → Xv v J Q → Xv v' J Q)
    (hW : ∀ (v : Nat → Int32) (k : Nat) (x : Int32) (t : St) (q : Nat) (f : Option Nat), k < 4 → UR M dr a (Xv v) q f t → ∃ u, sI 0 t (M.1 rr) (nI (off + k)) x = some u ∧ UR M dr a (Xv (upd v k x)) q f u) :
    Ok (fX10_items σ (M.1 0) (nI (115 + e)) (M.1 rr) (nI off)) (fun _ t => ItR M dr a Xv (itmA a.1 e 5 0 (zv (4 * e + 3)) p) t) := by
  unfold fX10_items
  generalize hr : itmA a.1 e 5 0 (zv (4 * e + 3)) p = rs
  refine Ok.f2 4 0 (fun k x t => x = nI k ∧ ∃ v, UR M dr a (Xv v) p none t ∧ ∀ i, i < k → v i = zv (4 * e + 3) i) (by omega) (by omega) ⟨rfl, v, h, fun i hi => by omega⟩ ?_ ?_
  · rintro j k x t hk ⟨rfl, v1, g, hv⟩ hj
    refine Ok.bF (show ¬ nI 4 ≤ nI k from nI_ge hk (by decide)) (Ok.cE (f_usual t he hk) ?_)
    rw [nI_add]
    refine Ok.w (hW _ k _ _ _ _ hk g) ?_
    intro t2 g2
    rw [nI_1]
    refine hj _ _ ⟨rfl, _, g2, fun i hi => ?_⟩
    unfold upd
    by_cases w : i = k
    · rw [if_pos w, w]
    · rw [if_neg w]; exact hv i (by omega)
  rintro j0 x t0 ⟨rfl, v1, g0, hv⟩
  have g0' : UR M dr a (Xv (zv (4 * e + 3))) p none t0 := by
    obtain ⟨J, Q, k1, k2, k3, k4⟩ := g0
    exact ⟨J, Q, k1, k2, hC _ _ J Q hv k3, k4⟩
  refine Ok.bT (by decide) (Ok.v g0'.O (u_look g0' (hX _)) ?_)
  rintro r1 t1 ⟨rfl, g1⟩
  refine Ok.cE (f_item t1 he _) ?_
  refine Ok.f3 5 0 (fun k x y t => (∃ v' q, UR M dr a (Xv v') q none t ∧ skT a.1 q = q ∧ y = oI (itT e (atT a.1 q)) ∧ bC4 x = k ∧ itmA a.1 e (5 - k) x v' q = rs) ∨ ∃ q v' p', rs.2.2 = some q ∧ UR M dr a (Xv v') p' (some q) t) (by omega) (by omega) (Or.inl ⟨_, _, g1, sk_sk _ _, rfl, bC4_0, by rw [itm_sk]; exact hr⟩) ?_ ?_
  · rintro j k x y t hk hI hj
    rcases hI.symm with ⟨q, v', p', e1, g⟩ | ⟨v', q, g, ek, rfl, hc, e1⟩
    · exact Ok.r g.rd.2.2.2 (Ok.bF (fun w => by cases (oI_m1 g.f1).mp w) (Ok.p (Or.inr ⟨q, e1, Or.inl ⟨v', p', g⟩⟩)))
    obtain ⟨d, hd⟩ : ∃ d, 5 - k = d + 1 := ⟨4 - k, by omega⟩
    have hd' : 5 - (k + 1) = d := by omega
    rw [hd] at e1
    refine Ok.r g.rd.2.2.2 (Ok.bT rfl ?_)
    cases ei : itT e (atT a.1 q) with
    | none =>
      refine Ok.bT rfl (Ok.p ?_)
      rw [← ek] at ei
      rw [itm_n _ _ _ _ _ _ ei, ek] at e1
      by_cases w : atT a.1 q = -1 ∨ atT a.1 q = 59
      · rw [if_pos w] at e1
        rw [← e1]
        exact Or.inl ⟨rfl, g⟩
      · rw [if_neg w] at e1
        rw [← e1]
        exact Or.inr ⟨q, rfl, Or.inr ⟨v', g, ek, fun z => w (Or.inl z), fun z => w (Or.inr z)⟩⟩
    | some i =>
      obtain ⟨i1, i2⟩ := itT_lt ei
      obtain ⟨z1, z2⟩ := zl_d e he i i1
      rw [← ek] at ei
      have hlt : q < a.1.1 := by
        apply Classical.byContradiction
        intro w
        unfold atT at i2; rw [if_neg w] at i2
        exact z1 i2.symm
      refine Ok.bF (show ¬ nI i = -1 from fun w => by cases (oI_m1 (f := some i) (fun q e => by cases e; omega)).mp w) (Ok.cE (f_has t x (by omega)) (Ok.bI bI_0 (fun zb => ?_) (fun zb => ?_)))
      · have zb' : ¬ bt x i = true := by rw [zb]; decide
        refine Ok.n (Ok.r g.rd.2.2.1 ?_)
        rw [nI_1]
        have b240 := g.l240
        refine Ok.w (g.putP (hX _) (q := q + 1) (by omega) (fun _ => hlt)) ?_
        intro t2 g2
        refine Ok.j4 (Ok.j3 ?_)
        have fin : ∀ lo, lo = zv (4 * e + 1) i → Ok (bd (fX10_highest t2 (nI (115 + e)) (nI i)) (fun x23 t24 =>
            bo 10 t24 (M.1 0) (fX10_number t24 (M.1 0) lo x23) (fun x25 t26 =>
            (sI 0 t26 (M.1 rr) (nI off + nI i) x25).bind (fun t27 =>
            (gI 10 4 t27 (M.1 0)).bind fun x28 =>
            jo2 (fun (v29 : Int32) (t30 : St) =>
              j (x ||| (1 <<< (nI i &&& 31))) v29 t30) (fun j31 =>
              if x28 = (-1) then
                bo 10 t27 (M.1 0) (fX10_look t27 (M.1 0)) (fun x32 t33 =>
                bd (fX10_itemOf t33 (nI (115 + e)) x32) (fun x34 t35 =>
                j31 x34 t35))
              else
                j31 ((-1)) t27))))) (fun _ t => ItR M dr a Xv rs t) := by
          intro lo hlo
          rw [hlo]
          refine Ok.cE (f_highest t2 he i1) (Ok.v g2.O (u_number g2 (hX _) _ _) ?_)
          rintro r3 t3 ⟨p3, g3, hp3⟩
          rw [nI_add]
          refine Ok.w (hW _ i _ _ _ _ i1 g3) ?_
          intro t4 g4
          refine Ok.r g4.rd.2.2.2 (Ok.j2 (Ok.bI (oI_m1 g4.f1) (fun zf => ?_) (fun zf => ?_)))
          · obtain ⟨rfl, rfl⟩ := hp3 zf
            rw [zf] at g4
            refine Ok.v g4.O (u_look g4 (hX _)) ?_
            rintro r5 t5 ⟨rfl, g5⟩
            refine Ok.cE (f_item t5 he _) (hj _ _ _ (Or.inl ⟨_, _, g5, sk_sk _ _, rfl, ?_, ?_⟩))
            · exact (bC4_new i1 zb').trans (by rw [hc])
            · rw [hd', itm_sk, ← e1, itm_y _ _ _ _ _ _ _ ei zb' (by rw [ek]; exact zf), ek]; rfl
          · obtain ⟨u, hu⟩ : ∃ u, (bndT a.1 (zv (4 * e + 1) i) (zv (4 * e + 2) i) (q + 1)).2.2 = some u := by
              cases eb : (bndT a.1 (zv (4 * e + 1) i) (zv (4 * e + 2) i) (q + 1)).2.2 with
              | none => exact absurd eb zf
              | some u => exact ⟨u, rfl⟩
            rw [hu] at g4
            refine hj _ _ _ (Or.inr ⟨u, _, _, ?_, g4⟩)
            rw [← e1, itm_f _ _ _ _ _ _ _ _ ei zb' (by rw [ek]; exact hu)]
        obtain ⟨w1, w2, w3⟩ := lo_d i i1
        match e, he, fin with
        | 0, _, fin =>
          refine Ok.bT rfl (Ok.bI (show (2 : Int32) ≤ nI i ↔ 2 ≤ i from nI_leI (a := 2) (by omega) (by omega)) (fun z => fin 0 (w1 z).symm) (fun z => fin 2 (w2 z).symm))
        | 1, _, fin =>
          exact Ok.bF (by decide) (fin 0 w3.symm)
      · have zb' : bt x i = true := by simpa using zb
        rw [itm_d _ _ _ _ _ _ _ ei zb', ek] at e1
        refine Ok.p ?_
        rw [← e1]
        exact Or.inr ⟨q, rfl, Or.inr ⟨v', g, ek, by rw [i2]; exact z1, by rw [i2]; exact z2⟩⟩
  · rintro j x y t hI
    rcases hI.symm with ⟨q, v', p', e1, g⟩ | ⟨v', q, g, ek, rfl, hc, e1⟩
    · exact Ok.r g.rd.2.2.2 (Ok.bF (fun w => by cases (oI_m1 g.f1).mp w) (Ok.p (Or.inr ⟨q, e1, Or.inl ⟨v', p', g⟩⟩)))
    · have := bC4_le x; omega
end
