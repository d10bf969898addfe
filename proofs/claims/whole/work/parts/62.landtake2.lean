/-! A LAND taken: the class, its end -/
section
variable {T : Tap}
theorem zl_ne : ∀ e, e < 2 → ∀ k, k < 4 → zv (4 * e) k ≠ -1 := by decide +kernel
theorem num_b {m p : Nat} (h : p ≤ T.1) : (numT T m p).2.1 ≤ T.1 ∧ ∀ q, (numT T m p).2.2 = some q → q ≤ T.1 := by
  have h2 := sk_le T h
  have h3 := (nuF_le T m 0 (skT T p) h2).1
  unfold numT
  by_cases z : dgB (atT T (skT T p)) = true
  · rw [if_pos z]
    refine ⟨h3, fun q e => ?_⟩
    by_cases w : dgB (atT T (nuF T m 0 (skT T p)).2) = true
    · simp only [if_pos w] at e; cases e; exact h3
    · simp only [if_neg w] at e; cases e
  · rw [if_neg z]
    exact ⟨h2, fun q e => by cases e; exact h2⟩
theorem bnd_b {lo hi : Int32} {p : Nat} (h : p ≤ T.1) : (bndT T lo hi p).2.1 ≤ T.1 ∧ ∀ q, (bndT T lo hi p).2.2 = some q → q ≤ T.1 := by
  obtain ⟨h1, h2⟩ := num_b (m := 2) h
  unfold bndT
  cases e : (numT T 2 p).2.2 with
  | none =>
    simp only []
    by_cases z : (numT T 2 p).1 < lo ∨ hi < (numT T 2 p).1
    · rw [if_pos z]
      exact ⟨h1, fun q e => by cases e; omega⟩
    · rw [if_neg z]
      exact ⟨h1, h2⟩
  | some q => exact ⟨h1, h2⟩
theorem itm_b {e : Nat} (he : e < 2) : ∀ d x v p, p ≤ T.1 → (itmA T e d x v p).2.1 ≤ T.1 ∧ ∀ q, (itmA T e d x v p).2.2 = some q → q ≤ T.1
  | 0, x, v, p, h => ⟨sk_le T h, fun q e => by cases e⟩
  | d + 1, x, v, p, h => by
    have h2 := sk_le T h
    cases z : itT e (atT T (skT T p)) with
    | none =>
      rw [itm_n T e d x v p z]
      refine ⟨h2, fun q e => ?_⟩
      by_cases w : atT T (skT T p) = -1 ∨ atT T (skT T p) = 59
      · simp only [if_pos w] at e; cases e
      · simp only [if_neg w] at e; cases e; exact h2
    | some k =>
      obtain ⟨k4, ek⟩ := itT_lt z
      have hin : skT T p < T.1 := at_in (by rw [ek]; exact zl_ne e he k k4)
      by_cases w : bt x k = true
      · rw [itm_d T e d x v p k z w]
        exact ⟨h2, fun q e => by cases e; exact h2⟩
      · obtain ⟨b1, b2⟩ := bnd_b (T := T) (lo := zv (4 * e + 1) k) (hi := zv (4 * e + 2) k) (p := skT T p + 1) (by omega)
        cases y : (bndT T (zv (4 * e + 1) k) (zv (4 * e + 2) k) (skT T p + 1)).2.2 with
        | some q =>
          rw [itm_f T e d x v p k q z w y]
          exact ⟨b1, fun q' e => by cases e; exact b2 q y⟩
        | none =>
          rw [itm_y T e d x v p k z w y]
          exact itm_b he d _ _ _ b1
theorem row_b {r : Nat} : ∀ d n g p, p ≤ T.1 → (rowF T r d n g p).2.2.1 ≤ T.1 ∧ ∀ q, (rowF T r d n g p).2.2.2 = some q → q ≤ T.1
  | 0, n, g, p, h => by
    have h2 := sk_le T h
    refine ⟨h2, fun q e => ?_⟩
    have e' : (if dgB (atT T (skT T p)) = true then some (skT T p) else none) = some q := e
    by_cases w : dgB (atT T (skT T p)) = true
    · rw [if_pos w] at e'; cases e'; exact h2
    · rw [if_neg w] at e'; cases e'
  | d + 1, n, g, p, h => by
    by_cases w : dgB (atT T (skT T p)) = true
    · rw [rowF_y _ _ _ _ _ _ w]
      exact row_b d _ _ _ (dg_lt T w)
    · rw [rowF_n _ _ _ _ _ _ w]
      exact ⟨sk_le T h, fun q e => by cases e⟩
theorem cl_b {s : Lay} {p : Nat} (h : p ≤ T.1) : (clA T s p).2.1 ≤ T.1 ∧ ∀ q, (clA T s p).2.2 = some q → q ≤ T.1 := by
  have h2 := sk_le T h
  by_cases h1 : atT T (skT T p) = 115 ∧ s.1 = false
  · rw [clA_s h1.1 h1.2]
    exact itm_b (by decide) 5 _ _ _ (at_in (by rw [h1.1]; decide))
  by_cases h3 : atT T (skT T p) = 116 ∧ s.2.1 < 4
  · rw [clA_t h3.1 h3.2]
    exact itm_b (by decide) 5 _ _ _ (at_in (by rw [h3.1]; decide))
  by_cases h4 : atT T (skT T p) = 114 ∧ s.2.2.1 < 5
  · rw [clA_r h4.1 h4.2]
    exact row_b 6 _ _ _ (at_in (by rw [h4.1]; decide))
  · rw [clA_n h1 h3 h4]
    exact ⟨h2, fun q e => by cases e; exact h2⟩
theorem rd_b : ∀ d s p, p ≤ T.1 → ∀ q, (rdF T d s p).2 = some q → q ≤ T.1
  | 0, s, p, h, q, e => by cases e; exact h
  | d + 1, s, p, h, q, e => by
    obtain ⟨b1, b2⟩ := cl_b (s := s) h
    rw [rdF] at e
    cases z : (clA T s p).2.2 with
    | some q' => rw [z] at e; cases e; exact b2 _ z
    | none =>
      rw [z] at e
      simp only [] at e
      by_cases w : atT T (skT T (clA T s p).2.1) = 59
      · rw [if_pos w] at e
        exact rd_b d _ _ (at_in (by rw [w]; decide)) q e
      · rw [if_neg w] at e
        have e' : endT T (clA T s p).1 (clA T s p).2.1 = some q := e
        unfold endT at e'
        by_cases y : atT T (skT T (clA T s p).2.1) = -1 ∧ fitL (clA T s p).1 = true
        · rw [if_pos y] at e'; cases e'
        · rw [if_neg y] at e'; cases e'; exact sk_le T b1
theorem land_m1 (h : T.1 ≤ 240) : oI (landT T).2 = -1 ↔ (landT T).2 = none := oI_m1 (fun q e => by have := rd_b 11 Lay0 0 (by omega) q e; omega)
end
theorem land_R {T : Tap} (h : (landT T).2 = none) : LayR (landT T).1 ∧ fitL (landT T).1 = true := rd_R 11 Lay0 0 Lay0_R h
def nilD (s : Scn) : Lnd := ((s, []), s, [], none, (0, fun _ => 0, fun _ => 0, fun _ => false), (0, fun _ => 0, fun _ => 0))
def landN (a : Abs) (s : Lay) : Abs := ((0, a.1.2), a.2.1, a.2.2.1, nilD (scnL s))
section
variable {K : Cfg} {I : Nat → Int32} {R : Nat → Nat → Int32} {dr : Int64} {a : Abs} {σ : St}
theorem c_takeLand (h : CA K dr a σ) (hz : StK K) (hT : TpOK a.1) : Ok (fX9_takeLand σ (K.1 0)) (fun r t => ((landT a.1).2 ≠ none → r = -1 ∧ CA K dr a t) ∧ ((landT a.1).2 = none → r = nI (qC (scnL (landT a.1).1)) ∧ CA K dr (landN a (landT a.1).1) t)) := by
  have h240 : a.1.1 ≤ 240 := by
    obtain ⟨I, R, h1, h2⟩ := h
    exact h2.1.2.1
  have h0 : gR 9 1 σ (K.1 0) = some (K.1 3) ∧ isO 2 σ (K.1 3) = true := by
    obtain ⟨I, R, h1, _⟩ := h
    exact ⟨kr_0_1 h1, kO_3 h1⟩
  unfold fX9_takeLand
  refine Ok.r h0.1 (Ok.v h0.2 (t_read h hz hT) ?_)
  rintro r3 t3 ⟨rfl, p, f, g3⟩
  refine Ok.bI (land_m1 h240) (fun z => ?_) (fun z => Ok.p ⟨fun _ => ⟨rfl, g3.ca⟩, fun q => absurd q z⟩)
  obtain ⟨hR, hF⟩ := land_R z
  have ok := scnL_ok hR hF
  have c30 := ok.c30
  obtain ⟨I, R, v3, r3, x3, _⟩ := g3
  refine Ok.r (kr_0_1 v3) (Ok.r (kr_0_9 v3) (Ok.v (kO_3 v3) (c_lay v3 x3 hR hF) ?_))
  rintro w4 t4 ⟨I4, R4, v4, s4, fI4, fR4⟩
  generalize (landT a.1).1 = s at *
  refine Ok.r (kr_0_8 v4) (Ok.r (kr_0_9 v4) (Ok.v (g_O v4 scB11) (v_become v4 scB11 scB17 (by decide) s4 c30.1 ok.t.2 ok.cw) ?_))
  rintro w5 t5 ⟨I5, R5, v5, s5, fI5, fR5⟩
  refine Ok.r (kr_0_11 v5) ?_
  have fo5 : Ok (fX5_forget t5 (K.1 29)) (fun _ t => CV K (upd (upd I5 582 0) 586 0) R5 dr t) := by
    unfold fX5_forget
    refine Ok.w (v5.putI 29 2 0 rfl (by decide) (fun _ => rfl) (Nat.le_of_ble_eq_true rfl) (fun _ => rfl)) ?_
    intro t6 v6
    refine Ok.bT rfl (Ok.w (v6.putI 29 6 0 rfl (by decide) (fun _ => rfl) (Nat.le_of_ble_eq_true rfl) (fun _ => rfl)) ?_)
    intro t7 v7
    exact Ok.p v7
  refine Ok.v (kO_29 v5) fo5 ?_
  intro w6 t6 v6
  refine Ok.r (kr_0_12 v6) ?_
  have fo1 : Ok (fX1_forget t6 (K.1 34)) (fun _ t => CV K (upd (upd (upd (upd I5 582 0) 586 0) 683 0) 686 0) R5 dr t) := by
    unfold fX1_forget
    refine Ok.w (v6.putI 34 3 0 rfl (by decide) (fun _ => rfl) (Nat.le_of_ble_eq_true rfl) (fun _ => rfl)) ?_
    intro t7 v7
    refine Ok.w (v7.putI 34 6 0 rfl (by decide) (fun _ => rfl) (Nat.le_of_ble_eq_true rfl) (fun _ => rfl)) ?_
    intro t8 v8
    exact Ok.p v8
  refine Ok.v (kO_34 v6) fo1 ?_
  intro w7 t7 v7
  refine Ok.r (kr_0_0 v7) (Ok.w (v7.putI 1 1 0 rfl (by decide) (fun _ => rfl) (Nat.le_of_ble_eq_true rfl) (fun _ => rfl)) ?_)
  intro t8 v8
  generalize hI8 : upd (upd (upd (upd (upd I5 582 0) 586 0) 683 0) 686 0) (20 * 1 + 1) 0 = I8 at v8
  have hn : ∀ k, k ≠ 582 ∧ k ≠ 586 ∧ k ≠ 683 ∧ k ≠ 686 ∧ k ≠ 21 → I8 k = I5 k := by
    intro k ⟨k1, k2, k3, k4, k5⟩
    rw [← hI8, pk_un (by omega), pk_un k4, pk_un k3, pk_un k2, pk_un k1]
  have s11 : ScR I8 R5 11 (scnL s) := s5.fr (fun f hf => hn _ (by omega)) (fun _ _ _ => rfl)
  refine Ok.r (kr_0_8 v8) (Ok.r ((g_fld v8 scB11 2 (by decide)).trans (congrArg some (s11.1 2 (by decide)))) (Ok.p ⟨fun q => absurd z q, fun _ => ⟨rfl, I8, R5, v8, ?_⟩⟩))
  obtain ⟨h1, h2, h3, ⟨h4, h5⟩, h6, h7, h8, h9, h10⟩ := r3
  have hk : ∀ k, (k < 220 ∨ 229 ≤ k) → (k < 340 ∨ 349 ≤ k) → k ≠ 582 ∧ k ≠ 586 ∧ k ≠ 683 ∧ k ≠ 686 ∧ k ≠ 21 → I8 k = I k := fun k q1 q2 q3 => (hn k q3).trans ((fI5 k (by omega)).trans (fI4 k (by omega)))
  have hr : ∀ k, (k < 12 ∨ 16 ≤ k) → (k < 18 ∨ 22 ≤ k) → R5 k = R k := fun k q1 q2 => (fR5 k (by omega)).trans (fR4 k (by omega))
  obtain ⟨nx, n1, n2, _⟩ := h7
  refine ⟨⟨by rw [← hI8]; exact pk_us, by show (0 : Nat) ≤ 240; omega, fun i hi => absurd hi (Nat.not_lt_zero i)⟩, h2.fr (hk 4 (by omega) (by omega) (by decide)) (hk 5 (by omega) (by omega) (by decide)), h3.fr (hk 6 (by omega) (by omega) (by decide)) (hr 10 (by omega) (by omega)), ⟨s11, fun i e q => by have q' : ([] : List Ent)[i]? = some e := q; simp at q'⟩, ?_, ⟨nx, n1, (hk 581 (by omega) (by omega) (by decide)).trans n2, ?_, by show (0 : Nat) ≤ 40; omega, fun j e q => by have q' : ([] : List Snp)[j]? = some e := q; simp at q'⟩, Or.inl ⟨rfl, ?_⟩, ⟨?_, by show (0 : Nat) ≤ 10; omega, fun k hk => absurd hk (Nat.not_lt_zero k)⟩, ⟨?_, by show (0 : Nat) ≤ 10; omega, fun k hk => absurd hk (Nat.not_lt_zero k)⟩⟩
  · exact s4.fr (fun f hf => (hn _ (by omega)).trans (fI5 _ (by omega))) (fun j j1 j4 => fR5 _ (by omega))
  · rw [← hI8, pk_un (by decide), pk_un (by decide), pk_un (by decide), pk_un (by decide)]; exact pk_us
  · rw [← hI8, pk_un (by decide), pk_un (by decide), pk_un (by decide)]; exact pk_us
  · rw [← hI8, pk_un (by decide), pk_un (by decide)]; exact pk_us
  · rw [← hI8, pk_un (by decide)]; exact pk_us
end
