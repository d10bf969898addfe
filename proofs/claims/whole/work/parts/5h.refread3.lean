/-! The whole LAND read: the reference's loop -/
section
variable {M : Mfg} {dr : Int64} {a : Abs} {σ : St} {p : Nat} {f : Option Nat}
theorem u_start (h : MA M dr a σ) {P : Int32 → St → Prop} {E : St → Option (Int32 × St)} (hE : ∀ t, UR M dr a (fun J _ => J 21 = 0 ∧ J 22 = 0) 0 none t → Ok (E t) P) : Ok ((pV 10 3 σ (M.1 0) (.int 0)).bind (fun t1 =>
  (pV 10 4 t1 (M.1 0) (.int ((-1)))).bind (fun t2 =>
  (pV 10 21 t2 (M.1 0) (.int 0)).bind (fun t3 =>
  (pV 10 22 t3 (M.1 0) (.int 0)).bind E)))) P := by
  obtain ⟨J, Q, h1, h2⟩ := h
  refine Ok.w (h1.putI 3 0 (by decide) (fun _ => rfl) (Nat.le_of_ble_eq_true rfl) (fun _ => rfl)) ?_
  intro t g
  refine Ok.w (g.putI 4 (-1) (by decide) (fun _ => rfl) (Nat.le_of_ble_eq_true rfl) (fun _ => rfl)) ?_
  intro t2 g2
  have u2 : UR M dr a XT 0 none t2 := by
    refine ⟨_, Q, g2, h2.scr (fun k hk => ?_) (fun _ _ => rfl), trivial, ?_, pk_us, by omega, (fun q e => by cases e), fun _ => by omega⟩
    · rw [pk_un (fun z => hk (by unfold mcI; omega)), pk_un (fun z => hk (by unfold mcI; omega))]
    · rw [pk_un (by decide)]; exact pk_us
  refine Ok.w (u2.put21 (Y := fun J _ => J 21 = 0) 0 (fun J Q _ => pk_us)) ?_
  intro t3 g3
  refine Ok.w (g3.put22 (Y := fun J _ => J 21 = 0 ∧ J 22 = 0) 0 (fun J Q q => ⟨by rw [pk_un (by decide)]; exact q, pk_us⟩)) ?_
  intro t4 g4
  exact hE t4 g4
theorem it_cl {Xv : (Nat → Int32) → (Nat → Int32) → (Nat → Nat → Int32) → Prop} {L : (Nat → Int32) → Lay} {b : Bool} {r : (Nat → Int32) × Nat × Option Nat} {t : St} (h : ItR M dr a Xv r t) (hX : ∀ v J Q, Xv v J Q → XM (L v) J Q) (hb : ∀ v, b = (L v).1) : ClR M dr a (L r.1, r.2) b t := by
  rcases h with ⟨e, g⟩ | ⟨q, e, ⟨v, p, g⟩ | ⟨v, g, e1, e2, e3⟩⟩
  · exact Or.inl ⟨e, hb _, _, g.imp (hX _), rfl⟩
  · exact Or.inr ⟨q, e, Or.inl ⟨p, g.imp (fun _ _ _ => trivial)⟩⟩
  · exact Or.inr ⟨q, e, Or.inr ⟨q, g.imp (fun _ _ _ => trivial), e1, e2, e3⟩⟩
set_option maxHeartbeats 1600000 in
theorem u_land (h : MA M dr a σ) : Ok (fX10_readLand σ (M.1 0)) (fun r t => r = oI (landT a.1).2 ∧ MA M dr a t ∧ ((landT a.1).2 = none → LayR (landT a.1).1 ∧ ∃ p, UR M dr a (XM (landT a.1).1) p none t)) := by
  unfold fX10_readLand
  refine u_start h ?_
  intro t0 g0
  unfold landT
  generalize hr : rdF a.1 11 Lay0 0 = rs
  refine Ok.f2 4 0 (fun k x t => x = nI k ∧ UR M dr a (fun J Q => (J 21 = 0 ∧ J 22 = 0) ∧ ∀ i, i < k → Q 17 i = zv 3 i) 0 none t) (by omega) (by omega) ⟨rfl, g0.imp (fun J Q q => ⟨q, fun i hi => by omega⟩)⟩ ?_ ?_
  · rintro j k x t hk ⟨rfl, g⟩ hj
    have r17 : gR 10 17 t (M.1 0) = some (M.1 17) := by
      obtain ⟨J, Q, h1, _⟩ := g
      exact nr_17 h1
    refine Ok.bF (show ¬ nI 4 ≤ nI k from nI_ge hk (by decide)) (Ok.r r17 (Ok.cE (f_usual t (e := 0) (by decide) hk) (Ok.w (g.row17 (Y := fun J Q => (J 21 = 0 ∧ J 22 = 0) ∧ ∀ i, i < k + 1 → Q 17 i = zv 3 i) hk _ ?_) ?_)))
    · rintro J Q ⟨x1, x2⟩
      refine ⟨x1, fun i hi => ?_⟩
      rw [updR_s]
      unfold upd
      by_cases q : i = k
      · rw [if_pos q, q]
      · rw [if_neg q]; exact x2 i (by omega)
    · intro t2 g2
      rw [nI_1]
      exact hj _ _ ⟨rfl, g2⟩
  rintro j0 x0 t1 ⟨rfl, g1⟩
  have g1' : UR M dr a (XM Lay0) 0 none t1 := g1.imp (fun J Q q => ⟨q.1.1, q.1.2, q.2, fun i hi => absurd hi (Nat.not_lt_zero i), fun i hi => absurd hi (Nat.not_lt_zero i), fun _ => 0, rfl, fun r hr => absurd hr (Nat.not_lt_zero r)⟩)
  refine Ok.bT (by decide) ?_
  refine Ok.f3 11 0 (fun k x y t => (y = 1 ∧ ∃ s p, UR M dr a (XM s) p none t ∧ LayR s ∧ x = bI s.1 ∧ cntL s = k ∧ rdF a.1 (11 - k) s p = rs) ∨ (y = 0 ∧ FinR M dr a rs t)) (by omega) (by omega) (Or.inl ⟨rfl, Lay0, 0, g1', Lay0_R, rfl, rfl, hr⟩) ?_ ?_
  · rintro j k x y t hk hI hj
    refine Ok.j1 ?_
    rcases hI.symm with ⟨rfl, hF⟩ | ⟨rfl, s, p, g, hR, rfl, hc, e1⟩
    · exact Ok.bT rfl (u_fin hF)
    obtain ⟨d, hd⟩ : ∃ d, 11 - k = d + 1 := ⟨10 - k, by omega⟩
    have hd' : 11 - (k + 1) = d := by omega
    rw [hd] at e1
    refine Ok.bF (by decide) (Ok.r g.rd.2.2.2 (Ok.bT rfl (Ok.v g.O (u_look g (XM_ind _)) ?_)))
    rintro r2 t2 ⟨rfl, g2⟩
    refine Ok.j2 (Ok.j1 ?_)
    have l240 := g2.l240
    have l2 := g2.le
    have aft : ∀ (b : Bool) (t29 : St), ClR M dr a (clA a.1 s p) b t29 → _ := fun b t29 hcl => u_aft (k := 0) (j := j) (P := fun r t => r = oI rs.2 ∧ MA M dr a t ∧ (rs.2 = none → LayR rs.1 ∧ ∃ p, UR M dr a (XM rs.1) p none t)) hcl hR e1 (fun t s' p' g' hR' hc' e' => hj _ _ _ (Or.inl ⟨rfl, s', p', g', hR', rfl, by rw [hc', hc], by rw [hd']; exact e'⟩)) (fun x t hF => hj _ _ _ (Or.inr ⟨rfl, hF⟩))
    have bad : clA a.1 s p = (s, skT a.1 p, some (skT a.1 p)) → ∀ t, UR M dr a (XM s) (skT a.1 p) (some (skT a.1 p)) t → ClR M dr a (clA a.1 s p) s.1 t := by
      intro e t g3
      rw [e]
      exact Or.inr ⟨_, rfl, Or.inl ⟨_, g3.imp (fun _ _ _ => trivial)⟩⟩
    by_cases c1 : atT a.1 (skT a.1 p) = 115 ∧ s.1 = false
    · refine Ok.bT c1.1 (Ok.bT (by rw [c1.2]; rfl) (Ok.r g2.rd.2.2.1 ?_))
      rw [nI_1]
      refine Ok.w (g2.putP (XM_ind _) (q := skT a.1 p + 1) (by omega) (fun _ => at_lt (by rw [c1.1]; decide))) ?_
      intro t3 g3
      rw [c1.1]
      refine Ok.r (XMb.rd g3).2.2.1 (Ok.v g3.O (u_s g3 (hR.2.1 c1.2)) ?_)
      intro w t4 g4
      refine aft true t4 ?_
      rw [clA_s c1.1 c1.2]
      exact it_cl (L := fun v => (true, s.2.1, s.2.2.1, s.2.2.2.1, v, s.2.2.2.2.2)) g4 (fun v J Q q => q) (fun v => rfl)
    by_cases c2 : atT a.1 (skT a.1 p) = 116 ∧ s.2.1 < 4
    · refine Ok.bF (fun w => by rw [c2.1] at w; exact absurd w (by decide)) (Ok.j1 (Ok.bF (fun w => by rw [c2.1] at w; exact absurd w (by decide)) (Ok.j1 (Ok.bT c2.1 (Ok.r (XMb.rd g2).2.1 (Ok.bF (show ¬ nI 4 ≤ nI s.2.1 from nI_ge c2.2 (by decide)) (Ok.r g2.rd.2.2.1 ?_)))))))
      rw [nI_1]
      refine Ok.w (g2.putP (XM_ind _) (q := skT a.1 p + 1) (by omega) (fun _ => at_lt (by rw [c2.1]; decide))) ?_
      intro t3 g3
      rw [c2.1]
      refine Ok.r (XMb.rd g3).2.2.2.2.2 (Ok.r (XMb.rd g3).2.1 ?_)
      rw [show (4 : Int32) * nI s.2.1 = nI (4 * s.2.1) from by rw [show (4 : Int32) = nI 4 from rfl, pk_mul]]
      refine Ok.v g3.O (u_t g3 c2.2) ?_
      intro w t4 g4
      obtain ⟨k1, k2⟩ := u_t2 g4
      refine Ok.r k1 (Ok.w k2 ?_)
      intro t5 g5
      refine aft s.1 t5 ?_
      rw [clA_t c2.1 c2.2]
      exact g5
    by_cases c3 : atT a.1 (skT a.1 p) = 114 ∧ s.2.2.1 < 5
    · refine Ok.bF (fun w => by rw [c3.1] at w; exact absurd w (by decide)) (Ok.j1 (Ok.bT c3.1 (Ok.r (XMb.rd g2).1 (Ok.bF (show ¬ nI 5 ≤ nI s.2.2.1 from nI_ge c3.2 (by decide)) (Ok.r g2.rd.2.2.1 ?_)))))
      rw [nI_1]
      refine Ok.w (g2.putP (XM_ind _) (q := skT a.1 p + 1) (by omega) (fun _ => at_lt (by rw [c3.1]; decide))) ?_
      intro t3 g3
      refine Ok.v g3.O (u_row g3 c3.2 hR.2.2.2.2.2) ?_
      rintro w t4 ⟨p', g4, ek, hf⟩
      refine aft s.1 t4 ?_
      rw [clA_r c3.1 c3.2]
      cases ef : (rowF a.1 s.2.2.1 6 0 s.2.2.2.2.2.2 (skT a.1 p + 1)).2.2.2 with
      | none => exact Or.inl ⟨ef, rfl, p', g4, by show skT a.1 p' = skT a.1 (rowF a.1 s.2.2.1 6 0 s.2.2.2.2.2.2 (skT a.1 p + 1)).2.2.1; rw [← ek, sk_sk]⟩
      | some q =>
        obtain ⟨e5, e6⟩ := hf q ef
        refine Or.inr ⟨q, ef, Or.inr ⟨p', g4.imp (fun _ _ _ => trivial), by rw [ek, e5], fun w => ?_, fun w => ?_⟩⟩
        · rw [w] at e6; exact absurd e6 (by decide)
        · rw [w] at e6; exact absurd e6 (by decide)
    have eb := bad (clA_n c1 c2 c3)
    by_cases z1 : atT a.1 (skT a.1 p) = 115
    · refine Ok.bT z1 (Ok.bF (fun w => c1 ⟨z1, bI_0.mp w⟩) (Ok.j1 (Ok.bF (fun w => by rw [z1] at w; exact absurd w (by decide)) (Ok.j1 (Ok.bF (fun w => by rw [z1] at w; exact absurd w (by decide)) ?_)))))
      exact Ok.v g2.O (u_bad g2 (XM_ind _)) (fun w t3 g3 => aft s.1 t3 (eb t3 g3))
    by_cases z2 : atT a.1 (skT a.1 p) = 114
    · have h5 : 5 ≤ s.2.2.1 := by
        apply Classical.byContradiction
        intro w; exact c3 ⟨z2, by omega⟩
      have b5 := hR.1.2.1
      refine Ok.bF z1 (Ok.j1 (Ok.bT z2 (Ok.r (XMb.rd g2).1 (Ok.bT (show nI 5 ≤ nI s.2.2.1 from nI_le h5 (by omega)) (Ok.j1 (Ok.bF (fun w => by rw [z2] at w; exact absurd w (by decide)) ?_))))))
      exact Ok.v g2.O (u_bad g2 (XM_ind _)) (fun w t3 g3 => aft s.1 t3 (eb t3 g3))
    by_cases z3 : atT a.1 (skT a.1 p) = 116
    · have h4 : 4 ≤ s.2.1 := by
        apply Classical.byContradiction
        intro w; exact c2 ⟨z3, by omega⟩
      have b4 := hR.1.1
      refine Ok.bF z1 (Ok.j1 (Ok.bF z2 (Ok.j1 (Ok.bT z3 (Ok.r (XMb.rd g2).2.1 (Ok.bT (show nI 4 ≤ nI s.2.1 from nI_le h4 (by omega)) ?_))))))
      exact Ok.v g2.O (u_bad g2 (XM_ind _)) (fun w t3 g3 => aft s.1 t3 (eb t3 g3))
    refine Ok.bF z1 (Ok.j1 (Ok.bF z2 (Ok.j1 (Ok.bF z3 ?_))))
    exact Ok.v g2.O (u_bad g2 (XM_ind _)) (fun w t3 g3 => aft s.1 t3 (eb t3 g3))
  · rintro j x y t hI
    refine Ok.j1 ?_
    rcases hI.symm with ⟨rfl, hF⟩ | ⟨rfl, s, p, g, hR, rfl, hc, e1⟩
    · exact Ok.bT rfl (u_fin hF)
    · have := cnt_10 hR.1; omega
end
