/-! WAY and RISK: the class -/
def CP (K : Cfg) (dr : Int64) (a : Abs) (T : Nat → Nat) (σ : St) : Prop := ∃ I R, CV K I R dr σ ∧ CR K I R a ∧ ∀ i, i < qC (dN a.2.2.2) → R 41 i = nI (T i)
abbrev adS (s : Scn) : Nat → Nat → Bool := adjB (qW s)
def wgt (hb : Nat → Bool) (A B : Nat) (c : Nat) : Nat := if hb c = true then A else B
def lbT (s : Scn) (T : Nat → Nat) (c : Nat) : Nat → Nat
  | 0 => 1000
  | k + 1 => match bsN (qW s) (qC s) c k with
    | none => lbT s T c k
    | some o => min (lbT s T c k) (T o)
theorem lbT_1000 (s : Scn) (T : Nat → Nat) (c : Nat) : ∀ k, lbT s T c k ≤ 1000
  | 0 => Nat.le_refl _
  | k + 1 => by
    have := lbT_1000 s T c k
    unfold lbT
    split <;> omega
theorem lbT_le (s : Scn) (T : Nat → Nat) (c : Nat) {o : Nat} : ∀ {k j : Nat}, j < k → bsN (qW s) (qC s) c j = some o → lbT s T c k ≤ T o
  | 0, j, h, _ => by omega
  | k + 1, j, h, e => by
    unfold lbT
    by_cases q : j = k
    · subst q; rw [e]; exact Nat.min_le_right _ _
    · have := lbT_le s T c (show j < k by omega) e
      split <;> omega
theorem lbT_at (s : Scn) (T : Nat → Nat) (c : Nat) : ∀ k, lbT s T c k = 1000 ∨ ∃ j o, j < k ∧ bsN (qW s) (qC s) c j = some o ∧ lbT s T c k = T o
  | 0 => Or.inl rfl
  | k + 1 => by
    cases e : bsN (qW s) (qC s) c k with
    | none =>
      have e2 : lbT s T c (k + 1) = lbT s T c k := by rw [lbT, e]
      rw [e2]
      rcases lbT_at s T c k with h | ⟨j, o, h1, h2, h3⟩
      · exact Or.inl h
      · exact Or.inr ⟨j, o, by omega, h2, h3⟩
    | some o =>
      have e2 : lbT s T c (k + 1) = min (lbT s T c k) (T o) := by rw [lbT, e]
      rw [e2]
      by_cases q : T o ≤ lbT s T c k
      · exact Or.inr ⟨k, o, by omega, e, by omega⟩
      · rcases lbT_at s T c k with h | ⟨j, o', h1, h2, h3⟩
        · left; omega
        · exact Or.inr ⟨j, o', by omega, h2, by omega⟩
theorem lb_mn {s : Scn} (ok : ScOK s) (T : Nat → Nat) {c : Nat} (hc : c < qC s) : lbT s T c 4 = mnA (adS s) T c (qC s) := by
  apply Nat.le_antisymm
  · rcases mnA_at (adj := adS s) (T := T) (c := c) (qC s) with h | ⟨o, o1, o2, o3⟩
    · rw [h]; exact lbT_1000 s T c 4
    · obtain ⟨k, hk, e⟩ := (adj_iff ok hc o1).mp o2
      rw [o3]; exact lbT_le s T c hk e
  · rcases lbT_at s T c 4 with h | ⟨j, o, h1, h2, h3⟩
    · rw [h]; exact mnA_1000 _
    · have ho := bs_lt ok hc h1 h2
      rw [h3]; exact mnA_le ho ((adj_iff ok hc ho).mpr ⟨j, h1, h2⟩)
theorem adj_sy (w c o : Nat) : adjB w c o = adjB w o c := by
  unfold adjB fab
  exact decide_eq_decide.mpr (by omega)
section
variable {K : Cfg} {dr : Int64} {a : Abs} {σ : St} {T : Nat → Nat}
theorem CP.ca (h : CP K dr a T σ) : CA K dr a σ := by
  obtain ⟨I, R, h1, h2, _⟩ := h
  exact ⟨I, R, h1, h2⟩
theorem CP.rd (h : CP K dr a T σ) {i : Nat} (hi : i < qC (dN a.2.2.2)) (h30 : i < 30) : aI 0 σ (K.1 41) (nI i) = some (nI (T i)) := by
  obtain ⟨I, R, h1, h2, h3⟩ := h
  exact (ka_41 h1 h30).trans (congrArg some (h3 i hi))
theorem CP.rr (h : CP K dr a T σ) : gR 6 0 σ (K.1 40) = some (K.1 41) ∧ isO 6 σ (K.1 40) = true ∧ gR 9 13 σ (K.1 0) = some (K.1 40) := by
  obtain ⟨I, R, h1, _, _⟩ := h
  exact ⟨kr_40_0 h1, kO_40 h1, kr_0_13 h1⟩
theorem CP.sv (h : CP K dr a T σ) (ok : ScOK (dN a.2.2.2)) : ∃ I R, SV K I R dr 11 (dN a.2.2.2) σ := by
  obtain ⟨I, R, h1, h2, _⟩ := h
  exact ⟨I, R, h1, Or.inl rfl, h2.2.2.2.1.1, ok⟩
theorem CP.put (h : CP K dr a T σ) (c v : Nat) (hc : c < 30) : ∃ t, sI 0 σ (K.1 41) (nI c) (nI v) = some t ∧ CP K dr a (updN T c v) t := by
  obtain ⟨I, R, h1, h2, h3⟩ := h
  obtain ⟨t, e, h4⟩ := h1.putN 41 c (nI v) rfl rfl (fun _ => rfl) hc (by decide)
  refine ⟨t, e, I, _, h4, h2.scr (fun _ _ => rfl) (fun k hk => updR_n _ _ (fun q => hk (by unfold scR; omega))), fun i hi => ?_⟩
  rw [updR_s]
  unfold upd updN
  by_cases q : i = c
  · rw [if_pos q, if_pos q]
  · rw [if_neg q, if_neg q]; exact h3 i hi
theorem CP.to (h : CP K dr a T σ) {T' : Nat → Nat} (e : ∀ i, i < qC (dN a.2.2.2) → T i = T' i) : CP K dr a T' σ := by
  obtain ⟨I, R, h1, h2, h3⟩ := h
  exact ⟨I, R, h1, h2, fun i hi => by rw [h3 i hi, e i hi]⟩
theorem c_fill (h : CA K dr a σ) (h30 : qC (dN a.2.2.2) ≤ 30) : Ok (fJ7_fill_53178 σ (K.1 41) 1000) (fun _ t => CP K dr a (fun _ => 1000) t) := by
  obtain ⟨I, R, hv, hr⟩ := h
  unfold fJ7_fill_53178
  have hN : aN σ (K.1 41) = some (nI 30) := by
    obtain ⟨R', _, hw, _⟩ := hv
    exact aN_of (hw.2 41 rfl) (by decide)
  refine Ok.r hN ?_
  refine Ok.f2 30 0 (fun k x t => x = nI k ∧ ∃ g, CV K I (updR R 41 g) dr t ∧ ∀ i, i < k → g i = nI 1000) (by omega) (by omega) ⟨rfl, R 41, by rw [updR_id rfl]; exact hv, fun i hi => by omega⟩ ?_ ?_
  · rintro j k x t hk ⟨rfl, g, v1, hg⟩ hj
    refine Ok.bF (nI_ge hk (by decide)) (Ok.w (v1.putN 41 k _ rfl rfl (fun _ => rfl) hk (by decide)) ?_)
    intro t2 v2
    rw [updR_updR, updR_s] at v2
    rw [nI_1]
    refine hj _ _ ⟨rfl, _, v2, fun i hi => ?_⟩
    unfold upd
    by_cases q : i = k
    · rw [if_pos q]; rfl
    · rw [if_neg q]; exact hg i (by omega)
  · rintro j x t ⟨rfl, g, v1, hg⟩
    refine Ok.bT (by decide) (Ok.p ⟨I, _, v1, hr.scr (fun _ _ => rfl) (fun k hk => updR_n _ _ (fun q => hk (by unfold scR; omega))), fun i hi => ?_⟩)
    rw [updR_s]
    exact hg i (by omega)
theorem c_least (h : CP K dr a T σ) (ok : ScOK (dN a.2.2.2)) (hT : ∀ i, i < qC (dN a.2.2.2) → T i ≤ 1000) {c : Nat} (hc : c < qC (dN a.2.2.2)) : fX6_leastBeside σ (K.1 40) (K.1 11) (nI c) = some (nI (mnA (adS (dN a.2.2.2)) T c (qC (dN a.2.2.2))), σ) := by
  have h30 := ok.c30
  obtain ⟨I, R, sv⟩ := h.sv ok
  obtain ⟨r1, r2, r3⟩ := h.rr
  rw [← lb_mn ok T hc]
  refine Ok.toE ?_
  unfold fX6_leastBeside
  refine Ok.f3 4 0 (fun k x y t => x = nI (lbT (dN a.2.2.2) T c k) ∧ y = nI k ∧ t = σ) (by omega) (by omega) ⟨rfl, rfl, rfl⟩ ?_ ?_
  · rintro j k x y t hk ⟨rfl, rfl, rfl⟩ hj
    have hl := lbT_1000 (dN a.2.2.2) T c k
    refine Ok.bF (show ¬ nI 4 ≤ nI k from nI_ge hk (by decide)) (Ok.vE (v_O sv) (v_beside sv hc hk) (Ok.vE (v_O sv) (v_hasO sv hc hk) (Ok.j2 ?_)))
    rw [nI_1]
    cases e : bsN (qW (dN a.2.2.2)) (qC (dN a.2.2.2)) c k with
    | none => exact Ok.bT rfl (hj _ _ _ ⟨by rw [lbT, e], rfl, rfl⟩)
    | some o =>
      have ho := bs_lt ok hc hk e
      have := hT o ho
      refine Ok.bF (show ¬ (1 : Int32) = 0 from by decide) (Ok.r r1 (Ok.r (h.rd ho (by omega)) (Ok.cE ((f_min _ _ _).trans (congrArg (fun z => some (z, t)) (min_i (by omega) (by omega)))) (hj _ _ _ ⟨by rw [lbT, e], rfl, rfl⟩))))
  · rintro j x y t ⟨rfl, rfl, rfl⟩
    exact Ok.bT (by decide) (Ok.p ⟨rfl, rfl⟩)
theorem c_measure (h : CA K dr a σ) (ok : ScOK (dN a.2.2.2)) (hb : Nat → Bool) {A B g : Nat} (hA : A ≤ 1000) (hB : B ≤ 1000) (hg : g < qC (dN a.2.2.2)) : Ok (fX6_measure σ (K.1 40) (K.1 11) (nI g) (msk hb (qC (dN a.2.2.2))) (nI A) (nI B)) (fun _ t => CP K dr a (tol (adS (dN a.2.2.2)) (wgt hb A B) (qC (dN a.2.2.2)) g) t) := by
  have h30 := ok.c30
  have hw : ∀ c, wgt hb A B c ≤ 1000 := fun c => by unfold wgt; split <;> omega
  have fin := jac_fin (adj := adS (dN a.2.2.2)) hw hg
  have r0 : gR 6 0 σ (K.1 40) = some (K.1 41) := by
    obtain ⟨I, R, h1, _⟩ := h
    exact kr_40_0 h1
  unfold fX6_measure
  refine Ok.r r0 (Ok.c (c_fill h h30.1) ?_)
  intro w1 t1 h1
  refine Ok.r h1.rr.1 (Ok.j3 ?_)
  have body : ∀ t2, CP K dr a (updN (fun _ => 1000) g (wgt hb A B g)) t2 → Ok (lo3 (fun l13 (x10 : Int32) (x11 : Int32) (t12 : St) =>
      (gI 7 2 t12 (K.1 11)).bind fun x14 =>
    if x14 ≤ x11 then
      some ((), t12)
    else
      if x10 = 0 then
        some ((), t12)
      else
        lo3 (fun l18 (x15 : Int32) (x16 : Int32) (t17 : St) =>
          (gI 7 2 t17 (K.1 11)).bind fun x19 =>
        if x19 ≤ x16 then
          l13 x15 (x11 + 1) t17
        else
          jo1 (fun (v20 : Int32) =>
            bo 6 t17 (K.1 40) (fX6_leastBeside t17 (K.1 40) (K.1 11) x16) (fun x22 t23 =>
            nam (v20 + x22 : Int32) (fun x24 =>
            (gR 6 0 t23 (K.1 40)).bind fun a25 =>
            (aI 0 t23 a25 x16).bind fun x26 =>
            jo2 (fun (x27 : Int32) (t28 : St) =>
              l18 x27 (x16 + 1) t28) (fun j29 =>
              if x26 ≤ x24 then
                j29 x15 t23
              else
                (gR 6 0 t23 (K.1 40)).bind fun a30 =>
                (sI 0 t23 a30 x16 x24).bind (fun t31 =>
                j29 1 t31))))) (fun j21 =>
            if (msk hb (qC (dN a.2.2.2)) >>> (x16 &&& 31)) &&& 1 = 1 then
              j21 (nI A)
            else
              j21 (nI B))) FU 0 0 t12) FU 1 0 t2) (fun _ t => CP K dr a (tol (adS (dN a.2.2.2)) (wgt hb A B) (qC (dN a.2.2.2)) g) t) := by
    intro t2 h2
    refine Ok.f3 (qC (dN a.2.2.2)) 0 (fun r x10 x11 t => x11 = nI r ∧ ∃ T, CP K dr a T t ∧ (∀ c, c < qC (dN a.2.2.2) → T c ≤ jac (adS (dN a.2.2.2)) (wgt hb A B) (qC (dN a.2.2.2)) g r c) ∧ (∀ c, c < qC (dN a.2.2.2) → tol (adS (dN a.2.2.2)) (wgt hb A B) (qC (dN a.2.2.2)) g c ≤ T c) ∧ ((x10 = 0 ∧ ∀ c, c < qC (dN a.2.2.2) → T c = tol (adS (dN a.2.2.2)) (wgt hb A B) (qC (dN a.2.2.2)) g c) ∨ x10 = 1)) (by omega) (by omega) ⟨rfl, _, h2, ?_, ?_, Or.inr rfl⟩ ?_ ?_
    · intro c hc
      show updN (fun _ => 1000) g (wgt hb A B g) c ≤ if c = g then wgt hb A B g else 1000
      exact Nat.le_refl _
    · intro c hc
      exact jac_le hw _ c
    · rintro j r x10 x11 t hr ⟨rfl, T, hP, hU, hL, hx⟩ hj
      have hc2 : gI 7 2 t (K.1 11) = some (nI (qC (dN a.2.2.2))) := ca_f hP.ca 2 (by decide)
      refine Ok.r hc2 (Ok.bF (nI_ge hr (by omega)) ?_)
      rcases hx with ⟨rfl, hx⟩ | rfl
      · exact Ok.bT rfl (Ok.p (hP.to hx))
      refine Ok.bF (by decide) ?_
      have T1000 : ∀ c, c < qC (dN a.2.2.2) → T c ≤ 1000 := fun c hc => Nat.le_trans (hU c hc) (jac_1000 hw _ c)
      refine Ok.f3 (qC (dN a.2.2.2)) 0 (fun i x15 x16 t => x16 = nI i ∧ ∃ T', CP K dr a T' t ∧ (∀ c, c < qC (dN a.2.2.2) → T' c ≤ T c) ∧ (∀ c, c < qC (dN a.2.2.2) → tol (adS (dN a.2.2.2)) (wgt hb A B) (qC (dN a.2.2.2)) g c ≤ T' c) ∧ (∀ c, c < i → ∀ o, o < qC (dN a.2.2.2) → adS (dN a.2.2.2) c o = true → T' c ≤ wgt hb A B c + T o) ∧ ((x15 = 0 ∧ ∀ c, c < qC (dN a.2.2.2) → T' c = T c) ∨ x15 = 1)) (by omega) (by omega) ⟨rfl, T, hP, fun _ _ => Nat.le_refl _, hL, fun c hc => by omega, Or.inl ⟨rfl, fun _ _ => rfl⟩⟩ ?_ ?_
      · rintro j2 i x15 x16 t3 hi ⟨rfl, T', hP', h1', h2', h3', hx'⟩ hj2
        have hc3 : gI 7 2 t3 (K.1 11) = some (nI (qC (dN a.2.2.2))) := ca_f hP'.ca 2 (by decide)
        obtain ⟨q1, q2, q3⟩ := hP'.rr
        have T'1000 : ∀ c, c < qC (dN a.2.2.2) → T' c ≤ 1000 := fun c hc => Nat.le_trans (h1' c hc) (T1000 c hc)
        have m1000 := mnA_1000 (adj := adS (dN a.2.2.2)) (T := T') (c := i) (qC (dN a.2.2.2))
        have wi := hw i
        refine Ok.r hc3 (Ok.bF (nI_ge hi (by omega)) (Ok.j1 ?_))
        have rest : Ok (bo 6 t3 (K.1 40) (fX6_leastBeside t3 (K.1 40) (K.1 11) (nI i)) (fun x22 t23 =>
            nam (nI (wgt hb A B i) + x22 : Int32) (fun x24 =>
            (gR 6 0 t23 (K.1 40)).bind fun a25 =>
            (aI 0 t23 a25 (nI i)).bind fun x26 =>
            jo2 (fun (x27 : Int32) (t28 : St) =>
              j2 x27 (nI i + 1) t28) (fun j29 =>
              if x26 ≤ x24 then
                j29 x15 t23
              else
                (gR 6 0 t23 (K.1 40)).bind fun a30 =>
                (sI 0 t23 a30 (nI i) x24).bind (fun t31 =>
                j29 1 t31))))) (fun _ t => CP K dr a (tol (adS (dN a.2.2.2)) (wgt hb A B) (qC (dN a.2.2.2)) g) t) := by
          refine Ok.vE q2 (c_least hP' ok T'1000 hi) (Ok.nE (nI_add _ _) (Ok.r q1 (Ok.r (hP'.rd hi (by omega)) (Ok.j2 ?_))))
          rw [nI_1]
          have t1 := T'1000 i hi
          have up : ∀ o, o < qC (dN a.2.2.2) → adS (dN a.2.2.2) i o = true → wgt hb A B i + mnA (adS (dN a.2.2.2)) T' i (qC (dN a.2.2.2)) ≤ wgt hb A B i + T o := by
            intro o ho ha
            have u1 := mnA_le (T := T') ho ha
            have u2 := h1' o ho
            omega
          refine Ok.bI (nI_leI (by omega) (by omega)) (fun z => ?_) (fun z => ?_)
          · refine hj2 _ _ _ ⟨rfl, T', hP', h1', h2', fun c hc o ho ha => ?_, hx'⟩
            by_cases e : c = i
            · subst e
              have := up o ho ha
              omega
            · exact h3' c (by omega) o ho ha
          · refine Ok.r q1 (Ok.w (hP'.put i _ (by omega)) ?_)
            intro t4 hP4
            refine hj2 _ _ _ ⟨rfl, _, hP4, fun c hc => ?_, fun c hc => ?_, fun c hc o ho ha => ?_, Or.inr rfl⟩
            · unfold updN
              by_cases e : c = i
              · subst e; rw [if_pos rfl]; have := h1' c hc; omega
              · rw [if_neg e]; exact h1' c hc
            · unfold updN
              by_cases e : c = i
              · subst e
                rw [if_pos rfl]
                rcases mnA_at (adj := adS (dN a.2.2.2)) (T := T') (c := c) (qC (dN a.2.2.2)) with m | ⟨o, o1, o2, o3⟩
                · have := jac_1000 (adj := adS (dN a.2.2.2)) (n := qC (dN a.2.2.2)) (g := g) hw (qC (dN a.2.2.2)) c
                  unfold tol
                  omega
                · have f1 := fin.2 c hc o o1 o2
                  have f2 := h2' o o1
                  unfold tol at f2 ⊢
                  omega
              · rw [if_neg e]; exact h2' c hc
            · unfold updN
              by_cases e : c = i
              · subst e; rw [if_pos rfl]; exact up o ho ha
              · rw [if_neg e]; exact h3' c (by omega) o ho ha
        rw [bit_msk hb (by omega) hi]
        refine Ok.bI bI_1 (fun z => ?_) (fun z => ?_)
        · have e : wgt hb A B i = A := if_pos z
          rw [e] at rest
          exact rest
        · have e : wgt hb A B i = B := if_neg z
          rw [e] at rest
          exact rest
      · rintro j2 x15 x16 t3 ⟨rfl, T', hP', h1', h2', h3', hx'⟩
        have hc3 : gI 7 2 t3 (K.1 11) = some (nI (qC (dN a.2.2.2))) := ca_f hP'.ca 2 (by decide)
        rw [nI_1]
        refine Ok.r hc3 (Ok.bT (nI_le (Nat.le_refl _) (by omega)) (hj _ _ _ ⟨rfl, T', hP', jac_step hw hU h1' h3', h2', ?_⟩))
        rcases hx' with ⟨rfl, hx'⟩ | rfl
        · refine Or.inl ⟨rfl, fun c hc => Nat.le_antisymm ?_ (h2' c hc)⟩
          refine tol_max (T := T') hw ⟨fun c hc => Nat.le_trans (h1' c hc) (Nat.le_trans (hU c hc) (jac_le hw r c)), fun c hc o ho ha => ?_⟩ hc
          rw [hx' o ho]
          exact h3' c hc o ho ha
        · exact Or.inr rfl
    · rintro j x10 x11 t ⟨rfl, T, hP, hU, hL, hx⟩
      have hc2 : gI 7 2 t (K.1 11) = some (nI (qC (dN a.2.2.2))) := ca_f hP.ca 2 (by decide)
      exact Ok.r hc2 (Ok.bT (nI_le (Nat.le_refl _) (by omega)) (Ok.p (hP.to (fun c hc => Nat.le_antisymm (hU c hc) (hL c hc)))))
  rw [bit_msk hb (by omega) hg]
  refine Ok.bI bI_1 (fun z => ?_) (fun z => ?_)
  · have e : wgt hb A B g = A := if_pos z
    rw [e] at body
    exact Ok.w (h1.put g A (by omega)) (fun t2 h2 => body t2 h2)
  · have e : wgt hb A B g = B := if_neg z
    rw [e] at body
    exact Ok.w (h1.put g B (by omega)) (fun t2 h2 => body t2 h2)
end
