/-! Class and reference side by side -/
theorem AOK.tp {a : Abs} (h : AOK a) : TpOK a.1 := by
  intro i hi e
  obtain ⟨b, hb, eb⟩ := h.1 i hi
  rw [eb] at e
  have e2 := congrArg Int32.toInt e
  rw [nI_toInt (by omega)] at e2
  have : (-1 : Int32).toInt = -1 := by decide
  omega
/-- back to a scene that was -/
theorem LdOK.go {d : Lnd} (ok : LdOK d) {e : Snp} (he : SnOK (dN d) e) {l : List Snp} (hl : ∀ x ∈ l, SnOK (dN d) x) (hc : chn (qU e.1) l) : LdOK (e, d.2.1, l, d.2.2.2) := by
  obtain ⟨k1, k2, k3, k4, k5, k6, k7⟩ := ok
  have hm : SmL e.1 (dN d) := he.2.1.sy
  obtain ⟨m1, m2, m3, m4, m5⟩ := he.2.1
  refine ⟨he.mv hm, ⟨k2.1, hm.tr k2.2.1, k2.2.2⟩, fun x hx => (hl x hx).mv hm, hc, fun x hx => (k5 x hx).mv hm, fun k hk => ?_, fun k hk => ?_⟩
  · show (dV d).2.1 k < qT e.1 ∧ (dV d).2.2.1 k < qC e.1
    rw [m4, m3]; exact k6 k hk
  · show (dH d).2.1 k < qT e.1
    rw [m4]; exact k7 k hk
theorem undoA_ok {a : Abs} (h : AOK a) : AOK (undoA a).2 := by
  unfold undoA
  cases e : dA a.2.2.2 with
  | nil => exact h
  | cons x l =>
    refine ⟨h.1, ?_⟩
    rcases h.2 with q | ok
    · have := q.2.2.2.2.2.1
      rw [e] at this; cases this
    · have k3 := ok.2.2.1
      have k4 := ok.2.2.2.1
      rw [e] at k3 k4
      exact Or.inr (ok.go (k3 x List.mem_cons_self) (fun y hy => k3 y (List.mem_cons_of_mem _ hy)) k4.2.2)
theorem backA_ok {a : Abs} (h : AOK a) : AOK (backA a).2 := by
  unfold backA
  cases e : dI a.2.2.2 with
  | none => exact h
  | some x =>
    refine ⟨h.1, ?_⟩
    rcases h.2 with q | ok
    · have := q.2.2.2.2.2.2.1
      rw [e] at this; cases this
    · exact Or.inr (ok.go (ok.2.2.2.2.1 x e) (fun y hy => by cases hy) trivial)
theorem imageA_ok {a : Abs} (h : AOK a) : AOK (if qC (dN a.2.2.2) = 0 then ((-1 : Int32), a) else (nI (qU (dN a.2.2.2)), setD a (imageD a.2.2.2))).2 := by
  by_cases q : qC (dN a.2.2.2) = 0
  · rw [if_pos q]; exact h
  · rw [if_neg q]
    refine ⟨h.1, ?_⟩
    rcases h.2 with w | ok
    · exact absurd w.1 q
    · exact Or.inr ⟨ok.1, ok.2.1, ok.2.2.1, ok.2.2.2.1, fun e he => by cases he; exact ok.1, ok.2.2.2.2.2⟩
theorem nilD_ok {s : Scn} (h : ScOK s) (hu : qU s = 0) (hl : qL s = 0) : LdOK (nilD s) := by
  have hs : SnOK s (s, []) := ⟨h, SmL.rf s, by show qL s = qU s; omega, by unfold LgOK; refine ⟨?_, fun e he => by cases he⟩; show 0 = min 60 (qU s); omega⟩
  exact ⟨hs, ⟨h, SmL.rf s, hu, hl⟩, fun e he => (by cases he), trivial, fun e he => (by cases he), fun k hk => absurd hk (Nat.not_lt_zero k), fun k hk => absurd hk (Nat.not_lt_zero k)⟩
theorem landN_ok {a : Abs} (h : (landT a.1).2 = none) : AOK (landN a (landT a.1).1) ∧ HrOK (landN a (landT a.1).1).2.2.2 := by
  obtain ⟨hR, hF⟩ := land_R h
  refine ⟨⟨fun i hi => absurd hi (Nat.not_lt_zero i), Or.inr (nilD_ok (scnL_ok hR hF) rfl rfl)⟩, ?_, fun e he => (by cases he), fun e he => by cases he⟩
  show (0 : Nat) ≤ 9999
  omega
theorem lawN_ok {a : Abs} (h : AOK a) (f : LawF) : AOK (lawN a f) := ⟨fun i hi => absurd hi (Nat.not_lt_zero i), h.2⟩
/-! hours -/
theorem hr_shape {a : Abs} (h : HrOK a.2.2.2) (v : Int32) (lim : Nat) (nw : Nat → Nat) : HrOK (shapeA a v lim nw).2.2.2.2 := by
  unfold shapeA
  split
  · exact h
  · split
    · exact h
    · split
      · exact h.keep.set h.1
      · exact h
theorem hr_mast {a : Abs} (h : HrOK a.2.2.2) (v : Int32) : HrOK (mastA a v).2.2.2.2 := by
  unfold mastA
  split
  · exact h
  · split
    · split
      · exact h.keep.set h.1
      · exact h
    · exact h
theorem hr_moves {a : Abs} (h : HrOK a.2.2.2) (v w : Int32) : HrOK (movesA a v w).2.2.2.2 := by
  unfold movesA
  split
  · exact h
  · split
    · exact h
    · split
      · exact h
      · split
        · exact h.keep.set h.1
        · exact h
theorem hr_fog {a : Abs} (h : HrOK a.2.2.2) (v : Int32) : HrOK (fogA a v).2.2.2.2 := by
  unfold fogA
  split
  · exact h
  · split
    · exact h
    · split
      · exact h
      · exact h.keep.set h.1
theorem hr_oath {a : Abs} (h : HrOK a.2.2.2) (v : Int32) : HrOK (oathA a v).2.2.2.2 := by
  unfold oathA
  split
  · exact h
  · exact h.keep.set h.1
theorem hr_give {a : Abs} (h : HrOK a.2.2.2) (v : Int32) : HrOK (giveA a v).2.2.2.2 := by
  unfold giveA
  split
  · exact h
  · split
    · exact h
    · split
      · exact h
      · split
        · exact h.keep.set h.1
        · exact h
theorem hr_hours {a : Abs} (h : HrOK a.2.2.2) (v : Int32) : HrOK (hoursA a v).2.2.2.2 := by
  unfold hoursA
  split
  · exact h
  · split
    · exact h
    · split
      · exact h
      · split
        · rename_i q
          exact (h.hrs (rul a.2.1) _ q).1
        · exact h
theorem hr_years (f : Int64 → Int64) {a : Abs} (ho : AOK a) (h : HrOK a.2.2.2) (v : Int32) (sd dr : Int64) : HrOK (yearsA f a v sd dr).2.1.2.2.2 := by
  unfold yearsA
  split
  · exact h
  · rename_i q0
    split
    · exact h
    · split
      · exact h
      · split
        · rename_i q
          rcases ho.2 with w | ok
          · exact absurd w.1 q0
          · exact h.yrs ok f _ _ sd _ q
        · exact h
theorem hr_feed {a : Abs} (h : HrOK a.2.2.2) (v1 v2 v3 v4 v5 : Int32) : HrOK (feedA a v1 v2 v3 v4 v5).2.2.2.2 := by
  unfold feedA
  split <;> exact h
theorem hr_end {a : Abs} (h : HrOK a.2.2.2) (v : Int32) : HrOK (endA a v).2.2.2.2 := by
  unfold endA
  split <;> exact h
theorem hr_law {a : Abs} (h : HrOK a.2.2.2) (v : Int32) : HrOK (lawA a v).2.2.2.2 := by
  unfold lawA
  split
  · exact h
  · split <;> exact h
theorem hr_mist {a : Abs} (h : HrOK a.2.2.2) (v : Int32) : HrOK (mistA a v).2.2.2.2 := by
  unfold mistA
  split
  · exact h
  · split <;> exact h
theorem hr_given {a : Abs} (h : HrOK a.2.2.2) (v w : Int32) (b : Bool) : HrOK (givenA a v w b).2.2.2.2 := by
  unfold givenA
  split
  · split <;> exact h
  · exact h
theorem hr_heard {a : Abs} (h : HrOK a.2.2.2) (v w : Int32) : HrOK (heardA a v w).2.2.2.2 := by
  unfold heardA
  split
  · split
    · split <;> exact h
    · exact h
  · exact h
theorem hr_undo {a : Abs} (h : HrOK a.2.2.2) : HrOK (undoA a).2.2.2.2 := by
  unfold undoA
  cases e : dA a.2.2.2 with
  | nil => exact h
  | cons x l =>
    have k := h.2.1
    rw [e] at k
    exact ⟨k x List.mem_cons_self, fun y hy => k y (List.mem_cons_of_mem _ hy), h.2.2⟩
theorem hr_back {a : Abs} (h : HrOK a.2.2.2) : HrOK (backA a).2.2.2.2 := by
  unfold backA
  cases e : dI a.2.2.2 with
  | none => exact h
  | some x => exact ⟨h.2.2 x e, fun y hy => (by cases hy), h.2.2⟩
theorem hr_image {a : Abs} (h : HrOK a.2.2.2) : HrOK (if qC (dN a.2.2.2) = 0 then ((-1 : Int32), a) else (nI (qU (dN a.2.2.2)), setD a (imageD a.2.2.2))).2.2.2.2 := by
  split
  · exact h
  · exact ⟨h.1, h.2.1, fun e he => by cases he; exact h.1⟩
/-! the relation -/
def RelX (x mo ou : Nat) (σ : St) : Prop := ∃ (K : Cfg) (M : Mfg) (dr : Int64) (a : Abs) (f : Nat → Int64), (x = K.1 0 ∧ mo = M.1 0) ∧ CA K dr a σ ∧ MA M dr a σ ∧ AOK a ∧ HrOK a.2.2.2 ∧ (∀ z, setK K z → ¬ setM M.1 z) ∧ (∀ j, j < 8 → rd σ (σ.1.1 j) = some (zc j) ∧ ¬ setK K (σ.1.1 j) ∧ ¬ setM M.1 (σ.1.1 j)) ∧ σ.2.2 ou = some (.inl (3, 1, .inr (.inl f))) ∧ ¬ setK K ou ∧ ¬ setM M.1 ou
section
variable {K K' : Cfg} {M : Mfg} {dr dr2 : Int64} {a a2 : Abs} {σ t1 : St} {ou : Nat}
theorem st_K (h : CA K dr a σ) (hs : ∀ j, j < 8 → rd σ (σ.1.1 j) = some (zc j) ∧ ¬ setK K (σ.1.1 j)) : StK K := by
  intro j hj
  have hm := h.sm1
  obtain ⟨h1, h2⟩ := hs j hj
  rw [← hm.1]
  refine ⟨?_, h2⟩
  unfold rd at h1 ⊢
  rw [← hm.2 _ h2, ← hm.1]
  exact h1
/-- the class has answered: now the reference -/
theorem rel_fin {E2 : St → Nat → Option (Int32 × St)} {r : Int32} {f : Nat → Int64} (hK : K'.1 = K.1) (hm : MA M dr a σ) (hc : CA K' dr2 a2 t1) (e1 : t1.1 = σ.1) (ez : ∀ z, ¬ setK K' z → t1.2.2 z = σ.2.2 z) (hd : ∀ z, setK K' z → ¬ setM M.1 z) (hs : ∀ j, j < 8 → rd σ (σ.1.1 j) = some (zc j) ∧ ¬ setK K' (σ.1.1 j) ∧ ¬ setM M.1 (σ.1.1 j)) (ho : σ.2.2 ou = some (.inl (3, 1, .inr (.inl f)))) (ho1 : ¬ setK K' ou) (ho2 : ¬ setM M.1 ou) (hE : ∀ (M : Mfg) τ, MA M dr a τ → Ok (E2 τ (M.1 0)) (fun r' t => r' = r ∧ MA M dr2 a2 t)) (hA : AOK a2) (hH : HrOK a2.2.2.2) : isO 10 t1 (M.1 0) = true ∧ ∃ t2, E2 t1 (M.1 0) = some (r, t2) ∧ RelX (K.1 0) (M.1 0) ou t2 := by
  have m1 : MA (M.1, t1) dr a t1 := ma_reb hm (fun z hz => ez z (fun q => hd z q hz))
  have o1 := ma_O (M := (M.1, t1)) m1
  refine ⟨o1, ?_⟩
  obtain ⟨r', t2, e2, rfl, m2⟩ := hE (M.1, t1) t1 m1
  have w := ma_sm2 m1 m2
  refine ⟨t2, e2, rebK K' t2, (M.1, t1), dr2, a2, f, ⟨by show K.1 0 = K'.1 0; rw [hK], rfl⟩, hc.reb (fun z hz => w.2 z (hd z hz)), m2, hA, hH, fun z hz => hd z hz, fun j hj => ?_, ?_, ho1, ho2⟩
  · obtain ⟨s1, s2, s3⟩ := hs j hj
    rw [w.1, e1]
    refine ⟨?_, s2, s3⟩
    unfold rd at s1 ⊢
    rw [w.2 _ s3, ez _ s2, w.1, e1]
    exact s1
  · rw [w.2 ou ho2, ez ou ho1]; exact ho
theorem pair {E1 E2 : St → Nat → Option (Int32 × St)} (H : ∀ (K : Cfg) dr a τ, CA K dr a τ → StK K → AOK a → HrOK a.2.2.2 → ∃ r dr2 a2, Ok (E1 τ (K.1 0)) (fun r' t => r' = r ∧ CA K dr2 a2 t) ∧ (∀ (M : Mfg) τ', MA M dr a τ' → Ok (E2 τ' (M.1 0)) (fun r' t => r' = r ∧ MA M dr2 a2 t)) ∧ AOK a2 ∧ HrOK a2.2.2.2) : stp RelX E1 E2 := by
  rintro x mo ou σ ⟨K, M, dr, a, f, ⟨rfl, rfl⟩, hc, hm, hA, hH, hd, hs, ho, ho1, ho2⟩
  obtain ⟨r, dr2, a2, h1, h2, hA2, hH2⟩ := H K dr a σ hc (st_K hc (fun j hj => ⟨(hs j hj).1, (hs j hj).2.1⟩)) hA hH
  obtain ⟨r', t1, e1, rfl, c1⟩ := h1
  have w := hc.sm2 c1
  obtain ⟨g1, t2, g2, g3⟩ := rel_fin rfl hm c1 w.1 w.2 hd hs ho ho1 ho2 h2 hA2 hH2
  exact ⟨r', t1, t2, e1, g1, g2, g3⟩
theorem relO : lawO RelX := by
  rintro x mo ou σ ⟨K, M, dr, a, f, ⟨rfl, rfl⟩, hc, hm, _⟩
  exact ⟨ca_O hc, ma_O hm⟩
end
