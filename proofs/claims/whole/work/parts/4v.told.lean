/-! what was told: HEIGHTS and ASK -/
theorem sG_sG (s : Scn) (c u v : Nat) : sG (sG s c u) c v = sG s c v := by
  have : updN (updN s.2.1 c u) c v = updN s.2.1 c v := by
    funext k
    unfold updN
    split <;> rfl
  show (s.1, updN (updN s.2.1 c u) c v, s.2.2) = _
  rw [this]; rfl
def fitB (g : Gvn) (s : Scn) (L : Option LawF) (c : Nat) : Bool := !anyB (fun k => decide (g.2.2.1 k = c) && !decide (bI (sees s L (g.2.1 k) c) = bI (g.2.2.2 k))) g.1
def ptD (a : Abs) (c : Nat) (h : Nat) : Bool := fitB (dV a.2.2.2) (sG (dO a.2.2.2) c h) (rul a.2.1) c
def nthF (p : Nat → Bool) (w : Int32) : Nat → Nat → Int32
  | 0, _ => -1
  | d + 1, k => if p k = true then (if nI (fa_cnt p k) = w then nI k else nthF p w d (k + 1)) else nthF p w d (k + 1)
def heightsA (a : Abs) (v w : Int32) : Int32 := match ix v (qC (dN a.2.2.2)) with
  | none => -1
  | some c => if w = -1 then nI (fa_cnt (ptD a c) 10) else nthF (ptD a c) w 10 0
def balI (p q : Nat → Bool) : Nat → Int32
  | 0 => 0
  | k + 1 => if p k = true then (if q k = true then balI p q k + 1 else balI p q k + (-1)) else balI p q k
def absI (x : Int32) : Int32 := if 0 ≤ x then x else -x
def minJ (f : Nat → Int32) : Nat → Nat
  | 0 => 0
  | k + 1 => if f (minJ f k) ≤ f k then minJ f k else k
theorem minJ_lt (f : Nat → Int32) : ∀ k, 0 < k → minJ f k < k
  | 0, h => absurd h (by decide)
  | 1, _ => by
    unfold minJ
    split
    · exact Nat.zero_lt_one
    · exact Nat.zero_lt_one
  | k + 2, _ => by
    have ih := minJ_lt f (k + 1) (by omega)
    rw [minJ]
    split
    · omega
    · omega
def aptI (a : Abs) (c t : Nat) : Int32 := absI (balI (ptD a c) (fun h => sees (sG (dO a.2.2.2) c h) (rul a.2.1) t c) 10)
def askA (a : Abs) (v : Int32) : Int32 := match ix v (qC (dN a.2.2.2)) with
  | none => -1
  | some c => if anyB (ptD a c) 10 = true then nI (minJ (aptI a c) (qT (dN a.2.2.2))) else -1
theorem nthF_neg (p : Nat → Bool) {w : Int32} (hw : w < 0) : ∀ d k, d + k ≤ 10 → nthF p w d k = -1
  | 0, _, _ => rfl
  | d + 1, k, h => by
    have hle := fa_cnt_le p k
    have hne : ¬ nI (fa_cnt p k) = w := fun q => by rw [← q] at hw; exact nI_pos (by omega) hw
    unfold nthF
    rw [if_neg hne, nthF_neg p hw d (k + 1) (by omega)]
    split <;> rfl
theorem nthF_0 (p : Nat → Bool) : ∀ d k, d + k ≤ 10 → fa_cnt p k = 0 → (nthF p 0 d k = -1 ↔ ∀ i, k ≤ i → i < k + d → p i = false)
  | 0, k, _, _ => ⟨fun _ i h1 h2 => by omega, fun _ => rfl⟩
  | d + 1, k, h, h0 => by
    unfold nthF
    by_cases q : p k = true
    · rw [if_pos q, if_pos (by rw [h0]; rfl)]
      refine ⟨fun z => absurd z (m1_nI (by omega)), fun z => ?_⟩
      rw [z k (by omega) (by omega)] at q
      exact absurd q (by decide)
    · rw [if_neg q]
      have q' : p k = false := by simpa using q
      rw [nthF_0 p d (k + 1) (by omega) (by rw [fa_cnt_no q']; exact h0)]
      refine ⟨fun z i h1 h2 => ?_, fun z i h1 h2 => z i (by omega) (by omega)⟩
      by_cases e : i = k
      · subst e; exact q'
      · exact z i (by omega) (by omega)
theorem any_0 (p : Nat → Bool) : (nthF p 0 10 0 = -1) ↔ ¬ anyB p 10 = true := by
  rw [nthF_0 p 10 0 (by omega) rfl, anyB_iff]
  constructor
  · rintro h ⟨i, hi, hp⟩
    rw [h i (by omega) (by omega)] at hp
    exact absurd hp (by decide)
  · intro h i _ hi
    cases q : p i
    · rfl
    · exact absurd ⟨i, by omega, q⟩ h
theorem any_m (p : Nat → Bool) : (msk p 10 = 0) ↔ ¬ anyB p 10 = true := by
  rw [anyB_iff]
  constructor
  · rintro h ⟨i, hi, hp⟩
    have := congrArg (fun z => bt z i) h
    simp only [bt_msk p 10 (by omega) i (by omega), b_0, decide_eq_true hi, Bool.true_and, hp] at this
    exact absurd this (by decide)
  · intro h
    refine (msk_ext (by omega) (fun i _ => ?_)).symm
    rw [b_0]
    by_cases q : i < 10
    · cases z : p i
      · simp
      · exact absurd ⟨i, q, z⟩ h
    · rw [decide_eq_false q]; rfl
theorem nine_lt {k : Nat} (h : k < 10) : ¬ (9 : Int32) < nI k := nI_nlt (a := 9) (by omega) (by omega)
def CX (K : Cfg) (dr : Int64) (a : Abs) (s : Scn) (σ : St) : Prop := ∃ I R, CV K I R dr σ ∧ CR K I R a ∧ ScR I R 23 s
section
variable {K : Cfg} {dr : Int64} {a : Abs} {σ : St} {s : Scn}
theorem CX.ca (h : CX K dr a s σ) : CA K dr a σ := by
  obtain ⟨I, R, h1, h2, _⟩ := h
  exact ⟨I, R, h1, h2⟩
theorem CX.sv (h : CX K dr a s σ) (ok : ScOK s) : ∃ I R, SV K I R dr 23 s σ ∧ ∀ t, SV K I R dr 23 s t → CX K dr a s t := by
  obtain ⟨I, R, h1, h2, h3⟩ := h
  exact ⟨I, R, ⟨h1, Or.inr (Or.inr rfl), h3, ok⟩, fun t ht => ⟨I, R, ht.1, h2, h3⟩⟩
theorem CX.setG (h : CX K dr a s σ) (c v : Nat) (hc : c < 30) : ∃ t, sI 0 σ (K.1 24) (nI c) (nI v) = some t ∧ CX K dr a (sG s c v) t := by
  obtain ⟨I, R, h1, h2, h3⟩ := h
  obtain ⟨t, e, h4⟩ := b_putG h1 (Or.inr (Or.inr rfl)) c (nI v) hc
  exact ⟨t, e, _, _, h4, h2.trial (FrB.rf _ _) (FrR.up 23 1 R _ (by decide) (by decide)), h3.setG c v⟩
theorem CX.setM (h : CX K dr a s σ) (c v : Nat) (hc : c < 4) : ∃ t, sI 0 σ (K.1 26) (nI c) (nI v) = some t ∧ CX K dr a (sM s c v) t := by
  obtain ⟨I, R, h1, h2, h3⟩ := h
  obtain ⟨t, e, h4⟩ := b_putT h1 (Or.inr (Or.inr rfl)) 3 c (nI v) (by decide) (by decide) hc
  exact ⟨t, e, _, _, h4, h2.trial (FrB.rf _ _) (FrR.up 23 3 R _ (by decide) (by decide)), h3.setM c v⟩
theorem CX.setF (h : CX K dr a s σ) (f v : Nat) (hf : f = 4 ∨ f = 6) : ∃ t, pV 7 f σ (K.1 23) (.int (nI v)) = some t ∧ CX K dr a (sF s f v) t := by
  obtain ⟨I, R, h1, h2, h3⟩ := h
  obtain ⟨t, e, h4⟩ := b_put h1 (Or.inr (Or.inr rfl)) f (nI v) (by omega)
  exact ⟨t, e, _, _, h4, h2.trial (FrB.up 23 f I _ (by omega)) (FrR.rf _ _), h3.setF f v (by omega) (by omega)⟩
theorem CA.told (h : CA K dr a σ) (ok : ScOK (dO a.2.2.2)) : Ok (fX7_become σ (K.1 23) (K.1 17)) (fun _ t => CX K dr a (dO a.2.2.2) t) := by
  obtain ⟨I, R, h1, h2⟩ := h
  refine (v_become h1 (Or.inr (Or.inr rfl)) (Or.inr (Or.inl rfl)) (by decide) h2.2.2.2.2.1 ok.c30.1 ok.t.2 ok.cw).imp ?_
  rintro w t ⟨I', R', g1, g2, g3, g4⟩
  exact ⟨I', R', g1, h2.trial g3 g4, g2⟩
theorem CA.trial (h : CA K dr a σ) (ok : ScOK (dN a.2.2.2)) : Ok (fX7_become σ (K.1 23) (K.1 11)) (fun _ t => CX K dr a (dN a.2.2.2) t) := by
  obtain ⟨I, R, h1, h2⟩ := h
  refine (v_become h1 (Or.inr (Or.inr rfl)) (Or.inl rfl) (by decide) h2.2.2.2.1.1 ok.c30.1 ok.t.2 ok.cw).imp ?_
  rintro w t ⟨I', R', g1, g2, g3, g4⟩
  exact ⟨I', R', g1, h2.trial g3 g4, g2⟩
theorem cx_tr (h : CX K dr a s σ) : gR 9 10 σ (K.1 0) = some (K.1 23) ∧ isO 7 σ (K.1 23) = true ∧ gR 9 12 σ (K.1 0) = some (K.1 34) ∧ isO 1 σ (K.1 34) = true ∧ gR 7 9 σ (K.1 23) = some (K.1 24) ∧ gR 7 11 σ (K.1 23) = some (K.1 26) := by
  obtain ⟨I, R, hv, _⟩ := h
  exact ⟨kr_0_10 hv, kO_23 hv, kr_0_12 hv, kO_34 hv, kr_23_9 hv, kr_23_11 hv⟩
theorem c_fits (h : CX K dr a s σ) (ok : ScOK s) (hm : qT s = qT (dN a.2.2.2)) (hmc : qC s = qC (dN a.2.2.2)) (okd : LdOK a.2.2.2) {c : Nat} (hc : c < qC s) {q : Option Nat} (hq : Rul K q (rul a.2.1)) : Ok (fX1_fits σ (K.1 34) (K.1 23) (nI c) q) (fun r t => r = bI (fitB (dV a.2.2.2) s (rul a.2.1) c) ∧ CX K dr a s t) := by
  have h30 := ok.c30
  unfold fX1_fits
  have hn10 : (dV a.2.2.2).1 ≤ 10 := by
    obtain ⟨I, R, _, hr, _⟩ := h
    exact hr.2.2.2.2.2.2.2.1.2.1
  refine Ok.f2 (dV a.2.2.2).1 0 (fun k x t => x = nI k ∧ anyB (fun k => decide ((dV a.2.2.2).2.2.1 k = c) && !decide (bI (sees s (rul a.2.1) ((dV a.2.2.2).2.1 k) c) = bI ((dV a.2.2.2).2.2.2 k))) k = false ∧ CX K dr a s t) (by omega) (by omega) ⟨rfl, rfl, h⟩ ?_ ?_
  · rintro j k x t hk ⟨rfl, hn, h1⟩ hj
    obtain ⟨o1, o2⟩ := okd.2.2.2.2.2.1 k hk
    have h1' := h1
    obtain ⟨I, R, hv, hr, hs⟩ := h1
    obtain ⟨g1, g2, g3⟩ := hr.2.2.2.2.2.2.2.1
    obtain ⟨g4, g5, g6⟩ := g3 k hk
    refine Ok.r ((kr_34_3 hv).trans (congrArg some g1)) (Ok.bF (nI_ge hk (by omega)) (Ok.r (kr_34_1 hv) (Ok.r ((ka_36 hv (by omega)).trans (congrArg some g5)) (Ok.j1 ?_))))
    rw [nI_1]
    refine Ok.bI (nI_eq (by omega) (by omega)) (fun e => ?_) (fun e => ?_)
    · have sv : SV K I R dr 23 s t := ⟨hv, Or.inr (Or.inr rfl), hs, ok⟩
      refine Ok.r (kr_34_0 hv) (Ok.r ((ka_35 hv (by omega)).trans (congrArg some g4)) (Ok.v (v_O sv) (v_beholds sv (by omega) hc hq) ?_))
      rintro r2 t2 ⟨rfl, s2⟩
      refine Ok.r (kr_34_2 s2.1) (Ok.r ((ka_37 s2.1 (by omega)).trans (congrArg some g6)) (Ok.b (fun z => ?_) (fun z => ?_)))
      · exact hj _ _ ⟨rfl, by simp [anyB, hn, z], I, R, s2.1, hr, hs⟩
      · refine Ok.p ⟨?_, I, R, s2.1, hr, hs⟩
        have : anyB (fun k => decide ((dV a.2.2.2).2.2.1 k = c) && !decide (bI (sees s (rul a.2.1) ((dV a.2.2.2).2.1 k) c) = bI ((dV a.2.2.2).2.2.2 k))) (dV a.2.2.2).1 = true := anyB_iff.mpr ⟨k, hk, by simp [e, z]⟩
        unfold fitB
        rw [this]; rfl
    · exact hj _ _ ⟨rfl, by simp [anyB, hn, e], h1'⟩
  · rintro j x t ⟨rfl, hn, h1⟩
    have h1' := h1
    obtain ⟨I, R, hv, hr, hs⟩ := h1
    obtain ⟨g1, g2, g3⟩ := hr.2.2.2.2.2.2.2.1
    refine Ok.r ((kr_34_3 hv).trans (congrArg some g1)) (Ok.bT (nI_le (Nat.le_refl _) (by omega)) (Ok.p ⟨?_, h1'⟩))
    unfold fitB
    rw [hn]; rfl
theorem c_fitting (h : CX K dr a (dO a.2.2.2) σ) (okd : LdOK a.2.2.2) {c : Nat} (hc : c < qC (dN a.2.2.2)) {q : Option Nat} (hq : Rul K q (rul a.2.1)) : Ok (fX1_fitting σ (K.1 34) (K.1 23) (nI c) q) (fun r t => r = msk (ptD a c) 10 ∧ ∃ s', CX K dr a s' t ∧ ∀ v, sG s' c v = sG (dO a.2.2.2) c v) := by
  obtain ⟨oko, ⟨s1, s2, s3, s4, s5⟩, _⟩ := okd.2.1
  have h30 := oko.c30
  unfold fX1_fitting
  refine Ok.f3 10 0 (fun k x y t => x = msk (ptD a c) k ∧ y = nI k ∧ ∃ s', CX K dr a s' t ∧ ∀ v, sG s' c v = sG (dO a.2.2.2) c v) (by omega) (by omega) ⟨rfl, rfl, _, h, fun _ => rfl⟩ ?_ ?_
  · rintro j k x y t hk ⟨rfl, rfl, s', h1, hs'⟩ hj
    obtain ⟨_, _, _, o1, g1, _⟩ := cx_tr h1
    refine Ok.bF (nine_lt hk) (Ok.r g1 (Ok.w (h1.setG c k (by omega)) ?_))
    intro t2 h2
    rw [hs'] at h2
    obtain ⟨_, _, _, o2, _, _⟩ := cx_tr h2
    refine Ok.v o2 (c_fits h2 (oko.sG c (by omega)) s4 s3 okd (show c < qC (sG (dO a.2.2.2) c k) from by show c < qC (dO a.2.2.2); omega) hq) ?_
    rintro r3 t3 ⟨rfl, h3⟩
    refine Ok.j1 ?_
    rw [nI_1]
    refine Ok.bI bI_0 (fun z => ?_) (fun z => ?_)
    · exact hj _ _ _ ⟨by simp [msk, ptD, z], rfl, _, h3, fun v => sG_sG _ _ _ _⟩
    · exact Ok.n (hj _ _ _ ⟨by simp at z; simp [msk, ptD, z, bitm], rfl, _, h3, fun v => sG_sG _ _ _ _⟩)
  · rintro j x y t ⟨rfl, rfl, s', h1, hs'⟩
    exact Ok.bT (by decide) (Ok.p ⟨rfl, s', h1, hs'⟩)
end
