/-! what class and reference hold alike: one abstract state -/
abbrev Ent : Type := Nat × Nat × Nat
abbrev Snp : Type := Scn × List Ent
abbrev Tap : Type := Nat × (Nat → Int32)
abbrev Lws : Type := Nat × (Nat → LawF) × Option Nat
abbrev Msc : Type := Nat × (Nat → Int32)
abbrev Gvn : Type := Nat × (Nat → Nat) × (Nat → Nat) × (Nat → Bool)
abbrev Hrd : Type := Nat × (Nat → Nat) × (Nat → Int32)
abbrev Lnd : Type := Snp × Scn × List Snp × Option Snp × Gvn × Hrd
abbrev Abs : Type := Tap × Lws × Msc × Lnd
abbrev dN (d : Lnd) : Scn := d.1.1
abbrev dG (d : Lnd) : List Ent := d.1.2
abbrev dO (d : Lnd) : Scn := d.2.1
abbrev dA (d : Lnd) : List Snp := d.2.2.1
abbrev dI (d : Lnd) : Option Snp := d.2.2.2.1
abbrev dV (d : Lnd) : Gvn := d.2.2.2.2.1
abbrev dH (d : Lnd) : Hrd := d.2.2.2.2.2
def rul (l : Lws) : Option LawF := l.2.2.map l.2.1
def updN (f : Nat → Nat) (i v : Nat) : Nat → Nat := fun k => if k = i then v else f k
def sF (s : Scn) (f v : Nat) : Scn := (updN s.1 f v, s.2)
def sG (s : Scn) (c v : Nat) : Scn := (s.1, updN s.2.1 c v, s.2.2)
def sP (s : Scn) (t v : Nat) : Scn := (s.1, s.2.1, updN s.2.2.1 t v, s.2.2.2)
def sM (s : Scn) (t v : Nat) : Scn := (s.1, s.2.1, s.2.2.1, updN s.2.2.2.1 t v, s.2.2.2.2)
/-- a number of a row of n, or none -/
def ix (v : Int32) (n : Nat) : Option Nat := if ¬ v < 0 ∧ v < nI n then some v.toNatClampNeg else none
theorem ixc (v : Int32) {n : Nat} (hn : n < 2 ^ 31) : (ix v n = none ∧ ¬ (¬ v < 0 ∧ v < nI n)) ∨ ∃ c, c < n ∧ v = nI c ∧ ix v n = some c := by
  unfold ix
  by_cases h : ¬ v < 0 ∧ v < nI n
  · right
    obtain ⟨j, hj, rfl⟩ := nI_of h.1
    rw [if_pos h, nI_clamp hj]
    exact ⟨j, (nI_ltI hj hn).mp h.2, rfl, rfl⟩
  · exact Or.inl ⟨if_neg h, h⟩
theorem ix_in {c n : Nat} (hc : c < n) (hn : n < 2 ^ 31) : (¬ nI c < 0 ∧ nI c < nI n) := ⟨nI_pos (by omega), nI_lt hc hn⟩
def refA (a : Abs) (k : Nat) : Abs := (a.1, a.2.1, (a.2.2.1.1, upd a.2.2.1.2 k (a.2.2.1.2 k + 1)), a.2.2.2)
def setD (a : Abs) (d : Lnd) : Abs := (a.1, a.2.1, a.2.2.1, d)
def setN (d : Lnd) (s : Scn) : Lnd := ((s, d.1.2), d.2)
def keepD (d : Lnd) : Lnd := (d.1, d.2.1, (d.1 :: d.2.2.1).take 40, d.2.2.2)
def passS (s : Scn) : Scn := sF (sF (sF (sF s 8 (qU s + 1)) 4 (qF s - 1)) 5 (min 999 (qK s + 1))) 6 (qU s + 1)
def passD (L : Option LawF) (d : Lnd) : Lnd := ((passS (dN d), ((fa_cnt (hidB (dN d) L) (qC (dN d)), qB (dN d), qF (dN d)) :: dG d).take 60), d.2)
/-! well formed -/
def EntOK (e : Ent) : Prop := e.1 ≤ 30 ∧ e.2.1 < 16 ∧ e.2.2 ≤ 9
def LgOK (n : Nat) (l : List Ent) : Prop := l.length = min 60 n ∧ ∀ e ∈ l, EntOK e
def SnOK (s : Scn) (e : Snp) : Prop := ScOK e.1 ∧ SmL s e.1 ∧ qL e.1 = qU e.1 ∧ LgOK (qU e.1) e.2
def chn : Nat → List Snp → Prop
  | _, [] => True
  | u, e :: l => qU e.1 ≤ u ∧ u ≤ qU e.1 + 1 ∧ chn (qU e.1) l
def LdOK (d : Lnd) : Prop := SnOK (dN d) d.1 ∧ (ScOK (dO d) ∧ SmL (dN d) (dO d) ∧ qU (dO d) = 0 ∧ qL (dO d) = 0) ∧ (∀ e ∈ dA d, SnOK (dN d) e) ∧ chn (qU (dN d)) (dA d) ∧ (∀ e, dI d = some e → SnOK (dN d) e) ∧ (∀ k, k < (dV d).1 → (dV d).2.1 k < qT (dN d) ∧ (dV d).2.2.1 k < qC (dN d)) ∧ ∀ k, k < (dH d).1 → (dH d).2.1 k < qT (dN d)
def NoLd (d : Lnd) : Prop := qC (dN d) = 0 ∧ qT (dN d) = 0 ∧ qU (dN d) = 0 ∧ qL (dN d) = 0 ∧ dG d = [] ∧ dA d = [] ∧ dI d = none ∧ (dV d).1 = 0 ∧ (dH d).1 = 0
def AOK (a : Abs) : Prop := (∀ i, i < a.1.1 → ∃ b, b < 256 ∧ a.1.2 i = nI b) ∧ (NoLd a.2.2.2 ∨ LdOK a.2.2.2)
theorem chn_at : ∀ {l : List Snp} {u j : Nat} {e : Snp}, chn u l → l[j]? = some e → qU e.1 ≤ u ∧ u ≤ qU e.1 + (j + 1)
  | [], _, _, _, _, h => by simp at h
  | x :: l, u, 0, e, h, q => by
    simp only [List.getElem?_cons_zero, Option.some.injEq] at q
    subst q
    exact ⟨h.1, h.2.1⟩
  | x :: l, u, j + 1, e, h, q => by
    simp only [List.getElem?_cons_succ] at q
    have := chn_at h.2.2 q
    have h1 := h.1
    have h2 := h.2.1
    omega
theorem chn_take : ∀ {l : List Snp} {u : Nat} (n : Nat), chn u l → chn u (l.take n)
  | [], _, n, _ => by simp [chn]
  | x :: l, u, 0, h => by simp [chn]
  | x :: l, u, n + 1, h => by
    rw [List.take_succ_cons]
    exact ⟨h.1, h.2.1, chn_take n h.2.2⟩
theorem SmL.rf (s : Scn) : SmL s s := ⟨rfl, rfl, rfl, rfl, fun _ _ => rfl⟩
theorem SmL.tr {s u v : Scn} (h : SmL s u) (h2 : SmL u v) : SmL s v := ⟨h2.1.trans h.1, h2.2.1.trans h.2.1, h2.2.2.1.trans h.2.2.1, h2.2.2.2.1.trans h.2.2.2.1, fun t ht => (h2.2.2.2.2 t (by rw [h.2.2.2.1]; exact ht)).trans (h.2.2.2.2 t ht)⟩
theorem SmL.sy {s u : Scn} (h : SmL s u) : SmL u s := ⟨h.1.symm, h.2.1.symm, h.2.2.1.symm, h.2.2.2.1.symm, fun t ht => (h.2.2.2.2 t (by rw [h.2.2.2.1] at ht; exact ht)).symm⟩
theorem SnOK.mv {s u : Scn} {e : Snp} (h : SnOK s e) (hm : SmL u s) : SnOK u e := ⟨h.1, hm.tr h.2.1, h.2.2⟩
/-! the class -/
def encE (e : Ent) : Int32 := nI (e.1 * 256 + e.2.1 * 16 + e.2.2)
def RgR (r : Nat → Int32) (n : Nat) (l : List Ent) : Prop := ∀ i e, l[i]? = some e → r ((n - 1 - i) % 128) = encE e
def cTap (I : Nat → Int32) (R : Nat → Nat → Int32) (p : Tap) : Prop := I 21 = nI p.1 ∧ p.1 ≤ 240 ∧ ∀ i, i < p.1 → R 2 i = p.2 i
def cLws (K : Cfg) (I : Nat → Int32) (p : Lws) : Prop := I 4 = nI p.1 ∧ p.1 ≤ 4 ∧ K.2.2.1 = p.1 ∧ I 5 = oI p.2.2 ∧ (∀ i, p.2.2 = some i → i < p.1) ∧ ∀ i, i < p.1 → K.2.2.2.1 i < 19999 ∧ p.2.1 i = evC (K.2.2.2.1 i) (K.2.2.2.2.1 i)
def cMsc (I : Nat → Int32) (R : Nat → Nat → Int32) (p : Msc) : Prop := I 6 = nI p.1 ∧ p.1 ≤ 9 ∧ ∀ i, i < 5 → R 10 i = p.2 i
def cAct (I : Nat → Int32) (R : Nat → Nat → Int32) (l : List Snp) : Prop := ∃ nx, nx < 40 ∧ I 581 = nI nx ∧ I 582 = nI l.length ∧ l.length ≤ 40 ∧ ∀ j e, l[j]? = some e → RcR (R 30) (((nx + 39 - j) % 40) * 43) e.1 ∧ RgR (R 31) (qU e.1) e.2
def cImg (I : Nat → Int32) (R : Nat → Nat → Int32) (p : Option Snp) : Prop := (p = none ∧ I 586 = 0) ∨ ∃ e, p = some e ∧ I 586 = 1 ∧ RcR (R 33) 0 e.1 ∧ RgR (R 32) (qU e.1) e.2
def cGvn (I : Nat → Int32) (R : Nat → Nat → Int32) (p : Gvn) : Prop := I 683 = nI p.1 ∧ p.1 ≤ 10 ∧ ∀ k, k < p.1 → R 35 k = nI (p.2.1 k) ∧ R 36 k = nI (p.2.2.1 k) ∧ R 37 k = bI (p.2.2.2 k)
def cHrd (I : Nat → Int32) (R : Nat → Nat → Int32) (p : Hrd) : Prop := I 686 = nI p.1 ∧ p.1 ≤ 10 ∧ ∀ k, k < p.1 → R 38 k = nI (p.2.1 k) ∧ R 39 k = p.2.2 k
def cLnd (I : Nat → Int32) (R : Nat → Nat → Int32) (d : Lnd) : Prop := (ScR I R 11 (dN d) ∧ RgR (R 31) (qU (dN d)) (dG d)) ∧ ScR I R 17 (dO d) ∧ cAct I R (dA d) ∧ cImg I R (dI d) ∧ cGvn I R (dV d) ∧ cHrd I R (dH d)
def CR (K : Cfg) (I : Nat → Int32) (R : Nat → Nat → Int32) (a : Abs) : Prop := cTap I R a.1 ∧ cLws K I a.2.1 ∧ cMsc I R a.2.2.1 ∧ cLnd I R a.2.2.2
def CA (K : Cfg) (dr : Int64) (a : Abs) (σ : St) : Prop := ∃ I R, CV K I R dr σ ∧ CR K I R a
theorem ScR.fr {I I' : Nat → Int32} {R R' : Nat → Nat → Int32} {b : Nat} {s : Scn} (h : ScR I R b s) (hI : ∀ f, f < 9 → I' (20 * b + f) = I (20 * b + f)) (hR : ∀ j, 1 ≤ j → j ≤ 4 → R' (b + j) = R (b + j)) : ScR I' R' b s := by
  refine ⟨fun f hf => (hI f hf).trans (h.1 f hf), fun i hi => ?_, fun t ht => ⟨?_, ?_, ?_⟩⟩
  · rw [hR 1 (by decide) (by decide)]; exact h.2.1 i hi
  · rw [hR 2 (by decide) (by decide)]; exact (h.2.2 t ht).1
  · rw [hR 3 (by decide) (by decide)]; exact (h.2.2 t ht).2.1
  · rw [hR 4 (by decide) (by decide)]; exact (h.2.2 t ht).2.2
theorem cTap.fr {I I' : Nat → Int32} {R R' : Nat → Nat → Int32} {p : Tap} (h : cTap I R p) (h1 : I' 21 = I 21) (h2 : R' 2 = R 2) : cTap I' R' p := by
  unfold cTap at h ⊢; rw [h1, h2]; exact h
theorem cLws.fr {K : Cfg} {I I' : Nat → Int32} {p : Lws} (h : cLws K I p) (h1 : I' 4 = I 4) (h2 : I' 5 = I 5) : cLws K I' p := by
  unfold cLws at h ⊢; rw [h1, h2]; exact h
theorem cMsc.fr {I I' : Nat → Int32} {R R' : Nat → Nat → Int32} {p : Msc} (h : cMsc I R p) (h1 : I' 6 = I 6) (h2 : R' 10 = R 10) : cMsc I' R' p := by
  unfold cMsc at h ⊢; rw [h1, h2]; exact h
theorem cAct.fr {I I' : Nat → Int32} {R R' : Nat → Nat → Int32} {p : List Snp} (h : cAct I R p) (h1 : I' 581 = I 581) (h2 : I' 582 = I 582) (h3 : R' 30 = R 30) (h4 : R' 31 = R 31) : cAct I' R' p := by
  unfold cAct at h ⊢; rw [h1, h2, h3, h4]; exact h
theorem cImg.fr {I I' : Nat → Int32} {R R' : Nat → Nat → Int32} {p : Option Snp} (h : cImg I R p) (h1 : I' 586 = I 586) (h2 : R' 32 = R 32) (h3 : R' 33 = R 33) : cImg I' R' p := by
  unfold cImg at h ⊢; rw [h1, h2, h3]; exact h
theorem cGvn.fr {I I' : Nat → Int32} {R R' : Nat → Nat → Int32} {p : Gvn} (h : cGvn I R p) (h1 : I' 683 = I 683) (h2 : R' 35 = R 35) (h3 : R' 36 = R 36) (h4 : R' 37 = R 37) : cGvn I' R' p := by
  unfold cGvn at h ⊢; rw [h1, h2, h3, h4]; exact h
theorem cHrd.fr {I I' : Nat → Int32} {R R' : Nat → Nat → Int32} {p : Hrd} (h : cHrd I R p) (h1 : I' 686 = I 686) (h2 : R' 38 = R 38) (h3 : R' 39 = R 39) : cHrd I' R' p := by
  unfold cHrd at h ⊢; rw [h1, h2, h3]; exact h
/-- what nobody asks for -/
def scI (k : Nat) : Prop := k = 22 ∨ k = 23 ∨ (60 ≤ k ∧ k < 80) ∨ (140 ≤ k ∧ k < 160) ∨ (460 ≤ k ∧ k < 480)
def scR (k : Nat) : Prop := (4 ≤ k ∧ k ≤ 8) ∨ (24 ≤ k ∧ k ≤ 28) ∨ 40 ≤ k
section
variable {K : Cfg} {I I' : Nat → Int32} {R R' : Nat → Nat → Int32} {dr : Int64} {a : Abs} {σ : St}
theorem CR.scr (h : CR K I R a) (hI : ∀ k, ¬ scI k → I' k = I k) (hR : ∀ k, ¬ scR k → R' k = R k) : CR K I' R' a := by
  obtain ⟨h1, h2, h3, ⟨h4, h5⟩, h6, h7, h8, h9, h10⟩ := h
  refine ⟨h1.fr (hI _ (by unfold scI; omega)) (hR _ (by unfold scR; omega)), h2.fr (hI _ (by unfold scI; omega)) (hI _ (by unfold scI; omega)), h3.fr (hI _ (by unfold scI; omega)) (hR _ (by unfold scR; omega)), ⟨h4.fr (fun f hf => hI _ (by unfold scI; omega)) (fun j h1 h2 => hR _ (by unfold scR; omega)), ?_⟩, h6.fr (fun f hf => hI _ (by unfold scI; omega)) (fun j h1 h2 => hR _ (by unfold scR; omega)), h7.fr (hI _ (by unfold scI; omega)) (hI _ (by unfold scI; omega)) (hR _ (by unfold scR; omega)) (hR _ (by unfold scR; omega)), h8.fr (hI _ (by unfold scI; omega)) (hR _ (by unfold scR; omega)) (hR _ (by unfold scR; omega)), h9.fr (hI _ (by unfold scI; omega)) (hR _ (by unfold scR; omega)) (hR _ (by unfold scR; omega)) (hR _ (by unfold scR; omega)), h10.fr (hI _ (by unfold scI; omega)) (hR _ (by unfold scR; omega)) (hR _ (by unfold scR; omega))⟩
  rw [hR 31 (by unfold scR; omega)]; exact h5
theorem CR.trial (h : CR K I R a) (hI : FrB 23 I I') (hR : FrR 23 R R') : CR K I' R' a := h.scr (fun k hk => hI k (by unfold scI at hk; omega)) (fun k hk => hR k (by unfold scR at hk; omega))
theorem CR.now (h : CR K I R a) (hI : FrB 11 I I') (hR : FrR 11 R R') {s : Scn} (hs : ScR I' R' 11 s) (hu : qU s = qU (dN a.2.2.2)) : CR K I' R' (setD a (setN a.2.2.2 s)) := by
  obtain ⟨h1, h2, h3, ⟨h4, h5⟩, h6, h7, h8, h9, h10⟩ := h
  refine ⟨h1.fr (hI _ (by omega)) (hR _ (by omega)), h2.fr (hI _ (by omega)) (hI _ (by omega)), h3.fr (hI _ (by omega)) (hR _ (by omega)), ⟨hs, ?_⟩, h6.fr (fun f hf => hI _ (by omega)) (fun j h1 h2 => hR _ (by omega)), h7.fr (hI _ (by omega)) (hI _ (by omega)) (hR _ (by omega)) (hR _ (by omega)), h8.fr (hI _ (by omega)) (hR _ (by omega)) (hR _ (by omega)), h9.fr (hI _ (by omega)) (hR _ (by omega)) (hR _ (by omega)) (hR _ (by omega)), h10.fr (hI _ (by omega)) (hR _ (by omega)) (hR _ (by omega))⟩
  show RgR (R' 31) (qU s) _
  rw [hR 31 (by omega), hu]; exact h5
theorem ScR.setF {b : Nat} {s : Scn} (h : ScR I R b s) (f v : Nat) (h2 : f ≠ 2) (h3 : f ≠ 3) : ScR (upd I (20 * b + f) (nI v)) R b (sF s f v) := by
  have e2 : qC (sF s f v) = qC s := by simp [qC, sF, updN, Ne.symm h2]
  have e3 : qT (sF s f v) = qT s := by simp [qT, sF, updN, Ne.symm h3]
  refine ⟨fun g hg => ?_, fun i hi => ?_, fun t ht => ?_⟩
  · show upd I (20 * b + f) (nI v) (20 * b + g) = nI (updN s.1 f v g)
    unfold updN
    by_cases e : g = f
    · subst e; rw [if_pos rfl]; exact pk_us
    · rw [if_neg e, pk_un (by omega)]; exact h.1 g hg
  · rw [e2] at hi; exact h.2.1 i hi
  · rw [e3] at ht; exact h.2.2 t ht
theorem ScR.setG {b : Nat} {s : Scn} (h : ScR I R b s) (c v : Nat) : ScR I (updR R (b + 1) (upd (R (b + 1)) c (nI v))) b (sG s c v) := by
  refine ⟨h.1, fun i hi => ?_, fun t ht => ?_⟩
  · rw [updR_s]
    show upd (R (b + 1)) c (nI v) i = nI (updN s.2.1 c v i)
    unfold updN
    by_cases e : i = c
    · subst e; rw [if_pos rfl]; exact pk_us
    · rw [if_neg e, pk_un e]; exact h.2.1 i hi
  · rw [updR_n _ _ (by omega), updR_n _ _ (by omega), updR_n _ _ (by omega)]
    exact h.2.2 t ht
theorem ScR.setP {b : Nat} {s : Scn} (h : ScR I R b s) (c v : Nat) : ScR I (updR R (b + 2) (upd (R (b + 2)) c (nI v))) b (sP s c v) := by
  refine ⟨h.1, fun i hi => ?_, fun t ht => ⟨?_, ?_, ?_⟩⟩
  · rw [updR_n _ _ (by omega)]; exact h.2.1 i hi
  · rw [updR_s]
    show upd (R (b + 2)) c (nI v) t = nI (updN s.2.2.1 c v t)
    unfold updN
    by_cases e : t = c
    · subst e; rw [if_pos rfl]; exact pk_us
    · rw [if_neg e, pk_un e]; exact (h.2.2 t ht).1
  · rw [updR_n _ _ (by omega)]; exact (h.2.2 t ht).2.1
  · rw [updR_n _ _ (by omega)]; exact (h.2.2 t ht).2.2
theorem ScR.setM {b : Nat} {s : Scn} (h : ScR I R b s) (c v : Nat) : ScR I (updR R (b + 3) (upd (R (b + 3)) c (nI v))) b (sM s c v) := by
  refine ⟨h.1, fun i hi => ?_, fun t ht => ⟨?_, ?_, ?_⟩⟩
  · rw [updR_n _ _ (by omega)]; exact h.2.1 i hi
  · rw [updR_n _ _ (by omega)]; exact (h.2.2 t ht).1
  · rw [updR_s]
    show upd (R (b + 3)) c (nI v) t = nI (updN s.2.2.2.1 c v t)
    unfold updN
    by_cases e : t = c
    · subst e; rw [if_pos rfl]; exact pk_us
    · rw [if_neg e, pk_un e]; exact (h.2.2 t ht).2.1
  · rw [updR_n _ _ (by omega)]; exact (h.2.2 t ht).2.2
theorem FrB.up (b f : Nat) (I : Nat → Int32) (v : Int32) (hf : f < 9) : FrB b I (upd I (20 * b + f) v) := fun k hk => pk_un (by omega)
theorem FrB.rf (b : Nat) (I : Nat → Int32) : FrB b I I := fun _ _ => rfl
theorem FrR.rf (b : Nat) (R : Nat → Nat → Int32) : FrR b R R := fun _ _ => rfl
theorem FrR.up (b j : Nat) (R : Nat → Nat → Int32) (g : Nat → Int32) (h1 : 1 ≤ j) (h4 : j ≤ 4) : FrR b R (updR R (b + j) g) := fun k hk => updR_n _ _ (by omega)
/-! writes to the scene that is now -/
theorem CA.setF (h : CA K dr a σ) (f v : Nat) (hf : f = 4 ∨ f = 5 ∨ f = 7) : ∃ t, pV 7 f σ (K.1 11) (.int (nI v)) = some t ∧ CA K dr (setD a (setN a.2.2.2 (sF (dN a.2.2.2) f v))) t := by
  obtain ⟨I, R, hv, hr⟩ := h
  obtain ⟨t, e, h1⟩ := b_put hv (Or.inl rfl) f (nI v) (by omega)
  refine ⟨t, e, _, _, h1, hr.now (FrB.up 11 f I _ (by omega)) (FrR.rf _ _) (hr.2.2.2.1.1.setF f v (by omega) (by omega)) ?_⟩
  simp [qU, sF, updN]
  omega
theorem CA.setG (h : CA K dr a σ) (c v : Nat) (hc : c < 30) : ∃ t, sI 0 σ (K.1 12) (nI c) (nI v) = some t ∧ CA K dr (setD a (setN a.2.2.2 (sG (dN a.2.2.2) c v))) t := by
  obtain ⟨I, R, hv, hr⟩ := h
  obtain ⟨t, e, h1⟩ := b_putG hv (Or.inl rfl) c (nI v) hc
  exact ⟨t, e, _, _, h1, hr.now (FrB.rf _ _) (FrR.up 11 1 R _ (by decide) (by decide)) (hr.2.2.2.1.1.setG c v) rfl⟩
theorem CA.setP (h : CA K dr a σ) (c v : Nat) (hc : c < 4) : ∃ t, sI 0 σ (K.1 13) (nI c) (nI v) = some t ∧ CA K dr (setD a (setN a.2.2.2 (sP (dN a.2.2.2) c v))) t := by
  obtain ⟨I, R, hv, hr⟩ := h
  obtain ⟨t, e, h1⟩ := b_putT hv (Or.inl rfl) 2 c (nI v) (by decide) (by decide) hc
  exact ⟨t, e, _, _, h1, hr.now (FrB.rf _ _) (FrR.up 11 2 R _ (by decide) (by decide)) (hr.2.2.2.1.1.setP c v) rfl⟩
theorem CA.setM (h : CA K dr a σ) (c v : Nat) (hc : c < 4) : ∃ t, sI 0 σ (K.1 14) (nI c) (nI v) = some t ∧ CA K dr (setD a (setN a.2.2.2 (sM (dN a.2.2.2) c v))) t := by
  obtain ⟨I, R, hv, hr⟩ := h
  obtain ⟨t, e, h1⟩ := b_putT hv (Or.inl rfl) 3 c (nI v) (by decide) (by decide) hc
  exact ⟨t, e, _, _, h1, hr.now (FrB.rf _ _) (FrR.up 11 3 R _ (by decide) (by decide)) (hr.2.2.2.1.1.setM c v) rfl⟩
/-! reads of the class -/
theorem ca_O (h : CA K dr a σ) : isO 9 σ (K.1 0) = true := by
  obtain ⟨I, R, hv, hr⟩ := h
  exact kO_0 hv
theorem ca_now (h : CA K dr a σ) : gR 9 8 σ (K.1 0) = some (K.1 11) := by
  obtain ⟨I, R, hv, hr⟩ := h
  exact kr_0_8 hv
theorem ca_past (h : CA K dr a σ) : gR 9 11 σ (K.1 0) = some (K.1 29) := by
  obtain ⟨I, R, hv, hr⟩ := h
  exact kr_0_11 hv
theorem ca_O5 (h : CA K dr a σ) : isO 5 σ (K.1 29) = true := by
  obtain ⟨I, R, hv, hr⟩ := h
  exact kO_29 hv
theorem ca_O7 (h : CA K dr a σ) : isO 7 σ (K.1 11) = true := by
  obtain ⟨I, R, hv, hr⟩ := h
  exact kO_11 hv
theorem ca_f (h : CA K dr a σ) (f : Nat) (hf : f < 9) : gI 7 f σ (K.1 11) = some (nI ((dN a.2.2.2).1 f)) := by
  obtain ⟨I, R, hv, hr⟩ := h
  exact (g_fld hv (Or.inl rfl) f hf).trans (congrArg some (hr.2.2.2.1.1.1 f hf))
theorem ca_gr (h : CA K dr a σ) : gR 7 9 σ (K.1 11) = some (K.1 12) := by
  obtain ⟨I, R, hv, hr⟩ := h
  exact kr_11_9 hv
theorem ca_pr (h : CA K dr a σ) : gR 7 10 σ (K.1 11) = some (K.1 13) := by
  obtain ⟨I, R, hv, hr⟩ := h
  exact kr_11_10 hv
theorem ca_mr (h : CA K dr a σ) : gR 7 11 σ (K.1 11) = some (K.1 14) := by
  obtain ⟨I, R, hv, hr⟩ := h
  exact kr_11_11 hv
theorem ca_lr (h : CA K dr a σ) : gR 7 12 σ (K.1 11) = some (K.1 15) := by
  obtain ⟨I, R, hv, hr⟩ := h
  exact kr_11_12 hv
theorem ca_G (h : CA K dr a σ) {c : Nat} (hc : c < qC (dN a.2.2.2)) (h30 : c < 30) : aI 0 σ (K.1 12) (nI c) = some (nI (qG (dN a.2.2.2) c)) := by
  obtain ⟨I, R, hv, hr⟩ := h
  exact (ka_12 hv h30).trans (congrArg some (hr.2.2.2.1.1.2.1 c hc))
theorem ca_P (h : CA K dr a σ) {c : Nat} (hc : c < qT (dN a.2.2.2)) (h4 : c < 4) : aI 0 σ (K.1 13) (nI c) = some (nI (qP (dN a.2.2.2) c)) := by
  obtain ⟨I, R, hv, hr⟩ := h
  exact (ka_13 hv h4).trans (congrArg some (hr.2.2.2.1.1.2.2 c hc).1)
theorem ca_M (h : CA K dr a σ) {c : Nat} (hc : c < qT (dN a.2.2.2)) (h4 : c < 4) : aI 0 σ (K.1 14) (nI c) = some (nI (qM (dN a.2.2.2) c)) := by
  obtain ⟨I, R, hv, hr⟩ := h
  exact (ka_14 hv h4).trans (congrArg some (hr.2.2.2.1.1.2.2 c hc).2.1)
theorem ca_A (h : CA K dr a σ) {c : Nat} (hc : c < qT (dN a.2.2.2)) (h4 : c < 4) : aI 0 σ (K.1 15) (nI c) = some (nI (qA (dN a.2.2.2) c)) := by
  obtain ⟨I, R, hv, hr⟩ := h
  exact (ka_15 hv h4).trans (congrArg some (hr.2.2.2.1.1.2.2 c hc).2.2)
theorem ca_hasCell (h : CA K dr a σ) (v : Int32) : fX7_hasCell σ (K.1 11) v = some (bI (decide (¬ v < 0 ∧ v < nI (qC (dN a.2.2.2)))), σ) := by
  unfold fX7_hasCell
  by_cases h0 : v < 0
  · rw [if_pos h0, decide_eq_false (fun q => q.1 h0)]; rfl
  rw [if_neg h0, ca_f h 2 (by decide), Option.bind_some]
  by_cases h1 : nI (qC (dN a.2.2.2)) ≤ v
  · rw [if_pos h1, decide_eq_false (fun q => absurd q.2 (Int32.not_lt.mpr h1))]; rfl
  · rw [if_neg h1, decide_eq_true ⟨h0, Int32.not_le.mp h1⟩]; rfl
theorem ca_hasTower (h : CA K dr a σ) (v : Int32) : fX7_hasTower σ (K.1 11) v = some (bI (decide (¬ v < 0 ∧ v < nI (qT (dN a.2.2.2)))), σ) := by
  unfold fX7_hasTower
  by_cases h0 : v < 0
  · rw [if_pos h0, decide_eq_false (fun q => q.1 h0)]; rfl
  rw [if_neg h0, ca_f h 3 (by decide), Option.bind_some]
  by_cases h1 : nI (qT (dN a.2.2.2)) ≤ v
  · rw [if_pos h1, decide_eq_false (fun q => absurd q.2 (Int32.not_lt.mpr h1))]; rfl
  · rw [if_neg h1, decide_eq_true ⟨h0, Int32.not_le.mp h1⟩]; rfl
theorem ca_noLand (h : CA K dr a σ) (hc : qC (dN a.2.2.2) < 2 ^ 31) : fX9_noLand σ (K.1 0) = some (bI (decide (qC (dN a.2.2.2) = 0)), σ) := by
  unfold fX9_noLand
  rw [ca_now h, Option.bind_some, ca_f h 2 (by decide), Option.bind_some]
  by_cases e : qC (dN a.2.2.2) = 0
  · rw [if_pos (show nI (qC (dN a.2.2.2)) = 0 by rw [e]; rfl), decide_eq_true e]; rfl
  · rw [if_neg (nI_ne0 (by omega) hc), decide_eq_false e]; rfl
theorem ca_refuse (h : CA K dr a σ) (k : Nat) (hk : k < 5) : Ok (fX9_refuse σ (K.1 0) (nI k)) (fun r t => r = -1 ∧ CA K dr (refA a k) t) := by
  obtain ⟨I, R, hv, hr⟩ := h
  unfold fX9_refuse
  refine Ok.bF (nI_pos (by omega)) (Ok.bF (show ¬ nI 5 ≤ nI k from nI_ge hk (by decide)) (Ok.r (kr_0_7 hv) (Ok.r ((ka_10 hv hk).trans (congrArg some (hr.2.2.1.2.2 k hk))) (Ok.w (hv.putN 10 k _ rfl rfl (fun _ => rfl) hk (by decide)) ?_))))
  intro t ht
  refine Ok.p ⟨rfl, _, _, ht, ?_⟩
  obtain ⟨h1, h2, h3, ⟨h4, h5⟩, h6, h7, h8, h9, h10⟩ := hr
  have hn : ∀ j, j ≠ 10 → updR R 10 (upd (R 10) k (a.2.2.1.2 k + 1)) j = R j := fun j hj => updR_n _ _ hj
  refine ⟨h1.fr rfl (hn _ (by decide)), h2, ⟨h3.1, h3.2.1, fun i hi => ?_⟩, ⟨h4.fr (fun _ _ => rfl) (fun j h1 h2 => hn _ (by omega)), ?_⟩, h6.fr (fun _ _ => rfl) (fun j h1 h2 => hn _ (by omega)), h7.fr rfl rfl (hn _ (by decide)) (hn _ (by decide)), h8.fr rfl (hn _ (by decide)) (hn _ (by decide)), h9.fr rfl (hn _ (by decide)) (hn _ (by decide)) (hn _ (by decide)), h10.fr rfl (hn _ (by decide)) (hn _ (by decide))⟩
  · rw [updR_s]
    show upd (R 10) k _ i = upd a.2.2.1.2 k _ i
    unfold upd
    split
    · rfl
    · exact h3.2.2 i hi
  · rw [hn 31 (by decide)]; exact h5
end
