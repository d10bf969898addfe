/-! the reference's past -/
def StR (r : Nat → Int32) (o : Nat) (e : Snp) : Prop := (∀ i, i < qC e.1 → r (o + i) = nI (qG e.1 i)) ∧ (∀ t, t < qT e.1 → r (o + (30 + t)) = nI (qP e.1 t) ∧ r (o + (34 + t)) = nI (qM e.1 t)) ∧ r (o + 38) = nI (qB e.1) ∧ r (o + 39) = nI (qF e.1) ∧ r (o + 40) = nI (qK e.1) ∧ r (o + 41) = nI (qU e.1) ∧ r (o + 42) = nI e.2.length ∧ ∀ i x, e.2[i]? = some x → ∀ k, k < 3 → r (o + (43 + 3 * (e.2.length - 1 - i) + k)) = nI (entW x k)
theorem StR.cong {r g : Nat → Int32} {o o' : Nat} {e : Snp} (h : StR r o e) (hC : qC e.1 ≤ 30) (hT : qT e.1 ≤ 4) (hL : e.2.length ≤ 60) (hg : ∀ i, i < 223 → g (o' + i) = r (o + i)) : StR g o' e := by
  obtain ⟨h1, h2, h3, h4, h5, h6, h7, h8⟩ := h
  refine ⟨fun i hi => (hg _ (by omega)).trans (h1 i hi), fun t ht => ⟨(hg _ (by omega)).trans (h2 t ht).1, (hg _ (by omega)).trans (h2 t ht).2⟩, (hg _ (by omega)).trans h3, (hg _ (by omega)).trans h4, (hg _ (by omega)).trans h5, (hg _ (by omega)).trans h6, (hg _ (by omega)).trans h7, fun i x hi k hk => (hg _ ?_).trans (h8 i x hi k hk)⟩
  have : i < e.2.length := (List.getElem?_eq_some_iff.mp hi).1
  omega
def mTap (J : Nat → Int32) (Q : Nat → Nat → Int32) (p : Tap) : Prop := J 2 = nI p.1 ∧ p.1 ≤ 240 ∧ ∀ i, i < p.1 → Q 1 i = p.2 i
def mLws (J : Nat → Int32) (Q : Nat → Nat → Int32) (p : Lws) : Prop := J 13 = nI p.1 ∧ p.1 ≤ 4 ∧ J 30 = oI p.2.2 ∧ (∀ i, p.2.2 = some i → i < p.1) ∧ ∀ i, i < p.1 → LawM Q i (p.2.1 i)
def mMsc (J : Nat → Int32) (Q : Nat → Nat → Int32) (p : Msc) : Prop := J 31 = nI p.1 ∧ p.1 ≤ 9 ∧ ∀ i, i < 5 → Q 29 i = p.2 i
def mFix (J : Nat → Int32) (Q : Nat → Nat → Int32) (s : Scn) : Prop := J 26 = nI (qC s) ∧ J 27 = nI (qT s) ∧ (0 < qC s → Q 23 0 = nI (qW s) ∧ Q 23 1 = nI (qH s)) ∧ ∀ t, t < qT s → Q 25 (4 * t + 3) = nI (qA s t)
def mOld (Q : Nat → Nat → Int32) (s : Scn) : Prop := (∀ i, i < qC s → Q 24 i = nI (qG s i)) ∧ Q 23 3 = nI (qF s) ∧ ∀ t, t < qT s → ∃ x y, x < 100 ∧ y < 100 ∧ Q 25 (4 * t) = nI x ∧ Q 25 (4 * t + 1) = nI y ∧ qP s t = qW s * y + x ∧ Q 25 (4 * t + 2) = nI (qM s t)
def mAct (J : Nat → Int32) (Q : Nat → Nat → Int32) (l : List Snp) : Prop := J 33 = nI l.length ∧ l.length ≤ 40 ∧ ∀ j e, l[j]? = some e → StR (Q 32) (223 * (l.length - 1 - j)) e
def mImg (J : Nat → Int32) (Q : Nat → Nat → Int32) (p : Option Snp) : Prop := (p = none ∧ J 45 = 0) ∨ ∃ e, p = some e ∧ J 45 = 1 ∧ StR (Q 44) 0 e
def mGvn (J : Nat → Int32) (Q : Nat → Nat → Int32) (p : Gvn) : Prop := J 40 = nI p.1 ∧ p.1 ≤ 10 ∧ ∀ k, k < p.1 → Q 37 k = nI (p.2.1 k) ∧ Q 38 k = nI (p.2.2.1 k) ∧ Q 39 k = bI (p.2.2.2 k)
def mHrd (J : Nat → Int32) (Q : Nat → Nat → Int32) (p : Hrd) : Prop := J 43 = nI p.1 ∧ p.1 ≤ 10 ∧ ∀ k, k < p.1 → Q 41 k = nI (p.2.1 k) ∧ Q 42 k = p.2.2 k
def mLnd (J : Nat → Int32) (Q : Nat → Nat → Int32) (d : Lnd) : Prop := (mFix J Q (dN d) ∧ StR (Q 28) 0 d.1) ∧ mOld Q (dO d) ∧ mAct J Q (dA d) ∧ mImg J Q (dI d) ∧ mGvn J Q (dV d) ∧ mHrd J Q (dH d)
def MR (J : Nat → Int32) (Q : Nat → Nat → Int32) (a : Abs) : Prop := mTap J Q a.1 ∧ mLws J Q a.2.1 ∧ mMsc J Q a.2.2.1 ∧ mLnd J Q a.2.2.2
def MA (M : Mfg) (dr : Int64) (a : Abs) (σ : St) : Prop := ∃ J Q, MV M J Q dr σ ∧ MR J Q a
theorem LawM.fr {Q Q' : Nat → Nat → Int32} {n : Nat} {f : LawF} (h : LawM Q n f) (h6 : Q' 6 = Q 6) (h7 : Q' 7 = Q 7) (h9 : Q' 9 = Q 9) (h10 : Q' 10 = Q 10) (h11 : Q' 11 = Q 11) (h12 : Q' 12 = Q 12) : LawM Q' n f := by
  unfold LawM at h ⊢; rw [h6, h7, h9, h10, h11, h12]; exact h
theorem mTap.fr {J J' : Nat → Int32} {Q Q' : Nat → Nat → Int32} {p : Tap} (h : mTap J Q p) (h1 : J' 2 = J 2) (h2 : Q' 1 = Q 1) : mTap J' Q' p := by
  unfold mTap at h ⊢; rw [h1, h2]; exact h
theorem mLws.fr {J J' : Nat → Int32} {Q Q' : Nat → Nat → Int32} {p : Lws} (h : mLws J Q p) (h1 : J' 13 = J 13) (h2 : J' 30 = J 30) (h3 : ∀ k, 6 ≤ k → k ≤ 12 → Q' k = Q k) : mLws J' Q' p := by
  obtain ⟨e1, e2, e3, e4, e5⟩ := h
  refine ⟨h1.trans e1, e2, h2.trans e3, e4, fun i hi => (e5 i hi).fr (h3 _ (by decide) (by decide)) (h3 _ (by decide) (by decide)) (h3 _ (by decide) (by decide)) (h3 _ (by decide) (by decide)) (h3 _ (by decide) (by decide)) (h3 _ (by decide) (by decide))⟩
theorem mMsc.fr {J J' : Nat → Int32} {Q Q' : Nat → Nat → Int32} {p : Msc} (h : mMsc J Q p) (h1 : J' 31 = J 31) (h2 : Q' 29 = Q 29) : mMsc J' Q' p := by
  unfold mMsc at h ⊢; rw [h1, h2]; exact h
theorem mFix.fr {J J' : Nat → Int32} {Q Q' : Nat → Nat → Int32} {p : Scn} (h : mFix J Q p) (h1 : J' 26 = J 26) (h2 : J' 27 = J 27) (h3 : Q' 23 = Q 23) (h4 : Q' 25 = Q 25) : mFix J' Q' p := by
  unfold mFix at h ⊢; rw [h1, h2, h3, h4]; exact h
theorem mOld.fr {Q Q' : Nat → Nat → Int32} {p : Scn} (h : mOld Q p) (h2 : Q' 24 = Q 24) (h3 : Q' 23 = Q 23) (h4 : Q' 25 = Q 25) : mOld Q' p := by
  unfold mOld at h ⊢; rw [h2, h3, h4]; exact h
theorem mAct.fr {J J' : Nat → Int32} {Q Q' : Nat → Nat → Int32} {p : List Snp} (h : mAct J Q p) (h1 : J' 33 = J 33) (h2 : Q' 32 = Q 32) : mAct J' Q' p := by
  unfold mAct at h ⊢; rw [h1, h2]; exact h
theorem mImg.fr {J J' : Nat → Int32} {Q Q' : Nat → Nat → Int32} {p : Option Snp} (h : mImg J Q p) (h1 : J' 45 = J 45) (h2 : Q' 44 = Q 44) : mImg J' Q' p := by
  unfold mImg at h ⊢; rw [h1, h2]; exact h
theorem mGvn.fr {J J' : Nat → Int32} {Q Q' : Nat → Nat → Int32} {p : Gvn} (h : mGvn J Q p) (h1 : J' 40 = J 40) (h2 : Q' 37 = Q 37) (h3 : Q' 38 = Q 38) (h4 : Q' 39 = Q 39) : mGvn J' Q' p := by
  unfold mGvn at h ⊢; rw [h1, h2, h3, h4]; exact h
theorem mHrd.fr {J J' : Nat → Int32} {Q Q' : Nat → Nat → Int32} {p : Hrd} (h : mHrd J Q p) (h1 : J' 43 = J 43) (h2 : Q' 41 = Q 41) (h3 : Q' 42 = Q 42) : mHrd J' Q' p := by
  unfold mHrd at h ⊢; rw [h1, h2, h3]; exact h
theorem mFix.mv {J : Nat → Int32} {Q : Nat → Nat → Int32} {s u : Scn} (h : mFix J Q s) (hm : SmL s u) : mFix J Q u := by
  obtain ⟨h1, h2, h3, h4⟩ := h
  obtain ⟨m1, m2, m3, m4, m5⟩ := hm
  refine ⟨by rw [m3]; exact h1, by rw [m4]; exact h2, fun q => ?_, fun t ht => ?_⟩
  · rw [m1, m2]; exact h3 (by rw [← m3]; exact q)
  · rw [m5 t (by omega)]; exact h4 t (by omega)
theorem cpy_0 {f g : Nat → Int32} {sp dp : Nat} : va_cpy f g sp dp 0 = g := by
  funext i
  exact pk_cpy_out (by omega)
theorem cpy_s {f g : Nat → Int32} {sp dp k : Nat} : upd (va_cpy f g sp dp k) (dp + k) (f (sp + k)) = va_cpy f g sp dp (k + 1) := by
  funext i
  by_cases h : i = dp + k
  · subst h
    rw [pk_us, pk_cpy_in (by omega) (by omega)]
    congr 1; omega
  · rw [pk_un h]
    by_cases q : dp ≤ i ∧ i < dp + k
    · rw [pk_cpy_in q.1 q.2, pk_cpy_in q.1 (by omega)]
    · rw [pk_cpy_out (by omega), pk_cpy_out (by omega)]
/-- what nobody asks for -/
def mcI (k : Nat) : Prop := k = 0 ∨ (3 ≤ k ∧ k ≤ 5) ∨ k = 14 ∨ k = 21 ∨ k = 22
def mcR (k : Nat) : Prop := k = 8 ∨ k = 15 ∨ k = 16 ∨ (17 ≤ k ∧ k ≤ 20) ∨ k = 35 ∨ k = 36
section
variable {M : Mfg} {J J' : Nat → Int32} {Q Q' : Nat → Nat → Int32} {dr : Int64} {a : Abs} {σ : St}
theorem MR.scr (h : MR J Q a) (hI : ∀ k, ¬ mcI k → J' k = J k) (hR : ∀ k, ¬ mcR k → Q' k = Q k) : MR J' Q' a := by
  obtain ⟨h1, h2, h3, ⟨h4, h5⟩, h6, h7, h8, h9, h10⟩ := h
  obtain ⟨p1, p2, p3, p4, p5⟩ := h2
  refine ⟨h1.fr (hI _ (by unfold mcI; omega)) (hR _ (by unfold mcR; omega)), ⟨(hI _ (by unfold mcI; omega)).trans p1, p2, (hI _ (by unfold mcI; omega)).trans p3, p4, fun i hi => (p5 i hi).fr (hR _ (by unfold mcR; omega)) (hR _ (by unfold mcR; omega)) (hR _ (by unfold mcR; omega)) (hR _ (by unfold mcR; omega)) (hR _ (by unfold mcR; omega)) (hR _ (by unfold mcR; omega))⟩, h3.fr (hI _ (by unfold mcI; omega)) (hR _ (by unfold mcR; omega)), ⟨h4.fr (hI _ (by unfold mcI; omega)) (hI _ (by unfold mcI; omega)) (hR _ (by unfold mcR; omega)) (hR _ (by unfold mcR; omega)), ?_⟩, h6.fr (hR _ (by unfold mcR; omega)) (hR _ (by unfold mcR; omega)) (hR _ (by unfold mcR; omega)), h7.fr (hI _ (by unfold mcI; omega)) (hR _ (by unfold mcR; omega)), h8.fr (hI _ (by unfold mcI; omega)) (hR _ (by unfold mcR; omega)), h9.fr (hI _ (by unfold mcI; omega)) (hR _ (by unfold mcR; omega)) (hR _ (by unfold mcR; omega)) (hR _ (by unfold mcR; omega)), h10.fr (hI _ (by unfold mcI; omega)) (hR _ (by unfold mcR; omega)) (hR _ (by unfold mcR; omega))⟩
  rw [hR 28 (by unfold mcR; omega)]; exact h5
/-- another row for now, nothing else changed -/
theorem MR.now (h : MR J Q a) {g : Nat → Int32} {e : Snp} (hm : SmL (dN a.2.2.2) e.1) (hs : StR g 0 e) : MR J (updR Q 28 g) (setD a (e, a.2.2.2.2)) := by
  obtain ⟨h1, h2, h3, ⟨h4, h5⟩, h6, h7, h8, h9, h10⟩ := h
  have hR : ∀ k, k ≠ 28 → updR Q 28 g k = Q k := fun k hk => updR_n _ _ hk
  refine ⟨h1.fr rfl (hR _ (by decide)), h2.fr rfl rfl (fun k q1 q2 => hR _ (by omega)), h3.fr rfl (hR _ (by decide)), ⟨(h4.mv hm).fr rfl rfl (hR _ (by decide)) (hR _ (by decide)), ?_⟩, h6.fr (hR _ (by decide)) (hR _ (by decide)) (hR _ (by decide)), h7.fr rfl (hR _ (by decide)), h8.fr rfl (hR _ (by decide)), h9.fr rfl (hR _ (by decide)) (hR _ (by decide)) (hR _ (by decide)), h10.fr rfl (hR _ (by decide)) (hR _ (by decide))⟩
  rw [updR_s]; exact hs
theorem MR.rsr (h : MR J Q a) : RsR J Q (dN a.2.2.2) := by
  obtain ⟨-, -, -, ⟨⟨f1, f2, f3, f4⟩, ⟨g1, g2, g3, g4, g5, g6, g7, g8⟩⟩, -⟩ := h
  simp only [Nat.zero_add] at g1 g2 g3 g4 g5 g6
  exact ⟨f1, f2, f3, g1, fun t ht => ⟨(g2 t ht).1, (g2 t ht).2, f4 t ht⟩, g3, g4, g5, g6⟩
theorem MR.ruM (h : MR J Q a) : RulM J Q (rul a.2.1) := by
  obtain ⟨-, ⟨p1, p2, p3, p4, p5⟩, -⟩ := h
  unfold rul
  cases q : a.2.1.2.2 with
  | none => rw [q] at p3; exact Or.inl ⟨p3, rfl⟩
  | some i => rw [q] at p3; exact Or.inr ⟨i, a.2.1.2.1 i, by have := p4 i q; omega, p3, p5 i (p4 i q), rfl⟩
theorem ma_RV (h : MA M dr a σ) (ok : ScOK (dN a.2.2.2)) : ∃ J Q, MR J Q a ∧ RulM J Q (rul a.2.1) ∧ RV M J Q dr (dN a.2.2.2) σ := by
  obtain ⟨J, Q, hv, hr⟩ := h
  exact ⟨J, Q, hr, hr.ruM, hv, hr.rsr, ok⟩
theorem ma_O (h : MA M dr a σ) : isO 10 σ (M.1 0) = true := by
  obtain ⟨J, Q, hv, hr⟩ := h
  exact nO hv
theorem ma_cells (h : MA M dr a σ) : gI 10 26 σ (M.1 0) = some (nI (qC (dN a.2.2.2))) := by
  obtain ⟨J, Q, hv, hr⟩ := h
  exact (nr_26 hv).trans (congrArg some hr.2.2.2.1.1.1)
theorem ma_towers (h : MA M dr a σ) : gI 10 27 σ (M.1 0) = some (nI (qT (dN a.2.2.2))) := by
  obtain ⟨J, Q, hv, hr⟩ := h
  exact (nr_27 hv).trans (congrArg some hr.2.2.2.1.1.2.1)
theorem ma_isCell (h : MA M dr a σ) (hc : qC (dN a.2.2.2) < 2 ^ 30) (v : Int32) : fX10_isCell σ (M.1 0) v = some (bI (decide (¬ v < 0 ∧ v < nI (qC (dN a.2.2.2)))), σ) := by
  obtain ⟨J, Q, hv, hr⟩ := h
  exact m_isCellV hv hr.2.2.2.1.1.1 hc v
theorem ma_isTower (h : MA M dr a σ) (hc : qT (dN a.2.2.2) < 2 ^ 30) (v : Int32) : fX10_isTower σ (M.1 0) v = some (bI (decide (¬ v < 0 ∧ v < nI (qT (dN a.2.2.2)))), σ) := by
  obtain ⟨J, Q, hv, hr⟩ := h
  exact m_isTowerV hv hr.2.2.2.1.1.2.1 hc v
theorem ma_nr (h : MA M dr a σ) : gR 10 28 σ (M.1 0) = some (M.1 28) := by
  obtain ⟨J, Q, hv, hr⟩ := h
  exact nr_28 hv
theorem ma_G (h : MA M dr a σ) {c : Nat} (hc : c < qC (dN a.2.2.2)) (h30 : c < 30) : aI 0 σ (M.1 28) (nI c) = some (nI (qG (dN a.2.2.2) c)) := by
  obtain ⟨J, Q, hv, hr⟩ := h
  have := hr.rsr
  exact (na_28 hv (by omega)).trans (congrArg some (this.2.2.2.1 c hc))
theorem ma_P (h : MA M dr a σ) {c : Nat} (hc : c < qT (dN a.2.2.2)) (h4 : c < 4) : aI 0 σ (M.1 28) (nI (30 + c)) = some (nI (qP (dN a.2.2.2) c)) := by
  obtain ⟨J, Q, hv, hr⟩ := h
  exact (na_28 hv (by omega)).trans (congrArg some (hr.rsr.2.2.2.2.1 c hc).1)
theorem ma_M (h : MA M dr a σ) {c : Nat} (hc : c < qT (dN a.2.2.2)) (h4 : c < 4) : aI 0 σ (M.1 28) (nI (34 + c)) = some (nI (qM (dN a.2.2.2) c)) := by
  obtain ⟨J, Q, hv, hr⟩ := h
  exact (na_28 hv (by omega)).trans (congrArg some (hr.rsr.2.2.2.2.1 c hc).2.1)
theorem ma_B (h : MA M dr a σ) : aI 0 σ (M.1 28) 38 = some (nI (qB (dN a.2.2.2))) := by
  obtain ⟨J, Q, hv, hr⟩ := h
  exact (na_28 hv (i := 38) (by decide)).trans (congrArg some hr.rsr.2.2.2.2.2.1)
theorem ma_F (h : MA M dr a σ) : aI 0 σ (M.1 28) 39 = some (nI (qF (dN a.2.2.2))) := by
  obtain ⟨J, Q, hv, hr⟩ := h
  exact (na_28 hv (i := 39) (by decide)).trans (congrArg some hr.rsr.2.2.2.2.2.2.1)
theorem ma_K (h : MA M dr a σ) : aI 0 σ (M.1 28) 40 = some (nI (qK (dN a.2.2.2))) := by
  obtain ⟨J, Q, hv, hr⟩ := h
  exact (na_28 hv (i := 40) (by decide)).trans (congrArg some hr.rsr.2.2.2.2.2.2.2.1)
theorem ma_U (h : MA M dr a σ) : aI 0 σ (M.1 28) 41 = some (nI (qU (dN a.2.2.2))) := by
  obtain ⟨J, Q, hv, hr⟩ := h
  exact (na_28 hv (i := 41) (by decide)).trans (congrArg some hr.rsr.2.2.2.2.2.2.2.2)
theorem ma_N (h : MA M dr a σ) : aI 0 σ (M.1 28) 42 = some (nI (dG a.2.2.2).length) := by
  obtain ⟨J, Q, hv, hr⟩ := h
  have := hr.2.2.2.1.2.2.2.2.2.2.2.1
  exact (na_28 hv (i := 42) (by decide)).trans (congrArg some this)
/-- a write to a row of now -/
theorem MA.set (h : MA M dr a σ) (i : Nat) (v : Int32) (hi : i < 223) {e : Snp} (hm : SmL (dN a.2.2.2) e.1) (hs : ∀ g, StR g 0 a.2.2.2.1 → StR (upd g i v) 0 e) : ∃ t, sI 0 σ (M.1 28) (nI i) v = some t ∧ MA M dr (setD a (e, a.2.2.2.2)) t := by
  obtain ⟨J, Q, hv, hr⟩ := h
  obtain ⟨t, e1, h1⟩ := hv.putN 28 i v rfl rfl (fun _ => rfl) hi (by decide)
  exact ⟨t, e1, _, _, h1, hr.now hm (hs _ hr.2.2.2.1.2)⟩
theorem MA.setF (h : MA M dr a σ) (f v : Nat) (hf : f = 4 ∨ f = 5 ∨ f = 7) (hT : qT (dN a.2.2.2) ≤ 4) (hC : qC (dN a.2.2.2) ≤ 30) : ∃ t, sI 0 σ (M.1 28) (nI (if f = 4 then 39 else if f = 5 then 40 else 38)) (nI v) = some t ∧ MA M dr (setD a (setN a.2.2.2 (sF (dN a.2.2.2) f v))) t := by
  refine h.set (e := (sF (dN a.2.2.2) f v, dG a.2.2.2)) _ _ (by rcases hf with rfl | rfl | rfl <;> decide) ?_ ?_
  · rcases hf with rfl | rfl | rfl <;> exact ⟨rfl, rfl, rfl, rfl, fun _ _ => rfl⟩
  · rintro g ⟨g1, g2, g3, g4, g5, g6, g7, g8⟩
    rcases hf with rfl | rfl | rfl
    · exact ⟨fun i hi => (pk_un (by have : i < qC (dN a.2.2.2) := hi; simp; omega)).trans (g1 i hi), fun t ht => ⟨(pk_un (by have : t < qT (dN a.2.2.2) := ht; simp; omega)).trans (g2 t ht).1, (pk_un (by have : t < qT (dN a.2.2.2) := ht; simp; omega)).trans (g2 t ht).2⟩, (pk_un (by decide)).trans g3, pk_us, (pk_un (by decide)).trans g5, (pk_un (by decide)).trans g6, (pk_un (by decide)).trans g7, fun i x hi k hk => (pk_un (by simp; omega)).trans (g8 i x hi k hk)⟩
    · exact ⟨fun i hi => (pk_un (by have : i < qC (dN a.2.2.2) := hi; simp; omega)).trans (g1 i hi), fun t ht => ⟨(pk_un (by have : t < qT (dN a.2.2.2) := ht; simp; omega)).trans (g2 t ht).1, (pk_un (by have : t < qT (dN a.2.2.2) := ht; simp; omega)).trans (g2 t ht).2⟩, (pk_un (by decide)).trans g3, (pk_un (by decide)).trans g4, pk_us, (pk_un (by decide)).trans g6, (pk_un (by decide)).trans g7, fun i x hi k hk => (pk_un (by simp; omega)).trans (g8 i x hi k hk)⟩
    · exact ⟨fun i hi => (pk_un (by have : i < qC (dN a.2.2.2) := hi; simp; omega)).trans (g1 i hi), fun t ht => ⟨(pk_un (by have : t < qT (dN a.2.2.2) := ht; simp; omega)).trans (g2 t ht).1, (pk_un (by have : t < qT (dN a.2.2.2) := ht; simp; omega)).trans (g2 t ht).2⟩, pk_us, (pk_un (by decide)).trans g4, (pk_un (by decide)).trans g5, (pk_un (by decide)).trans g6, (pk_un (by decide)).trans g7, fun i x hi k hk => (pk_un (by simp; omega)).trans (g8 i x hi k hk)⟩
theorem MA.setG (h : MA M dr a σ) (c v : Nat) (hc : c < 30) : ∃ t, sI 0 σ (M.1 28) (nI c) (nI v) = some t ∧ MA M dr (setD a (setN a.2.2.2 (sG (dN a.2.2.2) c v))) t := by
  refine h.set (e := (sG (dN a.2.2.2) c v, dG a.2.2.2)) c _ (by omega) ⟨rfl, rfl, rfl, rfl, fun _ _ => rfl⟩ ?_
  rintro g ⟨g1, g2, g3, g4, g5, g6, g7, g8⟩
  refine ⟨fun i hi => ?_, fun t ht => ⟨(pk_un (by omega)).trans (g2 t ht).1, (pk_un (by omega)).trans (g2 t ht).2⟩, (pk_un (by omega)).trans g3, (pk_un (by omega)).trans g4, (pk_un (by omega)).trans g5, (pk_un (by omega)).trans g6, (pk_un (by omega)).trans g7, fun i x hi k hk => (pk_un (by omega)).trans (g8 i x hi k hk)⟩
  show upd g c (nI v) (0 + i) = nI (updN _ c v i)
  unfold updN
  by_cases e : i = c
  · subst e; rw [if_pos rfl, Nat.zero_add]; exact pk_us
  · rw [if_neg e, pk_un (by omega)]; exact g1 i hi
theorem MA.setP (h : MA M dr a σ) (c v : Nat) (hc : c < 4) (hT : qT (dN a.2.2.2) ≤ 4) (hC : qC (dN a.2.2.2) ≤ 30) : ∃ t, sI 0 σ (M.1 28) (nI (30 + c)) (nI v) = some t ∧ MA M dr (setD a (setN a.2.2.2 (sP (dN a.2.2.2) c v))) t := by
  refine h.set (e := (sP (dN a.2.2.2) c v, dG a.2.2.2)) (30 + c) _ (by omega) ⟨rfl, rfl, rfl, rfl, fun _ _ => rfl⟩ ?_
  rintro g ⟨g1, g2, g3, g4, g5, g6, g7, g8⟩
  refine ⟨fun i hi => (pk_un (by have : i < qC (dN a.2.2.2) := hi; omega)).trans (g1 i hi), fun t ht => ⟨?_, (pk_un (by omega)).trans (g2 t ht).2⟩, (pk_un (by omega)).trans g3, (pk_un (by omega)).trans g4, (pk_un (by omega)).trans g5, (pk_un (by omega)).trans g6, (pk_un (by omega)).trans g7, fun i x hi k hk => (pk_un (by omega)).trans (g8 i x hi k hk)⟩
  show upd g (30 + c) (nI v) (0 + (30 + t)) = nI (updN _ c v t)
  unfold updN
  by_cases e : t = c
  · subst e; rw [if_pos rfl, Nat.zero_add]; exact pk_us
  · rw [if_neg e, pk_un (by omega)]; exact (g2 t ht).1
theorem MA.setM (h : MA M dr a σ) (c v : Nat) (hc : c < 4) (hT : qT (dN a.2.2.2) ≤ 4) (hC : qC (dN a.2.2.2) ≤ 30) : ∃ t, sI 0 σ (M.1 28) (nI (34 + c)) (nI v) = some t ∧ MA M dr (setD a (setN a.2.2.2 (sM (dN a.2.2.2) c v))) t := by
  refine h.set (e := (sM (dN a.2.2.2) c v, dG a.2.2.2)) (34 + c) _ (by omega) ⟨rfl, rfl, rfl, rfl, fun _ _ => rfl⟩ ?_
  rintro g ⟨g1, g2, g3, g4, g5, g6, g7, g8⟩
  refine ⟨fun i hi => (pk_un (by have : i < qC (dN a.2.2.2) := hi; omega)).trans (g1 i hi), fun t ht => ⟨(pk_un (by have : t < qT (dN a.2.2.2) := ht; omega)).trans (g2 t ht).1, ?_⟩, (pk_un (by omega)).trans g3, (pk_un (by omega)).trans g4, (pk_un (by omega)).trans g5, (pk_un (by omega)).trans g6, (pk_un (by omega)).trans g7, fun i x hi k hk => (pk_un (by omega)).trans (g8 i x hi k hk)⟩
  show upd g (34 + c) (nI v) (0 + (34 + t)) = nI (updN _ c v t)
  unfold updN
  by_cases e : t = c
  · subst e; rw [if_pos rfl, Nat.zero_add]; exact pk_us
  · rw [if_neg e, pk_un (by omega)]; exact (g2 t ht).2
theorem ma_refuse (h : MA M dr a σ) (k : Nat) (hk : k < 5) : Ok (fX10_isRefused σ (M.1 0) (nI k)) (fun r t => r = 1 ∧ MA M dr (refA a k) t) := by
  obtain ⟨J, Q, hv, hr⟩ := h
  have hne : ¬ nI k = -1 := fun q => by
    have := nI_pos (n := k) (by omega)
    rw [q] at this
    exact this (by decide)
  unfold fX10_isRefused
  refine Ok.j1 (Ok.bF hne (Ok.r (nr_29 hv) (Ok.r ((na_29 hv hk).trans (congrArg some (hr.2.2.1.2.2 k hk))) (Ok.w (hv.putN 29 k _ rfl rfl (fun _ => rfl) hk (by decide)) ?_))))
  intro t ht
  refine Ok.bF hne (Ok.p ⟨rfl, _, _, ht, ?_⟩)
  obtain ⟨h1, h2, h3, ⟨h4, h5⟩, h6, h7, h8, h9, h10⟩ := hr
  have hn : ∀ j, j ≠ 29 → updR Q 29 (upd (Q 29) k (a.2.2.1.2 k + 1)) j = Q j := fun j hj => updR_n _ _ hj
  refine ⟨h1.fr rfl (hn _ (by decide)), h2.fr rfl rfl (fun k q1 q2 => hn _ (by omega)), ⟨h3.1, h3.2.1, fun i hi => ?_⟩, ⟨h4.fr rfl rfl (hn _ (by decide)) (hn _ (by decide)), ?_⟩, h6.fr (hn _ (by decide)) (hn _ (by decide)) (hn _ (by decide)), h7.fr rfl (hn _ (by decide)), h8.fr rfl (hn _ (by decide)), h9.fr rfl (hn _ (by decide)) (hn _ (by decide)) (hn _ (by decide)), h10.fr rfl (hn _ (by decide)) (hn _ (by decide))⟩
  · rw [updR_s]
    show upd (Q 29) k _ i = upd a.2.2.1.2 k _ i
    unfold upd
    split
    · rfl
    · exact h3.2.2 i hi
  · rw [hn 28 (by decide)]; exact h5
theorem ma_refNo (σ : St) (m : Nat) : fX10_isRefused σ m (-1) = some (0, σ) := by
  unfold fX10_isRefused
  exact Ok.toE (Ok.j1 (Ok.bT rfl (Ok.bT rfl (Ok.p ⟨rfl, rfl⟩))))
end
