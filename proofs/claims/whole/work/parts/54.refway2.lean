/-! WAY: the reference -/
def incT (w h c j j' : Nat) : Bool := decide (w < 2) || decide (h < 2) || decide (w * h ≤ c) || decide (j' ≤ j) || (match bsN w (w * h) c j, bsN w (w * h) c j' with
  | some o, some o' => decide (o < o')
  | _, _ => true)
theorem inc_d : ∀ w, w < 7 → ∀ h, h < 6 → ∀ c, c < 30 → ∀ j, j < 4 → ∀ j', j' < 4 → incT w h c j j' = true := by decide +kernel
theorem bs_inc {s : Scn} (ok : ScOK s) {c j j' o o' : Nat} (hc : c < qC s) (hj : j < j') (hj' : j' < 4) (h : bsN (qW s) (qC s) c j = some o) (h' : bsN (qW s) (qC s) c j' = some o') : o < o' := by
  have h1 := ok.w
  have h2 := ok.r
  have h3 := ok.c30
  have e := ok.cw
  have q := inc_d (qW s) (by omega) (qH s) (by omega) c (by omega) j (by omega) j' (by omega)
  simp only [incT, Bool.or_eq_true, decide_eq_true_eq] at q
  rw [← e, h, h'] at q
  simp only [decide_eq_true_eq] at q
  omega
theorem fs_none (s : Scn) (T : Nat → Nat) (c : Nat) : ∀ d k, fsN s T c d k = none → ∀ j, k ≤ j → j < k + d → ∀ o, bsN (qW s) (qC s) c j = some o → T o + 1 ≠ T c
  | 0, k, _, j, h1, h2, _, _ => by omega
  | d + 1, k, h, j, h1, h2, o, ho => by
    cases e : bsN (qW s) (qC s) c k with
    | none =>
      rw [fsN_n _ _ _ _ _ e] at h
      by_cases q : j = k
      · rw [q, e] at ho; cases ho
      · exact fs_none s T c d (k + 1) h j (by omega) (by omega) o ho
    | some o2 =>
      rw [fsN_y _ _ _ _ _ _ e] at h
      by_cases z : T o2 + 1 = T c
      · rw [if_pos z] at h; cases h
      · rw [if_neg z] at h
        by_cases q : j = k
        · rw [q, e] at ho; cases ho; exact z
        · exact fs_none s T c d (k + 1) h j (by omega) (by omega) o ho
theorem fs_some (s : Scn) (T : Nat → Nat) (c : Nat) {o : Nat} : ∀ d k, fsN s T c d k = some o → ∃ j, k ≤ j ∧ j < k + d ∧ bsN (qW s) (qC s) c j = some o ∧ T o + 1 = T c ∧ ∀ j', k ≤ j' → j' < j → ∀ o', bsN (qW s) (qC s) c j' = some o' → T o' + 1 ≠ T c
  | 0, k, h => by cases h
  | d + 1, k, h => by
    cases e : bsN (qW s) (qC s) c k with
    | none =>
      rw [fsN_n _ _ _ _ _ e] at h
      obtain ⟨j, a1, a2, a3, a4, a5⟩ := fs_some s T c d (k + 1) h
      refine ⟨j, by omega, by omega, a3, a4, fun j' b1 b2 o' ho => ?_⟩
      by_cases q : j' = k
      · rw [q, e] at ho; cases ho
      · exact a5 j' (by omega) b2 o' ho
    | some o2 =>
      rw [fsN_y _ _ _ _ _ _ e] at h
      by_cases z : T o2 + 1 = T c
      · rw [if_pos z] at h
        cases h
        exact ⟨k, by omega, by omega, e, z, fun j' b1 b2 => by omega⟩
      · rw [if_neg z] at h
        obtain ⟨j, a1, a2, a3, a4, a5⟩ := fs_some s T c d (k + 1) h
        refine ⟨j, by omega, by omega, a3, a4, fun j' b1 b2 o' ho => ?_⟩
        by_cases q : j' = k
        · rw [q, e] at ho; cases ho; exact z
        · exact a5 j' (by omega) b2 o' ho
/-- what the downward search holds: the least cell beside, one nearer, from k on -/
def LstC (s : Scn) (T : Nat → Nat) (c k : Nat) (x : Int32) : Prop := (x = -1 ∧ ∀ o, k ≤ o → o < qC s → adjB (qW s) c o = true → T o + 1 ≠ T c) ∨ ∃ o, x = nI o ∧ k ≤ o ∧ o < qC s ∧ adjB (qW s) c o = true ∧ T o + 1 = T c ∧ ∀ o', k ≤ o' → o' < o → adjB (qW s) c o' = true → T o' + 1 ≠ T c
theorem lst_fs {s : Scn} (ok : ScOK s) {T : Nat → Nat} {c : Nat} {x : Int32} (hc : c < qC s) (h : LstC s T c 0 x) : x = oI (fsN s T c 4 0) := by
  cases e : fsN s T c 4 0 with
  | none =>
    rcases h with ⟨h, _⟩ | ⟨o, h1, h2, h3, h4, h5, h6⟩
    · exact h
    · obtain ⟨k, hk, ek⟩ := (adj_iff ok hc h3).mp h4
      exact absurd h5 (fs_none s T c 4 0 e k (by omega) (by omega) o ek)
  | some o2 =>
    obtain ⟨j, a1, a2, a3, a4, a5⟩ := fs_some s T c 4 0 e
    have ho2 := bs_lt ok hc (by omega) a3
    have hadj := (adj_iff ok hc ho2).mpr ⟨j, by omega, a3⟩
    rcases h with ⟨h, h'⟩ | ⟨o, h1, h2, h3, h4, h5, h6⟩
    · exact absurd a4 (h' o2 (by omega) ho2 hadj)
    · obtain ⟨k, hk, ek⟩ := (adj_iff ok hc h3).mp h4
      have n1 : ¬ k < j := fun q => a5 k (by omega) q o ek h5
      have n2 : ¬ o2 < o := fun q => h6 o2 (by omega) q hadj a4
      by_cases q : k = j
      · rw [q, a3] at ek
        cases ek
        exact h1
      · have := bs_inc ok hc (j := j) (j' := k) (by omega) hk a3 ek
        omega
theorem wayT_open (a : Abs) {g c : Nat} (hg : g < qC (dN a.2.2.2)) (hc : c < qC (dN a.2.2.2)) (h : hidB (dN a.2.2.2) (rul a.2.1) g = false ∨ hidB (dN a.2.2.2) (rul a.2.1) c = false) : 1000 ≤ wayT a g c := by
  unfold wayT
  rcases h with h | h
  · refine Nat.le_trans ?_ (tol_ge (fun c => (way_w _ c).1) hg hc)
    unfold wgt; rw [h]; exact Nat.le_refl _
  · rw [tol_sym (fun c => (way_w _ c).1) (fun c o => adj_sy _ c o) hc hg]
    refine Nat.le_trans ?_ (tol_ge (fun c => (way_w _ c).1) hc hg)
    unfold wgt; rw [h]; exact Nat.le_refl _
section
variable {M : Mfg} {dr : Int64} {a : Abs} {σ : St}
theorem dn_i : ∀ k, k < 31 → nI (k + 1) - 1 = nI k ∧ nI k + (-1) = nI k - 1 := by decide +kernel
theorem m_way (h : MA M dr a σ) (ok : NoLd a.2.2.2 ∨ LdOK a.2.2.2) (v1 v2 v3 : Int32) : Ok (fX10_way σ (M.1 0) v1 v2 v3) (fun r t => r = wayA a v1 v2 v3 ∧ MA M dr a t) := by
  obtain ⟨h30, h4, _, _, hl, _⟩ := okC ok
  unfold fX10_way
  refine Ok.vE (ma_O h) (ma_isCell h (by omega) v1) ?_
  rcases ixc v1 (n := qC (dN a.2.2.2)) (by omega) with ⟨e1, hn⟩ | ⟨f, hf, rfl, e1⟩
  · rw [decide_eq_false hn]
    exact Ok.bT rfl (Ok.p ⟨by simp only [wayA, e1], h⟩)
  rw [decide_eq_true (ix_in hf (by omega))]
  refine Ok.bF (by decide) (Ok.vE (ma_O h) (ma_isCell h (by omega) v2) ?_)
  rcases ixc v2 (n := qC (dN a.2.2.2)) (by omega) with ⟨e2, hn⟩ | ⟨g, hg, rfl, e2⟩
  · rw [decide_eq_false hn]
    exact Ok.bT rfl (Ok.p ⟨by simp only [wayA, e1, e2], h⟩)
  rw [decide_eq_true (ix_in hg (by omega))]
  refine Ok.bF (by decide) (Ok.cE (show fX10_in σ v3 0 1 = some (bI (decide (¬ v3 < 0 ∧ v3 < nI 2)), σ) from f_inN σ v3 (n := 2) (by decide)) ?_)
  rcases ixc v3 (n := 2) (by omega) with ⟨e3, hn⟩ | ⟨k, hk, rfl, e3⟩
  · rw [decide_eq_false hn]
    exact Ok.bT rfl (Ok.p ⟨by simp only [wayA, e1, e2, e3], h⟩)
  rw [decide_eq_true (ix_in hk (by omega))]
  have ee : wayA a (nI f) (nI g) (nI k) = if 1000 ≤ wayT a g f then -1 else if k = 0 then nI (wayT a g f - 1) else oI (fsN (dN a.2.2.2) (wayT a g) f 4 0) := by simp only [wayA, e1, e2, e3]
  rw [ee]
  have ok := hl (by omega)
  have okn : ScOK (dN a.2.2.2) := ok.1.1
  obtain ⟨J, Q, hr, hu, rv⟩ := ma_RV h okn
  refine Ok.bF (by decide) (Ok.v (nO rv.1) (m_hid rv hu) ?_)
  rintro r1 t1 ⟨rfl, rv1⟩
  refine m_cost ⟨J, Q, rv1.1, hr⟩ okn (hidB (dN a.2.2.2) (rul a.2.1)) 1 1000 _ ?_
  intro t2 hm
  have hm' := hm
  obtain ⟨J2, Q2, g1, _⟩ := hm'
  refine Ok.v (nO g1) (m_layAway hm (fun c => (way_w _ c).1) okn hg) ?_
  intro w3 t3 hP
  have hP' : MP M dr a _ (wayT a g) (qC (dN a.2.2.2)) t3 := hP
  obtain ⟨b1, b2⟩ := wayT_b a hg hf
  obtain ⟨q1, q2⟩ := hP.rr
  have rf := hP'.rd hf (by omega)
  refine Ok.cE (f_has t3 _ (by omega)) ?_
  rw [bt_msk (hidB (dN a.2.2.2) (rul a.2.1)) (qC (dN a.2.2.2)) (by omega) f (by omega), decide_eq_true hf, Bool.true_and]
  refine Ok.bI bI_0 (fun z => ?_) (fun z => ?_)
  · exact Ok.p ⟨by rw [if_pos (wayT_open a hg hf (Or.inr z))], hP.ma⟩
  refine Ok.cE (f_has t3 _ (by omega)) ?_
  rw [bt_msk (hidB (dN a.2.2.2) (rul a.2.1)) (qC (dN a.2.2.2)) (by omega) g (by omega), decide_eq_true hg, Bool.true_and]
  refine Ok.bI bI_0 (fun z2 => ?_) (fun z2 => ?_)
  · exact Ok.p ⟨by rw [if_pos (wayT_open a hg hf (Or.inl z2))], hP.ma⟩
  refine Ok.r q2 (Ok.r rf (Ok.bI (nI_ltI (b := 1000) (by omega) (by omega)) (fun z3 => ?_) (fun z3 => ?_)))
  · rw [if_neg (show ¬ 1000 ≤ wayT a g f by omega)]
    refine Ok.bI (nI_eq (b := 0) (by omega) (by omega)) (fun z4 => ?_) (fun z4 => ?_)
    · refine Ok.r q2 (Ok.r rf (Ok.p ⟨?_, hP.ma⟩))
      rw [if_pos z4]
      exact pk_sub (b := 1) b2
    · rw [if_neg z4]
      obtain ⟨J4, Q4, rv4⟩ := hP.rv okn
      refine Ok.r (r_cells rv4) (Ok.n ?_)
      refine Ok.f3 (qC (dN a.2.2.2)) 0 (fun i x y t => t = t3 ∧ y = nI (qC (dN a.2.2.2) - i) - 1 ∧ LstC (dN a.2.2.2) (wayT a g) f (qC (dN a.2.2.2) - i) x) (by omega) (by omega) ⟨rfl, rfl, Or.inl ⟨rfl, fun o h1 h2 => by omega⟩⟩ ?_ ?_
      · rintro j i x y t hi ⟨rfl, rfl, hx⟩ hj
        obtain ⟨c, hc⟩ : ∃ c, qC (dN a.2.2.2) - i = c + 1 := ⟨qC (dN a.2.2.2) - i - 1, by omega⟩
        have hc' : qC (dN a.2.2.2) - (i + 1) = c := by omega
        rw [hc] at hx ⊢
        rw [(dn_i c (by omega)).1, (dn_i c (by omega)).2]
        refine Ok.bF (nI_pos (by omega)) (Ok.vE (nO rv4.1) (m_areBeside rv4 hf (show c < qC (dN a.2.2.2) by omega)) (Ok.j1 (Ok.j1 ?_)))
        have no : (adjB (qW (dN a.2.2.2)) f c = true → wayT a g c + 1 ≠ wayT a g f) → LstC (dN a.2.2.2) (wayT a g) f c x := by
          intro hq
          rcases hx with ⟨x1, x2⟩ | ⟨o, x1, x2, x3, x4, x5, x6⟩
          · refine Or.inl ⟨x1, fun o h1 h2 h3 => ?_⟩
            by_cases e : o = c
            · rw [e] at h3 ⊢; exact hq h3
            · exact x2 o (by omega) h2 h3
          · refine Or.inr ⟨o, x1, by omega, x3, x4, x5, fun o' h1 h2 h3 => ?_⟩
            by_cases e : o' = c
            · rw [e] at h3 ⊢; exact hq h3
            · exact x6 o' (by omega) h2 h3
        refine Ok.bI bI_0 (fun y1 => ?_) (fun y1 => ?_)
        · refine hj _ _ _ ⟨rfl, by rw [hc'], ?_⟩
          rw [hc']
          exact no (fun q => by rw [q] at y1; cases y1)
        · have y1' : adjB (qW (dN a.2.2.2)) f c = true := by simpa using y1
          have hcC : c < qC (dN a.2.2.2) := by omega
          obtain ⟨c1, c2⟩ := wayT_b a hg hcC
          refine Ok.r q2 (Ok.r (hP'.rd hcC (by omega)) (Ok.r q2 (Ok.r rf ?_)))
          rw [show nI (wayT a g f) - 1 = nI (wayT a g f - 1) from pk_sub (b := 1) b2]
          refine Ok.bI (nI_eq (by omega) (by omega)) (fun y3 => ?_) (fun y3 => ?_)
          · refine hj _ _ _ ⟨rfl, by rw [hc'], ?_⟩
            rw [hc']
            exact Or.inr ⟨c, rfl, by omega, hcC, y1', by omega, fun o' h1 h2 => by omega⟩
          · refine hj _ _ _ ⟨rfl, by rw [hc'], ?_⟩
            rw [hc']
            exact no (fun _ => by omega)
      · rintro j x y t ⟨rfl, rfl, hx⟩
        rw [Nat.sub_self] at hx ⊢
        exact Ok.bT (by decide) (Ok.p ⟨lst_fs okn hf hx, hP.ma⟩)
  · exact Ok.p ⟨by rw [if_pos (by omega)], hP.ma⟩
end
