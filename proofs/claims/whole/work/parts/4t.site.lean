/-! SITE and ENOUGH -/
def minI (f : Nat → Nat) : Nat → Nat
  | 0 => 0
  | k + 1 => if f (minI f k) ≤ f k then minI f k else k
theorem minI_lt (f : Nat → Nat) : ∀ k, 0 < k → minI f k < k
  | 0, h => absurd h (by decide)
  | 1, _ => by
    unfold minI
    split
    · exact Nat.zero_lt_one
    · exact Nat.zero_lt_one
  | k + 2, _ => by
    have ih := minI_lt f (k + 1) (by omega)
    rw [minI]
    split
    · omega
    · omega
def leftN (s : Scn) (L : Option LawF) (m r c : Nat) : Nat := fa_cnt (fun o => hidB s L o && !clr s c (qG s c + m) r o) (qC s)
theorem leftN_le (s : Scn) (L : Option LawF) (m r c : Nat) : leftN s L m r c ≤ qC s := fa_cnt_le _ _
def siteA (a : Abs) (v1 v2 v3 : Int32) : Int32 := if qC (dN a.2.2.2) = 0 then -1 else match ix v1 10, ix v2 10, ix v3 2 with
  | some m, some r, some k => if k = 0 then nI (minI (leftN (dN a.2.2.2) (rul a.2.1) m r) (qC (dN a.2.2.2))) else nI (leftN (dN a.2.2.2) (rul a.2.1) m r (minI (leftN (dN a.2.2.2) (rul a.2.1) m r) (qC (dN a.2.2.2))))
  | _, _, _ => -1
def unM (s : Scn) (L : Option LawF) (m : Nat) : Int32 := msk (fun c => anyB (fun t => bt (nI m) t && sees s L t c) (qT s)) (qC s)
def dueM (s : Scn) (L : Option LawF) : Int32 := msk (fun c => anyB (fun t => sees s L t c) (qT s)) (qC s)
def enA (P : Nat → Bool) : Nat → Option Nat
  | 0 => none
  | k + 1 => match enA P k with
    | none => if P k then some k else none
    | some b => if P k then (if bitC (nI b) ≤ bitC (nI k) then some b else some k) else some b
theorem enA_lt (P : Nat → Bool) : ∀ k b, enA P k = some b → b < k
  | 0, b, h => by simp [enA] at h
  | k + 1, b, h => by
    unfold enA at h
    cases e : enA P k with
    | none =>
      rw [e] at h
      simp only [] at h
      split at h
      · simp at h; omega
      · simp at h
    | some b' =>
      have ih := enA_lt P k b' e
      rw [e] at h
      simp only [] at h
      split at h
      · split at h
        · simp at h; omega
        · simp at h; omega
      · simp at h; omega
def enoughA (a : Abs) : Int32 := if qC (dN a.2.2.2) = 0 then -1 else match enA (fun m => decide (unM (dN a.2.2.2) (rul a.2.1) m = dueM (dN a.2.2.2) (rul a.2.1))) (2 ^ qT (dN a.2.2.2) - 1) with
  | none => nI (2 ^ qT (dN a.2.2.2) - 1)
  | some b => nI b
theorem pop_d : ∀ T, T < 5 → ∀ m, m < 16 → m < 2 ^ T - 1 → ¬ bitC (nI (2 ^ T - 1)) ≤ bitC (nI m) := by decide +kernel
theorem pop_d2 : ∀ T, T < 5 → ∀ m, m < 16 → m < 2 ^ T - 1 → bitC (nI m) ≤ bitC (nI (2 ^ T - 1)) := by decide +kernel
theorem two_d : ∀ T, T < 5 → msk (fun _ => true) T = nI (2 ^ T - 1) ∧ (1 : Int32) <<< (nI T &&& 31) = nI (2 ^ T) ∧ 1 ≤ 2 ^ T ∧ 2 ^ T ≤ 16 := by decide +kernel
theorem unM_all (s : Scn) (L : Option LawF) (h : qT s ≤ 4) : msk (fun c => anyB (fun t => bt (msk (fun _ => true) (qT s)) t && sees s L t c) (qT s)) (qC s) = dueM s L := by
  refine msk_cong (fun c _ => anyB_cong (fun t ht => ?_))
  rw [bt_msk _ _ (by omega) t (by omega), decide_eq_true ht]
  simp
section
variable {K : Cfg} {dr : Int64} {a : Abs} {σ : St}
theorem lt2 {v : Int32} (h0 : ¬ v < 0) (h : ¬ (¬ v < 0 ∧ v < nI 2)) : ¬ v ≤ 1 := by
  intro z
  have : ¬ v < nI 2 := fun z => h ⟨h0, z⟩
  rw [Int32.lt_iff_toInt_lt, show (nI 2).toInt = 2 from rfl] at this
  rw [Int32.le_iff_toInt_le, show (1 : Int32).toInt = 1 from rfl] at z
  omega
theorem c_site (h : CA K dr a σ) (ok : NoLd a.2.2.2 ∨ LdOK a.2.2.2) (v1 v2 v3 : Int32) : Ok (fX9_site σ (K.1 0) v1 v2 v3) (fun r t => r = siteA a v1 v2 v3 ∧ CA K dr a t) := by
  obtain ⟨h30, h4, _, _, hl, _⟩ := okC ok
  unfold fX9_site
  refine Ok.vE (ca_O h) (ca_noLand h (by omega)) ?_
  by_cases e : qC (dN a.2.2.2) = 0
  · rw [decide_eq_true e]
    exact Ok.bF (by decide) (Ok.p ⟨by simp only [siteA, if_pos e], h⟩)
  rw [decide_eq_false e]
  refine Ok.bT rfl ?_
  rcases ixc v1 (n := 10) (by omega) with ⟨e1, hn⟩ | ⟨m, hm, rfl, e1⟩
  · have ee : siteA a v1 v2 v3 = -1 := by simp only [siteA, if_neg e, e1]
    rw [ee]
    exact Ok.b (fun _ => Ok.p ⟨rfl, h⟩) (fun z => Ok.bT (gt9 z hn) (Ok.p ⟨rfl, h⟩))
  refine Ok.bF (nI_pos (by omega)) (Ok.bF (show ¬ nI 9 < nI m from nI_nlt (by omega) (by omega)) ?_)
  rcases ixc v2 (n := 10) (by omega) with ⟨e2, hn⟩ | ⟨r, hr', rfl, e2⟩
  · have ee : siteA a (nI m) v2 v3 = -1 := by simp only [siteA, if_neg e, e1, e2]
    rw [ee]
    exact Ok.b (fun _ => Ok.p ⟨rfl, h⟩) (fun z => Ok.bT (gt9 z hn) (Ok.p ⟨rfl, h⟩))
  refine Ok.bF (nI_pos (by omega)) (Ok.bF (show ¬ nI 9 < nI r from nI_nlt (by omega) (by omega)) ?_)
  rcases ixc v3 (n := 2) (by omega) with ⟨e3, hn⟩ | ⟨k, hk, rfl, e3⟩
  · have ee : siteA a (nI m) (nI r) v3 = -1 := by simp only [siteA, if_neg e, e1, e2, e3]
    rw [ee]
    exact Ok.b (fun _ => Ok.p ⟨rfl, h⟩) (fun z => Ok.bF (lt2 z hn) (Ok.p ⟨rfl, h⟩))
  have ee : siteA a (nI m) (nI r) (nI k) = if k = 0 then nI (minI (leftN (dN a.2.2.2) (rul a.2.1) m r) (qC (dN a.2.2.2))) else nI (leftN (dN a.2.2.2) (rul a.2.1) m r (minI (leftN (dN a.2.2.2) (rul a.2.1) m r) (qC (dN a.2.2.2)))) := by simp only [siteA, if_neg e, e1, e2, e3]
  rw [ee]
  have ok := hl (by omega)
  have okn : ScOK (dN a.2.2.2) := ok.1.1
  refine Ok.bF (nI_pos (by omega)) (Ok.bT (show nI k ≤ nI 1 from nI_le (by omega) (by decide)) (Ok.r (ca_now h) (Ok.v (ca_O h) (ca_ruling h) ?_)))
  rintro q t0 ⟨rfl, hq⟩
  obtain ⟨I, R, hr, sv⟩ := ca_SV h okn
  refine Ok.v (v_O sv) (v_hidden sv hq) ?_
  rintro r1 t1 ⟨rfl, sv1⟩
  refine Ok.f4 (qC (dN a.2.2.2)) 0 (fun i x y z τ => ((i = 0 ∧ x = -1) ∨ (1 ≤ i ∧ x = nI (minI (leftN (dN a.2.2.2) (rul a.2.1) m r) i) ∧ y = nI (leftN (dN a.2.2.2) (rul a.2.1) m r (minI (leftN (dN a.2.2.2) (rul a.2.1) m r) i)))) ∧ z = nI i ∧ SV K I R dr 11 (dN a.2.2.2) τ) (by omega) (by omega) ⟨Or.inl ⟨rfl, rfl⟩, rfl, sv1⟩ ?_ ?_
  · rintro j i x y z τ hi ⟨hx, rfl, s2⟩ hj
    have h2 : CA K dr a τ := ⟨I, R, s2.1, hr⟩
    have og := okn.g hi
    refine Ok.r (ca_now h2) (Ok.r (v_cells s2) (Ok.bF (nI_ge hi (by omega)) (Ok.r (ca_now h2) (Ok.r (ca_now h2) (Ok.r (v_ground s2) (Ok.r (v_G s2 hi) ?_))))))
    rw [nI_add]
    refine Ok.vE (v_O s2) (v_sightFrom s2 hi (by omega) (by omega)) ?_
    rw [msk_sub _ _ (by omega)]
    refine Ok.cE ((f_bitC _ _).trans (congrArg (fun z => some (z, τ)) (bitC_msk _ (by omega)))) (Ok.j2 (Ok.j1 ?_))
    rw [nI_1]
    have hle := fa_cnt_le (fun o => hidB (dN a.2.2.2) (rul a.2.1) o && !clr (dN a.2.2.2) i (qG (dN a.2.2.2) i + m) r o) (qC (dN a.2.2.2))
    rcases hx with ⟨rfl, rfl⟩ | ⟨h1, rfl, rfl⟩
    · refine Ok.bT rfl (hj _ _ _ _ ⟨Or.inr ⟨by omega, ?_, ?_⟩, rfl, s2⟩)
      · simp [minI]
      · simp [minI]; rfl
    · have hb := minI_lt (leftN (dN a.2.2.2) (rul a.2.1) m r) i (by omega)
      refine Ok.bF (m1_nI (by omega)) ?_
      refine Ok.bI (nI_leI (a := leftN (dN a.2.2.2) (rul a.2.1) m r (minI (leftN (dN a.2.2.2) (rul a.2.1) m r) i)) (b := leftN (dN a.2.2.2) (rul a.2.1) m r i) (by have := leftN_le (dN a.2.2.2) (rul a.2.1) m r (minI (leftN (dN a.2.2.2) (rul a.2.1) m r) i); omega) (by have := leftN_le (dN a.2.2.2) (rul a.2.1) m r i; omega)) (fun q2 => ?_) (fun q2 => ?_)
      · exact hj _ _ _ _ ⟨Or.inr ⟨by omega, by simp only [minI, if_pos q2], by simp only [minI, if_pos q2]⟩, rfl, s2⟩
      · exact hj _ _ _ _ ⟨Or.inr ⟨by omega, by simp only [minI, if_neg q2], by simp only [minI, if_neg q2]; rfl⟩, rfl, s2⟩
  · rintro j x y z τ ⟨hx, rfl, s2⟩
    have h2 : CA K dr a τ := ⟨I, R, s2.1, hr⟩
    rcases hx with ⟨h0, _⟩ | ⟨_, rfl, rfl⟩
    · omega
    refine Ok.r (ca_now h2) (Ok.r (v_cells s2) (Ok.bT (nI_le (Nat.le_refl _) (by omega)) (Ok.bI (nI_eq (b := 0) (by omega) (by omega)) (fun q2 => ?_) (fun q2 => ?_))))
    · exact Ok.p ⟨by rw [if_pos q2], h2⟩
    · exact Ok.p ⟨by rw [if_neg q2], h2⟩
theorem c_enough (h : CA K dr a σ) (ok : NoLd a.2.2.2 ∨ LdOK a.2.2.2) : Ok (fX9_enough σ (K.1 0)) (fun r t => r = enoughA a ∧ CA K dr a t) := by
  obtain ⟨h30, h4, _, _, hl, _⟩ := okC ok
  unfold fX9_enough
  refine Ok.vE (ca_O h) (ca_noLand h (by omega)) ?_
  by_cases e : qC (dN a.2.2.2) = 0
  · rw [decide_eq_true e]
    exact Ok.bF (by decide) (Ok.p ⟨by simp only [enoughA, if_pos e], h⟩)
  rw [decide_eq_false e]
  have ok := hl (by omega)
  have okn : ScOK (dN a.2.2.2) := ok.1.1
  obtain ⟨d1, d2, d3, d4⟩ := two_d (qT (dN a.2.2.2)) (by omega)
  have ee : enoughA a = match enA (fun m => decide (unM (dN a.2.2.2) (rul a.2.1) m = dueM (dN a.2.2.2) (rul a.2.1))) (2 ^ qT (dN a.2.2.2) - 1) with
    | none => nI (2 ^ qT (dN a.2.2.2) - 1)
    | some b => nI b := by simp only [enoughA, if_neg e]
  rw [ee]
  obtain ⟨I, R, hr, sv⟩ := ca_SV h okn
  refine Ok.bT rfl (Ok.r (ca_now h) (Ok.vE (v_O sv) (v_allTowers sv) (Ok.r (ca_now h) (Ok.v (ca_O h) (ca_ruling h) ?_))))
  rintro q t0 ⟨rfl, hq⟩
  refine Ok.v (v_O sv) (v_union sv _ hq) ?_
  rintro r1 t1 ⟨rfl, sv1⟩
  rw [unM_all _ _ h4, d1]
  refine Ok.f3 (2 ^ qT (dN a.2.2.2) - 1) 0 (fun k x y τ => x = (match enA (fun m => decide (unM (dN a.2.2.2) (rul a.2.1) m = dueM (dN a.2.2.2) (rul a.2.1))) k with
    | none => nI (2 ^ qT (dN a.2.2.2) - 1)
    | some b => nI b) ∧ y = nI k ∧ SV K I R dr 11 (dN a.2.2.2) τ) (by omega) (by omega) ⟨rfl, rfl, sv1⟩ ?_ ?_
  · rintro j k x y τ hk ⟨hx, rfl, s2⟩ hj
    have h2 : CA K dr a τ := ⟨I, R, s2.1, hr⟩
    refine Ok.bF (nI_ge hk (by omega)) (Ok.cE (f_bitC _ _) (Ok.cE (f_bitC _ _) (Ok.j2 ?_)))
    rw [nI_1]
    have rest : (¬ bitC x ≤ bitC (nI k)) → (unM (dN a.2.2.2) (rul a.2.1) k = dueM (dN a.2.2.2) (rul a.2.1) → enA (fun m => decide (unM (dN a.2.2.2) (rul a.2.1) m = dueM (dN a.2.2.2) (rul a.2.1))) (k + 1) = some k) → (unM (dN a.2.2.2) (rul a.2.1) k ≠ dueM (dN a.2.2.2) (rul a.2.1) → enA (fun m => decide (unM (dN a.2.2.2) (rul a.2.1) m = dueM (dN a.2.2.2) (rul a.2.1))) (k + 1) = enA (fun m => decide (unM (dN a.2.2.2) (rul a.2.1) m = dueM (dN a.2.2.2) (rul a.2.1))) k) → Ok (if bitC x ≤ bitC (nI k) then j x (nI (k + 1)) τ else (gR 9 8 τ (K.1 0)).bind fun a22 => bo 9 τ (K.1 0) (fX9_ruling τ (K.1 0)) (fun q23 t24 => bo 7 t24 a22 (fX7_unionOfSights t24 a22 (nI k) q23) (fun x25 t26 => if x25 = dueM (dN a.2.2.2) (rul a.2.1) then j (nI k) (nI (k + 1)) t26 else j x (nI (k + 1)) t26))) (fun r t => r = (match enA (fun m => decide (unM (dN a.2.2.2) (rul a.2.1) m = dueM (dN a.2.2.2) (rul a.2.1))) (2 ^ qT (dN a.2.2.2) - 1) with
    | none => nI (2 ^ qT (dN a.2.2.2) - 1)
    | some b => nI b) ∧ CA K dr a t) := by
      intro hb hy hn
      refine Ok.bF hb (Ok.r (ca_now h2) (Ok.v (ca_O h2) (ca_ruling h2) ?_))
      rintro q3 t3 ⟨rfl, hq3⟩
      refine Ok.v (v_O s2) (v_union s2 _ hq3) ?_
      rintro r4 t4 ⟨rfl, s4⟩
      refine Ok.b (fun z => ?_) (fun z => ?_)
      · exact hj _ _ _ ⟨by rw [hy z], rfl, s4⟩
      · exact hj _ _ _ ⟨by rw [hn z]; exact hx, rfl, s4⟩
    cases q1 : enA (fun m => decide (unM (dN a.2.2.2) (rul a.2.1) m = dueM (dN a.2.2.2) (rul a.2.1))) k with
    | none =>
      rw [q1] at hx rest
      have hx' : x = nI (2 ^ qT (dN a.2.2.2) - 1) := hx
      refine rest ?_ (fun z => ?_) (fun z => ?_)
      · rw [hx']; exact pop_d (qT (dN a.2.2.2)) (by omega) k (by omega) hk
      · simp only [enA, q1, decide_eq_true z, if_true]
      · simp only [enA, q1, decide_eq_false z]; rfl
    | some b =>
      rw [q1] at hx rest
      have hx' : x = nI b := hx
      by_cases hb : bitC x ≤ bitC (nI k)
      · refine Ok.bT hb (hj _ _ _ ⟨?_, rfl, s2⟩)
        rw [hx'] at hb
        have : enA (fun m => decide (unM (dN a.2.2.2) (rul a.2.1) m = dueM (dN a.2.2.2) (rul a.2.1))) (k + 1) = some b := by
          simp only [enA, q1, if_pos hb]
          split <;> rfl
        rw [this]; exact hx'
      · refine rest hb (fun z => ?_) (fun z => ?_)
        · rw [hx'] at hb
          simp only [enA, q1, decide_eq_true z, if_true, if_neg hb]
        · simp only [enA, q1, decide_eq_false z]; rfl
  · rintro j x y τ ⟨hx, rfl, s2⟩
    exact Ok.bT (nI_le (Nat.le_refl _) (by omega)) (Ok.p ⟨hx, I, R, s2.1, hr⟩)
end
section
variable {M : Mfg} {dr : Int64} {a : Abs} {σ : St}
theorem m_site (h : MA M dr a σ) (ok : NoLd a.2.2.2 ∨ LdOK a.2.2.2) (v1 v2 v3 : Int32) : Ok (fX10_site σ (M.1 0) v1 v2 v3) (fun r t => r = siteA a v1 v2 v3 ∧ MA M dr a t) := by
  obtain ⟨h30, h4, _, _, hl, _⟩ := okC ok
  unfold fX10_site
  refine Ok.r (ma_cells h) (Ok.bI (nI_eq (b := 0) (by omega) (by omega)) (fun e => ?_) (fun e => ?_))
  · exact Ok.p ⟨by simp only [siteA, if_pos e], h⟩
  refine Ok.cE (show fX10_in σ v1 0 9 = some (bI (decide (¬ v1 < 0 ∧ v1 < nI 10)), σ) from f_inN σ v1 (n := 10) (by decide)) ?_
  rcases ixc v1 (n := 10) (by omega) with ⟨e1, hn⟩ | ⟨m, hm, rfl, e1⟩
  · rw [decide_eq_false hn]
    exact Ok.bT rfl (Ok.p ⟨by simp only [siteA, if_neg e, e1], h⟩)
  rw [decide_eq_true (ix_in hm (by decide))]
  refine Ok.bF (by decide) (Ok.cE (show fX10_in σ v2 0 9 = some (bI (decide (¬ v2 < 0 ∧ v2 < nI 10)), σ) from f_inN σ v2 (n := 10) (by decide)) ?_)
  rcases ixc v2 (n := 10) (by omega) with ⟨e2, hn⟩ | ⟨r, hr', rfl, e2⟩
  · rw [decide_eq_false hn]
    exact Ok.bT rfl (Ok.p ⟨by simp only [siteA, if_neg e, e1, e2], h⟩)
  rw [decide_eq_true (ix_in hr' (by decide))]
  refine Ok.bF (by decide) (Ok.cE (show fX10_in σ v3 0 1 = some (bI (decide (¬ v3 < 0 ∧ v3 < nI 2)), σ) from f_inN σ v3 (n := 2) (by decide)) ?_)
  rcases ixc v3 (n := 2) (by omega) with ⟨e3, hn⟩ | ⟨k, hk, rfl, e3⟩
  · rw [decide_eq_false hn]
    exact Ok.bT rfl (Ok.p ⟨by simp only [siteA, if_neg e, e1, e2, e3], h⟩)
  rw [decide_eq_true (ix_in hk (by decide))]
  have ee : siteA a (nI m) (nI r) (nI k) = if k = 0 then nI (minI (leftN (dN a.2.2.2) (rul a.2.1) m r) (qC (dN a.2.2.2))) else nI (leftN (dN a.2.2.2) (rul a.2.1) m r (minI (leftN (dN a.2.2.2) (rul a.2.1) m r) (qC (dN a.2.2.2)))) := by simp only [siteA, if_neg e, e1, e2, e3]
  rw [ee]
  have ok := hl (by omega)
  have okn : ScOK (dN a.2.2.2) := ok.1.1
  obtain ⟨J, Q, hr, hu, rv⟩ := ma_RV h okn
  refine Ok.bF (by decide) (Ok.v (nO rv.1) (m_hid rv hu) ?_)
  rintro r1 t1 ⟨rfl, rv1⟩
  refine Ok.f4 (qC (dN a.2.2.2)) 0 (fun i x y z τ => ((i = 0 ∧ x = -1) ∨ (1 ≤ i ∧ x = nI (minI (leftN (dN a.2.2.2) (rul a.2.1) m r) i) ∧ y = nI (leftN (dN a.2.2.2) (rul a.2.1) m r (minI (leftN (dN a.2.2.2) (rul a.2.1) m r) i)))) ∧ z = nI i ∧ RV M J Q dr (dN a.2.2.2) τ) (by omega) (by omega) ⟨Or.inl ⟨rfl, rfl⟩, rfl, rv1⟩ ?_ ?_
  · rintro j i x y z τ hi ⟨hx, rfl, s2⟩ hj
    have og := okn.g hi
    refine Ok.r (r_cells s2) (Ok.bF (nI_ge hi (by omega)) ?_)
    refine Ok.f3 (qC (dN a.2.2.2)) 0 (fun o x y τ => x = nI (fa_cnt (fun o => hidB (dN a.2.2.2) (rul a.2.1) o && !clr (dN a.2.2.2) i (qG (dN a.2.2.2) i + m) r o) o) ∧ y = nI o ∧ RV M J Q dr (dN a.2.2.2) τ) (by omega) (by omega) ⟨rfl, rfl, s2⟩ ?_ ?_
    · rintro j2 o x2 y2 τ2 ho ⟨rfl, rfl, s3⟩ hj2
      refine Ok.r (r_cells s3) (Ok.bF (nI_ge ho (by omega)) (Ok.cE (f_has _ _ (by omega)) (Ok.j3 (Ok.j2 ?_))))
      rw [nI_1, bt_msk _ _ (by omega) o (by omega), decide_eq_true ho, Bool.true_and]
      refine Ok.bI bI_0 (fun z => ?_) (fun z => ?_)
      · refine Ok.n (hj2 _ _ _ ⟨?_, rfl, s3⟩)
        rw [fa_cnt_no (by simp [z]), show (0 : Int32) = nI 0 from rfl, nI_add]; rfl
      · refine Ok.r (nr_28 s3.1) (Ok.r (nr_28 s3.1) (Ok.r (r_G0 s3 hi) (Ok.r (nr_28 s3.1) (Ok.r (r_F s3) ?_))))
        rw [nI_add]
        refine Ok.vE (nO s3.1) (m_isSeen okn s3.1 s3.w (fun i hi => r_G s3 hi) hi ho (by omega) (by omega)) (Ok.bI bI_0 (fun z2 => ?_) (fun z2 => ?_))
        · refine Ok.n (hj2 _ _ _ ⟨?_, rfl, s3⟩)
          rw [fa_cnt_yes (p := fun o => hidB (dN a.2.2.2) (rul a.2.1) o && !clr (dN a.2.2.2) i (qG (dN a.2.2.2) i + m) r o) (n := o) (by simp at z; simp [z, z2]), nI_1]
        · refine Ok.n (hj2 _ _ _ ⟨?_, rfl, s3⟩)
          rw [fa_cnt_no (by simp at z2; simp [z2]), show (0 : Int32) = nI 0 from rfl, nI_add]; rfl
    · rintro j2 x2 y2 τ2 ⟨rfl, rfl, s3⟩
      have hle := fa_cnt_le (fun o => hidB (dN a.2.2.2) (rul a.2.1) o && !clr (dN a.2.2.2) i (qG (dN a.2.2.2) i + m) r o) (qC (dN a.2.2.2))
      refine Ok.r (r_cells s3) (Ok.bT (nI_le (Nat.le_refl _) (by omega)) (Ok.j2 (Ok.j1 ?_)))
      rw [nI_1]
      rcases hx with ⟨rfl, rfl⟩ | ⟨h1, rfl, rfl⟩
      · refine Ok.bT rfl (hj _ _ _ _ ⟨Or.inr ⟨by omega, ?_, ?_⟩, rfl, s3⟩)
        · simp [minI]
        · simp [minI]; rfl
      · have hb := minI_lt (leftN (dN a.2.2.2) (rul a.2.1) m r) i (by omega)
        refine Ok.bF (m1_nI (by omega)) ?_
        refine Ok.bI (nI_leI (a := leftN (dN a.2.2.2) (rul a.2.1) m r (minI (leftN (dN a.2.2.2) (rul a.2.1) m r) i)) (b := leftN (dN a.2.2.2) (rul a.2.1) m r i) (by have := leftN_le (dN a.2.2.2) (rul a.2.1) m r (minI (leftN (dN a.2.2.2) (rul a.2.1) m r) i); omega) (by have := leftN_le (dN a.2.2.2) (rul a.2.1) m r i; omega)) (fun q2 => ?_) (fun q2 => ?_)
        · exact hj _ _ _ _ ⟨Or.inr ⟨by omega, by simp only [minI, if_pos q2], by simp only [minI, if_pos q2]⟩, rfl, s3⟩
        · exact hj _ _ _ _ ⟨Or.inr ⟨by omega, by simp only [minI, if_neg q2], by simp only [minI, if_neg q2]; rfl⟩, rfl, s3⟩
  · rintro j x y z τ ⟨hx, rfl, s2⟩
    rcases hx with ⟨h0, _⟩ | ⟨_, rfl, rfl⟩
    · omega
    refine Ok.r (r_cells s2) (Ok.bT (nI_le (Nat.le_refl _) (by omega)) (Ok.bI (nI_eq (b := 0) (by omega) (by omega)) (fun q2 => ?_) (fun q2 => ?_)))
    · exact Ok.p ⟨by rw [if_pos q2], J, Q, s2.1, hr⟩
    · exact Ok.p ⟨by rw [if_neg q2], J, Q, s2.1, hr⟩
theorem m_enough (h : MA M dr a σ) (ok : NoLd a.2.2.2 ∨ LdOK a.2.2.2) : Ok (fX10_enough σ (M.1 0)) (fun r t => r = enoughA a ∧ MA M dr a t) := by
  obtain ⟨h30, h4, _, _, hl, _⟩ := okC ok
  unfold fX10_enough
  refine Ok.r (ma_cells h) (Ok.bI (nI_eq (b := 0) (by omega) (by omega)) (fun e => ?_) (fun e => ?_))
  · exact Ok.p ⟨by simp only [enoughA, if_pos e], h⟩
  have ok := hl (by omega)
  have okn : ScOK (dN a.2.2.2) := ok.1.1
  obtain ⟨d1, d2, d3, d4⟩ := two_d (qT (dN a.2.2.2)) (by omega)
  obtain ⟨J, Q, hr, hu, rv⟩ := ma_RV h okn
  have hall : unM (dN a.2.2.2) (rul a.2.1) (2 ^ qT (dN a.2.2.2) - 1) = dueM (dN a.2.2.2) (rul a.2.1) := by
    have := unM_all (dN a.2.2.2) (rul a.2.1) h4
    rw [d1] at this
    exact this
  have ee : enoughA a = oI (enA (fun m => decide (unM (dN a.2.2.2) (rul a.2.1) m = dueM (dN a.2.2.2) (rul a.2.1))) (2 ^ qT (dN a.2.2.2))) := by
    obtain ⟨n, hn⟩ : ∃ n, 2 ^ qT (dN a.2.2.2) = n + 1 := ⟨2 ^ qT (dN a.2.2.2) - 1, by omega⟩
    have hn1 : 2 ^ qT (dN a.2.2.2) - 1 = n := by omega
    simp only [enoughA, if_neg e]
    rw [hn1, hn]
    rw [hn1] at hall
    cases q1 : enA (fun m => decide (unM (dN a.2.2.2) (rul a.2.1) m = dueM (dN a.2.2.2) (rul a.2.1))) n with
    | none =>
      simp only [enA, q1, decide_eq_true hall, if_true]
      rfl
    | some b =>
      have hb := enA_lt _ _ _ q1
      have := pop_d2 (qT (dN a.2.2.2)) (by omega) b (by omega) (by omega)
      rw [hn1] at this
      simp only [enA, q1, decide_eq_true hall, if_true, if_pos this]
      rfl
  rw [ee]
  refine Ok.v (nO rv.1) (m_seenByAll rv hu) ?_
  rintro r1 t1 ⟨rfl, rv1⟩
  refine Ok.f3 (2 ^ qT (dN a.2.2.2)) 0 (fun k x y τ => x = oI (enA (fun m => decide (unM (dN a.2.2.2) (rul a.2.1) m = dueM (dN a.2.2.2) (rul a.2.1))) k) ∧ y = nI k ∧ RV M J Q dr (dN a.2.2.2) τ) (by omega) (by omega) ⟨rfl, rfl, rv1⟩ ?_ ?_
  · rintro j k x y τ hk ⟨rfl, rfl, s2⟩ hj
    refine Ok.r (r_towers s2) ?_
    rw [d2]
    refine Ok.bF (nI_ge hk (by omega)) ?_
    refine Ok.f3 (qT (dN a.2.2.2)) 0 (fun t x y τ => x = msk (fun c => anyB (fun t => bt (nI k) t && sees (dN a.2.2.2) (rul a.2.1) t c) t) (qC (dN a.2.2.2)) ∧ y = nI t ∧ RV M J Q dr (dN a.2.2.2) τ) (by omega) (by omega) ⟨msk_0 (by omega) (fun _ => rfl), rfl, s2⟩ ?_ ?_
    · rintro j2 t x2 y2 τ2 ht ⟨rfl, rfl, s3⟩ hj2
      refine Ok.r (r_towers s3) (Ok.bF (nI_ge ht (by omega)) (Ok.cE (f_has _ _ (by omega)) (Ok.j3 ?_)))
      rw [nI_1]
      refine Ok.bI bI_0 (fun z => ?_) (fun z => ?_)
      · refine Ok.n (hj2 _ _ _ ⟨?_, rfl, s3⟩)
        rw [or0]
        exact msk_cong (fun c _ => by simp [anyB, z])
      · refine Ok.v (nO s3.1) (m_seenBy s3 ht hu) ?_
        rintro r4 t4 ⟨rfl, s4⟩
        refine Ok.n (hj2 _ _ _ ⟨?_, rfl, s4⟩)
        rw [msk_or _ _ (by omega)]
        exact msk_cong (fun c _ => by simp at z; simp [anyB, z])
    · rintro j2 x2 y2 τ2 ⟨rfl, rfl, s3⟩
      refine Ok.r (r_towers s3) (Ok.bT (nI_le (Nat.le_refl _) (by omega)) (Ok.j2 (Ok.j1 ?_)))
      rw [nI_1]
      have go : ∀ b, enA (fun m => decide (unM (dN a.2.2.2) (rul a.2.1) m = dueM (dN a.2.2.2) (rul a.2.1))) (k + 1) = b → Ok (j (oI b) (nI (k + 1)) τ2) (fun r t => r = oI (enA (fun m => decide (unM (dN a.2.2.2) (rul a.2.1) m = dueM (dN a.2.2.2) (rul a.2.1))) (2 ^ qT (dN a.2.2.2))) ∧ MA M dr a t) := by
        intro b hb
        exact hj _ _ _ ⟨by rw [hb], rfl, s3⟩
      refine Ok.b (fun z => ?_) (fun z => ?_)
      · have z' : unM (dN a.2.2.2) (rul a.2.1) k = dueM (dN a.2.2.2) (rul a.2.1) := z
        refine Ok.j1 ?_
        cases q1 : enA (fun m => decide (unM (dN a.2.2.2) (rul a.2.1) m = dueM (dN a.2.2.2) (rul a.2.1))) k with
        | none => exact Ok.bT rfl (go (some k) (by simp only [enA, q1, decide_eq_true z', if_true]))
        | some b =>
          have hb := enA_lt _ _ _ q1
          refine Ok.bF (m1_nI (show b < 2 ^ 31 by omega)) (Ok.cE (f_bitC _ _) (Ok.cE (f_bitC _ _) (Ok.b (fun w => ?_) (fun w => ?_))))
          · have w' : bitC (nI b) ≤ bitC (nI k) := w
            exact go (some b) (by simp only [enA, q1, decide_eq_true z', if_true, if_pos w'])
          · have w' : ¬ bitC (nI b) ≤ bitC (nI k) := w
            exact go (some k) (by simp only [enA, q1, decide_eq_true z', if_true, if_neg w'])
      · have z' : ¬ unM (dN a.2.2.2) (rul a.2.1) k = dueM (dN a.2.2.2) (rul a.2.1) := z
        refine go _ ?_
        cases q1 : enA (fun m => decide (unM (dN a.2.2.2) (rul a.2.1) m = dueM (dN a.2.2.2) (rul a.2.1))) k with
        | none => simp only [enA, q1, decide_eq_false z']; rfl
        | some b => simp only [enA, q1, decide_eq_false z']; rfl
  · rintro j x y τ ⟨rfl, rfl, s2⟩
    refine Ok.r (r_towers s2) ?_
    rw [d2]
    exact Ok.bT (nI_le (Nat.le_refl _) (by omega)) (Ok.p ⟨rfl, J, Q, s2.1, hr⟩)
end
