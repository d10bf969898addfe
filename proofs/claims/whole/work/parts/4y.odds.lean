/-! odds that a cell is hid -/
def od (H : Nat → Bool) (ch : Nat) : Nat → Nat → Nat → Nat
  | 0, f, p => if H f = true then p else 0
  | n + 1, f, p => od H ch n (min 9 (f + 1)) (p * ch / 100) + od H ch n (f - 1) (p - p * ch / 100)
theorem od_0 (H : Nat → Bool) (ch : Nat) : ∀ n f, od H ch n f 0 = 0
  | 0, f => by unfold od; split <;> rfl
  | n + 1, f => by
    unfold od
    rw [Nat.zero_mul, Nat.zero_div, Nat.sub_zero, od_0 H ch n, od_0 H ch n]
theorem cut_le {p ch : Nat} (h : ch ≤ 100) : p * ch / 100 ≤ p := by
  have : p * ch ≤ p * 100 := Nat.mul_le_mul_left p h
  omega
theorem od_le (H : Nat → Bool) {ch : Nat} (h : ch ≤ 100) : ∀ n f p, od H ch n f p ≤ p
  | 0, f, p => by unfold od; split <;> omega
  | n + 1, f, p => by
    unfold od
    have h1 := od_le H h n (min 9 (f + 1)) (p * ch / 100)
    have h2 := od_le H h n (f - 1) (p - p * ch / 100)
    have h3 := cut_le (p := p) h
    omega
theorem od_cong {H H' : Nat → Bool} (ch : Nat) : ∀ n f p, (∀ g, f ≤ g + n → g ≤ f + n → g ≤ 9 → H g = H' g) → f ≤ 9 → od H ch n f p = od H' ch n f p
  | 0, f, p, h, h9 => by
    unfold od
    rw [h f (by omega) (by omega) h9]
  | n + 1, f, p, h, h9 => by
    unfold od
    rw [od_cong ch n (min 9 (f + 1)) _ (fun g h1 h2 h3 => h g (by omega) (by omega) h3) (by omega), od_cong ch n (f - 1) _ (fun g h1 h2 h3 => h g (by omega) (by omega) h3) (by omega)]
def odS (a : Abs) (n : Nat) : Scn := sF (dN a.2.2.2) 6 (qU (dN a.2.2.2) + n)
def odH (a : Abs) (c n f : Nat) : Bool := hidB (sF (odS a n) 4 f) (rul a.2.1) c
def oddsA (a : Abs) (v1 v2 v3 : Int32) : Int32 := match ix v1 (qC (dN a.2.2.2)), ix v2 9, ix v3 101 with
  | some c, some n, some ch => nI (od (odH a c n) ch n (qF (dN a.2.2.2)) 1000000000)
  | _, _, _ => -1
theorem sF_sF (s : Scn) (f u v : Nat) : sF (sF s f u) f v = sF s f v := by
  have : updN (updN s.1 f u) f v = updN s.1 f v := by
    funext k
    unfold updN
    split <;> rfl
  show (updN (updN s.1 f u) f v, s.2) = _
  rw [this]; rfl
theorem max_s : ∀ F, F < 10 → ∀ n, n < 9 → (if (0 : Int32) < nI F - nI n then nI F - nI n else 0) = nI (F - n) := by decide +kernel
theorem odd_ok {a : Abs} (okd : LdOK a.2.2.2) {n f : Nat} (hn : n ≤ 8) (hu : qU (dN a.2.2.2) ≤ 9999) (hf : f ≤ 9) : ScOK (sF (odS a n) 4 f) := by
  have h : ScOK (dN a.2.2.2) := okd.1.1
  have h6 : ScOK (odS a n) := ⟨h.1, h.2.1, h.2.2.1, h.2.2.2.1, h.2.2.2.2.1, h.2.2.2.2.2.1, (show qU (dN a.2.2.2) + n ≤ 19999 by omega), h.2.2.2.2.2.2.2.1, h.2.2.2.2.2.2.2.2⟩
  exact h6.sFo hf
section
variable {K : Cfg} {dr : Int64} {a : Abs} {σ : St}
theorem c_parts (H : Nat → Bool) (hd : Int32) {ch : Nat} (hch : ch ≤ 100) (σ : St) : ∀ (n D f p : Nat), n < D → n ≤ 8 → p ≤ 1000000000 → f ≤ 9 → (∀ g, f ≤ g + n → g ≤ f + n → g ≤ 9 → bt hd g = H g) → fX9_partsHid D σ (lN p) (nI f) (nI n) (nI ch) hd = some (lN (od H ch n f p), σ) := by
  intro n
  induction n with
  | zero =>
    intro D f p hD hn hp hf hH
    obtain ⟨D, rfl⟩ : ∃ d, D = d + 1 := ⟨D - 1, by omega⟩
    show eX9_partsHid (recX9_partsHid D) σ (lN p) (nI f) (nI 0) (nI ch) hd = _
    refine Ok.toE ?_
    unfold eX9_partsHid
    refine Ok.j1 (Ok.bT (by decide) ?_)
    rw [bit_at hd (by omega), hH f (by omega) (by omega) hf]
    refine Ok.bI bI_1 (fun z => ?_) (fun z => ?_)
    · exact Ok.p ⟨by unfold od; rw [if_pos z], rfl⟩
    · exact Ok.p ⟨by unfold od; rw [if_neg z]; rfl, rfl⟩
  | succ n ih =>
    intro D f p hD hn hp hf hH
    obtain ⟨D, rfl⟩ : ∃ d, D = d + 1 := ⟨D - 1, by omega⟩
    show eX9_partsHid (recX9_partsHid D) σ (lN p) (nI f) (nI (n + 1)) (nI ch) hd = _
    refine Ok.toE ?_
    unfold eX9_partsHid
    refine Ok.j1 (Ok.bF (nI_nle (by omega) (by omega)) (Ok.bF (show ¬ nI 8 < nI (n + 1) from nI_nlt (by omega) (by omega)) ?_))
    by_cases h0 : p = 0
    · subst h0
      refine Ok.bF (by rw [lgc_gt]; decide) ?_
      rw [od_0]
      refine Ok.b (fun _ => Ok.p ⟨rfl, rfl⟩) (fun _ => Ok.p ⟨rfl, rfl⟩)
    · have hc := cut_le (p := p) hch
      have hb : p * ch ≤ 1000000000 * 100 := Nat.mul_le_mul hp hch
      refine Ok.bT ((lgc_gt _ _).mpr ((pk_lLT (a := 0) (by decide) (by omega)).mpr (by omega))) (Ok.bF (by decide) (Ok.nE (e' := lN (p * ch / 100)) ?_ ?_))
      · rw [nI_l (by omega), lN_mul, show (100 : Int64) = lN 100 from rfl, pk_lDiv (by omega) (by decide) (by decide)]
      rw [nI_1, nI_pred]
      refine Ok.cE ((f_min _ _ _).trans (congrArg (fun z => some (z, σ)) (min_i (a := 9) (by omega) (by omega)))) (Ok.cE (ih D (min 9 (f + 1)) (p * ch / 100) (by omega) (by omega) (by omega) (by omega) (fun g h1 h2 h3 => hH g (by omega) (by omega) h3)) ?_)
      refine Ok.cE ((f_max _ _ _).trans (congrArg (fun z => some (z, σ)) (max_i (by omega)))) ?_
      have es : lN p - lN (p * ch / 100) = lN (p - p * ch / 100) := by
        have := lN_add (p - p * ch / 100) (p * ch / 100)
        rw [Nat.sub_add_cancel hc] at this
        rw [← this]
        grind
      rw [es]
      refine Ok.cE (ih D (f - 1) (p - p * ch / 100) (by omega) (by omega) (by omega) (by omega) (fun g h1 h2 h3 => hH g (by omega) (by omega) h3)) (Ok.p ⟨?_, rfl⟩)
      rw [lN_add]
      rfl
theorem c_fogs (h : CA K dr a σ) (okd : LdOK a.2.2.2) (hu : qU (dN a.2.2.2) ≤ 9999) {c n : Nat} (hc : c < qC (dN a.2.2.2)) (hn : n ≤ 8) : Ok (fX9_fogsThatHide σ (K.1 0) (nI c) (nI n)) (fun r t => (∀ g, qF (dN a.2.2.2) ≤ g + n → g ≤ qF (dN a.2.2.2) + n → g ≤ 9 → bt r g = odH a c n g) ∧ CA K dr a t) := by
  have okn : ScOK (dN a.2.2.2) := okd.1.1
  have hF := okn.f
  have h30 := okn.c30
  have hp : gR 9 10 σ (K.1 0) = some (K.1 23) ∧ isO 7 σ (K.1 23) = true := by
    obtain ⟨I, R, hv, _⟩ := h
    exact ⟨kr_0_10 hv, kO_23 hv⟩
  unfold fX9_fogsThatHide
  refine Ok.r hp.1 (Ok.r (ca_now h) (Ok.v hp.2 (h.trial okn) ?_))
  intro w1 t1 h1
  obtain ⟨x1, x2, x3, x4, x5, x6⟩ := cx_tr h1
  refine Ok.r x1 (Ok.r (ca_now h1.ca) (Ok.r (ca_f h1.ca 6 (by decide)) ?_))
  show Ok ((pV 7 6 t1 (K.1 23) (.int (nI (qU (dN a.2.2.2)) + nI n))).bind _) _
  rw [nI_add]
  refine Ok.w (h1.setF 6 _ (by decide)) ?_
  intro t2 h2
  have h2' : CX K dr a (odS a n) t2 := h2
  refine Ok.r (ca_now h2.ca) (Ok.r (ca_f h2.ca 4 (by decide)) (Ok.cE ((f_max _ _ _).trans (congrArg (fun z => some (z, t2)) (max_s (qF (dN a.2.2.2)) (by omega) n (by omega)))) ?_))
  refine Ok.f3 (min 9 (qF (dN a.2.2.2) + n) + 1) (qF (dN a.2.2.2) - n) (fun k x y t => x = msk (fun f => decide (qF (dN a.2.2.2) - n ≤ f) && odH a c n f) k ∧ y = nI k ∧ qF (dN a.2.2.2) - n ≤ k ∧ ∃ s', CX K dr a s' t ∧ ∀ f, sF s' 4 f = sF (odS a n) 4 f) (by omega) (by omega) ⟨?_, rfl, Nat.le_refl _, _, h2', fun _ => rfl⟩ ?_ ?_
  · refine msk_ext (by omega) (fun i hi => ?_)
    rw [b_0]
    by_cases z : i < qF (dN a.2.2.2) - n
    · rw [decide_eq_false (show ¬ qF (dN a.2.2.2) - n ≤ i by omega)]; simp
    · rw [decide_eq_false z]; rfl
  · rintro j k x y t hk ⟨rfl, rfl, hlo, s', h3, hs'⟩ hj
    obtain ⟨y1, y2, _⟩ := cx_tr h3
    refine Ok.r (ca_now h3.ca) (Ok.r (ca_f h3.ca 4 (by decide)) ?_)
    show Ok (bd (fJ9_min_7cf53 t 9 (nI (qF (dN a.2.2.2)) + nI n)) _) _
    rw [nI_add]
    refine Ok.cE ((f_min _ _ _).trans (congrArg (fun z => some (z, t)) (min_i (a := 9) (by omega) (by omega)))) (Ok.bF (nI_nlt (by omega) (by omega)) (Ok.r y1 (Ok.w (h3.setF 4 k (by decide)) ?_)))
    intro t4 h4
    rw [hs'] at h4
    obtain ⟨z1, z2, _⟩ := cx_tr h4
    refine Ok.r z1 (Ok.v (ca_O h4.ca) (ca_ruling h4.ca) ?_)
    rintro q t5 ⟨rfl, hq⟩
    obtain ⟨I, R, sv, back⟩ := h4.sv (odd_ok okd hn hu (show k ≤ 9 by omega))
    refine Ok.v (v_O sv) (v_isSeen sv (show c < qC (dN a.2.2.2) from hc) hq) ?_
    rintro r6 t6 ⟨rfl, sv6⟩
    have h6 := back _ sv6
    refine Ok.j1 ?_
    rw [nI_1]
    have d1 : decide (qF (dN a.2.2.2) - n ≤ k) = decide (qF (dN a.2.2.2) - n ≤ k) := rfl
    refine Ok.bI bI_0 (fun z => ?_) (fun z => ?_)
    · have z' : odH a c n k = true := by simpa [odH] using z
      refine Ok.n (hj _ _ _ ⟨?_, rfl, by omega, _, h6, fun f => sF_sF _ _ _ _⟩)
      by_cases q2 : qF (dN a.2.2.2) - n ≤ k
      · simp only [msk, decide_eq_true q2, z', Bool.and_self, if_true]; rfl
      · exact absurd hlo q2
    · have z' : odH a c n k = false := by simpa [odH] using z
      refine hj _ _ _ ⟨?_, rfl, by omega, _, h6, fun f => sF_sF _ _ _ _⟩
      simp only [msk, z', Bool.and_false]; rfl
  · rintro j x y t ⟨rfl, rfl, _, s', h3, hs'⟩
    refine Ok.r (ca_now h3.ca) (Ok.r (ca_f h3.ca 4 (by decide)) ?_)
    show Ok (bd (fJ9_min_7cf53 t 9 (nI (qF (dN a.2.2.2)) + nI n)) _) _
    rw [nI_add]
    refine Ok.cE ((f_min _ _ _).trans (congrArg (fun z => some (z, t)) (min_i (a := 9) (by omega) (by omega)))) (Ok.bT (nI_lt (by omega) (by omega)) (Ok.p ⟨fun g h1 h2 h3 => ?_, h3.ca⟩))
    rw [bt_msk _ _ (by omega) g (by omega), decide_eq_true (show g < min 9 (qF (dN a.2.2.2) + n) + 1 by omega), decide_eq_true (show qF (dN a.2.2.2) - n ≤ g by omega)]
    rfl
theorem c_odds (h : CA K dr a σ) (ok : NoLd a.2.2.2 ∨ LdOK a.2.2.2) (hu : qU (dN a.2.2.2) ≤ 9999) (v1 v2 v3 : Int32) : Ok (fX9_odds σ (K.1 0) v1 v2 v3) (fun r t => r = oddsA a v1 v2 v3 ∧ CA K dr a t) := by
  obtain ⟨h30, h4, _, _, hl, _⟩ := okC ok
  unfold fX9_odds
  refine Ok.r (ca_now h) (Ok.vE (ca_O7 h) (ca_hasCell h v1) ?_)
  rcases ixc v1 (n := qC (dN a.2.2.2)) (by omega) with ⟨e1, hn⟩ | ⟨c, hc, rfl, e1⟩
  · rw [decide_eq_false hn]
    exact Ok.bT rfl (Ok.p ⟨by simp only [oddsA, e1], h⟩)
  rw [decide_eq_true (ix_in hc (by omega))]
  refine Ok.bF (by decide) ?_
  rcases ixc v2 (n := 9) (by omega) with ⟨e2, hn⟩ | ⟨n, hn, rfl, e2⟩
  · have ee : oddsA a (nI c) v2 v3 = -1 := by simp only [oddsA, e1, e2]
    rw [ee]
    refine Ok.b (fun _ => Ok.p ⟨rfl, h⟩) (fun z => Ok.bT ?_ (Ok.p ⟨rfl, h⟩))
    have : ¬ v2 < nI 9 := fun q => hn ⟨z, q⟩
    rw [Int32.lt_iff_toInt_lt, show (nI 9).toInt = 9 from rfl] at this
    rw [Int32.lt_iff_toInt_lt, show (8 : Int32).toInt = 8 from rfl]
    omega
  refine Ok.bF (nI_pos (by omega)) (Ok.bF (show ¬ nI 8 < nI n from nI_nlt (by omega) (by omega)) ?_)
  rcases ixc v3 (n := 101) (by omega) with ⟨e3, hn3⟩ | ⟨ch, hch, rfl, e3⟩
  · have ee : oddsA a (nI c) (nI n) v3 = -1 := by simp only [oddsA, e1, e2, e3]
    rw [ee]
    refine Ok.b (fun _ => Ok.p ⟨rfl, h⟩) (fun z => Ok.bF (fun q => hn3 ⟨z, ?_⟩) (Ok.p ⟨rfl, h⟩))
    rw [Int32.le_iff_toInt_le, show (100 : Int32).toInt = 100 from rfl] at q
    rw [Int32.lt_iff_toInt_lt, show (nI 101).toInt = 101 from rfl]
    omega
  have ok := hl (by omega)
  have hF := (show ScOK (dN a.2.2.2) from ok.1.1).f
  refine Ok.bF (nI_pos (by omega)) (Ok.bT (show nI ch ≤ nI 100 from nI_le (by omega) (by decide)) (Ok.r (ca_now h) (Ok.r (ca_f h 4 (by decide)) (Ok.v (ca_O h) (c_fogs h ok hu hc (show n ≤ 8 by omega)) ?_))))
  rintro r1 t1 ⟨hb, h1⟩
  refine Ok.cE (c_parts (odH a c n) r1 (show ch ≤ 100 by omega) t1 n 12 (qF (dN a.2.2.2)) 1000000000 (by omega) (by omega) (by omega) hF (fun g g1 g2 g3 => hb g g1 g2 g3)) (Ok.p ⟨?_, h1⟩)
  rw [lN_i]
  simp only [oddsA, e1, e2, e3]
end
